/-- the words of lw_tbl that a method may hand on -/
def Tg : List Cond := lw_tbl.filter goodWord
theorem tg {w : Cond} {i : Nat} (h : tables_1[i]? = some w) (g : goodWord w = true) : w ∈ Tg := List.mem_filter.mpr ⟨List.mem_append_right _ (List.mem_of_getElem? h), g⟩
theorem tgs {w : Cond} {i : Nat} (h : (k2_sels lw_privs)[i]? = some w) (g : goodWord w = true) : w ∈ Tg := List.mem_filter.mpr ⟨List.mem_append_left _ (List.mem_of_getElem? h), g⟩
theorem tg_good : Tg.all goodWord = true := List.all_eq_true.mpr fun _ h => (List.mem_filter.mp h).2
/-- the words on nest mates -/
def isNs : Cond → Bool
  | .fieldLinkNest .. => true
  | .methodLinkNest .. => true
  | _ => false
def Tn : List Cond := lw_tbl.filter isNs
theorem tn {w : Cond} {i : Nat} (h : tables_1[i]? = some w) (g : isNs w = true) : w ∈ Tn := List.mem_filter.mpr ⟨List.mem_append_right _ (List.mem_of_getElem? h), g⟩
theorem tw_0 : (Jvm.Cond.initialized "FibreLoopsLaw") ∈ Tg := tg (i := 0) (by decide +kernel) rfl
theorem tw_1 : (Jvm.Cond.initialized "FibreLoops") ∈ Tg := tg (i := 1) (by decide +kernel) rfl
theorem tw_2 : (Jvm.Cond.initialized "FibreLoops$State") ∈ Tg := tg (i := 2) (by decide +kernel) rfl
theorem tw_3 : (Jvm.Cond.initialized "java/lang/Math") ∈ Tg := tg (i := 3) (by decide +kernel) rfl
theorem tw_4 : (Jvm.Cond.initialized "java/lang/System") ∈ Tg := tg (i := 4) (by decide +kernel) rfl
theorem tw_5 : (Jvm.Cond.initialized "FibreLoops$Ring") ∈ Tg := tg (i := 5) (by decide +kernel) rfl
theorem tw_6 : (Jvm.Cond.initialized "FibreLoops$Device") ∈ Tg := tg (i := 6) (by decide +kernel) rfl
theorem tw_7 : (Jvm.Cond.initialized "FibreLoops$Join") ∈ Tg := tg (i := 7) (by decide +kernel) rfl
theorem tw_8 : (Jvm.Cond.initialized "FibreLoops$History") ∈ Tg := tg (i := 8) (by decide +kernel) rfl
theorem tw_9 : (Jvm.Cond.initialized "FibreLoops$Pad") ∈ Tg := tg (i := 9) (by decide +kernel) rfl
theorem tw_10 : (Jvm.Cond.initialized "FibreLoops$OrderReader") ∈ Tg := tg (i := 10) (by decide +kernel) rfl
theorem tw_11 : (Jvm.Cond.initialized "FibreLoopsModel") ∈ Tg := tg (i := 11) (by decide +kernel) rfl
theorem tw_12 : (Jvm.Cond.classLink "FibreLoopsLaw" (7 : Nat) "FibreLoops") ∈ Tg := tg (i := 12) (by decide +kernel) rfl
theorem tw_13 : (Jvm.Cond.instantiable "FibreLoops" (7 : Nat)) ∈ Tg := tg (i := 13) (by decide +kernel) rfl
theorem tw_14 : (Jvm.Cond.methodLink "FibreLoopsLaw" (9 : Nat) ({ cls := "FibreLoops", name := "<init>", desc := "()V" } : Jvm.MethodName)) ∈ Tg := tg (i := 14) (by decide +kernel) rfl
theorem tw_15 : (Jvm.Cond.instanceMethod ({ cls := "FibreLoops", name := "<init>", desc := "()V" } : Jvm.MethodName)) ∈ Tg := tg (i := 15) (by decide +kernel) rfl
theorem tw_16 : (Jvm.Cond.code ({ cls := "FibreLoops", name := "<init>", desc := "()V" } : Jvm.MethodName) prog_1_method_1_code (2 : Nat) (Option.none : Option Jvm.ClassFile.FieldType)) ∈ Tg := tg (i := 16) (by decide +kernel) rfl
theorem tw_17 : (Jvm.Cond.methodLink "FibreLoops" (1 : Nat) ({ cls := "java/lang/Object", name := "<init>", desc := "()V" } : Jvm.MethodName)) ∈ Tg := tg (i := 17) (by decide +kernel) rfl
theorem tw_18 : (Jvm.Cond.instanceMethod ({ cls := "java/lang/Object", name := "<init>", desc := "()V" } : Jvm.MethodName)) ∈ Tg := tg (i := 18) (by decide +kernel) rfl
theorem tw_19 : (Jvm.Cond.code ({ cls := "java/lang/Object", name := "<init>", desc := "()V" } : Jvm.MethodName) object_method_1_code (1 : Nat) (Option.none : Option Jvm.ClassFile.FieldType)) ∈ Tg := tg (i := 19) (by decide +kernel) rfl
theorem tw_20 : (Jvm.Cond.classLink "FibreLoops" (7 : Nat) "FibreLoops$State") ∈ Tg := tg (i := 20) (by decide +kernel) rfl
theorem tw_21 : (Jvm.Cond.instantiable "FibreLoops$State" (8 : Nat)) ∈ Tg := tg (i := 21) (by decide +kernel) rfl
theorem tw_22 : (Jvm.Cond.methodLinkNest "FibreLoops" (9 : Nat) ({ cls := "FibreLoops$State", name := "<init>", desc := "()V" } : Jvm.MethodName) "FibreLoops") ∈ Tn := tn (i := 22) (by decide +kernel) rfl
theorem tw_23 : (Jvm.Cond.instanceMethod ({ cls := "FibreLoops$State", name := "<init>", desc := "()V" } : Jvm.MethodName)) ∈ Tg := tg (i := 23) (by decide +kernel) rfl
theorem tw_24 : (Jvm.Cond.code ({ cls := "FibreLoops$State", name := "<init>", desc := "()V" } : Jvm.MethodName) prog_8_method_1_code (2 : Nat) (Option.none : Option Jvm.ClassFile.FieldType)) ∈ Tg := tg (i := 24) (by decide +kernel) rfl
theorem tw_25 : (Jvm.Cond.methodLink "FibreLoops$State" (3 : Nat) ({ cls := "java/lang/Object", name := "<init>", desc := "()V" } : Jvm.MethodName)) ∈ Tg := tg (i := 25) (by decide +kernel) rfl
theorem tw_26 : (Jvm.Cond.classLink "FibreLoops$State" (15 : Nat) "FibreLoops$Ring") ∈ Tg := tg (i := 26) (by decide +kernel) rfl
theorem tw_27 : (Jvm.Cond.arrayOver (Jvm.ClassFile.FieldType.object "FibreLoops$Ring")) ∈ lw_tbl := List.mem_append_right _ (List.mem_of_getElem? (i := 27) (by decide +kernel))
theorem tw_28 : (Jvm.Cond.classLink "FibreLoops$State" (21 : Nat) "FibreLoops$Device") ∈ Tg := tg (i := 28) (by decide +kernel) rfl
theorem tw_29 : (Jvm.Cond.arrayOver (Jvm.ClassFile.FieldType.object "FibreLoops$Device")) ∈ lw_tbl := List.mem_append_right _ (List.mem_of_getElem? (i := 29) (by decide +kernel))
theorem tw_30 : (Jvm.Cond.classLink "FibreLoops$State" (27 : Nat) "FibreLoops$Join") ∈ Tg := tg (i := 30) (by decide +kernel) rfl
theorem tw_31 : (Jvm.Cond.arrayOver (Jvm.ClassFile.FieldType.object "FibreLoops$Join")) ∈ lw_tbl := List.mem_append_right _ (List.mem_of_getElem? (i := 31) (by decide +kernel))
theorem tw_32 : (Jvm.Cond.fieldLinkNest "FibreLoops$State" (33 : Nat) "FibreLoops" "FIRST_SETTING" "[I" "FibreLoops") ∈ Tn := tn (i := 32) (by decide +kernel) rfl
theorem tw_33 : (Jvm.Cond.laysStatic "FibreLoops" "FIRST_SETTING" "[I") ∈ lw_tbl := List.mem_append_right _ (List.mem_of_getElem? (i := 33) (by decide +kernel))
theorem tw_34 : (Jvm.Cond.methodLinkNest "FibreLoops$State" (36 : Nat) ({ cls := "FibreLoops", name := "copyRow", desc := "([I[I)V" } : Jvm.MethodName) "FibreLoops") ∈ Tn := tn (i := 34) (by decide +kernel) rfl
theorem tw_35 : (Jvm.Cond.static ({ cls := "FibreLoops", name := "copyRow", desc := "([I[I)V" } : Jvm.MethodName)) ∈ Tg := tg (i := 35) (by decide +kernel) rfl
theorem tw_36 : (Jvm.Cond.code ({ cls := "FibreLoops", name := "copyRow", desc := "([I[I)V" } : Jvm.MethodName) prog_1_method_37_code (2 : Nat) (Option.none : Option Jvm.ClassFile.FieldType)) ∈ Tg := tg (i := 36) (by decide +kernel) rfl
theorem tw_37 : (Jvm.Cond.methodLink "FibreLoops" (281 : Nat) ({ cls := "java/lang/Math", name := "min", desc := "(II)I" } : Jvm.MethodName)) ∈ Tg := tg (i := 37) (by decide +kernel) rfl
theorem tw_38 : (Jvm.Cond.static ({ cls := "java/lang/Math", name := "min", desc := "(II)I" } : Jvm.MethodName)) ∈ Tg := tg (i := 38) (by decide +kernel) rfl
theorem tw_39 : (Jvm.Cond.code ({ cls := "java/lang/Math", name := "min", desc := "(II)I" } : Jvm.MethodName) prog_11_method_69_code (2 : Nat) (Option.some Jvm.ClassFile.FieldType.int)) ∈ Tg := tg (i := 39) (by decide +kernel) rfl
theorem tw_40 : (Jvm.Cond.methodLink "FibreLoops" (286 : Nat) ({ cls := "java/lang/System", name := "arraycopy", desc := "(Ljava/lang/Object;ILjava/lang/Object;II)V" } : Jvm.MethodName)) ∈ Tg := tg (i := 40) (by decide +kernel) rfl
theorem tw_41 : (Jvm.Cond.static ({ cls := "java/lang/System", name := "arraycopy", desc := "(Ljava/lang/Object;ILjava/lang/Object;II)V" } : Jvm.MethodName)) ∈ Tg := tg (i := 41) (by decide +kernel) rfl
theorem tw_42 : (Jvm.Cond.native ({ cls := "java/lang/System", name := "arraycopy", desc := "(Ljava/lang/Object;ILjava/lang/Object;II)V" } : Jvm.MethodName)) ∈ Tg := tg (i := 42) (by decide +kernel) rfl
theorem tw_43 : (Jvm.Cond.instantiable "FibreLoops$Ring" (5 : Nat)) ∈ Tg := tg (i := 43) (by decide +kernel) rfl
theorem tw_44 : (Jvm.Cond.methodLinkNest "FibreLoops$State" (40 : Nat) ({ cls := "FibreLoops$Ring", name := "<init>", desc := "()V" } : Jvm.MethodName) "FibreLoops") ∈ Tn := tn (i := 44) (by decide +kernel) rfl
theorem tw_45 : (Jvm.Cond.instanceMethod ({ cls := "FibreLoops$Ring", name := "<init>", desc := "()V" } : Jvm.MethodName)) ∈ Tg := tg (i := 45) (by decide +kernel) rfl
theorem tw_46 : (Jvm.Cond.code ({ cls := "FibreLoops$Ring", name := "<init>", desc := "()V" } : Jvm.MethodName) prog_7_method_1_code (1 : Nat) (Option.none : Option Jvm.ClassFile.FieldType)) ∈ Tg := tg (i := 46) (by decide +kernel) rfl
theorem tw_47 : (Jvm.Cond.methodLink "FibreLoops$Ring" (3 : Nat) ({ cls := "java/lang/Object", name := "<init>", desc := "()V" } : Jvm.MethodName)) ∈ Tg := tg (i := 47) (by decide +kernel) rfl
theorem tw_48 : (Jvm.Cond.fieldLink "FibreLoops$Ring" (24 : Nat) "FibreLoops$Ring" "places" "I") ∈ Tg := tg (i := 48) (by decide +kernel) rfl
theorem tw_49 : (Jvm.Cond.fieldLinkNest "FibreLoops" (105 : Nat) "FibreLoops$Ring" "places" "I" "FibreLoops") ∈ Tn := tn (i := 49) (by decide +kernel) rfl
theorem tw_50 : (Jvm.Cond.fieldLink "FibreLoops$Ring" (9 : Nat) "FibreLoops$Ring" "values" "[I") ∈ Tg := tg (i := 50) (by decide +kernel) rfl
theorem tw_51 : (Jvm.Cond.fieldLink "FibreLoops$Ring" (15 : Nat) "FibreLoops$Ring" "strengths" "[I") ∈ Tg := tg (i := 51) (by decide +kernel) rfl
theorem tw_52 : (Jvm.Cond.fieldLink "FibreLoops$Ring" (18 : Nat) "FibreLoops$Ring" "births" "[I") ∈ Tg := tg (i := 52) (by decide +kernel) rfl
theorem tw_53 : (Jvm.Cond.fieldLink "FibreLoops$Ring" (21 : Nat) "FibreLoops$Ring" "tallies" "[I") ∈ Tg := tg (i := 53) (by decide +kernel) rfl
theorem tw_54 : (Jvm.Cond.lays "FibreLoops$Ring" "FibreLoops$Ring" "places" "I") ∈ Tg := tg (i := 54) (by decide +kernel) rfl
theorem tw_56 : (Jvm.Cond.laysFinal "FibreLoops$Ring" "FibreLoops$Ring" "values" "[I") ∈ Tg := tg (i := 56) (by decide +kernel) rfl
theorem tw_58 : (Jvm.Cond.laysFinal "FibreLoops$Ring" "FibreLoops$Ring" "strengths" "[I") ∈ Tg := tg (i := 58) (by decide +kernel) rfl
theorem tw_60 : (Jvm.Cond.laysFinal "FibreLoops$Ring" "FibreLoops$Ring" "births" "[I") ∈ Tg := tg (i := 60) (by decide +kernel) rfl
theorem tw_62 : (Jvm.Cond.laysFinal "FibreLoops$Ring" "FibreLoops$Ring" "tallies" "[I") ∈ Tg := tg (i := 62) (by decide +kernel) rfl
theorem tw_65 : (Jvm.Cond.arrayClass Jvm.ClassFile.FieldType.int) ∈ Tg := tg (i := 65) (by decide +kernel) rfl
theorem tw_66 : (Jvm.Cond.instantiable "FibreLoops$Device" (9 : Nat)) ∈ Tg := tg (i := 66) (by decide +kernel) rfl
theorem tw_67 : (Jvm.Cond.methodLinkNest "FibreLoops$State" (41 : Nat) ({ cls := "FibreLoops$Device", name := "<init>", desc := "()V" } : Jvm.MethodName) "FibreLoops") ∈ Tn := tn (i := 67) (by decide +kernel) rfl
theorem tw_68 : (Jvm.Cond.instanceMethod ({ cls := "FibreLoops$Device", name := "<init>", desc := "()V" } : Jvm.MethodName)) ∈ Tg := tg (i := 68) (by decide +kernel) rfl
theorem tw_69 : (Jvm.Cond.code ({ cls := "FibreLoops$Device", name := "<init>", desc := "()V" } : Jvm.MethodName) prog_2_method_1_code (1 : Nat) (Option.none : Option Jvm.ClassFile.FieldType)) ∈ Tg := tg (i := 69) (by decide +kernel) rfl
theorem tw_70 : (Jvm.Cond.methodLink "FibreLoops$Device" (3 : Nat) ({ cls := "java/lang/Object", name := "<init>", desc := "()V" } : Jvm.MethodName)) ∈ Tg := tg (i := 70) (by decide +kernel) rfl
theorem tw_71 : (Jvm.Cond.fieldLink "FibreLoops$Device" (22 : Nat) "FibreLoops$Device" "kind" "I") ∈ Tg := tg (i := 71) (by decide +kernel) rfl
theorem tw_72 : (Jvm.Cond.fieldLinkNest "FibreLoops" (129 : Nat) "FibreLoops$Device" "kind" "I" "FibreLoops") ∈ Tn := tn (i := 72) (by decide +kernel) rfl
theorem tw_73 : (Jvm.Cond.fieldLinkNest "FibreLoops$State" (112 : Nat) "FibreLoops$Device" "kind" "I" "FibreLoops") ∈ Tn := tn (i := 73) (by decide +kernel) rfl
theorem tw_74 : (Jvm.Cond.fieldLink "FibreLoops$Device" (15 : Nat) "FibreLoops$Device" "ring" "I") ∈ Tg := tg (i := 74) (by decide +kernel) rfl
theorem tw_75 : (Jvm.Cond.fieldLinkNest "FibreLoops" (134 : Nat) "FibreLoops$Device" "ring" "I" "FibreLoops") ∈ Tn := tn (i := 75) (by decide +kernel) rfl
theorem tw_76 : (Jvm.Cond.fieldLinkNest "FibreLoops$State" (147 : Nat) "FibreLoops$Device" "ring" "I" "FibreLoops") ∈ Tn := tn (i := 76) (by decide +kernel) rfl
theorem tw_77 : (Jvm.Cond.fieldLink "FibreLoops$Device" (19 : Nat) "FibreLoops$Device" "place" "I") ∈ Tg := tg (i := 77) (by decide +kernel) rfl
theorem tw_78 : (Jvm.Cond.fieldLinkNest "FibreLoops" (137 : Nat) "FibreLoops$Device" "place" "I" "FibreLoops") ∈ Tn := tn (i := 78) (by decide +kernel) rfl
theorem tw_79 : (Jvm.Cond.fieldLink "FibreLoops$Device" (25 : Nat) "FibreLoops$Device" "one" "I") ∈ Tg := tg (i := 79) (by decide +kernel) rfl
theorem tw_80 : (Jvm.Cond.fieldLinkNest "FibreLoops" (140 : Nat) "FibreLoops$Device" "one" "I" "FibreLoops") ∈ Tn := tn (i := 80) (by decide +kernel) rfl
theorem tw_81 : (Jvm.Cond.fieldLink "FibreLoops$Device" (28 : Nat) "FibreLoops$Device" "two" "I") ∈ Tg := tg (i := 81) (by decide +kernel) rfl
theorem tw_82 : (Jvm.Cond.fieldLinkNest "FibreLoops" (143 : Nat) "FibreLoops$Device" "two" "I" "FibreLoops") ∈ Tn := tn (i := 82) (by decide +kernel) rfl
theorem tw_83 : (Jvm.Cond.fieldLink "FibreLoops$Device" (31 : Nat) "FibreLoops$Device" "store" "I") ∈ Tg := tg (i := 83) (by decide +kernel) rfl
theorem tw_84 : (Jvm.Cond.fieldLinkNest "FibreLoops" (146 : Nat) "FibreLoops$Device" "store" "I" "FibreLoops") ∈ Tn := tn (i := 84) (by decide +kernel) rfl
theorem tw_85 : (Jvm.Cond.fieldLink "FibreLoops$Device" (34 : Nat) "FibreLoops$Device" "acts" "I") ∈ Tg := tg (i := 85) (by decide +kernel) rfl
theorem tw_86 : (Jvm.Cond.fieldLinkNest "FibreLoops" (152 : Nat) "FibreLoops$Device" "acts" "I" "FibreLoops") ∈ Tn := tn (i := 86) (by decide +kernel) rfl
theorem tw_87 : (Jvm.Cond.fieldLink "FibreLoops$Device" (9 : Nat) "FibreLoops$Device" "row" "[I") ∈ Tg := tg (i := 87) (by decide +kernel) rfl
theorem tw_88 : (Jvm.Cond.fieldLink "FibreLoops$Device" (37 : Nat) "FibreLoops$Device" "kept" "I") ∈ Tg := tg (i := 88) (by decide +kernel) rfl
theorem tw_89 : (Jvm.Cond.fieldLinkNest "FibreLoops" (149 : Nat) "FibreLoops$Device" "kept" "I" "FibreLoops") ∈ Tn := tn (i := 89) (by decide +kernel) rfl
theorem tw_90 : (Jvm.Cond.fieldLinkNest "FibreLoops$State" (118 : Nat) "FibreLoops$Device" "kept" "I" "FibreLoops") ∈ Tn := tn (i := 90) (by decide +kernel) rfl
theorem tw_91 : (Jvm.Cond.lays "FibreLoops$Device" "FibreLoops$Device" "kind" "I") ∈ Tg := tg (i := 91) (by decide +kernel) rfl
theorem tw_93 : (Jvm.Cond.lays "FibreLoops$Device" "FibreLoops$Device" "ring" "I") ∈ Tg := tg (i := 93) (by decide +kernel) rfl
theorem tw_95 : (Jvm.Cond.lays "FibreLoops$Device" "FibreLoops$Device" "place" "I") ∈ Tg := tg (i := 95) (by decide +kernel) rfl
theorem tw_97 : (Jvm.Cond.lays "FibreLoops$Device" "FibreLoops$Device" "one" "I") ∈ Tg := tg (i := 97) (by decide +kernel) rfl
theorem tw_99 : (Jvm.Cond.lays "FibreLoops$Device" "FibreLoops$Device" "two" "I") ∈ Tg := tg (i := 99) (by decide +kernel) rfl
theorem tw_101 : (Jvm.Cond.lays "FibreLoops$Device" "FibreLoops$Device" "store" "I") ∈ Tg := tg (i := 101) (by decide +kernel) rfl
theorem tw_103 : (Jvm.Cond.lays "FibreLoops$Device" "FibreLoops$Device" "acts" "I") ∈ Tg := tg (i := 103) (by decide +kernel) rfl
theorem tw_105 : (Jvm.Cond.laysFinal "FibreLoops$Device" "FibreLoops$Device" "row" "[I") ∈ Tg := tg (i := 105) (by decide +kernel) rfl
theorem tw_107 : (Jvm.Cond.lays "FibreLoops$Device" "FibreLoops$Device" "kept" "I") ∈ Tg := tg (i := 107) (by decide +kernel) rfl
theorem tw_110 : (Jvm.Cond.instantiable "FibreLoops$Join" (6 : Nat)) ∈ Tg := tg (i := 110) (by decide +kernel) rfl
theorem tw_111 : (Jvm.Cond.methodLinkNest "FibreLoops$State" (42 : Nat) ({ cls := "FibreLoops$Join", name := "<init>", desc := "()V" } : Jvm.MethodName) "FibreLoops") ∈ Tn := tn (i := 111) (by decide +kernel) rfl
theorem tw_112 : (Jvm.Cond.instanceMethod ({ cls := "FibreLoops$Join", name := "<init>", desc := "()V" } : Jvm.MethodName)) ∈ Tg := tg (i := 112) (by decide +kernel) rfl
theorem tw_113 : (Jvm.Cond.code ({ cls := "FibreLoops$Join", name := "<init>", desc := "()V" } : Jvm.MethodName) prog_4_method_1_code (1 : Nat) (Option.none : Option Jvm.ClassFile.FieldType)) ∈ Tg := tg (i := 113) (by decide +kernel) rfl
theorem tw_114 : (Jvm.Cond.methodLink "FibreLoops$Join" (3 : Nat) ({ cls := "java/lang/Object", name := "<init>", desc := "()V" } : Jvm.MethodName)) ∈ Tg := tg (i := 114) (by decide +kernel) rfl
theorem tw_115 : (Jvm.Cond.fieldLink "FibreLoops$Join" (9 : Nat) "FibreLoops$Join" "nearRing" "I") ∈ Tg := tg (i := 115) (by decide +kernel) rfl
theorem tw_116 : (Jvm.Cond.fieldLinkNest "FibreLoops" (162 : Nat) "FibreLoops$Join" "nearRing" "I" "FibreLoops") ∈ Tn := tn (i := 116) (by decide +kernel) rfl
theorem tw_117 : (Jvm.Cond.fieldLinkNest "FibreLoops$State" (154 : Nat) "FibreLoops$Join" "nearRing" "I" "FibreLoops") ∈ Tn := tn (i := 117) (by decide +kernel) rfl
theorem tw_118 : (Jvm.Cond.fieldLink "FibreLoops$Join" (15 : Nat) "FibreLoops$Join" "nearPlace" "I") ∈ Tg := tg (i := 118) (by decide +kernel) rfl
theorem tw_119 : (Jvm.Cond.fieldLinkNest "FibreLoops" (167 : Nat) "FibreLoops$Join" "nearPlace" "I" "FibreLoops") ∈ Tn := tn (i := 119) (by decide +kernel) rfl
theorem tw_120 : (Jvm.Cond.fieldLink "FibreLoops$Join" (18 : Nat) "FibreLoops$Join" "farRing" "I") ∈ Tg := tg (i := 120) (by decide +kernel) rfl
theorem tw_121 : (Jvm.Cond.fieldLinkNest "FibreLoops" (170 : Nat) "FibreLoops$Join" "farRing" "I" "FibreLoops") ∈ Tn := tn (i := 121) (by decide +kernel) rfl
theorem tw_122 : (Jvm.Cond.fieldLinkNest "FibreLoops$State" (157 : Nat) "FibreLoops$Join" "farRing" "I" "FibreLoops") ∈ Tn := tn (i := 122) (by decide +kernel) rfl
theorem tw_123 : (Jvm.Cond.fieldLink "FibreLoops$Join" (21 : Nat) "FibreLoops$Join" "farPlace" "I") ∈ Tg := tg (i := 123) (by decide +kernel) rfl
theorem tw_124 : (Jvm.Cond.fieldLinkNest "FibreLoops" (173 : Nat) "FibreLoops$Join" "farPlace" "I" "FibreLoops") ∈ Tn := tn (i := 124) (by decide +kernel) rfl
theorem tw_125 : (Jvm.Cond.fieldLink "FibreLoops$Join" (24 : Nat) "FibreLoops$Join" "mode" "I") ∈ Tg := tg (i := 125) (by decide +kernel) rfl
theorem tw_126 : (Jvm.Cond.fieldLinkNest "FibreLoops$State" (105 : Nat) "FibreLoops$Join" "mode" "I" "FibreLoops") ∈ Tn := tn (i := 126) (by decide +kernel) rfl
theorem tw_127 : (Jvm.Cond.fieldLinkNest "FibreLoops" (176 : Nat) "FibreLoops$Join" "mode" "I" "FibreLoops") ∈ Tn := tn (i := 127) (by decide +kernel) rfl
theorem tw_128 : (Jvm.Cond.fieldLink "FibreLoops$Join" (27 : Nat) "FibreLoops$Join" "passed" "I") ∈ Tg := tg (i := 128) (by decide +kernel) rfl
theorem tw_129 : (Jvm.Cond.fieldLinkNest "FibreLoops" (179 : Nat) "FibreLoops$Join" "passed" "I" "FibreLoops") ∈ Tn := tn (i := 129) (by decide +kernel) rfl
theorem tw_130 : (Jvm.Cond.lays "FibreLoops$Join" "FibreLoops$Join" "nearRing" "I") ∈ Tg := tg (i := 130) (by decide +kernel) rfl
theorem tw_132 : (Jvm.Cond.lays "FibreLoops$Join" "FibreLoops$Join" "nearPlace" "I") ∈ Tg := tg (i := 132) (by decide +kernel) rfl
theorem tw_134 : (Jvm.Cond.lays "FibreLoops$Join" "FibreLoops$Join" "farRing" "I") ∈ Tg := tg (i := 134) (by decide +kernel) rfl
theorem tw_136 : (Jvm.Cond.lays "FibreLoops$Join" "FibreLoops$Join" "farPlace" "I") ∈ Tg := tg (i := 136) (by decide +kernel) rfl
theorem tw_138 : (Jvm.Cond.lays "FibreLoops$Join" "FibreLoops$Join" "mode" "I") ∈ Tg := tg (i := 138) (by decide +kernel) rfl
theorem tw_140 : (Jvm.Cond.lays "FibreLoops$Join" "FibreLoops$Join" "passed" "I") ∈ Tg := tg (i := 140) (by decide +kernel) rfl
theorem tw_143 : (Jvm.Cond.fieldLink "FibreLoops$State" (9 : Nat) "FibreLoops$State" "settings" "[I") ∈ Tg := tg (i := 143) (by decide +kernel) rfl
theorem tw_144 : (Jvm.Cond.fieldLink "FibreLoops$State" (17 : Nat) "FibreLoops$State" "rings" "[LFibreLoops$Ring;") ∈ Tg := tg (i := 144) (by decide +kernel) rfl
theorem tw_145 : (Jvm.Cond.fieldLink "FibreLoops$State" (23 : Nat) "FibreLoops$State" "devices" "[LFibreLoops$Device;") ∈ Tg := tg (i := 145) (by decide +kernel) rfl
theorem tw_146 : (Jvm.Cond.fieldLink "FibreLoops$State" (29 : Nat) "FibreLoops$State" "joins" "[LFibreLoops$Join;") ∈ Tg := tg (i := 146) (by decide +kernel) rfl
theorem tw_147 : (Jvm.Cond.fieldLink "FibreLoops$State" (43 : Nat) "FibreLoops$State" "tick" "I") ∈ Tg := tg (i := 147) (by decide +kernel) rfl
theorem tw_148 : (Jvm.Cond.fieldLinkNest "FibreLoops$Device" (64 : Nat) "FibreLoops$State" "tick" "I" "FibreLoops") ∈ Tn := tn (i := 148) (by decide +kernel) rfl
theorem tw_149 : (Jvm.Cond.fieldLinkNest "FibreLoops" (98 : Nat) "FibreLoops$State" "tick" "I" "FibreLoops") ∈ Tn := tn (i := 149) (by decide +kernel) rfl
theorem tw_150 : (Jvm.Cond.fieldLink "FibreLoops$State" (47 : Nat) "FibreLoops$State" "ringCount" "I") ∈ Tg := tg (i := 150) (by decide +kernel) rfl
theorem tw_151 : (Jvm.Cond.fieldLinkNest "FibreLoops" (190 : Nat) "FibreLoops$State" "ringCount" "I" "FibreLoops") ∈ Tn := tn (i := 151) (by decide +kernel) rfl
theorem tw_152 : (Jvm.Cond.fieldLink "FibreLoops$State" (50 : Nat) "FibreLoops$State" "deviceCount" "I") ∈ Tg := tg (i := 152) (by decide +kernel) rfl
theorem tw_153 : (Jvm.Cond.fieldLinkNest "FibreLoops" (193 : Nat) "FibreLoops$State" "deviceCount" "I" "FibreLoops") ∈ Tn := tn (i := 153) (by decide +kernel) rfl
theorem tw_154 : (Jvm.Cond.fieldLink "FibreLoops$State" (53 : Nat) "FibreLoops$State" "joinCount" "I") ∈ Tg := tg (i := 154) (by decide +kernel) rfl
theorem tw_155 : (Jvm.Cond.fieldLinkNest "FibreLoops" (196 : Nat) "FibreLoops$State" "joinCount" "I" "FibreLoops") ∈ Tn := tn (i := 155) (by decide +kernel) rfl
theorem tw_156 : (Jvm.Cond.laysFinal "FibreLoops$State" "FibreLoops$State" "settings" "[I") ∈ Tg := tg (i := 156) (by decide +kernel) rfl
theorem tw_158 : (Jvm.Cond.laysFinal "FibreLoops$State" "FibreLoops$State" "rings" "[LFibreLoops$Ring;") ∈ Tg := tg (i := 158) (by decide +kernel) rfl
theorem tw_160 : (Jvm.Cond.laysFinal "FibreLoops$State" "FibreLoops$State" "devices" "[LFibreLoops$Device;") ∈ Tg := tg (i := 160) (by decide +kernel) rfl
theorem tw_162 : (Jvm.Cond.laysFinal "FibreLoops$State" "FibreLoops$State" "joins" "[LFibreLoops$Join;") ∈ Tg := tg (i := 162) (by decide +kernel) rfl
theorem tw_164 : (Jvm.Cond.lays "FibreLoops$State" "FibreLoops$State" "tick" "I") ∈ Tg := tg (i := 164) (by decide +kernel) rfl
theorem tw_166 : (Jvm.Cond.lays "FibreLoops$State" "FibreLoops$State" "ringCount" "I") ∈ Tg := tg (i := 166) (by decide +kernel) rfl
theorem tw_168 : (Jvm.Cond.lays "FibreLoops$State" "FibreLoops$State" "deviceCount" "I") ∈ Tg := tg (i := 168) (by decide +kernel) rfl
theorem tw_170 : (Jvm.Cond.lays "FibreLoops$State" "FibreLoops$State" "joinCount" "I") ∈ Tg := tg (i := 170) (by decide +kernel) rfl
theorem tw_173 : (Jvm.Cond.classLink "FibreLoops" (19 : Nat) "FibreLoops$History") ∈ Tg := tg (i := 173) (by decide +kernel) rfl
theorem tw_174 : (Jvm.Cond.instantiable "FibreLoops$History" (2 : Nat)) ∈ Tg := tg (i := 174) (by decide +kernel) rfl
theorem tw_175 : (Jvm.Cond.methodLinkNest "FibreLoops" (21 : Nat) ({ cls := "FibreLoops$History", name := "<init>", desc := "()V" } : Jvm.MethodName) "FibreLoops") ∈ Tn := tn (i := 175) (by decide +kernel) rfl
theorem tw_176 : (Jvm.Cond.instanceMethod ({ cls := "FibreLoops$History", name := "<init>", desc := "()V" } : Jvm.MethodName)) ∈ Tg := tg (i := 176) (by decide +kernel) rfl
theorem tw_177 : (Jvm.Cond.code ({ cls := "FibreLoops$History", name := "<init>", desc := "()V" } : Jvm.MethodName) prog_3_method_1_code (2 : Nat) (Option.none : Option Jvm.ClassFile.FieldType)) ∈ Tg := tg (i := 177) (by decide +kernel) rfl
theorem tw_178 : (Jvm.Cond.methodLink "FibreLoops$History" (3 : Nat) ({ cls := "java/lang/Object", name := "<init>", desc := "()V" } : Jvm.MethodName)) ∈ Tg := tg (i := 178) (by decide +kernel) rfl
theorem tw_179 : (Jvm.Cond.classLink "FibreLoops$History" (9 : Nat) "FibreLoops$State") ∈ Tg := tg (i := 179) (by decide +kernel) rfl
theorem tw_180 : (Jvm.Cond.arrayOver (Jvm.ClassFile.FieldType.object "FibreLoops$State")) ∈ lw_tbl := List.mem_append_right _ (List.mem_of_getElem? (i := 180) (by decide +kernel))
theorem tw_181 : (Jvm.Cond.methodLinkNest "FibreLoops$History" (17 : Nat) ({ cls := "FibreLoops$State", name := "<init>", desc := "()V" } : Jvm.MethodName) "FibreLoops") ∈ Tn := tn (i := 181) (by decide +kernel) rfl
theorem tw_182 : (Jvm.Cond.fieldLink "FibreLoops$History" (11 : Nat) "FibreLoops$History" "states" "[LFibreLoops$State;") ∈ Tg := tg (i := 182) (by decide +kernel) rfl
theorem tw_183 : (Jvm.Cond.fieldLink "FibreLoops$History" (18 : Nat) "FibreLoops$History" "size" "I") ∈ Tg := tg (i := 183) (by decide +kernel) rfl
theorem tw_184 : (Jvm.Cond.fieldLinkNest "FibreLoops" (211 : Nat) "FibreLoops$History" "size" "I" "FibreLoops") ∈ Tn := tn (i := 184) (by decide +kernel) rfl
theorem tw_185 : (Jvm.Cond.laysFinal "FibreLoops$History" "FibreLoops$History" "states" "[LFibreLoops$State;") ∈ Tg := tg (i := 185) (by decide +kernel) rfl
theorem tw_187 : (Jvm.Cond.lays "FibreLoops$History" "FibreLoops$History" "size" "I") ∈ Tg := tg (i := 187) (by decide +kernel) rfl
theorem tw_190 : (Jvm.Cond.classLink "FibreLoops" (34 : Nat) "FibreLoops$Pad") ∈ Tg := tg (i := 190) (by decide +kernel) rfl
theorem tw_191 : (Jvm.Cond.instantiable "FibreLoops$Pad" (2 : Nat)) ∈ Tg := tg (i := 191) (by decide +kernel) rfl
theorem tw_192 : (Jvm.Cond.methodLinkNest "FibreLoops" (36 : Nat) ({ cls := "FibreLoops$Pad", name := "<init>", desc := "()V" } : Jvm.MethodName) "FibreLoops") ∈ Tn := tn (i := 192) (by decide +kernel) rfl
theorem tw_193 : (Jvm.Cond.instanceMethod ({ cls := "FibreLoops$Pad", name := "<init>", desc := "()V" } : Jvm.MethodName)) ∈ Tg := tg (i := 193) (by decide +kernel) rfl
theorem tw_194 : (Jvm.Cond.code ({ cls := "FibreLoops$Pad", name := "<init>", desc := "()V" } : Jvm.MethodName) prog_6_method_1_code (1 : Nat) (Option.none : Option Jvm.ClassFile.FieldType)) ∈ Tg := tg (i := 194) (by decide +kernel) rfl
theorem tw_195 : (Jvm.Cond.methodLink "FibreLoops$Pad" (3 : Nat) ({ cls := "java/lang/Object", name := "<init>", desc := "()V" } : Jvm.MethodName)) ∈ Tg := tg (i := 195) (by decide +kernel) rfl
theorem tw_196 : (Jvm.Cond.fieldLink "FibreLoops$Pad" (9 : Nat) "FibreLoops$Pad" "signs" "[C") ∈ Tg := tg (i := 196) (by decide +kernel) rfl
theorem tw_197 : (Jvm.Cond.fieldLink "FibreLoops$Pad" (15 : Nat) "FibreLoops$Pad" "length" "I") ∈ Tg := tg (i := 197) (by decide +kernel) rfl
theorem tw_198 : (Jvm.Cond.fieldLinkNest "FibreLoops$OrderReader" (33 : Nat) "FibreLoops$Pad" "length" "I" "FibreLoops") ∈ Tn := tn (i := 198) (by decide +kernel) rfl
theorem tw_199 : (Jvm.Cond.fieldLinkNest "FibreLoops" (208 : Nat) "FibreLoops$Pad" "length" "I" "FibreLoops") ∈ Tn := tn (i := 199) (by decide +kernel) rfl
theorem tw_200 : (Jvm.Cond.laysFinal "FibreLoops$Pad" "FibreLoops$Pad" "signs" "[C") ∈ Tg := tg (i := 200) (by decide +kernel) rfl
theorem tw_202 : (Jvm.Cond.lays "FibreLoops$Pad" "FibreLoops$Pad" "length" "I") ∈ Tg := tg (i := 202) (by decide +kernel) rfl
theorem tw_205 : (Jvm.Cond.arrayClass Jvm.ClassFile.FieldType.boolean) ∈ Tg := tg (i := 205) (by decide +kernel) rfl
theorem tw_206 : (Jvm.Cond.arrayClass Jvm.ClassFile.FieldType.char) ∈ Tg := tg (i := 206) (by decide +kernel) rfl
theorem tw_207 : (Jvm.Cond.classLink "FibreLoops" (41 : Nat) "FibreLoops$OrderReader") ∈ Tg := tg (i := 207) (by decide +kernel) rfl
theorem tw_208 : (Jvm.Cond.instantiable "FibreLoops$OrderReader" (5 : Nat)) ∈ Tg := tg (i := 208) (by decide +kernel) rfl
theorem tw_209 : (Jvm.Cond.methodLinkNest "FibreLoops" (43 : Nat) ({ cls := "FibreLoops$OrderReader", name := "<init>", desc := "(LFibreLoops$Pad;)V" } : Jvm.MethodName) "FibreLoops") ∈ Tn := tn (i := 209) (by decide +kernel) rfl
theorem tw_210 : (Jvm.Cond.instanceMethod ({ cls := "FibreLoops$OrderReader", name := "<init>", desc := "(LFibreLoops$Pad;)V" } : Jvm.MethodName)) ∈ Tg := tg (i := 210) (by decide +kernel) rfl
theorem tw_211 : (Jvm.Cond.code ({ cls := "FibreLoops$OrderReader", name := "<init>", desc := "(LFibreLoops$Pad;)V" } : Jvm.MethodName) prog_5_method_1_code (2 : Nat) (Option.none : Option Jvm.ClassFile.FieldType)) ∈ Tg := tg (i := 211) (by decide +kernel) rfl
theorem tw_212 : (Jvm.Cond.methodLink "FibreLoops$OrderReader" (3 : Nat) ({ cls := "java/lang/Object", name := "<init>", desc := "()V" } : Jvm.MethodName)) ∈ Tg := tg (i := 212) (by decide +kernel) rfl
theorem tw_213 : (Jvm.Cond.fieldLink "FibreLoops$OrderReader" (15 : Nat) "FibreLoops$OrderReader" "pad" "LFibreLoops$Pad;") ∈ Tg := tg (i := 213) (by decide +kernel) rfl
theorem tw_214 : (Jvm.Cond.fieldLink "FibreLoops$OrderReader" (19 : Nat) "FibreLoops$OrderReader" "next" "I") ∈ Tg := tg (i := 214) (by decide +kernel) rfl
theorem tw_215 : (Jvm.Cond.fieldLink "FibreLoops$OrderReader" (46 : Nat) "FibreLoops$OrderReader" "letter" "C") ∈ Tg := tg (i := 215) (by decide +kernel) rfl
theorem tw_216 : (Jvm.Cond.fieldLinkNest "FibreLoops" (261 : Nat) "FibreLoops$OrderReader" "letter" "C" "FibreLoops") ∈ Tn := tn (i := 216) (by decide +kernel) rfl
theorem tw_217 : (Jvm.Cond.fieldLink "FibreLoops$OrderReader" (9 : Nat) "FibreLoops$OrderReader" "numbers" "[I") ∈ Tg := tg (i := 217) (by decide +kernel) rfl
theorem tw_218 : (Jvm.Cond.fieldLink "FibreLoops$OrderReader" (23 : Nat) "FibreLoops$OrderReader" "numberCount" "I") ∈ Tg := tg (i := 218) (by decide +kernel) rfl
theorem tw_219 : (Jvm.Cond.fieldLinkNest "FibreLoops" (268 : Nat) "FibreLoops$OrderReader" "numberCount" "I" "FibreLoops") ∈ Tn := tn (i := 219) (by decide +kernel) rfl
theorem tw_220 : (Jvm.Cond.laysFinal "FibreLoops$OrderReader" "FibreLoops$OrderReader" "pad" "LFibreLoops$Pad;") ∈ Tg := tg (i := 220) (by decide +kernel) rfl
theorem tw_222 : (Jvm.Cond.lays "FibreLoops$OrderReader" "FibreLoops$OrderReader" "next" "I") ∈ Tg := tg (i := 222) (by decide +kernel) rfl
theorem tw_224 : (Jvm.Cond.lays "FibreLoops$OrderReader" "FibreLoops$OrderReader" "letter" "C") ∈ Tg := tg (i := 224) (by decide +kernel) rfl
theorem tw_226 : (Jvm.Cond.laysFinal "FibreLoops$OrderReader" "FibreLoops$OrderReader" "numbers" "[I") ∈ Tg := tg (i := 226) (by decide +kernel) rfl
theorem tw_228 : (Jvm.Cond.lays "FibreLoops$OrderReader" "FibreLoops$OrderReader" "numberCount" "I") ∈ Tg := tg (i := 228) (by decide +kernel) rfl
theorem tw_231 : (Jvm.Cond.fieldLink "FibreLoops" (10 : Nat) "FibreLoops" "now" "LFibreLoops$State;") ∈ Tg := tg (i := 231) (by decide +kernel) rfl
theorem tw_232 : (Jvm.Cond.fieldLink "FibreLoops" (16 : Nat) "FibreLoops" "trial" "LFibreLoops$State;") ∈ Tg := tg (i := 232) (by decide +kernel) rfl
theorem tw_233 : (Jvm.Cond.fieldLink "FibreLoops" (22 : Nat) "FibreLoops" "history" "LFibreLoops$History;") ∈ Tg := tg (i := 233) (by decide +kernel) rfl
theorem tw_234 : (Jvm.Cond.fieldLink "FibreLoops" (26 : Nat) "FibreLoops" "slots" "[LFibreLoops$State;") ∈ Tg := tg (i := 234) (by decide +kernel) rfl
theorem tw_235 : (Jvm.Cond.fieldLink "FibreLoops" (30 : Nat) "FibreLoops" "filled" "[Z") ∈ Tg := tg (i := 235) (by decide +kernel) rfl
theorem tw_236 : (Jvm.Cond.fieldLink "FibreLoops" (37 : Nat) "FibreLoops" "pad" "LFibreLoops$Pad;") ∈ Tg := tg (i := 236) (by decide +kernel) rfl
theorem tw_237 : (Jvm.Cond.fieldLink "FibreLoops" (46 : Nat) "FibreLoops" "orders" "LFibreLoops$OrderReader;") ∈ Tg := tg (i := 237) (by decide +kernel) rfl
theorem tw_238 : (Jvm.Cond.laysFinal "FibreLoops" "FibreLoops" "now" "LFibreLoops$State;") ∈ Tg := tg (i := 238) (by decide +kernel) rfl
theorem tw_240 : (Jvm.Cond.laysFinal "FibreLoops" "FibreLoops" "trial" "LFibreLoops$State;") ∈ Tg := tg (i := 240) (by decide +kernel) rfl
theorem tw_242 : (Jvm.Cond.laysFinal "FibreLoops" "FibreLoops" "history" "LFibreLoops$History;") ∈ Tg := tg (i := 242) (by decide +kernel) rfl
theorem tw_244 : (Jvm.Cond.laysFinal "FibreLoops" "FibreLoops" "slots" "[LFibreLoops$State;") ∈ Tg := tg (i := 244) (by decide +kernel) rfl
theorem tw_246 : (Jvm.Cond.laysFinal "FibreLoops" "FibreLoops" "filled" "[Z") ∈ Tg := tg (i := 246) (by decide +kernel) rfl
theorem tw_248 : (Jvm.Cond.laysFinal "FibreLoops" "FibreLoops" "pad" "LFibreLoops$Pad;") ∈ Tg := tg (i := 248) (by decide +kernel) rfl
theorem tw_250 : (Jvm.Cond.laysFinal "FibreLoops" "FibreLoops" "orders" "LFibreLoops$OrderReader;") ∈ Tg := tg (i := 250) (by decide +kernel) rfl
theorem tw_253 : (Jvm.Cond.methodLink "FibreLoopsLaw" (13 : Nat) ({ cls := "FibreLoops", name := "set", desc := "(II)I" } : Jvm.MethodName)) ∈ Tg := tg (i := 253) (by decide +kernel) rfl
theorem tw_254 : (Jvm.Cond.instanceMethod ({ cls := "FibreLoops", name := "set", desc := "(II)I" } : Jvm.MethodName)) ∈ Tg := tg (i := 254) (by decide +kernel) rfl
theorem tw_255 : (Jvm.Cond.selects "FibreLoops" ({ cls := "FibreLoops", name := "set", desc := "(II)I" } : Jvm.MethodName) ({ cls := "FibreLoops", name := "set", desc := "(II)I" } : Jvm.MethodName)) ∈ Tg := tg (i := 255) (by decide +kernel) rfl
theorem tw_256 : (Jvm.Cond.code ({ cls := "FibreLoops", name := "set", desc := "(II)I" } : Jvm.MethodName) prog_1_method_2_code (3 : Nat) (Option.some Jvm.ClassFile.FieldType.int)) ∈ Tg := tg (i := 256) (by decide +kernel) rfl
theorem tw_257 : (Jvm.Cond.methodLinkNest "FibreLoops" (50 : Nat) ({ cls := "FibreLoops$History", name := "holdBack", desc := "(LFibreLoops$State;)V" } : Jvm.MethodName) "FibreLoops") ∈ Tn := tn (i := 257) (by decide +kernel) rfl
theorem tw_259 : (Jvm.Cond.instanceMethod ({ cls := "FibreLoops$History", name := "holdBack", desc := "(LFibreLoops$State;)V" } : Jvm.MethodName)) ∈ Tg := tg (i := 259) (by decide +kernel) rfl
theorem tw_260 : (Jvm.Cond.code ({ cls := "FibreLoops$History", name := "holdBack", desc := "(LFibreLoops$State;)V" } : Jvm.MethodName) prog_3_method_2_code (2 : Nat) (Option.none : Option Jvm.ClassFile.FieldType)) ∈ Tg := tg (i := 260) (by decide +kernel) rfl
theorem tw_261 : (Jvm.Cond.methodLinkNest "FibreLoops$History" (22 : Nat) ({ cls := "FibreLoops$State", name := "copyFrom", desc := "(LFibreLoops$State;)V" } : Jvm.MethodName) "FibreLoops") ∈ Tn := tn (i := 261) (by decide +kernel) rfl
theorem tw_263 : (Jvm.Cond.instanceMethod ({ cls := "FibreLoops$State", name := "copyFrom", desc := "(LFibreLoops$State;)V" } : Jvm.MethodName)) ∈ Tg := tg (i := 263) (by decide +kernel) rfl
theorem tw_264 : (Jvm.Cond.code ({ cls := "FibreLoops$State", name := "copyFrom", desc := "(LFibreLoops$State;)V" } : Jvm.MethodName) prog_8_method_2_code (3 : Nat) (Option.none : Option Jvm.ClassFile.FieldType)) ∈ Tg := tg (i := 264) (by decide +kernel) rfl
theorem tw_265 : (Jvm.Cond.methodLinkNest "FibreLoops$State" (56 : Nat) ({ cls := "FibreLoops$Ring", name := "copyFrom", desc := "(LFibreLoops$Ring;)V" } : Jvm.MethodName) "FibreLoops") ∈ Tn := tn (i := 265) (by decide +kernel) rfl
theorem tw_267 : (Jvm.Cond.instanceMethod ({ cls := "FibreLoops$Ring", name := "copyFrom", desc := "(LFibreLoops$Ring;)V" } : Jvm.MethodName)) ∈ Tg := tg (i := 267) (by decide +kernel) rfl
theorem tw_268 : (Jvm.Cond.code ({ cls := "FibreLoops$Ring", name := "copyFrom", desc := "(LFibreLoops$Ring;)V" } : Jvm.MethodName) prog_7_method_3_code (2 : Nat) (Option.none : Option Jvm.ClassFile.FieldType)) ∈ Tg := tg (i := 268) (by decide +kernel) rfl
theorem tw_269 : (Jvm.Cond.methodLinkNest "FibreLoops$Ring" (28 : Nat) ({ cls := "FibreLoops", name := "copyRow", desc := "([I[I)V" } : Jvm.MethodName) "FibreLoops") ∈ Tn := tn (i := 269) (by decide +kernel) rfl
theorem tw_270 : (Jvm.Cond.methodLinkNest "FibreLoops$State" (60 : Nat) ({ cls := "FibreLoops$Device", name := "copyFrom", desc := "(LFibreLoops$Device;)V" } : Jvm.MethodName) "FibreLoops") ∈ Tn := tn (i := 270) (by decide +kernel) rfl
theorem tw_272 : (Jvm.Cond.instanceMethod ({ cls := "FibreLoops$Device", name := "copyFrom", desc := "(LFibreLoops$Device;)V" } : Jvm.MethodName)) ∈ Tg := tg (i := 272) (by decide +kernel) rfl
theorem tw_273 : (Jvm.Cond.code ({ cls := "FibreLoops$Device", name := "copyFrom", desc := "(LFibreLoops$Device;)V" } : Jvm.MethodName) prog_2_method_3_code (2 : Nat) (Option.none : Option Jvm.ClassFile.FieldType)) ∈ Tg := tg (i := 273) (by decide +kernel) rfl
theorem tw_274 : (Jvm.Cond.methodLinkNest "FibreLoops$Device" (40 : Nat) ({ cls := "FibreLoops", name := "copyRow", desc := "([I[I)V" } : Jvm.MethodName) "FibreLoops") ∈ Tn := tn (i := 274) (by decide +kernel) rfl
theorem tw_275 : (Jvm.Cond.methodLinkNest "FibreLoops$State" (63 : Nat) ({ cls := "FibreLoops$Join", name := "copyFrom", desc := "(LFibreLoops$Join;)V" } : Jvm.MethodName) "FibreLoops") ∈ Tn := tn (i := 275) (by decide +kernel) rfl
theorem tw_277 : (Jvm.Cond.instanceMethod ({ cls := "FibreLoops$Join", name := "copyFrom", desc := "(LFibreLoops$Join;)V" } : Jvm.MethodName)) ∈ Tg := tg (i := 277) (by decide +kernel) rfl
theorem tw_278 : (Jvm.Cond.code ({ cls := "FibreLoops$Join", name := "copyFrom", desc := "(LFibreLoops$Join;)V" } : Jvm.MethodName) prog_4_method_3_code (2 : Nat) (Option.none : Option Jvm.ClassFile.FieldType)) ∈ Tg := tg (i := 278) (by decide +kernel) rfl
theorem tw_279 : (Jvm.Cond.methodLinkNest "FibreLoops" (54 : Nat) ({ cls := "FibreLoops$State", name := "changeSetting", desc := "(II)I" } : Jvm.MethodName) "FibreLoops") ∈ Tn := tn (i := 279) (by decide +kernel) rfl
theorem tw_281 : (Jvm.Cond.instanceMethod ({ cls := "FibreLoops$State", name := "changeSetting", desc := "(II)I" } : Jvm.MethodName)) ∈ Tg := tg (i := 281) (by decide +kernel) rfl
theorem tw_282 : (Jvm.Cond.code ({ cls := "FibreLoops$State", name := "changeSetting", desc := "(II)I" } : Jvm.MethodName) prog_8_method_8_code (4 : Nat) (Option.some Jvm.ClassFile.FieldType.int)) ∈ Tg := tg (i := 282) (by decide +kernel) rfl
theorem tw_283 : (Jvm.Cond.methodLinkNest "FibreLoops$State" (74 : Nat) ({ cls := "FibreLoops", name := "isBetween", desc := "(III)Z" } : Jvm.MethodName) "FibreLoops") ∈ Tn := tn (i := 283) (by decide +kernel) rfl
theorem tw_284 : (Jvm.Cond.static ({ cls := "FibreLoops", name := "isBetween", desc := "(III)Z" } : Jvm.MethodName)) ∈ Tg := tg (i := 284) (by decide +kernel) rfl
theorem tw_285 : (Jvm.Cond.code ({ cls := "FibreLoops", name := "isBetween", desc := "(III)Z" } : Jvm.MethodName) prog_1_method_32_code (3 : Nat) (Option.some Jvm.ClassFile.FieldType.boolean)) ∈ Tg := tg (i := 285) (by decide +kernel) rfl
theorem tw_286 : (Jvm.Cond.fieldLinkNest "FibreLoops$State" (78 : Nat) "FibreLoops" "LOWEST_SETTING" "[I" "FibreLoops") ∈ Tn := tn (i := 286) (by decide +kernel) rfl
theorem tw_287 : (Jvm.Cond.laysStatic "FibreLoops" "LOWEST_SETTING" "[I") ∈ lw_tbl := List.mem_append_right _ (List.mem_of_getElem? (i := 287) (by decide +kernel))
theorem tw_288 : (Jvm.Cond.fieldLinkNest "FibreLoops$State" (81 : Nat) "FibreLoops" "HIGHEST_SETTING" "[I" "FibreLoops") ∈ Tn := tn (i := 288) (by decide +kernel) rfl
theorem tw_289 : (Jvm.Cond.laysStatic "FibreLoops" "HIGHEST_SETTING" "[I") ∈ lw_tbl := List.mem_append_right _ (List.mem_of_getElem? (i := 289) (by decide +kernel))
theorem tw_290 : (Jvm.Cond.methodLinkNest "FibreLoops" (58 : Nat) ({ cls := "FibreLoops$History", name := "keepIfDone", desc := "(I)I" } : Jvm.MethodName) "FibreLoops") ∈ Tn := tn (i := 290) (by decide +kernel) rfl
theorem tw_292 : (Jvm.Cond.instanceMethod ({ cls := "FibreLoops$History", name := "keepIfDone", desc := "(I)I" } : Jvm.MethodName)) ∈ Tg := tg (i := 292) (by decide +kernel) rfl
theorem tw_293 : (Jvm.Cond.code ({ cls := "FibreLoops$History", name := "keepIfDone", desc := "(I)I" } : Jvm.MethodName) prog_3_method_3_code (2 : Nat) (Option.some Jvm.ClassFile.FieldType.int)) ∈ Tg := tg (i := 293) (by decide +kernel) rfl
theorem tw_294 : (Jvm.Cond.methodLink "FibreLoops$History" (26 : Nat) ({ cls := "FibreLoops$History", name := "dropOldest", desc := "()V" } : Jvm.MethodName)) ∈ Tg := tg (i := 294) (by decide +kernel) rfl
theorem tw_296 : (Jvm.Cond.instanceMethod ({ cls := "FibreLoops$History", name := "dropOldest", desc := "()V" } : Jvm.MethodName)) ∈ Tg := tg (i := 296) (by decide +kernel) rfl
theorem tw_297 : (Jvm.Cond.code ({ cls := "FibreLoops$History", name := "dropOldest", desc := "()V" } : Jvm.MethodName) prog_3_method_4_code (3 : Nat) (Option.none : Option Jvm.ClassFile.FieldType)) ∈ Tg := tg (i := 297) (by decide +kernel) rfl
theorem tw_298 : (Jvm.Cond.methodLink "FibreLoopsLaw" (18 : Nat) ({ cls := "FibreLoops", name := "loop", desc := "(I)I" } : Jvm.MethodName)) ∈ Tg := tg (i := 298) (by decide +kernel) rfl
theorem tw_299 : (Jvm.Cond.instanceMethod ({ cls := "FibreLoops", name := "loop", desc := "(I)I" } : Jvm.MethodName)) ∈ Tg := tg (i := 299) (by decide +kernel) rfl
theorem tw_300 : (Jvm.Cond.selects "FibreLoops" ({ cls := "FibreLoops", name := "loop", desc := "(I)I" } : Jvm.MethodName) ({ cls := "FibreLoops", name := "loop", desc := "(I)I" } : Jvm.MethodName)) ∈ Tg := tg (i := 300) (by decide +kernel) rfl
theorem tw_301 : (Jvm.Cond.code ({ cls := "FibreLoops", name := "loop", desc := "(I)I" } : Jvm.MethodName) prog_1_method_3_code (2 : Nat) (Option.some Jvm.ClassFile.FieldType.int)) ∈ Tg := tg (i := 301) (by decide +kernel) rfl
theorem tw_302 : (Jvm.Cond.methodLinkNest "FibreLoops" (62 : Nat) ({ cls := "FibreLoops$State", name := "addRing", desc := "(I)I" } : Jvm.MethodName) "FibreLoops") ∈ Tn := tn (i := 302) (by decide +kernel) rfl
theorem tw_304 : (Jvm.Cond.instanceMethod ({ cls := "FibreLoops$State", name := "addRing", desc := "(I)I" } : Jvm.MethodName)) ∈ Tg := tg (i := 304) (by decide +kernel) rfl
theorem tw_305 : (Jvm.Cond.code ({ cls := "FibreLoops$State", name := "addRing", desc := "(I)I" } : Jvm.MethodName) prog_8_method_9_code (2 : Nat) (Option.some Jvm.ClassFile.FieldType.int)) ∈ Tg := tg (i := 305) (by decide +kernel) rfl
theorem tw_306 : (Jvm.Cond.methodLinkNest "FibreLoops$State" (84 : Nat) ({ cls := "FibreLoops$Ring", name := "begin", desc := "(I)V" } : Jvm.MethodName) "FibreLoops") ∈ Tn := tn (i := 306) (by decide +kernel) rfl
theorem tw_308 : (Jvm.Cond.instanceMethod ({ cls := "FibreLoops$Ring", name := "begin", desc := "(I)V" } : Jvm.MethodName)) ∈ Tg := tg (i := 308) (by decide +kernel) rfl
theorem tw_309 : (Jvm.Cond.code ({ cls := "FibreLoops$Ring", name := "begin", desc := "(I)V" } : Jvm.MethodName) prog_7_method_2_code (3 : Nat) (Option.none : Option Jvm.ClassFile.FieldType)) ∈ Tg := tg (i := 309) (by decide +kernel) rfl
theorem tw_310 : (Jvm.Cond.methodLink "FibreLoopsLaw" (23 : Nat) ({ cls := "FibreLoops", name := "device", desc := "(IIIII)I" } : Jvm.MethodName)) ∈ Tg := tg (i := 310) (by decide +kernel) rfl
theorem tw_311 : (Jvm.Cond.instanceMethod ({ cls := "FibreLoops", name := "device", desc := "(IIIII)I" } : Jvm.MethodName)) ∈ Tg := tg (i := 311) (by decide +kernel) rfl
theorem tw_312 : (Jvm.Cond.selects "FibreLoops" ({ cls := "FibreLoops", name := "device", desc := "(IIIII)I" } : Jvm.MethodName) ({ cls := "FibreLoops", name := "device", desc := "(IIIII)I" } : Jvm.MethodName)) ∈ Tg := tg (i := 312) (by decide +kernel) rfl
theorem tw_313 : (Jvm.Cond.code ({ cls := "FibreLoops", name := "device", desc := "(IIIII)I" } : Jvm.MethodName) prog_1_method_4_code (6 : Nat) (Option.some Jvm.ClassFile.FieldType.int)) ∈ Tg := tg (i := 313) (by decide +kernel) rfl
theorem tw_314 : (Jvm.Cond.methodLinkNest "FibreLoops" (65 : Nat) ({ cls := "FibreLoops$State", name := "addDevice", desc := "(IIIII)I" } : Jvm.MethodName) "FibreLoops") ∈ Tn := tn (i := 314) (by decide +kernel) rfl
theorem tw_316 : (Jvm.Cond.instanceMethod ({ cls := "FibreLoops$State", name := "addDevice", desc := "(IIIII)I" } : Jvm.MethodName)) ∈ Tg := tg (i := 316) (by decide +kernel) rfl
theorem tw_317 : (Jvm.Cond.code ({ cls := "FibreLoops$State", name := "addDevice", desc := "(IIIII)I" } : Jvm.MethodName) prog_8_method_10_code (6 : Nat) (Option.some Jvm.ClassFile.FieldType.int)) ∈ Tg := tg (i := 317) (by decide +kernel) rfl
theorem tw_318 : (Jvm.Cond.methodLink "FibreLoops$State" (88 : Nat) ({ cls := "FibreLoops$State", name := "ringWith", desc := "(II)LFibreLoops$Ring;" } : Jvm.MethodName)) ∈ Tg := tg (i := 318) (by decide +kernel) rfl
theorem tw_320 : (Jvm.Cond.instanceMethod ({ cls := "FibreLoops$State", name := "ringWith", desc := "(II)LFibreLoops$Ring;" } : Jvm.MethodName)) ∈ Tg := tg (i := 320) (by decide +kernel) rfl
theorem tw_321 : (Jvm.Cond.code ({ cls := "FibreLoops$State", name := "ringWith", desc := "(II)LFibreLoops$Ring;" } : Jvm.MethodName) prog_8_method_4_code (4 : Nat) (Option.some (Jvm.ClassFile.FieldType.object "FibreLoops$Ring"))) ∈ Tg := tg (i := 321) (by decide +kernel) rfl
theorem tw_322 : (Jvm.Cond.methodLink "FibreLoops$State" (66 : Nat) ({ cls := "FibreLoops$State", name := "ringOf", desc := "(I)LFibreLoops$Ring;" } : Jvm.MethodName)) ∈ Tg := tg (i := 322) (by decide +kernel) rfl
theorem tw_324 : (Jvm.Cond.instanceMethod ({ cls := "FibreLoops$State", name := "ringOf", desc := "(I)LFibreLoops$Ring;" } : Jvm.MethodName)) ∈ Tg := tg (i := 324) (by decide +kernel) rfl
theorem tw_325 : (Jvm.Cond.code ({ cls := "FibreLoops$State", name := "ringOf", desc := "(I)LFibreLoops$Ring;" } : Jvm.MethodName) prog_8_method_3_code (2 : Nat) (Option.some (Jvm.ClassFile.FieldType.object "FibreLoops$Ring"))) ∈ Tg := tg (i := 325) (by decide +kernel) rfl
theorem tw_326 : (Jvm.Cond.methodLinkNest "FibreLoops$State" (70 : Nat) ({ cls := "FibreLoops$Ring", name := "has", desc := "(I)Z" } : Jvm.MethodName) "FibreLoops") ∈ Tn := tn (i := 326) (by decide +kernel) rfl
theorem tw_328 : (Jvm.Cond.instanceMethod ({ cls := "FibreLoops$Ring", name := "has", desc := "(I)Z" } : Jvm.MethodName)) ∈ Tg := tg (i := 328) (by decide +kernel) rfl
theorem tw_329 : (Jvm.Cond.code ({ cls := "FibreLoops$Ring", name := "has", desc := "(I)Z" } : Jvm.MethodName) prog_7_method_4_code (2 : Nat) (Option.some Jvm.ClassFile.FieldType.boolean)) ∈ Tg := tg (i := 329) (by decide +kernel) rfl
theorem tw_330 : (Jvm.Cond.methodLinkNest "FibreLoops$State" (92 : Nat) ({ cls := "FibreLoops", name := "fits", desc := "(III)Z" } : Jvm.MethodName) "FibreLoops") ∈ Tn := tn (i := 330) (by decide +kernel) rfl
theorem tw_331 : (Jvm.Cond.static ({ cls := "FibreLoops", name := "fits", desc := "(III)Z" } : Jvm.MethodName)) ∈ Tg := tg (i := 331) (by decide +kernel) rfl
theorem tw_332 : (Jvm.Cond.code ({ cls := "FibreLoops", name := "fits", desc := "(III)Z" } : Jvm.MethodName) prog_1_method_34_code (3 : Nat) (Option.some Jvm.ClassFile.FieldType.boolean)) ∈ Tg := tg (i := 332) (by decide +kernel) rfl
theorem tw_333 : (Jvm.Cond.methodLink "FibreLoops" (186 : Nat) ({ cls := "FibreLoops", name := "isBetween", desc := "(III)Z" } : Jvm.MethodName)) ∈ Tg := tg (i := 333) (by decide +kernel) rfl
theorem tw_334 : (Jvm.Cond.methodLink "FibreLoops" (182 : Nat) ({ cls := "FibreLoops", name := "isValue", desc := "(I)Z" } : Jvm.MethodName)) ∈ Tg := tg (i := 334) (by decide +kernel) rfl
theorem tw_335 : (Jvm.Cond.static ({ cls := "FibreLoops", name := "isValue", desc := "(I)Z" } : Jvm.MethodName)) ∈ Tg := tg (i := 335) (by decide +kernel) rfl
theorem tw_336 : (Jvm.Cond.code ({ cls := "FibreLoops", name := "isValue", desc := "(I)Z" } : Jvm.MethodName) prog_1_method_33_code (1 : Nat) (Option.some Jvm.ClassFile.FieldType.boolean)) ∈ Tg := tg (i := 336) (by decide +kernel) rfl
theorem tw_337 : (Jvm.Cond.methodLinkNest "FibreLoops$State" (95 : Nat) ({ cls := "FibreLoops$Device", name := "begin", desc := "(IIIII)V" } : Jvm.MethodName) "FibreLoops") ∈ Tn := tn (i := 337) (by decide +kernel) rfl
theorem tw_339 : (Jvm.Cond.instanceMethod ({ cls := "FibreLoops$Device", name := "begin", desc := "(IIIII)V" } : Jvm.MethodName)) ∈ Tg := tg (i := 339) (by decide +kernel) rfl
theorem tw_340 : (Jvm.Cond.code ({ cls := "FibreLoops$Device", name := "begin", desc := "(IIIII)V" } : Jvm.MethodName) prog_2_method_2_code (6 : Nat) (Option.none : Option Jvm.ClassFile.FieldType)) ∈ Tg := tg (i := 340) (by decide +kernel) rfl
theorem tw_341 : (Jvm.Cond.methodLink "FibreLoopsLaw" (28 : Nat) ({ cls := "FibreLoops", name := "join", desc := "(IIII)I" } : Jvm.MethodName)) ∈ Tg := tg (i := 341) (by decide +kernel) rfl
theorem tw_342 : (Jvm.Cond.instanceMethod ({ cls := "FibreLoops", name := "join", desc := "(IIII)I" } : Jvm.MethodName)) ∈ Tg := tg (i := 342) (by decide +kernel) rfl
theorem tw_343 : (Jvm.Cond.selects "FibreLoops" ({ cls := "FibreLoops", name := "join", desc := "(IIII)I" } : Jvm.MethodName) ({ cls := "FibreLoops", name := "join", desc := "(IIII)I" } : Jvm.MethodName)) ∈ Tg := tg (i := 343) (by decide +kernel) rfl
theorem tw_344 : (Jvm.Cond.code ({ cls := "FibreLoops", name := "join", desc := "(IIII)I" } : Jvm.MethodName) prog_1_method_5_code (5 : Nat) (Option.some Jvm.ClassFile.FieldType.int)) ∈ Tg := tg (i := 344) (by decide +kernel) rfl
theorem tw_345 : (Jvm.Cond.methodLinkNest "FibreLoops" (69 : Nat) ({ cls := "FibreLoops$State", name := "addJoin", desc := "(IIII)I" } : Jvm.MethodName) "FibreLoops") ∈ Tn := tn (i := 345) (by decide +kernel) rfl
theorem tw_347 : (Jvm.Cond.instanceMethod ({ cls := "FibreLoops$State", name := "addJoin", desc := "(IIII)I" } : Jvm.MethodName)) ∈ Tg := tg (i := 347) (by decide +kernel) rfl
theorem tw_348 : (Jvm.Cond.code ({ cls := "FibreLoops$State", name := "addJoin", desc := "(IIII)I" } : Jvm.MethodName) prog_8_method_11_code (5 : Nat) (Option.some Jvm.ClassFile.FieldType.int)) ∈ Tg := tg (i := 348) (by decide +kernel) rfl
theorem tw_349 : (Jvm.Cond.methodLinkNest "FibreLoops$State" (98 : Nat) ({ cls := "FibreLoops$Join", name := "begin", desc := "(IIII)V" } : Jvm.MethodName) "FibreLoops") ∈ Tn := tn (i := 349) (by decide +kernel) rfl
theorem tw_351 : (Jvm.Cond.instanceMethod ({ cls := "FibreLoops$Join", name := "begin", desc := "(IIII)V" } : Jvm.MethodName)) ∈ Tg := tg (i := 351) (by decide +kernel) rfl
theorem tw_352 : (Jvm.Cond.code ({ cls := "FibreLoops$Join", name := "begin", desc := "(IIII)V" } : Jvm.MethodName) prog_4_method_2_code (5 : Nat) (Option.none : Option Jvm.ClassFile.FieldType)) ∈ Tg := tg (i := 352) (by decide +kernel) rfl
theorem tw_353 : (Jvm.Cond.methodLink "FibreLoopsLaw" (33 : Nat) ({ cls := "FibreLoops", name := "turn", desc := "(II)I" } : Jvm.MethodName)) ∈ Tg := tg (i := 353) (by decide +kernel) rfl
theorem tw_354 : (Jvm.Cond.instanceMethod ({ cls := "FibreLoops", name := "turn", desc := "(II)I" } : Jvm.MethodName)) ∈ Tg := tg (i := 354) (by decide +kernel) rfl
theorem tw_355 : (Jvm.Cond.selects "FibreLoops" ({ cls := "FibreLoops", name := "turn", desc := "(II)I" } : Jvm.MethodName) ({ cls := "FibreLoops", name := "turn", desc := "(II)I" } : Jvm.MethodName)) ∈ Tg := tg (i := 355) (by decide +kernel) rfl
theorem tw_356 : (Jvm.Cond.code ({ cls := "FibreLoops", name := "turn", desc := "(II)I" } : Jvm.MethodName) prog_1_method_6_code (3 : Nat) (Option.some Jvm.ClassFile.FieldType.int)) ∈ Tg := tg (i := 356) (by decide +kernel) rfl
theorem tw_357 : (Jvm.Cond.methodLinkNest "FibreLoops" (73 : Nat) ({ cls := "FibreLoops$State", name := "turnJoin", desc := "(II)I" } : Jvm.MethodName) "FibreLoops") ∈ Tn := tn (i := 357) (by decide +kernel) rfl
theorem tw_359 : (Jvm.Cond.instanceMethod ({ cls := "FibreLoops$State", name := "turnJoin", desc := "(II)I" } : Jvm.MethodName)) ∈ Tg := tg (i := 359) (by decide +kernel) rfl
theorem tw_360 : (Jvm.Cond.code ({ cls := "FibreLoops$State", name := "turnJoin", desc := "(II)I" } : Jvm.MethodName) prog_8_method_12_code (5 : Nat) (Option.some Jvm.ClassFile.FieldType.int)) ∈ Tg := tg (i := 360) (by decide +kernel) rfl
theorem tw_361 : (Jvm.Cond.methodLink "FibreLoops$State" (101 : Nat) ({ cls := "FibreLoops$State", name := "joinOf", desc := "(I)LFibreLoops$Join;" } : Jvm.MethodName)) ∈ Tg := tg (i := 361) (by decide +kernel) rfl
theorem tw_363 : (Jvm.Cond.instanceMethod ({ cls := "FibreLoops$State", name := "joinOf", desc := "(I)LFibreLoops$Join;" } : Jvm.MethodName)) ∈ Tg := tg (i := 363) (by decide +kernel) rfl
theorem tw_364 : (Jvm.Cond.code ({ cls := "FibreLoops$State", name := "joinOf", desc := "(I)LFibreLoops$Join;" } : Jvm.MethodName) prog_8_method_6_code (2 : Nat) (Option.some (Jvm.ClassFile.FieldType.object "FibreLoops$Join"))) ∈ Tg := tg (i := 364) (by decide +kernel) rfl
theorem tw_365 : (Jvm.Cond.methodLink "FibreLoopsLaw" (37 : Nat) ({ cls := "FibreLoops", name := "feed", desc := "(II)I" } : Jvm.MethodName)) ∈ Tg := tg (i := 365) (by decide +kernel) rfl
theorem tw_366 : (Jvm.Cond.instanceMethod ({ cls := "FibreLoops", name := "feed", desc := "(II)I" } : Jvm.MethodName)) ∈ Tg := tg (i := 366) (by decide +kernel) rfl
theorem tw_367 : (Jvm.Cond.selects "FibreLoops" ({ cls := "FibreLoops", name := "feed", desc := "(II)I" } : Jvm.MethodName) ({ cls := "FibreLoops", name := "feed", desc := "(II)I" } : Jvm.MethodName)) ∈ Tg := tg (i := 367) (by decide +kernel) rfl
theorem tw_368 : (Jvm.Cond.code ({ cls := "FibreLoops", name := "feed", desc := "(II)I" } : Jvm.MethodName) prog_1_method_7_code (3 : Nat) (Option.some Jvm.ClassFile.FieldType.int)) ∈ Tg := tg (i := 368) (by decide +kernel) rfl
theorem tw_369 : (Jvm.Cond.methodLinkNest "FibreLoops" (76 : Nat) ({ cls := "FibreLoops$State", name := "feedDevice", desc := "(II)I" } : Jvm.MethodName) "FibreLoops") ∈ Tn := tn (i := 369) (by decide +kernel) rfl
theorem tw_371 : (Jvm.Cond.instanceMethod ({ cls := "FibreLoops$State", name := "feedDevice", desc := "(II)I" } : Jvm.MethodName)) ∈ Tg := tg (i := 371) (by decide +kernel) rfl
theorem tw_372 : (Jvm.Cond.code ({ cls := "FibreLoops$State", name := "feedDevice", desc := "(II)I" } : Jvm.MethodName) prog_8_method_13_code (4 : Nat) (Option.some Jvm.ClassFile.FieldType.int)) ∈ Tg := tg (i := 372) (by decide +kernel) rfl
theorem tw_373 : (Jvm.Cond.methodLink "FibreLoops$State" (108 : Nat) ({ cls := "FibreLoops$State", name := "deviceOf", desc := "(I)LFibreLoops$Device;" } : Jvm.MethodName)) ∈ Tg := tg (i := 373) (by decide +kernel) rfl
theorem tw_375 : (Jvm.Cond.instanceMethod ({ cls := "FibreLoops$State", name := "deviceOf", desc := "(I)LFibreLoops$Device;" } : Jvm.MethodName)) ∈ Tg := tg (i := 375) (by decide +kernel) rfl
theorem tw_376 : (Jvm.Cond.code ({ cls := "FibreLoops$State", name := "deviceOf", desc := "(I)LFibreLoops$Device;" } : Jvm.MethodName) prog_8_method_5_code (2 : Nat) (Option.some (Jvm.ClassFile.FieldType.object "FibreLoops$Device"))) ∈ Tg := tg (i := 376) (by decide +kernel) rfl
theorem tw_377 : (Jvm.Cond.methodLinkNest "FibreLoops$State" (115 : Nat) ({ cls := "FibreLoops", name := "isValue", desc := "(I)Z" } : Jvm.MethodName) "FibreLoops") ∈ Tn := tn (i := 377) (by decide +kernel) rfl
theorem tw_378 : (Jvm.Cond.methodLinkNest "FibreLoops$State" (121 : Nat) ({ cls := "FibreLoops$Device", name := "keepAsLast", desc := "(I)V" } : Jvm.MethodName) "FibreLoops") ∈ Tn := tn (i := 378) (by decide +kernel) rfl
theorem tw_380 : (Jvm.Cond.instanceMethod ({ cls := "FibreLoops$Device", name := "keepAsLast", desc := "(I)V" } : Jvm.MethodName)) ∈ Tg := tg (i := 380) (by decide +kernel) rfl
theorem tw_381 : (Jvm.Cond.code ({ cls := "FibreLoops$Device", name := "keepAsLast", desc := "(I)V" } : Jvm.MethodName) prog_2_method_5_code (2 : Nat) (Option.none : Option Jvm.ClassFile.FieldType)) ∈ Tg := tg (i := 381) (by decide +kernel) rfl
theorem tw_382 : (Jvm.Cond.methodLink "FibreLoopsLaw" (41 : Nat) ({ cls := "FibreLoops", name := "light", desc := "(III)I" } : Jvm.MethodName)) ∈ Tg := tg (i := 382) (by decide +kernel) rfl
theorem tw_383 : (Jvm.Cond.instanceMethod ({ cls := "FibreLoops", name := "light", desc := "(III)I" } : Jvm.MethodName)) ∈ Tg := tg (i := 383) (by decide +kernel) rfl
theorem tw_384 : (Jvm.Cond.selects "FibreLoops" ({ cls := "FibreLoops", name := "light", desc := "(III)I" } : Jvm.MethodName) ({ cls := "FibreLoops", name := "light", desc := "(III)I" } : Jvm.MethodName)) ∈ Tg := tg (i := 384) (by decide +kernel) rfl
theorem tw_385 : (Jvm.Cond.code ({ cls := "FibreLoops", name := "light", desc := "(III)I" } : Jvm.MethodName) prog_1_method_8_code (4 : Nat) (Option.some Jvm.ClassFile.FieldType.int)) ∈ Tg := tg (i := 385) (by decide +kernel) rfl
theorem tw_386 : (Jvm.Cond.methodLinkNest "FibreLoops" (79 : Nat) ({ cls := "FibreLoops$State", name := "lightFlash", desc := "(III)I" } : Jvm.MethodName) "FibreLoops") ∈ Tn := tn (i := 386) (by decide +kernel) rfl
theorem tw_388 : (Jvm.Cond.instanceMethod ({ cls := "FibreLoops$State", name := "lightFlash", desc := "(III)I" } : Jvm.MethodName)) ∈ Tg := tg (i := 388) (by decide +kernel) rfl
theorem tw_389 : (Jvm.Cond.code ({ cls := "FibreLoops$State", name := "lightFlash", desc := "(III)I" } : Jvm.MethodName) prog_8_method_14_code (5 : Nat) (Option.some Jvm.ClassFile.FieldType.int)) ∈ Tg := tg (i := 389) (by decide +kernel) rfl
theorem tw_390 : (Jvm.Cond.methodLinkNest "FibreLoops$State" (124 : Nat) ({ cls := "FibreLoops$Ring", name := "strengthAt", desc := "(I)I" } : Jvm.MethodName) "FibreLoops") ∈ Tn := tn (i := 390) (by decide +kernel) rfl
theorem tw_392 : (Jvm.Cond.instanceMethod ({ cls := "FibreLoops$Ring", name := "strengthAt", desc := "(I)I" } : Jvm.MethodName)) ∈ Tg := tg (i := 392) (by decide +kernel) rfl
theorem tw_393 : (Jvm.Cond.code ({ cls := "FibreLoops$Ring", name := "strengthAt", desc := "(I)I" } : Jvm.MethodName) prog_7_method_5_code (2 : Nat) (Option.some Jvm.ClassFile.FieldType.int)) ∈ Tg := tg (i := 393) (by decide +kernel) rfl
theorem tw_394 : (Jvm.Cond.methodLink "FibreLoops$Ring" (32 : Nat) ({ cls := "FibreLoops$Ring", name := "has", desc := "(I)Z" } : Jvm.MethodName)) ∈ Tg := tg (i := 394) (by decide +kernel) rfl
theorem tw_395 : (Jvm.Cond.methodLink "FibreLoops$State" (128 : Nat) ({ cls := "FibreLoops$State", name := "setting", desc := "(I)I" } : Jvm.MethodName)) ∈ Tg := tg (i := 395) (by decide +kernel) rfl
theorem tw_397 : (Jvm.Cond.instanceMethod ({ cls := "FibreLoops$State", name := "setting", desc := "(I)I" } : Jvm.MethodName)) ∈ Tg := tg (i := 397) (by decide +kernel) rfl
theorem tw_398 : (Jvm.Cond.code ({ cls := "FibreLoops$State", name := "setting", desc := "(I)I" } : Jvm.MethodName) prog_8_method_7_code (2 : Nat) (Option.some Jvm.ClassFile.FieldType.int)) ∈ Tg := tg (i := 398) (by decide +kernel) rfl
theorem tw_399 : (Jvm.Cond.methodLinkNest "FibreLoops$State" (131 : Nat) ({ cls := "FibreLoops$Ring", name := "putIn", desc := "(IIII)V" } : Jvm.MethodName) "FibreLoops") ∈ Tn := tn (i := 399) (by decide +kernel) rfl
theorem tw_401 : (Jvm.Cond.instanceMethod ({ cls := "FibreLoops$Ring", name := "putIn", desc := "(IIII)V" } : Jvm.MethodName)) ∈ Tg := tg (i := 401) (by decide +kernel) rfl
theorem tw_402 : (Jvm.Cond.code ({ cls := "FibreLoops$Ring", name := "putIn", desc := "(IIII)V" } : Jvm.MethodName) prog_7_method_16_code (5 : Nat) (Option.none : Option Jvm.ClassFile.FieldType)) ∈ Tg := tg (i := 402) (by decide +kernel) rfl
theorem tw_403 : (Jvm.Cond.methodLinkNest "FibreLoops$State" (134 : Nat) ({ cls := "FibreLoops$Ring", name := "flashes", desc := "()I" } : Jvm.MethodName) "FibreLoops") ∈ Tn := tn (i := 403) (by decide +kernel) rfl
theorem tw_405 : (Jvm.Cond.instanceMethod ({ cls := "FibreLoops$Ring", name := "flashes", desc := "()I" } : Jvm.MethodName)) ∈ Tg := tg (i := 405) (by decide +kernel) rfl
theorem tw_406 : (Jvm.Cond.code ({ cls := "FibreLoops$Ring", name := "flashes", desc := "()I" } : Jvm.MethodName) prog_7_method_9_code (3 : Nat) (Option.some Jvm.ClassFile.FieldType.int)) ∈ Tg := tg (i := 406) (by decide +kernel) rfl
theorem tw_407 : (Jvm.Cond.methodLink "FibreLoopsLaw" (46 : Nat) ({ cls := "FibreLoops", name := "ticks", desc := "(I)I" } : Jvm.MethodName)) ∈ Tg := tg (i := 407) (by decide +kernel) rfl
theorem tw_408 : (Jvm.Cond.instanceMethod ({ cls := "FibreLoops", name := "ticks", desc := "(I)I" } : Jvm.MethodName)) ∈ Tg := tg (i := 408) (by decide +kernel) rfl
theorem tw_409 : (Jvm.Cond.selects "FibreLoops" ({ cls := "FibreLoops", name := "ticks", desc := "(I)I" } : Jvm.MethodName) ({ cls := "FibreLoops", name := "ticks", desc := "(I)I" } : Jvm.MethodName)) ∈ Tg := tg (i := 409) (by decide +kernel) rfl
theorem tw_410 : (Jvm.Cond.code ({ cls := "FibreLoops", name := "ticks", desc := "(I)I" } : Jvm.MethodName) prog_1_method_9_code (2 : Nat) (Option.some Jvm.ClassFile.FieldType.int)) ∈ Tg := tg (i := 410) (by decide +kernel) rfl
theorem tw_411 : (Jvm.Cond.methodLinkNest "FibreLoops" (83 : Nat) ({ cls := "FibreLoops$State", name := "passTicks", desc := "(I)I" } : Jvm.MethodName) "FibreLoops") ∈ Tn := tn (i := 411) (by decide +kernel) rfl
theorem tw_413 : (Jvm.Cond.instanceMethod ({ cls := "FibreLoops$State", name := "passTicks", desc := "(I)I" } : Jvm.MethodName)) ∈ Tg := tg (i := 413) (by decide +kernel) rfl
theorem tw_414 : (Jvm.Cond.code ({ cls := "FibreLoops$State", name := "passTicks", desc := "(I)I" } : Jvm.MethodName) prog_8_method_15_code (3 : Nat) (Option.some Jvm.ClassFile.FieldType.int)) ∈ Tg := tg (i := 414) (by decide +kernel) rfl
theorem tw_415 : (Jvm.Cond.methodLink "FibreLoops$State" (138 : Nat) ({ cls := "FibreLoops$State", name := "passOne", desc := "()V" } : Jvm.MethodName)) ∈ Tg := tg (i := 415) (by decide +kernel) rfl
theorem tw_417 : (Jvm.Cond.instanceMethod ({ cls := "FibreLoops$State", name := "passOne", desc := "()V" } : Jvm.MethodName)) ∈ Tg := tg (i := 417) (by decide +kernel) rfl
theorem tw_418 : (Jvm.Cond.code ({ cls := "FibreLoops$State", name := "passOne", desc := "()V" } : Jvm.MethodName) prog_8_method_17_code (4 : Nat) (Option.none : Option Jvm.ClassFile.FieldType)) ∈ Tg := tg (i := 418) (by decide +kernel) rfl
theorem tw_419 : (Jvm.Cond.methodLinkNest "FibreLoops$State" (144 : Nat) ({ cls := "FibreLoops$Ring", name := "moveOn", desc := "(I)V" } : Jvm.MethodName) "FibreLoops") ∈ Tn := tn (i := 419) (by decide +kernel) rfl
theorem tw_421 : (Jvm.Cond.instanceMethod ({ cls := "FibreLoops$Ring", name := "moveOn", desc := "(I)V" } : Jvm.MethodName)) ∈ Tg := tg (i := 421) (by decide +kernel) rfl
theorem tw_422 : (Jvm.Cond.code ({ cls := "FibreLoops$Ring", name := "moveOn", desc := "(I)V" } : Jvm.MethodName) prog_7_method_12_code (3 : Nat) (Option.none : Option Jvm.ClassFile.FieldType)) ∈ Tg := tg (i := 422) (by decide +kernel) rfl
theorem tw_423 : (Jvm.Cond.methodLinkNest "FibreLoops$Ring" (40 : Nat) ({ cls := "FibreLoops", name := "turnRow", desc := "([II)V" } : Jvm.MethodName) "FibreLoops") ∈ Tn := tn (i := 423) (by decide +kernel) rfl
theorem tw_424 : (Jvm.Cond.static ({ cls := "FibreLoops", name := "turnRow", desc := "([II)V" } : Jvm.MethodName)) ∈ Tg := tg (i := 424) (by decide +kernel) rfl
theorem tw_425 : (Jvm.Cond.code ({ cls := "FibreLoops", name := "turnRow", desc := "([II)V" } : Jvm.MethodName) prog_1_method_38_code (3 : Nat) (Option.none : Option Jvm.ClassFile.FieldType)) ∈ Tg := tg (i := 425) (by decide +kernel) rfl
theorem tw_426 : (Jvm.Cond.methodLink "FibreLoops$Ring" (44 : Nat) ({ cls := "FibreLoops$Ring", name := "fade", desc := "(II)V" } : Jvm.MethodName)) ∈ Tg := tg (i := 426) (by decide +kernel) rfl
theorem tw_428 : (Jvm.Cond.instanceMethod ({ cls := "FibreLoops$Ring", name := "fade", desc := "(II)V" } : Jvm.MethodName)) ∈ Tg := tg (i := 428) (by decide +kernel) rfl
theorem tw_429 : (Jvm.Cond.code ({ cls := "FibreLoops$Ring", name := "fade", desc := "(II)V" } : Jvm.MethodName) prog_7_method_13_code (3 : Nat) (Option.none : Option Jvm.ClassFile.FieldType)) ∈ Tg := tg (i := 429) (by decide +kernel) rfl
theorem tw_430 : (Jvm.Cond.methodLinkNest "FibreLoops$State" (150 : Nat) ({ cls := "FibreLoops$Device", name := "actOn", desc := "(LFibreLoops$Ring;LFibreLoops$State;)V" } : Jvm.MethodName) "FibreLoops") ∈ Tn := tn (i := 430) (by decide +kernel) rfl
theorem tw_432 : (Jvm.Cond.instanceMethod ({ cls := "FibreLoops$Device", name := "actOn", desc := "(LFibreLoops$Ring;LFibreLoops$State;)V" } : Jvm.MethodName)) ∈ Tg := tg (i := 432) (by decide +kernel) rfl
theorem tw_433 : (Jvm.Cond.code ({ cls := "FibreLoops$Device", name := "actOn", desc := "(LFibreLoops$Ring;LFibreLoops$State;)V" } : Jvm.MethodName) prog_2_method_7_code (3 : Nat) (Option.none : Option Jvm.ClassFile.FieldType)) ∈ Tg := tg (i := 433) (by decide +kernel) rfl
theorem tw_434 : (Jvm.Cond.methodLink "FibreLoops$Device" (50 : Nat) ({ cls := "FibreLoops$Device", name := "amplify", desc := "(LFibreLoops$Ring;)V" } : Jvm.MethodName)) ∈ Tg := tg (i := 434) (by decide +kernel) rfl
theorem tw_436 : (Jvm.Cond.instanceMethod ({ cls := "FibreLoops$Device", name := "amplify", desc := "(LFibreLoops$Ring;)V" } : Jvm.MethodName)) ∈ Tg := tg (i := 436) (by decide +kernel) rfl
theorem tw_437 : (Jvm.Cond.code ({ cls := "FibreLoops$Device", name := "amplify", desc := "(LFibreLoops$Ring;)V" } : Jvm.MethodName) prog_2_method_8_code (4 : Nat) (Option.none : Option Jvm.ClassFile.FieldType)) ∈ Tg := tg (i := 437) (by decide +kernel) rfl
theorem tw_438 : (Jvm.Cond.methodLinkNest "FibreLoops$Device" (77 : Nat) ({ cls := "FibreLoops$Ring", name := "strengthAt", desc := "(I)I" } : Jvm.MethodName) "FibreLoops") ∈ Tn := tn (i := 438) (by decide +kernel) rfl
theorem tw_439 : (Jvm.Cond.methodLink "FibreLoops$Device" (82 : Nat) ({ cls := "java/lang/Math", name := "min", desc := "(II)I" } : Jvm.MethodName)) ∈ Tg := tg (i := 439) (by decide +kernel) rfl
theorem tw_440 : (Jvm.Cond.methodLinkNest "FibreLoops$Device" (88 : Nat) ({ cls := "FibreLoops$Ring", name := "strengthen", desc := "(II)V" } : Jvm.MethodName) "FibreLoops") ∈ Tn := tn (i := 440) (by decide +kernel) rfl
theorem tw_442 : (Jvm.Cond.instanceMethod ({ cls := "FibreLoops$Ring", name := "strengthen", desc := "(II)V" } : Jvm.MethodName)) ∈ Tg := tg (i := 442) (by decide +kernel) rfl
theorem tw_443 : (Jvm.Cond.code ({ cls := "FibreLoops$Ring", name := "strengthen", desc := "(II)V" } : Jvm.MethodName) prog_7_method_14_code (3 : Nat) (Option.none : Option Jvm.ClassFile.FieldType)) ∈ Tg := tg (i := 443) (by decide +kernel) rfl
theorem tw_444 : (Jvm.Cond.methodLinkNest "FibreLoops$Device" (54 : Nat) ({ cls := "FibreLoops$State", name := "setting", desc := "(I)I" } : Jvm.MethodName) "FibreLoops") ∈ Tn := tn (i := 444) (by decide +kernel) rfl
theorem tw_445 : (Jvm.Cond.methodLink "FibreLoops$Device" (60 : Nat) ({ cls := "FibreLoops$Device", name := "note", desc := "(LFibreLoops$Ring;I)V" } : Jvm.MethodName)) ∈ Tg := tg (i := 445) (by decide +kernel) rfl
theorem tw_447 : (Jvm.Cond.instanceMethod ({ cls := "FibreLoops$Device", name := "note", desc := "(LFibreLoops$Ring;I)V" } : Jvm.MethodName)) ∈ Tg := tg (i := 447) (by decide +kernel) rfl
theorem tw_448 : (Jvm.Cond.code ({ cls := "FibreLoops$Device", name := "note", desc := "(LFibreLoops$Ring;I)V" } : Jvm.MethodName) prog_2_method_9_code (3 : Nat) (Option.none : Option Jvm.ClassFile.FieldType)) ∈ Tg := tg (i := 448) (by decide +kernel) rfl
theorem tw_449 : (Jvm.Cond.methodLinkNest "FibreLoops$Device" (92 : Nat) ({ cls := "FibreLoops", name := "turnRow", desc := "([II)V" } : Jvm.MethodName) "FibreLoops") ∈ Tn := tn (i := 449) (by decide +kernel) rfl
theorem tw_450 : (Jvm.Cond.methodLinkNest "FibreLoops$Device" (96 : Nat) ({ cls := "FibreLoops$Ring", name := "valueAt", desc := "(I)I" } : Jvm.MethodName) "FibreLoops") ∈ Tn := tn (i := 450) (by decide +kernel) rfl
theorem tw_452 : (Jvm.Cond.instanceMethod ({ cls := "FibreLoops$Ring", name := "valueAt", desc := "(I)I" } : Jvm.MethodName)) ∈ Tg := tg (i := 452) (by decide +kernel) rfl
theorem tw_453 : (Jvm.Cond.code ({ cls := "FibreLoops$Ring", name := "valueAt", desc := "(I)I" } : Jvm.MethodName) prog_7_method_6_code (2 : Nat) (Option.some Jvm.ClassFile.FieldType.int)) ∈ Tg := tg (i := 453) (by decide +kernel) rfl
theorem tw_454 : (Jvm.Cond.methodLinkNest "FibreLoops$Device" (99 : Nat) ({ cls := "FibreLoops$Ring", name := "fade", desc := "(II)V" } : Jvm.MethodName) "FibreLoops") ∈ Tn := tn (i := 454) (by decide +kernel) rfl
theorem tw_455 : (Jvm.Cond.methodLink "FibreLoops$Device" (67 : Nat) ({ cls := "FibreLoops$Device", name := "putNext", desc := "(LFibreLoops$Ring;II)V" } : Jvm.MethodName)) ∈ Tg := tg (i := 455) (by decide +kernel) rfl
theorem tw_457 : (Jvm.Cond.instanceMethod ({ cls := "FibreLoops$Device", name := "putNext", desc := "(LFibreLoops$Ring;II)V" } : Jvm.MethodName)) ∈ Tg := tg (i := 457) (by decide +kernel) rfl
theorem tw_458 : (Jvm.Cond.code ({ cls := "FibreLoops$Device", name := "putNext", desc := "(LFibreLoops$Ring;II)V" } : Jvm.MethodName) prog_2_method_10_code (4 : Nat) (Option.none : Option Jvm.ClassFile.FieldType)) ∈ Tg := tg (i := 458) (by decide +kernel) rfl
theorem tw_459 : (Jvm.Cond.methodLinkNest "FibreLoops$Device" (102 : Nat) ({ cls := "FibreLoops$Ring", name := "putIn", desc := "(IIII)V" } : Jvm.MethodName) "FibreLoops") ∈ Tn := tn (i := 459) (by decide +kernel) rfl
theorem tw_460 : (Jvm.Cond.methodLink "FibreLoops$Device" (106 : Nat) ({ cls := "FibreLoops$Device", name := "removeFirst", desc := "()V" } : Jvm.MethodName)) ∈ Tg := tg (i := 460) (by decide +kernel) rfl
theorem tw_462 : (Jvm.Cond.instanceMethod ({ cls := "FibreLoops$Device", name := "removeFirst", desc := "()V" } : Jvm.MethodName)) ∈ Tg := tg (i := 462) (by decide +kernel) rfl
theorem tw_463 : (Jvm.Cond.code ({ cls := "FibreLoops$Device", name := "removeFirst", desc := "()V" } : Jvm.MethodName) prog_2_method_6_code (1 : Nat) (Option.none : Option Jvm.ClassFile.FieldType)) ∈ Tg := tg (i := 463) (by decide +kernel) rfl
theorem tw_464 : (Jvm.Cond.methodLink "FibreLoops$Device" (44 : Nat) ({ cls := "java/lang/System", name := "arraycopy", desc := "(Ljava/lang/Object;ILjava/lang/Object;II)V" } : Jvm.MethodName)) ∈ Tg := tg (i := 464) (by decide +kernel) rfl
theorem tw_465 : (Jvm.Cond.methodLink "FibreLoops$Device" (71 : Nat) ({ cls := "FibreLoops$Device", name := "change", desc := "(LFibreLoops$Ring;)V" } : Jvm.MethodName)) ∈ Tg := tg (i := 465) (by decide +kernel) rfl
theorem tw_467 : (Jvm.Cond.instanceMethod ({ cls := "FibreLoops$Device", name := "change", desc := "(LFibreLoops$Ring;)V" } : Jvm.MethodName)) ∈ Tg := tg (i := 467) (by decide +kernel) rfl
theorem tw_468 : (Jvm.Cond.code ({ cls := "FibreLoops$Device", name := "change", desc := "(LFibreLoops$Ring;)V" } : Jvm.MethodName) prog_2_method_11_code (2 : Nat) (Option.none : Option Jvm.ClassFile.FieldType)) ∈ Tg := tg (i := 468) (by decide +kernel) rfl
theorem tw_469 : (Jvm.Cond.methodLinkNest "FibreLoops$Device" (109 : Nat) ({ cls := "FibreLoops$Ring", name := "changeValue", desc := "(II)V" } : Jvm.MethodName) "FibreLoops") ∈ Tn := tn (i := 469) (by decide +kernel) rfl
theorem tw_471 : (Jvm.Cond.instanceMethod ({ cls := "FibreLoops$Ring", name := "changeValue", desc := "(II)V" } : Jvm.MethodName)) ∈ Tg := tg (i := 471) (by decide +kernel) rfl
theorem tw_472 : (Jvm.Cond.code ({ cls := "FibreLoops$Ring", name := "changeValue", desc := "(II)V" } : Jvm.MethodName) prog_7_method_15_code (3 : Nat) (Option.none : Option Jvm.ClassFile.FieldType)) ∈ Tg := tg (i := 472) (by decide +kernel) rfl
theorem tw_473 : (Jvm.Cond.methodLink "FibreLoops$Device" (74 : Nat) ({ cls := "FibreLoops$Device", name := "dropValue", desc := "(LFibreLoops$Ring;)V" } : Jvm.MethodName)) ∈ Tg := tg (i := 473) (by decide +kernel) rfl
theorem tw_475 : (Jvm.Cond.instanceMethod ({ cls := "FibreLoops$Device", name := "dropValue", desc := "(LFibreLoops$Ring;)V" } : Jvm.MethodName)) ∈ Tg := tg (i := 475) (by decide +kernel) rfl
theorem tw_476 : (Jvm.Cond.code ({ cls := "FibreLoops$Device", name := "dropValue", desc := "(LFibreLoops$Ring;)V" } : Jvm.MethodName) prog_2_method_12_code (2 : Nat) (Option.none : Option Jvm.ClassFile.FieldType)) ∈ Tg := tg (i := 476) (by decide +kernel) rfl
theorem tw_477 : (Jvm.Cond.methodLinkNest "FibreLoops$Device" (112 : Nat) ({ cls := "FibreLoops$Ring", name := "drop", desc := "(I)V" } : Jvm.MethodName) "FibreLoops") ∈ Tn := tn (i := 477) (by decide +kernel) rfl
theorem tw_479 : (Jvm.Cond.instanceMethod ({ cls := "FibreLoops$Ring", name := "drop", desc := "(I)V" } : Jvm.MethodName)) ∈ Tg := tg (i := 479) (by decide +kernel) rfl
theorem tw_480 : (Jvm.Cond.code ({ cls := "FibreLoops$Ring", name := "drop", desc := "(I)V" } : Jvm.MethodName) prog_7_method_17_code (2 : Nat) (Option.none : Option Jvm.ClassFile.FieldType)) ∈ Tg := tg (i := 480) (by decide +kernel) rfl
theorem tw_481 : (Jvm.Cond.methodLinkNest "FibreLoops$State" (160 : Nat) ({ cls := "FibreLoops$Join", name := "actOn", desc := "(LFibreLoops$Ring;LFibreLoops$Ring;)V" } : Jvm.MethodName) "FibreLoops") ∈ Tn := tn (i := 481) (by decide +kernel) rfl
theorem tw_483 : (Jvm.Cond.instanceMethod ({ cls := "FibreLoops$Join", name := "actOn", desc := "(LFibreLoops$Ring;LFibreLoops$Ring;)V" } : Jvm.MethodName)) ∈ Tg := tg (i := 483) (by decide +kernel) rfl
theorem tw_484 : (Jvm.Cond.code ({ cls := "FibreLoops$Join", name := "actOn", desc := "(LFibreLoops$Ring;LFibreLoops$Ring;)V" } : Jvm.MethodName) prog_4_method_4_code (5 : Nat) (Option.none : Option Jvm.ClassFile.FieldType)) ∈ Tg := tg (i := 484) (by decide +kernel) rfl
theorem tw_485 : (Jvm.Cond.methodLinkNest "FibreLoops$Join" (30 : Nat) ({ cls := "FibreLoops$Ring", name := "strengthAt", desc := "(I)I" } : Jvm.MethodName) "FibreLoops") ∈ Tn := tn (i := 485) (by decide +kernel) rfl
theorem tw_486 : (Jvm.Cond.methodLinkNest "FibreLoops$Join" (36 : Nat) ({ cls := "FibreLoops$Ring", name := "exchange", desc := "(ILFibreLoops$Ring;I)V" } : Jvm.MethodName) "FibreLoops") ∈ Tn := tn (i := 486) (by decide +kernel) rfl
theorem tw_488 : (Jvm.Cond.instanceMethod ({ cls := "FibreLoops$Ring", name := "exchange", desc := "(ILFibreLoops$Ring;I)V" } : Jvm.MethodName)) ∈ Tg := tg (i := 488) (by decide +kernel) rfl
theorem tw_489 : (Jvm.Cond.code ({ cls := "FibreLoops$Ring", name := "exchange", desc := "(ILFibreLoops$Ring;I)V" } : Jvm.MethodName) prog_7_method_18_code (7 : Nat) (Option.none : Option Jvm.ClassFile.FieldType)) ∈ Tg := tg (i := 489) (by decide +kernel) rfl
theorem tw_490 : (Jvm.Cond.methodLinkNest "FibreLoops$Join" (40 : Nat) ({ cls := "FibreLoops$Ring", name := "tellCrossing", desc := "(LFibreLoops$Ring;)V" } : Jvm.MethodName) "FibreLoops") ∈ Tn := tn (i := 490) (by decide +kernel) rfl
theorem tw_492 : (Jvm.Cond.instanceMethod ({ cls := "FibreLoops$Ring", name := "tellCrossing", desc := "(LFibreLoops$Ring;)V" } : Jvm.MethodName)) ∈ Tg := tg (i := 492) (by decide +kernel) rfl
theorem tw_493 : (Jvm.Cond.code ({ cls := "FibreLoops$Ring", name := "tellCrossing", desc := "(LFibreLoops$Ring;)V" } : Jvm.MethodName) prog_7_method_19_code (2 : Nat) (Option.none : Option Jvm.ClassFile.FieldType)) ∈ Tg := tg (i := 493) (by decide +kernel) rfl
theorem tw_494 : (Jvm.Cond.methodLinkNest "FibreLoops$State" (163 : Nat) ({ cls := "FibreLoops$Device", name := "rest", desc := "(I)V" } : Jvm.MethodName) "FibreLoops") ∈ Tn := tn (i := 494) (by decide +kernel) rfl
theorem tw_496 : (Jvm.Cond.instanceMethod ({ cls := "FibreLoops$Device", name := "rest", desc := "(I)V" } : Jvm.MethodName)) ∈ Tg := tg (i := 496) (by decide +kernel) rfl
theorem tw_497 : (Jvm.Cond.code ({ cls := "FibreLoops$Device", name := "rest", desc := "(I)V" } : Jvm.MethodName) prog_2_method_13_code (2 : Nat) (Option.none : Option Jvm.ClassFile.FieldType)) ∈ Tg := tg (i := 497) (by decide +kernel) rfl
theorem tw_498 : (Jvm.Cond.methodLink "FibreLoopsLaw" (50 : Nat) ({ cls := "FibreLoops", name := "at", desc := "(III)I" } : Jvm.MethodName)) ∈ Tg := tg (i := 498) (by decide +kernel) rfl
theorem tw_499 : (Jvm.Cond.instanceMethod ({ cls := "FibreLoops", name := "at", desc := "(III)I" } : Jvm.MethodName)) ∈ Tg := tg (i := 499) (by decide +kernel) rfl
theorem tw_500 : (Jvm.Cond.selects "FibreLoops" ({ cls := "FibreLoops", name := "at", desc := "(III)I" } : Jvm.MethodName) ({ cls := "FibreLoops", name := "at", desc := "(III)I" } : Jvm.MethodName)) ∈ Tg := tg (i := 500) (by decide +kernel) rfl
theorem tw_501 : (Jvm.Cond.code ({ cls := "FibreLoops", name := "at", desc := "(III)I" } : Jvm.MethodName) prog_1_method_10_code (5 : Nat) (Option.some Jvm.ClassFile.FieldType.int)) ∈ Tg := tg (i := 501) (by decide +kernel) rfl
theorem tw_502 : (Jvm.Cond.methodLinkNest "FibreLoops" (86 : Nat) ({ cls := "FibreLoops$State", name := "ringWith", desc := "(II)LFibreLoops$Ring;" } : Jvm.MethodName) "FibreLoops") ∈ Tn := tn (i := 502) (by decide +kernel) rfl
theorem tw_503 : (Jvm.Cond.methodLinkNest "FibreLoops" (90 : Nat) ({ cls := "FibreLoops$Ring", name := "valueAt", desc := "(I)I" } : Jvm.MethodName) "FibreLoops") ∈ Tn := tn (i := 503) (by decide +kernel) rfl
theorem tw_504 : (Jvm.Cond.methodLinkNest "FibreLoops" (95 : Nat) ({ cls := "FibreLoops$Ring", name := "strengthAt", desc := "(I)I" } : Jvm.MethodName) "FibreLoops") ∈ Tn := tn (i := 504) (by decide +kernel) rfl
theorem tw_505 : (Jvm.Cond.methodLinkNest "FibreLoops" (102 : Nat) ({ cls := "FibreLoops$Ring", name := "birthAt", desc := "(I)I" } : Jvm.MethodName) "FibreLoops") ∈ Tn := tn (i := 505) (by decide +kernel) rfl
theorem tw_507 : (Jvm.Cond.instanceMethod ({ cls := "FibreLoops$Ring", name := "birthAt", desc := "(I)I" } : Jvm.MethodName)) ∈ Tg := tg (i := 507) (by decide +kernel) rfl
theorem tw_508 : (Jvm.Cond.code ({ cls := "FibreLoops$Ring", name := "birthAt", desc := "(I)I" } : Jvm.MethodName) prog_7_method_7_code (2 : Nat) (Option.some Jvm.ClassFile.FieldType.int)) ∈ Tg := tg (i := 508) (by decide +kernel) rfl
theorem tw_509 : (Jvm.Cond.methodLink "FibreLoopsLaw" (54 : Nat) ({ cls := "FibreLoops", name := "ofLoop", desc := "(II)I" } : Jvm.MethodName)) ∈ Tg := tg (i := 509) (by decide +kernel) rfl
theorem tw_510 : (Jvm.Cond.instanceMethod ({ cls := "FibreLoops", name := "ofLoop", desc := "(II)I" } : Jvm.MethodName)) ∈ Tg := tg (i := 510) (by decide +kernel) rfl
theorem tw_511 : (Jvm.Cond.selects "FibreLoops" ({ cls := "FibreLoops", name := "ofLoop", desc := "(II)I" } : Jvm.MethodName) ({ cls := "FibreLoops", name := "ofLoop", desc := "(II)I" } : Jvm.MethodName)) ∈ Tg := tg (i := 511) (by decide +kernel) rfl
theorem tw_512 : (Jvm.Cond.code ({ cls := "FibreLoops", name := "ofLoop", desc := "(II)I" } : Jvm.MethodName) prog_1_method_11_code (4 : Nat) (Option.some Jvm.ClassFile.FieldType.int)) ∈ Tg := tg (i := 512) (by decide +kernel) rfl
theorem tw_513 : (Jvm.Cond.methodLinkNest "FibreLoops" (108 : Nat) ({ cls := "FibreLoops$State", name := "ringOf", desc := "(I)LFibreLoops$Ring;" } : Jvm.MethodName) "FibreLoops") ∈ Tn := tn (i := 513) (by decide +kernel) rfl
theorem tw_514 : (Jvm.Cond.methodLinkNest "FibreLoops" (112 : Nat) ({ cls := "FibreLoops$Ring", name := "flashes", desc := "()I" } : Jvm.MethodName) "FibreLoops") ∈ Tn := tn (i := 514) (by decide +kernel) rfl
theorem tw_515 : (Jvm.Cond.methodLinkNest "FibreLoops" (116 : Nat) ({ cls := "FibreLoops$Ring", name := "strengthInAll", desc := "()I" } : Jvm.MethodName) "FibreLoops") ∈ Tn := tn (i := 515) (by decide +kernel) rfl
theorem tw_517 : (Jvm.Cond.instanceMethod ({ cls := "FibreLoops$Ring", name := "strengthInAll", desc := "()I" } : Jvm.MethodName)) ∈ Tg := tg (i := 517) (by decide +kernel) rfl
theorem tw_518 : (Jvm.Cond.code ({ cls := "FibreLoops$Ring", name := "strengthInAll", desc := "()I" } : Jvm.MethodName) prog_7_method_10_code (3 : Nat) (Option.some Jvm.ClassFile.FieldType.int)) ∈ Tg := tg (i := 518) (by decide +kernel) rfl
theorem tw_519 : (Jvm.Cond.methodLinkNest "FibreLoops" (119 : Nat) ({ cls := "FibreLoops$Ring", name := "faintest", desc := "()I" } : Jvm.MethodName) "FibreLoops") ∈ Tn := tn (i := 519) (by decide +kernel) rfl
theorem tw_521 : (Jvm.Cond.instanceMethod ({ cls := "FibreLoops$Ring", name := "faintest", desc := "()I" } : Jvm.MethodName)) ∈ Tg := tg (i := 521) (by decide +kernel) rfl
theorem tw_522 : (Jvm.Cond.code ({ cls := "FibreLoops$Ring", name := "faintest", desc := "()I" } : Jvm.MethodName) prog_7_method_11_code (4 : Nat) (Option.some Jvm.ClassFile.FieldType.int)) ∈ Tg := tg (i := 522) (by decide +kernel) rfl
theorem tw_523 : (Jvm.Cond.methodLinkNest "FibreLoops" (122 : Nat) ({ cls := "FibreLoops$Ring", name := "tally", desc := "(I)I" } : Jvm.MethodName) "FibreLoops") ∈ Tn := tn (i := 523) (by decide +kernel) rfl
theorem tw_525 : (Jvm.Cond.instanceMethod ({ cls := "FibreLoops$Ring", name := "tally", desc := "(I)I" } : Jvm.MethodName)) ∈ Tg := tg (i := 525) (by decide +kernel) rfl
theorem tw_526 : (Jvm.Cond.code ({ cls := "FibreLoops$Ring", name := "tally", desc := "(I)I" } : Jvm.MethodName) prog_7_method_8_code (2 : Nat) (Option.some Jvm.ClassFile.FieldType.int)) ∈ Tg := tg (i := 526) (by decide +kernel) rfl
theorem tw_527 : (Jvm.Cond.methodLinkNest "FibreLoops$Ring" (36 : Nat) ({ cls := "FibreLoops", name := "isBetween", desc := "(III)Z" } : Jvm.MethodName) "FibreLoops") ∈ Tn := tn (i := 527) (by decide +kernel) rfl
theorem tw_528 : (Jvm.Cond.methodLink "FibreLoopsLaw" (58 : Nat) ({ cls := "FibreLoops", name := "ofDevice", desc := "(II)I" } : Jvm.MethodName)) ∈ Tg := tg (i := 528) (by decide +kernel) rfl
theorem tw_529 : (Jvm.Cond.instanceMethod ({ cls := "FibreLoops", name := "ofDevice", desc := "(II)I" } : Jvm.MethodName)) ∈ Tg := tg (i := 529) (by decide +kernel) rfl
theorem tw_530 : (Jvm.Cond.selects "FibreLoops" ({ cls := "FibreLoops", name := "ofDevice", desc := "(II)I" } : Jvm.MethodName) ({ cls := "FibreLoops", name := "ofDevice", desc := "(II)I" } : Jvm.MethodName)) ∈ Tg := tg (i := 530) (by decide +kernel) rfl
theorem tw_531 : (Jvm.Cond.code ({ cls := "FibreLoops", name := "ofDevice", desc := "(II)I" } : Jvm.MethodName) prog_1_method_12_code (4 : Nat) (Option.some Jvm.ClassFile.FieldType.int)) ∈ Tg := tg (i := 531) (by decide +kernel) rfl
theorem tw_532 : (Jvm.Cond.methodLinkNest "FibreLoops" (125 : Nat) ({ cls := "FibreLoops$State", name := "deviceOf", desc := "(I)LFibreLoops$Device;" } : Jvm.MethodName) "FibreLoops") ∈ Tn := tn (i := 532) (by decide +kernel) rfl
theorem tw_533 : (Jvm.Cond.methodLink "FibreLoopsLaw" (62 : Nat) ({ cls := "FibreLoops", name := "noted", desc := "(II)I" } : Jvm.MethodName)) ∈ Tg := tg (i := 533) (by decide +kernel) rfl
theorem tw_534 : (Jvm.Cond.instanceMethod ({ cls := "FibreLoops", name := "noted", desc := "(II)I" } : Jvm.MethodName)) ∈ Tg := tg (i := 534) (by decide +kernel) rfl
theorem tw_535 : (Jvm.Cond.selects "FibreLoops" ({ cls := "FibreLoops", name := "noted", desc := "(II)I" } : Jvm.MethodName) ({ cls := "FibreLoops", name := "noted", desc := "(II)I" } : Jvm.MethodName)) ∈ Tg := tg (i := 535) (by decide +kernel) rfl
theorem tw_536 : (Jvm.Cond.code ({ cls := "FibreLoops", name := "noted", desc := "(II)I" } : Jvm.MethodName) prog_1_method_13_code (4 : Nat) (Option.some Jvm.ClassFile.FieldType.int)) ∈ Tg := tg (i := 536) (by decide +kernel) rfl
theorem tw_537 : (Jvm.Cond.methodLinkNest "FibreLoops" (155 : Nat) ({ cls := "FibreLoops$Device", name := "keptAt", desc := "(I)I" } : Jvm.MethodName) "FibreLoops") ∈ Tn := tn (i := 537) (by decide +kernel) rfl
theorem tw_539 : (Jvm.Cond.instanceMethod ({ cls := "FibreLoops$Device", name := "keptAt", desc := "(I)I" } : Jvm.MethodName)) ∈ Tg := tg (i := 539) (by decide +kernel) rfl
theorem tw_540 : (Jvm.Cond.code ({ cls := "FibreLoops$Device", name := "keptAt", desc := "(I)I" } : Jvm.MethodName) prog_2_method_4_code (2 : Nat) (Option.some Jvm.ClassFile.FieldType.int)) ∈ Tg := tg (i := 540) (by decide +kernel) rfl
theorem tw_541 : (Jvm.Cond.methodLink "FibreLoopsLaw" (66 : Nat) ({ cls := "FibreLoops", name := "ofJoin", desc := "(II)I" } : Jvm.MethodName)) ∈ Tg := tg (i := 541) (by decide +kernel) rfl
theorem tw_542 : (Jvm.Cond.instanceMethod ({ cls := "FibreLoops", name := "ofJoin", desc := "(II)I" } : Jvm.MethodName)) ∈ Tg := tg (i := 542) (by decide +kernel) rfl
theorem tw_543 : (Jvm.Cond.selects "FibreLoops" ({ cls := "FibreLoops", name := "ofJoin", desc := "(II)I" } : Jvm.MethodName) ({ cls := "FibreLoops", name := "ofJoin", desc := "(II)I" } : Jvm.MethodName)) ∈ Tg := tg (i := 543) (by decide +kernel) rfl
theorem tw_544 : (Jvm.Cond.code ({ cls := "FibreLoops", name := "ofJoin", desc := "(II)I" } : Jvm.MethodName) prog_1_method_14_code (4 : Nat) (Option.some Jvm.ClassFile.FieldType.int)) ∈ Tg := tg (i := 544) (by decide +kernel) rfl
theorem tw_545 : (Jvm.Cond.methodLinkNest "FibreLoops" (158 : Nat) ({ cls := "FibreLoops$State", name := "joinOf", desc := "(I)LFibreLoops$Join;" } : Jvm.MethodName) "FibreLoops") ∈ Tn := tn (i := 545) (by decide +kernel) rfl
theorem tw_546 : (Jvm.Cond.methodLink "FibreLoopsLaw" (70 : Nat) ({ cls := "FibreLoops", name := "find", desc := "(II)I" } : Jvm.MethodName)) ∈ Tg := tg (i := 546) (by decide +kernel) rfl
theorem tw_547 : (Jvm.Cond.instanceMethod ({ cls := "FibreLoops", name := "find", desc := "(II)I" } : Jvm.MethodName)) ∈ Tg := tg (i := 547) (by decide +kernel) rfl
theorem tw_548 : (Jvm.Cond.selects "FibreLoops" ({ cls := "FibreLoops", name := "find", desc := "(II)I" } : Jvm.MethodName) ({ cls := "FibreLoops", name := "find", desc := "(II)I" } : Jvm.MethodName)) ∈ Tg := tg (i := 548) (by decide +kernel) rfl
theorem tw_549 : (Jvm.Cond.code ({ cls := "FibreLoops", name := "find", desc := "(II)I" } : Jvm.MethodName) prog_1_method_15_code (9 : Nat) (Option.some Jvm.ClassFile.FieldType.int)) ∈ Tg := tg (i := 549) (by decide +kernel) rfl
theorem tw_550 : (Jvm.Cond.methodLink "FibreLoopsLaw" (74 : Nat) ({ cls := "FibreLoops", name := "count", desc := "(I)I" } : Jvm.MethodName)) ∈ Tg := tg (i := 550) (by decide +kernel) rfl
theorem tw_551 : (Jvm.Cond.instanceMethod ({ cls := "FibreLoops", name := "count", desc := "(I)I" } : Jvm.MethodName)) ∈ Tg := tg (i := 551) (by decide +kernel) rfl
theorem tw_552 : (Jvm.Cond.selects "FibreLoops" ({ cls := "FibreLoops", name := "count", desc := "(I)I" } : Jvm.MethodName) ({ cls := "FibreLoops", name := "count", desc := "(I)I" } : Jvm.MethodName)) ∈ Tg := tg (i := 552) (by decide +kernel) rfl
theorem tw_553 : (Jvm.Cond.code ({ cls := "FibreLoops", name := "count", desc := "(I)I" } : Jvm.MethodName) prog_1_method_16_code (2 : Nat) (Option.some Jvm.ClassFile.FieldType.int)) ∈ Tg := tg (i := 553) (by decide +kernel) rfl
theorem tw_554 : (Jvm.Cond.methodLinkNest "FibreLoops" (199 : Nat) ({ cls := "FibreLoops$State", name := "flashesInAll", desc := "()I" } : Jvm.MethodName) "FibreLoops") ∈ Tn := tn (i := 554) (by decide +kernel) rfl
theorem tw_556 : (Jvm.Cond.instanceMethod ({ cls := "FibreLoops$State", name := "flashesInAll", desc := "()I" } : Jvm.MethodName)) ∈ Tg := tg (i := 556) (by decide +kernel) rfl
theorem tw_557 : (Jvm.Cond.code ({ cls := "FibreLoops$State", name := "flashesInAll", desc := "()I" } : Jvm.MethodName) prog_8_method_18_code (3 : Nat) (Option.some Jvm.ClassFile.FieldType.int)) ∈ Tg := tg (i := 557) (by decide +kernel) rfl
theorem tw_558 : (Jvm.Cond.methodLinkNest "FibreLoops" (202 : Nat) ({ cls := "FibreLoops$State", name := "tallyInAll", desc := "(I)I" } : Jvm.MethodName) "FibreLoops") ∈ Tn := tn (i := 558) (by decide +kernel) rfl
theorem tw_560 : (Jvm.Cond.instanceMethod ({ cls := "FibreLoops$State", name := "tallyInAll", desc := "(I)I" } : Jvm.MethodName)) ∈ Tg := tg (i := 560) (by decide +kernel) rfl
theorem tw_561 : (Jvm.Cond.code ({ cls := "FibreLoops$State", name := "tallyInAll", desc := "(I)I" } : Jvm.MethodName) prog_8_method_19_code (4 : Nat) (Option.some Jvm.ClassFile.FieldType.int)) ∈ Tg := tg (i := 561) (by decide +kernel) rfl
theorem tw_562 : (Jvm.Cond.methodLinkNest "FibreLoops$State" (166 : Nat) ({ cls := "FibreLoops$Ring", name := "tally", desc := "(I)I" } : Jvm.MethodName) "FibreLoops") ∈ Tn := tn (i := 562) (by decide +kernel) rfl
theorem tw_563 : (Jvm.Cond.methodLinkNest "FibreLoops" (205 : Nat) ({ cls := "FibreLoops$State", name := "setting", desc := "(I)I" } : Jvm.MethodName) "FibreLoops") ∈ Tn := tn (i := 563) (by decide +kernel) rfl
theorem tw_564 : (Jvm.Cond.methodLink "FibreLoopsLaw" (78 : Nat) ({ cls := "FibreLoops", name := "valueIn", desc := "(III)I" } : Jvm.MethodName)) ∈ Tg := tg (i := 564) (by decide +kernel) rfl
theorem tw_565 : (Jvm.Cond.instanceMethod ({ cls := "FibreLoops", name := "valueIn", desc := "(III)I" } : Jvm.MethodName)) ∈ Tg := tg (i := 565) (by decide +kernel) rfl
theorem tw_566 : (Jvm.Cond.selects "FibreLoops" ({ cls := "FibreLoops", name := "valueIn", desc := "(III)I" } : Jvm.MethodName) ({ cls := "FibreLoops", name := "valueIn", desc := "(III)I" } : Jvm.MethodName)) ∈ Tg := tg (i := 566) (by decide +kernel) rfl
theorem tw_567 : (Jvm.Cond.code ({ cls := "FibreLoops", name := "valueIn", desc := "(III)I" } : Jvm.MethodName) prog_1_method_17_code (5 : Nat) (Option.some Jvm.ClassFile.FieldType.int)) ∈ Tg := tg (i := 567) (by decide +kernel) rfl
theorem tw_568 : (Jvm.Cond.methodLinkNest "FibreLoops" (214 : Nat) ({ cls := "FibreLoops$State", name := "copyFrom", desc := "(LFibreLoops$State;)V" } : Jvm.MethodName) "FibreLoops") ∈ Tn := tn (i := 568) (by decide +kernel) rfl
theorem tw_569 : (Jvm.Cond.methodLink "FibreLoopsLaw" (82 : Nat) ({ cls := "FibreLoops", name := "leftIn", desc := "(I)I" } : Jvm.MethodName)) ∈ Tg := tg (i := 569) (by decide +kernel) rfl
theorem tw_570 : (Jvm.Cond.instanceMethod ({ cls := "FibreLoops", name := "leftIn", desc := "(I)I" } : Jvm.MethodName)) ∈ Tg := tg (i := 570) (by decide +kernel) rfl
theorem tw_571 : (Jvm.Cond.selects "FibreLoops" ({ cls := "FibreLoops", name := "leftIn", desc := "(I)I" } : Jvm.MethodName) ({ cls := "FibreLoops", name := "leftIn", desc := "(I)I" } : Jvm.MethodName)) ∈ Tg := tg (i := 571) (by decide +kernel) rfl
theorem tw_572 : (Jvm.Cond.code ({ cls := "FibreLoops", name := "leftIn", desc := "(I)I" } : Jvm.MethodName) prog_1_method_18_code (2 : Nat) (Option.some Jvm.ClassFile.FieldType.int)) ∈ Tg := tg (i := 572) (by decide +kernel) rfl
theorem tw_573 : (Jvm.Cond.methodLink "FibreLoopsLaw" (86 : Nat) ({ cls := "FibreLoops", name := "firstLoss", desc := "()I" } : Jvm.MethodName)) ∈ Tg := tg (i := 573) (by decide +kernel) rfl
theorem tw_574 : (Jvm.Cond.instanceMethod ({ cls := "FibreLoops", name := "firstLoss", desc := "()I" } : Jvm.MethodName)) ∈ Tg := tg (i := 574) (by decide +kernel) rfl
theorem tw_575 : (Jvm.Cond.selects "FibreLoops" ({ cls := "FibreLoops", name := "firstLoss", desc := "()I" } : Jvm.MethodName) ({ cls := "FibreLoops", name := "firstLoss", desc := "()I" } : Jvm.MethodName)) ∈ Tg := tg (i := 575) (by decide +kernel) rfl
theorem tw_576 : (Jvm.Cond.code ({ cls := "FibreLoops", name := "firstLoss", desc := "()I" } : Jvm.MethodName) prog_1_method_19_code (1 : Nat) (Option.some Jvm.ClassFile.FieldType.int)) ∈ Tg := tg (i := 576) (by decide +kernel) rfl
theorem tw_577 : (Jvm.Cond.methodLinkNest "FibreLoops" (217 : Nat) ({ cls := "FibreLoops$State", name := "ticksToLoss", desc := "(I)I" } : Jvm.MethodName) "FibreLoops") ∈ Tn := tn (i := 577) (by decide +kernel) rfl
theorem tw_579 : (Jvm.Cond.instanceMethod ({ cls := "FibreLoops$State", name := "ticksToLoss", desc := "(I)I" } : Jvm.MethodName)) ∈ Tg := tg (i := 579) (by decide +kernel) rfl
theorem tw_580 : (Jvm.Cond.code ({ cls := "FibreLoops$State", name := "ticksToLoss", desc := "(I)I" } : Jvm.MethodName) prog_8_method_16_code (4 : Nat) (Option.some Jvm.ClassFile.FieldType.int)) ∈ Tg := tg (i := 580) (by decide +kernel) rfl
theorem tw_581 : (Jvm.Cond.methodLink "FibreLoops$State" (141 : Nat) ({ cls := "FibreLoops$State", name := "tallyInAll", desc := "(I)I" } : Jvm.MethodName)) ∈ Tg := tg (i := 581) (by decide +kernel) rfl
theorem tw_582 : (Jvm.Cond.methodLink "FibreLoopsLaw" (91 : Nat) ({ cls := "FibreLoops", name := "bestPlace", desc := "(IIII)I" } : Jvm.MethodName)) ∈ Tg := tg (i := 582) (by decide +kernel) rfl
theorem tw_583 : (Jvm.Cond.instanceMethod ({ cls := "FibreLoops", name := "bestPlace", desc := "(IIII)I" } : Jvm.MethodName)) ∈ Tg := tg (i := 583) (by decide +kernel) rfl
theorem tw_584 : (Jvm.Cond.selects "FibreLoops" ({ cls := "FibreLoops", name := "bestPlace", desc := "(IIII)I" } : Jvm.MethodName) ({ cls := "FibreLoops", name := "bestPlace", desc := "(IIII)I" } : Jvm.MethodName)) ∈ Tg := tg (i := 584) (by decide +kernel) rfl
theorem tw_585 : (Jvm.Cond.code ({ cls := "FibreLoops", name := "bestPlace", desc := "(IIII)I" } : Jvm.MethodName) prog_1_method_20_code (10 : Nat) (Option.some Jvm.ClassFile.FieldType.int)) ∈ Tg := tg (i := 585) (by decide +kernel) rfl
theorem tw_586 : (Jvm.Cond.methodLink "FibreLoops" (220 : Nat) ({ cls := "FibreLoops", name := "fits", desc := "(III)Z" } : Jvm.MethodName)) ∈ Tg := tg (i := 586) (by decide +kernel) rfl
theorem tw_587 : (Jvm.Cond.methodLink "FibreLoopsLaw" (95 : Nat) ({ cls := "FibreLoops", name := "bearable", desc := "()I" } : Jvm.MethodName)) ∈ Tg := tg (i := 587) (by decide +kernel) rfl
theorem tw_588 : (Jvm.Cond.instanceMethod ({ cls := "FibreLoops", name := "bearable", desc := "()I" } : Jvm.MethodName)) ∈ Tg := tg (i := 588) (by decide +kernel) rfl
theorem tw_589 : (Jvm.Cond.selects "FibreLoops" ({ cls := "FibreLoops", name := "bearable", desc := "()I" } : Jvm.MethodName) ({ cls := "FibreLoops", name := "bearable", desc := "()I" } : Jvm.MethodName)) ∈ Tg := tg (i := 589) (by decide +kernel) rfl
theorem tw_590 : (Jvm.Cond.code ({ cls := "FibreLoops", name := "bearable", desc := "()I" } : Jvm.MethodName) prog_1_method_21_code (2 : Nat) (Option.some Jvm.ClassFile.FieldType.int)) ∈ Tg := tg (i := 590) (by decide +kernel) rfl
theorem tw_591 : (Jvm.Cond.fieldLink "FibreLoops" (223 : Nat) "FibreLoops" "HIGHEST_SETTING" "[I") ∈ Tg := tg (i := 591) (by decide +kernel) rfl
theorem tw_592 : (Jvm.Cond.fieldLink "FibreLoops" (227 : Nat) "FibreLoops" "LOWEST_SETTING" "[I") ∈ Tg := tg (i := 592) (by decide +kernel) rfl
theorem tw_593 : (Jvm.Cond.methodLink "FibreLoopsLaw" (101 : Nat) ({ cls := "FibreLoops", name := "put", desc := "(J)I" } : Jvm.MethodName)) ∈ Tg := tg (i := 593) (by decide +kernel) rfl
theorem tw_594 : (Jvm.Cond.instanceMethod ({ cls := "FibreLoops", name := "put", desc := "(J)I" } : Jvm.MethodName)) ∈ Tg := tg (i := 594) (by decide +kernel) rfl
theorem tw_595 : (Jvm.Cond.selects "FibreLoops" ({ cls := "FibreLoops", name := "put", desc := "(J)I" } : Jvm.MethodName) ({ cls := "FibreLoops", name := "put", desc := "(J)I" } : Jvm.MethodName)) ∈ Tg := tg (i := 595) (by decide +kernel) rfl
theorem tw_596 : (Jvm.Cond.code ({ cls := "FibreLoops", name := "put", desc := "(J)I" } : Jvm.MethodName) prog_1_method_22_code (5 : Nat) (Option.some Jvm.ClassFile.FieldType.int)) ∈ Tg := tg (i := 596) (by decide +kernel) rfl
theorem tw_597 : (Jvm.Cond.methodLink "FibreLoops" (230 : Nat) ({ cls := "FibreLoops", name := "signsIn", desc := "(J)I" } : Jvm.MethodName)) ∈ Tg := tg (i := 597) (by decide +kernel) rfl
theorem tw_598 : (Jvm.Cond.static ({ cls := "FibreLoops", name := "signsIn", desc := "(J)I" } : Jvm.MethodName)) ∈ Tg := tg (i := 598) (by decide +kernel) rfl
theorem tw_599 : (Jvm.Cond.code ({ cls := "FibreLoops", name := "signsIn", desc := "(J)I" } : Jvm.MethodName) prog_1_method_36_code (3 : Nat) (Option.some Jvm.ClassFile.FieldType.int)) ∈ Tg := tg (i := 599) (by decide +kernel) rfl
theorem tw_600 : (Jvm.Cond.methodLink "FibreLoops" (234 : Nat) ({ cls := "FibreLoops", name := "signIn", desc := "(JI)C" } : Jvm.MethodName)) ∈ Tg := tg (i := 600) (by decide +kernel) rfl
theorem tw_601 : (Jvm.Cond.static ({ cls := "FibreLoops", name := "signIn", desc := "(JI)C" } : Jvm.MethodName)) ∈ Tg := tg (i := 601) (by decide +kernel) rfl
theorem tw_602 : (Jvm.Cond.code ({ cls := "FibreLoops", name := "signIn", desc := "(JI)C" } : Jvm.MethodName) prog_1_method_35_code (3 : Nat) (Option.some Jvm.ClassFile.FieldType.char)) ∈ Tg := tg (i := 602) (by decide +kernel) rfl
theorem tw_603 : (Jvm.Cond.constantLong "FibreLoops" (279 : Nat) (255 : Int64)) ∈ Tg := tg (i := 603) (by decide +kernel) rfl
theorem tw_604 : (Jvm.Cond.methodLinkNest "FibreLoops" (238 : Nat) ({ cls := "FibreLoops$Pad", name := "append", desc := "(C)V" } : Jvm.MethodName) "FibreLoops") ∈ Tn := tn (i := 604) (by decide +kernel) rfl
theorem tw_606 : (Jvm.Cond.instanceMethod ({ cls := "FibreLoops$Pad", name := "append", desc := "(C)V" } : Jvm.MethodName)) ∈ Tg := tg (i := 606) (by decide +kernel) rfl
theorem tw_607 : (Jvm.Cond.code ({ cls := "FibreLoops$Pad", name := "append", desc := "(C)V" } : Jvm.MethodName) prog_6_method_2_code (2 : Nat) (Option.none : Option Jvm.ClassFile.FieldType)) ∈ Tg := tg (i := 607) (by decide +kernel) rfl
theorem tw_608 : (Jvm.Cond.methodLink "FibreLoopsLaw" (106 : Nat) ({ cls := "FibreLoops", name := "wipe", desc := "()I" } : Jvm.MethodName)) ∈ Tg := tg (i := 608) (by decide +kernel) rfl
theorem tw_609 : (Jvm.Cond.instanceMethod ({ cls := "FibreLoops", name := "wipe", desc := "()I" } : Jvm.MethodName)) ∈ Tg := tg (i := 609) (by decide +kernel) rfl
theorem tw_610 : (Jvm.Cond.selects "FibreLoops" ({ cls := "FibreLoops", name := "wipe", desc := "()I" } : Jvm.MethodName) ({ cls := "FibreLoops", name := "wipe", desc := "()I" } : Jvm.MethodName)) ∈ Tg := tg (i := 610) (by decide +kernel) rfl
theorem tw_611 : (Jvm.Cond.code ({ cls := "FibreLoops", name := "wipe", desc := "()I" } : Jvm.MethodName) prog_1_method_23_code (2 : Nat) (Option.some Jvm.ClassFile.FieldType.int)) ∈ Tg := tg (i := 611) (by decide +kernel) rfl
theorem tw_612 : (Jvm.Cond.methodLinkNest "FibreLoops" (242 : Nat) ({ cls := "FibreLoops$Pad", name := "clear", desc := "()V" } : Jvm.MethodName) "FibreLoops") ∈ Tn := tn (i := 612) (by decide +kernel) rfl
theorem tw_614 : (Jvm.Cond.instanceMethod ({ cls := "FibreLoops$Pad", name := "clear", desc := "()V" } : Jvm.MethodName)) ∈ Tg := tg (i := 614) (by decide +kernel) rfl
theorem tw_615 : (Jvm.Cond.code ({ cls := "FibreLoops$Pad", name := "clear", desc := "()V" } : Jvm.MethodName) prog_6_method_3_code (1 : Nat) (Option.none : Option Jvm.ClassFile.FieldType)) ∈ Tg := tg (i := 615) (by decide +kernel) rfl
theorem tw_616 : (Jvm.Cond.methodLink "FibreLoopsLaw" (110 : Nat) ({ cls := "FibreLoops", name := "fault", desc := "()I" } : Jvm.MethodName)) ∈ Tg := tg (i := 616) (by decide +kernel) rfl
theorem tw_617 : (Jvm.Cond.instanceMethod ({ cls := "FibreLoops", name := "fault", desc := "()I" } : Jvm.MethodName)) ∈ Tg := tg (i := 617) (by decide +kernel) rfl
theorem tw_618 : (Jvm.Cond.selects "FibreLoops" ({ cls := "FibreLoops", name := "fault", desc := "()I" } : Jvm.MethodName) ({ cls := "FibreLoops", name := "fault", desc := "()I" } : Jvm.MethodName)) ∈ Tg := tg (i := 618) (by decide +kernel) rfl
theorem tw_619 : (Jvm.Cond.code ({ cls := "FibreLoops", name := "fault", desc := "()I" } : Jvm.MethodName) prog_1_method_24_code (1 : Nat) (Option.some Jvm.ClassFile.FieldType.int)) ∈ Tg := tg (i := 619) (by decide +kernel) rfl
theorem tw_620 : (Jvm.Cond.methodLinkNest "FibreLoops" (245 : Nat) ({ cls := "FibreLoops$OrderReader", name := "firstFault", desc := "()I" } : Jvm.MethodName) "FibreLoops") ∈ Tn := tn (i := 620) (by decide +kernel) rfl
theorem tw_622 : (Jvm.Cond.instanceMethod ({ cls := "FibreLoops$OrderReader", name := "firstFault", desc := "()I" } : Jvm.MethodName)) ∈ Tg := tg (i := 622) (by decide +kernel) rfl
theorem tw_623 : (Jvm.Cond.code ({ cls := "FibreLoops$OrderReader", name := "firstFault", desc := "()I" } : Jvm.MethodName) prog_5_method_4_code (2 : Nat) (Option.some Jvm.ClassFile.FieldType.int)) ∈ Tg := tg (i := 623) (by decide +kernel) rfl
theorem tw_624 : (Jvm.Cond.methodLink "FibreLoops$OrderReader" (26 : Nat) ({ cls := "FibreLoops$OrderReader", name := "goToStart", desc := "()V" } : Jvm.MethodName)) ∈ Tg := tg (i := 624) (by decide +kernel) rfl
theorem tw_626 : (Jvm.Cond.instanceMethod ({ cls := "FibreLoops$OrderReader", name := "goToStart", desc := "()V" } : Jvm.MethodName)) ∈ Tg := tg (i := 626) (by decide +kernel) rfl
theorem tw_627 : (Jvm.Cond.code ({ cls := "FibreLoops$OrderReader", name := "goToStart", desc := "()V" } : Jvm.MethodName) prog_5_method_2_code (1 : Nat) (Option.none : Option Jvm.ClassFile.FieldType)) ∈ Tg := tg (i := 627) (by decide +kernel) rfl
theorem tw_628 : (Jvm.Cond.methodLink "FibreLoops$OrderReader" (29 : Nat) ({ cls := "FibreLoops$OrderReader", name := "readOrder", desc := "()Z" } : Jvm.MethodName)) ∈ Tg := tg (i := 628) (by decide +kernel) rfl
theorem tw_630 : (Jvm.Cond.instanceMethod ({ cls := "FibreLoops$OrderReader", name := "readOrder", desc := "()Z" } : Jvm.MethodName)) ∈ Tg := tg (i := 630) (by decide +kernel) rfl
theorem tw_631 : (Jvm.Cond.code ({ cls := "FibreLoops$OrderReader", name := "readOrder", desc := "()Z" } : Jvm.MethodName) prog_5_method_6_code (1 : Nat) (Option.some Jvm.ClassFile.FieldType.boolean)) ∈ Tg := tg (i := 631) (by decide +kernel) rfl
theorem tw_632 : (Jvm.Cond.methodLinkNest "FibreLoops$OrderReader" (42 : Nat) ({ cls := "FibreLoops$Pad", name := "signAt", desc := "(I)C" } : Jvm.MethodName) "FibreLoops") ∈ Tn := tn (i := 632) (by decide +kernel) rfl
theorem tw_634 : (Jvm.Cond.instanceMethod ({ cls := "FibreLoops$Pad", name := "signAt", desc := "(I)C" } : Jvm.MethodName)) ∈ Tg := tg (i := 634) (by decide +kernel) rfl
theorem tw_635 : (Jvm.Cond.code ({ cls := "FibreLoops$Pad", name := "signAt", desc := "(I)C" } : Jvm.MethodName) prog_6_method_4_code (2 : Nat) (Option.some Jvm.ClassFile.FieldType.char)) ∈ Tg := tg (i := 635) (by decide +kernel) rfl
theorem tw_636 : (Jvm.Cond.methodLink "FibreLoops$OrderReader" (38 : Nat) ({ cls := "FibreLoops$OrderReader", name := "take", desc := "(C)Z" } : Jvm.MethodName)) ∈ Tg := tg (i := 636) (by decide +kernel) rfl
theorem tw_638 : (Jvm.Cond.instanceMethod ({ cls := "FibreLoops$OrderReader", name := "take", desc := "(C)Z" } : Jvm.MethodName)) ∈ Tg := tg (i := 638) (by decide +kernel) rfl
theorem tw_639 : (Jvm.Cond.code ({ cls := "FibreLoops$OrderReader", name := "take", desc := "(C)Z" } : Jvm.MethodName) prog_5_method_7_code (2 : Nat) (Option.some Jvm.ClassFile.FieldType.boolean)) ∈ Tg := tg (i := 639) (by decide +kernel) rfl
theorem tw_640 : (Jvm.Cond.methodLink "FibreLoops$OrderReader" (50 : Nat) ({ cls := "FibreLoops$OrderReader", name := "readNumber", desc := "()Z" } : Jvm.MethodName)) ∈ Tg := tg (i := 640) (by decide +kernel) rfl
theorem tw_642 : (Jvm.Cond.instanceMethod ({ cls := "FibreLoops$OrderReader", name := "readNumber", desc := "()Z" } : Jvm.MethodName)) ∈ Tg := tg (i := 642) (by decide +kernel) rfl
theorem tw_643 : (Jvm.Cond.code ({ cls := "FibreLoops$OrderReader", name := "readNumber", desc := "()Z" } : Jvm.MethodName) prog_5_method_10_code (3 : Nat) (Option.some Jvm.ClassFile.FieldType.boolean)) ∈ Tg := tg (i := 643) (by decide +kernel) rfl
theorem tw_644 : (Jvm.Cond.methodLink "FibreLoops$OrderReader" (63 : Nat) ({ cls := "FibreLoops$OrderReader", name := "digit", desc := "()I" } : Jvm.MethodName)) ∈ Tg := tg (i := 644) (by decide +kernel) rfl
theorem tw_646 : (Jvm.Cond.instanceMethod ({ cls := "FibreLoops$OrderReader", name := "digit", desc := "()I" } : Jvm.MethodName)) ∈ Tg := tg (i := 646) (by decide +kernel) rfl
theorem tw_647 : (Jvm.Cond.code ({ cls := "FibreLoops$OrderReader", name := "digit", desc := "()I" } : Jvm.MethodName) prog_5_method_9_code (2 : Nat) (Option.some Jvm.ClassFile.FieldType.int)) ∈ Tg := tg (i := 647) (by decide +kernel) rfl
theorem tw_648 : (Jvm.Cond.methodLinkNest "FibreLoops$OrderReader" (59 : Nat) ({ cls := "FibreLoops", name := "isBetween", desc := "(III)Z" } : Jvm.MethodName) "FibreLoops") ∈ Tn := tn (i := 648) (by decide +kernel) rfl
theorem tw_649 : (Jvm.Cond.methodLink "FibreLoops$OrderReader" (67 : Nat) ({ cls := "FibreLoops$OrderReader", name := "keep", desc := "(I)Z" } : Jvm.MethodName)) ∈ Tg := tg (i := 649) (by decide +kernel) rfl
theorem tw_651 : (Jvm.Cond.instanceMethod ({ cls := "FibreLoops$OrderReader", name := "keep", desc := "(I)Z" } : Jvm.MethodName)) ∈ Tg := tg (i := 651) (by decide +kernel) rfl
theorem tw_652 : (Jvm.Cond.code ({ cls := "FibreLoops$OrderReader", name := "keep", desc := "(I)Z" } : Jvm.MethodName) prog_5_method_12_code (2 : Nat) (Option.some Jvm.ClassFile.FieldType.boolean)) ∈ Tg := tg (i := 652) (by decide +kernel) rfl
theorem tw_653 : (Jvm.Cond.methodLink "FibreLoops$OrderReader" (53 : Nat) ({ cls := "FibreLoops$OrderReader", name := "readValues", desc := "()Z" } : Jvm.MethodName)) ∈ Tg := tg (i := 653) (by decide +kernel) rfl
theorem tw_655 : (Jvm.Cond.instanceMethod ({ cls := "FibreLoops$OrderReader", name := "readValues", desc := "()Z" } : Jvm.MethodName)) ∈ Tg := tg (i := 655) (by decide +kernel) rfl
theorem tw_656 : (Jvm.Cond.code ({ cls := "FibreLoops$OrderReader", name := "readValues", desc := "()Z" } : Jvm.MethodName) prog_5_method_8_code (2 : Nat) (Option.some Jvm.ClassFile.FieldType.boolean)) ∈ Tg := tg (i := 656) (by decide +kernel) rfl
theorem tw_657 : (Jvm.Cond.methodLink "FibreLoops$OrderReader" (56 : Nat) ({ cls := "FibreLoops$OrderReader", name := "readMode", desc := "()Z" } : Jvm.MethodName)) ∈ Tg := tg (i := 657) (by decide +kernel) rfl
theorem tw_659 : (Jvm.Cond.instanceMethod ({ cls := "FibreLoops$OrderReader", name := "readMode", desc := "()Z" } : Jvm.MethodName)) ∈ Tg := tg (i := 659) (by decide +kernel) rfl
theorem tw_660 : (Jvm.Cond.code ({ cls := "FibreLoops$OrderReader", name := "readMode", desc := "()Z" } : Jvm.MethodName) prog_5_method_11_code (2 : Nat) (Option.some Jvm.ClassFile.FieldType.boolean)) ∈ Tg := tg (i := 660) (by decide +kernel) rfl
theorem tw_661 : (Jvm.Cond.methodLink "FibreLoopsLaw" (114 : Nat) ({ cls := "FibreLoops", name := "carryOut", desc := "()I" } : Jvm.MethodName)) ∈ Tg := tg (i := 661) (by decide +kernel) rfl
theorem tw_662 : (Jvm.Cond.instanceMethod ({ cls := "FibreLoops", name := "carryOut", desc := "()I" } : Jvm.MethodName)) ∈ Tg := tg (i := 662) (by decide +kernel) rfl
theorem tw_663 : (Jvm.Cond.selects "FibreLoops" ({ cls := "FibreLoops", name := "carryOut", desc := "()I" } : Jvm.MethodName) ({ cls := "FibreLoops", name := "carryOut", desc := "()I" } : Jvm.MethodName)) ∈ Tg := tg (i := 663) (by decide +kernel) rfl
theorem tw_664 : (Jvm.Cond.code ({ cls := "FibreLoops", name := "carryOut", desc := "()I" } : Jvm.MethodName) prog_1_method_25_code (2 : Nat) (Option.some Jvm.ClassFile.FieldType.int)) ∈ Tg := tg (i := 664) (by decide +kernel) rfl
theorem tw_665 : (Jvm.Cond.methodLinkNest "FibreLoops" (248 : Nat) ({ cls := "FibreLoops$OrderReader", name := "goToStart", desc := "()V" } : Jvm.MethodName) "FibreLoops") ∈ Tn := tn (i := 665) (by decide +kernel) rfl
theorem tw_666 : (Jvm.Cond.methodLinkNest "FibreLoops" (251 : Nat) ({ cls := "FibreLoops$OrderReader", name := "readNext", desc := "()Z" } : Jvm.MethodName) "FibreLoops") ∈ Tn := tn (i := 666) (by decide +kernel) rfl
theorem tw_668 : (Jvm.Cond.instanceMethod ({ cls := "FibreLoops$OrderReader", name := "readNext", desc := "()Z" } : Jvm.MethodName)) ∈ Tg := tg (i := 668) (by decide +kernel) rfl
theorem tw_669 : (Jvm.Cond.code ({ cls := "FibreLoops$OrderReader", name := "readNext", desc := "()Z" } : Jvm.MethodName) prog_5_method_5_code (1 : Nat) (Option.some Jvm.ClassFile.FieldType.boolean)) ∈ Tg := tg (i := 669) (by decide +kernel) rfl
theorem tw_670 : (Jvm.Cond.methodLink "FibreLoops" (255 : Nat) ({ cls := "FibreLoops", name := "carryOrder", desc := "()Z" } : Jvm.MethodName)) ∈ Tg := tg (i := 670) (by decide +kernel) rfl
theorem tw_672 : (Jvm.Cond.instanceMethod ({ cls := "FibreLoops", name := "carryOrder", desc := "()Z" } : Jvm.MethodName)) ∈ Tg := tg (i := 672) (by decide +kernel) rfl
theorem tw_673 : (Jvm.Cond.code ({ cls := "FibreLoops", name := "carryOrder", desc := "()Z" } : Jvm.MethodName) prog_1_method_26_code (2 : Nat) (Option.some Jvm.ClassFile.FieldType.boolean)) ∈ Tg := tg (i := 673) (by decide +kernel) rfl
theorem tw_674 : (Jvm.Cond.methodLinkNest "FibreLoops" (258 : Nat) ({ cls := "FibreLoops$OrderReader", name := "number", desc := "(I)I" } : Jvm.MethodName) "FibreLoops") ∈ Tn := tn (i := 674) (by decide +kernel) rfl
theorem tw_676 : (Jvm.Cond.instanceMethod ({ cls := "FibreLoops$OrderReader", name := "number", desc := "(I)I" } : Jvm.MethodName)) ∈ Tg := tg (i := 676) (by decide +kernel) rfl
theorem tw_677 : (Jvm.Cond.code ({ cls := "FibreLoops$OrderReader", name := "number", desc := "(I)I" } : Jvm.MethodName) prog_5_method_3_code (2 : Nat) (Option.some Jvm.ClassFile.FieldType.int)) ∈ Tg := tg (i := 677) (by decide +kernel) rfl
theorem tw_678 : (Jvm.Cond.methodLink "FibreLoops" (265 : Nat) ({ cls := "FibreLoops", name := "feedAll", desc := "(I)Z" } : Jvm.MethodName)) ∈ Tg := tg (i := 678) (by decide +kernel) rfl
theorem tw_680 : (Jvm.Cond.instanceMethod ({ cls := "FibreLoops", name := "feedAll", desc := "(I)Z" } : Jvm.MethodName)) ∈ Tg := tg (i := 680) (by decide +kernel) rfl
theorem tw_681 : (Jvm.Cond.code ({ cls := "FibreLoops", name := "feedAll", desc := "(I)Z" } : Jvm.MethodName) prog_1_method_27_code (3 : Nat) (Option.some Jvm.ClassFile.FieldType.boolean)) ∈ Tg := tg (i := 681) (by decide +kernel) rfl
theorem tw_682 : (Jvm.Cond.methodLink "FibreLoopsLaw" (118 : Nat) ({ cls := "FibreLoops", name := "undo", desc := "()I" } : Jvm.MethodName)) ∈ Tg := tg (i := 682) (by decide +kernel) rfl
theorem tw_683 : (Jvm.Cond.instanceMethod ({ cls := "FibreLoops", name := "undo", desc := "()I" } : Jvm.MethodName)) ∈ Tg := tg (i := 683) (by decide +kernel) rfl
theorem tw_684 : (Jvm.Cond.selects "FibreLoops" ({ cls := "FibreLoops", name := "undo", desc := "()I" } : Jvm.MethodName) ({ cls := "FibreLoops", name := "undo", desc := "()I" } : Jvm.MethodName)) ∈ Tg := tg (i := 684) (by decide +kernel) rfl
theorem tw_685 : (Jvm.Cond.code ({ cls := "FibreLoops", name := "undo", desc := "()I" } : Jvm.MethodName) prog_1_method_28_code (2 : Nat) (Option.some Jvm.ClassFile.FieldType.int)) ∈ Tg := tg (i := 685) (by decide +kernel) rfl
theorem tw_686 : (Jvm.Cond.methodLinkNest "FibreLoops" (271 : Nat) ({ cls := "FibreLoops$History", name := "takeLatest", desc := "()LFibreLoops$State;" } : Jvm.MethodName) "FibreLoops") ∈ Tn := tn (i := 686) (by decide +kernel) rfl
theorem tw_688 : (Jvm.Cond.instanceMethod ({ cls := "FibreLoops$History", name := "takeLatest", desc := "()LFibreLoops$State;" } : Jvm.MethodName)) ∈ Tg := tg (i := 688) (by decide +kernel) rfl
theorem tw_689 : (Jvm.Cond.code ({ cls := "FibreLoops$History", name := "takeLatest", desc := "()LFibreLoops$State;" } : Jvm.MethodName) prog_3_method_5_code (1 : Nat) (Option.some (Jvm.ClassFile.FieldType.object "FibreLoops$State"))) ∈ Tg := tg (i := 689) (by decide +kernel) rfl
theorem tw_690 : (Jvm.Cond.methodLink "FibreLoopsLaw" (122 : Nat) ({ cls := "FibreLoops", name := "save", desc := "(I)I" } : Jvm.MethodName)) ∈ Tg := tg (i := 690) (by decide +kernel) rfl
theorem tw_691 : (Jvm.Cond.instanceMethod ({ cls := "FibreLoops", name := "save", desc := "(I)I" } : Jvm.MethodName)) ∈ Tg := tg (i := 691) (by decide +kernel) rfl
theorem tw_692 : (Jvm.Cond.selects "FibreLoops" ({ cls := "FibreLoops", name := "save", desc := "(I)I" } : Jvm.MethodName) ({ cls := "FibreLoops", name := "save", desc := "(I)I" } : Jvm.MethodName)) ∈ Tg := tg (i := 692) (by decide +kernel) rfl
theorem tw_693 : (Jvm.Cond.code ({ cls := "FibreLoops", name := "save", desc := "(I)I" } : Jvm.MethodName) prog_1_method_29_code (3 : Nat) (Option.some Jvm.ClassFile.FieldType.int)) ∈ Tg := tg (i := 693) (by decide +kernel) rfl
theorem tw_694 : (Jvm.Cond.methodLink "FibreLoops" (275 : Nat) ({ cls := "FibreLoops", name := "slotOf", desc := "(I)LFibreLoops$State;" } : Jvm.MethodName)) ∈ Tg := tg (i := 694) (by decide +kernel) rfl
theorem tw_696 : (Jvm.Cond.instanceMethod ({ cls := "FibreLoops", name := "slotOf", desc := "(I)LFibreLoops$State;" } : Jvm.MethodName)) ∈ Tg := tg (i := 696) (by decide +kernel) rfl
theorem tw_697 : (Jvm.Cond.code ({ cls := "FibreLoops", name := "slotOf", desc := "(I)LFibreLoops$State;" } : Jvm.MethodName) prog_1_method_31_code (2 : Nat) (Option.some (Jvm.ClassFile.FieldType.object "FibreLoops$State"))) ∈ Tg := tg (i := 697) (by decide +kernel) rfl
theorem tw_698 : (Jvm.Cond.methodLink "FibreLoopsLaw" (126 : Nat) ({ cls := "FibreLoops", name := "restore", desc := "(I)I" } : Jvm.MethodName)) ∈ Tg := tg (i := 698) (by decide +kernel) rfl
theorem tw_699 : (Jvm.Cond.instanceMethod ({ cls := "FibreLoops", name := "restore", desc := "(I)I" } : Jvm.MethodName)) ∈ Tg := tg (i := 699) (by decide +kernel) rfl
theorem tw_700 : (Jvm.Cond.selects "FibreLoops" ({ cls := "FibreLoops", name := "restore", desc := "(I)I" } : Jvm.MethodName) ({ cls := "FibreLoops", name := "restore", desc := "(I)I" } : Jvm.MethodName)) ∈ Tg := tg (i := 700) (by decide +kernel) rfl
theorem tw_701 : (Jvm.Cond.code ({ cls := "FibreLoops", name := "restore", desc := "(I)I" } : Jvm.MethodName) prog_1_method_30_code (3 : Nat) (Option.some Jvm.ClassFile.FieldType.int)) ∈ Tg := tg (i := 701) (by decide +kernel) rfl
theorem tw_702 : (Jvm.Cond.classLink "FibreLoopsLaw" (10 : Nat) "FibreLoopsModel") ∈ Tg := tg (i := 702) (by decide +kernel) rfl
theorem tw_703 : (Jvm.Cond.instantiable "FibreLoopsModel" (16 : Nat)) ∈ Tg := tg (i := 703) (by decide +kernel) rfl
theorem tw_704 : (Jvm.Cond.methodLink "FibreLoopsLaw" (12 : Nat) ({ cls := "FibreLoopsModel", name := "<init>", desc := "()V" } : Jvm.MethodName)) ∈ Tg := tg (i := 704) (by decide +kernel) rfl
theorem tw_705 : (Jvm.Cond.instanceMethod ({ cls := "FibreLoopsModel", name := "<init>", desc := "()V" } : Jvm.MethodName)) ∈ Tg := tg (i := 705) (by decide +kernel) rfl
theorem tw_706 : (Jvm.Cond.code ({ cls := "FibreLoopsModel", name := "<init>", desc := "()V" } : Jvm.MethodName) prog_10_method_1_code (2 : Nat) (Option.none : Option Jvm.ClassFile.FieldType)) ∈ Tg := tg (i := 706) (by decide +kernel) rfl
theorem tw_707 : (Jvm.Cond.methodLink "FibreLoopsModel" (1 : Nat) ({ cls := "java/lang/Object", name := "<init>", desc := "()V" } : Jvm.MethodName)) ∈ Tg := tg (i := 707) (by decide +kernel) rfl
theorem tw_708 : (Jvm.Cond.fieldLink "FibreLoopsModel" (7 : Nat) "FibreLoopsModel" "at" "[I") ∈ Tg := tg (i := 708) (by decide +kernel) rfl
theorem tw_709 : (Jvm.Cond.fieldLink "FibreLoopsModel" (13 : Nat) "FibreLoopsModel" "past" "[I") ∈ Tg := tg (i := 709) (by decide +kernel) rfl
theorem tw_710 : (Jvm.Cond.fieldLink "FibreLoopsModel" (54 : Nat) "FibreLoopsModel" "pastFirst" "I") ∈ Tg := tg (i := 710) (by decide +kernel) rfl
theorem tw_711 : (Jvm.Cond.fieldLink "FibreLoopsModel" (50 : Nat) "FibreLoopsModel" "pastMany" "I") ∈ Tg := tg (i := 711) (by decide +kernel) rfl
theorem tw_712 : (Jvm.Cond.fieldLink "FibreLoopsModel" (16 : Nat) "FibreLoopsModel" "slots" "[I") ∈ Tg := tg (i := 712) (by decide +kernel) rfl
theorem tw_713 : (Jvm.Cond.fieldLink "FibreLoopsModel" (19 : Nat) "FibreLoopsModel" "isSaved" "[Z") ∈ Tg := tg (i := 713) (by decide +kernel) rfl
theorem tw_714 : (Jvm.Cond.fieldLink "FibreLoopsModel" (23 : Nat) "FibreLoopsModel" "aside" "[I") ∈ Tg := tg (i := 714) (by decide +kernel) rfl
theorem tw_715 : (Jvm.Cond.fieldLink "FibreLoopsModel" (26 : Nat) "FibreLoopsModel" "pad" "[I") ∈ Tg := tg (i := 715) (by decide +kernel) rfl
theorem tw_716 : (Jvm.Cond.fieldLink "FibreLoopsModel" (178 : Nat) "FibreLoopsModel" "padMany" "I") ∈ Tg := tg (i := 716) (by decide +kernel) rfl
theorem tw_717 : (Jvm.Cond.fieldLink "FibreLoopsModel" (192 : Nat) "FibreLoopsModel" "spot" "I") ∈ Tg := tg (i := 717) (by decide +kernel) rfl
theorem tw_718 : (Jvm.Cond.fieldLink "FibreLoopsModel" (195 : Nat) "FibreLoopsModel" "isWrong" "Z") ∈ Tg := tg (i := 718) (by decide +kernel) rfl
theorem tw_719 : (Jvm.Cond.fieldLink "FibreLoopsModel" (206 : Nat) "FibreLoopsModel" "orders" "I") ∈ Tg := tg (i := 719) (by decide +kernel) rfl
theorem tw_720 : (Jvm.Cond.fieldLink "FibreLoopsModel" (203 : Nat) "FibreLoopsModel" "read" "I") ∈ Tg := tg (i := 720) (by decide +kernel) rfl
theorem tw_721 : (Jvm.Cond.fieldLink "FibreLoopsModel" (29 : Nat) "FibreLoopsModel" "sort" "[I") ∈ Tg := tg (i := 721) (by decide +kernel) rfl
theorem tw_722 : (Jvm.Cond.fieldLink "FibreLoopsModel" (32 : Nat) "FibreLoopsModel" "begins" "[I") ∈ Tg := tg (i := 722) (by decide +kernel) rfl
theorem tw_723 : (Jvm.Cond.fieldLink "FibreLoopsModel" (35 : Nat) "FibreLoopsModel" "numbers" "[I") ∈ Tg := tg (i := 723) (by decide +kernel) rfl
theorem tw_724 : (Jvm.Cond.laysFinal "FibreLoopsModel" "FibreLoopsModel" "at" "[I") ∈ Tg := tg (i := 724) (by decide +kernel) rfl
theorem tw_726 : (Jvm.Cond.laysFinal "FibreLoopsModel" "FibreLoopsModel" "past" "[I") ∈ Tg := tg (i := 726) (by decide +kernel) rfl
theorem tw_728 : (Jvm.Cond.lays "FibreLoopsModel" "FibreLoopsModel" "pastFirst" "I") ∈ Tg := tg (i := 728) (by decide +kernel) rfl
theorem tw_730 : (Jvm.Cond.lays "FibreLoopsModel" "FibreLoopsModel" "pastMany" "I") ∈ Tg := tg (i := 730) (by decide +kernel) rfl
theorem tw_732 : (Jvm.Cond.laysFinal "FibreLoopsModel" "FibreLoopsModel" "slots" "[I") ∈ Tg := tg (i := 732) (by decide +kernel) rfl
theorem tw_734 : (Jvm.Cond.laysFinal "FibreLoopsModel" "FibreLoopsModel" "isSaved" "[Z") ∈ Tg := tg (i := 734) (by decide +kernel) rfl
theorem tw_736 : (Jvm.Cond.laysFinal "FibreLoopsModel" "FibreLoopsModel" "aside" "[I") ∈ Tg := tg (i := 736) (by decide +kernel) rfl
theorem tw_738 : (Jvm.Cond.laysFinal "FibreLoopsModel" "FibreLoopsModel" "pad" "[I") ∈ Tg := tg (i := 738) (by decide +kernel) rfl
theorem tw_740 : (Jvm.Cond.lays "FibreLoopsModel" "FibreLoopsModel" "padMany" "I") ∈ Tg := tg (i := 740) (by decide +kernel) rfl
theorem tw_742 : (Jvm.Cond.lays "FibreLoopsModel" "FibreLoopsModel" "spot" "I") ∈ Tg := tg (i := 742) (by decide +kernel) rfl
theorem tw_744 : (Jvm.Cond.lays "FibreLoopsModel" "FibreLoopsModel" "isWrong" "Z") ∈ Tg := tg (i := 744) (by decide +kernel) rfl
theorem tw_746 : (Jvm.Cond.lays "FibreLoopsModel" "FibreLoopsModel" "orders" "I") ∈ Tg := tg (i := 746) (by decide +kernel) rfl
theorem tw_748 : (Jvm.Cond.lays "FibreLoopsModel" "FibreLoopsModel" "read" "I") ∈ Tg := tg (i := 748) (by decide +kernel) rfl
theorem tw_750 : (Jvm.Cond.laysFinal "FibreLoopsModel" "FibreLoopsModel" "sort" "[I") ∈ Tg := tg (i := 750) (by decide +kernel) rfl
theorem tw_752 : (Jvm.Cond.laysFinal "FibreLoopsModel" "FibreLoopsModel" "begins" "[I") ∈ Tg := tg (i := 752) (by decide +kernel) rfl
theorem tw_754 : (Jvm.Cond.laysFinal "FibreLoopsModel" "FibreLoopsModel" "numbers" "[I") ∈ Tg := tg (i := 754) (by decide +kernel) rfl
theorem tw_757 : (Jvm.Cond.methodLink "FibreLoopsLaw" (17 : Nat) ({ cls := "FibreLoopsModel", name := "set", desc := "(II)I" } : Jvm.MethodName)) ∈ Tg := tg (i := 757) (by decide +kernel) rfl
theorem tw_758 : (Jvm.Cond.instanceMethod ({ cls := "FibreLoopsModel", name := "set", desc := "(II)I" } : Jvm.MethodName)) ∈ Tg := tg (i := 758) (by decide +kernel) rfl
theorem tw_759 : (Jvm.Cond.selects "FibreLoopsModel" ({ cls := "FibreLoopsModel", name := "set", desc := "(II)I" } : Jvm.MethodName) ({ cls := "FibreLoopsModel", name := "set", desc := "(II)I" } : Jvm.MethodName)) ∈ Tg := tg (i := 759) (by decide +kernel) rfl
theorem tw_760 : (Jvm.Cond.code ({ cls := "FibreLoopsModel", name := "set", desc := "(II)I" } : Jvm.MethodName) prog_10_method_35_code (4 : Nat) (Option.some Jvm.ClassFile.FieldType.int)) ∈ Tg := tg (i := 760) (by decide +kernel) rfl
theorem tw_761 : (Jvm.Cond.methodLink "FibreLoopsModel" (38 : Nat) ({ cls := "FibreLoopsModel", name := "in", desc := "(III)Z" } : Jvm.MethodName)) ∈ Tg := tg (i := 761) (by decide +kernel) rfl
theorem tw_762 : (Jvm.Cond.static ({ cls := "FibreLoopsModel", name := "in", desc := "(III)Z" } : Jvm.MethodName)) ∈ Tg := tg (i := 762) (by decide +kernel) rfl
theorem tw_763 : (Jvm.Cond.code ({ cls := "FibreLoopsModel", name := "in", desc := "(III)Z" } : Jvm.MethodName) prog_10_method_3_code (3 : Nat) (Option.some Jvm.ClassFile.FieldType.boolean)) ∈ Tg := tg (i := 763) (by decide +kernel) rfl
theorem tw_764 : (Jvm.Cond.methodLink "FibreLoopsModel" (123 : Nat) ({ cls := "FibreLoopsModel", name := "highest", desc := "(I)I" } : Jvm.MethodName)) ∈ Tg := tg (i := 764) (by decide +kernel) rfl
theorem tw_765 : (Jvm.Cond.static ({ cls := "FibreLoopsModel", name := "highest", desc := "(I)I" } : Jvm.MethodName)) ∈ Tg := tg (i := 765) (by decide +kernel) rfl
theorem tw_766 : (Jvm.Cond.code ({ cls := "FibreLoopsModel", name := "highest", desc := "(I)I" } : Jvm.MethodName) prog_10_method_34_code (1 : Nat) (Option.some Jvm.ClassFile.FieldType.int)) ∈ Tg := tg (i := 766) (by decide +kernel) rfl
theorem tw_767 : (Jvm.Cond.methodLink "FibreLoopsModel" (57 : Nat) ({ cls := "FibreLoopsModel", name := "keep", desc := "()V" } : Jvm.MethodName)) ∈ Tg := tg (i := 767) (by decide +kernel) rfl
theorem tw_769 : (Jvm.Cond.instanceMethod ({ cls := "FibreLoopsModel", name := "keep", desc := "()V" } : Jvm.MethodName)) ∈ Tg := tg (i := 769) (by decide +kernel) rfl
theorem tw_770 : (Jvm.Cond.code ({ cls := "FibreLoopsModel", name := "keep", desc := "()V" } : Jvm.MethodName) prog_10_method_14_code (3 : Nat) (Option.none : Option Jvm.ClassFile.FieldType)) ∈ Tg := tg (i := 770) (by decide +kernel) rfl
theorem tw_771 : (Jvm.Cond.methodLink "FibreLoopsLaw" (22 : Nat) ({ cls := "FibreLoopsModel", name := "loop", desc := "(I)I" } : Jvm.MethodName)) ∈ Tg := tg (i := 771) (by decide +kernel) rfl
theorem tw_772 : (Jvm.Cond.instanceMethod ({ cls := "FibreLoopsModel", name := "loop", desc := "(I)I" } : Jvm.MethodName)) ∈ Tg := tg (i := 772) (by decide +kernel) rfl
theorem tw_773 : (Jvm.Cond.selects "FibreLoopsModel" ({ cls := "FibreLoopsModel", name := "loop", desc := "(I)I" } : Jvm.MethodName) ({ cls := "FibreLoopsModel", name := "loop", desc := "(I)I" } : Jvm.MethodName)) ∈ Tg := tg (i := 773) (by decide +kernel) rfl
theorem tw_774 : (Jvm.Cond.code ({ cls := "FibreLoopsModel", name := "loop", desc := "(I)I" } : Jvm.MethodName) prog_10_method_36_code (2 : Nat) (Option.some Jvm.ClassFile.FieldType.int)) ∈ Tg := tg (i := 774) (by decide +kernel) rfl
theorem tw_775 : (Jvm.Cond.methodLink "FibreLoopsLaw" (27 : Nat) ({ cls := "FibreLoopsModel", name := "device", desc := "(IIIII)I" } : Jvm.MethodName)) ∈ Tg := tg (i := 775) (by decide +kernel) rfl
theorem tw_776 : (Jvm.Cond.instanceMethod ({ cls := "FibreLoopsModel", name := "device", desc := "(IIIII)I" } : Jvm.MethodName)) ∈ Tg := tg (i := 776) (by decide +kernel) rfl
theorem tw_777 : (Jvm.Cond.selects "FibreLoopsModel" ({ cls := "FibreLoopsModel", name := "device", desc := "(IIIII)I" } : Jvm.MethodName) ({ cls := "FibreLoopsModel", name := "device", desc := "(IIIII)I" } : Jvm.MethodName)) ∈ Tg := tg (i := 777) (by decide +kernel) rfl
theorem tw_778 : (Jvm.Cond.code ({ cls := "FibreLoopsModel", name := "device", desc := "(IIIII)I" } : Jvm.MethodName) prog_10_method_39_code (6 : Nat) (Option.some Jvm.ClassFile.FieldType.int)) ∈ Tg := tg (i := 778) (by decide +kernel) rfl
theorem tw_779 : (Jvm.Cond.methodLink "FibreLoopsModel" (130 : Nat) ({ cls := "FibreLoopsModel", name := "isPlace", desc := "(II)Z" } : Jvm.MethodName)) ∈ Tg := tg (i := 779) (by decide +kernel) rfl
theorem tw_781 : (Jvm.Cond.instanceMethod ({ cls := "FibreLoopsModel", name := "isPlace", desc := "(II)Z" } : Jvm.MethodName)) ∈ Tg := tg (i := 781) (by decide +kernel) rfl
theorem tw_782 : (Jvm.Cond.code ({ cls := "FibreLoopsModel", name := "isPlace", desc := "(II)Z" } : Jvm.MethodName) prog_10_method_11_code (3 : Nat) (Option.some Jvm.ClassFile.FieldType.boolean)) ∈ Tg := tg (i := 782) (by decide +kernel) rfl
theorem tw_783 : (Jvm.Cond.methodLink "FibreLoopsModel" (42 : Nat) ({ cls := "FibreLoopsModel", name := "isLoop", desc := "(I)Z" } : Jvm.MethodName)) ∈ Tg := tg (i := 783) (by decide +kernel) rfl
theorem tw_785 : (Jvm.Cond.instanceMethod ({ cls := "FibreLoopsModel", name := "isLoop", desc := "(I)Z" } : Jvm.MethodName)) ∈ Tg := tg (i := 785) (by decide +kernel) rfl
theorem tw_786 : (Jvm.Cond.code ({ cls := "FibreLoopsModel", name := "isLoop", desc := "(I)Z" } : Jvm.MethodName) prog_10_method_10_code (2 : Nat) (Option.some Jvm.ClassFile.FieldType.boolean)) ∈ Tg := tg (i := 786) (by decide +kernel) rfl
theorem tw_787 : (Jvm.Cond.methodLink "FibreLoopsModel" (46 : Nat) ({ cls := "FibreLoopsModel", name := "ofL", desc := "(II)I" } : Jvm.MethodName)) ∈ Tg := tg (i := 787) (by decide +kernel) rfl
theorem tw_789 : (Jvm.Cond.instanceMethod ({ cls := "FibreLoopsModel", name := "ofL", desc := "(II)I" } : Jvm.MethodName)) ∈ Tg := tg (i := 789) (by decide +kernel) rfl
theorem tw_790 : (Jvm.Cond.code ({ cls := "FibreLoopsModel", name := "ofL", desc := "(II)I" } : Jvm.MethodName) prog_10_method_4_code (3 : Nat) (Option.some Jvm.ClassFile.FieldType.int)) ∈ Tg := tg (i := 790) (by decide +kernel) rfl
theorem tw_791 : (Jvm.Cond.methodLink "FibreLoopsModel" (134 : Nat) ({ cls := "FibreLoopsModel", name := "areNumbers", desc := "(III)Z" } : Jvm.MethodName)) ∈ Tg := tg (i := 791) (by decide +kernel) rfl
theorem tw_792 : (Jvm.Cond.static ({ cls := "FibreLoopsModel", name := "areNumbers", desc := "(III)Z" } : Jvm.MethodName)) ∈ Tg := tg (i := 792) (by decide +kernel) rfl
theorem tw_793 : (Jvm.Cond.code ({ cls := "FibreLoopsModel", name := "areNumbers", desc := "(III)Z" } : Jvm.MethodName) prog_10_method_37_code (3 : Nat) (Option.some Jvm.ClassFile.FieldType.boolean)) ∈ Tg := tg (i := 793) (by decide +kernel) rfl
theorem tw_794 : (Jvm.Cond.methodLink "FibreLoopsModel" (127 : Nat) ({ cls := "FibreLoopsModel", name := "isValue", desc := "(I)Z" } : Jvm.MethodName)) ∈ Tg := tg (i := 794) (by decide +kernel) rfl
theorem tw_795 : (Jvm.Cond.static ({ cls := "FibreLoopsModel", name := "isValue", desc := "(I)Z" } : Jvm.MethodName)) ∈ Tg := tg (i := 795) (by decide +kernel) rfl
theorem tw_796 : (Jvm.Cond.code ({ cls := "FibreLoopsModel", name := "isValue", desc := "(I)Z" } : Jvm.MethodName) prog_10_method_13_code (1 : Nat) (Option.some Jvm.ClassFile.FieldType.boolean)) ∈ Tg := tg (i := 796) (by decide +kernel) rfl
theorem tw_797 : (Jvm.Cond.methodLink "FibreLoopsModel" (137 : Nat) ({ cls := "FibreLoopsModel", name := "make", desc := "(IIIII)V" } : Jvm.MethodName)) ∈ Tg := tg (i := 797) (by decide +kernel) rfl
theorem tw_799 : (Jvm.Cond.instanceMethod ({ cls := "FibreLoopsModel", name := "make", desc := "(IIIII)V" } : Jvm.MethodName)) ∈ Tg := tg (i := 799) (by decide +kernel) rfl
theorem tw_800 : (Jvm.Cond.code ({ cls := "FibreLoopsModel", name := "make", desc := "(IIIII)V" } : Jvm.MethodName) prog_10_method_38_code (7 : Nat) (Option.none : Option Jvm.ClassFile.FieldType)) ∈ Tg := tg (i := 800) (by decide +kernel) rfl
theorem tw_801 : (Jvm.Cond.methodLink "FibreLoopsModel" (81 : Nat) ({ cls := "FibreLoopsModel", name := "layD", desc := "(III)V" } : Jvm.MethodName)) ∈ Tg := tg (i := 801) (by decide +kernel) rfl
theorem tw_803 : (Jvm.Cond.instanceMethod ({ cls := "FibreLoopsModel", name := "layD", desc := "(III)V" } : Jvm.MethodName)) ∈ Tg := tg (i := 803) (by decide +kernel) rfl
theorem tw_804 : (Jvm.Cond.code ({ cls := "FibreLoopsModel", name := "layD", desc := "(III)V" } : Jvm.MethodName) prog_10_method_7_code (4 : Nat) (Option.none : Option Jvm.ClassFile.FieldType)) ∈ Tg := tg (i := 804) (by decide +kernel) rfl
theorem tw_805 : (Jvm.Cond.methodLink "FibreLoopsLaw" (32 : Nat) ({ cls := "FibreLoopsModel", name := "join", desc := "(IIII)I" } : Jvm.MethodName)) ∈ Tg := tg (i := 805) (by decide +kernel) rfl
theorem tw_806 : (Jvm.Cond.instanceMethod ({ cls := "FibreLoopsModel", name := "join", desc := "(IIII)I" } : Jvm.MethodName)) ∈ Tg := tg (i := 806) (by decide +kernel) rfl
theorem tw_807 : (Jvm.Cond.selects "FibreLoopsModel" ({ cls := "FibreLoopsModel", name := "join", desc := "(IIII)I" } : Jvm.MethodName) ({ cls := "FibreLoopsModel", name := "join", desc := "(IIII)I" } : Jvm.MethodName)) ∈ Tg := tg (i := 807) (by decide +kernel) rfl
theorem tw_808 : (Jvm.Cond.code ({ cls := "FibreLoopsModel", name := "join", desc := "(IIII)I" } : Jvm.MethodName) prog_10_method_40_code (6 : Nat) (Option.some Jvm.ClassFile.FieldType.int)) ∈ Tg := tg (i := 808) (by decide +kernel) rfl
theorem tw_809 : (Jvm.Cond.methodLink "FibreLoopsLaw" (36 : Nat) ({ cls := "FibreLoopsModel", name := "turn", desc := "(II)I" } : Jvm.MethodName)) ∈ Tg := tg (i := 809) (by decide +kernel) rfl
theorem tw_810 : (Jvm.Cond.instanceMethod ({ cls := "FibreLoopsModel", name := "turn", desc := "(II)I" } : Jvm.MethodName)) ∈ Tg := tg (i := 810) (by decide +kernel) rfl
theorem tw_811 : (Jvm.Cond.selects "FibreLoopsModel" ({ cls := "FibreLoopsModel", name := "turn", desc := "(II)I" } : Jvm.MethodName) ({ cls := "FibreLoopsModel", name := "turn", desc := "(II)I" } : Jvm.MethodName)) ∈ Tg := tg (i := 811) (by decide +kernel) rfl
theorem tw_812 : (Jvm.Cond.code ({ cls := "FibreLoopsModel", name := "turn", desc := "(II)I" } : Jvm.MethodName) prog_10_method_42_code (3 : Nat) (Option.some Jvm.ClassFile.FieldType.int)) ∈ Tg := tg (i := 812) (by decide +kernel) rfl
theorem tw_813 : (Jvm.Cond.methodLink "FibreLoopsModel" (145 : Nat) ({ cls := "FibreLoopsModel", name := "tryTurn", desc := "(IIZ)I" } : Jvm.MethodName)) ∈ Tg := tg (i := 813) (by decide +kernel) rfl
theorem tw_815 : (Jvm.Cond.instanceMethod ({ cls := "FibreLoopsModel", name := "tryTurn", desc := "(IIZ)I" } : Jvm.MethodName)) ∈ Tg := tg (i := 815) (by decide +kernel) rfl
theorem tw_816 : (Jvm.Cond.code ({ cls := "FibreLoopsModel", name := "tryTurn", desc := "(IIZ)I" } : Jvm.MethodName) prog_10_method_41_code (5 : Nat) (Option.some Jvm.ClassFile.FieldType.int)) ∈ Tg := tg (i := 816) (by decide +kernel) rfl
theorem tw_817 : (Jvm.Cond.methodLink "FibreLoopsModel" (141 : Nat) ({ cls := "FibreLoopsModel", name := "keepIf", desc := "(Z)V" } : Jvm.MethodName)) ∈ Tg := tg (i := 817) (by decide +kernel) rfl
theorem tw_819 : (Jvm.Cond.instanceMethod ({ cls := "FibreLoopsModel", name := "keepIf", desc := "(Z)V" } : Jvm.MethodName)) ∈ Tg := tg (i := 819) (by decide +kernel) rfl
theorem tw_820 : (Jvm.Cond.code ({ cls := "FibreLoopsModel", name := "keepIf", desc := "(Z)V" } : Jvm.MethodName) prog_10_method_15_code (2 : Nat) (Option.none : Option Jvm.ClassFile.FieldType)) ∈ Tg := tg (i := 820) (by decide +kernel) rfl
theorem tw_821 : (Jvm.Cond.methodLink "FibreLoopsModel" (99 : Nat) ({ cls := "FibreLoopsModel", name := "ofJ", desc := "(II)I" } : Jvm.MethodName)) ∈ Tg := tg (i := 821) (by decide +kernel) rfl
theorem tw_823 : (Jvm.Cond.instanceMethod ({ cls := "FibreLoopsModel", name := "ofJ", desc := "(II)I" } : Jvm.MethodName)) ∈ Tg := tg (i := 823) (by decide +kernel) rfl
theorem tw_824 : (Jvm.Cond.code ({ cls := "FibreLoopsModel", name := "ofJ", desc := "(II)I" } : Jvm.MethodName) prog_10_method_8_code (3 : Nat) (Option.some Jvm.ClassFile.FieldType.int)) ∈ Tg := tg (i := 824) (by decide +kernel) rfl
theorem tw_825 : (Jvm.Cond.methodLink "FibreLoopsLaw" (40 : Nat) ({ cls := "FibreLoopsModel", name := "feed", desc := "(II)I" } : Jvm.MethodName)) ∈ Tg := tg (i := 825) (by decide +kernel) rfl
theorem tw_826 : (Jvm.Cond.instanceMethod ({ cls := "FibreLoopsModel", name := "feed", desc := "(II)I" } : Jvm.MethodName)) ∈ Tg := tg (i := 826) (by decide +kernel) rfl
theorem tw_827 : (Jvm.Cond.selects "FibreLoopsModel" ({ cls := "FibreLoopsModel", name := "feed", desc := "(II)I" } : Jvm.MethodName) ({ cls := "FibreLoopsModel", name := "feed", desc := "(II)I" } : Jvm.MethodName)) ∈ Tg := tg (i := 827) (by decide +kernel) rfl
theorem tw_828 : (Jvm.Cond.code ({ cls := "FibreLoopsModel", name := "feed", desc := "(II)I" } : Jvm.MethodName) prog_10_method_44_code (3 : Nat) (Option.some Jvm.ClassFile.FieldType.int)) ∈ Tg := tg (i := 828) (by decide +kernel) rfl
theorem tw_829 : (Jvm.Cond.methodLink "FibreLoopsModel" (152 : Nat) ({ cls := "FibreLoopsModel", name := "tryFeed", desc := "(IIZ)I" } : Jvm.MethodName)) ∈ Tg := tg (i := 829) (by decide +kernel) rfl
theorem tw_831 : (Jvm.Cond.instanceMethod ({ cls := "FibreLoopsModel", name := "tryFeed", desc := "(IIZ)I" } : Jvm.MethodName)) ∈ Tg := tg (i := 831) (by decide +kernel) rfl
theorem tw_832 : (Jvm.Cond.code ({ cls := "FibreLoopsModel", name := "tryFeed", desc := "(IIZ)I" } : Jvm.MethodName) prog_10_method_43_code (4 : Nat) (Option.some Jvm.ClassFile.FieldType.int)) ∈ Tg := tg (i := 832) (by decide +kernel) rfl
theorem tw_833 : (Jvm.Cond.methodLink "FibreLoopsModel" (149 : Nat) ({ cls := "FibreLoopsModel", name := "isDevice", desc := "(I)Z" } : Jvm.MethodName)) ∈ Tg := tg (i := 833) (by decide +kernel) rfl
theorem tw_835 : (Jvm.Cond.instanceMethod ({ cls := "FibreLoopsModel", name := "isDevice", desc := "(I)Z" } : Jvm.MethodName)) ∈ Tg := tg (i := 835) (by decide +kernel) rfl
theorem tw_836 : (Jvm.Cond.code ({ cls := "FibreLoopsModel", name := "isDevice", desc := "(I)Z" } : Jvm.MethodName) prog_10_method_12_code (2 : Nat) (Option.some Jvm.ClassFile.FieldType.boolean)) ∈ Tg := tg (i := 836) (by decide +kernel) rfl
theorem tw_837 : (Jvm.Cond.methodLink "FibreLoopsModel" (78 : Nat) ({ cls := "FibreLoopsModel", name := "ofD", desc := "(II)I" } : Jvm.MethodName)) ∈ Tg := tg (i := 837) (by decide +kernel) rfl
theorem tw_839 : (Jvm.Cond.instanceMethod ({ cls := "FibreLoopsModel", name := "ofD", desc := "(II)I" } : Jvm.MethodName)) ∈ Tg := tg (i := 839) (by decide +kernel) rfl
theorem tw_840 : (Jvm.Cond.code ({ cls := "FibreLoopsModel", name := "ofD", desc := "(II)I" } : Jvm.MethodName) prog_10_method_6_code (3 : Nat) (Option.some Jvm.ClassFile.FieldType.int)) ∈ Tg := tg (i := 840) (by decide +kernel) rfl
theorem tw_841 : (Jvm.Cond.methodLink "FibreLoopsLaw" (45 : Nat) ({ cls := "FibreLoopsModel", name := "light", desc := "(III)I" } : Jvm.MethodName)) ∈ Tg := tg (i := 841) (by decide +kernel) rfl
theorem tw_842 : (Jvm.Cond.instanceMethod ({ cls := "FibreLoopsModel", name := "light", desc := "(III)I" } : Jvm.MethodName)) ∈ Tg := tg (i := 842) (by decide +kernel) rfl
theorem tw_843 : (Jvm.Cond.selects "FibreLoopsModel" ({ cls := "FibreLoopsModel", name := "light", desc := "(III)I" } : Jvm.MethodName) ({ cls := "FibreLoopsModel", name := "light", desc := "(III)I" } : Jvm.MethodName)) ∈ Tg := tg (i := 843) (by decide +kernel) rfl
theorem tw_844 : (Jvm.Cond.code ({ cls := "FibreLoopsModel", name := "light", desc := "(III)I" } : Jvm.MethodName) prog_10_method_47_code (4 : Nat) (Option.some Jvm.ClassFile.FieldType.int)) ∈ Tg := tg (i := 844) (by decide +kernel) rfl
theorem tw_845 : (Jvm.Cond.methodLink "FibreLoopsModel" (158 : Nat) ({ cls := "FibreLoopsModel", name := "tryLight", desc := "(IIIZ)I" } : Jvm.MethodName)) ∈ Tg := tg (i := 845) (by decide +kernel) rfl
theorem tw_847 : (Jvm.Cond.instanceMethod ({ cls := "FibreLoopsModel", name := "tryLight", desc := "(IIIZ)I" } : Jvm.MethodName)) ∈ Tg := tg (i := 847) (by decide +kernel) rfl
theorem tw_848 : (Jvm.Cond.code ({ cls := "FibreLoopsModel", name := "tryLight", desc := "(IIIZ)I" } : Jvm.MethodName) prog_10_method_46_code (5 : Nat) (Option.some Jvm.ClassFile.FieldType.int)) ∈ Tg := tg (i := 848) (by decide +kernel) rfl
theorem tw_849 : (Jvm.Cond.methodLink "FibreLoopsModel" (68 : Nat) ({ cls := "FibreLoopsModel", name := "cell", desc := "(II)I" } : Jvm.MethodName)) ∈ Tg := tg (i := 849) (by decide +kernel) rfl
theorem tw_850 : (Jvm.Cond.static ({ cls := "FibreLoopsModel", name := "cell", desc := "(II)I" } : Jvm.MethodName)) ∈ Tg := tg (i := 850) (by decide +kernel) rfl
theorem tw_851 : (Jvm.Cond.code ({ cls := "FibreLoopsModel", name := "cell", desc := "(II)I" } : Jvm.MethodName) prog_10_method_9_code (2 : Nat) (Option.some Jvm.ClassFile.FieldType.int)) ∈ Tg := tg (i := 851) (by decide +kernel) rfl
theorem tw_852 : (Jvm.Cond.methodLink "FibreLoopsModel" (87 : Nat) ({ cls := "FibreLoopsModel", name := "shine", desc := "(III)V" } : Jvm.MethodName)) ∈ Tg := tg (i := 852) (by decide +kernel) rfl
theorem tw_854 : (Jvm.Cond.instanceMethod ({ cls := "FibreLoopsModel", name := "shine", desc := "(III)V" } : Jvm.MethodName)) ∈ Tg := tg (i := 854) (by decide +kernel) rfl
theorem tw_855 : (Jvm.Cond.code ({ cls := "FibreLoopsModel", name := "shine", desc := "(III)V" } : Jvm.MethodName) prog_10_method_19_code (4 : Nat) (Option.none : Option Jvm.ClassFile.FieldType)) ∈ Tg := tg (i := 855) (by decide +kernel) rfl
theorem tw_856 : (Jvm.Cond.methodLink "FibreLoopsModel" (60 : Nat) ({ cls := "FibreLoopsModel", name := "moreL", desc := "(II)V" } : Jvm.MethodName)) ∈ Tg := tg (i := 856) (by decide +kernel) rfl
theorem tw_858 : (Jvm.Cond.instanceMethod ({ cls := "FibreLoopsModel", name := "moreL", desc := "(II)V" } : Jvm.MethodName)) ∈ Tg := tg (i := 858) (by decide +kernel) rfl
theorem tw_859 : (Jvm.Cond.code ({ cls := "FibreLoopsModel", name := "moreL", desc := "(II)V" } : Jvm.MethodName) prog_10_method_5_code (3 : Nat) (Option.none : Option Jvm.ClassFile.FieldType)) ∈ Tg := tg (i := 859) (by decide +kernel) rfl
theorem tw_860 : (Jvm.Cond.methodLink "FibreLoopsModel" (155 : Nat) ({ cls := "FibreLoopsModel", name := "flashes", desc := "(I)I" } : Jvm.MethodName)) ∈ Tg := tg (i := 860) (by decide +kernel) rfl
theorem tw_862 : (Jvm.Cond.instanceMethod ({ cls := "FibreLoopsModel", name := "flashes", desc := "(I)I" } : Jvm.MethodName)) ∈ Tg := tg (i := 862) (by decide +kernel) rfl
theorem tw_863 : (Jvm.Cond.code ({ cls := "FibreLoopsModel", name := "flashes", desc := "(I)I" } : Jvm.MethodName) prog_10_method_45_code (4 : Nat) (Option.some Jvm.ClassFile.FieldType.int)) ∈ Tg := tg (i := 863) (by decide +kernel) rfl
theorem tw_864 : (Jvm.Cond.methodLink "FibreLoopsLaw" (49 : Nat) ({ cls := "FibreLoopsModel", name := "ticks", desc := "(I)I" } : Jvm.MethodName)) ∈ Tg := tg (i := 864) (by decide +kernel) rfl
theorem tw_865 : (Jvm.Cond.instanceMethod ({ cls := "FibreLoopsModel", name := "ticks", desc := "(I)I" } : Jvm.MethodName)) ∈ Tg := tg (i := 865) (by decide +kernel) rfl
theorem tw_866 : (Jvm.Cond.selects "FibreLoopsModel" ({ cls := "FibreLoopsModel", name := "ticks", desc := "(I)I" } : Jvm.MethodName) ({ cls := "FibreLoopsModel", name := "ticks", desc := "(I)I" } : Jvm.MethodName)) ∈ Tg := tg (i := 866) (by decide +kernel) rfl
theorem tw_867 : (Jvm.Cond.code ({ cls := "FibreLoopsModel", name := "ticks", desc := "(I)I" } : Jvm.MethodName) prog_10_method_49_code (2 : Nat) (Option.some Jvm.ClassFile.FieldType.int)) ∈ Tg := tg (i := 867) (by decide +kernel) rfl
theorem tw_868 : (Jvm.Cond.methodLink "FibreLoopsModel" (165 : Nat) ({ cls := "FibreLoopsModel", name := "tryTicks", desc := "(IZ)I" } : Jvm.MethodName)) ∈ Tg := tg (i := 868) (by decide +kernel) rfl
theorem tw_870 : (Jvm.Cond.instanceMethod ({ cls := "FibreLoopsModel", name := "tryTicks", desc := "(IZ)I" } : Jvm.MethodName)) ∈ Tg := tg (i := 870) (by decide +kernel) rfl
theorem tw_871 : (Jvm.Cond.code ({ cls := "FibreLoopsModel", name := "tryTicks", desc := "(IZ)I" } : Jvm.MethodName) prog_10_method_48_code (3 : Nat) (Option.some Jvm.ClassFile.FieldType.int)) ∈ Tg := tg (i := 871) (by decide +kernel) rfl
theorem tw_872 : (Jvm.Cond.methodLink "FibreLoopsModel" (162 : Nat) ({ cls := "FibreLoopsModel", name := "passAll", desc := "(I)V" } : Jvm.MethodName)) ∈ Tg := tg (i := 872) (by decide +kernel) rfl
theorem tw_874 : (Jvm.Cond.instanceMethod ({ cls := "FibreLoopsModel", name := "passAll", desc := "(I)V" } : Jvm.MethodName)) ∈ Tg := tg (i := 874) (by decide +kernel) rfl
theorem tw_875 : (Jvm.Cond.code ({ cls := "FibreLoopsModel", name := "passAll", desc := "(I)V" } : Jvm.MethodName) prog_10_method_33_code (3 : Nat) (Option.none : Option Jvm.ClassFile.FieldType)) ∈ Tg := tg (i := 875) (by decide +kernel) rfl
theorem tw_876 : (Jvm.Cond.methodLink "FibreLoopsModel" (120 : Nat) ({ cls := "FibreLoopsModel", name := "pass", desc := "()V" } : Jvm.MethodName)) ∈ Tg := tg (i := 876) (by decide +kernel) rfl
theorem tw_878 : (Jvm.Cond.instanceMethod ({ cls := "FibreLoopsModel", name := "pass", desc := "()V" } : Jvm.MethodName)) ∈ Tg := tg (i := 878) (by decide +kernel) rfl
theorem tw_879 : (Jvm.Cond.code ({ cls := "FibreLoopsModel", name := "pass", desc := "()V" } : Jvm.MethodName) prog_10_method_32_code (2 : Nat) (Option.none : Option Jvm.ClassFile.FieldType)) ∈ Tg := tg (i := 879) (by decide +kernel) rfl
theorem tw_880 : (Jvm.Cond.methodLink "FibreLoopsModel" (105 : Nat) ({ cls := "FibreLoopsModel", name := "turnOn", desc := "(I)V" } : Jvm.MethodName)) ∈ Tg := tg (i := 880) (by decide +kernel) rfl
theorem tw_882 : (Jvm.Cond.instanceMethod ({ cls := "FibreLoopsModel", name := "turnOn", desc := "(I)V" } : Jvm.MethodName)) ∈ Tg := tg (i := 882) (by decide +kernel) rfl
theorem tw_883 : (Jvm.Cond.code ({ cls := "FibreLoopsModel", name := "turnOn", desc := "(I)V" } : Jvm.MethodName) prog_10_method_21_code (7 : Nat) (Option.none : Option Jvm.ClassFile.FieldType)) ∈ Tg := tg (i := 883) (by decide +kernel) rfl
theorem tw_884 : (Jvm.Cond.methodLink "FibreLoopsModel" (71 : Nat) ({ cls := "FibreLoopsModel", name := "moveTo", desc := "(II)V" } : Jvm.MethodName)) ∈ Tg := tg (i := 884) (by decide +kernel) rfl
theorem tw_886 : (Jvm.Cond.instanceMethod ({ cls := "FibreLoopsModel", name := "moveTo", desc := "(II)V" } : Jvm.MethodName)) ∈ Tg := tg (i := 886) (by decide +kernel) rfl
theorem tw_887 : (Jvm.Cond.code ({ cls := "FibreLoopsModel", name := "moveTo", desc := "(II)V" } : Jvm.MethodName) prog_10_method_20_code (4 : Nat) (Option.none : Option Jvm.ClassFile.FieldType)) ∈ Tg := tg (i := 887) (by decide +kernel) rfl
theorem tw_888 : (Jvm.Cond.methodLink "FibreLoopsModel" (64 : Nat) ({ cls := "FibreLoopsModel", name := "clear", desc := "(I)V" } : Jvm.MethodName)) ∈ Tg := tg (i := 888) (by decide +kernel) rfl
theorem tw_890 : (Jvm.Cond.instanceMethod ({ cls := "FibreLoopsModel", name := "clear", desc := "(I)V" } : Jvm.MethodName)) ∈ Tg := tg (i := 890) (by decide +kernel) rfl
theorem tw_891 : (Jvm.Cond.code ({ cls := "FibreLoopsModel", name := "clear", desc := "(I)V" } : Jvm.MethodName) prog_10_method_18_code (2 : Nat) (Option.none : Option Jvm.ClassFile.FieldType)) ∈ Tg := tg (i := 891) (by decide +kernel) rfl
theorem tw_892 : (Jvm.Cond.methodLink "FibreLoopsModel" (108 : Nat) ({ cls := "FibreLoopsModel", name := "fadeAll", desc := "(I)V" } : Jvm.MethodName)) ∈ Tg := tg (i := 892) (by decide +kernel) rfl
theorem tw_894 : (Jvm.Cond.instanceMethod ({ cls := "FibreLoopsModel", name := "fadeAll", desc := "(I)V" } : Jvm.MethodName)) ∈ Tg := tg (i := 894) (by decide +kernel) rfl
theorem tw_895 : (Jvm.Cond.code ({ cls := "FibreLoopsModel", name := "fadeAll", desc := "(I)V" } : Jvm.MethodName) prog_10_method_23_code (4 : Nat) (Option.none : Option Jvm.ClassFile.FieldType)) ∈ Tg := tg (i := 895) (by decide +kernel) rfl
theorem tw_896 : (Jvm.Cond.methodLink "FibreLoopsModel" (74 : Nat) ({ cls := "FibreLoopsModel", name := "fade", desc := "(III)V" } : Jvm.MethodName)) ∈ Tg := tg (i := 896) (by decide +kernel) rfl
theorem tw_898 : (Jvm.Cond.instanceMethod ({ cls := "FibreLoopsModel", name := "fade", desc := "(III)V" } : Jvm.MethodName)) ∈ Tg := tg (i := 898) (by decide +kernel) rfl
theorem tw_899 : (Jvm.Cond.code ({ cls := "FibreLoopsModel", name := "fade", desc := "(III)V" } : Jvm.MethodName) prog_10_method_22_code (4 : Nat) (Option.none : Option Jvm.ClassFile.FieldType)) ∈ Tg := tg (i := 899) (by decide +kernel) rfl
theorem tw_900 : (Jvm.Cond.methodLink "FibreLoopsModel" (111 : Nat) ({ cls := "FibreLoopsModel", name := "act", desc := "(I)V" } : Jvm.MethodName)) ∈ Tg := tg (i := 900) (by decide +kernel) rfl
theorem tw_902 : (Jvm.Cond.instanceMethod ({ cls := "FibreLoopsModel", name := "act", desc := "(I)V" } : Jvm.MethodName)) ∈ Tg := tg (i := 902) (by decide +kernel) rfl
theorem tw_903 : (Jvm.Cond.code ({ cls := "FibreLoopsModel", name := "act", desc := "(I)V" } : Jvm.MethodName) prog_10_method_28_code (4 : Nat) (Option.none : Option Jvm.ClassFile.FieldType)) ∈ Tg := tg (i := 903) (by decide +kernel) rfl
theorem tw_904 : (Jvm.Cond.methodLink "FibreLoopsModel" (90 : Nat) ({ cls := "FibreLoopsModel", name := "amplify", desc := "(II)V" } : Jvm.MethodName)) ∈ Tg := tg (i := 904) (by decide +kernel) rfl
theorem tw_906 : (Jvm.Cond.instanceMethod ({ cls := "FibreLoopsModel", name := "amplify", desc := "(II)V" } : Jvm.MethodName)) ∈ Tg := tg (i := 906) (by decide +kernel) rfl
theorem tw_907 : (Jvm.Cond.code ({ cls := "FibreLoopsModel", name := "amplify", desc := "(II)V" } : Jvm.MethodName) prog_10_method_25_code (4 : Nat) (Option.none : Option Jvm.ClassFile.FieldType)) ∈ Tg := tg (i := 907) (by decide +kernel) rfl
theorem tw_908 : (Jvm.Cond.methodLink "FibreLoopsModel" (84 : Nat) ({ cls := "FibreLoopsModel", name := "did", desc := "(I)V" } : Jvm.MethodName)) ∈ Tg := tg (i := 908) (by decide +kernel) rfl
theorem tw_910 : (Jvm.Cond.instanceMethod ({ cls := "FibreLoopsModel", name := "did", desc := "(I)V" } : Jvm.MethodName)) ∈ Tg := tg (i := 910) (by decide +kernel) rfl
theorem tw_911 : (Jvm.Cond.code ({ cls := "FibreLoopsModel", name := "did", desc := "(I)V" } : Jvm.MethodName) prog_10_method_24_code (2 : Nat) (Option.none : Option Jvm.ClassFile.FieldType)) ∈ Tg := tg (i := 911) (by decide +kernel) rfl
theorem tw_912 : (Jvm.Cond.methodLink "FibreLoopsModel" (93 : Nat) ({ cls := "FibreLoopsModel", name := "note", desc := "(II)V" } : Jvm.MethodName)) ∈ Tg := tg (i := 912) (by decide +kernel) rfl
theorem tw_914 : (Jvm.Cond.instanceMethod ({ cls := "FibreLoopsModel", name := "note", desc := "(II)V" } : Jvm.MethodName)) ∈ Tg := tg (i := 914) (by decide +kernel) rfl
theorem tw_915 : (Jvm.Cond.code ({ cls := "FibreLoopsModel", name := "note", desc := "(II)V" } : Jvm.MethodName) prog_10_method_26_code (4 : Nat) (Option.none : Option Jvm.ClassFile.FieldType)) ∈ Tg := tg (i := 915) (by decide +kernel) rfl
theorem tw_916 : (Jvm.Cond.methodLink "FibreLoopsModel" (96 : Nat) ({ cls := "FibreLoopsModel", name := "putIn", desc := "(II)V" } : Jvm.MethodName)) ∈ Tg := tg (i := 916) (by decide +kernel) rfl
theorem tw_918 : (Jvm.Cond.instanceMethod ({ cls := "FibreLoopsModel", name := "putIn", desc := "(II)V" } : Jvm.MethodName)) ∈ Tg := tg (i := 918) (by decide +kernel) rfl
theorem tw_919 : (Jvm.Cond.code ({ cls := "FibreLoopsModel", name := "putIn", desc := "(II)V" } : Jvm.MethodName) prog_10_method_27_code (4 : Nat) (Option.none : Option Jvm.ClassFile.FieldType)) ∈ Tg := tg (i := 919) (by decide +kernel) rfl
theorem tw_920 : (Jvm.Cond.methodLink "FibreLoopsModel" (114 : Nat) ({ cls := "FibreLoopsModel", name := "cross", desc := "(I)V" } : Jvm.MethodName)) ∈ Tg := tg (i := 920) (by decide +kernel) rfl
theorem tw_922 : (Jvm.Cond.instanceMethod ({ cls := "FibreLoopsModel", name := "cross", desc := "(I)V" } : Jvm.MethodName)) ∈ Tg := tg (i := 922) (by decide +kernel) rfl
theorem tw_923 : (Jvm.Cond.code ({ cls := "FibreLoopsModel", name := "cross", desc := "(I)V" } : Jvm.MethodName) prog_10_method_30_code (9 : Nat) (Option.none : Option Jvm.ClassFile.FieldType)) ∈ Tg := tg (i := 923) (by decide +kernel) rfl
theorem tw_924 : (Jvm.Cond.methodLink "FibreLoopsModel" (102 : Nat) ({ cls := "FibreLoopsModel", name := "crossed", desc := "(III)V" } : Jvm.MethodName)) ∈ Tg := tg (i := 924) (by decide +kernel) rfl
theorem tw_926 : (Jvm.Cond.instanceMethod ({ cls := "FibreLoopsModel", name := "crossed", desc := "(III)V" } : Jvm.MethodName)) ∈ Tg := tg (i := 926) (by decide +kernel) rfl
theorem tw_927 : (Jvm.Cond.code ({ cls := "FibreLoopsModel", name := "crossed", desc := "(III)V" } : Jvm.MethodName) prog_10_method_29_code (4 : Nat) (Option.none : Option Jvm.ClassFile.FieldType)) ∈ Tg := tg (i := 927) (by decide +kernel) rfl
theorem tw_928 : (Jvm.Cond.methodLink "FibreLoopsModel" (117 : Nat) ({ cls := "FibreLoopsModel", name := "recover", desc := "(I)V" } : Jvm.MethodName)) ∈ Tg := tg (i := 928) (by decide +kernel) rfl
theorem tw_930 : (Jvm.Cond.instanceMethod ({ cls := "FibreLoopsModel", name := "recover", desc := "(I)V" } : Jvm.MethodName)) ∈ Tg := tg (i := 930) (by decide +kernel) rfl
theorem tw_931 : (Jvm.Cond.code ({ cls := "FibreLoopsModel", name := "recover", desc := "(I)V" } : Jvm.MethodName) prog_10_method_31_code (3 : Nat) (Option.none : Option Jvm.ClassFile.FieldType)) ∈ Tg := tg (i := 931) (by decide +kernel) rfl
theorem tw_932 : (Jvm.Cond.methodLink "FibreLoopsLaw" (53 : Nat) ({ cls := "FibreLoopsModel", name := "at", desc := "(III)I" } : Jvm.MethodName)) ∈ Tg := tg (i := 932) (by decide +kernel) rfl
theorem tw_933 : (Jvm.Cond.instanceMethod ({ cls := "FibreLoopsModel", name := "at", desc := "(III)I" } : Jvm.MethodName)) ∈ Tg := tg (i := 933) (by decide +kernel) rfl
theorem tw_934 : (Jvm.Cond.selects "FibreLoopsModel" ({ cls := "FibreLoopsModel", name := "at", desc := "(III)I" } : Jvm.MethodName) ({ cls := "FibreLoopsModel", name := "at", desc := "(III)I" } : Jvm.MethodName)) ∈ Tg := tg (i := 934) (by decide +kernel) rfl
theorem tw_935 : (Jvm.Cond.code ({ cls := "FibreLoopsModel", name := "at", desc := "(III)I" } : Jvm.MethodName) prog_10_method_50_code (5 : Nat) (Option.some Jvm.ClassFile.FieldType.int)) ∈ Tg := tg (i := 935) (by decide +kernel) rfl
theorem tw_936 : (Jvm.Cond.methodLink "FibreLoopsLaw" (57 : Nat) ({ cls := "FibreLoopsModel", name := "ofLoop", desc := "(II)I" } : Jvm.MethodName)) ∈ Tg := tg (i := 936) (by decide +kernel) rfl
theorem tw_937 : (Jvm.Cond.instanceMethod ({ cls := "FibreLoopsModel", name := "ofLoop", desc := "(II)I" } : Jvm.MethodName)) ∈ Tg := tg (i := 937) (by decide +kernel) rfl
theorem tw_938 : (Jvm.Cond.selects "FibreLoopsModel" ({ cls := "FibreLoopsModel", name := "ofLoop", desc := "(II)I" } : Jvm.MethodName) ({ cls := "FibreLoopsModel", name := "ofLoop", desc := "(II)I" } : Jvm.MethodName)) ∈ Tg := tg (i := 938) (by decide +kernel) rfl
theorem tw_939 : (Jvm.Cond.code ({ cls := "FibreLoopsModel", name := "ofLoop", desc := "(II)I" } : Jvm.MethodName) prog_10_method_53_code (3 : Nat) (Option.some Jvm.ClassFile.FieldType.int)) ∈ Tg := tg (i := 939) (by decide +kernel) rfl
theorem tw_940 : (Jvm.Cond.methodLink "FibreLoopsModel" (169 : Nat) ({ cls := "FibreLoopsModel", name := "strengths", desc := "(I)I" } : Jvm.MethodName)) ∈ Tg := tg (i := 940) (by decide +kernel) rfl
theorem tw_942 : (Jvm.Cond.instanceMethod ({ cls := "FibreLoopsModel", name := "strengths", desc := "(I)I" } : Jvm.MethodName)) ∈ Tg := tg (i := 942) (by decide +kernel) rfl
theorem tw_943 : (Jvm.Cond.code ({ cls := "FibreLoopsModel", name := "strengths", desc := "(I)I" } : Jvm.MethodName) prog_10_method_51_code (4 : Nat) (Option.some Jvm.ClassFile.FieldType.int)) ∈ Tg := tg (i := 943) (by decide +kernel) rfl
theorem tw_944 : (Jvm.Cond.methodLink "FibreLoopsModel" (172 : Nat) ({ cls := "FibreLoopsModel", name := "faintest", desc := "(I)I" } : Jvm.MethodName)) ∈ Tg := tg (i := 944) (by decide +kernel) rfl
theorem tw_946 : (Jvm.Cond.instanceMethod ({ cls := "FibreLoopsModel", name := "faintest", desc := "(I)I" } : Jvm.MethodName)) ∈ Tg := tg (i := 946) (by decide +kernel) rfl
theorem tw_947 : (Jvm.Cond.code ({ cls := "FibreLoopsModel", name := "faintest", desc := "(I)I" } : Jvm.MethodName) prog_10_method_52_code (5 : Nat) (Option.some Jvm.ClassFile.FieldType.int)) ∈ Tg := tg (i := 947) (by decide +kernel) rfl
theorem tw_948 : (Jvm.Cond.methodLink "FibreLoopsLaw" (61 : Nat) ({ cls := "FibreLoopsModel", name := "ofDevice", desc := "(II)I" } : Jvm.MethodName)) ∈ Tg := tg (i := 948) (by decide +kernel) rfl
theorem tw_949 : (Jvm.Cond.instanceMethod ({ cls := "FibreLoopsModel", name := "ofDevice", desc := "(II)I" } : Jvm.MethodName)) ∈ Tg := tg (i := 949) (by decide +kernel) rfl
theorem tw_950 : (Jvm.Cond.selects "FibreLoopsModel" ({ cls := "FibreLoopsModel", name := "ofDevice", desc := "(II)I" } : Jvm.MethodName) ({ cls := "FibreLoopsModel", name := "ofDevice", desc := "(II)I" } : Jvm.MethodName)) ∈ Tg := tg (i := 950) (by decide +kernel) rfl
theorem tw_951 : (Jvm.Cond.code ({ cls := "FibreLoopsModel", name := "ofDevice", desc := "(II)I" } : Jvm.MethodName) prog_10_method_54_code (3 : Nat) (Option.some Jvm.ClassFile.FieldType.int)) ∈ Tg := tg (i := 951) (by decide +kernel) rfl
theorem tw_952 : (Jvm.Cond.methodLink "FibreLoopsLaw" (65 : Nat) ({ cls := "FibreLoopsModel", name := "noted", desc := "(II)I" } : Jvm.MethodName)) ∈ Tg := tg (i := 952) (by decide +kernel) rfl
theorem tw_953 : (Jvm.Cond.instanceMethod ({ cls := "FibreLoopsModel", name := "noted", desc := "(II)I" } : Jvm.MethodName)) ∈ Tg := tg (i := 953) (by decide +kernel) rfl
theorem tw_954 : (Jvm.Cond.selects "FibreLoopsModel" ({ cls := "FibreLoopsModel", name := "noted", desc := "(II)I" } : Jvm.MethodName) ({ cls := "FibreLoopsModel", name := "noted", desc := "(II)I" } : Jvm.MethodName)) ∈ Tg := tg (i := 954) (by decide +kernel) rfl
theorem tw_955 : (Jvm.Cond.code ({ cls := "FibreLoopsModel", name := "noted", desc := "(II)I" } : Jvm.MethodName) prog_10_method_55_code (3 : Nat) (Option.some Jvm.ClassFile.FieldType.int)) ∈ Tg := tg (i := 955) (by decide +kernel) rfl
theorem tw_956 : (Jvm.Cond.methodLink "FibreLoopsLaw" (69 : Nat) ({ cls := "FibreLoopsModel", name := "ofJoin", desc := "(II)I" } : Jvm.MethodName)) ∈ Tg := tg (i := 956) (by decide +kernel) rfl
theorem tw_957 : (Jvm.Cond.instanceMethod ({ cls := "FibreLoopsModel", name := "ofJoin", desc := "(II)I" } : Jvm.MethodName)) ∈ Tg := tg (i := 957) (by decide +kernel) rfl
theorem tw_958 : (Jvm.Cond.selects "FibreLoopsModel" ({ cls := "FibreLoopsModel", name := "ofJoin", desc := "(II)I" } : Jvm.MethodName) ({ cls := "FibreLoopsModel", name := "ofJoin", desc := "(II)I" } : Jvm.MethodName)) ∈ Tg := tg (i := 958) (by decide +kernel) rfl
theorem tw_959 : (Jvm.Cond.code ({ cls := "FibreLoopsModel", name := "ofJoin", desc := "(II)I" } : Jvm.MethodName) prog_10_method_56_code (3 : Nat) (Option.some Jvm.ClassFile.FieldType.int)) ∈ Tg := tg (i := 959) (by decide +kernel) rfl
theorem tw_960 : (Jvm.Cond.methodLink "FibreLoopsLaw" (73 : Nat) ({ cls := "FibreLoopsModel", name := "find", desc := "(II)I" } : Jvm.MethodName)) ∈ Tg := tg (i := 960) (by decide +kernel) rfl
theorem tw_961 : (Jvm.Cond.instanceMethod ({ cls := "FibreLoopsModel", name := "find", desc := "(II)I" } : Jvm.MethodName)) ∈ Tg := tg (i := 961) (by decide +kernel) rfl
theorem tw_962 : (Jvm.Cond.selects "FibreLoopsModel" ({ cls := "FibreLoopsModel", name := "find", desc := "(II)I" } : Jvm.MethodName) ({ cls := "FibreLoopsModel", name := "find", desc := "(II)I" } : Jvm.MethodName)) ∈ Tg := tg (i := 962) (by decide +kernel) rfl
theorem tw_963 : (Jvm.Cond.code ({ cls := "FibreLoopsModel", name := "find", desc := "(II)I" } : Jvm.MethodName) prog_10_method_57_code (7 : Nat) (Option.some Jvm.ClassFile.FieldType.int)) ∈ Tg := tg (i := 963) (by decide +kernel) rfl
theorem tw_964 : (Jvm.Cond.methodLink "FibreLoopsLaw" (77 : Nat) ({ cls := "FibreLoopsModel", name := "count", desc := "(I)I" } : Jvm.MethodName)) ∈ Tg := tg (i := 964) (by decide +kernel) rfl
theorem tw_965 : (Jvm.Cond.instanceMethod ({ cls := "FibreLoopsModel", name := "count", desc := "(I)I" } : Jvm.MethodName)) ∈ Tg := tg (i := 965) (by decide +kernel) rfl
theorem tw_966 : (Jvm.Cond.selects "FibreLoopsModel" ({ cls := "FibreLoopsModel", name := "count", desc := "(I)I" } : Jvm.MethodName) ({ cls := "FibreLoopsModel", name := "count", desc := "(I)I" } : Jvm.MethodName)) ∈ Tg := tg (i := 966) (by decide +kernel) rfl
theorem tw_967 : (Jvm.Cond.code ({ cls := "FibreLoopsModel", name := "count", desc := "(I)I" } : Jvm.MethodName) prog_10_method_59_code (2 : Nat) (Option.some Jvm.ClassFile.FieldType.int)) ∈ Tg := tg (i := 967) (by decide +kernel) rfl
theorem tw_968 : (Jvm.Cond.methodLink "FibreLoopsModel" (175 : Nat) ({ cls := "FibreLoopsModel", name := "sum", desc := "(I)I" } : Jvm.MethodName)) ∈ Tg := tg (i := 968) (by decide +kernel) rfl
theorem tw_970 : (Jvm.Cond.instanceMethod ({ cls := "FibreLoopsModel", name := "sum", desc := "(I)I" } : Jvm.MethodName)) ∈ Tg := tg (i := 970) (by decide +kernel) rfl
theorem tw_971 : (Jvm.Cond.code ({ cls := "FibreLoopsModel", name := "sum", desc := "(I)I" } : Jvm.MethodName) prog_10_method_58_code (4 : Nat) (Option.some Jvm.ClassFile.FieldType.int)) ∈ Tg := tg (i := 971) (by decide +kernel) rfl
theorem tw_972 : (Jvm.Cond.methodLink "FibreLoopsLaw" (81 : Nat) ({ cls := "FibreLoopsModel", name := "valueIn", desc := "(III)I" } : Jvm.MethodName)) ∈ Tg := tg (i := 972) (by decide +kernel) rfl
theorem tw_973 : (Jvm.Cond.instanceMethod ({ cls := "FibreLoopsModel", name := "valueIn", desc := "(III)I" } : Jvm.MethodName)) ∈ Tg := tg (i := 973) (by decide +kernel) rfl
theorem tw_974 : (Jvm.Cond.selects "FibreLoopsModel" ({ cls := "FibreLoopsModel", name := "valueIn", desc := "(III)I" } : Jvm.MethodName) ({ cls := "FibreLoopsModel", name := "valueIn", desc := "(III)I" } : Jvm.MethodName)) ∈ Tg := tg (i := 974) (by decide +kernel) rfl
theorem tw_975 : (Jvm.Cond.code ({ cls := "FibreLoopsModel", name := "valueIn", desc := "(III)I" } : Jvm.MethodName) prog_10_method_60_code (5 : Nat) (Option.some Jvm.ClassFile.FieldType.int)) ∈ Tg := tg (i := 975) (by decide +kernel) rfl
theorem tw_976 : (Jvm.Cond.methodLink "FibreLoopsModel" (181 : Nat) ({ cls := "FibreLoopsModel", name := "layAside", desc := "()V" } : Jvm.MethodName)) ∈ Tg := tg (i := 976) (by decide +kernel) rfl
theorem tw_978 : (Jvm.Cond.instanceMethod ({ cls := "FibreLoopsModel", name := "layAside", desc := "()V" } : Jvm.MethodName)) ∈ Tg := tg (i := 978) (by decide +kernel) rfl
theorem tw_979 : (Jvm.Cond.code ({ cls := "FibreLoopsModel", name := "layAside", desc := "()V" } : Jvm.MethodName) prog_10_method_16_code (2 : Nat) (Option.none : Option Jvm.ClassFile.FieldType)) ∈ Tg := tg (i := 979) (by decide +kernel) rfl
theorem tw_980 : (Jvm.Cond.methodLink "FibreLoopsModel" (184 : Nat) ({ cls := "FibreLoopsModel", name := "layBack", desc := "()V" } : Jvm.MethodName)) ∈ Tg := tg (i := 980) (by decide +kernel) rfl
theorem tw_982 : (Jvm.Cond.instanceMethod ({ cls := "FibreLoopsModel", name := "layBack", desc := "()V" } : Jvm.MethodName)) ∈ Tg := tg (i := 982) (by decide +kernel) rfl
theorem tw_983 : (Jvm.Cond.code ({ cls := "FibreLoopsModel", name := "layBack", desc := "()V" } : Jvm.MethodName) prog_10_method_17_code (2 : Nat) (Option.none : Option Jvm.ClassFile.FieldType)) ∈ Tg := tg (i := 983) (by decide +kernel) rfl
theorem tw_984 : (Jvm.Cond.methodLink "FibreLoopsLaw" (85 : Nat) ({ cls := "FibreLoopsModel", name := "leftIn", desc := "(I)I" } : Jvm.MethodName)) ∈ Tg := tg (i := 984) (by decide +kernel) rfl
theorem tw_985 : (Jvm.Cond.instanceMethod ({ cls := "FibreLoopsModel", name := "leftIn", desc := "(I)I" } : Jvm.MethodName)) ∈ Tg := tg (i := 985) (by decide +kernel) rfl
theorem tw_986 : (Jvm.Cond.selects "FibreLoopsModel" ({ cls := "FibreLoopsModel", name := "leftIn", desc := "(I)I" } : Jvm.MethodName) ({ cls := "FibreLoopsModel", name := "leftIn", desc := "(I)I" } : Jvm.MethodName)) ∈ Tg := tg (i := 986) (by decide +kernel) rfl
theorem tw_987 : (Jvm.Cond.code ({ cls := "FibreLoopsModel", name := "leftIn", desc := "(I)I" } : Jvm.MethodName) prog_10_method_61_code (3 : Nat) (Option.some Jvm.ClassFile.FieldType.int)) ∈ Tg := tg (i := 987) (by decide +kernel) rfl
theorem tw_988 : (Jvm.Cond.methodLink "FibreLoopsLaw" (90 : Nat) ({ cls := "FibreLoopsModel", name := "firstLoss", desc := "()I" } : Jvm.MethodName)) ∈ Tg := tg (i := 988) (by decide +kernel) rfl
theorem tw_989 : (Jvm.Cond.instanceMethod ({ cls := "FibreLoopsModel", name := "firstLoss", desc := "()I" } : Jvm.MethodName)) ∈ Tg := tg (i := 989) (by decide +kernel) rfl
theorem tw_990 : (Jvm.Cond.selects "FibreLoopsModel" ({ cls := "FibreLoopsModel", name := "firstLoss", desc := "()I" } : Jvm.MethodName) ({ cls := "FibreLoopsModel", name := "firstLoss", desc := "()I" } : Jvm.MethodName)) ∈ Tg := tg (i := 990) (by decide +kernel) rfl
theorem tw_991 : (Jvm.Cond.code ({ cls := "FibreLoopsModel", name := "firstLoss", desc := "()I" } : Jvm.MethodName) prog_10_method_63_code (2 : Nat) (Option.some Jvm.ClassFile.FieldType.int)) ∈ Tg := tg (i := 991) (by decide +kernel) rfl
theorem tw_992 : (Jvm.Cond.methodLink "FibreLoopsModel" (187 : Nat) ({ cls := "FibreLoopsModel", name := "lossWithin", desc := "(I)I" } : Jvm.MethodName)) ∈ Tg := tg (i := 992) (by decide +kernel) rfl
theorem tw_994 : (Jvm.Cond.instanceMethod ({ cls := "FibreLoopsModel", name := "lossWithin", desc := "(I)I" } : Jvm.MethodName)) ∈ Tg := tg (i := 994) (by decide +kernel) rfl
theorem tw_995 : (Jvm.Cond.code ({ cls := "FibreLoopsModel", name := "lossWithin", desc := "(I)I" } : Jvm.MethodName) prog_10_method_62_code (4 : Nat) (Option.some Jvm.ClassFile.FieldType.int)) ∈ Tg := tg (i := 995) (by decide +kernel) rfl
theorem tw_996 : (Jvm.Cond.methodLink "FibreLoopsLaw" (94 : Nat) ({ cls := "FibreLoopsModel", name := "bestPlace", desc := "(IIII)I" } : Jvm.MethodName)) ∈ Tg := tg (i := 996) (by decide +kernel) rfl
theorem tw_997 : (Jvm.Cond.instanceMethod ({ cls := "FibreLoopsModel", name := "bestPlace", desc := "(IIII)I" } : Jvm.MethodName)) ∈ Tg := tg (i := 997) (by decide +kernel) rfl
theorem tw_998 : (Jvm.Cond.selects "FibreLoopsModel" ({ cls := "FibreLoopsModel", name := "bestPlace", desc := "(IIII)I" } : Jvm.MethodName) ({ cls := "FibreLoopsModel", name := "bestPlace", desc := "(IIII)I" } : Jvm.MethodName)) ∈ Tg := tg (i := 998) (by decide +kernel) rfl
theorem tw_999 : (Jvm.Cond.code ({ cls := "FibreLoopsModel", name := "bestPlace", desc := "(IIII)I" } : Jvm.MethodName) prog_10_method_64_code (9 : Nat) (Option.some Jvm.ClassFile.FieldType.int)) ∈ Tg := tg (i := 999) (by decide +kernel) rfl
theorem tw_1000 : (Jvm.Cond.methodLink "FibreLoopsLaw" (98 : Nat) ({ cls := "FibreLoopsModel", name := "bearable", desc := "()I" } : Jvm.MethodName)) ∈ Tg := tg (i := 1000) (by decide +kernel) rfl
theorem tw_1001 : (Jvm.Cond.instanceMethod ({ cls := "FibreLoopsModel", name := "bearable", desc := "()I" } : Jvm.MethodName)) ∈ Tg := tg (i := 1001) (by decide +kernel) rfl
theorem tw_1002 : (Jvm.Cond.selects "FibreLoopsModel" ({ cls := "FibreLoopsModel", name := "bearable", desc := "()I" } : Jvm.MethodName) ({ cls := "FibreLoopsModel", name := "bearable", desc := "()I" } : Jvm.MethodName)) ∈ Tg := tg (i := 1002) (by decide +kernel) rfl
theorem tw_1003 : (Jvm.Cond.code ({ cls := "FibreLoopsModel", name := "bearable", desc := "()I" } : Jvm.MethodName) prog_10_method_65_code (4 : Nat) (Option.some Jvm.ClassFile.FieldType.int)) ∈ Tg := tg (i := 1003) (by decide +kernel) rfl
theorem tw_1004 : (Jvm.Cond.methodLink "FibreLoopsLaw" (105 : Nat) ({ cls := "FibreLoopsModel", name := "put", desc := "(J)I" } : Jvm.MethodName)) ∈ Tg := tg (i := 1004) (by decide +kernel) rfl
theorem tw_1005 : (Jvm.Cond.instanceMethod ({ cls := "FibreLoopsModel", name := "put", desc := "(J)I" } : Jvm.MethodName)) ∈ Tg := tg (i := 1005) (by decide +kernel) rfl
theorem tw_1006 : (Jvm.Cond.selects "FibreLoopsModel" ({ cls := "FibreLoopsModel", name := "put", desc := "(J)I" } : Jvm.MethodName) ({ cls := "FibreLoopsModel", name := "put", desc := "(J)I" } : Jvm.MethodName)) ∈ Tg := tg (i := 1006) (by decide +kernel) rfl
theorem tw_1007 : (Jvm.Cond.code ({ cls := "FibreLoopsModel", name := "put", desc := "(J)I" } : Jvm.MethodName) prog_10_method_66_code (7 : Nat) (Option.some Jvm.ClassFile.FieldType.int)) ∈ Tg := tg (i := 1007) (by decide +kernel) rfl
theorem tw_1008 : (Jvm.Cond.constantLong "FibreLoopsModel" (190 : Nat) (255 : Int64)) ∈ Tg := tg (i := 1008) (by decide +kernel) rfl
theorem tw_1009 : (Jvm.Cond.methodLink "FibreLoopsLaw" (109 : Nat) ({ cls := "FibreLoopsModel", name := "wipe", desc := "()I" } : Jvm.MethodName)) ∈ Tg := tg (i := 1009) (by decide +kernel) rfl
theorem tw_1010 : (Jvm.Cond.instanceMethod ({ cls := "FibreLoopsModel", name := "wipe", desc := "()I" } : Jvm.MethodName)) ∈ Tg := tg (i := 1010) (by decide +kernel) rfl
theorem tw_1011 : (Jvm.Cond.selects "FibreLoopsModel" ({ cls := "FibreLoopsModel", name := "wipe", desc := "()I" } : Jvm.MethodName) ({ cls := "FibreLoopsModel", name := "wipe", desc := "()I" } : Jvm.MethodName)) ∈ Tg := tg (i := 1011) (by decide +kernel) rfl
theorem tw_1012 : (Jvm.Cond.code ({ cls := "FibreLoopsModel", name := "wipe", desc := "()I" } : Jvm.MethodName) prog_10_method_67_code (2 : Nat) (Option.some Jvm.ClassFile.FieldType.int)) ∈ Tg := tg (i := 1012) (by decide +kernel) rfl
theorem tw_1013 : (Jvm.Cond.methodLink "FibreLoopsLaw" (113 : Nat) ({ cls := "FibreLoopsModel", name := "fault", desc := "()I" } : Jvm.MethodName)) ∈ Tg := tg (i := 1013) (by decide +kernel) rfl
theorem tw_1014 : (Jvm.Cond.instanceMethod ({ cls := "FibreLoopsModel", name := "fault", desc := "()I" } : Jvm.MethodName)) ∈ Tg := tg (i := 1014) (by decide +kernel) rfl
theorem tw_1015 : (Jvm.Cond.selects "FibreLoopsModel" ({ cls := "FibreLoopsModel", name := "fault", desc := "()I" } : Jvm.MethodName) ({ cls := "FibreLoopsModel", name := "fault", desc := "()I" } : Jvm.MethodName)) ∈ Tg := tg (i := 1015) (by decide +kernel) rfl
theorem tw_1016 : (Jvm.Cond.code ({ cls := "FibreLoopsModel", name := "fault", desc := "()I" } : Jvm.MethodName) prog_10_method_73_code (1 : Nat) (Option.some Jvm.ClassFile.FieldType.int)) ∈ Tg := tg (i := 1016) (by decide +kernel) rfl
theorem tw_1017 : (Jvm.Cond.methodLink "FibreLoopsModel" (218 : Nat) ({ cls := "FibreLoopsModel", name := "takeOrder", desc := "()V" } : Jvm.MethodName)) ∈ Tg := tg (i := 1017) (by decide +kernel) rfl
theorem tw_1019 : (Jvm.Cond.instanceMethod ({ cls := "FibreLoopsModel", name := "takeOrder", desc := "()V" } : Jvm.MethodName)) ∈ Tg := tg (i := 1019) (by decide +kernel) rfl
theorem tw_1020 : (Jvm.Cond.code ({ cls := "FibreLoopsModel", name := "takeOrder", desc := "()V" } : Jvm.MethodName) prog_10_method_72_code (2 : Nat) (Option.none : Option Jvm.ClassFile.FieldType)) ∈ Tg := tg (i := 1020) (by decide +kernel) rfl
theorem tw_1021 : (Jvm.Cond.methodLink "FibreLoopsModel" (199 : Nat) ({ cls := "FibreLoopsModel", name := "next", desc := "()I" } : Jvm.MethodName)) ∈ Tg := tg (i := 1021) (by decide +kernel) rfl
theorem tw_1023 : (Jvm.Cond.instanceMethod ({ cls := "FibreLoopsModel", name := "next", desc := "()I" } : Jvm.MethodName)) ∈ Tg := tg (i := 1023) (by decide +kernel) rfl
theorem tw_1024 : (Jvm.Cond.code ({ cls := "FibreLoopsModel", name := "next", desc := "()I" } : Jvm.MethodName) prog_10_method_68_code (1 : Nat) (Option.some Jvm.ClassFile.FieldType.int)) ∈ Tg := tg (i := 1024) (by decide +kernel) rfl
theorem tw_1025 : (Jvm.Cond.methodLink "FibreLoopsModel" (209 : Nat) ({ cls := "FibreLoopsModel", name := "takeNumber", desc := "()V" } : Jvm.MethodName)) ∈ Tg := tg (i := 1025) (by decide +kernel) rfl
theorem tw_1027 : (Jvm.Cond.instanceMethod ({ cls := "FibreLoopsModel", name := "takeNumber", desc := "()V" } : Jvm.MethodName)) ∈ Tg := tg (i := 1027) (by decide +kernel) rfl
theorem tw_1028 : (Jvm.Cond.code ({ cls := "FibreLoopsModel", name := "takeNumber", desc := "()V" } : Jvm.MethodName) prog_10_method_70_code (2 : Nat) (Option.none : Option Jvm.ClassFile.FieldType)) ∈ Tg := tg (i := 1028) (by decide +kernel) rfl
theorem tw_1029 : (Jvm.Cond.methodLink "FibreLoopsModel" (212 : Nat) ({ cls := "FibreLoopsModel", name := "takeSign", desc := "(I)V" } : Jvm.MethodName)) ∈ Tg := tg (i := 1029) (by decide +kernel) rfl
theorem tw_1031 : (Jvm.Cond.instanceMethod ({ cls := "FibreLoopsModel", name := "takeSign", desc := "(I)V" } : Jvm.MethodName)) ∈ Tg := tg (i := 1031) (by decide +kernel) rfl
theorem tw_1032 : (Jvm.Cond.code ({ cls := "FibreLoopsModel", name := "takeSign", desc := "(I)V" } : Jvm.MethodName) prog_10_method_69_code (2 : Nat) (Option.none : Option Jvm.ClassFile.FieldType)) ∈ Tg := tg (i := 1032) (by decide +kernel) rfl
theorem tw_1033 : (Jvm.Cond.methodLink "FibreLoopsModel" (215 : Nat) ({ cls := "FibreLoopsModel", name := "takeMode", desc := "()V" } : Jvm.MethodName)) ∈ Tg := tg (i := 1033) (by decide +kernel) rfl
theorem tw_1035 : (Jvm.Cond.instanceMethod ({ cls := "FibreLoopsModel", name := "takeMode", desc := "()V" } : Jvm.MethodName)) ∈ Tg := tg (i := 1035) (by decide +kernel) rfl
theorem tw_1036 : (Jvm.Cond.code ({ cls := "FibreLoopsModel", name := "takeMode", desc := "()V" } : Jvm.MethodName) prog_10_method_71_code (1 : Nat) (Option.none : Option Jvm.ClassFile.FieldType)) ∈ Tg := tg (i := 1036) (by decide +kernel) rfl
theorem tw_1037 : (Jvm.Cond.methodLink "FibreLoopsLaw" (117 : Nat) ({ cls := "FibreLoopsModel", name := "carryOut", desc := "()I" } : Jvm.MethodName)) ∈ Tg := tg (i := 1037) (by decide +kernel) rfl
theorem tw_1038 : (Jvm.Cond.instanceMethod ({ cls := "FibreLoopsModel", name := "carryOut", desc := "()I" } : Jvm.MethodName)) ∈ Tg := tg (i := 1038) (by decide +kernel) rfl
theorem tw_1039 : (Jvm.Cond.selects "FibreLoopsModel" ({ cls := "FibreLoopsModel", name := "carryOut", desc := "()I" } : Jvm.MethodName) ({ cls := "FibreLoopsModel", name := "carryOut", desc := "()I" } : Jvm.MethodName)) ∈ Tg := tg (i := 1039) (by decide +kernel) rfl
theorem tw_1040 : (Jvm.Cond.code ({ cls := "FibreLoopsModel", name := "carryOut", desc := "()I" } : Jvm.MethodName) prog_10_method_76_code (2 : Nat) (Option.some Jvm.ClassFile.FieldType.int)) ∈ Tg := tg (i := 1040) (by decide +kernel) rfl
theorem tw_1041 : (Jvm.Cond.methodLink "FibreLoopsModel" (224 : Nat) ({ cls := "FibreLoopsModel", name := "fault", desc := "()I" } : Jvm.MethodName)) ∈ Tg := tg (i := 1041) (by decide +kernel) rfl
theorem tw_1042 : (Jvm.Cond.methodLink "FibreLoopsModel" (227 : Nat) ({ cls := "FibreLoopsModel", name := "carry", desc := "(I)I" } : Jvm.MethodName)) ∈ Tg := tg (i := 1042) (by decide +kernel) rfl
theorem tw_1044 : (Jvm.Cond.instanceMethod ({ cls := "FibreLoopsModel", name := "carry", desc := "(I)I" } : Jvm.MethodName)) ∈ Tg := tg (i := 1044) (by decide +kernel) rfl
theorem tw_1045 : (Jvm.Cond.code ({ cls := "FibreLoopsModel", name := "carry", desc := "(I)I" } : Jvm.MethodName) prog_10_method_75_code (3 : Nat) (Option.some Jvm.ClassFile.FieldType.int)) ∈ Tg := tg (i := 1045) (by decide +kernel) rfl
theorem tw_1046 : (Jvm.Cond.methodLink "FibreLoopsModel" (221 : Nat) ({ cls := "FibreLoopsModel", name := "feedAll", desc := "(I)I" } : Jvm.MethodName)) ∈ Tg := tg (i := 1046) (by decide +kernel) rfl
theorem tw_1048 : (Jvm.Cond.instanceMethod ({ cls := "FibreLoopsModel", name := "feedAll", desc := "(I)I" } : Jvm.MethodName)) ∈ Tg := tg (i := 1048) (by decide +kernel) rfl
theorem tw_1049 : (Jvm.Cond.code ({ cls := "FibreLoopsModel", name := "feedAll", desc := "(I)I" } : Jvm.MethodName) prog_10_method_74_code (4 : Nat) (Option.some Jvm.ClassFile.FieldType.int)) ∈ Tg := tg (i := 1049) (by decide +kernel) rfl
theorem tw_1050 : (Jvm.Cond.methodLink "FibreLoopsLaw" (121 : Nat) ({ cls := "FibreLoopsModel", name := "undo", desc := "()I" } : Jvm.MethodName)) ∈ Tg := tg (i := 1050) (by decide +kernel) rfl
theorem tw_1051 : (Jvm.Cond.instanceMethod ({ cls := "FibreLoopsModel", name := "undo", desc := "()I" } : Jvm.MethodName)) ∈ Tg := tg (i := 1051) (by decide +kernel) rfl
theorem tw_1052 : (Jvm.Cond.selects "FibreLoopsModel" ({ cls := "FibreLoopsModel", name := "undo", desc := "()I" } : Jvm.MethodName) ({ cls := "FibreLoopsModel", name := "undo", desc := "()I" } : Jvm.MethodName)) ∈ Tg := tg (i := 1052) (by decide +kernel) rfl
theorem tw_1053 : (Jvm.Cond.code ({ cls := "FibreLoopsModel", name := "undo", desc := "()I" } : Jvm.MethodName) prog_10_method_77_code (3 : Nat) (Option.some Jvm.ClassFile.FieldType.int)) ∈ Tg := tg (i := 1053) (by decide +kernel) rfl
theorem tw_1054 : (Jvm.Cond.methodLink "FibreLoopsLaw" (125 : Nat) ({ cls := "FibreLoopsModel", name := "save", desc := "(I)I" } : Jvm.MethodName)) ∈ Tg := tg (i := 1054) (by decide +kernel) rfl
theorem tw_1055 : (Jvm.Cond.instanceMethod ({ cls := "FibreLoopsModel", name := "save", desc := "(I)I" } : Jvm.MethodName)) ∈ Tg := tg (i := 1055) (by decide +kernel) rfl
theorem tw_1056 : (Jvm.Cond.selects "FibreLoopsModel" ({ cls := "FibreLoopsModel", name := "save", desc := "(I)I" } : Jvm.MethodName) ({ cls := "FibreLoopsModel", name := "save", desc := "(I)I" } : Jvm.MethodName)) ∈ Tg := tg (i := 1056) (by decide +kernel) rfl
theorem tw_1057 : (Jvm.Cond.code ({ cls := "FibreLoopsModel", name := "save", desc := "(I)I" } : Jvm.MethodName) prog_10_method_78_code (3 : Nat) (Option.some Jvm.ClassFile.FieldType.int)) ∈ Tg := tg (i := 1057) (by decide +kernel) rfl
theorem tw_1058 : (Jvm.Cond.methodLink "FibreLoopsLaw" (129 : Nat) ({ cls := "FibreLoopsModel", name := "restore", desc := "(I)I" } : Jvm.MethodName)) ∈ Tg := tg (i := 1058) (by decide +kernel) rfl
theorem tw_1059 : (Jvm.Cond.instanceMethod ({ cls := "FibreLoopsModel", name := "restore", desc := "(I)I" } : Jvm.MethodName)) ∈ Tg := tg (i := 1059) (by decide +kernel) rfl
theorem tw_1060 : (Jvm.Cond.selects "FibreLoopsModel" ({ cls := "FibreLoopsModel", name := "restore", desc := "(I)I" } : Jvm.MethodName) ({ cls := "FibreLoopsModel", name := "restore", desc := "(I)I" } : Jvm.MethodName)) ∈ Tg := tg (i := 1060) (by decide +kernel) rfl
theorem tw_1061 : (Jvm.Cond.code ({ cls := "FibreLoopsModel", name := "restore", desc := "(I)I" } : Jvm.MethodName) prog_10_method_79_code (3 : Nat) (Option.some Jvm.ClassFile.FieldType.int)) ∈ Tg := tg (i := 1061) (by decide +kernel) rfl
theorem tw_1062 : (Jvm.Cond.constantLong "FibreLoopsLaw" (99 : Nat) (4294967295 : Int64)) ∈ Tg := tg (i := 1062) (by decide +kernel) rfl
theorem ts_0 : Cond.selects "FibreLoops$History" ⟨"FibreLoops$History", "holdBack", "(LFibreLoops$State;)V"⟩ ⟨"FibreLoops$History", "holdBack", "(LFibreLoops$State;)V"⟩ ∈ Tg := tgs (i := 0) (by decide +kernel) rfl
theorem ts_1 : Cond.selects "FibreLoops$State" ⟨"FibreLoops$State", "copyFrom", "(LFibreLoops$State;)V"⟩ ⟨"FibreLoops$State", "copyFrom", "(LFibreLoops$State;)V"⟩ ∈ Tg := tgs (i := 1) (by decide +kernel) rfl
theorem ts_2 : Cond.selects "FibreLoops$Ring" ⟨"FibreLoops$Ring", "copyFrom", "(LFibreLoops$Ring;)V"⟩ ⟨"FibreLoops$Ring", "copyFrom", "(LFibreLoops$Ring;)V"⟩ ∈ Tg := tgs (i := 2) (by decide +kernel) rfl
theorem ts_3 : Cond.selects "FibreLoops$Device" ⟨"FibreLoops$Device", "copyFrom", "(LFibreLoops$Device;)V"⟩ ⟨"FibreLoops$Device", "copyFrom", "(LFibreLoops$Device;)V"⟩ ∈ Tg := tgs (i := 3) (by decide +kernel) rfl
theorem ts_4 : Cond.selects "FibreLoops$Join" ⟨"FibreLoops$Join", "copyFrom", "(LFibreLoops$Join;)V"⟩ ⟨"FibreLoops$Join", "copyFrom", "(LFibreLoops$Join;)V"⟩ ∈ Tg := tgs (i := 4) (by decide +kernel) rfl
theorem ts_5 : Cond.selects "FibreLoops$State" ⟨"FibreLoops$State", "changeSetting", "(II)I"⟩ ⟨"FibreLoops$State", "changeSetting", "(II)I"⟩ ∈ Tg := tgs (i := 5) (by decide +kernel) rfl
theorem ts_6 : Cond.selects "FibreLoops$History" ⟨"FibreLoops$History", "keepIfDone", "(I)I"⟩ ⟨"FibreLoops$History", "keepIfDone", "(I)I"⟩ ∈ Tg := tgs (i := 6) (by decide +kernel) rfl
theorem ts_7 : Cond.selects "FibreLoops$History" ⟨"FibreLoops$History", "dropOldest", "()V"⟩ ⟨"FibreLoops$History", "dropOldest", "()V"⟩ ∈ Tg := tgs (i := 7) (by decide +kernel) rfl
theorem ts_8 : Cond.selects "FibreLoops$State" ⟨"FibreLoops$State", "addRing", "(I)I"⟩ ⟨"FibreLoops$State", "addRing", "(I)I"⟩ ∈ Tg := tgs (i := 8) (by decide +kernel) rfl
theorem ts_9 : Cond.selects "FibreLoops$Ring" ⟨"FibreLoops$Ring", "begin", "(I)V"⟩ ⟨"FibreLoops$Ring", "begin", "(I)V"⟩ ∈ Tg := tgs (i := 9) (by decide +kernel) rfl
theorem ts_10 : Cond.selects "FibreLoops$State" ⟨"FibreLoops$State", "addDevice", "(IIIII)I"⟩ ⟨"FibreLoops$State", "addDevice", "(IIIII)I"⟩ ∈ Tg := tgs (i := 10) (by decide +kernel) rfl
theorem ts_11 : Cond.selects "FibreLoops$State" ⟨"FibreLoops$State", "ringWith", "(II)LFibreLoops$Ring;"⟩ ⟨"FibreLoops$State", "ringWith", "(II)LFibreLoops$Ring;"⟩ ∈ Tg := tgs (i := 11) (by decide +kernel) rfl
theorem ts_12 : Cond.selects "FibreLoops$State" ⟨"FibreLoops$State", "ringOf", "(I)LFibreLoops$Ring;"⟩ ⟨"FibreLoops$State", "ringOf", "(I)LFibreLoops$Ring;"⟩ ∈ Tg := tgs (i := 12) (by decide +kernel) rfl
theorem ts_13 : Cond.selects "FibreLoops$Ring" ⟨"FibreLoops$Ring", "has", "(I)Z"⟩ ⟨"FibreLoops$Ring", "has", "(I)Z"⟩ ∈ Tg := tgs (i := 13) (by decide +kernel) rfl
theorem ts_14 : Cond.selects "FibreLoops$Device" ⟨"FibreLoops$Device", "begin", "(IIIII)V"⟩ ⟨"FibreLoops$Device", "begin", "(IIIII)V"⟩ ∈ Tg := tgs (i := 14) (by decide +kernel) rfl
theorem ts_15 : Cond.selects "FibreLoops$State" ⟨"FibreLoops$State", "addJoin", "(IIII)I"⟩ ⟨"FibreLoops$State", "addJoin", "(IIII)I"⟩ ∈ Tg := tgs (i := 15) (by decide +kernel) rfl
theorem ts_16 : Cond.selects "FibreLoops$Join" ⟨"FibreLoops$Join", "begin", "(IIII)V"⟩ ⟨"FibreLoops$Join", "begin", "(IIII)V"⟩ ∈ Tg := tgs (i := 16) (by decide +kernel) rfl
theorem ts_17 : Cond.selects "FibreLoops$State" ⟨"FibreLoops$State", "turnJoin", "(II)I"⟩ ⟨"FibreLoops$State", "turnJoin", "(II)I"⟩ ∈ Tg := tgs (i := 17) (by decide +kernel) rfl
theorem ts_18 : Cond.selects "FibreLoops$State" ⟨"FibreLoops$State", "joinOf", "(I)LFibreLoops$Join;"⟩ ⟨"FibreLoops$State", "joinOf", "(I)LFibreLoops$Join;"⟩ ∈ Tg := tgs (i := 18) (by decide +kernel) rfl
theorem ts_19 : Cond.selects "FibreLoops$State" ⟨"FibreLoops$State", "feedDevice", "(II)I"⟩ ⟨"FibreLoops$State", "feedDevice", "(II)I"⟩ ∈ Tg := tgs (i := 19) (by decide +kernel) rfl
theorem ts_20 : Cond.selects "FibreLoops$State" ⟨"FibreLoops$State", "deviceOf", "(I)LFibreLoops$Device;"⟩ ⟨"FibreLoops$State", "deviceOf", "(I)LFibreLoops$Device;"⟩ ∈ Tg := tgs (i := 20) (by decide +kernel) rfl
theorem ts_21 : Cond.selects "FibreLoops$Device" ⟨"FibreLoops$Device", "keepAsLast", "(I)V"⟩ ⟨"FibreLoops$Device", "keepAsLast", "(I)V"⟩ ∈ Tg := tgs (i := 21) (by decide +kernel) rfl
theorem ts_22 : Cond.selects "FibreLoops$State" ⟨"FibreLoops$State", "lightFlash", "(III)I"⟩ ⟨"FibreLoops$State", "lightFlash", "(III)I"⟩ ∈ Tg := tgs (i := 22) (by decide +kernel) rfl
theorem ts_23 : Cond.selects "FibreLoops$Ring" ⟨"FibreLoops$Ring", "strengthAt", "(I)I"⟩ ⟨"FibreLoops$Ring", "strengthAt", "(I)I"⟩ ∈ Tg := tgs (i := 23) (by decide +kernel) rfl
theorem ts_24 : Cond.selects "FibreLoops$State" ⟨"FibreLoops$State", "setting", "(I)I"⟩ ⟨"FibreLoops$State", "setting", "(I)I"⟩ ∈ Tg := tgs (i := 24) (by decide +kernel) rfl
theorem ts_25 : Cond.selects "FibreLoops$Ring" ⟨"FibreLoops$Ring", "putIn", "(IIII)V"⟩ ⟨"FibreLoops$Ring", "putIn", "(IIII)V"⟩ ∈ Tg := tgs (i := 25) (by decide +kernel) rfl
theorem ts_26 : Cond.selects "FibreLoops$Ring" ⟨"FibreLoops$Ring", "flashes", "()I"⟩ ⟨"FibreLoops$Ring", "flashes", "()I"⟩ ∈ Tg := tgs (i := 26) (by decide +kernel) rfl
theorem ts_27 : Cond.selects "FibreLoops$State" ⟨"FibreLoops$State", "passTicks", "(I)I"⟩ ⟨"FibreLoops$State", "passTicks", "(I)I"⟩ ∈ Tg := tgs (i := 27) (by decide +kernel) rfl
theorem ts_28 : Cond.selects "FibreLoops$State" ⟨"FibreLoops$State", "passOne", "()V"⟩ ⟨"FibreLoops$State", "passOne", "()V"⟩ ∈ Tg := tgs (i := 28) (by decide +kernel) rfl
theorem ts_29 : Cond.selects "FibreLoops$Ring" ⟨"FibreLoops$Ring", "moveOn", "(I)V"⟩ ⟨"FibreLoops$Ring", "moveOn", "(I)V"⟩ ∈ Tg := tgs (i := 29) (by decide +kernel) rfl
theorem ts_30 : Cond.selects "FibreLoops$Ring" ⟨"FibreLoops$Ring", "fade", "(II)V"⟩ ⟨"FibreLoops$Ring", "fade", "(II)V"⟩ ∈ Tg := tgs (i := 30) (by decide +kernel) rfl
theorem ts_31 : Cond.selects "FibreLoops$Device" ⟨"FibreLoops$Device", "actOn", "(LFibreLoops$Ring;LFibreLoops$State;)V"⟩ ⟨"FibreLoops$Device", "actOn", "(LFibreLoops$Ring;LFibreLoops$State;)V"⟩ ∈ Tg := tgs (i := 31) (by decide +kernel) rfl
theorem ts_32 : Cond.selects "FibreLoops$Device" ⟨"FibreLoops$Device", "amplify", "(LFibreLoops$Ring;)V"⟩ ⟨"FibreLoops$Device", "amplify", "(LFibreLoops$Ring;)V"⟩ ∈ Tg := tgs (i := 32) (by decide +kernel) rfl
theorem ts_33 : Cond.selects "FibreLoops$Ring" ⟨"FibreLoops$Ring", "strengthen", "(II)V"⟩ ⟨"FibreLoops$Ring", "strengthen", "(II)V"⟩ ∈ Tg := tgs (i := 33) (by decide +kernel) rfl
theorem ts_34 : Cond.selects "FibreLoops$Device" ⟨"FibreLoops$Device", "note", "(LFibreLoops$Ring;I)V"⟩ ⟨"FibreLoops$Device", "note", "(LFibreLoops$Ring;I)V"⟩ ∈ Tg := tgs (i := 34) (by decide +kernel) rfl
theorem ts_35 : Cond.selects "FibreLoops$Ring" ⟨"FibreLoops$Ring", "valueAt", "(I)I"⟩ ⟨"FibreLoops$Ring", "valueAt", "(I)I"⟩ ∈ Tg := tgs (i := 35) (by decide +kernel) rfl
theorem ts_36 : Cond.selects "FibreLoops$Device" ⟨"FibreLoops$Device", "putNext", "(LFibreLoops$Ring;II)V"⟩ ⟨"FibreLoops$Device", "putNext", "(LFibreLoops$Ring;II)V"⟩ ∈ Tg := tgs (i := 36) (by decide +kernel) rfl
theorem ts_37 : Cond.selects "FibreLoops$Device" ⟨"FibreLoops$Device", "removeFirst", "()V"⟩ ⟨"FibreLoops$Device", "removeFirst", "()V"⟩ ∈ Tg := tgs (i := 37) (by decide +kernel) rfl
theorem ts_38 : Cond.selects "FibreLoops$Device" ⟨"FibreLoops$Device", "change", "(LFibreLoops$Ring;)V"⟩ ⟨"FibreLoops$Device", "change", "(LFibreLoops$Ring;)V"⟩ ∈ Tg := tgs (i := 38) (by decide +kernel) rfl
theorem ts_39 : Cond.selects "FibreLoops$Ring" ⟨"FibreLoops$Ring", "changeValue", "(II)V"⟩ ⟨"FibreLoops$Ring", "changeValue", "(II)V"⟩ ∈ Tg := tgs (i := 39) (by decide +kernel) rfl
theorem ts_40 : Cond.selects "FibreLoops$Device" ⟨"FibreLoops$Device", "dropValue", "(LFibreLoops$Ring;)V"⟩ ⟨"FibreLoops$Device", "dropValue", "(LFibreLoops$Ring;)V"⟩ ∈ Tg := tgs (i := 40) (by decide +kernel) rfl
theorem ts_41 : Cond.selects "FibreLoops$Ring" ⟨"FibreLoops$Ring", "drop", "(I)V"⟩ ⟨"FibreLoops$Ring", "drop", "(I)V"⟩ ∈ Tg := tgs (i := 41) (by decide +kernel) rfl
theorem ts_42 : Cond.selects "FibreLoops$Join" ⟨"FibreLoops$Join", "actOn", "(LFibreLoops$Ring;LFibreLoops$Ring;)V"⟩ ⟨"FibreLoops$Join", "actOn", "(LFibreLoops$Ring;LFibreLoops$Ring;)V"⟩ ∈ Tg := tgs (i := 42) (by decide +kernel) rfl
theorem ts_43 : Cond.selects "FibreLoops$Ring" ⟨"FibreLoops$Ring", "exchange", "(ILFibreLoops$Ring;I)V"⟩ ⟨"FibreLoops$Ring", "exchange", "(ILFibreLoops$Ring;I)V"⟩ ∈ Tg := tgs (i := 43) (by decide +kernel) rfl
theorem ts_44 : Cond.selects "FibreLoops$Ring" ⟨"FibreLoops$Ring", "tellCrossing", "(LFibreLoops$Ring;)V"⟩ ⟨"FibreLoops$Ring", "tellCrossing", "(LFibreLoops$Ring;)V"⟩ ∈ Tg := tgs (i := 44) (by decide +kernel) rfl
theorem ts_45 : Cond.selects "FibreLoops$Device" ⟨"FibreLoops$Device", "rest", "(I)V"⟩ ⟨"FibreLoops$Device", "rest", "(I)V"⟩ ∈ Tg := tgs (i := 45) (by decide +kernel) rfl
theorem ts_46 : Cond.selects "FibreLoops$Ring" ⟨"FibreLoops$Ring", "birthAt", "(I)I"⟩ ⟨"FibreLoops$Ring", "birthAt", "(I)I"⟩ ∈ Tg := tgs (i := 46) (by decide +kernel) rfl
theorem ts_47 : Cond.selects "FibreLoops$Ring" ⟨"FibreLoops$Ring", "strengthInAll", "()I"⟩ ⟨"FibreLoops$Ring", "strengthInAll", "()I"⟩ ∈ Tg := tgs (i := 47) (by decide +kernel) rfl
theorem ts_48 : Cond.selects "FibreLoops$Ring" ⟨"FibreLoops$Ring", "faintest", "()I"⟩ ⟨"FibreLoops$Ring", "faintest", "()I"⟩ ∈ Tg := tgs (i := 48) (by decide +kernel) rfl
theorem ts_49 : Cond.selects "FibreLoops$Ring" ⟨"FibreLoops$Ring", "tally", "(I)I"⟩ ⟨"FibreLoops$Ring", "tally", "(I)I"⟩ ∈ Tg := tgs (i := 49) (by decide +kernel) rfl
theorem ts_50 : Cond.selects "FibreLoops$Device" ⟨"FibreLoops$Device", "keptAt", "(I)I"⟩ ⟨"FibreLoops$Device", "keptAt", "(I)I"⟩ ∈ Tg := tgs (i := 50) (by decide +kernel) rfl
theorem ts_51 : Cond.selects "FibreLoops$State" ⟨"FibreLoops$State", "flashesInAll", "()I"⟩ ⟨"FibreLoops$State", "flashesInAll", "()I"⟩ ∈ Tg := tgs (i := 51) (by decide +kernel) rfl
theorem ts_52 : Cond.selects "FibreLoops$State" ⟨"FibreLoops$State", "tallyInAll", "(I)I"⟩ ⟨"FibreLoops$State", "tallyInAll", "(I)I"⟩ ∈ Tg := tgs (i := 52) (by decide +kernel) rfl
theorem ts_53 : Cond.selects "FibreLoops$State" ⟨"FibreLoops$State", "ticksToLoss", "(I)I"⟩ ⟨"FibreLoops$State", "ticksToLoss", "(I)I"⟩ ∈ Tg := tgs (i := 53) (by decide +kernel) rfl
theorem ts_54 : Cond.selects "FibreLoops$Pad" ⟨"FibreLoops$Pad", "append", "(C)V"⟩ ⟨"FibreLoops$Pad", "append", "(C)V"⟩ ∈ Tg := tgs (i := 54) (by decide +kernel) rfl
theorem ts_55 : Cond.selects "FibreLoops$Pad" ⟨"FibreLoops$Pad", "clear", "()V"⟩ ⟨"FibreLoops$Pad", "clear", "()V"⟩ ∈ Tg := tgs (i := 55) (by decide +kernel) rfl
theorem ts_56 : Cond.selects "FibreLoops$OrderReader" ⟨"FibreLoops$OrderReader", "firstFault", "()I"⟩ ⟨"FibreLoops$OrderReader", "firstFault", "()I"⟩ ∈ Tg := tgs (i := 56) (by decide +kernel) rfl
theorem ts_57 : Cond.selects "FibreLoops$OrderReader" ⟨"FibreLoops$OrderReader", "goToStart", "()V"⟩ ⟨"FibreLoops$OrderReader", "goToStart", "()V"⟩ ∈ Tg := tgs (i := 57) (by decide +kernel) rfl
theorem ts_58 : Cond.selects "FibreLoops$OrderReader" ⟨"FibreLoops$OrderReader", "readOrder", "()Z"⟩ ⟨"FibreLoops$OrderReader", "readOrder", "()Z"⟩ ∈ Tg := tgs (i := 58) (by decide +kernel) rfl
theorem ts_59 : Cond.selects "FibreLoops$Pad" ⟨"FibreLoops$Pad", "signAt", "(I)C"⟩ ⟨"FibreLoops$Pad", "signAt", "(I)C"⟩ ∈ Tg := tgs (i := 59) (by decide +kernel) rfl
theorem ts_60 : Cond.selects "FibreLoops$OrderReader" ⟨"FibreLoops$OrderReader", "take", "(C)Z"⟩ ⟨"FibreLoops$OrderReader", "take", "(C)Z"⟩ ∈ Tg := tgs (i := 60) (by decide +kernel) rfl
theorem ts_61 : Cond.selects "FibreLoops$OrderReader" ⟨"FibreLoops$OrderReader", "readNumber", "()Z"⟩ ⟨"FibreLoops$OrderReader", "readNumber", "()Z"⟩ ∈ Tg := tgs (i := 61) (by decide +kernel) rfl
theorem ts_62 : Cond.selects "FibreLoops$OrderReader" ⟨"FibreLoops$OrderReader", "digit", "()I"⟩ ⟨"FibreLoops$OrderReader", "digit", "()I"⟩ ∈ Tg := tgs (i := 62) (by decide +kernel) rfl
theorem ts_63 : Cond.selects "FibreLoops$OrderReader" ⟨"FibreLoops$OrderReader", "keep", "(I)Z"⟩ ⟨"FibreLoops$OrderReader", "keep", "(I)Z"⟩ ∈ Tg := tgs (i := 63) (by decide +kernel) rfl
theorem ts_64 : Cond.selects "FibreLoops$OrderReader" ⟨"FibreLoops$OrderReader", "readValues", "()Z"⟩ ⟨"FibreLoops$OrderReader", "readValues", "()Z"⟩ ∈ Tg := tgs (i := 64) (by decide +kernel) rfl
theorem ts_65 : Cond.selects "FibreLoops$OrderReader" ⟨"FibreLoops$OrderReader", "readMode", "()Z"⟩ ⟨"FibreLoops$OrderReader", "readMode", "()Z"⟩ ∈ Tg := tgs (i := 65) (by decide +kernel) rfl
theorem ts_66 : Cond.selects "FibreLoops$OrderReader" ⟨"FibreLoops$OrderReader", "readNext", "()Z"⟩ ⟨"FibreLoops$OrderReader", "readNext", "()Z"⟩ ∈ Tg := tgs (i := 66) (by decide +kernel) rfl
theorem ts_67 : Cond.selects "FibreLoops" ⟨"FibreLoops", "carryOrder", "()Z"⟩ ⟨"FibreLoops", "carryOrder", "()Z"⟩ ∈ Tg := tgs (i := 67) (by decide +kernel) rfl
theorem ts_68 : Cond.selects "FibreLoops$OrderReader" ⟨"FibreLoops$OrderReader", "number", "(I)I"⟩ ⟨"FibreLoops$OrderReader", "number", "(I)I"⟩ ∈ Tg := tgs (i := 68) (by decide +kernel) rfl
theorem ts_69 : Cond.selects "FibreLoops" ⟨"FibreLoops", "feedAll", "(I)Z"⟩ ⟨"FibreLoops", "feedAll", "(I)Z"⟩ ∈ Tg := tgs (i := 69) (by decide +kernel) rfl
theorem ts_70 : Cond.selects "FibreLoops$History" ⟨"FibreLoops$History", "takeLatest", "()LFibreLoops$State;"⟩ ⟨"FibreLoops$History", "takeLatest", "()LFibreLoops$State;"⟩ ∈ Tg := tgs (i := 70) (by decide +kernel) rfl
theorem ts_71 : Cond.selects "FibreLoops" ⟨"FibreLoops", "slotOf", "(I)LFibreLoops$State;"⟩ ⟨"FibreLoops", "slotOf", "(I)LFibreLoops$State;"⟩ ∈ Tg := tgs (i := 71) (by decide +kernel) rfl
theorem ts_72 : Cond.selects "FibreLoopsModel" ⟨"FibreLoopsModel", "keep", "()V"⟩ ⟨"FibreLoopsModel", "keep", "()V"⟩ ∈ Tg := tgs (i := 72) (by decide +kernel) rfl
theorem ts_73 : Cond.selects "FibreLoopsModel" ⟨"FibreLoopsModel", "isPlace", "(II)Z"⟩ ⟨"FibreLoopsModel", "isPlace", "(II)Z"⟩ ∈ Tg := tgs (i := 73) (by decide +kernel) rfl
theorem ts_74 : Cond.selects "FibreLoopsModel" ⟨"FibreLoopsModel", "isLoop", "(I)Z"⟩ ⟨"FibreLoopsModel", "isLoop", "(I)Z"⟩ ∈ Tg := tgs (i := 74) (by decide +kernel) rfl
theorem ts_75 : Cond.selects "FibreLoopsModel" ⟨"FibreLoopsModel", "ofL", "(II)I"⟩ ⟨"FibreLoopsModel", "ofL", "(II)I"⟩ ∈ Tg := tgs (i := 75) (by decide +kernel) rfl
theorem ts_76 : Cond.selects "FibreLoopsModel" ⟨"FibreLoopsModel", "make", "(IIIII)V"⟩ ⟨"FibreLoopsModel", "make", "(IIIII)V"⟩ ∈ Tg := tgs (i := 76) (by decide +kernel) rfl
theorem ts_77 : Cond.selects "FibreLoopsModel" ⟨"FibreLoopsModel", "layD", "(III)V"⟩ ⟨"FibreLoopsModel", "layD", "(III)V"⟩ ∈ Tg := tgs (i := 77) (by decide +kernel) rfl
theorem ts_78 : Cond.selects "FibreLoopsModel" ⟨"FibreLoopsModel", "tryTurn", "(IIZ)I"⟩ ⟨"FibreLoopsModel", "tryTurn", "(IIZ)I"⟩ ∈ Tg := tgs (i := 78) (by decide +kernel) rfl
theorem ts_79 : Cond.selects "FibreLoopsModel" ⟨"FibreLoopsModel", "keepIf", "(Z)V"⟩ ⟨"FibreLoopsModel", "keepIf", "(Z)V"⟩ ∈ Tg := tgs (i := 79) (by decide +kernel) rfl
theorem ts_80 : Cond.selects "FibreLoopsModel" ⟨"FibreLoopsModel", "ofJ", "(II)I"⟩ ⟨"FibreLoopsModel", "ofJ", "(II)I"⟩ ∈ Tg := tgs (i := 80) (by decide +kernel) rfl
theorem ts_81 : Cond.selects "FibreLoopsModel" ⟨"FibreLoopsModel", "tryFeed", "(IIZ)I"⟩ ⟨"FibreLoopsModel", "tryFeed", "(IIZ)I"⟩ ∈ Tg := tgs (i := 81) (by decide +kernel) rfl
theorem ts_82 : Cond.selects "FibreLoopsModel" ⟨"FibreLoopsModel", "isDevice", "(I)Z"⟩ ⟨"FibreLoopsModel", "isDevice", "(I)Z"⟩ ∈ Tg := tgs (i := 82) (by decide +kernel) rfl
theorem ts_83 : Cond.selects "FibreLoopsModel" ⟨"FibreLoopsModel", "ofD", "(II)I"⟩ ⟨"FibreLoopsModel", "ofD", "(II)I"⟩ ∈ Tg := tgs (i := 83) (by decide +kernel) rfl
theorem ts_84 : Cond.selects "FibreLoopsModel" ⟨"FibreLoopsModel", "tryLight", "(IIIZ)I"⟩ ⟨"FibreLoopsModel", "tryLight", "(IIIZ)I"⟩ ∈ Tg := tgs (i := 84) (by decide +kernel) rfl
theorem ts_85 : Cond.selects "FibreLoopsModel" ⟨"FibreLoopsModel", "shine", "(III)V"⟩ ⟨"FibreLoopsModel", "shine", "(III)V"⟩ ∈ Tg := tgs (i := 85) (by decide +kernel) rfl
theorem ts_86 : Cond.selects "FibreLoopsModel" ⟨"FibreLoopsModel", "moreL", "(II)V"⟩ ⟨"FibreLoopsModel", "moreL", "(II)V"⟩ ∈ Tg := tgs (i := 86) (by decide +kernel) rfl
theorem ts_87 : Cond.selects "FibreLoopsModel" ⟨"FibreLoopsModel", "flashes", "(I)I"⟩ ⟨"FibreLoopsModel", "flashes", "(I)I"⟩ ∈ Tg := tgs (i := 87) (by decide +kernel) rfl
theorem ts_88 : Cond.selects "FibreLoopsModel" ⟨"FibreLoopsModel", "tryTicks", "(IZ)I"⟩ ⟨"FibreLoopsModel", "tryTicks", "(IZ)I"⟩ ∈ Tg := tgs (i := 88) (by decide +kernel) rfl
theorem ts_89 : Cond.selects "FibreLoopsModel" ⟨"FibreLoopsModel", "passAll", "(I)V"⟩ ⟨"FibreLoopsModel", "passAll", "(I)V"⟩ ∈ Tg := tgs (i := 89) (by decide +kernel) rfl
theorem ts_90 : Cond.selects "FibreLoopsModel" ⟨"FibreLoopsModel", "pass", "()V"⟩ ⟨"FibreLoopsModel", "pass", "()V"⟩ ∈ Tg := tgs (i := 90) (by decide +kernel) rfl
theorem ts_91 : Cond.selects "FibreLoopsModel" ⟨"FibreLoopsModel", "turnOn", "(I)V"⟩ ⟨"FibreLoopsModel", "turnOn", "(I)V"⟩ ∈ Tg := tgs (i := 91) (by decide +kernel) rfl
theorem ts_92 : Cond.selects "FibreLoopsModel" ⟨"FibreLoopsModel", "moveTo", "(II)V"⟩ ⟨"FibreLoopsModel", "moveTo", "(II)V"⟩ ∈ Tg := tgs (i := 92) (by decide +kernel) rfl
theorem ts_93 : Cond.selects "FibreLoopsModel" ⟨"FibreLoopsModel", "clear", "(I)V"⟩ ⟨"FibreLoopsModel", "clear", "(I)V"⟩ ∈ Tg := tgs (i := 93) (by decide +kernel) rfl
theorem ts_94 : Cond.selects "FibreLoopsModel" ⟨"FibreLoopsModel", "fadeAll", "(I)V"⟩ ⟨"FibreLoopsModel", "fadeAll", "(I)V"⟩ ∈ Tg := tgs (i := 94) (by decide +kernel) rfl
theorem ts_95 : Cond.selects "FibreLoopsModel" ⟨"FibreLoopsModel", "fade", "(III)V"⟩ ⟨"FibreLoopsModel", "fade", "(III)V"⟩ ∈ Tg := tgs (i := 95) (by decide +kernel) rfl
theorem ts_96 : Cond.selects "FibreLoopsModel" ⟨"FibreLoopsModel", "act", "(I)V"⟩ ⟨"FibreLoopsModel", "act", "(I)V"⟩ ∈ Tg := tgs (i := 96) (by decide +kernel) rfl
theorem ts_97 : Cond.selects "FibreLoopsModel" ⟨"FibreLoopsModel", "amplify", "(II)V"⟩ ⟨"FibreLoopsModel", "amplify", "(II)V"⟩ ∈ Tg := tgs (i := 97) (by decide +kernel) rfl
theorem ts_98 : Cond.selects "FibreLoopsModel" ⟨"FibreLoopsModel", "did", "(I)V"⟩ ⟨"FibreLoopsModel", "did", "(I)V"⟩ ∈ Tg := tgs (i := 98) (by decide +kernel) rfl
theorem ts_99 : Cond.selects "FibreLoopsModel" ⟨"FibreLoopsModel", "note", "(II)V"⟩ ⟨"FibreLoopsModel", "note", "(II)V"⟩ ∈ Tg := tgs (i := 99) (by decide +kernel) rfl
theorem ts_100 : Cond.selects "FibreLoopsModel" ⟨"FibreLoopsModel", "putIn", "(II)V"⟩ ⟨"FibreLoopsModel", "putIn", "(II)V"⟩ ∈ Tg := tgs (i := 100) (by decide +kernel) rfl
theorem ts_101 : Cond.selects "FibreLoopsModel" ⟨"FibreLoopsModel", "cross", "(I)V"⟩ ⟨"FibreLoopsModel", "cross", "(I)V"⟩ ∈ Tg := tgs (i := 101) (by decide +kernel) rfl
theorem ts_102 : Cond.selects "FibreLoopsModel" ⟨"FibreLoopsModel", "crossed", "(III)V"⟩ ⟨"FibreLoopsModel", "crossed", "(III)V"⟩ ∈ Tg := tgs (i := 102) (by decide +kernel) rfl
theorem ts_103 : Cond.selects "FibreLoopsModel" ⟨"FibreLoopsModel", "recover", "(I)V"⟩ ⟨"FibreLoopsModel", "recover", "(I)V"⟩ ∈ Tg := tgs (i := 103) (by decide +kernel) rfl
theorem ts_104 : Cond.selects "FibreLoopsModel" ⟨"FibreLoopsModel", "strengths", "(I)I"⟩ ⟨"FibreLoopsModel", "strengths", "(I)I"⟩ ∈ Tg := tgs (i := 104) (by decide +kernel) rfl
theorem ts_105 : Cond.selects "FibreLoopsModel" ⟨"FibreLoopsModel", "faintest", "(I)I"⟩ ⟨"FibreLoopsModel", "faintest", "(I)I"⟩ ∈ Tg := tgs (i := 105) (by decide +kernel) rfl
theorem ts_106 : Cond.selects "FibreLoopsModel" ⟨"FibreLoopsModel", "sum", "(I)I"⟩ ⟨"FibreLoopsModel", "sum", "(I)I"⟩ ∈ Tg := tgs (i := 106) (by decide +kernel) rfl
theorem ts_107 : Cond.selects "FibreLoopsModel" ⟨"FibreLoopsModel", "layAside", "()V"⟩ ⟨"FibreLoopsModel", "layAside", "()V"⟩ ∈ Tg := tgs (i := 107) (by decide +kernel) rfl
theorem ts_108 : Cond.selects "FibreLoopsModel" ⟨"FibreLoopsModel", "layBack", "()V"⟩ ⟨"FibreLoopsModel", "layBack", "()V"⟩ ∈ Tg := tgs (i := 108) (by decide +kernel) rfl
theorem ts_109 : Cond.selects "FibreLoopsModel" ⟨"FibreLoopsModel", "lossWithin", "(I)I"⟩ ⟨"FibreLoopsModel", "lossWithin", "(I)I"⟩ ∈ Tg := tgs (i := 109) (by decide +kernel) rfl
theorem ts_110 : Cond.selects "FibreLoopsModel" ⟨"FibreLoopsModel", "takeOrder", "()V"⟩ ⟨"FibreLoopsModel", "takeOrder", "()V"⟩ ∈ Tg := tgs (i := 110) (by decide +kernel) rfl
theorem ts_111 : Cond.selects "FibreLoopsModel" ⟨"FibreLoopsModel", "next", "()I"⟩ ⟨"FibreLoopsModel", "next", "()I"⟩ ∈ Tg := tgs (i := 111) (by decide +kernel) rfl
theorem ts_112 : Cond.selects "FibreLoopsModel" ⟨"FibreLoopsModel", "takeNumber", "()V"⟩ ⟨"FibreLoopsModel", "takeNumber", "()V"⟩ ∈ Tg := tgs (i := 112) (by decide +kernel) rfl
theorem ts_113 : Cond.selects "FibreLoopsModel" ⟨"FibreLoopsModel", "takeSign", "(I)V"⟩ ⟨"FibreLoopsModel", "takeSign", "(I)V"⟩ ∈ Tg := tgs (i := 113) (by decide +kernel) rfl
theorem ts_114 : Cond.selects "FibreLoopsModel" ⟨"FibreLoopsModel", "takeMode", "()V"⟩ ⟨"FibreLoopsModel", "takeMode", "()V"⟩ ∈ Tg := tgs (i := 114) (by decide +kernel) rfl
theorem ts_115 : Cond.selects "FibreLoopsModel" ⟨"FibreLoopsModel", "carry", "(I)I"⟩ ⟨"FibreLoopsModel", "carry", "(I)I"⟩ ∈ Tg := tgs (i := 115) (by decide +kernel) rfl
theorem ts_116 : Cond.selects "FibreLoopsModel" ⟨"FibreLoopsModel", "feedAll", "(I)I"⟩ ⟨"FibreLoopsModel", "feedAll", "(I)I"⟩ ∈ Tg := tgs (i := 116) (by decide +kernel) rfl
theorem iw_0 : ∀ w ∈ u_ws RX0 TX0 9, w ∈ Tg := by
  intro w hw
  obtain ⟨k, hk, rfl⟩ := List.mem_map.mp hw
  rw [List.mem_range] at hk
  match k, hk with
  | 0, _ => exact tw_91
  | 1, _ => exact tw_93
  | 2, _ => exact tw_95
  | 3, _ => exact tw_97
  | 4, _ => exact tw_99
  | 5, _ => exact tw_101
  | 6, _ => exact tw_103
  | 7, _ => exact tw_105
  | 8, _ => exact tw_107
  | k + 9, h => omega
theorem iw_1 : ∀ w ∈ u_ws RX1 TX1 2, w ∈ Tg := by
  intro w hw
  obtain ⟨k, hk, rfl⟩ := List.mem_map.mp hw
  rw [List.mem_range] at hk
  match k, hk with
  | 0, _ => exact tw_185
  | 1, _ => exact tw_187
  | k + 2, h => omega
theorem iw_2 : ∀ w ∈ u_ws RX2 TX2 6, w ∈ Tg := by
  intro w hw
  obtain ⟨k, hk, rfl⟩ := List.mem_map.mp hw
  rw [List.mem_range] at hk
  match k, hk with
  | 0, _ => exact tw_130
  | 1, _ => exact tw_132
  | 2, _ => exact tw_134
  | 3, _ => exact tw_136
  | 4, _ => exact tw_138
  | 5, _ => exact tw_140
  | k + 6, h => omega
theorem iw_3 : ∀ w ∈ u_ws RX3 TX3 5, w ∈ Tg := by
  intro w hw
  obtain ⟨k, hk, rfl⟩ := List.mem_map.mp hw
  rw [List.mem_range] at hk
  match k, hk with
  | 0, _ => exact tw_220
  | 1, _ => exact tw_222
  | 2, _ => exact tw_224
  | 3, _ => exact tw_226
  | 4, _ => exact tw_228
  | k + 5, h => omega
theorem iw_4 : ∀ w ∈ u_ws RX4 TX4 2, w ∈ Tg := by
  intro w hw
  obtain ⟨k, hk, rfl⟩ := List.mem_map.mp hw
  rw [List.mem_range] at hk
  match k, hk with
  | 0, _ => exact tw_200
  | 1, _ => exact tw_202
  | k + 2, h => omega
theorem iw_5 : ∀ w ∈ u_ws RX5 TX5 5, w ∈ Tg := by
  intro w hw
  obtain ⟨k, hk, rfl⟩ := List.mem_map.mp hw
  rw [List.mem_range] at hk
  match k, hk with
  | 0, _ => exact tw_54
  | 1, _ => exact tw_56
  | 2, _ => exact tw_58
  | 3, _ => exact tw_60
  | 4, _ => exact tw_62
  | k + 5, h => omega
theorem iw_6 : ∀ w ∈ u_ws RX6 TX6 8, w ∈ Tg := by
  intro w hw
  obtain ⟨k, hk, rfl⟩ := List.mem_map.mp hw
  rw [List.mem_range] at hk
  match k, hk with
  | 0, _ => exact tw_156
  | 1, _ => exact tw_158
  | 2, _ => exact tw_160
  | 3, _ => exact tw_162
  | 4, _ => exact tw_164
  | 5, _ => exact tw_166
  | 6, _ => exact tw_168
  | 7, _ => exact tw_170
  | k + 8, h => omega
theorem iw_7 : ∀ w ∈ u_ws RX7 TX7 7, w ∈ Tg := by
  intro w hw
  obtain ⟨k, hk, rfl⟩ := List.mem_map.mp hw
  rw [List.mem_range] at hk
  match k, hk with
  | 0, _ => exact tw_238
  | 1, _ => exact tw_240
  | 2, _ => exact tw_242
  | 3, _ => exact tw_244
  | 4, _ => exact tw_246
  | 5, _ => exact tw_248
  | 6, _ => exact tw_250
  | k + 7, h => omega
theorem iw_8 : ∀ w ∈ u_ws RX8 TX8 16, w ∈ Tg := by
  intro w hw
  obtain ⟨k, hk, rfl⟩ := List.mem_map.mp hw
  rw [List.mem_range] at hk
  match k, hk with
  | 0, _ => exact tw_724
  | 1, _ => exact tw_726
  | 2, _ => exact tw_728
  | 3, _ => exact tw_730
  | 4, _ => exact tw_732
  | 5, _ => exact tw_734
  | 6, _ => exact tw_736
  | 7, _ => exact tw_738
  | 8, _ => exact tw_740
  | 9, _ => exact tw_742
  | 10, _ => exact tw_744
  | 11, _ => exact tw_746
  | 12, _ => exact tw_748
  | 13, _ => exact tw_750
  | 14, _ => exact tw_752
  | 15, _ => exact tw_754
  | k + 16, h => omega
