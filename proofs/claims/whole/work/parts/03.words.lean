def GW : List Cond := lw_tbl.filter goodWord
theorem gw_of {w : Cond} (h : w ∈ lw_tbl) (hg : goodWord w = true) : w ∈ GW := List.mem_filter.mpr ⟨h, hg⟩
theorem gw_good {w : Cond} (h : w ∈ GW) : goodWord w = true := (List.mem_filter.mp h).2
theorem gw_tbl {w : Cond} (h : w ∈ GW) : w ∈ lw_tbl := (List.mem_filter.mp h).1
abbrev wsO (y : MethodName) (b : ByteArray) (n : Nat) (r : Option FieldType) : List Cond := Cond.code y b n r :: GW
theorem gw_in {y : MethodName} {b : ByteArray} {n : Nat} {r : Option FieldType} (hc : Cond.code y b n r ∈ GW) : GoodIn GW (wsO y b n r) := by
  intro w hw
  rcases List.mem_cons.mp hw with rfl | hw
  · exact ⟨hc, good_of_word (gw_good hc)⟩
  · exact ⟨hw, good_of_word (gw_good hw)⟩
theorem lt_1 (i : Nat) {w : Cond} (h : tables_1_1[i]? = some w) : w ∈ lw_tbl := List.mem_append_right _ (List.mem_append_left _ (List.mem_of_getElem? h))
theorem gw_1 (i : Nat) {w : Cond} (h : tables_1_1[i]? = some w) (hg : goodWord w = true) : w ∈ GW := gw_of (lt_1 i h) hg
theorem lt_2 (i : Nat) {w : Cond} (h : tables_1_2[i]? = some w) : w ∈ lw_tbl := List.mem_append_right _ (List.mem_append_right _ (List.mem_append_left _ (List.mem_of_getElem? h)))
theorem gw_2 (i : Nat) {w : Cond} (h : tables_1_2[i]? = some w) (hg : goodWord w = true) : w ∈ GW := gw_of (lt_2 i h) hg
theorem lt_3 (i : Nat) {w : Cond} (h : tables_1_3[i]? = some w) : w ∈ lw_tbl := List.mem_append_right _ (List.mem_append_right _ (List.mem_append_right _ (List.mem_append_left _ (List.mem_of_getElem? h))))
theorem gw_3 (i : Nat) {w : Cond} (h : tables_1_3[i]? = some w) (hg : goodWord w = true) : w ∈ GW := gw_of (lt_3 i h) hg
theorem lt_4 (i : Nat) {w : Cond} (h : tables_1_4[i]? = some w) : w ∈ lw_tbl := List.mem_append_right _ (List.mem_append_right _ (List.mem_append_right _ (List.mem_append_right _ (List.mem_append_left _ (List.mem_of_getElem? h)))))
theorem gw_4 (i : Nat) {w : Cond} (h : tables_1_4[i]? = some w) (hg : goodWord w = true) : w ∈ GW := gw_of (lt_4 i h) hg
theorem lt_5 (i : Nat) {w : Cond} (h : tables_1_5[i]? = some w) : w ∈ lw_tbl := List.mem_append_right _ (List.mem_append_right _ (List.mem_append_right _ (List.mem_append_right _ (List.mem_append_right _ (List.mem_append_left _ (List.mem_of_getElem? h))))))
theorem gw_5 (i : Nat) {w : Cond} (h : tables_1_5[i]? = some w) (hg : goodWord w = true) : w ∈ GW := gw_of (lt_5 i h) hg
theorem lt_6 (i : Nat) {w : Cond} (h : tables_1_6[i]? = some w) : w ∈ lw_tbl := List.mem_append_right _ (List.mem_append_right _ (List.mem_append_right _ (List.mem_append_right _ (List.mem_append_right _ (List.mem_append_right _ (List.mem_of_getElem? h))))))
theorem gw_6 (i : Nat) {w : Cond} (h : tables_1_6[i]? = some w) (hg : goodWord w = true) : w ∈ GW := gw_of (lt_6 i h) hg
theorem gw_s (i : Nat) {y : MethodName} {n : Nat} (h : lw_privs[i]? = some (y, n)) : Cond.selects y.cls y y ∈ GW := gw_of (List.mem_append_left _ (List.mem_map.mpr ⟨(y, n), List.mem_of_getElem? h, rfl⟩)) rfl
theorem gw_1_0 : (Jvm.Cond.initialized "MappingTextsLaw") ∈ GW := gw_1 0 rfl rfl
theorem gw_1_1 : (Jvm.Cond.initialized "MappingTexts") ∈ GW := gw_1 1 rfl rfl
theorem gw_1_2 : (Jvm.Cond.initialized "MappingTexts$Letters") ∈ GW := gw_1 2 rfl rfl
theorem gw_1_3 : (Jvm.Cond.initialized "java/lang/Math") ∈ GW := gw_1 3 rfl rfl
theorem gw_1_4 : (Jvm.Cond.initialized "MappingTexts$Tokens") ∈ GW := gw_1 4 rfl rfl
theorem gw_1_5 : (Jvm.Cond.initialized "MappingTexts$Comparison") ∈ GW := gw_1 5 rfl rfl
theorem gw_1_6 : (Jvm.Cond.initialized "MappingTexts$Version") ∈ GW := gw_1 6 rfl rfl
theorem gw_1_7 : (Jvm.Cond.initialized "MappingTexts$Field") ∈ GW := gw_1 7 rfl rfl
theorem gw_1_8 : (Jvm.Cond.initialized "MappingTexts$Rule") ∈ GW := gw_1 8 rfl rfl
theorem gw_1_9 : (Jvm.Cond.initialized "MappingTexts$TextReader") ∈ GW := gw_1 9 rfl rfl
theorem gw_1_10 : (Jvm.Cond.initialized "MappingTextsModel") ∈ GW := gw_1 10 rfl rfl
theorem gw_1_11 : (Jvm.Cond.initialized "java/lang/String") ∈ GW := gw_1 11 rfl rfl
theorem gw_1_12 : (Jvm.Cond.initialized "java/lang/StringLatin1") ∈ GW := gw_1 12 rfl rfl
theorem gw_1_13 : (Jvm.Cond.initialized "jdk/internal/util/Preconditions") ∈ GW := gw_1 13 rfl rfl
theorem gw_1_14 : (Jvm.Cond.initialized "java/lang/StringUTF16") ∈ GW := gw_1 14 rfl rfl
theorem gw_1_15 : (Jvm.Cond.initialized "java/lang/System") ∈ GW := gw_1 15 rfl rfl
theorem gw_1_16 : (Jvm.Cond.initialized "MappingTexts$Kinds") ∈ GW := gw_1 16 rfl rfl
theorem gw_1_17 : (Jvm.Cond.classLink "MappingTextsLaw" (7 : Nat) "MappingTexts") ∈ GW := gw_1 17 rfl rfl
theorem gw_1_18 : (Jvm.Cond.instantiable "MappingTexts" (10 : Nat)) ∈ GW := gw_1 18 rfl rfl
theorem gw_1_19 : (Jvm.Cond.methodLink "MappingTextsLaw" (9 : Nat) ({ cls := "MappingTexts", name := "<init>", desc := "()V" } : Jvm.MethodName)) ∈ GW := gw_1 19 rfl rfl
theorem gw_1_20 : (Jvm.Cond.instanceMethod ({ cls := "MappingTexts", name := "<init>", desc := "()V" } : Jvm.MethodName)) ∈ GW := gw_1 20 rfl rfl
theorem gw_1_21 : (Jvm.Cond.code ({ cls := "MappingTexts", name := "<init>", desc := "()V" } : Jvm.MethodName) prog_1_method_1_code (2 : Nat) (Option.none : Option Jvm.ClassFile.FieldType)) ∈ GW := gw_1 21 rfl rfl
theorem gw_1_22 : (Jvm.Cond.methodLink "MappingTexts" (3 : Nat) ({ cls := "java/lang/Object", name := "<init>", desc := "()V" } : Jvm.MethodName)) ∈ GW := gw_1 22 rfl rfl
theorem gw_1_23 : (Jvm.Cond.instanceMethod ({ cls := "java/lang/Object", name := "<init>", desc := "()V" } : Jvm.MethodName)) ∈ GW := gw_1 23 rfl rfl
theorem gw_1_24 : (Jvm.Cond.code ({ cls := "java/lang/Object", name := "<init>", desc := "()V" } : Jvm.MethodName) object_method_1_code (1 : Nat) (Option.none : Option Jvm.ClassFile.FieldType)) ∈ GW := gw_1 24 rfl rfl
theorem gw_1_25 : (Jvm.Cond.classLink "MappingTexts" (9 : Nat) "MappingTexts$Letters") ∈ GW := gw_1 25 rfl rfl
theorem gw_1_26 : (Jvm.Cond.instantiable "MappingTexts$Letters" (3 : Nat)) ∈ GW := gw_1 26 rfl rfl
theorem gw_1_27 : (Jvm.Cond.methodLink "MappingTexts" (11 : Nat) ({ cls := "MappingTexts$Letters", name := "<init>", desc := "(I)V" } : Jvm.MethodName)) ∈ GW := gw_1 27 rfl rfl
theorem gw_1_28 : (Jvm.Cond.instanceMethod ({ cls := "MappingTexts$Letters", name := "<init>", desc := "(I)V" } : Jvm.MethodName)) ∈ GW := gw_1 28 rfl rfl
theorem gw_1_29 : (Jvm.Cond.code ({ cls := "MappingTexts$Letters", name := "<init>", desc := "(I)V" } : Jvm.MethodName) prog_5_method_1_code (2 : Nat) (Option.none : Option Jvm.ClassFile.FieldType)) ∈ GW := gw_1 29 rfl rfl
theorem gw_1_30 : (Jvm.Cond.methodLink "MappingTexts$Letters" (3 : Nat) ({ cls := "java/lang/Object", name := "<init>", desc := "()V" } : Jvm.MethodName)) ∈ GW := gw_1 30 rfl rfl
theorem gw_1_31 : (Jvm.Cond.methodLink "MappingTexts$Letters" (19 : Nat) ({ cls := "java/lang/Math", name := "max", desc := "(II)I" } : Jvm.MethodName)) ∈ GW := gw_1 31 rfl rfl
theorem gw_1_32 : (Jvm.Cond.static ({ cls := "java/lang/Math", name := "max", desc := "(II)I" } : Jvm.MethodName)) ∈ GW := gw_1 32 rfl rfl
theorem gw_1_33 : (Jvm.Cond.code ({ cls := "java/lang/Math", name := "max", desc := "(II)I" } : Jvm.MethodName) prog_12_method_65_code (2 : Nat) (Option.some Jvm.ClassFile.FieldType.int)) ∈ GW := gw_1 33 rfl rfl
theorem gw_1_34 : (Jvm.Cond.fieldLink "MappingTexts$Letters" (25 : Nat) "MappingTexts$Letters" "bytes" "[B") ∈ GW := gw_1 34 rfl rfl
theorem gw_1_35 : (Jvm.Cond.fieldLink "MappingTexts$Letters" (9 : Nat) "MappingTexts$Letters" "length" "I") ∈ GW := gw_1 35 rfl rfl
theorem gw_1_36 : (Jvm.Cond.fieldLink "MappingTexts$Letters" (15 : Nat) "MappingTexts$Letters" "over" "Z") ∈ GW := gw_1 36 rfl rfl
theorem gw_1_37 : (Jvm.Cond.laysFinal "MappingTexts$Letters" "MappingTexts$Letters" "bytes" "[B") ∈ GW := gw_1 37 rfl rfl
theorem gw_1_38 : (Jvm.Cond.soleField "MappingTexts$Letters" "bytes") ∈ GW := gw_1 38 rfl rfl
theorem gw_1_39 : (Jvm.Cond.lays "MappingTexts$Letters" "MappingTexts$Letters" "length" "I") ∈ GW := gw_1 39 rfl rfl
theorem gw_1_40 : (Jvm.Cond.soleField "MappingTexts$Letters" "length") ∈ GW := gw_1 40 rfl rfl
theorem gw_1_41 : (Jvm.Cond.lays "MappingTexts$Letters" "MappingTexts$Letters" "over" "Z") ∈ GW := gw_1 41 rfl rfl
theorem gw_1_42 : (Jvm.Cond.soleField "MappingTexts$Letters" "over") ∈ GW := gw_1 42 rfl rfl
theorem gw_1_43 : (Jvm.Cond.superclass "MappingTexts$Letters" "java/lang/Object") ∈ GW := gw_1 43 rfl rfl
theorem gw_1_44 : (Jvm.Cond.arrayClass Jvm.ClassFile.FieldType.byte) ∈ GW := gw_1 44 rfl rfl
theorem gw_1_45 : (Jvm.Cond.classLink "MappingTexts" (21 : Nat) "MappingTexts$Tokens") ∈ GW := gw_1 45 rfl rfl
theorem gw_1_46 : (Jvm.Cond.instantiable "MappingTexts$Tokens" (5 : Nat)) ∈ GW := gw_1 46 rfl rfl
theorem gw_1_47 : (Jvm.Cond.methodLink "MappingTexts" (23 : Nat) ({ cls := "MappingTexts$Tokens", name := "<init>", desc := "(LMappingTexts$Letters;)V" } : Jvm.MethodName)) ∈ GW := gw_1 47 rfl rfl
theorem gw_1_48 : (Jvm.Cond.instanceMethod ({ cls := "MappingTexts$Tokens", name := "<init>", desc := "(LMappingTexts$Letters;)V" } : Jvm.MethodName)) ∈ GW := gw_1 48 rfl rfl
theorem gw_1_49 : (Jvm.Cond.code ({ cls := "MappingTexts$Tokens", name := "<init>", desc := "(LMappingTexts$Letters;)V" } : Jvm.MethodName) prog_8_method_1_code (2 : Nat) (Option.none : Option Jvm.ClassFile.FieldType)) ∈ GW := gw_1 49 rfl rfl
theorem gw_1_50 : (Jvm.Cond.methodLink "MappingTexts$Tokens" (3 : Nat) ({ cls := "java/lang/Object", name := "<init>", desc := "()V" } : Jvm.MethodName)) ∈ GW := gw_1 50 rfl rfl
theorem gw_1_51 : (Jvm.Cond.fieldLink "MappingTexts$Tokens" (25 : Nat) "MappingTexts$Tokens" "text" "LMappingTexts$Letters;") ∈ GW := gw_1 51 rfl rfl
theorem gw_1_52 : (Jvm.Cond.fieldLink "MappingTexts$Tokens" (9 : Nat) "MappingTexts$Tokens" "kinds" "[I") ∈ GW := gw_1 52 rfl rfl
theorem gw_1_53 : (Jvm.Cond.fieldLink "MappingTexts$Tokens" (15 : Nat) "MappingTexts$Tokens" "places" "[I") ∈ GW := gw_1 53 rfl rfl
theorem gw_1_54 : (Jvm.Cond.fieldLink "MappingTexts$Tokens" (18 : Nat) "MappingTexts$Tokens" "lengths" "[I") ∈ GW := gw_1 54 rfl rfl
theorem gw_1_55 : (Jvm.Cond.fieldLink "MappingTexts$Tokens" (21 : Nat) "MappingTexts$Tokens" "count" "I") ∈ GW := gw_1 55 rfl rfl
theorem gw_1_56 : (Jvm.Cond.laysFinal "MappingTexts$Tokens" "MappingTexts$Tokens" "text" "LMappingTexts$Letters;") ∈ GW := gw_1 56 rfl rfl
theorem gw_1_57 : (Jvm.Cond.soleField "MappingTexts$Tokens" "text") ∈ GW := gw_1 57 rfl rfl
theorem gw_1_58 : (Jvm.Cond.laysFinal "MappingTexts$Tokens" "MappingTexts$Tokens" "kinds" "[I") ∈ GW := gw_1 58 rfl rfl
theorem gw_1_59 : (Jvm.Cond.soleField "MappingTexts$Tokens" "kinds") ∈ GW := gw_1 59 rfl rfl
theorem gw_1_60 : (Jvm.Cond.laysFinal "MappingTexts$Tokens" "MappingTexts$Tokens" "places" "[I") ∈ GW := gw_1 60 rfl rfl
theorem gw_1_61 : (Jvm.Cond.soleField "MappingTexts$Tokens" "places") ∈ GW := gw_1 61 rfl rfl
theorem gw_1_62 : (Jvm.Cond.laysFinal "MappingTexts$Tokens" "MappingTexts$Tokens" "lengths" "[I") ∈ GW := gw_1 62 rfl rfl
theorem gw_1_63 : (Jvm.Cond.soleField "MappingTexts$Tokens" "lengths") ∈ GW := gw_1 63 rfl rfl
theorem gw_1_64 : (Jvm.Cond.lays "MappingTexts$Tokens" "MappingTexts$Tokens" "count" "I") ∈ GW := gw_1 64 rfl rfl
theorem gw_1_65 : (Jvm.Cond.soleField "MappingTexts$Tokens" "count") ∈ GW := gw_1 65 rfl rfl
theorem gw_1_66 : (Jvm.Cond.superclass "MappingTexts$Tokens" "java/lang/Object") ∈ GW := gw_1 66 rfl rfl
theorem gw_1_67 : (Jvm.Cond.arrayClass Jvm.ClassFile.FieldType.int) ∈ GW := gw_1 67 rfl rfl
theorem gw_1_68 : (Jvm.Cond.classLink "MappingTexts" (30 : Nat) "MappingTexts$Version") ∈ GW := gw_1 68 rfl rfl
theorem lt_1_69 : (Jvm.Cond.arrayOver (Jvm.ClassFile.FieldType.object "MappingTexts$Version")) ∈ lw_tbl := lt_1 69 rfl
theorem gw_1_70 : (Jvm.Cond.classLink "MappingTexts" (36 : Nat) "MappingTexts$Comparison") ∈ GW := gw_1 70 rfl rfl
theorem gw_1_71 : (Jvm.Cond.instantiable "MappingTexts$Comparison" (4 : Nat)) ∈ GW := gw_1 71 rfl rfl
theorem lt_1_72 : (Jvm.Cond.methodLinkNest "MappingTexts" (38 : Nat) ({ cls := "MappingTexts$Comparison", name := "<init>", desc := "()V" } : Jvm.MethodName) "MappingTexts") ∈ lw_tbl := lt_1 72 rfl
theorem gw_1_73 : (Jvm.Cond.instanceMethod ({ cls := "MappingTexts$Comparison", name := "<init>", desc := "()V" } : Jvm.MethodName)) ∈ GW := gw_1 73 rfl rfl
theorem gw_1_74 : (Jvm.Cond.code ({ cls := "MappingTexts$Comparison", name := "<init>", desc := "()V" } : Jvm.MethodName) prog_2_method_1_code (1 : Nat) (Option.none : Option Jvm.ClassFile.FieldType)) ∈ GW := gw_1 74 rfl rfl
theorem gw_1_75 : (Jvm.Cond.methodLink "MappingTexts$Comparison" (3 : Nat) ({ cls := "java/lang/Object", name := "<init>", desc := "()V" } : Jvm.MethodName)) ∈ GW := gw_1 75 rfl rfl
theorem gw_1_76 : (Jvm.Cond.fieldLink "MappingTexts$Comparison" (9 : Nat) "MappingTexts$Comparison" "codes" "[I") ∈ GW := gw_1 76 rfl rfl
theorem gw_1_77 : (Jvm.Cond.fieldLink "MappingTexts" (180 : Nat) "MappingTexts$Comparison" "codes" "[I") ∈ GW := gw_1 77 rfl rfl
theorem gw_1_78 : (Jvm.Cond.fieldLink "MappingTexts$Comparison" (15 : Nat) "MappingTexts$Comparison" "fieldsOfA" "[I") ∈ GW := gw_1 78 rfl rfl
theorem gw_1_79 : (Jvm.Cond.fieldLink "MappingTexts" (184 : Nat) "MappingTexts$Comparison" "fieldsOfA" "[I") ∈ GW := gw_1 79 rfl rfl
theorem gw_1_80 : (Jvm.Cond.fieldLink "MappingTexts$Comparison" (18 : Nat) "MappingTexts$Comparison" "fieldsOfB" "[I") ∈ GW := gw_1 80 rfl rfl
theorem gw_1_81 : (Jvm.Cond.fieldLink "MappingTexts" (187 : Nat) "MappingTexts$Comparison" "fieldsOfB" "[I") ∈ GW := gw_1 81 rfl rfl
theorem gw_1_82 : (Jvm.Cond.fieldLink "MappingTexts$Comparison" (21 : Nat) "MappingTexts$Comparison" "count" "I") ∈ GW := gw_1 82 rfl rfl
theorem gw_1_83 : (Jvm.Cond.fieldLink "MappingTexts" (175 : Nat) "MappingTexts$Comparison" "count" "I") ∈ GW := gw_1 83 rfl rfl
theorem gw_1_84 : (Jvm.Cond.laysFinal "MappingTexts$Comparison" "MappingTexts$Comparison" "codes" "[I") ∈ GW := gw_1 84 rfl rfl
theorem gw_1_85 : (Jvm.Cond.soleField "MappingTexts$Comparison" "codes") ∈ GW := gw_1 85 rfl rfl
theorem gw_1_86 : (Jvm.Cond.laysFinal "MappingTexts$Comparison" "MappingTexts$Comparison" "fieldsOfA" "[I") ∈ GW := gw_1 86 rfl rfl
theorem gw_1_87 : (Jvm.Cond.soleField "MappingTexts$Comparison" "fieldsOfA") ∈ GW := gw_1 87 rfl rfl
theorem gw_1_88 : (Jvm.Cond.laysFinal "MappingTexts$Comparison" "MappingTexts$Comparison" "fieldsOfB" "[I") ∈ GW := gw_1 88 rfl rfl
theorem gw_1_89 : (Jvm.Cond.soleField "MappingTexts$Comparison" "fieldsOfB") ∈ GW := gw_1 89 rfl rfl
theorem gw_1_90 : (Jvm.Cond.lays "MappingTexts$Comparison" "MappingTexts$Comparison" "count" "I") ∈ GW := gw_1 90 rfl rfl
theorem gw_1_91 : (Jvm.Cond.soleField "MappingTexts$Comparison" "count") ∈ GW := gw_1 91 rfl rfl
theorem gw_1_92 : (Jvm.Cond.superclass "MappingTexts$Comparison" "java/lang/Object") ∈ GW := gw_1 92 rfl rfl
theorem gw_1_93 : (Jvm.Cond.instantiable "MappingTexts$Version" (6 : Nat)) ∈ GW := gw_1 93 rfl rfl
theorem gw_1_94 : (Jvm.Cond.methodLink "MappingTexts" (56 : Nat) ({ cls := "MappingTexts$Version", name := "<init>", desc := "()V" } : Jvm.MethodName)) ∈ GW := gw_1 94 rfl rfl
theorem gw_1_95 : (Jvm.Cond.instanceMethod ({ cls := "MappingTexts$Version", name := "<init>", desc := "()V" } : Jvm.MethodName)) ∈ GW := gw_1 95 rfl rfl
theorem gw_1_96 : (Jvm.Cond.code ({ cls := "MappingTexts$Version", name := "<init>", desc := "()V" } : Jvm.MethodName) prog_9_method_1_code (2 : Nat) (Option.none : Option Jvm.ClassFile.FieldType)) ∈ GW := gw_1 96 rfl rfl
theorem gw_1_97 : (Jvm.Cond.methodLink "MappingTexts$Version" (3 : Nat) ({ cls := "java/lang/Object", name := "<init>", desc := "()V" } : Jvm.MethodName)) ∈ GW := gw_1 97 rfl rfl
theorem gw_1_98 : (Jvm.Cond.classLink "MappingTexts$Version" (9 : Nat) "MappingTexts$Field") ∈ GW := gw_1 98 rfl rfl
theorem lt_1_99 : (Jvm.Cond.arrayOver (Jvm.ClassFile.FieldType.object "MappingTexts$Field")) ∈ lw_tbl := lt_1 99 rfl
theorem gw_1_100 : (Jvm.Cond.classLink "MappingTexts$Version" (17 : Nat) "MappingTexts$Rule") ∈ GW := gw_1 100 rfl rfl
theorem lt_1_101 : (Jvm.Cond.arrayOver (Jvm.ClassFile.FieldType.object "MappingTexts$Rule")) ∈ lw_tbl := lt_1 101 rfl
theorem gw_1_102 : (Jvm.Cond.instantiable "MappingTexts$Field" (9 : Nat)) ∈ GW := gw_1 102 rfl rfl
theorem lt_1_103 : (Jvm.Cond.methodLinkNest "MappingTexts$Version" (37 : Nat) ({ cls := "MappingTexts$Field", name := "<init>", desc := "()V" } : Jvm.MethodName) "MappingTexts") ∈ lw_tbl := lt_1 103 rfl
theorem gw_1_104 : (Jvm.Cond.instanceMethod ({ cls := "MappingTexts$Field", name := "<init>", desc := "()V" } : Jvm.MethodName)) ∈ GW := gw_1 104 rfl rfl
theorem gw_1_105 : (Jvm.Cond.code ({ cls := "MappingTexts$Field", name := "<init>", desc := "()V" } : Jvm.MethodName) prog_3_method_1_code (1 : Nat) (Option.none : Option Jvm.ClassFile.FieldType)) ∈ GW := gw_1 105 rfl rfl
theorem gw_1_106 : (Jvm.Cond.methodLink "MappingTexts$Field" (3 : Nat) ({ cls := "java/lang/Object", name := "<init>", desc := "()V" } : Jvm.MethodName)) ∈ GW := gw_1 106 rfl rfl
theorem gw_1_107 : (Jvm.Cond.classLink "MappingTexts$Field" (9 : Nat) "MappingTexts$Letters") ∈ GW := gw_1 107 rfl rfl
theorem gw_1_108 : (Jvm.Cond.methodLink "MappingTexts$Field" (11 : Nat) ({ cls := "MappingTexts$Letters", name := "<init>", desc := "(I)V" } : Jvm.MethodName)) ∈ GW := gw_1 108 rfl rfl
theorem gw_1_109 : (Jvm.Cond.fieldLink "MappingTexts$Field" (14 : Nat) "MappingTexts$Field" "path" "LMappingTexts$Letters;") ∈ GW := gw_1 109 rfl rfl
theorem gw_1_110 : (Jvm.Cond.fieldLink "MappingTexts$Version" (39 : Nat) "MappingTexts$Field" "path" "LMappingTexts$Letters;") ∈ GW := gw_1 110 rfl rfl
theorem gw_1_111 : (Jvm.Cond.fieldLink "MappingTexts$Comparison" (48 : Nat) "MappingTexts$Field" "path" "LMappingTexts$Letters;") ∈ GW := gw_1 111 rfl rfl
theorem gw_1_112 : (Jvm.Cond.fieldLink "MappingTexts" (140 : Nat) "MappingTexts$Field" "path" "LMappingTexts$Letters;") ∈ GW := gw_1 112 rfl rfl
theorem gw_1_113 : (Jvm.Cond.fieldLink "MappingTexts$TextReader" (196 : Nat) "MappingTexts$Field" "path" "LMappingTexts$Letters;") ∈ GW := gw_1 113 rfl rfl
theorem gw_1_114 : (Jvm.Cond.fieldLink "MappingTexts$Field" (20 : Nat) "MappingTexts$Field" "by" "LMappingTexts$Letters;") ∈ GW := gw_1 114 rfl rfl
theorem gw_1_115 : (Jvm.Cond.fieldLink "MappingTexts$Comparison" (68 : Nat) "MappingTexts$Field" "by" "LMappingTexts$Letters;") ∈ GW := gw_1 115 rfl rfl
theorem gw_1_116 : (Jvm.Cond.fieldLink "MappingTexts" (141 : Nat) "MappingTexts$Field" "by" "LMappingTexts$Letters;") ∈ GW := gw_1 116 rfl rfl
theorem gw_1_117 : (Jvm.Cond.fieldLink "MappingTexts$Version" (185 : Nat) "MappingTexts$Field" "by" "LMappingTexts$Letters;") ∈ GW := gw_1 117 rfl rfl
theorem gw_1_118 : (Jvm.Cond.fieldLink "MappingTexts$TextReader" (257 : Nat) "MappingTexts$Field" "by" "LMappingTexts$Letters;") ∈ GW := gw_1 118 rfl rfl
theorem gw_1_119 : (Jvm.Cond.fieldLink "MappingTexts$Field" (23 : Nat) "MappingTexts$Field" "kind" "I") ∈ GW := gw_1 119 rfl rfl
theorem gw_1_120 : (Jvm.Cond.fieldLink "MappingTexts$Comparison" (65 : Nat) "MappingTexts$Field" "kind" "I") ∈ GW := gw_1 120 rfl rfl
theorem gw_1_121 : (Jvm.Cond.fieldLink "MappingTexts$Version" (56 : Nat) "MappingTexts$Field" "kind" "I") ∈ GW := gw_1 121 rfl rfl
theorem gw_1_122 : (Jvm.Cond.fieldLink "MappingTexts" (116 : Nat) "MappingTexts$Field" "kind" "I") ∈ GW := gw_1 122 rfl rfl
theorem gw_1_123 : (Jvm.Cond.fieldLink "MappingTexts$TextReader" (228 : Nat) "MappingTexts$Field" "kind" "I") ∈ GW := gw_1 123 rfl rfl
theorem gw_1_124 : (Jvm.Cond.fieldLink "MappingTexts$Field" (27 : Nat) "MappingTexts$Field" "options" "I") ∈ GW := gw_1 124 rfl rfl
theorem gw_1_125 : (Jvm.Cond.fieldLink "MappingTexts$Comparison" (60 : Nat) "MappingTexts$Field" "options" "I") ∈ GW := gw_1 125 rfl rfl
theorem gw_1_126 : (Jvm.Cond.fieldLink "MappingTexts" (121 : Nat) "MappingTexts$Field" "options" "I") ∈ GW := gw_1 126 rfl rfl
theorem gw_1_127 : (Jvm.Cond.fieldLink "MappingTexts$TextReader" (247 : Nat) "MappingTexts$Field" "options" "I") ∈ GW := gw_1 127 rfl rfl
theorem gw_1_128 : (Jvm.Cond.fieldLink "MappingTexts$Field" (30 : Nat) "MappingTexts$Field" "nullNumber" "I") ∈ GW := gw_1 128 rfl rfl
theorem gw_1_129 : (Jvm.Cond.fieldLink "MappingTexts$Comparison" (75 : Nat) "MappingTexts$Field" "nullNumber" "I") ∈ GW := gw_1 129 rfl rfl
theorem gw_1_130 : (Jvm.Cond.fieldLink "MappingTexts" (124 : Nat) "MappingTexts$Field" "nullNumber" "I") ∈ GW := gw_1 130 rfl rfl
theorem gw_1_131 : (Jvm.Cond.fieldLink "MappingTexts$Version" (182 : Nat) "MappingTexts$Field" "nullNumber" "I") ∈ GW := gw_1 131 rfl rfl
theorem gw_1_132 : (Jvm.Cond.fieldLink "MappingTexts$TextReader" (266 : Nat) "MappingTexts$Field" "nullNumber" "I") ∈ GW := gw_1 132 rfl rfl
theorem gw_1_133 : (Jvm.Cond.fieldLink "MappingTexts$Field" (33 : Nat) "MappingTexts$Field" "copy" "I") ∈ GW := gw_1 133 rfl rfl
theorem gw_1_134 : (Jvm.Cond.fieldLink "MappingTexts$Comparison" (78 : Nat) "MappingTexts$Field" "copy" "I") ∈ GW := gw_1 134 rfl rfl
theorem gw_1_135 : (Jvm.Cond.fieldLink "MappingTexts$Version" (65 : Nat) "MappingTexts$Field" "copy" "I") ∈ GW := gw_1 135 rfl rfl
theorem gw_1_136 : (Jvm.Cond.fieldLink "MappingTexts" (127 : Nat) "MappingTexts$Field" "copy" "I") ∈ GW := gw_1 136 rfl rfl
theorem gw_1_137 : (Jvm.Cond.fieldLink "MappingTexts$TextReader" (291 : Nat) "MappingTexts$Field" "copy" "I") ∈ GW := gw_1 137 rfl rfl
theorem gw_1_138 : (Jvm.Cond.fieldLink "MappingTexts$Field" (36 : Nat) "MappingTexts$Field" "of" "I") ∈ GW := gw_1 138 rfl rfl
theorem gw_1_139 : (Jvm.Cond.fieldLink "MappingTexts$Comparison" (85 : Nat) "MappingTexts$Field" "of" "I") ∈ GW := gw_1 139 rfl rfl
theorem gw_1_140 : (Jvm.Cond.fieldLink "MappingTexts" (130 : Nat) "MappingTexts$Field" "of" "I") ∈ GW := gw_1 140 rfl rfl
theorem gw_1_141 : (Jvm.Cond.fieldLink "MappingTexts$Version" (195 : Nat) "MappingTexts$Field" "of" "I") ∈ GW := gw_1 141 rfl rfl
theorem gw_1_142 : (Jvm.Cond.fieldLink "MappingTexts$TextReader" (294 : Nat) "MappingTexts$Field" "of" "I") ∈ GW := gw_1 142 rfl rfl
theorem gw_1_143 : (Jvm.Cond.fieldLink "MappingTexts$Field" (39 : Nat) "MappingTexts$Field" "holder" "I") ∈ GW := gw_1 143 rfl rfl
theorem gw_1_144 : (Jvm.Cond.fieldLink "MappingTexts$Version" (53 : Nat) "MappingTexts$Field" "holder" "I") ∈ GW := gw_1 144 rfl rfl
theorem gw_1_145 : (Jvm.Cond.fieldLink "MappingTexts" (133 : Nat) "MappingTexts$Field" "holder" "I") ∈ GW := gw_1 145 rfl rfl
theorem gw_1_146 : (Jvm.Cond.fieldLink "MappingTexts$TextReader" (209 : Nat) "MappingTexts$Field" "holder" "I") ∈ GW := gw_1 146 rfl rfl
theorem gw_1_147 : (Jvm.Cond.fieldLink "MappingTexts$Field" (42 : Nat) "MappingTexts$Field" "depth" "I") ∈ GW := gw_1 147 rfl rfl
theorem gw_1_148 : (Jvm.Cond.fieldLink "MappingTexts$Version" (101 : Nat) "MappingTexts$Field" "depth" "I") ∈ GW := gw_1 148 rfl rfl
theorem gw_1_149 : (Jvm.Cond.laysFinal "MappingTexts$Field" "MappingTexts$Field" "path" "LMappingTexts$Letters;") ∈ GW := gw_1 149 rfl rfl
theorem gw_1_150 : (Jvm.Cond.soleField "MappingTexts$Field" "path") ∈ GW := gw_1 150 rfl rfl
theorem gw_1_151 : (Jvm.Cond.laysFinal "MappingTexts$Field" "MappingTexts$Field" "by" "LMappingTexts$Letters;") ∈ GW := gw_1 151 rfl rfl
theorem gw_1_152 : (Jvm.Cond.soleField "MappingTexts$Field" "by") ∈ GW := gw_1 152 rfl rfl
theorem gw_1_153 : (Jvm.Cond.lays "MappingTexts$Field" "MappingTexts$Field" "kind" "I") ∈ GW := gw_1 153 rfl rfl
theorem gw_1_154 : (Jvm.Cond.soleField "MappingTexts$Field" "kind") ∈ GW := gw_1 154 rfl rfl
theorem gw_1_155 : (Jvm.Cond.lays "MappingTexts$Field" "MappingTexts$Field" "options" "I") ∈ GW := gw_1 155 rfl rfl
theorem gw_1_156 : (Jvm.Cond.soleField "MappingTexts$Field" "options") ∈ GW := gw_1 156 rfl rfl
theorem gw_1_157 : (Jvm.Cond.lays "MappingTexts$Field" "MappingTexts$Field" "nullNumber" "I") ∈ GW := gw_1 157 rfl rfl
theorem gw_1_158 : (Jvm.Cond.soleField "MappingTexts$Field" "nullNumber") ∈ GW := gw_1 158 rfl rfl
theorem gw_1_159 : (Jvm.Cond.lays "MappingTexts$Field" "MappingTexts$Field" "copy" "I") ∈ GW := gw_1 159 rfl rfl
theorem gw_1_160 : (Jvm.Cond.soleField "MappingTexts$Field" "copy") ∈ GW := gw_1 160 rfl rfl
theorem gw_1_161 : (Jvm.Cond.lays "MappingTexts$Field" "MappingTexts$Field" "of" "I") ∈ GW := gw_1 161 rfl rfl
theorem gw_1_162 : (Jvm.Cond.soleField "MappingTexts$Field" "of") ∈ GW := gw_1 162 rfl rfl
theorem gw_1_163 : (Jvm.Cond.lays "MappingTexts$Field" "MappingTexts$Field" "holder" "I") ∈ GW := gw_1 163 rfl rfl
theorem gw_1_164 : (Jvm.Cond.soleField "MappingTexts$Field" "holder") ∈ GW := gw_1 164 rfl rfl
theorem gw_1_165 : (Jvm.Cond.lays "MappingTexts$Field" "MappingTexts$Field" "depth" "I") ∈ GW := gw_1 165 rfl rfl
theorem gw_1_166 : (Jvm.Cond.soleField "MappingTexts$Field" "depth") ∈ GW := gw_1 166 rfl rfl
theorem gw_1_167 : (Jvm.Cond.superclass "MappingTexts$Field" "java/lang/Object") ∈ GW := gw_1 167 rfl rfl
theorem gw_1_168 : (Jvm.Cond.instantiable "MappingTexts$Rule" (4 : Nat)) ∈ GW := gw_1 168 rfl rfl
theorem lt_1_169 : (Jvm.Cond.methodLinkNest "MappingTexts$Version" (38 : Nat) ({ cls := "MappingTexts$Rule", name := "<init>", desc := "()V" } : Jvm.MethodName) "MappingTexts") ∈ lw_tbl := lt_1 169 rfl
theorem gw_1_170 : (Jvm.Cond.instanceMethod ({ cls := "MappingTexts$Rule", name := "<init>", desc := "()V" } : Jvm.MethodName)) ∈ GW := gw_1 170 rfl rfl
theorem gw_1_171 : (Jvm.Cond.code ({ cls := "MappingTexts$Rule", name := "<init>", desc := "()V" } : Jvm.MethodName) prog_6_method_1_code (1 : Nat) (Option.none : Option Jvm.ClassFile.FieldType)) ∈ GW := gw_1 171 rfl rfl
theorem gw_1_172 : (Jvm.Cond.methodLink "MappingTexts$Rule" (3 : Nat) ({ cls := "java/lang/Object", name := "<init>", desc := "()V" } : Jvm.MethodName)) ∈ GW := gw_1 172 rfl rfl
theorem gw_1_173 : (Jvm.Cond.classLink "MappingTexts$Rule" (9 : Nat) "MappingTexts$Letters") ∈ GW := gw_1 173 rfl rfl
theorem gw_1_174 : (Jvm.Cond.methodLink "MappingTexts$Rule" (11 : Nat) ({ cls := "MappingTexts$Letters", name := "<init>", desc := "(I)V" } : Jvm.MethodName)) ∈ GW := gw_1 174 rfl rfl
theorem gw_1_175 : (Jvm.Cond.fieldLink "MappingTexts$Rule" (14 : Nat) "MappingTexts$Rule" "head" "LMappingTexts$Letters;") ∈ GW := gw_1 175 rfl rfl
theorem gw_1_176 : (Jvm.Cond.fieldLink "MappingTexts$TextReader" (275 : Nat) "MappingTexts$Rule" "head" "LMappingTexts$Letters;") ∈ GW := gw_1 176 rfl rfl
theorem gw_1_177 : (Jvm.Cond.fieldLink "MappingTexts$Rule" (20 : Nat) "MappingTexts$Rule" "tail" "LMappingTexts$Letters;") ∈ GW := gw_1 177 rfl rfl
theorem gw_1_178 : (Jvm.Cond.fieldLink "MappingTexts$TextReader" (284 : Nat) "MappingTexts$Rule" "tail" "LMappingTexts$Letters;") ∈ GW := gw_1 178 rfl rfl
theorem gw_1_179 : (Jvm.Cond.fieldLink "MappingTexts$Rule" (23 : Nat) "MappingTexts$Rule" "star" "Z") ∈ GW := gw_1 179 rfl rfl
theorem gw_1_180 : (Jvm.Cond.fieldLink "MappingTexts$TextReader" (281 : Nat) "MappingTexts$Rule" "star" "Z") ∈ GW := gw_1 180 rfl rfl
theorem gw_1_181 : (Jvm.Cond.fieldLink "MappingTexts$Rule" (27 : Nat) "MappingTexts$Rule" "kind" "I") ∈ GW := gw_1 181 rfl rfl
theorem gw_1_182 : (Jvm.Cond.fieldLink "MappingTexts$Version" (90 : Nat) "MappingTexts$Rule" "kind" "I") ∈ GW := gw_1 182 rfl rfl
theorem gw_1_183 : (Jvm.Cond.fieldLink "MappingTexts$TextReader" (287 : Nat) "MappingTexts$Rule" "kind" "I") ∈ GW := gw_1 183 rfl rfl
theorem gw_1_184 : (Jvm.Cond.laysFinal "MappingTexts$Rule" "MappingTexts$Rule" "head" "LMappingTexts$Letters;") ∈ GW := gw_1 184 rfl rfl
theorem gw_1_185 : (Jvm.Cond.soleField "MappingTexts$Rule" "head") ∈ GW := gw_1 185 rfl rfl
theorem gw_1_186 : (Jvm.Cond.laysFinal "MappingTexts$Rule" "MappingTexts$Rule" "tail" "LMappingTexts$Letters;") ∈ GW := gw_1 186 rfl rfl
theorem gw_1_187 : (Jvm.Cond.soleField "MappingTexts$Rule" "tail") ∈ GW := gw_1 187 rfl rfl
theorem gw_1_188 : (Jvm.Cond.lays "MappingTexts$Rule" "MappingTexts$Rule" "star" "Z") ∈ GW := gw_1 188 rfl rfl
theorem gw_1_189 : (Jvm.Cond.soleField "MappingTexts$Rule" "star") ∈ GW := gw_1 189 rfl rfl
theorem gw_1_190 : (Jvm.Cond.lays "MappingTexts$Rule" "MappingTexts$Rule" "kind" "I") ∈ GW := gw_1 190 rfl rfl
theorem gw_1_191 : (Jvm.Cond.soleField "MappingTexts$Rule" "kind") ∈ GW := gw_1 191 rfl rfl
theorem gw_1_192 : (Jvm.Cond.superclass "MappingTexts$Rule" "java/lang/Object") ∈ GW := gw_1 192 rfl rfl
theorem gw_1_193 : (Jvm.Cond.fieldLink "MappingTexts$Version" (11 : Nat) "MappingTexts$Version" "fields" "[LMappingTexts$Field;") ∈ GW := gw_1 193 rfl rfl
theorem gw_1_194 : (Jvm.Cond.fieldLink "MappingTexts$TextReader" (67 : Nat) "MappingTexts$Version" "fields" "[LMappingTexts$Field;") ∈ GW := gw_1 194 rfl rfl
theorem gw_1_195 : (Jvm.Cond.fieldLink "MappingTexts$Comparison" (44 : Nat) "MappingTexts$Version" "fields" "[LMappingTexts$Field;") ∈ GW := gw_1 195 rfl rfl
theorem gw_1_196 : (Jvm.Cond.fieldLink "MappingTexts" (112 : Nat) "MappingTexts$Version" "fields" "[LMappingTexts$Field;") ∈ GW := gw_1 196 rfl rfl
theorem gw_1_197 : (Jvm.Cond.fieldLink "MappingTexts$Version" (19 : Nat) "MappingTexts$Version" "rules" "[LMappingTexts$Rule;") ∈ GW := gw_1 197 rfl rfl
theorem gw_1_198 : (Jvm.Cond.fieldLink "MappingTexts$TextReader" (77 : Nat) "MappingTexts$Version" "rules" "[LMappingTexts$Rule;") ∈ GW := gw_1 198 rfl rfl
theorem gw_1_199 : (Jvm.Cond.fieldLink "MappingTexts$Version" (23 : Nat) "MappingTexts$Version" "order" "[I") ∈ GW := gw_1 199 rfl rfl
theorem gw_1_200 : (Jvm.Cond.fieldLink "MappingTexts$Comparison" (34 : Nat) "MappingTexts$Version" "order" "[I") ∈ GW := gw_1 200 rfl rfl
theorem gw_1_201 : (Jvm.Cond.fieldLink "MappingTexts$Version" (27 : Nat) "MappingTexts$Version" "fieldCount" "I") ∈ GW := gw_1 201 rfl rfl
theorem gw_1_202 : (Jvm.Cond.fieldLink "MappingTexts$Comparison" (25 : Nat) "MappingTexts$Version" "fieldCount" "I") ∈ GW := gw_1 202 rfl rfl
theorem gw_1_203 : (Jvm.Cond.fieldLink "MappingTexts$TextReader" (189 : Nat) "MappingTexts$Version" "fieldCount" "I") ∈ GW := gw_1 203 rfl rfl
theorem gw_1_204 : (Jvm.Cond.fieldLink "MappingTexts" (194 : Nat) "MappingTexts$Version" "fieldCount" "I") ∈ GW := gw_1 204 rfl rfl
theorem gw_1_205 : (Jvm.Cond.fieldLink "MappingTexts$Version" (31 : Nat) "MappingTexts$Version" "ruleCount" "I") ∈ GW := gw_1 205 rfl rfl
theorem gw_1_206 : (Jvm.Cond.fieldLink "MappingTexts" (197 : Nat) "MappingTexts$Version" "ruleCount" "I") ∈ GW := gw_1 206 rfl rfl
theorem gw_1_207 : (Jvm.Cond.fieldLink "MappingTexts$TextReader" (269 : Nat) "MappingTexts$Version" "ruleCount" "I") ∈ GW := gw_1 207 rfl rfl
theorem gw_1_208 : (Jvm.Cond.fieldLink "MappingTexts$Version" (34 : Nat) "MappingTexts$Version" "limit" "I") ∈ GW := gw_1 208 rfl rfl
theorem gw_1_209 : (Jvm.Cond.fieldLink "MappingTexts" (200 : Nat) "MappingTexts$Version" "limit" "I") ∈ GW := gw_1 209 rfl rfl
theorem gw_1_210 : (Jvm.Cond.fieldLink "MappingTexts$TextReader" (318 : Nat) "MappingTexts$Version" "limit" "I") ∈ GW := gw_1 210 rfl rfl
theorem gw_1_211 : (Jvm.Cond.laysFinal "MappingTexts$Version" "MappingTexts$Version" "fields" "[LMappingTexts$Field;") ∈ GW := gw_1 211 rfl rfl
theorem gw_1_212 : (Jvm.Cond.soleField "MappingTexts$Version" "fields") ∈ GW := gw_1 212 rfl rfl
theorem gw_1_213 : (Jvm.Cond.laysFinal "MappingTexts$Version" "MappingTexts$Version" "rules" "[LMappingTexts$Rule;") ∈ GW := gw_1 213 rfl rfl
theorem gw_1_214 : (Jvm.Cond.soleField "MappingTexts$Version" "rules") ∈ GW := gw_1 214 rfl rfl
theorem gw_1_215 : (Jvm.Cond.laysFinal "MappingTexts$Version" "MappingTexts$Version" "order" "[I") ∈ GW := gw_1 215 rfl rfl
theorem gw_1_216 : (Jvm.Cond.soleField "MappingTexts$Version" "order") ∈ GW := gw_1 216 rfl rfl
theorem gw_1_217 : (Jvm.Cond.lays "MappingTexts$Version" "MappingTexts$Version" "fieldCount" "I") ∈ GW := gw_1 217 rfl rfl
theorem gw_1_218 : (Jvm.Cond.soleField "MappingTexts$Version" "fieldCount") ∈ GW := gw_1 218 rfl rfl
theorem gw_1_219 : (Jvm.Cond.lays "MappingTexts$Version" "MappingTexts$Version" "ruleCount" "I") ∈ GW := gw_1 219 rfl rfl
theorem gw_1_220 : (Jvm.Cond.soleField "MappingTexts$Version" "ruleCount") ∈ GW := gw_1 220 rfl rfl
theorem gw_1_221 : (Jvm.Cond.lays "MappingTexts$Version" "MappingTexts$Version" "limit" "I") ∈ GW := gw_1 221 rfl rfl
theorem gw_1_222 : (Jvm.Cond.soleField "MappingTexts$Version" "limit") ∈ GW := gw_1 222 rfl rfl
theorem gw_1_223 : (Jvm.Cond.superclass "MappingTexts$Version" "java/lang/Object") ∈ GW := gw_1 223 rfl rfl
theorem gw_1_224 : (Jvm.Cond.classLink "MappingTexts" (57 : Nat) "MappingTexts$TextReader") ∈ GW := gw_1 224 rfl rfl
theorem gw_1_225 : (Jvm.Cond.instantiable "MappingTexts$TextReader" (17 : Nat)) ∈ GW := gw_1 225 rfl rfl
theorem gw_1_226 : (Jvm.Cond.methodLink "MappingTexts" (59 : Nat) ({ cls := "MappingTexts$TextReader", name := "<init>", desc := "(LMappingTexts$Tokens;LMappingTexts$Version;)V" } : Jvm.MethodName)) ∈ GW := gw_1 226 rfl rfl
theorem gw_1_227 : (Jvm.Cond.instanceMethod ({ cls := "MappingTexts$TextReader", name := "<init>", desc := "(LMappingTexts$Tokens;LMappingTexts$Version;)V" } : Jvm.MethodName)) ∈ GW := gw_1 227 rfl rfl
theorem gw_1_228 : (Jvm.Cond.code ({ cls := "MappingTexts$TextReader", name := "<init>", desc := "(LMappingTexts$Tokens;LMappingTexts$Version;)V" } : Jvm.MethodName) prog_7_method_1_code (3 : Nat) (Option.none : Option Jvm.ClassFile.FieldType)) ∈ GW := gw_1 228 rfl rfl
theorem gw_1_229 : (Jvm.Cond.methodLink "MappingTexts$TextReader" (3 : Nat) ({ cls := "java/lang/Object", name := "<init>", desc := "()V" } : Jvm.MethodName)) ∈ GW := gw_1 229 rfl rfl
theorem gw_1_230 : (Jvm.Cond.classLink "MappingTexts$TextReader" (9 : Nat) "MappingTexts$Letters") ∈ GW := gw_1 230 rfl rfl
theorem gw_1_231 : (Jvm.Cond.methodLink "MappingTexts$TextReader" (11 : Nat) ({ cls := "MappingTexts$Letters", name := "<init>", desc := "(I)V" } : Jvm.MethodName)) ∈ GW := gw_1 231 rfl rfl
theorem gw_1_232 : (Jvm.Cond.fieldLink "MappingTexts$TextReader" (59 : Nat) "MappingTexts$TextReader" "tokens" "LMappingTexts$Tokens;") ∈ GW := gw_1 232 rfl rfl
theorem gw_1_233 : (Jvm.Cond.fieldLink "MappingTexts$TextReader" (14 : Nat) "MappingTexts$TextReader" "path" "LMappingTexts$Letters;") ∈ GW := gw_1 233 rfl rfl
theorem gw_1_234 : (Jvm.Cond.fieldLink "MappingTexts$TextReader" (20 : Nat) "MappingTexts$TextReader" "open" "[I") ∈ GW := gw_1 234 rfl rfl
theorem gw_1_235 : (Jvm.Cond.fieldLink "MappingTexts$TextReader" (24 : Nat) "MappingTexts$TextReader" "copyTokens" "[I") ∈ GW := gw_1 235 rfl rfl
theorem gw_1_236 : (Jvm.Cond.fieldLink "MappingTexts$TextReader" (27 : Nat) "MappingTexts$TextReader" "copyPathTokens" "[I") ∈ GW := gw_1 236 rfl rfl
theorem gw_1_237 : (Jvm.Cond.fieldLink "MappingTexts$TextReader" (30 : Nat) "MappingTexts$TextReader" "ofPathTokens" "[I") ∈ GW := gw_1 237 rfl rfl
theorem gw_1_238 : (Jvm.Cond.fieldLink "MappingTexts$TextReader" (63 : Nat) "MappingTexts$TextReader" "version" "LMappingTexts$Version;") ∈ GW := gw_1 238 rfl rfl
theorem gw_1_239 : (Jvm.Cond.fieldLink "MappingTexts$TextReader" (73 : Nat) "MappingTexts$TextReader" "field" "LMappingTexts$Field;") ∈ GW := gw_1 239 rfl rfl
theorem gw_2_0 : (Jvm.Cond.fieldLink "MappingTexts$TextReader" (81 : Nat) "MappingTexts$TextReader" "rule" "LMappingTexts$Rule;") ∈ GW := gw_2 0 rfl rfl
theorem gw_2_1 : (Jvm.Cond.fieldLink "MappingTexts$TextReader" (33 : Nat) "MappingTexts$TextReader" "state" "I") ∈ GW := gw_2 1 rfl rfl
theorem gw_2_2 : (Jvm.Cond.fieldLink "MappingTexts$TextReader" (37 : Nat) "MappingTexts$TextReader" "depth" "I") ∈ GW := gw_2 2 rfl rfl
theorem gw_2_3 : (Jvm.Cond.fieldLink "MappingTexts$TextReader" (40 : Nat) "MappingTexts$TextReader" "fieldToken" "I") ∈ GW := gw_2 3 rfl rfl
theorem gw_2_4 : (Jvm.Cond.fieldLink "MappingTexts$TextReader" (43 : Nat) "MappingTexts$TextReader" "option" "I") ∈ GW := gw_2 4 rfl rfl
theorem gw_2_5 : (Jvm.Cond.fieldLink "MappingTexts$TextReader" (46 : Nat) "MappingTexts$TextReader" "again" "Z") ∈ GW := gw_2 5 rfl rfl
theorem gw_2_6 : (Jvm.Cond.fieldLink "MappingTexts$TextReader" (50 : Nat) "MappingTexts$TextReader" "limitToken" "I") ∈ GW := gw_2 6 rfl rfl
theorem gw_2_7 : (Jvm.Cond.fieldLink "MappingTexts$TextReader" (53 : Nat) "MappingTexts$TextReader" "fault" "I") ∈ GW := gw_2 7 rfl rfl
theorem gw_2_8 : (Jvm.Cond.fieldLink "MappingTexts$TextReader" (56 : Nat) "MappingTexts$TextReader" "place" "I") ∈ GW := gw_2 8 rfl rfl
theorem gw_2_9 : (Jvm.Cond.laysFinal "MappingTexts$TextReader" "MappingTexts$TextReader" "tokens" "LMappingTexts$Tokens;") ∈ GW := gw_2 9 rfl rfl
theorem gw_2_10 : (Jvm.Cond.soleField "MappingTexts$TextReader" "tokens") ∈ GW := gw_2 10 rfl rfl
theorem gw_2_11 : (Jvm.Cond.laysFinal "MappingTexts$TextReader" "MappingTexts$TextReader" "path" "LMappingTexts$Letters;") ∈ GW := gw_2 11 rfl rfl
theorem gw_2_12 : (Jvm.Cond.soleField "MappingTexts$TextReader" "path") ∈ GW := gw_2 12 rfl rfl
theorem gw_2_13 : (Jvm.Cond.laysFinal "MappingTexts$TextReader" "MappingTexts$TextReader" "open" "[I") ∈ GW := gw_2 13 rfl rfl
theorem gw_2_14 : (Jvm.Cond.soleField "MappingTexts$TextReader" "open") ∈ GW := gw_2 14 rfl rfl
theorem gw_2_15 : (Jvm.Cond.laysFinal "MappingTexts$TextReader" "MappingTexts$TextReader" "copyTokens" "[I") ∈ GW := gw_2 15 rfl rfl
theorem gw_2_16 : (Jvm.Cond.soleField "MappingTexts$TextReader" "copyTokens") ∈ GW := gw_2 16 rfl rfl
theorem gw_2_17 : (Jvm.Cond.laysFinal "MappingTexts$TextReader" "MappingTexts$TextReader" "copyPathTokens" "[I") ∈ GW := gw_2 17 rfl rfl
theorem gw_2_18 : (Jvm.Cond.soleField "MappingTexts$TextReader" "copyPathTokens") ∈ GW := gw_2 18 rfl rfl
theorem gw_2_19 : (Jvm.Cond.laysFinal "MappingTexts$TextReader" "MappingTexts$TextReader" "ofPathTokens" "[I") ∈ GW := gw_2 19 rfl rfl
theorem gw_2_20 : (Jvm.Cond.soleField "MappingTexts$TextReader" "ofPathTokens") ∈ GW := gw_2 20 rfl rfl
theorem gw_2_21 : (Jvm.Cond.lays "MappingTexts$TextReader" "MappingTexts$TextReader" "version" "LMappingTexts$Version;") ∈ GW := gw_2 21 rfl rfl
theorem gw_2_22 : (Jvm.Cond.soleField "MappingTexts$TextReader" "version") ∈ GW := gw_2 22 rfl rfl
theorem gw_2_23 : (Jvm.Cond.lays "MappingTexts$TextReader" "MappingTexts$TextReader" "field" "LMappingTexts$Field;") ∈ GW := gw_2 23 rfl rfl
theorem gw_2_24 : (Jvm.Cond.soleField "MappingTexts$TextReader" "field") ∈ GW := gw_2 24 rfl rfl
theorem gw_2_25 : (Jvm.Cond.lays "MappingTexts$TextReader" "MappingTexts$TextReader" "rule" "LMappingTexts$Rule;") ∈ GW := gw_2 25 rfl rfl
theorem gw_2_26 : (Jvm.Cond.soleField "MappingTexts$TextReader" "rule") ∈ GW := gw_2 26 rfl rfl
theorem gw_2_27 : (Jvm.Cond.lays "MappingTexts$TextReader" "MappingTexts$TextReader" "state" "I") ∈ GW := gw_2 27 rfl rfl
theorem gw_2_28 : (Jvm.Cond.soleField "MappingTexts$TextReader" "state") ∈ GW := gw_2 28 rfl rfl
theorem gw_2_29 : (Jvm.Cond.lays "MappingTexts$TextReader" "MappingTexts$TextReader" "depth" "I") ∈ GW := gw_2 29 rfl rfl
theorem gw_2_30 : (Jvm.Cond.soleField "MappingTexts$TextReader" "depth") ∈ GW := gw_2 30 rfl rfl
theorem gw_2_31 : (Jvm.Cond.lays "MappingTexts$TextReader" "MappingTexts$TextReader" "fieldToken" "I") ∈ GW := gw_2 31 rfl rfl
theorem gw_2_32 : (Jvm.Cond.soleField "MappingTexts$TextReader" "fieldToken") ∈ GW := gw_2 32 rfl rfl
theorem gw_2_33 : (Jvm.Cond.lays "MappingTexts$TextReader" "MappingTexts$TextReader" "option" "I") ∈ GW := gw_2 33 rfl rfl
theorem gw_2_34 : (Jvm.Cond.soleField "MappingTexts$TextReader" "option") ∈ GW := gw_2 34 rfl rfl
theorem gw_2_35 : (Jvm.Cond.lays "MappingTexts$TextReader" "MappingTexts$TextReader" "again" "Z") ∈ GW := gw_2 35 rfl rfl
theorem gw_2_36 : (Jvm.Cond.soleField "MappingTexts$TextReader" "again") ∈ GW := gw_2 36 rfl rfl
theorem gw_2_37 : (Jvm.Cond.lays "MappingTexts$TextReader" "MappingTexts$TextReader" "limitToken" "I") ∈ GW := gw_2 37 rfl rfl
theorem gw_2_38 : (Jvm.Cond.soleField "MappingTexts$TextReader" "limitToken") ∈ GW := gw_2 38 rfl rfl
theorem gw_2_39 : (Jvm.Cond.lays "MappingTexts$TextReader" "MappingTexts$TextReader" "fault" "I") ∈ GW := gw_2 39 rfl rfl
theorem gw_2_40 : (Jvm.Cond.soleField "MappingTexts$TextReader" "fault") ∈ GW := gw_2 40 rfl rfl
theorem gw_2_41 : (Jvm.Cond.lays "MappingTexts$TextReader" "MappingTexts$TextReader" "place" "I") ∈ GW := gw_2 41 rfl rfl
theorem gw_2_42 : (Jvm.Cond.soleField "MappingTexts$TextReader" "place") ∈ GW := gw_2 42 rfl rfl
theorem gw_2_43 : (Jvm.Cond.superclass "MappingTexts$TextReader" "java/lang/Object") ∈ GW := gw_2 43 rfl rfl
theorem gw_2_44 : (Jvm.Cond.fieldLink "MappingTexts" (14 : Nat) "MappingTexts" "tape" "LMappingTexts$Letters;") ∈ GW := gw_2 44 rfl rfl
theorem gw_2_45 : (Jvm.Cond.fieldLink "MappingTexts" (18 : Nat) "MappingTexts" "path" "LMappingTexts$Letters;") ∈ GW := gw_2 45 rfl rfl
theorem gw_2_46 : (Jvm.Cond.fieldLink "MappingTexts" (26 : Nat) "MappingTexts" "tokens" "LMappingTexts$Tokens;") ∈ GW := gw_2 46 rfl rfl
theorem gw_2_47 : (Jvm.Cond.fieldLink "MappingTexts" (32 : Nat) "MappingTexts" "versions" "[LMappingTexts$Version;") ∈ GW := gw_2 47 rfl rfl
theorem gw_2_48 : (Jvm.Cond.fieldLink "MappingTexts" (62 : Nat) "MappingTexts" "reader" "LMappingTexts$TextReader;") ∈ GW := gw_2 48 rfl rfl
theorem gw_2_49 : (Jvm.Cond.fieldLink "MappingTexts" (39 : Nat) "MappingTexts" "comparison" "LMappingTexts$Comparison;") ∈ GW := gw_2 49 rfl rfl
theorem gw_2_50 : (Jvm.Cond.fieldLink "MappingTexts" (43 : Nat) "MappingTexts" "printed" "LMappingTexts$Letters;") ∈ GW := gw_2 50 rfl rfl
theorem gw_2_51 : (Jvm.Cond.fieldLink "MappingTexts" (46 : Nat) "MappingTexts" "spare" "LMappingTexts$Letters;") ∈ GW := gw_2 51 rfl rfl
theorem gw_2_52 : (Jvm.Cond.fieldLink "MappingTexts" (49 : Nat) "MappingTexts" "versionCount" "I") ∈ GW := gw_2 52 rfl rfl
theorem gw_2_53 : (Jvm.Cond.fieldLink "MappingTexts" (53 : Nat) "MappingTexts" "faultPlace" "I") ∈ GW := gw_2 53 rfl rfl
theorem gw_2_54 : (Jvm.Cond.laysFinal "MappingTexts" "MappingTexts" "tape" "LMappingTexts$Letters;") ∈ GW := gw_2 54 rfl rfl
theorem gw_2_55 : (Jvm.Cond.soleField "MappingTexts" "tape") ∈ GW := gw_2 55 rfl rfl
theorem gw_2_56 : (Jvm.Cond.laysFinal "MappingTexts" "MappingTexts" "path" "LMappingTexts$Letters;") ∈ GW := gw_2 56 rfl rfl
theorem gw_2_57 : (Jvm.Cond.soleField "MappingTexts" "path") ∈ GW := gw_2 57 rfl rfl
theorem gw_2_58 : (Jvm.Cond.laysFinal "MappingTexts" "MappingTexts" "tokens" "LMappingTexts$Tokens;") ∈ GW := gw_2 58 rfl rfl
theorem gw_2_59 : (Jvm.Cond.soleField "MappingTexts" "tokens") ∈ GW := gw_2 59 rfl rfl
theorem gw_2_60 : (Jvm.Cond.laysFinal "MappingTexts" "MappingTexts" "versions" "[LMappingTexts$Version;") ∈ GW := gw_2 60 rfl rfl
theorem gw_2_61 : (Jvm.Cond.soleField "MappingTexts" "versions") ∈ GW := gw_2 61 rfl rfl
theorem gw_2_62 : (Jvm.Cond.laysFinal "MappingTexts" "MappingTexts" "reader" "LMappingTexts$TextReader;") ∈ GW := gw_2 62 rfl rfl
theorem gw_2_63 : (Jvm.Cond.soleField "MappingTexts" "reader") ∈ GW := gw_2 63 rfl rfl
theorem gw_2_64 : (Jvm.Cond.laysFinal "MappingTexts" "MappingTexts" "comparison" "LMappingTexts$Comparison;") ∈ GW := gw_2 64 rfl rfl
theorem gw_2_65 : (Jvm.Cond.soleField "MappingTexts" "comparison") ∈ GW := gw_2 65 rfl rfl
theorem gw_2_66 : (Jvm.Cond.lays "MappingTexts" "MappingTexts" "printed" "LMappingTexts$Letters;") ∈ GW := gw_2 66 rfl rfl
theorem gw_2_67 : (Jvm.Cond.soleField "MappingTexts" "printed") ∈ GW := gw_2 67 rfl rfl
theorem gw_2_68 : (Jvm.Cond.lays "MappingTexts" "MappingTexts" "spare" "LMappingTexts$Letters;") ∈ GW := gw_2 68 rfl rfl
theorem gw_2_69 : (Jvm.Cond.soleField "MappingTexts" "spare") ∈ GW := gw_2 69 rfl rfl
theorem gw_2_70 : (Jvm.Cond.lays "MappingTexts" "MappingTexts" "versionCount" "I") ∈ GW := gw_2 70 rfl rfl
theorem gw_2_71 : (Jvm.Cond.soleField "MappingTexts" "versionCount") ∈ GW := gw_2 71 rfl rfl
theorem gw_2_72 : (Jvm.Cond.lays "MappingTexts" "MappingTexts" "faultPlace" "I") ∈ GW := gw_2 72 rfl rfl
theorem gw_2_73 : (Jvm.Cond.soleField "MappingTexts" "faultPlace") ∈ GW := gw_2 73 rfl rfl
theorem gw_2_74 : (Jvm.Cond.superclass "MappingTexts" "java/lang/Object") ∈ GW := gw_2 74 rfl rfl
theorem gw_2_75 : (Jvm.Cond.methodLink "MappingTextsLaw" (15 : Nat) ({ cls := "MappingTexts", name := "feed", desc := "(IJ)I" } : Jvm.MethodName)) ∈ GW := gw_2 75 rfl rfl
theorem gw_2_76 : (Jvm.Cond.instanceMethod ({ cls := "MappingTexts", name := "feed", desc := "(IJ)I" } : Jvm.MethodName)) ∈ GW := gw_2 76 rfl rfl
theorem gw_2_77 : (Jvm.Cond.selects "MappingTexts" ({ cls := "MappingTexts", name := "feed", desc := "(IJ)I" } : Jvm.MethodName) ({ cls := "MappingTexts", name := "feed", desc := "(IJ)I" } : Jvm.MethodName)) ∈ GW := gw_2 77 rfl rfl
theorem gw_2_78 : (Jvm.Cond.code ({ cls := "MappingTexts", name := "feed", desc := "(IJ)I" } : Jvm.MethodName) prog_1_method_2_code (5 : Nat) (Option.some Jvm.ClassFile.FieldType.int)) ∈ GW := gw_2 78 rfl rfl
theorem gw_2_79 : (Jvm.Cond.methodLink "MappingTexts" (66 : Nat) ({ cls := "MappingTexts$Letters", name := "hasRoomFor", desc := "(I)Z" } : Jvm.MethodName)) ∈ GW := gw_2 79 rfl rfl
theorem gw_2_80 : (Jvm.Cond.instanceMethod ({ cls := "MappingTexts$Letters", name := "hasRoomFor", desc := "(I)Z" } : Jvm.MethodName)) ∈ GW := gw_2 80 rfl rfl
theorem gw_2_81 : (Jvm.Cond.selects "MappingTexts$Letters" ({ cls := "MappingTexts$Letters", name := "hasRoomFor", desc := "(I)Z" } : Jvm.MethodName) ({ cls := "MappingTexts$Letters", name := "hasRoomFor", desc := "(I)Z" } : Jvm.MethodName)) ∈ GW := gw_2 81 rfl rfl
theorem gw_2_82 : (Jvm.Cond.code ({ cls := "MappingTexts$Letters", name := "hasRoomFor", desc := "(I)Z" } : Jvm.MethodName) prog_5_method_4_code (2 : Nat) (Option.some Jvm.ClassFile.FieldType.boolean)) ∈ GW := gw_2 82 rfl rfl
theorem gw_2_83 : (Jvm.Cond.methodLink "MappingTexts" (70 : Nat) ({ cls := "MappingTexts$Letters", name := "add", desc := "(I)V" } : Jvm.MethodName)) ∈ GW := gw_2 83 rfl rfl
theorem gw_2_84 : (Jvm.Cond.instanceMethod ({ cls := "MappingTexts$Letters", name := "add", desc := "(I)V" } : Jvm.MethodName)) ∈ GW := gw_2 84 rfl rfl
theorem gw_2_85 : (Jvm.Cond.selects "MappingTexts$Letters" ({ cls := "MappingTexts$Letters", name := "add", desc := "(I)V" } : Jvm.MethodName) ({ cls := "MappingTexts$Letters", name := "add", desc := "(I)V" } : Jvm.MethodName)) ∈ GW := gw_2 85 rfl rfl
theorem gw_2_86 : (Jvm.Cond.code ({ cls := "MappingTexts$Letters", name := "add", desc := "(I)V" } : Jvm.MethodName) prog_5_method_7_code (2 : Nat) (Option.none : Option Jvm.ClassFile.FieldType)) ∈ GW := gw_2 86 rfl rfl
theorem gw_2_87 : (Jvm.Cond.methodLink "MappingTexts" (73 : Nat) ({ cls := "MappingTexts$Letters", name := "length", desc := "()I" } : Jvm.MethodName)) ∈ GW := gw_2 87 rfl rfl
theorem gw_2_88 : (Jvm.Cond.instanceMethod ({ cls := "MappingTexts$Letters", name := "length", desc := "()I" } : Jvm.MethodName)) ∈ GW := gw_2 88 rfl rfl
theorem gw_2_89 : (Jvm.Cond.selects "MappingTexts$Letters" ({ cls := "MappingTexts$Letters", name := "length", desc := "()I" } : Jvm.MethodName) ({ cls := "MappingTexts$Letters", name := "length", desc := "()I" } : Jvm.MethodName)) ∈ GW := gw_2 89 rfl rfl
theorem gw_2_90 : (Jvm.Cond.code ({ cls := "MappingTexts$Letters", name := "length", desc := "()I" } : Jvm.MethodName) prog_5_method_2_code (1 : Nat) (Option.some Jvm.ClassFile.FieldType.int)) ∈ GW := gw_2 90 rfl rfl
theorem gw_2_91 : (Jvm.Cond.methodLink "MappingTextsLaw" (20 : Nat) ({ cls := "MappingTexts", name := "read", desc := "()I" } : Jvm.MethodName)) ∈ GW := gw_2 91 rfl rfl
theorem gw_2_92 : (Jvm.Cond.instanceMethod ({ cls := "MappingTexts", name := "read", desc := "()I" } : Jvm.MethodName)) ∈ GW := gw_2 92 rfl rfl
theorem gw_2_93 : (Jvm.Cond.selects "MappingTexts" ({ cls := "MappingTexts", name := "read", desc := "()I" } : Jvm.MethodName) ({ cls := "MappingTexts", name := "read", desc := "()I" } : Jvm.MethodName)) ∈ GW := gw_2 93 rfl rfl
theorem gw_2_94 : (Jvm.Cond.code ({ cls := "MappingTexts", name := "read", desc := "()I" } : Jvm.MethodName) prog_1_method_3_code (3 : Nat) (Option.some Jvm.ClassFile.FieldType.int)) ∈ GW := gw_2 94 rfl rfl
theorem gw_2_95 : (Jvm.Cond.methodLink "MappingTexts" (77 : Nat) ({ cls := "MappingTexts$Letters", name := "clear", desc := "()V" } : Jvm.MethodName)) ∈ GW := gw_2 95 rfl rfl
theorem gw_2_96 : (Jvm.Cond.instanceMethod ({ cls := "MappingTexts$Letters", name := "clear", desc := "()V" } : Jvm.MethodName)) ∈ GW := gw_2 96 rfl rfl
theorem gw_2_97 : (Jvm.Cond.selects "MappingTexts$Letters" ({ cls := "MappingTexts$Letters", name := "clear", desc := "()V" } : Jvm.MethodName) ({ cls := "MappingTexts$Letters", name := "clear", desc := "()V" } : Jvm.MethodName)) ∈ GW := gw_2 97 rfl rfl
theorem gw_2_98 : (Jvm.Cond.code ({ cls := "MappingTexts$Letters", name := "clear", desc := "()V" } : Jvm.MethodName) prog_5_method_6_code (1 : Nat) (Option.none : Option Jvm.ClassFile.FieldType)) ∈ GW := gw_2 98 rfl rfl
theorem gw_2_99 : (Jvm.Cond.methodLink "MappingTexts" (80 : Nat) ({ cls := "MappingTexts$TextReader", name := "readInto", desc := "(LMappingTexts$Version;)I" } : Jvm.MethodName)) ∈ GW := gw_2 99 rfl rfl
theorem gw_2_100 : (Jvm.Cond.instanceMethod ({ cls := "MappingTexts$TextReader", name := "readInto", desc := "(LMappingTexts$Version;)I" } : Jvm.MethodName)) ∈ GW := gw_2 100 rfl rfl
theorem gw_2_101 : (Jvm.Cond.selects "MappingTexts$TextReader" ({ cls := "MappingTexts$TextReader", name := "readInto", desc := "(LMappingTexts$Version;)I" } : Jvm.MethodName) ({ cls := "MappingTexts$TextReader", name := "readInto", desc := "(LMappingTexts$Version;)I" } : Jvm.MethodName)) ∈ GW := gw_2 101 rfl rfl
theorem gw_2_102 : (Jvm.Cond.code ({ cls := "MappingTexts$TextReader", name := "readInto", desc := "(LMappingTexts$Version;)I" } : Jvm.MethodName) prog_7_method_3_code (5 : Nat) (Option.some Jvm.ClassFile.FieldType.int)) ∈ GW := gw_2 102 rfl rfl
theorem gw_2_103 : (Jvm.Cond.methodLink "MappingTexts$TextReader" (85 : Nat) ({ cls := "MappingTexts$TextReader", name := "begin", desc := "(LMappingTexts$Version;)V" } : Jvm.MethodName)) ∈ GW := gw_2 103 rfl rfl
theorem lt_2_104 : (Jvm.Cond.privateMethod ({ cls := "MappingTexts$TextReader", name := "begin", desc := "(LMappingTexts$Version;)V" } : Jvm.MethodName)) ∈ lw_tbl := lt_2 104 rfl
theorem gw_2_105 : (Jvm.Cond.instanceMethod ({ cls := "MappingTexts$TextReader", name := "begin", desc := "(LMappingTexts$Version;)V" } : Jvm.MethodName)) ∈ GW := gw_2 105 rfl rfl
theorem gw_2_106 : (Jvm.Cond.code ({ cls := "MappingTexts$TextReader", name := "begin", desc := "(LMappingTexts$Version;)V" } : Jvm.MethodName) prog_7_method_4_code (2 : Nat) (Option.none : Option Jvm.ClassFile.FieldType)) ∈ GW := gw_2 106 rfl rfl
theorem gw_2_107 : (Jvm.Cond.methodLink "MappingTexts$TextReader" (121 : Nat) ({ cls := "MappingTexts$Version", name := "begin", desc := "()V" } : Jvm.MethodName)) ∈ GW := gw_2 107 rfl rfl
theorem gw_2_108 : (Jvm.Cond.instanceMethod ({ cls := "MappingTexts$Version", name := "begin", desc := "()V" } : Jvm.MethodName)) ∈ GW := gw_2 108 rfl rfl
theorem gw_2_109 : (Jvm.Cond.selects "MappingTexts$Version" ({ cls := "MappingTexts$Version", name := "begin", desc := "()V" } : Jvm.MethodName) ({ cls := "MappingTexts$Version", name := "begin", desc := "()V" } : Jvm.MethodName)) ∈ GW := gw_2 109 rfl rfl
theorem gw_2_110 : (Jvm.Cond.code ({ cls := "MappingTexts$Version", name := "begin", desc := "()V" } : Jvm.MethodName) prog_9_method_2_code (1 : Nat) (Option.none : Option Jvm.ClassFile.FieldType)) ∈ GW := gw_2 110 rfl rfl
theorem gw_2_111 : (Jvm.Cond.methodLink "MappingTexts$TextReader" (89 : Nat) ({ cls := "MappingTexts$Tokens", name := "readAll", desc := "()I" } : Jvm.MethodName)) ∈ GW := gw_2 111 rfl rfl
theorem gw_2_112 : (Jvm.Cond.instanceMethod ({ cls := "MappingTexts$Tokens", name := "readAll", desc := "()I" } : Jvm.MethodName)) ∈ GW := gw_2 112 rfl rfl
theorem gw_2_113 : (Jvm.Cond.selects "MappingTexts$Tokens" ({ cls := "MappingTexts$Tokens", name := "readAll", desc := "()I" } : Jvm.MethodName) ({ cls := "MappingTexts$Tokens", name := "readAll", desc := "()I" } : Jvm.MethodName)) ∈ GW := gw_2 113 rfl rfl
theorem gw_2_114 : (Jvm.Cond.code ({ cls := "MappingTexts$Tokens", name := "readAll", desc := "()I" } : Jvm.MethodName) prog_8_method_6_code (4 : Nat) (Option.some Jvm.ClassFile.FieldType.int)) ∈ GW := gw_2 114 rfl rfl
theorem gw_2_115 : (Jvm.Cond.methodLink "MappingTexts$Tokens" (29 : Nat) ({ cls := "MappingTexts$Letters", name := "length", desc := "()I" } : Jvm.MethodName)) ∈ GW := gw_2 115 rfl rfl
theorem gw_2_116 : (Jvm.Cond.methodLink "MappingTexts$Tokens" (35 : Nat) ({ cls := "MappingTexts$Letters", name := "at", desc := "(I)I" } : Jvm.MethodName)) ∈ GW := gw_2 116 rfl rfl
theorem gw_2_117 : (Jvm.Cond.instanceMethod ({ cls := "MappingTexts$Letters", name := "at", desc := "(I)I" } : Jvm.MethodName)) ∈ GW := gw_2 117 rfl rfl
theorem gw_2_118 : (Jvm.Cond.selects "MappingTexts$Letters" ({ cls := "MappingTexts$Letters", name := "at", desc := "(I)I" } : Jvm.MethodName) ({ cls := "MappingTexts$Letters", name := "at", desc := "(I)I" } : Jvm.MethodName)) ∈ GW := gw_2 118 rfl rfl
theorem gw_2_119 : (Jvm.Cond.code ({ cls := "MappingTexts$Letters", name := "at", desc := "(I)I" } : Jvm.MethodName) prog_5_method_5_code (2 : Nat) (Option.some Jvm.ClassFile.FieldType.int)) ∈ GW := gw_2 119 rfl rfl
theorem gw_2_120 : (Jvm.Cond.methodLink "MappingTexts$Tokens" (39 : Nat) ({ cls := "MappingTexts$Tokens", name := "goesOn", desc := "(II)Z" } : Jvm.MethodName)) ∈ GW := gw_2 120 rfl rfl
theorem gw_2_121 : (Jvm.Cond.static ({ cls := "MappingTexts$Tokens", name := "goesOn", desc := "(II)Z" } : Jvm.MethodName)) ∈ GW := gw_2 121 rfl rfl
theorem gw_2_122 : (Jvm.Cond.code ({ cls := "MappingTexts$Tokens", name := "goesOn", desc := "(II)Z" } : Jvm.MethodName) prog_8_method_9_code (2 : Nat) (Option.some Jvm.ClassFile.FieldType.boolean)) ∈ GW := gw_2 122 rfl rfl
theorem gw_2_123 : (Jvm.Cond.methodLink "MappingTexts$Tokens" (57 : Nat) ({ cls := "MappingTexts$Tokens", name := "isSmall", desc := "(I)Z" } : Jvm.MethodName)) ∈ GW := gw_2 123 rfl rfl
theorem gw_2_124 : (Jvm.Cond.static ({ cls := "MappingTexts$Tokens", name := "isSmall", desc := "(I)Z" } : Jvm.MethodName)) ∈ GW := gw_2 124 rfl rfl
theorem gw_2_125 : (Jvm.Cond.code ({ cls := "MappingTexts$Tokens", name := "isSmall", desc := "(I)Z" } : Jvm.MethodName) prog_8_method_11_code (1 : Nat) (Option.some Jvm.ClassFile.FieldType.boolean)) ∈ GW := gw_2 125 rfl rfl
theorem gw_2_126 : (Jvm.Cond.methodLink "MappingTexts$Tokens" (60 : Nat) ({ cls := "MappingTexts$Tokens", name := "isDigit", desc := "(I)Z" } : Jvm.MethodName)) ∈ GW := gw_2 126 rfl rfl
theorem gw_2_127 : (Jvm.Cond.static ({ cls := "MappingTexts$Tokens", name := "isDigit", desc := "(I)Z" } : Jvm.MethodName)) ∈ GW := gw_2 127 rfl rfl
theorem gw_2_128 : (Jvm.Cond.code ({ cls := "MappingTexts$Tokens", name := "isDigit", desc := "(I)Z" } : Jvm.MethodName) prog_8_method_12_code (1 : Nat) (Option.some Jvm.ClassFile.FieldType.boolean)) ∈ GW := gw_2 128 rfl rfl
theorem gw_2_129 : (Jvm.Cond.methodLink "MappingTexts$Tokens" (43 : Nat) ({ cls := "MappingTexts$Tokens", name := "lengthenLast", desc := "(I)Z" } : Jvm.MethodName)) ∈ GW := gw_2 129 rfl rfl
theorem lt_2_130 : (Jvm.Cond.privateMethod ({ cls := "MappingTexts$Tokens", name := "lengthenLast", desc := "(I)Z" } : Jvm.MethodName)) ∈ lw_tbl := lt_2 130 rfl
theorem gw_2_131 : (Jvm.Cond.instanceMethod ({ cls := "MappingTexts$Tokens", name := "lengthenLast", desc := "(I)Z" } : Jvm.MethodName)) ∈ GW := gw_2 131 rfl rfl
theorem gw_2_132 : (Jvm.Cond.code ({ cls := "MappingTexts$Tokens", name := "lengthenLast", desc := "(I)Z" } : Jvm.MethodName) prog_8_method_8_code (2 : Nat) (Option.some Jvm.ClassFile.FieldType.boolean)) ∈ GW := gw_2 132 rfl rfl
theorem gw_2_133 : (Jvm.Cond.methodLink "MappingTexts$Tokens" (47 : Nat) ({ cls := "MappingTexts$Tokens", name := "placeAt", desc := "(I)I" } : Jvm.MethodName)) ∈ GW := gw_2 133 rfl rfl
theorem gw_2_134 : (Jvm.Cond.instanceMethod ({ cls := "MappingTexts$Tokens", name := "placeAt", desc := "(I)I" } : Jvm.MethodName)) ∈ GW := gw_2 134 rfl rfl
theorem gw_2_135 : (Jvm.Cond.selects "MappingTexts$Tokens" ({ cls := "MappingTexts$Tokens", name := "placeAt", desc := "(I)I" } : Jvm.MethodName) ({ cls := "MappingTexts$Tokens", name := "placeAt", desc := "(I)I" } : Jvm.MethodName)) ∈ GW := gw_2 135 rfl rfl
theorem gw_2_136 : (Jvm.Cond.code ({ cls := "MappingTexts$Tokens", name := "placeAt", desc := "(I)I" } : Jvm.MethodName) prog_8_method_5_code (2 : Nat) (Option.some Jvm.ClassFile.FieldType.int)) ∈ GW := gw_2 136 rfl rfl
theorem gw_2_137 : (Jvm.Cond.methodLink "MappingTexts$Tokens" (50 : Nat) ({ cls := "MappingTexts$Tokens", name := "kindBegunBy", desc := "(I)I" } : Jvm.MethodName)) ∈ GW := gw_2 137 rfl rfl
theorem gw_2_138 : (Jvm.Cond.static ({ cls := "MappingTexts$Tokens", name := "kindBegunBy", desc := "(I)I" } : Jvm.MethodName)) ∈ GW := gw_2 138 rfl rfl
theorem gw_2_139 : (Jvm.Cond.code ({ cls := "MappingTexts$Tokens", name := "kindBegunBy", desc := "(I)I" } : Jvm.MethodName) prog_8_method_10_code (1 : Nat) (Option.some Jvm.ClassFile.FieldType.int)) ∈ GW := gw_2 139 rfl rfl
theorem gw_2_140 : (Jvm.Cond.methodLink "MappingTexts$Tokens" (53 : Nat) ({ cls := "MappingTexts$Tokens", name := "begin", desc := "(II)V" } : Jvm.MethodName)) ∈ GW := gw_2 140 rfl rfl
theorem lt_2_141 : (Jvm.Cond.privateMethod ({ cls := "MappingTexts$Tokens", name := "begin", desc := "(II)V" } : Jvm.MethodName)) ∈ lw_tbl := lt_2 141 rfl
theorem gw_2_142 : (Jvm.Cond.instanceMethod ({ cls := "MappingTexts$Tokens", name := "begin", desc := "(II)V" } : Jvm.MethodName)) ∈ GW := gw_2 142 rfl rfl
theorem gw_2_143 : (Jvm.Cond.code ({ cls := "MappingTexts$Tokens", name := "begin", desc := "(II)V" } : Jvm.MethodName) prog_8_method_7_code (3 : Nat) (Option.none : Option Jvm.ClassFile.FieldType)) ∈ GW := gw_2 143 rfl rfl
theorem gw_2_144 : (Jvm.Cond.methodLink "MappingTexts$TextReader" (95 : Nat) ({ cls := "MappingTexts$TextReader", name := "stop", desc := "(II)I" } : Jvm.MethodName)) ∈ GW := gw_2 144 rfl rfl
theorem lt_2_145 : (Jvm.Cond.privateMethod ({ cls := "MappingTexts$TextReader", name := "stop", desc := "(II)I" } : Jvm.MethodName)) ∈ lw_tbl := lt_2 145 rfl
theorem gw_2_146 : (Jvm.Cond.instanceMethod ({ cls := "MappingTexts$TextReader", name := "stop", desc := "(II)I" } : Jvm.MethodName)) ∈ GW := gw_2 146 rfl rfl
theorem gw_2_147 : (Jvm.Cond.code ({ cls := "MappingTexts$TextReader", name := "stop", desc := "(II)I" } : Jvm.MethodName) prog_7_method_5_code (3 : Nat) (Option.some Jvm.ClassFile.FieldType.int)) ∈ GW := gw_2 147 rfl rfl
theorem gw_2_148 : (Jvm.Cond.methodLink "MappingTexts$TextReader" (99 : Nat) ({ cls := "MappingTexts$Tokens", name := "count", desc := "()I" } : Jvm.MethodName)) ∈ GW := gw_2 148 rfl rfl
theorem gw_2_149 : (Jvm.Cond.instanceMethod ({ cls := "MappingTexts$Tokens", name := "count", desc := "()I" } : Jvm.MethodName)) ∈ GW := gw_2 149 rfl rfl
theorem gw_2_150 : (Jvm.Cond.selects "MappingTexts$Tokens" ({ cls := "MappingTexts$Tokens", name := "count", desc := "()I" } : Jvm.MethodName) ({ cls := "MappingTexts$Tokens", name := "count", desc := "()I" } : Jvm.MethodName)) ∈ GW := gw_2 150 rfl rfl
theorem gw_2_151 : (Jvm.Cond.code ({ cls := "MappingTexts$Tokens", name := "count", desc := "()I" } : Jvm.MethodName) prog_8_method_2_code (1 : Nat) (Option.some Jvm.ClassFile.FieldType.int)) ∈ GW := gw_2 151 rfl rfl
theorem gw_2_152 : (Jvm.Cond.methodLink "MappingTexts$TextReader" (102 : Nat) ({ cls := "MappingTexts$TextReader", name := "step", desc := "(I)I" } : Jvm.MethodName)) ∈ GW := gw_2 152 rfl rfl
theorem lt_2_153 : (Jvm.Cond.privateMethod ({ cls := "MappingTexts$TextReader", name := "step", desc := "(I)I" } : Jvm.MethodName)) ∈ lw_tbl := lt_2 153 rfl
theorem gw_2_154 : (Jvm.Cond.instanceMethod ({ cls := "MappingTexts$TextReader", name := "step", desc := "(I)I" } : Jvm.MethodName)) ∈ GW := gw_2 154 rfl rfl
theorem gw_2_155 : (Jvm.Cond.code ({ cls := "MappingTexts$TextReader", name := "step", desc := "(I)I" } : Jvm.MethodName) prog_7_method_7_code (2 : Nat) (Option.some Jvm.ClassFile.FieldType.int)) ∈ GW := gw_2 155 rfl rfl
theorem gw_2_156 : (Jvm.Cond.methodLink "MappingTexts$TextReader" (123 : Nat) ({ cls := "MappingTexts$TextReader", name := "isFieldName", desc := "(I)Z" } : Jvm.MethodName)) ∈ GW := gw_2 156 rfl rfl
theorem lt_2_157 : (Jvm.Cond.privateMethod ({ cls := "MappingTexts$TextReader", name := "isFieldName", desc := "(I)Z" } : Jvm.MethodName)) ∈ lw_tbl := lt_2 157 rfl
theorem gw_2_158 : (Jvm.Cond.instanceMethod ({ cls := "MappingTexts$TextReader", name := "isFieldName", desc := "(I)Z" } : Jvm.MethodName)) ∈ GW := gw_2 158 rfl rfl
theorem gw_2_159 : (Jvm.Cond.code ({ cls := "MappingTexts$TextReader", name := "isFieldName", desc := "(I)Z" } : Jvm.MethodName) prog_7_method_9_code (2 : Nat) (Option.some Jvm.ClassFile.FieldType.boolean)) ∈ GW := gw_2 159 rfl rfl
theorem gw_2_160 : (Jvm.Cond.methodLink "MappingTexts$TextReader" (173 : Nat) ({ cls := "MappingTexts$Tokens", name := "kindAt", desc := "(I)I" } : Jvm.MethodName)) ∈ GW := gw_2 160 rfl rfl
theorem gw_2_161 : (Jvm.Cond.instanceMethod ({ cls := "MappingTexts$Tokens", name := "kindAt", desc := "(I)I" } : Jvm.MethodName)) ∈ GW := gw_2 161 rfl rfl
theorem gw_2_162 : (Jvm.Cond.selects "MappingTexts$Tokens" ({ cls := "MappingTexts$Tokens", name := "kindAt", desc := "(I)I" } : Jvm.MethodName) ({ cls := "MappingTexts$Tokens", name := "kindAt", desc := "(I)I" } : Jvm.MethodName)) ∈ GW := gw_2 162 rfl rfl
theorem gw_2_163 : (Jvm.Cond.code ({ cls := "MappingTexts$Tokens", name := "kindAt", desc := "(I)I" } : Jvm.MethodName) prog_8_method_4_code (2 : Nat) (Option.some Jvm.ClassFile.FieldType.int)) ∈ GW := gw_2 163 rfl rfl
theorem lt_2_164 : (Jvm.Cond.stringRef "MappingTexts$TextReader" (176 : Nat) "rule") ∈ lw_tbl := lt_2 164 rfl
theorem gw_2_165 : (Jvm.Cond.methodLink "MappingTexts$TextReader" (177 : Nat) ({ cls := "MappingTexts$Tokens", name := "isWord", desc := "(ILjava/lang/String;)Z" } : Jvm.MethodName)) ∈ GW := gw_2 165 rfl rfl
theorem gw_2_166 : (Jvm.Cond.instanceMethod ({ cls := "MappingTexts$Tokens", name := "isWord", desc := "(ILjava/lang/String;)Z" } : Jvm.MethodName)) ∈ GW := gw_2 166 rfl rfl
theorem gw_2_167 : (Jvm.Cond.selects "MappingTexts$Tokens" ({ cls := "MappingTexts$Tokens", name := "isWord", desc := "(ILjava/lang/String;)Z" } : Jvm.MethodName) ({ cls := "MappingTexts$Tokens", name := "isWord", desc := "(ILjava/lang/String;)Z" } : Jvm.MethodName)) ∈ GW := gw_2 167 rfl rfl
theorem gw_2_168 : (Jvm.Cond.code ({ cls := "MappingTexts$Tokens", name := "isWord", desc := "(ILjava/lang/String;)Z" } : Jvm.MethodName) prog_8_method_13_code (3 : Nat) (Option.some Jvm.ClassFile.FieldType.boolean)) ∈ GW := gw_2 168 rfl rfl
theorem gw_2_169 : (Jvm.Cond.methodLink "MappingTexts$Tokens" (63 : Nat) ({ cls := "MappingTexts$Tokens", name := "kindAt", desc := "(I)I" } : Jvm.MethodName)) ∈ GW := gw_2 169 rfl rfl
theorem gw_2_170 : (Jvm.Cond.methodLink "MappingTexts$Tokens" (66 : Nat) ({ cls := "MappingTexts$Letters", name := "isWordAt", desc := "(IILjava/lang/String;)Z" } : Jvm.MethodName)) ∈ GW := gw_2 170 rfl rfl
theorem gw_2_171 : (Jvm.Cond.instanceMethod ({ cls := "MappingTexts$Letters", name := "isWordAt", desc := "(IILjava/lang/String;)Z" } : Jvm.MethodName)) ∈ GW := gw_2 171 rfl rfl
theorem gw_2_172 : (Jvm.Cond.selects "MappingTexts$Letters" ({ cls := "MappingTexts$Letters", name := "isWordAt", desc := "(IILjava/lang/String;)Z" } : Jvm.MethodName) ({ cls := "MappingTexts$Letters", name := "isWordAt", desc := "(IILjava/lang/String;)Z" } : Jvm.MethodName)) ∈ GW := gw_2 172 rfl rfl
theorem gw_2_173 : (Jvm.Cond.code ({ cls := "MappingTexts$Letters", name := "isWordAt", desc := "(IILjava/lang/String;)Z" } : Jvm.MethodName) prog_5_method_16_code (5 : Nat) (Option.some Jvm.ClassFile.FieldType.boolean)) ∈ GW := gw_2 173 rfl rfl
theorem gw_2_174 : (Jvm.Cond.methodLink "MappingTexts$Letters" (29 : Nat) ({ cls := "java/lang/String", name := "length", desc := "()I" } : Jvm.MethodName)) ∈ GW := gw_2 174 rfl rfl
theorem gw_2_175 : (Jvm.Cond.instanceMethod ({ cls := "java/lang/String", name := "length", desc := "()I" } : Jvm.MethodName)) ∈ GW := gw_2 175 rfl rfl
theorem gw_2_176 : (Jvm.Cond.selects "java/lang/String" ({ cls := "java/lang/String", name := "length", desc := "()I" } : Jvm.MethodName) ({ cls := "java/lang/String", name := "length", desc := "()I" } : Jvm.MethodName)) ∈ GW := gw_2 176 rfl rfl
theorem gw_2_177 : (Jvm.Cond.code ({ cls := "java/lang/String", name := "length", desc := "()I" } : Jvm.MethodName) prog_13_method_54_code (1 : Nat) (Option.some Jvm.ClassFile.FieldType.int)) ∈ GW := gw_2 177 rfl rfl
theorem gw_2_178 : (Jvm.Cond.methodLink "java/lang/String" (335 : Nat) ({ cls := "java/lang/String", name := "coder", desc := "()B" } : Jvm.MethodName)) ∈ GW := gw_2 178 rfl rfl
theorem gw_2_179 : (Jvm.Cond.instanceMethod ({ cls := "java/lang/String", name := "coder", desc := "()B" } : Jvm.MethodName)) ∈ GW := gw_2 179 rfl rfl
theorem gw_2_180 : (Jvm.Cond.selects "java/lang/String" ({ cls := "java/lang/String", name := "coder", desc := "()B" } : Jvm.MethodName) ({ cls := "java/lang/String", name := "coder", desc := "()B" } : Jvm.MethodName)) ∈ GW := gw_2 180 rfl rfl
theorem gw_2_181 : (Jvm.Cond.code ({ cls := "java/lang/String", name := "coder", desc := "()B" } : Jvm.MethodName) prog_13_method_152_code (1 : Nat) (Option.some Jvm.ClassFile.FieldType.byte)) ∈ GW := gw_2 181 rfl rfl
theorem gw_2_182 : (Jvm.Cond.fieldLink "java/lang/String" (38 : Nat) "java/lang/String" "COMPACT_STRINGS" "Z") ∈ GW := gw_2 182 rfl rfl
theorem lt_2_183 : (Jvm.Cond.laysStatic "java/lang/String" "COMPACT_STRINGS" "Z") ∈ lw_tbl := lt_2 183 rfl
theorem gw_2_184 : (Jvm.Cond.methodLink "MappingTexts$Letters" (59 : Nat) ({ cls := "MappingTexts$Letters", name := "at", desc := "(I)I" } : Jvm.MethodName)) ∈ GW := gw_2 184 rfl rfl
theorem gw_2_185 : (Jvm.Cond.methodLink "MappingTexts$Letters" (34 : Nat) ({ cls := "java/lang/String", name := "charAt", desc := "(I)C" } : Jvm.MethodName)) ∈ GW := gw_2 185 rfl rfl
theorem gw_2_186 : (Jvm.Cond.instanceMethod ({ cls := "java/lang/String", name := "charAt", desc := "(I)C" } : Jvm.MethodName)) ∈ GW := gw_2 186 rfl rfl
theorem gw_2_187 : (Jvm.Cond.selects "java/lang/String" ({ cls := "java/lang/String", name := "charAt", desc := "(I)C" } : Jvm.MethodName) ({ cls := "java/lang/String", name := "charAt", desc := "(I)C" } : Jvm.MethodName)) ∈ GW := gw_2 187 rfl rfl
theorem gw_2_188 : (Jvm.Cond.code ({ cls := "java/lang/String", name := "charAt", desc := "(I)C" } : Jvm.MethodName) prog_13_method_56_code (2 : Nat) (Option.some Jvm.ClassFile.FieldType.char)) ∈ GW := gw_2 188 rfl rfl
theorem gw_2_189 : (Jvm.Cond.methodLink "java/lang/String" (492 : Nat) ({ cls := "java/lang/String", name := "isLatin1", desc := "()Z" } : Jvm.MethodName)) ∈ GW := gw_2 189 rfl rfl
theorem gw_2_190 : (Jvm.Cond.instanceMethod ({ cls := "java/lang/String", name := "isLatin1", desc := "()Z" } : Jvm.MethodName)) ∈ GW := gw_2 190 rfl rfl
theorem gw_2_191 : (Jvm.Cond.selects "java/lang/String" ({ cls := "java/lang/String", name := "isLatin1", desc := "()Z" } : Jvm.MethodName) ({ cls := "java/lang/String", name := "isLatin1", desc := "()Z" } : Jvm.MethodName)) ∈ GW := gw_2 191 rfl rfl
theorem gw_2_192 : (Jvm.Cond.code ({ cls := "java/lang/String", name := "isLatin1", desc := "()Z" } : Jvm.MethodName) prog_13_method_154_code (1 : Nat) (Option.some Jvm.ClassFile.FieldType.boolean)) ∈ GW := gw_2 192 rfl rfl
theorem gw_2_193 : (Jvm.Cond.methodLink "java/lang/String" (495 : Nat) ({ cls := "java/lang/StringLatin1", name := "charAt", desc := "([BI)C" } : Jvm.MethodName)) ∈ GW := gw_2 193 rfl rfl
theorem gw_2_194 : (Jvm.Cond.static ({ cls := "java/lang/StringLatin1", name := "charAt", desc := "([BI)C" } : Jvm.MethodName)) ∈ GW := gw_2 194 rfl rfl
theorem gw_2_195 : (Jvm.Cond.code ({ cls := "java/lang/StringLatin1", name := "charAt", desc := "([BI)C" } : Jvm.MethodName) prog_14_method_2_code (2 : Nat) (Option.some Jvm.ClassFile.FieldType.char)) ∈ GW := gw_2 195 rfl rfl
theorem gw_2_196 : (Jvm.Cond.methodLink "java/lang/StringLatin1" (9 : Nat) ({ cls := "java/lang/String", name := "checkIndex", desc := "(II)V" } : Jvm.MethodName)) ∈ GW := gw_2 196 rfl rfl
theorem gw_2_197 : (Jvm.Cond.static ({ cls := "java/lang/String", name := "checkIndex", desc := "(II)V" } : Jvm.MethodName)) ∈ GW := gw_2 197 rfl rfl
theorem gw_2_198 : (Jvm.Cond.code ({ cls := "java/lang/String", name := "checkIndex", desc := "(II)V" } : Jvm.MethodName) prog_13_method_155_code (2 : Nat) (Option.none : Option Jvm.ClassFile.FieldType)) ∈ GW := gw_2 198 rfl rfl
theorem gw_2_199 : (Jvm.Cond.fieldLink "java/lang/String" (1053 : Nat) "jdk/internal/util/Preconditions" "SIOOBE_FORMATTER" "Ljava/util/function/BiFunction;") ∈ GW := gw_2 199 rfl rfl
theorem lt_2_200 : (Jvm.Cond.laysStatic "jdk/internal/util/Preconditions" "SIOOBE_FORMATTER" "Ljava/util/function/BiFunction;") ∈ lw_tbl := lt_2 200 rfl
theorem gw_2_201 : (Jvm.Cond.methodLink "java/lang/String" (1059 : Nat) ({ cls := "jdk/internal/util/Preconditions", name := "checkIndex", desc := "(IILjava/util/function/BiFunction;)I" } : Jvm.MethodName)) ∈ GW := gw_2 201 rfl rfl
theorem gw_2_202 : (Jvm.Cond.static ({ cls := "jdk/internal/util/Preconditions", name := "checkIndex", desc := "(IILjava/util/function/BiFunction;)I" } : Jvm.MethodName)) ∈ GW := gw_2 202 rfl rfl
theorem gw_2_203 : (Jvm.Cond.code ({ cls := "jdk/internal/util/Preconditions", name := "checkIndex", desc := "(IILjava/util/function/BiFunction;)I" } : Jvm.MethodName) prog_17_method_11_code (3 : Nat) (Option.some Jvm.ClassFile.FieldType.int)) ∈ GW := gw_2 203 rfl rfl
theorem gw_2_204 : (Jvm.Cond.methodLink "java/lang/String" (498 : Nat) ({ cls := "java/lang/StringUTF16", name := "charAt", desc := "([BI)C" } : Jvm.MethodName)) ∈ GW := gw_2 204 rfl rfl
theorem gw_2_205 : (Jvm.Cond.static ({ cls := "java/lang/StringUTF16", name := "charAt", desc := "([BI)C" } : Jvm.MethodName)) ∈ GW := gw_2 205 rfl rfl
theorem gw_2_206 : (Jvm.Cond.code ({ cls := "java/lang/StringUTF16", name := "charAt", desc := "([BI)C" } : Jvm.MethodName) prog_15_method_83_code (2 : Nat) (Option.some Jvm.ClassFile.FieldType.char)) ∈ GW := gw_2 206 rfl rfl
theorem gw_2_207 : (Jvm.Cond.methodLink "java/lang/StringUTF16" (67 : Nat) ({ cls := "java/lang/StringUTF16", name := "checkIndex", desc := "(I[B)V" } : Jvm.MethodName)) ∈ GW := gw_2 207 rfl rfl
theorem gw_2_208 : (Jvm.Cond.static ({ cls := "java/lang/StringUTF16", name := "checkIndex", desc := "(I[B)V" } : Jvm.MethodName)) ∈ GW := gw_2 208 rfl rfl
theorem gw_2_209 : (Jvm.Cond.code ({ cls := "java/lang/StringUTF16", name := "checkIndex", desc := "(I[B)V" } : Jvm.MethodName) prog_15_method_91_code (2 : Nat) (Option.none : Option Jvm.ClassFile.FieldType)) ∈ GW := gw_2 209 rfl rfl
theorem gw_2_210 : (Jvm.Cond.methodLink "java/lang/StringUTF16" (48 : Nat) ({ cls := "java/lang/StringUTF16", name := "length", desc := "([B)I" } : Jvm.MethodName)) ∈ GW := gw_2 210 rfl rfl
theorem gw_2_211 : (Jvm.Cond.static ({ cls := "java/lang/StringUTF16", name := "length", desc := "([B)I" } : Jvm.MethodName)) ∈ GW := gw_2 211 rfl rfl
theorem gw_2_212 : (Jvm.Cond.code ({ cls := "java/lang/StringUTF16", name := "length", desc := "([B)I" } : Jvm.MethodName) prog_15_method_6_code (1 : Nat) (Option.some Jvm.ClassFile.FieldType.int)) ∈ GW := gw_2 212 rfl rfl
theorem gw_2_213 : (Jvm.Cond.methodLink "java/lang/StringUTF16" (414 : Nat) ({ cls := "java/lang/String", name := "checkIndex", desc := "(II)V" } : Jvm.MethodName)) ∈ GW := gw_2 213 rfl rfl
theorem gw_2_214 : (Jvm.Cond.methodLink "java/lang/StringUTF16" (71 : Nat) ({ cls := "java/lang/StringUTF16", name := "getChar", desc := "([BI)C" } : Jvm.MethodName)) ∈ GW := gw_2 214 rfl rfl
theorem gw_2_215 : (Jvm.Cond.static ({ cls := "java/lang/StringUTF16", name := "getChar", desc := "([BI)C" } : Jvm.MethodName)) ∈ GW := gw_2 215 rfl rfl
theorem gw_2_216 : (Jvm.Cond.code ({ cls := "java/lang/StringUTF16", name := "getChar", desc := "([BI)C" } : Jvm.MethodName) prog_15_method_5_code (2 : Nat) (Option.some Jvm.ClassFile.FieldType.char)) ∈ GW := gw_2 216 rfl rfl
theorem gw_2_217 : (Jvm.Cond.fieldLink "java/lang/StringUTF16" (44 : Nat) "java/lang/StringUTF16" "$assertionsDisabled" "Z") ∈ GW := gw_2 217 rfl rfl
theorem lt_2_218 : (Jvm.Cond.laysStatic "java/lang/StringUTF16" "$assertionsDisabled" "Z") ∈ lw_tbl := lt_2 218 rfl
theorem gw_2_219 : (Jvm.Cond.fieldLink "java/lang/StringUTF16" (59 : Nat) "java/lang/StringUTF16" "HI_BYTE_SHIFT" "I") ∈ GW := gw_2 219 rfl rfl
theorem lt_2_220 : (Jvm.Cond.laysStatic "java/lang/StringUTF16" "HI_BYTE_SHIFT" "I") ∈ lw_tbl := lt_2 220 rfl
theorem gw_2_221 : (Jvm.Cond.fieldLink "java/lang/StringUTF16" (63 : Nat) "java/lang/StringUTF16" "LO_BYTE_SHIFT" "I") ∈ GW := gw_2 221 rfl rfl
theorem lt_2_222 : (Jvm.Cond.laysStatic "java/lang/StringUTF16" "LO_BYTE_SHIFT" "I") ∈ lw_tbl := lt_2 222 rfl
theorem lt_2_223 : (Jvm.Cond.stringRef "MappingTexts$TextReader" (181 : Nat) "limit") ∈ lw_tbl := lt_2 223 rfl
theorem gw_2_224 : (Jvm.Cond.methodLink "MappingTexts$TextReader" (127 : Nat) ({ cls := "MappingTexts$TextReader", name := "stepFieldName", desc := "(I)I" } : Jvm.MethodName)) ∈ GW := gw_2 224 rfl rfl
theorem lt_2_225 : (Jvm.Cond.privateMethod ({ cls := "MappingTexts$TextReader", name := "stepFieldName", desc := "(I)I" } : Jvm.MethodName)) ∈ lw_tbl := lt_2 225 rfl
theorem gw_2_226 : (Jvm.Cond.instanceMethod ({ cls := "MappingTexts$TextReader", name := "stepFieldName", desc := "(I)I" } : Jvm.MethodName)) ∈ GW := gw_2 226 rfl rfl
theorem gw_2_227 : (Jvm.Cond.code ({ cls := "MappingTexts$TextReader", name := "stepFieldName", desc := "(I)I" } : Jvm.MethodName) prog_7_method_11_code (3 : Nat) (Option.some Jvm.ClassFile.FieldType.int)) ∈ GW := gw_2 227 rfl rfl
theorem gw_2_228 : (Jvm.Cond.methodLink "MappingTexts$TextReader" (192 : Nat) ({ cls := "MappingTexts$Version", name := "beginField", desc := "(II)V" } : Jvm.MethodName)) ∈ GW := gw_2 228 rfl rfl
theorem gw_2_229 : (Jvm.Cond.instanceMethod ({ cls := "MappingTexts$Version", name := "beginField", desc := "(II)V" } : Jvm.MethodName)) ∈ GW := gw_2 229 rfl rfl
theorem gw_2_230 : (Jvm.Cond.selects "MappingTexts$Version" ({ cls := "MappingTexts$Version", name := "beginField", desc := "(II)V" } : Jvm.MethodName) ({ cls := "MappingTexts$Version", name := "beginField", desc := "(II)V" } : Jvm.MethodName)) ∈ GW := gw_2 230 rfl rfl
theorem gw_2_231 : (Jvm.Cond.code ({ cls := "MappingTexts$Version", name := "beginField", desc := "(II)V" } : Jvm.MethodName) prog_9_method_12_code (3 : Nat) (Option.none : Option Jvm.ClassFile.FieldType)) ∈ GW := gw_2 231 rfl rfl
theorem gw_2_232 : (Jvm.Cond.methodLink "MappingTexts$Version" (128 : Nat) ({ cls := "MappingTexts$Field", name := "begin", desc := "()V" } : Jvm.MethodName)) ∈ GW := gw_2 232 rfl rfl
theorem gw_2_233 : (Jvm.Cond.instanceMethod ({ cls := "MappingTexts$Field", name := "begin", desc := "()V" } : Jvm.MethodName)) ∈ GW := gw_2 233 rfl rfl
theorem gw_2_234 : (Jvm.Cond.selects "MappingTexts$Field" ({ cls := "MappingTexts$Field", name := "begin", desc := "()V" } : Jvm.MethodName) ({ cls := "MappingTexts$Field", name := "begin", desc := "()V" } : Jvm.MethodName)) ∈ GW := gw_2 234 rfl rfl
theorem gw_2_235 : (Jvm.Cond.code ({ cls := "MappingTexts$Field", name := "begin", desc := "()V" } : Jvm.MethodName) prog_3_method_2_code (1 : Nat) (Option.none : Option Jvm.ClassFile.FieldType)) ∈ GW := gw_2 235 rfl rfl
theorem gw_2_236 : (Jvm.Cond.methodLink "MappingTexts$Field" (45 : Nat) ({ cls := "MappingTexts$Letters", name := "clear", desc := "()V" } : Jvm.MethodName)) ∈ GW := gw_2 236 rfl rfl
theorem gw_2_237 : (Jvm.Cond.methodLink "MappingTexts$Version" (72 : Nat) ({ cls := "MappingTexts$Letters", name := "length", desc := "()I" } : Jvm.MethodName)) ∈ GW := gw_2 237 rfl rfl
theorem gw_2_238 : (Jvm.Cond.methodLink "MappingTexts$Version" (131 : Nat) ({ cls := "MappingTexts$Letters", name := "addPart", desc := "(LMappingTexts$Letters;II)V" } : Jvm.MethodName)) ∈ GW := gw_2 238 rfl rfl
theorem gw_2_239 : (Jvm.Cond.instanceMethod ({ cls := "MappingTexts$Letters", name := "addPart", desc := "(LMappingTexts$Letters;II)V" } : Jvm.MethodName)) ∈ GW := gw_2 239 rfl rfl
theorem gw_3_0 : (Jvm.Cond.selects "MappingTexts$Letters" ({ cls := "MappingTexts$Letters", name := "addPart", desc := "(LMappingTexts$Letters;II)V" } : Jvm.MethodName) ({ cls := "MappingTexts$Letters", name := "addPart", desc := "(LMappingTexts$Letters;II)V" } : Jvm.MethodName)) ∈ GW := gw_3 0 rfl rfl
theorem gw_3_1 : (Jvm.Cond.code ({ cls := "MappingTexts$Letters", name := "addPart", desc := "(LMappingTexts$Letters;II)V" } : Jvm.MethodName) prog_5_method_9_code (4 : Nat) (Option.none : Option Jvm.ClassFile.FieldType)) ∈ GW := gw_3 1 rfl rfl
theorem gw_3_2 : (Jvm.Cond.methodLink "MappingTexts$Letters" (42 : Nat) ({ cls := "java/lang/System", name := "arraycopy", desc := "(Ljava/lang/Object;ILjava/lang/Object;II)V" } : Jvm.MethodName)) ∈ GW := gw_3 2 rfl rfl
theorem gw_3_3 : (Jvm.Cond.static ({ cls := "java/lang/System", name := "arraycopy", desc := "(Ljava/lang/Object;ILjava/lang/Object;II)V" } : Jvm.MethodName)) ∈ GW := gw_3 3 rfl rfl
theorem gw_3_4 : (Jvm.Cond.native ({ cls := "java/lang/System", name := "arraycopy", desc := "(Ljava/lang/Object;ILjava/lang/Object;II)V" } : Jvm.MethodName)) ∈ GW := gw_3 4 rfl rfl
theorem gw_3_5 : (Jvm.Cond.methodLink "MappingTexts$Version" (135 : Nat) ({ cls := "MappingTexts$Letters", name := "add", desc := "(I)V" } : Jvm.MethodName)) ∈ GW := gw_3 5 rfl rfl
theorem gw_3_6 : (Jvm.Cond.methodLink "MappingTexts$TextReader" (199 : Nat) ({ cls := "MappingTexts$Tokens", name := "addTo", desc := "(LMappingTexts$Letters;I)V" } : Jvm.MethodName)) ∈ GW := gw_3 6 rfl rfl
theorem gw_3_7 : (Jvm.Cond.instanceMethod ({ cls := "MappingTexts$Tokens", name := "addTo", desc := "(LMappingTexts$Letters;I)V" } : Jvm.MethodName)) ∈ GW := gw_3 7 rfl rfl
theorem gw_3_8 : (Jvm.Cond.selects "MappingTexts$Tokens" ({ cls := "MappingTexts$Tokens", name := "addTo", desc := "(LMappingTexts$Letters;I)V" } : Jvm.MethodName) ({ cls := "MappingTexts$Tokens", name := "addTo", desc := "(LMappingTexts$Letters;I)V" } : Jvm.MethodName)) ∈ GW := gw_3 8 rfl rfl
theorem gw_3_9 : (Jvm.Cond.code ({ cls := "MappingTexts$Tokens", name := "addTo", desc := "(LMappingTexts$Letters;I)V" } : Jvm.MethodName) prog_8_method_15_code (3 : Nat) (Option.none : Option Jvm.ClassFile.FieldType)) ∈ GW := gw_3 9 rfl rfl
theorem gw_3_10 : (Jvm.Cond.methodLink "MappingTexts$Tokens" (70 : Nat) ({ cls := "MappingTexts$Letters", name := "addPart", desc := "(LMappingTexts$Letters;II)V" } : Jvm.MethodName)) ∈ GW := gw_3 10 rfl rfl
theorem gw_3_11 : (Jvm.Cond.methodLink "MappingTexts$TextReader" (203 : Nat) ({ cls := "MappingTexts$TextReader", name := "isNameTwice", desc := "(I)Z" } : Jvm.MethodName)) ∈ GW := gw_3 11 rfl rfl
theorem lt_3_12 : (Jvm.Cond.privateMethod ({ cls := "MappingTexts$TextReader", name := "isNameTwice", desc := "(I)Z" } : Jvm.MethodName)) ∈ lw_tbl := lt_3 12 rfl
theorem gw_3_13 : (Jvm.Cond.instanceMethod ({ cls := "MappingTexts$TextReader", name := "isNameTwice", desc := "(I)Z" } : Jvm.MethodName)) ∈ GW := gw_3 13 rfl rfl
theorem gw_3_14 : (Jvm.Cond.code ({ cls := "MappingTexts$TextReader", name := "isNameTwice", desc := "(I)Z" } : Jvm.MethodName) prog_7_method_12_code (4 : Nat) (Option.some Jvm.ClassFile.FieldType.boolean)) ∈ GW := gw_3 14 rfl rfl
theorem gw_3_15 : (Jvm.Cond.methodLink "MappingTexts$TextReader" (212 : Nat) ({ cls := "MappingTexts$Letters", name := "sameAs", desc := "(LMappingTexts$Letters;)Z" } : Jvm.MethodName)) ∈ GW := gw_3 15 rfl rfl
theorem gw_3_16 : (Jvm.Cond.instanceMethod ({ cls := "MappingTexts$Letters", name := "sameAs", desc := "(LMappingTexts$Letters;)Z" } : Jvm.MethodName)) ∈ GW := gw_3 16 rfl rfl
theorem gw_3_17 : (Jvm.Cond.selects "MappingTexts$Letters" ({ cls := "MappingTexts$Letters", name := "sameAs", desc := "(LMappingTexts$Letters;)Z" } : Jvm.MethodName) ({ cls := "MappingTexts$Letters", name := "sameAs", desc := "(LMappingTexts$Letters;)Z" } : Jvm.MethodName)) ∈ GW := gw_3 17 rfl rfl
theorem gw_3_18 : (Jvm.Cond.code ({ cls := "MappingTexts$Letters", name := "sameAs", desc := "(LMappingTexts$Letters;)Z" } : Jvm.MethodName) prog_5_method_15_code (2 : Nat) (Option.some Jvm.ClassFile.FieldType.boolean)) ∈ GW := gw_3 18 rfl rfl
theorem gw_3_19 : (Jvm.Cond.methodLink "MappingTexts$Letters" (55 : Nat) ({ cls := "MappingTexts$Letters", name := "holdsAt", desc := "(ILMappingTexts$Letters;)Z" } : Jvm.MethodName)) ∈ GW := gw_3 19 rfl rfl
theorem gw_3_20 : (Jvm.Cond.instanceMethod ({ cls := "MappingTexts$Letters", name := "holdsAt", desc := "(ILMappingTexts$Letters;)Z" } : Jvm.MethodName)) ∈ GW := gw_3 20 rfl rfl
theorem gw_3_21 : (Jvm.Cond.selects "MappingTexts$Letters" ({ cls := "MappingTexts$Letters", name := "holdsAt", desc := "(ILMappingTexts$Letters;)Z" } : Jvm.MethodName) ({ cls := "MappingTexts$Letters", name := "holdsAt", desc := "(ILMappingTexts$Letters;)Z" } : Jvm.MethodName)) ∈ GW := gw_3 21 rfl rfl
theorem gw_3_22 : (Jvm.Cond.code ({ cls := "MappingTexts$Letters", name := "holdsAt", desc := "(ILMappingTexts$Letters;)Z" } : Jvm.MethodName) prog_5_method_13_code (4 : Nat) (Option.some Jvm.ClassFile.FieldType.boolean)) ∈ GW := gw_3 22 rfl rfl
theorem gw_3_23 : (Jvm.Cond.methodLink "MappingTexts$TextReader" (106 : Nat) ({ cls := "MappingTexts$Tokens", name := "placeAt", desc := "(I)I" } : Jvm.MethodName)) ∈ GW := gw_3 23 rfl rfl
theorem gw_3_24 : (Jvm.Cond.methodLink "MappingTexts$TextReader" (206 : Nat) ({ cls := "MappingTexts$TextReader", name := "blame", desc := "(II)V" } : Jvm.MethodName)) ∈ GW := gw_3 24 rfl rfl
theorem lt_3_25 : (Jvm.Cond.privateMethod ({ cls := "MappingTexts$TextReader", name := "blame", desc := "(II)V" } : Jvm.MethodName)) ∈ lw_tbl := lt_3 25 rfl
theorem gw_3_26 : (Jvm.Cond.instanceMethod ({ cls := "MappingTexts$TextReader", name := "blame", desc := "(II)V" } : Jvm.MethodName)) ∈ GW := gw_3 26 rfl rfl
theorem gw_3_27 : (Jvm.Cond.code ({ cls := "MappingTexts$TextReader", name := "blame", desc := "(II)V" } : Jvm.MethodName) prog_7_method_6_code (3 : Nat) (Option.none : Option Jvm.ClassFile.FieldType)) ∈ GW := gw_3 27 rfl rfl
theorem gw_3_28 : (Jvm.Cond.methodLink "MappingTexts$TextReader" (130 : Nat) ({ cls := "MappingTexts$TextReader", name := "stepItem", desc := "(I)I" } : Jvm.MethodName)) ∈ GW := gw_3 28 rfl rfl
theorem lt_3_29 : (Jvm.Cond.privateMethod ({ cls := "MappingTexts$TextReader", name := "stepItem", desc := "(I)I" } : Jvm.MethodName)) ∈ lw_tbl := lt_3 29 rfl
theorem gw_3_30 : (Jvm.Cond.instanceMethod ({ cls := "MappingTexts$TextReader", name := "stepItem", desc := "(I)I" } : Jvm.MethodName)) ∈ GW := gw_3 30 rfl rfl
theorem gw_3_31 : (Jvm.Cond.code ({ cls := "MappingTexts$TextReader", name := "stepItem", desc := "(I)I" } : Jvm.MethodName) prog_7_method_10_code (3 : Nat) (Option.some Jvm.ClassFile.FieldType.int)) ∈ GW := gw_3 31 rfl rfl
theorem gw_3_32 : (Jvm.Cond.methodLink "MappingTexts$TextReader" (133 : Nat) ({ cls := "MappingTexts$TextReader", name := "expect", desc := "(III)I" } : Jvm.MethodName)) ∈ GW := gw_3 32 rfl rfl
theorem lt_3_33 : (Jvm.Cond.privateMethod ({ cls := "MappingTexts$TextReader", name := "expect", desc := "(III)I" } : Jvm.MethodName)) ∈ lw_tbl := lt_3 33 rfl
theorem gw_3_34 : (Jvm.Cond.instanceMethod ({ cls := "MappingTexts$TextReader", name := "expect", desc := "(III)I" } : Jvm.MethodName)) ∈ GW := gw_3 34 rfl rfl
theorem gw_3_35 : (Jvm.Cond.code ({ cls := "MappingTexts$TextReader", name := "expect", desc := "(III)I" } : Jvm.MethodName) prog_7_method_8_code (4 : Nat) (Option.some Jvm.ClassFile.FieldType.int)) ∈ GW := gw_3 35 rfl rfl
theorem gw_3_36 : (Jvm.Cond.methodLink "MappingTexts$TextReader" (183 : Nat) ({ cls := "MappingTexts$TextReader", name := "stepRuleWord", desc := "()I" } : Jvm.MethodName)) ∈ GW := gw_3 36 rfl rfl
theorem lt_3_37 : (Jvm.Cond.privateMethod ({ cls := "MappingTexts$TextReader", name := "stepRuleWord", desc := "()I" } : Jvm.MethodName)) ∈ lw_tbl := lt_3 37 rfl
theorem gw_3_38 : (Jvm.Cond.instanceMethod ({ cls := "MappingTexts$TextReader", name := "stepRuleWord", desc := "()I" } : Jvm.MethodName)) ∈ GW := gw_3 38 rfl rfl
theorem gw_3_39 : (Jvm.Cond.code ({ cls := "MappingTexts$TextReader", name := "stepRuleWord", desc := "()I" } : Jvm.MethodName) prog_7_method_25_code (1 : Nat) (Option.some Jvm.ClassFile.FieldType.int)) ∈ GW := gw_3 39 rfl rfl
theorem gw_3_40 : (Jvm.Cond.methodLink "MappingTexts$TextReader" (272 : Nat) ({ cls := "MappingTexts$Rule", name := "begin", desc := "()V" } : Jvm.MethodName)) ∈ GW := gw_3 40 rfl rfl
theorem gw_3_41 : (Jvm.Cond.instanceMethod ({ cls := "MappingTexts$Rule", name := "begin", desc := "()V" } : Jvm.MethodName)) ∈ GW := gw_3 41 rfl rfl
theorem gw_3_42 : (Jvm.Cond.selects "MappingTexts$Rule" ({ cls := "MappingTexts$Rule", name := "begin", desc := "()V" } : Jvm.MethodName) ({ cls := "MappingTexts$Rule", name := "begin", desc := "()V" } : Jvm.MethodName)) ∈ GW := gw_3 42 rfl rfl
theorem gw_3_43 : (Jvm.Cond.code ({ cls := "MappingTexts$Rule", name := "begin", desc := "()V" } : Jvm.MethodName) prog_6_method_2_code (1 : Nat) (Option.none : Option Jvm.ClassFile.FieldType)) ∈ GW := gw_3 43 rfl rfl
theorem gw_3_44 : (Jvm.Cond.methodLink "MappingTexts$Rule" (31 : Nat) ({ cls := "MappingTexts$Letters", name := "clear", desc := "()V" } : Jvm.MethodName)) ∈ GW := gw_3 44 rfl rfl
theorem gw_3_45 : (Jvm.Cond.methodLink "MappingTexts$TextReader" (186 : Nat) ({ cls := "MappingTexts$TextReader", name := "stepLimitWord", desc := "(I)I" } : Jvm.MethodName)) ∈ GW := gw_3 45 rfl rfl
theorem lt_3_46 : (Jvm.Cond.privateMethod ({ cls := "MappingTexts$TextReader", name := "stepLimitWord", desc := "(I)I" } : Jvm.MethodName)) ∈ lw_tbl := lt_3 46 rfl
theorem gw_3_47 : (Jvm.Cond.instanceMethod ({ cls := "MappingTexts$TextReader", name := "stepLimitWord", desc := "(I)I" } : Jvm.MethodName)) ∈ GW := gw_3 47 rfl rfl
theorem gw_3_48 : (Jvm.Cond.code ({ cls := "MappingTexts$TextReader", name := "stepLimitWord", desc := "(I)I" } : Jvm.MethodName) prog_7_method_31_code (2 : Nat) (Option.some Jvm.ClassFile.FieldType.int)) ∈ GW := gw_3 48 rfl rfl
theorem gw_3_49 : (Jvm.Cond.methodLink "MappingTexts$TextReader" (137 : Nat) ({ cls := "MappingTexts$TextReader", name := "stepKind", desc := "(I)I" } : Jvm.MethodName)) ∈ GW := gw_3 49 rfl rfl
theorem lt_3_50 : (Jvm.Cond.privateMethod ({ cls := "MappingTexts$TextReader", name := "stepKind", desc := "(I)I" } : Jvm.MethodName)) ∈ lw_tbl := lt_3 50 rfl
theorem gw_3_51 : (Jvm.Cond.instanceMethod ({ cls := "MappingTexts$TextReader", name := "stepKind", desc := "(I)I" } : Jvm.MethodName)) ∈ GW := gw_3 51 rfl rfl
theorem gw_3_52 : (Jvm.Cond.code ({ cls := "MappingTexts$TextReader", name := "stepKind", desc := "(I)I" } : Jvm.MethodName) prog_7_method_15_code (3 : Nat) (Option.some Jvm.ClassFile.FieldType.int)) ∈ GW := gw_3 52 rfl rfl
theorem gw_3_53 : (Jvm.Cond.methodLink "MappingTexts$TextReader" (225 : Nat) ({ cls := "MappingTexts$TextReader", name := "kindOf", desc := "(I)I" } : Jvm.MethodName)) ∈ GW := gw_3 53 rfl rfl
theorem lt_3_54 : (Jvm.Cond.privateMethod ({ cls := "MappingTexts$TextReader", name := "kindOf", desc := "(I)I" } : Jvm.MethodName)) ∈ lw_tbl := lt_3 54 rfl
theorem gw_3_55 : (Jvm.Cond.instanceMethod ({ cls := "MappingTexts$TextReader", name := "kindOf", desc := "(I)I" } : Jvm.MethodName)) ∈ GW := gw_3 55 rfl rfl
theorem gw_3_56 : (Jvm.Cond.code ({ cls := "MappingTexts$TextReader", name := "kindOf", desc := "(I)I" } : Jvm.MethodName) prog_7_method_13_code (3 : Nat) (Option.some Jvm.ClassFile.FieldType.int)) ∈ GW := gw_3 56 rfl rfl
theorem gw_3_57 : (Jvm.Cond.methodLink "MappingTexts$TextReader" (218 : Nat) ({ cls := "MappingTexts$Kinds", name := "kindWord", desc := "(I)Ljava/lang/String;" } : Jvm.MethodName)) ∈ GW := gw_3 57 rfl rfl
theorem gw_3_58 : (Jvm.Cond.static ({ cls := "MappingTexts$Kinds", name := "kindWord", desc := "(I)Ljava/lang/String;" } : Jvm.MethodName)) ∈ GW := gw_3 58 rfl rfl
theorem gw_3_59 : (Jvm.Cond.code ({ cls := "MappingTexts$Kinds", name := "kindWord", desc := "(I)Ljava/lang/String;" } : Jvm.MethodName) prog_4_method_2_code (1 : Nat) (Option.some (Jvm.ClassFile.FieldType.object "java/lang/String"))) ∈ GW := gw_3 59 rfl rfl
theorem lt_3_60 : (Jvm.Cond.stringRef "MappingTexts$Kinds" (7 : Nat) "word") ∈ lw_tbl := lt_3 60 rfl
theorem lt_3_61 : (Jvm.Cond.stringRef "MappingTexts$Kinds" (9 : Nat) "text") ∈ lw_tbl := lt_3 61 rfl
theorem lt_3_62 : (Jvm.Cond.stringRef "MappingTexts$Kinds" (11 : Nat) "long") ∈ lw_tbl := lt_3 62 rfl
theorem lt_3_63 : (Jvm.Cond.stringRef "MappingTexts$Kinds" (13 : Nat) "date") ∈ lw_tbl := lt_3 63 rfl
theorem lt_3_64 : (Jvm.Cond.stringRef "MappingTexts$Kinds" (15 : Nat) "bool") ∈ lw_tbl := lt_3 64 rfl
theorem lt_3_65 : (Jvm.Cond.stringRef "MappingTexts$Kinds" (17 : Nat) "object") ∈ lw_tbl := lt_3 65 rfl
theorem lt_3_66 : (Jvm.Cond.stringRef "MappingTexts$Kinds" (19 : Nat) "nested") ∈ lw_tbl := lt_3 66 rfl
theorem lt_3_67 : (Jvm.Cond.stringRef "MappingTexts$Kinds" (21 : Nat) "alias") ∈ lw_tbl := lt_3 67 rfl
theorem gw_3_68 : (Jvm.Cond.methodLink "MappingTexts$TextReader" (140 : Nat) ({ cls := "MappingTexts$TextReader", name := "stepBehindKind", desc := "(I)I" } : Jvm.MethodName)) ∈ GW := gw_3 68 rfl rfl
theorem lt_3_69 : (Jvm.Cond.privateMethod ({ cls := "MappingTexts$TextReader", name := "stepBehindKind", desc := "(I)I" } : Jvm.MethodName)) ∈ lw_tbl := lt_3 69 rfl
theorem gw_3_70 : (Jvm.Cond.instanceMethod ({ cls := "MappingTexts$TextReader", name := "stepBehindKind", desc := "(I)I" } : Jvm.MethodName)) ∈ GW := gw_3 70 rfl rfl
theorem gw_3_71 : (Jvm.Cond.code ({ cls := "MappingTexts$TextReader", name := "stepBehindKind", desc := "(I)I" } : Jvm.MethodName) prog_7_method_16_code (2 : Nat) (Option.some Jvm.ClassFile.FieldType.int)) ∈ GW := gw_3 71 rfl rfl
theorem gw_3_72 : (Jvm.Cond.methodLink "MappingTexts$TextReader" (155 : Nat) ({ cls := "MappingTexts$TextReader", name := "stepHeadEnd", desc := "(I)I" } : Jvm.MethodName)) ∈ GW := gw_3 72 rfl rfl
theorem lt_3_73 : (Jvm.Cond.privateMethod ({ cls := "MappingTexts$TextReader", name := "stepHeadEnd", desc := "(I)I" } : Jvm.MethodName)) ∈ lw_tbl := lt_3 73 rfl
theorem gw_3_74 : (Jvm.Cond.instanceMethod ({ cls := "MappingTexts$TextReader", name := "stepHeadEnd", desc := "(I)I" } : Jvm.MethodName)) ∈ GW := gw_3 74 rfl rfl
theorem gw_3_75 : (Jvm.Cond.code ({ cls := "MappingTexts$TextReader", name := "stepHeadEnd", desc := "(I)I" } : Jvm.MethodName) prog_7_method_17_code (3 : Nat) (Option.some Jvm.ClassFile.FieldType.int)) ∈ GW := gw_3 75 rfl rfl
theorem gw_3_76 : (Jvm.Cond.methodLink "MappingTexts$TextReader" (231 : Nat) ({ cls := "MappingTexts$Field", name := "has", desc := "(I)Z" } : Jvm.MethodName)) ∈ GW := gw_3 76 rfl rfl
theorem gw_3_77 : (Jvm.Cond.instanceMethod ({ cls := "MappingTexts$Field", name := "has", desc := "(I)Z" } : Jvm.MethodName)) ∈ GW := gw_3 77 rfl rfl
theorem gw_3_78 : (Jvm.Cond.selects "MappingTexts$Field" ({ cls := "MappingTexts$Field", name := "has", desc := "(I)Z" } : Jvm.MethodName) ({ cls := "MappingTexts$Field", name := "has", desc := "(I)Z" } : Jvm.MethodName)) ∈ GW := gw_3 78 rfl rfl
theorem gw_3_79 : (Jvm.Cond.code ({ cls := "MappingTexts$Field", name := "has", desc := "(I)Z" } : Jvm.MethodName) prog_3_method_3_code (2 : Nat) (Option.some Jvm.ClassFile.FieldType.boolean)) ∈ GW := gw_3 79 rfl rfl
theorem gw_3_80 : (Jvm.Cond.methodLink "MappingTexts$TextReader" (234 : Nat) ({ cls := "MappingTexts$TextReader", name := "openHolder", desc := "(I)V" } : Jvm.MethodName)) ∈ GW := gw_3 80 rfl rfl
theorem lt_3_81 : (Jvm.Cond.privateMethod ({ cls := "MappingTexts$TextReader", name := "openHolder", desc := "(I)V" } : Jvm.MethodName)) ∈ lw_tbl := lt_3 81 rfl
theorem gw_3_82 : (Jvm.Cond.instanceMethod ({ cls := "MappingTexts$TextReader", name := "openHolder", desc := "(I)V" } : Jvm.MethodName)) ∈ GW := gw_3 82 rfl rfl
theorem gw_3_83 : (Jvm.Cond.code ({ cls := "MappingTexts$TextReader", name := "openHolder", desc := "(I)V" } : Jvm.MethodName) prog_7_method_18_code (2 : Nat) (Option.none : Option Jvm.ClassFile.FieldType)) ∈ GW := gw_3 83 rfl rfl
theorem gw_3_84 : (Jvm.Cond.methodLink "MappingTexts$TextReader" (237 : Nat) ({ cls := "MappingTexts$Kinds", name := "isHolder", desc := "(I)Z" } : Jvm.MethodName)) ∈ GW := gw_3 84 rfl rfl
theorem gw_3_85 : (Jvm.Cond.static ({ cls := "MappingTexts$Kinds", name := "isHolder", desc := "(I)Z" } : Jvm.MethodName)) ∈ GW := gw_3 85 rfl rfl
theorem gw_3_86 : (Jvm.Cond.code ({ cls := "MappingTexts$Kinds", name := "isHolder", desc := "(I)Z" } : Jvm.MethodName) prog_4_method_5_code (1 : Nat) (Option.some Jvm.ClassFile.FieldType.boolean)) ∈ GW := gw_3 86 rfl rfl
theorem gw_3_87 : (Jvm.Cond.methodLink "MappingTexts$TextReader" (143 : Nat) ({ cls := "MappingTexts$TextReader", name := "stepOption", desc := "(I)I" } : Jvm.MethodName)) ∈ GW := gw_3 87 rfl rfl
theorem lt_3_88 : (Jvm.Cond.privateMethod ({ cls := "MappingTexts$TextReader", name := "stepOption", desc := "(I)I" } : Jvm.MethodName)) ∈ lw_tbl := lt_3 88 rfl
theorem gw_3_89 : (Jvm.Cond.instanceMethod ({ cls := "MappingTexts$TextReader", name := "stepOption", desc := "(I)I" } : Jvm.MethodName)) ∈ GW := gw_3 89 rfl rfl
theorem gw_3_90 : (Jvm.Cond.code ({ cls := "MappingTexts$TextReader", name := "stepOption", desc := "(I)I" } : Jvm.MethodName) prog_7_method_19_code (2 : Nat) (Option.some Jvm.ClassFile.FieldType.int)) ∈ GW := gw_3 90 rfl rfl
theorem gw_3_91 : (Jvm.Cond.methodLink "MappingTexts$TextReader" (240 : Nat) ({ cls := "MappingTexts$TextReader", name := "optionOf", desc := "(I)I" } : Jvm.MethodName)) ∈ GW := gw_3 91 rfl rfl
theorem lt_3_92 : (Jvm.Cond.privateMethod ({ cls := "MappingTexts$TextReader", name := "optionOf", desc := "(I)I" } : Jvm.MethodName)) ∈ lw_tbl := lt_3 92 rfl
theorem gw_3_93 : (Jvm.Cond.instanceMethod ({ cls := "MappingTexts$TextReader", name := "optionOf", desc := "(I)I" } : Jvm.MethodName)) ∈ GW := gw_3 93 rfl rfl
theorem gw_3_94 : (Jvm.Cond.code ({ cls := "MappingTexts$TextReader", name := "optionOf", desc := "(I)I" } : Jvm.MethodName) prog_7_method_14_code (3 : Nat) (Option.some Jvm.ClassFile.FieldType.int)) ∈ GW := gw_3 94 rfl rfl
theorem gw_3_95 : (Jvm.Cond.methodLink "MappingTexts$TextReader" (222 : Nat) ({ cls := "MappingTexts$Kinds", name := "optionWord", desc := "(I)Ljava/lang/String;" } : Jvm.MethodName)) ∈ GW := gw_3 95 rfl rfl
theorem gw_3_96 : (Jvm.Cond.static ({ cls := "MappingTexts$Kinds", name := "optionWord", desc := "(I)Ljava/lang/String;" } : Jvm.MethodName)) ∈ GW := gw_3 96 rfl rfl
theorem gw_3_97 : (Jvm.Cond.code ({ cls := "MappingTexts$Kinds", name := "optionWord", desc := "(I)Ljava/lang/String;" } : Jvm.MethodName) prog_4_method_3_code (1 : Nat) (Option.some (Jvm.ClassFile.FieldType.object "java/lang/String"))) ∈ GW := gw_3 97 rfl rfl
theorem lt_3_98 : (Jvm.Cond.stringRef "MappingTexts$Kinds" (23 : Nat) "stored") ∈ lw_tbl := lt_3 98 rfl
theorem lt_3_99 : (Jvm.Cond.stringRef "MappingTexts$Kinds" (25 : Nat) "closed") ∈ lw_tbl := lt_3 99 rfl
theorem lt_3_100 : (Jvm.Cond.stringRef "MappingTexts$Kinds" (27 : Nat) "norms") ∈ lw_tbl := lt_3 100 rfl
theorem lt_3_101 : (Jvm.Cond.stringRef "MappingTexts$Kinds" (29 : Nat) "null") ∈ lw_tbl := lt_3 101 rfl
theorem lt_3_102 : (Jvm.Cond.stringRef "MappingTexts$Kinds" (31 : Nat) "copy") ∈ lw_tbl := lt_3 102 rfl
theorem lt_3_103 : (Jvm.Cond.stringRef "MappingTexts$Kinds" (33 : Nat) "by") ∈ lw_tbl := lt_3 103 rfl
theorem lt_3_104 : (Jvm.Cond.stringRef "MappingTexts$Kinds" (35 : Nat) "of") ∈ lw_tbl := lt_3 104 rfl
theorem gw_3_105 : (Jvm.Cond.methodLink "MappingTexts$TextReader" (243 : Nat) ({ cls := "MappingTexts$Kinds", name := "mayHave", desc := "(II)Z" } : Jvm.MethodName)) ∈ GW := gw_3 105 rfl rfl
theorem gw_3_106 : (Jvm.Cond.static ({ cls := "MappingTexts$Kinds", name := "mayHave", desc := "(II)Z" } : Jvm.MethodName)) ∈ GW := gw_3 106 rfl rfl
theorem gw_3_107 : (Jvm.Cond.code ({ cls := "MappingTexts$Kinds", name := "mayHave", desc := "(II)Z" } : Jvm.MethodName) prog_4_method_6_code (2 : Nat) (Option.some Jvm.ClassFile.FieldType.boolean)) ∈ GW := gw_3 107 rfl rfl
theorem gw_3_108 : (Jvm.Cond.methodLink "MappingTexts$Kinds" (39 : Nat) ({ cls := "MappingTexts$Kinds", name := "isLeaf", desc := "(I)Z" } : Jvm.MethodName)) ∈ GW := gw_3 108 rfl rfl
theorem gw_3_109 : (Jvm.Cond.static ({ cls := "MappingTexts$Kinds", name := "isLeaf", desc := "(I)Z" } : Jvm.MethodName)) ∈ GW := gw_3 109 rfl rfl
theorem gw_3_110 : (Jvm.Cond.code ({ cls := "MappingTexts$Kinds", name := "isLeaf", desc := "(I)Z" } : Jvm.MethodName) prog_4_method_4_code (1 : Nat) (Option.some Jvm.ClassFile.FieldType.boolean)) ∈ GW := gw_3 110 rfl rfl
theorem gw_3_111 : (Jvm.Cond.methodLink "MappingTexts$TextReader" (250 : Nat) ({ cls := "MappingTexts$TextReader", name := "noteToken", desc := "(Z[II)V" } : Jvm.MethodName)) ∈ GW := gw_3 111 rfl rfl
theorem lt_3_112 : (Jvm.Cond.privateMethod ({ cls := "MappingTexts$TextReader", name := "noteToken", desc := "(Z[II)V" } : Jvm.MethodName)) ∈ lw_tbl := lt_3 112 rfl
theorem gw_3_113 : (Jvm.Cond.instanceMethod ({ cls := "MappingTexts$TextReader", name := "noteToken", desc := "(Z[II)V" } : Jvm.MethodName)) ∈ GW := gw_3 113 rfl rfl
theorem gw_3_114 : (Jvm.Cond.code ({ cls := "MappingTexts$TextReader", name := "noteToken", desc := "(Z[II)V" } : Jvm.MethodName) prog_7_method_20_code (5 : Nat) (Option.none : Option Jvm.ClassFile.FieldType)) ∈ GW := gw_3 114 rfl rfl
theorem gw_3_115 : (Jvm.Cond.methodLink "MappingTexts$TextReader" (146 : Nat) ({ cls := "MappingTexts$TextReader", name := "stepValue", desc := "(I)I" } : Jvm.MethodName)) ∈ GW := gw_3 115 rfl rfl
theorem lt_3_116 : (Jvm.Cond.privateMethod ({ cls := "MappingTexts$TextReader", name := "stepValue", desc := "(I)I" } : Jvm.MethodName)) ∈ lw_tbl := lt_3 116 rfl
theorem gw_3_117 : (Jvm.Cond.instanceMethod ({ cls := "MappingTexts$TextReader", name := "stepValue", desc := "(I)I" } : Jvm.MethodName)) ∈ GW := gw_3 117 rfl rfl
theorem gw_3_118 : (Jvm.Cond.code ({ cls := "MappingTexts$TextReader", name := "stepValue", desc := "(I)I" } : Jvm.MethodName) prog_7_method_21_code (2 : Nat) (Option.some Jvm.ClassFile.FieldType.int)) ∈ GW := gw_3 118 rfl rfl
theorem gw_3_119 : (Jvm.Cond.methodLink "MappingTexts$TextReader" (254 : Nat) ({ cls := "MappingTexts$TextReader", name := "takeNull", desc := "(I)V" } : Jvm.MethodName)) ∈ GW := gw_3 119 rfl rfl
theorem lt_3_120 : (Jvm.Cond.privateMethod ({ cls := "MappingTexts$TextReader", name := "takeNull", desc := "(I)V" } : Jvm.MethodName)) ∈ lw_tbl := lt_3 120 rfl
theorem gw_3_121 : (Jvm.Cond.instanceMethod ({ cls := "MappingTexts$TextReader", name := "takeNull", desc := "(I)V" } : Jvm.MethodName)) ∈ GW := gw_3 121 rfl rfl
theorem gw_3_122 : (Jvm.Cond.code ({ cls := "MappingTexts$TextReader", name := "takeNull", desc := "(I)V" } : Jvm.MethodName) prog_7_method_22_code (2 : Nat) (Option.none : Option Jvm.ClassFile.FieldType)) ∈ GW := gw_3 122 rfl rfl
theorem gw_3_123 : (Jvm.Cond.methodLink "MappingTexts$TextReader" (263 : Nat) ({ cls := "MappingTexts$Tokens", name := "numberAt", desc := "(I)I" } : Jvm.MethodName)) ∈ GW := gw_3 123 rfl rfl
theorem gw_3_124 : (Jvm.Cond.instanceMethod ({ cls := "MappingTexts$Tokens", name := "numberAt", desc := "(I)I" } : Jvm.MethodName)) ∈ GW := gw_3 124 rfl rfl
theorem gw_3_125 : (Jvm.Cond.selects "MappingTexts$Tokens" ({ cls := "MappingTexts$Tokens", name := "numberAt", desc := "(I)I" } : Jvm.MethodName) ({ cls := "MappingTexts$Tokens", name := "numberAt", desc := "(I)I" } : Jvm.MethodName)) ∈ GW := gw_3 125 rfl rfl
theorem gw_3_126 : (Jvm.Cond.code ({ cls := "MappingTexts$Tokens", name := "numberAt", desc := "(I)I" } : Jvm.MethodName) prog_8_method_14_code (4 : Nat) (Option.some Jvm.ClassFile.FieldType.int)) ∈ GW := gw_3 126 rfl rfl
theorem gw_3_127 : (Jvm.Cond.methodLink "MappingTexts$TextReader" (260 : Nat) ({ cls := "MappingTexts$Letters", name := "clear", desc := "()V" } : Jvm.MethodName)) ∈ GW := gw_3 127 rfl rfl
theorem gw_3_128 : (Jvm.Cond.methodLink "MappingTexts$TextReader" (149 : Nat) ({ cls := "MappingTexts$TextReader", name := "stepBehindValue", desc := "(I)I" } : Jvm.MethodName)) ∈ GW := gw_3 128 rfl rfl
theorem lt_3_129 : (Jvm.Cond.privateMethod ({ cls := "MappingTexts$TextReader", name := "stepBehindValue", desc := "(I)I" } : Jvm.MethodName)) ∈ lw_tbl := lt_3 129 rfl
theorem gw_3_130 : (Jvm.Cond.instanceMethod ({ cls := "MappingTexts$TextReader", name := "stepBehindValue", desc := "(I)I" } : Jvm.MethodName)) ∈ GW := gw_3 130 rfl rfl
theorem gw_3_131 : (Jvm.Cond.code ({ cls := "MappingTexts$TextReader", name := "stepBehindValue", desc := "(I)I" } : Jvm.MethodName) prog_7_method_23_code (2 : Nat) (Option.some Jvm.ClassFile.FieldType.int)) ∈ GW := gw_3 131 rfl rfl
theorem gw_3_132 : (Jvm.Cond.methodLink "MappingTexts$TextReader" (152 : Nat) ({ cls := "MappingTexts$TextReader", name := "stepInPath", desc := "(I)I" } : Jvm.MethodName)) ∈ GW := gw_3 132 rfl rfl
theorem lt_3_133 : (Jvm.Cond.privateMethod ({ cls := "MappingTexts$TextReader", name := "stepInPath", desc := "(I)I" } : Jvm.MethodName)) ∈ lw_tbl := lt_3 133 rfl
theorem gw_3_134 : (Jvm.Cond.instanceMethod ({ cls := "MappingTexts$TextReader", name := "stepInPath", desc := "(I)I" } : Jvm.MethodName)) ∈ GW := gw_3 134 rfl rfl
theorem gw_3_135 : (Jvm.Cond.code ({ cls := "MappingTexts$TextReader", name := "stepInPath", desc := "(I)I" } : Jvm.MethodName) prog_7_method_24_code (2 : Nat) (Option.some Jvm.ClassFile.FieldType.int)) ∈ GW := gw_3 135 rfl rfl
theorem gw_3_136 : (Jvm.Cond.methodLink "MappingTexts$TextReader" (158 : Nat) ({ cls := "MappingTexts$TextReader", name := "stepPattern", desc := "(I)I" } : Jvm.MethodName)) ∈ GW := gw_3 136 rfl rfl
theorem lt_3_137 : (Jvm.Cond.privateMethod ({ cls := "MappingTexts$TextReader", name := "stepPattern", desc := "(I)I" } : Jvm.MethodName)) ∈ lw_tbl := lt_3 137 rfl
theorem gw_3_138 : (Jvm.Cond.instanceMethod ({ cls := "MappingTexts$TextReader", name := "stepPattern", desc := "(I)I" } : Jvm.MethodName)) ∈ GW := gw_3 138 rfl rfl
theorem gw_3_139 : (Jvm.Cond.code ({ cls := "MappingTexts$TextReader", name := "stepPattern", desc := "(I)I" } : Jvm.MethodName) prog_7_method_26_code (2 : Nat) (Option.some Jvm.ClassFile.FieldType.int)) ∈ GW := gw_3 139 rfl rfl
theorem gw_3_140 : (Jvm.Cond.methodLink "MappingTexts$TextReader" (278 : Nat) ({ cls := "MappingTexts$TextReader", name := "stepStar", desc := "(I)I" } : Jvm.MethodName)) ∈ GW := gw_3 140 rfl rfl
theorem lt_3_141 : (Jvm.Cond.privateMethod ({ cls := "MappingTexts$TextReader", name := "stepStar", desc := "(I)I" } : Jvm.MethodName)) ∈ lw_tbl := lt_3 141 rfl
theorem gw_3_142 : (Jvm.Cond.instanceMethod ({ cls := "MappingTexts$TextReader", name := "stepStar", desc := "(I)I" } : Jvm.MethodName)) ∈ GW := gw_3 142 rfl rfl
theorem gw_3_143 : (Jvm.Cond.code ({ cls := "MappingTexts$TextReader", name := "stepStar", desc := "(I)I" } : Jvm.MethodName) prog_7_method_27_code (3 : Nat) (Option.some Jvm.ClassFile.FieldType.int)) ∈ GW := gw_3 143 rfl rfl
theorem gw_3_144 : (Jvm.Cond.methodLink "MappingTexts$TextReader" (161 : Nat) ({ cls := "MappingTexts$TextReader", name := "stepBehindHead", desc := "(I)I" } : Jvm.MethodName)) ∈ GW := gw_3 144 rfl rfl
theorem lt_3_145 : (Jvm.Cond.privateMethod ({ cls := "MappingTexts$TextReader", name := "stepBehindHead", desc := "(I)I" } : Jvm.MethodName)) ∈ lw_tbl := lt_3 145 rfl
theorem gw_3_146 : (Jvm.Cond.instanceMethod ({ cls := "MappingTexts$TextReader", name := "stepBehindHead", desc := "(I)I" } : Jvm.MethodName)) ∈ GW := gw_3 146 rfl rfl
theorem gw_3_147 : (Jvm.Cond.code ({ cls := "MappingTexts$TextReader", name := "stepBehindHead", desc := "(I)I" } : Jvm.MethodName) prog_7_method_28_code (2 : Nat) (Option.some Jvm.ClassFile.FieldType.int)) ∈ GW := gw_3 147 rfl rfl
theorem gw_3_148 : (Jvm.Cond.methodLink "MappingTexts$TextReader" (164 : Nat) ({ cls := "MappingTexts$TextReader", name := "stepBehindStar", desc := "(I)I" } : Jvm.MethodName)) ∈ GW := gw_3 148 rfl rfl
theorem lt_3_149 : (Jvm.Cond.privateMethod ({ cls := "MappingTexts$TextReader", name := "stepBehindStar", desc := "(I)I" } : Jvm.MethodName)) ∈ lw_tbl := lt_3 149 rfl
theorem gw_3_150 : (Jvm.Cond.instanceMethod ({ cls := "MappingTexts$TextReader", name := "stepBehindStar", desc := "(I)I" } : Jvm.MethodName)) ∈ GW := gw_3 150 rfl rfl
theorem gw_3_151 : (Jvm.Cond.code ({ cls := "MappingTexts$TextReader", name := "stepBehindStar", desc := "(I)I" } : Jvm.MethodName) prog_7_method_29_code (2 : Nat) (Option.some Jvm.ClassFile.FieldType.int)) ∈ GW := gw_3 151 rfl rfl
theorem gw_3_152 : (Jvm.Cond.methodLink "MappingTexts$TextReader" (167 : Nat) ({ cls := "MappingTexts$TextReader", name := "stepRuleKind", desc := "(I)I" } : Jvm.MethodName)) ∈ GW := gw_3 152 rfl rfl
theorem lt_3_153 : (Jvm.Cond.privateMethod ({ cls := "MappingTexts$TextReader", name := "stepRuleKind", desc := "(I)I" } : Jvm.MethodName)) ∈ lw_tbl := lt_3 153 rfl
theorem gw_3_154 : (Jvm.Cond.instanceMethod ({ cls := "MappingTexts$TextReader", name := "stepRuleKind", desc := "(I)I" } : Jvm.MethodName)) ∈ GW := gw_3 154 rfl rfl
theorem gw_3_155 : (Jvm.Cond.code ({ cls := "MappingTexts$TextReader", name := "stepRuleKind", desc := "(I)I" } : Jvm.MethodName) prog_7_method_30_code (3 : Nat) (Option.some Jvm.ClassFile.FieldType.int)) ∈ GW := gw_3 155 rfl rfl
theorem gw_3_156 : (Jvm.Cond.methodLink "MappingTexts$TextReader" (170 : Nat) ({ cls := "MappingTexts$TextReader", name := "stepLimitNumber", desc := "(I)I" } : Jvm.MethodName)) ∈ GW := gw_3 156 rfl rfl
theorem lt_3_157 : (Jvm.Cond.privateMethod ({ cls := "MappingTexts$TextReader", name := "stepLimitNumber", desc := "(I)I" } : Jvm.MethodName)) ∈ lw_tbl := lt_3 157 rfl
theorem gw_3_158 : (Jvm.Cond.instanceMethod ({ cls := "MappingTexts$TextReader", name := "stepLimitNumber", desc := "(I)I" } : Jvm.MethodName)) ∈ GW := gw_3 158 rfl rfl
theorem gw_3_159 : (Jvm.Cond.code ({ cls := "MappingTexts$TextReader", name := "stepLimitNumber", desc := "(I)I" } : Jvm.MethodName) prog_7_method_32_code (2 : Nat) (Option.some Jvm.ClassFile.FieldType.int)) ∈ GW := gw_3 159 rfl rfl
theorem gw_3_160 : (Jvm.Cond.methodLink "MappingTexts$TextReader" (109 : Nat) ({ cls := "MappingTexts$Tokens", name := "textLength", desc := "()I" } : Jvm.MethodName)) ∈ GW := gw_3 160 rfl rfl
theorem gw_3_161 : (Jvm.Cond.instanceMethod ({ cls := "MappingTexts$Tokens", name := "textLength", desc := "()I" } : Jvm.MethodName)) ∈ GW := gw_3 161 rfl rfl
theorem gw_3_162 : (Jvm.Cond.selects "MappingTexts$Tokens" ({ cls := "MappingTexts$Tokens", name := "textLength", desc := "()I" } : Jvm.MethodName) ({ cls := "MappingTexts$Tokens", name := "textLength", desc := "()I" } : Jvm.MethodName)) ∈ GW := gw_3 162 rfl rfl
theorem gw_3_163 : (Jvm.Cond.code ({ cls := "MappingTexts$Tokens", name := "textLength", desc := "()I" } : Jvm.MethodName) prog_8_method_3_code (1 : Nat) (Option.some Jvm.ClassFile.FieldType.int)) ∈ GW := gw_3 163 rfl rfl
theorem gw_3_164 : (Jvm.Cond.methodLink "MappingTexts$TextReader" (112 : Nat) ({ cls := "MappingTexts$TextReader", name := "lookAtPaths", desc := "()V" } : Jvm.MethodName)) ∈ GW := gw_3 164 rfl rfl
theorem lt_3_165 : (Jvm.Cond.privateMethod ({ cls := "MappingTexts$TextReader", name := "lookAtPaths", desc := "()V" } : Jvm.MethodName)) ∈ lw_tbl := lt_3 165 rfl
theorem gw_3_166 : (Jvm.Cond.instanceMethod ({ cls := "MappingTexts$TextReader", name := "lookAtPaths", desc := "()V" } : Jvm.MethodName)) ∈ GW := gw_3 166 rfl rfl
theorem gw_3_167 : (Jvm.Cond.code ({ cls := "MappingTexts$TextReader", name := "lookAtPaths", desc := "()V" } : Jvm.MethodName) prog_7_method_33_code (3 : Nat) (Option.none : Option Jvm.ClassFile.FieldType)) ∈ GW := gw_3 167 rfl rfl
theorem gw_3_168 : (Jvm.Cond.methodLink "MappingTexts$TextReader" (288 : Nat) ({ cls := "MappingTexts$TextReader", name := "fieldMeant", desc := "(II)I" } : Jvm.MethodName)) ∈ GW := gw_3 168 rfl rfl
theorem lt_3_169 : (Jvm.Cond.privateMethod ({ cls := "MappingTexts$TextReader", name := "fieldMeant", desc := "(II)I" } : Jvm.MethodName)) ∈ lw_tbl := lt_3 169 rfl
theorem gw_3_170 : (Jvm.Cond.instanceMethod ({ cls := "MappingTexts$TextReader", name := "fieldMeant", desc := "(II)I" } : Jvm.MethodName)) ∈ GW := gw_3 170 rfl rfl
theorem gw_3_171 : (Jvm.Cond.code ({ cls := "MappingTexts$TextReader", name := "fieldMeant", desc := "(II)I" } : Jvm.MethodName) prog_7_method_34_code (4 : Nat) (Option.some Jvm.ClassFile.FieldType.int)) ∈ GW := gw_3 171 rfl rfl
theorem gw_3_172 : (Jvm.Cond.methodLink "MappingTexts$TextReader" (297 : Nat) ({ cls := "MappingTexts$Tokens", name := "joinPath", desc := "(ILMappingTexts$Letters;)V" } : Jvm.MethodName)) ∈ GW := gw_3 172 rfl rfl
theorem gw_3_173 : (Jvm.Cond.instanceMethod ({ cls := "MappingTexts$Tokens", name := "joinPath", desc := "(ILMappingTexts$Letters;)V" } : Jvm.MethodName)) ∈ GW := gw_3 173 rfl rfl
theorem gw_3_174 : (Jvm.Cond.selects "MappingTexts$Tokens" ({ cls := "MappingTexts$Tokens", name := "joinPath", desc := "(ILMappingTexts$Letters;)V" } : Jvm.MethodName) ({ cls := "MappingTexts$Tokens", name := "joinPath", desc := "(ILMappingTexts$Letters;)V" } : Jvm.MethodName)) ∈ GW := gw_3 174 rfl rfl
theorem gw_3_175 : (Jvm.Cond.code ({ cls := "MappingTexts$Tokens", name := "joinPath", desc := "(ILMappingTexts$Letters;)V" } : Jvm.MethodName) prog_8_method_17_code (4 : Nat) (Option.none : Option Jvm.ClassFile.FieldType)) ∈ GW := gw_3 175 rfl rfl
theorem gw_3_176 : (Jvm.Cond.methodLink "MappingTexts$Tokens" (74 : Nat) ({ cls := "MappingTexts$Tokens", name := "addTo", desc := "(LMappingTexts$Letters;I)V" } : Jvm.MethodName)) ∈ GW := gw_3 176 rfl rfl
theorem gw_3_177 : (Jvm.Cond.methodLink "MappingTexts$Tokens" (78 : Nat) ({ cls := "MappingTexts$Letters", name := "add", desc := "(I)V" } : Jvm.MethodName)) ∈ GW := gw_3 177 rfl rfl
theorem gw_3_178 : (Jvm.Cond.methodLink "MappingTexts$TextReader" (301 : Nat) ({ cls := "MappingTexts$Letters", name := "isOver", desc := "()Z" } : Jvm.MethodName)) ∈ GW := gw_3 178 rfl rfl
theorem gw_3_179 : (Jvm.Cond.instanceMethod ({ cls := "MappingTexts$Letters", name := "isOver", desc := "()Z" } : Jvm.MethodName)) ∈ GW := gw_3 179 rfl rfl
theorem gw_3_180 : (Jvm.Cond.selects "MappingTexts$Letters" ({ cls := "MappingTexts$Letters", name := "isOver", desc := "()Z" } : Jvm.MethodName) ({ cls := "MappingTexts$Letters", name := "isOver", desc := "()Z" } : Jvm.MethodName)) ∈ GW := gw_3 180 rfl rfl
theorem gw_3_181 : (Jvm.Cond.code ({ cls := "MappingTexts$Letters", name := "isOver", desc := "()Z" } : Jvm.MethodName) prog_5_method_3_code (1 : Nat) (Option.some Jvm.ClassFile.FieldType.boolean)) ∈ GW := gw_3 181 rfl rfl
theorem gw_3_182 : (Jvm.Cond.methodLink "MappingTexts$TextReader" (305 : Nat) ({ cls := "MappingTexts$Letters", name := "length", desc := "()I" } : Jvm.MethodName)) ∈ GW := gw_3 182 rfl rfl
theorem gw_3_183 : (Jvm.Cond.methodLink "MappingTexts$TextReader" (308 : Nat) ({ cls := "MappingTexts$Version", name := "fieldOf", desc := "(LMappingTexts$Letters;I)I" } : Jvm.MethodName)) ∈ GW := gw_3 183 rfl rfl
theorem gw_3_184 : (Jvm.Cond.instanceMethod ({ cls := "MappingTexts$Version", name := "fieldOf", desc := "(LMappingTexts$Letters;I)I" } : Jvm.MethodName)) ∈ GW := gw_3 184 rfl rfl
theorem gw_3_185 : (Jvm.Cond.selects "MappingTexts$Version" ({ cls := "MappingTexts$Version", name := "fieldOf", desc := "(LMappingTexts$Letters;I)I" } : Jvm.MethodName) ({ cls := "MappingTexts$Version", name := "fieldOf", desc := "(LMappingTexts$Letters;I)I" } : Jvm.MethodName)) ∈ GW := gw_3 185 rfl rfl
theorem gw_3_186 : (Jvm.Cond.code ({ cls := "MappingTexts$Version", name := "fieldOf", desc := "(LMappingTexts$Letters;I)I" } : Jvm.MethodName) prog_9_method_3_code (4 : Nat) (Option.some Jvm.ClassFile.FieldType.int)) ∈ GW := gw_3 186 rfl rfl
theorem gw_3_187 : (Jvm.Cond.methodLink "MappingTexts$Version" (43 : Nat) ({ cls := "MappingTexts$Letters", name := "isStartOf", desc := "(LMappingTexts$Letters;I)Z" } : Jvm.MethodName)) ∈ GW := gw_3 187 rfl rfl
theorem gw_3_188 : (Jvm.Cond.instanceMethod ({ cls := "MappingTexts$Letters", name := "isStartOf", desc := "(LMappingTexts$Letters;I)Z" } : Jvm.MethodName)) ∈ GW := gw_3 188 rfl rfl
theorem gw_3_189 : (Jvm.Cond.selects "MappingTexts$Letters" ({ cls := "MappingTexts$Letters", name := "isStartOf", desc := "(LMappingTexts$Letters;I)Z" } : Jvm.MethodName) ({ cls := "MappingTexts$Letters", name := "isStartOf", desc := "(LMappingTexts$Letters;I)Z" } : Jvm.MethodName)) ∈ GW := gw_3 189 rfl rfl
theorem gw_3_190 : (Jvm.Cond.code ({ cls := "MappingTexts$Letters", name := "isStartOf", desc := "(LMappingTexts$Letters;I)Z" } : Jvm.MethodName) prog_5_method_14_code (3 : Nat) (Option.some Jvm.ClassFile.FieldType.boolean)) ∈ GW := gw_3 190 rfl rfl
theorem gw_3_191 : (Jvm.Cond.methodLink "MappingTexts$TextReader" (312 : Nat) ({ cls := "MappingTexts$Kinds", name := "mayBeMeant", desc := "(II)Z" } : Jvm.MethodName)) ∈ GW := gw_3 191 rfl rfl
theorem gw_3_192 : (Jvm.Cond.static ({ cls := "MappingTexts$Kinds", name := "mayBeMeant", desc := "(II)Z" } : Jvm.MethodName)) ∈ GW := gw_3 192 rfl rfl
theorem gw_3_193 : (Jvm.Cond.code ({ cls := "MappingTexts$Kinds", name := "mayBeMeant", desc := "(II)Z" } : Jvm.MethodName) prog_4_method_7_code (2 : Nat) (Option.some Jvm.ClassFile.FieldType.boolean)) ∈ GW := gw_3 193 rfl rfl
theorem gw_3_194 : (Jvm.Cond.methodLink "MappingTexts$TextReader" (115 : Nat) ({ cls := "MappingTexts$TextReader", name := "lookAtCircles", desc := "()V" } : Jvm.MethodName)) ∈ GW := gw_3 194 rfl rfl
theorem lt_3_195 : (Jvm.Cond.privateMethod ({ cls := "MappingTexts$TextReader", name := "lookAtCircles", desc := "()V" } : Jvm.MethodName)) ∈ lw_tbl := lt_3 195 rfl
theorem gw_3_196 : (Jvm.Cond.instanceMethod ({ cls := "MappingTexts$TextReader", name := "lookAtCircles", desc := "()V" } : Jvm.MethodName)) ∈ GW := gw_3 196 rfl rfl
theorem gw_3_197 : (Jvm.Cond.code ({ cls := "MappingTexts$TextReader", name := "lookAtCircles", desc := "()V" } : Jvm.MethodName) prog_7_method_35_code (2 : Nat) (Option.none : Option Jvm.ClassFile.FieldType)) ∈ GW := gw_3 197 rfl rfl
theorem gw_3_198 : (Jvm.Cond.methodLink "MappingTexts$TextReader" (315 : Nat) ({ cls := "MappingTexts$TextReader", name := "isInCircle", desc := "(I)Z" } : Jvm.MethodName)) ∈ GW := gw_3 198 rfl rfl
theorem lt_3_199 : (Jvm.Cond.privateMethod ({ cls := "MappingTexts$TextReader", name := "isInCircle", desc := "(I)Z" } : Jvm.MethodName)) ∈ lw_tbl := lt_3 199 rfl
theorem gw_3_200 : (Jvm.Cond.instanceMethod ({ cls := "MappingTexts$TextReader", name := "isInCircle", desc := "(I)Z" } : Jvm.MethodName)) ∈ GW := gw_3 200 rfl rfl
theorem gw_3_201 : (Jvm.Cond.code ({ cls := "MappingTexts$TextReader", name := "isInCircle", desc := "(I)Z" } : Jvm.MethodName) prog_7_method_36_code (4 : Nat) (Option.some Jvm.ClassFile.FieldType.boolean)) ∈ GW := gw_3 201 rfl rfl
theorem gw_3_202 : (Jvm.Cond.methodLink "MappingTexts$TextReader" (118 : Nat) ({ cls := "MappingTexts$TextReader", name := "lookAtLimit", desc := "()V" } : Jvm.MethodName)) ∈ GW := gw_3 202 rfl rfl
theorem lt_3_203 : (Jvm.Cond.privateMethod ({ cls := "MappingTexts$TextReader", name := "lookAtLimit", desc := "()V" } : Jvm.MethodName)) ∈ lw_tbl := lt_3 203 rfl
theorem gw_3_204 : (Jvm.Cond.instanceMethod ({ cls := "MappingTexts$TextReader", name := "lookAtLimit", desc := "()V" } : Jvm.MethodName)) ∈ GW := gw_3 204 rfl rfl
theorem gw_3_205 : (Jvm.Cond.code ({ cls := "MappingTexts$TextReader", name := "lookAtLimit", desc := "()V" } : Jvm.MethodName) prog_7_method_37_code (1 : Nat) (Option.none : Option Jvm.ClassFile.FieldType)) ∈ GW := gw_3 205 rfl rfl
theorem gw_3_206 : (Jvm.Cond.methodLink "MappingTexts" (84 : Nat) ({ cls := "MappingTexts$TextReader", name := "placeOfFault", desc := "()I" } : Jvm.MethodName)) ∈ GW := gw_3 206 rfl rfl
theorem gw_3_207 : (Jvm.Cond.instanceMethod ({ cls := "MappingTexts$TextReader", name := "placeOfFault", desc := "()I" } : Jvm.MethodName)) ∈ GW := gw_3 207 rfl rfl
theorem gw_3_208 : (Jvm.Cond.selects "MappingTexts$TextReader" ({ cls := "MappingTexts$TextReader", name := "placeOfFault", desc := "()I" } : Jvm.MethodName) ({ cls := "MappingTexts$TextReader", name := "placeOfFault", desc := "()I" } : Jvm.MethodName)) ∈ GW := gw_3 208 rfl rfl
theorem gw_3_209 : (Jvm.Cond.code ({ cls := "MappingTexts$TextReader", name := "placeOfFault", desc := "()I" } : Jvm.MethodName) prog_7_method_2_code (1 : Nat) (Option.some Jvm.ClassFile.FieldType.int)) ∈ GW := gw_3 209 rfl rfl
theorem gw_3_210 : (Jvm.Cond.methodLink "MappingTexts" (87 : Nat) ({ cls := "MappingTexts", name := "keep", desc := "(LMappingTexts$Version;)I" } : Jvm.MethodName)) ∈ GW := gw_3 210 rfl rfl
theorem lt_3_211 : (Jvm.Cond.privateMethod ({ cls := "MappingTexts", name := "keep", desc := "(LMappingTexts$Version;)I" } : Jvm.MethodName)) ∈ lw_tbl := lt_3 211 rfl
theorem gw_3_212 : (Jvm.Cond.instanceMethod ({ cls := "MappingTexts", name := "keep", desc := "(LMappingTexts$Version;)I" } : Jvm.MethodName)) ∈ GW := gw_3 212 rfl rfl
theorem gw_3_213 : (Jvm.Cond.code ({ cls := "MappingTexts", name := "keep", desc := "(LMappingTexts$Version;)I" } : Jvm.MethodName) prog_1_method_22_code (2 : Nat) (Option.some Jvm.ClassFile.FieldType.int)) ∈ GW := gw_3 213 rfl rfl
theorem gw_3_214 : (Jvm.Cond.methodLink "MappingTexts" (206 : Nat) ({ cls := "MappingTexts$Version", name := "sortByPath", desc := "()V" } : Jvm.MethodName)) ∈ GW := gw_3 214 rfl rfl
theorem gw_3_215 : (Jvm.Cond.instanceMethod ({ cls := "MappingTexts$Version", name := "sortByPath", desc := "()V" } : Jvm.MethodName)) ∈ GW := gw_3 215 rfl rfl
theorem gw_3_216 : (Jvm.Cond.selects "MappingTexts$Version" ({ cls := "MappingTexts$Version", name := "sortByPath", desc := "()V" } : Jvm.MethodName) ({ cls := "MappingTexts$Version", name := "sortByPath", desc := "()V" } : Jvm.MethodName)) ∈ GW := gw_3 216 rfl rfl
theorem gw_3_217 : (Jvm.Cond.code ({ cls := "MappingTexts$Version", name := "sortByPath", desc := "()V" } : Jvm.MethodName) prog_9_method_13_code (4 : Nat) (Option.none : Option Jvm.ClassFile.FieldType)) ∈ GW := gw_3 217 rfl rfl
theorem gw_3_218 : (Jvm.Cond.methodLink "MappingTexts$Version" (139 : Nat) ({ cls := "MappingTexts$Version", name := "comesBefore", desc := "(II)Z" } : Jvm.MethodName)) ∈ GW := gw_3 218 rfl rfl
theorem lt_3_219 : (Jvm.Cond.privateMethod ({ cls := "MappingTexts$Version", name := "comesBefore", desc := "(II)Z" } : Jvm.MethodName)) ∈ lw_tbl := lt_3 219 rfl
theorem gw_3_220 : (Jvm.Cond.instanceMethod ({ cls := "MappingTexts$Version", name := "comesBefore", desc := "(II)Z" } : Jvm.MethodName)) ∈ GW := gw_3 220 rfl rfl
theorem gw_3_221 : (Jvm.Cond.code ({ cls := "MappingTexts$Version", name := "comesBefore", desc := "(II)Z" } : Jvm.MethodName) prog_9_method_14_code (3 : Nat) (Option.some Jvm.ClassFile.FieldType.boolean)) ∈ GW := gw_3 221 rfl rfl
theorem gw_3_222 : (Jvm.Cond.methodLink "MappingTexts$Version" (143 : Nat) ({ cls := "MappingTexts$Letters", name := "compareWith", desc := "(LMappingTexts$Letters;)I" } : Jvm.MethodName)) ∈ GW := gw_3 222 rfl rfl
theorem gw_3_223 : (Jvm.Cond.instanceMethod ({ cls := "MappingTexts$Letters", name := "compareWith", desc := "(LMappingTexts$Letters;)I" } : Jvm.MethodName)) ∈ GW := gw_3 223 rfl rfl
theorem gw_3_224 : (Jvm.Cond.selects "MappingTexts$Letters" ({ cls := "MappingTexts$Letters", name := "compareWith", desc := "(LMappingTexts$Letters;)I" } : Jvm.MethodName) ({ cls := "MappingTexts$Letters", name := "compareWith", desc := "(LMappingTexts$Letters;)I" } : Jvm.MethodName)) ∈ GW := gw_3 224 rfl rfl
theorem gw_3_225 : (Jvm.Cond.code ({ cls := "MappingTexts$Letters", name := "compareWith", desc := "(LMappingTexts$Letters;)I" } : Jvm.MethodName) prog_5_method_19_code (4 : Nat) (Option.some Jvm.ClassFile.FieldType.int)) ∈ GW := gw_3 225 rfl rfl
theorem gw_3_226 : (Jvm.Cond.methodLink "MappingTexts$Letters" (66 : Nat) ({ cls := "java/lang/Math", name := "min", desc := "(II)I" } : Jvm.MethodName)) ∈ GW := gw_3 226 rfl rfl
theorem gw_3_227 : (Jvm.Cond.static ({ cls := "java/lang/Math", name := "min", desc := "(II)I" } : Jvm.MethodName)) ∈ GW := gw_3 227 rfl rfl
theorem gw_3_228 : (Jvm.Cond.code ({ cls := "java/lang/Math", name := "min", desc := "(II)I" } : Jvm.MethodName) prog_12_method_69_code (2 : Nat) (Option.some Jvm.ClassFile.FieldType.int)) ∈ GW := gw_3 228 rfl rfl
theorem gw_3_229 : (Jvm.Cond.methodLink "MappingTextsLaw" (25 : Nat) ({ cls := "MappingTexts", name := "place", desc := "()I" } : Jvm.MethodName)) ∈ GW := gw_3 229 rfl rfl
theorem gw_3_230 : (Jvm.Cond.instanceMethod ({ cls := "MappingTexts", name := "place", desc := "()I" } : Jvm.MethodName)) ∈ GW := gw_3 230 rfl rfl
theorem gw_3_231 : (Jvm.Cond.selects "MappingTexts" ({ cls := "MappingTexts", name := "place", desc := "()I" } : Jvm.MethodName) ({ cls := "MappingTexts", name := "place", desc := "()I" } : Jvm.MethodName)) ∈ GW := gw_3 231 rfl rfl
theorem gw_3_232 : (Jvm.Cond.code ({ cls := "MappingTexts", name := "place", desc := "()I" } : Jvm.MethodName) prog_1_method_4_code (1 : Nat) (Option.some Jvm.ClassFile.FieldType.int)) ∈ GW := gw_3 232 rfl rfl
theorem gw_3_233 : (Jvm.Cond.methodLink "MappingTextsLaw" (29 : Nat) ({ cls := "MappingTexts", name := "grow", desc := "(II)I" } : Jvm.MethodName)) ∈ GW := gw_3 233 rfl rfl
theorem gw_3_234 : (Jvm.Cond.instanceMethod ({ cls := "MappingTexts", name := "grow", desc := "(II)I" } : Jvm.MethodName)) ∈ GW := gw_3 234 rfl rfl
theorem gw_3_235 : (Jvm.Cond.selects "MappingTexts" ({ cls := "MappingTexts", name := "grow", desc := "(II)I" } : Jvm.MethodName) ({ cls := "MappingTexts", name := "grow", desc := "(II)I" } : Jvm.MethodName)) ∈ GW := gw_3 235 rfl rfl
theorem gw_3_236 : (Jvm.Cond.code ({ cls := "MappingTexts", name := "grow", desc := "(II)I" } : Jvm.MethodName) prog_1_method_5_code (4 : Nat) (Option.some Jvm.ClassFile.FieldType.int)) ∈ GW := gw_3 236 rfl rfl
theorem gw_3_237 : (Jvm.Cond.methodLink "MappingTexts" (90 : Nat) ({ cls := "MappingTexts", name := "takePath", desc := "()Z" } : Jvm.MethodName)) ∈ GW := gw_3 237 rfl rfl
theorem lt_3_238 : (Jvm.Cond.privateMethod ({ cls := "MappingTexts", name := "takePath", desc := "()Z" } : Jvm.MethodName)) ∈ lw_tbl := lt_3 238 rfl
theorem gw_3_239 : (Jvm.Cond.instanceMethod ({ cls := "MappingTexts", name := "takePath", desc := "()Z" } : Jvm.MethodName)) ∈ GW := gw_3 239 rfl rfl
theorem gw_4_0 : (Jvm.Cond.code ({ cls := "MappingTexts", name := "takePath", desc := "()Z" } : Jvm.MethodName) prog_1_method_23_code (2 : Nat) (Option.some Jvm.ClassFile.FieldType.boolean)) ∈ GW := gw_4 0 rfl rfl
theorem gw_4_1 : (Jvm.Cond.methodLink "MappingTexts" (209 : Nat) ({ cls := "MappingTexts$Tokens", name := "readAll", desc := "()I" } : Jvm.MethodName)) ∈ GW := gw_4 1 rfl rfl
theorem gw_4_2 : (Jvm.Cond.methodLink "MappingTexts" (212 : Nat) ({ cls := "MappingTexts$Tokens", name := "arePath", desc := "()Z" } : Jvm.MethodName)) ∈ GW := gw_4 2 rfl rfl
theorem gw_4_3 : (Jvm.Cond.instanceMethod ({ cls := "MappingTexts$Tokens", name := "arePath", desc := "()Z" } : Jvm.MethodName)) ∈ GW := gw_4 3 rfl rfl
theorem gw_4_4 : (Jvm.Cond.selects "MappingTexts$Tokens" ({ cls := "MappingTexts$Tokens", name := "arePath", desc := "()Z" } : Jvm.MethodName) ({ cls := "MappingTexts$Tokens", name := "arePath", desc := "()Z" } : Jvm.MethodName)) ∈ GW := gw_4 4 rfl rfl
theorem gw_4_5 : (Jvm.Cond.code ({ cls := "MappingTexts$Tokens", name := "arePath", desc := "()Z" } : Jvm.MethodName) prog_8_method_16_code (2 : Nat) (Option.some Jvm.ClassFile.FieldType.boolean)) ∈ GW := gw_4 5 rfl rfl
theorem gw_4_6 : (Jvm.Cond.methodLink "MappingTexts" (215 : Nat) ({ cls := "MappingTexts$Tokens", name := "joinPath", desc := "(ILMappingTexts$Letters;)V" } : Jvm.MethodName)) ∈ GW := gw_4 6 rfl rfl
theorem gw_4_7 : (Jvm.Cond.methodLink "MappingTexts" (165 : Nat) ({ cls := "MappingTexts$Letters", name := "isOver", desc := "()Z" } : Jvm.MethodName)) ∈ GW := gw_4 7 rfl rfl
theorem gw_4_8 : (Jvm.Cond.methodLink "MappingTexts" (94 : Nat) ({ cls := "MappingTexts", name := "isVersion", desc := "(I)Z" } : Jvm.MethodName)) ∈ GW := gw_4 8 rfl rfl
theorem lt_4_9 : (Jvm.Cond.privateMethod ({ cls := "MappingTexts", name := "isVersion", desc := "(I)Z" } : Jvm.MethodName)) ∈ lw_tbl := lt_4 9 rfl
theorem gw_4_10 : (Jvm.Cond.instanceMethod ({ cls := "MappingTexts", name := "isVersion", desc := "(I)Z" } : Jvm.MethodName)) ∈ GW := gw_4 10 rfl rfl
theorem gw_4_11 : (Jvm.Cond.code ({ cls := "MappingTexts", name := "isVersion", desc := "(I)Z" } : Jvm.MethodName) prog_1_method_19_code (2 : Nat) (Option.some Jvm.ClassFile.FieldType.boolean)) ∈ GW := gw_4 11 rfl rfl
theorem gw_4_12 : (Jvm.Cond.methodLink "MappingTexts" (97 : Nat) ({ cls := "MappingTexts", name := "isMet", desc := "(I)Z" } : Jvm.MethodName)) ∈ GW := gw_4 12 rfl rfl
theorem gw_4_13 : (Jvm.Cond.static ({ cls := "MappingTexts", name := "isMet", desc := "(I)Z" } : Jvm.MethodName)) ∈ GW := gw_4 13 rfl rfl
theorem gw_4_14 : (Jvm.Cond.code ({ cls := "MappingTexts", name := "isMet", desc := "(I)Z" } : Jvm.MethodName) prog_1_method_21_code (1 : Nat) (Option.some Jvm.ClassFile.FieldType.boolean)) ∈ GW := gw_4 14 rfl rfl
theorem gw_4_15 : (Jvm.Cond.methodLink "MappingTexts" (100 : Nat) ({ cls := "MappingTexts", name := "growByPath", desc := "(II)I" } : Jvm.MethodName)) ∈ GW := gw_4 15 rfl rfl
theorem lt_4_16 : (Jvm.Cond.privateMethod ({ cls := "MappingTexts", name := "growByPath", desc := "(II)I" } : Jvm.MethodName)) ∈ lw_tbl := lt_4 16 rfl
theorem gw_4_17 : (Jvm.Cond.instanceMethod ({ cls := "MappingTexts", name := "growByPath", desc := "(II)I" } : Jvm.MethodName)) ∈ GW := gw_4 17 rfl rfl
theorem gw_4_18 : (Jvm.Cond.code ({ cls := "MappingTexts", name := "growByPath", desc := "(II)I" } : Jvm.MethodName) prog_1_method_24_code (6 : Nat) (Option.some Jvm.ClassFile.FieldType.int)) ∈ GW := gw_4 18 rfl rfl
theorem gw_4_19 : (Jvm.Cond.methodLink "MappingTexts" (104 : Nat) ({ cls := "MappingTexts$Version", name := "fieldOf", desc := "(LMappingTexts$Letters;I)I" } : Jvm.MethodName)) ∈ GW := gw_4 19 rfl rfl
theorem gw_4_20 : (Jvm.Cond.methodLink "MappingTexts" (219 : Nat) ({ cls := "MappingTexts$Version", name := "kindToCome", desc := "(LMappingTexts$Letters;I)I" } : Jvm.MethodName)) ∈ GW := gw_4 20 rfl rfl
theorem gw_4_21 : (Jvm.Cond.instanceMethod ({ cls := "MappingTexts$Version", name := "kindToCome", desc := "(LMappingTexts$Letters;I)I" } : Jvm.MethodName)) ∈ GW := gw_4 21 rfl rfl
theorem gw_4_22 : (Jvm.Cond.selects "MappingTexts$Version" ({ cls := "MappingTexts$Version", name := "kindToCome", desc := "(LMappingTexts$Letters;I)I" } : Jvm.MethodName) ({ cls := "MappingTexts$Version", name := "kindToCome", desc := "(LMappingTexts$Letters;I)I" } : Jvm.MethodName)) ∈ GW := gw_4 22 rfl rfl
theorem gw_4_23 : (Jvm.Cond.code ({ cls := "MappingTexts$Version", name := "kindToCome", desc := "(LMappingTexts$Letters;I)I" } : Jvm.MethodName) prog_9_method_8_code (7 : Nat) (Option.some Jvm.ClassFile.FieldType.int)) ∈ GW := gw_4 23 rfl rfl
theorem gw_4_24 : (Jvm.Cond.methodLink "MappingTexts$Version" (68 : Nat) ({ cls := "MappingTexts$Letters", name := "nameStart", desc := "()I" } : Jvm.MethodName)) ∈ GW := gw_4 24 rfl rfl
theorem gw_4_25 : (Jvm.Cond.instanceMethod ({ cls := "MappingTexts$Letters", name := "nameStart", desc := "()I" } : Jvm.MethodName)) ∈ GW := gw_4 25 rfl rfl
theorem gw_4_26 : (Jvm.Cond.selects "MappingTexts$Letters" ({ cls := "MappingTexts$Letters", name := "nameStart", desc := "()I" } : Jvm.MethodName) ({ cls := "MappingTexts$Letters", name := "nameStart", desc := "()I" } : Jvm.MethodName)) ∈ GW := gw_4 26 rfl rfl
theorem gw_4_27 : (Jvm.Cond.code ({ cls := "MappingTexts$Letters", name := "nameStart", desc := "()I" } : Jvm.MethodName) prog_5_method_18_code (1 : Nat) (Option.some Jvm.ClassFile.FieldType.int)) ∈ GW := gw_4 27 rfl rfl
theorem gw_4_28 : (Jvm.Cond.methodLink "MappingTexts$Letters" (63 : Nat) ({ cls := "MappingTexts$Letters", name := "lastPoint", desc := "()I" } : Jvm.MethodName)) ∈ GW := gw_4 28 rfl rfl
theorem gw_4_29 : (Jvm.Cond.instanceMethod ({ cls := "MappingTexts$Letters", name := "lastPoint", desc := "()I" } : Jvm.MethodName)) ∈ GW := gw_4 29 rfl rfl
theorem gw_4_30 : (Jvm.Cond.selects "MappingTexts$Letters" ({ cls := "MappingTexts$Letters", name := "lastPoint", desc := "()I" } : Jvm.MethodName) ({ cls := "MappingTexts$Letters", name := "lastPoint", desc := "()I" } : Jvm.MethodName)) ∈ GW := gw_4 30 rfl rfl
theorem gw_4_31 : (Jvm.Cond.code ({ cls := "MappingTexts$Letters", name := "lastPoint", desc := "()I" } : Jvm.MethodName) prog_5_method_17_code (2 : Nat) (Option.some Jvm.ClassFile.FieldType.int)) ∈ GW := gw_4 31 rfl rfl
theorem lt_4_32 : (Jvm.Cond.stringRef "MappingTexts$Version" (75 : Nat) "rule") ∈ lw_tbl := lt_4 32 rfl
theorem gw_4_33 : (Jvm.Cond.methodLink "MappingTexts$Version" (77 : Nat) ({ cls := "MappingTexts$Letters", name := "isWordAt", desc := "(IILjava/lang/String;)Z" } : Jvm.MethodName)) ∈ GW := gw_4 33 rfl rfl
theorem lt_4_34 : (Jvm.Cond.stringRef "MappingTexts$Version" (81 : Nat) "limit") ∈ lw_tbl := lt_4 34 rfl
theorem gw_4_35 : (Jvm.Cond.methodLink "MappingTexts$Version" (82 : Nat) ({ cls := "MappingTexts$Version", name := "hasPlaceFor", desc := "(LMappingTexts$Letters;)Z" } : Jvm.MethodName)) ∈ GW := gw_4 35 rfl rfl
theorem lt_4_36 : (Jvm.Cond.privateMethod ({ cls := "MappingTexts$Version", name := "hasPlaceFor", desc := "(LMappingTexts$Letters;)Z" } : Jvm.MethodName)) ∈ lw_tbl := lt_4 36 rfl
theorem gw_4_37 : (Jvm.Cond.instanceMethod ({ cls := "MappingTexts$Version", name := "hasPlaceFor", desc := "(LMappingTexts$Letters;)Z" } : Jvm.MethodName)) ∈ GW := gw_4 37 rfl rfl
theorem gw_4_38 : (Jvm.Cond.code ({ cls := "MappingTexts$Version", name := "hasPlaceFor", desc := "(LMappingTexts$Letters;)Z" } : Jvm.MethodName) prog_9_method_9_code (4 : Nat) (Option.some Jvm.ClassFile.FieldType.boolean)) ∈ GW := gw_4 38 rfl rfl
theorem gw_4_39 : (Jvm.Cond.methodLink "MappingTexts$Version" (91 : Nat) ({ cls := "MappingTexts$Letters", name := "lastPoint", desc := "()I" } : Jvm.MethodName)) ∈ GW := gw_4 39 rfl rfl
theorem gw_4_40 : (Jvm.Cond.methodLink "MappingTexts$Version" (94 : Nat) ({ cls := "MappingTexts$Version", name := "fieldOf", desc := "(LMappingTexts$Letters;I)I" } : Jvm.MethodName)) ∈ GW := gw_4 40 rfl rfl
theorem gw_4_41 : (Jvm.Cond.methodLink "MappingTexts$Version" (98 : Nat) ({ cls := "MappingTexts$Kinds", name := "isHolder", desc := "(I)Z" } : Jvm.MethodName)) ∈ GW := gw_4 41 rfl rfl
theorem gw_4_42 : (Jvm.Cond.methodLink "MappingTexts$Version" (86 : Nat) ({ cls := "MappingTexts$Version", name := "ruleFor", desc := "(LMappingTexts$Letters;II)I" } : Jvm.MethodName)) ∈ GW := gw_4 42 rfl rfl
theorem gw_4_43 : (Jvm.Cond.instanceMethod ({ cls := "MappingTexts$Version", name := "ruleFor", desc := "(LMappingTexts$Letters;II)I" } : Jvm.MethodName)) ∈ GW := gw_4 43 rfl rfl
theorem gw_4_44 : (Jvm.Cond.selects "MappingTexts$Version" ({ cls := "MappingTexts$Version", name := "ruleFor", desc := "(LMappingTexts$Letters;II)I" } : Jvm.MethodName) ({ cls := "MappingTexts$Version", name := "ruleFor", desc := "(LMappingTexts$Letters;II)I" } : Jvm.MethodName)) ∈ GW := gw_4 44 rfl rfl
theorem gw_4_45 : (Jvm.Cond.code ({ cls := "MappingTexts$Version", name := "ruleFor", desc := "(LMappingTexts$Letters;II)I" } : Jvm.MethodName) prog_9_method_4_code (5 : Nat) (Option.some Jvm.ClassFile.FieldType.int)) ∈ GW := gw_4 45 rfl rfl
theorem gw_4_46 : (Jvm.Cond.methodLink "MappingTexts$Version" (49 : Nat) ({ cls := "MappingTexts$Rule", name := "fits", desc := "(LMappingTexts$Letters;II)Z" } : Jvm.MethodName)) ∈ GW := gw_4 46 rfl rfl
theorem gw_4_47 : (Jvm.Cond.instanceMethod ({ cls := "MappingTexts$Rule", name := "fits", desc := "(LMappingTexts$Letters;II)Z" } : Jvm.MethodName)) ∈ GW := gw_4 47 rfl rfl
theorem gw_4_48 : (Jvm.Cond.selects "MappingTexts$Rule" ({ cls := "MappingTexts$Rule", name := "fits", desc := "(LMappingTexts$Letters;II)Z" } : Jvm.MethodName) ({ cls := "MappingTexts$Rule", name := "fits", desc := "(LMappingTexts$Letters;II)Z" } : Jvm.MethodName)) ∈ GW := gw_4 48 rfl rfl
theorem gw_4_49 : (Jvm.Cond.code ({ cls := "MappingTexts$Rule", name := "fits", desc := "(LMappingTexts$Letters;II)Z" } : Jvm.MethodName) prog_6_method_4_code (6 : Nat) (Option.some Jvm.ClassFile.FieldType.boolean)) ∈ GW := gw_4 49 rfl rfl
theorem gw_4_50 : (Jvm.Cond.methodLink "MappingTexts$Rule" (38 : Nat) ({ cls := "MappingTexts$Letters", name := "length", desc := "()I" } : Jvm.MethodName)) ∈ GW := gw_4 50 rfl rfl
theorem gw_4_51 : (Jvm.Cond.methodLink "MappingTexts$Rule" (42 : Nat) ({ cls := "MappingTexts$Kinds", name := "fits", desc := "(II)Z" } : Jvm.MethodName)) ∈ GW := gw_4 51 rfl rfl
theorem gw_4_52 : (Jvm.Cond.static ({ cls := "MappingTexts$Kinds", name := "fits", desc := "(II)Z" } : Jvm.MethodName)) ∈ GW := gw_4 52 rfl rfl
theorem gw_4_53 : (Jvm.Cond.code ({ cls := "MappingTexts$Kinds", name := "fits", desc := "(II)Z" } : Jvm.MethodName) prog_4_method_8_code (2 : Nat) (Option.some Jvm.ClassFile.FieldType.boolean)) ∈ GW := gw_4 53 rfl rfl
theorem gw_4_54 : (Jvm.Cond.methodLink "MappingTexts$Rule" (48 : Nat) ({ cls := "MappingTexts$Letters", name := "holdsAt", desc := "(ILMappingTexts$Letters;)Z" } : Jvm.MethodName)) ∈ GW := gw_4 54 rfl rfl
theorem gw_4_55 : (Jvm.Cond.methodLink "MappingTexts" (222 : Nat) ({ cls := "MappingTexts$Version", name := "growFrom", desc := "(LMappingTexts$Version;LMappingTexts$Letters;I)V" } : Jvm.MethodName)) ∈ GW := gw_4 55 rfl rfl
theorem gw_4_56 : (Jvm.Cond.instanceMethod ({ cls := "MappingTexts$Version", name := "growFrom", desc := "(LMappingTexts$Version;LMappingTexts$Letters;I)V" } : Jvm.MethodName)) ∈ GW := gw_4 56 rfl rfl
theorem gw_4_57 : (Jvm.Cond.selects "MappingTexts$Version" ({ cls := "MappingTexts$Version", name := "growFrom", desc := "(LMappingTexts$Version;LMappingTexts$Letters;I)V" } : Jvm.MethodName) ({ cls := "MappingTexts$Version", name := "growFrom", desc := "(LMappingTexts$Version;LMappingTexts$Letters;I)V" } : Jvm.MethodName)) ∈ GW := gw_4 57 rfl rfl
theorem gw_4_58 : (Jvm.Cond.code ({ cls := "MappingTexts$Version", name := "growFrom", desc := "(LMappingTexts$Version;LMappingTexts$Letters;I)V" } : Jvm.MethodName) prog_9_method_11_code (7 : Nat) (Option.none : Option Jvm.ClassFile.FieldType)) ∈ GW := gw_4 58 rfl rfl
theorem gw_4_59 : (Jvm.Cond.methodLink "MappingTexts$Version" (104 : Nat) ({ cls := "MappingTexts$Version", name := "endOf", desc := "(I)I" } : Jvm.MethodName)) ∈ GW := gw_4 59 rfl rfl
theorem lt_4_60 : (Jvm.Cond.privateMethod ({ cls := "MappingTexts$Version", name := "endOf", desc := "(I)I" } : Jvm.MethodName)) ∈ lw_tbl := lt_4 60 rfl
theorem gw_4_61 : (Jvm.Cond.instanceMethod ({ cls := "MappingTexts$Version", name := "endOf", desc := "(I)I" } : Jvm.MethodName)) ∈ GW := gw_4 61 rfl rfl
theorem gw_4_62 : (Jvm.Cond.code ({ cls := "MappingTexts$Version", name := "endOf", desc := "(I)I" } : Jvm.MethodName) prog_9_method_10_code (3 : Nat) (Option.some Jvm.ClassFile.FieldType.int)) ∈ GW := gw_4 62 rfl rfl
theorem gw_4_63 : (Jvm.Cond.methodLink "MappingTexts$Version" (108 : Nat) ({ cls := "java/lang/Math", name := "min", desc := "(II)I" } : Jvm.MethodName)) ∈ GW := gw_4 63 rfl rfl
theorem gw_4_64 : (Jvm.Cond.methodLink "MappingTexts$Version" (114 : Nat) ({ cls := "MappingTexts$Field", name := "copyFrom", desc := "(LMappingTexts$Field;I)V" } : Jvm.MethodName)) ∈ GW := gw_4 64 rfl rfl
theorem gw_4_65 : (Jvm.Cond.instanceMethod ({ cls := "MappingTexts$Field", name := "copyFrom", desc := "(LMappingTexts$Field;I)V" } : Jvm.MethodName)) ∈ GW := gw_4 65 rfl rfl
theorem gw_4_66 : (Jvm.Cond.selects "MappingTexts$Field" ({ cls := "MappingTexts$Field", name := "copyFrom", desc := "(LMappingTexts$Field;I)V" } : Jvm.MethodName) ({ cls := "MappingTexts$Field", name := "copyFrom", desc := "(LMappingTexts$Field;I)V" } : Jvm.MethodName)) ∈ GW := gw_4 66 rfl rfl
theorem gw_4_67 : (Jvm.Cond.code ({ cls := "MappingTexts$Field", name := "copyFrom", desc := "(LMappingTexts$Field;I)V" } : Jvm.MethodName) prog_3_method_4_code (3 : Nat) (Option.none : Option Jvm.ClassFile.FieldType)) ∈ GW := gw_4 67 rfl rfl
theorem gw_4_68 : (Jvm.Cond.methodLink "MappingTexts$Field" (48 : Nat) ({ cls := "MappingTexts$Letters", name := "copyFrom", desc := "(LMappingTexts$Letters;)V" } : Jvm.MethodName)) ∈ GW := gw_4 68 rfl rfl
theorem gw_4_69 : (Jvm.Cond.instanceMethod ({ cls := "MappingTexts$Letters", name := "copyFrom", desc := "(LMappingTexts$Letters;)V" } : Jvm.MethodName)) ∈ GW := gw_4 69 rfl rfl
theorem gw_4_70 : (Jvm.Cond.selects "MappingTexts$Letters" ({ cls := "MappingTexts$Letters", name := "copyFrom", desc := "(LMappingTexts$Letters;)V" } : Jvm.MethodName) ({ cls := "MappingTexts$Letters", name := "copyFrom", desc := "(LMappingTexts$Letters;)V" } : Jvm.MethodName)) ∈ GW := gw_4 70 rfl rfl
theorem gw_4_71 : (Jvm.Cond.code ({ cls := "MappingTexts$Letters", name := "copyFrom", desc := "(LMappingTexts$Letters;)V" } : Jvm.MethodName) prog_5_method_12_code (2 : Nat) (Option.none : Option Jvm.ClassFile.FieldType)) ∈ GW := gw_4 71 rfl rfl
theorem gw_4_72 : (Jvm.Cond.methodLink "MappingTexts$Letters" (52 : Nat) ({ cls := "MappingTexts$Letters", name := "clear", desc := "()V" } : Jvm.MethodName)) ∈ GW := gw_4 72 rfl rfl
theorem gw_4_73 : (Jvm.Cond.methodLink "MappingTexts$Letters" (48 : Nat) ({ cls := "MappingTexts$Letters", name := "addPart", desc := "(LMappingTexts$Letters;II)V" } : Jvm.MethodName)) ∈ GW := gw_4 73 rfl rfl
theorem gw_4_74 : (Jvm.Cond.methodLink "MappingTexts$Field" (52 : Nat) ({ cls := "MappingTexts$Field", name := "moved", desc := "(II)I" } : Jvm.MethodName)) ∈ GW := gw_4 74 rfl rfl
theorem gw_4_75 : (Jvm.Cond.static ({ cls := "MappingTexts$Field", name := "moved", desc := "(II)I" } : Jvm.MethodName)) ∈ GW := gw_4 75 rfl rfl
theorem gw_4_76 : (Jvm.Cond.code ({ cls := "MappingTexts$Field", name := "moved", desc := "(II)I" } : Jvm.MethodName) prog_3_method_5_code (2 : Nat) (Option.some Jvm.ClassFile.FieldType.int)) ∈ GW := gw_4 76 rfl rfl
theorem gw_4_77 : (Jvm.Cond.methodLink "MappingTexts$Version" (118 : Nat) ({ cls := "MappingTexts$Version", name := "beginField", desc := "(II)V" } : Jvm.MethodName)) ∈ GW := gw_4 77 rfl rfl
theorem gw_4_78 : (Jvm.Cond.methodLink "MappingTexts$Version" (122 : Nat) ({ cls := "MappingTexts$Letters", name := "copyFrom", desc := "(LMappingTexts$Letters;)V" } : Jvm.MethodName)) ∈ GW := gw_4 78 rfl rfl
theorem gw_4_79 : (Jvm.Cond.methodLink "MappingTexts$Version" (125 : Nat) ({ cls := "MappingTexts$Rule", name := "copyFrom", desc := "(LMappingTexts$Rule;)V" } : Jvm.MethodName)) ∈ GW := gw_4 79 rfl rfl
theorem gw_4_80 : (Jvm.Cond.instanceMethod ({ cls := "MappingTexts$Rule", name := "copyFrom", desc := "(LMappingTexts$Rule;)V" } : Jvm.MethodName)) ∈ GW := gw_4 80 rfl rfl
theorem gw_4_81 : (Jvm.Cond.selects "MappingTexts$Rule" ({ cls := "MappingTexts$Rule", name := "copyFrom", desc := "(LMappingTexts$Rule;)V" } : Jvm.MethodName) ({ cls := "MappingTexts$Rule", name := "copyFrom", desc := "(LMappingTexts$Rule;)V" } : Jvm.MethodName)) ∈ GW := gw_4 81 rfl rfl
theorem gw_4_82 : (Jvm.Cond.code ({ cls := "MappingTexts$Rule", name := "copyFrom", desc := "(LMappingTexts$Rule;)V" } : Jvm.MethodName) prog_6_method_3_code (2 : Nat) (Option.none : Option Jvm.ClassFile.FieldType)) ∈ GW := gw_4 82 rfl rfl
theorem gw_4_83 : (Jvm.Cond.methodLink "MappingTexts$Rule" (34 : Nat) ({ cls := "MappingTexts$Letters", name := "copyFrom", desc := "(LMappingTexts$Letters;)V" } : Jvm.MethodName)) ∈ GW := gw_4 83 rfl rfl
theorem gw_4_84 : (Jvm.Cond.methodLink "MappingTextsLaw" (34 : Nat) ({ cls := "MappingTexts", name := "drop", desc := "()I" } : Jvm.MethodName)) ∈ GW := gw_4 84 rfl rfl
theorem gw_4_85 : (Jvm.Cond.instanceMethod ({ cls := "MappingTexts", name := "drop", desc := "()I" } : Jvm.MethodName)) ∈ GW := gw_4 85 rfl rfl
theorem gw_4_86 : (Jvm.Cond.selects "MappingTexts" ({ cls := "MappingTexts", name := "drop", desc := "()I" } : Jvm.MethodName) ({ cls := "MappingTexts", name := "drop", desc := "()I" } : Jvm.MethodName)) ∈ GW := gw_4 86 rfl rfl
theorem gw_4_87 : (Jvm.Cond.code ({ cls := "MappingTexts", name := "drop", desc := "()I" } : Jvm.MethodName) prog_1_method_6_code (1 : Nat) (Option.some Jvm.ClassFile.FieldType.int)) ∈ GW := gw_4 87 rfl rfl
theorem gw_4_88 : (Jvm.Cond.methodLink "MappingTextsLaw" (38 : Nat) ({ cls := "MappingTexts", name := "find", desc := "(I)I" } : Jvm.MethodName)) ∈ GW := gw_4 88 rfl rfl
theorem gw_4_89 : (Jvm.Cond.instanceMethod ({ cls := "MappingTexts", name := "find", desc := "(I)I" } : Jvm.MethodName)) ∈ GW := gw_4 89 rfl rfl
theorem gw_4_90 : (Jvm.Cond.selects "MappingTexts" ({ cls := "MappingTexts", name := "find", desc := "(I)I" } : Jvm.MethodName) ({ cls := "MappingTexts", name := "find", desc := "(I)I" } : Jvm.MethodName)) ∈ GW := gw_4 90 rfl rfl
theorem gw_4_91 : (Jvm.Cond.code ({ cls := "MappingTexts", name := "find", desc := "(I)I" } : Jvm.MethodName) prog_1_method_7_code (3 : Nat) (Option.some Jvm.ClassFile.FieldType.int)) ∈ GW := gw_4 91 rfl rfl
theorem gw_4_92 : (Jvm.Cond.methodLink "MappingTextsLaw" (43 : Nat) ({ cls := "MappingTexts", name := "field", desc := "(III)I" } : Jvm.MethodName)) ∈ GW := gw_4 92 rfl rfl
theorem gw_4_93 : (Jvm.Cond.instanceMethod ({ cls := "MappingTexts", name := "field", desc := "(III)I" } : Jvm.MethodName)) ∈ GW := gw_4 93 rfl rfl
theorem gw_4_94 : (Jvm.Cond.selects "MappingTexts" ({ cls := "MappingTexts", name := "field", desc := "(III)I" } : Jvm.MethodName) ({ cls := "MappingTexts", name := "field", desc := "(III)I" } : Jvm.MethodName)) ∈ GW := gw_4 94 rfl rfl
theorem gw_4_95 : (Jvm.Cond.code ({ cls := "MappingTexts", name := "field", desc := "(III)I" } : Jvm.MethodName) prog_1_method_8_code (6 : Nat) (Option.some Jvm.ClassFile.FieldType.int)) ∈ GW := gw_4 95 rfl rfl
theorem gw_4_96 : (Jvm.Cond.methodLink "MappingTexts" (108 : Nat) ({ cls := "MappingTexts", name := "isField", desc := "(II)Z" } : Jvm.MethodName)) ∈ GW := gw_4 96 rfl rfl
theorem lt_4_97 : (Jvm.Cond.privateMethod ({ cls := "MappingTexts", name := "isField", desc := "(II)Z" } : Jvm.MethodName)) ∈ lw_tbl := lt_4 97 rfl
theorem gw_4_98 : (Jvm.Cond.instanceMethod ({ cls := "MappingTexts", name := "isField", desc := "(II)Z" } : Jvm.MethodName)) ∈ GW := gw_4 98 rfl rfl
theorem gw_4_99 : (Jvm.Cond.code ({ cls := "MappingTexts", name := "isField", desc := "(II)Z" } : Jvm.MethodName) prog_1_method_20_code (3 : Nat) (Option.some Jvm.ClassFile.FieldType.boolean)) ∈ GW := gw_4 99 rfl rfl
theorem gw_4_100 : (Jvm.Cond.methodLink "MappingTexts" (136 : Nat) ({ cls := "MappingTexts$Version", name := "countWithin", desc := "(I)I" } : Jvm.MethodName)) ∈ GW := gw_4 100 rfl rfl
theorem gw_4_101 : (Jvm.Cond.instanceMethod ({ cls := "MappingTexts$Version", name := "countWithin", desc := "(I)I" } : Jvm.MethodName)) ∈ GW := gw_4 101 rfl rfl
theorem gw_4_102 : (Jvm.Cond.selects "MappingTexts$Version" ({ cls := "MappingTexts$Version", name := "countWithin", desc := "(I)I" } : Jvm.MethodName) ({ cls := "MappingTexts$Version", name := "countWithin", desc := "(I)I" } : Jvm.MethodName)) ∈ GW := gw_4 102 rfl rfl
theorem gw_4_103 : (Jvm.Cond.code ({ cls := "MappingTexts$Version", name := "countWithin", desc := "(I)I" } : Jvm.MethodName) prog_9_method_5_code (4 : Nat) (Option.some Jvm.ClassFile.FieldType.int)) ∈ GW := gw_4 103 rfl rfl
theorem gw_4_104 : (Jvm.Cond.methodLink "MappingTexts" (144 : Nat) ({ cls := "MappingTexts$Version", name := "countReached", desc := "(I)I" } : Jvm.MethodName)) ∈ GW := gw_4 104 rfl rfl
theorem gw_4_105 : (Jvm.Cond.instanceMethod ({ cls := "MappingTexts$Version", name := "countReached", desc := "(I)I" } : Jvm.MethodName)) ∈ GW := gw_4 105 rfl rfl
theorem gw_4_106 : (Jvm.Cond.selects "MappingTexts$Version" ({ cls := "MappingTexts$Version", name := "countReached", desc := "(I)I" } : Jvm.MethodName) ({ cls := "MappingTexts$Version", name := "countReached", desc := "(I)I" } : Jvm.MethodName)) ∈ GW := gw_4 106 rfl rfl
theorem gw_4_107 : (Jvm.Cond.code ({ cls := "MappingTexts$Version", name := "countReached", desc := "(I)I" } : Jvm.MethodName) prog_9_method_7_code (4 : Nat) (Option.some Jvm.ClassFile.FieldType.int)) ∈ GW := gw_4 107 rfl rfl
theorem gw_4_108 : (Jvm.Cond.methodLink "MappingTexts$Version" (59 : Nat) ({ cls := "MappingTexts$Kinds", name := "isLeaf", desc := "(I)Z" } : Jvm.MethodName)) ∈ GW := gw_4 108 rfl rfl
theorem gw_4_109 : (Jvm.Cond.methodLink "MappingTextsLaw" (48 : Nat) ({ cls := "MappingTexts", name := "letter", desc := "(III)I" } : Jvm.MethodName)) ∈ GW := gw_4 109 rfl rfl
theorem gw_4_110 : (Jvm.Cond.instanceMethod ({ cls := "MappingTexts", name := "letter", desc := "(III)I" } : Jvm.MethodName)) ∈ GW := gw_4 110 rfl rfl
theorem gw_4_111 : (Jvm.Cond.selects "MappingTexts" ({ cls := "MappingTexts", name := "letter", desc := "(III)I" } : Jvm.MethodName) ({ cls := "MappingTexts", name := "letter", desc := "(III)I" } : Jvm.MethodName)) ∈ GW := gw_4 111 rfl rfl
theorem gw_4_112 : (Jvm.Cond.code ({ cls := "MappingTexts", name := "letter", desc := "(III)I" } : Jvm.MethodName) prog_1_method_9_code (4 : Nat) (Option.some Jvm.ClassFile.FieldType.int)) ∈ GW := gw_4 112 rfl rfl
theorem gw_4_113 : (Jvm.Cond.methodLink "MappingTexts" (147 : Nat) ({ cls := "MappingTexts$Letters", name := "at", desc := "(I)I" } : Jvm.MethodName)) ∈ GW := gw_4 113 rfl rfl
theorem gw_4_114 : (Jvm.Cond.methodLink "MappingTextsLaw" (52 : Nat) ({ cls := "MappingTexts", name := "leaf", desc := "(II)I" } : Jvm.MethodName)) ∈ GW := gw_4 114 rfl rfl
theorem gw_4_115 : (Jvm.Cond.instanceMethod ({ cls := "MappingTexts", name := "leaf", desc := "(II)I" } : Jvm.MethodName)) ∈ GW := gw_4 115 rfl rfl
theorem gw_4_116 : (Jvm.Cond.selects "MappingTexts" ({ cls := "MappingTexts", name := "leaf", desc := "(II)I" } : Jvm.MethodName) ({ cls := "MappingTexts", name := "leaf", desc := "(II)I" } : Jvm.MethodName)) ∈ GW := gw_4 116 rfl rfl
theorem gw_4_117 : (Jvm.Cond.code ({ cls := "MappingTexts", name := "leaf", desc := "(II)I" } : Jvm.MethodName) prog_1_method_10_code (4 : Nat) (Option.some Jvm.ClassFile.FieldType.int)) ∈ GW := gw_4 117 rfl rfl
theorem gw_4_118 : (Jvm.Cond.methodLink "MappingTexts" (150 : Nat) ({ cls := "MappingTexts$Kinds", name := "isLeaf", desc := "(I)Z" } : Jvm.MethodName)) ∈ GW := gw_4 118 rfl rfl
theorem gw_4_119 : (Jvm.Cond.methodLink "MappingTextsLaw" (56 : Nat) ({ cls := "MappingTexts", name := "rule", desc := "(II)I" } : Jvm.MethodName)) ∈ GW := gw_4 119 rfl rfl
theorem gw_4_120 : (Jvm.Cond.instanceMethod ({ cls := "MappingTexts", name := "rule", desc := "(II)I" } : Jvm.MethodName)) ∈ GW := gw_4 120 rfl rfl
theorem gw_4_121 : (Jvm.Cond.selects "MappingTexts" ({ cls := "MappingTexts", name := "rule", desc := "(II)I" } : Jvm.MethodName) ({ cls := "MappingTexts", name := "rule", desc := "(II)I" } : Jvm.MethodName)) ∈ GW := gw_4 121 rfl rfl
theorem gw_4_122 : (Jvm.Cond.code ({ cls := "MappingTexts", name := "rule", desc := "(II)I" } : Jvm.MethodName) prog_1_method_11_code (4 : Nat) (Option.some Jvm.ClassFile.FieldType.int)) ∈ GW := gw_4 122 rfl rfl
theorem gw_4_123 : (Jvm.Cond.methodLink "MappingTexts" (155 : Nat) ({ cls := "MappingTexts$Tokens", name := "count", desc := "()I" } : Jvm.MethodName)) ∈ GW := gw_4 123 rfl rfl
theorem gw_4_124 : (Jvm.Cond.methodLink "MappingTexts" (158 : Nat) ({ cls := "MappingTexts$Version", name := "ruleFor", desc := "(LMappingTexts$Letters;II)I" } : Jvm.MethodName)) ∈ GW := gw_4 124 rfl rfl
theorem gw_4_125 : (Jvm.Cond.methodLink "MappingTextsLaw" (60 : Nat) ({ cls := "MappingTexts", name := "print", desc := "(I)I" } : Jvm.MethodName)) ∈ GW := gw_4 125 rfl rfl
theorem gw_4_126 : (Jvm.Cond.instanceMethod ({ cls := "MappingTexts", name := "print", desc := "(I)I" } : Jvm.MethodName)) ∈ GW := gw_4 126 rfl rfl
theorem gw_4_127 : (Jvm.Cond.selects "MappingTexts" ({ cls := "MappingTexts", name := "print", desc := "(I)I" } : Jvm.MethodName) ({ cls := "MappingTexts", name := "print", desc := "(I)I" } : Jvm.MethodName)) ∈ GW := gw_4 127 rfl rfl
theorem gw_4_128 : (Jvm.Cond.code ({ cls := "MappingTexts", name := "print", desc := "(I)I" } : Jvm.MethodName) prog_1_method_12_code (3 : Nat) (Option.some Jvm.ClassFile.FieldType.int)) ∈ GW := gw_4 128 rfl rfl
theorem gw_4_129 : (Jvm.Cond.methodLink "MappingTexts" (162 : Nat) ({ cls := "MappingTexts$Version", name := "printTo", desc := "(LMappingTexts$Letters;)V" } : Jvm.MethodName)) ∈ GW := gw_4 129 rfl rfl
theorem gw_4_130 : (Jvm.Cond.instanceMethod ({ cls := "MappingTexts$Version", name := "printTo", desc := "(LMappingTexts$Letters;)V" } : Jvm.MethodName)) ∈ GW := gw_4 130 rfl rfl
theorem gw_4_131 : (Jvm.Cond.selects "MappingTexts$Version" ({ cls := "MappingTexts$Version", name := "printTo", desc := "(LMappingTexts$Letters;)V" } : Jvm.MethodName) ({ cls := "MappingTexts$Version", name := "printTo", desc := "(LMappingTexts$Letters;)V" } : Jvm.MethodName)) ∈ GW := gw_4 131 rfl rfl
theorem gw_4_132 : (Jvm.Cond.code ({ cls := "MappingTexts$Version", name := "printTo", desc := "(LMappingTexts$Letters;)V" } : Jvm.MethodName) prog_9_method_15_code (4 : Nat) (Option.none : Option Jvm.ClassFile.FieldType)) ∈ GW := gw_4 132 rfl rfl
theorem gw_4_133 : (Jvm.Cond.methodLink "MappingTexts$Version" (147 : Nat) ({ cls := "MappingTexts$Version", name := "printBetween", desc := "(LMappingTexts$Letters;II)V" } : Jvm.MethodName)) ∈ GW := gw_4 133 rfl rfl
theorem gw_4_134 : (Jvm.Cond.static ({ cls := "MappingTexts$Version", name := "printBetween", desc := "(LMappingTexts$Letters;II)V" } : Jvm.MethodName)) ∈ GW := gw_4 134 rfl rfl
theorem gw_4_135 : (Jvm.Cond.code ({ cls := "MappingTexts$Version", name := "printBetween", desc := "(LMappingTexts$Letters;II)V" } : Jvm.MethodName) prog_9_method_16_code (4 : Nat) (Option.none : Option Jvm.ClassFile.FieldType)) ∈ GW := gw_4 135 rfl rfl
theorem lt_4_136 : (Jvm.Cond.stringRef "MappingTexts$Version" (166 : Nat) "};") ∈ lw_tbl := lt_4 136 rfl
theorem gw_4_137 : (Jvm.Cond.methodLink "MappingTexts$Version" (159 : Nat) ({ cls := "MappingTexts$Letters", name := "addWord", desc := "(Ljava/lang/String;)V" } : Jvm.MethodName)) ∈ GW := gw_4 137 rfl rfl
theorem gw_4_138 : (Jvm.Cond.instanceMethod ({ cls := "MappingTexts$Letters", name := "addWord", desc := "(Ljava/lang/String;)V" } : Jvm.MethodName)) ∈ GW := gw_4 138 rfl rfl
theorem gw_4_139 : (Jvm.Cond.selects "MappingTexts$Letters" ({ cls := "MappingTexts$Letters", name := "addWord", desc := "(Ljava/lang/String;)V" } : Jvm.MethodName) ({ cls := "MappingTexts$Letters", name := "addWord", desc := "(Ljava/lang/String;)V" } : Jvm.MethodName)) ∈ GW := gw_4 139 rfl rfl
theorem gw_4_140 : (Jvm.Cond.code ({ cls := "MappingTexts$Letters", name := "addWord", desc := "(Ljava/lang/String;)V" } : Jvm.MethodName) prog_5_method_8_code (3 : Nat) (Option.none : Option Jvm.ClassFile.FieldType)) ∈ GW := gw_4 140 rfl rfl
theorem gw_4_141 : (Jvm.Cond.methodLink "MappingTexts$Letters" (38 : Nat) ({ cls := "MappingTexts$Letters", name := "add", desc := "(I)V" } : Jvm.MethodName)) ∈ GW := gw_4 141 rfl rfl
theorem gw_4_142 : (Jvm.Cond.methodLink "MappingTexts$Version" (150 : Nat) ({ cls := "MappingTexts$Version", name := "printHead", desc := "(LMappingTexts$Letters;LMappingTexts$Field;)V" } : Jvm.MethodName)) ∈ GW := gw_4 142 rfl rfl
theorem lt_4_143 : (Jvm.Cond.privateMethod ({ cls := "MappingTexts$Version", name := "printHead", desc := "(LMappingTexts$Letters;LMappingTexts$Field;)V" } : Jvm.MethodName)) ∈ lw_tbl := lt_4 143 rfl
theorem gw_4_144 : (Jvm.Cond.instanceMethod ({ cls := "MappingTexts$Version", name := "printHead", desc := "(LMappingTexts$Letters;LMappingTexts$Field;)V" } : Jvm.MethodName)) ∈ GW := gw_4 144 rfl rfl
theorem gw_4_145 : (Jvm.Cond.code ({ cls := "MappingTexts$Version", name := "printHead", desc := "(LMappingTexts$Letters;LMappingTexts$Field;)V" } : Jvm.MethodName) prog_9_method_17_code (6 : Nat) (Option.none : Option Jvm.ClassFile.FieldType)) ∈ GW := gw_4 145 rfl rfl
theorem gw_4_146 : (Jvm.Cond.methodLink "MappingTexts$Version" (168 : Nat) ({ cls := "MappingTexts$Kinds", name := "kindWord", desc := "(I)Ljava/lang/String;" } : Jvm.MethodName)) ∈ GW := gw_4 146 rfl rfl
theorem gw_4_147 : (Jvm.Cond.methodLink "MappingTexts$Version" (172 : Nat) ({ cls := "MappingTexts$Field", name := "has", desc := "(I)Z" } : Jvm.MethodName)) ∈ GW := gw_4 147 rfl rfl
theorem gw_4_148 : (Jvm.Cond.methodLink "MappingTexts$Version" (175 : Nat) ({ cls := "MappingTexts$Version", name := "printOption", desc := "(LMappingTexts$Letters;LMappingTexts$Field;I)V" } : Jvm.MethodName)) ∈ GW := gw_4 148 rfl rfl
theorem lt_4_149 : (Jvm.Cond.privateMethod ({ cls := "MappingTexts$Version", name := "printOption", desc := "(LMappingTexts$Letters;LMappingTexts$Field;I)V" } : Jvm.MethodName)) ∈ lw_tbl := lt_4 149 rfl
theorem gw_4_150 : (Jvm.Cond.instanceMethod ({ cls := "MappingTexts$Version", name := "printOption", desc := "(LMappingTexts$Letters;LMappingTexts$Field;I)V" } : Jvm.MethodName)) ∈ GW := gw_4 150 rfl rfl
theorem gw_4_151 : (Jvm.Cond.code ({ cls := "MappingTexts$Version", name := "printOption", desc := "(LMappingTexts$Letters;LMappingTexts$Field;I)V" } : Jvm.MethodName) prog_9_method_18_code (4 : Nat) (Option.none : Option Jvm.ClassFile.FieldType)) ∈ GW := gw_4 151 rfl rfl
theorem gw_4_152 : (Jvm.Cond.methodLink "MappingTexts$Version" (179 : Nat) ({ cls := "MappingTexts$Kinds", name := "optionWord", desc := "(I)Ljava/lang/String;" } : Jvm.MethodName)) ∈ GW := gw_4 152 rfl rfl
theorem gw_4_153 : (Jvm.Cond.methodLink "MappingTexts$Version" (163 : Nat) ({ cls := "MappingTexts$Letters", name := "addNumber", desc := "(I)V" } : Jvm.MethodName)) ∈ GW := gw_4 153 rfl rfl
theorem gw_4_154 : (Jvm.Cond.instanceMethod ({ cls := "MappingTexts$Letters", name := "addNumber", desc := "(I)V" } : Jvm.MethodName)) ∈ GW := gw_4 154 rfl rfl
theorem gw_4_155 : (Jvm.Cond.selects "MappingTexts$Letters" ({ cls := "MappingTexts$Letters", name := "addNumber", desc := "(I)V" } : Jvm.MethodName) ({ cls := "MappingTexts$Letters", name := "addNumber", desc := "(I)V" } : Jvm.MethodName)) ∈ GW := gw_4 155 rfl rfl
theorem gw_4_156 : (Jvm.Cond.code ({ cls := "MappingTexts$Letters", name := "addNumber", desc := "(I)V" } : Jvm.MethodName) prog_5_method_11_code (4 : Nat) (Option.none : Option Jvm.ClassFile.FieldType)) ∈ GW := gw_4 156 rfl rfl
theorem gw_4_157 : (Jvm.Cond.methodLink "MappingTexts$Version" (188 : Nat) ({ cls := "MappingTexts$Letters", name := "addAll", desc := "(LMappingTexts$Letters;)V" } : Jvm.MethodName)) ∈ GW := gw_4 157 rfl rfl
theorem gw_4_158 : (Jvm.Cond.instanceMethod ({ cls := "MappingTexts$Letters", name := "addAll", desc := "(LMappingTexts$Letters;)V" } : Jvm.MethodName)) ∈ GW := gw_4 158 rfl rfl
theorem gw_4_159 : (Jvm.Cond.selects "MappingTexts$Letters" ({ cls := "MappingTexts$Letters", name := "addAll", desc := "(LMappingTexts$Letters;)V" } : Jvm.MethodName) ({ cls := "MappingTexts$Letters", name := "addAll", desc := "(LMappingTexts$Letters;)V" } : Jvm.MethodName)) ∈ GW := gw_4 159 rfl rfl
theorem gw_4_160 : (Jvm.Cond.code ({ cls := "MappingTexts$Letters", name := "addAll", desc := "(LMappingTexts$Letters;)V" } : Jvm.MethodName) prog_5_method_10_code (2 : Nat) (Option.none : Option Jvm.ClassFile.FieldType)) ∈ GW := gw_4 160 rfl rfl
theorem gw_4_161 : (Jvm.Cond.methodLink "MappingTexts$Version" (191 : Nat) ({ cls := "MappingTexts$Version", name := "printPath", desc := "(LMappingTexts$Letters;I)V" } : Jvm.MethodName)) ∈ GW := gw_4 161 rfl rfl
theorem lt_4_162 : (Jvm.Cond.privateMethod ({ cls := "MappingTexts$Version", name := "printPath", desc := "(LMappingTexts$Letters;I)V" } : Jvm.MethodName)) ∈ lw_tbl := lt_4 162 rfl
theorem gw_4_163 : (Jvm.Cond.instanceMethod ({ cls := "MappingTexts$Version", name := "printPath", desc := "(LMappingTexts$Letters;I)V" } : Jvm.MethodName)) ∈ GW := gw_4 163 rfl rfl
theorem gw_4_164 : (Jvm.Cond.code ({ cls := "MappingTexts$Version", name := "printPath", desc := "(LMappingTexts$Letters;I)V" } : Jvm.MethodName) prog_9_method_19_code (3 : Nat) (Option.none : Option Jvm.ClassFile.FieldType)) ∈ GW := gw_4 164 rfl rfl
theorem gw_4_165 : (Jvm.Cond.methodLink "MappingTexts$Version" (154 : Nat) ({ cls := "MappingTexts$Rule", name := "printTo", desc := "(LMappingTexts$Letters;)V" } : Jvm.MethodName)) ∈ GW := gw_4 165 rfl rfl
theorem gw_4_166 : (Jvm.Cond.instanceMethod ({ cls := "MappingTexts$Rule", name := "printTo", desc := "(LMappingTexts$Letters;)V" } : Jvm.MethodName)) ∈ GW := gw_4 166 rfl rfl
theorem gw_4_167 : (Jvm.Cond.selects "MappingTexts$Rule" ({ cls := "MappingTexts$Rule", name := "printTo", desc := "(LMappingTexts$Letters;)V" } : Jvm.MethodName) ({ cls := "MappingTexts$Rule", name := "printTo", desc := "(LMappingTexts$Letters;)V" } : Jvm.MethodName)) ∈ GW := gw_4 167 rfl rfl
theorem gw_4_168 : (Jvm.Cond.code ({ cls := "MappingTexts$Rule", name := "printTo", desc := "(LMappingTexts$Letters;)V" } : Jvm.MethodName) prog_6_method_5_code (2 : Nat) (Option.none : Option Jvm.ClassFile.FieldType)) ∈ GW := gw_4 168 rfl rfl
theorem lt_4_169 : (Jvm.Cond.stringRef "MappingTexts$Rule" (52 : Nat) "rule ") ∈ lw_tbl := lt_4 169 rfl
theorem gw_4_170 : (Jvm.Cond.methodLink "MappingTexts$Rule" (54 : Nat) ({ cls := "MappingTexts$Letters", name := "addWord", desc := "(Ljava/lang/String;)V" } : Jvm.MethodName)) ∈ GW := gw_4 170 rfl rfl
theorem gw_4_171 : (Jvm.Cond.methodLink "MappingTexts$Rule" (58 : Nat) ({ cls := "MappingTexts$Letters", name := "addAll", desc := "(LMappingTexts$Letters;)V" } : Jvm.MethodName)) ∈ GW := gw_4 171 rfl rfl
theorem gw_4_172 : (Jvm.Cond.methodLink "MappingTexts$Rule" (61 : Nat) ({ cls := "MappingTexts$Letters", name := "add", desc := "(I)V" } : Jvm.MethodName)) ∈ GW := gw_4 172 rfl rfl
theorem gw_4_173 : (Jvm.Cond.methodLink "MappingTexts$Rule" (64 : Nat) ({ cls := "MappingTexts$Kinds", name := "kindWord", desc := "(I)Ljava/lang/String;" } : Jvm.MethodName)) ∈ GW := gw_4 173 rfl rfl
theorem lt_4_174 : (Jvm.Cond.stringRef "MappingTexts$Version" (157 : Nat) "limit ") ∈ lw_tbl := lt_4 174 rfl
theorem gw_4_175 : (Jvm.Cond.methodLink "MappingTextsLaw" (64 : Nat) ({ cls := "MappingTexts", name := "out", desc := "(I)I" } : Jvm.MethodName)) ∈ GW := gw_4 175 rfl rfl
theorem gw_4_176 : (Jvm.Cond.instanceMethod ({ cls := "MappingTexts", name := "out", desc := "(I)I" } : Jvm.MethodName)) ∈ GW := gw_4 176 rfl rfl
theorem gw_4_177 : (Jvm.Cond.selects "MappingTexts" ({ cls := "MappingTexts", name := "out", desc := "(I)I" } : Jvm.MethodName) ({ cls := "MappingTexts", name := "out", desc := "(I)I" } : Jvm.MethodName)) ∈ GW := gw_4 177 rfl rfl
theorem gw_4_178 : (Jvm.Cond.code ({ cls := "MappingTexts", name := "out", desc := "(I)I" } : Jvm.MethodName) prog_1_method_13_code (2 : Nat) (Option.some Jvm.ClassFile.FieldType.int)) ∈ GW := gw_4 178 rfl rfl
theorem gw_4_179 : (Jvm.Cond.methodLink "MappingTextsLaw" (68 : Nat) ({ cls := "MappingTexts", name := "take", desc := "()I" } : Jvm.MethodName)) ∈ GW := gw_4 179 rfl rfl
theorem gw_4_180 : (Jvm.Cond.instanceMethod ({ cls := "MappingTexts", name := "take", desc := "()I" } : Jvm.MethodName)) ∈ GW := gw_4 180 rfl rfl
theorem gw_4_181 : (Jvm.Cond.selects "MappingTexts" ({ cls := "MappingTexts", name := "take", desc := "()I" } : Jvm.MethodName) ({ cls := "MappingTexts", name := "take", desc := "()I" } : Jvm.MethodName)) ∈ GW := gw_4 181 rfl rfl
theorem gw_4_182 : (Jvm.Cond.code ({ cls := "MappingTexts", name := "take", desc := "()I" } : Jvm.MethodName) prog_1_method_14_code (1 : Nat) (Option.some Jvm.ClassFile.FieldType.int)) ∈ GW := gw_4 182 rfl rfl
theorem gw_4_183 : (Jvm.Cond.methodLink "MappingTexts" (168 : Nat) ({ cls := "MappingTexts$Letters", name := "copyFrom", desc := "(LMappingTexts$Letters;)V" } : Jvm.MethodName)) ∈ GW := gw_4 183 rfl rfl
theorem gw_4_184 : (Jvm.Cond.methodLink "MappingTextsLaw" (72 : Nat) ({ cls := "MappingTexts", name := "differences", desc := "(II)I" } : Jvm.MethodName)) ∈ GW := gw_4 184 rfl rfl
theorem gw_4_185 : (Jvm.Cond.instanceMethod ({ cls := "MappingTexts", name := "differences", desc := "(II)I" } : Jvm.MethodName)) ∈ GW := gw_4 185 rfl rfl
theorem gw_4_186 : (Jvm.Cond.selects "MappingTexts" ({ cls := "MappingTexts", name := "differences", desc := "(II)I" } : Jvm.MethodName) ({ cls := "MappingTexts", name := "differences", desc := "(II)I" } : Jvm.MethodName)) ∈ GW := gw_4 186 rfl rfl
theorem gw_4_187 : (Jvm.Cond.code ({ cls := "MappingTexts", name := "differences", desc := "(II)I" } : Jvm.MethodName) prog_1_method_15_code (3 : Nat) (Option.some Jvm.ClassFile.FieldType.int)) ∈ GW := gw_4 187 rfl rfl
theorem gw_4_188 : (Jvm.Cond.methodLink "MappingTexts" (171 : Nat) ({ cls := "MappingTexts$Comparison", name := "compare", desc := "(LMappingTexts$Version;LMappingTexts$Version;)V" } : Jvm.MethodName)) ∈ GW := gw_4 188 rfl rfl
theorem gw_4_189 : (Jvm.Cond.instanceMethod ({ cls := "MappingTexts$Comparison", name := "compare", desc := "(LMappingTexts$Version;LMappingTexts$Version;)V" } : Jvm.MethodName)) ∈ GW := gw_4 189 rfl rfl
theorem gw_4_190 : (Jvm.Cond.selects "MappingTexts$Comparison" ({ cls := "MappingTexts$Comparison", name := "compare", desc := "(LMappingTexts$Version;LMappingTexts$Version;)V" } : Jvm.MethodName) ({ cls := "MappingTexts$Comparison", name := "compare", desc := "(LMappingTexts$Version;LMappingTexts$Version;)V" } : Jvm.MethodName)) ∈ GW := gw_4 190 rfl rfl
theorem gw_4_191 : (Jvm.Cond.code ({ cls := "MappingTexts$Comparison", name := "compare", desc := "(LMappingTexts$Version;LMappingTexts$Version;)V" } : Jvm.MethodName) prog_2_method_2_code (10 : Nat) (Option.none : Option Jvm.ClassFile.FieldType)) ∈ GW := gw_4 191 rfl rfl
theorem gw_4_192 : (Jvm.Cond.methodLink "MappingTexts$Comparison" (30 : Nat) ({ cls := "MappingTexts$Comparison", name := "sideOfNext", desc := "(LMappingTexts$Version;ILMappingTexts$Version;I)I" } : Jvm.MethodName)) ∈ GW := gw_4 192 rfl rfl
theorem gw_4_193 : (Jvm.Cond.static ({ cls := "MappingTexts$Comparison", name := "sideOfNext", desc := "(LMappingTexts$Version;ILMappingTexts$Version;I)I" } : Jvm.MethodName)) ∈ GW := gw_4 193 rfl rfl
theorem gw_4_194 : (Jvm.Cond.code ({ cls := "MappingTexts$Comparison", name := "sideOfNext", desc := "(LMappingTexts$Version;ILMappingTexts$Version;I)I" } : Jvm.MethodName) prog_2_method_3_code (5 : Nat) (Option.some Jvm.ClassFile.FieldType.int)) ∈ GW := gw_4 194 rfl rfl
theorem gw_4_195 : (Jvm.Cond.methodLink "MappingTexts$Comparison" (54 : Nat) ({ cls := "MappingTexts$Letters", name := "compareWith", desc := "(LMappingTexts$Letters;)I" } : Jvm.MethodName)) ∈ GW := gw_4 195 rfl rfl
theorem gw_4_196 : (Jvm.Cond.methodLink "MappingTexts$Comparison" (37 : Nat) ({ cls := "MappingTexts$Comparison", name := "codeOf", desc := "(LMappingTexts$Version;ILMappingTexts$Version;I)I" } : Jvm.MethodName)) ∈ GW := gw_4 196 rfl rfl
theorem gw_4_197 : (Jvm.Cond.static ({ cls := "MappingTexts$Comparison", name := "codeOf", desc := "(LMappingTexts$Version;ILMappingTexts$Version;I)I" } : Jvm.MethodName)) ∈ GW := gw_4 197 rfl rfl
theorem gw_4_198 : (Jvm.Cond.code ({ cls := "MappingTexts$Comparison", name := "codeOf", desc := "(LMappingTexts$Version;ILMappingTexts$Version;I)I" } : Jvm.MethodName) prog_2_method_5_code (9 : Nat) (Option.some Jvm.ClassFile.FieldType.int)) ∈ GW := gw_4 198 rfl rfl
theorem gw_4_199 : (Jvm.Cond.methodLink "MappingTexts$Comparison" (71 : Nat) ({ cls := "MappingTexts$Letters", name := "sameAs", desc := "(LMappingTexts$Letters;)Z" } : Jvm.MethodName)) ∈ GW := gw_4 199 rfl rfl
theorem gw_4_200 : (Jvm.Cond.methodLink "MappingTexts$Comparison" (81 : Nat) ({ cls := "MappingTexts$Comparison", name := "isSamePath", desc := "(LMappingTexts$Version;ILMappingTexts$Version;I)Z" } : Jvm.MethodName)) ∈ GW := gw_4 200 rfl rfl
theorem gw_4_201 : (Jvm.Cond.static ({ cls := "MappingTexts$Comparison", name := "isSamePath", desc := "(LMappingTexts$Version;ILMappingTexts$Version;I)Z" } : Jvm.MethodName)) ∈ GW := gw_4 201 rfl rfl
theorem gw_4_202 : (Jvm.Cond.code ({ cls := "MappingTexts$Comparison", name := "isSamePath", desc := "(LMappingTexts$Version;ILMappingTexts$Version;I)Z" } : Jvm.MethodName) prog_2_method_6_code (4 : Nat) (Option.some Jvm.ClassFile.FieldType.boolean)) ∈ GW := gw_4 202 rfl rfl
theorem gw_4_203 : (Jvm.Cond.methodLink "MappingTexts$Comparison" (40 : Nat) ({ cls := "MappingTexts$Comparison", name := "addRow", desc := "(III)V" } : Jvm.MethodName)) ∈ GW := gw_4 203 rfl rfl
theorem lt_4_204 : (Jvm.Cond.privateMethod ({ cls := "MappingTexts$Comparison", name := "addRow", desc := "(III)V" } : Jvm.MethodName)) ∈ lw_tbl := lt_4 204 rfl
theorem gw_4_205 : (Jvm.Cond.instanceMethod ({ cls := "MappingTexts$Comparison", name := "addRow", desc := "(III)V" } : Jvm.MethodName)) ∈ GW := gw_4 205 rfl rfl
theorem gw_4_206 : (Jvm.Cond.code ({ cls := "MappingTexts$Comparison", name := "addRow", desc := "(III)V" } : Jvm.MethodName) prog_2_method_4_code (4 : Nat) (Option.none : Option Jvm.ClassFile.FieldType)) ∈ GW := gw_4 206 rfl rfl
theorem gw_4_207 : (Jvm.Cond.methodLink "MappingTextsLaw" (76 : Nat) ({ cls := "MappingTexts", name := "difference", desc := "(IIII)I" } : Jvm.MethodName)) ∈ GW := gw_4 207 rfl rfl
theorem gw_4_208 : (Jvm.Cond.instanceMethod ({ cls := "MappingTexts", name := "difference", desc := "(IIII)I" } : Jvm.MethodName)) ∈ GW := gw_4 208 rfl rfl
theorem gw_4_209 : (Jvm.Cond.selects "MappingTexts" ({ cls := "MappingTexts", name := "difference", desc := "(IIII)I" } : Jvm.MethodName) ({ cls := "MappingTexts", name := "difference", desc := "(IIII)I" } : Jvm.MethodName)) ∈ GW := gw_4 209 rfl rfl
theorem gw_4_210 : (Jvm.Cond.code ({ cls := "MappingTexts", name := "difference", desc := "(IIII)I" } : Jvm.MethodName) prog_1_method_16_code (6 : Nat) (Option.some Jvm.ClassFile.FieldType.int)) ∈ GW := gw_4 210 rfl rfl
theorem gw_4_211 : (Jvm.Cond.methodLink "MappingTexts" (177 : Nat) ({ cls := "MappingTexts", name := "differences", desc := "(II)I" } : Jvm.MethodName)) ∈ GW := gw_4 211 rfl rfl
theorem gw_4_212 : (Jvm.Cond.methodLink "MappingTextsLaw" (81 : Nat) ({ cls := "MappingTexts", name := "told", desc := "(II)I" } : Jvm.MethodName)) ∈ GW := gw_4 212 rfl rfl
theorem gw_4_213 : (Jvm.Cond.instanceMethod ({ cls := "MappingTexts", name := "told", desc := "(II)I" } : Jvm.MethodName)) ∈ GW := gw_4 213 rfl rfl
theorem gw_4_214 : (Jvm.Cond.selects "MappingTexts" ({ cls := "MappingTexts", name := "told", desc := "(II)I" } : Jvm.MethodName) ({ cls := "MappingTexts", name := "told", desc := "(II)I" } : Jvm.MethodName)) ∈ GW := gw_4 214 rfl rfl
theorem gw_4_215 : (Jvm.Cond.code ({ cls := "MappingTexts", name := "told", desc := "(II)I" } : Jvm.MethodName) prog_1_method_17_code (3 : Nat) (Option.some Jvm.ClassFile.FieldType.int)) ∈ GW := gw_4 215 rfl rfl
theorem gw_4_216 : (Jvm.Cond.methodLink "MappingTexts" (190 : Nat) ({ cls := "MappingTexts", name := "toldOf", desc := "(LMappingTexts$Version;I)I" } : Jvm.MethodName)) ∈ GW := gw_4 216 rfl rfl
theorem gw_4_217 : (Jvm.Cond.static ({ cls := "MappingTexts", name := "toldOf", desc := "(LMappingTexts$Version;I)I" } : Jvm.MethodName)) ∈ GW := gw_4 217 rfl rfl
theorem gw_4_218 : (Jvm.Cond.code ({ cls := "MappingTexts", name := "toldOf", desc := "(LMappingTexts$Version;I)I" } : Jvm.MethodName) prog_1_method_18_code (2 : Nat) (Option.some Jvm.ClassFile.FieldType.int)) ∈ GW := gw_4 218 rfl rfl
theorem gw_4_219 : (Jvm.Cond.methodLink "MappingTexts" (203 : Nat) ({ cls := "MappingTexts$Version", name := "countLeaves", desc := "()I" } : Jvm.MethodName)) ∈ GW := gw_4 219 rfl rfl
theorem gw_4_220 : (Jvm.Cond.instanceMethod ({ cls := "MappingTexts$Version", name := "countLeaves", desc := "()I" } : Jvm.MethodName)) ∈ GW := gw_4 220 rfl rfl
theorem gw_4_221 : (Jvm.Cond.selects "MappingTexts$Version" ({ cls := "MappingTexts$Version", name := "countLeaves", desc := "()I" } : Jvm.MethodName) ({ cls := "MappingTexts$Version", name := "countLeaves", desc := "()I" } : Jvm.MethodName)) ∈ GW := gw_4 221 rfl rfl
theorem gw_4_222 : (Jvm.Cond.code ({ cls := "MappingTexts$Version", name := "countLeaves", desc := "()I" } : Jvm.MethodName) prog_9_method_6_code (3 : Nat) (Option.some Jvm.ClassFile.FieldType.int)) ∈ GW := gw_4 222 rfl rfl
theorem gw_4_223 : (Jvm.Cond.classLink "MappingTextsLaw" (10 : Nat) "MappingTextsModel") ∈ GW := gw_4 223 rfl rfl
theorem gw_4_224 : (Jvm.Cond.instantiable "MappingTextsModel" (58 : Nat)) ∈ GW := gw_4 224 rfl rfl
theorem gw_4_225 : (Jvm.Cond.methodLink "MappingTextsLaw" (12 : Nat) ({ cls := "MappingTextsModel", name := "<init>", desc := "()V" } : Jvm.MethodName)) ∈ GW := gw_4 225 rfl rfl
theorem gw_4_226 : (Jvm.Cond.instanceMethod ({ cls := "MappingTextsModel", name := "<init>", desc := "()V" } : Jvm.MethodName)) ∈ GW := gw_4 226 rfl rfl
theorem gw_4_227 : (Jvm.Cond.code ({ cls := "MappingTextsModel", name := "<init>", desc := "()V" } : Jvm.MethodName) prog_11_method_1_code (1 : Nat) (Option.none : Option Jvm.ClassFile.FieldType)) ∈ GW := gw_4 227 rfl rfl
theorem gw_4_228 : (Jvm.Cond.methodLink "MappingTextsModel" (1 : Nat) ({ cls := "java/lang/Object", name := "<init>", desc := "()V" } : Jvm.MethodName)) ∈ GW := gw_4 228 rfl rfl
theorem gw_4_229 : (Jvm.Cond.constantLong "MappingTextsModel" (7 : Nat) (2003792484 : Int64)) ∈ GW := gw_4 229 rfl rfl
theorem gw_4_230 : (Jvm.Cond.constantLong "MappingTextsModel" (9 : Nat) (1952807028 : Int64)) ∈ GW := gw_4 230 rfl rfl
theorem gw_4_231 : (Jvm.Cond.constantLong "MappingTextsModel" (11 : Nat) (1819242087 : Int64)) ∈ GW := gw_4 231 rfl rfl
theorem gw_4_232 : (Jvm.Cond.constantLong "MappingTextsModel" (13 : Nat) (1684108389 : Int64)) ∈ GW := gw_4 232 rfl rfl
theorem gw_4_233 : (Jvm.Cond.constantLong "MappingTextsModel" (15 : Nat) (1651470188 : Int64)) ∈ GW := gw_4 233 rfl rfl
theorem gw_4_234 : (Jvm.Cond.constantLong "MappingTextsModel" (17 : Nat) (122468482507636 : Int64)) ∈ GW := gw_4 234 rfl rfl
theorem gw_4_235 : (Jvm.Cond.constantLong "MappingTextsModel" (19 : Nat) (121382007760228 : Int64)) ∈ GW := gw_4 235 rfl rfl
theorem gw_4_236 : (Jvm.Cond.constantLong "MappingTextsModel" (21 : Nat) (418430673267 : Int64)) ∈ GW := gw_4 236 rfl rfl
theorem gw_4_237 : (Jvm.Cond.constantLong "MappingTextsModel" (29 : Nat) (126943923168612 : Int64)) ∈ GW := gw_4 237 rfl rfl
theorem gw_4_238 : (Jvm.Cond.constantLong "MappingTextsModel" (31 : Nat) (109317377451364 : Int64)) ∈ GW := gw_4 238 rfl rfl
theorem gw_4_239 : (Jvm.Cond.constantLong "MappingTextsModel" (33 : Nat) (474316172659 : Int64)) ∈ GW := gw_4 239 rfl rfl
theorem gw_5_0 : (Jvm.Cond.constantLong "MappingTextsModel" (35 : Nat) (1853189228 : Int64)) ∈ GW := gw_5 0 rfl rfl
theorem gw_5_1 : (Jvm.Cond.constantLong "MappingTextsModel" (37 : Nat) (1668247673 : Int64)) ∈ GW := gw_5 1 rfl rfl
theorem gw_5_2 : (Jvm.Cond.constantLong "MappingTextsModel" (39 : Nat) (25209 : Int64)) ∈ GW := gw_5 2 rfl rfl
theorem gw_5_3 : (Jvm.Cond.constantLong "MappingTextsModel" (41 : Nat) (28518 : Int64)) ∈ GW := gw_5 3 rfl rfl
theorem gw_5_4 : (Jvm.Cond.fieldLink "MappingTextsModel" (23 : Nat) "MappingTextsModel" "kindWord" "[J") ∈ GW := gw_5 4 rfl rfl
theorem gw_5_5 : (Jvm.Cond.fieldLink "MappingTextsModel" (43 : Nat) "MappingTextsModel" "optionWord" "[J") ∈ GW := gw_5 5 rfl rfl
theorem gw_5_6 : (Jvm.Cond.fieldLink "MappingTextsModel" (46 : Nat) "MappingTextsModel" "tape" "[B") ∈ GW := gw_5 6 rfl rfl
theorem gw_5_7 : (Jvm.Cond.fieldLink "MappingTextsModel" (177 : Nat) "MappingTextsModel" "tapeN" "I") ∈ GW := gw_5 7 rfl rfl
theorem gw_5_8 : (Jvm.Cond.fieldLink "MappingTextsModel" (180 : Nat) "MappingTextsModel" "textN" "I") ∈ GW := gw_5 8 rfl rfl
theorem gw_5_9 : (Jvm.Cond.fieldLink "MappingTextsModel" (50 : Nat) "MappingTextsModel" "out" "[B") ∈ GW := gw_5 9 rfl rfl
theorem gw_5_10 : (Jvm.Cond.fieldLink "MappingTextsModel" (367 : Nat) "MappingTextsModel" "outN" "I") ∈ GW := gw_5 10 rfl rfl
theorem gw_5_11 : (Jvm.Cond.fieldLink "MappingTextsModel" (53 : Nat) "MappingTextsModel" "print" "[B") ∈ GW := gw_5 11 rfl rfl
theorem gw_5_12 : (Jvm.Cond.fieldLink "MappingTextsModel" (338 : Nat) "MappingTextsModel" "printN" "I") ∈ GW := gw_5 12 rfl rfl
theorem gw_5_13 : (Jvm.Cond.fieldLink "MappingTextsModel" (56 : Nat) "MappingTextsModel" "faultPlace" "I") ∈ GW := gw_5 13 rfl rfl
theorem gw_5_14 : (Jvm.Cond.fieldLink "MappingTextsModel" (170 : Nat) "MappingTextsModel" "versions" "I") ∈ GW := gw_5 14 rfl rfl
theorem gw_5_15 : (Jvm.Cond.fieldLink "MappingTextsModel" (60 : Nat) "MappingTextsModel" "many" "[I") ∈ GW := gw_5 15 rfl rfl
theorem gw_5_16 : (Jvm.Cond.fieldLink "MappingTextsModel" (64 : Nat) "MappingTextsModel" "rules" "[I") ∈ GW := gw_5 16 rfl rfl
theorem gw_5_17 : (Jvm.Cond.fieldLink "MappingTextsModel" (67 : Nat) "MappingTextsModel" "limit" "[I") ∈ GW := gw_5 17 rfl rfl
theorem gw_5_18 : (Jvm.Cond.fieldLink "MappingTextsModel" (70 : Nat) "MappingTextsModel" "nameLength" "[I") ∈ GW := gw_5 18 rfl rfl
theorem gw_5_19 : (Jvm.Cond.fieldLink "MappingTextsModel" (73 : Nat) "MappingTextsModel" "name" "[B") ∈ GW := gw_5 19 rfl rfl
theorem gw_5_20 : (Jvm.Cond.fieldLink "MappingTextsModel" (76 : Nat) "MappingTextsModel" "kind" "[I") ∈ GW := gw_5 20 rfl rfl
theorem gw_5_21 : (Jvm.Cond.fieldLink "MappingTextsModel" (79 : Nat) "MappingTextsModel" "options" "[I") ∈ GW := gw_5 21 rfl rfl
theorem gw_5_22 : (Jvm.Cond.fieldLink "MappingTextsModel" (82 : Nat) "MappingTextsModel" "zero" "[I") ∈ GW := gw_5 22 rfl rfl
theorem gw_5_23 : (Jvm.Cond.fieldLink "MappingTextsModel" (85 : Nat) "MappingTextsModel" "copy" "[I") ∈ GW := gw_5 23 rfl rfl
theorem gw_5_24 : (Jvm.Cond.fieldLink "MappingTextsModel" (88 : Nat) "MappingTextsModel" "of" "[I") ∈ GW := gw_5 24 rfl rfl
theorem gw_5_25 : (Jvm.Cond.fieldLink "MappingTextsModel" (91 : Nat) "MappingTextsModel" "byLength" "[I") ∈ GW := gw_5 25 rfl rfl
theorem gw_5_26 : (Jvm.Cond.fieldLink "MappingTextsModel" (94 : Nat) "MappingTextsModel" "by" "[B") ∈ GW := gw_5 26 rfl rfl
theorem gw_5_27 : (Jvm.Cond.fieldLink "MappingTextsModel" (97 : Nat) "MappingTextsModel" "holder" "[I") ∈ GW := gw_5 27 rfl rfl
theorem gw_5_28 : (Jvm.Cond.fieldLink "MappingTextsModel" (100 : Nat) "MappingTextsModel" "frontLength" "[I") ∈ GW := gw_5 28 rfl rfl
theorem gw_5_29 : (Jvm.Cond.fieldLink "MappingTextsModel" (103 : Nat) "MappingTextsModel" "front" "[B") ∈ GW := gw_5 29 rfl rfl
theorem gw_5_30 : (Jvm.Cond.fieldLink "MappingTextsModel" (106 : Nat) "MappingTextsModel" "hasStar" "[Z") ∈ GW := gw_5 30 rfl rfl
theorem gw_5_31 : (Jvm.Cond.fieldLink "MappingTextsModel" (110 : Nat) "MappingTextsModel" "tailLength" "[I") ∈ GW := gw_5 31 rfl rfl
theorem gw_5_32 : (Jvm.Cond.fieldLink "MappingTextsModel" (113 : Nat) "MappingTextsModel" "tail" "[B") ∈ GW := gw_5 32 rfl rfl
theorem gw_5_33 : (Jvm.Cond.fieldLink "MappingTextsModel" (116 : Nat) "MappingTextsModel" "ruleKind" "[I") ∈ GW := gw_5 33 rfl rfl
theorem gw_5_34 : (Jvm.Cond.fieldLink "MappingTextsModel" (183 : Nat) "MappingTextsModel" "tokens" "I") ∈ GW := gw_5 34 rfl rfl
theorem gw_5_35 : (Jvm.Cond.fieldLink "MappingTextsModel" (119 : Nat) "MappingTextsModel" "sort" "[I") ∈ GW := gw_5 35 rfl rfl
theorem gw_5_36 : (Jvm.Cond.fieldLink "MappingTextsModel" (122 : Nat) "MappingTextsModel" "at" "[I") ∈ GW := gw_5 36 rfl rfl
theorem gw_5_37 : (Jvm.Cond.fieldLink "MappingTextsModel" (125 : Nat) "MappingTextsModel" "long0" "[I") ∈ GW := gw_5 37 rfl rfl
theorem gw_5_38 : (Jvm.Cond.fieldLink "MappingTextsModel" (205 : Nat) "MappingTextsModel" "tok" "I") ∈ GW := gw_5 38 rfl rfl
theorem gw_5_39 : (Jvm.Cond.fieldLink "MappingTextsModel" (196 : Nat) "MappingTextsModel" "fault" "I") ∈ GW := gw_5 39 rfl rfl
theorem gw_5_40 : (Jvm.Cond.fieldLink "MappingTextsModel" (199 : Nat) "MappingTextsModel" "wrong" "I") ∈ GW := gw_5 40 rfl rfl
theorem gw_5_41 : (Jvm.Cond.fieldLink "MappingTextsModel" (202 : Nat) "MappingTextsModel" "wrongAt" "I") ∈ GW := gw_5 41 rfl rfl
theorem gw_5_42 : (Jvm.Cond.fieldLink "MappingTextsModel" (243 : Nat) "MappingTextsModel" "paths" "I") ∈ GW := gw_5 42 rfl rfl
theorem gw_5_43 : (Jvm.Cond.fieldLink "MappingTextsModel" (128 : Nat) "MappingTextsModel" "pathField" "[I") ∈ GW := gw_5 43 rfl rfl
theorem gw_5_44 : (Jvm.Cond.fieldLink "MappingTextsModel" (131 : Nat) "MappingTextsModel" "pathSort" "[I") ∈ GW := gw_5 44 rfl rfl
theorem gw_5_45 : (Jvm.Cond.fieldLink "MappingTextsModel" (134 : Nat) "MappingTextsModel" "pathTok" "[I") ∈ GW := gw_5 45 rfl rfl
theorem gw_5_46 : (Jvm.Cond.fieldLink "MappingTextsModel" (137 : Nat) "MappingTextsModel" "pathNames" "[I") ∈ GW := gw_5 46 rfl rfl
theorem gw_5_47 : (Jvm.Cond.fieldLink "MappingTextsModel" (140 : Nat) "MappingTextsModel" "pathOption" "[I") ∈ GW := gw_5 47 rfl rfl
theorem gw_5_48 : (Jvm.Cond.fieldLink "MappingTextsModel" (261 : Nat) "MappingTextsModel" "limits" "I") ∈ GW := gw_5 48 rfl rfl
theorem gw_5_49 : (Jvm.Cond.fieldLink "MappingTextsModel" (143 : Nat) "MappingTextsModel" "limitTok" "[I") ∈ GW := gw_5 49 rfl rfl
theorem gw_5_50 : (Jvm.Cond.fieldLink "MappingTextsModel" (146 : Nat) "MappingTextsModel" "nameTok" "[I") ∈ GW := gw_5 50 rfl rfl
theorem gw_5_51 : (Jvm.Cond.fieldLink "MappingTextsModel" (249 : Nat) "MappingTextsModel" "depth" "I") ∈ GW := gw_5 51 rfl rfl
theorem gw_5_52 : (Jvm.Cond.fieldLink "MappingTextsModel" (149 : Nat) "MappingTextsModel" "pile" "[I") ∈ GW := gw_5 52 rfl rfl
theorem gw_5_53 : (Jvm.Cond.fieldLink "MappingTextsModel" (152 : Nat) "MappingTextsModel" "path" "[B") ∈ GW := gw_5 53 rfl rfl
theorem gw_5_54 : (Jvm.Cond.fieldLink "MappingTextsModel" (347 : Nat) "MappingTextsModel" "pathN" "I") ∈ GW := gw_5 54 rfl rfl
theorem gw_5_55 : (Jvm.Cond.fieldLink "MappingTextsModel" (155 : Nat) "MappingTextsModel" "path2" "[B") ∈ GW := gw_5 55 rfl rfl
theorem gw_5_56 : (Jvm.Cond.fieldLink "MappingTextsModel" (370 : Nat) "MappingTextsModel" "path2N" "I") ∈ GW := gw_5 56 rfl rfl
theorem gw_5_57 : (Jvm.Cond.fieldLink "MappingTextsModel" (158 : Nat) "MappingTextsModel" "up" "[I") ∈ GW := gw_5 57 rfl rfl
theorem gw_5_58 : (Jvm.Cond.fieldLink "MappingTextsModel" (384 : Nat) "MappingTextsModel" "differences" "I") ∈ GW := gw_5 58 rfl rfl
theorem gw_5_59 : (Jvm.Cond.fieldLink "MappingTextsModel" (161 : Nat) "MappingTextsModel" "codes" "[I") ∈ GW := gw_5 59 rfl rfl
theorem gw_5_60 : (Jvm.Cond.fieldLink "MappingTextsModel" (164 : Nat) "MappingTextsModel" "ofA" "[I") ∈ GW := gw_5 60 rfl rfl
theorem gw_5_61 : (Jvm.Cond.fieldLink "MappingTextsModel" (167 : Nat) "MappingTextsModel" "ofB" "[I") ∈ GW := gw_5 61 rfl rfl
theorem gw_5_62 : (Jvm.Cond.laysFinal "MappingTextsModel" "MappingTextsModel" "kindWord" "[J") ∈ GW := gw_5 62 rfl rfl
theorem gw_5_63 : (Jvm.Cond.soleField "MappingTextsModel" "kindWord") ∈ GW := gw_5 63 rfl rfl
theorem gw_5_64 : (Jvm.Cond.laysFinal "MappingTextsModel" "MappingTextsModel" "optionWord" "[J") ∈ GW := gw_5 64 rfl rfl
theorem gw_5_65 : (Jvm.Cond.soleField "MappingTextsModel" "optionWord") ∈ GW := gw_5 65 rfl rfl
theorem gw_5_66 : (Jvm.Cond.laysFinal "MappingTextsModel" "MappingTextsModel" "tape" "[B") ∈ GW := gw_5 66 rfl rfl
theorem gw_5_67 : (Jvm.Cond.soleField "MappingTextsModel" "tape") ∈ GW := gw_5 67 rfl rfl
theorem gw_5_68 : (Jvm.Cond.lays "MappingTextsModel" "MappingTextsModel" "tapeN" "I") ∈ GW := gw_5 68 rfl rfl
theorem gw_5_69 : (Jvm.Cond.soleField "MappingTextsModel" "tapeN") ∈ GW := gw_5 69 rfl rfl
theorem gw_5_70 : (Jvm.Cond.lays "MappingTextsModel" "MappingTextsModel" "textN" "I") ∈ GW := gw_5 70 rfl rfl
theorem gw_5_71 : (Jvm.Cond.soleField "MappingTextsModel" "textN") ∈ GW := gw_5 71 rfl rfl
theorem gw_5_72 : (Jvm.Cond.laysFinal "MappingTextsModel" "MappingTextsModel" "out" "[B") ∈ GW := gw_5 72 rfl rfl
theorem gw_5_73 : (Jvm.Cond.soleField "MappingTextsModel" "out") ∈ GW := gw_5 73 rfl rfl
theorem gw_5_74 : (Jvm.Cond.lays "MappingTextsModel" "MappingTextsModel" "outN" "I") ∈ GW := gw_5 74 rfl rfl
theorem gw_5_75 : (Jvm.Cond.soleField "MappingTextsModel" "outN") ∈ GW := gw_5 75 rfl rfl
theorem gw_5_76 : (Jvm.Cond.laysFinal "MappingTextsModel" "MappingTextsModel" "print" "[B") ∈ GW := gw_5 76 rfl rfl
theorem gw_5_77 : (Jvm.Cond.soleField "MappingTextsModel" "print") ∈ GW := gw_5 77 rfl rfl
theorem gw_5_78 : (Jvm.Cond.lays "MappingTextsModel" "MappingTextsModel" "printN" "I") ∈ GW := gw_5 78 rfl rfl
theorem gw_5_79 : (Jvm.Cond.soleField "MappingTextsModel" "printN") ∈ GW := gw_5 79 rfl rfl
theorem gw_5_80 : (Jvm.Cond.lays "MappingTextsModel" "MappingTextsModel" "faultPlace" "I") ∈ GW := gw_5 80 rfl rfl
theorem gw_5_81 : (Jvm.Cond.soleField "MappingTextsModel" "faultPlace") ∈ GW := gw_5 81 rfl rfl
theorem gw_5_82 : (Jvm.Cond.lays "MappingTextsModel" "MappingTextsModel" "versions" "I") ∈ GW := gw_5 82 rfl rfl
theorem gw_5_83 : (Jvm.Cond.soleField "MappingTextsModel" "versions") ∈ GW := gw_5 83 rfl rfl
theorem gw_5_84 : (Jvm.Cond.laysFinal "MappingTextsModel" "MappingTextsModel" "many" "[I") ∈ GW := gw_5 84 rfl rfl
theorem gw_5_85 : (Jvm.Cond.soleField "MappingTextsModel" "many") ∈ GW := gw_5 85 rfl rfl
theorem gw_5_86 : (Jvm.Cond.laysFinal "MappingTextsModel" "MappingTextsModel" "rules" "[I") ∈ GW := gw_5 86 rfl rfl
theorem gw_5_87 : (Jvm.Cond.soleField "MappingTextsModel" "rules") ∈ GW := gw_5 87 rfl rfl
theorem gw_5_88 : (Jvm.Cond.laysFinal "MappingTextsModel" "MappingTextsModel" "limit" "[I") ∈ GW := gw_5 88 rfl rfl
theorem gw_5_89 : (Jvm.Cond.soleField "MappingTextsModel" "limit") ∈ GW := gw_5 89 rfl rfl
theorem gw_5_90 : (Jvm.Cond.laysFinal "MappingTextsModel" "MappingTextsModel" "nameLength" "[I") ∈ GW := gw_5 90 rfl rfl
theorem gw_5_91 : (Jvm.Cond.soleField "MappingTextsModel" "nameLength") ∈ GW := gw_5 91 rfl rfl
theorem gw_5_92 : (Jvm.Cond.laysFinal "MappingTextsModel" "MappingTextsModel" "name" "[B") ∈ GW := gw_5 92 rfl rfl
theorem gw_5_93 : (Jvm.Cond.soleField "MappingTextsModel" "name") ∈ GW := gw_5 93 rfl rfl
theorem gw_5_94 : (Jvm.Cond.laysFinal "MappingTextsModel" "MappingTextsModel" "kind" "[I") ∈ GW := gw_5 94 rfl rfl
theorem gw_5_95 : (Jvm.Cond.soleField "MappingTextsModel" "kind") ∈ GW := gw_5 95 rfl rfl
theorem gw_5_96 : (Jvm.Cond.laysFinal "MappingTextsModel" "MappingTextsModel" "options" "[I") ∈ GW := gw_5 96 rfl rfl
theorem gw_5_97 : (Jvm.Cond.soleField "MappingTextsModel" "options") ∈ GW := gw_5 97 rfl rfl
theorem gw_5_98 : (Jvm.Cond.laysFinal "MappingTextsModel" "MappingTextsModel" "zero" "[I") ∈ GW := gw_5 98 rfl rfl
theorem gw_5_99 : (Jvm.Cond.soleField "MappingTextsModel" "zero") ∈ GW := gw_5 99 rfl rfl
theorem gw_5_100 : (Jvm.Cond.laysFinal "MappingTextsModel" "MappingTextsModel" "copy" "[I") ∈ GW := gw_5 100 rfl rfl
theorem gw_5_101 : (Jvm.Cond.soleField "MappingTextsModel" "copy") ∈ GW := gw_5 101 rfl rfl
theorem gw_5_102 : (Jvm.Cond.laysFinal "MappingTextsModel" "MappingTextsModel" "of" "[I") ∈ GW := gw_5 102 rfl rfl
theorem gw_5_103 : (Jvm.Cond.soleField "MappingTextsModel" "of") ∈ GW := gw_5 103 rfl rfl
theorem gw_5_104 : (Jvm.Cond.laysFinal "MappingTextsModel" "MappingTextsModel" "byLength" "[I") ∈ GW := gw_5 104 rfl rfl
theorem gw_5_105 : (Jvm.Cond.soleField "MappingTextsModel" "byLength") ∈ GW := gw_5 105 rfl rfl
theorem gw_5_106 : (Jvm.Cond.laysFinal "MappingTextsModel" "MappingTextsModel" "by" "[B") ∈ GW := gw_5 106 rfl rfl
theorem gw_5_107 : (Jvm.Cond.soleField "MappingTextsModel" "by") ∈ GW := gw_5 107 rfl rfl
theorem gw_5_108 : (Jvm.Cond.laysFinal "MappingTextsModel" "MappingTextsModel" "holder" "[I") ∈ GW := gw_5 108 rfl rfl
theorem gw_5_109 : (Jvm.Cond.soleField "MappingTextsModel" "holder") ∈ GW := gw_5 109 rfl rfl
theorem gw_5_110 : (Jvm.Cond.laysFinal "MappingTextsModel" "MappingTextsModel" "frontLength" "[I") ∈ GW := gw_5 110 rfl rfl
theorem gw_5_111 : (Jvm.Cond.soleField "MappingTextsModel" "frontLength") ∈ GW := gw_5 111 rfl rfl
theorem gw_5_112 : (Jvm.Cond.laysFinal "MappingTextsModel" "MappingTextsModel" "front" "[B") ∈ GW := gw_5 112 rfl rfl
theorem gw_5_113 : (Jvm.Cond.soleField "MappingTextsModel" "front") ∈ GW := gw_5 113 rfl rfl
theorem gw_5_114 : (Jvm.Cond.laysFinal "MappingTextsModel" "MappingTextsModel" "hasStar" "[Z") ∈ GW := gw_5 114 rfl rfl
theorem gw_5_115 : (Jvm.Cond.soleField "MappingTextsModel" "hasStar") ∈ GW := gw_5 115 rfl rfl
theorem gw_5_116 : (Jvm.Cond.laysFinal "MappingTextsModel" "MappingTextsModel" "tailLength" "[I") ∈ GW := gw_5 116 rfl rfl
theorem gw_5_117 : (Jvm.Cond.soleField "MappingTextsModel" "tailLength") ∈ GW := gw_5 117 rfl rfl
theorem gw_5_118 : (Jvm.Cond.laysFinal "MappingTextsModel" "MappingTextsModel" "tail" "[B") ∈ GW := gw_5 118 rfl rfl
theorem gw_5_119 : (Jvm.Cond.soleField "MappingTextsModel" "tail") ∈ GW := gw_5 119 rfl rfl
theorem gw_5_120 : (Jvm.Cond.laysFinal "MappingTextsModel" "MappingTextsModel" "ruleKind" "[I") ∈ GW := gw_5 120 rfl rfl
theorem gw_5_121 : (Jvm.Cond.soleField "MappingTextsModel" "ruleKind") ∈ GW := gw_5 121 rfl rfl
theorem gw_5_122 : (Jvm.Cond.lays "MappingTextsModel" "MappingTextsModel" "tokens" "I") ∈ GW := gw_5 122 rfl rfl
theorem gw_5_123 : (Jvm.Cond.soleField "MappingTextsModel" "tokens") ∈ GW := gw_5 123 rfl rfl
theorem gw_5_124 : (Jvm.Cond.laysFinal "MappingTextsModel" "MappingTextsModel" "sort" "[I") ∈ GW := gw_5 124 rfl rfl
theorem gw_5_125 : (Jvm.Cond.soleField "MappingTextsModel" "sort") ∈ GW := gw_5 125 rfl rfl
theorem gw_5_126 : (Jvm.Cond.laysFinal "MappingTextsModel" "MappingTextsModel" "at" "[I") ∈ GW := gw_5 126 rfl rfl
theorem gw_5_127 : (Jvm.Cond.soleField "MappingTextsModel" "at") ∈ GW := gw_5 127 rfl rfl
theorem gw_5_128 : (Jvm.Cond.laysFinal "MappingTextsModel" "MappingTextsModel" "long0" "[I") ∈ GW := gw_5 128 rfl rfl
theorem gw_5_129 : (Jvm.Cond.soleField "MappingTextsModel" "long0") ∈ GW := gw_5 129 rfl rfl
theorem gw_5_130 : (Jvm.Cond.lays "MappingTextsModel" "MappingTextsModel" "tok" "I") ∈ GW := gw_5 130 rfl rfl
theorem gw_5_131 : (Jvm.Cond.soleField "MappingTextsModel" "tok") ∈ GW := gw_5 131 rfl rfl
theorem gw_5_132 : (Jvm.Cond.lays "MappingTextsModel" "MappingTextsModel" "fault" "I") ∈ GW := gw_5 132 rfl rfl
theorem gw_5_133 : (Jvm.Cond.soleField "MappingTextsModel" "fault") ∈ GW := gw_5 133 rfl rfl
theorem gw_5_134 : (Jvm.Cond.lays "MappingTextsModel" "MappingTextsModel" "wrong" "I") ∈ GW := gw_5 134 rfl rfl
theorem gw_5_135 : (Jvm.Cond.soleField "MappingTextsModel" "wrong") ∈ GW := gw_5 135 rfl rfl
theorem gw_5_136 : (Jvm.Cond.lays "MappingTextsModel" "MappingTextsModel" "wrongAt" "I") ∈ GW := gw_5 136 rfl rfl
theorem gw_5_137 : (Jvm.Cond.soleField "MappingTextsModel" "wrongAt") ∈ GW := gw_5 137 rfl rfl
theorem gw_5_138 : (Jvm.Cond.lays "MappingTextsModel" "MappingTextsModel" "paths" "I") ∈ GW := gw_5 138 rfl rfl
theorem gw_5_139 : (Jvm.Cond.soleField "MappingTextsModel" "paths") ∈ GW := gw_5 139 rfl rfl
theorem gw_5_140 : (Jvm.Cond.laysFinal "MappingTextsModel" "MappingTextsModel" "pathField" "[I") ∈ GW := gw_5 140 rfl rfl
theorem gw_5_141 : (Jvm.Cond.soleField "MappingTextsModel" "pathField") ∈ GW := gw_5 141 rfl rfl
theorem gw_5_142 : (Jvm.Cond.laysFinal "MappingTextsModel" "MappingTextsModel" "pathSort" "[I") ∈ GW := gw_5 142 rfl rfl
theorem gw_5_143 : (Jvm.Cond.soleField "MappingTextsModel" "pathSort") ∈ GW := gw_5 143 rfl rfl
theorem gw_5_144 : (Jvm.Cond.laysFinal "MappingTextsModel" "MappingTextsModel" "pathTok" "[I") ∈ GW := gw_5 144 rfl rfl
theorem gw_5_145 : (Jvm.Cond.soleField "MappingTextsModel" "pathTok") ∈ GW := gw_5 145 rfl rfl
theorem gw_5_146 : (Jvm.Cond.laysFinal "MappingTextsModel" "MappingTextsModel" "pathNames" "[I") ∈ GW := gw_5 146 rfl rfl
theorem gw_5_147 : (Jvm.Cond.soleField "MappingTextsModel" "pathNames") ∈ GW := gw_5 147 rfl rfl
theorem gw_5_148 : (Jvm.Cond.laysFinal "MappingTextsModel" "MappingTextsModel" "pathOption" "[I") ∈ GW := gw_5 148 rfl rfl
theorem gw_5_149 : (Jvm.Cond.soleField "MappingTextsModel" "pathOption") ∈ GW := gw_5 149 rfl rfl
theorem gw_5_150 : (Jvm.Cond.lays "MappingTextsModel" "MappingTextsModel" "limits" "I") ∈ GW := gw_5 150 rfl rfl
theorem gw_5_151 : (Jvm.Cond.soleField "MappingTextsModel" "limits") ∈ GW := gw_5 151 rfl rfl
theorem gw_5_152 : (Jvm.Cond.laysFinal "MappingTextsModel" "MappingTextsModel" "limitTok" "[I") ∈ GW := gw_5 152 rfl rfl
theorem gw_5_153 : (Jvm.Cond.soleField "MappingTextsModel" "limitTok") ∈ GW := gw_5 153 rfl rfl
theorem gw_5_154 : (Jvm.Cond.laysFinal "MappingTextsModel" "MappingTextsModel" "nameTok" "[I") ∈ GW := gw_5 154 rfl rfl
theorem gw_5_155 : (Jvm.Cond.soleField "MappingTextsModel" "nameTok") ∈ GW := gw_5 155 rfl rfl
theorem gw_5_156 : (Jvm.Cond.lays "MappingTextsModel" "MappingTextsModel" "depth" "I") ∈ GW := gw_5 156 rfl rfl
theorem gw_5_157 : (Jvm.Cond.soleField "MappingTextsModel" "depth") ∈ GW := gw_5 157 rfl rfl
theorem gw_5_158 : (Jvm.Cond.laysFinal "MappingTextsModel" "MappingTextsModel" "pile" "[I") ∈ GW := gw_5 158 rfl rfl
theorem gw_5_159 : (Jvm.Cond.soleField "MappingTextsModel" "pile") ∈ GW := gw_5 159 rfl rfl
theorem gw_5_160 : (Jvm.Cond.laysFinal "MappingTextsModel" "MappingTextsModel" "path" "[B") ∈ GW := gw_5 160 rfl rfl
theorem gw_5_161 : (Jvm.Cond.soleField "MappingTextsModel" "path") ∈ GW := gw_5 161 rfl rfl
theorem gw_5_162 : (Jvm.Cond.lays "MappingTextsModel" "MappingTextsModel" "pathN" "I") ∈ GW := gw_5 162 rfl rfl
theorem gw_5_163 : (Jvm.Cond.soleField "MappingTextsModel" "pathN") ∈ GW := gw_5 163 rfl rfl
theorem gw_5_164 : (Jvm.Cond.laysFinal "MappingTextsModel" "MappingTextsModel" "path2" "[B") ∈ GW := gw_5 164 rfl rfl
theorem gw_5_165 : (Jvm.Cond.soleField "MappingTextsModel" "path2") ∈ GW := gw_5 165 rfl rfl
theorem gw_5_166 : (Jvm.Cond.lays "MappingTextsModel" "MappingTextsModel" "path2N" "I") ∈ GW := gw_5 166 rfl rfl
theorem gw_5_167 : (Jvm.Cond.soleField "MappingTextsModel" "path2N") ∈ GW := gw_5 167 rfl rfl
theorem gw_5_168 : (Jvm.Cond.laysFinal "MappingTextsModel" "MappingTextsModel" "up" "[I") ∈ GW := gw_5 168 rfl rfl
theorem gw_5_169 : (Jvm.Cond.soleField "MappingTextsModel" "up") ∈ GW := gw_5 169 rfl rfl
theorem gw_5_170 : (Jvm.Cond.lays "MappingTextsModel" "MappingTextsModel" "differences" "I") ∈ GW := gw_5 170 rfl rfl
theorem gw_5_171 : (Jvm.Cond.soleField "MappingTextsModel" "differences") ∈ GW := gw_5 171 rfl rfl
theorem gw_5_172 : (Jvm.Cond.laysFinal "MappingTextsModel" "MappingTextsModel" "codes" "[I") ∈ GW := gw_5 172 rfl rfl
theorem gw_5_173 : (Jvm.Cond.soleField "MappingTextsModel" "codes") ∈ GW := gw_5 173 rfl rfl
theorem gw_5_174 : (Jvm.Cond.laysFinal "MappingTextsModel" "MappingTextsModel" "ofA" "[I") ∈ GW := gw_5 174 rfl rfl
theorem gw_5_175 : (Jvm.Cond.soleField "MappingTextsModel" "ofA") ∈ GW := gw_5 175 rfl rfl
theorem gw_5_176 : (Jvm.Cond.laysFinal "MappingTextsModel" "MappingTextsModel" "ofB" "[I") ∈ GW := gw_5 176 rfl rfl
theorem gw_5_177 : (Jvm.Cond.soleField "MappingTextsModel" "ofB") ∈ GW := gw_5 177 rfl rfl
theorem gw_5_178 : (Jvm.Cond.superclass "MappingTextsModel" "java/lang/Object") ∈ GW := gw_5 178 rfl rfl
theorem gw_5_179 : (Jvm.Cond.arrayClass Jvm.ClassFile.FieldType.long) ∈ GW := gw_5 179 rfl rfl
theorem gw_5_180 : (Jvm.Cond.arrayClass Jvm.ClassFile.FieldType.boolean) ∈ GW := gw_5 180 rfl rfl
theorem gw_5_181 : (Jvm.Cond.methodLink "MappingTextsLaw" (19 : Nat) ({ cls := "MappingTextsModel", name := "feed", desc := "(IJ)I" } : Jvm.MethodName)) ∈ GW := gw_5 181 rfl rfl
theorem gw_5_182 : (Jvm.Cond.instanceMethod ({ cls := "MappingTextsModel", name := "feed", desc := "(IJ)I" } : Jvm.MethodName)) ∈ GW := gw_5 182 rfl rfl
theorem gw_5_183 : (Jvm.Cond.selects "MappingTextsModel" ({ cls := "MappingTextsModel", name := "feed", desc := "(IJ)I" } : Jvm.MethodName) ({ cls := "MappingTextsModel", name := "feed", desc := "(IJ)I" } : Jvm.MethodName)) ∈ GW := gw_5 183 rfl rfl
theorem gw_5_184 : (Jvm.Cond.code ({ cls := "MappingTextsModel", name := "feed", desc := "(IJ)I" } : Jvm.MethodName) prog_11_method_4_code (5 : Nat) (Option.some Jvm.ClassFile.FieldType.int)) ∈ GW := gw_5 184 rfl rfl
theorem gw_5_185 : (Jvm.Cond.methodLink "MappingTextsModel" (173 : Nat) ({ cls := "MappingTextsModel", name := "in", desc := "(III)Z" } : Jvm.MethodName)) ∈ GW := gw_5 185 rfl rfl
theorem gw_5_186 : (Jvm.Cond.static ({ cls := "MappingTextsModel", name := "in", desc := "(III)Z" } : Jvm.MethodName)) ∈ GW := gw_5 186 rfl rfl
theorem gw_5_187 : (Jvm.Cond.code ({ cls := "MappingTextsModel", name := "in", desc := "(III)Z" } : Jvm.MethodName) prog_11_method_2_code (3 : Nat) (Option.some Jvm.ClassFile.FieldType.boolean)) ∈ GW := gw_5 187 rfl rfl
theorem gw_5_188 : (Jvm.Cond.methodLink "MappingTextsLaw" (24 : Nat) ({ cls := "MappingTextsModel", name := "read", desc := "()I" } : Jvm.MethodName)) ∈ GW := gw_5 188 rfl rfl
theorem gw_5_189 : (Jvm.Cond.instanceMethod ({ cls := "MappingTextsModel", name := "read", desc := "()I" } : Jvm.MethodName)) ∈ GW := gw_5 189 rfl rfl
theorem gw_5_190 : (Jvm.Cond.selects "MappingTextsModel" ({ cls := "MappingTextsModel", name := "read", desc := "()I" } : Jvm.MethodName) ({ cls := "MappingTextsModel", name := "read", desc := "()I" } : Jvm.MethodName)) ∈ GW := gw_5 190 rfl rfl
theorem gw_5_191 : (Jvm.Cond.code ({ cls := "MappingTextsModel", name := "read", desc := "()I" } : Jvm.MethodName) prog_11_method_31_code (3 : Nat) (Option.some Jvm.ClassFile.FieldType.int)) ∈ GW := gw_5 191 rfl rfl
theorem gw_5_192 : (Jvm.Cond.methodLink "MappingTextsModel" (287 : Nat) ({ cls := "MappingTextsModel", name := "cut", desc := "()I" } : Jvm.MethodName)) ∈ GW := gw_5 192 rfl rfl
theorem lt_5_193 : (Jvm.Cond.privateMethod ({ cls := "MappingTextsModel", name := "cut", desc := "()I" } : Jvm.MethodName)) ∈ lw_tbl := lt_5 193 rfl
theorem gw_5_194 : (Jvm.Cond.instanceMethod ({ cls := "MappingTextsModel", name := "cut", desc := "()I" } : Jvm.MethodName)) ∈ GW := gw_5 194 rfl rfl
theorem gw_5_195 : (Jvm.Cond.code ({ cls := "MappingTextsModel", name := "cut", desc := "()I" } : Jvm.MethodName) prog_11_method_8_code (5 : Nat) (Option.some Jvm.ClassFile.FieldType.int)) ∈ GW := gw_5 195 rfl rfl
theorem gw_5_196 : (Jvm.Cond.methodLink "MappingTextsModel" (186 : Nat) ({ cls := "MappingTextsModel", name := "isLetter", desc := "(I)Z" } : Jvm.MethodName)) ∈ GW := gw_5 196 rfl rfl
theorem gw_5_197 : (Jvm.Cond.static ({ cls := "MappingTextsModel", name := "isLetter", desc := "(I)Z" } : Jvm.MethodName)) ∈ GW := gw_5 197 rfl rfl
theorem gw_5_198 : (Jvm.Cond.code ({ cls := "MappingTextsModel", name := "isLetter", desc := "(I)Z" } : Jvm.MethodName) prog_11_method_5_code (1 : Nat) (Option.some Jvm.ClassFile.FieldType.boolean)) ∈ GW := gw_5 198 rfl rfl
theorem gw_5_199 : (Jvm.Cond.methodLink "MappingTextsModel" (190 : Nat) ({ cls := "MappingTextsModel", name := "isDigit", desc := "(I)Z" } : Jvm.MethodName)) ∈ GW := gw_5 199 rfl rfl
theorem gw_5_200 : (Jvm.Cond.static ({ cls := "MappingTextsModel", name := "isDigit", desc := "(I)Z" } : Jvm.MethodName)) ∈ GW := gw_5 200 rfl rfl
theorem gw_5_201 : (Jvm.Cond.code ({ cls := "MappingTextsModel", name := "isDigit", desc := "(I)Z" } : Jvm.MethodName) prog_11_method_6_code (1 : Nat) (Option.some Jvm.ClassFile.FieldType.boolean)) ∈ GW := gw_5 201 rfl rfl
theorem gw_5_202 : (Jvm.Cond.methodLink "MappingTextsModel" (193 : Nat) ({ cls := "MappingTextsModel", name := "isMark", desc := "(I)Z" } : Jvm.MethodName)) ∈ GW := gw_5 202 rfl rfl
theorem gw_5_203 : (Jvm.Cond.static ({ cls := "MappingTextsModel", name := "isMark", desc := "(I)Z" } : Jvm.MethodName)) ∈ GW := gw_5 203 rfl rfl
theorem gw_5_204 : (Jvm.Cond.code ({ cls := "MappingTextsModel", name := "isMark", desc := "(I)Z" } : Jvm.MethodName) prog_11_method_7_code (1 : Nat) (Option.some Jvm.ClassFile.FieldType.boolean)) ∈ GW := gw_5 204 rfl rfl
theorem gw_5_205 : (Jvm.Cond.methodLink "MappingTextsModel" (208 : Nat) ({ cls := "MappingTextsModel", name := "fails", desc := "(II)V" } : Jvm.MethodName)) ∈ GW := gw_5 205 rfl rfl
theorem lt_5_206 : (Jvm.Cond.privateMethod ({ cls := "MappingTextsModel", name := "fails", desc := "(II)V" } : Jvm.MethodName)) ∈ lw_tbl := lt_5 206 rfl
theorem gw_5_207 : (Jvm.Cond.instanceMethod ({ cls := "MappingTextsModel", name := "fails", desc := "(II)V" } : Jvm.MethodName)) ∈ GW := gw_5 207 rfl rfl
theorem gw_5_208 : (Jvm.Cond.code ({ cls := "MappingTextsModel", name := "fails", desc := "(II)V" } : Jvm.MethodName) prog_11_method_12_code (3 : Nat) (Option.none : Option Jvm.ClassFile.FieldType)) ∈ GW := gw_5 208 rfl rfl
theorem gw_5_209 : (Jvm.Cond.methodLink "MappingTextsModel" (290 : Nat) ({ cls := "MappingTextsModel", name := "text", desc := "(I)V" } : Jvm.MethodName)) ∈ GW := gw_5 209 rfl rfl
theorem lt_5_210 : (Jvm.Cond.privateMethod ({ cls := "MappingTextsModel", name := "text", desc := "(I)V" } : Jvm.MethodName)) ∈ lw_tbl := lt_5 210 rfl
theorem gw_5_211 : (Jvm.Cond.instanceMethod ({ cls := "MappingTextsModel", name := "text", desc := "(I)V" } : Jvm.MethodName)) ∈ GW := gw_5 211 rfl rfl
theorem gw_5_212 : (Jvm.Cond.code ({ cls := "MappingTextsModel", name := "text", desc := "(I)V" } : Jvm.MethodName) prog_11_method_25_code (4 : Nat) (Option.none : Option Jvm.ClassFile.FieldType)) ∈ GW := gw_5 212 rfl rfl
theorem gw_5_213 : (Jvm.Cond.methodLink "MappingTextsModel" (212 : Nat) ({ cls := "MappingTextsModel", name := "word", desc := "(I)J" } : Jvm.MethodName)) ∈ GW := gw_5 213 rfl rfl
theorem lt_5_214 : (Jvm.Cond.privateMethod ({ cls := "MappingTextsModel", name := "word", desc := "(I)J" } : Jvm.MethodName)) ∈ lw_tbl := lt_5 214 rfl
theorem gw_5_215 : (Jvm.Cond.instanceMethod ({ cls := "MappingTextsModel", name := "word", desc := "(I)J" } : Jvm.MethodName)) ∈ GW := gw_5 215 rfl rfl
theorem gw_5_216 : (Jvm.Cond.code ({ cls := "MappingTextsModel", name := "word", desc := "(I)J" } : Jvm.MethodName) prog_11_method_9_code (5 : Nat) (Option.some Jvm.ClassFile.FieldType.long)) ∈ GW := gw_5 216 rfl rfl
theorem gw_5_217 : (Jvm.Cond.methodLink "MappingTextsModel" (220 : Nat) ({ cls := "MappingTextsModel", name := "want", desc := "(I)V" } : Jvm.MethodName)) ∈ GW := gw_5 217 rfl rfl
theorem lt_5_218 : (Jvm.Cond.privateMethod ({ cls := "MappingTextsModel", name := "want", desc := "(I)V" } : Jvm.MethodName)) ∈ lw_tbl := lt_5 218 rfl
theorem gw_5_219 : (Jvm.Cond.instanceMethod ({ cls := "MappingTextsModel", name := "want", desc := "(I)V" } : Jvm.MethodName)) ∈ GW := gw_5 219 rfl rfl
theorem gw_5_220 : (Jvm.Cond.code ({ cls := "MappingTextsModel", name := "want", desc := "(I)V" } : Jvm.MethodName) prog_11_method_14_code (2 : Nat) (Option.none : Option Jvm.ClassFile.FieldType)) ∈ GW := gw_5 220 rfl rfl
theorem gw_5_221 : (Jvm.Cond.constantLong "MappingTextsModel" (264 : Nat) (1920298085 : Int64)) ∈ GW := gw_5 221 rfl rfl
theorem gw_5_222 : (Jvm.Cond.constantLong "MappingTextsModel" (266 : Nat) (465625246068 : Int64)) ∈ GW := gw_5 222 rfl rfl
theorem gw_5_223 : (Jvm.Cond.methodLink "MappingTextsModel" (268 : Nat) ({ cls := "MappingTextsModel", name := "rule", desc := "(I)V" } : Jvm.MethodName)) ∈ GW := gw_5 223 rfl rfl
theorem lt_5_224 : (Jvm.Cond.privateMethod ({ cls := "MappingTextsModel", name := "rule", desc := "(I)V" } : Jvm.MethodName)) ∈ lw_tbl := lt_5 224 rfl
theorem gw_5_225 : (Jvm.Cond.instanceMethod ({ cls := "MappingTextsModel", name := "rule", desc := "(I)V" } : Jvm.MethodName)) ∈ GW := gw_5 225 rfl rfl
theorem gw_5_226 : (Jvm.Cond.code ({ cls := "MappingTextsModel", name := "rule", desc := "(I)V" } : Jvm.MethodName) prog_11_method_23_code (3 : Nat) (Option.none : Option Jvm.ClassFile.FieldType)) ∈ GW := gw_5 226 rfl rfl
theorem gw_5_227 : (Jvm.Cond.methodLink "MappingTextsModel" (235 : Nat) ({ cls := "MappingTextsModel", name := "copyName", desc := "(I[BI)V" } : Jvm.MethodName)) ∈ GW := gw_5 227 rfl rfl
theorem lt_5_228 : (Jvm.Cond.privateMethod ({ cls := "MappingTextsModel", name := "copyName", desc := "(I[BI)V" } : Jvm.MethodName)) ∈ lw_tbl := lt_5 228 rfl
theorem gw_5_229 : (Jvm.Cond.instanceMethod ({ cls := "MappingTextsModel", name := "copyName", desc := "(I[BI)V" } : Jvm.MethodName)) ∈ GW := gw_5 229 rfl rfl
theorem gw_5_230 : (Jvm.Cond.code ({ cls := "MappingTextsModel", name := "copyName", desc := "(I[BI)V" } : Jvm.MethodName) prog_11_method_16_code (5 : Nat) (Option.none : Option Jvm.ClassFile.FieldType)) ∈ GW := gw_5 230 rfl rfl
theorem gw_5_231 : (Jvm.Cond.methodLink "MappingTextsModel" (255 : Nat) ({ cls := "MappingTextsModel", name := "wantKind", desc := "()I" } : Jvm.MethodName)) ∈ GW := gw_5 231 rfl rfl
theorem lt_5_232 : (Jvm.Cond.privateMethod ({ cls := "MappingTextsModel", name := "wantKind", desc := "()I" } : Jvm.MethodName)) ∈ lw_tbl := lt_5 232 rfl
theorem gw_5_233 : (Jvm.Cond.instanceMethod ({ cls := "MappingTextsModel", name := "wantKind", desc := "()I" } : Jvm.MethodName)) ∈ GW := gw_5 233 rfl rfl
theorem gw_5_234 : (Jvm.Cond.code ({ cls := "MappingTextsModel", name := "wantKind", desc := "()I" } : Jvm.MethodName) prog_11_method_15_code (2 : Nat) (Option.some Jvm.ClassFile.FieldType.int)) ∈ GW := gw_5 234 rfl rfl
theorem gw_5_235 : (Jvm.Cond.methodLink "MappingTextsModel" (216 : Nat) ({ cls := "MappingTextsModel", name := "among", desc := "([JJ)I" } : Jvm.MethodName)) ∈ GW := gw_5 235 rfl rfl
theorem gw_5_236 : (Jvm.Cond.static ({ cls := "MappingTextsModel", name := "among", desc := "([JJ)I" } : Jvm.MethodName)) ∈ GW := gw_5 236 rfl rfl
theorem gw_5_237 : (Jvm.Cond.code ({ cls := "MappingTextsModel", name := "among", desc := "([JJ)I" } : Jvm.MethodName) prog_11_method_11_code (4 : Nat) (Option.some Jvm.ClassFile.FieldType.int)) ∈ GW := gw_5 237 rfl rfl
theorem gw_5_238 : (Jvm.Cond.methodLink "MappingTextsModel" (271 : Nat) ({ cls := "MappingTextsModel", name := "limitItem", desc := "()V" } : Jvm.MethodName)) ∈ GW := gw_5 238 rfl rfl
theorem lt_5_239 : (Jvm.Cond.privateMethod ({ cls := "MappingTextsModel", name := "limitItem", desc := "()V" } : Jvm.MethodName)) ∈ lw_tbl := lt_5 239 rfl
theorem gw_6_0 : (Jvm.Cond.instanceMethod ({ cls := "MappingTextsModel", name := "limitItem", desc := "()V" } : Jvm.MethodName)) ∈ GW := gw_6 0 rfl rfl
theorem gw_6_1 : (Jvm.Cond.code ({ cls := "MappingTextsModel", name := "limitItem", desc := "()V" } : Jvm.MethodName) prog_11_method_24_code (2 : Nat) (Option.none : Option Jvm.ClassFile.FieldType)) ∈ GW := gw_6 1 rfl rfl
theorem gw_6_2 : (Jvm.Cond.methodLink "MappingTextsModel" (228 : Nat) ({ cls := "MappingTextsModel", name := "note", desc := "(II)V" } : Jvm.MethodName)) ∈ GW := gw_6 2 rfl rfl
theorem lt_6_3 : (Jvm.Cond.privateMethod ({ cls := "MappingTextsModel", name := "note", desc := "(II)V" } : Jvm.MethodName)) ∈ lw_tbl := lt_6 3 rfl
theorem gw_6_4 : (Jvm.Cond.instanceMethod ({ cls := "MappingTextsModel", name := "note", desc := "(II)V" } : Jvm.MethodName)) ∈ GW := gw_6 4 rfl rfl
theorem gw_6_5 : (Jvm.Cond.code ({ cls := "MappingTextsModel", name := "note", desc := "(II)V" } : Jvm.MethodName) prog_11_method_13_code (3 : Nat) (Option.none : Option Jvm.ClassFile.FieldType)) ∈ GW := gw_6 5 rfl rfl
theorem gw_6_6 : (Jvm.Cond.methodLink "MappingTextsModel" (274 : Nat) ({ cls := "MappingTextsModel", name := "field", desc := "(I)V" } : Jvm.MethodName)) ∈ GW := gw_6 6 rfl rfl
theorem lt_6_7 : (Jvm.Cond.privateMethod ({ cls := "MappingTextsModel", name := "field", desc := "(I)V" } : Jvm.MethodName)) ∈ lw_tbl := lt_6 7 rfl
theorem gw_6_8 : (Jvm.Cond.instanceMethod ({ cls := "MappingTextsModel", name := "field", desc := "(I)V" } : Jvm.MethodName)) ∈ GW := gw_6 8 rfl rfl
theorem gw_6_9 : (Jvm.Cond.code ({ cls := "MappingTextsModel", name := "field", desc := "(I)V" } : Jvm.MethodName) prog_11_method_20_code (5 : Nat) (Option.none : Option Jvm.ClassFile.FieldType)) ∈ GW := gw_6 9 rfl rfl
theorem gw_6_10 : (Jvm.Cond.methodLink "MappingTextsModel" (246 : Nat) ({ cls := "MappingTextsModel", name := "begin", desc := "(I)V" } : Jvm.MethodName)) ∈ GW := gw_6 10 rfl rfl
theorem lt_6_11 : (Jvm.Cond.privateMethod ({ cls := "MappingTextsModel", name := "begin", desc := "(I)V" } : Jvm.MethodName)) ∈ lw_tbl := lt_6 11 rfl
theorem gw_6_12 : (Jvm.Cond.instanceMethod ({ cls := "MappingTextsModel", name := "begin", desc := "(I)V" } : Jvm.MethodName)) ∈ GW := gw_6 12 rfl rfl
theorem gw_6_13 : (Jvm.Cond.code ({ cls := "MappingTextsModel", name := "begin", desc := "(I)V" } : Jvm.MethodName) prog_11_method_21_code (2 : Nat) (Option.none : Option Jvm.ClassFile.FieldType)) ∈ GW := gw_6 13 rfl rfl
theorem gw_6_14 : (Jvm.Cond.methodLink "MappingTextsModel" (252 : Nat) ({ cls := "MappingTextsModel", name := "isSameName", desc := "(II)Z" } : Jvm.MethodName)) ∈ GW := gw_6 14 rfl rfl
theorem lt_6_15 : (Jvm.Cond.privateMethod ({ cls := "MappingTextsModel", name := "isSameName", desc := "(II)Z" } : Jvm.MethodName)) ∈ lw_tbl := lt_6 15 rfl
theorem gw_6_16 : (Jvm.Cond.instanceMethod ({ cls := "MappingTextsModel", name := "isSameName", desc := "(II)Z" } : Jvm.MethodName)) ∈ GW := gw_6 16 rfl rfl
theorem gw_6_17 : (Jvm.Cond.code ({ cls := "MappingTextsModel", name := "isSameName", desc := "(II)Z" } : Jvm.MethodName) prog_11_method_22_code (5 : Nat) (Option.some Jvm.ClassFile.FieldType.boolean)) ∈ GW := gw_6 17 rfl rfl
theorem gw_6_18 : (Jvm.Cond.methodLink "MappingTextsModel" (258 : Nat) ({ cls := "MappingTextsModel", name := "option", desc := "(II)V" } : Jvm.MethodName)) ∈ GW := gw_6 18 rfl rfl
theorem lt_6_19 : (Jvm.Cond.privateMethod ({ cls := "MappingTextsModel", name := "option", desc := "(II)V" } : Jvm.MethodName)) ∈ lw_tbl := lt_6 19 rfl
theorem gw_6_20 : (Jvm.Cond.instanceMethod ({ cls := "MappingTextsModel", name := "option", desc := "(II)V" } : Jvm.MethodName)) ∈ GW := gw_6 20 rfl rfl
theorem gw_6_21 : (Jvm.Cond.code ({ cls := "MappingTextsModel", name := "option", desc := "(II)V" } : Jvm.MethodName) prog_11_method_19_code (8 : Nat) (Option.none : Option Jvm.ClassFile.FieldType)) ∈ GW := gw_6 21 rfl rfl
theorem gw_6_22 : (Jvm.Cond.methodLink "MappingTextsModel" (224 : Nat) ({ cls := "MappingTextsModel", name := "mayHave", desc := "(II)Z" } : Jvm.MethodName)) ∈ GW := gw_6 22 rfl rfl
theorem lt_6_23 : (Jvm.Cond.privateMethod ({ cls := "MappingTextsModel", name := "mayHave", desc := "(II)Z" } : Jvm.MethodName)) ∈ lw_tbl := lt_6 23 rfl
theorem gw_6_24 : (Jvm.Cond.instanceMethod ({ cls := "MappingTextsModel", name := "mayHave", desc := "(II)Z" } : Jvm.MethodName)) ∈ GW := gw_6 24 rfl rfl
theorem gw_6_25 : (Jvm.Cond.code ({ cls := "MappingTextsModel", name := "mayHave", desc := "(II)Z" } : Jvm.MethodName) prog_11_method_18_code (3 : Nat) (Option.some Jvm.ClassFile.FieldType.boolean)) ∈ GW := gw_6 25 rfl rfl
theorem gw_6_26 : (Jvm.Cond.methodLink "MappingTextsModel" (231 : Nat) ({ cls := "MappingTextsModel", name := "number", desc := "(I)I" } : Jvm.MethodName)) ∈ GW := gw_6 26 rfl rfl
theorem lt_6_27 : (Jvm.Cond.privateMethod ({ cls := "MappingTextsModel", name := "number", desc := "(I)I" } : Jvm.MethodName)) ∈ lw_tbl := lt_6 27 rfl
theorem gw_6_28 : (Jvm.Cond.instanceMethod ({ cls := "MappingTextsModel", name := "number", desc := "(I)I" } : Jvm.MethodName)) ∈ GW := gw_6 28 rfl rfl
theorem gw_6_29 : (Jvm.Cond.code ({ cls := "MappingTextsModel", name := "number", desc := "(I)I" } : Jvm.MethodName) prog_11_method_10_code (4 : Nat) (Option.some Jvm.ClassFile.FieldType.int)) ∈ GW := gw_6 29 rfl rfl
theorem gw_6_30 : (Jvm.Cond.methodLink "MappingTextsModel" (239 : Nat) ({ cls := "MappingTextsModel", name := "wantPath", desc := "()I" } : Jvm.MethodName)) ∈ GW := gw_6 30 rfl rfl
theorem lt_6_31 : (Jvm.Cond.privateMethod ({ cls := "MappingTextsModel", name := "wantPath", desc := "()I" } : Jvm.MethodName)) ∈ lw_tbl := lt_6 31 rfl
theorem gw_6_32 : (Jvm.Cond.instanceMethod ({ cls := "MappingTextsModel", name := "wantPath", desc := "()I" } : Jvm.MethodName)) ∈ GW := gw_6 32 rfl rfl
theorem gw_6_33 : (Jvm.Cond.code ({ cls := "MappingTextsModel", name := "wantPath", desc := "()I" } : Jvm.MethodName) prog_11_method_17_code (3 : Nat) (Option.some Jvm.ClassFile.FieldType.int)) ∈ GW := gw_6 33 rfl rfl
theorem gw_6_34 : (Jvm.Cond.methodLink "MappingTextsModel" (293 : Nat) ({ cls := "MappingTextsModel", name := "judge", desc := "(I)V" } : Jvm.MethodName)) ∈ GW := gw_6 34 rfl rfl
theorem lt_6_35 : (Jvm.Cond.privateMethod ({ cls := "MappingTextsModel", name := "judge", desc := "(I)V" } : Jvm.MethodName)) ∈ lw_tbl := lt_6 35 rfl
theorem gw_6_36 : (Jvm.Cond.instanceMethod ({ cls := "MappingTextsModel", name := "judge", desc := "(I)V" } : Jvm.MethodName)) ∈ GW := gw_6 36 rfl rfl
theorem gw_6_37 : (Jvm.Cond.code ({ cls := "MappingTextsModel", name := "judge", desc := "(I)V" } : Jvm.MethodName) prog_11_method_30_code (6 : Nat) (Option.none : Option Jvm.ClassFile.FieldType)) ∈ GW := gw_6 37 rfl rfl
theorem gw_6_38 : (Jvm.Cond.methodLink "MappingTextsModel" (280 : Nat) ({ cls := "MappingTextsModel", name := "fieldOf", desc := "(III)I" } : Jvm.MethodName)) ∈ GW := gw_6 38 rfl rfl
theorem lt_6_39 : (Jvm.Cond.privateMethod ({ cls := "MappingTextsModel", name := "fieldOf", desc := "(III)I" } : Jvm.MethodName)) ∈ lw_tbl := lt_6 39 rfl
theorem gw_6_40 : (Jvm.Cond.instanceMethod ({ cls := "MappingTextsModel", name := "fieldOf", desc := "(III)I" } : Jvm.MethodName)) ∈ GW := gw_6 40 rfl rfl
theorem gw_6_41 : (Jvm.Cond.code ({ cls := "MappingTextsModel", name := "fieldOf", desc := "(III)I" } : Jvm.MethodName) prog_11_method_28_code (9 : Nat) (Option.some Jvm.ClassFile.FieldType.int)) ∈ GW := gw_6 41 rfl rfl
theorem gw_6_42 : (Jvm.Cond.methodLink "MappingTextsModel" (277 : Nat) ({ cls := "MappingTextsModel", name := "isToken", desc := "(II)Z" } : Jvm.MethodName)) ∈ GW := gw_6 42 rfl rfl
theorem lt_6_43 : (Jvm.Cond.privateMethod ({ cls := "MappingTextsModel", name := "isToken", desc := "(II)Z" } : Jvm.MethodName)) ∈ lw_tbl := lt_6 43 rfl
theorem gw_6_44 : (Jvm.Cond.instanceMethod ({ cls := "MappingTextsModel", name := "isToken", desc := "(II)Z" } : Jvm.MethodName)) ∈ GW := gw_6 44 rfl rfl
theorem gw_6_45 : (Jvm.Cond.code ({ cls := "MappingTextsModel", name := "isToken", desc := "(II)Z" } : Jvm.MethodName) prog_11_method_27_code (5 : Nat) (Option.some Jvm.ClassFile.FieldType.boolean)) ∈ GW := gw_6 45 rfl rfl
theorem gw_6_46 : (Jvm.Cond.methodLink "MappingTextsModel" (284 : Nat) ({ cls := "MappingTextsModel", name := "isFirst", desc := "(I)Z" } : Jvm.MethodName)) ∈ GW := gw_6 46 rfl rfl
theorem lt_6_47 : (Jvm.Cond.privateMethod ({ cls := "MappingTextsModel", name := "isFirst", desc := "(I)Z" } : Jvm.MethodName)) ∈ lw_tbl := lt_6 47 rfl
theorem gw_6_48 : (Jvm.Cond.instanceMethod ({ cls := "MappingTextsModel", name := "isFirst", desc := "(I)Z" } : Jvm.MethodName)) ∈ GW := gw_6 48 rfl rfl
theorem gw_6_49 : (Jvm.Cond.code ({ cls := "MappingTextsModel", name := "isFirst", desc := "(I)Z" } : Jvm.MethodName) prog_11_method_29_code (3 : Nat) (Option.some Jvm.ClassFile.FieldType.boolean)) ∈ GW := gw_6 49 rfl rfl
theorem gw_6_50 : (Jvm.Cond.methodLink "MappingTextsLaw" (28 : Nat) ({ cls := "MappingTextsModel", name := "place", desc := "()I" } : Jvm.MethodName)) ∈ GW := gw_6 50 rfl rfl
theorem gw_6_51 : (Jvm.Cond.instanceMethod ({ cls := "MappingTextsModel", name := "place", desc := "()I" } : Jvm.MethodName)) ∈ GW := gw_6 51 rfl rfl
theorem gw_6_52 : (Jvm.Cond.selects "MappingTextsModel" ({ cls := "MappingTextsModel", name := "place", desc := "()I" } : Jvm.MethodName) ({ cls := "MappingTextsModel", name := "place", desc := "()I" } : Jvm.MethodName)) ∈ GW := gw_6 52 rfl rfl
theorem gw_6_53 : (Jvm.Cond.code ({ cls := "MappingTextsModel", name := "place", desc := "()I" } : Jvm.MethodName) prog_11_method_32_code (1 : Nat) (Option.some Jvm.ClassFile.FieldType.int)) ∈ GW := gw_6 53 rfl rfl
theorem gw_6_54 : (Jvm.Cond.methodLink "MappingTextsLaw" (37 : Nat) ({ cls := "MappingTextsModel", name := "drop", desc := "()I" } : Jvm.MethodName)) ∈ GW := gw_6 54 rfl rfl
theorem gw_6_55 : (Jvm.Cond.instanceMethod ({ cls := "MappingTextsModel", name := "drop", desc := "()I" } : Jvm.MethodName)) ∈ GW := gw_6 55 rfl rfl
theorem gw_6_56 : (Jvm.Cond.selects "MappingTextsModel" ({ cls := "MappingTextsModel", name := "drop", desc := "()I" } : Jvm.MethodName) ({ cls := "MappingTextsModel", name := "drop", desc := "()I" } : Jvm.MethodName)) ∈ GW := gw_6 56 rfl rfl
theorem gw_6_57 : (Jvm.Cond.code ({ cls := "MappingTextsModel", name := "drop", desc := "()I" } : Jvm.MethodName) prog_11_method_33_code (1 : Nat) (Option.some Jvm.ClassFile.FieldType.int)) ∈ GW := gw_6 57 rfl rfl
theorem gw_6_58 : (Jvm.Cond.methodLink "MappingTextsLaw" (42 : Nat) ({ cls := "MappingTextsModel", name := "find", desc := "(I)I" } : Jvm.MethodName)) ∈ GW := gw_6 58 rfl rfl
theorem gw_6_59 : (Jvm.Cond.instanceMethod ({ cls := "MappingTextsModel", name := "find", desc := "(I)I" } : Jvm.MethodName)) ∈ GW := gw_6 59 rfl rfl
theorem gw_6_60 : (Jvm.Cond.selects "MappingTextsModel" ({ cls := "MappingTextsModel", name := "find", desc := "(I)I" } : Jvm.MethodName) ({ cls := "MappingTextsModel", name := "find", desc := "(I)I" } : Jvm.MethodName)) ∈ GW := gw_6 60 rfl rfl
theorem gw_6_61 : (Jvm.Cond.code ({ cls := "MappingTextsModel", name := "find", desc := "(I)I" } : Jvm.MethodName) prog_11_method_35_code (3 : Nat) (Option.some Jvm.ClassFile.FieldType.int)) ∈ GW := gw_6 61 rfl rfl
theorem gw_6_62 : (Jvm.Cond.methodLink "MappingTextsModel" (296 : Nat) ({ cls := "MappingTextsModel", name := "tapePath", desc := "()I" } : Jvm.MethodName)) ∈ GW := gw_6 62 rfl rfl
theorem lt_6_63 : (Jvm.Cond.privateMethod ({ cls := "MappingTextsModel", name := "tapePath", desc := "()I" } : Jvm.MethodName)) ∈ lw_tbl := lt_6 63 rfl
theorem gw_6_64 : (Jvm.Cond.instanceMethod ({ cls := "MappingTextsModel", name := "tapePath", desc := "()I" } : Jvm.MethodName)) ∈ GW := gw_6 64 rfl rfl
theorem gw_6_65 : (Jvm.Cond.code ({ cls := "MappingTextsModel", name := "tapePath", desc := "()I" } : Jvm.MethodName) prog_11_method_34_code (2 : Nat) (Option.some Jvm.ClassFile.FieldType.int)) ∈ GW := gw_6 65 rfl rfl
theorem gw_6_66 : (Jvm.Cond.methodLink "MappingTextsModel" (299 : Nat) ({ cls := "MappingTextsModel", name := "isVersion", desc := "(I)Z" } : Jvm.MethodName)) ∈ GW := gw_6 66 rfl rfl
theorem lt_6_67 : (Jvm.Cond.privateMethod ({ cls := "MappingTextsModel", name := "isVersion", desc := "(I)Z" } : Jvm.MethodName)) ∈ lw_tbl := lt_6 67 rfl
theorem gw_6_68 : (Jvm.Cond.instanceMethod ({ cls := "MappingTextsModel", name := "isVersion", desc := "(I)Z" } : Jvm.MethodName)) ∈ GW := gw_6 68 rfl rfl
theorem gw_6_69 : (Jvm.Cond.code ({ cls := "MappingTextsModel", name := "isVersion", desc := "(I)Z" } : Jvm.MethodName) prog_11_method_3_code (2 : Nat) (Option.some Jvm.ClassFile.FieldType.boolean)) ∈ GW := gw_6 69 rfl rfl
theorem gw_6_70 : (Jvm.Cond.methodLink "MappingTextsLaw" (59 : Nat) ({ cls := "MappingTextsModel", name := "rule", desc := "(II)I" } : Jvm.MethodName)) ∈ GW := gw_6 70 rfl rfl
theorem gw_6_71 : (Jvm.Cond.instanceMethod ({ cls := "MappingTextsModel", name := "rule", desc := "(II)I" } : Jvm.MethodName)) ∈ GW := gw_6 71 rfl rfl
theorem gw_6_72 : (Jvm.Cond.selects "MappingTextsModel" ({ cls := "MappingTextsModel", name := "rule", desc := "(II)I" } : Jvm.MethodName) ({ cls := "MappingTextsModel", name := "rule", desc := "(II)I" } : Jvm.MethodName)) ∈ GW := gw_6 72 rfl rfl
theorem gw_6_73 : (Jvm.Cond.code ({ cls := "MappingTextsModel", name := "rule", desc := "(II)I" } : Jvm.MethodName) prog_11_method_39_code (4 : Nat) (Option.some Jvm.ClassFile.FieldType.int)) ∈ GW := gw_6 73 rfl rfl
theorem gw_6_74 : (Jvm.Cond.methodLink "MappingTextsModel" (308 : Nat) ({ cls := "MappingTextsModel", name := "firstRule", desc := "(III)I" } : Jvm.MethodName)) ∈ GW := gw_6 74 rfl rfl
theorem lt_6_75 : (Jvm.Cond.privateMethod ({ cls := "MappingTextsModel", name := "firstRule", desc := "(III)I" } : Jvm.MethodName)) ∈ lw_tbl := lt_6 75 rfl
theorem gw_6_76 : (Jvm.Cond.instanceMethod ({ cls := "MappingTextsModel", name := "firstRule", desc := "(III)I" } : Jvm.MethodName)) ∈ GW := gw_6 76 rfl rfl
theorem gw_6_77 : (Jvm.Cond.code ({ cls := "MappingTextsModel", name := "firstRule", desc := "(III)I" } : Jvm.MethodName) prog_11_method_38_code (5 : Nat) (Option.some Jvm.ClassFile.FieldType.int)) ∈ GW := gw_6 77 rfl rfl
theorem gw_6_78 : (Jvm.Cond.methodLink "MappingTextsModel" (302 : Nat) ({ cls := "MappingTextsModel", name := "fits", desc := "(II)Z" } : Jvm.MethodName)) ∈ GW := gw_6 78 rfl rfl
theorem lt_6_79 : (Jvm.Cond.privateMethod ({ cls := "MappingTextsModel", name := "fits", desc := "(II)Z" } : Jvm.MethodName)) ∈ lw_tbl := lt_6 79 rfl
theorem gw_6_80 : (Jvm.Cond.instanceMethod ({ cls := "MappingTextsModel", name := "fits", desc := "(II)Z" } : Jvm.MethodName)) ∈ GW := gw_6 80 rfl rfl
theorem gw_6_81 : (Jvm.Cond.code ({ cls := "MappingTextsModel", name := "fits", desc := "(II)Z" } : Jvm.MethodName) prog_11_method_36_code (8 : Nat) (Option.some Jvm.ClassFile.FieldType.boolean)) ∈ GW := gw_6 81 rfl rfl
theorem gw_6_82 : (Jvm.Cond.methodLink "MappingTextsModel" (305 : Nat) ({ cls := "MappingTextsModel", name := "suits", desc := "(II)Z" } : Jvm.MethodName)) ∈ GW := gw_6 82 rfl rfl
theorem gw_6_83 : (Jvm.Cond.static ({ cls := "MappingTextsModel", name := "suits", desc := "(II)Z" } : Jvm.MethodName)) ∈ GW := gw_6 83 rfl rfl
theorem gw_6_84 : (Jvm.Cond.code ({ cls := "MappingTextsModel", name := "suits", desc := "(II)Z" } : Jvm.MethodName) prog_11_method_37_code (2 : Nat) (Option.some Jvm.ClassFile.FieldType.boolean)) ∈ GW := gw_6 84 rfl rfl
theorem gw_6_85 : (Jvm.Cond.methodLink "MappingTextsLaw" (33 : Nat) ({ cls := "MappingTextsModel", name := "grow", desc := "(II)I" } : Jvm.MethodName)) ∈ GW := gw_6 85 rfl rfl
theorem gw_6_86 : (Jvm.Cond.instanceMethod ({ cls := "MappingTextsModel", name := "grow", desc := "(II)I" } : Jvm.MethodName)) ∈ GW := gw_6 86 rfl rfl
theorem gw_6_87 : (Jvm.Cond.selects "MappingTextsModel" ({ cls := "MappingTextsModel", name := "grow", desc := "(II)I" } : Jvm.MethodName) ({ cls := "MappingTextsModel", name := "grow", desc := "(II)I" } : Jvm.MethodName)) ∈ GW := gw_6 87 rfl rfl
theorem gw_6_88 : (Jvm.Cond.code ({ cls := "MappingTextsModel", name := "grow", desc := "(II)I" } : Jvm.MethodName) prog_11_method_41_code (8 : Nat) (Option.some Jvm.ClassFile.FieldType.int)) ∈ GW := gw_6 88 rfl rfl
theorem gw_6_89 : (Jvm.Cond.methodLink "MappingTextsModel" (311 : Nat) ({ cls := "MappingTextsModel", name := "depthOf", desc := "(II)I" } : Jvm.MethodName)) ∈ GW := gw_6 89 rfl rfl
theorem lt_6_90 : (Jvm.Cond.privateMethod ({ cls := "MappingTextsModel", name := "depthOf", desc := "(II)I" } : Jvm.MethodName)) ∈ lw_tbl := lt_6 90 rfl
theorem gw_6_91 : (Jvm.Cond.instanceMethod ({ cls := "MappingTextsModel", name := "depthOf", desc := "(II)I" } : Jvm.MethodName)) ∈ GW := gw_6 91 rfl rfl
theorem gw_6_92 : (Jvm.Cond.code ({ cls := "MappingTextsModel", name := "depthOf", desc := "(II)I" } : Jvm.MethodName) prog_11_method_40_code (5 : Nat) (Option.some Jvm.ClassFile.FieldType.int)) ∈ GW := gw_6 92 rfl rfl
theorem gw_6_93 : (Jvm.Cond.methodLink "MappingTextsModel" (315 : Nat) ({ cls := "MappingTextsModel", name := "grown", desc := "(IIII)V" } : Jvm.MethodName)) ∈ GW := gw_6 93 rfl rfl
theorem lt_6_94 : (Jvm.Cond.privateMethod ({ cls := "MappingTextsModel", name := "grown", desc := "(IIII)V" } : Jvm.MethodName)) ∈ lw_tbl := lt_6 94 rfl
theorem gw_6_95 : (Jvm.Cond.instanceMethod ({ cls := "MappingTextsModel", name := "grown", desc := "(IIII)V" } : Jvm.MethodName)) ∈ GW := gw_6 95 rfl rfl
theorem gw_6_96 : (Jvm.Cond.code ({ cls := "MappingTextsModel", name := "grown", desc := "(IIII)V" } : Jvm.MethodName) prog_11_method_43_code (10 : Nat) (Option.none : Option Jvm.ClassFile.FieldType)) ∈ GW := gw_6 96 rfl rfl
theorem gw_6_97 : (Jvm.Cond.methodLink "MappingTextsModel" (319 : Nat) ({ cls := "MappingTextsModel", name := "isWithin", desc := "(III)Z" } : Jvm.MethodName)) ∈ GW := gw_6 97 rfl rfl
theorem lt_6_98 : (Jvm.Cond.privateMethod ({ cls := "MappingTextsModel", name := "isWithin", desc := "(III)Z" } : Jvm.MethodName)) ∈ lw_tbl := lt_6 98 rfl
theorem gw_6_99 : (Jvm.Cond.instanceMethod ({ cls := "MappingTextsModel", name := "isWithin", desc := "(III)Z" } : Jvm.MethodName)) ∈ GW := gw_6 99 rfl rfl
theorem gw_6_100 : (Jvm.Cond.code ({ cls := "MappingTextsModel", name := "isWithin", desc := "(III)Z" } : Jvm.MethodName) prog_11_method_42_code (5 : Nat) (Option.some Jvm.ClassFile.FieldType.boolean)) ∈ GW := gw_6 100 rfl rfl
theorem gw_6_101 : (Jvm.Cond.methodLink "MappingTextsModel" (322 : Nat) ({ cls := "MappingTextsModel", name := "moved", desc := "(II)I" } : Jvm.MethodName)) ∈ GW := gw_6 101 rfl rfl
theorem gw_6_102 : (Jvm.Cond.static ({ cls := "MappingTextsModel", name := "moved", desc := "(II)I" } : Jvm.MethodName)) ∈ GW := gw_6 102 rfl rfl
theorem gw_6_103 : (Jvm.Cond.code ({ cls := "MappingTextsModel", name := "moved", desc := "(II)I" } : Jvm.MethodName) prog_11_method_44_code (2 : Nat) (Option.some Jvm.ClassFile.FieldType.int)) ∈ GW := gw_6 103 rfl rfl
theorem gw_6_104 : (Jvm.Cond.methodLink "MappingTextsModel" (325 : Nat) ({ cls := "MappingTextsModel", name := "copyField", desc := "(II)V" } : Jvm.MethodName)) ∈ GW := gw_6 104 rfl rfl
theorem lt_6_105 : (Jvm.Cond.privateMethod ({ cls := "MappingTextsModel", name := "copyField", desc := "(II)V" } : Jvm.MethodName)) ∈ lw_tbl := lt_6 105 rfl
theorem gw_6_106 : (Jvm.Cond.instanceMethod ({ cls := "MappingTextsModel", name := "copyField", desc := "(II)V" } : Jvm.MethodName)) ∈ GW := gw_6 106 rfl rfl
theorem gw_6_107 : (Jvm.Cond.code ({ cls := "MappingTextsModel", name := "copyField", desc := "(II)V" } : Jvm.MethodName) prog_11_method_45_code (4 : Nat) (Option.none : Option Jvm.ClassFile.FieldType)) ∈ GW := gw_6 107 rfl rfl
theorem gw_6_108 : (Jvm.Cond.methodLink "MappingTextsModel" (328 : Nat) ({ cls := "MappingTextsModel", name := "copyRule", desc := "(II)V" } : Jvm.MethodName)) ∈ GW := gw_6 108 rfl rfl
theorem lt_6_109 : (Jvm.Cond.privateMethod ({ cls := "MappingTextsModel", name := "copyRule", desc := "(II)V" } : Jvm.MethodName)) ∈ lw_tbl := lt_6 109 rfl
theorem gw_6_110 : (Jvm.Cond.instanceMethod ({ cls := "MappingTextsModel", name := "copyRule", desc := "(II)V" } : Jvm.MethodName)) ∈ GW := gw_6 110 rfl rfl
theorem gw_6_111 : (Jvm.Cond.code ({ cls := "MappingTextsModel", name := "copyRule", desc := "(II)V" } : Jvm.MethodName) prog_11_method_46_code (4 : Nat) (Option.none : Option Jvm.ClassFile.FieldType)) ∈ GW := gw_6 111 rfl rfl
theorem gw_6_112 : (Jvm.Cond.methodLink "MappingTextsLaw" (47 : Nat) ({ cls := "MappingTextsModel", name := "field", desc := "(III)I" } : Jvm.MethodName)) ∈ GW := gw_6 112 rfl rfl
theorem gw_6_113 : (Jvm.Cond.instanceMethod ({ cls := "MappingTextsModel", name := "field", desc := "(III)I" } : Jvm.MethodName)) ∈ GW := gw_6 113 rfl rfl
theorem gw_6_114 : (Jvm.Cond.selects "MappingTextsModel" ({ cls := "MappingTextsModel", name := "field", desc := "(III)I" } : Jvm.MethodName) ({ cls := "MappingTextsModel", name := "field", desc := "(III)I" } : Jvm.MethodName)) ∈ GW := gw_6 114 rfl rfl
theorem gw_6_115 : (Jvm.Cond.code ({ cls := "MappingTextsModel", name := "field", desc := "(III)I" } : Jvm.MethodName) prog_11_method_48_code (7 : Nat) (Option.some Jvm.ClassFile.FieldType.int)) ∈ GW := gw_6 115 rfl rfl
theorem gw_6_116 : (Jvm.Cond.methodLink "MappingTextsModel" (331 : Nat) ({ cls := "MappingTextsModel", name := "isField", desc := "(II)Z" } : Jvm.MethodName)) ∈ GW := gw_6 116 rfl rfl
theorem lt_6_117 : (Jvm.Cond.privateMethod ({ cls := "MappingTextsModel", name := "isField", desc := "(II)Z" } : Jvm.MethodName)) ∈ lw_tbl := lt_6 117 rfl
theorem gw_6_118 : (Jvm.Cond.instanceMethod ({ cls := "MappingTextsModel", name := "isField", desc := "(II)Z" } : Jvm.MethodName)) ∈ GW := gw_6 118 rfl rfl
theorem gw_6_119 : (Jvm.Cond.code ({ cls := "MappingTextsModel", name := "isField", desc := "(II)Z" } : Jvm.MethodName) prog_11_method_47_code (3 : Nat) (Option.some Jvm.ClassFile.FieldType.boolean)) ∈ GW := gw_6 119 rfl rfl
theorem gw_6_120 : (Jvm.Cond.methodLink "MappingTextsModel" (334 : Nat) ({ cls := "MappingTextsModel", name := "spell", desc := "(II[B)I" } : Jvm.MethodName)) ∈ GW := gw_6 120 rfl rfl
theorem lt_6_121 : (Jvm.Cond.privateMethod ({ cls := "MappingTextsModel", name := "spell", desc := "(II[B)I" } : Jvm.MethodName)) ∈ lw_tbl := lt_6 121 rfl
theorem gw_6_122 : (Jvm.Cond.instanceMethod ({ cls := "MappingTextsModel", name := "spell", desc := "(II[B)I" } : Jvm.MethodName)) ∈ GW := gw_6 122 rfl rfl
theorem gw_6_123 : (Jvm.Cond.code ({ cls := "MappingTextsModel", name := "spell", desc := "(II[B)I" } : Jvm.MethodName) prog_11_method_26_code (9 : Nat) (Option.some Jvm.ClassFile.FieldType.int)) ∈ GW := gw_6 123 rfl rfl
theorem gw_6_124 : (Jvm.Cond.methodLink "MappingTextsLaw" (51 : Nat) ({ cls := "MappingTextsModel", name := "letter", desc := "(III)I" } : Jvm.MethodName)) ∈ GW := gw_6 124 rfl rfl
theorem gw_6_125 : (Jvm.Cond.instanceMethod ({ cls := "MappingTextsModel", name := "letter", desc := "(III)I" } : Jvm.MethodName)) ∈ GW := gw_6 125 rfl rfl
theorem gw_6_126 : (Jvm.Cond.selects "MappingTextsModel" ({ cls := "MappingTextsModel", name := "letter", desc := "(III)I" } : Jvm.MethodName) ({ cls := "MappingTextsModel", name := "letter", desc := "(III)I" } : Jvm.MethodName)) ∈ GW := gw_6 126 rfl rfl
theorem gw_6_127 : (Jvm.Cond.code ({ cls := "MappingTextsModel", name := "letter", desc := "(III)I" } : Jvm.MethodName) prog_11_method_49_code (4 : Nat) (Option.some Jvm.ClassFile.FieldType.int)) ∈ GW := gw_6 127 rfl rfl
theorem gw_6_128 : (Jvm.Cond.methodLink "MappingTextsLaw" (55 : Nat) ({ cls := "MappingTextsModel", name := "leaf", desc := "(II)I" } : Jvm.MethodName)) ∈ GW := gw_6 128 rfl rfl
theorem gw_6_129 : (Jvm.Cond.instanceMethod ({ cls := "MappingTextsModel", name := "leaf", desc := "(II)I" } : Jvm.MethodName)) ∈ GW := gw_6 129 rfl rfl
theorem gw_6_130 : (Jvm.Cond.selects "MappingTextsModel" ({ cls := "MappingTextsModel", name := "leaf", desc := "(II)I" } : Jvm.MethodName) ({ cls := "MappingTextsModel", name := "leaf", desc := "(II)I" } : Jvm.MethodName)) ∈ GW := gw_6 130 rfl rfl
theorem gw_6_131 : (Jvm.Cond.code ({ cls := "MappingTextsModel", name := "leaf", desc := "(II)I" } : Jvm.MethodName) prog_11_method_50_code (4 : Nat) (Option.some Jvm.ClassFile.FieldType.int)) ∈ GW := gw_6 131 rfl rfl
theorem gw_6_132 : (Jvm.Cond.methodLink "MappingTextsLaw" (63 : Nat) ({ cls := "MappingTextsModel", name := "print", desc := "(I)I" } : Jvm.MethodName)) ∈ GW := gw_6 132 rfl rfl
theorem gw_6_133 : (Jvm.Cond.instanceMethod ({ cls := "MappingTextsModel", name := "print", desc := "(I)I" } : Jvm.MethodName)) ∈ GW := gw_6 133 rfl rfl
theorem gw_6_134 : (Jvm.Cond.selects "MappingTextsModel" ({ cls := "MappingTextsModel", name := "print", desc := "(I)I" } : Jvm.MethodName) ({ cls := "MappingTextsModel", name := "print", desc := "(I)I" } : Jvm.MethodName)) ∈ GW := gw_6 134 rfl rfl
theorem gw_6_135 : (Jvm.Cond.code ({ cls := "MappingTextsModel", name := "print", desc := "(I)I" } : Jvm.MethodName) prog_11_method_57_code (7 : Nat) (Option.some Jvm.ClassFile.FieldType.int)) ∈ GW := gw_6 135 rfl rfl
theorem gw_6_136 : (Jvm.Cond.methodLink "MappingTextsModel" (350 : Nat) ({ cls := "MappingTextsModel", name := "putBytes", desc := "([BII)V" } : Jvm.MethodName)) ∈ GW := gw_6 136 rfl rfl
theorem lt_6_137 : (Jvm.Cond.privateMethod ({ cls := "MappingTextsModel", name := "putBytes", desc := "([BII)V" } : Jvm.MethodName)) ∈ lw_tbl := lt_6 137 rfl
theorem gw_6_138 : (Jvm.Cond.instanceMethod ({ cls := "MappingTextsModel", name := "putBytes", desc := "([BII)V" } : Jvm.MethodName)) ∈ GW := gw_6 138 rfl rfl
theorem gw_6_139 : (Jvm.Cond.code ({ cls := "MappingTextsModel", name := "putBytes", desc := "([BII)V" } : Jvm.MethodName) prog_11_method_53_code (5 : Nat) (Option.none : Option Jvm.ClassFile.FieldType)) ∈ GW := gw_6 139 rfl rfl
theorem gw_6_140 : (Jvm.Cond.methodLink "MappingTextsModel" (343 : Nat) ({ cls := "MappingTextsModel", name := "put", desc := "(I)V" } : Jvm.MethodName)) ∈ GW := gw_6 140 rfl rfl
theorem lt_6_141 : (Jvm.Cond.privateMethod ({ cls := "MappingTextsModel", name := "put", desc := "(I)V" } : Jvm.MethodName)) ∈ lw_tbl := lt_6 141 rfl
theorem gw_6_142 : (Jvm.Cond.instanceMethod ({ cls := "MappingTextsModel", name := "put", desc := "(I)V" } : Jvm.MethodName)) ∈ GW := gw_6 142 rfl rfl
theorem gw_6_143 : (Jvm.Cond.code ({ cls := "MappingTextsModel", name := "put", desc := "(I)V" } : Jvm.MethodName) prog_11_method_51_code (2 : Nat) (Option.none : Option Jvm.ClassFile.FieldType)) ∈ GW := gw_6 143 rfl rfl
theorem gw_6_144 : (Jvm.Cond.methodLink "MappingTextsModel" (354 : Nat) ({ cls := "MappingTextsModel", name := "putWord", desc := "(J)V" } : Jvm.MethodName)) ∈ GW := gw_6 144 rfl rfl
theorem lt_6_145 : (Jvm.Cond.privateMethod ({ cls := "MappingTextsModel", name := "putWord", desc := "(J)V" } : Jvm.MethodName)) ∈ lw_tbl := lt_6 145 rfl
theorem gw_6_146 : (Jvm.Cond.instanceMethod ({ cls := "MappingTextsModel", name := "putWord", desc := "(J)V" } : Jvm.MethodName)) ∈ GW := gw_6 146 rfl rfl
theorem gw_6_147 : (Jvm.Cond.code ({ cls := "MappingTextsModel", name := "putWord", desc := "(J)V" } : Jvm.MethodName) prog_11_method_52_code (5 : Nat) (Option.none : Option Jvm.ClassFile.FieldType)) ∈ GW := gw_6 147 rfl rfl
theorem gw_6_148 : (Jvm.Cond.constantLong "MappingTextsModel" (341 : Nat) (255 : Int64)) ∈ GW := gw_6 148 rfl rfl
theorem gw_6_149 : (Jvm.Cond.methodLink "MappingTextsModel" (364 : Nat) ({ cls := "MappingTextsModel", name := "putOptions", desc := "(II)V" } : Jvm.MethodName)) ∈ GW := gw_6 149 rfl rfl
theorem lt_6_150 : (Jvm.Cond.privateMethod ({ cls := "MappingTextsModel", name := "putOptions", desc := "(II)V" } : Jvm.MethodName)) ∈ lw_tbl := lt_6 150 rfl
theorem gw_6_151 : (Jvm.Cond.instanceMethod ({ cls := "MappingTextsModel", name := "putOptions", desc := "(II)V" } : Jvm.MethodName)) ∈ GW := gw_6 151 rfl rfl
theorem gw_6_152 : (Jvm.Cond.code ({ cls := "MappingTextsModel", name := "putOptions", desc := "(II)V" } : Jvm.MethodName) prog_11_method_56_code (5 : Nat) (Option.none : Option Jvm.ClassFile.FieldType)) ∈ GW := gw_6 152 rfl rfl
theorem gw_6_153 : (Jvm.Cond.methodLink "MappingTextsModel" (358 : Nat) ({ cls := "MappingTextsModel", name := "putNumber", desc := "(I)V" } : Jvm.MethodName)) ∈ GW := gw_6 153 rfl rfl
theorem lt_6_154 : (Jvm.Cond.privateMethod ({ cls := "MappingTextsModel", name := "putNumber", desc := "(I)V" } : Jvm.MethodName)) ∈ lw_tbl := lt_6 154 rfl
theorem gw_6_155 : (Jvm.Cond.instanceMethod ({ cls := "MappingTextsModel", name := "putNumber", desc := "(I)V" } : Jvm.MethodName)) ∈ GW := gw_6 155 rfl rfl
theorem gw_6_156 : (Jvm.Cond.code ({ cls := "MappingTextsModel", name := "putNumber", desc := "(I)V" } : Jvm.MethodName) prog_11_method_54_code (3 : Nat) (Option.none : Option Jvm.ClassFile.FieldType)) ∈ GW := gw_6 156 rfl rfl
theorem gw_6_157 : (Jvm.Cond.constant "MappingTextsModel" (346 : Nat) (100000 : Int32)) ∈ GW := gw_6 157 rfl rfl
theorem gw_6_158 : (Jvm.Cond.methodLink "MappingTextsModel" (361 : Nat) ({ cls := "MappingTextsModel", name := "putPath", desc := "(II)V" } : Jvm.MethodName)) ∈ GW := gw_6 158 rfl rfl
theorem lt_6_159 : (Jvm.Cond.privateMethod ({ cls := "MappingTextsModel", name := "putPath", desc := "(II)V" } : Jvm.MethodName)) ∈ lw_tbl := lt_6 159 rfl
theorem gw_6_160 : (Jvm.Cond.instanceMethod ({ cls := "MappingTextsModel", name := "putPath", desc := "(II)V" } : Jvm.MethodName)) ∈ GW := gw_6 160 rfl rfl
theorem gw_6_161 : (Jvm.Cond.code ({ cls := "MappingTextsModel", name := "putPath", desc := "(II)V" } : Jvm.MethodName) prog_11_method_55_code (3 : Nat) (Option.none : Option Jvm.ClassFile.FieldType)) ∈ GW := gw_6 161 rfl rfl
theorem gw_6_162 : (Jvm.Cond.methodLink "MappingTextsLaw" (67 : Nat) ({ cls := "MappingTextsModel", name := "out", desc := "(I)I" } : Jvm.MethodName)) ∈ GW := gw_6 162 rfl rfl
theorem gw_6_163 : (Jvm.Cond.instanceMethod ({ cls := "MappingTextsModel", name := "out", desc := "(I)I" } : Jvm.MethodName)) ∈ GW := gw_6 163 rfl rfl
theorem gw_6_164 : (Jvm.Cond.selects "MappingTextsModel" ({ cls := "MappingTextsModel", name := "out", desc := "(I)I" } : Jvm.MethodName) ({ cls := "MappingTextsModel", name := "out", desc := "(I)I" } : Jvm.MethodName)) ∈ GW := gw_6 164 rfl rfl
theorem gw_6_165 : (Jvm.Cond.code ({ cls := "MappingTextsModel", name := "out", desc := "(I)I" } : Jvm.MethodName) prog_11_method_58_code (2 : Nat) (Option.some Jvm.ClassFile.FieldType.int)) ∈ GW := gw_6 165 rfl rfl
theorem gw_6_166 : (Jvm.Cond.methodLink "MappingTextsLaw" (71 : Nat) ({ cls := "MappingTextsModel", name := "take", desc := "()I" } : Jvm.MethodName)) ∈ GW := gw_6 166 rfl rfl
theorem gw_6_167 : (Jvm.Cond.instanceMethod ({ cls := "MappingTextsModel", name := "take", desc := "()I" } : Jvm.MethodName)) ∈ GW := gw_6 167 rfl rfl
theorem gw_6_168 : (Jvm.Cond.selects "MappingTextsModel" ({ cls := "MappingTextsModel", name := "take", desc := "()I" } : Jvm.MethodName) ({ cls := "MappingTextsModel", name := "take", desc := "()I" } : Jvm.MethodName)) ∈ GW := gw_6 168 rfl rfl
theorem gw_6_169 : (Jvm.Cond.code ({ cls := "MappingTextsModel", name := "take", desc := "()I" } : Jvm.MethodName) prog_11_method_59_code (2 : Nat) (Option.some Jvm.ClassFile.FieldType.int)) ∈ GW := gw_6 169 rfl rfl
theorem gw_6_170 : (Jvm.Cond.methodLink "MappingTextsLaw" (75 : Nat) ({ cls := "MappingTextsModel", name := "differences", desc := "(II)I" } : Jvm.MethodName)) ∈ GW := gw_6 170 rfl rfl
theorem gw_6_171 : (Jvm.Cond.instanceMethod ({ cls := "MappingTextsModel", name := "differences", desc := "(II)I" } : Jvm.MethodName)) ∈ GW := gw_6 171 rfl rfl
theorem gw_6_172 : (Jvm.Cond.selects "MappingTextsModel" ({ cls := "MappingTextsModel", name := "differences", desc := "(II)I" } : Jvm.MethodName) ({ cls := "MappingTextsModel", name := "differences", desc := "(II)I" } : Jvm.MethodName)) ∈ GW := gw_6 172 rfl rfl
theorem gw_6_173 : (Jvm.Cond.code ({ cls := "MappingTextsModel", name := "differences", desc := "(II)I" } : Jvm.MethodName) prog_11_method_67_code (3 : Nat) (Option.some Jvm.ClassFile.FieldType.int)) ∈ GW := gw_6 173 rfl rfl
theorem gw_6_174 : (Jvm.Cond.methodLink "MappingTextsModel" (393 : Nat) ({ cls := "MappingTextsModel", name := "differ", desc := "(II)V" } : Jvm.MethodName)) ∈ GW := gw_6 174 rfl rfl
theorem lt_6_175 : (Jvm.Cond.privateMethod ({ cls := "MappingTextsModel", name := "differ", desc := "(II)V" } : Jvm.MethodName)) ∈ lw_tbl := lt_6 175 rfl
theorem gw_6_176 : (Jvm.Cond.instanceMethod ({ cls := "MappingTextsModel", name := "differ", desc := "(II)V" } : Jvm.MethodName)) ∈ GW := gw_6 176 rfl rfl
theorem gw_6_177 : (Jvm.Cond.code ({ cls := "MappingTextsModel", name := "differ", desc := "(II)V" } : Jvm.MethodName) prog_11_method_65_code (6 : Nat) (Option.none : Option Jvm.ClassFile.FieldType)) ∈ GW := gw_6 177 rfl rfl
theorem gw_6_178 : (Jvm.Cond.methodLink "MappingTextsModel" (387 : Nat) ({ cls := "MappingTextsModel", name := "twin", desc := "(III)I" } : Jvm.MethodName)) ∈ GW := gw_6 178 rfl rfl
theorem lt_6_179 : (Jvm.Cond.privateMethod ({ cls := "MappingTextsModel", name := "twin", desc := "(III)I" } : Jvm.MethodName)) ∈ lw_tbl := lt_6 179 rfl
theorem gw_6_180 : (Jvm.Cond.instanceMethod ({ cls := "MappingTextsModel", name := "twin", desc := "(III)I" } : Jvm.MethodName)) ∈ GW := gw_6 180 rfl rfl
theorem gw_6_181 : (Jvm.Cond.code ({ cls := "MappingTextsModel", name := "twin", desc := "(III)I" } : Jvm.MethodName) prog_11_method_61_code (5 : Nat) (Option.some Jvm.ClassFile.FieldType.int)) ∈ GW := gw_6 181 rfl rfl
theorem gw_6_182 : (Jvm.Cond.methodLink "MappingTextsModel" (373 : Nat) ({ cls := "MappingTextsModel", name := "compare", desc := "(IIII)I" } : Jvm.MethodName)) ∈ GW := gw_6 182 rfl rfl
theorem lt_6_183 : (Jvm.Cond.privateMethod ({ cls := "MappingTextsModel", name := "compare", desc := "(IIII)I" } : Jvm.MethodName)) ∈ lw_tbl := lt_6 183 rfl
theorem gw_6_184 : (Jvm.Cond.instanceMethod ({ cls := "MappingTextsModel", name := "compare", desc := "(IIII)I" } : Jvm.MethodName)) ∈ GW := gw_6 184 rfl rfl
theorem gw_6_185 : (Jvm.Cond.code ({ cls := "MappingTextsModel", name := "compare", desc := "(IIII)I" } : Jvm.MethodName) prog_11_method_60_code (6 : Nat) (Option.some Jvm.ClassFile.FieldType.int)) ∈ GW := gw_6 185 rfl rfl
theorem gw_6_186 : (Jvm.Cond.methodLink "MappingTextsModel" (390 : Nat) ({ cls := "MappingTextsModel", name := "code", desc := "(IIII)I" } : Jvm.MethodName)) ∈ GW := gw_6 186 rfl rfl
theorem lt_6_187 : (Jvm.Cond.privateMethod ({ cls := "MappingTextsModel", name := "code", desc := "(IIII)I" } : Jvm.MethodName)) ∈ lw_tbl := lt_6 187 rfl
theorem gw_6_188 : (Jvm.Cond.instanceMethod ({ cls := "MappingTextsModel", name := "code", desc := "(IIII)I" } : Jvm.MethodName)) ∈ GW := gw_6 188 rfl rfl
theorem gw_6_189 : (Jvm.Cond.code ({ cls := "MappingTextsModel", name := "code", desc := "(IIII)I" } : Jvm.MethodName) prog_11_method_64_code (8 : Nat) (Option.some Jvm.ClassFile.FieldType.int)) ∈ GW := gw_6 189 rfl rfl
theorem gw_6_190 : (Jvm.Cond.methodLink "MappingTextsModel" (377 : Nat) ({ cls := "MappingTextsModel", name := "isSameBy", desc := "(II)Z" } : Jvm.MethodName)) ∈ GW := gw_6 190 rfl rfl
theorem lt_6_191 : (Jvm.Cond.privateMethod ({ cls := "MappingTextsModel", name := "isSameBy", desc := "(II)Z" } : Jvm.MethodName)) ∈ lw_tbl := lt_6 191 rfl
theorem gw_6_192 : (Jvm.Cond.instanceMethod ({ cls := "MappingTextsModel", name := "isSameBy", desc := "(II)Z" } : Jvm.MethodName)) ∈ GW := gw_6 192 rfl rfl
theorem gw_6_193 : (Jvm.Cond.code ({ cls := "MappingTextsModel", name := "isSameBy", desc := "(II)Z" } : Jvm.MethodName) prog_11_method_63_code (5 : Nat) (Option.some Jvm.ClassFile.FieldType.boolean)) ∈ GW := gw_6 193 rfl rfl
theorem gw_6_194 : (Jvm.Cond.methodLink "MappingTextsModel" (380 : Nat) ({ cls := "MappingTextsModel", name := "isSamePath", desc := "(IIII)Z" } : Jvm.MethodName)) ∈ GW := gw_6 194 rfl rfl
theorem lt_6_195 : (Jvm.Cond.privateMethod ({ cls := "MappingTextsModel", name := "isSamePath", desc := "(IIII)Z" } : Jvm.MethodName)) ∈ lw_tbl := lt_6 195 rfl
theorem gw_6_196 : (Jvm.Cond.instanceMethod ({ cls := "MappingTextsModel", name := "isSamePath", desc := "(IIII)Z" } : Jvm.MethodName)) ∈ GW := gw_6 196 rfl rfl
theorem gw_6_197 : (Jvm.Cond.code ({ cls := "MappingTextsModel", name := "isSamePath", desc := "(IIII)Z" } : Jvm.MethodName) prog_11_method_62_code (5 : Nat) (Option.some Jvm.ClassFile.FieldType.boolean)) ∈ GW := gw_6 197 rfl rfl
theorem gw_6_198 : (Jvm.Cond.methodLink "MappingTextsLaw" (80 : Nat) ({ cls := "MappingTextsModel", name := "difference", desc := "(IIII)I" } : Jvm.MethodName)) ∈ GW := gw_6 198 rfl rfl
theorem gw_6_199 : (Jvm.Cond.instanceMethod ({ cls := "MappingTextsModel", name := "difference", desc := "(IIII)I" } : Jvm.MethodName)) ∈ GW := gw_6 199 rfl rfl
theorem gw_6_200 : (Jvm.Cond.selects "MappingTextsModel" ({ cls := "MappingTextsModel", name := "difference", desc := "(IIII)I" } : Jvm.MethodName) ({ cls := "MappingTextsModel", name := "difference", desc := "(IIII)I" } : Jvm.MethodName)) ∈ GW := gw_6 200 rfl rfl
theorem gw_6_201 : (Jvm.Cond.code ({ cls := "MappingTextsModel", name := "difference", desc := "(IIII)I" } : Jvm.MethodName) prog_11_method_68_code (8 : Nat) (Option.some Jvm.ClassFile.FieldType.int)) ∈ GW := gw_6 201 rfl rfl
theorem gw_6_202 : (Jvm.Cond.methodLink "MappingTextsModel" (396 : Nat) ({ cls := "MappingTextsModel", name := "compareRows", desc := "(IIII)I" } : Jvm.MethodName)) ∈ GW := gw_6 202 rfl rfl
theorem lt_6_203 : (Jvm.Cond.privateMethod ({ cls := "MappingTextsModel", name := "compareRows", desc := "(IIII)I" } : Jvm.MethodName)) ∈ lw_tbl := lt_6 203 rfl
theorem gw_6_204 : (Jvm.Cond.instanceMethod ({ cls := "MappingTextsModel", name := "compareRows", desc := "(IIII)I" } : Jvm.MethodName)) ∈ GW := gw_6 204 rfl rfl
theorem gw_6_205 : (Jvm.Cond.code ({ cls := "MappingTextsModel", name := "compareRows", desc := "(IIII)I" } : Jvm.MethodName) prog_11_method_66_code (7 : Nat) (Option.some Jvm.ClassFile.FieldType.int)) ∈ GW := gw_6 205 rfl rfl
theorem gw_6_206 : (Jvm.Cond.methodLink "MappingTextsLaw" (84 : Nat) ({ cls := "MappingTextsModel", name := "told", desc := "(II)I" } : Jvm.MethodName)) ∈ GW := gw_6 206 rfl rfl
theorem gw_6_207 : (Jvm.Cond.instanceMethod ({ cls := "MappingTextsModel", name := "told", desc := "(II)I" } : Jvm.MethodName)) ∈ GW := gw_6 207 rfl rfl
theorem gw_6_208 : (Jvm.Cond.selects "MappingTextsModel" ({ cls := "MappingTextsModel", name := "told", desc := "(II)I" } : Jvm.MethodName) ({ cls := "MappingTextsModel", name := "told", desc := "(II)I" } : Jvm.MethodName)) ∈ GW := gw_6 208 rfl rfl
theorem gw_6_209 : (Jvm.Cond.code ({ cls := "MappingTextsModel", name := "told", desc := "(II)I" } : Jvm.MethodName) prog_11_method_69_code (5 : Nat) (Option.some Jvm.ClassFile.FieldType.int)) ∈ GW := gw_6 209 rfl rfl
theorem gw_6_210 : (Jvm.Cond.constantLong "MappingTextsLaw" (13 : Nat) (4294967295 : Int64)) ∈ GW := gw_6 210 rfl rfl
theorem gw_6_211 : (Jvm.Cond.fieldLink "java/lang/String" (9 : Nat) "java/lang/String" "value" "[B") ∈ GW := gw_6 211 rfl rfl
theorem gw_6_212 : (Jvm.Cond.fieldLink "java/lang/String" (15 : Nat) "java/lang/String" "coder" "B") ∈ GW := gw_6 212 rfl rfl
theorem gw_p_0 : Cond.selects "MappingTexts$TextReader" ⟨"MappingTexts$TextReader", "begin", "(LMappingTexts$Version;)V"⟩ ⟨"MappingTexts$TextReader", "begin", "(LMappingTexts$Version;)V"⟩ ∈ GW := gw_s 0 (n := 17) rfl
theorem gw_p_1 : Cond.selects "MappingTexts$Tokens" ⟨"MappingTexts$Tokens", "lengthenLast", "(I)Z"⟩ ⟨"MappingTexts$Tokens", "lengthenLast", "(I)Z"⟩ ∈ GW := gw_s 1 (n := 5) rfl
theorem gw_p_2 : Cond.selects "MappingTexts$Tokens" ⟨"MappingTexts$Tokens", "begin", "(II)V"⟩ ⟨"MappingTexts$Tokens", "begin", "(II)V"⟩ ∈ GW := gw_s 2 (n := 5) rfl
theorem gw_p_3 : Cond.selects "MappingTexts$TextReader" ⟨"MappingTexts$TextReader", "stop", "(II)I"⟩ ⟨"MappingTexts$TextReader", "stop", "(II)I"⟩ ∈ GW := gw_s 3 (n := 17) rfl
theorem gw_p_4 : Cond.selects "MappingTexts$TextReader" ⟨"MappingTexts$TextReader", "step", "(I)I"⟩ ⟨"MappingTexts$TextReader", "step", "(I)I"⟩ ∈ GW := gw_s 4 (n := 17) rfl
theorem gw_p_5 : Cond.selects "MappingTexts$TextReader" ⟨"MappingTexts$TextReader", "isFieldName", "(I)Z"⟩ ⟨"MappingTexts$TextReader", "isFieldName", "(I)Z"⟩ ∈ GW := gw_s 5 (n := 17) rfl
theorem gw_p_6 : Cond.selects "MappingTexts$TextReader" ⟨"MappingTexts$TextReader", "stepFieldName", "(I)I"⟩ ⟨"MappingTexts$TextReader", "stepFieldName", "(I)I"⟩ ∈ GW := gw_s 6 (n := 17) rfl
theorem gw_p_7 : Cond.selects "MappingTexts$TextReader" ⟨"MappingTexts$TextReader", "isNameTwice", "(I)Z"⟩ ⟨"MappingTexts$TextReader", "isNameTwice", "(I)Z"⟩ ∈ GW := gw_s 7 (n := 17) rfl
theorem gw_p_8 : Cond.selects "MappingTexts$TextReader" ⟨"MappingTexts$TextReader", "blame", "(II)V"⟩ ⟨"MappingTexts$TextReader", "blame", "(II)V"⟩ ∈ GW := gw_s 8 (n := 17) rfl
theorem gw_p_9 : Cond.selects "MappingTexts$TextReader" ⟨"MappingTexts$TextReader", "stepItem", "(I)I"⟩ ⟨"MappingTexts$TextReader", "stepItem", "(I)I"⟩ ∈ GW := gw_s 9 (n := 17) rfl
theorem gw_p_10 : Cond.selects "MappingTexts$TextReader" ⟨"MappingTexts$TextReader", "expect", "(III)I"⟩ ⟨"MappingTexts$TextReader", "expect", "(III)I"⟩ ∈ GW := gw_s 10 (n := 17) rfl
theorem gw_p_11 : Cond.selects "MappingTexts$TextReader" ⟨"MappingTexts$TextReader", "stepRuleWord", "()I"⟩ ⟨"MappingTexts$TextReader", "stepRuleWord", "()I"⟩ ∈ GW := gw_s 11 (n := 17) rfl
theorem gw_p_12 : Cond.selects "MappingTexts$TextReader" ⟨"MappingTexts$TextReader", "stepLimitWord", "(I)I"⟩ ⟨"MappingTexts$TextReader", "stepLimitWord", "(I)I"⟩ ∈ GW := gw_s 12 (n := 17) rfl
theorem gw_p_13 : Cond.selects "MappingTexts$TextReader" ⟨"MappingTexts$TextReader", "stepKind", "(I)I"⟩ ⟨"MappingTexts$TextReader", "stepKind", "(I)I"⟩ ∈ GW := gw_s 13 (n := 17) rfl
theorem gw_p_14 : Cond.selects "MappingTexts$TextReader" ⟨"MappingTexts$TextReader", "kindOf", "(I)I"⟩ ⟨"MappingTexts$TextReader", "kindOf", "(I)I"⟩ ∈ GW := gw_s 14 (n := 17) rfl
theorem gw_p_15 : Cond.selects "MappingTexts$TextReader" ⟨"MappingTexts$TextReader", "stepBehindKind", "(I)I"⟩ ⟨"MappingTexts$TextReader", "stepBehindKind", "(I)I"⟩ ∈ GW := gw_s 15 (n := 17) rfl
theorem gw_p_16 : Cond.selects "MappingTexts$TextReader" ⟨"MappingTexts$TextReader", "stepHeadEnd", "(I)I"⟩ ⟨"MappingTexts$TextReader", "stepHeadEnd", "(I)I"⟩ ∈ GW := gw_s 16 (n := 17) rfl
theorem gw_p_17 : Cond.selects "MappingTexts$TextReader" ⟨"MappingTexts$TextReader", "openHolder", "(I)V"⟩ ⟨"MappingTexts$TextReader", "openHolder", "(I)V"⟩ ∈ GW := gw_s 17 (n := 17) rfl
theorem gw_p_18 : Cond.selects "MappingTexts$TextReader" ⟨"MappingTexts$TextReader", "stepOption", "(I)I"⟩ ⟨"MappingTexts$TextReader", "stepOption", "(I)I"⟩ ∈ GW := gw_s 18 (n := 17) rfl
theorem gw_p_19 : Cond.selects "MappingTexts$TextReader" ⟨"MappingTexts$TextReader", "optionOf", "(I)I"⟩ ⟨"MappingTexts$TextReader", "optionOf", "(I)I"⟩ ∈ GW := gw_s 19 (n := 17) rfl
theorem gw_p_20 : Cond.selects "MappingTexts$TextReader" ⟨"MappingTexts$TextReader", "noteToken", "(Z[II)V"⟩ ⟨"MappingTexts$TextReader", "noteToken", "(Z[II)V"⟩ ∈ GW := gw_s 20 (n := 17) rfl
theorem gw_p_21 : Cond.selects "MappingTexts$TextReader" ⟨"MappingTexts$TextReader", "stepValue", "(I)I"⟩ ⟨"MappingTexts$TextReader", "stepValue", "(I)I"⟩ ∈ GW := gw_s 21 (n := 17) rfl
theorem gw_p_22 : Cond.selects "MappingTexts$TextReader" ⟨"MappingTexts$TextReader", "takeNull", "(I)V"⟩ ⟨"MappingTexts$TextReader", "takeNull", "(I)V"⟩ ∈ GW := gw_s 22 (n := 17) rfl
theorem gw_p_23 : Cond.selects "MappingTexts$TextReader" ⟨"MappingTexts$TextReader", "stepBehindValue", "(I)I"⟩ ⟨"MappingTexts$TextReader", "stepBehindValue", "(I)I"⟩ ∈ GW := gw_s 23 (n := 17) rfl
theorem gw_p_24 : Cond.selects "MappingTexts$TextReader" ⟨"MappingTexts$TextReader", "stepInPath", "(I)I"⟩ ⟨"MappingTexts$TextReader", "stepInPath", "(I)I"⟩ ∈ GW := gw_s 24 (n := 17) rfl
theorem gw_p_25 : Cond.selects "MappingTexts$TextReader" ⟨"MappingTexts$TextReader", "stepPattern", "(I)I"⟩ ⟨"MappingTexts$TextReader", "stepPattern", "(I)I"⟩ ∈ GW := gw_s 25 (n := 17) rfl
theorem gw_p_26 : Cond.selects "MappingTexts$TextReader" ⟨"MappingTexts$TextReader", "stepStar", "(I)I"⟩ ⟨"MappingTexts$TextReader", "stepStar", "(I)I"⟩ ∈ GW := gw_s 26 (n := 17) rfl
theorem gw_p_27 : Cond.selects "MappingTexts$TextReader" ⟨"MappingTexts$TextReader", "stepBehindHead", "(I)I"⟩ ⟨"MappingTexts$TextReader", "stepBehindHead", "(I)I"⟩ ∈ GW := gw_s 27 (n := 17) rfl
theorem gw_p_28 : Cond.selects "MappingTexts$TextReader" ⟨"MappingTexts$TextReader", "stepBehindStar", "(I)I"⟩ ⟨"MappingTexts$TextReader", "stepBehindStar", "(I)I"⟩ ∈ GW := gw_s 28 (n := 17) rfl
theorem gw_p_29 : Cond.selects "MappingTexts$TextReader" ⟨"MappingTexts$TextReader", "stepRuleKind", "(I)I"⟩ ⟨"MappingTexts$TextReader", "stepRuleKind", "(I)I"⟩ ∈ GW := gw_s 29 (n := 17) rfl
theorem gw_p_30 : Cond.selects "MappingTexts$TextReader" ⟨"MappingTexts$TextReader", "stepLimitNumber", "(I)I"⟩ ⟨"MappingTexts$TextReader", "stepLimitNumber", "(I)I"⟩ ∈ GW := gw_s 30 (n := 17) rfl
theorem gw_p_31 : Cond.selects "MappingTexts$TextReader" ⟨"MappingTexts$TextReader", "lookAtPaths", "()V"⟩ ⟨"MappingTexts$TextReader", "lookAtPaths", "()V"⟩ ∈ GW := gw_s 31 (n := 17) rfl
theorem gw_p_32 : Cond.selects "MappingTexts$TextReader" ⟨"MappingTexts$TextReader", "fieldMeant", "(II)I"⟩ ⟨"MappingTexts$TextReader", "fieldMeant", "(II)I"⟩ ∈ GW := gw_s 32 (n := 17) rfl
theorem gw_p_33 : Cond.selects "MappingTexts$TextReader" ⟨"MappingTexts$TextReader", "lookAtCircles", "()V"⟩ ⟨"MappingTexts$TextReader", "lookAtCircles", "()V"⟩ ∈ GW := gw_s 33 (n := 17) rfl
theorem gw_p_34 : Cond.selects "MappingTexts$TextReader" ⟨"MappingTexts$TextReader", "isInCircle", "(I)Z"⟩ ⟨"MappingTexts$TextReader", "isInCircle", "(I)Z"⟩ ∈ GW := gw_s 34 (n := 17) rfl
theorem gw_p_35 : Cond.selects "MappingTexts$TextReader" ⟨"MappingTexts$TextReader", "lookAtLimit", "()V"⟩ ⟨"MappingTexts$TextReader", "lookAtLimit", "()V"⟩ ∈ GW := gw_s 35 (n := 17) rfl
theorem gw_p_36 : Cond.selects "MappingTexts" ⟨"MappingTexts", "keep", "(LMappingTexts$Version;)I"⟩ ⟨"MappingTexts", "keep", "(LMappingTexts$Version;)I"⟩ ∈ GW := gw_s 36 (n := 10) rfl
theorem gw_p_37 : Cond.selects "MappingTexts$Version" ⟨"MappingTexts$Version", "comesBefore", "(II)Z"⟩ ⟨"MappingTexts$Version", "comesBefore", "(II)Z"⟩ ∈ GW := gw_s 37 (n := 6) rfl
theorem gw_p_38 : Cond.selects "MappingTexts" ⟨"MappingTexts", "takePath", "()Z"⟩ ⟨"MappingTexts", "takePath", "()Z"⟩ ∈ GW := gw_s 38 (n := 10) rfl
theorem gw_p_39 : Cond.selects "MappingTexts" ⟨"MappingTexts", "isVersion", "(I)Z"⟩ ⟨"MappingTexts", "isVersion", "(I)Z"⟩ ∈ GW := gw_s 39 (n := 10) rfl
theorem gw_p_40 : Cond.selects "MappingTexts" ⟨"MappingTexts", "growByPath", "(II)I"⟩ ⟨"MappingTexts", "growByPath", "(II)I"⟩ ∈ GW := gw_s 40 (n := 10) rfl
theorem gw_p_41 : Cond.selects "MappingTexts$Version" ⟨"MappingTexts$Version", "hasPlaceFor", "(LMappingTexts$Letters;)Z"⟩ ⟨"MappingTexts$Version", "hasPlaceFor", "(LMappingTexts$Letters;)Z"⟩ ∈ GW := gw_s 41 (n := 6) rfl
theorem gw_p_42 : Cond.selects "MappingTexts$Version" ⟨"MappingTexts$Version", "endOf", "(I)I"⟩ ⟨"MappingTexts$Version", "endOf", "(I)I"⟩ ∈ GW := gw_s 42 (n := 6) rfl
theorem gw_p_43 : Cond.selects "MappingTexts" ⟨"MappingTexts", "isField", "(II)Z"⟩ ⟨"MappingTexts", "isField", "(II)Z"⟩ ∈ GW := gw_s 43 (n := 10) rfl
theorem gw_p_44 : Cond.selects "MappingTexts$Version" ⟨"MappingTexts$Version", "printHead", "(LMappingTexts$Letters;LMappingTexts$Field;)V"⟩ ⟨"MappingTexts$Version", "printHead", "(LMappingTexts$Letters;LMappingTexts$Field;)V"⟩ ∈ GW := gw_s 44 (n := 6) rfl
theorem gw_p_45 : Cond.selects "MappingTexts$Version" ⟨"MappingTexts$Version", "printOption", "(LMappingTexts$Letters;LMappingTexts$Field;I)V"⟩ ⟨"MappingTexts$Version", "printOption", "(LMappingTexts$Letters;LMappingTexts$Field;I)V"⟩ ∈ GW := gw_s 45 (n := 6) rfl
theorem gw_p_46 : Cond.selects "MappingTexts$Version" ⟨"MappingTexts$Version", "printPath", "(LMappingTexts$Letters;I)V"⟩ ⟨"MappingTexts$Version", "printPath", "(LMappingTexts$Letters;I)V"⟩ ∈ GW := gw_s 46 (n := 6) rfl
theorem gw_p_47 : Cond.selects "MappingTexts$Comparison" ⟨"MappingTexts$Comparison", "addRow", "(III)V"⟩ ⟨"MappingTexts$Comparison", "addRow", "(III)V"⟩ ∈ GW := gw_s 47 (n := 4) rfl
theorem gw_p_48 : Cond.selects "MappingTextsModel" ⟨"MappingTextsModel", "cut", "()I"⟩ ⟨"MappingTextsModel", "cut", "()I"⟩ ∈ GW := gw_s 48 (n := 58) rfl
theorem gw_p_49 : Cond.selects "MappingTextsModel" ⟨"MappingTextsModel", "fails", "(II)V"⟩ ⟨"MappingTextsModel", "fails", "(II)V"⟩ ∈ GW := gw_s 49 (n := 58) rfl
theorem gw_p_50 : Cond.selects "MappingTextsModel" ⟨"MappingTextsModel", "text", "(I)V"⟩ ⟨"MappingTextsModel", "text", "(I)V"⟩ ∈ GW := gw_s 50 (n := 58) rfl
theorem gw_p_51 : Cond.selects "MappingTextsModel" ⟨"MappingTextsModel", "word", "(I)J"⟩ ⟨"MappingTextsModel", "word", "(I)J"⟩ ∈ GW := gw_s 51 (n := 58) rfl
theorem gw_p_52 : Cond.selects "MappingTextsModel" ⟨"MappingTextsModel", "want", "(I)V"⟩ ⟨"MappingTextsModel", "want", "(I)V"⟩ ∈ GW := gw_s 52 (n := 58) rfl
theorem gw_p_53 : Cond.selects "MappingTextsModel" ⟨"MappingTextsModel", "rule", "(I)V"⟩ ⟨"MappingTextsModel", "rule", "(I)V"⟩ ∈ GW := gw_s 53 (n := 58) rfl
theorem gw_p_54 : Cond.selects "MappingTextsModel" ⟨"MappingTextsModel", "copyName", "(I[BI)V"⟩ ⟨"MappingTextsModel", "copyName", "(I[BI)V"⟩ ∈ GW := gw_s 54 (n := 58) rfl
theorem gw_p_55 : Cond.selects "MappingTextsModel" ⟨"MappingTextsModel", "wantKind", "()I"⟩ ⟨"MappingTextsModel", "wantKind", "()I"⟩ ∈ GW := gw_s 55 (n := 58) rfl
theorem gw_p_56 : Cond.selects "MappingTextsModel" ⟨"MappingTextsModel", "limitItem", "()V"⟩ ⟨"MappingTextsModel", "limitItem", "()V"⟩ ∈ GW := gw_s 56 (n := 58) rfl
theorem gw_p_57 : Cond.selects "MappingTextsModel" ⟨"MappingTextsModel", "note", "(II)V"⟩ ⟨"MappingTextsModel", "note", "(II)V"⟩ ∈ GW := gw_s 57 (n := 58) rfl
theorem gw_p_58 : Cond.selects "MappingTextsModel" ⟨"MappingTextsModel", "field", "(I)V"⟩ ⟨"MappingTextsModel", "field", "(I)V"⟩ ∈ GW := gw_s 58 (n := 58) rfl
theorem gw_p_59 : Cond.selects "MappingTextsModel" ⟨"MappingTextsModel", "begin", "(I)V"⟩ ⟨"MappingTextsModel", "begin", "(I)V"⟩ ∈ GW := gw_s 59 (n := 58) rfl
theorem gw_p_60 : Cond.selects "MappingTextsModel" ⟨"MappingTextsModel", "isSameName", "(II)Z"⟩ ⟨"MappingTextsModel", "isSameName", "(II)Z"⟩ ∈ GW := gw_s 60 (n := 58) rfl
theorem gw_p_61 : Cond.selects "MappingTextsModel" ⟨"MappingTextsModel", "option", "(II)V"⟩ ⟨"MappingTextsModel", "option", "(II)V"⟩ ∈ GW := gw_s 61 (n := 58) rfl
theorem gw_p_62 : Cond.selects "MappingTextsModel" ⟨"MappingTextsModel", "mayHave", "(II)Z"⟩ ⟨"MappingTextsModel", "mayHave", "(II)Z"⟩ ∈ GW := gw_s 62 (n := 58) rfl
theorem gw_p_63 : Cond.selects "MappingTextsModel" ⟨"MappingTextsModel", "number", "(I)I"⟩ ⟨"MappingTextsModel", "number", "(I)I"⟩ ∈ GW := gw_s 63 (n := 58) rfl
theorem gw_p_64 : Cond.selects "MappingTextsModel" ⟨"MappingTextsModel", "wantPath", "()I"⟩ ⟨"MappingTextsModel", "wantPath", "()I"⟩ ∈ GW := gw_s 64 (n := 58) rfl
theorem gw_p_65 : Cond.selects "MappingTextsModel" ⟨"MappingTextsModel", "judge", "(I)V"⟩ ⟨"MappingTextsModel", "judge", "(I)V"⟩ ∈ GW := gw_s 65 (n := 58) rfl
theorem gw_p_66 : Cond.selects "MappingTextsModel" ⟨"MappingTextsModel", "fieldOf", "(III)I"⟩ ⟨"MappingTextsModel", "fieldOf", "(III)I"⟩ ∈ GW := gw_s 66 (n := 58) rfl
theorem gw_p_67 : Cond.selects "MappingTextsModel" ⟨"MappingTextsModel", "isToken", "(II)Z"⟩ ⟨"MappingTextsModel", "isToken", "(II)Z"⟩ ∈ GW := gw_s 67 (n := 58) rfl
theorem gw_p_68 : Cond.selects "MappingTextsModel" ⟨"MappingTextsModel", "isFirst", "(I)Z"⟩ ⟨"MappingTextsModel", "isFirst", "(I)Z"⟩ ∈ GW := gw_s 68 (n := 58) rfl
theorem gw_p_69 : Cond.selects "MappingTextsModel" ⟨"MappingTextsModel", "tapePath", "()I"⟩ ⟨"MappingTextsModel", "tapePath", "()I"⟩ ∈ GW := gw_s 69 (n := 58) rfl
theorem gw_p_70 : Cond.selects "MappingTextsModel" ⟨"MappingTextsModel", "isVersion", "(I)Z"⟩ ⟨"MappingTextsModel", "isVersion", "(I)Z"⟩ ∈ GW := gw_s 70 (n := 58) rfl
theorem gw_p_71 : Cond.selects "MappingTextsModel" ⟨"MappingTextsModel", "firstRule", "(III)I"⟩ ⟨"MappingTextsModel", "firstRule", "(III)I"⟩ ∈ GW := gw_s 71 (n := 58) rfl
theorem gw_p_72 : Cond.selects "MappingTextsModel" ⟨"MappingTextsModel", "fits", "(II)Z"⟩ ⟨"MappingTextsModel", "fits", "(II)Z"⟩ ∈ GW := gw_s 72 (n := 58) rfl
theorem gw_p_73 : Cond.selects "MappingTextsModel" ⟨"MappingTextsModel", "depthOf", "(II)I"⟩ ⟨"MappingTextsModel", "depthOf", "(II)I"⟩ ∈ GW := gw_s 73 (n := 58) rfl
theorem gw_p_74 : Cond.selects "MappingTextsModel" ⟨"MappingTextsModel", "grown", "(IIII)V"⟩ ⟨"MappingTextsModel", "grown", "(IIII)V"⟩ ∈ GW := gw_s 74 (n := 58) rfl
theorem gw_p_75 : Cond.selects "MappingTextsModel" ⟨"MappingTextsModel", "isWithin", "(III)Z"⟩ ⟨"MappingTextsModel", "isWithin", "(III)Z"⟩ ∈ GW := gw_s 75 (n := 58) rfl
theorem gw_p_76 : Cond.selects "MappingTextsModel" ⟨"MappingTextsModel", "copyField", "(II)V"⟩ ⟨"MappingTextsModel", "copyField", "(II)V"⟩ ∈ GW := gw_s 76 (n := 58) rfl
theorem gw_p_77 : Cond.selects "MappingTextsModel" ⟨"MappingTextsModel", "copyRule", "(II)V"⟩ ⟨"MappingTextsModel", "copyRule", "(II)V"⟩ ∈ GW := gw_s 77 (n := 58) rfl
theorem gw_p_78 : Cond.selects "MappingTextsModel" ⟨"MappingTextsModel", "isField", "(II)Z"⟩ ⟨"MappingTextsModel", "isField", "(II)Z"⟩ ∈ GW := gw_s 78 (n := 58) rfl
theorem gw_p_79 : Cond.selects "MappingTextsModel" ⟨"MappingTextsModel", "spell", "(II[B)I"⟩ ⟨"MappingTextsModel", "spell", "(II[B)I"⟩ ∈ GW := gw_s 79 (n := 58) rfl
theorem gw_p_80 : Cond.selects "MappingTextsModel" ⟨"MappingTextsModel", "putBytes", "([BII)V"⟩ ⟨"MappingTextsModel", "putBytes", "([BII)V"⟩ ∈ GW := gw_s 80 (n := 58) rfl
theorem gw_p_81 : Cond.selects "MappingTextsModel" ⟨"MappingTextsModel", "put", "(I)V"⟩ ⟨"MappingTextsModel", "put", "(I)V"⟩ ∈ GW := gw_s 81 (n := 58) rfl
theorem gw_p_82 : Cond.selects "MappingTextsModel" ⟨"MappingTextsModel", "putWord", "(J)V"⟩ ⟨"MappingTextsModel", "putWord", "(J)V"⟩ ∈ GW := gw_s 82 (n := 58) rfl
theorem gw_p_83 : Cond.selects "MappingTextsModel" ⟨"MappingTextsModel", "putOptions", "(II)V"⟩ ⟨"MappingTextsModel", "putOptions", "(II)V"⟩ ∈ GW := gw_s 83 (n := 58) rfl
theorem gw_p_84 : Cond.selects "MappingTextsModel" ⟨"MappingTextsModel", "putNumber", "(I)V"⟩ ⟨"MappingTextsModel", "putNumber", "(I)V"⟩ ∈ GW := gw_s 84 (n := 58) rfl
theorem gw_p_85 : Cond.selects "MappingTextsModel" ⟨"MappingTextsModel", "putPath", "(II)V"⟩ ⟨"MappingTextsModel", "putPath", "(II)V"⟩ ∈ GW := gw_s 85 (n := 58) rfl
theorem gw_p_86 : Cond.selects "MappingTextsModel" ⟨"MappingTextsModel", "differ", "(II)V"⟩ ⟨"MappingTextsModel", "differ", "(II)V"⟩ ∈ GW := gw_s 86 (n := 58) rfl
theorem gw_p_87 : Cond.selects "MappingTextsModel" ⟨"MappingTextsModel", "twin", "(III)I"⟩ ⟨"MappingTextsModel", "twin", "(III)I"⟩ ∈ GW := gw_s 87 (n := 58) rfl
theorem gw_p_88 : Cond.selects "MappingTextsModel" ⟨"MappingTextsModel", "compare", "(IIII)I"⟩ ⟨"MappingTextsModel", "compare", "(IIII)I"⟩ ∈ GW := gw_s 88 (n := 58) rfl
theorem gw_p_89 : Cond.selects "MappingTextsModel" ⟨"MappingTextsModel", "code", "(IIII)I"⟩ ⟨"MappingTextsModel", "code", "(IIII)I"⟩ ∈ GW := gw_s 89 (n := 58) rfl
theorem gw_p_90 : Cond.selects "MappingTextsModel" ⟨"MappingTextsModel", "isSameBy", "(II)Z"⟩ ⟨"MappingTextsModel", "isSameBy", "(II)Z"⟩ ∈ GW := gw_s 90 (n := 58) rfl
theorem gw_p_91 : Cond.selects "MappingTextsModel" ⟨"MappingTextsModel", "isSamePath", "(IIII)Z"⟩ ⟨"MappingTextsModel", "isSamePath", "(IIII)Z"⟩ ∈ GW := gw_s 91 (n := 58) rfl
theorem gw_p_92 : Cond.selects "MappingTextsModel" ⟨"MappingTextsModel", "compareRows", "(IIII)I"⟩ ⟨"MappingTextsModel", "compareRows", "(IIII)I"⟩ ∈ GW := gw_s 92 (n := 58) rfl
