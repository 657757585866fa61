/-! ===== the words of the tables, by their places ===== -/
theorem lw_goodC1 {w : Cond} (i : Nat) (h : tables_1_1[i]? = some w) (hg : goodWord w = true) : w ∈ lw_good := by
  have h := List.mem_of_getElem? h
  exact lw_goodIn (List.mem_append_right _ (show w ∈ tables_1 from List.mem_append_left _ h)) hg
theorem lw_goodC2 {w : Cond} (i : Nat) (h : tables_1_2[i]? = some w) (hg : goodWord w = true) : w ∈ lw_good := by
  have h := List.mem_of_getElem? h
  exact lw_goodIn (List.mem_append_right _ (show w ∈ tables_1 from List.mem_append_right _ (List.mem_append_left _ h))) hg
theorem lw_goodC3 {w : Cond} (i : Nat) (h : tables_1_3[i]? = some w) (hg : goodWord w = true) : w ∈ lw_good := by
  have h := List.mem_of_getElem? h
  exact lw_goodIn (List.mem_append_right _ (show w ∈ tables_1 from List.mem_append_right _ (List.mem_append_right _ (List.mem_append_left _ h)))) hg
theorem lw_goodC4 {w : Cond} (i : Nat) (h : tables_1_4[i]? = some w) (hg : goodWord w = true) : w ∈ lw_good := by
  have h := List.mem_of_getElem? h
  exact lw_goodIn (List.mem_append_right _ (show w ∈ tables_1 from List.mem_append_right _ (List.mem_append_right _ (List.mem_append_right _ (List.mem_append_left _ h))))) hg
theorem lw_goodC5 {w : Cond} (i : Nat) (h : tables_1_5[i]? = some w) (hg : goodWord w = true) : w ∈ lw_good := by
  have h := List.mem_of_getElem? h
  exact lw_goodIn (List.mem_append_right _ (show w ∈ tables_1 from List.mem_append_right _ (List.mem_append_right _ (List.mem_append_right _ (List.mem_append_right _ (List.mem_append_left _ h)))))) hg
theorem lw_goodC6 {w : Cond} (i : Nat) (h : tables_1_6[i]? = some w) (hg : goodWord w = true) : w ∈ lw_good := by
  have h := List.mem_of_getElem? h
  exact lw_goodIn (List.mem_append_right _ (show w ∈ tables_1 from List.mem_append_right _ (List.mem_append_right _ (List.mem_append_right _ (List.mem_append_right _ (List.mem_append_right _ (List.mem_append_left _ h))))))) hg
theorem lw_goodC7 {w : Cond} (i : Nat) (h : tables_1_7[i]? = some w) (hg : goodWord w = true) : w ∈ lw_good := by
  have h := List.mem_of_getElem? h
  exact lw_goodIn (List.mem_append_right _ (show w ∈ tables_1 from List.mem_append_right _ (List.mem_append_right _ (List.mem_append_right _ (List.mem_append_right _ (List.mem_append_right _ (List.mem_append_right _ (h)))))))) hg
theorem wd_0 : (Jvm.Cond.initialized "PennyQueueLaw") ∈ lw_good := lw_goodC1 0 rfl rfl
theorem wd_1 : (Jvm.Cond.initialized "PennyQueue") ∈ lw_good := lw_goodC1 1 rfl rfl
theorem wd_2 : (Jvm.Cond.initialized "PennyQueue$Window") ∈ lw_good := lw_goodC1 2 rfl rfl
theorem wd_3 : (Jvm.Cond.initialized "PennyQueue$Order") ∈ lw_good := lw_goodC1 3 rfl rfl
theorem wd_4 : (Jvm.Cond.initialized "PennyQueue$Day") ∈ lw_good := lw_goodC1 4 rfl rfl
theorem wd_5 : (Jvm.Cond.initialized "PennyQueue$Hour") ∈ lw_good := lw_goodC1 5 rfl rfl
theorem wd_6 : (Jvm.Cond.initialized "PennyQueue$Tape") ∈ lw_good := lw_goodC1 6 rfl rfl
theorem wd_7 : (Jvm.Cond.initialized "PennyQueueModel") ∈ lw_good := lw_goodC1 7 rfl rfl
theorem wd_8 : (Jvm.Cond.initialized "java/lang/String") ∈ lw_good := lw_goodC1 8 rfl rfl
theorem wd_9 : (Jvm.Cond.initialized "java/lang/StringLatin1") ∈ lw_good := lw_goodC1 9 rfl rfl
theorem wd_10 : (Jvm.Cond.initialized "jdk/internal/util/Preconditions") ∈ lw_good := lw_goodC1 10 rfl rfl
theorem wd_11 : (Jvm.Cond.initialized "java/lang/StringUTF16") ∈ lw_good := lw_goodC1 11 rfl rfl
theorem wd_12 : (Jvm.Cond.initialized "java/lang/Math") ∈ lw_good := lw_goodC1 12 rfl rfl
theorem wd_13 : (Jvm.Cond.initialized "PennyQueue$First") ∈ lw_good := lw_goodC1 13 rfl rfl
theorem wd_14 : (Jvm.Cond.initialized "PennyQueue$Share") ∈ lw_good := lw_goodC1 14 rfl rfl
theorem wd_15 : (Jvm.Cond.initialized "PennyQueue$Length") ∈ lw_good := lw_goodC1 15 rfl rfl
theorem wd_16 : (Jvm.Cond.initialized "PennyQueue$Poor") ∈ lw_good := lw_goodC1 16 rfl rfl
theorem wd_17 : (Jvm.Cond.initialized "PennyQueue$Full") ∈ lw_good := lw_goodC1 17 rfl rfl
theorem wd_18 : (Jvm.Cond.initialized "PennyQueue$Told") ∈ lw_good := lw_goodC1 18 rfl rfl
theorem wd_19 : (Jvm.Cond.initialized "java/util/Arrays") ∈ lw_good := lw_goodC1 19 rfl rfl
theorem wd_20 : (Jvm.Cond.initialized "java/lang/System") ∈ lw_good := lw_goodC1 20 rfl rfl
theorem wd_21 : (Jvm.Cond.classLink "PennyQueueLaw" (7 : Nat) "PennyQueue") ∈ lw_good := lw_goodC1 21 rfl rfl
theorem wd_22 : (Jvm.Cond.instantiable "PennyQueue" (19 : Nat)) ∈ lw_good := lw_goodC1 22 rfl rfl
theorem wd_23 : (Jvm.Cond.methodLink "PennyQueueLaw" (9 : Nat) ({ cls := "PennyQueue", name := "<init>", desc := "()V" } : Jvm.MethodName)) ∈ lw_good := lw_goodC1 23 rfl rfl
theorem wd_24 : (Jvm.Cond.instanceMethod ({ cls := "PennyQueue", name := "<init>", desc := "()V" } : Jvm.MethodName)) ∈ lw_good := lw_goodC1 24 rfl rfl
theorem wd_25 : (Jvm.Cond.code ({ cls := "PennyQueue", name := "<init>", desc := "()V" } : Jvm.MethodName) prog_1_method_1_code (2 : Nat) (Option.none : Option Jvm.ClassFile.FieldType)) ∈ lw_good := lw_goodC1 25 rfl rfl
theorem wd_26 : (Jvm.Cond.methodLink "PennyQueue" (3 : Nat) ({ cls := "java/lang/Object", name := "<init>", desc := "()V" } : Jvm.MethodName)) ∈ lw_good := lw_goodC1 26 rfl rfl
theorem wd_27 : (Jvm.Cond.instanceMethod ({ cls := "java/lang/Object", name := "<init>", desc := "()V" } : Jvm.MethodName)) ∈ lw_good := lw_goodC1 27 rfl rfl
theorem wd_28 : (Jvm.Cond.code ({ cls := "java/lang/Object", name := "<init>", desc := "()V" } : Jvm.MethodName) object_method_1_code (1 : Nat) (Option.none : Option Jvm.ClassFile.FieldType)) ∈ lw_good := lw_goodC1 28 rfl rfl
theorem wd_29 : (Jvm.Cond.classLink "PennyQueue" (11 : Nat) "[[I") ∈ lw_good := lw_goodC1 29 rfl rfl
theorem wd_31 : (Jvm.Cond.classLink "PennyQueue" (20 : Nat) "PennyQueue$Window") ∈ lw_good := lw_goodC1 31 rfl rfl
theorem wd_33 : (Jvm.Cond.instantiable "PennyQueue$Window" (11 : Nat)) ∈ lw_good := lw_goodC1 33 rfl rfl
theorem wd_35 : (Jvm.Cond.instanceMethod ({ cls := "PennyQueue$Window", name := "<init>", desc := "()V" } : Jvm.MethodName)) ∈ lw_good := lw_goodC1 35 rfl rfl
theorem wd_36 : (Jvm.Cond.code ({ cls := "PennyQueue$Window", name := "<init>", desc := "()V" } : Jvm.MethodName) prog_12_method_1_code (1 : Nat) (Option.none : Option Jvm.ClassFile.FieldType)) ∈ lw_good := lw_goodC1 36 rfl rfl
theorem wd_37 : (Jvm.Cond.methodLink "PennyQueue$Window" (3 : Nat) ({ cls := "java/lang/Object", name := "<init>", desc := "()V" } : Jvm.MethodName)) ∈ lw_good := lw_goodC1 37 rfl rfl
theorem wd_38 : (Jvm.Cond.fieldLink "PennyQueue$Window" (25 : Nat) "PennyQueue$Window" "price" "I") ∈ lw_good := lw_goodC1 38 rfl rfl
theorem wd_39 : (Jvm.Cond.fieldLink "PennyQueue" (109 : Nat) "PennyQueue$Window" "price" "I") ∈ lw_good := lw_goodC1 39 rfl rfl
theorem wd_40 : (Jvm.Cond.fieldLink "PennyQueue$Window" (28 : Nat) "PennyQueue$Window" "more" "I") ∈ lw_good := lw_goodC1 40 rfl rfl
theorem wd_41 : (Jvm.Cond.fieldLink "PennyQueue" (112 : Nat) "PennyQueue$Window" "more" "I") ∈ lw_good := lw_goodC1 41 rfl rfl
theorem wd_42 : (Jvm.Cond.fieldLink "PennyQueue$Window" (11 : Nat) "PennyQueue$Window" "most" "I") ∈ lw_good := lw_goodC1 42 rfl rfl
theorem wd_43 : (Jvm.Cond.fieldLink "PennyQueue$Hour" (123 : Nat) "PennyQueue$Window" "most" "I") ∈ lw_good := lw_goodC1 43 rfl rfl
theorem wd_44 : (Jvm.Cond.fieldLink "PennyQueue" (115 : Nat) "PennyQueue$Window" "most" "I") ∈ lw_good := lw_goodC1 44 rfl rfl
theorem wd_45 : (Jvm.Cond.fieldLink "PennyQueue$Window" (31 : Nat) "PennyQueue$Window" "comes" "I") ∈ lw_good := lw_goodC1 45 rfl rfl
theorem wd_46 : (Jvm.Cond.fieldLink "PennyQueue$Window" (15 : Nat) "PennyQueue$Window" "comeSort" "[I") ∈ lw_good := lw_goodC1 46 rfl rfl
theorem wd_47 : (Jvm.Cond.fieldLink "PennyQueue$Window" (19 : Nat) "PennyQueue$Window" "comeEnd" "[I") ∈ lw_good := lw_goodC1 47 rfl rfl
theorem wd_48 : (Jvm.Cond.fieldLink "PennyQueue$Window" (22 : Nat) "PennyQueue$Window" "steps" "[I") ∈ lw_good := lw_goodC1 48 rfl rfl
theorem wd_49 : (Jvm.Cond.fieldLink "PennyQueue$Window" (34 : Nat) "PennyQueue$Window" "stepCount" "I") ∈ lw_good := lw_goodC1 49 rfl rfl
theorem wd_50 : (Jvm.Cond.fieldLink "PennyQueue$Window" (37 : Nat) "PennyQueue$Window" "bytes" "[B") ∈ lw_good := lw_goodC1 50 rfl rfl
theorem wd_51 : (Jvm.Cond.fieldLink "PennyQueue$Window" (41 : Nat) "PennyQueue$Window" "length" "I") ∈ lw_good := lw_goodC1 51 rfl rfl
theorem wd_52 : (Jvm.Cond.fieldLink "PennyQueue$Window" (44 : Nat) "PennyQueue$Window" "place" "I") ∈ lw_good := lw_goodC1 52 rfl rfl
theorem wd_53 : (Jvm.Cond.lays "PennyQueue$Window" "PennyQueue$Window" "price" "I") ∈ lw_good := lw_goodC1 53 rfl rfl
theorem wd_55 : (Jvm.Cond.lays "PennyQueue$Window" "PennyQueue$Window" "more" "I") ∈ lw_good := lw_goodC1 55 rfl rfl
theorem wd_57 : (Jvm.Cond.lays "PennyQueue$Window" "PennyQueue$Window" "most" "I") ∈ lw_good := lw_goodC1 57 rfl rfl
theorem wd_59 : (Jvm.Cond.lays "PennyQueue$Window" "PennyQueue$Window" "comes" "I") ∈ lw_good := lw_goodC1 59 rfl rfl
theorem wd_61 : (Jvm.Cond.laysFinal "PennyQueue$Window" "PennyQueue$Window" "comeSort" "[I") ∈ lw_good := lw_goodC1 61 rfl rfl
theorem wd_63 : (Jvm.Cond.laysFinal "PennyQueue$Window" "PennyQueue$Window" "comeEnd" "[I") ∈ lw_good := lw_goodC1 63 rfl rfl
theorem wd_65 : (Jvm.Cond.laysFinal "PennyQueue$Window" "PennyQueue$Window" "steps" "[I") ∈ lw_good := lw_goodC1 65 rfl rfl
theorem wd_67 : (Jvm.Cond.lays "PennyQueue$Window" "PennyQueue$Window" "stepCount" "I") ∈ lw_good := lw_goodC1 67 rfl rfl
theorem wd_69 : (Jvm.Cond.lays "PennyQueue$Window" "PennyQueue$Window" "bytes" "[B") ∈ lw_good := lw_goodC1 69 rfl rfl
theorem wd_71 : (Jvm.Cond.lays "PennyQueue$Window" "PennyQueue$Window" "length" "I") ∈ lw_good := lw_goodC1 71 rfl rfl
theorem wd_73 : (Jvm.Cond.lays "PennyQueue$Window" "PennyQueue$Window" "place" "I") ∈ lw_good := lw_goodC1 73 rfl rfl
theorem wd_75 : (Jvm.Cond.superclass "PennyQueue$Window" "java/lang/Object") ∈ lw_good := lw_goodC1 75 rfl rfl
theorem wd_76 : (Jvm.Cond.arrayClass Jvm.ClassFile.FieldType.int) ∈ lw_good := lw_goodC1 76 rfl rfl
theorem wd_77 : (Jvm.Cond.arrayClass Jvm.ClassFile.FieldType.byte) ∈ lw_good := lw_goodC1 77 rfl rfl
theorem wd_78 : (Jvm.Cond.classLink "PennyQueue" (31 : Nat) "PennyQueue$Order") ∈ lw_good := lw_goodC1 78 rfl rfl
theorem wd_80 : (Jvm.Cond.instantiable "PennyQueue$Order" (4 : Nat)) ∈ lw_good := lw_goodC1 80 rfl rfl
theorem wd_81 : (Jvm.Cond.methodLink "PennyQueue" (37 : Nat) ({ cls := "PennyQueue$Order", name := "<init>", desc := "(II)V" } : Jvm.MethodName)) ∈ lw_good := lw_goodC1 81 rfl rfl
theorem wd_82 : (Jvm.Cond.instanceMethod ({ cls := "PennyQueue$Order", name := "<init>", desc := "(II)V" } : Jvm.MethodName)) ∈ lw_good := lw_goodC1 82 rfl rfl
theorem wd_83 : (Jvm.Cond.code ({ cls := "PennyQueue$Order", name := "<init>", desc := "(II)V" } : Jvm.MethodName) prog_7_method_1_code (3 : Nat) (Option.none : Option Jvm.ClassFile.FieldType)) ∈ lw_good := lw_goodC1 83 rfl rfl
theorem wd_84 : (Jvm.Cond.methodLink "PennyQueue$Order" (1 : Nat) ({ cls := "java/lang/Object", name := "<init>", desc := "()V" } : Jvm.MethodName)) ∈ lw_good := lw_goodC1 84 rfl rfl
theorem wd_85 : (Jvm.Cond.fieldLink "PennyQueue$Order" (13 : Nat) "PennyQueue$Order" "number" "I") ∈ lw_good := lw_goodC1 85 rfl rfl
theorem wd_86 : (Jvm.Cond.fieldLink "PennyQueue$Poor" (13 : Nat) "PennyQueue$Poor" "number" "I") ∈ lw_good := lw_goodC1 86 rfl rfl
theorem wd_87 : (Jvm.Cond.sameField "PennyQueue$Poor" "PennyQueue$Order" "number" "I") ∈ lw_good := lw_goodC1 87 rfl rfl
theorem wd_88 : (Jvm.Cond.fieldLink "PennyQueue$Order" (17 : Nat) "PennyQueue$Order" "v" "I") ∈ lw_good := lw_goodC1 88 rfl rfl
theorem wd_89 : (Jvm.Cond.fieldLink "PennyQueue$Length" (7 : Nat) "PennyQueue$Length" "v" "I") ∈ lw_good := lw_goodC1 89 rfl rfl
theorem wd_90 : (Jvm.Cond.sameField "PennyQueue$Length" "PennyQueue$Order" "v" "I") ∈ lw_good := lw_goodC1 90 rfl rfl
theorem wd_91 : (Jvm.Cond.fieldLink "PennyQueue$Full" (7 : Nat) "PennyQueue$Full" "v" "I") ∈ lw_good := lw_goodC1 91 rfl rfl
theorem wd_92 : (Jvm.Cond.sameField "PennyQueue$Full" "PennyQueue$Order" "v" "I") ∈ lw_good := lw_goodC1 92 rfl rfl
theorem wd_93 : (Jvm.Cond.fieldLink "PennyQueue$Share" (7 : Nat) "PennyQueue$Share" "v" "I") ∈ lw_good := lw_goodC1 93 rfl rfl
theorem wd_94 : (Jvm.Cond.sameField "PennyQueue$Share" "PennyQueue$Order" "v" "I") ∈ lw_good := lw_goodC1 94 rfl rfl
theorem wd_95 : (Jvm.Cond.fieldLink "PennyQueue$Told" (30 : Nat) "PennyQueue$Told" "v" "I") ∈ lw_good := lw_goodC1 95 rfl rfl
theorem wd_96 : (Jvm.Cond.sameField "PennyQueue$Told" "PennyQueue$Order" "v" "I") ∈ lw_good := lw_goodC1 96 rfl rfl
theorem wd_97 : (Jvm.Cond.fieldLink "PennyQueue$Order" (29 : Nat) "PennyQueue$Order" "ran" "I") ∈ lw_good := lw_goodC1 97 rfl rfl
theorem wd_98 : (Jvm.Cond.fieldLink "PennyQueue" (254 : Nat) "PennyQueue$Order" "ran" "I") ∈ lw_good := lw_goodC1 98 rfl rfl
theorem wd_99 : (Jvm.Cond.fieldLink "PennyQueue$Order" (9 : Nat) "PennyQueue$Order" "bodies" "[I") ∈ lw_good := lw_goodC1 99 rfl rfl
theorem wd_100 : (Jvm.Cond.fieldLink "PennyQueue" (266 : Nat) "PennyQueue$Order" "bodies" "[I") ∈ lw_good := lw_goodC1 100 rfl rfl
theorem wd_101 : (Jvm.Cond.laysFinal "PennyQueue$Order" "PennyQueue$Order" "number" "I") ∈ lw_good := lw_goodC1 101 rfl rfl
theorem wd_103 : (Jvm.Cond.laysFinal "PennyQueue$Order" "PennyQueue$Order" "v" "I") ∈ lw_good := lw_goodC1 103 rfl rfl
theorem wd_105 : (Jvm.Cond.lays "PennyQueue$Order" "PennyQueue$Order" "ran" "I") ∈ lw_good := lw_goodC1 105 rfl rfl
theorem wd_107 : (Jvm.Cond.laysFinal "PennyQueue$Order" "PennyQueue$Order" "bodies" "[I") ∈ lw_good := lw_goodC1 107 rfl rfl
theorem wd_109 : (Jvm.Cond.superclass "PennyQueue$Order" "java/lang/Object") ∈ lw_good := lw_goodC1 109 rfl rfl
theorem wd_110 : (Jvm.Cond.classLink "PennyQueue" (44 : Nat) "PennyQueue$Day") ∈ lw_good := lw_goodC1 110 rfl rfl
theorem wd_111 : (Jvm.Cond.instantiable "PennyQueue$Day" (5 : Nat)) ∈ lw_good := lw_goodC1 111 rfl rfl
theorem wd_113 : (Jvm.Cond.instanceMethod ({ cls := "PennyQueue$Day", name := "<init>", desc := "()V" } : Jvm.MethodName)) ∈ lw_good := lw_goodC1 113 rfl rfl
theorem wd_114 : (Jvm.Cond.code ({ cls := "PennyQueue$Day", name := "<init>", desc := "()V" } : Jvm.MethodName) prog_2_method_1_code (1 : Nat) (Option.none : Option Jvm.ClassFile.FieldType)) ∈ lw_good := lw_goodC1 114 rfl rfl
theorem wd_115 : (Jvm.Cond.methodLink "PennyQueue$Day" (3 : Nat) ({ cls := "java/lang/Object", name := "<init>", desc := "()V" } : Jvm.MethodName)) ∈ lw_good := lw_goodC1 115 rfl rfl
theorem wd_116 : (Jvm.Cond.fieldLink "PennyQueue$Day" (9 : Nat) "PennyQueue$Day" "window" "I") ∈ lw_good := lw_goodC1 116 rfl rfl
theorem wd_117 : (Jvm.Cond.fieldLink "PennyQueue" (102 : Nat) "PennyQueue$Day" "window" "I") ∈ lw_good := lw_goodC1 117 rfl rfl
theorem wd_118 : (Jvm.Cond.fieldLink "PennyQueue$Day" (15 : Nat) "PennyQueue$Day" "odds" "[I") ∈ lw_good := lw_goodC1 118 rfl rfl
theorem wd_119 : (Jvm.Cond.fieldLink "PennyQueue" (85 : Nat) "PennyQueue$Day" "odds" "[I") ∈ lw_good := lw_goodC1 119 rfl rfl
theorem wd_120 : (Jvm.Cond.fieldLink "PennyQueue$Day" (19 : Nat) "PennyQueue$Day" "sorts" "[I") ∈ lw_good := lw_goodC1 120 rfl rfl
theorem wd_121 : (Jvm.Cond.fieldLink "PennyQueue$Hour" (112 : Nat) "PennyQueue$Day" "sorts" "[I") ∈ lw_good := lw_goodC1 121 rfl rfl
theorem wd_122 : (Jvm.Cond.fieldLink "PennyQueue" (295 : Nat) "PennyQueue$Day" "sorts" "[I") ∈ lw_good := lw_goodC1 122 rfl rfl
theorem wd_123 : (Jvm.Cond.fieldLink "PennyQueue$Day" (22 : Nat) "PennyQueue$Day" "minutes" "[I") ∈ lw_good := lw_goodC1 123 rfl rfl
theorem wd_124 : (Jvm.Cond.fieldLink "PennyQueue$Hour" (105 : Nat) "PennyQueue$Day" "minutes" "[I") ∈ lw_good := lw_goodC1 124 rfl rfl
theorem wd_125 : (Jvm.Cond.fieldLink "PennyQueue" (297 : Nat) "PennyQueue$Day" "minutes" "[I") ∈ lw_good := lw_goodC1 125 rfl rfl
theorem wd_126 : (Jvm.Cond.fieldLink "PennyQueue$Day" (25 : Nat) "PennyQueue$Day" "hands" "I") ∈ lw_good := lw_goodC1 126 rfl rfl
theorem wd_127 : (Jvm.Cond.fieldLink "PennyQueue$Hour" (100 : Nat) "PennyQueue$Day" "hands" "I") ∈ lw_good := lw_goodC1 127 rfl rfl
theorem wd_128 : (Jvm.Cond.fieldLink "PennyQueue" (118 : Nat) "PennyQueue$Day" "hands" "I") ∈ lw_good := lw_goodC1 128 rfl rfl
theorem wd_129 : (Jvm.Cond.lays "PennyQueue$Day" "PennyQueue$Day" "window" "I") ∈ lw_good := lw_goodC1 129 rfl rfl
theorem wd_131 : (Jvm.Cond.laysFinal "PennyQueue$Day" "PennyQueue$Day" "odds" "[I") ∈ lw_good := lw_goodC1 131 rfl rfl
theorem wd_133 : (Jvm.Cond.laysFinal "PennyQueue$Day" "PennyQueue$Day" "sorts" "[I") ∈ lw_good := lw_goodC1 133 rfl rfl
theorem wd_135 : (Jvm.Cond.laysFinal "PennyQueue$Day" "PennyQueue$Day" "minutes" "[I") ∈ lw_good := lw_goodC1 135 rfl rfl
theorem wd_137 : (Jvm.Cond.lays "PennyQueue$Day" "PennyQueue$Day" "hands" "I") ∈ lw_good := lw_goodC1 137 rfl rfl
theorem wd_139 : (Jvm.Cond.superclass "PennyQueue$Day" "java/lang/Object") ∈ lw_good := lw_goodC1 139 rfl rfl
theorem wd_140 : (Jvm.Cond.classLink "PennyQueue" (57 : Nat) "PennyQueue$Hour") ∈ lw_good := lw_goodC1 140 rfl rfl
theorem wd_141 : (Jvm.Cond.instantiable "PennyQueue$Hour" (19 : Nat)) ∈ lw_good := lw_goodC1 141 rfl rfl
theorem wd_142 : (Jvm.Cond.methodLink "PennyQueue" (59 : Nat) ({ cls := "PennyQueue$Hour", name := "<init>", desc := "([[I)V" } : Jvm.MethodName)) ∈ lw_good := lw_goodC1 142 rfl rfl
theorem wd_143 : (Jvm.Cond.instanceMethod ({ cls := "PennyQueue$Hour", name := "<init>", desc := "([[I)V" } : Jvm.MethodName)) ∈ lw_good := lw_goodC1 143 rfl rfl
theorem wd_144 : (Jvm.Cond.code ({ cls := "PennyQueue$Hour", name := "<init>", desc := "([[I)V" } : Jvm.MethodName) prog_5_method_1_code (2 : Nat) (Option.none : Option Jvm.ClassFile.FieldType)) ∈ lw_good := lw_goodC1 144 rfl rfl
theorem wd_145 : (Jvm.Cond.methodLink "PennyQueue$Hour" (3 : Nat) ({ cls := "java/lang/Object", name := "<init>", desc := "()V" } : Jvm.MethodName)) ∈ lw_good := lw_goodC1 145 rfl rfl
theorem wd_146 : (Jvm.Cond.fieldLink "PennyQueue$Hour" (9 : Nat) "PennyQueue$Hour" "sortOf" "[I") ∈ lw_good := lw_goodC1 146 rfl rfl
theorem wd_147 : (Jvm.Cond.fieldLink "PennyQueue" (147 : Nat) "PennyQueue$Hour" "sortOf" "[I") ∈ lw_good := lw_goodC1 147 rfl rfl
theorem wd_148 : (Jvm.Cond.fieldLink "PennyQueue$Hour" (15 : Nat) "PennyQueue$Hour" "minuteOf" "[I") ∈ lw_good := lw_goodC1 148 rfl rfl
theorem wd_149 : (Jvm.Cond.fieldLink "PennyQueue" (150 : Nat) "PennyQueue$Hour" "minuteOf" "[I") ∈ lw_good := lw_goodC1 149 rfl rfl
theorem wd_150 : (Jvm.Cond.fieldLink "PennyQueue$Hour" (18 : Nat) "PennyQueue$Hour" "lineOf" "[I") ∈ lw_good := lw_goodC1 150 rfl rfl
theorem wd_151 : (Jvm.Cond.fieldLink "PennyQueue" (153 : Nat) "PennyQueue$Hour" "lineOf" "[I") ∈ lw_good := lw_goodC1 151 rfl rfl
theorem wd_152 : (Jvm.Cond.fieldLink "PennyQueue$Hour" (21 : Nat) "PennyQueue$Hour" "paidBy" "[I") ∈ lw_good := lw_goodC1 152 rfl rfl
theorem wd_153 : (Jvm.Cond.fieldLink "PennyQueue" (156 : Nat) "PennyQueue$Hour" "paidBy" "[I") ∈ lw_good := lw_goodC1 153 rfl rfl
theorem wd_154 : (Jvm.Cond.fieldLink "PennyQueue$Hour" (24 : Nat) "PennyQueue$Hour" "begunAt" "[I") ∈ lw_good := lw_goodC1 154 rfl rfl
theorem wd_155 : (Jvm.Cond.fieldLink "PennyQueue" (172 : Nat) "PennyQueue$Hour" "begunAt" "[I") ∈ lw_good := lw_goodC1 155 rfl rfl
theorem wd_156 : (Jvm.Cond.fieldLink "PennyQueue$Hour" (27 : Nat) "PennyQueue$Hour" "servedOnes" "[I") ∈ lw_good := lw_goodC1 156 rfl rfl
theorem wd_157 : (Jvm.Cond.fieldLink "PennyQueue" (169 : Nat) "PennyQueue$Hour" "servedOnes" "[I") ∈ lw_good := lw_goodC1 157 rfl rfl
theorem wd_158 : (Jvm.Cond.fieldLink "PennyQueue$Hour" (82 : Nat) "PennyQueue$Hour" "came" "I") ∈ lw_good := lw_goodC1 158 rfl rfl
theorem wd_159 : (Jvm.Cond.fieldLink "PennyQueue" (144 : Nat) "PennyQueue$Hour" "came" "I") ∈ lw_good := lw_goodC1 159 rfl rfl
theorem wd_160 : (Jvm.Cond.fieldLink "PennyQueue$Hour" (85 : Nat) "PennyQueue$Hour" "servedCount" "I") ∈ lw_good := lw_goodC1 160 rfl rfl
theorem wd_161 : (Jvm.Cond.fieldLink "PennyQueue" (166 : Nat) "PennyQueue$Hour" "servedCount" "I") ∈ lw_good := lw_goodC1 161 rfl rfl
theorem wd_162 : (Jvm.Cond.fieldLink "PennyQueue$Hour" (88 : Nat) "PennyQueue$Hour" "lastByHand" "I") ∈ lw_good := lw_goodC1 162 rfl rfl
theorem wd_163 : (Jvm.Cond.fieldLink "PennyQueue" (211 : Nat) "PennyQueue$Hour" "lastByHand" "I") ∈ lw_good := lw_goodC1 163 rfl rfl
theorem wd_164 : (Jvm.Cond.fieldLink "PennyQueue$Hour" (59 : Nat) "PennyQueue$Hour" "busyTill" "I") ∈ lw_good := lw_goodC1 164 rfl rfl
theorem wd_165 : (Jvm.Cond.fieldLink "PennyQueue" (185 : Nat) "PennyQueue$Hour" "busyTill" "I") ∈ lw_good := lw_goodC1 165 rfl rfl
theorem wd_166 : (Jvm.Cond.fieldLink "PennyQueue$Hour" (36 : Nat) "PennyQueue$Hour" "sorts" "[[I") ∈ lw_good := lw_goodC1 166 rfl rfl
theorem wd_167 : (Jvm.Cond.fieldLink "PennyQueue$Hour" (68 : Nat) "PennyQueue$Hour" "order" "LPennyQueue$Order;") ∈ lw_good := lw_goodC1 167 rfl rfl
theorem wd_168 : (Jvm.Cond.fieldLink "PennyQueue$Hour" (72 : Nat) "PennyQueue$Hour" "window" "LPennyQueue$Window;") ∈ lw_good := lw_goodC1 168 rfl rfl
theorem wd_169 : (Jvm.Cond.fieldLink "PennyQueue$Hour" (76 : Nat) "PennyQueue$Hour" "price" "I") ∈ lw_good := lw_goodC1 169 rfl rfl
theorem wd_170 : (Jvm.Cond.fieldLink "PennyQueue$Hour" (79 : Nat) "PennyQueue$Hour" "more" "I") ∈ lw_good := lw_goodC1 170 rfl rfl
theorem wd_171 : (Jvm.Cond.fieldLink "PennyQueue$Hour" (44 : Nat) "PennyQueue$Hour" "minute" "I") ∈ lw_good := lw_goodC1 171 rfl rfl
theorem wd_172 : (Jvm.Cond.fieldLink "PennyQueue$Hour" (30 : Nat) "PennyQueue$Hour" "standing" "[I") ∈ lw_good := lw_goodC1 172 rfl rfl
theorem wd_173 : (Jvm.Cond.fieldLink "PennyQueue$Hour" (33 : Nat) "PennyQueue$Hour" "times" "[I") ∈ lw_good := lw_goodC1 173 rfl rfl
theorem wd_174 : (Jvm.Cond.fieldLink "PennyQueue$Hour" (91 : Nat) "PennyQueue$Hour" "takenInRow" "I") ∈ lw_good := lw_goodC1 174 rfl rfl
theorem wd_175 : (Jvm.Cond.laysFinal "PennyQueue$Hour" "PennyQueue$Hour" "sortOf" "[I") ∈ lw_good := lw_goodC1 175 rfl rfl
theorem wd_177 : (Jvm.Cond.laysFinal "PennyQueue$Hour" "PennyQueue$Hour" "minuteOf" "[I") ∈ lw_good := lw_goodC1 177 rfl rfl
theorem wd_179 : (Jvm.Cond.laysFinal "PennyQueue$Hour" "PennyQueue$Hour" "lineOf" "[I") ∈ lw_good := lw_goodC1 179 rfl rfl
theorem wd_181 : (Jvm.Cond.laysFinal "PennyQueue$Hour" "PennyQueue$Hour" "paidBy" "[I") ∈ lw_good := lw_goodC1 181 rfl rfl
theorem wd_183 : (Jvm.Cond.laysFinal "PennyQueue$Hour" "PennyQueue$Hour" "begunAt" "[I") ∈ lw_good := lw_goodC1 183 rfl rfl
theorem wd_185 : (Jvm.Cond.laysFinal "PennyQueue$Hour" "PennyQueue$Hour" "servedOnes" "[I") ∈ lw_good := lw_goodC1 185 rfl rfl
theorem wd_187 : (Jvm.Cond.lays "PennyQueue$Hour" "PennyQueue$Hour" "came" "I") ∈ lw_good := lw_goodC1 187 rfl rfl
theorem wd_189 : (Jvm.Cond.lays "PennyQueue$Hour" "PennyQueue$Hour" "servedCount" "I") ∈ lw_good := lw_goodC1 189 rfl rfl
theorem wd_191 : (Jvm.Cond.lays "PennyQueue$Hour" "PennyQueue$Hour" "lastByHand" "I") ∈ lw_good := lw_goodC1 191 rfl rfl
theorem wd_193 : (Jvm.Cond.lays "PennyQueue$Hour" "PennyQueue$Hour" "busyTill" "I") ∈ lw_good := lw_goodC1 193 rfl rfl
theorem wd_195 : (Jvm.Cond.laysFinal "PennyQueue$Hour" "PennyQueue$Hour" "sorts" "[[I") ∈ lw_good := lw_goodC1 195 rfl rfl
theorem wd_197 : (Jvm.Cond.lays "PennyQueue$Hour" "PennyQueue$Hour" "order" "LPennyQueue$Order;") ∈ lw_good := lw_goodC1 197 rfl rfl
theorem wd_199 : (Jvm.Cond.lays "PennyQueue$Hour" "PennyQueue$Hour" "window" "LPennyQueue$Window;") ∈ lw_good := lw_goodC1 199 rfl rfl
theorem wd_201 : (Jvm.Cond.lays "PennyQueue$Hour" "PennyQueue$Hour" "price" "I") ∈ lw_good := lw_goodC1 201 rfl rfl
theorem wd_203 : (Jvm.Cond.lays "PennyQueue$Hour" "PennyQueue$Hour" "more" "I") ∈ lw_good := lw_goodC1 203 rfl rfl
theorem wd_205 : (Jvm.Cond.lays "PennyQueue$Hour" "PennyQueue$Hour" "minute" "I") ∈ lw_good := lw_goodC1 205 rfl rfl
theorem wd_207 : (Jvm.Cond.laysFinal "PennyQueue$Hour" "PennyQueue$Hour" "standing" "[I") ∈ lw_good := lw_goodC1 207 rfl rfl
theorem wd_209 : (Jvm.Cond.laysFinal "PennyQueue$Hour" "PennyQueue$Hour" "times" "[I") ∈ lw_good := lw_goodC1 209 rfl rfl
theorem wd_211 : (Jvm.Cond.lays "PennyQueue$Hour" "PennyQueue$Hour" "takenInRow" "I") ∈ lw_good := lw_goodC1 211 rfl rfl
theorem wd_213 : (Jvm.Cond.superclass "PennyQueue$Hour" "java/lang/Object") ∈ lw_good := lw_goodC1 213 rfl rfl
theorem wd_214 : (Jvm.Cond.classLink "PennyQueue" (70 : Nat) "PennyQueue$Tape") ∈ lw_good := lw_goodC1 214 rfl rfl
theorem wd_216 : (Jvm.Cond.instantiable "PennyQueue$Tape" (3 : Nat)) ∈ lw_good := lw_goodC1 216 rfl rfl
theorem wd_218 : (Jvm.Cond.instanceMethod ({ cls := "PennyQueue$Tape", name := "<init>", desc := "()V" } : Jvm.MethodName)) ∈ lw_good := lw_goodC1 218 rfl rfl
theorem wd_219 : (Jvm.Cond.code ({ cls := "PennyQueue$Tape", name := "<init>", desc := "()V" } : Jvm.MethodName) prog_10_method_1_code (1 : Nat) (Option.none : Option Jvm.ClassFile.FieldType)) ∈ lw_good := lw_goodC1 219 rfl rfl
theorem wd_220 : (Jvm.Cond.methodLink "PennyQueue$Tape" (3 : Nat) ({ cls := "java/lang/Object", name := "<init>", desc := "()V" } : Jvm.MethodName)) ∈ lw_good := lw_goodC1 220 rfl rfl
theorem wd_221 : (Jvm.Cond.fieldLink "PennyQueue$Tape" (11 : Nat) "PennyQueue$Tape" "sort" "I") ∈ lw_good := lw_goodC1 221 rfl rfl
theorem wd_222 : (Jvm.Cond.fieldLink "PennyQueue" (233 : Nat) "PennyQueue$Tape" "sort" "I") ∈ lw_good := lw_goodC1 222 rfl rfl
theorem wd_223 : (Jvm.Cond.fieldLink "PennyQueue$Tape" (19 : Nat) "PennyQueue$Tape" "length" "I") ∈ lw_good := lw_goodC1 223 rfl rfl
theorem wd_224 : (Jvm.Cond.fieldLink "PennyQueue" (282 : Nat) "PennyQueue$Tape" "length" "I") ∈ lw_good := lw_goodC1 224 rfl rfl
theorem wd_225 : (Jvm.Cond.fieldLink "PennyQueue$Tape" (15 : Nat) "PennyQueue$Tape" "items" "[J") ∈ lw_good := lw_goodC1 225 rfl rfl
theorem wd_226 : (Jvm.Cond.fieldLink "PennyQueue" (240 : Nat) "PennyQueue$Tape" "items" "[J") ∈ lw_good := lw_goodC1 226 rfl rfl
theorem wd_227 : (Jvm.Cond.lays "PennyQueue$Tape" "PennyQueue$Tape" "sort" "I") ∈ lw_good := lw_goodC1 227 rfl rfl
theorem wd_229 : (Jvm.Cond.lays "PennyQueue$Tape" "PennyQueue$Tape" "length" "I") ∈ lw_good := lw_goodC1 229 rfl rfl
theorem wd_231 : (Jvm.Cond.laysFinal "PennyQueue$Tape" "PennyQueue$Tape" "items" "[J") ∈ lw_good := lw_goodC1 231 rfl rfl
theorem wd_233 : (Jvm.Cond.superclass "PennyQueue$Tape" "java/lang/Object") ∈ lw_good := lw_goodC1 233 rfl rfl
theorem wd_234 : (Jvm.Cond.arrayClass Jvm.ClassFile.FieldType.long) ∈ lw_good := lw_goodC1 234 rfl rfl
theorem wd_235 : (Jvm.Cond.fieldLink "PennyQueue" (13 : Nat) "PennyQueue" "sorts" "[[I") ∈ lw_good := lw_goodC1 235 rfl rfl
theorem wd_236 : (Jvm.Cond.fieldLink "PennyQueue" (81 : Nat) "PennyQueue" "sortCount" "I") ∈ lw_good := lw_goodC1 236 rfl rfl
theorem wd_237 : (Jvm.Cond.fieldLink "PennyQueue" (16 : Nat) "PennyQueue" "text" "[B") ∈ lw_good := lw_goodC1 237 rfl rfl
theorem wd_238 : (Jvm.Cond.fieldLink "PennyQueue" (92 : Nat) "PennyQueue" "textLength" "I") ∈ lw_good := lw_goodC1 238 rfl rfl
theorem wd_239 : (Jvm.Cond.fieldLink "PennyQueue" (22 : Nat) "PennyQueue" "windows" "[LPennyQueue$Window;") ∈ lw_good := lw_goodC1 239 rfl rfl
theorem wd_240 : (Jvm.Cond.fieldLink "PennyQueue" (27 : Nat) "PennyQueue" "bare" "LPennyQueue$Window;") ∈ lw_good := lw_goodC2 0 rfl rfl
theorem wd_241 : (Jvm.Cond.fieldLink "PennyQueue" (95 : Nat) "PennyQueue" "windowCount" "I") ∈ lw_good := lw_goodC2 1 rfl rfl
theorem wd_242 : (Jvm.Cond.fieldLink "PennyQueue" (33 : Nat) "PennyQueue" "orders" "[LPennyQueue$Order;") ∈ lw_good := lw_goodC2 2 rfl rfl
theorem wd_243 : (Jvm.Cond.fieldLink "PennyQueue" (40 : Nat) "PennyQueue" "plain" "LPennyQueue$Order;") ∈ lw_good := lw_goodC2 3 rfl rfl
theorem wd_244 : (Jvm.Cond.fieldLink "PennyQueue" (124 : Nat) "PennyQueue" "orderCount" "I") ∈ lw_good := lw_goodC2 4 rfl rfl
theorem wd_245 : (Jvm.Cond.fieldLink "PennyQueue" (251 : Nat) "PennyQueue" "acted" "LPennyQueue$Order;") ∈ lw_good := lw_goodC2 5 rfl rfl
theorem wd_246 : (Jvm.Cond.fieldLink "PennyQueue" (47 : Nat) "PennyQueue" "day" "LPennyQueue$Day;") ∈ lw_good := lw_goodC2 6 rfl rfl
theorem wd_247 : (Jvm.Cond.fieldLink "PennyQueue" (51 : Nat) "PennyQueue" "imaged" "LPennyQueue$Day;") ∈ lw_good := lw_goodC2 7 rfl rfl
theorem wd_248 : (Jvm.Cond.fieldLink "PennyQueue" (54 : Nat) "PennyQueue" "trial" "LPennyQueue$Day;") ∈ lw_good := lw_goodC2 8 rfl rfl
theorem wd_249 : (Jvm.Cond.fieldLink "PennyQueue" (247 : Nat) "PennyQueue" "imageTaken" "Z") ∈ lw_good := lw_goodC2 9 rfl rfl
theorem wd_250 : (Jvm.Cond.fieldLink "PennyQueue" (244 : Nat) "PennyQueue" "imagedSorts" "I") ∈ lw_good := lw_goodC2 10 rfl rfl
theorem wd_251 : (Jvm.Cond.fieldLink "PennyQueue" (62 : Nat) "PennyQueue" "hour" "LPennyQueue$Hour;") ∈ lw_good := lw_goodC2 11 rfl rfl
theorem wd_252 : (Jvm.Cond.fieldLink "PennyQueue" (66 : Nat) "PennyQueue" "losses" "[I") ∈ lw_good := lw_goodC2 12 rfl rfl
theorem wd_253 : (Jvm.Cond.fieldLink "PennyQueue" (72 : Nat) "PennyQueue" "tapes" "[LPennyQueue$Tape;") ∈ lw_good := lw_goodC2 13 rfl rfl
theorem wd_254 : (Jvm.Cond.laysFinal "PennyQueue" "PennyQueue" "sorts" "[[I") ∈ lw_good := lw_goodC2 14 rfl rfl
theorem wd_256 : (Jvm.Cond.lays "PennyQueue" "PennyQueue" "sortCount" "I") ∈ lw_good := lw_goodC2 16 rfl rfl
theorem wd_258 : (Jvm.Cond.laysFinal "PennyQueue" "PennyQueue" "text" "[B") ∈ lw_good := lw_goodC2 18 rfl rfl
theorem wd_260 : (Jvm.Cond.lays "PennyQueue" "PennyQueue" "textLength" "I") ∈ lw_good := lw_goodC2 20 rfl rfl
theorem wd_262 : (Jvm.Cond.laysFinal "PennyQueue" "PennyQueue" "windows" "[LPennyQueue$Window;") ∈ lw_good := lw_goodC2 22 rfl rfl
theorem wd_264 : (Jvm.Cond.laysFinal "PennyQueue" "PennyQueue" "bare" "LPennyQueue$Window;") ∈ lw_good := lw_goodC2 24 rfl rfl
theorem wd_266 : (Jvm.Cond.lays "PennyQueue" "PennyQueue" "windowCount" "I") ∈ lw_good := lw_goodC2 26 rfl rfl
theorem wd_268 : (Jvm.Cond.laysFinal "PennyQueue" "PennyQueue" "orders" "[LPennyQueue$Order;") ∈ lw_good := lw_goodC2 28 rfl rfl
theorem wd_270 : (Jvm.Cond.laysFinal "PennyQueue" "PennyQueue" "plain" "LPennyQueue$Order;") ∈ lw_good := lw_goodC2 30 rfl rfl
theorem wd_272 : (Jvm.Cond.lays "PennyQueue" "PennyQueue" "orderCount" "I") ∈ lw_good := lw_goodC2 32 rfl rfl
theorem wd_274 : (Jvm.Cond.lays "PennyQueue" "PennyQueue" "acted" "LPennyQueue$Order;") ∈ lw_good := lw_goodC2 34 rfl rfl
theorem wd_276 : (Jvm.Cond.laysFinal "PennyQueue" "PennyQueue" "day" "LPennyQueue$Day;") ∈ lw_good := lw_goodC2 36 rfl rfl
theorem wd_278 : (Jvm.Cond.laysFinal "PennyQueue" "PennyQueue" "imaged" "LPennyQueue$Day;") ∈ lw_good := lw_goodC2 38 rfl rfl
theorem wd_280 : (Jvm.Cond.laysFinal "PennyQueue" "PennyQueue" "trial" "LPennyQueue$Day;") ∈ lw_good := lw_goodC2 40 rfl rfl
theorem wd_282 : (Jvm.Cond.lays "PennyQueue" "PennyQueue" "imageTaken" "Z") ∈ lw_good := lw_goodC2 42 rfl rfl
theorem wd_284 : (Jvm.Cond.lays "PennyQueue" "PennyQueue" "imagedSorts" "I") ∈ lw_good := lw_goodC2 44 rfl rfl
theorem wd_286 : (Jvm.Cond.laysFinal "PennyQueue" "PennyQueue" "hour" "LPennyQueue$Hour;") ∈ lw_good := lw_goodC2 46 rfl rfl
theorem wd_288 : (Jvm.Cond.laysFinal "PennyQueue" "PennyQueue" "losses" "[I") ∈ lw_good := lw_goodC2 48 rfl rfl
theorem wd_290 : (Jvm.Cond.laysFinal "PennyQueue" "PennyQueue" "tapes" "[LPennyQueue$Tape;") ∈ lw_good := lw_goodC2 50 rfl rfl
theorem wd_292 : (Jvm.Cond.superclass "PennyQueue" "java/lang/Object") ∈ lw_good := lw_goodC2 52 rfl rfl
theorem wd_293 : (Jvm.Cond.methodLink "PennyQueueLaw" (13 : Nat) ({ cls := "PennyQueue", name := "sort", desc := "(IIII)I" } : Jvm.MethodName)) ∈ lw_good := lw_goodC2 53 rfl rfl
theorem wd_294 : (Jvm.Cond.instanceMethod ({ cls := "PennyQueue", name := "sort", desc := "(IIII)I" } : Jvm.MethodName)) ∈ lw_good := lw_goodC2 54 rfl rfl
theorem wd_295 : (Jvm.Cond.selects "PennyQueue" ({ cls := "PennyQueue", name := "sort", desc := "(IIII)I" } : Jvm.MethodName) ({ cls := "PennyQueue", name := "sort", desc := "(IIII)I" } : Jvm.MethodName)) ∈ lw_good := lw_goodC2 55 rfl rfl
theorem wd_296 : (Jvm.Cond.code ({ cls := "PennyQueue", name := "sort", desc := "(IIII)I" } : Jvm.MethodName) prog_1_method_2_code (6 : Nat) (Option.some Jvm.ClassFile.FieldType.int)) ∈ lw_good := lw_goodC2 56 rfl rfl
theorem wd_297 : (Jvm.Cond.methodLink "PennyQueue" (77 : Nat) ({ cls := "PennyQueue", name := "outside", desc := "(III)Z" } : Jvm.MethodName)) ∈ lw_good := lw_goodC2 57 rfl rfl
theorem wd_298 : (Jvm.Cond.static ({ cls := "PennyQueue", name := "outside", desc := "(III)Z" } : Jvm.MethodName)) ∈ lw_good := lw_goodC2 58 rfl rfl
theorem wd_299 : (Jvm.Cond.code ({ cls := "PennyQueue", name := "outside", desc := "(III)Z" } : Jvm.MethodName) prog_1_method_34_code (3 : Nat) (Option.some Jvm.ClassFile.FieldType.boolean)) ∈ lw_good := lw_goodC2 59 rfl rfl
theorem wd_300 : (Jvm.Cond.methodLink "PennyQueueLaw" (18 : Nat) ({ cls := "PennyQueue", name := "of", desc := "(II)I" } : Jvm.MethodName)) ∈ lw_good := lw_goodC2 60 rfl rfl
theorem wd_301 : (Jvm.Cond.instanceMethod ({ cls := "PennyQueue", name := "of", desc := "(II)I" } : Jvm.MethodName)) ∈ lw_good := lw_goodC2 61 rfl rfl
theorem wd_302 : (Jvm.Cond.selects "PennyQueue" ({ cls := "PennyQueue", name := "of", desc := "(II)I" } : Jvm.MethodName) ({ cls := "PennyQueue", name := "of", desc := "(II)I" } : Jvm.MethodName)) ∈ lw_good := lw_goodC2 62 rfl rfl
theorem wd_303 : (Jvm.Cond.code ({ cls := "PennyQueue", name := "of", desc := "(II)I" } : Jvm.MethodName) prog_1_method_3_code (3 : Nat) (Option.some Jvm.ClassFile.FieldType.int)) ∈ lw_good := lw_goodC2 63 rfl rfl
theorem wd_304 : (Jvm.Cond.methodLink "PennyQueue" (88 : Nat) ({ cls := "PennyQueue", name := "noSort", desc := "(I)Z" } : Jvm.MethodName)) ∈ lw_good := lw_goodC2 64 rfl rfl
theorem wd_306 : (Jvm.Cond.instanceMethod ({ cls := "PennyQueue", name := "noSort", desc := "(I)Z" } : Jvm.MethodName)) ∈ lw_good := lw_goodC2 66 rfl rfl
theorem wd_307 : (Jvm.Cond.code ({ cls := "PennyQueue", name := "noSort", desc := "(I)Z" } : Jvm.MethodName) prog_1_method_35_code (2 : Nat) (Option.some Jvm.ClassFile.FieldType.boolean)) ∈ lw_good := lw_goodC2 67 rfl rfl
theorem wd_308 : (Jvm.Cond.methodLink "PennyQueueLaw" (23 : Nat) ({ cls := "PennyQueue", name := "odds", desc := "(II)I" } : Jvm.MethodName)) ∈ lw_good := lw_goodC2 68 rfl rfl
theorem wd_309 : (Jvm.Cond.instanceMethod ({ cls := "PennyQueue", name := "odds", desc := "(II)I" } : Jvm.MethodName)) ∈ lw_good := lw_goodC2 69 rfl rfl
theorem wd_310 : (Jvm.Cond.selects "PennyQueue" ({ cls := "PennyQueue", name := "odds", desc := "(II)I" } : Jvm.MethodName) ({ cls := "PennyQueue", name := "odds", desc := "(II)I" } : Jvm.MethodName)) ∈ lw_good := lw_goodC2 70 rfl rfl
theorem wd_311 : (Jvm.Cond.code ({ cls := "PennyQueue", name := "odds", desc := "(II)I" } : Jvm.MethodName) prog_1_method_4_code (4 : Nat) (Option.some Jvm.ClassFile.FieldType.int)) ∈ lw_good := lw_goodC2 71 rfl rfl
theorem wd_312 : (Jvm.Cond.methodLink "PennyQueueLaw" (27 : Nat) ({ cls := "PennyQueue", name := "feed", desc := "(II)I" } : Jvm.MethodName)) ∈ lw_good := lw_goodC2 72 rfl rfl
theorem wd_313 : (Jvm.Cond.instanceMethod ({ cls := "PennyQueue", name := "feed", desc := "(II)I" } : Jvm.MethodName)) ∈ lw_good := lw_goodC2 73 rfl rfl
theorem wd_314 : (Jvm.Cond.selects "PennyQueue" ({ cls := "PennyQueue", name := "feed", desc := "(II)I" } : Jvm.MethodName) ({ cls := "PennyQueue", name := "feed", desc := "(II)I" } : Jvm.MethodName)) ∈ lw_good := lw_goodC2 74 rfl rfl
theorem wd_315 : (Jvm.Cond.code ({ cls := "PennyQueue", name := "feed", desc := "(II)I" } : Jvm.MethodName) prog_1_method_5_code (4 : Nat) (Option.some Jvm.ClassFile.FieldType.int)) ∈ lw_good := lw_goodC2 75 rfl rfl
theorem wd_316 : (Jvm.Cond.methodLink "PennyQueueLaw" (31 : Nat) ({ cls := "PennyQueue", name := "window", desc := "()I" } : Jvm.MethodName)) ∈ lw_good := lw_goodC2 76 rfl rfl
theorem wd_317 : (Jvm.Cond.instanceMethod ({ cls := "PennyQueue", name := "window", desc := "()I" } : Jvm.MethodName)) ∈ lw_good := lw_goodC2 77 rfl rfl
theorem wd_318 : (Jvm.Cond.selects "PennyQueue" ({ cls := "PennyQueue", name := "window", desc := "()I" } : Jvm.MethodName) ({ cls := "PennyQueue", name := "window", desc := "()I" } : Jvm.MethodName)) ∈ lw_good := lw_goodC2 78 rfl rfl
theorem wd_319 : (Jvm.Cond.code ({ cls := "PennyQueue", name := "window", desc := "()I" } : Jvm.MethodName) prog_1_method_6_code (2 : Nat) (Option.some Jvm.ClassFile.FieldType.int)) ∈ lw_good := lw_goodC2 79 rfl rfl
theorem wd_320 : (Jvm.Cond.methodLink "PennyQueue" (98 : Nat) ({ cls := "PennyQueue$Window", name := "parse", desc := "([BI)I" } : Jvm.MethodName)) ∈ lw_good := lw_goodC2 80 rfl rfl
theorem wd_321 : (Jvm.Cond.instanceMethod ({ cls := "PennyQueue$Window", name := "parse", desc := "([BI)I" } : Jvm.MethodName)) ∈ lw_good := lw_goodC2 81 rfl rfl
theorem wd_322 : (Jvm.Cond.selects "PennyQueue$Window" ({ cls := "PennyQueue$Window", name := "parse", desc := "([BI)I" } : Jvm.MethodName) ({ cls := "PennyQueue$Window", name := "parse", desc := "([BI)I" } : Jvm.MethodName)) ∈ lw_good := lw_goodC2 82 rfl rfl
theorem wd_323 : (Jvm.Cond.code ({ cls := "PennyQueue$Window", name := "parse", desc := "([BI)I" } : Jvm.MethodName) prog_12_method_2_code (5 : Nat) (Option.some Jvm.ClassFile.FieldType.int)) ∈ lw_good := lw_goodC2 83 rfl rfl
theorem wd_324 : (Jvm.Cond.methodLink "PennyQueue$Window" (47 : Nat) ({ cls := "PennyQueue$Window", name := "skip", desc := "(C)Z" } : Jvm.MethodName)) ∈ lw_good := lw_goodC2 84 rfl rfl
theorem wd_326 : (Jvm.Cond.instanceMethod ({ cls := "PennyQueue$Window", name := "skip", desc := "(C)Z" } : Jvm.MethodName)) ∈ lw_good := lw_goodC2 86 rfl rfl
theorem wd_327 : (Jvm.Cond.code ({ cls := "PennyQueue$Window", name := "skip", desc := "(C)Z" } : Jvm.MethodName) prog_12_method_16_code (2 : Nat) (Option.some Jvm.ClassFile.FieldType.boolean)) ∈ lw_good := lw_goodC2 87 rfl rfl
theorem wd_328 : (Jvm.Cond.methodLink "PennyQueue$Window" (51 : Nat) ({ cls := "PennyQueue$Window", name := "comeClause", desc := "()Z" } : Jvm.MethodName)) ∈ lw_good := lw_goodC2 88 rfl rfl
theorem wd_330 : (Jvm.Cond.instanceMethod ({ cls := "PennyQueue$Window", name := "comeClause", desc := "()Z" } : Jvm.MethodName)) ∈ lw_good := lw_goodC2 90 rfl rfl
theorem wd_331 : (Jvm.Cond.code ({ cls := "PennyQueue$Window", name := "comeClause", desc := "()Z" } : Jvm.MethodName) prog_12_method_6_code (2 : Nat) (Option.some Jvm.ClassFile.FieldType.boolean)) ∈ lw_good := lw_goodC2 91 rfl rfl
theorem wd_333 : (Jvm.Cond.methodLink "PennyQueue$Window" (68 : Nat) ({ cls := "PennyQueue$Window", name := "word", desc := "(Ljava/lang/String;)Z" } : Jvm.MethodName)) ∈ lw_good := lw_goodC2 93 rfl rfl
theorem wd_335 : (Jvm.Cond.instanceMethod ({ cls := "PennyQueue$Window", name := "word", desc := "(Ljava/lang/String;)Z" } : Jvm.MethodName)) ∈ lw_good := lw_goodC2 95 rfl rfl
theorem wd_336 : (Jvm.Cond.code ({ cls := "PennyQueue$Window", name := "word", desc := "(Ljava/lang/String;)Z" } : Jvm.MethodName) prog_12_method_17_code (3 : Nat) (Option.some Jvm.ClassFile.FieldType.boolean)) ∈ lw_good := lw_goodC2 96 rfl rfl
theorem wd_337 : (Jvm.Cond.methodLink "PennyQueue$Window" (121 : Nat) ({ cls := "java/lang/String", name := "length", desc := "()I" } : Jvm.MethodName)) ∈ lw_good := lw_goodC2 97 rfl rfl
theorem wd_338 : (Jvm.Cond.instanceMethod ({ cls := "java/lang/String", name := "length", desc := "()I" } : Jvm.MethodName)) ∈ lw_good := lw_goodC2 98 rfl rfl
theorem wd_339 : (Jvm.Cond.selects "java/lang/String" ({ cls := "java/lang/String", name := "length", desc := "()I" } : Jvm.MethodName) ({ cls := "java/lang/String", name := "length", desc := "()I" } : Jvm.MethodName)) ∈ lw_good := lw_goodC2 99 rfl rfl
theorem wd_340 : (Jvm.Cond.code ({ cls := "java/lang/String", name := "length", desc := "()I" } : Jvm.MethodName) prog_16_method_54_code (1 : Nat) (Option.some Jvm.ClassFile.FieldType.int)) ∈ lw_good := lw_goodC2 100 rfl rfl
theorem wd_341 : (Jvm.Cond.methodLink "java/lang/String" (335 : Nat) ({ cls := "java/lang/String", name := "coder", desc := "()B" } : Jvm.MethodName)) ∈ lw_good := lw_goodC2 101 rfl rfl
theorem wd_342 : (Jvm.Cond.instanceMethod ({ cls := "java/lang/String", name := "coder", desc := "()B" } : Jvm.MethodName)) ∈ lw_good := lw_goodC2 102 rfl rfl
theorem wd_343 : (Jvm.Cond.selects "java/lang/String" ({ cls := "java/lang/String", name := "coder", desc := "()B" } : Jvm.MethodName) ({ cls := "java/lang/String", name := "coder", desc := "()B" } : Jvm.MethodName)) ∈ lw_good := lw_goodC2 103 rfl rfl
theorem wd_344 : (Jvm.Cond.code ({ cls := "java/lang/String", name := "coder", desc := "()B" } : Jvm.MethodName) prog_16_method_152_code (1 : Nat) (Option.some Jvm.ClassFile.FieldType.byte)) ∈ lw_good := lw_goodC2 104 rfl rfl
theorem wd_345 : (Jvm.Cond.fieldLink "java/lang/String" (38 : Nat) "java/lang/String" "COMPACT_STRINGS" "Z") ∈ lw_good := lw_goodC2 105 rfl rfl
theorem wd_347 : (Jvm.Cond.methodLink "PennyQueue$Window" (125 : Nat) ({ cls := "java/lang/String", name := "charAt", desc := "(I)C" } : Jvm.MethodName)) ∈ lw_good := lw_goodC2 107 rfl rfl
theorem wd_348 : (Jvm.Cond.instanceMethod ({ cls := "java/lang/String", name := "charAt", desc := "(I)C" } : Jvm.MethodName)) ∈ lw_good := lw_goodC2 108 rfl rfl
theorem wd_349 : (Jvm.Cond.selects "java/lang/String" ({ cls := "java/lang/String", name := "charAt", desc := "(I)C" } : Jvm.MethodName) ({ cls := "java/lang/String", name := "charAt", desc := "(I)C" } : Jvm.MethodName)) ∈ lw_good := lw_goodC2 109 rfl rfl
theorem wd_350 : (Jvm.Cond.code ({ cls := "java/lang/String", name := "charAt", desc := "(I)C" } : Jvm.MethodName) prog_16_method_56_code (2 : Nat) (Option.some Jvm.ClassFile.FieldType.char)) ∈ lw_good := lw_goodC2 110 rfl rfl
theorem wd_351 : (Jvm.Cond.methodLink "java/lang/String" (492 : Nat) ({ cls := "java/lang/String", name := "isLatin1", desc := "()Z" } : Jvm.MethodName)) ∈ lw_good := lw_goodC2 111 rfl rfl
theorem wd_352 : (Jvm.Cond.instanceMethod ({ cls := "java/lang/String", name := "isLatin1", desc := "()Z" } : Jvm.MethodName)) ∈ lw_good := lw_goodC2 112 rfl rfl
theorem wd_353 : (Jvm.Cond.selects "java/lang/String" ({ cls := "java/lang/String", name := "isLatin1", desc := "()Z" } : Jvm.MethodName) ({ cls := "java/lang/String", name := "isLatin1", desc := "()Z" } : Jvm.MethodName)) ∈ lw_good := lw_goodC2 113 rfl rfl
theorem wd_354 : (Jvm.Cond.code ({ cls := "java/lang/String", name := "isLatin1", desc := "()Z" } : Jvm.MethodName) prog_16_method_154_code (1 : Nat) (Option.some Jvm.ClassFile.FieldType.boolean)) ∈ lw_good := lw_goodC2 114 rfl rfl
theorem wd_355 : (Jvm.Cond.methodLink "java/lang/String" (495 : Nat) ({ cls := "java/lang/StringLatin1", name := "charAt", desc := "([BI)C" } : Jvm.MethodName)) ∈ lw_good := lw_goodC2 115 rfl rfl
theorem wd_356 : (Jvm.Cond.static ({ cls := "java/lang/StringLatin1", name := "charAt", desc := "([BI)C" } : Jvm.MethodName)) ∈ lw_good := lw_goodC2 116 rfl rfl
theorem wd_357 : (Jvm.Cond.code ({ cls := "java/lang/StringLatin1", name := "charAt", desc := "([BI)C" } : Jvm.MethodName) prog_17_method_2_code (2 : Nat) (Option.some Jvm.ClassFile.FieldType.char)) ∈ lw_good := lw_goodC2 117 rfl rfl
theorem wd_358 : (Jvm.Cond.methodLink "java/lang/StringLatin1" (9 : Nat) ({ cls := "java/lang/String", name := "checkIndex", desc := "(II)V" } : Jvm.MethodName)) ∈ lw_good := lw_goodC2 118 rfl rfl
theorem wd_359 : (Jvm.Cond.static ({ cls := "java/lang/String", name := "checkIndex", desc := "(II)V" } : Jvm.MethodName)) ∈ lw_good := lw_goodC2 119 rfl rfl
theorem wd_360 : (Jvm.Cond.code ({ cls := "java/lang/String", name := "checkIndex", desc := "(II)V" } : Jvm.MethodName) prog_16_method_155_code (2 : Nat) (Option.none : Option Jvm.ClassFile.FieldType)) ∈ lw_good := lw_goodC2 120 rfl rfl
theorem wd_361 : (Jvm.Cond.fieldLink "java/lang/String" (1053 : Nat) "jdk/internal/util/Preconditions" "SIOOBE_FORMATTER" "Ljava/util/function/BiFunction;") ∈ lw_good := lw_goodC2 121 rfl rfl
theorem wd_363 : (Jvm.Cond.methodLink "java/lang/String" (1059 : Nat) ({ cls := "jdk/internal/util/Preconditions", name := "checkIndex", desc := "(IILjava/util/function/BiFunction;)I" } : Jvm.MethodName)) ∈ lw_good := lw_goodC2 123 rfl rfl
theorem wd_364 : (Jvm.Cond.static ({ cls := "jdk/internal/util/Preconditions", name := "checkIndex", desc := "(IILjava/util/function/BiFunction;)I" } : Jvm.MethodName)) ∈ lw_good := lw_goodC2 124 rfl rfl
theorem wd_365 : (Jvm.Cond.code ({ cls := "jdk/internal/util/Preconditions", name := "checkIndex", desc := "(IILjava/util/function/BiFunction;)I" } : Jvm.MethodName) prog_21_method_11_code (3 : Nat) (Option.some Jvm.ClassFile.FieldType.int)) ∈ lw_good := lw_goodC2 125 rfl rfl
theorem wd_366 : (Jvm.Cond.methodLink "java/lang/String" (498 : Nat) ({ cls := "java/lang/StringUTF16", name := "charAt", desc := "([BI)C" } : Jvm.MethodName)) ∈ lw_good := lw_goodC2 126 rfl rfl
theorem wd_367 : (Jvm.Cond.static ({ cls := "java/lang/StringUTF16", name := "charAt", desc := "([BI)C" } : Jvm.MethodName)) ∈ lw_good := lw_goodC2 127 rfl rfl
theorem wd_368 : (Jvm.Cond.code ({ cls := "java/lang/StringUTF16", name := "charAt", desc := "([BI)C" } : Jvm.MethodName) prog_18_method_83_code (2 : Nat) (Option.some Jvm.ClassFile.FieldType.char)) ∈ lw_good := lw_goodC2 128 rfl rfl
theorem wd_369 : (Jvm.Cond.methodLink "java/lang/StringUTF16" (67 : Nat) ({ cls := "java/lang/StringUTF16", name := "checkIndex", desc := "(I[B)V" } : Jvm.MethodName)) ∈ lw_good := lw_goodC2 129 rfl rfl
theorem wd_370 : (Jvm.Cond.static ({ cls := "java/lang/StringUTF16", name := "checkIndex", desc := "(I[B)V" } : Jvm.MethodName)) ∈ lw_good := lw_goodC2 130 rfl rfl
theorem wd_371 : (Jvm.Cond.code ({ cls := "java/lang/StringUTF16", name := "checkIndex", desc := "(I[B)V" } : Jvm.MethodName) prog_18_method_91_code (2 : Nat) (Option.none : Option Jvm.ClassFile.FieldType)) ∈ lw_good := lw_goodC2 131 rfl rfl
theorem wd_372 : (Jvm.Cond.methodLink "java/lang/StringUTF16" (48 : Nat) ({ cls := "java/lang/StringUTF16", name := "length", desc := "([B)I" } : Jvm.MethodName)) ∈ lw_good := lw_goodC2 132 rfl rfl
theorem wd_373 : (Jvm.Cond.static ({ cls := "java/lang/StringUTF16", name := "length", desc := "([B)I" } : Jvm.MethodName)) ∈ lw_good := lw_goodC2 133 rfl rfl
theorem wd_374 : (Jvm.Cond.code ({ cls := "java/lang/StringUTF16", name := "length", desc := "([B)I" } : Jvm.MethodName) prog_18_method_6_code (1 : Nat) (Option.some Jvm.ClassFile.FieldType.int)) ∈ lw_good := lw_goodC2 134 rfl rfl
theorem wd_375 : (Jvm.Cond.methodLink "java/lang/StringUTF16" (414 : Nat) ({ cls := "java/lang/String", name := "checkIndex", desc := "(II)V" } : Jvm.MethodName)) ∈ lw_good := lw_goodC2 135 rfl rfl
theorem wd_376 : (Jvm.Cond.methodLink "java/lang/StringUTF16" (71 : Nat) ({ cls := "java/lang/StringUTF16", name := "getChar", desc := "([BI)C" } : Jvm.MethodName)) ∈ lw_good := lw_goodC2 136 rfl rfl
theorem wd_377 : (Jvm.Cond.static ({ cls := "java/lang/StringUTF16", name := "getChar", desc := "([BI)C" } : Jvm.MethodName)) ∈ lw_good := lw_goodC2 137 rfl rfl
theorem wd_378 : (Jvm.Cond.code ({ cls := "java/lang/StringUTF16", name := "getChar", desc := "([BI)C" } : Jvm.MethodName) prog_18_method_5_code (2 : Nat) (Option.some Jvm.ClassFile.FieldType.char)) ∈ lw_good := lw_goodC2 138 rfl rfl
theorem wd_379 : (Jvm.Cond.fieldLink "java/lang/StringUTF16" (44 : Nat) "java/lang/StringUTF16" "$assertionsDisabled" "Z") ∈ lw_good := lw_goodC2 139 rfl rfl
theorem wd_381 : (Jvm.Cond.fieldLink "java/lang/StringUTF16" (59 : Nat) "java/lang/StringUTF16" "HI_BYTE_SHIFT" "I") ∈ lw_good := lw_goodC2 141 rfl rfl
theorem wd_383 : (Jvm.Cond.fieldLink "java/lang/StringUTF16" (63 : Nat) "java/lang/StringUTF16" "LO_BYTE_SHIFT" "I") ∈ lw_good := lw_goodC2 143 rfl rfl
theorem wd_385 : (Jvm.Cond.methodLink "PennyQueue$Window" (72 : Nat) ({ cls := "PennyQueue$Window", name := "digit", desc := "()I" } : Jvm.MethodName)) ∈ lw_good := lw_goodC2 145 rfl rfl
theorem wd_387 : (Jvm.Cond.instanceMethod ({ cls := "PennyQueue$Window", name := "digit", desc := "()I" } : Jvm.MethodName)) ∈ lw_good := lw_goodC2 147 rfl rfl
theorem wd_388 : (Jvm.Cond.code ({ cls := "PennyQueue$Window", name := "digit", desc := "()I" } : Jvm.MethodName) prog_12_method_15_code (1 : Nat) (Option.some Jvm.ClassFile.FieldType.int)) ∈ lw_good := lw_goodC2 148 rfl rfl
theorem wd_389 : (Jvm.Cond.methodLink "PennyQueue$Window" (76 : Nat) ({ cls := "PennyQueue$Window", name := "either", desc := "(I)Z" } : Jvm.MethodName)) ∈ lw_good := lw_goodC2 149 rfl rfl
theorem wd_391 : (Jvm.Cond.instanceMethod ({ cls := "PennyQueue$Window", name := "either", desc := "(I)Z" } : Jvm.MethodName)) ∈ lw_good := lw_goodC2 151 rfl rfl
theorem wd_392 : (Jvm.Cond.code ({ cls := "PennyQueue$Window", name := "either", desc := "(I)Z" } : Jvm.MethodName) prog_12_method_9_code (3 : Nat) (Option.some Jvm.ClassFile.FieldType.boolean)) ∈ lw_good := lw_goodC2 152 rfl rfl
theorem wd_393 : (Jvm.Cond.methodLink "PennyQueue$Window" (100 : Nat) ({ cls := "PennyQueue$Window", name := "both", desc := "(I)Z" } : Jvm.MethodName)) ∈ lw_good := lw_goodC2 153 rfl rfl
theorem wd_395 : (Jvm.Cond.instanceMethod ({ cls := "PennyQueue$Window", name := "both", desc := "(I)Z" } : Jvm.MethodName)) ∈ lw_good := lw_goodC2 155 rfl rfl
theorem wd_396 : (Jvm.Cond.code ({ cls := "PennyQueue$Window", name := "both", desc := "(I)Z" } : Jvm.MethodName) prog_12_method_10_code (3 : Nat) (Option.some Jvm.ClassFile.FieldType.boolean)) ∈ lw_good := lw_goodC2 156 rfl rfl
theorem wd_397 : (Jvm.Cond.methodLink "PennyQueue$Window" (107 : Nat) ({ cls := "PennyQueue$Window", name := "factor", desc := "(I)Z" } : Jvm.MethodName)) ∈ lw_good := lw_goodC2 157 rfl rfl
theorem wd_399 : (Jvm.Cond.instanceMethod ({ cls := "PennyQueue$Window", name := "factor", desc := "(I)Z" } : Jvm.MethodName)) ∈ lw_good := lw_goodC2 159 rfl rfl
theorem wd_400 : (Jvm.Cond.code ({ cls := "PennyQueue$Window", name := "factor", desc := "(I)Z" } : Jvm.MethodName) prog_12_method_11_code (2 : Nat) (Option.some Jvm.ClassFile.FieldType.boolean)) ∈ lw_good := lw_goodC2 160 rfl rfl
theorem wd_401 : (Jvm.Cond.methodLink "PennyQueue$Window" (103 : Nat) ({ cls := "PennyQueue$Window", name := "step", desc := "(I)V" } : Jvm.MethodName)) ∈ lw_good := lw_goodC2 161 rfl rfl
theorem wd_403 : (Jvm.Cond.instanceMethod ({ cls := "PennyQueue$Window", name := "step", desc := "(I)V" } : Jvm.MethodName)) ∈ lw_good := lw_goodC2 163 rfl rfl
theorem wd_404 : (Jvm.Cond.code ({ cls := "PennyQueue$Window", name := "step", desc := "(I)V" } : Jvm.MethodName) prog_12_method_13_code (2 : Nat) (Option.none : Option Jvm.ClassFile.FieldType)) ∈ lw_good := lw_goodC2 164 rfl rfl
theorem wd_405 : (Jvm.Cond.methodLink "PennyQueue$Window" (110 : Nat) ({ cls := "PennyQueue$Window", name := "test", desc := "()Z" } : Jvm.MethodName)) ∈ lw_good := lw_goodC2 165 rfl rfl
theorem wd_407 : (Jvm.Cond.instanceMethod ({ cls := "PennyQueue$Window", name := "test", desc := "()Z" } : Jvm.MethodName)) ∈ lw_good := lw_goodC2 167 rfl rfl
theorem wd_408 : (Jvm.Cond.code ({ cls := "PennyQueue$Window", name := "test", desc := "()Z" } : Jvm.MethodName) prog_12_method_12_code (4 : Nat) (Option.some Jvm.ClassFile.FieldType.boolean)) ∈ lw_good := lw_goodC2 168 rfl rfl
theorem wd_410 : (Jvm.Cond.methodLink "PennyQueue$Window" (115 : Nat) ({ cls := "PennyQueue$Window", name := "oneOf", desc := "(Ljava/lang/String;)I" } : Jvm.MethodName)) ∈ lw_good := lw_goodC2 170 rfl rfl
theorem wd_412 : (Jvm.Cond.instanceMethod ({ cls := "PennyQueue$Window", name := "oneOf", desc := "(Ljava/lang/String;)I" } : Jvm.MethodName)) ∈ lw_good := lw_goodC2 172 rfl rfl
theorem wd_413 : (Jvm.Cond.code ({ cls := "PennyQueue$Window", name := "oneOf", desc := "(Ljava/lang/String;)I" } : Jvm.MethodName) prog_12_method_18_code (3 : Nat) (Option.some Jvm.ClassFile.FieldType.int)) ∈ lw_good := lw_goodC2 173 rfl rfl
theorem wd_415 : (Jvm.Cond.methodLink "PennyQueue$Window" (83 : Nat) ({ cls := "PennyQueue$Window", name := "number", desc := "()I" } : Jvm.MethodName)) ∈ lw_good := lw_goodC2 175 rfl rfl
theorem wd_417 : (Jvm.Cond.instanceMethod ({ cls := "PennyQueue$Window", name := "number", desc := "()I" } : Jvm.MethodName)) ∈ lw_good := lw_goodC2 177 rfl rfl
theorem wd_418 : (Jvm.Cond.code ({ cls := "PennyQueue$Window", name := "number", desc := "()I" } : Jvm.MethodName) prog_12_method_14_code (3 : Nat) (Option.some Jvm.ClassFile.FieldType.int)) ∈ lw_good := lw_goodC2 178 rfl rfl
theorem wd_419 : (Jvm.Cond.methodLink "PennyQueue$Window" (55 : Nat) ({ cls := "PennyQueue$Window", name := "numberClause", desc := "()Z" } : Jvm.MethodName)) ∈ lw_good := lw_goodC2 179 rfl rfl
theorem wd_421 : (Jvm.Cond.instanceMethod ({ cls := "PennyQueue$Window", name := "numberClause", desc := "()Z" } : Jvm.MethodName)) ∈ lw_good := lw_goodC2 181 rfl rfl
theorem wd_422 : (Jvm.Cond.code ({ cls := "PennyQueue$Window", name := "numberClause", desc := "()Z" } : Jvm.MethodName) prog_12_method_7_code (3 : Nat) (Option.some Jvm.ClassFile.FieldType.boolean)) ∈ lw_good := lw_goodC2 182 rfl rfl
theorem wd_423 : (Jvm.Cond.methodLink "PennyQueue$Window" (80 : Nat) ({ cls := "PennyQueue$Window", name := "numberWord", desc := "()I" } : Jvm.MethodName)) ∈ lw_good := lw_goodC2 183 rfl rfl
theorem wd_425 : (Jvm.Cond.instanceMethod ({ cls := "PennyQueue$Window", name := "numberWord", desc := "()I" } : Jvm.MethodName)) ∈ lw_good := lw_goodC2 185 rfl rfl
theorem wd_426 : (Jvm.Cond.code ({ cls := "PennyQueue$Window", name := "numberWord", desc := "()I" } : Jvm.MethodName) prog_12_method_8_code (1 : Nat) (Option.some Jvm.ClassFile.FieldType.int)) ∈ lw_good := lw_goodC2 186 rfl rfl
theorem wd_431 : (Jvm.Cond.methodLink "PennyQueue$Window" (86 : Nat) ({ cls := "java/lang/Math", name := "min", desc := "(II)I" } : Jvm.MethodName)) ∈ lw_good := lw_goodC2 191 rfl rfl
theorem wd_432 : (Jvm.Cond.static ({ cls := "java/lang/Math", name := "min", desc := "(II)I" } : Jvm.MethodName)) ∈ lw_good := lw_goodC2 192 rfl rfl
theorem wd_433 : (Jvm.Cond.code ({ cls := "java/lang/Math", name := "min", desc := "(II)I" } : Jvm.MethodName) prog_15_method_69_code (2 : Nat) (Option.some Jvm.ClassFile.FieldType.int)) ∈ lw_good := lw_goodC2 193 rfl rfl
theorem wd_434 : (Jvm.Cond.methodLink "PennyQueueLaw" (36 : Nat) ({ cls := "PennyQueue", name := "told", desc := "(I)I" } : Jvm.MethodName)) ∈ lw_good := lw_goodC2 194 rfl rfl
theorem wd_435 : (Jvm.Cond.instanceMethod ({ cls := "PennyQueue", name := "told", desc := "(I)I" } : Jvm.MethodName)) ∈ lw_good := lw_goodC2 195 rfl rfl
theorem wd_436 : (Jvm.Cond.selects "PennyQueue" ({ cls := "PennyQueue", name := "told", desc := "(I)I" } : Jvm.MethodName) ({ cls := "PennyQueue", name := "told", desc := "(I)I" } : Jvm.MethodName)) ∈ lw_good := lw_goodC2 196 rfl rfl
theorem wd_437 : (Jvm.Cond.code ({ cls := "PennyQueue", name := "told", desc := "(I)I" } : Jvm.MethodName) prog_1_method_7_code (2 : Nat) (Option.some Jvm.ClassFile.FieldType.int)) ∈ lw_good := lw_goodC2 197 rfl rfl
theorem wd_438 : (Jvm.Cond.methodLink "PennyQueue" (105 : Nat) ({ cls := "PennyQueue", name := "held", desc := "()LPennyQueue$Window;" } : Jvm.MethodName)) ∈ lw_good := lw_goodC2 198 rfl rfl
theorem wd_440 : (Jvm.Cond.instanceMethod ({ cls := "PennyQueue", name := "held", desc := "()LPennyQueue$Window;" } : Jvm.MethodName)) ∈ lw_good := lw_goodC2 200 rfl rfl
theorem wd_441 : (Jvm.Cond.code ({ cls := "PennyQueue", name := "held", desc := "()LPennyQueue$Window;" } : Jvm.MethodName) prog_1_method_38_code (1 : Nat) (Option.some (Jvm.ClassFile.FieldType.object "PennyQueue$Window"))) ∈ lw_good := lw_goodC2 201 rfl rfl
theorem wd_442 : (Jvm.Cond.methodLink "PennyQueueLaw" (41 : Nat) ({ cls := "PennyQueue", name := "come", desc := "(II)I" } : Jvm.MethodName)) ∈ lw_good := lw_goodC2 202 rfl rfl
theorem wd_443 : (Jvm.Cond.instanceMethod ({ cls := "PennyQueue", name := "come", desc := "(II)I" } : Jvm.MethodName)) ∈ lw_good := lw_goodC2 203 rfl rfl
theorem wd_444 : (Jvm.Cond.selects "PennyQueue" ({ cls := "PennyQueue", name := "come", desc := "(II)I" } : Jvm.MethodName) ({ cls := "PennyQueue", name := "come", desc := "(II)I" } : Jvm.MethodName)) ∈ lw_good := lw_goodC2 204 rfl rfl
theorem wd_445 : (Jvm.Cond.code ({ cls := "PennyQueue", name := "come", desc := "(II)I" } : Jvm.MethodName) prog_1_method_8_code (3 : Nat) (Option.some Jvm.ClassFile.FieldType.int)) ∈ lw_good := lw_goodC2 205 rfl rfl
theorem wd_446 : (Jvm.Cond.methodLink "PennyQueue" (121 : Nat) ({ cls := "PennyQueue$Day", name := "tell", desc := "(II)V" } : Jvm.MethodName)) ∈ lw_good := lw_goodC2 206 rfl rfl
theorem wd_447 : (Jvm.Cond.instanceMethod ({ cls := "PennyQueue$Day", name := "tell", desc := "(II)V" } : Jvm.MethodName)) ∈ lw_good := lw_goodC2 207 rfl rfl
theorem wd_448 : (Jvm.Cond.selects "PennyQueue$Day" ({ cls := "PennyQueue$Day", name := "tell", desc := "(II)V" } : Jvm.MethodName) ({ cls := "PennyQueue$Day", name := "tell", desc := "(II)V" } : Jvm.MethodName)) ∈ lw_good := lw_goodC2 208 rfl rfl
theorem wd_449 : (Jvm.Cond.code ({ cls := "PennyQueue$Day", name := "tell", desc := "(II)V" } : Jvm.MethodName) prog_2_method_2_code (3 : Nat) (Option.none : Option Jvm.ClassFile.FieldType)) ∈ lw_good := lw_goodC2 209 rfl rfl
theorem wd_450 : (Jvm.Cond.methodLink "PennyQueueLaw" (45 : Nat) ({ cls := "PennyQueue", name := "clear", desc := "()I" } : Jvm.MethodName)) ∈ lw_good := lw_goodC2 210 rfl rfl
theorem wd_451 : (Jvm.Cond.instanceMethod ({ cls := "PennyQueue", name := "clear", desc := "()I" } : Jvm.MethodName)) ∈ lw_good := lw_goodC2 211 rfl rfl
theorem wd_452 : (Jvm.Cond.selects "PennyQueue" ({ cls := "PennyQueue", name := "clear", desc := "()I" } : Jvm.MethodName) ({ cls := "PennyQueue", name := "clear", desc := "()I" } : Jvm.MethodName)) ∈ lw_good := lw_goodC2 212 rfl rfl
theorem wd_453 : (Jvm.Cond.code ({ cls := "PennyQueue", name := "clear", desc := "()I" } : Jvm.MethodName) prog_1_method_9_code (2 : Nat) (Option.some Jvm.ClassFile.FieldType.int)) ∈ lw_good := lw_goodC2 213 rfl rfl
theorem wd_454 : (Jvm.Cond.methodLink "PennyQueueLaw" (49 : Nat) ({ cls := "PennyQueue", name := "order", desc := "(II)I" } : Jvm.MethodName)) ∈ lw_good := lw_goodC2 214 rfl rfl
theorem wd_455 : (Jvm.Cond.instanceMethod ({ cls := "PennyQueue", name := "order", desc := "(II)I" } : Jvm.MethodName)) ∈ lw_good := lw_goodC2 215 rfl rfl
theorem wd_456 : (Jvm.Cond.selects "PennyQueue" ({ cls := "PennyQueue", name := "order", desc := "(II)I" } : Jvm.MethodName) ({ cls := "PennyQueue", name := "order", desc := "(II)I" } : Jvm.MethodName)) ∈ lw_good := lw_goodC2 216 rfl rfl
theorem wd_457 : (Jvm.Cond.code ({ cls := "PennyQueue", name := "order", desc := "(II)I" } : Jvm.MethodName) prog_1_method_10_code (3 : Nat) (Option.some Jvm.ClassFile.FieldType.int)) ∈ lw_good := lw_goodC2 217 rfl rfl
theorem wd_458 : (Jvm.Cond.methodLink "PennyQueue" (127 : Nat) ({ cls := "PennyQueue", name := "made", desc := "(III)LPennyQueue$Order;" } : Jvm.MethodName)) ∈ lw_good := lw_goodC2 218 rfl rfl
theorem wd_459 : (Jvm.Cond.static ({ cls := "PennyQueue", name := "made", desc := "(III)LPennyQueue$Order;" } : Jvm.MethodName)) ∈ lw_good := lw_goodC2 219 rfl rfl
theorem wd_460 : (Jvm.Cond.code ({ cls := "PennyQueue", name := "made", desc := "(III)LPennyQueue$Order;" } : Jvm.MethodName) prog_1_method_43_code (3 : Nat) (Option.some (Jvm.ClassFile.FieldType.object "PennyQueue$Order"))) ∈ lw_good := lw_goodC2 220 rfl rfl
theorem wd_461 : (Jvm.Cond.classLink "PennyQueue" (304 : Nat) "PennyQueue$First") ∈ lw_good := lw_goodC2 221 rfl rfl
theorem wd_462 : (Jvm.Cond.instantiable "PennyQueue$First" (4 : Nat)) ∈ lw_good := lw_goodC2 222 rfl rfl
theorem wd_463 : (Jvm.Cond.methodLink "PennyQueue" (306 : Nat) ({ cls := "PennyQueue$First", name := "<init>", desc := "(II)V" } : Jvm.MethodName)) ∈ lw_good := lw_goodC2 223 rfl rfl
theorem wd_464 : (Jvm.Cond.instanceMethod ({ cls := "PennyQueue$First", name := "<init>", desc := "(II)V" } : Jvm.MethodName)) ∈ lw_good := lw_goodC2 224 rfl rfl
theorem wd_465 : (Jvm.Cond.code ({ cls := "PennyQueue$First", name := "<init>", desc := "(II)V" } : Jvm.MethodName) prog_3_method_1_code (3 : Nat) (Option.none : Option Jvm.ClassFile.FieldType)) ∈ lw_good := lw_goodC2 225 rfl rfl
theorem wd_466 : (Jvm.Cond.methodLink "PennyQueue$First" (1 : Nat) ({ cls := "PennyQueue$Order", name := "<init>", desc := "(II)V" } : Jvm.MethodName)) ∈ lw_good := lw_goodC2 226 rfl rfl
theorem wd_467 : (Jvm.Cond.laysFinal "PennyQueue$First" "PennyQueue$Order" "number" "I") ∈ lw_good := lw_goodC2 227 rfl rfl
theorem wd_468 : (Jvm.Cond.laysFinal "PennyQueue$First" "PennyQueue$Order" "v" "I") ∈ lw_good := lw_goodC2 228 rfl rfl
theorem wd_469 : (Jvm.Cond.lays "PennyQueue$First" "PennyQueue$Order" "ran" "I") ∈ lw_good := lw_goodC2 229 rfl rfl
theorem wd_470 : (Jvm.Cond.laysFinal "PennyQueue$First" "PennyQueue$Order" "bodies" "[I") ∈ lw_good := lw_goodC2 230 rfl rfl
theorem wd_471 : (Jvm.Cond.superclass "PennyQueue$First" "PennyQueue$Order") ∈ lw_good := lw_goodC2 231 rfl rfl
theorem wd_472 : (Jvm.Cond.classLink "PennyQueue" (307 : Nat) "PennyQueue$Share") ∈ lw_good := lw_goodC2 232 rfl rfl
theorem wd_473 : (Jvm.Cond.instantiable "PennyQueue$Share" (4 : Nat)) ∈ lw_good := lw_goodC2 233 rfl rfl
theorem wd_474 : (Jvm.Cond.methodLink "PennyQueue" (309 : Nat) ({ cls := "PennyQueue$Share", name := "<init>", desc := "(II)V" } : Jvm.MethodName)) ∈ lw_good := lw_goodC2 234 rfl rfl
theorem wd_475 : (Jvm.Cond.instanceMethod ({ cls := "PennyQueue$Share", name := "<init>", desc := "(II)V" } : Jvm.MethodName)) ∈ lw_good := lw_goodC2 235 rfl rfl
theorem wd_476 : (Jvm.Cond.code ({ cls := "PennyQueue$Share", name := "<init>", desc := "(II)V" } : Jvm.MethodName) prog_9_method_1_code (3 : Nat) (Option.none : Option Jvm.ClassFile.FieldType)) ∈ lw_good := lw_goodC2 236 rfl rfl
theorem wd_477 : (Jvm.Cond.methodLink "PennyQueue$Share" (1 : Nat) ({ cls := "PennyQueue$Order", name := "<init>", desc := "(II)V" } : Jvm.MethodName)) ∈ lw_good := lw_goodC2 237 rfl rfl
theorem wd_478 : (Jvm.Cond.laysFinal "PennyQueue$Share" "PennyQueue$Order" "number" "I") ∈ lw_good := lw_goodC2 238 rfl rfl
theorem wd_479 : (Jvm.Cond.laysFinal "PennyQueue$Share" "PennyQueue$Order" "v" "I") ∈ lw_good := lw_goodC2 239 rfl rfl
theorem wd_480 : (Jvm.Cond.lays "PennyQueue$Share" "PennyQueue$Order" "ran" "I") ∈ lw_good := lw_goodC3 0 rfl rfl
theorem wd_481 : (Jvm.Cond.laysFinal "PennyQueue$Share" "PennyQueue$Order" "bodies" "[I") ∈ lw_good := lw_goodC3 1 rfl rfl
theorem wd_482 : (Jvm.Cond.superclass "PennyQueue$Share" "PennyQueue$Order") ∈ lw_good := lw_goodC3 2 rfl rfl
theorem wd_483 : (Jvm.Cond.classLink "PennyQueue" (310 : Nat) "PennyQueue$Length") ∈ lw_good := lw_goodC3 3 rfl rfl
theorem wd_484 : (Jvm.Cond.instantiable "PennyQueue$Length" (4 : Nat)) ∈ lw_good := lw_goodC3 4 rfl rfl
theorem wd_485 : (Jvm.Cond.methodLink "PennyQueue" (312 : Nat) ({ cls := "PennyQueue$Length", name := "<init>", desc := "(II)V" } : Jvm.MethodName)) ∈ lw_good := lw_goodC3 5 rfl rfl
theorem wd_486 : (Jvm.Cond.instanceMethod ({ cls := "PennyQueue$Length", name := "<init>", desc := "(II)V" } : Jvm.MethodName)) ∈ lw_good := lw_goodC3 6 rfl rfl
theorem wd_487 : (Jvm.Cond.code ({ cls := "PennyQueue$Length", name := "<init>", desc := "(II)V" } : Jvm.MethodName) prog_6_method_1_code (3 : Nat) (Option.none : Option Jvm.ClassFile.FieldType)) ∈ lw_good := lw_goodC3 7 rfl rfl
theorem wd_488 : (Jvm.Cond.methodLink "PennyQueue$Length" (1 : Nat) ({ cls := "PennyQueue$First", name := "<init>", desc := "(II)V" } : Jvm.MethodName)) ∈ lw_good := lw_goodC3 8 rfl rfl
theorem wd_489 : (Jvm.Cond.laysFinal "PennyQueue$Length" "PennyQueue$Order" "number" "I") ∈ lw_good := lw_goodC3 9 rfl rfl
theorem wd_490 : (Jvm.Cond.laysFinal "PennyQueue$Length" "PennyQueue$Order" "v" "I") ∈ lw_good := lw_goodC3 10 rfl rfl
theorem wd_491 : (Jvm.Cond.lays "PennyQueue$Length" "PennyQueue$Order" "ran" "I") ∈ lw_good := lw_goodC3 11 rfl rfl
theorem wd_492 : (Jvm.Cond.laysFinal "PennyQueue$Length" "PennyQueue$Order" "bodies" "[I") ∈ lw_good := lw_goodC3 12 rfl rfl
theorem wd_493 : (Jvm.Cond.superclass "PennyQueue$Length" "PennyQueue$First") ∈ lw_good := lw_goodC3 13 rfl rfl
theorem wd_494 : (Jvm.Cond.classLink "PennyQueue" (313 : Nat) "PennyQueue$Poor") ∈ lw_good := lw_goodC3 14 rfl rfl
theorem wd_495 : (Jvm.Cond.instantiable "PennyQueue$Poor" (4 : Nat)) ∈ lw_good := lw_goodC3 15 rfl rfl
theorem wd_496 : (Jvm.Cond.methodLink "PennyQueue" (315 : Nat) ({ cls := "PennyQueue$Poor", name := "<init>", desc := "(II)V" } : Jvm.MethodName)) ∈ lw_good := lw_goodC3 16 rfl rfl
theorem wd_497 : (Jvm.Cond.instanceMethod ({ cls := "PennyQueue$Poor", name := "<init>", desc := "(II)V" } : Jvm.MethodName)) ∈ lw_good := lw_goodC3 17 rfl rfl
theorem wd_498 : (Jvm.Cond.code ({ cls := "PennyQueue$Poor", name := "<init>", desc := "(II)V" } : Jvm.MethodName) prog_8_method_1_code (3 : Nat) (Option.none : Option Jvm.ClassFile.FieldType)) ∈ lw_good := lw_goodC3 18 rfl rfl
theorem wd_499 : (Jvm.Cond.methodLink "PennyQueue$Poor" (1 : Nat) ({ cls := "PennyQueue$Share", name := "<init>", desc := "(II)V" } : Jvm.MethodName)) ∈ lw_good := lw_goodC3 19 rfl rfl
theorem wd_500 : (Jvm.Cond.laysFinal "PennyQueue$Poor" "PennyQueue$Order" "number" "I") ∈ lw_good := lw_goodC3 20 rfl rfl
theorem wd_501 : (Jvm.Cond.laysFinal "PennyQueue$Poor" "PennyQueue$Order" "v" "I") ∈ lw_good := lw_goodC3 21 rfl rfl
theorem wd_502 : (Jvm.Cond.lays "PennyQueue$Poor" "PennyQueue$Order" "ran" "I") ∈ lw_good := lw_goodC3 22 rfl rfl
theorem wd_503 : (Jvm.Cond.laysFinal "PennyQueue$Poor" "PennyQueue$Order" "bodies" "[I") ∈ lw_good := lw_goodC3 23 rfl rfl
theorem wd_504 : (Jvm.Cond.superclass "PennyQueue$Poor" "PennyQueue$Share") ∈ lw_good := lw_goodC3 24 rfl rfl
theorem wd_505 : (Jvm.Cond.classLink "PennyQueue" (316 : Nat) "PennyQueue$Full") ∈ lw_good := lw_goodC3 25 rfl rfl
theorem wd_506 : (Jvm.Cond.instantiable "PennyQueue$Full" (4 : Nat)) ∈ lw_good := lw_goodC3 26 rfl rfl
theorem wd_507 : (Jvm.Cond.methodLink "PennyQueue" (318 : Nat) ({ cls := "PennyQueue$Full", name := "<init>", desc := "(II)V" } : Jvm.MethodName)) ∈ lw_good := lw_goodC3 27 rfl rfl
theorem wd_508 : (Jvm.Cond.instanceMethod ({ cls := "PennyQueue$Full", name := "<init>", desc := "(II)V" } : Jvm.MethodName)) ∈ lw_good := lw_goodC3 28 rfl rfl
theorem wd_509 : (Jvm.Cond.code ({ cls := "PennyQueue$Full", name := "<init>", desc := "(II)V" } : Jvm.MethodName) prog_4_method_1_code (3 : Nat) (Option.none : Option Jvm.ClassFile.FieldType)) ∈ lw_good := lw_goodC3 29 rfl rfl
theorem wd_510 : (Jvm.Cond.methodLink "PennyQueue$Full" (1 : Nat) ({ cls := "PennyQueue$Order", name := "<init>", desc := "(II)V" } : Jvm.MethodName)) ∈ lw_good := lw_goodC3 30 rfl rfl
theorem wd_511 : (Jvm.Cond.laysFinal "PennyQueue$Full" "PennyQueue$Order" "number" "I") ∈ lw_good := lw_goodC3 31 rfl rfl
theorem wd_512 : (Jvm.Cond.laysFinal "PennyQueue$Full" "PennyQueue$Order" "v" "I") ∈ lw_good := lw_goodC3 32 rfl rfl
theorem wd_513 : (Jvm.Cond.lays "PennyQueue$Full" "PennyQueue$Order" "ran" "I") ∈ lw_good := lw_goodC3 33 rfl rfl
theorem wd_514 : (Jvm.Cond.laysFinal "PennyQueue$Full" "PennyQueue$Order" "bodies" "[I") ∈ lw_good := lw_goodC3 34 rfl rfl
theorem wd_515 : (Jvm.Cond.superclass "PennyQueue$Full" "PennyQueue$Order") ∈ lw_good := lw_goodC3 35 rfl rfl
theorem wd_516 : (Jvm.Cond.classLink "PennyQueue" (135 : Nat) "PennyQueue$Told") ∈ lw_good := lw_goodC3 36 rfl rfl
theorem wd_517 : (Jvm.Cond.instantiable "PennyQueue$Told" (5 : Nat)) ∈ lw_good := lw_goodC3 37 rfl rfl
theorem wd_518 : (Jvm.Cond.methodLink "PennyQueue" (319 : Nat) ({ cls := "PennyQueue$Told", name := "<init>", desc := "(II)V" } : Jvm.MethodName)) ∈ lw_good := lw_goodC3 38 rfl rfl
theorem wd_519 : (Jvm.Cond.instanceMethod ({ cls := "PennyQueue$Told", name := "<init>", desc := "(II)V" } : Jvm.MethodName)) ∈ lw_good := lw_goodC3 39 rfl rfl
theorem wd_520 : (Jvm.Cond.code ({ cls := "PennyQueue$Told", name := "<init>", desc := "(II)V" } : Jvm.MethodName) prog_11_method_1_code (3 : Nat) (Option.none : Option Jvm.ClassFile.FieldType)) ∈ lw_good := lw_goodC3 40 rfl rfl
theorem wd_521 : (Jvm.Cond.methodLink "PennyQueue$Told" (1 : Nat) ({ cls := "PennyQueue$First", name := "<init>", desc := "(II)V" } : Jvm.MethodName)) ∈ lw_good := lw_goodC3 41 rfl rfl
theorem wd_522 : (Jvm.Cond.methodLink "PennyQueue$Told" (13 : Nat) ({ cls := "java/util/Arrays", name := "fill", desc := "([II)V" } : Jvm.MethodName)) ∈ lw_good := lw_goodC3 42 rfl rfl
theorem wd_523 : (Jvm.Cond.static ({ cls := "java/util/Arrays", name := "fill", desc := "([II)V" } : Jvm.MethodName)) ∈ lw_good := lw_goodC3 43 rfl rfl
theorem wd_524 : (Jvm.Cond.code ({ cls := "java/util/Arrays", name := "fill", desc := "([II)V" } : Jvm.MethodName) prog_20_method_103_code (4 : Nat) (Option.none : Option Jvm.ClassFile.FieldType)) ∈ lw_good := lw_goodC3 44 rfl rfl
theorem wd_525 : (Jvm.Cond.fieldLink "PennyQueue$Told" (9 : Nat) "PennyQueue$Told" "row" "[I") ∈ lw_good := lw_goodC3 45 rfl rfl
theorem wd_526 : (Jvm.Cond.fieldLink "PennyQueue" (137 : Nat) "PennyQueue$Told" "row" "[I") ∈ lw_good := lw_goodC3 46 rfl rfl
theorem wd_527 : (Jvm.Cond.laysFinal "PennyQueue$Told" "PennyQueue$Told" "row" "[I") ∈ lw_good := lw_goodC3 47 rfl rfl
theorem wd_529 : (Jvm.Cond.laysFinal "PennyQueue$Told" "PennyQueue$Order" "number" "I") ∈ lw_good := lw_goodC3 49 rfl rfl
theorem wd_530 : (Jvm.Cond.laysFinal "PennyQueue$Told" "PennyQueue$Order" "v" "I") ∈ lw_good := lw_goodC3 50 rfl rfl
theorem wd_531 : (Jvm.Cond.lays "PennyQueue$Told" "PennyQueue$Order" "ran" "I") ∈ lw_good := lw_goodC3 51 rfl rfl
theorem wd_532 : (Jvm.Cond.laysFinal "PennyQueue$Told" "PennyQueue$Order" "bodies" "[I") ∈ lw_good := lw_goodC3 52 rfl rfl
theorem wd_533 : (Jvm.Cond.superclass "PennyQueue$Told" "PennyQueue$First") ∈ lw_good := lw_goodC3 53 rfl rfl
theorem wd_534 : (Jvm.Cond.methodLink "PennyQueueLaw" (53 : Nat) ({ cls := "PennyQueue", name := "row", desc := "(III)I" } : Jvm.MethodName)) ∈ lw_good := lw_goodC3 54 rfl rfl
theorem wd_535 : (Jvm.Cond.instanceMethod ({ cls := "PennyQueue", name := "row", desc := "(III)I" } : Jvm.MethodName)) ∈ lw_good := lw_goodC3 55 rfl rfl
theorem wd_536 : (Jvm.Cond.selects "PennyQueue" ({ cls := "PennyQueue", name := "row", desc := "(III)I" } : Jvm.MethodName) ({ cls := "PennyQueue", name := "row", desc := "(III)I" } : Jvm.MethodName)) ∈ lw_good := lw_goodC3 56 rfl rfl
theorem wd_537 : (Jvm.Cond.code ({ cls := "PennyQueue", name := "row", desc := "(III)I" } : Jvm.MethodName) prog_1_method_11_code (7 : Nat) (Option.some Jvm.ClassFile.FieldType.int)) ∈ lw_good := lw_goodC3 57 rfl rfl
theorem wd_538 : (Jvm.Cond.methodLink "PennyQueue" (131 : Nat) ({ cls := "PennyQueue", name := "orderAt", desc := "(I)LPennyQueue$Order;" } : Jvm.MethodName)) ∈ lw_good := lw_goodC3 58 rfl rfl
theorem wd_540 : (Jvm.Cond.instanceMethod ({ cls := "PennyQueue", name := "orderAt", desc := "(I)LPennyQueue$Order;" } : Jvm.MethodName)) ∈ lw_good := lw_goodC3 60 rfl rfl
theorem wd_541 : (Jvm.Cond.code ({ cls := "PennyQueue", name := "orderAt", desc := "(I)LPennyQueue$Order;" } : Jvm.MethodName) prog_1_method_36_code (2 : Nat) (Option.some (Jvm.ClassFile.FieldType.object "PennyQueue$Order"))) ∈ lw_good := lw_goodC3 61 rfl rfl
theorem wd_542 : (Jvm.Cond.methodLink "PennyQueueLaw" (58 : Nat) ({ cls := "PennyQueue", name := "comer", desc := "(III)I" } : Jvm.MethodName)) ∈ lw_good := lw_goodC3 62 rfl rfl
theorem wd_543 : (Jvm.Cond.instanceMethod ({ cls := "PennyQueue", name := "comer", desc := "(III)I" } : Jvm.MethodName)) ∈ lw_good := lw_goodC3 63 rfl rfl
theorem wd_544 : (Jvm.Cond.selects "PennyQueue" ({ cls := "PennyQueue", name := "comer", desc := "(III)I" } : Jvm.MethodName) ({ cls := "PennyQueue", name := "comer", desc := "(III)I" } : Jvm.MethodName)) ∈ lw_good := lw_goodC3 64 rfl rfl
theorem wd_545 : (Jvm.Cond.code ({ cls := "PennyQueue", name := "comer", desc := "(III)I" } : Jvm.MethodName) prog_1_method_12_code (5 : Nat) (Option.some Jvm.ClassFile.FieldType.int)) ∈ lw_good := lw_goodC3 65 rfl rfl
theorem wd_546 : (Jvm.Cond.methodLink "PennyQueue" (140 : Nat) ({ cls := "PennyQueue", name := "goThrough", desc := "(LPennyQueue$Order;)V" } : Jvm.MethodName)) ∈ lw_good := lw_goodC3 66 rfl rfl
theorem wd_548 : (Jvm.Cond.instanceMethod ({ cls := "PennyQueue", name := "goThrough", desc := "(LPennyQueue$Order;)V" } : Jvm.MethodName)) ∈ lw_good := lw_goodC3 68 rfl rfl
theorem wd_549 : (Jvm.Cond.code ({ cls := "PennyQueue", name := "goThrough", desc := "(LPennyQueue$Order;)V" } : Jvm.MethodName) prog_1_method_39_code (2 : Nat) (Option.none : Option Jvm.ClassFile.FieldType)) ∈ lw_good := lw_goodC3 69 rfl rfl
theorem wd_550 : (Jvm.Cond.methodLink "PennyQueue" (198 : Nat) ({ cls := "PennyQueue", name := "goThroughWith", desc := "(LPennyQueue$Order;LPennyQueue$Day;II)V" } : Jvm.MethodName)) ∈ lw_good := lw_goodC3 70 rfl rfl
theorem wd_552 : (Jvm.Cond.instanceMethod ({ cls := "PennyQueue", name := "goThroughWith", desc := "(LPennyQueue$Order;LPennyQueue$Day;II)V" } : Jvm.MethodName)) ∈ lw_good := lw_goodC3 72 rfl rfl
theorem wd_553 : (Jvm.Cond.code ({ cls := "PennyQueue", name := "goThroughWith", desc := "(LPennyQueue$Order;LPennyQueue$Day;II)V" } : Jvm.MethodName) prog_1_method_40_code (5 : Nat) (Option.none : Option Jvm.ClassFile.FieldType)) ∈ lw_good := lw_goodC3 73 rfl rfl
theorem wd_554 : (Jvm.Cond.methodLink "PennyQueue" (291 : Nat) ({ cls := "PennyQueue$Hour", name := "pass", desc := "(LPennyQueue$Order;LPennyQueue$Window;IILPennyQueue$Day;I)V" } : Jvm.MethodName)) ∈ lw_good := lw_goodC3 74 rfl rfl
theorem wd_555 : (Jvm.Cond.instanceMethod ({ cls := "PennyQueue$Hour", name := "pass", desc := "(LPennyQueue$Order;LPennyQueue$Window;IILPennyQueue$Day;I)V" } : Jvm.MethodName)) ∈ lw_good := lw_goodC3 75 rfl rfl
theorem wd_556 : (Jvm.Cond.selects "PennyQueue$Hour" ({ cls := "PennyQueue$Hour", name := "pass", desc := "(LPennyQueue$Order;LPennyQueue$Window;IILPennyQueue$Day;I)V" } : Jvm.MethodName) ({ cls := "PennyQueue$Hour", name := "pass", desc := "(LPennyQueue$Order;LPennyQueue$Window;IILPennyQueue$Day;I)V" } : Jvm.MethodName)) ∈ lw_good := lw_goodC3 76 rfl rfl
theorem wd_557 : (Jvm.Cond.code ({ cls := "PennyQueue$Hour", name := "pass", desc := "(LPennyQueue$Order;LPennyQueue$Window;IILPennyQueue$Day;I)V" } : Jvm.MethodName) prog_5_method_2_code (8 : Nat) (Option.none : Option Jvm.ClassFile.FieldType)) ∈ lw_good := lw_goodC3 77 rfl rfl
theorem wd_558 : (Jvm.Cond.methodLink "PennyQueue$Hour" (40 : Nat) ({ cls := "PennyQueue$Hour", name := "begin", desc := "(LPennyQueue$Order;LPennyQueue$Window;II)V" } : Jvm.MethodName)) ∈ lw_good := lw_goodC3 78 rfl rfl
theorem wd_560 : (Jvm.Cond.instanceMethod ({ cls := "PennyQueue$Hour", name := "begin", desc := "(LPennyQueue$Order;LPennyQueue$Window;II)V" } : Jvm.MethodName)) ∈ lw_good := lw_goodC3 80 rfl rfl
theorem wd_561 : (Jvm.Cond.code ({ cls := "PennyQueue$Hour", name := "begin", desc := "(LPennyQueue$Order;LPennyQueue$Window;II)V" } : Jvm.MethodName) prog_5_method_3_code (5 : Nat) (Option.none : Option Jvm.ClassFile.FieldType)) ∈ lw_good := lw_goodC3 81 rfl rfl
theorem wd_562 : (Jvm.Cond.methodLink "PennyQueue$Hour" (94 : Nat) ({ cls := "java/util/Arrays", name := "fill", desc := "([II)V" } : Jvm.MethodName)) ∈ lw_good := lw_goodC3 82 rfl rfl
theorem wd_563 : (Jvm.Cond.methodLink "PennyQueue$Hour" (48 : Nat) ({ cls := "PennyQueue$Hour", name := "comeByHand", desc := "(LPennyQueue$Day;)V" } : Jvm.MethodName)) ∈ lw_good := lw_goodC3 83 rfl rfl
theorem wd_565 : (Jvm.Cond.instanceMethod ({ cls := "PennyQueue$Hour", name := "comeByHand", desc := "(LPennyQueue$Day;)V" } : Jvm.MethodName)) ∈ lw_good := lw_goodC3 85 rfl rfl
theorem wd_566 : (Jvm.Cond.code ({ cls := "PennyQueue$Hour", name := "comeByHand", desc := "(LPennyQueue$Day;)V" } : Jvm.MethodName) prog_5_method_4_code (3 : Nat) (Option.none : Option Jvm.ClassFile.FieldType)) ∈ lw_good := lw_goodC3 86 rfl rfl
theorem wd_567 : (Jvm.Cond.methodLink "PennyQueue$Hour" (108 : Nat) ({ cls := "PennyQueue$Hour", name := "roomForMore", desc := "()Z" } : Jvm.MethodName)) ∈ lw_good := lw_goodC3 87 rfl rfl
theorem wd_569 : (Jvm.Cond.instanceMethod ({ cls := "PennyQueue$Hour", name := "roomForMore", desc := "()Z" } : Jvm.MethodName)) ∈ lw_good := lw_goodC3 89 rfl rfl
theorem wd_570 : (Jvm.Cond.code ({ cls := "PennyQueue$Hour", name := "roomForMore", desc := "()Z" } : Jvm.MethodName) prog_5_method_6_code (1 : Nat) (Option.some Jvm.ClassFile.FieldType.boolean)) ∈ lw_good := lw_goodC3 90 rfl rfl
theorem wd_571 : (Jvm.Cond.methodLink "PennyQueue$Hour" (114 : Nat) ({ cls := "PennyQueue$Hour", name := "enter", desc := "(I)V" } : Jvm.MethodName)) ∈ lw_good := lw_goodC3 91 rfl rfl
theorem wd_573 : (Jvm.Cond.instanceMethod ({ cls := "PennyQueue$Hour", name := "enter", desc := "(I)V" } : Jvm.MethodName)) ∈ lw_good := lw_goodC3 93 rfl rfl
theorem wd_574 : (Jvm.Cond.code ({ cls := "PennyQueue$Hour", name := "enter", desc := "(I)V" } : Jvm.MethodName) prog_5_method_7_code (4 : Nat) (Option.none : Option Jvm.ClassFile.FieldType)) ∈ lw_good := lw_goodC3 94 rfl rfl
theorem wd_575 : (Jvm.Cond.methodLink "PennyQueue$Hour" (126 : Nat) ({ cls := "PennyQueue$Order", name := "asks", desc := "(II)I" } : Jvm.MethodName)) ∈ lw_good := lw_goodC3 95 rfl rfl
theorem wd_576 : (Jvm.Cond.instanceMethod ({ cls := "PennyQueue$Order", name := "asks", desc := "(II)I" } : Jvm.MethodName)) ∈ lw_good := lw_goodC3 96 rfl rfl
theorem wd_577 : (Jvm.Cond.selects "PennyQueue$Order" ({ cls := "PennyQueue$Order", name := "asks", desc := "(II)I" } : Jvm.MethodName) ({ cls := "PennyQueue$Order", name := "asks", desc := "(II)I" } : Jvm.MethodName)) ∈ lw_good := lw_goodC3 97 rfl rfl
theorem wd_578 : (Jvm.Cond.sameMethod "PennyQueue$Order" "PennyQueue$Order" "asks" "(II)I") ∈ lw_good := lw_goodC3 98 rfl rfl
theorem wd_579 : (Jvm.Cond.selects "PennyQueue$First" ({ cls := "PennyQueue$Order", name := "asks", desc := "(II)I" } : Jvm.MethodName) ({ cls := "PennyQueue$Order", name := "asks", desc := "(II)I" } : Jvm.MethodName)) ∈ lw_good := lw_goodC3 99 rfl rfl
theorem wd_580 : (Jvm.Cond.selects "PennyQueue$Full" ({ cls := "PennyQueue$Order", name := "asks", desc := "(II)I" } : Jvm.MethodName) ({ cls := "PennyQueue$Order", name := "asks", desc := "(II)I" } : Jvm.MethodName)) ∈ lw_good := lw_goodC3 100 rfl rfl
theorem wd_581 : (Jvm.Cond.selects "PennyQueue$Length" ({ cls := "PennyQueue$Order", name := "asks", desc := "(II)I" } : Jvm.MethodName) ({ cls := "PennyQueue$Length", name := "asks", desc := "(II)I" } : Jvm.MethodName)) ∈ lw_good := lw_goodC3 101 rfl rfl
theorem wd_582 : (Jvm.Cond.instanceMethod ({ cls := "PennyQueue$Length", name := "asks", desc := "(II)I" } : Jvm.MethodName)) ∈ lw_good := lw_goodC3 102 rfl rfl
theorem wd_583 : (Jvm.Cond.code ({ cls := "PennyQueue$Length", name := "asks", desc := "(II)I" } : Jvm.MethodName) prog_6_method_3_code (3 : Nat) (Option.some Jvm.ClassFile.FieldType.int)) ∈ lw_good := lw_goodC3 103 rfl rfl
theorem wd_584 : (Jvm.Cond.selects "PennyQueue$Poor" ({ cls := "PennyQueue$Order", name := "asks", desc := "(II)I" } : Jvm.MethodName) ({ cls := "PennyQueue$Order", name := "asks", desc := "(II)I" } : Jvm.MethodName)) ∈ lw_good := lw_goodC3 104 rfl rfl
theorem wd_585 : (Jvm.Cond.selects "PennyQueue$Share" ({ cls := "PennyQueue$Order", name := "asks", desc := "(II)I" } : Jvm.MethodName) ({ cls := "PennyQueue$Order", name := "asks", desc := "(II)I" } : Jvm.MethodName)) ∈ lw_good := lw_goodC3 105 rfl rfl
theorem wd_586 : (Jvm.Cond.selects "PennyQueue$Told" ({ cls := "PennyQueue$Order", name := "asks", desc := "(II)I" } : Jvm.MethodName) ({ cls := "PennyQueue$Order", name := "asks", desc := "(II)I" } : Jvm.MethodName)) ∈ lw_good := lw_goodC3 106 rfl rfl
theorem wd_587 : (Jvm.Cond.code ({ cls := "PennyQueue$Order", name := "asks", desc := "(II)I" } : Jvm.MethodName) prog_7_method_3_code (3 : Nat) (Option.some Jvm.ClassFile.FieldType.int)) ∈ lw_good := lw_goodC3 107 rfl rfl
theorem wd_588 : (Jvm.Cond.methodLink "PennyQueue$Hour" (131 : Nat) ({ cls := "PennyQueue$Order", name := "due", desc := "(II)I" } : Jvm.MethodName)) ∈ lw_good := lw_goodC3 108 rfl rfl
theorem wd_589 : (Jvm.Cond.instanceMethod ({ cls := "PennyQueue$Order", name := "due", desc := "(II)I" } : Jvm.MethodName)) ∈ lw_good := lw_goodC3 109 rfl rfl
theorem wd_590 : (Jvm.Cond.selects "PennyQueue$Order" ({ cls := "PennyQueue$Order", name := "due", desc := "(II)I" } : Jvm.MethodName) ({ cls := "PennyQueue$Order", name := "due", desc := "(II)I" } : Jvm.MethodName)) ∈ lw_good := lw_goodC3 110 rfl rfl
theorem wd_591 : (Jvm.Cond.sameMethod "PennyQueue$Order" "PennyQueue$Order" "due" "(II)I") ∈ lw_good := lw_goodC3 111 rfl rfl
theorem wd_592 : (Jvm.Cond.selects "PennyQueue$First" ({ cls := "PennyQueue$Order", name := "due", desc := "(II)I" } : Jvm.MethodName) ({ cls := "PennyQueue$Order", name := "due", desc := "(II)I" } : Jvm.MethodName)) ∈ lw_good := lw_goodC3 112 rfl rfl
theorem wd_593 : (Jvm.Cond.selects "PennyQueue$Full" ({ cls := "PennyQueue$Order", name := "due", desc := "(II)I" } : Jvm.MethodName) ({ cls := "PennyQueue$Order", name := "due", desc := "(II)I" } : Jvm.MethodName)) ∈ lw_good := lw_goodC3 113 rfl rfl
theorem wd_594 : (Jvm.Cond.selects "PennyQueue$Length" ({ cls := "PennyQueue$Order", name := "due", desc := "(II)I" } : Jvm.MethodName) ({ cls := "PennyQueue$Order", name := "due", desc := "(II)I" } : Jvm.MethodName)) ∈ lw_good := lw_goodC3 114 rfl rfl
theorem wd_595 : (Jvm.Cond.selects "PennyQueue$Poor" ({ cls := "PennyQueue$Order", name := "due", desc := "(II)I" } : Jvm.MethodName) ({ cls := "PennyQueue$Poor", name := "due", desc := "(II)I" } : Jvm.MethodName)) ∈ lw_good := lw_goodC3 115 rfl rfl
theorem wd_596 : (Jvm.Cond.instanceMethod ({ cls := "PennyQueue$Poor", name := "due", desc := "(II)I" } : Jvm.MethodName)) ∈ lw_good := lw_goodC3 116 rfl rfl
theorem wd_597 : (Jvm.Cond.code ({ cls := "PennyQueue$Poor", name := "due", desc := "(II)I" } : Jvm.MethodName) prog_8_method_3_code (3 : Nat) (Option.some Jvm.ClassFile.FieldType.int)) ∈ lw_good := lw_goodC3 117 rfl rfl
theorem wd_598 : (Jvm.Cond.selects "PennyQueue$Share" ({ cls := "PennyQueue$Order", name := "due", desc := "(II)I" } : Jvm.MethodName) ({ cls := "PennyQueue$Order", name := "due", desc := "(II)I" } : Jvm.MethodName)) ∈ lw_good := lw_goodC3 118 rfl rfl
theorem wd_599 : (Jvm.Cond.selects "PennyQueue$Told" ({ cls := "PennyQueue$Order", name := "due", desc := "(II)I" } : Jvm.MethodName) ({ cls := "PennyQueue$Order", name := "due", desc := "(II)I" } : Jvm.MethodName)) ∈ lw_good := lw_goodC3 119 rfl rfl
theorem wd_600 : (Jvm.Cond.code ({ cls := "PennyQueue$Order", name := "due", desc := "(II)I" } : Jvm.MethodName) prog_7_method_4_code (3 : Nat) (Option.some Jvm.ClassFile.FieldType.int)) ∈ lw_good := lw_goodC3 120 rfl rfl
theorem wd_601 : (Jvm.Cond.methodLink "PennyQueue$Hour" (134 : Nat) ({ cls := "PennyQueue$Hour", name := "lineFor", desc := "(II)I" } : Jvm.MethodName)) ∈ lw_good := lw_goodC3 121 rfl rfl
theorem wd_603 : (Jvm.Cond.instanceMethod ({ cls := "PennyQueue$Hour", name := "lineFor", desc := "(II)I" } : Jvm.MethodName)) ∈ lw_good := lw_goodC3 123 rfl rfl
theorem wd_604 : (Jvm.Cond.code ({ cls := "PennyQueue$Hour", name := "lineFor", desc := "(II)I" } : Jvm.MethodName) prog_5_method_8_code (13 : Nat) (Option.some Jvm.ClassFile.FieldType.int)) ∈ lw_good := lw_goodC3 124 rfl rfl
theorem wd_605 : (Jvm.Cond.methodLink "PennyQueue$Hour" (141 : Nat) ({ cls := "PennyQueue$Order", name := "lineTold", desc := "(I)I" } : Jvm.MethodName)) ∈ lw_good := lw_goodC3 125 rfl rfl
theorem wd_606 : (Jvm.Cond.instanceMethod ({ cls := "PennyQueue$Order", name := "lineTold", desc := "(I)I" } : Jvm.MethodName)) ∈ lw_good := lw_goodC3 126 rfl rfl
theorem wd_607 : (Jvm.Cond.selects "PennyQueue$Order" ({ cls := "PennyQueue$Order", name := "lineTold", desc := "(I)I" } : Jvm.MethodName) ({ cls := "PennyQueue$Order", name := "lineTold", desc := "(I)I" } : Jvm.MethodName)) ∈ lw_good := lw_goodC3 127 rfl rfl
theorem wd_608 : (Jvm.Cond.sameMethod "PennyQueue$Order" "PennyQueue$Order" "lineTold" "(I)I") ∈ lw_good := lw_goodC3 128 rfl rfl
theorem wd_609 : (Jvm.Cond.selects "PennyQueue$First" ({ cls := "PennyQueue$Order", name := "lineTold", desc := "(I)I" } : Jvm.MethodName) ({ cls := "PennyQueue$Order", name := "lineTold", desc := "(I)I" } : Jvm.MethodName)) ∈ lw_good := lw_goodC3 129 rfl rfl
theorem wd_610 : (Jvm.Cond.selects "PennyQueue$Full" ({ cls := "PennyQueue$Order", name := "lineTold", desc := "(I)I" } : Jvm.MethodName) ({ cls := "PennyQueue$Order", name := "lineTold", desc := "(I)I" } : Jvm.MethodName)) ∈ lw_good := lw_goodC3 130 rfl rfl
theorem wd_611 : (Jvm.Cond.selects "PennyQueue$Length" ({ cls := "PennyQueue$Order", name := "lineTold", desc := "(I)I" } : Jvm.MethodName) ({ cls := "PennyQueue$Order", name := "lineTold", desc := "(I)I" } : Jvm.MethodName)) ∈ lw_good := lw_goodC3 131 rfl rfl
theorem wd_612 : (Jvm.Cond.selects "PennyQueue$Poor" ({ cls := "PennyQueue$Order", name := "lineTold", desc := "(I)I" } : Jvm.MethodName) ({ cls := "PennyQueue$Order", name := "lineTold", desc := "(I)I" } : Jvm.MethodName)) ∈ lw_good := lw_goodC3 132 rfl rfl
theorem wd_613 : (Jvm.Cond.selects "PennyQueue$Share" ({ cls := "PennyQueue$Order", name := "lineTold", desc := "(I)I" } : Jvm.MethodName) ({ cls := "PennyQueue$Order", name := "lineTold", desc := "(I)I" } : Jvm.MethodName)) ∈ lw_good := lw_goodC3 133 rfl rfl
theorem wd_614 : (Jvm.Cond.selects "PennyQueue$Told" ({ cls := "PennyQueue$Order", name := "lineTold", desc := "(I)I" } : Jvm.MethodName) ({ cls := "PennyQueue$Told", name := "lineTold", desc := "(I)I" } : Jvm.MethodName)) ∈ lw_good := lw_goodC3 134 rfl rfl
theorem wd_615 : (Jvm.Cond.instanceMethod ({ cls := "PennyQueue$Told", name := "lineTold", desc := "(I)I" } : Jvm.MethodName)) ∈ lw_good := lw_goodC3 135 rfl rfl
theorem wd_616 : (Jvm.Cond.code ({ cls := "PennyQueue$Told", name := "lineTold", desc := "(I)I" } : Jvm.MethodName) prog_11_method_3_code (2 : Nat) (Option.some Jvm.ClassFile.FieldType.int)) ∈ lw_good := lw_goodC3 136 rfl rfl
theorem wd_617 : (Jvm.Cond.code ({ cls := "PennyQueue$Order", name := "lineTold", desc := "(I)I" } : Jvm.MethodName) prog_7_method_7_code (2 : Nat) (Option.some Jvm.ClassFile.FieldType.int)) ∈ lw_good := lw_goodC3 137 rfl rfl
theorem wd_618 : (Jvm.Cond.methodLink "PennyQueue$Hour" (62 : Nat) ({ cls := "java/lang/Math", name := "max", desc := "(II)I" } : Jvm.MethodName)) ∈ lw_good := lw_goodC3 138 rfl rfl
theorem wd_619 : (Jvm.Cond.static ({ cls := "java/lang/Math", name := "max", desc := "(II)I" } : Jvm.MethodName)) ∈ lw_good := lw_goodC3 139 rfl rfl
theorem wd_620 : (Jvm.Cond.code ({ cls := "java/lang/Math", name := "max", desc := "(II)I" } : Jvm.MethodName) prog_15_method_65_code (2 : Nat) (Option.some Jvm.ClassFile.FieldType.int)) ∈ lw_good := lw_goodC3 140 rfl rfl
theorem wd_621 : (Jvm.Cond.methodLink "PennyQueue$Hour" (144 : Nat) ({ cls := "PennyQueue$Order", name := "aheadOfPaying", desc := "(II)I" } : Jvm.MethodName)) ∈ lw_good := lw_goodC3 141 rfl rfl
theorem wd_622 : (Jvm.Cond.instanceMethod ({ cls := "PennyQueue$Order", name := "aheadOfPaying", desc := "(II)I" } : Jvm.MethodName)) ∈ lw_good := lw_goodC3 142 rfl rfl
theorem wd_623 : (Jvm.Cond.selects "PennyQueue$Order" ({ cls := "PennyQueue$Order", name := "aheadOfPaying", desc := "(II)I" } : Jvm.MethodName) ({ cls := "PennyQueue$Order", name := "aheadOfPaying", desc := "(II)I" } : Jvm.MethodName)) ∈ lw_good := lw_goodC3 143 rfl rfl
theorem wd_624 : (Jvm.Cond.sameMethod "PennyQueue$Order" "PennyQueue$Order" "aheadOfPaying" "(II)I") ∈ lw_good := lw_goodC3 144 rfl rfl
theorem wd_625 : (Jvm.Cond.selects "PennyQueue$First" ({ cls := "PennyQueue$Order", name := "aheadOfPaying", desc := "(II)I" } : Jvm.MethodName) ({ cls := "PennyQueue$First", name := "aheadOfPaying", desc := "(II)I" } : Jvm.MethodName)) ∈ lw_good := lw_goodC3 145 rfl rfl
theorem wd_626 : (Jvm.Cond.instanceMethod ({ cls := "PennyQueue$First", name := "aheadOfPaying", desc := "(II)I" } : Jvm.MethodName)) ∈ lw_good := lw_goodC3 146 rfl rfl
theorem wd_627 : (Jvm.Cond.code ({ cls := "PennyQueue$First", name := "aheadOfPaying", desc := "(II)I" } : Jvm.MethodName) prog_3_method_3_code (3 : Nat) (Option.some Jvm.ClassFile.FieldType.int)) ∈ lw_good := lw_goodC3 147 rfl rfl
theorem wd_628 : (Jvm.Cond.selects "PennyQueue$Full" ({ cls := "PennyQueue$Order", name := "aheadOfPaying", desc := "(II)I" } : Jvm.MethodName) ({ cls := "PennyQueue$Order", name := "aheadOfPaying", desc := "(II)I" } : Jvm.MethodName)) ∈ lw_good := lw_goodC3 148 rfl rfl
theorem wd_629 : (Jvm.Cond.selects "PennyQueue$Length" ({ cls := "PennyQueue$Order", name := "aheadOfPaying", desc := "(II)I" } : Jvm.MethodName) ({ cls := "PennyQueue$First", name := "aheadOfPaying", desc := "(II)I" } : Jvm.MethodName)) ∈ lw_good := lw_goodC3 149 rfl rfl
theorem wd_630 : (Jvm.Cond.selects "PennyQueue$Poor" ({ cls := "PennyQueue$Order", name := "aheadOfPaying", desc := "(II)I" } : Jvm.MethodName) ({ cls := "PennyQueue$Share", name := "aheadOfPaying", desc := "(II)I" } : Jvm.MethodName)) ∈ lw_good := lw_goodC3 150 rfl rfl
theorem wd_631 : (Jvm.Cond.instanceMethod ({ cls := "PennyQueue$Share", name := "aheadOfPaying", desc := "(II)I" } : Jvm.MethodName)) ∈ lw_good := lw_goodC3 151 rfl rfl
theorem wd_632 : (Jvm.Cond.code ({ cls := "PennyQueue$Share", name := "aheadOfPaying", desc := "(II)I" } : Jvm.MethodName) prog_9_method_3_code (3 : Nat) (Option.some Jvm.ClassFile.FieldType.int)) ∈ lw_good := lw_goodC3 152 rfl rfl
theorem wd_633 : (Jvm.Cond.selects "PennyQueue$Share" ({ cls := "PennyQueue$Order", name := "aheadOfPaying", desc := "(II)I" } : Jvm.MethodName) ({ cls := "PennyQueue$Share", name := "aheadOfPaying", desc := "(II)I" } : Jvm.MethodName)) ∈ lw_good := lw_goodC3 153 rfl rfl
theorem wd_634 : (Jvm.Cond.selects "PennyQueue$Told" ({ cls := "PennyQueue$Order", name := "aheadOfPaying", desc := "(II)I" } : Jvm.MethodName) ({ cls := "PennyQueue$First", name := "aheadOfPaying", desc := "(II)I" } : Jvm.MethodName)) ∈ lw_good := lw_goodC3 154 rfl rfl
theorem wd_635 : (Jvm.Cond.code ({ cls := "PennyQueue$Order", name := "aheadOfPaying", desc := "(II)I" } : Jvm.MethodName) prog_7_method_5_code (3 : Nat) (Option.some Jvm.ClassFile.FieldType.int)) ∈ lw_good := lw_goodC3 155 rfl rfl
theorem wd_636 : (Jvm.Cond.methodLink "PennyQueue$Hour" (147 : Nat) ({ cls := "PennyQueue$Order", name := "turnsAway", desc := "(I)Z" } : Jvm.MethodName)) ∈ lw_good := lw_goodC3 156 rfl rfl
theorem wd_637 : (Jvm.Cond.instanceMethod ({ cls := "PennyQueue$Order", name := "turnsAway", desc := "(I)Z" } : Jvm.MethodName)) ∈ lw_good := lw_goodC3 157 rfl rfl
theorem wd_638 : (Jvm.Cond.selects "PennyQueue$Order" ({ cls := "PennyQueue$Order", name := "turnsAway", desc := "(I)Z" } : Jvm.MethodName) ({ cls := "PennyQueue$Order", name := "turnsAway", desc := "(I)Z" } : Jvm.MethodName)) ∈ lw_good := lw_goodC3 158 rfl rfl
theorem wd_639 : (Jvm.Cond.sameMethod "PennyQueue$Order" "PennyQueue$Order" "turnsAway" "(I)Z") ∈ lw_good := lw_goodC3 159 rfl rfl
theorem wd_640 : (Jvm.Cond.selects "PennyQueue$First" ({ cls := "PennyQueue$Order", name := "turnsAway", desc := "(I)Z" } : Jvm.MethodName) ({ cls := "PennyQueue$Order", name := "turnsAway", desc := "(I)Z" } : Jvm.MethodName)) ∈ lw_good := lw_goodC3 160 rfl rfl
theorem wd_641 : (Jvm.Cond.selects "PennyQueue$Full" ({ cls := "PennyQueue$Order", name := "turnsAway", desc := "(I)Z" } : Jvm.MethodName) ({ cls := "PennyQueue$Full", name := "turnsAway", desc := "(I)Z" } : Jvm.MethodName)) ∈ lw_good := lw_goodC3 161 rfl rfl
theorem wd_642 : (Jvm.Cond.instanceMethod ({ cls := "PennyQueue$Full", name := "turnsAway", desc := "(I)Z" } : Jvm.MethodName)) ∈ lw_good := lw_goodC3 162 rfl rfl
theorem wd_643 : (Jvm.Cond.code ({ cls := "PennyQueue$Full", name := "turnsAway", desc := "(I)Z" } : Jvm.MethodName) prog_4_method_3_code (2 : Nat) (Option.some Jvm.ClassFile.FieldType.boolean)) ∈ lw_good := lw_goodC3 163 rfl rfl
theorem wd_644 : (Jvm.Cond.selects "PennyQueue$Length" ({ cls := "PennyQueue$Order", name := "turnsAway", desc := "(I)Z" } : Jvm.MethodName) ({ cls := "PennyQueue$Order", name := "turnsAway", desc := "(I)Z" } : Jvm.MethodName)) ∈ lw_good := lw_goodC3 164 rfl rfl
theorem wd_645 : (Jvm.Cond.selects "PennyQueue$Poor" ({ cls := "PennyQueue$Order", name := "turnsAway", desc := "(I)Z" } : Jvm.MethodName) ({ cls := "PennyQueue$Order", name := "turnsAway", desc := "(I)Z" } : Jvm.MethodName)) ∈ lw_good := lw_goodC3 165 rfl rfl
theorem wd_646 : (Jvm.Cond.selects "PennyQueue$Share" ({ cls := "PennyQueue$Order", name := "turnsAway", desc := "(I)Z" } : Jvm.MethodName) ({ cls := "PennyQueue$Order", name := "turnsAway", desc := "(I)Z" } : Jvm.MethodName)) ∈ lw_good := lw_goodC3 166 rfl rfl
theorem wd_647 : (Jvm.Cond.selects "PennyQueue$Told" ({ cls := "PennyQueue$Order", name := "turnsAway", desc := "(I)Z" } : Jvm.MethodName) ({ cls := "PennyQueue$Order", name := "turnsAway", desc := "(I)Z" } : Jvm.MethodName)) ∈ lw_good := lw_goodC3 167 rfl rfl
theorem wd_648 : (Jvm.Cond.code ({ cls := "PennyQueue$Order", name := "turnsAway", desc := "(I)Z" } : Jvm.MethodName) prog_7_method_6_code (2 : Nat) (Option.some Jvm.ClassFile.FieldType.boolean)) ∈ lw_good := lw_goodC3 168 rfl rfl
theorem wd_649 : (Jvm.Cond.methodLink "PennyQueue$Hour" (137 : Nat) ({ cls := "PennyQueue$Hour", name := "timeOf", desc := "(I)I" } : Jvm.MethodName)) ∈ lw_good := lw_goodC3 169 rfl rfl
theorem wd_651 : (Jvm.Cond.instanceMethod ({ cls := "PennyQueue$Hour", name := "timeOf", desc := "(I)I" } : Jvm.MethodName)) ∈ lw_good := lw_goodC3 171 rfl rfl
theorem wd_652 : (Jvm.Cond.code ({ cls := "PennyQueue$Hour", name := "timeOf", desc := "(I)I" } : Jvm.MethodName) prog_5_method_11_code (2 : Nat) (Option.some Jvm.ClassFile.FieldType.int)) ∈ lw_good := lw_goodC3 172 rfl rfl
theorem wd_653 : (Jvm.Cond.methodLink "PennyQueue$Hour" (52 : Nat) ({ cls := "PennyQueue$Hour", name := "comeByText", desc := "(I)V" } : Jvm.MethodName)) ∈ lw_good := lw_goodC3 173 rfl rfl
theorem wd_655 : (Jvm.Cond.instanceMethod ({ cls := "PennyQueue$Hour", name := "comeByText", desc := "(I)V" } : Jvm.MethodName)) ∈ lw_good := lw_goodC3 175 rfl rfl
theorem wd_656 : (Jvm.Cond.code ({ cls := "PennyQueue$Hour", name := "comeByText", desc := "(I)V" } : Jvm.MethodName) prog_5_method_5_code (3 : Nat) (Option.none : Option Jvm.ClassFile.FieldType)) ∈ lw_good := lw_goodC3 176 rfl rfl
theorem wd_657 : (Jvm.Cond.methodLink "PennyQueue$Hour" (117 : Nat) ({ cls := "PennyQueue$Window", name := "calls", desc := "(IIIII)Z" } : Jvm.MethodName)) ∈ lw_good := lw_goodC3 177 rfl rfl
theorem wd_658 : (Jvm.Cond.instanceMethod ({ cls := "PennyQueue$Window", name := "calls", desc := "(IIIII)Z" } : Jvm.MethodName)) ∈ lw_good := lw_goodC3 178 rfl rfl
theorem wd_659 : (Jvm.Cond.selects "PennyQueue$Window" ({ cls := "PennyQueue$Window", name := "calls", desc := "(IIIII)Z" } : Jvm.MethodName) ({ cls := "PennyQueue$Window", name := "calls", desc := "(IIIII)Z" } : Jvm.MethodName)) ∈ lw_good := lw_goodC3 179 rfl rfl
theorem wd_660 : (Jvm.Cond.code ({ cls := "PennyQueue$Window", name := "calls", desc := "(IIIII)Z" } : Jvm.MethodName) prog_12_method_3_code (8 : Nat) (Option.some Jvm.ClassFile.FieldType.boolean)) ∈ lw_good := lw_goodC3 180 rfl rfl
theorem wd_661 : (Jvm.Cond.methodLink "PennyQueue$Window" (58 : Nat) ({ cls := "PennyQueue$Window", name := "holds", desc := "(IIIIII)Z" } : Jvm.MethodName)) ∈ lw_good := lw_goodC3 181 rfl rfl
theorem wd_663 : (Jvm.Cond.instanceMethod ({ cls := "PennyQueue$Window", name := "holds", desc := "(IIIIII)Z" } : Jvm.MethodName)) ∈ lw_good := lw_goodC3 183 rfl rfl
theorem wd_664 : (Jvm.Cond.code ({ cls := "PennyQueue$Window", name := "holds", desc := "(IIIIII)Z" } : Jvm.MethodName) prog_12_method_4_code (13 : Nat) (Option.some Jvm.ClassFile.FieldType.boolean)) ∈ lw_good := lw_goodC3 184 rfl rfl
theorem wd_665 : (Jvm.Cond.methodLink "PennyQueue$Window" (62 : Nat) ({ cls := "PennyQueue$Window", name := "tested", desc := "(III)Z" } : Jvm.MethodName)) ∈ lw_good := lw_goodC3 185 rfl rfl
theorem wd_666 : (Jvm.Cond.static ({ cls := "PennyQueue$Window", name := "tested", desc := "(III)Z" } : Jvm.MethodName)) ∈ lw_good := lw_goodC3 186 rfl rfl
theorem wd_667 : (Jvm.Cond.code ({ cls := "PennyQueue$Window", name := "tested", desc := "(III)Z" } : Jvm.MethodName) prog_12_method_5_code (3 : Nat) (Option.some Jvm.ClassFile.FieldType.boolean)) ∈ lw_good := lw_goodC3 187 rfl rfl
theorem wd_668 : (Jvm.Cond.methodLink "PennyQueue$Hour" (56 : Nat) ({ cls := "PennyQueue$Hour", name := "serve", desc := "()V" } : Jvm.MethodName)) ∈ lw_good := lw_goodC3 188 rfl rfl
theorem wd_670 : (Jvm.Cond.instanceMethod ({ cls := "PennyQueue$Hour", name := "serve", desc := "()V" } : Jvm.MethodName)) ∈ lw_good := lw_goodC3 190 rfl rfl
theorem wd_671 : (Jvm.Cond.code ({ cls := "PennyQueue$Hour", name := "serve", desc := "()V" } : Jvm.MethodName) prog_5_method_9_code (4 : Nat) (Option.none : Option Jvm.ClassFile.FieldType)) ∈ lw_good := lw_goodC3 191 rfl rfl
theorem wd_672 : (Jvm.Cond.methodLink "PennyQueue$Hour" (151 : Nat) ({ cls := "PennyQueue$Hour", name := "firstOf", desc := "(I)I" } : Jvm.MethodName)) ∈ lw_good := lw_goodC3 192 rfl rfl
theorem wd_674 : (Jvm.Cond.instanceMethod ({ cls := "PennyQueue$Hour", name := "firstOf", desc := "(I)I" } : Jvm.MethodName)) ∈ lw_good := lw_goodC3 194 rfl rfl
theorem wd_675 : (Jvm.Cond.code ({ cls := "PennyQueue$Hour", name := "firstOf", desc := "(I)I" } : Jvm.MethodName) prog_5_method_10_code (3 : Nat) (Option.some Jvm.ClassFile.FieldType.int)) ∈ lw_good := lw_goodC3 195 rfl rfl
theorem wd_676 : (Jvm.Cond.methodLink "PennyQueue$Hour" (154 : Nat) ({ cls := "PennyQueue$Order", name := "next", desc := "(III)I" } : Jvm.MethodName)) ∈ lw_good := lw_goodC3 196 rfl rfl
theorem wd_677 : (Jvm.Cond.instanceMethod ({ cls := "PennyQueue$Order", name := "next", desc := "(III)I" } : Jvm.MethodName)) ∈ lw_good := lw_goodC3 197 rfl rfl
theorem wd_678 : (Jvm.Cond.selects "PennyQueue$Order" ({ cls := "PennyQueue$Order", name := "next", desc := "(III)I" } : Jvm.MethodName) ({ cls := "PennyQueue$Order", name := "next", desc := "(III)I" } : Jvm.MethodName)) ∈ lw_good := lw_goodC3 198 rfl rfl
theorem wd_679 : (Jvm.Cond.sameMethod "PennyQueue$Order" "PennyQueue$Order" "next" "(III)I") ∈ lw_good := lw_goodC3 199 rfl rfl
theorem wd_680 : (Jvm.Cond.selects "PennyQueue$First" ({ cls := "PennyQueue$Order", name := "next", desc := "(III)I" } : Jvm.MethodName) ({ cls := "PennyQueue$First", name := "next", desc := "(III)I" } : Jvm.MethodName)) ∈ lw_good := lw_goodC3 200 rfl rfl
theorem wd_681 : (Jvm.Cond.instanceMethod ({ cls := "PennyQueue$First", name := "next", desc := "(III)I" } : Jvm.MethodName)) ∈ lw_good := lw_goodC3 201 rfl rfl
theorem wd_682 : (Jvm.Cond.code ({ cls := "PennyQueue$First", name := "next", desc := "(III)I" } : Jvm.MethodName) prog_3_method_4_code (4 : Nat) (Option.some Jvm.ClassFile.FieldType.int)) ∈ lw_good := lw_goodC3 202 rfl rfl
theorem wd_683 : (Jvm.Cond.selects "PennyQueue$Full" ({ cls := "PennyQueue$Order", name := "next", desc := "(III)I" } : Jvm.MethodName) ({ cls := "PennyQueue$Order", name := "next", desc := "(III)I" } : Jvm.MethodName)) ∈ lw_good := lw_goodC3 203 rfl rfl
theorem wd_684 : (Jvm.Cond.selects "PennyQueue$Length" ({ cls := "PennyQueue$Order", name := "next", desc := "(III)I" } : Jvm.MethodName) ({ cls := "PennyQueue$First", name := "next", desc := "(III)I" } : Jvm.MethodName)) ∈ lw_good := lw_goodC3 204 rfl rfl
theorem wd_685 : (Jvm.Cond.selects "PennyQueue$Poor" ({ cls := "PennyQueue$Order", name := "next", desc := "(III)I" } : Jvm.MethodName) ({ cls := "PennyQueue$Share", name := "next", desc := "(III)I" } : Jvm.MethodName)) ∈ lw_good := lw_goodC3 205 rfl rfl
theorem wd_686 : (Jvm.Cond.instanceMethod ({ cls := "PennyQueue$Share", name := "next", desc := "(III)I" } : Jvm.MethodName)) ∈ lw_good := lw_goodC3 206 rfl rfl
theorem wd_687 : (Jvm.Cond.code ({ cls := "PennyQueue$Share", name := "next", desc := "(III)I" } : Jvm.MethodName) prog_9_method_4_code (4 : Nat) (Option.some Jvm.ClassFile.FieldType.int)) ∈ lw_good := lw_goodC3 207 rfl rfl
theorem wd_688 : (Jvm.Cond.selects "PennyQueue$Share" ({ cls := "PennyQueue$Order", name := "next", desc := "(III)I" } : Jvm.MethodName) ({ cls := "PennyQueue$Share", name := "next", desc := "(III)I" } : Jvm.MethodName)) ∈ lw_good := lw_goodC3 208 rfl rfl
theorem wd_689 : (Jvm.Cond.selects "PennyQueue$Told" ({ cls := "PennyQueue$Order", name := "next", desc := "(III)I" } : Jvm.MethodName) ({ cls := "PennyQueue$First", name := "next", desc := "(III)I" } : Jvm.MethodName)) ∈ lw_good := lw_goodC3 209 rfl rfl
theorem wd_690 : (Jvm.Cond.code ({ cls := "PennyQueue$Order", name := "next", desc := "(III)I" } : Jvm.MethodName) prog_7_method_8_code (4 : Nat) (Option.some Jvm.ClassFile.FieldType.int)) ∈ lw_good := lw_goodC3 210 rfl rfl
theorem wd_691 : (Jvm.Cond.methodLink "PennyQueue$Order" (20 : Nat) ({ cls := "java/lang/Math", name := "max", desc := "(II)I" } : Jvm.MethodName)) ∈ lw_good := lw_goodC3 211 rfl rfl
theorem wd_692 : (Jvm.Cond.methodLink "PennyQueue$Order" (26 : Nat) ({ cls := "java/lang/Math", name := "min", desc := "(II)I" } : Jvm.MethodName)) ∈ lw_good := lw_goodC3 212 rfl rfl
theorem wd_693 : (Jvm.Cond.methodLink "PennyQueue" (159 : Nat) ({ cls := "PennyQueue$Hour", name := "waits", desc := "(I)I" } : Jvm.MethodName)) ∈ lw_good := lw_goodC3 213 rfl rfl
theorem wd_694 : (Jvm.Cond.instanceMethod ({ cls := "PennyQueue$Hour", name := "waits", desc := "(I)I" } : Jvm.MethodName)) ∈ lw_good := lw_goodC3 214 rfl rfl
theorem wd_695 : (Jvm.Cond.selects "PennyQueue$Hour" ({ cls := "PennyQueue$Hour", name := "waits", desc := "(I)I" } : Jvm.MethodName) ({ cls := "PennyQueue$Hour", name := "waits", desc := "(I)I" } : Jvm.MethodName)) ∈ lw_good := lw_goodC3 215 rfl rfl
theorem wd_696 : (Jvm.Cond.code ({ cls := "PennyQueue$Hour", name := "waits", desc := "(I)I" } : Jvm.MethodName) prog_5_method_12_code (2 : Nat) (Option.some Jvm.ClassFile.FieldType.int)) ∈ lw_good := lw_goodC3 216 rfl rfl
theorem wd_697 : (Jvm.Cond.methodLink "PennyQueue" (163 : Nat) ({ cls := "PennyQueue$Hour", name := "rank", desc := "(I)I" } : Jvm.MethodName)) ∈ lw_good := lw_goodC3 217 rfl rfl
theorem wd_698 : (Jvm.Cond.instanceMethod ({ cls := "PennyQueue$Hour", name := "rank", desc := "(I)I" } : Jvm.MethodName)) ∈ lw_good := lw_goodC3 218 rfl rfl
theorem wd_699 : (Jvm.Cond.selects "PennyQueue$Hour" ({ cls := "PennyQueue$Hour", name := "rank", desc := "(I)I" } : Jvm.MethodName) ({ cls := "PennyQueue$Hour", name := "rank", desc := "(I)I" } : Jvm.MethodName)) ∈ lw_good := lw_goodC3 219 rfl rfl
theorem wd_700 : (Jvm.Cond.code ({ cls := "PennyQueue$Hour", name := "rank", desc := "(I)I" } : Jvm.MethodName) prog_5_method_13_code (3 : Nat) (Option.some Jvm.ClassFile.FieldType.int)) ∈ lw_good := lw_goodC3 220 rfl rfl
theorem wd_701 : (Jvm.Cond.methodLink "PennyQueueLaw" (62 : Nat) ({ cls := "PennyQueue", name := "served", desc := "(III)I" } : Jvm.MethodName)) ∈ lw_good := lw_goodC3 221 rfl rfl
theorem wd_702 : (Jvm.Cond.instanceMethod ({ cls := "PennyQueue", name := "served", desc := "(III)I" } : Jvm.MethodName)) ∈ lw_good := lw_goodC3 222 rfl rfl
theorem wd_703 : (Jvm.Cond.selects "PennyQueue" ({ cls := "PennyQueue", name := "served", desc := "(III)I" } : Jvm.MethodName) ({ cls := "PennyQueue", name := "served", desc := "(III)I" } : Jvm.MethodName)) ∈ lw_good := lw_goodC3 223 rfl rfl
theorem wd_704 : (Jvm.Cond.code ({ cls := "PennyQueue", name := "served", desc := "(III)I" } : Jvm.MethodName) prog_1_method_13_code (6 : Nat) (Option.some Jvm.ClassFile.FieldType.int)) ∈ lw_good := lw_goodC3 224 rfl rfl
theorem wd_705 : (Jvm.Cond.methodLink "PennyQueueLaw" (66 : Nat) ({ cls := "PennyQueue", name := "all", desc := "(II)I" } : Jvm.MethodName)) ∈ lw_good := lw_goodC3 225 rfl rfl
theorem wd_706 : (Jvm.Cond.instanceMethod ({ cls := "PennyQueue", name := "all", desc := "(II)I" } : Jvm.MethodName)) ∈ lw_good := lw_goodC3 226 rfl rfl
theorem wd_707 : (Jvm.Cond.selects "PennyQueue" ({ cls := "PennyQueue", name := "all", desc := "(II)I" } : Jvm.MethodName) ({ cls := "PennyQueue", name := "all", desc := "(II)I" } : Jvm.MethodName)) ∈ lw_good := lw_goodC3 227 rfl rfl
theorem wd_708 : (Jvm.Cond.code ({ cls := "PennyQueue", name := "all", desc := "(II)I" } : Jvm.MethodName) prog_1_method_14_code (4 : Nat) (Option.some Jvm.ClassFile.FieldType.int)) ∈ lw_good := lw_goodC3 228 rfl rfl
theorem wd_709 : (Jvm.Cond.methodLink "PennyQueue" (175 : Nat) ({ cls := "PennyQueue$Hour", name := "howMany", desc := "(I)I" } : Jvm.MethodName)) ∈ lw_good := lw_goodC3 229 rfl rfl
theorem wd_710 : (Jvm.Cond.instanceMethod ({ cls := "PennyQueue$Hour", name := "howMany", desc := "(I)I" } : Jvm.MethodName)) ∈ lw_good := lw_goodC3 230 rfl rfl
theorem wd_711 : (Jvm.Cond.selects "PennyQueue$Hour" ({ cls := "PennyQueue$Hour", name := "howMany", desc := "(I)I" } : Jvm.MethodName) ({ cls := "PennyQueue$Hour", name := "howMany", desc := "(I)I" } : Jvm.MethodName)) ∈ lw_good := lw_goodC3 231 rfl rfl
theorem wd_712 : (Jvm.Cond.code ({ cls := "PennyQueue$Hour", name := "howMany", desc := "(I)I" } : Jvm.MethodName) prog_5_method_14_code (4 : Nat) (Option.some Jvm.ClassFile.FieldType.int)) ∈ lw_good := lw_goodC3 232 rfl rfl
theorem wd_713 : (Jvm.Cond.methodLink "PennyQueue" (178 : Nat) ({ cls := "PennyQueue$Hour", name := "lost", desc := "()I" } : Jvm.MethodName)) ∈ lw_good := lw_goodC3 233 rfl rfl
theorem wd_714 : (Jvm.Cond.instanceMethod ({ cls := "PennyQueue$Hour", name := "lost", desc := "()I" } : Jvm.MethodName)) ∈ lw_good := lw_goodC3 234 rfl rfl
theorem wd_715 : (Jvm.Cond.selects "PennyQueue$Hour" ({ cls := "PennyQueue$Hour", name := "lost", desc := "()I" } : Jvm.MethodName) ({ cls := "PennyQueue$Hour", name := "lost", desc := "()I" } : Jvm.MethodName)) ∈ lw_good := lw_goodC3 235 rfl rfl
theorem wd_716 : (Jvm.Cond.code ({ cls := "PennyQueue$Hour", name := "lost", desc := "()I" } : Jvm.MethodName) prog_5_method_16_code (3 : Nat) (Option.some Jvm.ClassFile.FieldType.int)) ∈ lw_good := lw_goodC3 236 rfl rfl
theorem wd_717 : (Jvm.Cond.methodLink "PennyQueue$Hour" (158 : Nat) ({ cls := "PennyQueue$Hour", name := "waits", desc := "(I)I" } : Jvm.MethodName)) ∈ lw_good := lw_goodC3 237 rfl rfl
theorem wd_718 : (Jvm.Cond.methodLink "PennyQueue" (182 : Nat) ({ cls := "PennyQueue$Hour", name := "pence", desc := "()I" } : Jvm.MethodName)) ∈ lw_good := lw_goodC3 238 rfl rfl
theorem wd_719 : (Jvm.Cond.instanceMethod ({ cls := "PennyQueue$Hour", name := "pence", desc := "()I" } : Jvm.MethodName)) ∈ lw_good := lw_goodC3 239 rfl rfl
theorem wd_720 : (Jvm.Cond.selects "PennyQueue$Hour" ({ cls := "PennyQueue$Hour", name := "pence", desc := "()I" } : Jvm.MethodName) ({ cls := "PennyQueue$Hour", name := "pence", desc := "()I" } : Jvm.MethodName)) ∈ lw_good := lw_goodC4 0 rfl rfl
theorem wd_721 : (Jvm.Cond.code ({ cls := "PennyQueue$Hour", name := "pence", desc := "()I" } : Jvm.MethodName) prog_5_method_17_code (3 : Nat) (Option.some Jvm.ClassFile.FieldType.int)) ∈ lw_good := lw_goodC4 1 rfl rfl
theorem wd_722 : (Jvm.Cond.methodLink "PennyQueue" (188 : Nat) ({ cls := "PennyQueue$Hour", name := "back", desc := "()I" } : Jvm.MethodName)) ∈ lw_good := lw_goodC4 2 rfl rfl
theorem wd_723 : (Jvm.Cond.instanceMethod ({ cls := "PennyQueue$Hour", name := "back", desc := "()I" } : Jvm.MethodName)) ∈ lw_good := lw_goodC4 3 rfl rfl
theorem wd_724 : (Jvm.Cond.selects "PennyQueue$Hour" ({ cls := "PennyQueue$Hour", name := "back", desc := "()I" } : Jvm.MethodName) ({ cls := "PennyQueue$Hour", name := "back", desc := "()I" } : Jvm.MethodName)) ∈ lw_good := lw_goodC4 4 rfl rfl
theorem wd_725 : (Jvm.Cond.code ({ cls := "PennyQueue$Hour", name := "back", desc := "()I" } : Jvm.MethodName) prog_5_method_18_code (2 : Nat) (Option.some Jvm.ClassFile.FieldType.int)) ∈ lw_good := lw_goodC4 5 rfl rfl
theorem wd_726 : (Jvm.Cond.methodLink "PennyQueue$Hour" (161 : Nat) ({ cls := "PennyQueue$Hour", name := "howMany", desc := "(I)I" } : Jvm.MethodName)) ∈ lw_good := lw_goodC4 6 rfl rfl
theorem wd_727 : (Jvm.Cond.methodLink "PennyQueue$Hour" (164 : Nat) ({ cls := "PennyQueue$Hour", name := "pence", desc := "()I" } : Jvm.MethodName)) ∈ lw_good := lw_goodC4 7 rfl rfl
theorem wd_728 : (Jvm.Cond.methodLink "PennyQueueLaw" (70 : Nat) ({ cls := "PennyQueue", name := "stand", desc := "(III)I" } : Jvm.MethodName)) ∈ lw_good := lw_goodC4 8 rfl rfl
theorem wd_729 : (Jvm.Cond.instanceMethod ({ cls := "PennyQueue", name := "stand", desc := "(III)I" } : Jvm.MethodName)) ∈ lw_good := lw_goodC4 9 rfl rfl
theorem wd_730 : (Jvm.Cond.selects "PennyQueue" ({ cls := "PennyQueue", name := "stand", desc := "(III)I" } : Jvm.MethodName) ({ cls := "PennyQueue", name := "stand", desc := "(III)I" } : Jvm.MethodName)) ∈ lw_good := lw_goodC4 10 rfl rfl
theorem wd_731 : (Jvm.Cond.code ({ cls := "PennyQueue", name := "stand", desc := "(III)I" } : Jvm.MethodName) prog_1_method_15_code (5 : Nat) (Option.some Jvm.ClassFile.FieldType.int)) ∈ lw_good := lw_goodC4 11 rfl rfl
theorem wd_732 : (Jvm.Cond.methodLink "PennyQueue" (191 : Nat) ({ cls := "PennyQueue$Hour", name := "stoodAt", desc := "(II)I" } : Jvm.MethodName)) ∈ lw_good := lw_goodC4 12 rfl rfl
theorem wd_733 : (Jvm.Cond.instanceMethod ({ cls := "PennyQueue$Hour", name := "stoodAt", desc := "(II)I" } : Jvm.MethodName)) ∈ lw_good := lw_goodC4 13 rfl rfl
theorem wd_734 : (Jvm.Cond.selects "PennyQueue$Hour" ({ cls := "PennyQueue$Hour", name := "stoodAt", desc := "(II)I" } : Jvm.MethodName) ({ cls := "PennyQueue$Hour", name := "stoodAt", desc := "(II)I" } : Jvm.MethodName)) ∈ lw_good := lw_goodC4 14 rfl rfl
theorem wd_735 : (Jvm.Cond.code ({ cls := "PennyQueue$Hour", name := "stoodAt", desc := "(II)I" } : Jvm.MethodName) prog_5_method_15_code (5 : Nat) (Option.some Jvm.ClassFile.FieldType.int)) ∈ lw_good := lw_goodC4 15 rfl rfl
theorem wd_736 : (Jvm.Cond.methodLink "PennyQueueLaw" (74 : Nat) ({ cls := "PennyQueue", name := "price", desc := "(II)I" } : Jvm.MethodName)) ∈ lw_good := lw_goodC4 16 rfl rfl
theorem wd_737 : (Jvm.Cond.instanceMethod ({ cls := "PennyQueue", name := "price", desc := "(II)I" } : Jvm.MethodName)) ∈ lw_good := lw_goodC4 17 rfl rfl
theorem wd_738 : (Jvm.Cond.selects "PennyQueue" ({ cls := "PennyQueue", name := "price", desc := "(II)I" } : Jvm.MethodName) ({ cls := "PennyQueue", name := "price", desc := "(II)I" } : Jvm.MethodName)) ∈ lw_good := lw_goodC4 18 rfl rfl
theorem wd_739 : (Jvm.Cond.code ({ cls := "PennyQueue", name := "price", desc := "(II)I" } : Jvm.MethodName) prog_1_method_16_code (12 : Nat) (Option.some Jvm.ClassFile.FieldType.int)) ∈ lw_good := lw_goodC4 19 rfl rfl
theorem wd_740 : (Jvm.Cond.constant "PennyQueue" (197 : Nat) (2147483647 : Int32)) ∈ lw_good := lw_goodC4 20 rfl rfl
theorem wd_741 : (Jvm.Cond.methodLink "PennyQueueLaw" (78 : Nat) ({ cls := "PennyQueue", name := "worse", desc := "(I)I" } : Jvm.MethodName)) ∈ lw_good := lw_goodC4 21 rfl rfl
theorem wd_742 : (Jvm.Cond.instanceMethod ({ cls := "PennyQueue", name := "worse", desc := "(I)I" } : Jvm.MethodName)) ∈ lw_good := lw_goodC4 22 rfl rfl
theorem wd_743 : (Jvm.Cond.selects "PennyQueue" ({ cls := "PennyQueue", name := "worse", desc := "(I)I" } : Jvm.MethodName) ({ cls := "PennyQueue", name := "worse", desc := "(I)I" } : Jvm.MethodName)) ∈ lw_good := lw_goodC4 23 rfl rfl
theorem wd_744 : (Jvm.Cond.code ({ cls := "PennyQueue", name := "worse", desc := "(I)I" } : Jvm.MethodName) prog_1_method_17_code (5 : Nat) (Option.some Jvm.ClassFile.FieldType.int)) ∈ lw_good := lw_goodC4 24 rfl rfl
theorem wd_745 : (Jvm.Cond.methodLink "PennyQueue" (202 : Nat) ({ cls := "PennyQueue$Hour", name := "lossOf", desc := "(I)I" } : Jvm.MethodName)) ∈ lw_good := lw_goodC4 25 rfl rfl
theorem wd_746 : (Jvm.Cond.instanceMethod ({ cls := "PennyQueue$Hour", name := "lossOf", desc := "(I)I" } : Jvm.MethodName)) ∈ lw_good := lw_goodC4 26 rfl rfl
theorem wd_747 : (Jvm.Cond.selects "PennyQueue$Hour" ({ cls := "PennyQueue$Hour", name := "lossOf", desc := "(I)I" } : Jvm.MethodName) ({ cls := "PennyQueue$Hour", name := "lossOf", desc := "(I)I" } : Jvm.MethodName)) ∈ lw_good := lw_goodC4 27 rfl rfl
theorem wd_748 : (Jvm.Cond.code ({ cls := "PennyQueue$Hour", name := "lossOf", desc := "(I)I" } : Jvm.MethodName) prog_5_method_19_code (4 : Nat) (Option.some Jvm.ClassFile.FieldType.int)) ∈ lw_good := lw_goodC4 28 rfl rfl
theorem wd_749 : (Jvm.Cond.methodLink "PennyQueueLaw" (82 : Nat) ({ cls := "PennyQueue", name := "loss", desc := "(II)I" } : Jvm.MethodName)) ∈ lw_good := lw_goodC4 29 rfl rfl
theorem wd_750 : (Jvm.Cond.instanceMethod ({ cls := "PennyQueue", name := "loss", desc := "(II)I" } : Jvm.MethodName)) ∈ lw_good := lw_goodC4 30 rfl rfl
theorem wd_751 : (Jvm.Cond.selects "PennyQueue" ({ cls := "PennyQueue", name := "loss", desc := "(II)I" } : Jvm.MethodName) ({ cls := "PennyQueue", name := "loss", desc := "(II)I" } : Jvm.MethodName)) ∈ lw_good := lw_goodC4 31 rfl rfl
theorem wd_752 : (Jvm.Cond.code ({ cls := "PennyQueue", name := "loss", desc := "(II)I" } : Jvm.MethodName) prog_1_method_18_code (4 : Nat) (Option.some Jvm.ClassFile.FieldType.int)) ∈ lw_good := lw_goodC4 32 rfl rfl
theorem wd_753 : (Jvm.Cond.methodLink "PennyQueueLaw" (86 : Nat) ({ cls := "PennyQueue", name := "slow", desc := "(II)I" } : Jvm.MethodName)) ∈ lw_good := lw_goodC4 33 rfl rfl
theorem wd_754 : (Jvm.Cond.instanceMethod ({ cls := "PennyQueue", name := "slow", desc := "(II)I" } : Jvm.MethodName)) ∈ lw_good := lw_goodC4 34 rfl rfl
theorem wd_755 : (Jvm.Cond.selects "PennyQueue" ({ cls := "PennyQueue", name := "slow", desc := "(II)I" } : Jvm.MethodName) ({ cls := "PennyQueue", name := "slow", desc := "(II)I" } : Jvm.MethodName)) ∈ lw_good := lw_goodC4 35 rfl rfl
theorem wd_756 : (Jvm.Cond.code ({ cls := "PennyQueue", name := "slow", desc := "(II)I" } : Jvm.MethodName) prog_1_method_19_code (5 : Nat) (Option.some Jvm.ClassFile.FieldType.int)) ∈ lw_good := lw_goodC4 36 rfl rfl
theorem wd_757 : (Jvm.Cond.constant "PennyQueue" (205 : Nat) (-100001 : Int32)) ∈ lw_good := lw_goodC4 37 rfl rfl
theorem wd_758 : (Jvm.Cond.constant "PennyQueue" (206 : Nat) (-100002 : Int32)) ∈ lw_good := lw_goodC4 38 rfl rfl
theorem wd_759 : (Jvm.Cond.methodLink "PennyQueueLaw" (90 : Nat) ({ cls := "PennyQueue", name := "early", desc := "(III)I" } : Jvm.MethodName)) ∈ lw_good := lw_goodC4 39 rfl rfl
theorem wd_760 : (Jvm.Cond.instanceMethod ({ cls := "PennyQueue", name := "early", desc := "(III)I" } : Jvm.MethodName)) ∈ lw_good := lw_goodC4 40 rfl rfl
theorem wd_761 : (Jvm.Cond.selects "PennyQueue" ({ cls := "PennyQueue", name := "early", desc := "(III)I" } : Jvm.MethodName) ({ cls := "PennyQueue", name := "early", desc := "(III)I" } : Jvm.MethodName)) ∈ lw_good := lw_goodC4 41 rfl rfl
theorem wd_762 : (Jvm.Cond.code ({ cls := "PennyQueue", name := "early", desc := "(III)I" } : Jvm.MethodName) prog_1_method_20_code (9 : Nat) (Option.some Jvm.ClassFile.FieldType.int)) ∈ lw_good := lw_goodC4 42 rfl rfl
theorem wd_763 : (Jvm.Cond.methodLink "PennyQueue" (207 : Nat) ({ cls := "PennyQueue$Day", name := "become", desc := "(LPennyQueue$Day;I)V" } : Jvm.MethodName)) ∈ lw_good := lw_goodC4 43 rfl rfl
theorem wd_764 : (Jvm.Cond.instanceMethod ({ cls := "PennyQueue$Day", name := "become", desc := "(LPennyQueue$Day;I)V" } : Jvm.MethodName)) ∈ lw_good := lw_goodC4 44 rfl rfl
theorem wd_765 : (Jvm.Cond.selects "PennyQueue$Day" ({ cls := "PennyQueue$Day", name := "become", desc := "(LPennyQueue$Day;I)V" } : Jvm.MethodName) ({ cls := "PennyQueue$Day", name := "become", desc := "(LPennyQueue$Day;I)V" } : Jvm.MethodName)) ∈ lw_good := lw_goodC4 45 rfl rfl
theorem wd_766 : (Jvm.Cond.code ({ cls := "PennyQueue$Day", name := "become", desc := "(LPennyQueue$Day;I)V" } : Jvm.MethodName) prog_2_method_3_code (3 : Nat) (Option.none : Option Jvm.ClassFile.FieldType)) ∈ lw_good := lw_goodC4 46 rfl rfl
theorem wd_767 : (Jvm.Cond.methodLink "PennyQueue$Day" (28 : Nat) ({ cls := "java/lang/System", name := "arraycopy", desc := "(Ljava/lang/Object;ILjava/lang/Object;II)V" } : Jvm.MethodName)) ∈ lw_good := lw_goodC4 47 rfl rfl
theorem wd_768 : (Jvm.Cond.static ({ cls := "java/lang/System", name := "arraycopy", desc := "(Ljava/lang/Object;ILjava/lang/Object;II)V" } : Jvm.MethodName)) ∈ lw_good := lw_goodC4 48 rfl rfl
theorem wd_769 : (Jvm.Cond.native ({ cls := "java/lang/System", name := "arraycopy", desc := "(Ljava/lang/Object;ILjava/lang/Object;II)V" } : Jvm.MethodName)) ∈ lw_good := lw_goodC4 49 rfl rfl
theorem wd_770 : (Jvm.Cond.methodLink "PennyQueueLaw" (94 : Nat) ({ cls := "PennyQueue", name := "sell", desc := "(I)I" } : Jvm.MethodName)) ∈ lw_good := lw_goodC4 50 rfl rfl
theorem wd_771 : (Jvm.Cond.instanceMethod ({ cls := "PennyQueue", name := "sell", desc := "(I)I" } : Jvm.MethodName)) ∈ lw_good := lw_goodC4 51 rfl rfl
theorem wd_772 : (Jvm.Cond.selects "PennyQueue" ({ cls := "PennyQueue", name := "sell", desc := "(I)I" } : Jvm.MethodName) ({ cls := "PennyQueue", name := "sell", desc := "(I)I" } : Jvm.MethodName)) ∈ lw_good := lw_goodC4 52 rfl rfl
theorem wd_773 : (Jvm.Cond.code ({ cls := "PennyQueue", name := "sell", desc := "(I)I" } : Jvm.MethodName) prog_1_method_21_code (3 : Nat) (Option.some Jvm.ClassFile.FieldType.int)) ∈ lw_good := lw_goodC4 53 rfl rfl
theorem wd_774 : (Jvm.Cond.methodLink "PennyQueue" (214 : Nat) ({ cls := "PennyQueue$Hour", name := "sales", desc := "()I" } : Jvm.MethodName)) ∈ lw_good := lw_goodC4 54 rfl rfl
theorem wd_775 : (Jvm.Cond.instanceMethod ({ cls := "PennyQueue$Hour", name := "sales", desc := "()I" } : Jvm.MethodName)) ∈ lw_good := lw_goodC4 55 rfl rfl
theorem wd_776 : (Jvm.Cond.selects "PennyQueue$Hour" ({ cls := "PennyQueue$Hour", name := "sales", desc := "()I" } : Jvm.MethodName) ({ cls := "PennyQueue$Hour", name := "sales", desc := "()I" } : Jvm.MethodName)) ∈ lw_good := lw_goodC4 56 rfl rfl
theorem wd_777 : (Jvm.Cond.code ({ cls := "PennyQueue$Hour", name := "sales", desc := "()I" } : Jvm.MethodName) prog_5_method_20_code (5 : Nat) (Option.some Jvm.ClassFile.FieldType.int)) ∈ lw_good := lw_goodC4 57 rfl rfl
theorem wd_778 : (Jvm.Cond.methodLink "PennyQueueLaw" (98 : Nat) ({ cls := "PennyQueue", name := "mean", desc := "(II)J" } : Jvm.MethodName)) ∈ lw_good := lw_goodC4 58 rfl rfl
theorem wd_779 : (Jvm.Cond.instanceMethod ({ cls := "PennyQueue", name := "mean", desc := "(II)J" } : Jvm.MethodName)) ∈ lw_good := lw_goodC4 59 rfl rfl
theorem wd_780 : (Jvm.Cond.selects "PennyQueue" ({ cls := "PennyQueue", name := "mean", desc := "(II)J" } : Jvm.MethodName) ({ cls := "PennyQueue", name := "mean", desc := "(II)J" } : Jvm.MethodName)) ∈ lw_good := lw_goodC4 60 rfl rfl
theorem wd_781 : (Jvm.Cond.code ({ cls := "PennyQueue", name := "mean", desc := "(II)J" } : Jvm.MethodName) prog_1_method_22_code (11 : Nat) (Option.some Jvm.ClassFile.FieldType.long)) ∈ lw_good := lw_goodC4 61 rfl rfl
theorem wd_782 : (Jvm.Cond.constantLong "PennyQueue" (217 : Nat) (-9223372036854775808 : Int64)) ∈ lw_good := lw_goodC4 62 rfl rfl
theorem wd_783 : (Jvm.Cond.methodLink "PennyQueue" (219 : Nat) ({ cls := "PennyQueue", name := "chance", desc := "(I)J" } : Jvm.MethodName)) ∈ lw_good := lw_goodC4 63 rfl rfl
theorem wd_785 : (Jvm.Cond.instanceMethod ({ cls := "PennyQueue", name := "chance", desc := "(I)J" } : Jvm.MethodName)) ∈ lw_good := lw_goodC4 65 rfl rfl
theorem wd_786 : (Jvm.Cond.code ({ cls := "PennyQueue", name := "chance", desc := "(I)J" } : Jvm.MethodName) prog_1_method_41_code (6 : Nat) (Option.some Jvm.ClassFile.FieldType.long)) ∈ lw_good := lw_goodC4 66 rfl rfl
theorem wd_787 : (Jvm.Cond.constantLong "PennyQueue" (223 : Nat) (10 : Int64)) ∈ lw_good := lw_goodC4 67 rfl rfl
theorem wd_788 : (Jvm.Cond.methodLink "PennyQueue" (225 : Nat) ({ cls := "PennyQueue", name := "reduced", desc := "(JJI)J" } : Jvm.MethodName)) ∈ lw_good := lw_goodC4 68 rfl rfl
theorem wd_789 : (Jvm.Cond.static ({ cls := "PennyQueue", name := "reduced", desc := "(JJI)J" } : Jvm.MethodName)) ∈ lw_good := lw_goodC4 69 rfl rfl
theorem wd_790 : (Jvm.Cond.code ({ cls := "PennyQueue", name := "reduced", desc := "(JJI)J" } : Jvm.MethodName) prog_1_method_42_code (6 : Nat) (Option.some Jvm.ClassFile.FieldType.long)) ∈ lw_good := lw_goodC4 70 rfl rfl
theorem wd_791 : (Jvm.Cond.constantLong "PennyQueue" (300 : Nat) (2 : Int64)) ∈ lw_good := lw_goodC4 71 rfl rfl
theorem wd_792 : (Jvm.Cond.constantLong "PennyQueue" (302 : Nat) (5 : Int64)) ∈ lw_good := lw_goodC4 72 rfl rfl
theorem wd_793 : (Jvm.Cond.methodLink "PennyQueueLaw" (103 : Nat) ({ cls := "PennyQueue", name := "judge", desc := "(IIII)I" } : Jvm.MethodName)) ∈ lw_good := lw_goodC4 73 rfl rfl
theorem wd_794 : (Jvm.Cond.instanceMethod ({ cls := "PennyQueue", name := "judge", desc := "(IIII)I" } : Jvm.MethodName)) ∈ lw_good := lw_goodC4 74 rfl rfl
theorem wd_795 : (Jvm.Cond.selects "PennyQueue" ({ cls := "PennyQueue", name := "judge", desc := "(IIII)I" } : Jvm.MethodName) ({ cls := "PennyQueue", name := "judge", desc := "(IIII)I" } : Jvm.MethodName)) ∈ lw_good := lw_goodC4 75 rfl rfl
theorem wd_796 : (Jvm.Cond.code ({ cls := "PennyQueue", name := "judge", desc := "(IIII)I" } : Jvm.MethodName) prog_1_method_23_code (8 : Nat) (Option.some Jvm.ClassFile.FieldType.int)) ∈ lw_good := lw_goodC4 76 rfl rfl
theorem wd_797 : (Jvm.Cond.methodLink "PennyQueue" (229 : Nat) ({ cls := "PennyQueue", name := "tapeAt", desc := "(I)LPennyQueue$Tape;" } : Jvm.MethodName)) ∈ lw_good := lw_goodC4 77 rfl rfl
theorem wd_799 : (Jvm.Cond.instanceMethod ({ cls := "PennyQueue", name := "tapeAt", desc := "(I)LPennyQueue$Tape;" } : Jvm.MethodName)) ∈ lw_good := lw_goodC4 79 rfl rfl
theorem wd_800 : (Jvm.Cond.code ({ cls := "PennyQueue", name := "tapeAt", desc := "(I)LPennyQueue$Tape;" } : Jvm.MethodName) prog_1_method_37_code (2 : Nat) (Option.some (Jvm.ClassFile.FieldType.object "PennyQueue$Tape"))) ∈ lw_good := lw_goodC4 80 rfl rfl
theorem wd_801 : (Jvm.Cond.methodLink "PennyQueue" (236 : Nat) ({ cls := "PennyQueue$Tape", name := "lacks", desc := "(J)Z" } : Jvm.MethodName)) ∈ lw_good := lw_goodC4 81 rfl rfl
theorem wd_802 : (Jvm.Cond.instanceMethod ({ cls := "PennyQueue$Tape", name := "lacks", desc := "(J)Z" } : Jvm.MethodName)) ∈ lw_good := lw_goodC4 82 rfl rfl
theorem wd_803 : (Jvm.Cond.selects "PennyQueue$Tape" ({ cls := "PennyQueue$Tape", name := "lacks", desc := "(J)Z" } : Jvm.MethodName) ({ cls := "PennyQueue$Tape", name := "lacks", desc := "(J)Z" } : Jvm.MethodName)) ∈ lw_good := lw_goodC4 83 rfl rfl
theorem wd_804 : (Jvm.Cond.code ({ cls := "PennyQueue$Tape", name := "lacks", desc := "(J)Z" } : Jvm.MethodName) prog_10_method_3_code (3 : Nat) (Option.some Jvm.ClassFile.FieldType.boolean)) ∈ lw_good := lw_goodC4 84 rfl rfl
theorem wd_805 : (Jvm.Cond.methodLink "PennyQueueLaw" (107 : Nat) ({ cls := "PennyQueue", name := "image", desc := "()I" } : Jvm.MethodName)) ∈ lw_good := lw_goodC4 85 rfl rfl
theorem wd_806 : (Jvm.Cond.instanceMethod ({ cls := "PennyQueue", name := "image", desc := "()I" } : Jvm.MethodName)) ∈ lw_good := lw_goodC4 86 rfl rfl
theorem wd_807 : (Jvm.Cond.selects "PennyQueue" ({ cls := "PennyQueue", name := "image", desc := "()I" } : Jvm.MethodName) ({ cls := "PennyQueue", name := "image", desc := "()I" } : Jvm.MethodName)) ∈ lw_good := lw_goodC4 87 rfl rfl
theorem wd_808 : (Jvm.Cond.code ({ cls := "PennyQueue", name := "image", desc := "()I" } : Jvm.MethodName) prog_1_method_24_code (1 : Nat) (Option.some Jvm.ClassFile.FieldType.int)) ∈ lw_good := lw_goodC4 88 rfl rfl
theorem wd_809 : (Jvm.Cond.methodLink "PennyQueueLaw" (111 : Nat) ({ cls := "PennyQueue", name := "undo", desc := "()I" } : Jvm.MethodName)) ∈ lw_good := lw_goodC4 89 rfl rfl
theorem wd_810 : (Jvm.Cond.instanceMethod ({ cls := "PennyQueue", name := "undo", desc := "()I" } : Jvm.MethodName)) ∈ lw_good := lw_goodC4 90 rfl rfl
theorem wd_811 : (Jvm.Cond.selects "PennyQueue" ({ cls := "PennyQueue", name := "undo", desc := "()I" } : Jvm.MethodName) ({ cls := "PennyQueue", name := "undo", desc := "()I" } : Jvm.MethodName)) ∈ lw_good := lw_goodC4 91 rfl rfl
theorem wd_812 : (Jvm.Cond.code ({ cls := "PennyQueue", name := "undo", desc := "()I" } : Jvm.MethodName) prog_1_method_25_code (1 : Nat) (Option.some Jvm.ClassFile.FieldType.int)) ∈ lw_good := lw_goodC4 92 rfl rfl
theorem wd_813 : (Jvm.Cond.methodLink "PennyQueueLaw" (115 : Nat) ({ cls := "PennyQueue", name := "act", desc := "(III)I" } : Jvm.MethodName)) ∈ lw_good := lw_goodC4 93 rfl rfl
theorem wd_814 : (Jvm.Cond.instanceMethod ({ cls := "PennyQueue", name := "act", desc := "(III)I" } : Jvm.MethodName)) ∈ lw_good := lw_goodC4 94 rfl rfl
theorem wd_815 : (Jvm.Cond.selects "PennyQueue" ({ cls := "PennyQueue", name := "act", desc := "(III)I" } : Jvm.MethodName) ({ cls := "PennyQueue", name := "act", desc := "(III)I" } : Jvm.MethodName)) ∈ lw_good := lw_goodC4 95 rfl rfl
theorem wd_816 : (Jvm.Cond.code ({ cls := "PennyQueue", name := "act", desc := "(III)I" } : Jvm.MethodName) prog_1_method_26_code (5 : Nat) (Option.some Jvm.ClassFile.FieldType.int)) ∈ lw_good := lw_goodC4 96 rfl rfl
theorem wd_817 : (Jvm.Cond.methodLink "PennyQueue" (257 : Nat) ({ cls := "PennyQueue$Order", name := "joins", desc := "(I)I" } : Jvm.MethodName)) ∈ lw_good := lw_goodC4 97 rfl rfl
theorem wd_818 : (Jvm.Cond.instanceMethod ({ cls := "PennyQueue$Order", name := "joins", desc := "(I)I" } : Jvm.MethodName)) ∈ lw_good := lw_goodC4 98 rfl rfl
theorem wd_819 : (Jvm.Cond.selects "PennyQueue$Order" ({ cls := "PennyQueue$Order", name := "joins", desc := "(I)I" } : Jvm.MethodName) ({ cls := "PennyQueue$Order", name := "joins", desc := "(I)I" } : Jvm.MethodName)) ∈ lw_good := lw_goodC4 99 rfl rfl
theorem wd_820 : (Jvm.Cond.sameMethod "PennyQueue$Order" "PennyQueue$Order" "joins" "(I)I") ∈ lw_good := lw_goodC4 100 rfl rfl
theorem wd_821 : (Jvm.Cond.selects "PennyQueue$First" ({ cls := "PennyQueue$Order", name := "joins", desc := "(I)I" } : Jvm.MethodName) ({ cls := "PennyQueue$Order", name := "joins", desc := "(I)I" } : Jvm.MethodName)) ∈ lw_good := lw_goodC4 101 rfl rfl
theorem wd_822 : (Jvm.Cond.selects "PennyQueue$Full" ({ cls := "PennyQueue$Order", name := "joins", desc := "(I)I" } : Jvm.MethodName) ({ cls := "PennyQueue$Order", name := "joins", desc := "(I)I" } : Jvm.MethodName)) ∈ lw_good := lw_goodC4 102 rfl rfl
theorem wd_823 : (Jvm.Cond.selects "PennyQueue$Length" ({ cls := "PennyQueue$Order", name := "joins", desc := "(I)I" } : Jvm.MethodName) ({ cls := "PennyQueue$Length", name := "joins", desc := "(I)I" } : Jvm.MethodName)) ∈ lw_good := lw_goodC4 103 rfl rfl
theorem wd_824 : (Jvm.Cond.instanceMethod ({ cls := "PennyQueue$Length", name := "joins", desc := "(I)I" } : Jvm.MethodName)) ∈ lw_good := lw_goodC4 104 rfl rfl
theorem wd_825 : (Jvm.Cond.code ({ cls := "PennyQueue$Length", name := "joins", desc := "(I)I" } : Jvm.MethodName) prog_6_method_4_code (2 : Nat) (Option.some Jvm.ClassFile.FieldType.int)) ∈ lw_good := lw_goodC4 105 rfl rfl
theorem wd_826 : (Jvm.Cond.methodLink "PennyQueue$Length" (13 : Nat) ({ cls := "PennyQueue$Length", name := "began", desc := "(I)V" } : Jvm.MethodName)) ∈ lw_good := lw_goodC4 106 rfl rfl
theorem wd_827 : (Jvm.Cond.sameMethod "PennyQueue$Length" "PennyQueue$Order" "began" "(I)V") ∈ lw_good := lw_goodC4 107 rfl rfl
theorem wd_829 : (Jvm.Cond.selects "PennyQueue$Length" ({ cls := "PennyQueue$Length", name := "began", desc := "(I)V" } : Jvm.MethodName) ({ cls := "PennyQueue$Order", name := "began", desc := "(I)V" } : Jvm.MethodName)) ∈ lw_good := lw_goodC4 109 rfl rfl
theorem wd_830 : (Jvm.Cond.instanceMethod ({ cls := "PennyQueue$Order", name := "began", desc := "(I)V" } : Jvm.MethodName)) ∈ lw_good := lw_goodC4 110 rfl rfl
theorem wd_831 : (Jvm.Cond.code ({ cls := "PennyQueue$Order", name := "began", desc := "(I)V" } : Jvm.MethodName) prog_7_method_9_code (2 : Nat) (Option.none : Option Jvm.ClassFile.FieldType)) ∈ lw_good := lw_goodC4 111 rfl rfl
theorem wd_832 : (Jvm.Cond.methodLink "PennyQueue$Length" (17 : Nat) ({ cls := "PennyQueue$First", name := "joins", desc := "(I)I" } : Jvm.MethodName)) ∈ lw_good := lw_goodC4 112 rfl rfl
theorem wd_833 : (Jvm.Cond.sameMethod "PennyQueue$First" "PennyQueue$Order" "joins" "(I)I") ∈ lw_good := lw_goodC4 113 rfl rfl
theorem wd_835 : (Jvm.Cond.selects "PennyQueue$Poor" ({ cls := "PennyQueue$Order", name := "joins", desc := "(I)I" } : Jvm.MethodName) ({ cls := "PennyQueue$Share", name := "joins", desc := "(I)I" } : Jvm.MethodName)) ∈ lw_good := lw_goodC4 115 rfl rfl
theorem wd_836 : (Jvm.Cond.instanceMethod ({ cls := "PennyQueue$Share", name := "joins", desc := "(I)I" } : Jvm.MethodName)) ∈ lw_good := lw_goodC4 116 rfl rfl
theorem wd_837 : (Jvm.Cond.code ({ cls := "PennyQueue$Share", name := "joins", desc := "(I)I" } : Jvm.MethodName) prog_9_method_5_code (2 : Nat) (Option.some Jvm.ClassFile.FieldType.int)) ∈ lw_good := lw_goodC4 117 rfl rfl
theorem wd_838 : (Jvm.Cond.methodLink "PennyQueue$Share" (13 : Nat) ({ cls := "PennyQueue$Share", name := "began", desc := "(I)V" } : Jvm.MethodName)) ∈ lw_good := lw_goodC4 118 rfl rfl
theorem wd_839 : (Jvm.Cond.sameMethod "PennyQueue$Share" "PennyQueue$Order" "began" "(I)V") ∈ lw_good := lw_goodC4 119 rfl rfl
theorem wd_840 : (Jvm.Cond.selects "PennyQueue$Poor" ({ cls := "PennyQueue$Share", name := "began", desc := "(I)V" } : Jvm.MethodName) ({ cls := "PennyQueue$Order", name := "began", desc := "(I)V" } : Jvm.MethodName)) ∈ lw_good := lw_goodC4 120 rfl rfl
theorem wd_841 : (Jvm.Cond.selects "PennyQueue$Share" ({ cls := "PennyQueue$Share", name := "began", desc := "(I)V" } : Jvm.MethodName) ({ cls := "PennyQueue$Order", name := "began", desc := "(I)V" } : Jvm.MethodName)) ∈ lw_good := lw_goodC4 121 rfl rfl
theorem wd_842 : (Jvm.Cond.methodLink "PennyQueue$Share" (17 : Nat) ({ cls := "PennyQueue$Order", name := "joins", desc := "(I)I" } : Jvm.MethodName)) ∈ lw_good := lw_goodC4 122 rfl rfl
theorem wd_843 : (Jvm.Cond.selects "PennyQueue$Share" ({ cls := "PennyQueue$Order", name := "joins", desc := "(I)I" } : Jvm.MethodName) ({ cls := "PennyQueue$Share", name := "joins", desc := "(I)I" } : Jvm.MethodName)) ∈ lw_good := lw_goodC4 123 rfl rfl
theorem wd_844 : (Jvm.Cond.selects "PennyQueue$Told" ({ cls := "PennyQueue$Order", name := "joins", desc := "(I)I" } : Jvm.MethodName) ({ cls := "PennyQueue$Told", name := "joins", desc := "(I)I" } : Jvm.MethodName)) ∈ lw_good := lw_goodC4 124 rfl rfl
theorem wd_845 : (Jvm.Cond.instanceMethod ({ cls := "PennyQueue$Told", name := "joins", desc := "(I)I" } : Jvm.MethodName)) ∈ lw_good := lw_goodC4 125 rfl rfl
theorem wd_846 : (Jvm.Cond.code ({ cls := "PennyQueue$Told", name := "joins", desc := "(I)I" } : Jvm.MethodName) prog_11_method_5_code (2 : Nat) (Option.some Jvm.ClassFile.FieldType.int)) ∈ lw_good := lw_goodC4 126 rfl rfl
theorem wd_847 : (Jvm.Cond.methodLink "PennyQueue$Told" (19 : Nat) ({ cls := "PennyQueue$Told", name := "began", desc := "(I)V" } : Jvm.MethodName)) ∈ lw_good := lw_goodC4 127 rfl rfl
theorem wd_848 : (Jvm.Cond.sameMethod "PennyQueue$Told" "PennyQueue$Order" "began" "(I)V") ∈ lw_good := lw_goodC4 128 rfl rfl
theorem wd_849 : (Jvm.Cond.selects "PennyQueue$Told" ({ cls := "PennyQueue$Told", name := "began", desc := "(I)V" } : Jvm.MethodName) ({ cls := "PennyQueue$Order", name := "began", desc := "(I)V" } : Jvm.MethodName)) ∈ lw_good := lw_goodC4 129 rfl rfl
theorem wd_850 : (Jvm.Cond.methodLink "PennyQueue$Told" (27 : Nat) ({ cls := "PennyQueue$First", name := "joins", desc := "(I)I" } : Jvm.MethodName)) ∈ lw_good := lw_goodC4 130 rfl rfl
theorem wd_851 : (Jvm.Cond.code ({ cls := "PennyQueue$Order", name := "joins", desc := "(I)I" } : Jvm.MethodName) prog_7_method_10_code (2 : Nat) (Option.some Jvm.ClassFile.FieldType.int)) ∈ lw_good := lw_goodC4 131 rfl rfl
theorem wd_852 : (Jvm.Cond.methodLink "PennyQueue$Order" (32 : Nat) ({ cls := "PennyQueue$Order", name := "began", desc := "(I)V" } : Jvm.MethodName)) ∈ lw_good := lw_goodC4 132 rfl rfl
theorem wd_853 : (Jvm.Cond.methodLink "PennyQueue" (260 : Nat) ({ cls := "PennyQueue$Order", name := "takes", desc := "(I)I" } : Jvm.MethodName)) ∈ lw_good := lw_goodC4 133 rfl rfl
theorem wd_854 : (Jvm.Cond.instanceMethod ({ cls := "PennyQueue$Order", name := "takes", desc := "(I)I" } : Jvm.MethodName)) ∈ lw_good := lw_goodC4 134 rfl rfl
theorem wd_855 : (Jvm.Cond.selects "PennyQueue$Order" ({ cls := "PennyQueue$Order", name := "takes", desc := "(I)I" } : Jvm.MethodName) ({ cls := "PennyQueue$Order", name := "takes", desc := "(I)I" } : Jvm.MethodName)) ∈ lw_good := lw_goodC4 135 rfl rfl
theorem wd_856 : (Jvm.Cond.sameMethod "PennyQueue$Order" "PennyQueue$Order" "takes" "(I)I") ∈ lw_good := lw_goodC4 136 rfl rfl
theorem wd_857 : (Jvm.Cond.selects "PennyQueue$First" ({ cls := "PennyQueue$Order", name := "takes", desc := "(I)I" } : Jvm.MethodName) ({ cls := "PennyQueue$First", name := "takes", desc := "(I)I" } : Jvm.MethodName)) ∈ lw_good := lw_goodC4 137 rfl rfl
theorem wd_858 : (Jvm.Cond.instanceMethod ({ cls := "PennyQueue$First", name := "takes", desc := "(I)I" } : Jvm.MethodName)) ∈ lw_good := lw_goodC4 138 rfl rfl
theorem wd_859 : (Jvm.Cond.code ({ cls := "PennyQueue$First", name := "takes", desc := "(I)I" } : Jvm.MethodName) prog_3_method_5_code (2 : Nat) (Option.some Jvm.ClassFile.FieldType.int)) ∈ lw_good := lw_goodC4 139 rfl rfl
theorem wd_860 : (Jvm.Cond.methodLink "PennyQueue$First" (7 : Nat) ({ cls := "PennyQueue$First", name := "began", desc := "(I)V" } : Jvm.MethodName)) ∈ lw_good := lw_goodC4 140 rfl rfl
theorem wd_861 : (Jvm.Cond.sameMethod "PennyQueue$First" "PennyQueue$Order" "began" "(I)V") ∈ lw_good := lw_goodC4 141 rfl rfl
theorem wd_862 : (Jvm.Cond.selects "PennyQueue$First" ({ cls := "PennyQueue$First", name := "began", desc := "(I)V" } : Jvm.MethodName) ({ cls := "PennyQueue$Order", name := "began", desc := "(I)V" } : Jvm.MethodName)) ∈ lw_good := lw_goodC4 142 rfl rfl
theorem wd_863 : (Jvm.Cond.selects "PennyQueue$Length" ({ cls := "PennyQueue$First", name := "began", desc := "(I)V" } : Jvm.MethodName) ({ cls := "PennyQueue$Order", name := "began", desc := "(I)V" } : Jvm.MethodName)) ∈ lw_good := lw_goodC4 143 rfl rfl
theorem wd_864 : (Jvm.Cond.selects "PennyQueue$Told" ({ cls := "PennyQueue$First", name := "began", desc := "(I)V" } : Jvm.MethodName) ({ cls := "PennyQueue$Order", name := "began", desc := "(I)V" } : Jvm.MethodName)) ∈ lw_good := lw_goodC4 144 rfl rfl
theorem wd_865 : (Jvm.Cond.methodLink "PennyQueue$First" (13 : Nat) ({ cls := "PennyQueue$Order", name := "takes", desc := "(I)I" } : Jvm.MethodName)) ∈ lw_good := lw_goodC4 145 rfl rfl
theorem wd_866 : (Jvm.Cond.selects "PennyQueue$Full" ({ cls := "PennyQueue$Order", name := "takes", desc := "(I)I" } : Jvm.MethodName) ({ cls := "PennyQueue$Order", name := "takes", desc := "(I)I" } : Jvm.MethodName)) ∈ lw_good := lw_goodC4 146 rfl rfl
theorem wd_867 : (Jvm.Cond.selects "PennyQueue$Length" ({ cls := "PennyQueue$Order", name := "takes", desc := "(I)I" } : Jvm.MethodName) ({ cls := "PennyQueue$Length", name := "takes", desc := "(I)I" } : Jvm.MethodName)) ∈ lw_good := lw_goodC4 147 rfl rfl
theorem wd_868 : (Jvm.Cond.instanceMethod ({ cls := "PennyQueue$Length", name := "takes", desc := "(I)I" } : Jvm.MethodName)) ∈ lw_good := lw_goodC4 148 rfl rfl
theorem wd_869 : (Jvm.Cond.code ({ cls := "PennyQueue$Length", name := "takes", desc := "(I)I" } : Jvm.MethodName) prog_6_method_5_code (2 : Nat) (Option.some Jvm.ClassFile.FieldType.int)) ∈ lw_good := lw_goodC4 149 rfl rfl
theorem wd_870 : (Jvm.Cond.methodLink "PennyQueue$Length" (21 : Nat) ({ cls := "PennyQueue$First", name := "takes", desc := "(I)I" } : Jvm.MethodName)) ∈ lw_good := lw_goodC4 150 rfl rfl
theorem wd_871 : (Jvm.Cond.selects "PennyQueue$Poor" ({ cls := "PennyQueue$Order", name := "takes", desc := "(I)I" } : Jvm.MethodName) ({ cls := "PennyQueue$Order", name := "takes", desc := "(I)I" } : Jvm.MethodName)) ∈ lw_good := lw_goodC4 151 rfl rfl
theorem wd_872 : (Jvm.Cond.selects "PennyQueue$Share" ({ cls := "PennyQueue$Order", name := "takes", desc := "(I)I" } : Jvm.MethodName) ({ cls := "PennyQueue$Order", name := "takes", desc := "(I)I" } : Jvm.MethodName)) ∈ lw_good := lw_goodC4 152 rfl rfl
theorem wd_873 : (Jvm.Cond.selects "PennyQueue$Told" ({ cls := "PennyQueue$Order", name := "takes", desc := "(I)I" } : Jvm.MethodName) ({ cls := "PennyQueue$Told", name := "takes", desc := "(I)I" } : Jvm.MethodName)) ∈ lw_good := lw_goodC4 153 rfl rfl
theorem wd_874 : (Jvm.Cond.instanceMethod ({ cls := "PennyQueue$Told", name := "takes", desc := "(I)I" } : Jvm.MethodName)) ∈ lw_good := lw_goodC4 154 rfl rfl
theorem wd_875 : (Jvm.Cond.code ({ cls := "PennyQueue$Told", name := "takes", desc := "(I)I" } : Jvm.MethodName) prog_11_method_4_code (2 : Nat) (Option.some Jvm.ClassFile.FieldType.int)) ∈ lw_good := lw_goodC4 155 rfl rfl
theorem wd_876 : (Jvm.Cond.methodLink "PennyQueue$Told" (23 : Nat) ({ cls := "PennyQueue$First", name := "takes", desc := "(I)I" } : Jvm.MethodName)) ∈ lw_good := lw_goodC4 156 rfl rfl
theorem wd_877 : (Jvm.Cond.code ({ cls := "PennyQueue$Order", name := "takes", desc := "(I)I" } : Jvm.MethodName) prog_7_method_11_code (2 : Nat) (Option.some Jvm.ClassFile.FieldType.int)) ∈ lw_good := lw_goodC4 157 rfl rfl
theorem wd_878 : (Jvm.Cond.methodLink "PennyQueue$Order" (36 : Nat) ({ cls := "PennyQueue$Order", name := "joins", desc := "(I)I" } : Jvm.MethodName)) ∈ lw_good := lw_goodC4 158 rfl rfl
theorem wd_879 : (Jvm.Cond.methodLink "PennyQueue" (263 : Nat) ({ cls := "PennyQueue$Order", name := "tells", desc := "(I)I" } : Jvm.MethodName)) ∈ lw_good := lw_goodC4 159 rfl rfl
theorem wd_880 : (Jvm.Cond.instanceMethod ({ cls := "PennyQueue$Order", name := "tells", desc := "(I)I" } : Jvm.MethodName)) ∈ lw_good := lw_goodC4 160 rfl rfl
theorem wd_881 : (Jvm.Cond.selects "PennyQueue$Order" ({ cls := "PennyQueue$Order", name := "tells", desc := "(I)I" } : Jvm.MethodName) ({ cls := "PennyQueue$Order", name := "tells", desc := "(I)I" } : Jvm.MethodName)) ∈ lw_good := lw_goodC4 161 rfl rfl
theorem wd_882 : (Jvm.Cond.sameMethod "PennyQueue$Order" "PennyQueue$Order" "tells" "(I)I") ∈ lw_good := lw_goodC4 162 rfl rfl
theorem wd_883 : (Jvm.Cond.selects "PennyQueue$First" ({ cls := "PennyQueue$Order", name := "tells", desc := "(I)I" } : Jvm.MethodName) ({ cls := "PennyQueue$Order", name := "tells", desc := "(I)I" } : Jvm.MethodName)) ∈ lw_good := lw_goodC4 163 rfl rfl
theorem wd_884 : (Jvm.Cond.selects "PennyQueue$Full" ({ cls := "PennyQueue$Order", name := "tells", desc := "(I)I" } : Jvm.MethodName) ({ cls := "PennyQueue$Full", name := "tells", desc := "(I)I" } : Jvm.MethodName)) ∈ lw_good := lw_goodC4 164 rfl rfl
theorem wd_885 : (Jvm.Cond.instanceMethod ({ cls := "PennyQueue$Full", name := "tells", desc := "(I)I" } : Jvm.MethodName)) ∈ lw_good := lw_goodC4 165 rfl rfl
theorem wd_886 : (Jvm.Cond.code ({ cls := "PennyQueue$Full", name := "tells", desc := "(I)I" } : Jvm.MethodName) prog_4_method_4_code (2 : Nat) (Option.some Jvm.ClassFile.FieldType.int)) ∈ lw_good := lw_goodC4 166 rfl rfl
theorem wd_887 : (Jvm.Cond.methodLink "PennyQueue$Full" (13 : Nat) ({ cls := "PennyQueue$Full", name := "began", desc := "(I)V" } : Jvm.MethodName)) ∈ lw_good := lw_goodC4 167 rfl rfl
theorem wd_888 : (Jvm.Cond.sameMethod "PennyQueue$Full" "PennyQueue$Order" "began" "(I)V") ∈ lw_good := lw_goodC4 168 rfl rfl
theorem wd_889 : (Jvm.Cond.selects "PennyQueue$Full" ({ cls := "PennyQueue$Full", name := "began", desc := "(I)V" } : Jvm.MethodName) ({ cls := "PennyQueue$Order", name := "began", desc := "(I)V" } : Jvm.MethodName)) ∈ lw_good := lw_goodC4 169 rfl rfl
theorem wd_890 : (Jvm.Cond.methodLink "PennyQueue$Full" (17 : Nat) ({ cls := "PennyQueue$Order", name := "tells", desc := "(I)I" } : Jvm.MethodName)) ∈ lw_good := lw_goodC4 170 rfl rfl
theorem wd_891 : (Jvm.Cond.methodLink "PennyQueue$Full" (21 : Nat) ({ cls := "PennyQueue$Full", name := "takes", desc := "(I)I" } : Jvm.MethodName)) ∈ lw_good := lw_goodC4 171 rfl rfl
theorem wd_892 : (Jvm.Cond.sameMethod "PennyQueue$Full" "PennyQueue$Order" "takes" "(I)I") ∈ lw_good := lw_goodC4 172 rfl rfl
theorem wd_894 : (Jvm.Cond.selects "PennyQueue$Full" ({ cls := "PennyQueue$Full", name := "takes", desc := "(I)I" } : Jvm.MethodName) ({ cls := "PennyQueue$Order", name := "takes", desc := "(I)I" } : Jvm.MethodName)) ∈ lw_good := lw_goodC4 174 rfl rfl
theorem wd_895 : (Jvm.Cond.selects "PennyQueue$Length" ({ cls := "PennyQueue$Order", name := "tells", desc := "(I)I" } : Jvm.MethodName) ({ cls := "PennyQueue$Order", name := "tells", desc := "(I)I" } : Jvm.MethodName)) ∈ lw_good := lw_goodC4 175 rfl rfl
theorem wd_896 : (Jvm.Cond.selects "PennyQueue$Poor" ({ cls := "PennyQueue$Order", name := "tells", desc := "(I)I" } : Jvm.MethodName) ({ cls := "PennyQueue$Poor", name := "tells", desc := "(I)I" } : Jvm.MethodName)) ∈ lw_good := lw_goodC4 176 rfl rfl
theorem wd_897 : (Jvm.Cond.instanceMethod ({ cls := "PennyQueue$Poor", name := "tells", desc := "(I)I" } : Jvm.MethodName)) ∈ lw_good := lw_goodC4 177 rfl rfl
theorem wd_898 : (Jvm.Cond.code ({ cls := "PennyQueue$Poor", name := "tells", desc := "(I)I" } : Jvm.MethodName) prog_8_method_4_code (2 : Nat) (Option.some Jvm.ClassFile.FieldType.int)) ∈ lw_good := lw_goodC4 178 rfl rfl
theorem wd_899 : (Jvm.Cond.methodLink "PennyQueue$Poor" (7 : Nat) ({ cls := "PennyQueue$Poor", name := "began", desc := "(I)V" } : Jvm.MethodName)) ∈ lw_good := lw_goodC4 179 rfl rfl
theorem wd_900 : (Jvm.Cond.sameMethod "PennyQueue$Poor" "PennyQueue$Order" "began" "(I)V") ∈ lw_good := lw_goodC4 180 rfl rfl
theorem wd_901 : (Jvm.Cond.selects "PennyQueue$Poor" ({ cls := "PennyQueue$Poor", name := "began", desc := "(I)V" } : Jvm.MethodName) ({ cls := "PennyQueue$Order", name := "began", desc := "(I)V" } : Jvm.MethodName)) ∈ lw_good := lw_goodC4 181 rfl rfl
theorem wd_902 : (Jvm.Cond.methodLink "PennyQueue$Poor" (17 : Nat) ({ cls := "PennyQueue$Share", name := "tells", desc := "(I)I" } : Jvm.MethodName)) ∈ lw_good := lw_goodC4 182 rfl rfl
theorem wd_903 : (Jvm.Cond.sameMethod "PennyQueue$Share" "PennyQueue$Order" "tells" "(I)I") ∈ lw_good := lw_goodC4 183 rfl rfl
theorem wd_905 : (Jvm.Cond.selects "PennyQueue$Share" ({ cls := "PennyQueue$Order", name := "tells", desc := "(I)I" } : Jvm.MethodName) ({ cls := "PennyQueue$Order", name := "tells", desc := "(I)I" } : Jvm.MethodName)) ∈ lw_good := lw_goodC4 185 rfl rfl
theorem wd_906 : (Jvm.Cond.selects "PennyQueue$Told" ({ cls := "PennyQueue$Order", name := "tells", desc := "(I)I" } : Jvm.MethodName) ({ cls := "PennyQueue$Order", name := "tells", desc := "(I)I" } : Jvm.MethodName)) ∈ lw_good := lw_goodC4 186 rfl rfl
theorem wd_907 : (Jvm.Cond.code ({ cls := "PennyQueue$Order", name := "tells", desc := "(I)I" } : Jvm.MethodName) prog_7_method_12_code (2 : Nat) (Option.some Jvm.ClassFile.FieldType.int)) ∈ lw_good := lw_goodC4 187 rfl rfl
theorem wd_908 : (Jvm.Cond.methodLink "PennyQueue$Order" (40 : Nat) ({ cls := "PennyQueue$Order", name := "takes", desc := "(I)I" } : Jvm.MethodName)) ∈ lw_good := lw_goodC4 188 rfl rfl
theorem wd_909 : (Jvm.Cond.methodLink "PennyQueueLaw" (119 : Nat) ({ cls := "PennyQueue", name := "trace", desc := "(I)I" } : Jvm.MethodName)) ∈ lw_good := lw_goodC4 189 rfl rfl
theorem wd_910 : (Jvm.Cond.instanceMethod ({ cls := "PennyQueue", name := "trace", desc := "(I)I" } : Jvm.MethodName)) ∈ lw_good := lw_goodC4 190 rfl rfl
theorem wd_911 : (Jvm.Cond.selects "PennyQueue" ({ cls := "PennyQueue", name := "trace", desc := "(I)I" } : Jvm.MethodName) ({ cls := "PennyQueue", name := "trace", desc := "(I)I" } : Jvm.MethodName)) ∈ lw_good := lw_goodC4 191 rfl rfl
theorem wd_912 : (Jvm.Cond.code ({ cls := "PennyQueue", name := "trace", desc := "(I)I" } : Jvm.MethodName) prog_1_method_27_code (2 : Nat) (Option.some Jvm.ClassFile.FieldType.int)) ∈ lw_good := lw_goodC4 192 rfl rfl
theorem wd_913 : (Jvm.Cond.methodLink "PennyQueueLaw" (123 : Nat) ({ cls := "PennyQueue", name := "taken", desc := "(II)I" } : Jvm.MethodName)) ∈ lw_good := lw_goodC4 193 rfl rfl
theorem wd_914 : (Jvm.Cond.instanceMethod ({ cls := "PennyQueue", name := "taken", desc := "(II)I" } : Jvm.MethodName)) ∈ lw_good := lw_goodC4 194 rfl rfl
theorem wd_915 : (Jvm.Cond.selects "PennyQueue" ({ cls := "PennyQueue", name := "taken", desc := "(II)I" } : Jvm.MethodName) ({ cls := "PennyQueue", name := "taken", desc := "(II)I" } : Jvm.MethodName)) ∈ lw_good := lw_goodC4 195 rfl rfl
theorem wd_916 : (Jvm.Cond.code ({ cls := "PennyQueue", name := "taken", desc := "(II)I" } : Jvm.MethodName) prog_1_method_28_code (4 : Nat) (Option.some Jvm.ClassFile.FieldType.int)) ∈ lw_good := lw_goodC4 196 rfl rfl
theorem wd_917 : (Jvm.Cond.methodLink "PennyQueue" (269 : Nat) ({ cls := "PennyQueue", name := "isOf", desc := "(LPennyQueue$Order;I)Z" } : Jvm.MethodName)) ∈ lw_good := lw_goodC4 197 rfl rfl
theorem wd_918 : (Jvm.Cond.static ({ cls := "PennyQueue", name := "isOf", desc := "(LPennyQueue$Order;I)Z" } : Jvm.MethodName)) ∈ lw_good := lw_goodC4 198 rfl rfl
theorem wd_919 : (Jvm.Cond.code ({ cls := "PennyQueue", name := "isOf", desc := "(LPennyQueue$Order;I)Z" } : Jvm.MethodName) prog_1_method_44_code (2 : Nat) (Option.some Jvm.ClassFile.FieldType.boolean)) ∈ lw_good := lw_goodC4 199 rfl rfl
theorem wd_920 : (Jvm.Cond.methodLink "PennyQueue" (273 : Nat) ({ cls := "PennyQueue$Order", name := "kind", desc := "()I" } : Jvm.MethodName)) ∈ lw_good := lw_goodC4 200 rfl rfl
theorem wd_921 : (Jvm.Cond.instanceMethod ({ cls := "PennyQueue$Order", name := "kind", desc := "()I" } : Jvm.MethodName)) ∈ lw_good := lw_goodC4 201 rfl rfl
theorem wd_922 : (Jvm.Cond.selects "PennyQueue$Order" ({ cls := "PennyQueue$Order", name := "kind", desc := "()I" } : Jvm.MethodName) ({ cls := "PennyQueue$Order", name := "kind", desc := "()I" } : Jvm.MethodName)) ∈ lw_good := lw_goodC4 202 rfl rfl
theorem wd_923 : (Jvm.Cond.sameMethod "PennyQueue$Order" "PennyQueue$Order" "kind" "()I") ∈ lw_good := lw_goodC4 203 rfl rfl
theorem wd_924 : (Jvm.Cond.selects "PennyQueue$First" ({ cls := "PennyQueue$Order", name := "kind", desc := "()I" } : Jvm.MethodName) ({ cls := "PennyQueue$First", name := "kind", desc := "()I" } : Jvm.MethodName)) ∈ lw_good := lw_goodC4 204 rfl rfl
theorem wd_925 : (Jvm.Cond.instanceMethod ({ cls := "PennyQueue$First", name := "kind", desc := "()I" } : Jvm.MethodName)) ∈ lw_good := lw_goodC4 205 rfl rfl
theorem wd_926 : (Jvm.Cond.code ({ cls := "PennyQueue$First", name := "kind", desc := "()I" } : Jvm.MethodName) prog_3_method_2_code (1 : Nat) (Option.some Jvm.ClassFile.FieldType.int)) ∈ lw_good := lw_goodC4 206 rfl rfl
theorem wd_927 : (Jvm.Cond.selects "PennyQueue$Full" ({ cls := "PennyQueue$Order", name := "kind", desc := "()I" } : Jvm.MethodName) ({ cls := "PennyQueue$Full", name := "kind", desc := "()I" } : Jvm.MethodName)) ∈ lw_good := lw_goodC4 207 rfl rfl
theorem wd_928 : (Jvm.Cond.instanceMethod ({ cls := "PennyQueue$Full", name := "kind", desc := "()I" } : Jvm.MethodName)) ∈ lw_good := lw_goodC4 208 rfl rfl
theorem wd_929 : (Jvm.Cond.code ({ cls := "PennyQueue$Full", name := "kind", desc := "()I" } : Jvm.MethodName) prog_4_method_2_code (1 : Nat) (Option.some Jvm.ClassFile.FieldType.int)) ∈ lw_good := lw_goodC4 209 rfl rfl
theorem wd_930 : (Jvm.Cond.selects "PennyQueue$Length" ({ cls := "PennyQueue$Order", name := "kind", desc := "()I" } : Jvm.MethodName) ({ cls := "PennyQueue$Length", name := "kind", desc := "()I" } : Jvm.MethodName)) ∈ lw_good := lw_goodC4 210 rfl rfl
theorem wd_931 : (Jvm.Cond.instanceMethod ({ cls := "PennyQueue$Length", name := "kind", desc := "()I" } : Jvm.MethodName)) ∈ lw_good := lw_goodC4 211 rfl rfl
theorem wd_932 : (Jvm.Cond.code ({ cls := "PennyQueue$Length", name := "kind", desc := "()I" } : Jvm.MethodName) prog_6_method_2_code (1 : Nat) (Option.some Jvm.ClassFile.FieldType.int)) ∈ lw_good := lw_goodC4 212 rfl rfl
theorem wd_933 : (Jvm.Cond.selects "PennyQueue$Poor" ({ cls := "PennyQueue$Order", name := "kind", desc := "()I" } : Jvm.MethodName) ({ cls := "PennyQueue$Poor", name := "kind", desc := "()I" } : Jvm.MethodName)) ∈ lw_good := lw_goodC4 213 rfl rfl
theorem wd_934 : (Jvm.Cond.instanceMethod ({ cls := "PennyQueue$Poor", name := "kind", desc := "()I" } : Jvm.MethodName)) ∈ lw_good := lw_goodC4 214 rfl rfl
theorem wd_935 : (Jvm.Cond.code ({ cls := "PennyQueue$Poor", name := "kind", desc := "()I" } : Jvm.MethodName) prog_8_method_2_code (1 : Nat) (Option.some Jvm.ClassFile.FieldType.int)) ∈ lw_good := lw_goodC4 215 rfl rfl
theorem wd_936 : (Jvm.Cond.selects "PennyQueue$Share" ({ cls := "PennyQueue$Order", name := "kind", desc := "()I" } : Jvm.MethodName) ({ cls := "PennyQueue$Share", name := "kind", desc := "()I" } : Jvm.MethodName)) ∈ lw_good := lw_goodC4 216 rfl rfl
theorem wd_937 : (Jvm.Cond.instanceMethod ({ cls := "PennyQueue$Share", name := "kind", desc := "()I" } : Jvm.MethodName)) ∈ lw_good := lw_goodC4 217 rfl rfl
theorem wd_938 : (Jvm.Cond.code ({ cls := "PennyQueue$Share", name := "kind", desc := "()I" } : Jvm.MethodName) prog_9_method_2_code (1 : Nat) (Option.some Jvm.ClassFile.FieldType.int)) ∈ lw_good := lw_goodC4 218 rfl rfl
theorem wd_939 : (Jvm.Cond.selects "PennyQueue$Told" ({ cls := "PennyQueue$Order", name := "kind", desc := "()I" } : Jvm.MethodName) ({ cls := "PennyQueue$Told", name := "kind", desc := "()I" } : Jvm.MethodName)) ∈ lw_good := lw_goodC4 219 rfl rfl
theorem wd_940 : (Jvm.Cond.instanceMethod ({ cls := "PennyQueue$Told", name := "kind", desc := "()I" } : Jvm.MethodName)) ∈ lw_good := lw_goodC4 220 rfl rfl
theorem wd_941 : (Jvm.Cond.code ({ cls := "PennyQueue$Told", name := "kind", desc := "()I" } : Jvm.MethodName) prog_11_method_2_code (1 : Nat) (Option.some Jvm.ClassFile.FieldType.int)) ∈ lw_good := lw_goodC4 221 rfl rfl
theorem wd_942 : (Jvm.Cond.code ({ cls := "PennyQueue$Order", name := "kind", desc := "()I" } : Jvm.MethodName) prog_7_method_2_code (1 : Nat) (Option.some Jvm.ClassFile.FieldType.int)) ∈ lw_good := lw_goodC4 222 rfl rfl
theorem wd_943 : (Jvm.Cond.methodLink "PennyQueueLaw" (127 : Nat) ({ cls := "PennyQueue", name := "count", desc := "(I)I" } : Jvm.MethodName)) ∈ lw_good := lw_goodC4 223 rfl rfl
theorem wd_944 : (Jvm.Cond.instanceMethod ({ cls := "PennyQueue", name := "count", desc := "(I)I" } : Jvm.MethodName)) ∈ lw_good := lw_goodC4 224 rfl rfl
theorem wd_945 : (Jvm.Cond.selects "PennyQueue" ({ cls := "PennyQueue", name := "count", desc := "(I)I" } : Jvm.MethodName) ({ cls := "PennyQueue", name := "count", desc := "(I)I" } : Jvm.MethodName)) ∈ lw_good := lw_goodC4 225 rfl rfl
theorem wd_946 : (Jvm.Cond.code ({ cls := "PennyQueue", name := "count", desc := "(I)I" } : Jvm.MethodName) prog_1_method_29_code (2 : Nat) (Option.some Jvm.ClassFile.FieldType.int)) ∈ lw_good := lw_goodC4 226 rfl rfl
theorem wd_947 : (Jvm.Cond.methodLink "PennyQueueLaw" (131 : Nat) ({ cls := "PennyQueue", name := "tape", desc := "(III)I" } : Jvm.MethodName)) ∈ lw_good := lw_goodC4 227 rfl rfl
theorem wd_948 : (Jvm.Cond.instanceMethod ({ cls := "PennyQueue", name := "tape", desc := "(III)I" } : Jvm.MethodName)) ∈ lw_good := lw_goodC4 228 rfl rfl
theorem wd_949 : (Jvm.Cond.selects "PennyQueue" ({ cls := "PennyQueue", name := "tape", desc := "(III)I" } : Jvm.MethodName) ({ cls := "PennyQueue", name := "tape", desc := "(III)I" } : Jvm.MethodName)) ∈ lw_good := lw_goodC4 229 rfl rfl
theorem wd_950 : (Jvm.Cond.code ({ cls := "PennyQueue", name := "tape", desc := "(III)I" } : Jvm.MethodName) prog_1_method_30_code (5 : Nat) (Option.some Jvm.ClassFile.FieldType.int)) ∈ lw_good := lw_goodC4 230 rfl rfl
theorem wd_951 : (Jvm.Cond.methodLink "PennyQueue" (276 : Nat) ({ cls := "PennyQueue$Tape", name := "become", desc := "(II)V" } : Jvm.MethodName)) ∈ lw_good := lw_goodC4 231 rfl rfl
theorem wd_952 : (Jvm.Cond.instanceMethod ({ cls := "PennyQueue$Tape", name := "become", desc := "(II)V" } : Jvm.MethodName)) ∈ lw_good := lw_goodC4 232 rfl rfl
theorem wd_953 : (Jvm.Cond.selects "PennyQueue$Tape" ({ cls := "PennyQueue$Tape", name := "become", desc := "(II)V" } : Jvm.MethodName) ({ cls := "PennyQueue$Tape", name := "become", desc := "(II)V" } : Jvm.MethodName)) ∈ lw_good := lw_goodC4 233 rfl rfl
theorem wd_954 : (Jvm.Cond.code ({ cls := "PennyQueue$Tape", name := "become", desc := "(II)V" } : Jvm.MethodName) prog_10_method_2_code (3 : Nat) (Option.none : Option Jvm.ClassFile.FieldType)) ∈ lw_good := lw_goodC4 234 rfl rfl
theorem wd_955 : (Jvm.Cond.methodLink "PennyQueue$Tape" (22 : Nat) ({ cls := "java/util/Arrays", name := "fill", desc := "([JJ)V" } : Jvm.MethodName)) ∈ lw_good := lw_goodC4 235 rfl rfl
theorem wd_956 : (Jvm.Cond.static ({ cls := "java/util/Arrays", name := "fill", desc := "([JJ)V" } : Jvm.MethodName)) ∈ lw_good := lw_goodC4 236 rfl rfl
theorem wd_957 : (Jvm.Cond.code ({ cls := "java/util/Arrays", name := "fill", desc := "([JJ)V" } : Jvm.MethodName) prog_20_method_101_code (5 : Nat) (Option.none : Option Jvm.ClassFile.FieldType)) ∈ lw_good := lw_goodC4 237 rfl rfl
theorem wd_958 : (Jvm.Cond.methodLink "PennyQueueLaw" (137 : Nat) ({ cls := "PennyQueue", name := "item", desc := "(IIJ)I" } : Jvm.MethodName)) ∈ lw_good := lw_goodC4 238 rfl rfl
theorem wd_959 : (Jvm.Cond.instanceMethod ({ cls := "PennyQueue", name := "item", desc := "(IIJ)I" } : Jvm.MethodName)) ∈ lw_good := lw_goodC4 239 rfl rfl
theorem wd_960 : (Jvm.Cond.selects "PennyQueue" ({ cls := "PennyQueue", name := "item", desc := "(IIJ)I" } : Jvm.MethodName) ({ cls := "PennyQueue", name := "item", desc := "(IIJ)I" } : Jvm.MethodName)) ∈ lw_good := lw_goodC5 0 rfl rfl
theorem wd_961 : (Jvm.Cond.code ({ cls := "PennyQueue", name := "item", desc := "(IIJ)I" } : Jvm.MethodName) prog_1_method_31_code (6 : Nat) (Option.some Jvm.ClassFile.FieldType.int)) ∈ lw_good := lw_goodC5 1 rfl rfl
theorem wd_962 : (Jvm.Cond.methodLink "PennyQueue" (278 : Nat) ({ cls := "PennyQueue$Tape", name := "fitted", desc := "(J)J" } : Jvm.MethodName)) ∈ lw_good := lw_goodC5 2 rfl rfl
theorem wd_963 : (Jvm.Cond.instanceMethod ({ cls := "PennyQueue$Tape", name := "fitted", desc := "(J)J" } : Jvm.MethodName)) ∈ lw_good := lw_goodC5 3 rfl rfl
theorem wd_964 : (Jvm.Cond.selects "PennyQueue$Tape" ({ cls := "PennyQueue$Tape", name := "fitted", desc := "(J)J" } : Jvm.MethodName) ({ cls := "PennyQueue$Tape", name := "fitted", desc := "(J)J" } : Jvm.MethodName)) ∈ lw_good := lw_goodC5 4 rfl rfl
theorem wd_965 : (Jvm.Cond.code ({ cls := "PennyQueue$Tape", name := "fitted", desc := "(J)J" } : Jvm.MethodName) prog_10_method_4_code (3 : Nat) (Option.some Jvm.ClassFile.FieldType.long)) ∈ lw_good := lw_goodC5 5 rfl rfl
theorem wd_966 : (Jvm.Cond.methodLink "PennyQueueLaw" (142 : Nat) ({ cls := "PennyQueue", name := "read", desc := "(II)J" } : Jvm.MethodName)) ∈ lw_good := lw_goodC5 6 rfl rfl
theorem wd_967 : (Jvm.Cond.instanceMethod ({ cls := "PennyQueue", name := "read", desc := "(II)J" } : Jvm.MethodName)) ∈ lw_good := lw_goodC5 7 rfl rfl
theorem wd_968 : (Jvm.Cond.selects "PennyQueue" ({ cls := "PennyQueue", name := "read", desc := "(II)J" } : Jvm.MethodName) ({ cls := "PennyQueue", name := "read", desc := "(II)J" } : Jvm.MethodName)) ∈ lw_good := lw_goodC5 8 rfl rfl
theorem wd_969 : (Jvm.Cond.code ({ cls := "PennyQueue", name := "read", desc := "(II)J" } : Jvm.MethodName) prog_1_method_32_code (4 : Nat) (Option.some Jvm.ClassFile.FieldType.long)) ∈ lw_good := lw_goodC5 9 rfl rfl
theorem wd_970 : (Jvm.Cond.methodLink "PennyQueueLaw" (146 : Nat) ({ cls := "PennyQueue", name := "shift", desc := "(IIIII)I" } : Jvm.MethodName)) ∈ lw_good := lw_goodC5 10 rfl rfl
theorem wd_971 : (Jvm.Cond.instanceMethod ({ cls := "PennyQueue", name := "shift", desc := "(IIIII)I" } : Jvm.MethodName)) ∈ lw_good := lw_goodC5 11 rfl rfl
theorem wd_972 : (Jvm.Cond.selects "PennyQueue" ({ cls := "PennyQueue", name := "shift", desc := "(IIIII)I" } : Jvm.MethodName) ({ cls := "PennyQueue", name := "shift", desc := "(IIIII)I" } : Jvm.MethodName)) ∈ lw_good := lw_goodC5 12 rfl rfl
theorem wd_973 : (Jvm.Cond.code ({ cls := "PennyQueue", name := "shift", desc := "(IIIII)I" } : Jvm.MethodName) prog_1_method_33_code (8 : Nat) (Option.some Jvm.ClassFile.FieldType.int)) ∈ lw_good := lw_goodC5 13 rfl rfl
theorem wd_974 : (Jvm.Cond.methodLink "PennyQueue" (285 : Nat) ({ cls := "java/lang/System", name := "arraycopy", desc := "(Ljava/lang/Object;ILjava/lang/Object;II)V" } : Jvm.MethodName)) ∈ lw_good := lw_goodC5 14 rfl rfl
theorem wd_975 : (Jvm.Cond.classLink "PennyQueueLaw" (10 : Nat) "PennyQueueModel") ∈ lw_good := lw_goodC5 15 rfl rfl
theorem wd_976 : (Jvm.Cond.instantiable "PennyQueueModel" (67 : Nat)) ∈ lw_good := lw_goodC5 16 rfl rfl
theorem wd_977 : (Jvm.Cond.methodLink "PennyQueueLaw" (12 : Nat) ({ cls := "PennyQueueModel", name := "<init>", desc := "()V" } : Jvm.MethodName)) ∈ lw_good := lw_goodC5 17 rfl rfl
theorem wd_978 : (Jvm.Cond.instanceMethod ({ cls := "PennyQueueModel", name := "<init>", desc := "()V" } : Jvm.MethodName)) ∈ lw_good := lw_goodC5 18 rfl rfl
theorem wd_979 : (Jvm.Cond.code ({ cls := "PennyQueueModel", name := "<init>", desc := "()V" } : Jvm.MethodName) prog_14_method_1_code (1 : Nat) (Option.none : Option Jvm.ClassFile.FieldType)) ∈ lw_good := lw_goodC5 19 rfl rfl
theorem wd_980 : (Jvm.Cond.methodLink "PennyQueueModel" (1 : Nat) ({ cls := "java/lang/Object", name := "<init>", desc := "()V" } : Jvm.MethodName)) ∈ lw_good := lw_goodC5 20 rfl rfl
theorem wd_981 : (Jvm.Cond.fieldLink "PennyQueueModel" (7 : Nat) "PennyQueueModel" "sorts" "I") ∈ lw_good := lw_goodC5 21 rfl rfl
theorem wd_982 : (Jvm.Cond.fieldLink "PennyQueueModel" (13 : Nat) "PennyQueueModel" "hands" "I") ∈ lw_good := lw_goodC5 22 rfl rfl
theorem wd_983 : (Jvm.Cond.fieldLink "PennyQueueModel" (16 : Nat) "PennyQueueModel" "worth" "[I") ∈ lw_good := lw_goodC5 23 rfl rfl
theorem wd_984 : (Jvm.Cond.fieldLink "PennyQueueModel" (20 : Nat) "PennyQueueModel" "service" "[I") ∈ lw_good := lw_goodC5 24 rfl rfl
theorem wd_985 : (Jvm.Cond.fieldLink "PennyQueueModel" (23 : Nat) "PennyQueueModel" "purse" "[I") ∈ lw_good := lw_goodC5 25 rfl rfl
theorem wd_986 : (Jvm.Cond.fieldLink "PennyQueueModel" (26 : Nat) "PennyQueueModel" "time" "[I") ∈ lw_good := lw_goodC5 26 rfl rfl
theorem wd_987 : (Jvm.Cond.fieldLink "PennyQueueModel" (29 : Nat) "PennyQueueModel" "odds" "[I") ∈ lw_good := lw_goodC5 27 rfl rfl
theorem wd_988 : (Jvm.Cond.fieldLink "PennyQueueModel" (32 : Nat) "PennyQueueModel" "handSort" "[I") ∈ lw_good := lw_goodC5 28 rfl rfl
theorem wd_989 : (Jvm.Cond.fieldLink "PennyQueueModel" (35 : Nat) "PennyQueueModel" "handMinute" "[I") ∈ lw_good := lw_goodC5 29 rfl rfl
theorem wd_990 : (Jvm.Cond.fieldLink "PennyQueueModel" (38 : Nat) "PennyQueueModel" "windows" "I") ∈ lw_good := lw_goodC5 30 rfl rfl
theorem wd_991 : (Jvm.Cond.fieldLink "PennyQueueModel" (41 : Nat) "PennyQueueModel" "the" "I") ∈ lw_good := lw_goodC5 31 rfl rfl
theorem wd_992 : (Jvm.Cond.fieldLink "PennyQueueModel" (44 : Nat) "PennyQueueModel" "fed" "I") ∈ lw_good := lw_goodC5 32 rfl rfl
theorem wd_993 : (Jvm.Cond.fieldLink "PennyQueueModel" (47 : Nat) "PennyQueueModel" "at" "I") ∈ lw_good := lw_goodC5 33 rfl rfl
theorem wd_994 : (Jvm.Cond.fieldLink "PennyQueueModel" (50 : Nat) "PennyQueueModel" "digits" "I") ∈ lw_good := lw_goodC5 34 rfl rfl
theorem wd_995 : (Jvm.Cond.fieldLink "PennyQueueModel" (53 : Nat) "PennyQueueModel" "text" "[I") ∈ lw_good := lw_goodC5 35 rfl rfl
theorem wd_996 : (Jvm.Cond.fieldLink "PennyQueueModel" (56 : Nat) "PennyQueueModel" "clauses" "[I") ∈ lw_good := lw_goodC5 36 rfl rfl
theorem wd_997 : (Jvm.Cond.fieldLink "PennyQueueModel" (59 : Nat) "PennyQueueModel" "word" "[I") ∈ lw_good := lw_goodC5 37 rfl rfl
theorem wd_998 : (Jvm.Cond.fieldLink "PennyQueueModel" (62 : Nat) "PennyQueueModel" "spot" "[I") ∈ lw_good := lw_goodC5 38 rfl rfl
theorem wd_999 : (Jvm.Cond.fieldLink "PennyQueueModel" (65 : Nat) "PennyQueueModel" "number" "[I") ∈ lw_good := lw_goodC5 39 rfl rfl
theorem wd_1000 : (Jvm.Cond.fieldLink "PennyQueueModel" (68 : Nat) "PennyQueueModel" "from" "[I") ∈ lw_good := lw_goodC5 40 rfl rfl
theorem wd_1001 : (Jvm.Cond.fieldLink "PennyQueueModel" (71 : Nat) "PennyQueueModel" "to" "[I") ∈ lw_good := lw_goodC5 41 rfl rfl
theorem wd_1002 : (Jvm.Cond.fieldLink "PennyQueueModel" (74 : Nat) "PennyQueueModel" "sign" "[I") ∈ lw_good := lw_goodC5 42 rfl rfl
theorem wd_1003 : (Jvm.Cond.fieldLink "PennyQueueModel" (77 : Nat) "PennyQueueModel" "waits" "[I") ∈ lw_good := lw_goodC5 43 rfl rfl
theorem wd_1004 : (Jvm.Cond.fieldLink "PennyQueueModel" (80 : Nat) "PennyQueueModel" "signs" "I") ∈ lw_good := lw_goodC5 44 rfl rfl
theorem wd_1005 : (Jvm.Cond.fieldLink "PennyQueueModel" (83 : Nat) "PennyQueueModel" "waiting" "I") ∈ lw_good := lw_goodC5 45 rfl rfl
theorem wd_1006 : (Jvm.Cond.fieldLink "PennyQueueModel" (86 : Nat) "PennyQueueModel" "open" "I") ∈ lw_good := lw_goodC5 46 rfl rfl
theorem wd_1007 : (Jvm.Cond.fieldLink "PennyQueueModel" (89 : Nat) "PennyQueueModel" "pile" "[Z") ∈ lw_good := lw_goodC5 47 rfl rfl
theorem wd_1008 : (Jvm.Cond.fieldLink "PennyQueueModel" (93 : Nat) "PennyQueueModel" "orders" "I") ∈ lw_good := lw_goodC5 48 rfl rfl
theorem wd_1009 : (Jvm.Cond.fieldLink "PennyQueueModel" (96 : Nat) "PennyQueueModel" "kind" "[I") ∈ lw_good := lw_goodC5 49 rfl rfl
theorem wd_1010 : (Jvm.Cond.fieldLink "PennyQueueModel" (99 : Nat) "PennyQueueModel" "v" "[I") ∈ lw_good := lw_goodC5 50 rfl rfl
theorem wd_1011 : (Jvm.Cond.fieldLink "PennyQueueModel" (102 : Nat) "PennyQueueModel" "rows" "[I") ∈ lw_good := lw_goodC5 51 rfl rfl
theorem wd_1012 : (Jvm.Cond.fieldLink "PennyQueueModel" (105 : Nat) "PennyQueueModel" "came" "I") ∈ lw_good := lw_goodC5 52 rfl rfl
theorem wd_1013 : (Jvm.Cond.fieldLink "PennyQueueModel" (108 : Nat) "PennyQueueModel" "done" "I") ∈ lw_good := lw_goodC5 53 rfl rfl
theorem wd_1014 : (Jvm.Cond.fieldLink "PennyQueueModel" (111 : Nat) "PennyQueueModel" "atWindow" "I") ∈ lw_good := lw_goodC5 54 rfl rfl
theorem wd_1015 : (Jvm.Cond.fieldLink "PennyQueueModel" (114 : Nat) "PennyQueueModel" "freeSince" "I") ∈ lw_good := lw_goodC5 55 rfl rfl
theorem wd_1016 : (Jvm.Cond.fieldLink "PennyQueueModel" (117 : Nat) "PennyQueueModel" "price" "I") ∈ lw_good := lw_goodC5 56 rfl rfl
theorem wd_1017 : (Jvm.Cond.fieldLink "PennyQueueModel" (120 : Nat) "PennyQueueModel" "more" "I") ∈ lw_good := lw_goodC5 57 rfl rfl
theorem wd_1018 : (Jvm.Cond.fieldLink "PennyQueueModel" (123 : Nat) "PennyQueueModel" "most" "I") ∈ lw_good := lw_goodC5 58 rfl rfl
theorem wd_1019 : (Jvm.Cond.fieldLink "PennyQueueModel" (126 : Nat) "PennyQueueModel" "skip" "I") ∈ lw_good := lw_goodC5 59 rfl rfl
theorem wd_1020 : (Jvm.Cond.fieldLink "PennyQueueModel" (129 : Nat) "PennyQueueModel" "now" "I") ∈ lw_good := lw_goodC5 60 rfl rfl
theorem wd_1021 : (Jvm.Cond.fieldLink "PennyQueueModel" (132 : Nat) "PennyQueueModel" "watched" "I") ∈ lw_good := lw_goodC5 61 rfl rfl
theorem wd_1022 : (Jvm.Cond.fieldLink "PennyQueueModel" (135 : Nat) "PennyQueueModel" "sortOf" "[I") ∈ lw_good := lw_goodC5 62 rfl rfl
theorem wd_1023 : (Jvm.Cond.fieldLink "PennyQueueModel" (138 : Nat) "PennyQueueModel" "minuteOf" "[I") ∈ lw_good := lw_goodC5 63 rfl rfl
theorem wd_1024 : (Jvm.Cond.fieldLink "PennyQueueModel" (141 : Nat) "PennyQueueModel" "lineOf" "[I") ∈ lw_good := lw_goodC5 64 rfl rfl
theorem wd_1025 : (Jvm.Cond.fieldLink "PennyQueueModel" (144 : Nat) "PennyQueueModel" "paid" "[I") ∈ lw_good := lw_goodC5 65 rfl rfl
theorem wd_1026 : (Jvm.Cond.fieldLink "PennyQueueModel" (147 : Nat) "PennyQueueModel" "waitOf" "[I") ∈ lw_good := lw_goodC5 66 rfl rfl
theorem wd_1027 : (Jvm.Cond.fieldLink "PennyQueueModel" (150 : Nat) "PennyQueueModel" "rankOf" "[I") ∈ lw_good := lw_goodC5 67 rfl rfl
theorem wd_1028 : (Jvm.Cond.fieldLink "PennyQueueModel" (153 : Nat) "PennyQueueModel" "line" "[I") ∈ lw_good := lw_goodC5 68 rfl rfl
theorem wd_1029 : (Jvm.Cond.fieldLink "PennyQueueModel" (156 : Nat) "PennyQueueModel" "head" "[I") ∈ lw_good := lw_goodC5 69 rfl rfl
theorem wd_1030 : (Jvm.Cond.fieldLink "PennyQueueModel" (159 : Nat) "PennyQueueModel" "tail" "[I") ∈ lw_good := lw_goodC5 70 rfl rfl
theorem wd_1031 : (Jvm.Cond.fieldLink "PennyQueueModel" (162 : Nat) "PennyQueueModel" "servedBy" "[I") ∈ lw_good := lw_goodC5 71 rfl rfl
theorem wd_1032 : (Jvm.Cond.fieldLink "PennyQueueModel" (165 : Nat) "PennyQueueModel" "servedAt" "[I") ∈ lw_good := lw_goodC5 72 rfl rfl
theorem wd_1033 : (Jvm.Cond.fieldLink "PennyQueueModel" (168 : Nat) "PennyQueueModel" "standAt" "[I") ∈ lw_good := lw_goodC5 73 rfl rfl
theorem wd_1034 : (Jvm.Cond.fieldLink "PennyQueueModel" (171 : Nat) "PennyQueueModel" "losses" "[I") ∈ lw_good := lw_goodC5 74 rfl rfl
theorem wd_1035 : (Jvm.Cond.fieldLink "PennyQueueModel" (174 : Nat) "PennyQueueModel" "hasImage" "Z") ∈ lw_good := lw_goodC5 75 rfl rfl
theorem wd_1036 : (Jvm.Cond.fieldLink "PennyQueueModel" (178 : Nat) "PennyQueueModel" "imageThe" "I") ∈ lw_good := lw_goodC5 76 rfl rfl
theorem wd_1037 : (Jvm.Cond.fieldLink "PennyQueueModel" (181 : Nat) "PennyQueueModel" "imageSorts" "I") ∈ lw_good := lw_goodC5 77 rfl rfl
theorem wd_1038 : (Jvm.Cond.fieldLink "PennyQueueModel" (184 : Nat) "PennyQueueModel" "imageHands" "I") ∈ lw_good := lw_goodC5 78 rfl rfl
theorem wd_1039 : (Jvm.Cond.fieldLink "PennyQueueModel" (187 : Nat) "PennyQueueModel" "imageOdds" "[I") ∈ lw_good := lw_goodC5 79 rfl rfl
theorem wd_1040 : (Jvm.Cond.fieldLink "PennyQueueModel" (190 : Nat) "PennyQueueModel" "imageSort" "[I") ∈ lw_good := lw_goodC5 80 rfl rfl
theorem wd_1041 : (Jvm.Cond.fieldLink "PennyQueueModel" (193 : Nat) "PennyQueueModel" "imageMinute" "[I") ∈ lw_good := lw_goodC5 81 rfl rfl
theorem wd_1042 : (Jvm.Cond.fieldLink "PennyQueueModel" (196 : Nat) "PennyQueueModel" "ran" "I") ∈ lw_good := lw_goodC5 82 rfl rfl
theorem wd_1043 : (Jvm.Cond.fieldLink "PennyQueueModel" (199 : Nat) "PennyQueueModel" "bodies" "[I") ∈ lw_good := lw_goodC5 83 rfl rfl
theorem wd_1044 : (Jvm.Cond.fieldLink "PennyQueueModel" (202 : Nat) "PennyQueueModel" "sort" "[I") ∈ lw_good := lw_goodC5 84 rfl rfl
theorem wd_1045 : (Jvm.Cond.fieldLink "PennyQueueModel" (205 : Nat) "PennyQueueModel" "length" "[I") ∈ lw_good := lw_goodC5 85 rfl rfl
theorem wd_1046 : (Jvm.Cond.fieldLink "PennyQueueModel" (208 : Nat) "PennyQueueModel" "item" "[J") ∈ lw_good := lw_goodC5 86 rfl rfl
theorem wd_1047 : (Jvm.Cond.fieldLink "PennyQueueModel" (212 : Nat) "PennyQueueModel" "aside" "[J") ∈ lw_good := lw_goodC5 87 rfl rfl
theorem wd_1048 : (Jvm.Cond.lays "PennyQueueModel" "PennyQueueModel" "sorts" "I") ∈ lw_good := lw_goodC5 88 rfl rfl
theorem wd_1050 : (Jvm.Cond.lays "PennyQueueModel" "PennyQueueModel" "hands" "I") ∈ lw_good := lw_goodC5 90 rfl rfl
theorem wd_1052 : (Jvm.Cond.laysFinal "PennyQueueModel" "PennyQueueModel" "worth" "[I") ∈ lw_good := lw_goodC5 92 rfl rfl
theorem wd_1054 : (Jvm.Cond.laysFinal "PennyQueueModel" "PennyQueueModel" "service" "[I") ∈ lw_good := lw_goodC5 94 rfl rfl
theorem wd_1056 : (Jvm.Cond.laysFinal "PennyQueueModel" "PennyQueueModel" "purse" "[I") ∈ lw_good := lw_goodC5 96 rfl rfl
theorem wd_1058 : (Jvm.Cond.laysFinal "PennyQueueModel" "PennyQueueModel" "time" "[I") ∈ lw_good := lw_goodC5 98 rfl rfl
theorem wd_1060 : (Jvm.Cond.laysFinal "PennyQueueModel" "PennyQueueModel" "odds" "[I") ∈ lw_good := lw_goodC5 100 rfl rfl
theorem wd_1062 : (Jvm.Cond.laysFinal "PennyQueueModel" "PennyQueueModel" "handSort" "[I") ∈ lw_good := lw_goodC5 102 rfl rfl
theorem wd_1064 : (Jvm.Cond.laysFinal "PennyQueueModel" "PennyQueueModel" "handMinute" "[I") ∈ lw_good := lw_goodC5 104 rfl rfl
theorem wd_1066 : (Jvm.Cond.lays "PennyQueueModel" "PennyQueueModel" "windows" "I") ∈ lw_good := lw_goodC5 106 rfl rfl
theorem wd_1068 : (Jvm.Cond.lays "PennyQueueModel" "PennyQueueModel" "the" "I") ∈ lw_good := lw_goodC5 108 rfl rfl
theorem wd_1070 : (Jvm.Cond.lays "PennyQueueModel" "PennyQueueModel" "fed" "I") ∈ lw_good := lw_goodC5 110 rfl rfl
theorem wd_1072 : (Jvm.Cond.lays "PennyQueueModel" "PennyQueueModel" "at" "I") ∈ lw_good := lw_goodC5 112 rfl rfl
theorem wd_1074 : (Jvm.Cond.lays "PennyQueueModel" "PennyQueueModel" "digits" "I") ∈ lw_good := lw_goodC5 114 rfl rfl
theorem wd_1076 : (Jvm.Cond.laysFinal "PennyQueueModel" "PennyQueueModel" "text" "[I") ∈ lw_good := lw_goodC5 116 rfl rfl
theorem wd_1078 : (Jvm.Cond.laysFinal "PennyQueueModel" "PennyQueueModel" "clauses" "[I") ∈ lw_good := lw_goodC5 118 rfl rfl
theorem wd_1080 : (Jvm.Cond.laysFinal "PennyQueueModel" "PennyQueueModel" "word" "[I") ∈ lw_good := lw_goodC5 120 rfl rfl
theorem wd_1082 : (Jvm.Cond.laysFinal "PennyQueueModel" "PennyQueueModel" "spot" "[I") ∈ lw_good := lw_goodC5 122 rfl rfl
theorem wd_1084 : (Jvm.Cond.laysFinal "PennyQueueModel" "PennyQueueModel" "number" "[I") ∈ lw_good := lw_goodC5 124 rfl rfl
theorem wd_1086 : (Jvm.Cond.laysFinal "PennyQueueModel" "PennyQueueModel" "from" "[I") ∈ lw_good := lw_goodC5 126 rfl rfl
theorem wd_1088 : (Jvm.Cond.laysFinal "PennyQueueModel" "PennyQueueModel" "to" "[I") ∈ lw_good := lw_goodC5 128 rfl rfl
theorem wd_1090 : (Jvm.Cond.laysFinal "PennyQueueModel" "PennyQueueModel" "sign" "[I") ∈ lw_good := lw_goodC5 130 rfl rfl
theorem wd_1092 : (Jvm.Cond.laysFinal "PennyQueueModel" "PennyQueueModel" "waits" "[I") ∈ lw_good := lw_goodC5 132 rfl rfl
theorem wd_1094 : (Jvm.Cond.lays "PennyQueueModel" "PennyQueueModel" "signs" "I") ∈ lw_good := lw_goodC5 134 rfl rfl
theorem wd_1096 : (Jvm.Cond.lays "PennyQueueModel" "PennyQueueModel" "waiting" "I") ∈ lw_good := lw_goodC5 136 rfl rfl
theorem wd_1098 : (Jvm.Cond.lays "PennyQueueModel" "PennyQueueModel" "open" "I") ∈ lw_good := lw_goodC5 138 rfl rfl
theorem wd_1100 : (Jvm.Cond.laysFinal "PennyQueueModel" "PennyQueueModel" "pile" "[Z") ∈ lw_good := lw_goodC5 140 rfl rfl
theorem wd_1102 : (Jvm.Cond.lays "PennyQueueModel" "PennyQueueModel" "orders" "I") ∈ lw_good := lw_goodC5 142 rfl rfl
theorem wd_1104 : (Jvm.Cond.laysFinal "PennyQueueModel" "PennyQueueModel" "kind" "[I") ∈ lw_good := lw_goodC5 144 rfl rfl
theorem wd_1106 : (Jvm.Cond.laysFinal "PennyQueueModel" "PennyQueueModel" "v" "[I") ∈ lw_good := lw_goodC5 146 rfl rfl
theorem wd_1108 : (Jvm.Cond.laysFinal "PennyQueueModel" "PennyQueueModel" "rows" "[I") ∈ lw_good := lw_goodC5 148 rfl rfl
theorem wd_1110 : (Jvm.Cond.lays "PennyQueueModel" "PennyQueueModel" "came" "I") ∈ lw_good := lw_goodC5 150 rfl rfl
theorem wd_1112 : (Jvm.Cond.lays "PennyQueueModel" "PennyQueueModel" "done" "I") ∈ lw_good := lw_goodC5 152 rfl rfl
theorem wd_1114 : (Jvm.Cond.lays "PennyQueueModel" "PennyQueueModel" "atWindow" "I") ∈ lw_good := lw_goodC5 154 rfl rfl
theorem wd_1116 : (Jvm.Cond.lays "PennyQueueModel" "PennyQueueModel" "freeSince" "I") ∈ lw_good := lw_goodC5 156 rfl rfl
theorem wd_1118 : (Jvm.Cond.lays "PennyQueueModel" "PennyQueueModel" "price" "I") ∈ lw_good := lw_goodC5 158 rfl rfl
theorem wd_1120 : (Jvm.Cond.lays "PennyQueueModel" "PennyQueueModel" "more" "I") ∈ lw_good := lw_goodC5 160 rfl rfl
theorem wd_1122 : (Jvm.Cond.lays "PennyQueueModel" "PennyQueueModel" "most" "I") ∈ lw_good := lw_goodC5 162 rfl rfl
theorem wd_1124 : (Jvm.Cond.lays "PennyQueueModel" "PennyQueueModel" "skip" "I") ∈ lw_good := lw_goodC5 164 rfl rfl
theorem wd_1126 : (Jvm.Cond.lays "PennyQueueModel" "PennyQueueModel" "now" "I") ∈ lw_good := lw_goodC5 166 rfl rfl
theorem wd_1128 : (Jvm.Cond.lays "PennyQueueModel" "PennyQueueModel" "watched" "I") ∈ lw_good := lw_goodC5 168 rfl rfl
theorem wd_1130 : (Jvm.Cond.laysFinal "PennyQueueModel" "PennyQueueModel" "sortOf" "[I") ∈ lw_good := lw_goodC5 170 rfl rfl
theorem wd_1132 : (Jvm.Cond.laysFinal "PennyQueueModel" "PennyQueueModel" "minuteOf" "[I") ∈ lw_good := lw_goodC5 172 rfl rfl
theorem wd_1134 : (Jvm.Cond.laysFinal "PennyQueueModel" "PennyQueueModel" "lineOf" "[I") ∈ lw_good := lw_goodC5 174 rfl rfl
theorem wd_1136 : (Jvm.Cond.laysFinal "PennyQueueModel" "PennyQueueModel" "paid" "[I") ∈ lw_good := lw_goodC5 176 rfl rfl
theorem wd_1138 : (Jvm.Cond.laysFinal "PennyQueueModel" "PennyQueueModel" "waitOf" "[I") ∈ lw_good := lw_goodC5 178 rfl rfl
theorem wd_1140 : (Jvm.Cond.laysFinal "PennyQueueModel" "PennyQueueModel" "rankOf" "[I") ∈ lw_good := lw_goodC5 180 rfl rfl
theorem wd_1142 : (Jvm.Cond.laysFinal "PennyQueueModel" "PennyQueueModel" "line" "[I") ∈ lw_good := lw_goodC5 182 rfl rfl
theorem wd_1144 : (Jvm.Cond.laysFinal "PennyQueueModel" "PennyQueueModel" "head" "[I") ∈ lw_good := lw_goodC5 184 rfl rfl
theorem wd_1146 : (Jvm.Cond.laysFinal "PennyQueueModel" "PennyQueueModel" "tail" "[I") ∈ lw_good := lw_goodC5 186 rfl rfl
theorem wd_1148 : (Jvm.Cond.laysFinal "PennyQueueModel" "PennyQueueModel" "servedBy" "[I") ∈ lw_good := lw_goodC5 188 rfl rfl
theorem wd_1150 : (Jvm.Cond.laysFinal "PennyQueueModel" "PennyQueueModel" "servedAt" "[I") ∈ lw_good := lw_goodC5 190 rfl rfl
theorem wd_1152 : (Jvm.Cond.laysFinal "PennyQueueModel" "PennyQueueModel" "standAt" "[I") ∈ lw_good := lw_goodC5 192 rfl rfl
theorem wd_1154 : (Jvm.Cond.laysFinal "PennyQueueModel" "PennyQueueModel" "losses" "[I") ∈ lw_good := lw_goodC5 194 rfl rfl
theorem wd_1156 : (Jvm.Cond.lays "PennyQueueModel" "PennyQueueModel" "hasImage" "Z") ∈ lw_good := lw_goodC5 196 rfl rfl
theorem wd_1158 : (Jvm.Cond.lays "PennyQueueModel" "PennyQueueModel" "imageThe" "I") ∈ lw_good := lw_goodC5 198 rfl rfl
theorem wd_1160 : (Jvm.Cond.lays "PennyQueueModel" "PennyQueueModel" "imageSorts" "I") ∈ lw_good := lw_goodC5 200 rfl rfl
theorem wd_1162 : (Jvm.Cond.lays "PennyQueueModel" "PennyQueueModel" "imageHands" "I") ∈ lw_good := lw_goodC5 202 rfl rfl
theorem wd_1164 : (Jvm.Cond.laysFinal "PennyQueueModel" "PennyQueueModel" "imageOdds" "[I") ∈ lw_good := lw_goodC5 204 rfl rfl
theorem wd_1166 : (Jvm.Cond.laysFinal "PennyQueueModel" "PennyQueueModel" "imageSort" "[I") ∈ lw_good := lw_goodC5 206 rfl rfl
theorem wd_1168 : (Jvm.Cond.laysFinal "PennyQueueModel" "PennyQueueModel" "imageMinute" "[I") ∈ lw_good := lw_goodC5 208 rfl rfl
theorem wd_1170 : (Jvm.Cond.lays "PennyQueueModel" "PennyQueueModel" "ran" "I") ∈ lw_good := lw_goodC5 210 rfl rfl
theorem wd_1172 : (Jvm.Cond.laysFinal "PennyQueueModel" "PennyQueueModel" "bodies" "[I") ∈ lw_good := lw_goodC5 212 rfl rfl
theorem wd_1174 : (Jvm.Cond.laysFinal "PennyQueueModel" "PennyQueueModel" "sort" "[I") ∈ lw_good := lw_goodC5 214 rfl rfl
theorem wd_1176 : (Jvm.Cond.laysFinal "PennyQueueModel" "PennyQueueModel" "length" "[I") ∈ lw_good := lw_goodC5 216 rfl rfl
theorem wd_1178 : (Jvm.Cond.laysFinal "PennyQueueModel" "PennyQueueModel" "item" "[J") ∈ lw_good := lw_goodC5 218 rfl rfl
theorem wd_1180 : (Jvm.Cond.laysFinal "PennyQueueModel" "PennyQueueModel" "aside" "[J") ∈ lw_good := lw_goodC5 220 rfl rfl
theorem wd_1182 : (Jvm.Cond.superclass "PennyQueueModel" "java/lang/Object") ∈ lw_good := lw_goodC5 222 rfl rfl
theorem wd_1183 : (Jvm.Cond.arrayClass Jvm.ClassFile.FieldType.boolean) ∈ lw_good := lw_goodC5 223 rfl rfl
theorem wd_1184 : (Jvm.Cond.methodLink "PennyQueueLaw" (17 : Nat) ({ cls := "PennyQueueModel", name := "sort", desc := "(IIII)I" } : Jvm.MethodName)) ∈ lw_good := lw_goodC5 224 rfl rfl
theorem wd_1185 : (Jvm.Cond.instanceMethod ({ cls := "PennyQueueModel", name := "sort", desc := "(IIII)I" } : Jvm.MethodName)) ∈ lw_good := lw_goodC5 225 rfl rfl
theorem wd_1186 : (Jvm.Cond.selects "PennyQueueModel" ({ cls := "PennyQueueModel", name := "sort", desc := "(IIII)I" } : Jvm.MethodName) ({ cls := "PennyQueueModel", name := "sort", desc := "(IIII)I" } : Jvm.MethodName)) ∈ lw_good := lw_goodC5 226 rfl rfl
theorem wd_1187 : (Jvm.Cond.code ({ cls := "PennyQueueModel", name := "sort", desc := "(IIII)I" } : Jvm.MethodName) prog_14_method_5_code (5 : Nat) (Option.some Jvm.ClassFile.FieldType.int)) ∈ lw_good := lw_goodC5 227 rfl rfl
theorem wd_1188 : (Jvm.Cond.methodLink "PennyQueueModel" (215 : Nat) ({ cls := "PennyQueueModel", name := "in", desc := "(III)Z" } : Jvm.MethodName)) ∈ lw_good := lw_goodC5 228 rfl rfl
theorem wd_1190 : (Jvm.Cond.instanceMethod ({ cls := "PennyQueueModel", name := "in", desc := "(III)Z" } : Jvm.MethodName)) ∈ lw_good := lw_goodC5 230 rfl rfl
theorem wd_1191 : (Jvm.Cond.code ({ cls := "PennyQueueModel", name := "in", desc := "(III)Z" } : Jvm.MethodName) prog_14_method_2_code (4 : Nat) (Option.some Jvm.ClassFile.FieldType.boolean)) ∈ lw_good := lw_goodC5 231 rfl rfl
theorem wd_1192 : (Jvm.Cond.methodLink "PennyQueueLaw" (22 : Nat) ({ cls := "PennyQueueModel", name := "of", desc := "(II)I" } : Jvm.MethodName)) ∈ lw_good := lw_goodC5 232 rfl rfl
theorem wd_1193 : (Jvm.Cond.instanceMethod ({ cls := "PennyQueueModel", name := "of", desc := "(II)I" } : Jvm.MethodName)) ∈ lw_good := lw_goodC5 233 rfl rfl
theorem wd_1194 : (Jvm.Cond.selects "PennyQueueModel" ({ cls := "PennyQueueModel", name := "of", desc := "(II)I" } : Jvm.MethodName) ({ cls := "PennyQueueModel", name := "of", desc := "(II)I" } : Jvm.MethodName)) ∈ lw_good := lw_goodC5 234 rfl rfl
theorem wd_1195 : (Jvm.Cond.code ({ cls := "PennyQueueModel", name := "of", desc := "(II)I" } : Jvm.MethodName) prog_14_method_6_code (3 : Nat) (Option.some Jvm.ClassFile.FieldType.int)) ∈ lw_good := lw_goodC5 235 rfl rfl
theorem wd_1196 : (Jvm.Cond.methodLink "PennyQueueModel" (219 : Nat) ({ cls := "PennyQueueModel", name := "isSort", desc := "(I)Z" } : Jvm.MethodName)) ∈ lw_good := lw_goodC5 236 rfl rfl
theorem wd_1198 : (Jvm.Cond.instanceMethod ({ cls := "PennyQueueModel", name := "isSort", desc := "(I)Z" } : Jvm.MethodName)) ∈ lw_good := lw_goodC5 238 rfl rfl
theorem wd_1199 : (Jvm.Cond.code ({ cls := "PennyQueueModel", name := "isSort", desc := "(I)Z" } : Jvm.MethodName) prog_14_method_4_code (2 : Nat) (Option.some Jvm.ClassFile.FieldType.boolean)) ∈ lw_good := lw_goodC5 239 rfl rfl
theorem wd_1200 : (Jvm.Cond.methodLink "PennyQueueLaw" (26 : Nat) ({ cls := "PennyQueueModel", name := "odds", desc := "(II)I" } : Jvm.MethodName)) ∈ lw_good := lw_goodC6 0 rfl rfl
theorem wd_1201 : (Jvm.Cond.instanceMethod ({ cls := "PennyQueueModel", name := "odds", desc := "(II)I" } : Jvm.MethodName)) ∈ lw_good := lw_goodC6 1 rfl rfl
theorem wd_1202 : (Jvm.Cond.selects "PennyQueueModel" ({ cls := "PennyQueueModel", name := "odds", desc := "(II)I" } : Jvm.MethodName) ({ cls := "PennyQueueModel", name := "odds", desc := "(II)I" } : Jvm.MethodName)) ∈ lw_good := lw_goodC6 2 rfl rfl
theorem wd_1203 : (Jvm.Cond.code ({ cls := "PennyQueueModel", name := "odds", desc := "(II)I" } : Jvm.MethodName) prog_14_method_7_code (4 : Nat) (Option.some Jvm.ClassFile.FieldType.int)) ∈ lw_good := lw_goodC6 3 rfl rfl
theorem wd_1204 : (Jvm.Cond.methodLink "PennyQueueLaw" (44 : Nat) ({ cls := "PennyQueueModel", name := "come", desc := "(II)I" } : Jvm.MethodName)) ∈ lw_good := lw_goodC6 4 rfl rfl
theorem wd_1205 : (Jvm.Cond.instanceMethod ({ cls := "PennyQueueModel", name := "come", desc := "(II)I" } : Jvm.MethodName)) ∈ lw_good := lw_goodC6 5 rfl rfl
theorem wd_1206 : (Jvm.Cond.selects "PennyQueueModel" ({ cls := "PennyQueueModel", name := "come", desc := "(II)I" } : Jvm.MethodName) ({ cls := "PennyQueueModel", name := "come", desc := "(II)I" } : Jvm.MethodName)) ∈ lw_good := lw_goodC6 6 rfl rfl
theorem wd_1207 : (Jvm.Cond.code ({ cls := "PennyQueueModel", name := "come", desc := "(II)I" } : Jvm.MethodName) prog_14_method_8_code (3 : Nat) (Option.some Jvm.ClassFile.FieldType.int)) ∈ lw_good := lw_goodC6 7 rfl rfl
theorem wd_1208 : (Jvm.Cond.methodLink "PennyQueueLaw" (48 : Nat) ({ cls := "PennyQueueModel", name := "clear", desc := "()I" } : Jvm.MethodName)) ∈ lw_good := lw_goodC6 8 rfl rfl
theorem wd_1209 : (Jvm.Cond.instanceMethod ({ cls := "PennyQueueModel", name := "clear", desc := "()I" } : Jvm.MethodName)) ∈ lw_good := lw_goodC6 9 rfl rfl
theorem wd_1210 : (Jvm.Cond.selects "PennyQueueModel" ({ cls := "PennyQueueModel", name := "clear", desc := "()I" } : Jvm.MethodName) ({ cls := "PennyQueueModel", name := "clear", desc := "()I" } : Jvm.MethodName)) ∈ lw_good := lw_goodC6 10 rfl rfl
theorem wd_1211 : (Jvm.Cond.code ({ cls := "PennyQueueModel", name := "clear", desc := "()I" } : Jvm.MethodName) prog_14_method_9_code (2 : Nat) (Option.some Jvm.ClassFile.FieldType.int)) ∈ lw_good := lw_goodC6 11 rfl rfl
theorem wd_1212 : (Jvm.Cond.methodLink "PennyQueueLaw" (30 : Nat) ({ cls := "PennyQueueModel", name := "feed", desc := "(II)I" } : Jvm.MethodName)) ∈ lw_good := lw_goodC6 12 rfl rfl
theorem wd_1213 : (Jvm.Cond.instanceMethod ({ cls := "PennyQueueModel", name := "feed", desc := "(II)I" } : Jvm.MethodName)) ∈ lw_good := lw_goodC6 13 rfl rfl
theorem wd_1214 : (Jvm.Cond.selects "PennyQueueModel" ({ cls := "PennyQueueModel", name := "feed", desc := "(II)I" } : Jvm.MethodName) ({ cls := "PennyQueueModel", name := "feed", desc := "(II)I" } : Jvm.MethodName)) ∈ lw_good := lw_goodC6 14 rfl rfl
theorem wd_1215 : (Jvm.Cond.code ({ cls := "PennyQueueModel", name := "feed", desc := "(II)I" } : Jvm.MethodName) prog_14_method_10_code (4 : Nat) (Option.some Jvm.ClassFile.FieldType.int)) ∈ lw_good := lw_goodC6 15 rfl rfl
theorem wd_1216 : (Jvm.Cond.methodLink "PennyQueueLaw" (35 : Nat) ({ cls := "PennyQueueModel", name := "window", desc := "()I" } : Jvm.MethodName)) ∈ lw_good := lw_goodC6 16 rfl rfl
theorem wd_1217 : (Jvm.Cond.instanceMethod ({ cls := "PennyQueueModel", name := "window", desc := "()I" } : Jvm.MethodName)) ∈ lw_good := lw_goodC6 17 rfl rfl
theorem wd_1218 : (Jvm.Cond.selects "PennyQueueModel" ({ cls := "PennyQueueModel", name := "window", desc := "()I" } : Jvm.MethodName) ({ cls := "PennyQueueModel", name := "window", desc := "()I" } : Jvm.MethodName)) ∈ lw_good := lw_goodC6 18 rfl rfl
theorem wd_1219 : (Jvm.Cond.code ({ cls := "PennyQueueModel", name := "window", desc := "()I" } : Jvm.MethodName) prog_14_method_25_code (2 : Nat) (Option.some Jvm.ClassFile.FieldType.int)) ∈ lw_good := lw_goodC6 19 rfl rfl
theorem wd_1220 : (Jvm.Cond.methodLink "PennyQueueModel" (271 : Nat) ({ cls := "PennyQueueModel", name := "goesText", desc := "(I)Z" } : Jvm.MethodName)) ∈ lw_good := lw_goodC6 20 rfl rfl
theorem wd_1222 : (Jvm.Cond.instanceMethod ({ cls := "PennyQueueModel", name := "goesText", desc := "(I)Z" } : Jvm.MethodName)) ∈ lw_good := lw_goodC6 22 rfl rfl
theorem wd_1223 : (Jvm.Cond.code ({ cls := "PennyQueueModel", name := "goesText", desc := "(I)Z" } : Jvm.MethodName) prog_14_method_24_code (3 : Nat) (Option.some Jvm.ClassFile.FieldType.boolean)) ∈ lw_good := lw_goodC6 23 rfl rfl
theorem wd_1224 : (Jvm.Cond.methodLink "PennyQueueModel" (268 : Nat) ({ cls := "PennyQueueModel", name := "takesClause", desc := "(I)Z" } : Jvm.MethodName)) ∈ lw_good := lw_goodC6 24 rfl rfl
theorem wd_1226 : (Jvm.Cond.instanceMethod ({ cls := "PennyQueueModel", name := "takesClause", desc := "(I)Z" } : Jvm.MethodName)) ∈ lw_good := lw_goodC6 26 rfl rfl
theorem wd_1227 : (Jvm.Cond.code ({ cls := "PennyQueueModel", name := "takesClause", desc := "(I)Z" } : Jvm.MethodName) prog_14_method_23_code (3 : Nat) (Option.some Jvm.ClassFile.FieldType.boolean)) ∈ lw_good := lw_goodC6 27 rfl rfl
theorem wd_1228 : (Jvm.Cond.methodLink "PennyQueueModel" (254 : Nat) ({ cls := "PennyQueueModel", name := "third", desc := "()I" } : Jvm.MethodName)) ∈ lw_good := lw_goodC6 28 rfl rfl
theorem wd_1230 : (Jvm.Cond.instanceMethod ({ cls := "PennyQueueModel", name := "third", desc := "()I" } : Jvm.MethodName)) ∈ lw_good := lw_goodC6 30 rfl rfl
theorem wd_1231 : (Jvm.Cond.code ({ cls := "PennyQueueModel", name := "third", desc := "()I" } : Jvm.MethodName) prog_14_method_12_code (1 : Nat) (Option.some Jvm.ClassFile.FieldType.int)) ∈ lw_good := lw_goodC6 31 rfl rfl
theorem wd_1232 : (Jvm.Cond.methodLink "PennyQueueModel" (223 : Nat) ({ cls := "PennyQueueModel", name := "next", desc := "()I" } : Jvm.MethodName)) ∈ lw_good := lw_goodC6 32 rfl rfl
theorem wd_1234 : (Jvm.Cond.instanceMethod ({ cls := "PennyQueueModel", name := "next", desc := "()I" } : Jvm.MethodName)) ∈ lw_good := lw_goodC6 34 rfl rfl
theorem wd_1235 : (Jvm.Cond.code ({ cls := "PennyQueueModel", name := "next", desc := "()I" } : Jvm.MethodName) prog_14_method_11_code (1 : Nat) (Option.some Jvm.ClassFile.FieldType.int)) ∈ lw_good := lw_goodC6 35 rfl rfl
theorem wd_1236 : (Jvm.Cond.constant "PennyQueueModel" (257 : Nat) (114085 : Int32)) ∈ lw_good := lw_goodC6 36 rfl rfl
theorem wd_1237 : (Jvm.Cond.methodLink "PennyQueueModel" (258 : Nat) ({ cls := "PennyQueueModel", name := "takesWord", desc := "(II)Z" } : Jvm.MethodName)) ∈ lw_good := lw_goodC6 37 rfl rfl
theorem wd_1239 : (Jvm.Cond.instanceMethod ({ cls := "PennyQueueModel", name := "takesWord", desc := "(II)Z" } : Jvm.MethodName)) ∈ lw_good := lw_goodC6 39 rfl rfl
theorem wd_1240 : (Jvm.Cond.code ({ cls := "PennyQueueModel", name := "takesWord", desc := "(II)Z" } : Jvm.MethodName) prog_14_method_14_code (4 : Nat) (Option.some Jvm.ClassFile.FieldType.boolean)) ∈ lw_good := lw_goodC6 40 rfl rfl
theorem wd_1241 : (Jvm.Cond.methodLink "PennyQueueModel" (227 : Nat) ({ cls := "PennyQueueModel", name := "takesSign", desc := "(I)Z" } : Jvm.MethodName)) ∈ lw_good := lw_goodC6 41 rfl rfl
theorem wd_1243 : (Jvm.Cond.instanceMethod ({ cls := "PennyQueueModel", name := "takesSign", desc := "(I)Z" } : Jvm.MethodName)) ∈ lw_good := lw_goodC6 43 rfl rfl
theorem wd_1244 : (Jvm.Cond.code ({ cls := "PennyQueueModel", name := "takesSign", desc := "(I)Z" } : Jvm.MethodName) prog_14_method_13_code (2 : Nat) (Option.some Jvm.ClassFile.FieldType.boolean)) ∈ lw_good := lw_goodC6 44 rfl rfl
theorem wd_1245 : (Jvm.Cond.methodLink "PennyQueueModel" (262 : Nat) ({ cls := "PennyQueueModel", name := "takesE", desc := "(I)Z" } : Jvm.MethodName)) ∈ lw_good := lw_goodC6 45 rfl rfl
theorem wd_1247 : (Jvm.Cond.instanceMethod ({ cls := "PennyQueueModel", name := "takesE", desc := "(I)Z" } : Jvm.MethodName)) ∈ lw_good := lw_goodC6 47 rfl rfl
theorem wd_1248 : (Jvm.Cond.code ({ cls := "PennyQueueModel", name := "takesE", desc := "(I)Z" } : Jvm.MethodName) prog_14_method_22_code (4 : Nat) (Option.some Jvm.ClassFile.FieldType.boolean)) ∈ lw_good := lw_goodC6 48 rfl rfl
theorem wd_1249 : (Jvm.Cond.methodLink "PennyQueueModel" (248 : Nat) ({ cls := "PennyQueueModel", name := "takesTest", desc := "()Z" } : Jvm.MethodName)) ∈ lw_good := lw_goodC6 49 rfl rfl
theorem wd_1251 : (Jvm.Cond.instanceMethod ({ cls := "PennyQueueModel", name := "takesTest", desc := "()Z" } : Jvm.MethodName)) ∈ lw_good := lw_goodC6 51 rfl rfl
theorem wd_1252 : (Jvm.Cond.code ({ cls := "PennyQueueModel", name := "takesTest", desc := "()Z" } : Jvm.MethodName) prog_14_method_21_code (3 : Nat) (Option.some Jvm.ClassFile.FieldType.boolean)) ∈ lw_good := lw_goodC6 52 rfl rfl
theorem wd_1253 : (Jvm.Cond.methodLink "PennyQueueModel" (238 : Nat) ({ cls := "PennyQueueModel", name := "place", desc := "(I)I" } : Jvm.MethodName)) ∈ lw_good := lw_goodC6 53 rfl rfl
theorem wd_1255 : (Jvm.Cond.instanceMethod ({ cls := "PennyQueueModel", name := "place", desc := "(I)I" } : Jvm.MethodName)) ∈ lw_good := lw_goodC6 55 rfl rfl
theorem wd_1256 : (Jvm.Cond.code ({ cls := "PennyQueueModel", name := "place", desc := "(I)I" } : Jvm.MethodName) prog_14_method_20_code (2 : Nat) (Option.some Jvm.ClassFile.FieldType.int)) ∈ lw_good := lw_goodC6 56 rfl rfl
theorem wd_1257 : (Jvm.Cond.methodLink "PennyQueueModel" (242 : Nat) ({ cls := "PennyQueueModel", name := "takesNumber", desc := "()Z" } : Jvm.MethodName)) ∈ lw_good := lw_goodC6 57 rfl rfl
theorem wd_1259 : (Jvm.Cond.instanceMethod ({ cls := "PennyQueueModel", name := "takesNumber", desc := "()Z" } : Jvm.MethodName)) ∈ lw_good := lw_goodC6 59 rfl rfl
theorem wd_1260 : (Jvm.Cond.code ({ cls := "PennyQueueModel", name := "takesNumber", desc := "()Z" } : Jvm.MethodName) prog_14_method_16_code (2 : Nat) (Option.some Jvm.ClassFile.FieldType.boolean)) ∈ lw_good := lw_goodC6 60 rfl rfl
theorem wd_1261 : (Jvm.Cond.methodLink "PennyQueueModel" (230 : Nat) ({ cls := "PennyQueueModel", name := "isDigit", desc := "()Z" } : Jvm.MethodName)) ∈ lw_good := lw_goodC6 61 rfl rfl
theorem wd_1263 : (Jvm.Cond.instanceMethod ({ cls := "PennyQueueModel", name := "isDigit", desc := "()Z" } : Jvm.MethodName)) ∈ lw_good := lw_goodC6 63 rfl rfl
theorem wd_1264 : (Jvm.Cond.code ({ cls := "PennyQueueModel", name := "isDigit", desc := "()Z" } : Jvm.MethodName) prog_14_method_15_code (1 : Nat) (Option.some Jvm.ClassFile.FieldType.boolean)) ∈ lw_good := lw_goodC6 64 rfl rfl
theorem wd_1265 : (Jvm.Cond.methodLink "PennyQueueModel" (234 : Nat) ({ cls := "PennyQueueModel", name := "put", desc := "(I)V" } : Jvm.MethodName)) ∈ lw_good := lw_goodC6 65 rfl rfl
theorem wd_1267 : (Jvm.Cond.instanceMethod ({ cls := "PennyQueueModel", name := "put", desc := "(I)V" } : Jvm.MethodName)) ∈ lw_good := lw_goodC6 67 rfl rfl
theorem wd_1268 : (Jvm.Cond.code ({ cls := "PennyQueueModel", name := "put", desc := "(I)V" } : Jvm.MethodName) prog_14_method_17_code (2 : Nat) (Option.none : Option Jvm.ClassFile.FieldType)) ∈ lw_good := lw_goodC6 68 rfl rfl
theorem wd_1269 : (Jvm.Cond.methodLink "PennyQueueModel" (245 : Nat) ({ cls := "PennyQueueModel", name := "whole", desc := "()V" } : Jvm.MethodName)) ∈ lw_good := lw_goodC6 69 rfl rfl
theorem wd_1271 : (Jvm.Cond.instanceMethod ({ cls := "PennyQueueModel", name := "whole", desc := "()V" } : Jvm.MethodName)) ∈ lw_good := lw_goodC6 71 rfl rfl
theorem wd_1272 : (Jvm.Cond.code ({ cls := "PennyQueueModel", name := "whole", desc := "()V" } : Jvm.MethodName) prog_14_method_18_code (1 : Nat) (Option.none : Option Jvm.ClassFile.FieldType)) ∈ lw_good := lw_goodC6 72 rfl rfl
theorem wd_1273 : (Jvm.Cond.methodLink "PennyQueueModel" (251 : Nat) ({ cls := "PennyQueueModel", name := "settle", desc := "(I)V" } : Jvm.MethodName)) ∈ lw_good := lw_goodC6 73 rfl rfl
theorem wd_1275 : (Jvm.Cond.instanceMethod ({ cls := "PennyQueueModel", name := "settle", desc := "(I)V" } : Jvm.MethodName)) ∈ lw_good := lw_goodC6 75 rfl rfl
theorem wd_1276 : (Jvm.Cond.code ({ cls := "PennyQueueModel", name := "settle", desc := "(I)V" } : Jvm.MethodName) prog_14_method_19_code (2 : Nat) (Option.none : Option Jvm.ClassFile.FieldType)) ∈ lw_good := lw_goodC6 76 rfl rfl
theorem wd_1277 : (Jvm.Cond.constant "PennyQueueModel" (265 : Nat) (441972 : Int32)) ∈ lw_good := lw_goodC6 77 rfl rfl
theorem wd_1278 : (Jvm.Cond.constant "PennyQueueModel" (266 : Nat) (441925 : Int32)) ∈ lw_good := lw_goodC6 78 rfl rfl
theorem wd_1279 : (Jvm.Cond.constant "PennyQueueModel" (267 : Nat) (17376357 : Int32)) ∈ lw_good := lw_goodC6 79 rfl rfl
theorem wd_1280 : (Jvm.Cond.methodLink "PennyQueueLaw" (40 : Nat) ({ cls := "PennyQueueModel", name := "told", desc := "(I)I" } : Jvm.MethodName)) ∈ lw_good := lw_goodC6 80 rfl rfl
theorem wd_1281 : (Jvm.Cond.instanceMethod ({ cls := "PennyQueueModel", name := "told", desc := "(I)I" } : Jvm.MethodName)) ∈ lw_good := lw_goodC6 81 rfl rfl
theorem wd_1282 : (Jvm.Cond.selects "PennyQueueModel" ({ cls := "PennyQueueModel", name := "told", desc := "(I)I" } : Jvm.MethodName) ({ cls := "PennyQueueModel", name := "told", desc := "(I)I" } : Jvm.MethodName)) ∈ lw_good := lw_goodC6 82 rfl rfl
theorem wd_1283 : (Jvm.Cond.code ({ cls := "PennyQueueModel", name := "told", desc := "(I)I" } : Jvm.MethodName) prog_14_method_29_code (2 : Nat) (Option.some Jvm.ClassFile.FieldType.int)) ∈ lw_good := lw_goodC6 83 rfl rfl
theorem wd_1284 : (Jvm.Cond.methodLink "PennyQueueModel" (284 : Nat) ({ cls := "PennyQueueModel", name := "last", desc := "(III)I" } : Jvm.MethodName)) ∈ lw_good := lw_goodC6 84 rfl rfl
theorem wd_1286 : (Jvm.Cond.instanceMethod ({ cls := "PennyQueueModel", name := "last", desc := "(III)I" } : Jvm.MethodName)) ∈ lw_good := lw_goodC6 86 rfl rfl
theorem wd_1287 : (Jvm.Cond.code ({ cls := "PennyQueueModel", name := "last", desc := "(III)I" } : Jvm.MethodName) prog_14_method_28_code (6 : Nat) (Option.some Jvm.ClassFile.FieldType.int)) ∈ lw_good := lw_goodC6 87 rfl rfl
theorem wd_1288 : (Jvm.Cond.methodLink "PennyQueueModel" (274 : Nat) ({ cls := "PennyQueueModel", name := "first", desc := "()I" } : Jvm.MethodName)) ∈ lw_good := lw_goodC6 88 rfl rfl
theorem wd_1290 : (Jvm.Cond.instanceMethod ({ cls := "PennyQueueModel", name := "first", desc := "()I" } : Jvm.MethodName)) ∈ lw_good := lw_goodC6 90 rfl rfl
theorem wd_1291 : (Jvm.Cond.code ({ cls := "PennyQueueModel", name := "first", desc := "()I" } : Jvm.MethodName) prog_14_method_26_code (1 : Nat) (Option.some Jvm.ClassFile.FieldType.int)) ∈ lw_good := lw_goodC6 91 rfl rfl
theorem wd_1292 : (Jvm.Cond.methodLink "PennyQueueModel" (277 : Nat) ({ cls := "PennyQueueModel", name := "behind", desc := "()I" } : Jvm.MethodName)) ∈ lw_good := lw_goodC6 92 rfl rfl
theorem wd_1294 : (Jvm.Cond.instanceMethod ({ cls := "PennyQueueModel", name := "behind", desc := "()I" } : Jvm.MethodName)) ∈ lw_good := lw_goodC6 94 rfl rfl
theorem wd_1295 : (Jvm.Cond.code ({ cls := "PennyQueueModel", name := "behind", desc := "()I" } : Jvm.MethodName) prog_14_method_27_code (1 : Nat) (Option.some Jvm.ClassFile.FieldType.int)) ∈ lw_good := lw_goodC6 95 rfl rfl
theorem wd_1296 : (Jvm.Cond.methodLink "PennyQueueModel" (280 : Nat) ({ cls := "PennyQueueModel", name := "min", desc := "(II)I" } : Jvm.MethodName)) ∈ lw_good := lw_goodC6 96 rfl rfl
theorem wd_1298 : (Jvm.Cond.instanceMethod ({ cls := "PennyQueueModel", name := "min", desc := "(II)I" } : Jvm.MethodName)) ∈ lw_good := lw_goodC6 98 rfl rfl
theorem wd_1299 : (Jvm.Cond.code ({ cls := "PennyQueueModel", name := "min", desc := "(II)I" } : Jvm.MethodName) prog_14_method_3_code (3 : Nat) (Option.some Jvm.ClassFile.FieldType.int)) ∈ lw_good := lw_goodC6 99 rfl rfl
theorem wd_1300 : (Jvm.Cond.methodLink "PennyQueueLaw" (52 : Nat) ({ cls := "PennyQueueModel", name := "order", desc := "(II)I" } : Jvm.MethodName)) ∈ lw_good := lw_goodC6 100 rfl rfl
theorem wd_1301 : (Jvm.Cond.instanceMethod ({ cls := "PennyQueueModel", name := "order", desc := "(II)I" } : Jvm.MethodName)) ∈ lw_good := lw_goodC6 101 rfl rfl
theorem wd_1302 : (Jvm.Cond.selects "PennyQueueModel" ({ cls := "PennyQueueModel", name := "order", desc := "(II)I" } : Jvm.MethodName) ({ cls := "PennyQueueModel", name := "order", desc := "(II)I" } : Jvm.MethodName)) ∈ lw_good := lw_goodC6 102 rfl rfl
theorem wd_1303 : (Jvm.Cond.code ({ cls := "PennyQueueModel", name := "order", desc := "(II)I" } : Jvm.MethodName) prog_14_method_33_code (4 : Nat) (Option.some Jvm.ClassFile.FieldType.int)) ∈ lw_good := lw_goodC6 103 rfl rfl
theorem wd_1304 : (Jvm.Cond.methodLink "PennyQueueLaw" (57 : Nat) ({ cls := "PennyQueueModel", name := "row", desc := "(III)I" } : Jvm.MethodName)) ∈ lw_good := lw_goodC6 104 rfl rfl
theorem wd_1305 : (Jvm.Cond.instanceMethod ({ cls := "PennyQueueModel", name := "row", desc := "(III)I" } : Jvm.MethodName)) ∈ lw_good := lw_goodC6 105 rfl rfl
theorem wd_1306 : (Jvm.Cond.selects "PennyQueueModel" ({ cls := "PennyQueueModel", name := "row", desc := "(III)I" } : Jvm.MethodName) ({ cls := "PennyQueueModel", name := "row", desc := "(III)I" } : Jvm.MethodName)) ∈ lw_good := lw_goodC6 106 rfl rfl
theorem wd_1307 : (Jvm.Cond.code ({ cls := "PennyQueueModel", name := "row", desc := "(III)I" } : Jvm.MethodName) prog_14_method_34_code (5 : Nat) (Option.some Jvm.ClassFile.FieldType.int)) ∈ lw_good := lw_goodC6 107 rfl rfl
theorem wd_1308 : (Jvm.Cond.methodLink "PennyQueueModel" (294 : Nat) ({ cls := "PennyQueueModel", name := "isOrder", desc := "(I)Z" } : Jvm.MethodName)) ∈ lw_good := lw_goodC6 108 rfl rfl
theorem wd_1310 : (Jvm.Cond.instanceMethod ({ cls := "PennyQueueModel", name := "isOrder", desc := "(I)Z" } : Jvm.MethodName)) ∈ lw_good := lw_goodC6 110 rfl rfl
theorem wd_1311 : (Jvm.Cond.code ({ cls := "PennyQueueModel", name := "isOrder", desc := "(I)Z" } : Jvm.MethodName) prog_14_method_32_code (2 : Nat) (Option.some Jvm.ClassFile.FieldType.boolean)) ∈ lw_good := lw_goodC6 111 rfl rfl
theorem wd_1312 : (Jvm.Cond.methodLink "PennyQueueLaw" (61 : Nat) ({ cls := "PennyQueueModel", name := "comer", desc := "(III)I" } : Jvm.MethodName)) ∈ lw_good := lw_goodC6 112 rfl rfl
theorem wd_1313 : (Jvm.Cond.instanceMethod ({ cls := "PennyQueueModel", name := "comer", desc := "(III)I" } : Jvm.MethodName)) ∈ lw_good := lw_goodC6 113 rfl rfl
theorem wd_1314 : (Jvm.Cond.selects "PennyQueueModel" ({ cls := "PennyQueueModel", name := "comer", desc := "(III)I" } : Jvm.MethodName) ({ cls := "PennyQueueModel", name := "comer", desc := "(III)I" } : Jvm.MethodName)) ∈ lw_good := lw_goodC6 114 rfl rfl
theorem wd_1315 : (Jvm.Cond.code ({ cls := "PennyQueueModel", name := "comer", desc := "(III)I" } : Jvm.MethodName) prog_14_method_48_code (4 : Nat) (Option.some Jvm.ClassFile.FieldType.int)) ∈ lw_good := lw_goodC6 115 rfl rfl
theorem wd_1316 : (Jvm.Cond.methodLink "PennyQueueModel" (329 : Nat) ({ cls := "PennyQueueModel", name := "goPlainly", desc := "(I)V" } : Jvm.MethodName)) ∈ lw_good := lw_goodC6 116 rfl rfl
theorem wd_1318 : (Jvm.Cond.instanceMethod ({ cls := "PennyQueueModel", name := "goPlainly", desc := "(I)V" } : Jvm.MethodName)) ∈ lw_good := lw_goodC6 118 rfl rfl
theorem wd_1319 : (Jvm.Cond.code ({ cls := "PennyQueueModel", name := "goPlainly", desc := "(I)V" } : Jvm.MethodName) prog_14_method_44_code (2 : Nat) (Option.none : Option Jvm.ClassFile.FieldType)) ∈ lw_good := lw_goodC6 119 rfl rfl
theorem wd_1320 : (Jvm.Cond.methodLink "PennyQueueModel" (312 : Nat) ({ cls := "PennyQueueModel", name := "told", desc := "(I)I" } : Jvm.MethodName)) ∈ lw_good := lw_goodC6 120 rfl rfl
theorem wd_1321 : (Jvm.Cond.methodLink "PennyQueueModel" (325 : Nat) ({ cls := "PennyQueueModel", name := "go", desc := "(IIII)V" } : Jvm.MethodName)) ∈ lw_good := lw_goodC6 121 rfl rfl
theorem wd_1323 : (Jvm.Cond.instanceMethod ({ cls := "PennyQueueModel", name := "go", desc := "(IIII)V" } : Jvm.MethodName)) ∈ lw_good := lw_goodC6 123 rfl rfl
theorem wd_1324 : (Jvm.Cond.code ({ cls := "PennyQueueModel", name := "go", desc := "(IIII)V" } : Jvm.MethodName) prog_14_method_43_code (6 : Nat) (Option.none : Option Jvm.ClassFile.FieldType)) ∈ lw_good := lw_goodC6 124 rfl rfl
theorem wd_1325 : (Jvm.Cond.methodLink "PennyQueueModel" (288 : Nat) ({ cls := "PennyQueueModel", name := "standing", desc := "(I)I" } : Jvm.MethodName)) ∈ lw_good := lw_goodC6 125 rfl rfl
theorem wd_1327 : (Jvm.Cond.instanceMethod ({ cls := "PennyQueueModel", name := "standing", desc := "(I)I" } : Jvm.MethodName)) ∈ lw_good := lw_goodC6 127 rfl rfl
theorem wd_1328 : (Jvm.Cond.code ({ cls := "PennyQueueModel", name := "standing", desc := "(I)I" } : Jvm.MethodName) prog_14_method_35_code (2 : Nat) (Option.some Jvm.ClassFile.FieldType.int)) ∈ lw_good := lw_goodC6 128 rfl rfl
theorem wd_1329 : (Jvm.Cond.methodLink "PennyQueueModel" (315 : Nat) ({ cls := "PennyQueueModel", name := "joins", desc := "(II)V" } : Jvm.MethodName)) ∈ lw_good := lw_goodC6 129 rfl rfl
theorem wd_1331 : (Jvm.Cond.instanceMethod ({ cls := "PennyQueueModel", name := "joins", desc := "(II)V" } : Jvm.MethodName)) ∈ lw_good := lw_goodC6 131 rfl rfl
theorem wd_1332 : (Jvm.Cond.code ({ cls := "PennyQueueModel", name := "joins", desc := "(II)V" } : Jvm.MethodName) prog_14_method_40_code (5 : Nat) (Option.none : Option Jvm.ClassFile.FieldType)) ∈ lw_good := lw_goodC6 132 rfl rfl
theorem wd_1333 : (Jvm.Cond.methodLink "PennyQueueModel" (303 : Nat) ({ cls := "PennyQueueModel", name := "choose", desc := "(II)I" } : Jvm.MethodName)) ∈ lw_good := lw_goodC6 133 rfl rfl
theorem wd_1335 : (Jvm.Cond.instanceMethod ({ cls := "PennyQueueModel", name := "choose", desc := "(II)I" } : Jvm.MethodName)) ∈ lw_good := lw_goodC6 135 rfl rfl
theorem wd_1336 : (Jvm.Cond.code ({ cls := "PennyQueueModel", name := "choose", desc := "(II)I" } : Jvm.MethodName) prog_14_method_39_code (13 : Nat) (Option.some Jvm.ClassFile.FieldType.int)) ∈ lw_good := lw_goodC6 136 rfl rfl
theorem wd_1337 : (Jvm.Cond.methodLink "PennyQueueModel" (300 : Nat) ({ cls := "PennyQueueModel", name := "timesIn", desc := "(I)I" } : Jvm.MethodName)) ∈ lw_good := lw_goodC6 137 rfl rfl
theorem wd_1339 : (Jvm.Cond.instanceMethod ({ cls := "PennyQueueModel", name := "timesIn", desc := "(I)I" } : Jvm.MethodName)) ∈ lw_good := lw_goodC6 139 rfl rfl
theorem wd_1340 : (Jvm.Cond.code ({ cls := "PennyQueueModel", name := "timesIn", desc := "(I)I" } : Jvm.MethodName) prog_14_method_37_code (4 : Nat) (Option.some Jvm.ClassFile.FieldType.int)) ∈ lw_good := lw_goodC6 140 rfl rfl
theorem wd_1341 : (Jvm.Cond.methodLink "PennyQueueModel" (297 : Nat) ({ cls := "PennyQueueModel", name := "timeOf", desc := "(I)I" } : Jvm.MethodName)) ∈ lw_good := lw_goodC6 141 rfl rfl
theorem wd_1343 : (Jvm.Cond.instanceMethod ({ cls := "PennyQueueModel", name := "timeOf", desc := "(I)I" } : Jvm.MethodName)) ∈ lw_good := lw_goodC6 143 rfl rfl
theorem wd_1344 : (Jvm.Cond.code ({ cls := "PennyQueueModel", name := "timeOf", desc := "(I)I" } : Jvm.MethodName) prog_14_method_36_code (2 : Nat) (Option.some Jvm.ClassFile.FieldType.int)) ∈ lw_good := lw_goodC6 144 rfl rfl
theorem wd_1345 : (Jvm.Cond.methodLink "PennyQueueModel" (319 : Nat) ({ cls := "PennyQueueModel", name := "comes", desc := "(II)Z" } : Jvm.MethodName)) ∈ lw_good := lw_goodC6 145 rfl rfl
theorem wd_1347 : (Jvm.Cond.instanceMethod ({ cls := "PennyQueueModel", name := "comes", desc := "(II)Z" } : Jvm.MethodName)) ∈ lw_good := lw_goodC6 147 rfl rfl
theorem wd_1348 : (Jvm.Cond.code ({ cls := "PennyQueueModel", name := "comes", desc := "(II)Z" } : Jvm.MethodName) prog_14_method_31_code (4 : Nat) (Option.some Jvm.ClassFile.FieldType.boolean)) ∈ lw_good := lw_goodC6 148 rfl rfl
theorem wd_1349 : (Jvm.Cond.methodLink "PennyQueueModel" (291 : Nat) ({ cls := "PennyQueueModel", name := "holds", desc := "(II)Z" } : Jvm.MethodName)) ∈ lw_good := lw_goodC6 149 rfl rfl
theorem wd_1351 : (Jvm.Cond.instanceMethod ({ cls := "PennyQueueModel", name := "holds", desc := "(II)Z" } : Jvm.MethodName)) ∈ lw_good := lw_goodC6 151 rfl rfl
theorem wd_1352 : (Jvm.Cond.code ({ cls := "PennyQueueModel", name := "holds", desc := "(II)Z" } : Jvm.MethodName) prog_14_method_30_code (8 : Nat) (Option.some Jvm.ClassFile.FieldType.boolean)) ∈ lw_good := lw_goodC6 152 rfl rfl
theorem wd_1353 : (Jvm.Cond.methodLink "PennyQueueModel" (322 : Nat) ({ cls := "PennyQueueModel", name := "takes", desc := "(I)V" } : Jvm.MethodName)) ∈ lw_good := lw_goodC6 153 rfl rfl
theorem wd_1355 : (Jvm.Cond.instanceMethod ({ cls := "PennyQueueModel", name := "takes", desc := "(I)V" } : Jvm.MethodName)) ∈ lw_good := lw_goodC6 155 rfl rfl
theorem wd_1356 : (Jvm.Cond.code ({ cls := "PennyQueueModel", name := "takes", desc := "(I)V" } : Jvm.MethodName) prog_14_method_42_code (4 : Nat) (Option.none : Option Jvm.ClassFile.FieldType)) ∈ lw_good := lw_goodC6 156 rfl rfl
theorem wd_1357 : (Jvm.Cond.methodLink "PennyQueueModel" (309 : Nat) ({ cls := "PennyQueueModel", name := "nextLine", desc := "(I)I" } : Jvm.MethodName)) ∈ lw_good := lw_goodC6 157 rfl rfl
theorem wd_1359 : (Jvm.Cond.instanceMethod ({ cls := "PennyQueueModel", name := "nextLine", desc := "(I)I" } : Jvm.MethodName)) ∈ lw_good := lw_goodC6 159 rfl rfl
theorem wd_1360 : (Jvm.Cond.code ({ cls := "PennyQueueModel", name := "nextLine", desc := "(I)I" } : Jvm.MethodName) prog_14_method_41_code (3 : Nat) (Option.some Jvm.ClassFile.FieldType.int)) ∈ lw_good := lw_goodC6 160 rfl rfl
theorem wd_1361 : (Jvm.Cond.methodLink "PennyQueueModel" (306 : Nat) ({ cls := "PennyQueueModel", name := "isFirst", desc := "(I)Z" } : Jvm.MethodName)) ∈ lw_good := lw_goodC6 161 rfl rfl
theorem wd_1363 : (Jvm.Cond.instanceMethod ({ cls := "PennyQueueModel", name := "isFirst", desc := "(I)Z" } : Jvm.MethodName)) ∈ lw_good := lw_goodC6 163 rfl rfl
theorem wd_1364 : (Jvm.Cond.code ({ cls := "PennyQueueModel", name := "isFirst", desc := "(I)Z" } : Jvm.MethodName) prog_14_method_38_code (2 : Nat) (Option.some Jvm.ClassFile.FieldType.boolean)) ∈ lw_good := lw_goodC6 164 rfl rfl
theorem wd_1365 : (Jvm.Cond.methodLink "PennyQueueLaw" (65 : Nat) ({ cls := "PennyQueueModel", name := "served", desc := "(III)I" } : Jvm.MethodName)) ∈ lw_good := lw_goodC6 165 rfl rfl
theorem wd_1366 : (Jvm.Cond.instanceMethod ({ cls := "PennyQueueModel", name := "served", desc := "(III)I" } : Jvm.MethodName)) ∈ lw_good := lw_goodC6 166 rfl rfl
theorem wd_1367 : (Jvm.Cond.selects "PennyQueueModel" ({ cls := "PennyQueueModel", name := "served", desc := "(III)I" } : Jvm.MethodName) ({ cls := "PennyQueueModel", name := "served", desc := "(III)I" } : Jvm.MethodName)) ∈ lw_good := lw_goodC6 167 rfl rfl
theorem wd_1368 : (Jvm.Cond.code ({ cls := "PennyQueueModel", name := "served", desc := "(III)I" } : Jvm.MethodName) prog_14_method_49_code (4 : Nat) (Option.some Jvm.ClassFile.FieldType.int)) ∈ lw_good := lw_goodC6 168 rfl rfl
theorem wd_1369 : (Jvm.Cond.methodLink "PennyQueueLaw" (69 : Nat) ({ cls := "PennyQueueModel", name := "all", desc := "(II)I" } : Jvm.MethodName)) ∈ lw_good := lw_goodC6 169 rfl rfl
theorem wd_1370 : (Jvm.Cond.instanceMethod ({ cls := "PennyQueueModel", name := "all", desc := "(II)I" } : Jvm.MethodName)) ∈ lw_good := lw_goodC6 170 rfl rfl
theorem wd_1371 : (Jvm.Cond.selects "PennyQueueModel" ({ cls := "PennyQueueModel", name := "all", desc := "(II)I" } : Jvm.MethodName) ({ cls := "PennyQueueModel", name := "all", desc := "(II)I" } : Jvm.MethodName)) ∈ lw_good := lw_goodC6 171 rfl rfl
theorem wd_1372 : (Jvm.Cond.code ({ cls := "PennyQueueModel", name := "all", desc := "(II)I" } : Jvm.MethodName) prog_14_method_50_code (3 : Nat) (Option.some Jvm.ClassFile.FieldType.int)) ∈ lw_good := lw_goodC6 172 rfl rfl
theorem wd_1373 : (Jvm.Cond.methodLink "PennyQueueModel" (332 : Nat) ({ cls := "PennyQueueModel", name := "inLine", desc := "(I)I" } : Jvm.MethodName)) ∈ lw_good := lw_goodC6 173 rfl rfl
theorem wd_1375 : (Jvm.Cond.instanceMethod ({ cls := "PennyQueueModel", name := "inLine", desc := "(I)I" } : Jvm.MethodName)) ∈ lw_good := lw_goodC6 175 rfl rfl
theorem wd_1376 : (Jvm.Cond.code ({ cls := "PennyQueueModel", name := "inLine", desc := "(I)I" } : Jvm.MethodName) prog_14_method_47_code (4 : Nat) (Option.some Jvm.ClassFile.FieldType.int)) ∈ lw_good := lw_goodC6 176 rfl rfl
theorem wd_1377 : (Jvm.Cond.methodLink "PennyQueueModel" (335 : Nat) ({ cls := "PennyQueueModel", name := "lost", desc := "()I" } : Jvm.MethodName)) ∈ lw_good := lw_goodC6 177 rfl rfl
theorem wd_1379 : (Jvm.Cond.instanceMethod ({ cls := "PennyQueueModel", name := "lost", desc := "()I" } : Jvm.MethodName)) ∈ lw_good := lw_goodC6 179 rfl rfl
theorem wd_1380 : (Jvm.Cond.code ({ cls := "PennyQueueModel", name := "lost", desc := "()I" } : Jvm.MethodName) prog_14_method_45_code (3 : Nat) (Option.some Jvm.ClassFile.FieldType.int)) ∈ lw_good := lw_goodC6 180 rfl rfl
theorem wd_1381 : (Jvm.Cond.methodLink "PennyQueueModel" (338 : Nat) ({ cls := "PennyQueueModel", name := "pence", desc := "()I" } : Jvm.MethodName)) ∈ lw_good := lw_goodC6 181 rfl rfl
theorem wd_1383 : (Jvm.Cond.instanceMethod ({ cls := "PennyQueueModel", name := "pence", desc := "()I" } : Jvm.MethodName)) ∈ lw_good := lw_goodC6 183 rfl rfl
theorem wd_1384 : (Jvm.Cond.code ({ cls := "PennyQueueModel", name := "pence", desc := "()I" } : Jvm.MethodName) prog_14_method_46_code (3 : Nat) (Option.some Jvm.ClassFile.FieldType.int)) ∈ lw_good := lw_goodC6 184 rfl rfl
theorem wd_1385 : (Jvm.Cond.methodLink "PennyQueueLaw" (73 : Nat) ({ cls := "PennyQueueModel", name := "stand", desc := "(III)I" } : Jvm.MethodName)) ∈ lw_good := lw_goodC6 185 rfl rfl
theorem wd_1386 : (Jvm.Cond.instanceMethod ({ cls := "PennyQueueModel", name := "stand", desc := "(III)I" } : Jvm.MethodName)) ∈ lw_good := lw_goodC6 186 rfl rfl
theorem wd_1387 : (Jvm.Cond.selects "PennyQueueModel" ({ cls := "PennyQueueModel", name := "stand", desc := "(III)I" } : Jvm.MethodName) ({ cls := "PennyQueueModel", name := "stand", desc := "(III)I" } : Jvm.MethodName)) ∈ lw_good := lw_goodC6 187 rfl rfl
theorem wd_1388 : (Jvm.Cond.code ({ cls := "PennyQueueModel", name := "stand", desc := "(III)I" } : Jvm.MethodName) prog_14_method_51_code (4 : Nat) (Option.some Jvm.ClassFile.FieldType.int)) ∈ lw_good := lw_goodC6 188 rfl rfl
theorem wd_1389 : (Jvm.Cond.methodLink "PennyQueueLaw" (77 : Nat) ({ cls := "PennyQueueModel", name := "price", desc := "(II)I" } : Jvm.MethodName)) ∈ lw_good := lw_goodC6 189 rfl rfl
theorem wd_1390 : (Jvm.Cond.instanceMethod ({ cls := "PennyQueueModel", name := "price", desc := "(II)I" } : Jvm.MethodName)) ∈ lw_good := lw_goodC6 190 rfl rfl
theorem wd_1391 : (Jvm.Cond.selects "PennyQueueModel" ({ cls := "PennyQueueModel", name := "price", desc := "(II)I" } : Jvm.MethodName) ({ cls := "PennyQueueModel", name := "price", desc := "(II)I" } : Jvm.MethodName)) ∈ lw_good := lw_goodC6 191 rfl rfl
theorem wd_1392 : (Jvm.Cond.code ({ cls := "PennyQueueModel", name := "price", desc := "(II)I" } : Jvm.MethodName) prog_14_method_52_code (11 : Nat) (Option.some Jvm.ClassFile.FieldType.int)) ∈ lw_good := lw_goodC6 192 rfl rfl
theorem wd_1393 : (Jvm.Cond.methodLink "PennyQueueLaw" (81 : Nat) ({ cls := "PennyQueueModel", name := "worse", desc := "(I)I" } : Jvm.MethodName)) ∈ lw_good := lw_goodC6 193 rfl rfl
theorem wd_1394 : (Jvm.Cond.instanceMethod ({ cls := "PennyQueueModel", name := "worse", desc := "(I)I" } : Jvm.MethodName)) ∈ lw_good := lw_goodC6 194 rfl rfl
theorem wd_1395 : (Jvm.Cond.selects "PennyQueueModel" ({ cls := "PennyQueueModel", name := "worse", desc := "(I)I" } : Jvm.MethodName) ({ cls := "PennyQueueModel", name := "worse", desc := "(I)I" } : Jvm.MethodName)) ∈ lw_good := lw_goodC6 195 rfl rfl
theorem wd_1396 : (Jvm.Cond.code ({ cls := "PennyQueueModel", name := "worse", desc := "(I)I" } : Jvm.MethodName) prog_14_method_54_code (4 : Nat) (Option.some Jvm.ClassFile.FieldType.int)) ∈ lw_good := lw_goodC6 196 rfl rfl
theorem wd_1397 : (Jvm.Cond.methodLink "PennyQueueModel" (341 : Nat) ({ cls := "PennyQueueModel", name := "lossOf", desc := "(I)I" } : Jvm.MethodName)) ∈ lw_good := lw_goodC6 197 rfl rfl
theorem wd_1399 : (Jvm.Cond.instanceMethod ({ cls := "PennyQueueModel", name := "lossOf", desc := "(I)I" } : Jvm.MethodName)) ∈ lw_good := lw_goodC6 199 rfl rfl
theorem wd_1400 : (Jvm.Cond.code ({ cls := "PennyQueueModel", name := "lossOf", desc := "(I)I" } : Jvm.MethodName) prog_14_method_53_code (4 : Nat) (Option.some Jvm.ClassFile.FieldType.int)) ∈ lw_good := lw_goodC6 200 rfl rfl
theorem wd_1401 : (Jvm.Cond.methodLink "PennyQueueLaw" (85 : Nat) ({ cls := "PennyQueueModel", name := "loss", desc := "(II)I" } : Jvm.MethodName)) ∈ lw_good := lw_goodC6 201 rfl rfl
theorem wd_1402 : (Jvm.Cond.instanceMethod ({ cls := "PennyQueueModel", name := "loss", desc := "(II)I" } : Jvm.MethodName)) ∈ lw_good := lw_goodC6 202 rfl rfl
theorem wd_1403 : (Jvm.Cond.selects "PennyQueueModel" ({ cls := "PennyQueueModel", name := "loss", desc := "(II)I" } : Jvm.MethodName) ({ cls := "PennyQueueModel", name := "loss", desc := "(II)I" } : Jvm.MethodName)) ∈ lw_good := lw_goodC6 203 rfl rfl
theorem wd_1404 : (Jvm.Cond.code ({ cls := "PennyQueueModel", name := "loss", desc := "(II)I" } : Jvm.MethodName) prog_14_method_55_code (3 : Nat) (Option.some Jvm.ClassFile.FieldType.int)) ∈ lw_good := lw_goodC6 204 rfl rfl
theorem wd_1405 : (Jvm.Cond.methodLink "PennyQueueLaw" (89 : Nat) ({ cls := "PennyQueueModel", name := "slow", desc := "(II)I" } : Jvm.MethodName)) ∈ lw_good := lw_goodC6 205 rfl rfl
theorem wd_1406 : (Jvm.Cond.instanceMethod ({ cls := "PennyQueueModel", name := "slow", desc := "(II)I" } : Jvm.MethodName)) ∈ lw_good := lw_goodC6 206 rfl rfl
theorem wd_1407 : (Jvm.Cond.selects "PennyQueueModel" ({ cls := "PennyQueueModel", name := "slow", desc := "(II)I" } : Jvm.MethodName) ({ cls := "PennyQueueModel", name := "slow", desc := "(II)I" } : Jvm.MethodName)) ∈ lw_good := lw_goodC6 207 rfl rfl
theorem wd_1408 : (Jvm.Cond.code ({ cls := "PennyQueueModel", name := "slow", desc := "(II)I" } : Jvm.MethodName) prog_14_method_56_code (4 : Nat) (Option.some Jvm.ClassFile.FieldType.int)) ∈ lw_good := lw_goodC6 208 rfl rfl
theorem wd_1409 : (Jvm.Cond.constant "PennyQueueModel" (344 : Nat) (-100001 : Int32)) ∈ lw_good := lw_goodC6 209 rfl rfl
theorem wd_1410 : (Jvm.Cond.constant "PennyQueueModel" (345 : Nat) (-100002 : Int32)) ∈ lw_good := lw_goodC6 210 rfl rfl
theorem wd_1411 : (Jvm.Cond.methodLink "PennyQueueLaw" (93 : Nat) ({ cls := "PennyQueueModel", name := "early", desc := "(III)I" } : Jvm.MethodName)) ∈ lw_good := lw_goodC6 211 rfl rfl
theorem wd_1412 : (Jvm.Cond.instanceMethod ({ cls := "PennyQueueModel", name := "early", desc := "(III)I" } : Jvm.MethodName)) ∈ lw_good := lw_goodC6 212 rfl rfl
theorem wd_1413 : (Jvm.Cond.selects "PennyQueueModel" ({ cls := "PennyQueueModel", name := "early", desc := "(III)I" } : Jvm.MethodName) ({ cls := "PennyQueueModel", name := "early", desc := "(III)I" } : Jvm.MethodName)) ∈ lw_good := lw_goodC6 213 rfl rfl
theorem wd_1414 : (Jvm.Cond.code ({ cls := "PennyQueueModel", name := "early", desc := "(III)I" } : Jvm.MethodName) prog_14_method_57_code (8 : Nat) (Option.some Jvm.ClassFile.FieldType.int)) ∈ lw_good := lw_goodC6 214 rfl rfl
theorem wd_1415 : (Jvm.Cond.methodLink "PennyQueueLaw" (97 : Nat) ({ cls := "PennyQueueModel", name := "sell", desc := "(I)I" } : Jvm.MethodName)) ∈ lw_good := lw_goodC6 215 rfl rfl
theorem wd_1416 : (Jvm.Cond.instanceMethod ({ cls := "PennyQueueModel", name := "sell", desc := "(I)I" } : Jvm.MethodName)) ∈ lw_good := lw_goodC6 216 rfl rfl
theorem wd_1417 : (Jvm.Cond.selects "PennyQueueModel" ({ cls := "PennyQueueModel", name := "sell", desc := "(I)I" } : Jvm.MethodName) ({ cls := "PennyQueueModel", name := "sell", desc := "(I)I" } : Jvm.MethodName)) ∈ lw_good := lw_goodC6 217 rfl rfl
theorem wd_1418 : (Jvm.Cond.code ({ cls := "PennyQueueModel", name := "sell", desc := "(I)I" } : Jvm.MethodName) prog_14_method_58_code (6 : Nat) (Option.some Jvm.ClassFile.FieldType.int)) ∈ lw_good := lw_goodC6 218 rfl rfl
theorem wd_1419 : (Jvm.Cond.methodLink "PennyQueueLaw" (102 : Nat) ({ cls := "PennyQueueModel", name := "mean", desc := "(II)J" } : Jvm.MethodName)) ∈ lw_good := lw_goodC6 219 rfl rfl
theorem wd_1420 : (Jvm.Cond.instanceMethod ({ cls := "PennyQueueModel", name := "mean", desc := "(II)J" } : Jvm.MethodName)) ∈ lw_good := lw_goodC6 220 rfl rfl
theorem wd_1421 : (Jvm.Cond.selects "PennyQueueModel" ({ cls := "PennyQueueModel", name := "mean", desc := "(II)J" } : Jvm.MethodName) ({ cls := "PennyQueueModel", name := "mean", desc := "(II)J" } : Jvm.MethodName)) ∈ lw_good := lw_goodC6 221 rfl rfl
theorem wd_1422 : (Jvm.Cond.code ({ cls := "PennyQueueModel", name := "mean", desc := "(II)J" } : Jvm.MethodName) prog_14_method_60_code (11 : Nat) (Option.some Jvm.ClassFile.FieldType.long)) ∈ lw_good := lw_goodC6 222 rfl rfl
theorem wd_1423 : (Jvm.Cond.constantLong "PennyQueueModel" (346 : Nat) (-9223372036854775808 : Int64)) ∈ lw_good := lw_goodC6 223 rfl rfl
theorem wd_1424 : (Jvm.Cond.constantLong "PennyQueueModel" (348 : Nat) (10 : Int64)) ∈ lw_good := lw_goodC6 224 rfl rfl
theorem wd_1425 : (Jvm.Cond.methodLink "PennyQueueModel" (350 : Nat) ({ cls := "PennyQueueModel", name := "divisor", desc := "(JJ)J" } : Jvm.MethodName)) ∈ lw_good := lw_goodC6 225 rfl rfl
theorem wd_1427 : (Jvm.Cond.instanceMethod ({ cls := "PennyQueueModel", name := "divisor", desc := "(JJ)J" } : Jvm.MethodName)) ∈ lw_good := lw_goodC6 227 rfl rfl
theorem wd_1428 : (Jvm.Cond.code ({ cls := "PennyQueueModel", name := "divisor", desc := "(JJ)J" } : Jvm.MethodName) prog_14_method_59_code (11 : Nat) (Option.some Jvm.ClassFile.FieldType.long)) ∈ lw_good := lw_goodC6 228 rfl rfl
theorem wd_1429 : (Jvm.Cond.methodLink "PennyQueueLaw" (106 : Nat) ({ cls := "PennyQueueModel", name := "judge", desc := "(IIII)I" } : Jvm.MethodName)) ∈ lw_good := lw_goodC6 229 rfl rfl
theorem wd_1430 : (Jvm.Cond.instanceMethod ({ cls := "PennyQueueModel", name := "judge", desc := "(IIII)I" } : Jvm.MethodName)) ∈ lw_good := lw_goodC6 230 rfl rfl
theorem wd_1431 : (Jvm.Cond.selects "PennyQueueModel" ({ cls := "PennyQueueModel", name := "judge", desc := "(IIII)I" } : Jvm.MethodName) ({ cls := "PennyQueueModel", name := "judge", desc := "(IIII)I" } : Jvm.MethodName)) ∈ lw_good := lw_goodC6 231 rfl rfl
theorem wd_1432 : (Jvm.Cond.code ({ cls := "PennyQueueModel", name := "judge", desc := "(IIII)I" } : Jvm.MethodName) prog_14_method_61_code (6 : Nat) (Option.some Jvm.ClassFile.FieldType.int)) ∈ lw_good := lw_goodC6 232 rfl rfl
theorem wd_1433 : (Jvm.Cond.methodLink "PennyQueueModel" (354 : Nat) ({ cls := "PennyQueueModel", name := "isTape", desc := "(I)Z" } : Jvm.MethodName)) ∈ lw_good := lw_goodC6 233 rfl rfl
theorem wd_1435 : (Jvm.Cond.instanceMethod ({ cls := "PennyQueueModel", name := "isTape", desc := "(I)Z" } : Jvm.MethodName)) ∈ lw_good := lw_goodC6 235 rfl rfl
theorem wd_1436 : (Jvm.Cond.code ({ cls := "PennyQueueModel", name := "isTape", desc := "(I)Z" } : Jvm.MethodName) prog_14_method_76_code (2 : Nat) (Option.some Jvm.ClassFile.FieldType.boolean)) ∈ lw_good := lw_goodC6 236 rfl rfl
theorem wd_1437 : (Jvm.Cond.methodLink "PennyQueueLaw" (110 : Nat) ({ cls := "PennyQueueModel", name := "image", desc := "()I" } : Jvm.MethodName)) ∈ lw_good := lw_goodC6 237 rfl rfl
theorem wd_1438 : (Jvm.Cond.instanceMethod ({ cls := "PennyQueueModel", name := "image", desc := "()I" } : Jvm.MethodName)) ∈ lw_good := lw_goodC6 238 rfl rfl
theorem wd_1439 : (Jvm.Cond.selects "PennyQueueModel" ({ cls := "PennyQueueModel", name := "image", desc := "()I" } : Jvm.MethodName) ({ cls := "PennyQueueModel", name := "image", desc := "()I" } : Jvm.MethodName)) ∈ lw_good := lw_goodC6 239 rfl rfl
theorem wd_1440 : (Jvm.Cond.code ({ cls := "PennyQueueModel", name := "image", desc := "()I" } : Jvm.MethodName) prog_14_method_62_code (2 : Nat) (Option.some Jvm.ClassFile.FieldType.int)) ∈ lw_good := lw_goodC7 0 rfl rfl
theorem wd_1441 : (Jvm.Cond.methodLink "PennyQueueLaw" (114 : Nat) ({ cls := "PennyQueueModel", name := "undo", desc := "()I" } : Jvm.MethodName)) ∈ lw_good := lw_goodC7 1 rfl rfl
theorem wd_1442 : (Jvm.Cond.instanceMethod ({ cls := "PennyQueueModel", name := "undo", desc := "()I" } : Jvm.MethodName)) ∈ lw_good := lw_goodC7 2 rfl rfl
theorem wd_1443 : (Jvm.Cond.selects "PennyQueueModel" ({ cls := "PennyQueueModel", name := "undo", desc := "()I" } : Jvm.MethodName) ({ cls := "PennyQueueModel", name := "undo", desc := "()I" } : Jvm.MethodName)) ∈ lw_good := lw_goodC7 3 rfl rfl
theorem wd_1444 : (Jvm.Cond.code ({ cls := "PennyQueueModel", name := "undo", desc := "()I" } : Jvm.MethodName) prog_14_method_63_code (2 : Nat) (Option.some Jvm.ClassFile.FieldType.int)) ∈ lw_good := lw_goodC7 4 rfl rfl
theorem wd_1445 : (Jvm.Cond.methodLink "PennyQueueLaw" (118 : Nat) ({ cls := "PennyQueueModel", name := "act", desc := "(III)I" } : Jvm.MethodName)) ∈ lw_good := lw_goodC7 5 rfl rfl
theorem wd_1446 : (Jvm.Cond.instanceMethod ({ cls := "PennyQueueModel", name := "act", desc := "(III)I" } : Jvm.MethodName)) ∈ lw_good := lw_goodC7 6 rfl rfl
theorem wd_1447 : (Jvm.Cond.selects "PennyQueueModel" ({ cls := "PennyQueueModel", name := "act", desc := "(III)I" } : Jvm.MethodName) ({ cls := "PennyQueueModel", name := "act", desc := "(III)I" } : Jvm.MethodName)) ∈ lw_good := lw_goodC7 7 rfl rfl
theorem wd_1448 : (Jvm.Cond.code ({ cls := "PennyQueueModel", name := "act", desc := "(III)I" } : Jvm.MethodName) prog_14_method_72_code (4 : Nat) (Option.some Jvm.ClassFile.FieldType.int)) ∈ lw_good := lw_goodC7 8 rfl rfl
theorem wd_1449 : (Jvm.Cond.methodLink "PennyQueueModel" (363 : Nat) ({ cls := "PennyQueueModel", name := "joinsAct", desc := "(II)I" } : Jvm.MethodName)) ∈ lw_good := lw_goodC7 9 rfl rfl
theorem wd_1451 : (Jvm.Cond.instanceMethod ({ cls := "PennyQueueModel", name := "joinsAct", desc := "(II)I" } : Jvm.MethodName)) ∈ lw_good := lw_goodC7 11 rfl rfl
theorem wd_1452 : (Jvm.Cond.code ({ cls := "PennyQueueModel", name := "joinsAct", desc := "(II)I" } : Jvm.MethodName) prog_14_method_66_code (3 : Nat) (Option.some Jvm.ClassFile.FieldType.int)) ∈ lw_good := lw_goodC7 12 rfl rfl
theorem wd_1453 : (Jvm.Cond.methodLink "PennyQueueModel" (357 : Nat) ({ cls := "PennyQueueModel", name := "body", desc := "(I)V" } : Jvm.MethodName)) ∈ lw_good := lw_goodC7 13 rfl rfl
theorem wd_1455 : (Jvm.Cond.instanceMethod ({ cls := "PennyQueueModel", name := "body", desc := "(I)V" } : Jvm.MethodName)) ∈ lw_good := lw_goodC7 15 rfl rfl
theorem wd_1456 : (Jvm.Cond.code ({ cls := "PennyQueueModel", name := "body", desc := "(I)V" } : Jvm.MethodName) prog_14_method_64_code (2 : Nat) (Option.none : Option Jvm.ClassFile.FieldType)) ∈ lw_good := lw_goodC7 16 rfl rfl
theorem wd_1457 : (Jvm.Cond.methodLink "PennyQueueModel" (360 : Nat) ({ cls := "PennyQueueModel", name := "plainJoins", desc := "(II)I" } : Jvm.MethodName)) ∈ lw_good := lw_goodC7 17 rfl rfl
theorem wd_1459 : (Jvm.Cond.instanceMethod ({ cls := "PennyQueueModel", name := "plainJoins", desc := "(II)I" } : Jvm.MethodName)) ∈ lw_good := lw_goodC7 19 rfl rfl
theorem wd_1460 : (Jvm.Cond.code ({ cls := "PennyQueueModel", name := "plainJoins", desc := "(II)I" } : Jvm.MethodName) prog_14_method_65_code (3 : Nat) (Option.some Jvm.ClassFile.FieldType.int)) ∈ lw_good := lw_goodC7 20 rfl rfl
theorem wd_1461 : (Jvm.Cond.methodLink "PennyQueueModel" (372 : Nat) ({ cls := "PennyQueueModel", name := "takesAct", desc := "(II)I" } : Jvm.MethodName)) ∈ lw_good := lw_goodC7 21 rfl rfl
theorem wd_1463 : (Jvm.Cond.instanceMethod ({ cls := "PennyQueueModel", name := "takesAct", desc := "(II)I" } : Jvm.MethodName)) ∈ lw_good := lw_goodC7 23 rfl rfl
theorem wd_1464 : (Jvm.Cond.code ({ cls := "PennyQueueModel", name := "takesAct", desc := "(II)I" } : Jvm.MethodName) prog_14_method_69_code (4 : Nat) (Option.some Jvm.ClassFile.FieldType.int)) ∈ lw_good := lw_goodC7 24 rfl rfl
theorem wd_1465 : (Jvm.Cond.methodLink "PennyQueueModel" (369 : Nat) ({ cls := "PennyQueueModel", name := "firstTakes", desc := "(II)I" } : Jvm.MethodName)) ∈ lw_good := lw_goodC7 25 rfl rfl
theorem wd_1467 : (Jvm.Cond.instanceMethod ({ cls := "PennyQueueModel", name := "firstTakes", desc := "(II)I" } : Jvm.MethodName)) ∈ lw_good := lw_goodC7 27 rfl rfl
theorem wd_1468 : (Jvm.Cond.code ({ cls := "PennyQueueModel", name := "firstTakes", desc := "(II)I" } : Jvm.MethodName) prog_14_method_68_code (3 : Nat) (Option.some Jvm.ClassFile.FieldType.int)) ∈ lw_good := lw_goodC7 28 rfl rfl
theorem wd_1469 : (Jvm.Cond.methodLink "PennyQueueModel" (366 : Nat) ({ cls := "PennyQueueModel", name := "plainTakes", desc := "(II)I" } : Jvm.MethodName)) ∈ lw_good := lw_goodC7 29 rfl rfl
theorem wd_1471 : (Jvm.Cond.instanceMethod ({ cls := "PennyQueueModel", name := "plainTakes", desc := "(II)I" } : Jvm.MethodName)) ∈ lw_good := lw_goodC7 31 rfl rfl
theorem wd_1472 : (Jvm.Cond.code ({ cls := "PennyQueueModel", name := "plainTakes", desc := "(II)I" } : Jvm.MethodName) prog_14_method_67_code (3 : Nat) (Option.some Jvm.ClassFile.FieldType.int)) ∈ lw_good := lw_goodC7 32 rfl rfl
theorem wd_1473 : (Jvm.Cond.methodLink "PennyQueueModel" (378 : Nat) ({ cls := "PennyQueueModel", name := "tellsAct", desc := "(II)I" } : Jvm.MethodName)) ∈ lw_good := lw_goodC7 33 rfl rfl
theorem wd_1475 : (Jvm.Cond.instanceMethod ({ cls := "PennyQueueModel", name := "tellsAct", desc := "(II)I" } : Jvm.MethodName)) ∈ lw_good := lw_goodC7 35 rfl rfl
theorem wd_1476 : (Jvm.Cond.code ({ cls := "PennyQueueModel", name := "tellsAct", desc := "(II)I" } : Jvm.MethodName) prog_14_method_71_code (4 : Nat) (Option.some Jvm.ClassFile.FieldType.int)) ∈ lw_good := lw_goodC7 36 rfl rfl
theorem wd_1477 : (Jvm.Cond.methodLink "PennyQueueModel" (375 : Nat) ({ cls := "PennyQueueModel", name := "plainTells", desc := "(II)I" } : Jvm.MethodName)) ∈ lw_good := lw_goodC7 37 rfl rfl
theorem wd_1479 : (Jvm.Cond.instanceMethod ({ cls := "PennyQueueModel", name := "plainTells", desc := "(II)I" } : Jvm.MethodName)) ∈ lw_good := lw_goodC7 39 rfl rfl
theorem wd_1480 : (Jvm.Cond.code ({ cls := "PennyQueueModel", name := "plainTells", desc := "(II)I" } : Jvm.MethodName) prog_14_method_70_code (3 : Nat) (Option.some Jvm.ClassFile.FieldType.int)) ∈ lw_good := lw_goodC7 40 rfl rfl
theorem wd_1481 : (Jvm.Cond.methodLink "PennyQueueLaw" (122 : Nat) ({ cls := "PennyQueueModel", name := "trace", desc := "(I)I" } : Jvm.MethodName)) ∈ lw_good := lw_goodC7 41 rfl rfl
theorem wd_1482 : (Jvm.Cond.instanceMethod ({ cls := "PennyQueueModel", name := "trace", desc := "(I)I" } : Jvm.MethodName)) ∈ lw_good := lw_goodC7 42 rfl rfl
theorem wd_1483 : (Jvm.Cond.selects "PennyQueueModel" ({ cls := "PennyQueueModel", name := "trace", desc := "(I)I" } : Jvm.MethodName) ({ cls := "PennyQueueModel", name := "trace", desc := "(I)I" } : Jvm.MethodName)) ∈ lw_good := lw_goodC7 43 rfl rfl
theorem wd_1484 : (Jvm.Cond.code ({ cls := "PennyQueueModel", name := "trace", desc := "(I)I" } : Jvm.MethodName) prog_14_method_73_code (2 : Nat) (Option.some Jvm.ClassFile.FieldType.int)) ∈ lw_good := lw_goodC7 44 rfl rfl
theorem wd_1485 : (Jvm.Cond.methodLink "PennyQueueLaw" (126 : Nat) ({ cls := "PennyQueueModel", name := "taken", desc := "(II)I" } : Jvm.MethodName)) ∈ lw_good := lw_goodC7 45 rfl rfl
theorem wd_1486 : (Jvm.Cond.instanceMethod ({ cls := "PennyQueueModel", name := "taken", desc := "(II)I" } : Jvm.MethodName)) ∈ lw_good := lw_goodC7 46 rfl rfl
theorem wd_1487 : (Jvm.Cond.selects "PennyQueueModel" ({ cls := "PennyQueueModel", name := "taken", desc := "(II)I" } : Jvm.MethodName) ({ cls := "PennyQueueModel", name := "taken", desc := "(II)I" } : Jvm.MethodName)) ∈ lw_good := lw_goodC7 47 rfl rfl
theorem wd_1488 : (Jvm.Cond.code ({ cls := "PennyQueueModel", name := "taken", desc := "(II)I" } : Jvm.MethodName) prog_14_method_74_code (4 : Nat) (Option.some Jvm.ClassFile.FieldType.int)) ∈ lw_good := lw_goodC7 48 rfl rfl
theorem wd_1489 : (Jvm.Cond.methodLink "PennyQueueLaw" (130 : Nat) ({ cls := "PennyQueueModel", name := "count", desc := "(I)I" } : Jvm.MethodName)) ∈ lw_good := lw_goodC7 49 rfl rfl
theorem wd_1490 : (Jvm.Cond.instanceMethod ({ cls := "PennyQueueModel", name := "count", desc := "(I)I" } : Jvm.MethodName)) ∈ lw_good := lw_goodC7 50 rfl rfl
theorem wd_1491 : (Jvm.Cond.selects "PennyQueueModel" ({ cls := "PennyQueueModel", name := "count", desc := "(I)I" } : Jvm.MethodName) ({ cls := "PennyQueueModel", name := "count", desc := "(I)I" } : Jvm.MethodName)) ∈ lw_good := lw_goodC7 51 rfl rfl
theorem wd_1492 : (Jvm.Cond.code ({ cls := "PennyQueueModel", name := "count", desc := "(I)I" } : Jvm.MethodName) prog_14_method_75_code (2 : Nat) (Option.some Jvm.ClassFile.FieldType.int)) ∈ lw_good := lw_goodC7 52 rfl rfl
theorem wd_1493 : (Jvm.Cond.methodLink "PennyQueueLaw" (134 : Nat) ({ cls := "PennyQueueModel", name := "tape", desc := "(III)I" } : Jvm.MethodName)) ∈ lw_good := lw_goodC7 53 rfl rfl
theorem wd_1494 : (Jvm.Cond.instanceMethod ({ cls := "PennyQueueModel", name := "tape", desc := "(III)I" } : Jvm.MethodName)) ∈ lw_good := lw_goodC7 54 rfl rfl
theorem wd_1495 : (Jvm.Cond.selects "PennyQueueModel" ({ cls := "PennyQueueModel", name := "tape", desc := "(III)I" } : Jvm.MethodName) ({ cls := "PennyQueueModel", name := "tape", desc := "(III)I" } : Jvm.MethodName)) ∈ lw_good := lw_goodC7 55 rfl rfl
theorem wd_1496 : (Jvm.Cond.code ({ cls := "PennyQueueModel", name := "tape", desc := "(III)I" } : Jvm.MethodName) prog_14_method_77_code (5 : Nat) (Option.some Jvm.ClassFile.FieldType.int)) ∈ lw_good := lw_goodC7 56 rfl rfl
theorem wd_1497 : (Jvm.Cond.methodLink "PennyQueueLaw" (141 : Nat) ({ cls := "PennyQueueModel", name := "item", desc := "(IIJ)I" } : Jvm.MethodName)) ∈ lw_good := lw_goodC7 57 rfl rfl
theorem wd_1498 : (Jvm.Cond.instanceMethod ({ cls := "PennyQueueModel", name := "item", desc := "(IIJ)I" } : Jvm.MethodName)) ∈ lw_good := lw_goodC7 58 rfl rfl
theorem wd_1499 : (Jvm.Cond.selects "PennyQueueModel" ({ cls := "PennyQueueModel", name := "item", desc := "(IIJ)I" } : Jvm.MethodName) ({ cls := "PennyQueueModel", name := "item", desc := "(IIJ)I" } : Jvm.MethodName)) ∈ lw_good := lw_goodC7 59 rfl rfl
theorem wd_1500 : (Jvm.Cond.code ({ cls := "PennyQueueModel", name := "item", desc := "(IIJ)I" } : Jvm.MethodName) prog_14_method_79_code (5 : Nat) (Option.some Jvm.ClassFile.FieldType.int)) ∈ lw_good := lw_goodC7 60 rfl rfl
theorem wd_1501 : (Jvm.Cond.methodLink "PennyQueueModel" (381 : Nat) ({ cls := "PennyQueueModel", name := "narrow", desc := "(IJ)J" } : Jvm.MethodName)) ∈ lw_good := lw_goodC7 61 rfl rfl
theorem wd_1503 : (Jvm.Cond.instanceMethod ({ cls := "PennyQueueModel", name := "narrow", desc := "(IJ)J" } : Jvm.MethodName)) ∈ lw_good := lw_goodC7 63 rfl rfl
theorem wd_1504 : (Jvm.Cond.code ({ cls := "PennyQueueModel", name := "narrow", desc := "(IJ)J" } : Jvm.MethodName) prog_14_method_78_code (4 : Nat) (Option.some Jvm.ClassFile.FieldType.long)) ∈ lw_good := lw_goodC7 64 rfl rfl
theorem wd_1505 : (Jvm.Cond.methodLink "PennyQueueLaw" (145 : Nat) ({ cls := "PennyQueueModel", name := "read", desc := "(II)J" } : Jvm.MethodName)) ∈ lw_good := lw_goodC7 65 rfl rfl
theorem wd_1506 : (Jvm.Cond.instanceMethod ({ cls := "PennyQueueModel", name := "read", desc := "(II)J" } : Jvm.MethodName)) ∈ lw_good := lw_goodC7 66 rfl rfl
theorem wd_1507 : (Jvm.Cond.selects "PennyQueueModel" ({ cls := "PennyQueueModel", name := "read", desc := "(II)J" } : Jvm.MethodName) ({ cls := "PennyQueueModel", name := "read", desc := "(II)J" } : Jvm.MethodName)) ∈ lw_good := lw_goodC7 67 rfl rfl
theorem wd_1508 : (Jvm.Cond.code ({ cls := "PennyQueueModel", name := "read", desc := "(II)J" } : Jvm.MethodName) prog_14_method_80_code (3 : Nat) (Option.some Jvm.ClassFile.FieldType.long)) ∈ lw_good := lw_goodC7 68 rfl rfl
theorem wd_1509 : (Jvm.Cond.methodLink "PennyQueueLaw" (150 : Nat) ({ cls := "PennyQueueModel", name := "shift", desc := "(IIIII)I" } : Jvm.MethodName)) ∈ lw_good := lw_goodC7 69 rfl rfl
theorem wd_1510 : (Jvm.Cond.instanceMethod ({ cls := "PennyQueueModel", name := "shift", desc := "(IIIII)I" } : Jvm.MethodName)) ∈ lw_good := lw_goodC7 70 rfl rfl
theorem wd_1511 : (Jvm.Cond.selects "PennyQueueModel" ({ cls := "PennyQueueModel", name := "shift", desc := "(IIIII)I" } : Jvm.MethodName) ({ cls := "PennyQueueModel", name := "shift", desc := "(IIIII)I" } : Jvm.MethodName)) ∈ lw_good := lw_goodC7 71 rfl rfl
theorem wd_1512 : (Jvm.Cond.code ({ cls := "PennyQueueModel", name := "shift", desc := "(IIIII)I" } : Jvm.MethodName) prog_14_method_81_code (7 : Nat) (Option.some Jvm.ClassFile.FieldType.int)) ∈ lw_good := lw_goodC7 72 rfl rfl
theorem wd_1513 : (Jvm.Cond.constantLong "PennyQueueLaw" (135 : Nat) (4294967295 : Int64)) ∈ lw_good := lw_goodC7 73 rfl rfl
theorem wd_1514 : (Jvm.Cond.sameMethod "PennyQueue$Order" "PennyQueue$Order" "began" "(I)V") ∈ lw_good := lw_goodC7 74 rfl rfl
theorem wd_1515 : (Jvm.Cond.selects "PennyQueue$First" ({ cls := "PennyQueue$Order", name := "began", desc := "(I)V" } : Jvm.MethodName) ({ cls := "PennyQueue$Order", name := "began", desc := "(I)V" } : Jvm.MethodName)) ∈ lw_good := lw_goodC7 75 rfl rfl
theorem wd_1516 : (Jvm.Cond.selects "PennyQueue$Full" ({ cls := "PennyQueue$Order", name := "began", desc := "(I)V" } : Jvm.MethodName) ({ cls := "PennyQueue$Order", name := "began", desc := "(I)V" } : Jvm.MethodName)) ∈ lw_good := lw_goodC7 76 rfl rfl
theorem wd_1517 : (Jvm.Cond.selects "PennyQueue$Length" ({ cls := "PennyQueue$Order", name := "began", desc := "(I)V" } : Jvm.MethodName) ({ cls := "PennyQueue$Order", name := "began", desc := "(I)V" } : Jvm.MethodName)) ∈ lw_good := lw_goodC7 77 rfl rfl
theorem wd_1518 : (Jvm.Cond.selects "PennyQueue$Order" ({ cls := "PennyQueue$Order", name := "began", desc := "(I)V" } : Jvm.MethodName) ({ cls := "PennyQueue$Order", name := "began", desc := "(I)V" } : Jvm.MethodName)) ∈ lw_good := lw_goodC7 78 rfl rfl
theorem wd_1519 : (Jvm.Cond.selects "PennyQueue$Poor" ({ cls := "PennyQueue$Order", name := "began", desc := "(I)V" } : Jvm.MethodName) ({ cls := "PennyQueue$Order", name := "began", desc := "(I)V" } : Jvm.MethodName)) ∈ lw_good := lw_goodC7 79 rfl rfl
theorem wd_1520 : (Jvm.Cond.selects "PennyQueue$Share" ({ cls := "PennyQueue$Order", name := "began", desc := "(I)V" } : Jvm.MethodName) ({ cls := "PennyQueue$Order", name := "began", desc := "(I)V" } : Jvm.MethodName)) ∈ lw_good := lw_goodC7 80 rfl rfl
theorem wd_1521 : (Jvm.Cond.selects "PennyQueue$Told" ({ cls := "PennyQueue$Order", name := "began", desc := "(I)V" } : Jvm.MethodName) ({ cls := "PennyQueue$Order", name := "began", desc := "(I)V" } : Jvm.MethodName)) ∈ lw_good := lw_goodC7 81 rfl rfl
theorem wd_1522 : (Jvm.Cond.sameMethod "PennyQueue$First" "PennyQueue$First" "takes" "(I)I") ∈ lw_good := lw_goodC7 82 rfl rfl
theorem wd_1532 : (Jvm.Cond.fieldLink "java/lang/String" (9 : Nat) "java/lang/String" "value" "[B") ∈ lw_good := lw_goodC7 92 rfl rfl
theorem wd_1533 : (Jvm.Cond.fieldLink "java/lang/String" (15 : Nat) "java/lang/String" "coder" "B") ∈ lw_good := lw_goodC7 93 rfl rfl
theorem ws_0 : Cond.selects "PennyQueue" (⟨"PennyQueue", "noSort", "(I)Z"⟩ : MethodName) (⟨"PennyQueue", "noSort", "(I)Z"⟩ : MethodName) ∈ lw_good := lw_goodS 0 rfl rfl
theorem ws_1 : Cond.selects "PennyQueue$Window" (⟨"PennyQueue$Window", "skip", "(C)Z"⟩ : MethodName) (⟨"PennyQueue$Window", "skip", "(C)Z"⟩ : MethodName) ∈ lw_good := lw_goodS 1 rfl rfl
theorem ws_2 : Cond.selects "PennyQueue$Window" (⟨"PennyQueue$Window", "comeClause", "()Z"⟩ : MethodName) (⟨"PennyQueue$Window", "comeClause", "()Z"⟩ : MethodName) ∈ lw_good := lw_goodS 2 rfl rfl
theorem ws_3 : Cond.selects "PennyQueue$Window" (⟨"PennyQueue$Window", "word", "(Ljava/lang/String;)Z"⟩ : MethodName) (⟨"PennyQueue$Window", "word", "(Ljava/lang/String;)Z"⟩ : MethodName) ∈ lw_good := lw_goodS 3 rfl rfl
theorem ws_4 : Cond.selects "PennyQueue$Window" (⟨"PennyQueue$Window", "digit", "()I"⟩ : MethodName) (⟨"PennyQueue$Window", "digit", "()I"⟩ : MethodName) ∈ lw_good := lw_goodS 4 rfl rfl
theorem ws_5 : Cond.selects "PennyQueue$Window" (⟨"PennyQueue$Window", "either", "(I)Z"⟩ : MethodName) (⟨"PennyQueue$Window", "either", "(I)Z"⟩ : MethodName) ∈ lw_good := lw_goodS 5 rfl rfl
theorem ws_6 : Cond.selects "PennyQueue$Window" (⟨"PennyQueue$Window", "both", "(I)Z"⟩ : MethodName) (⟨"PennyQueue$Window", "both", "(I)Z"⟩ : MethodName) ∈ lw_good := lw_goodS 6 rfl rfl
theorem ws_7 : Cond.selects "PennyQueue$Window" (⟨"PennyQueue$Window", "factor", "(I)Z"⟩ : MethodName) (⟨"PennyQueue$Window", "factor", "(I)Z"⟩ : MethodName) ∈ lw_good := lw_goodS 7 rfl rfl
theorem ws_8 : Cond.selects "PennyQueue$Window" (⟨"PennyQueue$Window", "step", "(I)V"⟩ : MethodName) (⟨"PennyQueue$Window", "step", "(I)V"⟩ : MethodName) ∈ lw_good := lw_goodS 8 rfl rfl
theorem ws_9 : Cond.selects "PennyQueue$Window" (⟨"PennyQueue$Window", "test", "()Z"⟩ : MethodName) (⟨"PennyQueue$Window", "test", "()Z"⟩ : MethodName) ∈ lw_good := lw_goodS 9 rfl rfl
theorem ws_10 : Cond.selects "PennyQueue$Window" (⟨"PennyQueue$Window", "oneOf", "(Ljava/lang/String;)I"⟩ : MethodName) (⟨"PennyQueue$Window", "oneOf", "(Ljava/lang/String;)I"⟩ : MethodName) ∈ lw_good := lw_goodS 10 rfl rfl
theorem ws_11 : Cond.selects "PennyQueue$Window" (⟨"PennyQueue$Window", "number", "()I"⟩ : MethodName) (⟨"PennyQueue$Window", "number", "()I"⟩ : MethodName) ∈ lw_good := lw_goodS 11 rfl rfl
theorem ws_12 : Cond.selects "PennyQueue$Window" (⟨"PennyQueue$Window", "numberClause", "()Z"⟩ : MethodName) (⟨"PennyQueue$Window", "numberClause", "()Z"⟩ : MethodName) ∈ lw_good := lw_goodS 12 rfl rfl
theorem ws_13 : Cond.selects "PennyQueue$Window" (⟨"PennyQueue$Window", "numberWord", "()I"⟩ : MethodName) (⟨"PennyQueue$Window", "numberWord", "()I"⟩ : MethodName) ∈ lw_good := lw_goodS 13 rfl rfl
theorem ws_14 : Cond.selects "PennyQueue" (⟨"PennyQueue", "held", "()LPennyQueue$Window;"⟩ : MethodName) (⟨"PennyQueue", "held", "()LPennyQueue$Window;"⟩ : MethodName) ∈ lw_good := lw_goodS 14 rfl rfl
theorem ws_15 : Cond.selects "PennyQueue" (⟨"PennyQueue", "orderAt", "(I)LPennyQueue$Order;"⟩ : MethodName) (⟨"PennyQueue", "orderAt", "(I)LPennyQueue$Order;"⟩ : MethodName) ∈ lw_good := lw_goodS 15 rfl rfl
theorem ws_16 : Cond.selects "PennyQueue" (⟨"PennyQueue", "goThrough", "(LPennyQueue$Order;)V"⟩ : MethodName) (⟨"PennyQueue", "goThrough", "(LPennyQueue$Order;)V"⟩ : MethodName) ∈ lw_good := lw_goodS 16 rfl rfl
theorem ws_17 : Cond.selects "PennyQueue" (⟨"PennyQueue", "goThroughWith", "(LPennyQueue$Order;LPennyQueue$Day;II)V"⟩ : MethodName) (⟨"PennyQueue", "goThroughWith", "(LPennyQueue$Order;LPennyQueue$Day;II)V"⟩ : MethodName) ∈ lw_good := lw_goodS 17 rfl rfl
theorem ws_18 : Cond.selects "PennyQueue$Hour" (⟨"PennyQueue$Hour", "begin", "(LPennyQueue$Order;LPennyQueue$Window;II)V"⟩ : MethodName) (⟨"PennyQueue$Hour", "begin", "(LPennyQueue$Order;LPennyQueue$Window;II)V"⟩ : MethodName) ∈ lw_good := lw_goodS 18 rfl rfl
theorem ws_19 : Cond.selects "PennyQueue$Hour" (⟨"PennyQueue$Hour", "comeByHand", "(LPennyQueue$Day;)V"⟩ : MethodName) (⟨"PennyQueue$Hour", "comeByHand", "(LPennyQueue$Day;)V"⟩ : MethodName) ∈ lw_good := lw_goodS 19 rfl rfl
theorem ws_20 : Cond.selects "PennyQueue$Hour" (⟨"PennyQueue$Hour", "roomForMore", "()Z"⟩ : MethodName) (⟨"PennyQueue$Hour", "roomForMore", "()Z"⟩ : MethodName) ∈ lw_good := lw_goodS 20 rfl rfl
theorem ws_21 : Cond.selects "PennyQueue$Hour" (⟨"PennyQueue$Hour", "enter", "(I)V"⟩ : MethodName) (⟨"PennyQueue$Hour", "enter", "(I)V"⟩ : MethodName) ∈ lw_good := lw_goodS 21 rfl rfl
theorem ws_22 : Cond.selects "PennyQueue$Hour" (⟨"PennyQueue$Hour", "lineFor", "(II)I"⟩ : MethodName) (⟨"PennyQueue$Hour", "lineFor", "(II)I"⟩ : MethodName) ∈ lw_good := lw_goodS 22 rfl rfl
theorem ws_23 : Cond.selects "PennyQueue$Hour" (⟨"PennyQueue$Hour", "timeOf", "(I)I"⟩ : MethodName) (⟨"PennyQueue$Hour", "timeOf", "(I)I"⟩ : MethodName) ∈ lw_good := lw_goodS 23 rfl rfl
theorem ws_24 : Cond.selects "PennyQueue$Hour" (⟨"PennyQueue$Hour", "comeByText", "(I)V"⟩ : MethodName) (⟨"PennyQueue$Hour", "comeByText", "(I)V"⟩ : MethodName) ∈ lw_good := lw_goodS 24 rfl rfl
theorem ws_25 : Cond.selects "PennyQueue$Window" (⟨"PennyQueue$Window", "holds", "(IIIIII)Z"⟩ : MethodName) (⟨"PennyQueue$Window", "holds", "(IIIIII)Z"⟩ : MethodName) ∈ lw_good := lw_goodS 25 rfl rfl
theorem ws_26 : Cond.selects "PennyQueue$Hour" (⟨"PennyQueue$Hour", "serve", "()V"⟩ : MethodName) (⟨"PennyQueue$Hour", "serve", "()V"⟩ : MethodName) ∈ lw_good := lw_goodS 26 rfl rfl
theorem ws_27 : Cond.selects "PennyQueue$Hour" (⟨"PennyQueue$Hour", "firstOf", "(I)I"⟩ : MethodName) (⟨"PennyQueue$Hour", "firstOf", "(I)I"⟩ : MethodName) ∈ lw_good := lw_goodS 27 rfl rfl
theorem ws_28 : Cond.selects "PennyQueue" (⟨"PennyQueue", "chance", "(I)J"⟩ : MethodName) (⟨"PennyQueue", "chance", "(I)J"⟩ : MethodName) ∈ lw_good := lw_goodS 28 rfl rfl
theorem ws_29 : Cond.selects "PennyQueue" (⟨"PennyQueue", "tapeAt", "(I)LPennyQueue$Tape;"⟩ : MethodName) (⟨"PennyQueue", "tapeAt", "(I)LPennyQueue$Tape;"⟩ : MethodName) ∈ lw_good := lw_goodS 29 rfl rfl
theorem ws_30 : Cond.selects "PennyQueueModel" (⟨"PennyQueueModel", "in", "(III)Z"⟩ : MethodName) (⟨"PennyQueueModel", "in", "(III)Z"⟩ : MethodName) ∈ lw_good := lw_goodS 30 rfl rfl
theorem ws_31 : Cond.selects "PennyQueueModel" (⟨"PennyQueueModel", "isSort", "(I)Z"⟩ : MethodName) (⟨"PennyQueueModel", "isSort", "(I)Z"⟩ : MethodName) ∈ lw_good := lw_goodS 31 rfl rfl
theorem ws_32 : Cond.selects "PennyQueueModel" (⟨"PennyQueueModel", "goesText", "(I)Z"⟩ : MethodName) (⟨"PennyQueueModel", "goesText", "(I)Z"⟩ : MethodName) ∈ lw_good := lw_goodS 32 rfl rfl
theorem ws_33 : Cond.selects "PennyQueueModel" (⟨"PennyQueueModel", "takesClause", "(I)Z"⟩ : MethodName) (⟨"PennyQueueModel", "takesClause", "(I)Z"⟩ : MethodName) ∈ lw_good := lw_goodS 33 rfl rfl
theorem ws_34 : Cond.selects "PennyQueueModel" (⟨"PennyQueueModel", "third", "()I"⟩ : MethodName) (⟨"PennyQueueModel", "third", "()I"⟩ : MethodName) ∈ lw_good := lw_goodS 34 rfl rfl
theorem ws_35 : Cond.selects "PennyQueueModel" (⟨"PennyQueueModel", "next", "()I"⟩ : MethodName) (⟨"PennyQueueModel", "next", "()I"⟩ : MethodName) ∈ lw_good := lw_goodS 35 rfl rfl
theorem ws_36 : Cond.selects "PennyQueueModel" (⟨"PennyQueueModel", "takesWord", "(II)Z"⟩ : MethodName) (⟨"PennyQueueModel", "takesWord", "(II)Z"⟩ : MethodName) ∈ lw_good := lw_goodS 36 rfl rfl
theorem ws_37 : Cond.selects "PennyQueueModel" (⟨"PennyQueueModel", "takesSign", "(I)Z"⟩ : MethodName) (⟨"PennyQueueModel", "takesSign", "(I)Z"⟩ : MethodName) ∈ lw_good := lw_goodS 37 rfl rfl
theorem ws_38 : Cond.selects "PennyQueueModel" (⟨"PennyQueueModel", "takesE", "(I)Z"⟩ : MethodName) (⟨"PennyQueueModel", "takesE", "(I)Z"⟩ : MethodName) ∈ lw_good := lw_goodS 38 rfl rfl
theorem ws_39 : Cond.selects "PennyQueueModel" (⟨"PennyQueueModel", "takesTest", "()Z"⟩ : MethodName) (⟨"PennyQueueModel", "takesTest", "()Z"⟩ : MethodName) ∈ lw_good := lw_goodS 39 rfl rfl
theorem ws_40 : Cond.selects "PennyQueueModel" (⟨"PennyQueueModel", "place", "(I)I"⟩ : MethodName) (⟨"PennyQueueModel", "place", "(I)I"⟩ : MethodName) ∈ lw_good := lw_goodS 40 rfl rfl
theorem ws_41 : Cond.selects "PennyQueueModel" (⟨"PennyQueueModel", "takesNumber", "()Z"⟩ : MethodName) (⟨"PennyQueueModel", "takesNumber", "()Z"⟩ : MethodName) ∈ lw_good := lw_goodS 41 rfl rfl
theorem ws_42 : Cond.selects "PennyQueueModel" (⟨"PennyQueueModel", "isDigit", "()Z"⟩ : MethodName) (⟨"PennyQueueModel", "isDigit", "()Z"⟩ : MethodName) ∈ lw_good := lw_goodS 42 rfl rfl
theorem ws_43 : Cond.selects "PennyQueueModel" (⟨"PennyQueueModel", "put", "(I)V"⟩ : MethodName) (⟨"PennyQueueModel", "put", "(I)V"⟩ : MethodName) ∈ lw_good := lw_goodS 43 rfl rfl
theorem ws_44 : Cond.selects "PennyQueueModel" (⟨"PennyQueueModel", "whole", "()V"⟩ : MethodName) (⟨"PennyQueueModel", "whole", "()V"⟩ : MethodName) ∈ lw_good := lw_goodS 44 rfl rfl
theorem ws_45 : Cond.selects "PennyQueueModel" (⟨"PennyQueueModel", "settle", "(I)V"⟩ : MethodName) (⟨"PennyQueueModel", "settle", "(I)V"⟩ : MethodName) ∈ lw_good := lw_goodS 45 rfl rfl
theorem ws_46 : Cond.selects "PennyQueueModel" (⟨"PennyQueueModel", "last", "(III)I"⟩ : MethodName) (⟨"PennyQueueModel", "last", "(III)I"⟩ : MethodName) ∈ lw_good := lw_goodS 46 rfl rfl
theorem ws_47 : Cond.selects "PennyQueueModel" (⟨"PennyQueueModel", "first", "()I"⟩ : MethodName) (⟨"PennyQueueModel", "first", "()I"⟩ : MethodName) ∈ lw_good := lw_goodS 47 rfl rfl
theorem ws_48 : Cond.selects "PennyQueueModel" (⟨"PennyQueueModel", "behind", "()I"⟩ : MethodName) (⟨"PennyQueueModel", "behind", "()I"⟩ : MethodName) ∈ lw_good := lw_goodS 48 rfl rfl
theorem ws_49 : Cond.selects "PennyQueueModel" (⟨"PennyQueueModel", "min", "(II)I"⟩ : MethodName) (⟨"PennyQueueModel", "min", "(II)I"⟩ : MethodName) ∈ lw_good := lw_goodS 49 rfl rfl
theorem ws_50 : Cond.selects "PennyQueueModel" (⟨"PennyQueueModel", "isOrder", "(I)Z"⟩ : MethodName) (⟨"PennyQueueModel", "isOrder", "(I)Z"⟩ : MethodName) ∈ lw_good := lw_goodS 50 rfl rfl
theorem ws_51 : Cond.selects "PennyQueueModel" (⟨"PennyQueueModel", "goPlainly", "(I)V"⟩ : MethodName) (⟨"PennyQueueModel", "goPlainly", "(I)V"⟩ : MethodName) ∈ lw_good := lw_goodS 51 rfl rfl
theorem ws_52 : Cond.selects "PennyQueueModel" (⟨"PennyQueueModel", "go", "(IIII)V"⟩ : MethodName) (⟨"PennyQueueModel", "go", "(IIII)V"⟩ : MethodName) ∈ lw_good := lw_goodS 52 rfl rfl
theorem ws_53 : Cond.selects "PennyQueueModel" (⟨"PennyQueueModel", "standing", "(I)I"⟩ : MethodName) (⟨"PennyQueueModel", "standing", "(I)I"⟩ : MethodName) ∈ lw_good := lw_goodS 53 rfl rfl
theorem ws_54 : Cond.selects "PennyQueueModel" (⟨"PennyQueueModel", "joins", "(II)V"⟩ : MethodName) (⟨"PennyQueueModel", "joins", "(II)V"⟩ : MethodName) ∈ lw_good := lw_goodS 54 rfl rfl
theorem ws_55 : Cond.selects "PennyQueueModel" (⟨"PennyQueueModel", "choose", "(II)I"⟩ : MethodName) (⟨"PennyQueueModel", "choose", "(II)I"⟩ : MethodName) ∈ lw_good := lw_goodS 55 rfl rfl
theorem ws_56 : Cond.selects "PennyQueueModel" (⟨"PennyQueueModel", "timesIn", "(I)I"⟩ : MethodName) (⟨"PennyQueueModel", "timesIn", "(I)I"⟩ : MethodName) ∈ lw_good := lw_goodS 56 rfl rfl
theorem ws_57 : Cond.selects "PennyQueueModel" (⟨"PennyQueueModel", "timeOf", "(I)I"⟩ : MethodName) (⟨"PennyQueueModel", "timeOf", "(I)I"⟩ : MethodName) ∈ lw_good := lw_goodS 57 rfl rfl
theorem ws_58 : Cond.selects "PennyQueueModel" (⟨"PennyQueueModel", "comes", "(II)Z"⟩ : MethodName) (⟨"PennyQueueModel", "comes", "(II)Z"⟩ : MethodName) ∈ lw_good := lw_goodS 58 rfl rfl
theorem ws_59 : Cond.selects "PennyQueueModel" (⟨"PennyQueueModel", "holds", "(II)Z"⟩ : MethodName) (⟨"PennyQueueModel", "holds", "(II)Z"⟩ : MethodName) ∈ lw_good := lw_goodS 59 rfl rfl
theorem ws_60 : Cond.selects "PennyQueueModel" (⟨"PennyQueueModel", "takes", "(I)V"⟩ : MethodName) (⟨"PennyQueueModel", "takes", "(I)V"⟩ : MethodName) ∈ lw_good := lw_goodS 60 rfl rfl
theorem ws_61 : Cond.selects "PennyQueueModel" (⟨"PennyQueueModel", "nextLine", "(I)I"⟩ : MethodName) (⟨"PennyQueueModel", "nextLine", "(I)I"⟩ : MethodName) ∈ lw_good := lw_goodS 61 rfl rfl
theorem ws_62 : Cond.selects "PennyQueueModel" (⟨"PennyQueueModel", "isFirst", "(I)Z"⟩ : MethodName) (⟨"PennyQueueModel", "isFirst", "(I)Z"⟩ : MethodName) ∈ lw_good := lw_goodS 62 rfl rfl
theorem ws_63 : Cond.selects "PennyQueueModel" (⟨"PennyQueueModel", "inLine", "(I)I"⟩ : MethodName) (⟨"PennyQueueModel", "inLine", "(I)I"⟩ : MethodName) ∈ lw_good := lw_goodS 63 rfl rfl
theorem ws_64 : Cond.selects "PennyQueueModel" (⟨"PennyQueueModel", "lost", "()I"⟩ : MethodName) (⟨"PennyQueueModel", "lost", "()I"⟩ : MethodName) ∈ lw_good := lw_goodS 64 rfl rfl
theorem ws_65 : Cond.selects "PennyQueueModel" (⟨"PennyQueueModel", "pence", "()I"⟩ : MethodName) (⟨"PennyQueueModel", "pence", "()I"⟩ : MethodName) ∈ lw_good := lw_goodS 65 rfl rfl
theorem ws_66 : Cond.selects "PennyQueueModel" (⟨"PennyQueueModel", "lossOf", "(I)I"⟩ : MethodName) (⟨"PennyQueueModel", "lossOf", "(I)I"⟩ : MethodName) ∈ lw_good := lw_goodS 66 rfl rfl
theorem ws_67 : Cond.selects "PennyQueueModel" (⟨"PennyQueueModel", "divisor", "(JJ)J"⟩ : MethodName) (⟨"PennyQueueModel", "divisor", "(JJ)J"⟩ : MethodName) ∈ lw_good := lw_goodS 67 rfl rfl
theorem ws_68 : Cond.selects "PennyQueueModel" (⟨"PennyQueueModel", "isTape", "(I)Z"⟩ : MethodName) (⟨"PennyQueueModel", "isTape", "(I)Z"⟩ : MethodName) ∈ lw_good := lw_goodS 68 rfl rfl
theorem ws_69 : Cond.selects "PennyQueueModel" (⟨"PennyQueueModel", "joinsAct", "(II)I"⟩ : MethodName) (⟨"PennyQueueModel", "joinsAct", "(II)I"⟩ : MethodName) ∈ lw_good := lw_goodS 69 rfl rfl
theorem ws_70 : Cond.selects "PennyQueueModel" (⟨"PennyQueueModel", "body", "(I)V"⟩ : MethodName) (⟨"PennyQueueModel", "body", "(I)V"⟩ : MethodName) ∈ lw_good := lw_goodS 70 rfl rfl
theorem ws_71 : Cond.selects "PennyQueueModel" (⟨"PennyQueueModel", "plainJoins", "(II)I"⟩ : MethodName) (⟨"PennyQueueModel", "plainJoins", "(II)I"⟩ : MethodName) ∈ lw_good := lw_goodS 71 rfl rfl
theorem ws_72 : Cond.selects "PennyQueueModel" (⟨"PennyQueueModel", "takesAct", "(II)I"⟩ : MethodName) (⟨"PennyQueueModel", "takesAct", "(II)I"⟩ : MethodName) ∈ lw_good := lw_goodS 72 rfl rfl
theorem ws_73 : Cond.selects "PennyQueueModel" (⟨"PennyQueueModel", "firstTakes", "(II)I"⟩ : MethodName) (⟨"PennyQueueModel", "firstTakes", "(II)I"⟩ : MethodName) ∈ lw_good := lw_goodS 73 rfl rfl
theorem ws_74 : Cond.selects "PennyQueueModel" (⟨"PennyQueueModel", "plainTakes", "(II)I"⟩ : MethodName) (⟨"PennyQueueModel", "plainTakes", "(II)I"⟩ : MethodName) ∈ lw_good := lw_goodS 74 rfl rfl
theorem ws_75 : Cond.selects "PennyQueueModel" (⟨"PennyQueueModel", "tellsAct", "(II)I"⟩ : MethodName) (⟨"PennyQueueModel", "tellsAct", "(II)I"⟩ : MethodName) ∈ lw_good := lw_goodS 75 rfl rfl
theorem ws_76 : Cond.selects "PennyQueueModel" (⟨"PennyQueueModel", "plainTells", "(II)I"⟩ : MethodName) (⟨"PennyQueueModel", "plainTells", "(II)I"⟩ : MethodName) ∈ lw_good := lw_goodS 76 rfl rfl
theorem ws_77 : Cond.selects "PennyQueueModel" (⟨"PennyQueueModel", "narrow", "(IJ)J"⟩ : MethodName) (⟨"PennyQueueModel", "narrow", "(IJ)J"⟩ : MethodName) ∈ lw_good := lw_goodS 77 rfl rfl
