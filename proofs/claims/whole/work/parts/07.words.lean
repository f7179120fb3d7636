theorem jl_memR {ws : List Cond} (ps : List Nat) (hp : ws = ps.filterMap (fun i => lw_tbl[i]?)) (hg : ws.all goodWord = true) : ∀ w ∈ ws, w ∈ jl_tbl := by
  intro w hw
  have h1 := List.all_eq_true.mp hg w hw
  rw [hp] at hw
  obtain ⟨i, -, hi⟩ := List.mem_filterMap.mp hw
  exact jl_mem i hi h1
theorem jl_in0 {w : Cond} (h : w ∈ tables_1) : w ∈ lw_tbl := List.mem_append_right _ h
theorem jl_inT {w : Cond} (h : w ∈ tables_1) (g : goodWord w = true) : w ∈ jl_tbl := List.mem_filter.mpr ⟨jl_in0 h, g⟩
theorem jl_inN {w : Cond} (h : w ∈ tables_1) (g : jl_isN w = true) : w ∈ jl_nw := List.mem_filter.mpr ⟨jl_in0 h, g⟩
theorem jl_ch1 {w : Cond} (i : Nat) (h : tables_1_1[i]? = some w) : w ∈ tables_1 := have h := List.mem_of_getElem? h; List.mem_append_left _ h
theorem jl_ch2 {w : Cond} (i : Nat) (h : tables_1_2[i]? = some w) : w ∈ tables_1 := have h := List.mem_of_getElem? h; List.mem_append_right _ (List.mem_append_left _ h)
theorem jl_ch3 {w : Cond} (i : Nat) (h : tables_1_3[i]? = some w) : w ∈ tables_1 := have h := List.mem_of_getElem? h; List.mem_append_right _ (List.mem_append_right _ (List.mem_append_left _ h))
theorem jl_ch4 {w : Cond} (i : Nat) (h : tables_1_4[i]? = some w) : w ∈ tables_1 := have h := List.mem_of_getElem? h; List.mem_append_right _ (List.mem_append_right _ (List.mem_append_right _ (List.mem_append_left _ h)))
theorem jl_ch5 {w : Cond} (i : Nat) (h : tables_1_5[i]? = some w) : w ∈ tables_1 := have h := List.mem_of_getElem? h; List.mem_append_right _ (List.mem_append_right _ (List.mem_append_right _ (List.mem_append_right _ (List.mem_append_left _ h))))
theorem jl_ch6 {w : Cond} (i : Nat) (h : tables_1_6[i]? = some w) : w ∈ tables_1 := have h := List.mem_of_getElem? h; List.mem_append_right _ (List.mem_append_right _ (List.mem_append_right _ (List.mem_append_right _ (List.mem_append_right _ (List.mem_append_left _ h)))))
theorem jl_ch7 {w : Cond} (i : Nat) (h : tables_1_7[i]? = some w) : w ∈ tables_1 := have h := List.mem_of_getElem? h; List.mem_append_right _ (List.mem_append_right _ (List.mem_append_right _ (List.mem_append_right _ (List.mem_append_right _ (List.mem_append_right _ (List.mem_append_left _ h))))))
theorem jl_ch8 {w : Cond} (i : Nat) (h : tables_1_8[i]? = some w) : w ∈ tables_1 := have h := List.mem_of_getElem? h; List.mem_append_right _ (List.mem_append_right _ (List.mem_append_right _ (List.mem_append_right _ (List.mem_append_right _ (List.mem_append_right _ (List.mem_append_right _ (List.mem_append_left _ h)))))))
theorem jl_ch9 {w : Cond} (i : Nat) (h : tables_1_9[i]? = some w) : w ∈ tables_1 := have h := List.mem_of_getElem? h; List.mem_append_right _ (List.mem_append_right _ (List.mem_append_right _ (List.mem_append_right _ (List.mem_append_right _ (List.mem_append_right _ (List.mem_append_right _ (List.mem_append_right _ (h))))))))
theorem jw_0 : (Jvm.Cond.initialized "LieCandlesLaw") ∈ jl_tbl := jl_inT (jl_ch1 0 (by decide +kernel)) rfl
theorem jw_1 : (Jvm.Cond.initialized "LieCandles") ∈ jl_tbl := jl_inT (jl_ch1 1 (by decide +kernel)) rfl
theorem jw_2 : (Jvm.Cond.initialized "LieCandles$Tape") ∈ jl_tbl := jl_inT (jl_ch1 2 (by decide +kernel)) rfl
theorem jw_3 : (Jvm.Cond.initialized "LieCandles$Code") ∈ jl_tbl := jl_inT (jl_ch1 3 (by decide +kernel)) rfl
theorem jw_4 : (Jvm.Cond.initialized "LieCandles$Street") ∈ jl_tbl := jl_inT (jl_ch1 4 (by decide +kernel)) rfl
theorem jw_5 : (Jvm.Cond.initialized "LieCandles$Reader") ∈ jl_tbl := jl_inT (jl_ch1 5 (by decide +kernel)) rfl
theorem jw_6 : (Jvm.Cond.initialized "LieCandles$StreetReader") ∈ jl_tbl := jl_inT (jl_ch1 6 (by decide +kernel)) rfl
theorem jw_7 : (Jvm.Cond.initialized "LieCandles$State") ∈ jl_tbl := jl_inT (jl_ch1 7 (by decide +kernel)) rfl
theorem jw_8 : (Jvm.Cond.initialized "LieCandles$Log") ∈ jl_tbl := jl_inT (jl_ch1 8 (by decide +kernel)) rfl
theorem jw_9 : (Jvm.Cond.initialized "LieCandles$Past") ∈ jl_tbl := jl_inT (jl_ch1 9 (by decide +kernel)) rfl
theorem jw_10 : (Jvm.Cond.initialized "LieCandles$Reckoner") ∈ jl_tbl := jl_inT (jl_ch1 10 (by decide +kernel)) rfl
theorem jw_11 : (Jvm.Cond.initialized "LieCandles$Foresight") ∈ jl_tbl := jl_inT (jl_ch1 11 (by decide +kernel)) rfl
theorem jw_12 : (Jvm.Cond.initialized "LieCandles$Sight") ∈ jl_tbl := jl_inT (jl_ch1 12 (by decide +kernel)) rfl
theorem jw_13 : (Jvm.Cond.initialized "LieCandlesModel") ∈ jl_tbl := jl_inT (jl_ch1 13 (by decide +kernel)) rfl
theorem jw_14 : (Jvm.Cond.initialized "java/lang/String") ∈ jl_tbl := jl_inT (jl_ch1 14 (by decide +kernel)) rfl
theorem jw_15 : (Jvm.Cond.initialized "java/lang/StringLatin1") ∈ jl_tbl := jl_inT (jl_ch1 15 (by decide +kernel)) rfl
theorem jw_16 : (Jvm.Cond.initialized "jdk/internal/util/Preconditions") ∈ jl_tbl := jl_inT (jl_ch1 16 (by decide +kernel)) rfl
theorem jw_17 : (Jvm.Cond.initialized "java/lang/StringUTF16") ∈ jl_tbl := jl_inT (jl_ch1 17 (by decide +kernel)) rfl
theorem jw_18 : (Jvm.Cond.initialized "java/lang/System") ∈ jl_tbl := jl_inT (jl_ch1 18 (by decide +kernel)) rfl
theorem jw_19 : (Jvm.Cond.initialized "java/lang/Integer") ∈ jl_tbl := jl_inT (jl_ch1 19 (by decide +kernel)) rfl
theorem jw_20 : (Jvm.Cond.initialized "java/lang/Math") ∈ jl_tbl := jl_inT (jl_ch1 20 (by decide +kernel)) rfl
theorem jw_21 : (Jvm.Cond.classLink "LieCandlesLaw" (7 : Nat) "LieCandles") ∈ jl_tbl := jl_inT (jl_ch1 21 (by decide +kernel)) rfl
theorem jw_22 : (Jvm.Cond.instantiable "LieCandles" (18 : Nat)) ∈ jl_tbl := jl_inT (jl_ch1 22 (by decide +kernel)) rfl
theorem jw_23 : (Jvm.Cond.methodLink "LieCandlesLaw" (9 : Nat) ({ cls := "LieCandles", name := "<init>", desc := "()V" } : Jvm.MethodName)) ∈ jl_tbl := jl_inT (jl_ch1 23 (by decide +kernel)) rfl
theorem jw_24 : (Jvm.Cond.instanceMethod ({ cls := "LieCandles", name := "<init>", desc := "()V" } : Jvm.MethodName)) ∈ jl_tbl := jl_inT (jl_ch1 24 (by decide +kernel)) rfl
theorem jw_25 : (Jvm.Cond.code ({ cls := "LieCandles", name := "<init>", desc := "()V" } : Jvm.MethodName) prog_1_method_1_code (1 : Nat) (Option.none : Option Jvm.ClassFile.FieldType)) ∈ jl_tbl := jl_inT (jl_ch1 25 (rfl)) rfl
theorem jw_26 : (Jvm.Cond.methodLink "LieCandles" (3 : Nat) ({ cls := "java/lang/Object", name := "<init>", desc := "()V" } : Jvm.MethodName)) ∈ jl_tbl := jl_inT (jl_ch1 26 (by decide +kernel)) rfl
theorem jw_27 : (Jvm.Cond.instanceMethod ({ cls := "java/lang/Object", name := "<init>", desc := "()V" } : Jvm.MethodName)) ∈ jl_tbl := jl_inT (jl_ch1 27 (by decide +kernel)) rfl
theorem jw_28 : (Jvm.Cond.code ({ cls := "java/lang/Object", name := "<init>", desc := "()V" } : Jvm.MethodName) object_method_1_code (1 : Nat) (Option.none : Option Jvm.ClassFile.FieldType)) ∈ jl_tbl := jl_inT (jl_ch1 28 (rfl)) rfl
theorem jw_29 : (Jvm.Cond.classLink "LieCandles" (9 : Nat) "LieCandles$Tape") ∈ jl_tbl := jl_inT (jl_ch1 29 (by decide +kernel)) rfl
theorem jw_30 : (Jvm.Cond.instantiable "LieCandles$Tape" (2 : Nat)) ∈ jl_tbl := jl_inT (jl_ch1 30 (by decide +kernel)) rfl
theorem jw_31 : (Jvm.Cond.methodLinkNest "LieCandles" (11 : Nat) ({ cls := "LieCandles$Tape", name := "<init>", desc := "()V" } : Jvm.MethodName) "LieCandles") ∈ jl_nw := jl_inN (jl_ch1 31 (by decide +kernel)) rfl
theorem jw_32 : (Jvm.Cond.instanceMethod ({ cls := "LieCandles$Tape", name := "<init>", desc := "()V" } : Jvm.MethodName)) ∈ jl_tbl := jl_inT (jl_ch1 32 (by decide +kernel)) rfl
theorem jw_33 : (Jvm.Cond.code ({ cls := "LieCandles$Tape", name := "<init>", desc := "()V" } : Jvm.MethodName) prog_12_method_1_code (1 : Nat) (Option.none : Option Jvm.ClassFile.FieldType)) ∈ jl_tbl := jl_inT (jl_ch1 33 (rfl)) rfl
theorem jw_34 : (Jvm.Cond.methodLink "LieCandles$Tape" (3 : Nat) ({ cls := "java/lang/Object", name := "<init>", desc := "()V" } : Jvm.MethodName)) ∈ jl_tbl := jl_inT (jl_ch1 34 (by decide +kernel)) rfl
theorem jw_35 : (Jvm.Cond.fieldLink "LieCandles$Tape" (9 : Nat) "LieCandles$Tape" "bytes" "[I") ∈ jl_tbl := jl_inT (jl_ch1 35 (by decide +kernel)) rfl
theorem jw_36 : (Jvm.Cond.fieldLinkNest "LieCandles$Sight" (62 : Nat) "LieCandles$Tape" "bytes" "[I" "LieCandles") ∈ jl_nw := jl_inN (jl_ch1 36 (by decide +kernel)) rfl
theorem jw_37 : (Jvm.Cond.fieldLinkNest "LieCandles$Reader" (51 : Nat) "LieCandles$Tape" "bytes" "[I" "LieCandles") ∈ jl_nw := jl_inN (jl_ch1 37 (by decide +kernel)) rfl
theorem jw_38 : (Jvm.Cond.fieldLink "LieCandles$Tape" (15 : Nat) "LieCandles$Tape" "length" "I") ∈ jl_tbl := jl_inT (jl_ch1 38 (by decide +kernel)) rfl
theorem jw_39 : (Jvm.Cond.fieldLinkNest "LieCandles$Sight" (53 : Nat) "LieCandles$Tape" "length" "I" "LieCandles") ∈ jl_nw := jl_inN (jl_ch1 39 (by decide +kernel)) rfl
theorem jw_40 : (Jvm.Cond.fieldLinkNest "LieCandles" (119 : Nat) "LieCandles$Tape" "length" "I" "LieCandles") ∈ jl_nw := jl_inN (jl_ch1 40 (by decide +kernel)) rfl
theorem jw_41 : (Jvm.Cond.fieldLinkNest "LieCandles$Reader" (46 : Nat) "LieCandles$Tape" "length" "I" "LieCandles") ∈ jl_nw := jl_inN (jl_ch1 41 (by decide +kernel)) rfl
theorem jw_47 : (Jvm.Cond.arrayClass Jvm.ClassFile.FieldType.int) ∈ jl_tbl := jl_inT (jl_ch1 47 (by decide +kernel)) rfl
theorem jw_48 : (Jvm.Cond.classLink "LieCandles" (16 : Nat) "LieCandles$Code") ∈ jl_tbl := jl_inT (jl_ch1 48 (by decide +kernel)) rfl
theorem jw_49 : (Jvm.Cond.instantiable "LieCandles$Code" (6 : Nat)) ∈ jl_tbl := jl_inT (jl_ch1 49 (by decide +kernel)) rfl
theorem jw_50 : (Jvm.Cond.methodLinkNest "LieCandles" (18 : Nat) ({ cls := "LieCandles$Code", name := "<init>", desc := "()V" } : Jvm.MethodName) "LieCandles") ∈ jl_nw := jl_inN (jl_ch1 50 (by decide +kernel)) rfl
theorem jw_51 : (Jvm.Cond.instanceMethod ({ cls := "LieCandles$Code", name := "<init>", desc := "()V" } : Jvm.MethodName)) ∈ jl_tbl := jl_inT (jl_ch1 51 (by decide +kernel)) rfl
theorem jw_52 : (Jvm.Cond.code ({ cls := "LieCandles$Code", name := "<init>", desc := "()V" } : Jvm.MethodName) prog_2_method_1_code (1 : Nat) (Option.none : Option Jvm.ClassFile.FieldType)) ∈ jl_tbl := jl_inT (jl_ch1 52 (rfl)) rfl
theorem jw_53 : (Jvm.Cond.methodLink "LieCandles$Code" (3 : Nat) ({ cls := "java/lang/Object", name := "<init>", desc := "()V" } : Jvm.MethodName)) ∈ jl_tbl := jl_inT (jl_ch1 53 (by decide +kernel)) rfl
theorem jw_54 : (Jvm.Cond.fieldLink "LieCandles$Code" (9 : Nat) "LieCandles$Code" "cells" "[I") ∈ jl_tbl := jl_inT (jl_ch1 54 (by decide +kernel)) rfl
theorem jw_55 : (Jvm.Cond.fieldLinkNest "LieCandles$Reckoner" (143 : Nat) "LieCandles$Code" "cells" "[I" "LieCandles") ∈ jl_nw := jl_inN (jl_ch1 55 (by decide +kernel)) rfl
theorem jw_56 : (Jvm.Cond.fieldLink "LieCandles$Code" (15 : Nat) "LieCandles$Code" "from" "[I") ∈ jl_tbl := jl_inT (jl_ch1 56 (by decide +kernel)) rfl
theorem jw_57 : (Jvm.Cond.fieldLinkNest "LieCandles$Reckoner" (137 : Nat) "LieCandles$Code" "from" "[I" "LieCandles") ∈ jl_nw := jl_inN (jl_ch1 57 (by decide +kernel)) rfl
theorem jw_58 : (Jvm.Cond.fieldLink "LieCandles$Code" (18 : Nat) "LieCandles$Code" "to" "[I") ∈ jl_tbl := jl_inT (jl_ch1 58 (by decide +kernel)) rfl
theorem jw_59 : (Jvm.Cond.fieldLinkNest "LieCandles$Reckoner" (140 : Nat) "LieCandles$Code" "to" "[I" "LieCandles") ∈ jl_nw := jl_inN (jl_ch1 59 (by decide +kernel)) rfl
theorem jw_60 : (Jvm.Cond.fieldLink "LieCandles$Code" (21 : Nat) "LieCandles$Code" "words" "[I") ∈ jl_tbl := jl_inT (jl_ch1 60 (by decide +kernel)) rfl
theorem jw_61 : (Jvm.Cond.fieldLinkNest "LieCandles$Reckoner" (123 : Nat) "LieCandles$Code" "words" "[I" "LieCandles") ∈ jl_nw := jl_inN (jl_ch1 61 (by decide +kernel)) rfl
theorem jw_62 : (Jvm.Cond.fieldLink "LieCandles$Code" (24 : Nat) "LieCandles$Code" "size" "I") ∈ jl_tbl := jl_inT (jl_ch1 62 (by decide +kernel)) rfl
theorem jw_63 : (Jvm.Cond.fieldLink "LieCandles$Code" (28 : Nat) "LieCandles$Code" "current" "I") ∈ jl_tbl := jl_inT (jl_ch1 63 (by decide +kernel)) rfl
theorem jw_77 : (Jvm.Cond.classLink "LieCandles" (23 : Nat) "LieCandles$Street") ∈ jl_tbl := jl_inT (jl_ch1 77 (by decide +kernel)) rfl
theorem jw_78 : (Jvm.Cond.instantiable "LieCandles$Street" (17 : Nat)) ∈ jl_tbl := jl_inT (jl_ch1 78 (by decide +kernel)) rfl
theorem jw_79 : (Jvm.Cond.methodLinkNest "LieCandles" (25 : Nat) ({ cls := "LieCandles$Street", name := "<init>", desc := "()V" } : Jvm.MethodName) "LieCandles") ∈ jl_nw := jl_inN (jl_ch1 79 (by decide +kernel)) rfl
theorem jw_80 : (Jvm.Cond.instanceMethod ({ cls := "LieCandles$Street", name := "<init>", desc := "()V" } : Jvm.MethodName)) ∈ jl_tbl := jl_inT (jl_ch1 80 (by decide +kernel)) rfl
theorem jw_81 : (Jvm.Cond.code ({ cls := "LieCandles$Street", name := "<init>", desc := "()V" } : Jvm.MethodName) prog_10_method_1_code (1 : Nat) (Option.none : Option Jvm.ClassFile.FieldType)) ∈ jl_tbl := jl_inT (jl_ch1 81 (rfl)) rfl
theorem jw_82 : (Jvm.Cond.methodLink "LieCandles$Street" (3 : Nat) ({ cls := "java/lang/Object", name := "<init>", desc := "()V" } : Jvm.MethodName)) ∈ jl_tbl := jl_inT (jl_ch1 82 (by decide +kernel)) rfl
theorem jw_83 : (Jvm.Cond.classLink "LieCandles$Street" (61 : Nat) "LieCandles$Code") ∈ jl_tbl := jl_inT (jl_ch1 83 (by decide +kernel)) rfl
theorem jw_84 : (Jvm.Cond.methodLinkNest "LieCandles$Street" (63 : Nat) ({ cls := "LieCandles$Code", name := "<init>", desc := "()V" } : Jvm.MethodName) "LieCandles") ∈ jl_nw := jl_inN (jl_ch1 84 (by decide +kernel)) rfl
theorem jw_85 : (Jvm.Cond.fieldLink "LieCandles$Street" (9 : Nat) "LieCandles$Street" "statements" "I") ∈ jl_tbl := jl_inT (jl_ch1 85 (by decide +kernel)) rfl
theorem jw_86 : (Jvm.Cond.fieldLinkNest "LieCandles$StreetReader" (60 : Nat) "LieCandles$Street" "statements" "I" "LieCandles") ∈ jl_nw := jl_inN (jl_ch1 86 (by decide +kernel)) rfl
theorem jw_87 : (Jvm.Cond.fieldLinkNest "LieCandles" (152 : Nat) "LieCandles$Street" "statements" "I" "LieCandles") ∈ jl_nw := jl_inN (jl_ch1 87 (by decide +kernel)) rfl
theorem jw_88 : (Jvm.Cond.fieldLink "LieCandles$Street" (15 : Nat) "LieCandles$Street" "windows" "I") ∈ jl_tbl := jl_inT (jl_ch1 88 (by decide +kernel)) rfl
theorem jw_89 : (Jvm.Cond.fieldLinkNest "LieCandles$StreetReader" (90 : Nat) "LieCandles$Street" "windows" "I" "LieCandles") ∈ jl_nw := jl_inN (jl_ch1 89 (by decide +kernel)) rfl
theorem jw_90 : (Jvm.Cond.fieldLinkNest "LieCandles$Sight" (115 : Nat) "LieCandles$Street" "windows" "I" "LieCandles") ∈ jl_nw := jl_inN (jl_ch1 90 (by decide +kernel)) rfl
theorem jw_91 : (Jvm.Cond.fieldLinkNest "LieCandles" (155 : Nat) "LieCandles$Street" "windows" "I" "LieCandles") ∈ jl_nw := jl_inN (jl_ch1 91 (by decide +kernel)) rfl
theorem jw_92 : (Jvm.Cond.fieldLinkNest "LieCandles$Foresight" (105 : Nat) "LieCandles$Street" "windows" "I" "LieCandles") ∈ jl_nw := jl_inN (jl_ch1 92 (by decide +kernel)) rfl
theorem jw_93 : (Jvm.Cond.fieldLinkNest "LieCandles$Reckoner" (94 : Nat) "LieCandles$Street" "windows" "I" "LieCandles") ∈ jl_nw := jl_inN (jl_ch1 93 (by decide +kernel)) rfl
theorem jw_94 : (Jvm.Cond.fieldLink "LieCandles$Street" (18 : Nat) "LieCandles$Street" "people" "I") ∈ jl_tbl := jl_inT (jl_ch1 94 (by decide +kernel)) rfl
theorem jw_95 : (Jvm.Cond.fieldLinkNest "LieCandles$State" (48 : Nat) "LieCandles$Street" "people" "I" "LieCandles") ∈ jl_nw := jl_inN (jl_ch1 95 (by decide +kernel)) rfl
theorem jw_96 : (Jvm.Cond.fieldLinkNest "LieCandles$StreetReader" (72 : Nat) "LieCandles$Street" "people" "I" "LieCandles") ∈ jl_nw := jl_inN (jl_ch1 96 (by decide +kernel)) rfl
theorem jw_97 : (Jvm.Cond.fieldLinkNest "LieCandles" (158 : Nat) "LieCandles$Street" "people" "I" "LieCandles") ∈ jl_nw := jl_inN (jl_ch1 97 (by decide +kernel)) rfl
theorem jw_98 : (Jvm.Cond.fieldLinkNest "LieCandles$Sight" (123 : Nat) "LieCandles$Street" "people" "I" "LieCandles") ∈ jl_nw := jl_inN (jl_ch1 98 (by decide +kernel)) rfl
theorem jw_99 : (Jvm.Cond.fieldLinkNest "LieCandles$Foresight" (97 : Nat) "LieCandles$Street" "people" "I" "LieCandles") ∈ jl_nw := jl_inN (jl_ch1 99 (by decide +kernel)) rfl
theorem jw_100 : (Jvm.Cond.fieldLink "LieCandles$Street" (21 : Nat) "LieCandles$Street" "lies" "I") ∈ jl_tbl := jl_inT (jl_ch1 100 (by decide +kernel)) rfl
theorem jw_101 : (Jvm.Cond.fieldLinkNest "LieCandles$Reckoner" (28 : Nat) "LieCandles$Street" "lies" "I" "LieCandles") ∈ jl_nw := jl_inN (jl_ch1 101 (by decide +kernel)) rfl
theorem jw_102 : (Jvm.Cond.fieldLinkNest "LieCandles$State" (54 : Nat) "LieCandles$Street" "lies" "I" "LieCandles") ∈ jl_nw := jl_inN (jl_ch1 102 (by decide +kernel)) rfl
theorem jw_103 : (Jvm.Cond.fieldLinkNest "LieCandles$StreetReader" (75 : Nat) "LieCandles$Street" "lies" "I" "LieCandles") ∈ jl_nw := jl_inN (jl_ch1 103 (by decide +kernel)) rfl
theorem jw_104 : (Jvm.Cond.fieldLinkNest "LieCandles" (161 : Nat) "LieCandles$Street" "lies" "I" "LieCandles") ∈ jl_nw := jl_inN (jl_ch1 104 (by decide +kernel)) rfl
theorem jw_105 : (Jvm.Cond.fieldLink "LieCandles$Street" (24 : Nat) "LieCandles$Street" "rows" "I") ∈ jl_tbl := jl_inT (jl_ch1 105 (by decide +kernel)) rfl
theorem jw_106 : (Jvm.Cond.fieldLinkNest "LieCandles$StreetReader" (78 : Nat) "LieCandles$Street" "rows" "I" "LieCandles") ∈ jl_nw := jl_inN (jl_ch1 106 (by decide +kernel)) rfl
theorem jw_107 : (Jvm.Cond.fieldLinkNest "LieCandles" (164 : Nat) "LieCandles$Street" "rows" "I" "LieCandles") ∈ jl_nw := jl_inN (jl_ch1 107 (by decide +kernel)) rfl
theorem jw_108 : (Jvm.Cond.fieldLinkNest "LieCandles$Reckoner" (105 : Nat) "LieCandles$Street" "rows" "I" "LieCandles") ∈ jl_nw := jl_inN (jl_ch1 108 (by decide +kernel)) rfl
theorem jw_109 : (Jvm.Cond.fieldLink "LieCandles$Street" (27 : Nat) "LieCandles$Street" "tallow" "I") ∈ jl_tbl := jl_inT (jl_ch1 109 (by decide +kernel)) rfl
theorem jw_110 : (Jvm.Cond.fieldLinkNest "LieCandles$State" (28 : Nat) "LieCandles$Street" "tallow" "I" "LieCandles") ∈ jl_nw := jl_inN (jl_ch1 110 (by decide +kernel)) rfl
theorem jw_111 : (Jvm.Cond.fieldLinkNest "LieCandles$StreetReader" (105 : Nat) "LieCandles$Street" "tallow" "I" "LieCandles") ∈ jl_nw := jl_inN (jl_ch1 111 (by decide +kernel)) rfl
theorem jw_112 : (Jvm.Cond.fieldLink "LieCandles$Street" (30 : Nat) "LieCandles$Street" "gust" "I") ∈ jl_tbl := jl_inT (jl_ch1 112 (by decide +kernel)) rfl
theorem jw_113 : (Jvm.Cond.fieldLinkNest "LieCandles$StreetReader" (120 : Nat) "LieCandles$Street" "gust" "I" "LieCandles") ∈ jl_nw := jl_inN (jl_ch1 113 (by decide +kernel)) rfl
theorem jw_114 : (Jvm.Cond.fieldLinkNest "LieCandles$Foresight" (108 : Nat) "LieCandles$Street" "gust" "I" "LieCandles") ∈ jl_nw := jl_inN (jl_ch1 114 (by decide +kernel)) rfl
theorem jw_115 : (Jvm.Cond.fieldLinkNest "LieCandles" (352 : Nat) "LieCandles$Street" "gust" "I" "LieCandles") ∈ jl_nw := jl_inN (jl_ch1 115 (by decide +kernel)) rfl
theorem jw_116 : (Jvm.Cond.fieldLink "LieCandles$Street" (33 : Nat) "LieCandles$Street" "personNames" "[I") ∈ jl_tbl := jl_inT (jl_ch1 116 (by decide +kernel)) rfl
theorem jw_117 : (Jvm.Cond.fieldLinkNest "LieCandles" (190 : Nat) "LieCandles$Street" "personNames" "[I" "LieCandles") ∈ jl_nw := jl_inN (jl_ch1 117 (by decide +kernel)) rfl
theorem jw_118 : (Jvm.Cond.fieldLink "LieCandles$Street" (37 : Nat) "LieCandles$Street" "homes" "[I") ∈ jl_tbl := jl_inT (jl_ch1 118 (by decide +kernel)) rfl
theorem jw_119 : (Jvm.Cond.fieldLinkNest "LieCandles$State" (31 : Nat) "LieCandles$Street" "homes" "[I" "LieCandles") ∈ jl_nw := jl_inN (jl_ch1 119 (by decide +kernel)) rfl
theorem jw_120 : (Jvm.Cond.fieldLink "LieCandles$Street" (40 : Nat) "LieCandles$Street" "trusts" "[I") ∈ jl_tbl := jl_inT (jl_ch1 120 (by decide +kernel)) rfl
theorem jw_121 : (Jvm.Cond.fieldLinkNest "LieCandles" (206 : Nat) "LieCandles$Street" "trusts" "[I" "LieCandles") ∈ jl_nw := jl_inN (jl_ch1 121 (by decide +kernel)) rfl
theorem jw_122 : (Jvm.Cond.fieldLinkNest "LieCandles$Reckoner" (134 : Nat) "LieCandles$Street" "trusts" "[I" "LieCandles") ∈ jl_nw := jl_inN (jl_ch1 122 (by decide +kernel)) rfl
theorem jw_123 : (Jvm.Cond.fieldLink "LieCandles$Street" (43 : Nat) "LieCandles$Street" "lieNames" "[I") ∈ jl_tbl := jl_inT (jl_ch1 123 (by decide +kernel)) rfl
theorem jw_124 : (Jvm.Cond.fieldLinkNest "LieCandles" (200 : Nat) "LieCandles$Street" "lieNames" "[I" "LieCandles") ∈ jl_nw := jl_inN (jl_ch1 124 (by decide +kernel)) rfl
theorem jw_125 : (Jvm.Cond.fieldLink "LieCandles$Street" (46 : Nat) "LieCandles$Street" "owners" "[I") ∈ jl_tbl := jl_inT (jl_ch1 125 (by decide +kernel)) rfl
theorem jw_126 : (Jvm.Cond.fieldLinkNest "LieCandles$Reckoner" (39 : Nat) "LieCandles$Street" "owners" "[I" "LieCandles") ∈ jl_nw := jl_inN (jl_ch1 126 (by decide +kernel)) rfl
theorem jw_127 : (Jvm.Cond.fieldLinkNest "LieCandles" (213 : Nat) "LieCandles$Street" "owners" "[I" "LieCandles") ∈ jl_nw := jl_inN (jl_ch1 127 (by decide +kernel)) rfl
theorem jw_128 : (Jvm.Cond.fieldLink "LieCandles$Street" (49 : Nat) "LieCandles$Street" "bases" "[I") ∈ jl_tbl := jl_inT (jl_ch1 128 (by decide +kernel)) rfl
theorem jw_129 : (Jvm.Cond.fieldLinkNest "LieCandles$Reckoner" (66 : Nat) "LieCandles$Street" "bases" "[I" "LieCandles") ∈ jl_nw := jl_inN (jl_ch1 129 (by decide +kernel)) rfl
theorem jw_130 : (Jvm.Cond.fieldLinkNest "LieCandles$StreetReader" (149 : Nat) "LieCandles$Street" "bases" "[I" "LieCandles") ∈ jl_nw := jl_inN (jl_ch1 130 (by decide +kernel)) rfl
theorem jw_131 : (Jvm.Cond.fieldLinkNest "LieCandles" (222 : Nat) "LieCandles$Street" "bases" "[I" "LieCandles") ∈ jl_nw := jl_inN (jl_ch1 131 (by decide +kernel)) rfl
theorem jw_132 : (Jvm.Cond.fieldLink "LieCandles$Street" (52 : Nat) "LieCandles$Street" "rowLies" "[I") ∈ jl_tbl := jl_inT (jl_ch1 132 (by decide +kernel)) rfl
theorem jw_133 : (Jvm.Cond.fieldLinkNest "LieCandles" (242 : Nat) "LieCandles$Street" "rowLies" "[I" "LieCandles") ∈ jl_nw := jl_inN (jl_ch1 133 (by decide +kernel)) rfl
theorem jw_134 : (Jvm.Cond.fieldLinkNest "LieCandles$Reckoner" (108 : Nat) "LieCandles$Street" "rowLies" "[I" "LieCandles") ∈ jl_nw := jl_inN (jl_ch1 134 (by decide +kernel)) rfl
theorem jw_135 : (Jvm.Cond.fieldLink "LieCandles$Street" (55 : Nat) "LieCandles$Street" "rowHours" "[I") ∈ jl_tbl := jl_inT (jl_ch1 135 (by decide +kernel)) rfl
theorem jw_136 : (Jvm.Cond.fieldLinkNest "LieCandles" (245 : Nat) "LieCandles$Street" "rowHours" "[I" "LieCandles") ∈ jl_nw := jl_inN (jl_ch1 136 (by decide +kernel)) rfl
theorem jw_137 : (Jvm.Cond.fieldLinkNest "LieCandles$Reckoner" (114 : Nat) "LieCandles$Street" "rowHours" "[I" "LieCandles") ∈ jl_nw := jl_inN (jl_ch1 137 (by decide +kernel)) rfl
theorem jw_138 : (Jvm.Cond.fieldLink "LieCandles$Street" (58 : Nat) "LieCandles$Street" "rowInches" "[I") ∈ jl_tbl := jl_inT (jl_ch1 138 (by decide +kernel)) rfl
theorem jw_139 : (Jvm.Cond.fieldLinkNest "LieCandles" (248 : Nat) "LieCandles$Street" "rowInches" "[I" "LieCandles") ∈ jl_nw := jl_inN (jl_ch1 139 (by decide +kernel)) rfl
theorem jw_140 : (Jvm.Cond.fieldLinkNest "LieCandles$Reckoner" (111 : Nat) "LieCandles$Street" "rowInches" "[I" "LieCandles") ∈ jl_nw := jl_inN (jl_ch1 140 (by decide +kernel)) rfl
theorem jw_141 : (Jvm.Cond.fieldLink "LieCandles$Street" (64 : Nat) "LieCandles$Street" "code" "LLieCandles$Code;") ∈ jl_tbl := jl_inT (jl_ch1 141 (by decide +kernel)) rfl
theorem jw_142 : (Jvm.Cond.fieldLinkNest "LieCandles$StreetReader" (24 : Nat) "LieCandles$Street" "code" "LLieCandles$Code;" "LieCandles") ∈ jl_nw := jl_inN (jl_ch1 142 (by decide +kernel)) rfl
theorem jw_143 : (Jvm.Cond.fieldLinkNest "LieCandles$Reckoner" (45 : Nat) "LieCandles$Street" "code" "LLieCandles$Code;" "LieCandles") ∈ jl_nw := jl_inN (jl_ch1 143 (by decide +kernel)) rfl
theorem jw_179 : (Jvm.Cond.classLink "LieCandles" (33 : Nat) "LieCandles$Reader") ∈ jl_tbl := jl_inT (jl_ch1 179 (by decide +kernel)) rfl
theorem jw_180 : (Jvm.Cond.instantiable "LieCandles$Reader" (9 : Nat)) ∈ jl_tbl := jl_inT (jl_ch1 180 (by decide +kernel)) rfl
theorem jw_181 : (Jvm.Cond.methodLink "LieCandles" (35 : Nat) ({ cls := "LieCandles$Reader", name := "<init>", desc := "(LLieCandles$Tape;LLieCandles$Code;)V" } : Jvm.MethodName)) ∈ jl_tbl := jl_inT (jl_ch1 181 (by decide +kernel)) rfl
theorem jw_182 : (Jvm.Cond.instanceMethod ({ cls := "LieCandles$Reader", name := "<init>", desc := "(LLieCandles$Tape;LLieCandles$Code;)V" } : Jvm.MethodName)) ∈ jl_tbl := jl_inT (jl_ch1 182 (by decide +kernel)) rfl
theorem jw_183 : (Jvm.Cond.code ({ cls := "LieCandles$Reader", name := "<init>", desc := "(LLieCandles$Tape;LLieCandles$Code;)V" } : Jvm.MethodName) prog_6_method_1_code (3 : Nat) (Option.none : Option Jvm.ClassFile.FieldType)) ∈ jl_tbl := jl_inT (jl_ch1 183 (rfl)) rfl
theorem jw_184 : (Jvm.Cond.methodLink "LieCandles$Reader" (3 : Nat) ({ cls := "java/lang/Object", name := "<init>", desc := "()V" } : Jvm.MethodName)) ∈ jl_tbl := jl_inT (jl_ch1 184 (by decide +kernel)) rfl
theorem jw_185 : (Jvm.Cond.fieldLink "LieCandles$Reader" (33 : Nat) "LieCandles$Reader" "tape" "LLieCandles$Tape;") ∈ jl_tbl := jl_inT (jl_ch1 185 (by decide +kernel)) rfl
theorem jw_186 : (Jvm.Cond.fieldLink "LieCandles$Reader" (37 : Nat) "LieCandles$Reader" "code" "LLieCandles$Code;") ∈ jl_tbl := jl_inT (jl_ch1 186 (by decide +kernel)) rfl
theorem jw_187 : (Jvm.Cond.fieldLink "LieCandles$Reader" (9 : Nat) "LieCandles$Reader" "parts" "I") ∈ jl_tbl := jl_inT (jl_ch1 187 (by decide +kernel)) rfl
theorem jw_188 : (Jvm.Cond.fieldLink "LieCandles$Reader" (15 : Nat) "LieCandles$Reader" "opened" "I") ∈ jl_tbl := jl_inT (jl_ch1 188 (by decide +kernel)) rfl
theorem jw_189 : (Jvm.Cond.fieldLink "LieCandles$Reader" (18 : Nat) "LieCandles$Reader" "at" "I") ∈ jl_tbl := jl_inT (jl_ch1 189 (by decide +kernel)) rfl
theorem jw_190 : (Jvm.Cond.fieldLinkNest "LieCandles$StreetReader" (38 : Nat) "LieCandles$Reader" "at" "I" "LieCandles") ∈ jl_nw := jl_inN (jl_ch1 190 (by decide +kernel)) rfl
theorem jw_191 : (Jvm.Cond.fieldLink "LieCandles$Reader" (21 : Nat) "LieCandles$Reader" "wordEnd" "I") ∈ jl_tbl := jl_inT (jl_ch1 191 (by decide +kernel)) rfl
theorem jw_192 : (Jvm.Cond.fieldLinkNest "LieCandles$StreetReader" (84 : Nat) "LieCandles$Reader" "wordEnd" "I" "LieCandles") ∈ jl_nw := jl_inN (jl_ch1 192 (by decide +kernel)) rfl
theorem jw_193 : (Jvm.Cond.fieldLink "LieCandles$Reader" (24 : Nat) "LieCandles$Reader" "nameAt" "I") ∈ jl_tbl := jl_inT (jl_ch1 193 (by decide +kernel)) rfl
theorem jw_194 : (Jvm.Cond.fieldLinkNest "LieCandles$StreetReader" (153 : Nat) "LieCandles$Reader" "nameAt" "I" "LieCandles") ∈ jl_nw := jl_inN (jl_ch1 194 (by decide +kernel)) rfl
theorem jw_195 : (Jvm.Cond.fieldLink "LieCandles$Reader" (27 : Nat) "LieCandles$Reader" "fault" "I") ∈ jl_tbl := jl_inT (jl_ch1 195 (by decide +kernel)) rfl
theorem jw_196 : (Jvm.Cond.fieldLinkNest "LieCandles" (385 : Nat) "LieCandles$Reader" "fault" "I" "LieCandles") ∈ jl_nw := jl_inN (jl_ch1 196 (by decide +kernel)) rfl
theorem jw_197 : (Jvm.Cond.fieldLink "LieCandles$Reader" (30 : Nat) "LieCandles$Reader" "place" "I") ∈ jl_tbl := jl_inT (jl_ch1 197 (by decide +kernel)) rfl
theorem jw_198 : (Jvm.Cond.fieldLinkNest "LieCandles" (388 : Nat) "LieCandles$Reader" "place" "I" "LieCandles") ∈ jl_nw := jl_inN (jl_ch1 198 (by decide +kernel)) rfl
theorem jw_218 : (Jvm.Cond.classLink "LieCandles" (42 : Nat) "LieCandles$StreetReader") ∈ jl_tbl := jl_inT (jl_ch1 218 (by decide +kernel)) rfl
theorem jw_219 : (Jvm.Cond.instantiable "LieCandles$StreetReader" (2 : Nat)) ∈ jl_tbl := jl_inT (jl_ch1 219 (by decide +kernel)) rfl
theorem jw_220 : (Jvm.Cond.methodLink "LieCandles" (44 : Nat) ({ cls := "LieCandles$StreetReader", name := "<init>", desc := "(LLieCandles$Reader;LLieCandles$Street;)V" } : Jvm.MethodName)) ∈ jl_tbl := jl_inT (jl_ch1 220 (by decide +kernel)) rfl
theorem jw_221 : (Jvm.Cond.instanceMethod ({ cls := "LieCandles$StreetReader", name := "<init>", desc := "(LLieCandles$Reader;LLieCandles$Street;)V" } : Jvm.MethodName)) ∈ jl_tbl := jl_inT (jl_ch1 221 (by decide +kernel)) rfl
theorem jw_222 : (Jvm.Cond.code ({ cls := "LieCandles$StreetReader", name := "<init>", desc := "(LLieCandles$Reader;LLieCandles$Street;)V" } : Jvm.MethodName) prog_11_method_1_code (3 : Nat) (Option.none : Option Jvm.ClassFile.FieldType)) ∈ jl_tbl := jl_inT (jl_ch1 222 (rfl)) rfl
theorem jw_223 : (Jvm.Cond.methodLink "LieCandles$StreetReader" (3 : Nat) ({ cls := "java/lang/Object", name := "<init>", desc := "()V" } : Jvm.MethodName)) ∈ jl_tbl := jl_inT (jl_ch1 223 (by decide +kernel)) rfl
theorem jw_224 : (Jvm.Cond.fieldLink "LieCandles$StreetReader" (9 : Nat) "LieCandles$StreetReader" "reader" "LLieCandles$Reader;") ∈ jl_tbl := jl_inT (jl_ch1 224 (by decide +kernel)) rfl
theorem jw_225 : (Jvm.Cond.fieldLink "LieCandles$StreetReader" (15 : Nat) "LieCandles$StreetReader" "street" "LLieCandles$Street;") ∈ jl_tbl := jl_inT (jl_ch1 225 (by decide +kernel)) rfl
theorem jw_231 : (Jvm.Cond.classLink "LieCandles" (51 : Nat) "LieCandles$State") ∈ jl_tbl := jl_inT (jl_ch1 231 (by decide +kernel)) rfl
theorem jw_232 : (Jvm.Cond.instantiable "LieCandles$State" (5 : Nat)) ∈ jl_tbl := jl_inT (jl_ch1 232 (by decide +kernel)) rfl
theorem jw_233 : (Jvm.Cond.methodLinkNest "LieCandles" (53 : Nat) ({ cls := "LieCandles$State", name := "<init>", desc := "()V" } : Jvm.MethodName) "LieCandles") ∈ jl_nw := jl_inN (jl_ch1 233 (by decide +kernel)) rfl
theorem jw_234 : (Jvm.Cond.instanceMethod ({ cls := "LieCandles$State", name := "<init>", desc := "()V" } : Jvm.MethodName)) ∈ jl_tbl := jl_inT (jl_ch1 234 (by decide +kernel)) rfl
theorem jw_235 : (Jvm.Cond.code ({ cls := "LieCandles$State", name := "<init>", desc := "()V" } : Jvm.MethodName) prog_9_method_1_code (1 : Nat) (Option.none : Option Jvm.ClassFile.FieldType)) ∈ jl_tbl := jl_inT (jl_ch1 235 (rfl)) rfl
theorem jw_236 : (Jvm.Cond.methodLink "LieCandles$State" (3 : Nat) ({ cls := "java/lang/Object", name := "<init>", desc := "()V" } : Jvm.MethodName)) ∈ jl_tbl := jl_inT (jl_ch1 236 (by decide +kernel)) rfl
theorem jw_237 : (Jvm.Cond.fieldLink "LieCandles$State" (9 : Nat) "LieCandles$State" "hour" "I") ∈ jl_tbl := jl_inT (jl_ch1 237 (by decide +kernel)) rfl
theorem jw_238 : (Jvm.Cond.fieldLinkNest "LieCandles$Foresight" (41 : Nat) "LieCandles$State" "hour" "I" "LieCandles") ∈ jl_nw := jl_inN (jl_ch1 238 (by decide +kernel)) rfl
theorem jw_239 : (Jvm.Cond.fieldLinkNest "LieCandles" (165 : Nat) "LieCandles$State" "hour" "I" "LieCandles") ∈ jl_nw := jl_inN (jl_ch1 239 (by decide +kernel)) rfl
theorem jw_240 : (Jvm.Cond.fieldLinkNest "LieCandles$Reckoner" (85 : Nat) "LieCandles$State" "hour" "I" "LieCandles") ∈ jl_nw := jl_inN (jl_ch2 0 (by decide +kernel)) rfl
theorem jw_241 : (Jvm.Cond.fieldLink "LieCandles$State" (15 : Nat) "LieCandles$State" "tallow" "I") ∈ jl_tbl := jl_inT (jl_ch2 1 (by decide +kernel)) rfl
theorem jw_242 : (Jvm.Cond.fieldLinkNest "LieCandles" (168 : Nat) "LieCandles$State" "tallow" "I" "LieCandles") ∈ jl_nw := jl_inN (jl_ch2 2 (by decide +kernel)) rfl
theorem jw_243 : (Jvm.Cond.fieldLinkNest "LieCandles$Reckoner" (117 : Nat) "LieCandles$State" "tallow" "I" "LieCandles") ∈ jl_nw := jl_inN (jl_ch2 3 (by decide +kernel)) rfl
theorem jw_244 : (Jvm.Cond.fieldLink "LieCandles$State" (18 : Nat) "LieCandles$State" "homes" "[I") ∈ jl_tbl := jl_inT (jl_ch2 4 (by decide +kernel)) rfl
theorem jw_245 : (Jvm.Cond.fieldLinkNest "LieCandles$Reckoner" (42 : Nat) "LieCandles$State" "homes" "[I" "LieCandles") ∈ jl_nw := jl_inN (jl_ch2 5 (by decide +kernel)) rfl
theorem jw_246 : (Jvm.Cond.fieldLinkNest "LieCandles$Sight" (129 : Nat) "LieCandles$State" "homes" "[I" "LieCandles") ∈ jl_nw := jl_inN (jl_ch2 6 (by decide +kernel)) rfl
theorem jw_247 : (Jvm.Cond.fieldLinkNest "LieCandles" (203 : Nat) "LieCandles$State" "homes" "[I" "LieCandles") ∈ jl_nw := jl_inN (jl_ch2 7 (by decide +kernel)) rfl
theorem jw_248 : (Jvm.Cond.fieldLink "LieCandles$State" (22 : Nat) "LieCandles$State" "candles" "[I") ∈ jl_tbl := jl_inT (jl_ch2 8 (by decide +kernel)) rfl
theorem jw_249 : (Jvm.Cond.fieldLinkNest "LieCandles$Reckoner" (34 : Nat) "LieCandles$State" "candles" "[I" "LieCandles") ∈ jl_nw := jl_inN (jl_ch2 9 (by decide +kernel)) rfl
theorem jw_250 : (Jvm.Cond.fieldLinkNest "LieCandles$Sight" (82 : Nat) "LieCandles$State" "candles" "[I" "LieCandles") ∈ jl_nw := jl_inN (jl_ch2 10 (by decide +kernel)) rfl
theorem jw_251 : (Jvm.Cond.fieldLinkNest "LieCandles$Foresight" (71 : Nat) "LieCandles$State" "candles" "[I" "LieCandles") ∈ jl_nw := jl_inN (jl_ch2 11 (by decide +kernel)) rfl
theorem jw_252 : (Jvm.Cond.fieldLinkNest "LieCandles" (216 : Nat) "LieCandles$State" "candles" "[I" "LieCandles") ∈ jl_nw := jl_inN (jl_ch2 12 (by decide +kernel)) rfl
theorem jw_253 : (Jvm.Cond.fieldLink "LieCandles$State" (25 : Nat) "LieCandles$State" "toldHours" "[I") ∈ jl_tbl := jl_inT (jl_ch2 13 (by decide +kernel)) rfl
theorem jw_254 : (Jvm.Cond.fieldLinkNest "LieCandles" (219 : Nat) "LieCandles$State" "toldHours" "[I" "LieCandles") ∈ jl_nw := jl_inN (jl_ch2 14 (by decide +kernel)) rfl
theorem jw_255 : (Jvm.Cond.fieldLinkNest "LieCandles$Reckoner" (131 : Nat) "LieCandles$State" "toldHours" "[I" "LieCandles") ∈ jl_nw := jl_inN (jl_ch2 15 (by decide +kernel)) rfl
theorem jw_267 : (Jvm.Cond.classLink "LieCandles" (58 : Nat) "LieCandles$Log") ∈ jl_tbl := jl_inT (jl_ch2 27 (by decide +kernel)) rfl
theorem jw_268 : (Jvm.Cond.instantiable "LieCandles$Log" (4 : Nat)) ∈ jl_tbl := jl_inT (jl_ch2 28 (by decide +kernel)) rfl
theorem jw_269 : (Jvm.Cond.methodLinkNest "LieCandles" (60 : Nat) ({ cls := "LieCandles$Log", name := "<init>", desc := "()V" } : Jvm.MethodName) "LieCandles") ∈ jl_nw := jl_inN (jl_ch2 29 (by decide +kernel)) rfl
theorem jw_270 : (Jvm.Cond.instanceMethod ({ cls := "LieCandles$Log", name := "<init>", desc := "()V" } : Jvm.MethodName)) ∈ jl_tbl := jl_inT (jl_ch2 30 (by decide +kernel)) rfl
theorem jw_271 : (Jvm.Cond.code ({ cls := "LieCandles$Log", name := "<init>", desc := "()V" } : Jvm.MethodName) prog_4_method_1_code (1 : Nat) (Option.none : Option Jvm.ClassFile.FieldType)) ∈ jl_tbl := jl_inT (jl_ch2 31 (rfl)) rfl
theorem jw_272 : (Jvm.Cond.methodLink "LieCandles$Log" (3 : Nat) ({ cls := "java/lang/Object", name := "<init>", desc := "()V" } : Jvm.MethodName)) ∈ jl_tbl := jl_inT (jl_ch2 32 (by decide +kernel)) rfl
theorem jw_273 : (Jvm.Cond.fieldLink "LieCandles$Log" (9 : Nat) "LieCandles$Log" "hoursKept" "[I") ∈ jl_tbl := jl_inT (jl_ch2 33 (by decide +kernel)) rfl
theorem jw_274 : (Jvm.Cond.fieldLink "LieCandles$Log" (15 : Nat) "LieCandles$Log" "liesKept" "[I") ∈ jl_tbl := jl_inT (jl_ch2 34 (by decide +kernel)) rfl
theorem jw_275 : (Jvm.Cond.fieldLink "LieCandles$Log" (18 : Nat) "LieCandles$Log" "first" "I") ∈ jl_tbl := jl_inT (jl_ch2 35 (by decide +kernel)) rfl
theorem jw_276 : (Jvm.Cond.fieldLink "LieCandles$Log" (22 : Nat) "LieCandles$Log" "count" "I") ∈ jl_tbl := jl_inT (jl_ch2 36 (by decide +kernel)) rfl
theorem jw_277 : (Jvm.Cond.fieldLinkNest "LieCandles" (183 : Nat) "LieCandles$Log" "count" "I" "LieCandles") ∈ jl_nw := jl_inN (jl_ch2 37 (by decide +kernel)) rfl
theorem jw_287 : (Jvm.Cond.classLink "LieCandles" (65 : Nat) "LieCandles$Past") ∈ jl_tbl := jl_inT (jl_ch2 47 (by decide +kernel)) rfl
theorem jw_288 : (Jvm.Cond.instantiable "LieCandles$Past" (4 : Nat)) ∈ jl_tbl := jl_inT (jl_ch2 48 (by decide +kernel)) rfl
theorem jw_289 : (Jvm.Cond.methodLink "LieCandles" (67 : Nat) ({ cls := "LieCandles$Past", name := "<init>", desc := "()V" } : Jvm.MethodName)) ∈ jl_tbl := jl_inT (jl_ch2 49 (by decide +kernel)) rfl
theorem jw_290 : (Jvm.Cond.instanceMethod ({ cls := "LieCandles$Past", name := "<init>", desc := "()V" } : Jvm.MethodName)) ∈ jl_tbl := jl_inT (jl_ch2 50 (by decide +kernel)) rfl
theorem jw_291 : (Jvm.Cond.code ({ cls := "LieCandles$Past", name := "<init>", desc := "()V" } : Jvm.MethodName) prog_5_method_1_code (2 : Nat) (Option.none : Option Jvm.ClassFile.FieldType)) ∈ jl_tbl := jl_inT (jl_ch2 51 (rfl)) rfl
theorem jw_292 : (Jvm.Cond.methodLink "LieCandles$Past" (3 : Nat) ({ cls := "java/lang/Object", name := "<init>", desc := "()V" } : Jvm.MethodName)) ∈ jl_tbl := jl_inT (jl_ch2 52 (by decide +kernel)) rfl
theorem jw_293 : (Jvm.Cond.classLink "LieCandles$Past" (9 : Nat) "LieCandles$State") ∈ jl_tbl := jl_inT (jl_ch2 53 (by decide +kernel)) rfl
theorem jw_295 : (Jvm.Cond.classLink "LieCandles$Past" (17 : Nat) "LieCandles$Log") ∈ jl_tbl := jl_inT (jl_ch2 55 (by decide +kernel)) rfl
theorem jw_297 : (Jvm.Cond.methodLinkNest "LieCandles$Past" (30 : Nat) ({ cls := "LieCandles$State", name := "<init>", desc := "()V" } : Jvm.MethodName) "LieCandles") ∈ jl_nw := jl_inN (jl_ch2 57 (by decide +kernel)) rfl
theorem jw_298 : (Jvm.Cond.methodLinkNest "LieCandles$Past" (31 : Nat) ({ cls := "LieCandles$Log", name := "<init>", desc := "()V" } : Jvm.MethodName) "LieCandles") ∈ jl_nw := jl_inN (jl_ch2 58 (by decide +kernel)) rfl
theorem jw_299 : (Jvm.Cond.fieldLink "LieCandles$Past" (11 : Nat) "LieCandles$Past" "states" "[LLieCandles$State;") ∈ jl_tbl := jl_inT (jl_ch2 59 (by decide +kernel)) rfl
theorem jw_300 : (Jvm.Cond.fieldLink "LieCandles$Past" (19 : Nat) "LieCandles$Past" "logs" "[LLieCandles$Log;") ∈ jl_tbl := jl_inT (jl_ch2 60 (by decide +kernel)) rfl
theorem jw_301 : (Jvm.Cond.fieldLink "LieCandles$Past" (23 : Nat) "LieCandles$Past" "next" "I") ∈ jl_tbl := jl_inT (jl_ch2 61 (by decide +kernel)) rfl
theorem jw_302 : (Jvm.Cond.fieldLink "LieCandles$Past" (27 : Nat) "LieCandles$Past" "count" "I") ∈ jl_tbl := jl_inT (jl_ch2 62 (by decide +kernel)) rfl
theorem jw_303 : (Jvm.Cond.fieldLinkNest "LieCandles" (186 : Nat) "LieCandles$Past" "count" "I" "LieCandles") ∈ jl_nw := jl_inN (jl_ch2 63 (by decide +kernel)) rfl
theorem jw_313 : (Jvm.Cond.classLink "LieCandles" (72 : Nat) "LieCandles$Reckoner") ∈ jl_tbl := jl_inT (jl_ch2 73 (by decide +kernel)) rfl
theorem jw_314 : (Jvm.Cond.instantiable "LieCandles$Reckoner" (5 : Nat)) ∈ jl_tbl := jl_inT (jl_ch2 74 (by decide +kernel)) rfl
theorem jw_315 : (Jvm.Cond.methodLink "LieCandles" (74 : Nat) ({ cls := "LieCandles$Reckoner", name := "<init>", desc := "(LLieCandles$Street;)V" } : Jvm.MethodName)) ∈ jl_tbl := jl_inT (jl_ch2 75 (by decide +kernel)) rfl
theorem jw_316 : (Jvm.Cond.instanceMethod ({ cls := "LieCandles$Reckoner", name := "<init>", desc := "(LLieCandles$Street;)V" } : Jvm.MethodName)) ∈ jl_tbl := jl_inT (jl_ch2 76 (by decide +kernel)) rfl
theorem jw_317 : (Jvm.Cond.code ({ cls := "LieCandles$Reckoner", name := "<init>", desc := "(LLieCandles$Street;)V" } : Jvm.MethodName) prog_7_method_1_code (2 : Nat) (Option.none : Option Jvm.ClassFile.FieldType)) ∈ jl_tbl := jl_inT (jl_ch2 77 (rfl)) rfl
theorem jw_318 : (Jvm.Cond.methodLink "LieCandles$Reckoner" (3 : Nat) ({ cls := "java/lang/Object", name := "<init>", desc := "()V" } : Jvm.MethodName)) ∈ jl_tbl := jl_inT (jl_ch2 78 (by decide +kernel)) rfl
theorem jw_319 : (Jvm.Cond.fieldLink "LieCandles$Reckoner" (24 : Nat) "LieCandles$Reckoner" "street" "LLieCandles$Street;") ∈ jl_tbl := jl_inT (jl_ch2 79 (by decide +kernel)) rfl
theorem jw_320 : (Jvm.Cond.fieldLinkNest "LieCandles" (140 : Nat) "LieCandles$Reckoner" "street" "LLieCandles$Street;" "LieCandles") ∈ jl_nw := jl_inN (jl_ch2 80 (by decide +kernel)) rfl
theorem jw_321 : (Jvm.Cond.fieldLinkNest "LieCandles$Sight" (111 : Nat) "LieCandles$Reckoner" "street" "LLieCandles$Street;" "LieCandles") ∈ jl_nw := jl_inN (jl_ch2 81 (by decide +kernel)) rfl
theorem jw_322 : (Jvm.Cond.fieldLinkNest "LieCandles$Foresight" (93 : Nat) "LieCandles$Reckoner" "street" "LLieCandles$Street;" "LieCandles") ∈ jl_nw := jl_inN (jl_ch2 82 (by decide +kernel)) rfl
theorem jw_323 : (Jvm.Cond.fieldLink "LieCandles$Reckoner" (9 : Nat) "LieCandles$Reckoner" "stack" "[I") ∈ jl_tbl := jl_inT (jl_ch2 83 (by decide +kernel)) rfl
theorem jw_324 : (Jvm.Cond.fieldLink "LieCandles$Reckoner" (15 : Nat) "LieCandles$Reckoner" "meanings" "[I") ∈ jl_tbl := jl_inT (jl_ch2 84 (by decide +kernel)) rfl
theorem jw_325 : (Jvm.Cond.fieldLink "LieCandles$Reckoner" (18 : Nat) "LieCandles$Reckoner" "burnt" "[I") ∈ jl_tbl := jl_inT (jl_ch2 85 (by decide +kernel)) rfl
theorem jw_326 : (Jvm.Cond.fieldLink "LieCandles$Reckoner" (21 : Nat) "LieCandles$Reckoner" "glows" "[I") ∈ jl_tbl := jl_inT (jl_ch2 86 (by decide +kernel)) rfl
theorem jw_338 : (Jvm.Cond.classLink "LieCandles" (81 : Nat) "LieCandles$Foresight") ∈ jl_tbl := jl_inT (jl_ch2 98 (by decide +kernel)) rfl
theorem jw_339 : (Jvm.Cond.instantiable "LieCandles$Foresight" (8 : Nat)) ∈ jl_tbl := jl_inT (jl_ch2 99 (by decide +kernel)) rfl
theorem jw_340 : (Jvm.Cond.methodLink "LieCandles" (83 : Nat) ({ cls := "LieCandles$Foresight", name := "<init>", desc := "(LLieCandles$Reckoner;LLieCandles$State;)V" } : Jvm.MethodName)) ∈ jl_tbl := jl_inT (jl_ch2 100 (by decide +kernel)) rfl
theorem jw_341 : (Jvm.Cond.instanceMethod ({ cls := "LieCandles$Foresight", name := "<init>", desc := "(LLieCandles$Reckoner;LLieCandles$State;)V" } : Jvm.MethodName)) ∈ jl_tbl := jl_inT (jl_ch2 101 (by decide +kernel)) rfl
theorem jw_342 : (Jvm.Cond.code ({ cls := "LieCandles$Foresight", name := "<init>", desc := "(LLieCandles$Reckoner;LLieCandles$State;)V" } : Jvm.MethodName) prog_3_method_1_code (3 : Nat) (Option.none : Option Jvm.ClassFile.FieldType)) ∈ jl_tbl := jl_inT (jl_ch2 102 (rfl)) rfl
theorem jw_343 : (Jvm.Cond.methodLink "LieCandles$Foresight" (3 : Nat) ({ cls := "java/lang/Object", name := "<init>", desc := "()V" } : Jvm.MethodName)) ∈ jl_tbl := jl_inT (jl_ch2 103 (by decide +kernel)) rfl
theorem jw_344 : (Jvm.Cond.classLink "LieCandles$Foresight" (9 : Nat) "LieCandles$State") ∈ jl_tbl := jl_inT (jl_ch2 104 (by decide +kernel)) rfl
theorem jw_345 : (Jvm.Cond.methodLinkNest "LieCandles$Foresight" (11 : Nat) ({ cls := "LieCandles$State", name := "<init>", desc := "()V" } : Jvm.MethodName) "LieCandles") ∈ jl_nw := jl_inN (jl_ch2 105 (by decide +kernel)) rfl
theorem jw_346 : (Jvm.Cond.fieldLink "LieCandles$Foresight" (34 : Nat) "LieCandles$Foresight" "reckoner" "LLieCandles$Reckoner;") ∈ jl_tbl := jl_inT (jl_ch2 106 (by decide +kernel)) rfl
theorem jw_347 : (Jvm.Cond.fieldLinkNest "LieCandles$Sight" (41 : Nat) "LieCandles$Foresight" "reckoner" "LLieCandles$Reckoner;" "LieCandles") ∈ jl_nw := jl_inN (jl_ch2 107 (by decide +kernel)) rfl
theorem jw_348 : (Jvm.Cond.fieldLink "LieCandles$Foresight" (38 : Nat) "LieCandles$Foresight" "now" "LLieCandles$State;") ∈ jl_tbl := jl_inT (jl_ch2 108 (by decide +kernel)) rfl
theorem jw_349 : (Jvm.Cond.fieldLink "LieCandles$Foresight" (12 : Nat) "LieCandles$Foresight" "then" "LLieCandles$State;") ∈ jl_tbl := jl_inT (jl_ch2 109 (by decide +kernel)) rfl
theorem jw_350 : (Jvm.Cond.fieldLinkNest "LieCandles$Sight" (48 : Nat) "LieCandles$Foresight" "then" "LLieCandles$State;" "LieCandles") ∈ jl_nw := jl_inN (jl_ch2 110 (by decide +kernel)) rfl
theorem jw_351 : (Jvm.Cond.fieldLink "LieCandles$Foresight" (18 : Nat) "LieCandles$Foresight" "keystoneLie" "I") ∈ jl_tbl := jl_inT (jl_ch2 111 (by decide +kernel)) rfl
theorem jw_352 : (Jvm.Cond.fieldLinkNest "LieCandles" (283 : Nat) "LieCandles$Foresight" "keystoneLie" "I" "LieCandles") ∈ jl_nw := jl_inN (jl_ch2 112 (by decide +kernel)) rfl
theorem jw_353 : (Jvm.Cond.fieldLink "LieCandles$Foresight" (22 : Nat) "LieCandles$Foresight" "keystoneCount" "I") ∈ jl_tbl := jl_inT (jl_ch2 113 (by decide +kernel)) rfl
theorem jw_354 : (Jvm.Cond.fieldLinkNest "LieCandles" (286 : Nat) "LieCandles$Foresight" "keystoneCount" "I" "LieCandles") ∈ jl_nw := jl_inN (jl_ch2 114 (by decide +kernel)) rfl
theorem jw_355 : (Jvm.Cond.fieldLink "LieCandles$Foresight" (25 : Nat) "LieCandles$Foresight" "changeLess" "I") ∈ jl_tbl := jl_inT (jl_ch2 115 (by decide +kernel)) rfl
theorem jw_356 : (Jvm.Cond.fieldLinkNest "LieCandles" (296 : Nat) "LieCandles$Foresight" "changeLess" "I" "LieCandles") ∈ jl_nw := jl_inN (jl_ch2 116 (by decide +kernel)) rfl
theorem jw_357 : (Jvm.Cond.fieldLink "LieCandles$Foresight" (28 : Nat) "LieCandles$Foresight" "changeOther" "I") ∈ jl_tbl := jl_inT (jl_ch2 117 (by decide +kernel)) rfl
theorem jw_358 : (Jvm.Cond.fieldLinkNest "LieCandles" (299 : Nat) "LieCandles$Foresight" "changeOther" "I" "LieCandles") ∈ jl_nw := jl_inN (jl_ch2 118 (by decide +kernel)) rfl
theorem jw_359 : (Jvm.Cond.fieldLink "LieCandles$Foresight" (31 : Nat) "LieCandles$Foresight" "changeCount" "I") ∈ jl_tbl := jl_inT (jl_ch2 119 (by decide +kernel)) rfl
theorem jw_360 : (Jvm.Cond.fieldLinkNest "LieCandles" (302 : Nat) "LieCandles$Foresight" "changeCount" "I" "LieCandles") ∈ jl_nw := jl_inN (jl_ch2 120 (by decide +kernel)) rfl
theorem jw_378 : (Jvm.Cond.classLink "LieCandles" (90 : Nat) "LieCandles$Sight") ∈ jl_tbl := jl_inT (jl_ch2 138 (by decide +kernel)) rfl
theorem jw_379 : (Jvm.Cond.instantiable "LieCandles$Sight" (11 : Nat)) ∈ jl_tbl := jl_inT (jl_ch2 139 (by decide +kernel)) rfl
theorem jw_380 : (Jvm.Cond.methodLink "LieCandles" (92 : Nat) ({ cls := "LieCandles$Sight", name := "<init>", desc := "(LLieCandles$Foresight;)V" } : Jvm.MethodName)) ∈ jl_tbl := jl_inT (jl_ch2 140 (by decide +kernel)) rfl
theorem jw_381 : (Jvm.Cond.instanceMethod ({ cls := "LieCandles$Sight", name := "<init>", desc := "(LLieCandles$Foresight;)V" } : Jvm.MethodName)) ∈ jl_tbl := jl_inT (jl_ch2 141 (by decide +kernel)) rfl
theorem jw_382 : (Jvm.Cond.code ({ cls := "LieCandles$Sight", name := "<init>", desc := "(LLieCandles$Foresight;)V" } : Jvm.MethodName) prog_8_method_1_code (2 : Nat) (Option.none : Option Jvm.ClassFile.FieldType)) ∈ jl_tbl := jl_inT (jl_ch2 142 (rfl)) rfl
theorem jw_383 : (Jvm.Cond.methodLink "LieCandles$Sight" (3 : Nat) ({ cls := "java/lang/Object", name := "<init>", desc := "()V" } : Jvm.MethodName)) ∈ jl_tbl := jl_inT (jl_ch2 143 (by decide +kernel)) rfl
theorem jw_384 : (Jvm.Cond.fieldLink "LieCandles$Sight" (37 : Nat) "LieCandles$Sight" "foresight" "LLieCandles$Foresight;") ∈ jl_tbl := jl_inT (jl_ch2 144 (by decide +kernel)) rfl
theorem jw_385 : (Jvm.Cond.fieldLink "LieCandles$Sight" (47 : Nat) "LieCandles$Sight" "reckoner" "LLieCandles$Reckoner;") ∈ jl_tbl := jl_inT (jl_ch2 145 (by decide +kernel)) rfl
theorem jw_386 : (Jvm.Cond.fieldLink "LieCandles$Sight" (52 : Nat) "LieCandles$Sight" "then" "LLieCandles$State;") ∈ jl_tbl := jl_inT (jl_ch2 146 (by decide +kernel)) rfl
theorem jw_387 : (Jvm.Cond.fieldLink "LieCandles$Sight" (9 : Nat) "LieCandles$Sight" "seen" "[I") ∈ jl_tbl := jl_inT (jl_ch2 147 (by decide +kernel)) rfl
theorem jw_388 : (Jvm.Cond.fieldLink "LieCandles$Sight" (15 : Nat) "LieCandles$Sight" "rows" "I") ∈ jl_tbl := jl_inT (jl_ch2 148 (by decide +kernel)) rfl
theorem jw_389 : (Jvm.Cond.fieldLinkNest "LieCandles" (149 : Nat) "LieCandles$Sight" "rows" "I" "LieCandles") ∈ jl_nw := jl_inN (jl_ch2 149 (by decide +kernel)) rfl
theorem jw_390 : (Jvm.Cond.fieldLink "LieCandles$Sight" (19 : Nat) "LieCandles$Sight" "lengths" "[I") ∈ jl_tbl := jl_inT (jl_ch2 150 (by decide +kernel)) rfl
theorem jw_391 : (Jvm.Cond.fieldLinkNest "LieCandles" (316 : Nat) "LieCandles$Sight" "lengths" "[I" "LieCandles") ∈ jl_nw := jl_inN (jl_ch2 151 (by decide +kernel)) rfl
theorem jw_392 : (Jvm.Cond.fieldLink "LieCandles$Sight" (22 : Nat) "LieCandles$Sight" "count" "I") ∈ jl_tbl := jl_inT (jl_ch2 152 (by decide +kernel)) rfl
theorem jw_393 : (Jvm.Cond.fieldLinkNest "LieCandles" (315 : Nat) "LieCandles$Sight" "count" "I" "LieCandles") ∈ jl_nw := jl_inN (jl_ch2 153 (by decide +kernel)) rfl
theorem jw_394 : (Jvm.Cond.fieldLink "LieCandles$Sight" (25 : Nat) "LieCandles$Sight" "tally" "[I") ∈ jl_tbl := jl_inT (jl_ch2 154 (by decide +kernel)) rfl
theorem jw_395 : (Jvm.Cond.fieldLink "LieCandles$Sight" (28 : Nat) "LieCandles$Sight" "tellingHours" "I") ∈ jl_tbl := jl_inT (jl_ch2 155 (by decide +kernel)) rfl
theorem jw_396 : (Jvm.Cond.fieldLinkNest "LieCandles" (322 : Nat) "LieCandles$Sight" "tellingHours" "I" "LieCandles") ∈ jl_nw := jl_inN (jl_ch2 156 (by decide +kernel)) rfl
theorem jw_397 : (Jvm.Cond.fieldLink "LieCandles$Sight" (31 : Nat) "LieCandles$Sight" "tellingWindow" "I") ∈ jl_tbl := jl_inT (jl_ch2 157 (by decide +kernel)) rfl
theorem jw_398 : (Jvm.Cond.fieldLinkNest "LieCandles" (325 : Nat) "LieCandles$Sight" "tellingWindow" "I" "LieCandles") ∈ jl_nw := jl_inN (jl_ch2 158 (by decide +kernel)) rfl
theorem jw_399 : (Jvm.Cond.fieldLink "LieCandles$Sight" (34 : Nat) "LieCandles$Sight" "tellingLeft" "I") ∈ jl_tbl := jl_inT (jl_ch2 159 (by decide +kernel)) rfl
theorem jw_400 : (Jvm.Cond.fieldLinkNest "LieCandles" (328 : Nat) "LieCandles$Sight" "tellingLeft" "I" "LieCandles") ∈ jl_nw := jl_inN (jl_ch2 160 (by decide +kernel)) rfl
theorem jw_424 : (Jvm.Cond.fieldLink "LieCandles" (12 : Nat) "LieCandles" "tape" "LLieCandles$Tape;") ∈ jl_tbl := jl_inT (jl_ch2 184 (by decide +kernel)) rfl
theorem jw_425 : (Jvm.Cond.fieldLink "LieCandles" (19 : Nat) "LieCandles" "question" "LLieCandles$Code;") ∈ jl_tbl := jl_inT (jl_ch2 185 (by decide +kernel)) rfl
theorem jw_426 : (Jvm.Cond.fieldLink "LieCandles" (26 : Nat) "LieCandles" "here" "LLieCandles$Street;") ∈ jl_tbl := jl_inT (jl_ch2 186 (by decide +kernel)) rfl
theorem jw_427 : (Jvm.Cond.fieldLink "LieCandles" (30 : Nat) "LieCandles" "spare" "LLieCandles$Street;") ∈ jl_tbl := jl_inT (jl_ch2 187 (by decide +kernel)) rfl
theorem jw_428 : (Jvm.Cond.fieldLink "LieCandles" (38 : Nat) "LieCandles" "reader" "LLieCandles$Reader;") ∈ jl_tbl := jl_inT (jl_ch2 188 (by decide +kernel)) rfl
theorem jw_429 : (Jvm.Cond.fieldLink "LieCandles" (47 : Nat) "LieCandles" "streetReader" "LLieCandles$StreetReader;") ∈ jl_tbl := jl_inT (jl_ch2 189 (by decide +kernel)) rfl
theorem jw_430 : (Jvm.Cond.fieldLink "LieCandles" (54 : Nat) "LieCandles" "now" "LLieCandles$State;") ∈ jl_tbl := jl_inT (jl_ch2 190 (by decide +kernel)) rfl
theorem jw_431 : (Jvm.Cond.fieldLink "LieCandles" (61 : Nat) "LieCandles" "log" "LLieCandles$Log;") ∈ jl_tbl := jl_inT (jl_ch2 191 (by decide +kernel)) rfl
theorem jw_432 : (Jvm.Cond.fieldLink "LieCandles" (68 : Nat) "LieCandles" "past" "LLieCandles$Past;") ∈ jl_tbl := jl_inT (jl_ch2 192 (by decide +kernel)) rfl
theorem jw_433 : (Jvm.Cond.fieldLink "LieCandles" (77 : Nat) "LieCandles" "reckoner" "LLieCandles$Reckoner;") ∈ jl_tbl := jl_inT (jl_ch2 193 (by decide +kernel)) rfl
theorem jw_434 : (Jvm.Cond.fieldLink "LieCandles" (86 : Nat) "LieCandles" "foresight" "LLieCandles$Foresight;") ∈ jl_tbl := jl_inT (jl_ch2 194 (by decide +kernel)) rfl
theorem jw_435 : (Jvm.Cond.fieldLink "LieCandles" (95 : Nat) "LieCandles" "sight" "LLieCandles$Sight;") ∈ jl_tbl := jl_inT (jl_ch2 195 (by decide +kernel)) rfl
theorem jw_436 : (Jvm.Cond.fieldLink "LieCandles" (99 : Nat) "LieCandles" "picture" "[I") ∈ jl_tbl := jl_inT (jl_ch2 196 (by decide +kernel)) rfl
theorem jw_437 : (Jvm.Cond.fieldLink "LieCandles" (103 : Nat) "LieCandles" "pictureSize" "I") ∈ jl_tbl := jl_inT (jl_ch2 197 (by decide +kernel)) rfl
theorem jw_438 : (Jvm.Cond.fieldLink "LieCandles" (107 : Nat) "LieCandles" "refused" "[I") ∈ jl_tbl := jl_inT (jl_ch2 198 (by decide +kernel)) rfl
theorem jw_439 : (Jvm.Cond.fieldLink "LieCandles" (110 : Nat) "LieCandles" "latestFault" "I") ∈ jl_tbl := jl_inT (jl_ch2 199 (by decide +kernel)) rfl
theorem jw_440 : (Jvm.Cond.fieldLink "LieCandles" (113 : Nat) "LieCandles" "latestPlace" "I") ∈ jl_tbl := jl_inT (jl_ch2 200 (by decide +kernel)) rfl
theorem jw_441 : (Jvm.Cond.fieldLink "LieCandles" (116 : Nat) "LieCandles" "drawn" "I") ∈ jl_tbl := jl_inT (jl_ch2 201 (by decide +kernel)) rfl
theorem jw_479 : (Jvm.Cond.methodLink "LieCandlesLaw" (13 : Nat) ({ cls := "LieCandles", name := "feed", desc := "(IIIII)I" } : Jvm.MethodName)) ∈ jl_tbl := jl_inT (jl_ch2 239 (by decide +kernel)) rfl
theorem jw_480 : (Jvm.Cond.instanceMethod ({ cls := "LieCandles", name := "feed", desc := "(IIIII)I" } : Jvm.MethodName)) ∈ jl_tbl := jl_inT (jl_ch3 0 (by decide +kernel)) rfl
theorem jw_481 : (Jvm.Cond.selects "LieCandles" ({ cls := "LieCandles", name := "feed", desc := "(IIIII)I" } : Jvm.MethodName) ({ cls := "LieCandles", name := "feed", desc := "(IIIII)I" } : Jvm.MethodName)) ∈ jl_tbl := jl_inT (jl_ch3 1 (by decide +kernel)) rfl
theorem jw_482 : (Jvm.Cond.code ({ cls := "LieCandles", name := "feed", desc := "(IIIII)I" } : Jvm.MethodName) prog_1_method_2_code (6 : Nat) (Option.some Jvm.ClassFile.FieldType.int)) ∈ jl_tbl := jl_inT (jl_ch3 2 (rfl)) rfl
theorem jw_483 : (Jvm.Cond.methodLink "LieCandles" (122 : Nat) ({ cls := "LieCandles", name := "refuse", desc := "(I)I" } : Jvm.MethodName)) ∈ jl_tbl := jl_inT (jl_ch3 3 (by decide +kernel)) rfl
theorem jw_485 : (Jvm.Cond.instanceMethod ({ cls := "LieCandles", name := "refuse", desc := "(I)I" } : Jvm.MethodName)) ∈ jl_tbl := jl_inT (jl_ch3 5 (by decide +kernel)) rfl
theorem jw_486 : (Jvm.Cond.code ({ cls := "LieCandles", name := "refuse", desc := "(I)I" } : Jvm.MethodName) prog_1_method_38_code (2 : Nat) (Option.some Jvm.ClassFile.FieldType.int)) ∈ jl_tbl := jl_inT (jl_ch3 6 (rfl)) rfl
theorem jw_487 : (Jvm.Cond.methodLink "LieCandles" (126 : Nat) ({ cls := "LieCandles$Tape", name := "append", desc := "(I)V" } : Jvm.MethodName)) ∈ jl_tbl := jl_inT (jl_ch3 7 (by decide +kernel)) rfl
theorem jw_488 : (Jvm.Cond.instanceMethod ({ cls := "LieCandles$Tape", name := "append", desc := "(I)V" } : Jvm.MethodName)) ∈ jl_tbl := jl_inT (jl_ch3 8 (by decide +kernel)) rfl
theorem jw_489 : (Jvm.Cond.selects "LieCandles$Tape" ({ cls := "LieCandles$Tape", name := "append", desc := "(I)V" } : Jvm.MethodName) ({ cls := "LieCandles$Tape", name := "append", desc := "(I)V" } : Jvm.MethodName)) ∈ jl_tbl := jl_inT (jl_ch3 9 (by decide +kernel)) rfl
theorem jw_490 : (Jvm.Cond.code ({ cls := "LieCandles$Tape", name := "append", desc := "(I)V" } : Jvm.MethodName) prog_12_method_2_code (3 : Nat) (Option.none : Option Jvm.ClassFile.FieldType)) ∈ jl_tbl := jl_inT (jl_ch3 10 (rfl)) rfl
theorem jw_491 : (Jvm.Cond.methodLink "LieCandlesLaw" (18 : Nat) ({ cls := "LieCandles", name := "end", desc := "(I)Z" } : Jvm.MethodName)) ∈ jl_tbl := jl_inT (jl_ch3 11 (by decide +kernel)) rfl
theorem jw_492 : (Jvm.Cond.instanceMethod ({ cls := "LieCandles", name := "end", desc := "(I)Z" } : Jvm.MethodName)) ∈ jl_tbl := jl_inT (jl_ch3 12 (by decide +kernel)) rfl
theorem jw_493 : (Jvm.Cond.selects "LieCandles" ({ cls := "LieCandles", name := "end", desc := "(I)Z" } : Jvm.MethodName) ({ cls := "LieCandles", name := "end", desc := "(I)Z" } : Jvm.MethodName)) ∈ jl_tbl := jl_inT (jl_ch3 13 (by decide +kernel)) rfl
theorem jw_494 : (Jvm.Cond.code ({ cls := "LieCandles", name := "end", desc := "(I)Z" } : Jvm.MethodName) prog_1_method_3_code (2 : Nat) (Option.some Jvm.ClassFile.FieldType.boolean)) ∈ jl_tbl := jl_inT (jl_ch3 14 (rfl)) rfl
theorem jw_495 : (Jvm.Cond.methodLink "LieCandles" (130 : Nat) ({ cls := "LieCandles", name := "deny", desc := "(I)Z" } : Jvm.MethodName)) ∈ jl_tbl := jl_inT (jl_ch3 15 (by decide +kernel)) rfl
theorem jw_497 : (Jvm.Cond.instanceMethod ({ cls := "LieCandles", name := "deny", desc := "(I)Z" } : Jvm.MethodName)) ∈ jl_tbl := jl_inT (jl_ch3 17 (by decide +kernel)) rfl
theorem jw_498 : (Jvm.Cond.code ({ cls := "LieCandles", name := "deny", desc := "(I)Z" } : Jvm.MethodName) prog_1_method_39_code (2 : Nat) (Option.some Jvm.ClassFile.FieldType.boolean)) ∈ jl_tbl := jl_inT (jl_ch3 18 (rfl)) rfl
theorem jw_499 : (Jvm.Cond.methodLink "LieCandlesLaw" (23 : Nat) ({ cls := "LieCandles", name := "street", desc := "()I" } : Jvm.MethodName)) ∈ jl_tbl := jl_inT (jl_ch3 19 (by decide +kernel)) rfl
theorem jw_500 : (Jvm.Cond.instanceMethod ({ cls := "LieCandles", name := "street", desc := "()I" } : Jvm.MethodName)) ∈ jl_tbl := jl_inT (jl_ch3 20 (by decide +kernel)) rfl
theorem jw_501 : (Jvm.Cond.selects "LieCandles" ({ cls := "LieCandles", name := "street", desc := "()I" } : Jvm.MethodName) ({ cls := "LieCandles", name := "street", desc := "()I" } : Jvm.MethodName)) ∈ jl_tbl := jl_inT (jl_ch3 21 (by decide +kernel)) rfl
theorem jw_502 : (Jvm.Cond.code ({ cls := "LieCandles", name := "street", desc := "()I" } : Jvm.MethodName) prog_1_method_4_code (2 : Nat) (Option.some Jvm.ClassFile.FieldType.int)) ∈ jl_tbl := jl_inT (jl_ch3 22 (rfl)) rfl
theorem jw_503 : (Jvm.Cond.methodLink "LieCandles" (134 : Nat) ({ cls := "LieCandles$StreetReader", name := "readAll", desc := "(LLieCandles$Street;)V" } : Jvm.MethodName)) ∈ jl_tbl := jl_inT (jl_ch3 23 (by decide +kernel)) rfl
theorem jw_504 : (Jvm.Cond.instanceMethod ({ cls := "LieCandles$StreetReader", name := "readAll", desc := "(LLieCandles$Street;)V" } : Jvm.MethodName)) ∈ jl_tbl := jl_inT (jl_ch3 24 (by decide +kernel)) rfl
theorem jw_505 : (Jvm.Cond.selects "LieCandles$StreetReader" ({ cls := "LieCandles$StreetReader", name := "readAll", desc := "(LLieCandles$Street;)V" } : Jvm.MethodName) ({ cls := "LieCandles$StreetReader", name := "readAll", desc := "(LLieCandles$Street;)V" } : Jvm.MethodName)) ∈ jl_tbl := jl_inT (jl_ch3 25 (by decide +kernel)) rfl
theorem jw_506 : (Jvm.Cond.code ({ cls := "LieCandles$StreetReader", name := "readAll", desc := "(LLieCandles$Street;)V" } : Jvm.MethodName) prog_11_method_2_code (5 : Nat) (Option.none : Option Jvm.ClassFile.FieldType)) ∈ jl_tbl := jl_inT (jl_ch3 26 (rfl)) rfl
theorem jw_507 : (Jvm.Cond.methodLink "LieCandles$StreetReader" (19 : Nat) ({ cls := "LieCandles$Street", name := "clear", desc := "()V" } : Jvm.MethodName)) ∈ jl_tbl := jl_inT (jl_ch3 27 (by decide +kernel)) rfl
theorem jw_508 : (Jvm.Cond.instanceMethod ({ cls := "LieCandles$Street", name := "clear", desc := "()V" } : Jvm.MethodName)) ∈ jl_tbl := jl_inT (jl_ch3 28 (by decide +kernel)) rfl
theorem jw_509 : (Jvm.Cond.selects "LieCandles$Street" ({ cls := "LieCandles$Street", name := "clear", desc := "()V" } : Jvm.MethodName) ({ cls := "LieCandles$Street", name := "clear", desc := "()V" } : Jvm.MethodName)) ∈ jl_tbl := jl_inT (jl_ch3 29 (by decide +kernel)) rfl
theorem jw_510 : (Jvm.Cond.code ({ cls := "LieCandles$Street", name := "clear", desc := "()V" } : Jvm.MethodName) prog_10_method_2_code (1 : Nat) (Option.none : Option Jvm.ClassFile.FieldType)) ∈ jl_tbl := jl_inT (jl_ch3 30 (rfl)) rfl
theorem jw_511 : (Jvm.Cond.methodLink "LieCandles$StreetReader" (28 : Nat) ({ cls := "LieCandles$Reader", name := "start", desc := "(LLieCandles$Code;)V" } : Jvm.MethodName)) ∈ jl_tbl := jl_inT (jl_ch3 31 (by decide +kernel)) rfl
theorem jw_512 : (Jvm.Cond.instanceMethod ({ cls := "LieCandles$Reader", name := "start", desc := "(LLieCandles$Code;)V" } : Jvm.MethodName)) ∈ jl_tbl := jl_inT (jl_ch3 32 (by decide +kernel)) rfl
theorem jw_513 : (Jvm.Cond.selects "LieCandles$Reader" ({ cls := "LieCandles$Reader", name := "start", desc := "(LLieCandles$Code;)V" } : Jvm.MethodName) ({ cls := "LieCandles$Reader", name := "start", desc := "(LLieCandles$Code;)V" } : Jvm.MethodName)) ∈ jl_tbl := jl_inT (jl_ch3 33 (by decide +kernel)) rfl
theorem jw_514 : (Jvm.Cond.code ({ cls := "LieCandles$Reader", name := "start", desc := "(LLieCandles$Code;)V" } : Jvm.MethodName) prog_6_method_2_code (2 : Nat) (Option.none : Option Jvm.ClassFile.FieldType)) ∈ jl_tbl := jl_inT (jl_ch3 34 (rfl)) rfl
theorem jw_515 : (Jvm.Cond.methodLink "LieCandles$Reader" (41 : Nat) ({ cls := "LieCandles$Code", name := "clear", desc := "()V" } : Jvm.MethodName)) ∈ jl_tbl := jl_inT (jl_ch3 35 (by decide +kernel)) rfl
theorem jw_516 : (Jvm.Cond.instanceMethod ({ cls := "LieCandles$Code", name := "clear", desc := "()V" } : Jvm.MethodName)) ∈ jl_tbl := jl_inT (jl_ch3 36 (by decide +kernel)) rfl
theorem jw_517 : (Jvm.Cond.selects "LieCandles$Code" ({ cls := "LieCandles$Code", name := "clear", desc := "()V" } : Jvm.MethodName) ({ cls := "LieCandles$Code", name := "clear", desc := "()V" } : Jvm.MethodName)) ∈ jl_tbl := jl_inT (jl_ch3 37 (by decide +kernel)) rfl
theorem jw_518 : (Jvm.Cond.code ({ cls := "LieCandles$Code", name := "clear", desc := "()V" } : Jvm.MethodName) prog_2_method_2_code (2 : Nat) (Option.none : Option Jvm.ClassFile.FieldType)) ∈ jl_tbl := jl_inT (jl_ch3 38 (rfl)) rfl
theorem jw_519 : (Jvm.Cond.methodLink "LieCandles$StreetReader" (34 : Nat) ({ cls := "LieCandles$Reader", name := "peek", desc := "()I" } : Jvm.MethodName)) ∈ jl_tbl := jl_inT (jl_ch3 39 (by decide +kernel)) rfl
theorem jw_520 : (Jvm.Cond.instanceMethod ({ cls := "LieCandles$Reader", name := "peek", desc := "()I" } : Jvm.MethodName)) ∈ jl_tbl := jl_inT (jl_ch3 40 (by decide +kernel)) rfl
theorem jw_521 : (Jvm.Cond.selects "LieCandles$Reader" ({ cls := "LieCandles$Reader", name := "peek", desc := "()I" } : Jvm.MethodName) ({ cls := "LieCandles$Reader", name := "peek", desc := "()I" } : Jvm.MethodName)) ∈ jl_tbl := jl_inT (jl_ch3 41 (by decide +kernel)) rfl
theorem jw_522 : (Jvm.Cond.code ({ cls := "LieCandles$Reader", name := "peek", desc := "()I" } : Jvm.MethodName) prog_6_method_4_code (2 : Nat) (Option.some Jvm.ClassFile.FieldType.int)) ∈ jl_tbl := jl_inT (jl_ch3 42 (rfl)) rfl
theorem jw_523 : (Jvm.Cond.methodLink "LieCandles$StreetReader" (42 : Nat) ({ cls := "LieCandles$Reader", name := "fail", desc := "(II)V" } : Jvm.MethodName)) ∈ jl_tbl := jl_inT (jl_ch3 43 (by decide +kernel)) rfl
theorem jw_524 : (Jvm.Cond.instanceMethod ({ cls := "LieCandles$Reader", name := "fail", desc := "(II)V" } : Jvm.MethodName)) ∈ jl_tbl := jl_inT (jl_ch3 44 (by decide +kernel)) rfl
theorem jw_525 : (Jvm.Cond.selects "LieCandles$Reader" ({ cls := "LieCandles$Reader", name := "fail", desc := "(II)V" } : Jvm.MethodName) ({ cls := "LieCandles$Reader", name := "fail", desc := "(II)V" } : Jvm.MethodName)) ∈ jl_tbl := jl_inT (jl_ch3 45 (by decide +kernel)) rfl
theorem jw_526 : (Jvm.Cond.code ({ cls := "LieCandles$Reader", name := "fail", desc := "(II)V" } : Jvm.MethodName) prog_6_method_3_code (3 : Nat) (Option.none : Option Jvm.ClassFile.FieldType)) ∈ jl_tbl := jl_inT (jl_ch3 46 (rfl)) rfl
theorem jw_527 : (Jvm.Cond.methodLink "LieCandles$StreetReader" (46 : Nat) ({ cls := "LieCandles$Reader", name := "peekWord", desc := "()I" } : Jvm.MethodName)) ∈ jl_tbl := jl_inT (jl_ch3 47 (by decide +kernel)) rfl
theorem jw_528 : (Jvm.Cond.instanceMethod ({ cls := "LieCandles$Reader", name := "peekWord", desc := "()I" } : Jvm.MethodName)) ∈ jl_tbl := jl_inT (jl_ch3 48 (by decide +kernel)) rfl
theorem jw_529 : (Jvm.Cond.selects "LieCandles$Reader" ({ cls := "LieCandles$Reader", name := "peekWord", desc := "()I" } : Jvm.MethodName) ({ cls := "LieCandles$Reader", name := "peekWord", desc := "()I" } : Jvm.MethodName)) ∈ jl_tbl := jl_inT (jl_ch3 49 (by decide +kernel)) rfl
theorem jw_530 : (Jvm.Cond.code ({ cls := "LieCandles$Reader", name := "peekWord", desc := "()I" } : Jvm.MethodName) prog_6_method_5_code (2 : Nat) (Option.some Jvm.ClassFile.FieldType.int)) ∈ jl_tbl := jl_inT (jl_ch3 50 (rfl)) rfl
theorem jw_531 : (Jvm.Cond.methodLink "LieCandles$Reader" (55 : Nat) ({ cls := "LieCandles$Reader", name := "peek", desc := "()I" } : Jvm.MethodName)) ∈ jl_tbl := jl_inT (jl_ch3 51 (by decide +kernel)) rfl
theorem jw_532 : (Jvm.Cond.methodLink "LieCandles$Reader" (59 : Nat) ({ cls := "LieCandles$Reader", name := "isLetter", desc := "(I)Z" } : Jvm.MethodName)) ∈ jl_tbl := jl_inT (jl_ch3 52 (by decide +kernel)) rfl
theorem jw_533 : (Jvm.Cond.static ({ cls := "LieCandles$Reader", name := "isLetter", desc := "(I)Z" } : Jvm.MethodName)) ∈ jl_tbl := jl_inT (jl_ch3 53 (by decide +kernel)) rfl
theorem jw_534 : (Jvm.Cond.code ({ cls := "LieCandles$Reader", name := "isLetter", desc := "(I)Z" } : Jvm.MethodName) prog_6_method_23_code (1 : Nat) (Option.some Jvm.ClassFile.FieldType.boolean)) ∈ jl_tbl := jl_inT (jl_ch3 54 (rfl)) rfl
theorem jw_535 : (Jvm.Cond.methodLink "LieCandles$Reader" (63 : Nat) ({ cls := "LieCandles$Tape", name := "byteAt", desc := "(I)I" } : Jvm.MethodName)) ∈ jl_tbl := jl_inT (jl_ch3 55 (by decide +kernel)) rfl
theorem jw_536 : (Jvm.Cond.instanceMethod ({ cls := "LieCandles$Tape", name := "byteAt", desc := "(I)I" } : Jvm.MethodName)) ∈ jl_tbl := jl_inT (jl_ch3 56 (by decide +kernel)) rfl
theorem jw_537 : (Jvm.Cond.selects "LieCandles$Tape" ({ cls := "LieCandles$Tape", name := "byteAt", desc := "(I)I" } : Jvm.MethodName) ({ cls := "LieCandles$Tape", name := "byteAt", desc := "(I)I" } : Jvm.MethodName)) ∈ jl_tbl := jl_inT (jl_ch3 57 (by decide +kernel)) rfl
theorem jw_538 : (Jvm.Cond.code ({ cls := "LieCandles$Tape", name := "byteAt", desc := "(I)I" } : Jvm.MethodName) prog_12_method_3_code (2 : Nat) (Option.some Jvm.ClassFile.FieldType.int)) ∈ jl_tbl := jl_inT (jl_ch3 58 (rfl)) rfl
theorem jw_539 : (Jvm.Cond.methodLink "LieCandles$Reader" (67 : Nat) ({ cls := "LieCandles$Reader", name := "isInWord", desc := "(I)Z" } : Jvm.MethodName)) ∈ jl_tbl := jl_inT (jl_ch3 59 (by decide +kernel)) rfl
theorem jw_540 : (Jvm.Cond.static ({ cls := "LieCandles$Reader", name := "isInWord", desc := "(I)Z" } : Jvm.MethodName)) ∈ jl_tbl := jl_inT (jl_ch3 60 (by decide +kernel)) rfl
theorem jw_541 : (Jvm.Cond.code ({ cls := "LieCandles$Reader", name := "isInWord", desc := "(I)Z" } : Jvm.MethodName) prog_6_method_25_code (1 : Nat) (Option.some Jvm.ClassFile.FieldType.boolean)) ∈ jl_tbl := jl_inT (jl_ch3 61 (rfl)) rfl
theorem jw_542 : (Jvm.Cond.methodLink "LieCandles$Reader" (70 : Nat) ({ cls := "LieCandles$Reader", name := "wordNumber", desc := "()I" } : Jvm.MethodName)) ∈ jl_tbl := jl_inT (jl_ch3 62 (by decide +kernel)) rfl
theorem jw_544 : (Jvm.Cond.instanceMethod ({ cls := "LieCandles$Reader", name := "wordNumber", desc := "()I" } : Jvm.MethodName)) ∈ jl_tbl := jl_inT (jl_ch3 64 (by decide +kernel)) rfl
theorem jw_545 : (Jvm.Cond.code ({ cls := "LieCandles$Reader", name := "wordNumber", desc := "()I" } : Jvm.MethodName) prog_6_method_22_code (6 : Nat) (Option.some Jvm.ClassFile.FieldType.int)) ∈ jl_tbl := jl_inT (jl_ch3 65 (rfl)) rfl
theorem jw_547 : (Jvm.Cond.methodLink "LieCandles$Reader" (139 : Nat) ({ cls := "java/lang/String", name := "length", desc := "()I" } : Jvm.MethodName)) ∈ jl_tbl := jl_inT (jl_ch3 67 (by decide +kernel)) rfl
theorem jw_548 : (Jvm.Cond.instanceMethod ({ cls := "java/lang/String", name := "length", desc := "()I" } : Jvm.MethodName)) ∈ jl_tbl := jl_inT (jl_ch3 68 (by decide +kernel)) rfl
theorem jw_549 : (Jvm.Cond.selects "java/lang/String" ({ cls := "java/lang/String", name := "length", desc := "()I" } : Jvm.MethodName) ({ cls := "java/lang/String", name := "length", desc := "()I" } : Jvm.MethodName)) ∈ jl_tbl := jl_inT (jl_ch3 69 (by decide +kernel)) rfl
theorem jw_550 : (Jvm.Cond.code ({ cls := "java/lang/String", name := "length", desc := "()I" } : Jvm.MethodName) prog_17_method_54_code (1 : Nat) (Option.some Jvm.ClassFile.FieldType.int)) ∈ jl_tbl := jl_inT (jl_ch3 70 (rfl)) rfl
theorem jw_551 : (Jvm.Cond.methodLink "java/lang/String" (335 : Nat) ({ cls := "java/lang/String", name := "coder", desc := "()B" } : Jvm.MethodName)) ∈ jl_tbl := jl_inT (jl_ch3 71 (by decide +kernel)) rfl
theorem jw_552 : (Jvm.Cond.instanceMethod ({ cls := "java/lang/String", name := "coder", desc := "()B" } : Jvm.MethodName)) ∈ jl_tbl := jl_inT (jl_ch3 72 (by decide +kernel)) rfl
theorem jw_553 : (Jvm.Cond.selects "java/lang/String" ({ cls := "java/lang/String", name := "coder", desc := "()B" } : Jvm.MethodName) ({ cls := "java/lang/String", name := "coder", desc := "()B" } : Jvm.MethodName)) ∈ jl_tbl := jl_inT (jl_ch3 73 (by decide +kernel)) rfl
theorem jw_554 : (Jvm.Cond.code ({ cls := "java/lang/String", name := "coder", desc := "()B" } : Jvm.MethodName) prog_17_method_152_code (1 : Nat) (Option.some Jvm.ClassFile.FieldType.byte)) ∈ jl_tbl := jl_inT (jl_ch3 74 (rfl)) rfl
theorem jw_555 : (Jvm.Cond.fieldLink "java/lang/String" (38 : Nat) "java/lang/String" "COMPACT_STRINGS" "Z") ∈ jl_tbl := jl_inT (jl_ch3 75 (by decide +kernel)) rfl
theorem jw_557 : (Jvm.Cond.methodLink "LieCandles$Reader" (143 : Nat) ({ cls := "java/lang/String", name := "charAt", desc := "(I)C" } : Jvm.MethodName)) ∈ jl_tbl := jl_inT (jl_ch3 77 (by decide +kernel)) rfl
theorem jw_558 : (Jvm.Cond.instanceMethod ({ cls := "java/lang/String", name := "charAt", desc := "(I)C" } : Jvm.MethodName)) ∈ jl_tbl := jl_inT (jl_ch3 78 (by decide +kernel)) rfl
theorem jw_559 : (Jvm.Cond.selects "java/lang/String" ({ cls := "java/lang/String", name := "charAt", desc := "(I)C" } : Jvm.MethodName) ({ cls := "java/lang/String", name := "charAt", desc := "(I)C" } : Jvm.MethodName)) ∈ jl_tbl := jl_inT (jl_ch3 79 (by decide +kernel)) rfl
theorem jw_560 : (Jvm.Cond.code ({ cls := "java/lang/String", name := "charAt", desc := "(I)C" } : Jvm.MethodName) prog_17_method_56_code (2 : Nat) (Option.some Jvm.ClassFile.FieldType.char)) ∈ jl_tbl := jl_inT (jl_ch3 80 (rfl)) rfl
theorem jw_561 : (Jvm.Cond.methodLink "java/lang/String" (492 : Nat) ({ cls := "java/lang/String", name := "isLatin1", desc := "()Z" } : Jvm.MethodName)) ∈ jl_tbl := jl_inT (jl_ch3 81 (by decide +kernel)) rfl
theorem jw_562 : (Jvm.Cond.instanceMethod ({ cls := "java/lang/String", name := "isLatin1", desc := "()Z" } : Jvm.MethodName)) ∈ jl_tbl := jl_inT (jl_ch3 82 (by decide +kernel)) rfl
theorem jw_563 : (Jvm.Cond.selects "java/lang/String" ({ cls := "java/lang/String", name := "isLatin1", desc := "()Z" } : Jvm.MethodName) ({ cls := "java/lang/String", name := "isLatin1", desc := "()Z" } : Jvm.MethodName)) ∈ jl_tbl := jl_inT (jl_ch3 83 (by decide +kernel)) rfl
theorem jw_564 : (Jvm.Cond.code ({ cls := "java/lang/String", name := "isLatin1", desc := "()Z" } : Jvm.MethodName) prog_17_method_154_code (1 : Nat) (Option.some Jvm.ClassFile.FieldType.boolean)) ∈ jl_tbl := jl_inT (jl_ch3 84 (rfl)) rfl
theorem jw_565 : (Jvm.Cond.methodLink "java/lang/String" (495 : Nat) ({ cls := "java/lang/StringLatin1", name := "charAt", desc := "([BI)C" } : Jvm.MethodName)) ∈ jl_tbl := jl_inT (jl_ch3 85 (by decide +kernel)) rfl
theorem jw_566 : (Jvm.Cond.static ({ cls := "java/lang/StringLatin1", name := "charAt", desc := "([BI)C" } : Jvm.MethodName)) ∈ jl_tbl := jl_inT (jl_ch3 86 (by decide +kernel)) rfl
theorem jw_567 : (Jvm.Cond.code ({ cls := "java/lang/StringLatin1", name := "charAt", desc := "([BI)C" } : Jvm.MethodName) prog_18_method_2_code (2 : Nat) (Option.some Jvm.ClassFile.FieldType.char)) ∈ jl_tbl := jl_inT (jl_ch3 87 (rfl)) rfl
theorem jw_568 : (Jvm.Cond.methodLink "java/lang/StringLatin1" (9 : Nat) ({ cls := "java/lang/String", name := "checkIndex", desc := "(II)V" } : Jvm.MethodName)) ∈ jl_tbl := jl_inT (jl_ch3 88 (by decide +kernel)) rfl
theorem jw_569 : (Jvm.Cond.static ({ cls := "java/lang/String", name := "checkIndex", desc := "(II)V" } : Jvm.MethodName)) ∈ jl_tbl := jl_inT (jl_ch3 89 (by decide +kernel)) rfl
theorem jw_570 : (Jvm.Cond.code ({ cls := "java/lang/String", name := "checkIndex", desc := "(II)V" } : Jvm.MethodName) prog_17_method_155_code (2 : Nat) (Option.none : Option Jvm.ClassFile.FieldType)) ∈ jl_tbl := jl_inT (jl_ch3 90 (rfl)) rfl
theorem jw_571 : (Jvm.Cond.fieldLink "java/lang/String" (1053 : Nat) "jdk/internal/util/Preconditions" "SIOOBE_FORMATTER" "Ljava/util/function/BiFunction;") ∈ jl_tbl := jl_inT (jl_ch3 91 (by decide +kernel)) rfl
theorem jw_573 : (Jvm.Cond.methodLink "java/lang/String" (1059 : Nat) ({ cls := "jdk/internal/util/Preconditions", name := "checkIndex", desc := "(IILjava/util/function/BiFunction;)I" } : Jvm.MethodName)) ∈ jl_tbl := jl_inT (jl_ch3 93 (by decide +kernel)) rfl
theorem jw_574 : (Jvm.Cond.static ({ cls := "jdk/internal/util/Preconditions", name := "checkIndex", desc := "(IILjava/util/function/BiFunction;)I" } : Jvm.MethodName)) ∈ jl_tbl := jl_inT (jl_ch3 94 (by decide +kernel)) rfl
theorem jw_575 : (Jvm.Cond.code ({ cls := "jdk/internal/util/Preconditions", name := "checkIndex", desc := "(IILjava/util/function/BiFunction;)I" } : Jvm.MethodName) prog_21_method_11_code (3 : Nat) (Option.some Jvm.ClassFile.FieldType.int)) ∈ jl_tbl := jl_inT (jl_ch3 95 (rfl)) rfl
theorem jw_576 : (Jvm.Cond.methodLink "java/lang/String" (498 : Nat) ({ cls := "java/lang/StringUTF16", name := "charAt", desc := "([BI)C" } : Jvm.MethodName)) ∈ jl_tbl := jl_inT (jl_ch3 96 (by decide +kernel)) rfl
theorem jw_577 : (Jvm.Cond.static ({ cls := "java/lang/StringUTF16", name := "charAt", desc := "([BI)C" } : Jvm.MethodName)) ∈ jl_tbl := jl_inT (jl_ch3 97 (by decide +kernel)) rfl
theorem jw_578 : (Jvm.Cond.code ({ cls := "java/lang/StringUTF16", name := "charAt", desc := "([BI)C" } : Jvm.MethodName) prog_19_method_83_code (2 : Nat) (Option.some Jvm.ClassFile.FieldType.char)) ∈ jl_tbl := jl_inT (jl_ch3 98 (rfl)) rfl
theorem jw_579 : (Jvm.Cond.methodLink "java/lang/StringUTF16" (67 : Nat) ({ cls := "java/lang/StringUTF16", name := "checkIndex", desc := "(I[B)V" } : Jvm.MethodName)) ∈ jl_tbl := jl_inT (jl_ch3 99 (by decide +kernel)) rfl
theorem jw_580 : (Jvm.Cond.static ({ cls := "java/lang/StringUTF16", name := "checkIndex", desc := "(I[B)V" } : Jvm.MethodName)) ∈ jl_tbl := jl_inT (jl_ch3 100 (by decide +kernel)) rfl
theorem jw_581 : (Jvm.Cond.code ({ cls := "java/lang/StringUTF16", name := "checkIndex", desc := "(I[B)V" } : Jvm.MethodName) prog_19_method_91_code (2 : Nat) (Option.none : Option Jvm.ClassFile.FieldType)) ∈ jl_tbl := jl_inT (jl_ch3 101 (rfl)) rfl
theorem jw_582 : (Jvm.Cond.methodLink "java/lang/StringUTF16" (48 : Nat) ({ cls := "java/lang/StringUTF16", name := "length", desc := "([B)I" } : Jvm.MethodName)) ∈ jl_tbl := jl_inT (jl_ch3 102 (by decide +kernel)) rfl
theorem jw_583 : (Jvm.Cond.static ({ cls := "java/lang/StringUTF16", name := "length", desc := "([B)I" } : Jvm.MethodName)) ∈ jl_tbl := jl_inT (jl_ch3 103 (by decide +kernel)) rfl
theorem jw_584 : (Jvm.Cond.code ({ cls := "java/lang/StringUTF16", name := "length", desc := "([B)I" } : Jvm.MethodName) prog_19_method_6_code (1 : Nat) (Option.some Jvm.ClassFile.FieldType.int)) ∈ jl_tbl := jl_inT (jl_ch3 104 (rfl)) rfl
theorem jw_585 : (Jvm.Cond.methodLink "java/lang/StringUTF16" (414 : Nat) ({ cls := "java/lang/String", name := "checkIndex", desc := "(II)V" } : Jvm.MethodName)) ∈ jl_tbl := jl_inT (jl_ch3 105 (by decide +kernel)) rfl
theorem jw_586 : (Jvm.Cond.methodLink "java/lang/StringUTF16" (71 : Nat) ({ cls := "java/lang/StringUTF16", name := "getChar", desc := "([BI)C" } : Jvm.MethodName)) ∈ jl_tbl := jl_inT (jl_ch3 106 (by decide +kernel)) rfl
theorem jw_587 : (Jvm.Cond.static ({ cls := "java/lang/StringUTF16", name := "getChar", desc := "([BI)C" } : Jvm.MethodName)) ∈ jl_tbl := jl_inT (jl_ch3 107 (by decide +kernel)) rfl
theorem jw_588 : (Jvm.Cond.code ({ cls := "java/lang/StringUTF16", name := "getChar", desc := "([BI)C" } : Jvm.MethodName) prog_19_method_5_code (2 : Nat) (Option.some Jvm.ClassFile.FieldType.char)) ∈ jl_tbl := jl_inT (jl_ch3 108 (rfl)) rfl
theorem jw_589 : (Jvm.Cond.fieldLink "java/lang/StringUTF16" (44 : Nat) "java/lang/StringUTF16" "$assertionsDisabled" "Z") ∈ jl_tbl := jl_inT (jl_ch3 109 (by decide +kernel)) rfl
theorem jw_591 : (Jvm.Cond.fieldLink "java/lang/StringUTF16" (59 : Nat) "java/lang/StringUTF16" "HI_BYTE_SHIFT" "I") ∈ jl_tbl := jl_inT (jl_ch3 111 (by decide +kernel)) rfl
theorem jw_593 : (Jvm.Cond.fieldLink "java/lang/StringUTF16" (63 : Nat) "java/lang/StringUTF16" "LO_BYTE_SHIFT" "I") ∈ jl_tbl := jl_inT (jl_ch3 113 (by decide +kernel)) rfl
theorem jw_595 : (Jvm.Cond.methodLink "LieCandles$StreetReader" (49 : Nat) ({ cls := "LieCandles$StreetReader", name := "faultOf", desc := "(II)I" } : Jvm.MethodName)) ∈ jl_tbl := jl_inT (jl_ch3 115 (by decide +kernel)) rfl
theorem jw_597 : (Jvm.Cond.instanceMethod ({ cls := "LieCandles$StreetReader", name := "faultOf", desc := "(II)I" } : Jvm.MethodName)) ∈ jl_tbl := jl_inT (jl_ch3 117 (by decide +kernel)) rfl
theorem jw_598 : (Jvm.Cond.code ({ cls := "LieCandles$StreetReader", name := "faultOf", desc := "(II)I" } : Jvm.MethodName) prog_11_method_3_code (3 : Nat) (Option.some Jvm.ClassFile.FieldType.int)) ∈ jl_tbl := jl_inT (jl_ch3 118 (rfl)) rfl
theorem jw_599 : (Jvm.Cond.methodLink "LieCandles$StreetReader" (68 : Nat) ({ cls := "LieCandles$StreetReader", name := "isTooMany", desc := "(I)Z" } : Jvm.MethodName)) ∈ jl_tbl := jl_inT (jl_ch3 119 (by decide +kernel)) rfl
theorem jw_601 : (Jvm.Cond.instanceMethod ({ cls := "LieCandles$StreetReader", name := "isTooMany", desc := "(I)Z" } : Jvm.MethodName)) ∈ jl_tbl := jl_inT (jl_ch3 121 (by decide +kernel)) rfl
theorem jw_602 : (Jvm.Cond.code ({ cls := "LieCandles$StreetReader", name := "isTooMany", desc := "(I)Z" } : Jvm.MethodName) prog_11_method_4_code (2 : Nat) (Option.some Jvm.ClassFile.FieldType.boolean)) ∈ jl_tbl := jl_inT (jl_ch3 122 (rfl)) rfl
theorem jw_603 : (Jvm.Cond.methodLink "LieCandles$StreetReader" (81 : Nat) ({ cls := "LieCandles$Code", name := "isTold", desc := "(I)Z" } : Jvm.MethodName)) ∈ jl_tbl := jl_inT (jl_ch3 123 (by decide +kernel)) rfl
theorem jw_604 : (Jvm.Cond.instanceMethod ({ cls := "LieCandles$Code", name := "isTold", desc := "(I)Z" } : Jvm.MethodName)) ∈ jl_tbl := jl_inT (jl_ch3 124 (by decide +kernel)) rfl
theorem jw_605 : (Jvm.Cond.selects "LieCandles$Code" ({ cls := "LieCandles$Code", name := "isTold", desc := "(I)Z" } : Jvm.MethodName) ({ cls := "LieCandles$Code", name := "isTold", desc := "(I)Z" } : Jvm.MethodName)) ∈ jl_tbl := jl_inT (jl_ch3 125 (by decide +kernel)) rfl
theorem jw_606 : (Jvm.Cond.code ({ cls := "LieCandles$Code", name := "isTold", desc := "(I)Z" } : Jvm.MethodName) prog_2_method_3_code (2 : Nat) (Option.some Jvm.ClassFile.FieldType.boolean)) ∈ jl_tbl := jl_inT (jl_ch3 126 (rfl)) rfl
theorem jw_607 : (Jvm.Cond.methodLink "LieCandles$StreetReader" (53 : Nat) ({ cls := "LieCandles$StreetReader", name := "readOne", desc := "(I)V" } : Jvm.MethodName)) ∈ jl_tbl := jl_inT (jl_ch3 127 (by decide +kernel)) rfl
theorem jw_609 : (Jvm.Cond.instanceMethod ({ cls := "LieCandles$StreetReader", name := "readOne", desc := "(I)V" } : Jvm.MethodName)) ∈ jl_tbl := jl_inT (jl_ch3 129 (by decide +kernel)) rfl
theorem jw_610 : (Jvm.Cond.code ({ cls := "LieCandles$StreetReader", name := "readOne", desc := "(I)V" } : Jvm.MethodName) prog_11_method_5_code (3 : Nat) (Option.none : Option Jvm.ClassFile.FieldType)) ∈ jl_tbl := jl_inT (jl_ch3 130 (rfl)) rfl
theorem jw_611 : (Jvm.Cond.methodLink "LieCandles$StreetReader" (87 : Nat) ({ cls := "LieCandles$Reader", name := "takeNumber", desc := "(II)I" } : Jvm.MethodName)) ∈ jl_tbl := jl_inT (jl_ch3 131 (by decide +kernel)) rfl
theorem jw_612 : (Jvm.Cond.instanceMethod ({ cls := "LieCandles$Reader", name := "takeNumber", desc := "(II)I" } : Jvm.MethodName)) ∈ jl_tbl := jl_inT (jl_ch3 132 (by decide +kernel)) rfl
theorem jw_613 : (Jvm.Cond.selects "LieCandles$Reader" ({ cls := "LieCandles$Reader", name := "takeNumber", desc := "(II)I" } : Jvm.MethodName) ({ cls := "LieCandles$Reader", name := "takeNumber", desc := "(II)I" } : Jvm.MethodName)) ∈ jl_tbl := jl_inT (jl_ch3 133 (by decide +kernel)) rfl
theorem jw_614 : (Jvm.Cond.code ({ cls := "LieCandles$Reader", name := "takeNumber", desc := "(II)I" } : Jvm.MethodName) prog_6_method_9_code (6 : Nat) (Option.some Jvm.ClassFile.FieldType.int)) ∈ jl_tbl := jl_inT (jl_ch3 134 (rfl)) rfl
theorem jw_615 : (Jvm.Cond.methodLink "LieCandles$Reader" (80 : Nat) ({ cls := "LieCandles$Reader", name := "isDigit", desc := "(I)Z" } : Jvm.MethodName)) ∈ jl_tbl := jl_inT (jl_ch3 135 (by decide +kernel)) rfl
theorem jw_616 : (Jvm.Cond.static ({ cls := "LieCandles$Reader", name := "isDigit", desc := "(I)Z" } : Jvm.MethodName)) ∈ jl_tbl := jl_inT (jl_ch3 136 (by decide +kernel)) rfl
theorem jw_617 : (Jvm.Cond.code ({ cls := "LieCandles$Reader", name := "isDigit", desc := "(I)Z" } : Jvm.MethodName) prog_6_method_24_code (1 : Nat) (Option.some Jvm.ClassFile.FieldType.boolean)) ∈ jl_tbl := jl_inT (jl_ch3 137 (rfl)) rfl
theorem jw_618 : (Jvm.Cond.methodLink "LieCandles$Reader" (76 : Nat) ({ cls := "LieCandles$Reader", name := "fail", desc := "(II)V" } : Jvm.MethodName)) ∈ jl_tbl := jl_inT (jl_ch3 138 (by decide +kernel)) rfl
theorem jw_619 : (Jvm.Cond.methodLink "LieCandles$StreetReader" (93 : Nat) ({ cls := "LieCandles$StreetReader", name := "readPerson", desc := "()V" } : Jvm.MethodName)) ∈ jl_tbl := jl_inT (jl_ch3 139 (by decide +kernel)) rfl
theorem jw_621 : (Jvm.Cond.instanceMethod ({ cls := "LieCandles$StreetReader", name := "readPerson", desc := "()V" } : Jvm.MethodName)) ∈ jl_tbl := jl_inT (jl_ch3 141 (by decide +kernel)) rfl
theorem jw_622 : (Jvm.Cond.code ({ cls := "LieCandles$StreetReader", name := "readPerson", desc := "()V" } : Jvm.MethodName) prog_11_method_6_code (4 : Nat) (Option.none : Option Jvm.ClassFile.FieldType)) ∈ jl_tbl := jl_inT (jl_ch3 142 (rfl)) rfl
theorem jw_623 : (Jvm.Cond.methodLink "LieCandles$StreetReader" (123 : Nat) ({ cls := "LieCandles$Reader", name := "takeName", desc := "()I" } : Jvm.MethodName)) ∈ jl_tbl := jl_inT (jl_ch3 143 (by decide +kernel)) rfl
theorem jw_624 : (Jvm.Cond.instanceMethod ({ cls := "LieCandles$Reader", name := "takeName", desc := "()I" } : Jvm.MethodName)) ∈ jl_tbl := jl_inT (jl_ch3 144 (by decide +kernel)) rfl
theorem jw_625 : (Jvm.Cond.selects "LieCandles$Reader" ({ cls := "LieCandles$Reader", name := "takeName", desc := "()I" } : Jvm.MethodName) ({ cls := "LieCandles$Reader", name := "takeName", desc := "()I" } : Jvm.MethodName)) ∈ jl_tbl := jl_inT (jl_ch3 145 (by decide +kernel)) rfl
theorem jw_626 : (Jvm.Cond.code ({ cls := "LieCandles$Reader", name := "takeName", desc := "()I" } : Jvm.MethodName) prog_6_method_10_code (4 : Nat) (Option.some Jvm.ClassFile.FieldType.int)) ∈ jl_tbl := jl_inT (jl_ch3 146 (rfl)) rfl
theorem jw_627 : (Jvm.Cond.methodLink "LieCandles$Reader" (73 : Nat) ({ cls := "LieCandles$Reader", name := "peekWord", desc := "()I" } : Jvm.MethodName)) ∈ jl_tbl := jl_inT (jl_ch3 147 (by decide +kernel)) rfl
theorem jw_628 : (Jvm.Cond.methodLink "LieCandles$StreetReader" (126 : Nat) ({ cls := "LieCandles$StreetReader", name := "refuseKnown", desc := "(I)V" } : Jvm.MethodName)) ∈ jl_tbl := jl_inT (jl_ch3 148 (by decide +kernel)) rfl
theorem jw_630 : (Jvm.Cond.instanceMethod ({ cls := "LieCandles$StreetReader", name := "refuseKnown", desc := "(I)V" } : Jvm.MethodName)) ∈ jl_tbl := jl_inT (jl_ch3 150 (by decide +kernel)) rfl
theorem jw_631 : (Jvm.Cond.code ({ cls := "LieCandles$StreetReader", name := "refuseKnown", desc := "(I)V" } : Jvm.MethodName) prog_11_method_10_code (2 : Nat) (Option.none : Option Jvm.ClassFile.FieldType)) ∈ jl_tbl := jl_inT (jl_ch3 151 (rfl)) rfl
theorem jw_632 : (Jvm.Cond.methodLink "LieCandles$StreetReader" (136 : Nat) ({ cls := "LieCandles$Street", name := "personNamed", desc := "(I)I" } : Jvm.MethodName)) ∈ jl_tbl := jl_inT (jl_ch3 152 (by decide +kernel)) rfl
theorem jw_633 : (Jvm.Cond.instanceMethod ({ cls := "LieCandles$Street", name := "personNamed", desc := "(I)I" } : Jvm.MethodName)) ∈ jl_tbl := jl_inT (jl_ch3 153 (by decide +kernel)) rfl
theorem jw_634 : (Jvm.Cond.selects "LieCandles$Street" ({ cls := "LieCandles$Street", name := "personNamed", desc := "(I)I" } : Jvm.MethodName) ({ cls := "LieCandles$Street", name := "personNamed", desc := "(I)I" } : Jvm.MethodName)) ∈ jl_tbl := jl_inT (jl_ch3 154 (by decide +kernel)) rfl
theorem jw_635 : (Jvm.Cond.code ({ cls := "LieCandles$Street", name := "personNamed", desc := "(I)I" } : Jvm.MethodName) prog_10_method_6_code (3 : Nat) (Option.some Jvm.ClassFile.FieldType.int)) ∈ jl_tbl := jl_inT (jl_ch3 155 (rfl)) rfl
theorem jw_636 : (Jvm.Cond.methodLink "LieCandles$StreetReader" (146 : Nat) ({ cls := "LieCandles$Street", name := "lieNamed", desc := "(I)I" } : Jvm.MethodName)) ∈ jl_tbl := jl_inT (jl_ch3 156 (by decide +kernel)) rfl
theorem jw_637 : (Jvm.Cond.instanceMethod ({ cls := "LieCandles$Street", name := "lieNamed", desc := "(I)I" } : Jvm.MethodName)) ∈ jl_tbl := jl_inT (jl_ch3 157 (by decide +kernel)) rfl
theorem jw_638 : (Jvm.Cond.selects "LieCandles$Street" ({ cls := "LieCandles$Street", name := "lieNamed", desc := "(I)I" } : Jvm.MethodName) ({ cls := "LieCandles$Street", name := "lieNamed", desc := "(I)I" } : Jvm.MethodName)) ∈ jl_tbl := jl_inT (jl_ch3 158 (by decide +kernel)) rfl
theorem jw_639 : (Jvm.Cond.code ({ cls := "LieCandles$Street", name := "lieNamed", desc := "(I)I" } : Jvm.MethodName) prog_10_method_7_code (3 : Nat) (Option.some Jvm.ClassFile.FieldType.int)) ∈ jl_tbl := jl_inT (jl_ch3 159 (rfl)) rfl
theorem jw_640 : (Jvm.Cond.methodLink "LieCandles$StreetReader" (129 : Nat) ({ cls := "LieCandles$Reader", name := "expectWord", desc := "(I)V" } : Jvm.MethodName)) ∈ jl_tbl := jl_inT (jl_ch3 160 (by decide +kernel)) rfl
theorem jw_641 : (Jvm.Cond.instanceMethod ({ cls := "LieCandles$Reader", name := "expectWord", desc := "(I)V" } : Jvm.MethodName)) ∈ jl_tbl := jl_inT (jl_ch3 161 (by decide +kernel)) rfl
theorem jw_642 : (Jvm.Cond.selects "LieCandles$Reader" ({ cls := "LieCandles$Reader", name := "expectWord", desc := "(I)V" } : Jvm.MethodName) ({ cls := "LieCandles$Reader", name := "expectWord", desc := "(I)V" } : Jvm.MethodName)) ∈ jl_tbl := jl_inT (jl_ch3 162 (by decide +kernel)) rfl
theorem jw_643 : (Jvm.Cond.code ({ cls := "LieCandles$Reader", name := "expectWord", desc := "(I)V" } : Jvm.MethodName) prog_6_method_7_code (2 : Nat) (Option.none : Option Jvm.ClassFile.FieldType)) ∈ jl_tbl := jl_inT (jl_ch3 163 (rfl)) rfl
theorem jw_644 : (Jvm.Cond.methodLink "LieCandles$StreetReader" (132 : Nat) ({ cls := "LieCandles$Street", name := "addPerson", desc := "(III)V" } : Jvm.MethodName)) ∈ jl_tbl := jl_inT (jl_ch3 164 (by decide +kernel)) rfl
theorem jw_645 : (Jvm.Cond.instanceMethod ({ cls := "LieCandles$Street", name := "addPerson", desc := "(III)V" } : Jvm.MethodName)) ∈ jl_tbl := jl_inT (jl_ch3 165 (by decide +kernel)) rfl
theorem jw_646 : (Jvm.Cond.selects "LieCandles$Street" ({ cls := "LieCandles$Street", name := "addPerson", desc := "(III)V" } : Jvm.MethodName) ({ cls := "LieCandles$Street", name := "addPerson", desc := "(III)V" } : Jvm.MethodName)) ∈ jl_tbl := jl_inT (jl_ch3 166 (by decide +kernel)) rfl
theorem jw_647 : (Jvm.Cond.code ({ cls := "LieCandles$Street", name := "addPerson", desc := "(III)V" } : Jvm.MethodName) prog_10_method_3_code (4 : Nat) (Option.none : Option Jvm.ClassFile.FieldType)) ∈ jl_tbl := jl_inT (jl_ch3 167 (rfl)) rfl
theorem jw_648 : (Jvm.Cond.methodLink "LieCandles$StreetReader" (96 : Nat) ({ cls := "LieCandles$StreetReader", name := "readLie", desc := "()V" } : Jvm.MethodName)) ∈ jl_tbl := jl_inT (jl_ch3 168 (by decide +kernel)) rfl
theorem jw_650 : (Jvm.Cond.instanceMethod ({ cls := "LieCandles$StreetReader", name := "readLie", desc := "()V" } : Jvm.MethodName)) ∈ jl_tbl := jl_inT (jl_ch3 170 (by decide +kernel)) rfl
theorem jw_651 : (Jvm.Cond.code ({ cls := "LieCandles$StreetReader", name := "readLie", desc := "()V" } : Jvm.MethodName) prog_11_method_7_code (3 : Nat) (Option.none : Option Jvm.ClassFile.FieldType)) ∈ jl_tbl := jl_inT (jl_ch3 171 (rfl)) rfl
theorem jw_652 : (Jvm.Cond.methodLink "LieCandles$StreetReader" (140 : Nat) ({ cls := "LieCandles$StreetReader", name := "refuseNone", desc := "(I)V" } : Jvm.MethodName)) ∈ jl_tbl := jl_inT (jl_ch3 172 (by decide +kernel)) rfl
theorem jw_654 : (Jvm.Cond.instanceMethod ({ cls := "LieCandles$StreetReader", name := "refuseNone", desc := "(I)V" } : Jvm.MethodName)) ∈ jl_tbl := jl_inT (jl_ch3 174 (by decide +kernel)) rfl
theorem jw_655 : (Jvm.Cond.code ({ cls := "LieCandles$StreetReader", name := "refuseNone", desc := "(I)V" } : Jvm.MethodName) prog_11_method_11_code (2 : Nat) (Option.none : Option Jvm.ClassFile.FieldType)) ∈ jl_tbl := jl_inT (jl_ch3 175 (rfl)) rfl
theorem jw_656 : (Jvm.Cond.methodLink "LieCandles$StreetReader" (143 : Nat) ({ cls := "LieCandles$Street", name := "addLie", desc := "(II)V" } : Jvm.MethodName)) ∈ jl_tbl := jl_inT (jl_ch3 176 (by decide +kernel)) rfl
theorem jw_657 : (Jvm.Cond.instanceMethod ({ cls := "LieCandles$Street", name := "addLie", desc := "(II)V" } : Jvm.MethodName)) ∈ jl_tbl := jl_inT (jl_ch3 177 (by decide +kernel)) rfl
theorem jw_658 : (Jvm.Cond.selects "LieCandles$Street" ({ cls := "LieCandles$Street", name := "addLie", desc := "(II)V" } : Jvm.MethodName) ({ cls := "LieCandles$Street", name := "addLie", desc := "(II)V" } : Jvm.MethodName)) ∈ jl_tbl := jl_inT (jl_ch3 178 (by decide +kernel)) rfl
theorem jw_659 : (Jvm.Cond.code ({ cls := "LieCandles$Street", name := "addLie", desc := "(II)V" } : Jvm.MethodName) prog_10_method_4_code (3 : Nat) (Option.none : Option Jvm.ClassFile.FieldType)) ∈ jl_tbl := jl_inT (jl_ch3 179 (rfl)) rfl
theorem jw_660 : (Jvm.Cond.methodLink "LieCandles$StreetReader" (99 : Nat) ({ cls := "LieCandles$StreetReader", name := "readHangs", desc := "()V" } : Jvm.MethodName)) ∈ jl_tbl := jl_inT (jl_ch3 180 (by decide +kernel)) rfl
theorem jw_662 : (Jvm.Cond.instanceMethod ({ cls := "LieCandles$StreetReader", name := "readHangs", desc := "()V" } : Jvm.MethodName)) ∈ jl_tbl := jl_inT (jl_ch3 182 (by decide +kernel)) rfl
theorem jw_663 : (Jvm.Cond.code ({ cls := "LieCandles$StreetReader", name := "readHangs", desc := "()V" } : Jvm.MethodName) prog_11_method_8_code (3 : Nat) (Option.none : Option Jvm.ClassFile.FieldType)) ∈ jl_tbl := jl_inT (jl_ch3 183 (rfl)) rfl
theorem jw_664 : (Jvm.Cond.methodLink "LieCandles$StreetReader" (102 : Nat) ({ cls := "LieCandles$StreetReader", name := "readLight", desc := "()V" } : Jvm.MethodName)) ∈ jl_tbl := jl_inT (jl_ch3 184 (by decide +kernel)) rfl
theorem jw_666 : (Jvm.Cond.instanceMethod ({ cls := "LieCandles$StreetReader", name := "readLight", desc := "()V" } : Jvm.MethodName)) ∈ jl_tbl := jl_inT (jl_ch3 186 (by decide +kernel)) rfl
theorem jw_667 : (Jvm.Cond.code ({ cls := "LieCandles$StreetReader", name := "readLight", desc := "()V" } : Jvm.MethodName) prog_11_method_9_code (4 : Nat) (Option.none : Option Jvm.ClassFile.FieldType)) ∈ jl_tbl := jl_inT (jl_ch3 187 (rfl)) rfl
theorem jw_668 : (Jvm.Cond.methodLink "LieCandles$StreetReader" (156 : Nat) ({ cls := "LieCandles$Street", name := "addRow", desc := "(III)V" } : Jvm.MethodName)) ∈ jl_tbl := jl_inT (jl_ch3 188 (by decide +kernel)) rfl
theorem jw_669 : (Jvm.Cond.instanceMethod ({ cls := "LieCandles$Street", name := "addRow", desc := "(III)V" } : Jvm.MethodName)) ∈ jl_tbl := jl_inT (jl_ch3 189 (by decide +kernel)) rfl
theorem jw_670 : (Jvm.Cond.selects "LieCandles$Street" ({ cls := "LieCandles$Street", name := "addRow", desc := "(III)V" } : Jvm.MethodName) ({ cls := "LieCandles$Street", name := "addRow", desc := "(III)V" } : Jvm.MethodName)) ∈ jl_tbl := jl_inT (jl_ch3 190 (by decide +kernel)) rfl
theorem jw_671 : (Jvm.Cond.code ({ cls := "LieCandles$Street", name := "addRow", desc := "(III)V" } : Jvm.MethodName) prog_10_method_5_code (4 : Nat) (Option.none : Option Jvm.ClassFile.FieldType)) ∈ jl_tbl := jl_inT (jl_ch3 191 (rfl)) rfl
theorem jw_672 : (Jvm.Cond.constant "LieCandles$StreetReader" (108 : Nat) (1572864 : Int32)) ∈ jl_tbl := jl_inT (jl_ch3 192 (by decide +kernel)) rfl
theorem jw_673 : (Jvm.Cond.methodLink "LieCandles$StreetReader" (109 : Nat) ({ cls := "LieCandles$Reader", name := "allow", desc := "(II)V" } : Jvm.MethodName)) ∈ jl_tbl := jl_inT (jl_ch3 193 (by decide +kernel)) rfl
theorem jw_674 : (Jvm.Cond.instanceMethod ({ cls := "LieCandles$Reader", name := "allow", desc := "(II)V" } : Jvm.MethodName)) ∈ jl_tbl := jl_inT (jl_ch3 194 (by decide +kernel)) rfl
theorem jw_675 : (Jvm.Cond.selects "LieCandles$Reader" ({ cls := "LieCandles$Reader", name := "allow", desc := "(II)V" } : Jvm.MethodName) ({ cls := "LieCandles$Reader", name := "allow", desc := "(II)V" } : Jvm.MethodName)) ∈ jl_tbl := jl_inT (jl_ch3 195 (by decide +kernel)) rfl
theorem jw_676 : (Jvm.Cond.code ({ cls := "LieCandles$Reader", name := "allow", desc := "(II)V" } : Jvm.MethodName) prog_6_method_11_code (3 : Nat) (Option.none : Option Jvm.ClassFile.FieldType)) ∈ jl_tbl := jl_inT (jl_ch3 196 (rfl)) rfl
theorem jw_677 : (Jvm.Cond.methodLink "LieCandles$Reader" (83 : Nat) ({ cls := "LieCandles$Code", name := "start", desc := "(I)V" } : Jvm.MethodName)) ∈ jl_tbl := jl_inT (jl_ch3 197 (by decide +kernel)) rfl
theorem jw_678 : (Jvm.Cond.instanceMethod ({ cls := "LieCandles$Code", name := "start", desc := "(I)V" } : Jvm.MethodName)) ∈ jl_tbl := jl_inT (jl_ch3 198 (by decide +kernel)) rfl
theorem jw_679 : (Jvm.Cond.selects "LieCandles$Code" ({ cls := "LieCandles$Code", name := "start", desc := "(I)V" } : Jvm.MethodName) ({ cls := "LieCandles$Code", name := "start", desc := "(I)V" } : Jvm.MethodName)) ∈ jl_tbl := jl_inT (jl_ch3 199 (by decide +kernel)) rfl
theorem jw_680 : (Jvm.Cond.code ({ cls := "LieCandles$Code", name := "start", desc := "(I)V" } : Jvm.MethodName) prog_2_method_4_code (2 : Nat) (Option.none : Option Jvm.ClassFile.FieldType)) ∈ jl_tbl := jl_inT (jl_ch3 200 (rfl)) rfl
theorem jw_681 : (Jvm.Cond.methodLinkNest "LieCandles$StreetReader" (112 : Nat) ({ cls := "LieCandles$Reader", name := "sum", desc := "()V" } : Jvm.MethodName) "LieCandles") ∈ jl_nw := jl_inN (jl_ch3 201 (by decide +kernel)) rfl
theorem jw_683 : (Jvm.Cond.instanceMethod ({ cls := "LieCandles$Reader", name := "sum", desc := "()V" } : Jvm.MethodName)) ∈ jl_tbl := jl_inT (jl_ch3 203 (by decide +kernel)) rfl
theorem jw_684 : (Jvm.Cond.code ({ cls := "LieCandles$Reader", name := "sum", desc := "()V" } : Jvm.MethodName) prog_6_method_16_code (3 : Nat) (Option.none : Option Jvm.ClassFile.FieldType)) ∈ jl_tbl := jl_inT (jl_ch3 204 (rfl)) rfl
theorem jw_685 : (Jvm.Cond.methodLink "LieCandles$Reader" (121 : Nat) ({ cls := "LieCandles$Reader", name := "product", desc := "()V" } : Jvm.MethodName)) ∈ jl_tbl := jl_inT (jl_ch3 205 (by decide +kernel)) rfl
theorem jw_687 : (Jvm.Cond.instanceMethod ({ cls := "LieCandles$Reader", name := "product", desc := "()V" } : Jvm.MethodName)) ∈ jl_tbl := jl_inT (jl_ch3 207 (by decide +kernel)) rfl
theorem jw_688 : (Jvm.Cond.code ({ cls := "LieCandles$Reader", name := "product", desc := "()V" } : Jvm.MethodName) prog_6_method_17_code (3 : Nat) (Option.none : Option Jvm.ClassFile.FieldType)) ∈ jl_tbl := jl_inT (jl_ch3 208 (rfl)) rfl
theorem jw_689 : (Jvm.Cond.methodLink "LieCandles$Reader" (124 : Nat) ({ cls := "LieCandles$Reader", name := "part", desc := "()V" } : Jvm.MethodName)) ∈ jl_tbl := jl_inT (jl_ch3 209 (by decide +kernel)) rfl
theorem jw_691 : (Jvm.Cond.instanceMethod ({ cls := "LieCandles$Reader", name := "part", desc := "()V" } : Jvm.MethodName)) ∈ jl_tbl := jl_inT (jl_ch3 211 (by decide +kernel)) rfl
theorem jw_692 : (Jvm.Cond.code ({ cls := "LieCandles$Reader", name := "part", desc := "()V" } : Jvm.MethodName) prog_6_method_18_code (2 : Nat) (Option.none : Option Jvm.ClassFile.FieldType)) ∈ jl_tbl := jl_inT (jl_ch3 212 (rfl)) rfl
theorem jw_693 : (Jvm.Cond.methodLink "LieCandles$Reader" (127 : Nat) ({ cls := "LieCandles$Reader", name := "takeNumber", desc := "(II)I" } : Jvm.MethodName)) ∈ jl_tbl := jl_inT (jl_ch3 213 (by decide +kernel)) rfl
theorem jw_694 : (Jvm.Cond.methodLink "LieCandles$Reader" (115 : Nat) ({ cls := "LieCandles$Code", name := "put", desc := "(I)V" } : Jvm.MethodName)) ∈ jl_tbl := jl_inT (jl_ch3 214 (by decide +kernel)) rfl
theorem jw_695 : (Jvm.Cond.instanceMethod ({ cls := "LieCandles$Code", name := "put", desc := "(I)V" } : Jvm.MethodName)) ∈ jl_tbl := jl_inT (jl_ch3 215 (by decide +kernel)) rfl
theorem jw_696 : (Jvm.Cond.selects "LieCandles$Code" ({ cls := "LieCandles$Code", name := "put", desc := "(I)V" } : Jvm.MethodName) ({ cls := "LieCandles$Code", name := "put", desc := "(I)V" } : Jvm.MethodName)) ∈ jl_tbl := jl_inT (jl_ch3 216 (by decide +kernel)) rfl
theorem jw_697 : (Jvm.Cond.code ({ cls := "LieCandles$Code", name := "put", desc := "(I)V" } : Jvm.MethodName) prog_2_method_5_code (2 : Nat) (Option.none : Option Jvm.ClassFile.FieldType)) ∈ jl_tbl := jl_inT (jl_ch3 217 (rfl)) rfl
theorem jw_698 : (Jvm.Cond.methodLink "LieCandles$Reader" (112 : Nat) ({ cls := "LieCandles$Reader", name := "open", desc := "(I)Z" } : Jvm.MethodName)) ∈ jl_tbl := jl_inT (jl_ch3 218 (by decide +kernel)) rfl
theorem jw_700 : (Jvm.Cond.instanceMethod ({ cls := "LieCandles$Reader", name := "open", desc := "(I)Z" } : Jvm.MethodName)) ∈ jl_tbl := jl_inT (jl_ch3 220 (by decide +kernel)) rfl
theorem jw_701 : (Jvm.Cond.code ({ cls := "LieCandles$Reader", name := "open", desc := "(I)Z" } : Jvm.MethodName) prog_6_method_21_code (2 : Nat) (Option.some Jvm.ClassFile.FieldType.boolean)) ∈ jl_tbl := jl_inT (jl_ch3 221 (rfl)) rfl
theorem jw_702 : (Jvm.Cond.methodLink "LieCandles$Reader" (97 : Nat) ({ cls := "LieCandles$Reader", name := "sum", desc := "()V" } : Jvm.MethodName)) ∈ jl_tbl := jl_inT (jl_ch3 222 (by decide +kernel)) rfl
theorem jw_703 : (Jvm.Cond.methodLink "LieCandles$Reader" (118 : Nat) ({ cls := "LieCandles$Reader", name := "expectSign", desc := "(I)V" } : Jvm.MethodName)) ∈ jl_tbl := jl_inT (jl_ch3 223 (by decide +kernel)) rfl
theorem jw_704 : (Jvm.Cond.instanceMethod ({ cls := "LieCandles$Reader", name := "expectSign", desc := "(I)V" } : Jvm.MethodName)) ∈ jl_tbl := jl_inT (jl_ch3 224 (by decide +kernel)) rfl
theorem jw_705 : (Jvm.Cond.selects "LieCandles$Reader" ({ cls := "LieCandles$Reader", name := "expectSign", desc := "(I)V" } : Jvm.MethodName) ({ cls := "LieCandles$Reader", name := "expectSign", desc := "(I)V" } : Jvm.MethodName)) ∈ jl_tbl := jl_inT (jl_ch3 225 (by decide +kernel)) rfl
theorem jw_706 : (Jvm.Cond.code ({ cls := "LieCandles$Reader", name := "expectSign", desc := "(I)V" } : Jvm.MethodName) prog_6_method_8_code (2 : Nat) (Option.none : Option Jvm.ClassFile.FieldType)) ∈ jl_tbl := jl_inT (jl_ch3 226 (rfl)) rfl
theorem jw_707 : (Jvm.Cond.methodLink "LieCandles$Reader" (131 : Nat) ({ cls := "LieCandles$Reader", name := "wordPart", desc := "(I)V" } : Jvm.MethodName)) ∈ jl_tbl := jl_inT (jl_ch3 227 (by decide +kernel)) rfl
theorem jw_709 : (Jvm.Cond.instanceMethod ({ cls := "LieCandles$Reader", name := "wordPart", desc := "(I)V" } : Jvm.MethodName)) ∈ jl_tbl := jl_inT (jl_ch3 229 (by decide +kernel)) rfl
theorem jw_710 : (Jvm.Cond.code ({ cls := "LieCandles$Reader", name := "wordPart", desc := "(I)V" } : Jvm.MethodName) prog_6_method_19_code (2 : Nat) (Option.none : Option Jvm.ClassFile.FieldType)) ∈ jl_tbl := jl_inT (jl_ch3 230 (rfl)) rfl
theorem jw_711 : (Jvm.Cond.methodLink "LieCandles$Reader" (134 : Nat) ({ cls := "LieCandles$Reader", name := "pairPart", desc := "(I)V" } : Jvm.MethodName)) ∈ jl_tbl := jl_inT (jl_ch3 231 (by decide +kernel)) rfl
theorem jw_713 : (Jvm.Cond.instanceMethod ({ cls := "LieCandles$Reader", name := "pairPart", desc := "(I)V" } : Jvm.MethodName)) ∈ jl_tbl := jl_inT (jl_ch3 233 (by decide +kernel)) rfl
theorem jw_714 : (Jvm.Cond.code ({ cls := "LieCandles$Reader", name := "pairPart", desc := "(I)V" } : Jvm.MethodName) prog_6_method_20_code (2 : Nat) (Option.none : Option Jvm.ClassFile.FieldType)) ∈ jl_tbl := jl_inT (jl_ch3 234 (rfl)) rfl
theorem jw_715 : (Jvm.Cond.methodLink "LieCandles$Reader" (106 : Nat) ({ cls := "LieCandles$Code", name := "putWord", desc := "(I)V" } : Jvm.MethodName)) ∈ jl_tbl := jl_inT (jl_ch3 235 (by decide +kernel)) rfl
theorem jw_716 : (Jvm.Cond.instanceMethod ({ cls := "LieCandles$Code", name := "putWord", desc := "(I)V" } : Jvm.MethodName)) ∈ jl_tbl := jl_inT (jl_ch3 236 (by decide +kernel)) rfl
theorem jw_717 : (Jvm.Cond.selects "LieCandles$Code" ({ cls := "LieCandles$Code", name := "putWord", desc := "(I)V" } : Jvm.MethodName) ({ cls := "LieCandles$Code", name := "putWord", desc := "(I)V" } : Jvm.MethodName)) ∈ jl_tbl := jl_inT (jl_ch3 237 (by decide +kernel)) rfl
theorem jw_718 : (Jvm.Cond.code ({ cls := "LieCandles$Code", name := "putWord", desc := "(I)V" } : Jvm.MethodName) prog_2_method_6_code (2 : Nat) (Option.none : Option Jvm.ClassFile.FieldType)) ∈ jl_tbl := jl_inT (jl_ch3 238 (rfl)) rfl
theorem jw_719 : (Jvm.Cond.methodLink "LieCandles$Code" (31 : Nat) ({ cls := "LieCandles$Code", name := "put", desc := "(I)V" } : Jvm.MethodName)) ∈ jl_tbl := jl_inT (jl_ch3 239 (by decide +kernel)) rfl
theorem jw_720 : (Jvm.Cond.constant "LieCandles$StreetReader" (115 : Nat) (1015808 : Int32)) ∈ jl_tbl := jl_inT (jl_ch4 0 (by decide +kernel)) rfl
theorem jw_721 : (Jvm.Cond.constant "LieCandles$StreetReader" (116 : Nat) (1015816 : Int32)) ∈ jl_tbl := jl_inT (jl_ch4 1 (by decide +kernel)) rfl
theorem jw_722 : (Jvm.Cond.methodLinkNest "LieCandles$StreetReader" (117 : Nat) ({ cls := "LieCandles$Reader", name := "test", desc := "()V" } : Jvm.MethodName) "LieCandles") ∈ jl_nw := jl_inN (jl_ch4 2 (by decide +kernel)) rfl
theorem jw_724 : (Jvm.Cond.instanceMethod ({ cls := "LieCandles$Reader", name := "test", desc := "()V" } : Jvm.MethodName)) ∈ jl_tbl := jl_inT (jl_ch4 4 (by decide +kernel)) rfl
theorem jw_725 : (Jvm.Cond.code ({ cls := "LieCandles$Reader", name := "test", desc := "()V" } : Jvm.MethodName) prog_6_method_13_code (2 : Nat) (Option.none : Option Jvm.ClassFile.FieldType)) ∈ jl_tbl := jl_inT (jl_ch4 5 (rfl)) rfl
theorem jw_726 : (Jvm.Cond.methodLink "LieCandles$Reader" (100 : Nat) ({ cls := "LieCandles$Reader", name := "both", desc := "()V" } : Jvm.MethodName)) ∈ jl_tbl := jl_inT (jl_ch4 6 (by decide +kernel)) rfl
theorem jw_728 : (Jvm.Cond.instanceMethod ({ cls := "LieCandles$Reader", name := "both", desc := "()V" } : Jvm.MethodName)) ∈ jl_tbl := jl_inT (jl_ch4 8 (by decide +kernel)) rfl
theorem jw_729 : (Jvm.Cond.code ({ cls := "LieCandles$Reader", name := "both", desc := "()V" } : Jvm.MethodName) prog_6_method_14_code (2 : Nat) (Option.none : Option Jvm.ClassFile.FieldType)) ∈ jl_tbl := jl_inT (jl_ch4 9 (rfl)) rfl
theorem jw_730 : (Jvm.Cond.methodLink "LieCandles$Reader" (109 : Nat) ({ cls := "LieCandles$Reader", name := "fact", desc := "()V" } : Jvm.MethodName)) ∈ jl_tbl := jl_inT (jl_ch4 10 (by decide +kernel)) rfl
theorem jw_732 : (Jvm.Cond.instanceMethod ({ cls := "LieCandles$Reader", name := "fact", desc := "()V" } : Jvm.MethodName)) ∈ jl_tbl := jl_inT (jl_ch4 12 (by decide +kernel)) rfl
theorem jw_733 : (Jvm.Cond.code ({ cls := "LieCandles$Reader", name := "fact", desc := "()V" } : Jvm.MethodName) prog_6_method_15_code (3 : Nat) (Option.none : Option Jvm.ClassFile.FieldType)) ∈ jl_tbl := jl_inT (jl_ch4 13 (rfl)) rfl
theorem jw_734 : (Jvm.Cond.methodLink "LieCandles$Reader" (94 : Nat) ({ cls := "LieCandles$Reader", name := "test", desc := "()V" } : Jvm.MethodName)) ∈ jl_tbl := jl_inT (jl_ch4 14 (by decide +kernel)) rfl
theorem jw_735 : (Jvm.Cond.methodLink "LieCandles$Reader" (103 : Nat) ({ cls := "LieCandles$Reader", name := "takeWord", desc := "(I)Z" } : Jvm.MethodName)) ∈ jl_tbl := jl_inT (jl_ch4 15 (by decide +kernel)) rfl
theorem jw_736 : (Jvm.Cond.instanceMethod ({ cls := "LieCandles$Reader", name := "takeWord", desc := "(I)Z" } : Jvm.MethodName)) ∈ jl_tbl := jl_inT (jl_ch4 16 (by decide +kernel)) rfl
theorem jw_737 : (Jvm.Cond.selects "LieCandles$Reader" ({ cls := "LieCandles$Reader", name := "takeWord", desc := "(I)Z" } : Jvm.MethodName) ({ cls := "LieCandles$Reader", name := "takeWord", desc := "(I)Z" } : Jvm.MethodName)) ∈ jl_tbl := jl_inT (jl_ch4 17 (by decide +kernel)) rfl
theorem jw_738 : (Jvm.Cond.code ({ cls := "LieCandles$Reader", name := "takeWord", desc := "(I)Z" } : Jvm.MethodName) prog_6_method_6_code (2 : Nat) (Option.some Jvm.ClassFile.FieldType.boolean)) ∈ jl_tbl := jl_inT (jl_ch4 18 (rfl)) rfl
theorem jw_739 : (Jvm.Cond.methodLink "LieCandles$StreetReader" (57 : Nat) ({ cls := "LieCandles$Reader", name := "expectSign", desc := "(I)V" } : Jvm.MethodName)) ∈ jl_tbl := jl_inT (jl_ch4 19 (by decide +kernel)) rfl
theorem jw_740 : (Jvm.Cond.methodLink "LieCandles$StreetReader" (63 : Nat) ({ cls := "LieCandles$Code", name := "putUntold", desc := "()V" } : Jvm.MethodName)) ∈ jl_tbl := jl_inT (jl_ch4 20 (by decide +kernel)) rfl
theorem jw_741 : (Jvm.Cond.instanceMethod ({ cls := "LieCandles$Code", name := "putUntold", desc := "()V" } : Jvm.MethodName)) ∈ jl_tbl := jl_inT (jl_ch4 21 (by decide +kernel)) rfl
theorem jw_742 : (Jvm.Cond.selects "LieCandles$Code" ({ cls := "LieCandles$Code", name := "putUntold", desc := "()V" } : Jvm.MethodName) ({ cls := "LieCandles$Code", name := "putUntold", desc := "()V" } : Jvm.MethodName)) ∈ jl_tbl := jl_inT (jl_ch4 22 (by decide +kernel)) rfl
theorem jw_743 : (Jvm.Cond.code ({ cls := "LieCandles$Code", name := "putUntold", desc := "()V" } : Jvm.MethodName) prog_2_method_7_code (1 : Nat) (Option.none : Option Jvm.ClassFile.FieldType)) ∈ jl_tbl := jl_inT (jl_ch4 23 (rfl)) rfl
theorem jw_744 : (Jvm.Cond.methodLink "LieCandles$Code" (35 : Nat) ({ cls := "LieCandles$Code", name := "isTold", desc := "(I)Z" } : Jvm.MethodName)) ∈ jl_tbl := jl_inT (jl_ch4 24 (by decide +kernel)) rfl
theorem jw_745 : (Jvm.Cond.methodLink "LieCandles$Code" (39 : Nat) ({ cls := "LieCandles$Code", name := "start", desc := "(I)V" } : Jvm.MethodName)) ∈ jl_tbl := jl_inT (jl_ch4 25 (by decide +kernel)) rfl
theorem jw_746 : (Jvm.Cond.methodLink "LieCandles$Code" (42 : Nat) ({ cls := "LieCandles$Code", name := "putWord", desc := "(I)V" } : Jvm.MethodName)) ∈ jl_tbl := jl_inT (jl_ch4 26 (by decide +kernel)) rfl
theorem jw_747 : (Jvm.Cond.methodLink "LieCandles" (137 : Nat) ({ cls := "LieCandles", name := "takeFault", desc := "()V" } : Jvm.MethodName)) ∈ jl_tbl := jl_inT (jl_ch4 27 (by decide +kernel)) rfl
theorem jw_749 : (Jvm.Cond.instanceMethod ({ cls := "LieCandles", name := "takeFault", desc := "()V" } : Jvm.MethodName)) ∈ jl_tbl := jl_inT (jl_ch4 29 (by decide +kernel)) rfl
theorem jw_750 : (Jvm.Cond.code ({ cls := "LieCandles", name := "takeFault", desc := "()V" } : Jvm.MethodName) prog_1_method_46_code (1 : Nat) (Option.none : Option Jvm.ClassFile.FieldType)) ∈ jl_tbl := jl_inT (jl_ch4 30 (rfl)) rfl
theorem jw_751 : (Jvm.Cond.methodLink "LieCandles" (143 : Nat) ({ cls := "LieCandles$State", name := "beginAt", desc := "(LLieCandles$Street;)V" } : Jvm.MethodName)) ∈ jl_tbl := jl_inT (jl_ch4 31 (by decide +kernel)) rfl
theorem jw_752 : (Jvm.Cond.instanceMethod ({ cls := "LieCandles$State", name := "beginAt", desc := "(LLieCandles$Street;)V" } : Jvm.MethodName)) ∈ jl_tbl := jl_inT (jl_ch4 32 (by decide +kernel)) rfl
theorem jw_753 : (Jvm.Cond.selects "LieCandles$State" ({ cls := "LieCandles$State", name := "beginAt", desc := "(LLieCandles$Street;)V" } : Jvm.MethodName) ({ cls := "LieCandles$State", name := "beginAt", desc := "(LLieCandles$Street;)V" } : Jvm.MethodName)) ∈ jl_tbl := jl_inT (jl_ch4 33 (by decide +kernel)) rfl
theorem jw_754 : (Jvm.Cond.code ({ cls := "LieCandles$State", name := "beginAt", desc := "(LLieCandles$Street;)V" } : Jvm.MethodName) prog_9_method_2_code (3 : Nat) (Option.none : Option Jvm.ClassFile.FieldType)) ∈ jl_tbl := jl_inT (jl_ch4 34 (rfl)) rfl
theorem jw_755 : (Jvm.Cond.methodLink "LieCandles$State" (32 : Nat) ({ cls := "java/lang/System", name := "arraycopy", desc := "(Ljava/lang/Object;ILjava/lang/Object;II)V" } : Jvm.MethodName)) ∈ jl_tbl := jl_inT (jl_ch4 35 (by decide +kernel)) rfl
theorem jw_756 : (Jvm.Cond.static ({ cls := "java/lang/System", name := "arraycopy", desc := "(Ljava/lang/Object;ILjava/lang/Object;II)V" } : Jvm.MethodName)) ∈ jl_tbl := jl_inT (jl_ch4 36 (by decide +kernel)) rfl
theorem jw_757 : (Jvm.Cond.native ({ cls := "java/lang/System", name := "arraycopy", desc := "(Ljava/lang/Object;ILjava/lang/Object;II)V" } : Jvm.MethodName)) ∈ jl_tbl := jl_inT (jl_ch4 37 (by decide +kernel)) rfl
theorem jw_758 : (Jvm.Cond.methodLink "LieCandles$State" (38 : Nat) ({ cls := "LieCandles$State", name := "putOut", desc := "(I)V" } : Jvm.MethodName)) ∈ jl_tbl := jl_inT (jl_ch4 38 (by decide +kernel)) rfl
theorem jw_759 : (Jvm.Cond.instanceMethod ({ cls := "LieCandles$State", name := "putOut", desc := "(I)V" } : Jvm.MethodName)) ∈ jl_tbl := jl_inT (jl_ch4 39 (by decide +kernel)) rfl
theorem jw_760 : (Jvm.Cond.selects "LieCandles$State" ({ cls := "LieCandles$State", name := "putOut", desc := "(I)V" } : Jvm.MethodName) ({ cls := "LieCandles$State", name := "putOut", desc := "(I)V" } : Jvm.MethodName)) ∈ jl_tbl := jl_inT (jl_ch4 40 (by decide +kernel)) rfl
theorem jw_761 : (Jvm.Cond.code ({ cls := "LieCandles$State", name := "putOut", desc := "(I)V" } : Jvm.MethodName) prog_9_method_7_code (2 : Nat) (Option.none : Option Jvm.ClassFile.FieldType)) ∈ jl_tbl := jl_inT (jl_ch4 41 (rfl)) rfl
theorem jw_762 : (Jvm.Cond.methodLink "LieCandles$State" (57 : Nat) ({ cls := "LieCandles$State", name := "setCandle", desc := "(II)V" } : Jvm.MethodName)) ∈ jl_tbl := jl_inT (jl_ch4 42 (by decide +kernel)) rfl
theorem jw_763 : (Jvm.Cond.instanceMethod ({ cls := "LieCandles$State", name := "setCandle", desc := "(II)V" } : Jvm.MethodName)) ∈ jl_tbl := jl_inT (jl_ch4 43 (by decide +kernel)) rfl
theorem jw_764 : (Jvm.Cond.selects "LieCandles$State" ({ cls := "LieCandles$State", name := "setCandle", desc := "(II)V" } : Jvm.MethodName) ({ cls := "LieCandles$State", name := "setCandle", desc := "(II)V" } : Jvm.MethodName)) ∈ jl_tbl := jl_inT (jl_ch4 44 (by decide +kernel)) rfl
theorem jw_765 : (Jvm.Cond.code ({ cls := "LieCandles$State", name := "setCandle", desc := "(II)V" } : Jvm.MethodName) prog_9_method_6_code (3 : Nat) (Option.none : Option Jvm.ClassFile.FieldType)) ∈ jl_tbl := jl_inT (jl_ch4 45 (rfl)) rfl
theorem jw_766 : (Jvm.Cond.methodLink "LieCandles" (146 : Nat) ({ cls := "LieCandles", name := "forgetActs", desc := "()V" } : Jvm.MethodName)) ∈ jl_tbl := jl_inT (jl_ch4 46 (by decide +kernel)) rfl
theorem jw_768 : (Jvm.Cond.instanceMethod ({ cls := "LieCandles", name := "forgetActs", desc := "()V" } : Jvm.MethodName)) ∈ jl_tbl := jl_inT (jl_ch4 48 (by decide +kernel)) rfl
theorem jw_769 : (Jvm.Cond.code ({ cls := "LieCandles", name := "forgetActs", desc := "()V" } : Jvm.MethodName) prog_1_method_47_code (1 : Nat) (Option.none : Option Jvm.ClassFile.FieldType)) ∈ jl_tbl := jl_inT (jl_ch4 49 (rfl)) rfl
theorem jw_770 : (Jvm.Cond.arrayClass Jvm.ClassFile.FieldType.byte) ∈ jl_tbl := jl_inT (jl_ch4 50 (by decide +kernel)) rfl
theorem jw_771 : (Jvm.Cond.methodLink "LieCandlesLaw" (28 : Nat) ({ cls := "LieCandles", name := "fault", desc := "(I)I" } : Jvm.MethodName)) ∈ jl_tbl := jl_inT (jl_ch4 51 (by decide +kernel)) rfl
theorem jw_772 : (Jvm.Cond.instanceMethod ({ cls := "LieCandles", name := "fault", desc := "(I)I" } : Jvm.MethodName)) ∈ jl_tbl := jl_inT (jl_ch4 52 (by decide +kernel)) rfl
theorem jw_773 : (Jvm.Cond.selects "LieCandles" ({ cls := "LieCandles", name := "fault", desc := "(I)I" } : Jvm.MethodName) ({ cls := "LieCandles", name := "fault", desc := "(I)I" } : Jvm.MethodName)) ∈ jl_tbl := jl_inT (jl_ch4 53 (by decide +kernel)) rfl
theorem jw_774 : (Jvm.Cond.code ({ cls := "LieCandles", name := "fault", desc := "(I)I" } : Jvm.MethodName) prog_1_method_5_code (2 : Nat) (Option.some Jvm.ClassFile.FieldType.int)) ∈ jl_tbl := jl_inT (jl_ch4 54 (rfl)) rfl
theorem jw_775 : (Jvm.Cond.methodLink "LieCandlesLaw" (33 : Nat) ({ cls := "LieCandles", name := "has", desc := "(I)I" } : Jvm.MethodName)) ∈ jl_tbl := jl_inT (jl_ch4 55 (by decide +kernel)) rfl
theorem jw_776 : (Jvm.Cond.instanceMethod ({ cls := "LieCandles", name := "has", desc := "(I)I" } : Jvm.MethodName)) ∈ jl_tbl := jl_inT (jl_ch4 56 (by decide +kernel)) rfl
theorem jw_777 : (Jvm.Cond.selects "LieCandles" ({ cls := "LieCandles", name := "has", desc := "(I)I" } : Jvm.MethodName) ({ cls := "LieCandles", name := "has", desc := "(I)I" } : Jvm.MethodName)) ∈ jl_tbl := jl_inT (jl_ch4 57 (by decide +kernel)) rfl
theorem jw_778 : (Jvm.Cond.code ({ cls := "LieCandles", name := "has", desc := "(I)I" } : Jvm.MethodName) prog_1_method_6_code (2 : Nat) (Option.some Jvm.ClassFile.FieldType.int)) ∈ jl_tbl := jl_inT (jl_ch4 58 (rfl)) rfl
theorem jw_779 : (Jvm.Cond.methodLink "LieCandles" (171 : Nat) ({ cls := "LieCandles$Reckoner", name := "litLies", desc := "(LLieCandles$State;)I" } : Jvm.MethodName)) ∈ jl_tbl := jl_inT (jl_ch4 59 (by decide +kernel)) rfl
theorem jw_780 : (Jvm.Cond.instanceMethod ({ cls := "LieCandles$Reckoner", name := "litLies", desc := "(LLieCandles$State;)I" } : Jvm.MethodName)) ∈ jl_tbl := jl_inT (jl_ch4 60 (by decide +kernel)) rfl
theorem jw_781 : (Jvm.Cond.selects "LieCandles$Reckoner" ({ cls := "LieCandles$Reckoner", name := "litLies", desc := "(LLieCandles$State;)I" } : Jvm.MethodName) ({ cls := "LieCandles$Reckoner", name := "litLies", desc := "(LLieCandles$State;)I" } : Jvm.MethodName)) ∈ jl_tbl := jl_inT (jl_ch4 61 (by decide +kernel)) rfl
theorem jw_782 : (Jvm.Cond.code ({ cls := "LieCandles$Reckoner", name := "litLies", desc := "(LLieCandles$State;)I" } : Jvm.MethodName) prog_7_method_2_code (4 : Nat) (Option.some Jvm.ClassFile.FieldType.int)) ∈ jl_tbl := jl_inT (jl_ch4 62 (rfl)) rfl
theorem jw_783 : (Jvm.Cond.methodLink "LieCandles" (175 : Nat) ({ cls := "java/lang/Integer", name := "bitCount", desc := "(I)I" } : Jvm.MethodName)) ∈ jl_tbl := jl_inT (jl_ch4 63 (by decide +kernel)) rfl
theorem jw_784 : (Jvm.Cond.static ({ cls := "java/lang/Integer", name := "bitCount", desc := "(I)I" } : Jvm.MethodName)) ∈ jl_tbl := jl_inT (jl_ch4 64 (by decide +kernel)) rfl
theorem jw_785 : (Jvm.Cond.code ({ cls := "java/lang/Integer", name := "bitCount", desc := "(I)I" } : Jvm.MethodName) prog_15_method_49_code (1 : Nat) (Option.some Jvm.ClassFile.FieldType.int)) ∈ jl_tbl := jl_inT (jl_ch4 65 (rfl)) rfl
theorem jw_786 : (Jvm.Cond.constant "java/lang/Integer" (265 : Nat) (1431655765 : Int32)) ∈ jl_tbl := jl_inT (jl_ch4 66 (by decide +kernel)) rfl
theorem jw_787 : (Jvm.Cond.constant "java/lang/Integer" (266 : Nat) (858993459 : Int32)) ∈ jl_tbl := jl_inT (jl_ch4 67 (by decide +kernel)) rfl
theorem jw_788 : (Jvm.Cond.constant "java/lang/Integer" (267 : Nat) (252645135 : Int32)) ∈ jl_tbl := jl_inT (jl_ch4 68 (by decide +kernel)) rfl
theorem jw_789 : (Jvm.Cond.methodLink "LieCandles" (180 : Nat) ({ cls := "LieCandles$Reckoner", name := "believed", desc := "(LLieCandles$State;)I" } : Jvm.MethodName)) ∈ jl_tbl := jl_inT (jl_ch4 69 (by decide +kernel)) rfl
theorem jw_790 : (Jvm.Cond.instanceMethod ({ cls := "LieCandles$Reckoner", name := "believed", desc := "(LLieCandles$State;)I" } : Jvm.MethodName)) ∈ jl_tbl := jl_inT (jl_ch4 70 (by decide +kernel)) rfl
theorem jw_791 : (Jvm.Cond.selects "LieCandles$Reckoner" ({ cls := "LieCandles$Reckoner", name := "believed", desc := "(LLieCandles$State;)I" } : Jvm.MethodName) ({ cls := "LieCandles$Reckoner", name := "believed", desc := "(LLieCandles$State;)I" } : Jvm.MethodName)) ∈ jl_tbl := jl_inT (jl_ch4 71 (by decide +kernel)) rfl
theorem jw_792 : (Jvm.Cond.code ({ cls := "LieCandles$Reckoner", name := "believed", desc := "(LLieCandles$State;)I" } : Jvm.MethodName) prog_7_method_8_code (6 : Nat) (Option.some Jvm.ClassFile.FieldType.int)) ∈ jl_tbl := jl_inT (jl_ch4 72 (rfl)) rfl
theorem jw_793 : (Jvm.Cond.methodLink "LieCandles$Reckoner" (69 : Nat) ({ cls := "LieCandles$Reckoner", name := "reckon", desc := "(LLieCandles$State;ILLieCandles$Code;I)I" } : Jvm.MethodName)) ∈ jl_tbl := jl_inT (jl_ch4 73 (by decide +kernel)) rfl
theorem jw_795 : (Jvm.Cond.instanceMethod ({ cls := "LieCandles$Reckoner", name := "reckon", desc := "(LLieCandles$State;ILLieCandles$Code;I)I" } : Jvm.MethodName)) ∈ jl_tbl := jl_inT (jl_ch4 75 (by decide +kernel)) rfl
theorem jw_796 : (Jvm.Cond.code ({ cls := "LieCandles$Reckoner", name := "reckon", desc := "(LLieCandles$State;ILLieCandles$Code;I)I" } : Jvm.MethodName) prog_7_method_14_code (7 : Nat) (Option.some Jvm.ClassFile.FieldType.int)) ∈ jl_tbl := jl_inT (jl_ch4 76 (rfl)) rfl
theorem jw_797 : (Jvm.Cond.methodLink "LieCandles$Reckoner" (128 : Nat) ({ cls := "LieCandles$Reckoner", name := "nearTo", desc := "(LLieCandles$State;I)I" } : Jvm.MethodName)) ∈ jl_tbl := jl_inT (jl_ch4 77 (by decide +kernel)) rfl
theorem jw_798 : (Jvm.Cond.instanceMethod ({ cls := "LieCandles$Reckoner", name := "nearTo", desc := "(LLieCandles$State;I)I" } : Jvm.MethodName)) ∈ jl_tbl := jl_inT (jl_ch4 78 (by decide +kernel)) rfl
theorem jw_799 : (Jvm.Cond.selects "LieCandles$Reckoner" ({ cls := "LieCandles$Reckoner", name := "nearTo", desc := "(LLieCandles$State;I)I" } : Jvm.MethodName) ({ cls := "LieCandles$Reckoner", name := "nearTo", desc := "(LLieCandles$State;I)I" } : Jvm.MethodName)) ∈ jl_tbl := jl_inT (jl_ch4 79 (by decide +kernel)) rfl
theorem jw_800 : (Jvm.Cond.code ({ cls := "LieCandles$Reckoner", name := "nearTo", desc := "(LLieCandles$State;I)I" } : Jvm.MethodName) prog_7_method_5_code (7 : Nat) (Option.some Jvm.ClassFile.FieldType.int)) ∈ jl_tbl := jl_inT (jl_ch4 80 (rfl)) rfl
theorem jw_801 : (Jvm.Cond.methodLink "LieCandles$Reckoner" (49 : Nat) ({ cls := "LieCandles$Reckoner", name := "run", desc := "(LLieCandles$State;LLieCandles$Code;I)I" } : Jvm.MethodName)) ∈ jl_tbl := jl_inT (jl_ch4 81 (by decide +kernel)) rfl
theorem jw_803 : (Jvm.Cond.instanceMethod ({ cls := "LieCandles$Reckoner", name := "run", desc := "(LLieCandles$State;LLieCandles$Code;I)I" } : Jvm.MethodName)) ∈ jl_tbl := jl_inT (jl_ch4 83 (by decide +kernel)) rfl
theorem jw_804 : (Jvm.Cond.code ({ cls := "LieCandles$Reckoner", name := "run", desc := "(LLieCandles$State;LLieCandles$Code;I)I" } : Jvm.MethodName) prog_7_method_15_code (8 : Nat) (Option.some Jvm.ClassFile.FieldType.int)) ∈ jl_tbl := jl_inT (jl_ch4 84 (rfl)) rfl
theorem jw_805 : (Jvm.Cond.methodLink "LieCandles$Reckoner" (146 : Nat) ({ cls := "LieCandles$Reckoner", name := "ofOne", desc := "(LLieCandles$State;II)I" } : Jvm.MethodName)) ∈ jl_tbl := jl_inT (jl_ch4 85 (by decide +kernel)) rfl
theorem jw_807 : (Jvm.Cond.instanceMethod ({ cls := "LieCandles$Reckoner", name := "ofOne", desc := "(LLieCandles$State;II)I" } : Jvm.MethodName)) ∈ jl_tbl := jl_inT (jl_ch4 87 (by decide +kernel)) rfl
theorem jw_808 : (Jvm.Cond.code ({ cls := "LieCandles$Reckoner", name := "ofOne", desc := "(LLieCandles$State;II)I" } : Jvm.MethodName) prog_7_method_16_code (4 : Nat) (Option.some Jvm.ClassFile.FieldType.int)) ∈ jl_tbl := jl_inT (jl_ch4 88 (rfl)) rfl
theorem jw_809 : (Jvm.Cond.methodLink "LieCandles$Reckoner" (150 : Nat) ({ cls := "LieCandles$Reckoner", name := "ofTwo", desc := "(III)I" } : Jvm.MethodName)) ∈ jl_tbl := jl_inT (jl_ch4 89 (by decide +kernel)) rfl
theorem jw_810 : (Jvm.Cond.static ({ cls := "LieCandles$Reckoner", name := "ofTwo", desc := "(III)I" } : Jvm.MethodName)) ∈ jl_tbl := jl_inT (jl_ch4 90 (by decide +kernel)) rfl
theorem jw_811 : (Jvm.Cond.code ({ cls := "LieCandles$Reckoner", name := "ofTwo", desc := "(III)I" } : Jvm.MethodName) prog_7_method_17_code (5 : Nat) (Option.some Jvm.ClassFile.FieldType.int)) ∈ jl_tbl := jl_inT (jl_ch4 91 (rfl)) rfl
theorem jw_812 : (Jvm.Cond.methodLink "LieCandles$Reckoner" (154 : Nat) ({ cls := "java/lang/Math", name := "floorDiv", desc := "(II)I" } : Jvm.MethodName)) ∈ jl_tbl := jl_inT (jl_ch4 92 (by decide +kernel)) rfl
theorem jw_813 : (Jvm.Cond.static ({ cls := "java/lang/Math", name := "floorDiv", desc := "(II)I" } : Jvm.MethodName)) ∈ jl_tbl := jl_inT (jl_ch4 93 (by decide +kernel)) rfl
theorem jw_814 : (Jvm.Cond.code ({ cls := "java/lang/Math", name := "floorDiv", desc := "(II)I" } : Jvm.MethodName) prog_16_method_47_code (3 : Nat) (Option.some Jvm.ClassFile.FieldType.int)) ∈ jl_tbl := jl_inT (jl_ch4 94 (rfl)) rfl
theorem jw_815 : (Jvm.Cond.constantLong "LieCandles$Reckoner" (157 : Nat) (1000000 : Int64)) ∈ jl_tbl := jl_inT (jl_ch4 95 (by decide +kernel)) rfl
theorem jw_816 : (Jvm.Cond.constantLong "LieCandles$Reckoner" (159 : Nat) (-1000000 : Int64)) ∈ jl_tbl := jl_inT (jl_ch4 96 (by decide +kernel)) rfl
theorem jw_817 : (Jvm.Cond.methodLink "LieCandles$Reckoner" (53 : Nat) ({ cls := "LieCandles$Reckoner", name := "draughtyBy", desc := "(I)I" } : Jvm.MethodName)) ∈ jl_tbl := jl_inT (jl_ch4 97 (by decide +kernel)) rfl
theorem jw_818 : (Jvm.Cond.static ({ cls := "LieCandles$Reckoner", name := "draughtyBy", desc := "(I)I" } : Jvm.MethodName)) ∈ jl_tbl := jl_inT (jl_ch4 98 (by decide +kernel)) rfl
theorem jw_819 : (Jvm.Cond.code ({ cls := "LieCandles$Reckoner", name := "draughtyBy", desc := "(I)I" } : Jvm.MethodName) prog_7_method_7_code (1 : Nat) (Option.some Jvm.ClassFile.FieldType.int)) ∈ jl_tbl := jl_inT (jl_ch4 99 (rfl)) rfl
theorem jw_820 : (Jvm.Cond.methodLink "LieCandles$Reckoner" (57 : Nat) ({ cls := "java/lang/Math", name := "min", desc := "(II)I" } : Jvm.MethodName)) ∈ jl_tbl := jl_inT (jl_ch4 100 (by decide +kernel)) rfl
theorem jw_821 : (Jvm.Cond.static ({ cls := "java/lang/Math", name := "min", desc := "(II)I" } : Jvm.MethodName)) ∈ jl_tbl := jl_inT (jl_ch4 101 (by decide +kernel)) rfl
theorem jw_822 : (Jvm.Cond.code ({ cls := "java/lang/Math", name := "min", desc := "(II)I" } : Jvm.MethodName) prog_16_method_69_code (2 : Nat) (Option.some Jvm.ClassFile.FieldType.int)) ∈ jl_tbl := jl_inT (jl_ch4 102 (rfl)) rfl
theorem jw_823 : (Jvm.Cond.methodLink "LieCandles$Reckoner" (63 : Nat) ({ cls := "java/lang/Math", name := "max", desc := "(II)I" } : Jvm.MethodName)) ∈ jl_tbl := jl_inT (jl_ch4 103 (by decide +kernel)) rfl
theorem jw_824 : (Jvm.Cond.static ({ cls := "java/lang/Math", name := "max", desc := "(II)I" } : Jvm.MethodName)) ∈ jl_tbl := jl_inT (jl_ch4 104 (by decide +kernel)) rfl
theorem jw_825 : (Jvm.Cond.code ({ cls := "java/lang/Math", name := "max", desc := "(II)I" } : Jvm.MethodName) prog_16_method_65_code (2 : Nat) (Option.some Jvm.ClassFile.FieldType.int)) ∈ jl_tbl := jl_inT (jl_ch4 105 (rfl)) rfl
theorem jw_826 : (Jvm.Cond.methodLink "LieCandlesLaw" (37 : Nat) ({ cls := "LieCandles", name := "letter", desc := "(III)I" } : Jvm.MethodName)) ∈ jl_tbl := jl_inT (jl_ch4 106 (by decide +kernel)) rfl
theorem jw_827 : (Jvm.Cond.instanceMethod ({ cls := "LieCandles", name := "letter", desc := "(III)I" } : Jvm.MethodName)) ∈ jl_tbl := jl_inT (jl_ch4 107 (by decide +kernel)) rfl
theorem jw_828 : (Jvm.Cond.selects "LieCandles" ({ cls := "LieCandles", name := "letter", desc := "(III)I" } : Jvm.MethodName) ({ cls := "LieCandles", name := "letter", desc := "(III)I" } : Jvm.MethodName)) ∈ jl_tbl := jl_inT (jl_ch4 108 (by decide +kernel)) rfl
theorem jw_829 : (Jvm.Cond.code ({ cls := "LieCandles", name := "letter", desc := "(III)I" } : Jvm.MethodName) prog_1_method_7_code (4 : Nat) (Option.some Jvm.ClassFile.FieldType.int)) ∈ jl_tbl := jl_inT (jl_ch4 109 (rfl)) rfl
theorem jw_830 : (Jvm.Cond.methodLink "LieCandles" (187 : Nat) ({ cls := "LieCandles", name := "isPerson", desc := "(I)Z" } : Jvm.MethodName)) ∈ jl_tbl := jl_inT (jl_ch4 110 (by decide +kernel)) rfl
theorem jw_832 : (Jvm.Cond.instanceMethod ({ cls := "LieCandles", name := "isPerson", desc := "(I)Z" } : Jvm.MethodName)) ∈ jl_tbl := jl_inT (jl_ch4 112 (by decide +kernel)) rfl
theorem jw_833 : (Jvm.Cond.code ({ cls := "LieCandles", name := "isPerson", desc := "(I)Z" } : Jvm.MethodName) prog_1_method_42_code (2 : Nat) (Option.some Jvm.ClassFile.FieldType.boolean)) ∈ jl_tbl := jl_inT (jl_ch4 113 (rfl)) rfl
theorem jw_834 : (Jvm.Cond.methodLink "LieCandles" (193 : Nat) ({ cls := "LieCandles", name := "letterOf", desc := "(II)I" } : Jvm.MethodName)) ∈ jl_tbl := jl_inT (jl_ch4 114 (by decide +kernel)) rfl
theorem jw_835 : (Jvm.Cond.static ({ cls := "LieCandles", name := "letterOf", desc := "(II)I" } : Jvm.MethodName)) ∈ jl_tbl := jl_inT (jl_ch4 115 (by decide +kernel)) rfl
theorem jw_836 : (Jvm.Cond.code ({ cls := "LieCandles", name := "letterOf", desc := "(II)I" } : Jvm.MethodName) prog_1_method_45_code (2 : Nat) (Option.some Jvm.ClassFile.FieldType.int)) ∈ jl_tbl := jl_inT (jl_ch4 116 (rfl)) rfl
theorem jw_837 : (Jvm.Cond.methodLink "LieCandles" (197 : Nat) ({ cls := "LieCandles", name := "isLie", desc := "(I)Z" } : Jvm.MethodName)) ∈ jl_tbl := jl_inT (jl_ch4 117 (by decide +kernel)) rfl
theorem jw_839 : (Jvm.Cond.instanceMethod ({ cls := "LieCandles", name := "isLie", desc := "(I)Z" } : Jvm.MethodName)) ∈ jl_tbl := jl_inT (jl_ch4 119 (by decide +kernel)) rfl
theorem jw_840 : (Jvm.Cond.code ({ cls := "LieCandles", name := "isLie", desc := "(I)Z" } : Jvm.MethodName) prog_1_method_43_code (2 : Nat) (Option.some Jvm.ClassFile.FieldType.boolean)) ∈ jl_tbl := jl_inT (jl_ch4 120 (rfl)) rfl
theorem jw_841 : (Jvm.Cond.methodLink "LieCandlesLaw" (42 : Nat) ({ cls := "LieCandles", name := "person", desc := "(II)I" } : Jvm.MethodName)) ∈ jl_tbl := jl_inT (jl_ch4 121 (by decide +kernel)) rfl
theorem jw_842 : (Jvm.Cond.instanceMethod ({ cls := "LieCandles", name := "person", desc := "(II)I" } : Jvm.MethodName)) ∈ jl_tbl := jl_inT (jl_ch4 122 (by decide +kernel)) rfl
theorem jw_843 : (Jvm.Cond.selects "LieCandles" ({ cls := "LieCandles", name := "person", desc := "(II)I" } : Jvm.MethodName) ({ cls := "LieCandles", name := "person", desc := "(II)I" } : Jvm.MethodName)) ∈ jl_tbl := jl_inT (jl_ch4 123 (by decide +kernel)) rfl
theorem jw_844 : (Jvm.Cond.code ({ cls := "LieCandles", name := "person", desc := "(II)I" } : Jvm.MethodName) prog_1_method_8_code (3 : Nat) (Option.some Jvm.ClassFile.FieldType.int)) ∈ jl_tbl := jl_inT (jl_ch4 124 (rfl)) rfl
theorem jw_845 : (Jvm.Cond.methodLink "LieCandles" (209 : Nat) ({ cls := "LieCandles$Reckoner", name := "litOf", desc := "(LLieCandles$State;I)I" } : Jvm.MethodName)) ∈ jl_tbl := jl_inT (jl_ch4 125 (by decide +kernel)) rfl
theorem jw_846 : (Jvm.Cond.instanceMethod ({ cls := "LieCandles$Reckoner", name := "litOf", desc := "(LLieCandles$State;I)I" } : Jvm.MethodName)) ∈ jl_tbl := jl_inT (jl_ch4 126 (by decide +kernel)) rfl
theorem jw_847 : (Jvm.Cond.selects "LieCandles$Reckoner" ({ cls := "LieCandles$Reckoner", name := "litOf", desc := "(LLieCandles$State;I)I" } : Jvm.MethodName) ({ cls := "LieCandles$Reckoner", name := "litOf", desc := "(LLieCandles$State;I)I" } : Jvm.MethodName)) ∈ jl_tbl := jl_inT (jl_ch4 127 (by decide +kernel)) rfl
theorem jw_848 : (Jvm.Cond.code ({ cls := "LieCandles$Reckoner", name := "litOf", desc := "(LLieCandles$State;I)I" } : Jvm.MethodName) prog_7_method_3_code (5 : Nat) (Option.some Jvm.ClassFile.FieldType.int)) ∈ jl_tbl := jl_inT (jl_ch4 128 (rfl)) rfl
theorem jw_849 : (Jvm.Cond.methodLink "LieCandlesLaw" (47 : Nat) ({ cls := "LieCandles", name := "lie", desc := "(II)I" } : Jvm.MethodName)) ∈ jl_tbl := jl_inT (jl_ch4 129 (by decide +kernel)) rfl
theorem jw_850 : (Jvm.Cond.instanceMethod ({ cls := "LieCandles", name := "lie", desc := "(II)I" } : Jvm.MethodName)) ∈ jl_tbl := jl_inT (jl_ch4 130 (by decide +kernel)) rfl
theorem jw_851 : (Jvm.Cond.selects "LieCandles" ({ cls := "LieCandles", name := "lie", desc := "(II)I" } : Jvm.MethodName) ({ cls := "LieCandles", name := "lie", desc := "(II)I" } : Jvm.MethodName)) ∈ jl_tbl := jl_inT (jl_ch4 131 (by decide +kernel)) rfl
theorem jw_852 : (Jvm.Cond.code ({ cls := "LieCandles", name := "lie", desc := "(II)I" } : Jvm.MethodName) prog_1_method_9_code (3 : Nat) (Option.some Jvm.ClassFile.FieldType.int)) ∈ jl_tbl := jl_inT (jl_ch4 132 (rfl)) rfl
theorem jw_853 : (Jvm.Cond.methodLink "LieCandles" (225 : Nat) ({ cls := "LieCandles$Street", name := "hanging", desc := "(I)I" } : Jvm.MethodName)) ∈ jl_tbl := jl_inT (jl_ch4 133 (by decide +kernel)) rfl
theorem jw_854 : (Jvm.Cond.instanceMethod ({ cls := "LieCandles$Street", name := "hanging", desc := "(I)I" } : Jvm.MethodName)) ∈ jl_tbl := jl_inT (jl_ch4 134 (by decide +kernel)) rfl
theorem jw_855 : (Jvm.Cond.selects "LieCandles$Street" ({ cls := "LieCandles$Street", name := "hanging", desc := "(I)I" } : Jvm.MethodName) ({ cls := "LieCandles$Street", name := "hanging", desc := "(I)I" } : Jvm.MethodName)) ∈ jl_tbl := jl_inT (jl_ch4 135 (by decide +kernel)) rfl
theorem jw_856 : (Jvm.Cond.code ({ cls := "LieCandles$Street", name := "hanging", desc := "(I)I" } : Jvm.MethodName) prog_10_method_8_code (4 : Nat) (Option.some Jvm.ClassFile.FieldType.int)) ∈ jl_tbl := jl_inT (jl_ch4 136 (rfl)) rfl
theorem jw_857 : (Jvm.Cond.methodLink "LieCandles" (228 : Nat) ({ cls := "LieCandles$Reckoner", name := "nearTo", desc := "(LLieCandles$State;I)I" } : Jvm.MethodName)) ∈ jl_tbl := jl_inT (jl_ch4 137 (by decide +kernel)) rfl
theorem jw_858 : (Jvm.Cond.methodLink "LieCandlesLaw" (51 : Nat) ({ cls := "LieCandles", name := "draft", desc := "(II)I" } : Jvm.MethodName)) ∈ jl_tbl := jl_inT (jl_ch4 138 (by decide +kernel)) rfl
theorem jw_859 : (Jvm.Cond.instanceMethod ({ cls := "LieCandles", name := "draft", desc := "(II)I" } : Jvm.MethodName)) ∈ jl_tbl := jl_inT (jl_ch4 139 (by decide +kernel)) rfl
theorem jw_860 : (Jvm.Cond.selects "LieCandles" ({ cls := "LieCandles", name := "draft", desc := "(II)I" } : Jvm.MethodName) ({ cls := "LieCandles", name := "draft", desc := "(II)I" } : Jvm.MethodName)) ∈ jl_tbl := jl_inT (jl_ch4 140 (by decide +kernel)) rfl
theorem jw_861 : (Jvm.Cond.code ({ cls := "LieCandles", name := "draft", desc := "(II)I" } : Jvm.MethodName) prog_1_method_10_code (3 : Nat) (Option.some Jvm.ClassFile.FieldType.int)) ∈ jl_tbl := jl_inT (jl_ch4 141 (rfl)) rfl
theorem jw_862 : (Jvm.Cond.methodLink "LieCandles" (231 : Nat) ({ cls := "LieCandles", name := "isWindow", desc := "(I)Z" } : Jvm.MethodName)) ∈ jl_tbl := jl_inT (jl_ch4 142 (by decide +kernel)) rfl
theorem jw_864 : (Jvm.Cond.instanceMethod ({ cls := "LieCandles", name := "isWindow", desc := "(I)Z" } : Jvm.MethodName)) ∈ jl_tbl := jl_inT (jl_ch4 144 (by decide +kernel)) rfl
theorem jw_865 : (Jvm.Cond.code ({ cls := "LieCandles", name := "isWindow", desc := "(I)Z" } : Jvm.MethodName) prog_1_method_41_code (2 : Nat) (Option.some Jvm.ClassFile.FieldType.boolean)) ∈ jl_tbl := jl_inT (jl_ch4 145 (rfl)) rfl
theorem jw_866 : (Jvm.Cond.methodLink "LieCandles" (234 : Nat) ({ cls := "LieCandles$Foresight", name := "comes", desc := "(III)Z" } : Jvm.MethodName)) ∈ jl_tbl := jl_inT (jl_ch4 146 (by decide +kernel)) rfl
theorem jw_867 : (Jvm.Cond.instanceMethod ({ cls := "LieCandles$Foresight", name := "comes", desc := "(III)Z" } : Jvm.MethodName)) ∈ jl_tbl := jl_inT (jl_ch4 147 (by decide +kernel)) rfl
theorem jw_868 : (Jvm.Cond.selects "LieCandles$Foresight" ({ cls := "LieCandles$Foresight", name := "comes", desc := "(III)Z" } : Jvm.MethodName) ({ cls := "LieCandles$Foresight", name := "comes", desc := "(III)Z" } : Jvm.MethodName)) ∈ jl_tbl := jl_inT (jl_ch4 148 (by decide +kernel)) rfl
theorem jw_869 : (Jvm.Cond.code ({ cls := "LieCandles$Foresight", name := "comes", desc := "(III)Z" } : Jvm.MethodName) prog_3_method_3_code (4 : Nat) (Option.some Jvm.ClassFile.FieldType.boolean)) ∈ jl_tbl := jl_inT (jl_ch4 149 (rfl)) rfl
theorem jw_870 : (Jvm.Cond.methodLink "LieCandles$Foresight" (50 : Nat) ({ cls := "LieCandles$Foresight", name := "reach", desc := "(I)I" } : Jvm.MethodName)) ∈ jl_tbl := jl_inT (jl_ch4 150 (by decide +kernel)) rfl
theorem jw_871 : (Jvm.Cond.instanceMethod ({ cls := "LieCandles$Foresight", name := "reach", desc := "(I)I" } : Jvm.MethodName)) ∈ jl_tbl := jl_inT (jl_ch4 151 (by decide +kernel)) rfl
theorem jw_872 : (Jvm.Cond.selects "LieCandles$Foresight" ({ cls := "LieCandles$Foresight", name := "reach", desc := "(I)I" } : Jvm.MethodName) ({ cls := "LieCandles$Foresight", name := "reach", desc := "(I)I" } : Jvm.MethodName)) ∈ jl_tbl := jl_inT (jl_ch4 152 (by decide +kernel)) rfl
theorem jw_873 : (Jvm.Cond.code ({ cls := "LieCandles$Foresight", name := "reach", desc := "(I)I" } : Jvm.MethodName) prog_3_method_2_code (2 : Nat) (Option.some Jvm.ClassFile.FieldType.int)) ∈ jl_tbl := jl_inT (jl_ch4 153 (rfl)) rfl
theorem jw_874 : (Jvm.Cond.methodLink "LieCandles$Foresight" (44 : Nat) ({ cls := "java/lang/Math", name := "min", desc := "(II)I" } : Jvm.MethodName)) ∈ jl_tbl := jl_inT (jl_ch4 154 (by decide +kernel)) rfl
theorem jw_875 : (Jvm.Cond.methodLink "LieCandles" (238 : Nat) ({ cls := "LieCandles$Reckoner", name := "draughty", desc := "(LLieCandles$State;II)I" } : Jvm.MethodName)) ∈ jl_tbl := jl_inT (jl_ch4 155 (by decide +kernel)) rfl
theorem jw_876 : (Jvm.Cond.instanceMethod ({ cls := "LieCandles$Reckoner", name := "draughty", desc := "(LLieCandles$State;II)I" } : Jvm.MethodName)) ∈ jl_tbl := jl_inT (jl_ch4 156 (by decide +kernel)) rfl
theorem jw_877 : (Jvm.Cond.selects "LieCandles$Reckoner" ({ cls := "LieCandles$Reckoner", name := "draughty", desc := "(LLieCandles$State;II)I" } : Jvm.MethodName) ({ cls := "LieCandles$Reckoner", name := "draughty", desc := "(LLieCandles$State;II)I" } : Jvm.MethodName)) ∈ jl_tbl := jl_inT (jl_ch4 157 (by decide +kernel)) rfl
theorem jw_878 : (Jvm.Cond.code ({ cls := "LieCandles$Reckoner", name := "draughty", desc := "(LLieCandles$State;II)I" } : Jvm.MethodName) prog_7_method_6_code (4 : Nat) (Option.some Jvm.ClassFile.FieldType.int)) ∈ jl_tbl := jl_inT (jl_ch4 158 (rfl)) rfl
theorem jw_879 : (Jvm.Cond.methodLink "LieCandlesLaw" (55 : Nat) ({ cls := "LieCandles", name := "plan", desc := "(II)I" } : Jvm.MethodName)) ∈ jl_tbl := jl_inT (jl_ch4 159 (by decide +kernel)) rfl
theorem jw_880 : (Jvm.Cond.instanceMethod ({ cls := "LieCandles", name := "plan", desc := "(II)I" } : Jvm.MethodName)) ∈ jl_tbl := jl_inT (jl_ch4 160 (by decide +kernel)) rfl
theorem jw_881 : (Jvm.Cond.selects "LieCandles" ({ cls := "LieCandles", name := "plan", desc := "(II)I" } : Jvm.MethodName) ({ cls := "LieCandles", name := "plan", desc := "(II)I" } : Jvm.MethodName)) ∈ jl_tbl := jl_inT (jl_ch4 161 (by decide +kernel)) rfl
theorem jw_882 : (Jvm.Cond.code ({ cls := "LieCandles", name := "plan", desc := "(II)I" } : Jvm.MethodName) prog_1_method_11_code (3 : Nat) (Option.some Jvm.ClassFile.FieldType.int)) ∈ jl_tbl := jl_inT (jl_ch4 162 (rfl)) rfl
theorem jw_883 : (Jvm.Cond.methodLink "LieCandlesLaw" (59 : Nat) ({ cls := "LieCandles", name := "kept", desc := "(II)I" } : Jvm.MethodName)) ∈ jl_tbl := jl_inT (jl_ch4 163 (by decide +kernel)) rfl
theorem jw_884 : (Jvm.Cond.instanceMethod ({ cls := "LieCandles", name := "kept", desc := "(II)I" } : Jvm.MethodName)) ∈ jl_tbl := jl_inT (jl_ch4 164 (by decide +kernel)) rfl
theorem jw_885 : (Jvm.Cond.selects "LieCandles" ({ cls := "LieCandles", name := "kept", desc := "(II)I" } : Jvm.MethodName) ({ cls := "LieCandles", name := "kept", desc := "(II)I" } : Jvm.MethodName)) ∈ jl_tbl := jl_inT (jl_ch4 165 (by decide +kernel)) rfl
theorem jw_886 : (Jvm.Cond.code ({ cls := "LieCandles", name := "kept", desc := "(II)I" } : Jvm.MethodName) prog_1_method_12_code (3 : Nat) (Option.some Jvm.ClassFile.FieldType.int)) ∈ jl_tbl := jl_inT (jl_ch4 166 (rfl)) rfl
theorem jw_887 : (Jvm.Cond.methodLink "LieCandles" (251 : Nat) ({ cls := "LieCandles$Log", name := "hourOf", desc := "(I)I" } : Jvm.MethodName)) ∈ jl_tbl := jl_inT (jl_ch4 167 (by decide +kernel)) rfl
theorem jw_888 : (Jvm.Cond.instanceMethod ({ cls := "LieCandles$Log", name := "hourOf", desc := "(I)I" } : Jvm.MethodName)) ∈ jl_tbl := jl_inT (jl_ch4 168 (by decide +kernel)) rfl
theorem jw_889 : (Jvm.Cond.selects "LieCandles$Log" ({ cls := "LieCandles$Log", name := "hourOf", desc := "(I)I" } : Jvm.MethodName) ({ cls := "LieCandles$Log", name := "hourOf", desc := "(I)I" } : Jvm.MethodName)) ∈ jl_tbl := jl_inT (jl_ch4 169 (by decide +kernel)) rfl
theorem jw_890 : (Jvm.Cond.code ({ cls := "LieCandles$Log", name := "hourOf", desc := "(I)I" } : Jvm.MethodName) prog_4_method_5_code (2 : Nat) (Option.some Jvm.ClassFile.FieldType.int)) ∈ jl_tbl := jl_inT (jl_ch4 170 (rfl)) rfl
theorem jw_891 : (Jvm.Cond.methodLink "LieCandles" (254 : Nat) ({ cls := "LieCandles$Log", name := "lieOf", desc := "(I)I" } : Jvm.MethodName)) ∈ jl_tbl := jl_inT (jl_ch4 171 (by decide +kernel)) rfl
theorem jw_892 : (Jvm.Cond.instanceMethod ({ cls := "LieCandles$Log", name := "lieOf", desc := "(I)I" } : Jvm.MethodName)) ∈ jl_tbl := jl_inT (jl_ch4 172 (by decide +kernel)) rfl
theorem jw_893 : (Jvm.Cond.selects "LieCandles$Log" ({ cls := "LieCandles$Log", name := "lieOf", desc := "(I)I" } : Jvm.MethodName) ({ cls := "LieCandles$Log", name := "lieOf", desc := "(I)I" } : Jvm.MethodName)) ∈ jl_tbl := jl_inT (jl_ch4 173 (by decide +kernel)) rfl
theorem jw_894 : (Jvm.Cond.code ({ cls := "LieCandles$Log", name := "lieOf", desc := "(I)I" } : Jvm.MethodName) prog_4_method_6_code (2 : Nat) (Option.some Jvm.ClassFile.FieldType.int)) ∈ jl_tbl := jl_inT (jl_ch4 174 (rfl)) rfl
theorem jw_895 : (Jvm.Cond.methodLink "LieCandlesLaw" (63 : Nat) ({ cls := "LieCandles", name := "later", desc := "(II)I" } : Jvm.MethodName)) ∈ jl_tbl := jl_inT (jl_ch4 175 (by decide +kernel)) rfl
theorem jw_896 : (Jvm.Cond.instanceMethod ({ cls := "LieCandles", name := "later", desc := "(II)I" } : Jvm.MethodName)) ∈ jl_tbl := jl_inT (jl_ch4 176 (by decide +kernel)) rfl
theorem jw_897 : (Jvm.Cond.selects "LieCandles" ({ cls := "LieCandles", name := "later", desc := "(II)I" } : Jvm.MethodName) ({ cls := "LieCandles", name := "later", desc := "(II)I" } : Jvm.MethodName)) ∈ jl_tbl := jl_inT (jl_ch4 177 (by decide +kernel)) rfl
theorem jw_898 : (Jvm.Cond.code ({ cls := "LieCandles", name := "later", desc := "(II)I" } : Jvm.MethodName) prog_1_method_13_code (5 : Nat) (Option.some Jvm.ClassFile.FieldType.int)) ∈ jl_tbl := jl_inT (jl_ch4 178 (rfl)) rfl
theorem jw_899 : (Jvm.Cond.methodLink "LieCandles" (257 : Nat) ({ cls := "LieCandles$Foresight", name := "restart", desc := "()LLieCandles$State;" } : Jvm.MethodName)) ∈ jl_tbl := jl_inT (jl_ch4 179 (by decide +kernel)) rfl
theorem jw_900 : (Jvm.Cond.instanceMethod ({ cls := "LieCandles$Foresight", name := "restart", desc := "()LLieCandles$State;" } : Jvm.MethodName)) ∈ jl_tbl := jl_inT (jl_ch4 180 (by decide +kernel)) rfl
theorem jw_901 : (Jvm.Cond.selects "LieCandles$Foresight" ({ cls := "LieCandles$Foresight", name := "restart", desc := "()LLieCandles$State;" } : Jvm.MethodName) ({ cls := "LieCandles$Foresight", name := "restart", desc := "()LLieCandles$State;" } : Jvm.MethodName)) ∈ jl_tbl := jl_inT (jl_ch4 181 (by decide +kernel)) rfl
theorem jw_902 : (Jvm.Cond.code ({ cls := "LieCandles$Foresight", name := "restart", desc := "()LLieCandles$State;" } : Jvm.MethodName) prog_3_method_4_code (1 : Nat) (Option.some (Jvm.ClassFile.FieldType.object "LieCandles$State"))) ∈ jl_tbl := jl_inT (jl_ch4 182 (rfl)) rfl
theorem jw_903 : (Jvm.Cond.methodLink "LieCandles$Foresight" (54 : Nat) ({ cls := "LieCandles$State", name := "copyFrom", desc := "(LLieCandles$State;)V" } : Jvm.MethodName)) ∈ jl_tbl := jl_inT (jl_ch4 183 (by decide +kernel)) rfl
theorem jw_904 : (Jvm.Cond.instanceMethod ({ cls := "LieCandles$State", name := "copyFrom", desc := "(LLieCandles$State;)V" } : Jvm.MethodName)) ∈ jl_tbl := jl_inT (jl_ch4 184 (by decide +kernel)) rfl
theorem jw_905 : (Jvm.Cond.selects "LieCandles$State" ({ cls := "LieCandles$State", name := "copyFrom", desc := "(LLieCandles$State;)V" } : Jvm.MethodName) ({ cls := "LieCandles$State", name := "copyFrom", desc := "(LLieCandles$State;)V" } : Jvm.MethodName)) ∈ jl_tbl := jl_inT (jl_ch4 185 (by decide +kernel)) rfl
theorem jw_906 : (Jvm.Cond.code ({ cls := "LieCandles$State", name := "copyFrom", desc := "(LLieCandles$State;)V" } : Jvm.MethodName) prog_9_method_3_code (2 : Nat) (Option.none : Option Jvm.ClassFile.FieldType)) ∈ jl_tbl := jl_inT (jl_ch4 186 (rfl)) rfl
theorem jw_907 : (Jvm.Cond.methodLink "LieCandles" (261 : Nat) ({ cls := "LieCandles$Reckoner", name := "pass", desc := "(LLieCandles$State;)I" } : Jvm.MethodName)) ∈ jl_tbl := jl_inT (jl_ch4 187 (by decide +kernel)) rfl
theorem jw_908 : (Jvm.Cond.instanceMethod ({ cls := "LieCandles$Reckoner", name := "pass", desc := "(LLieCandles$State;)I" } : Jvm.MethodName)) ∈ jl_tbl := jl_inT (jl_ch4 188 (by decide +kernel)) rfl
theorem jw_909 : (Jvm.Cond.selects "LieCandles$Reckoner" ({ cls := "LieCandles$Reckoner", name := "pass", desc := "(LLieCandles$State;)I" } : Jvm.MethodName) ({ cls := "LieCandles$Reckoner", name := "pass", desc := "(LLieCandles$State;)I" } : Jvm.MethodName)) ∈ jl_tbl := jl_inT (jl_ch4 189 (by decide +kernel)) rfl
theorem jw_910 : (Jvm.Cond.code ({ cls := "LieCandles$Reckoner", name := "pass", desc := "(LLieCandles$State;)I" } : Jvm.MethodName) prog_7_method_10_code (4 : Nat) (Option.some Jvm.ClassFile.FieldType.int)) ∈ jl_tbl := jl_inT (jl_ch4 190 (rfl)) rfl
theorem jw_911 : (Jvm.Cond.methodLink "LieCandles$Reckoner" (77 : Nat) ({ cls := "LieCandles$Reckoner", name := "lightPlanned", desc := "(LLieCandles$State;)V" } : Jvm.MethodName)) ∈ jl_tbl := jl_inT (jl_ch4 191 (by decide +kernel)) rfl
theorem jw_913 : (Jvm.Cond.instanceMethod ({ cls := "LieCandles$Reckoner", name := "lightPlanned", desc := "(LLieCandles$State;)V" } : Jvm.MethodName)) ∈ jl_tbl := jl_inT (jl_ch4 193 (by decide +kernel)) rfl
theorem jw_914 : (Jvm.Cond.code ({ cls := "LieCandles$Reckoner", name := "lightPlanned", desc := "(LLieCandles$State;)V" } : Jvm.MethodName) prog_7_method_13_code (5 : Nat) (Option.none : Option Jvm.ClassFile.FieldType)) ∈ jl_tbl := jl_inT (jl_ch4 194 (rfl)) rfl
theorem jw_915 : (Jvm.Cond.methodLink "LieCandles$Reckoner" (120 : Nat) ({ cls := "LieCandles$State", name := "kindle", desc := "(II)V" } : Jvm.MethodName)) ∈ jl_tbl := jl_inT (jl_ch4 195 (by decide +kernel)) rfl
theorem jw_916 : (Jvm.Cond.instanceMethod ({ cls := "LieCandles$State", name := "kindle", desc := "(II)V" } : Jvm.MethodName)) ∈ jl_tbl := jl_inT (jl_ch4 196 (by decide +kernel)) rfl
theorem jw_917 : (Jvm.Cond.selects "LieCandles$State" ({ cls := "LieCandles$State", name := "kindle", desc := "(II)V" } : Jvm.MethodName) ({ cls := "LieCandles$State", name := "kindle", desc := "(II)V" } : Jvm.MethodName)) ∈ jl_tbl := jl_inT (jl_ch4 197 (by decide +kernel)) rfl
theorem jw_918 : (Jvm.Cond.code ({ cls := "LieCandles$State", name := "kindle", desc := "(II)V" } : Jvm.MethodName) prog_9_method_5_code (3 : Nat) (Option.none : Option Jvm.ClassFile.FieldType)) ∈ jl_tbl := jl_inT (jl_ch4 198 (rfl)) rfl
theorem jw_919 : (Jvm.Cond.methodLink "LieCandles$Reckoner" (81 : Nat) ({ cls := "LieCandles$State", name := "burn", desc := "(II)V" } : Jvm.MethodName)) ∈ jl_tbl := jl_inT (jl_ch4 199 (by decide +kernel)) rfl
theorem jw_920 : (Jvm.Cond.instanceMethod ({ cls := "LieCandles$State", name := "burn", desc := "(II)V" } : Jvm.MethodName)) ∈ jl_tbl := jl_inT (jl_ch4 200 (by decide +kernel)) rfl
theorem jw_921 : (Jvm.Cond.selects "LieCandles$State" ({ cls := "LieCandles$State", name := "burn", desc := "(II)V" } : Jvm.MethodName) ({ cls := "LieCandles$State", name := "burn", desc := "(II)V" } : Jvm.MethodName)) ∈ jl_tbl := jl_inT (jl_ch4 201 (by decide +kernel)) rfl
theorem jw_922 : (Jvm.Cond.code ({ cls := "LieCandles$State", name := "burn", desc := "(II)V" } : Jvm.MethodName) prog_9_method_10_code (3 : Nat) (Option.none : Option Jvm.ClassFile.FieldType)) ∈ jl_tbl := jl_inT (jl_ch4 202 (rfl)) rfl
theorem jw_923 : (Jvm.Cond.methodLink "LieCandles$State" (64 : Nat) ({ cls := "java/lang/Math", name := "min", desc := "(II)I" } : Jvm.MethodName)) ∈ jl_tbl := jl_inT (jl_ch4 203 (by decide +kernel)) rfl
theorem jw_924 : (Jvm.Cond.methodLink "LieCandles$State" (70 : Nat) ({ cls := "java/lang/Math", name := "max", desc := "(II)I" } : Jvm.MethodName)) ∈ jl_tbl := jl_inT (jl_ch4 204 (by decide +kernel)) rfl
theorem jw_925 : (Jvm.Cond.methodLink "LieCandles$Reckoner" (73 : Nat) ({ cls := "LieCandles$State", name := "putOut", desc := "(I)V" } : Jvm.MethodName)) ∈ jl_tbl := jl_inT (jl_ch4 205 (by decide +kernel)) rfl
theorem jw_926 : (Jvm.Cond.methodLink "LieCandlesLaw" (67 : Nat) ({ cls := "LieCandles", name := "held", desc := "(II)I" } : Jvm.MethodName)) ∈ jl_tbl := jl_inT (jl_ch4 206 (by decide +kernel)) rfl
theorem jw_927 : (Jvm.Cond.instanceMethod ({ cls := "LieCandles", name := "held", desc := "(II)I" } : Jvm.MethodName)) ∈ jl_tbl := jl_inT (jl_ch4 207 (by decide +kernel)) rfl
theorem jw_928 : (Jvm.Cond.selects "LieCandles" ({ cls := "LieCandles", name := "held", desc := "(II)I" } : Jvm.MethodName) ({ cls := "LieCandles", name := "held", desc := "(II)I" } : Jvm.MethodName)) ∈ jl_tbl := jl_inT (jl_ch4 208 (by decide +kernel)) rfl
theorem jw_929 : (Jvm.Cond.code ({ cls := "LieCandles", name := "held", desc := "(II)I" } : Jvm.MethodName) prog_1_method_14_code (3 : Nat) (Option.some Jvm.ClassFile.FieldType.int)) ∈ jl_tbl := jl_inT (jl_ch4 209 (rfl)) rfl
theorem jw_930 : (Jvm.Cond.methodLink "LieCandles" (264 : Nat) ({ cls := "LieCandles$Foresight", name := "believedBehind", desc := "(I)I" } : Jvm.MethodName)) ∈ jl_tbl := jl_inT (jl_ch4 210 (by decide +kernel)) rfl
theorem jw_931 : (Jvm.Cond.instanceMethod ({ cls := "LieCandles$Foresight", name := "believedBehind", desc := "(I)I" } : Jvm.MethodName)) ∈ jl_tbl := jl_inT (jl_ch4 211 (by decide +kernel)) rfl
theorem jw_932 : (Jvm.Cond.selects "LieCandles$Foresight" ({ cls := "LieCandles$Foresight", name := "believedBehind", desc := "(I)I" } : Jvm.MethodName) ({ cls := "LieCandles$Foresight", name := "believedBehind", desc := "(I)I" } : Jvm.MethodName)) ∈ jl_tbl := jl_inT (jl_ch4 212 (by decide +kernel)) rfl
theorem jw_933 : (Jvm.Cond.code ({ cls := "LieCandles$Foresight", name := "believedBehind", desc := "(I)I" } : Jvm.MethodName) prog_3_method_5_code (3 : Nat) (Option.some Jvm.ClassFile.FieldType.int)) ∈ jl_tbl := jl_inT (jl_ch4 213 (rfl)) rfl
theorem jw_934 : (Jvm.Cond.methodLink "LieCandles$Foresight" (58 : Nat) ({ cls := "LieCandles$Reckoner", name := "pass", desc := "(LLieCandles$State;)I" } : Jvm.MethodName)) ∈ jl_tbl := jl_inT (jl_ch4 214 (by decide +kernel)) rfl
theorem jw_935 : (Jvm.Cond.methodLink "LieCandles$Foresight" (64 : Nat) ({ cls := "LieCandles$Reckoner", name := "believed", desc := "(LLieCandles$State;)I" } : Jvm.MethodName)) ∈ jl_tbl := jl_inT (jl_ch4 215 (by decide +kernel)) rfl
theorem jw_936 : (Jvm.Cond.methodLink "LieCandlesLaw" (71 : Nat) ({ cls := "LieCandles", name := "out", desc := "(I)I" } : Jvm.MethodName)) ∈ jl_tbl := jl_inT (jl_ch4 216 (by decide +kernel)) rfl
theorem jw_937 : (Jvm.Cond.instanceMethod ({ cls := "LieCandles", name := "out", desc := "(I)I" } : Jvm.MethodName)) ∈ jl_tbl := jl_inT (jl_ch4 217 (by decide +kernel)) rfl
theorem jw_938 : (Jvm.Cond.selects "LieCandles" ({ cls := "LieCandles", name := "out", desc := "(I)I" } : Jvm.MethodName) ({ cls := "LieCandles", name := "out", desc := "(I)I" } : Jvm.MethodName)) ∈ jl_tbl := jl_inT (jl_ch4 218 (by decide +kernel)) rfl
theorem jw_939 : (Jvm.Cond.code ({ cls := "LieCandles", name := "out", desc := "(I)I" } : Jvm.MethodName) prog_1_method_15_code (2 : Nat) (Option.some Jvm.ClassFile.FieldType.int)) ∈ jl_tbl := jl_inT (jl_ch4 219 (rfl)) rfl
theorem jw_940 : (Jvm.Cond.methodLink "LieCandles" (267 : Nat) ({ cls := "LieCandles", name := "isLit", desc := "(I)Z" } : Jvm.MethodName)) ∈ jl_tbl := jl_inT (jl_ch4 220 (by decide +kernel)) rfl
theorem jw_942 : (Jvm.Cond.instanceMethod ({ cls := "LieCandles", name := "isLit", desc := "(I)Z" } : Jvm.MethodName)) ∈ jl_tbl := jl_inT (jl_ch4 222 (by decide +kernel)) rfl
theorem jw_943 : (Jvm.Cond.code ({ cls := "LieCandles", name := "isLit", desc := "(I)Z" } : Jvm.MethodName) prog_1_method_44_code (2 : Nat) (Option.some Jvm.ClassFile.FieldType.boolean)) ∈ jl_tbl := jl_inT (jl_ch4 223 (rfl)) rfl
theorem jw_944 : (Jvm.Cond.methodLink "LieCandles" (270 : Nat) ({ cls := "LieCandles$Foresight", name := "firstUnlit", desc := "(I)I" } : Jvm.MethodName)) ∈ jl_tbl := jl_inT (jl_ch4 224 (by decide +kernel)) rfl
theorem jw_945 : (Jvm.Cond.instanceMethod ({ cls := "LieCandles$Foresight", name := "firstUnlit", desc := "(I)I" } : Jvm.MethodName)) ∈ jl_tbl := jl_inT (jl_ch4 225 (by decide +kernel)) rfl
theorem jw_946 : (Jvm.Cond.selects "LieCandles$Foresight" ({ cls := "LieCandles$Foresight", name := "firstUnlit", desc := "(I)I" } : Jvm.MethodName) ({ cls := "LieCandles$Foresight", name := "firstUnlit", desc := "(I)I" } : Jvm.MethodName)) ∈ jl_tbl := jl_inT (jl_ch4 226 (by decide +kernel)) rfl
theorem jw_947 : (Jvm.Cond.code ({ cls := "LieCandles$Foresight", name := "firstUnlit", desc := "(I)I" } : Jvm.MethodName) prog_3_method_6_code (4 : Nat) (Option.some Jvm.ClassFile.FieldType.int)) ∈ jl_tbl := jl_inT (jl_ch4 227 (rfl)) rfl
theorem jw_948 : (Jvm.Cond.methodLink "LieCandles$Foresight" (67 : Nat) ({ cls := "LieCandles$Foresight", name := "restart", desc := "()LLieCandles$State;" } : Jvm.MethodName)) ∈ jl_tbl := jl_inT (jl_ch4 228 (by decide +kernel)) rfl
theorem jw_949 : (Jvm.Cond.methodLink "LieCandlesLaw" (75 : Nat) ({ cls := "LieCandles", name := "trusted", desc := "(II)I" } : Jvm.MethodName)) ∈ jl_tbl := jl_inT (jl_ch4 229 (by decide +kernel)) rfl
theorem jw_950 : (Jvm.Cond.instanceMethod ({ cls := "LieCandles", name := "trusted", desc := "(II)I" } : Jvm.MethodName)) ∈ jl_tbl := jl_inT (jl_ch4 230 (by decide +kernel)) rfl
theorem jw_951 : (Jvm.Cond.selects "LieCandles" ({ cls := "LieCandles", name := "trusted", desc := "(II)I" } : Jvm.MethodName) ({ cls := "LieCandles", name := "trusted", desc := "(II)I" } : Jvm.MethodName)) ∈ jl_tbl := jl_inT (jl_ch4 231 (by decide +kernel)) rfl
theorem jw_952 : (Jvm.Cond.code ({ cls := "LieCandles", name := "trusted", desc := "(II)I" } : Jvm.MethodName) prog_1_method_16_code (3 : Nat) (Option.some Jvm.ClassFile.FieldType.int)) ∈ jl_tbl := jl_inT (jl_ch4 232 (rfl)) rfl
theorem jw_953 : (Jvm.Cond.methodLink "LieCandles" (273 : Nat) ({ cls := "LieCandles$Foresight", name := "firstTrust", desc := "(IZ)I" } : Jvm.MethodName)) ∈ jl_tbl := jl_inT (jl_ch4 233 (by decide +kernel)) rfl
theorem jw_954 : (Jvm.Cond.instanceMethod ({ cls := "LieCandles$Foresight", name := "firstTrust", desc := "(IZ)I" } : Jvm.MethodName)) ∈ jl_tbl := jl_inT (jl_ch4 234 (by decide +kernel)) rfl
theorem jw_955 : (Jvm.Cond.selects "LieCandles$Foresight" ({ cls := "LieCandles$Foresight", name := "firstTrust", desc := "(IZ)I" } : Jvm.MethodName) ({ cls := "LieCandles$Foresight", name := "firstTrust", desc := "(IZ)I" } : Jvm.MethodName)) ∈ jl_tbl := jl_inT (jl_ch4 235 (by decide +kernel)) rfl
theorem jw_956 : (Jvm.Cond.code ({ cls := "LieCandles$Foresight", name := "firstTrust", desc := "(IZ)I" } : Jvm.MethodName) prog_3_method_7_code (7 : Nat) (Option.some Jvm.ClassFile.FieldType.int)) ∈ jl_tbl := jl_inT (jl_ch4 236 (rfl)) rfl
theorem jw_957 : (Jvm.Cond.methodLink "LieCandlesLaw" (79 : Nat) ({ cls := "LieCandles", name := "shorts", desc := "(II)I" } : Jvm.MethodName)) ∈ jl_tbl := jl_inT (jl_ch4 237 (by decide +kernel)) rfl
theorem jw_958 : (Jvm.Cond.instanceMethod ({ cls := "LieCandles", name := "shorts", desc := "(II)I" } : Jvm.MethodName)) ∈ jl_tbl := jl_inT (jl_ch4 238 (by decide +kernel)) rfl
theorem jw_959 : (Jvm.Cond.selects "LieCandles" ({ cls := "LieCandles", name := "shorts", desc := "(II)I" } : Jvm.MethodName) ({ cls := "LieCandles", name := "shorts", desc := "(II)I" } : Jvm.MethodName)) ∈ jl_tbl := jl_inT (jl_ch4 239 (by decide +kernel)) rfl
theorem jw_960 : (Jvm.Cond.code ({ cls := "LieCandles", name := "shorts", desc := "(II)I" } : Jvm.MethodName) prog_1_method_17_code (3 : Nat) (Option.some Jvm.ClassFile.FieldType.int)) ∈ jl_tbl := jl_inT (jl_ch5 0 (rfl)) rfl
theorem jw_961 : (Jvm.Cond.methodLink "LieCandles" (277 : Nat) ({ cls := "LieCandles$Foresight", name := "shortCandle", desc := "(II)I" } : Jvm.MethodName)) ∈ jl_tbl := jl_inT (jl_ch5 1 (by decide +kernel)) rfl
theorem jw_962 : (Jvm.Cond.instanceMethod ({ cls := "LieCandles$Foresight", name := "shortCandle", desc := "(II)I" } : Jvm.MethodName)) ∈ jl_tbl := jl_inT (jl_ch5 2 (by decide +kernel)) rfl
theorem jw_963 : (Jvm.Cond.selects "LieCandles$Foresight" ({ cls := "LieCandles$Foresight", name := "shortCandle", desc := "(II)I" } : Jvm.MethodName) ({ cls := "LieCandles$Foresight", name := "shortCandle", desc := "(II)I" } : Jvm.MethodName)) ∈ jl_tbl := jl_inT (jl_ch5 3 (by decide +kernel)) rfl
theorem jw_964 : (Jvm.Cond.code ({ cls := "LieCandles$Foresight", name := "shortCandle", desc := "(II)I" } : Jvm.MethodName) prog_3_method_8_code (7 : Nat) (Option.some Jvm.ClassFile.FieldType.int)) ∈ jl_tbl := jl_inT (jl_ch5 4 (rfl)) rfl
theorem jw_965 : (Jvm.Cond.methodLink "LieCandles$Foresight" (75 : Nat) ({ cls := "LieCandles$Reckoner", name := "litLies", desc := "(LLieCandles$State;)I" } : Jvm.MethodName)) ∈ jl_tbl := jl_inT (jl_ch5 5 (by decide +kernel)) rfl
theorem jw_966 : (Jvm.Cond.methodLink "LieCandles$Foresight" (78 : Nat) ({ cls := "LieCandles$State", name := "setCandle", desc := "(II)V" } : Jvm.MethodName)) ∈ jl_tbl := jl_inT (jl_ch5 6 (by decide +kernel)) rfl
theorem jw_967 : (Jvm.Cond.methodLink "LieCandles$Foresight" (82 : Nat) ({ cls := "LieCandles$Foresight", name := "believedBehind", desc := "(I)I" } : Jvm.MethodName)) ∈ jl_tbl := jl_inT (jl_ch5 7 (by decide +kernel)) rfl
theorem jw_968 : (Jvm.Cond.methodLink "LieCandlesLaw" (83 : Nat) ({ cls := "LieCandles", name := "together", desc := "(II)I" } : Jvm.MethodName)) ∈ jl_tbl := jl_inT (jl_ch5 8 (by decide +kernel)) rfl
theorem jw_969 : (Jvm.Cond.instanceMethod ({ cls := "LieCandles", name := "together", desc := "(II)I" } : Jvm.MethodName)) ∈ jl_tbl := jl_inT (jl_ch5 9 (by decide +kernel)) rfl
theorem jw_970 : (Jvm.Cond.selects "LieCandles" ({ cls := "LieCandles", name := "together", desc := "(II)I" } : Jvm.MethodName) ({ cls := "LieCandles", name := "together", desc := "(II)I" } : Jvm.MethodName)) ∈ jl_tbl := jl_inT (jl_ch5 10 (by decide +kernel)) rfl
theorem jw_971 : (Jvm.Cond.code ({ cls := "LieCandles", name := "together", desc := "(II)I" } : Jvm.MethodName) prog_1_method_18_code (3 : Nat) (Option.some Jvm.ClassFile.FieldType.int)) ∈ jl_tbl := jl_inT (jl_ch5 11 (rfl)) rfl
theorem jw_972 : (Jvm.Cond.methodLink "LieCandlesLaw" (87 : Nat) ({ cls := "LieCandles", name := "keystone", desc := "(II)I" } : Jvm.MethodName)) ∈ jl_tbl := jl_inT (jl_ch5 12 (by decide +kernel)) rfl
theorem jw_973 : (Jvm.Cond.instanceMethod ({ cls := "LieCandles", name := "keystone", desc := "(II)I" } : Jvm.MethodName)) ∈ jl_tbl := jl_inT (jl_ch5 13 (by decide +kernel)) rfl
theorem jw_974 : (Jvm.Cond.selects "LieCandles" ({ cls := "LieCandles", name := "keystone", desc := "(II)I" } : Jvm.MethodName) ({ cls := "LieCandles", name := "keystone", desc := "(II)I" } : Jvm.MethodName)) ∈ jl_tbl := jl_inT (jl_ch5 14 (by decide +kernel)) rfl
theorem jw_975 : (Jvm.Cond.code ({ cls := "LieCandles", name := "keystone", desc := "(II)I" } : Jvm.MethodName) prog_1_method_19_code (3 : Nat) (Option.some Jvm.ClassFile.FieldType.int)) ∈ jl_tbl := jl_inT (jl_ch5 15 (rfl)) rfl
theorem jw_976 : (Jvm.Cond.methodLink "LieCandles" (280 : Nat) ({ cls := "LieCandles$Foresight", name := "searchKeystone", desc := "(I)V" } : Jvm.MethodName)) ∈ jl_tbl := jl_inT (jl_ch5 16 (by decide +kernel)) rfl
theorem jw_977 : (Jvm.Cond.instanceMethod ({ cls := "LieCandles$Foresight", name := "searchKeystone", desc := "(I)V" } : Jvm.MethodName)) ∈ jl_tbl := jl_inT (jl_ch5 17 (by decide +kernel)) rfl
theorem jw_978 : (Jvm.Cond.selects "LieCandles$Foresight" ({ cls := "LieCandles$Foresight", name := "searchKeystone", desc := "(I)V" } : Jvm.MethodName) ({ cls := "LieCandles$Foresight", name := "searchKeystone", desc := "(I)V" } : Jvm.MethodName)) ∈ jl_tbl := jl_inT (jl_ch5 18 (by decide +kernel)) rfl
theorem jw_979 : (Jvm.Cond.code ({ cls := "LieCandles$Foresight", name := "searchKeystone", desc := "(I)V" } : Jvm.MethodName) prog_3_method_9_code (4 : Nat) (Option.none : Option Jvm.ClassFile.FieldType)) ∈ jl_tbl := jl_inT (jl_ch5 19 (rfl)) rfl
theorem jw_980 : (Jvm.Cond.methodLink "LieCandles$Foresight" (85 : Nat) ({ cls := "LieCandles$State", name := "quench", desc := "(I)I" } : Jvm.MethodName)) ∈ jl_tbl := jl_inT (jl_ch5 20 (by decide +kernel)) rfl
theorem jw_981 : (Jvm.Cond.instanceMethod ({ cls := "LieCandles$State", name := "quench", desc := "(I)I" } : Jvm.MethodName)) ∈ jl_tbl := jl_inT (jl_ch5 21 (by decide +kernel)) rfl
theorem jw_982 : (Jvm.Cond.selects "LieCandles$State" ({ cls := "LieCandles$State", name := "quench", desc := "(I)I" } : Jvm.MethodName) ({ cls := "LieCandles$State", name := "quench", desc := "(I)I" } : Jvm.MethodName)) ∈ jl_tbl := jl_inT (jl_ch5 22 (by decide +kernel)) rfl
theorem jw_983 : (Jvm.Cond.code ({ cls := "LieCandles$State", name := "quench", desc := "(I)I" } : Jvm.MethodName) prog_9_method_8_code (3 : Nat) (Option.some Jvm.ClassFile.FieldType.int)) ∈ jl_tbl := jl_inT (jl_ch5 23 (rfl)) rfl
theorem jw_984 : (Jvm.Cond.methodLink "LieCandles$State" (61 : Nat) ({ cls := "LieCandles$State", name := "addTallow", desc := "(I)V" } : Jvm.MethodName)) ∈ jl_tbl := jl_inT (jl_ch5 24 (by decide +kernel)) rfl
theorem jw_985 : (Jvm.Cond.instanceMethod ({ cls := "LieCandles$State", name := "addTallow", desc := "(I)V" } : Jvm.MethodName)) ∈ jl_tbl := jl_inT (jl_ch5 25 (by decide +kernel)) rfl
theorem jw_986 : (Jvm.Cond.selects "LieCandles$State" ({ cls := "LieCandles$State", name := "addTallow", desc := "(I)V" } : Jvm.MethodName) ({ cls := "LieCandles$State", name := "addTallow", desc := "(I)V" } : Jvm.MethodName)) ∈ jl_tbl := jl_inT (jl_ch5 26 (by decide +kernel)) rfl
theorem jw_987 : (Jvm.Cond.code ({ cls := "LieCandles$State", name := "addTallow", desc := "(I)V" } : Jvm.MethodName) prog_9_method_9_code (2 : Nat) (Option.none : Option Jvm.ClassFile.FieldType)) ∈ jl_tbl := jl_inT (jl_ch5 27 (rfl)) rfl
theorem jw_988 : (Jvm.Cond.methodLink "LieCandles$Foresight" (88 : Nat) ({ cls := "java/lang/Integer", name := "bitCount", desc := "(I)I" } : Jvm.MethodName)) ∈ jl_tbl := jl_inT (jl_ch5 28 (by decide +kernel)) rfl
theorem jw_989 : (Jvm.Cond.methodLink "LieCandlesLaw" (91 : Nat) ({ cls := "LieCandles", name := "change", desc := "(II)I" } : Jvm.MethodName)) ∈ jl_tbl := jl_inT (jl_ch5 29 (by decide +kernel)) rfl
theorem jw_990 : (Jvm.Cond.instanceMethod ({ cls := "LieCandles", name := "change", desc := "(II)I" } : Jvm.MethodName)) ∈ jl_tbl := jl_inT (jl_ch5 30 (by decide +kernel)) rfl
theorem jw_991 : (Jvm.Cond.selects "LieCandles" ({ cls := "LieCandles", name := "change", desc := "(II)I" } : Jvm.MethodName) ({ cls := "LieCandles", name := "change", desc := "(II)I" } : Jvm.MethodName)) ∈ jl_tbl := jl_inT (jl_ch5 31 (by decide +kernel)) rfl
theorem jw_992 : (Jvm.Cond.code ({ cls := "LieCandles", name := "change", desc := "(II)I" } : Jvm.MethodName) prog_1_method_20_code (3 : Nat) (Option.some Jvm.ClassFile.FieldType.int)) ∈ jl_tbl := jl_inT (jl_ch5 32 (rfl)) rfl
theorem jw_993 : (Jvm.Cond.methodLink "LieCandles" (289 : Nat) ({ cls := "LieCandles", name := "hasStreet", desc := "()Z" } : Jvm.MethodName)) ∈ jl_tbl := jl_inT (jl_ch5 33 (by decide +kernel)) rfl
theorem jw_995 : (Jvm.Cond.instanceMethod ({ cls := "LieCandles", name := "hasStreet", desc := "()Z" } : Jvm.MethodName)) ∈ jl_tbl := jl_inT (jl_ch5 35 (by decide +kernel)) rfl
theorem jw_996 : (Jvm.Cond.code ({ cls := "LieCandles", name := "hasStreet", desc := "()Z" } : Jvm.MethodName) prog_1_method_40_code (1 : Nat) (Option.some Jvm.ClassFile.FieldType.boolean)) ∈ jl_tbl := jl_inT (jl_ch5 36 (rfl)) rfl
theorem jw_997 : (Jvm.Cond.methodLink "LieCandles" (293 : Nat) ({ cls := "LieCandles$Foresight", name := "searchChange", desc := "(I)V" } : Jvm.MethodName)) ∈ jl_tbl := jl_inT (jl_ch5 37 (by decide +kernel)) rfl
theorem jw_998 : (Jvm.Cond.instanceMethod ({ cls := "LieCandles$Foresight", name := "searchChange", desc := "(I)V" } : Jvm.MethodName)) ∈ jl_tbl := jl_inT (jl_ch5 38 (by decide +kernel)) rfl
theorem jw_999 : (Jvm.Cond.selects "LieCandles$Foresight" ({ cls := "LieCandles$Foresight", name := "searchChange", desc := "(I)V" } : Jvm.MethodName) ({ cls := "LieCandles$Foresight", name := "searchChange", desc := "(I)V" } : Jvm.MethodName)) ∈ jl_tbl := jl_inT (jl_ch5 39 (by decide +kernel)) rfl
theorem jw_1000 : (Jvm.Cond.code ({ cls := "LieCandles$Foresight", name := "searchChange", desc := "(I)V" } : Jvm.MethodName) prog_3_method_10_code (6 : Nat) (Option.none : Option Jvm.ClassFile.FieldType)) ∈ jl_tbl := jl_inT (jl_ch5 40 (rfl)) rfl
theorem jw_1001 : (Jvm.Cond.methodLink "LieCandles$Foresight" (102 : Nat) ({ cls := "LieCandles$State", name := "swapHomes", desc := "(II)V" } : Jvm.MethodName)) ∈ jl_tbl := jl_inT (jl_ch5 41 (by decide +kernel)) rfl
theorem jw_1002 : (Jvm.Cond.instanceMethod ({ cls := "LieCandles$State", name := "swapHomes", desc := "(II)V" } : Jvm.MethodName)) ∈ jl_tbl := jl_inT (jl_ch5 42 (by decide +kernel)) rfl
theorem jw_1003 : (Jvm.Cond.selects "LieCandles$State" ({ cls := "LieCandles$State", name := "swapHomes", desc := "(II)V" } : Jvm.MethodName) ({ cls := "LieCandles$State", name := "swapHomes", desc := "(II)V" } : Jvm.MethodName)) ∈ jl_tbl := jl_inT (jl_ch5 43 (by decide +kernel)) rfl
theorem jw_1004 : (Jvm.Cond.code ({ cls := "LieCandles$State", name := "swapHomes", desc := "(II)V" } : Jvm.MethodName) prog_9_method_11_code (4 : Nat) (Option.none : Option Jvm.ClassFile.FieldType)) ∈ jl_tbl := jl_inT (jl_ch5 44 (rfl)) rfl
theorem jw_1005 : (Jvm.Cond.methodLink "LieCandlesLaw" (95 : Nat) ({ cls := "LieCandles", name := "odds", desc := "(I)I" } : Jvm.MethodName)) ∈ jl_tbl := jl_inT (jl_ch5 45 (by decide +kernel)) rfl
theorem jw_1006 : (Jvm.Cond.instanceMethod ({ cls := "LieCandles", name := "odds", desc := "(I)I" } : Jvm.MethodName)) ∈ jl_tbl := jl_inT (jl_ch5 46 (by decide +kernel)) rfl
theorem jw_1007 : (Jvm.Cond.selects "LieCandles" ({ cls := "LieCandles", name := "odds", desc := "(I)I" } : Jvm.MethodName) ({ cls := "LieCandles", name := "odds", desc := "(I)I" } : Jvm.MethodName)) ∈ jl_tbl := jl_inT (jl_ch5 47 (by decide +kernel)) rfl
theorem jw_1008 : (Jvm.Cond.code ({ cls := "LieCandles", name := "odds", desc := "(I)I" } : Jvm.MethodName) prog_1_method_21_code (2 : Nat) (Option.some Jvm.ClassFile.FieldType.int)) ∈ jl_tbl := jl_inT (jl_ch5 48 (rfl)) rfl
theorem jw_1009 : (Jvm.Cond.methodLink "LieCandles" (305 : Nat) ({ cls := "LieCandles$Foresight", name := "oddsOf", desc := "(I)I" } : Jvm.MethodName)) ∈ jl_tbl := jl_inT (jl_ch5 49 (by decide +kernel)) rfl
theorem jw_1010 : (Jvm.Cond.instanceMethod ({ cls := "LieCandles$Foresight", name := "oddsOf", desc := "(I)I" } : Jvm.MethodName)) ∈ jl_tbl := jl_inT (jl_ch5 50 (by decide +kernel)) rfl
theorem jw_1011 : (Jvm.Cond.selects "LieCandles$Foresight" ({ cls := "LieCandles$Foresight", name := "oddsOf", desc := "(I)I" } : Jvm.MethodName) ({ cls := "LieCandles$Foresight", name := "oddsOf", desc := "(I)I" } : Jvm.MethodName)) ∈ jl_tbl := jl_inT (jl_ch5 51 (by decide +kernel)) rfl
theorem jw_1012 : (Jvm.Cond.code ({ cls := "LieCandles$Foresight", name := "oddsOf", desc := "(I)I" } : Jvm.MethodName) prog_3_method_11_code (6 : Nat) (Option.some Jvm.ClassFile.FieldType.int)) ∈ jl_tbl := jl_inT (jl_ch5 52 (rfl)) rfl
theorem jw_1013 : (Jvm.Cond.methodLink "LieCandles$Foresight" (111 : Nat) ({ cls := "LieCandles$Reckoner", name := "blow", desc := "(LLieCandles$State;I)I" } : Jvm.MethodName)) ∈ jl_tbl := jl_inT (jl_ch5 53 (by decide +kernel)) rfl
theorem jw_1014 : (Jvm.Cond.instanceMethod ({ cls := "LieCandles$Reckoner", name := "blow", desc := "(LLieCandles$State;I)I" } : Jvm.MethodName)) ∈ jl_tbl := jl_inT (jl_ch5 54 (by decide +kernel)) rfl
theorem jw_1015 : (Jvm.Cond.selects "LieCandles$Reckoner" ({ cls := "LieCandles$Reckoner", name := "blow", desc := "(LLieCandles$State;I)I" } : Jvm.MethodName) ({ cls := "LieCandles$Reckoner", name := "blow", desc := "(LLieCandles$State;I)I" } : Jvm.MethodName)) ∈ jl_tbl := jl_inT (jl_ch5 55 (by decide +kernel)) rfl
theorem jw_1016 : (Jvm.Cond.code ({ cls := "LieCandles$Reckoner", name := "blow", desc := "(LLieCandles$State;I)I" } : Jvm.MethodName) prog_7_method_9_code (5 : Nat) (Option.some Jvm.ClassFile.FieldType.int)) ∈ jl_tbl := jl_inT (jl_ch5 56 (rfl)) rfl
theorem jw_1017 : (Jvm.Cond.methodLink "LieCandlesLaw" (99 : Nat) ({ cls := "LieCandles", name := "see", desc := "()I" } : Jvm.MethodName)) ∈ jl_tbl := jl_inT (jl_ch5 57 (by decide +kernel)) rfl
theorem jw_1018 : (Jvm.Cond.instanceMethod ({ cls := "LieCandles", name := "see", desc := "()I" } : Jvm.MethodName)) ∈ jl_tbl := jl_inT (jl_ch5 58 (by decide +kernel)) rfl
theorem jw_1019 : (Jvm.Cond.selects "LieCandles" ({ cls := "LieCandles", name := "see", desc := "()I" } : Jvm.MethodName) ({ cls := "LieCandles", name := "see", desc := "()I" } : Jvm.MethodName)) ∈ jl_tbl := jl_inT (jl_ch5 59 (by decide +kernel)) rfl
theorem jw_1020 : (Jvm.Cond.code ({ cls := "LieCandles", name := "see", desc := "()I" } : Jvm.MethodName) prog_1_method_22_code (2 : Nat) (Option.some Jvm.ClassFile.FieldType.int)) ∈ jl_tbl := jl_inT (jl_ch5 60 (rfl)) rfl
theorem jw_1021 : (Jvm.Cond.methodLink "LieCandles" (308 : Nat) ({ cls := "LieCandles$Sight", name := "take", desc := "(LLieCandles$Tape;I)Z" } : Jvm.MethodName)) ∈ jl_tbl := jl_inT (jl_ch5 61 (by decide +kernel)) rfl
theorem jw_1022 : (Jvm.Cond.instanceMethod ({ cls := "LieCandles$Sight", name := "take", desc := "(LLieCandles$Tape;I)Z" } : Jvm.MethodName)) ∈ jl_tbl := jl_inT (jl_ch5 62 (by decide +kernel)) rfl
theorem jw_1023 : (Jvm.Cond.selects "LieCandles$Sight" ({ cls := "LieCandles$Sight", name := "take", desc := "(LLieCandles$Tape;I)Z" } : Jvm.MethodName) ({ cls := "LieCandles$Sight", name := "take", desc := "(LLieCandles$Tape;I)Z" } : Jvm.MethodName)) ∈ jl_tbl := jl_inT (jl_ch5 63 (by decide +kernel)) rfl
theorem jw_1024 : (Jvm.Cond.code ({ cls := "LieCandles$Sight", name := "take", desc := "(LLieCandles$Tape;I)Z" } : Jvm.MethodName) prog_8_method_2_code (5 : Nat) (Option.some Jvm.ClassFile.FieldType.boolean)) ∈ jl_tbl := jl_inT (jl_ch5 64 (rfl)) rfl
theorem jw_1025 : (Jvm.Cond.methodLink "LieCandles$Sight" (58 : Nat) ({ cls := "LieCandles$Tape", name := "byteAt", desc := "(I)I" } : Jvm.MethodName)) ∈ jl_tbl := jl_inT (jl_ch5 65 (by decide +kernel)) rfl
theorem jw_1026 : (Jvm.Cond.methodLink "LieCandles$Sight" (65 : Nat) ({ cls := "java/lang/System", name := "arraycopy", desc := "(Ljava/lang/Object;ILjava/lang/Object;II)V" } : Jvm.MethodName)) ∈ jl_tbl := jl_inT (jl_ch5 66 (by decide +kernel)) rfl
theorem jw_1027 : (Jvm.Cond.methodLink "LieCandlesLaw" (103 : Nat) ({ cls := "LieCandles", name := "inches", desc := "(II)I" } : Jvm.MethodName)) ∈ jl_tbl := jl_inT (jl_ch5 67 (by decide +kernel)) rfl
theorem jw_1028 : (Jvm.Cond.instanceMethod ({ cls := "LieCandles", name := "inches", desc := "(II)I" } : Jvm.MethodName)) ∈ jl_tbl := jl_inT (jl_ch5 68 (by decide +kernel)) rfl
theorem jw_1029 : (Jvm.Cond.selects "LieCandles" ({ cls := "LieCandles", name := "inches", desc := "(II)I" } : Jvm.MethodName) ({ cls := "LieCandles", name := "inches", desc := "(II)I" } : Jvm.MethodName)) ∈ jl_tbl := jl_inT (jl_ch5 69 (by decide +kernel)) rfl
theorem jw_1030 : (Jvm.Cond.code ({ cls := "LieCandles", name := "inches", desc := "(II)I" } : Jvm.MethodName) prog_1_method_23_code (3 : Nat) (Option.some Jvm.ClassFile.FieldType.int)) ∈ jl_tbl := jl_inT (jl_ch5 70 (rfl)) rfl
theorem jw_1031 : (Jvm.Cond.methodLink "LieCandles" (312 : Nat) ({ cls := "LieCandles$Sight", name := "gather", desc := "(I)V" } : Jvm.MethodName)) ∈ jl_tbl := jl_inT (jl_ch5 71 (by decide +kernel)) rfl
theorem jw_1032 : (Jvm.Cond.instanceMethod ({ cls := "LieCandles$Sight", name := "gather", desc := "(I)V" } : Jvm.MethodName)) ∈ jl_tbl := jl_inT (jl_ch5 72 (by decide +kernel)) rfl
theorem jw_1033 : (Jvm.Cond.selects "LieCandles$Sight" ({ cls := "LieCandles$Sight", name := "gather", desc := "(I)V" } : Jvm.MethodName) ({ cls := "LieCandles$Sight", name := "gather", desc := "(I)V" } : Jvm.MethodName)) ∈ jl_tbl := jl_inT (jl_ch5 73 (by decide +kernel)) rfl
theorem jw_1034 : (Jvm.Cond.code ({ cls := "LieCandles$Sight", name := "gather", desc := "(I)V" } : Jvm.MethodName) prog_8_method_3_code (4 : Nat) (Option.none : Option Jvm.ClassFile.FieldType)) ∈ jl_tbl := jl_inT (jl_ch5 74 (rfl)) rfl
theorem jw_1035 : (Jvm.Cond.methodLink "LieCandles$Sight" (71 : Nat) ({ cls := "LieCandles$Sight", name := "lastSeen", desc := "()I" } : Jvm.MethodName)) ∈ jl_tbl := jl_inT (jl_ch5 75 (by decide +kernel)) rfl
theorem jw_1037 : (Jvm.Cond.instanceMethod ({ cls := "LieCandles$Sight", name := "lastSeen", desc := "()I" } : Jvm.MethodName)) ∈ jl_tbl := jl_inT (jl_ch5 77 (by decide +kernel)) rfl
theorem jw_1038 : (Jvm.Cond.code ({ cls := "LieCandles$Sight", name := "lastSeen", desc := "()I" } : Jvm.MethodName) prog_8_method_4_code (3 : Nat) (Option.some Jvm.ClassFile.FieldType.int)) ∈ jl_tbl := jl_inT (jl_ch5 78 (rfl)) rfl
theorem jw_1039 : (Jvm.Cond.methodLink "LieCandles$Sight" (91 : Nat) ({ cls := "java/lang/Math", name := "max", desc := "(II)I" } : Jvm.MethodName)) ∈ jl_tbl := jl_inT (jl_ch5 79 (by decide +kernel)) rfl
theorem jw_1040 : (Jvm.Cond.methodLink "LieCandles$Sight" (75 : Nat) ({ cls := "LieCandles$Foresight", name := "reach", desc := "(I)I" } : Jvm.MethodName)) ∈ jl_tbl := jl_inT (jl_ch5 80 (by decide +kernel)) rfl
theorem jw_1041 : (Jvm.Cond.methodLink "LieCandles$Sight" (78 : Nat) ({ cls := "LieCandles$Foresight", name := "restart", desc := "()LLieCandles$State;" } : Jvm.MethodName)) ∈ jl_tbl := jl_inT (jl_ch5 81 (by decide +kernel)) rfl
theorem jw_1042 : (Jvm.Cond.methodLink "LieCandles$Sight" (87 : Nat) ({ cls := "LieCandles$Sight", name := "isAllSo", desc := "(I)Z" } : Jvm.MethodName)) ∈ jl_tbl := jl_inT (jl_ch5 82 (by decide +kernel)) rfl
theorem jw_1044 : (Jvm.Cond.instanceMethod ({ cls := "LieCandles$Sight", name := "isAllSo", desc := "(I)Z" } : Jvm.MethodName)) ∈ jl_tbl := jl_inT (jl_ch5 84 (by decide +kernel)) rfl
theorem jw_1045 : (Jvm.Cond.code ({ cls := "LieCandles$Sight", name := "isAllSo", desc := "(I)Z" } : Jvm.MethodName) prog_8_method_5_code (4 : Nat) (Option.some Jvm.ClassFile.FieldType.boolean)) ∈ jl_tbl := jl_inT (jl_ch5 85 (rfl)) rfl
theorem jw_1046 : (Jvm.Cond.methodLink "LieCandles$Sight" (97 : Nat) ({ cls := "LieCandles$Reckoner", name := "pass", desc := "(LLieCandles$State;)I" } : Jvm.MethodName)) ∈ jl_tbl := jl_inT (jl_ch5 86 (by decide +kernel)) rfl
theorem jw_1047 : (Jvm.Cond.methodLink "LieCandles$Sight" (103 : Nat) ({ cls := "LieCandles$Reckoner", name := "litIn", desc := "(LLieCandles$State;I)I" } : Jvm.MethodName)) ∈ jl_tbl := jl_inT (jl_ch5 87 (by decide +kernel)) rfl
theorem jw_1048 : (Jvm.Cond.instanceMethod ({ cls := "LieCandles$Reckoner", name := "litIn", desc := "(LLieCandles$State;I)I" } : Jvm.MethodName)) ∈ jl_tbl := jl_inT (jl_ch5 88 (by decide +kernel)) rfl
theorem jw_1049 : (Jvm.Cond.selects "LieCandles$Reckoner" ({ cls := "LieCandles$Reckoner", name := "litIn", desc := "(LLieCandles$State;I)I" } : Jvm.MethodName) ({ cls := "LieCandles$Reckoner", name := "litIn", desc := "(LLieCandles$State;I)I" } : Jvm.MethodName)) ∈ jl_tbl := jl_inT (jl_ch5 89 (by decide +kernel)) rfl
theorem jw_1050 : (Jvm.Cond.code ({ cls := "LieCandles$Reckoner", name := "litIn", desc := "(LLieCandles$State;I)I" } : Jvm.MethodName) prog_7_method_4_code (5 : Nat) (Option.some Jvm.ClassFile.FieldType.int)) ∈ jl_tbl := jl_inT (jl_ch5 90 (rfl)) rfl
theorem jw_1051 : (Jvm.Cond.methodLink "LieCandlesLaw" (107 : Nat) ({ cls := "LieCandles", name := "tells", desc := "(II)I" } : Jvm.MethodName)) ∈ jl_tbl := jl_inT (jl_ch5 91 (by decide +kernel)) rfl
theorem jw_1052 : (Jvm.Cond.instanceMethod ({ cls := "LieCandles", name := "tells", desc := "(II)I" } : Jvm.MethodName)) ∈ jl_tbl := jl_inT (jl_ch5 92 (by decide +kernel)) rfl
theorem jw_1053 : (Jvm.Cond.selects "LieCandles" ({ cls := "LieCandles", name := "tells", desc := "(II)I" } : Jvm.MethodName) ({ cls := "LieCandles", name := "tells", desc := "(II)I" } : Jvm.MethodName)) ∈ jl_tbl := jl_inT (jl_ch5 93 (by decide +kernel)) rfl
theorem jw_1054 : (Jvm.Cond.code ({ cls := "LieCandles", name := "tells", desc := "(II)I" } : Jvm.MethodName) prog_1_method_24_code (3 : Nat) (Option.some Jvm.ClassFile.FieldType.int)) ∈ jl_tbl := jl_inT (jl_ch5 94 (rfl)) rfl
theorem jw_1055 : (Jvm.Cond.methodLink "LieCandles" (319 : Nat) ({ cls := "LieCandles$Sight", name := "searchTelling", desc := "(I)V" } : Jvm.MethodName)) ∈ jl_tbl := jl_inT (jl_ch5 95 (by decide +kernel)) rfl
theorem jw_1056 : (Jvm.Cond.instanceMethod ({ cls := "LieCandles$Sight", name := "searchTelling", desc := "(I)V" } : Jvm.MethodName)) ∈ jl_tbl := jl_inT (jl_ch5 96 (by decide +kernel)) rfl
theorem jw_1057 : (Jvm.Cond.selects "LieCandles$Sight" ({ cls := "LieCandles$Sight", name := "searchTelling", desc := "(I)V" } : Jvm.MethodName) ({ cls := "LieCandles$Sight", name := "searchTelling", desc := "(I)V" } : Jvm.MethodName)) ∈ jl_tbl := jl_inT (jl_ch5 97 (by decide +kernel)) rfl
theorem jw_1058 : (Jvm.Cond.code ({ cls := "LieCandles$Sight", name := "searchTelling", desc := "(I)V" } : Jvm.MethodName) prog_8_method_6_code (6 : Nat) (Option.none : Option Jvm.ClassFile.FieldType)) ∈ jl_tbl := jl_inT (jl_ch5 98 (rfl)) rfl
theorem jw_1059 : (Jvm.Cond.methodLink "LieCandles$Sight" (107 : Nat) ({ cls := "LieCandles$Sight", name := "tallyAll", desc := "(II)V" } : Jvm.MethodName)) ∈ jl_tbl := jl_inT (jl_ch5 99 (by decide +kernel)) rfl
theorem jw_1061 : (Jvm.Cond.instanceMethod ({ cls := "LieCandles$Sight", name := "tallyAll", desc := "(II)V" } : Jvm.MethodName)) ∈ jl_tbl := jl_inT (jl_ch5 101 (by decide +kernel)) rfl
theorem jw_1062 : (Jvm.Cond.code ({ cls := "LieCandles$Sight", name := "tallyAll", desc := "(II)V" } : Jvm.MethodName) prog_8_method_7_code (7 : Nat) (Option.none : Option Jvm.ClassFile.FieldType)) ∈ jl_tbl := jl_inT (jl_ch5 102 (rfl)) rfl
theorem jw_1063 : (Jvm.Cond.methodLink "LieCandles$Sight" (126 : Nat) ({ cls := "LieCandles$Sight", name := "tallyFrom", desc := "(II)I" } : Jvm.MethodName)) ∈ jl_tbl := jl_inT (jl_ch5 103 (by decide +kernel)) rfl
theorem jw_1064 : (Jvm.Cond.static ({ cls := "LieCandles$Sight", name := "tallyFrom", desc := "(II)I" } : Jvm.MethodName)) ∈ jl_tbl := jl_inT (jl_ch5 104 (by decide +kernel)) rfl
theorem jw_1065 : (Jvm.Cond.code ({ cls := "LieCandles$Sight", name := "tallyFrom", desc := "(II)I" } : Jvm.MethodName) prog_8_method_8_code (2 : Nat) (Option.some Jvm.ClassFile.FieldType.int)) ∈ jl_tbl := jl_inT (jl_ch5 105 (rfl)) rfl
theorem jw_1066 : (Jvm.Cond.methodLink "LieCandles$Sight" (120 : Nat) ({ cls := "LieCandles$Sight", name := "mostLeft", desc := "(II)I" } : Jvm.MethodName)) ∈ jl_tbl := jl_inT (jl_ch5 106 (by decide +kernel)) rfl
theorem jw_1068 : (Jvm.Cond.instanceMethod ({ cls := "LieCandles$Sight", name := "mostLeft", desc := "(II)I" } : Jvm.MethodName)) ∈ jl_tbl := jl_inT (jl_ch5 108 (by decide +kernel)) rfl
theorem jw_1069 : (Jvm.Cond.code ({ cls := "LieCandles$Sight", name := "mostLeft", desc := "(II)I" } : Jvm.MethodName) prog_8_method_9_code (7 : Nat) (Option.some Jvm.ClassFile.FieldType.int)) ∈ jl_tbl := jl_inT (jl_ch5 109 (rfl)) rfl
theorem jw_1070 : (Jvm.Cond.methodLink "LieCandlesLaw" (111 : Nat) ({ cls := "LieCandles", name := "light", desc := "(II)Z" } : Jvm.MethodName)) ∈ jl_tbl := jl_inT (jl_ch5 110 (by decide +kernel)) rfl
theorem jw_1071 : (Jvm.Cond.instanceMethod ({ cls := "LieCandles", name := "light", desc := "(II)Z" } : Jvm.MethodName)) ∈ jl_tbl := jl_inT (jl_ch5 111 (by decide +kernel)) rfl
theorem jw_1072 : (Jvm.Cond.selects "LieCandles" ({ cls := "LieCandles", name := "light", desc := "(II)Z" } : Jvm.MethodName) ({ cls := "LieCandles", name := "light", desc := "(II)Z" } : Jvm.MethodName)) ∈ jl_tbl := jl_inT (jl_ch5 112 (by decide +kernel)) rfl
theorem jw_1073 : (Jvm.Cond.code ({ cls := "LieCandles", name := "light", desc := "(II)Z" } : Jvm.MethodName) prog_1_method_25_code (3 : Nat) (Option.some Jvm.ClassFile.FieldType.boolean)) ∈ jl_tbl := jl_inT (jl_ch5 113 (rfl)) rfl
theorem jw_1074 : (Jvm.Cond.methodLink "LieCandles" (331 : Nat) ({ cls := "LieCandles$Past", name := "remember", desc := "(LLieCandles$State;LLieCandles$Log;)V" } : Jvm.MethodName)) ∈ jl_tbl := jl_inT (jl_ch5 114 (by decide +kernel)) rfl
theorem jw_1075 : (Jvm.Cond.instanceMethod ({ cls := "LieCandles$Past", name := "remember", desc := "(LLieCandles$State;LLieCandles$Log;)V" } : Jvm.MethodName)) ∈ jl_tbl := jl_inT (jl_ch5 115 (by decide +kernel)) rfl
theorem jw_1076 : (Jvm.Cond.selects "LieCandles$Past" ({ cls := "LieCandles$Past", name := "remember", desc := "(LLieCandles$State;LLieCandles$Log;)V" } : Jvm.MethodName) ({ cls := "LieCandles$Past", name := "remember", desc := "(LLieCandles$State;LLieCandles$Log;)V" } : Jvm.MethodName)) ∈ jl_tbl := jl_inT (jl_ch5 116 (by decide +kernel)) rfl
theorem jw_1077 : (Jvm.Cond.code ({ cls := "LieCandles$Past", name := "remember", desc := "(LLieCandles$State;LLieCandles$Log;)V" } : Jvm.MethodName) prog_5_method_2_code (3 : Nat) (Option.none : Option Jvm.ClassFile.FieldType)) ∈ jl_tbl := jl_inT (jl_ch5 117 (rfl)) rfl
theorem jw_1078 : (Jvm.Cond.methodLink "LieCandles$Past" (32 : Nat) ({ cls := "LieCandles$State", name := "copyFrom", desc := "(LLieCandles$State;)V" } : Jvm.MethodName)) ∈ jl_tbl := jl_inT (jl_ch5 118 (by decide +kernel)) rfl
theorem jw_1079 : (Jvm.Cond.methodLink "LieCandles$Past" (36 : Nat) ({ cls := "LieCandles$Log", name := "copyFrom", desc := "(LLieCandles$Log;)V" } : Jvm.MethodName)) ∈ jl_tbl := jl_inT (jl_ch5 119 (by decide +kernel)) rfl
theorem jw_1080 : (Jvm.Cond.instanceMethod ({ cls := "LieCandles$Log", name := "copyFrom", desc := "(LLieCandles$Log;)V" } : Jvm.MethodName)) ∈ jl_tbl := jl_inT (jl_ch5 120 (by decide +kernel)) rfl
theorem jw_1081 : (Jvm.Cond.selects "LieCandles$Log" ({ cls := "LieCandles$Log", name := "copyFrom", desc := "(LLieCandles$Log;)V" } : Jvm.MethodName) ({ cls := "LieCandles$Log", name := "copyFrom", desc := "(LLieCandles$Log;)V" } : Jvm.MethodName)) ∈ jl_tbl := jl_inT (jl_ch5 121 (by decide +kernel)) rfl
theorem jw_1082 : (Jvm.Cond.code ({ cls := "LieCandles$Log", name := "copyFrom", desc := "(LLieCandles$Log;)V" } : Jvm.MethodName) prog_4_method_2_code (2 : Nat) (Option.none : Option Jvm.ClassFile.FieldType)) ∈ jl_tbl := jl_inT (jl_ch5 122 (rfl)) rfl
theorem jw_1083 : (Jvm.Cond.methodLink "LieCandles$Log" (25 : Nat) ({ cls := "java/lang/System", name := "arraycopy", desc := "(Ljava/lang/Object;ILjava/lang/Object;II)V" } : Jvm.MethodName)) ∈ jl_tbl := jl_inT (jl_ch5 123 (by decide +kernel)) rfl
theorem jw_1084 : (Jvm.Cond.methodLink "LieCandles$Past" (39 : Nat) ({ cls := "java/lang/Math", name := "min", desc := "(II)I" } : Jvm.MethodName)) ∈ jl_tbl := jl_inT (jl_ch5 124 (by decide +kernel)) rfl
theorem jw_1085 : (Jvm.Cond.methodLink "LieCandles" (335 : Nat) ({ cls := "LieCandles$State", name := "kindle", desc := "(II)V" } : Jvm.MethodName)) ∈ jl_tbl := jl_inT (jl_ch5 125 (by decide +kernel)) rfl
theorem jw_1086 : (Jvm.Cond.methodLink "LieCandlesLaw" (116 : Nat) ({ cls := "LieCandles", name := "snuff", desc := "(I)I" } : Jvm.MethodName)) ∈ jl_tbl := jl_inT (jl_ch5 126 (by decide +kernel)) rfl
theorem jw_1087 : (Jvm.Cond.instanceMethod ({ cls := "LieCandles", name := "snuff", desc := "(I)I" } : Jvm.MethodName)) ∈ jl_tbl := jl_inT (jl_ch5 127 (by decide +kernel)) rfl
theorem jw_1088 : (Jvm.Cond.selects "LieCandles" ({ cls := "LieCandles", name := "snuff", desc := "(I)I" } : Jvm.MethodName) ({ cls := "LieCandles", name := "snuff", desc := "(I)I" } : Jvm.MethodName)) ∈ jl_tbl := jl_inT (jl_ch5 128 (by decide +kernel)) rfl
theorem jw_1089 : (Jvm.Cond.code ({ cls := "LieCandles", name := "snuff", desc := "(I)I" } : Jvm.MethodName) prog_1_method_26_code (2 : Nat) (Option.some Jvm.ClassFile.FieldType.int)) ∈ jl_tbl := jl_inT (jl_ch5 129 (rfl)) rfl
theorem jw_1090 : (Jvm.Cond.methodLink "LieCandles" (339 : Nat) ({ cls := "LieCandles$State", name := "quench", desc := "(I)I" } : Jvm.MethodName)) ∈ jl_tbl := jl_inT (jl_ch5 130 (by decide +kernel)) rfl
theorem jw_1091 : (Jvm.Cond.methodLink "LieCandlesLaw" (120 : Nat) ({ cls := "LieCandles", name := "move", desc := "(II)Z" } : Jvm.MethodName)) ∈ jl_tbl := jl_inT (jl_ch5 131 (by decide +kernel)) rfl
theorem jw_1092 : (Jvm.Cond.instanceMethod ({ cls := "LieCandles", name := "move", desc := "(II)Z" } : Jvm.MethodName)) ∈ jl_tbl := jl_inT (jl_ch5 132 (by decide +kernel)) rfl
theorem jw_1093 : (Jvm.Cond.selects "LieCandles" ({ cls := "LieCandles", name := "move", desc := "(II)Z" } : Jvm.MethodName) ({ cls := "LieCandles", name := "move", desc := "(II)Z" } : Jvm.MethodName)) ∈ jl_tbl := jl_inT (jl_ch5 133 (by decide +kernel)) rfl
theorem jw_1094 : (Jvm.Cond.code ({ cls := "LieCandles", name := "move", desc := "(II)Z" } : Jvm.MethodName) prog_1_method_27_code (3 : Nat) (Option.some Jvm.ClassFile.FieldType.boolean)) ∈ jl_tbl := jl_inT (jl_ch5 134 (rfl)) rfl
theorem jw_1095 : (Jvm.Cond.methodLink "LieCandlesLaw" (124 : Nat) ({ cls := "LieCandles", name := "buy", desc := "(I)I" } : Jvm.MethodName)) ∈ jl_tbl := jl_inT (jl_ch5 135 (by decide +kernel)) rfl
theorem jw_1096 : (Jvm.Cond.instanceMethod ({ cls := "LieCandles", name := "buy", desc := "(I)I" } : Jvm.MethodName)) ∈ jl_tbl := jl_inT (jl_ch5 136 (by decide +kernel)) rfl
theorem jw_1097 : (Jvm.Cond.selects "LieCandles" ({ cls := "LieCandles", name := "buy", desc := "(I)I" } : Jvm.MethodName) ({ cls := "LieCandles", name := "buy", desc := "(I)I" } : Jvm.MethodName)) ∈ jl_tbl := jl_inT (jl_ch5 137 (by decide +kernel)) rfl
theorem jw_1098 : (Jvm.Cond.code ({ cls := "LieCandles", name := "buy", desc := "(I)I" } : Jvm.MethodName) prog_1_method_28_code (2 : Nat) (Option.some Jvm.ClassFile.FieldType.int)) ∈ jl_tbl := jl_inT (jl_ch5 138 (rfl)) rfl
theorem jw_1099 : (Jvm.Cond.methodLink "LieCandles" (342 : Nat) ({ cls := "LieCandles$State", name := "addTallow", desc := "(I)V" } : Jvm.MethodName)) ∈ jl_tbl := jl_inT (jl_ch5 139 (by decide +kernel)) rfl
theorem jw_1100 : (Jvm.Cond.methodLink "LieCandlesLaw" (128 : Nat) ({ cls := "LieCandles", name := "hours", desc := "(I)I" } : Jvm.MethodName)) ∈ jl_tbl := jl_inT (jl_ch5 140 (by decide +kernel)) rfl
theorem jw_1101 : (Jvm.Cond.instanceMethod ({ cls := "LieCandles", name := "hours", desc := "(I)I" } : Jvm.MethodName)) ∈ jl_tbl := jl_inT (jl_ch5 141 (by decide +kernel)) rfl
theorem jw_1102 : (Jvm.Cond.selects "LieCandles" ({ cls := "LieCandles", name := "hours", desc := "(I)I" } : Jvm.MethodName) ({ cls := "LieCandles", name := "hours", desc := "(I)I" } : Jvm.MethodName)) ∈ jl_tbl := jl_inT (jl_ch5 142 (by decide +kernel)) rfl
theorem jw_1103 : (Jvm.Cond.code ({ cls := "LieCandles", name := "hours", desc := "(I)I" } : Jvm.MethodName) prog_1_method_29_code (4 : Nat) (Option.some Jvm.ClassFile.FieldType.int)) ∈ jl_tbl := jl_inT (jl_ch5 143 (rfl)) rfl
theorem jw_1104 : (Jvm.Cond.methodLink "LieCandles" (345 : Nat) ({ cls := "LieCandles", name := "passNow", desc := "()I" } : Jvm.MethodName)) ∈ jl_tbl := jl_inT (jl_ch5 144 (by decide +kernel)) rfl
theorem jw_1106 : (Jvm.Cond.instanceMethod ({ cls := "LieCandles", name := "passNow", desc := "()I" } : Jvm.MethodName)) ∈ jl_tbl := jl_inT (jl_ch5 146 (by decide +kernel)) rfl
theorem jw_1107 : (Jvm.Cond.code ({ cls := "LieCandles", name := "passNow", desc := "()I" } : Jvm.MethodName) prog_1_method_48_code (3 : Nat) (Option.some Jvm.ClassFile.FieldType.int)) ∈ jl_tbl := jl_inT (jl_ch5 147 (rfl)) rfl
theorem jw_1108 : (Jvm.Cond.methodLink "LieCandles" (358 : Nat) ({ cls := "LieCandles$Log", name := "addAll", desc := "(II)V" } : Jvm.MethodName)) ∈ jl_tbl := jl_inT (jl_ch5 148 (by decide +kernel)) rfl
theorem jw_1109 : (Jvm.Cond.instanceMethod ({ cls := "LieCandles$Log", name := "addAll", desc := "(II)V" } : Jvm.MethodName)) ∈ jl_tbl := jl_inT (jl_ch5 149 (by decide +kernel)) rfl
theorem jw_1110 : (Jvm.Cond.selects "LieCandles$Log" ({ cls := "LieCandles$Log", name := "addAll", desc := "(II)V" } : Jvm.MethodName) ({ cls := "LieCandles$Log", name := "addAll", desc := "(II)V" } : Jvm.MethodName)) ∈ jl_tbl := jl_inT (jl_ch5 150 (by decide +kernel)) rfl
theorem jw_1111 : (Jvm.Cond.code ({ cls := "LieCandles$Log", name := "addAll", desc := "(II)V" } : Jvm.MethodName) prog_4_method_3_code (4 : Nat) (Option.none : Option Jvm.ClassFile.FieldType)) ∈ jl_tbl := jl_inT (jl_ch5 151 (rfl)) rfl
theorem jw_1112 : (Jvm.Cond.methodLink "LieCandles$Log" (31 : Nat) ({ cls := "LieCandles$Log", name := "add", desc := "(II)V" } : Jvm.MethodName)) ∈ jl_tbl := jl_inT (jl_ch5 152 (by decide +kernel)) rfl
theorem jw_1114 : (Jvm.Cond.instanceMethod ({ cls := "LieCandles$Log", name := "add", desc := "(II)V" } : Jvm.MethodName)) ∈ jl_tbl := jl_inT (jl_ch5 154 (by decide +kernel)) rfl
theorem jw_1115 : (Jvm.Cond.code ({ cls := "LieCandles$Log", name := "add", desc := "(II)V" } : Jvm.MethodName) prog_4_method_4_code (4 : Nat) (Option.none : Option Jvm.ClassFile.FieldType)) ∈ jl_tbl := jl_inT (jl_ch5 155 (rfl)) rfl
theorem jw_1116 : (Jvm.Cond.methodLink "LieCandlesLaw" (132 : Nat) ({ cls := "LieCandles", name := "chance", desc := "(I)I" } : Jvm.MethodName)) ∈ jl_tbl := jl_inT (jl_ch5 156 (by decide +kernel)) rfl
theorem jw_1117 : (Jvm.Cond.instanceMethod ({ cls := "LieCandles", name := "chance", desc := "(I)I" } : Jvm.MethodName)) ∈ jl_tbl := jl_inT (jl_ch5 157 (by decide +kernel)) rfl
theorem jw_1118 : (Jvm.Cond.selects "LieCandles" ({ cls := "LieCandles", name := "chance", desc := "(I)I" } : Jvm.MethodName) ({ cls := "LieCandles", name := "chance", desc := "(I)I" } : Jvm.MethodName)) ∈ jl_tbl := jl_inT (jl_ch5 158 (by decide +kernel)) rfl
theorem jw_1119 : (Jvm.Cond.code ({ cls := "LieCandles", name := "chance", desc := "(I)I" } : Jvm.MethodName) prog_1_method_30_code (4 : Nat) (Option.some Jvm.ClassFile.FieldType.int)) ∈ jl_tbl := jl_inT (jl_ch5 159 (rfl)) rfl
theorem jw_1120 : (Jvm.Cond.methodLink "LieCandles" (349 : Nat) ({ cls := "LieCandles", name := "draw", desc := "(I)I" } : Jvm.MethodName)) ∈ jl_tbl := jl_inT (jl_ch5 160 (by decide +kernel)) rfl
theorem jw_1122 : (Jvm.Cond.instanceMethod ({ cls := "LieCandles", name := "draw", desc := "(I)I" } : Jvm.MethodName)) ∈ jl_tbl := jl_inT (jl_ch5 162 (by decide +kernel)) rfl
theorem jw_1123 : (Jvm.Cond.code ({ cls := "LieCandles", name := "draw", desc := "(I)I" } : Jvm.MethodName) prog_1_method_49_code (2 : Nat) (Option.some Jvm.ClassFile.FieldType.int)) ∈ jl_tbl := jl_inT (jl_ch5 163 (rfl)) rfl
theorem jw_1124 : (Jvm.Cond.constantLong "LieCandles" (391 : Nat) (1103515245 : Int64)) ∈ jl_tbl := jl_inT (jl_ch5 164 (by decide +kernel)) rfl
theorem jw_1125 : (Jvm.Cond.constantLong "LieCandles" (393 : Nat) (12345 : Int64)) ∈ jl_tbl := jl_inT (jl_ch5 165 (by decide +kernel)) rfl
theorem jw_1126 : (Jvm.Cond.constantLong "LieCandles" (395 : Nat) (2147483647 : Int64)) ∈ jl_tbl := jl_inT (jl_ch5 166 (by decide +kernel)) rfl
theorem jw_1127 : (Jvm.Cond.methodLink "LieCandles" (355 : Nat) ({ cls := "LieCandles$Reckoner", name := "blow", desc := "(LLieCandles$State;I)I" } : Jvm.MethodName)) ∈ jl_tbl := jl_inT (jl_ch5 167 (by decide +kernel)) rfl
theorem jw_1128 : (Jvm.Cond.methodLink "LieCandlesLaw" (136 : Nat) ({ cls := "LieCandles", name := "undo", desc := "()Z" } : Jvm.MethodName)) ∈ jl_tbl := jl_inT (jl_ch5 168 (by decide +kernel)) rfl
theorem jw_1129 : (Jvm.Cond.instanceMethod ({ cls := "LieCandles", name := "undo", desc := "()Z" } : Jvm.MethodName)) ∈ jl_tbl := jl_inT (jl_ch5 169 (by decide +kernel)) rfl
theorem jw_1130 : (Jvm.Cond.selects "LieCandles" ({ cls := "LieCandles", name := "undo", desc := "()Z" } : Jvm.MethodName) ({ cls := "LieCandles", name := "undo", desc := "()Z" } : Jvm.MethodName)) ∈ jl_tbl := jl_inT (jl_ch5 170 (by decide +kernel)) rfl
theorem jw_1131 : (Jvm.Cond.code ({ cls := "LieCandles", name := "undo", desc := "()Z" } : Jvm.MethodName) prog_1_method_31_code (1 : Nat) (Option.some Jvm.ClassFile.FieldType.boolean)) ∈ jl_tbl := jl_inT (jl_ch5 171 (rfl)) rfl
theorem jw_1132 : (Jvm.Cond.methodLink "LieCandles" (361 : Nat) ({ cls := "LieCandles$Past", name := "recall", desc := "(LLieCandles$State;LLieCandles$Log;)Z" } : Jvm.MethodName)) ∈ jl_tbl := jl_inT (jl_ch5 172 (by decide +kernel)) rfl
theorem jw_1133 : (Jvm.Cond.instanceMethod ({ cls := "LieCandles$Past", name := "recall", desc := "(LLieCandles$State;LLieCandles$Log;)Z" } : Jvm.MethodName)) ∈ jl_tbl := jl_inT (jl_ch5 173 (by decide +kernel)) rfl
theorem jw_1134 : (Jvm.Cond.selects "LieCandles$Past" ({ cls := "LieCandles$Past", name := "recall", desc := "(LLieCandles$State;LLieCandles$Log;)Z" } : Jvm.MethodName) ({ cls := "LieCandles$Past", name := "recall", desc := "(LLieCandles$State;LLieCandles$Log;)Z" } : Jvm.MethodName)) ∈ jl_tbl := jl_inT (jl_ch5 174 (by decide +kernel)) rfl
theorem jw_1135 : (Jvm.Cond.code ({ cls := "LieCandles$Past", name := "recall", desc := "(LLieCandles$State;LLieCandles$Log;)Z" } : Jvm.MethodName) prog_5_method_3_code (3 : Nat) (Option.some Jvm.ClassFile.FieldType.boolean)) ∈ jl_tbl := jl_inT (jl_ch5 175 (rfl)) rfl
theorem jw_1136 : (Jvm.Cond.methodLink "LieCandlesLaw" (141 : Nat) ({ cls := "LieCandles", name := "seed", desc := "(I)Z" } : Jvm.MethodName)) ∈ jl_tbl := jl_inT (jl_ch5 176 (by decide +kernel)) rfl
theorem jw_1137 : (Jvm.Cond.instanceMethod ({ cls := "LieCandles", name := "seed", desc := "(I)Z" } : Jvm.MethodName)) ∈ jl_tbl := jl_inT (jl_ch5 177 (by decide +kernel)) rfl
theorem jw_1138 : (Jvm.Cond.selects "LieCandles" ({ cls := "LieCandles", name := "seed", desc := "(I)Z" } : Jvm.MethodName) ({ cls := "LieCandles", name := "seed", desc := "(I)Z" } : Jvm.MethodName)) ∈ jl_tbl := jl_inT (jl_ch5 178 (by decide +kernel)) rfl
theorem jw_1139 : (Jvm.Cond.code ({ cls := "LieCandles", name := "seed", desc := "(I)Z" } : Jvm.MethodName) prog_1_method_32_code (2 : Nat) (Option.some Jvm.ClassFile.FieldType.boolean)) ∈ jl_tbl := jl_inT (jl_ch5 179 (rfl)) rfl
theorem jw_1140 : (Jvm.Cond.methodLink "LieCandlesLaw" (145 : Nat) ({ cls := "LieCandles", name := "ask", desc := "()J" } : Jvm.MethodName)) ∈ jl_tbl := jl_inT (jl_ch5 180 (by decide +kernel)) rfl
theorem jw_1141 : (Jvm.Cond.instanceMethod ({ cls := "LieCandles", name := "ask", desc := "()J" } : Jvm.MethodName)) ∈ jl_tbl := jl_inT (jl_ch5 181 (by decide +kernel)) rfl
theorem jw_1142 : (Jvm.Cond.selects "LieCandles" ({ cls := "LieCandles", name := "ask", desc := "()J" } : Jvm.MethodName) ({ cls := "LieCandles", name := "ask", desc := "()J" } : Jvm.MethodName)) ∈ jl_tbl := jl_inT (jl_ch5 182 (by decide +kernel)) rfl
theorem jw_1143 : (Jvm.Cond.code ({ cls := "LieCandles", name := "ask", desc := "()J" } : Jvm.MethodName) prog_1_method_33_code (2 : Nat) (Option.some Jvm.ClassFile.FieldType.long)) ∈ jl_tbl := jl_inT (jl_ch5 183 (rfl)) rfl
theorem jw_1144 : (Jvm.Cond.constantLong "LieCandles" (365 : Nat) (-1000000000000000 : Int64)) ∈ jl_tbl := jl_inT (jl_ch5 184 (by decide +kernel)) rfl
theorem jw_1145 : (Jvm.Cond.methodLink "LieCandles" (367 : Nat) ({ cls := "LieCandles$Reader", name := "readQuestion", desc := "(LLieCandles$Code;)I" } : Jvm.MethodName)) ∈ jl_tbl := jl_inT (jl_ch5 185 (by decide +kernel)) rfl
theorem jw_1146 : (Jvm.Cond.instanceMethod ({ cls := "LieCandles$Reader", name := "readQuestion", desc := "(LLieCandles$Code;)I" } : Jvm.MethodName)) ∈ jl_tbl := jl_inT (jl_ch5 186 (by decide +kernel)) rfl
theorem jw_1147 : (Jvm.Cond.selects "LieCandles$Reader" ({ cls := "LieCandles$Reader", name := "readQuestion", desc := "(LLieCandles$Code;)I" } : Jvm.MethodName) ({ cls := "LieCandles$Reader", name := "readQuestion", desc := "(LLieCandles$Code;)I" } : Jvm.MethodName)) ∈ jl_tbl := jl_inT (jl_ch5 187 (by decide +kernel)) rfl
theorem jw_1148 : (Jvm.Cond.code ({ cls := "LieCandles$Reader", name := "readQuestion", desc := "(LLieCandles$Code;)I" } : Jvm.MethodName) prog_6_method_12_code (3 : Nat) (Option.some Jvm.ClassFile.FieldType.int)) ∈ jl_tbl := jl_inT (jl_ch5 188 (rfl)) rfl
theorem jw_1149 : (Jvm.Cond.methodLink "LieCandles$Reader" (87 : Nat) ({ cls := "LieCandles$Reader", name := "start", desc := "(LLieCandles$Code;)V" } : Jvm.MethodName)) ∈ jl_tbl := jl_inT (jl_ch5 189 (by decide +kernel)) rfl
theorem jw_1150 : (Jvm.Cond.constant "LieCandles$Reader" (90 : Nat) (67076104 : Int32)) ∈ jl_tbl := jl_inT (jl_ch5 190 (by decide +kernel)) rfl
theorem jw_1151 : (Jvm.Cond.methodLink "LieCandles$Reader" (91 : Nat) ({ cls := "LieCandles$Reader", name := "allow", desc := "(II)V" } : Jvm.MethodName)) ∈ jl_tbl := jl_inT (jl_ch5 191 (by decide +kernel)) rfl
theorem jw_1152 : (Jvm.Cond.methodLink "LieCandles" (371 : Nat) ({ cls := "LieCandles$Reckoner", name := "answer", desc := "(LLieCandles$State;LLieCandles$Code;I)J" } : Jvm.MethodName)) ∈ jl_tbl := jl_inT (jl_ch5 192 (by decide +kernel)) rfl
theorem jw_1153 : (Jvm.Cond.instanceMethod ({ cls := "LieCandles$Reckoner", name := "answer", desc := "(LLieCandles$State;LLieCandles$Code;I)J" } : Jvm.MethodName)) ∈ jl_tbl := jl_inT (jl_ch5 193 (by decide +kernel)) rfl
theorem jw_1154 : (Jvm.Cond.selects "LieCandles$Reckoner" ({ cls := "LieCandles$Reckoner", name := "answer", desc := "(LLieCandles$State;LLieCandles$Code;I)J" } : Jvm.MethodName) ({ cls := "LieCandles$Reckoner", name := "answer", desc := "(LLieCandles$State;LLieCandles$Code;I)J" } : Jvm.MethodName)) ∈ jl_tbl := jl_inT (jl_ch5 194 (by decide +kernel)) rfl
theorem jw_1155 : (Jvm.Cond.code ({ cls := "LieCandles$Reckoner", name := "answer", desc := "(LLieCandles$State;LLieCandles$Code;I)J" } : Jvm.MethodName) prog_7_method_11_code (8 : Nat) (Option.some Jvm.ClassFile.FieldType.long)) ∈ jl_tbl := jl_inT (jl_ch5 195 (rfl)) rfl
theorem jw_1156 : (Jvm.Cond.methodLink "LieCandles$Reckoner" (88 : Nat) ({ cls := "LieCandles$Reckoner", name := "believed", desc := "(LLieCandles$State;)I" } : Jvm.MethodName)) ∈ jl_tbl := jl_inT (jl_ch5 196 (by decide +kernel)) rfl
theorem jw_1157 : (Jvm.Cond.constantLong "LieCandles$Reckoner" (92 : Nat) (-1 : Int64)) ∈ jl_tbl := jl_inT (jl_ch5 197 (by decide +kernel)) rfl
theorem jw_1158 : (Jvm.Cond.methodLink "LieCandles$Reckoner" (97 : Nat) ({ cls := "LieCandles$Reckoner", name := "litIn", desc := "(LLieCandles$State;I)I" } : Jvm.MethodName)) ∈ jl_tbl := jl_inT (jl_ch5 198 (by decide +kernel)) rfl
theorem jw_1159 : (Jvm.Cond.methodLink "LieCandles$Reckoner" (101 : Nat) ({ cls := "LieCandles$Reckoner", name := "joined", desc := "(IJII)J" } : Jvm.MethodName)) ∈ jl_tbl := jl_inT (jl_ch5 199 (by decide +kernel)) rfl
theorem jw_1160 : (Jvm.Cond.static ({ cls := "LieCandles$Reckoner", name := "joined", desc := "(IJII)J" } : Jvm.MethodName)) ∈ jl_tbl := jl_inT (jl_ch5 200 (by decide +kernel)) rfl
theorem jw_1161 : (Jvm.Cond.code ({ cls := "LieCandles$Reckoner", name := "joined", desc := "(IJII)J" } : Jvm.MethodName) prog_7_method_12_code (5 : Nat) (Option.some Jvm.ClassFile.FieldType.long)) ∈ jl_tbl := jl_inT (jl_ch5 201 (rfl)) rfl
theorem jw_1162 : (Jvm.Cond.methodLink "LieCandlesLaw" (150 : Nat) ({ cls := "LieCandles", name := "image", desc := "()I" } : Jvm.MethodName)) ∈ jl_tbl := jl_inT (jl_ch5 202 (by decide +kernel)) rfl
theorem jw_1163 : (Jvm.Cond.instanceMethod ({ cls := "LieCandles", name := "image", desc := "()I" } : Jvm.MethodName)) ∈ jl_tbl := jl_inT (jl_ch5 203 (by decide +kernel)) rfl
theorem jw_1164 : (Jvm.Cond.selects "LieCandles" ({ cls := "LieCandles", name := "image", desc := "()I" } : Jvm.MethodName) ({ cls := "LieCandles", name := "image", desc := "()I" } : Jvm.MethodName)) ∈ jl_tbl := jl_inT (jl_ch5 204 (by decide +kernel)) rfl
theorem jw_1165 : (Jvm.Cond.code ({ cls := "LieCandles", name := "image", desc := "()I" } : Jvm.MethodName) prog_1_method_34_code (4 : Nat) (Option.some Jvm.ClassFile.FieldType.int)) ∈ jl_tbl := jl_inT (jl_ch5 205 (rfl)) rfl
theorem jw_1166 : (Jvm.Cond.methodLink "LieCandles" (375 : Nat) ({ cls := "LieCandles", name := "putPair", desc := "(II)V" } : Jvm.MethodName)) ∈ jl_tbl := jl_inT (jl_ch5 206 (by decide +kernel)) rfl
theorem jw_1168 : (Jvm.Cond.instanceMethod ({ cls := "LieCandles", name := "putPair", desc := "(II)V" } : Jvm.MethodName)) ∈ jl_tbl := jl_inT (jl_ch5 208 (by decide +kernel)) rfl
theorem jw_1169 : (Jvm.Cond.code ({ cls := "LieCandles", name := "putPair", desc := "(II)V" } : Jvm.MethodName) prog_1_method_50_code (3 : Nat) (Option.none : Option Jvm.ClassFile.FieldType)) ∈ jl_tbl := jl_inT (jl_ch5 209 (rfl)) rfl
theorem jw_1170 : (Jvm.Cond.methodLink "LieCandlesLaw" (154 : Nat) ({ cls := "LieCandles", name := "octet", desc := "(I)I" } : Jvm.MethodName)) ∈ jl_tbl := jl_inT (jl_ch5 210 (by decide +kernel)) rfl
theorem jw_1171 : (Jvm.Cond.instanceMethod ({ cls := "LieCandles", name := "octet", desc := "(I)I" } : Jvm.MethodName)) ∈ jl_tbl := jl_inT (jl_ch5 211 (by decide +kernel)) rfl
theorem jw_1172 : (Jvm.Cond.selects "LieCandles" ({ cls := "LieCandles", name := "octet", desc := "(I)I" } : Jvm.MethodName) ({ cls := "LieCandles", name := "octet", desc := "(I)I" } : Jvm.MethodName)) ∈ jl_tbl := jl_inT (jl_ch5 212 (by decide +kernel)) rfl
theorem jw_1173 : (Jvm.Cond.code ({ cls := "LieCandles", name := "octet", desc := "(I)I" } : Jvm.MethodName) prog_1_method_35_code (2 : Nat) (Option.some Jvm.ClassFile.FieldType.int)) ∈ jl_tbl := jl_inT (jl_ch5 213 (rfl)) rfl
theorem jw_1174 : (Jvm.Cond.methodLink "LieCandlesLaw" (158 : Nat) ({ cls := "LieCandles", name := "on", desc := "()Z" } : Jvm.MethodName)) ∈ jl_tbl := jl_inT (jl_ch5 214 (by decide +kernel)) rfl
theorem jw_1175 : (Jvm.Cond.instanceMethod ({ cls := "LieCandles", name := "on", desc := "()Z" } : Jvm.MethodName)) ∈ jl_tbl := jl_inT (jl_ch5 215 (by decide +kernel)) rfl
theorem jw_1176 : (Jvm.Cond.selects "LieCandles" ({ cls := "LieCandles", name := "on", desc := "()Z" } : Jvm.MethodName) ({ cls := "LieCandles", name := "on", desc := "()Z" } : Jvm.MethodName)) ∈ jl_tbl := jl_inT (jl_ch5 216 (by decide +kernel)) rfl
theorem jw_1177 : (Jvm.Cond.code ({ cls := "LieCandles", name := "on", desc := "()Z" } : Jvm.MethodName) prog_1_method_36_code (2 : Nat) (Option.some Jvm.ClassFile.FieldType.boolean)) ∈ jl_tbl := jl_inT (jl_ch5 217 (rfl)) rfl
theorem jw_1178 : (Jvm.Cond.methodLink "LieCandles" (378 : Nat) ({ cls := "LieCandles", name := "isPicture", desc := "()Z" } : Jvm.MethodName)) ∈ jl_tbl := jl_inT (jl_ch5 218 (by decide +kernel)) rfl
theorem jw_1180 : (Jvm.Cond.instanceMethod ({ cls := "LieCandles", name := "isPicture", desc := "()Z" } : Jvm.MethodName)) ∈ jl_tbl := jl_inT (jl_ch5 220 (by decide +kernel)) rfl
theorem jw_1181 : (Jvm.Cond.code ({ cls := "LieCandles", name := "isPicture", desc := "()Z" } : Jvm.MethodName) prog_1_method_51_code (6 : Nat) (Option.some Jvm.ClassFile.FieldType.boolean)) ∈ jl_tbl := jl_inT (jl_ch5 221 (rfl)) rfl
theorem jw_1182 : (Jvm.Cond.methodLink "LieCandles" (397 : Nat) ({ cls := "LieCandles$Tape", name := "pairAt", desc := "(I)I" } : Jvm.MethodName)) ∈ jl_tbl := jl_inT (jl_ch5 222 (by decide +kernel)) rfl
theorem jw_1183 : (Jvm.Cond.instanceMethod ({ cls := "LieCandles$Tape", name := "pairAt", desc := "(I)I" } : Jvm.MethodName)) ∈ jl_tbl := jl_inT (jl_ch5 223 (by decide +kernel)) rfl
theorem jw_1184 : (Jvm.Cond.selects "LieCandles$Tape" ({ cls := "LieCandles$Tape", name := "pairAt", desc := "(I)I" } : Jvm.MethodName) ({ cls := "LieCandles$Tape", name := "pairAt", desc := "(I)I" } : Jvm.MethodName)) ∈ jl_tbl := jl_inT (jl_ch5 224 (by decide +kernel)) rfl
theorem jw_1185 : (Jvm.Cond.code ({ cls := "LieCandles$Tape", name := "pairAt", desc := "(I)I" } : Jvm.MethodName) prog_12_method_4_code (2 : Nat) (Option.some Jvm.ClassFile.FieldType.int)) ∈ jl_tbl := jl_inT (jl_ch5 225 (rfl)) rfl
theorem jw_1186 : (Jvm.Cond.methodLink "LieCandles$Tape" (19 : Nat) ({ cls := "LieCandles$Tape", name := "byteAt", desc := "(I)I" } : Jvm.MethodName)) ∈ jl_tbl := jl_inT (jl_ch5 226 (by decide +kernel)) rfl
theorem jw_1187 : (Jvm.Cond.methodLink "LieCandles" (400 : Nat) ({ cls := "LieCandles$Tape", name := "byteAt", desc := "(I)I" } : Jvm.MethodName)) ∈ jl_tbl := jl_inT (jl_ch5 227 (by decide +kernel)) rfl
theorem jw_1188 : (Jvm.Cond.methodLink "LieCandles" (381 : Nat) ({ cls := "LieCandles$State", name := "readPicture", desc := "(LLieCandles$Tape;LLieCandles$Street;)V" } : Jvm.MethodName)) ∈ jl_tbl := jl_inT (jl_ch5 228 (by decide +kernel)) rfl
theorem jw_1189 : (Jvm.Cond.instanceMethod ({ cls := "LieCandles$State", name := "readPicture", desc := "(LLieCandles$Tape;LLieCandles$Street;)V" } : Jvm.MethodName)) ∈ jl_tbl := jl_inT (jl_ch5 229 (by decide +kernel)) rfl
theorem jw_1190 : (Jvm.Cond.selects "LieCandles$State" ({ cls := "LieCandles$State", name := "readPicture", desc := "(LLieCandles$Tape;LLieCandles$Street;)V" } : Jvm.MethodName) ({ cls := "LieCandles$State", name := "readPicture", desc := "(LLieCandles$Tape;LLieCandles$Street;)V" } : Jvm.MethodName)) ∈ jl_tbl := jl_inT (jl_ch5 230 (by decide +kernel)) rfl
theorem jw_1191 : (Jvm.Cond.code ({ cls := "LieCandles$State", name := "readPicture", desc := "(LLieCandles$Tape;LLieCandles$Street;)V" } : Jvm.MethodName) prog_9_method_4_code (5 : Nat) (Option.none : Option Jvm.ClassFile.FieldType)) ∈ jl_tbl := jl_inT (jl_ch5 231 (rfl)) rfl
theorem jw_1192 : (Jvm.Cond.methodLink "LieCandles$State" (42 : Nat) ({ cls := "LieCandles$Tape", name := "pairAt", desc := "(I)I" } : Jvm.MethodName)) ∈ jl_tbl := jl_inT (jl_ch5 232 (by decide +kernel)) rfl
theorem jw_1193 : (Jvm.Cond.methodLink "LieCandles$State" (51 : Nat) ({ cls := "LieCandles$Tape", name := "byteAt", desc := "(I)I" } : Jvm.MethodName)) ∈ jl_tbl := jl_inT (jl_ch5 233 (by decide +kernel)) rfl
theorem jw_1194 : (Jvm.Cond.methodLink "LieCandlesLaw" (162 : Nat) ({ cls := "LieCandles", name := "status", desc := "(I)I" } : Jvm.MethodName)) ∈ jl_tbl := jl_inT (jl_ch5 234 (by decide +kernel)) rfl
theorem jw_1195 : (Jvm.Cond.instanceMethod ({ cls := "LieCandles", name := "status", desc := "(I)I" } : Jvm.MethodName)) ∈ jl_tbl := jl_inT (jl_ch5 235 (by decide +kernel)) rfl
theorem jw_1196 : (Jvm.Cond.selects "LieCandles" ({ cls := "LieCandles", name := "status", desc := "(I)I" } : Jvm.MethodName) ({ cls := "LieCandles", name := "status", desc := "(I)I" } : Jvm.MethodName)) ∈ jl_tbl := jl_inT (jl_ch5 236 (by decide +kernel)) rfl
theorem jw_1197 : (Jvm.Cond.code ({ cls := "LieCandles", name := "status", desc := "(I)I" } : Jvm.MethodName) prog_1_method_37_code (2 : Nat) (Option.some Jvm.ClassFile.FieldType.int)) ∈ jl_tbl := jl_inT (jl_ch5 237 (rfl)) rfl
theorem jw_1198 : (Jvm.Cond.classLink "LieCandlesLaw" (10 : Nat) "LieCandlesModel") ∈ jl_tbl := jl_inT (jl_ch5 238 (by decide +kernel)) rfl
theorem jw_1199 : (Jvm.Cond.instantiable "LieCandlesModel" (111 : Nat)) ∈ jl_tbl := jl_inT (jl_ch5 239 (by decide +kernel)) rfl
theorem jw_1200 : (Jvm.Cond.methodLink "LieCandlesLaw" (12 : Nat) ({ cls := "LieCandlesModel", name := "<init>", desc := "()V" } : Jvm.MethodName)) ∈ jl_tbl := jl_inT (jl_ch6 0 (by decide +kernel)) rfl
theorem jw_1201 : (Jvm.Cond.instanceMethod ({ cls := "LieCandlesModel", name := "<init>", desc := "()V" } : Jvm.MethodName)) ∈ jl_tbl := jl_inT (jl_ch6 1 (by decide +kernel)) rfl
theorem jw_1202 : (Jvm.Cond.code ({ cls := "LieCandlesModel", name := "<init>", desc := "()V" } : Jvm.MethodName) prog_14_method_1_code (1 : Nat) (Option.none : Option Jvm.ClassFile.FieldType)) ∈ jl_tbl := jl_inT (jl_ch6 2 (rfl)) rfl
theorem jw_1203 : (Jvm.Cond.methodLink "LieCandlesModel" (1 : Nat) ({ cls := "java/lang/Object", name := "<init>", desc := "()V" } : Jvm.MethodName)) ∈ jl_tbl := jl_inT (jl_ch6 3 (by decide +kernel)) rfl
theorem jw_1204 : (Jvm.Cond.constant "LieCandlesModel" (161 : Nat) (93000 : Int32)) ∈ jl_tbl := jl_inT (jl_ch6 4 (by decide +kernel)) rfl
theorem jw_1205 : (Jvm.Cond.fieldLink "LieCandlesModel" (7 : Nat) "LieCandlesModel" "tape" "[I") ∈ jl_tbl := jl_inT (jl_ch6 5 (by decide +kernel)) rfl
theorem jw_1206 : (Jvm.Cond.fieldLink "LieCandlesModel" (259 : Nat) "LieCandlesModel" "taped" "I") ∈ jl_tbl := jl_inT (jl_ch6 6 (by decide +kernel)) rfl
theorem jw_1207 : (Jvm.Cond.fieldLink "LieCandlesModel" (268 : Nat) "LieCandlesModel" "at" "I") ∈ jl_tbl := jl_inT (jl_ch6 7 (by decide +kernel)) rfl
theorem jw_1208 : (Jvm.Cond.fieldLink "LieCandlesModel" (271 : Nat) "LieCandlesModel" "end" "I") ∈ jl_tbl := jl_inT (jl_ch6 8 (by decide +kernel)) rfl
theorem jw_1209 : (Jvm.Cond.fieldLink "LieCandlesModel" (282 : Nat) "LieCandlesModel" "ended" "I") ∈ jl_tbl := jl_inT (jl_ch6 9 (by decide +kernel)) rfl
theorem jw_1210 : (Jvm.Cond.fieldLink "LieCandlesModel" (262 : Nat) "LieCandlesModel" "bad" "I") ∈ jl_tbl := jl_inT (jl_ch6 10 (by decide +kernel)) rfl
theorem jw_1211 : (Jvm.Cond.fieldLink "LieCandlesModel" (265 : Nat) "LieCandlesModel" "badPlace" "I") ∈ jl_tbl := jl_inT (jl_ch6 11 (by decide +kernel)) rfl
theorem jw_1212 : (Jvm.Cond.fieldLink "LieCandlesModel" (401 : Nat) "LieCandlesModel" "fault" "I") ∈ jl_tbl := jl_inT (jl_ch6 12 (by decide +kernel)) rfl
theorem jw_1213 : (Jvm.Cond.fieldLink "LieCandlesModel" (13 : Nat) "LieCandlesModel" "faultPlace" "I") ∈ jl_tbl := jl_inT (jl_ch6 13 (by decide +kernel)) rfl
theorem jw_1214 : (Jvm.Cond.fieldLink "LieCandlesModel" (17 : Nat) "LieCandlesModel" "refused" "[I") ∈ jl_tbl := jl_inT (jl_ch6 14 (by decide +kernel)) rfl
theorem jw_1215 : (Jvm.Cond.fieldLink "LieCandlesModel" (302 : Nat) "LieCandlesModel" "numberPlace" "I") ∈ jl_tbl := jl_inT (jl_ch6 15 (by decide +kernel)) rfl
theorem jw_1216 : (Jvm.Cond.fieldLink "LieCandlesModel" (20 : Nat) "LieCandlesModel" "streetWord" "[C") ∈ jl_tbl := jl_inT (jl_ch6 16 (by decide +kernel)) rfl
theorem jw_1217 : (Jvm.Cond.fieldLink "LieCandlesModel" (24 : Nat) "LieCandlesModel" "personWord" "[C") ∈ jl_tbl := jl_inT (jl_ch6 17 (by decide +kernel)) rfl
theorem jw_1218 : (Jvm.Cond.fieldLink "LieCandlesModel" (27 : Nat) "LieCandlesModel" "atWord" "[C") ∈ jl_tbl := jl_inT (jl_ch6 18 (by decide +kernel)) rfl
theorem jw_1219 : (Jvm.Cond.fieldLink "LieCandlesModel" (30 : Nat) "LieCandlesModel" "trustWord" "[C") ∈ jl_tbl := jl_inT (jl_ch6 19 (by decide +kernel)) rfl
theorem jw_1220 : (Jvm.Cond.fieldLink "LieCandlesModel" (33 : Nat) "LieCandlesModel" "lieWord" "[C") ∈ jl_tbl := jl_inT (jl_ch6 20 (by decide +kernel)) rfl
theorem jw_1221 : (Jvm.Cond.fieldLink "LieCandlesModel" (36 : Nat) "LieCandlesModel" "ofWord" "[C") ∈ jl_tbl := jl_inT (jl_ch6 21 (by decide +kernel)) rfl
theorem jw_1222 : (Jvm.Cond.fieldLink "LieCandlesModel" (39 : Nat) "LieCandlesModel" "hangsWord" "[C") ∈ jl_tbl := jl_inT (jl_ch6 22 (by decide +kernel)) rfl
theorem jw_1223 : (Jvm.Cond.fieldLink "LieCandlesModel" (42 : Nat) "LieCandlesModel" "onWord" "[C") ∈ jl_tbl := jl_inT (jl_ch6 23 (by decide +kernel)) rfl
theorem jw_1224 : (Jvm.Cond.fieldLink "LieCandlesModel" (45 : Nat) "LieCandlesModel" "lightWord" "[C") ∈ jl_tbl := jl_inT (jl_ch6 24 (by decide +kernel)) rfl
theorem jw_1225 : (Jvm.Cond.fieldLink "LieCandlesModel" (48 : Nat) "LieCandlesModel" "forWord" "[C") ∈ jl_tbl := jl_inT (jl_ch6 25 (by decide +kernel)) rfl
theorem jw_1226 : (Jvm.Cond.fieldLink "LieCandlesModel" (51 : Nat) "LieCandlesModel" "tallowWord" "[C") ∈ jl_tbl := jl_inT (jl_ch6 26 (by decide +kernel)) rfl
theorem jw_1227 : (Jvm.Cond.fieldLink "LieCandlesModel" (54 : Nat) "LieCandlesModel" "draftsWord" "[C") ∈ jl_tbl := jl_inT (jl_ch6 27 (by decide +kernel)) rfl
theorem jw_1228 : (Jvm.Cond.fieldLink "LieCandlesModel" (57 : Nat) "LieCandlesModel" "burnsWord" "[C") ∈ jl_tbl := jl_inT (jl_ch6 28 (by decide +kernel)) rfl
theorem jw_1229 : (Jvm.Cond.fieldLink "LieCandlesModel" (60 : Nat) "LieCandlesModel" "believesWord" "[C") ∈ jl_tbl := jl_inT (jl_ch6 29 (by decide +kernel)) rfl
theorem jw_1230 : (Jvm.Cond.fieldLink "LieCandlesModel" (63 : Nat) "LieCandlesModel" "gustWord" "[C") ∈ jl_tbl := jl_inT (jl_ch6 30 (by decide +kernel)) rfl
theorem jw_1231 : (Jvm.Cond.fieldLink "LieCandlesModel" (66 : Nat) "LieCandlesModel" "inchesWord" "[C") ∈ jl_tbl := jl_inT (jl_ch6 31 (by decide +kernel)) rfl
theorem jw_1232 : (Jvm.Cond.fieldLink "LieCandlesModel" (69 : Nat) "LieCandlesModel" "nearWord" "[C") ∈ jl_tbl := jl_inT (jl_ch6 32 (by decide +kernel)) rfl
theorem jw_1233 : (Jvm.Cond.fieldLink "LieCandlesModel" (72 : Nat) "LieCandlesModel" "draftWord" "[C") ∈ jl_tbl := jl_inT (jl_ch6 33 (by decide +kernel)) rfl
theorem jw_1234 : (Jvm.Cond.fieldLink "LieCandlesModel" (75 : Nat) "LieCandlesModel" "toldWord" "[C") ∈ jl_tbl := jl_inT (jl_ch6 34 (by decide +kernel)) rfl
theorem jw_1235 : (Jvm.Cond.fieldLink "LieCandlesModel" (78 : Nat) "LieCandlesModel" "hourWord" "[C") ∈ jl_tbl := jl_inT (jl_ch6 35 (by decide +kernel)) rfl
theorem jw_1236 : (Jvm.Cond.fieldLink "LieCandlesModel" (81 : Nat) "LieCandlesModel" "placeWord" "[C") ∈ jl_tbl := jl_inT (jl_ch6 36 (by decide +kernel)) rfl
theorem jw_1237 : (Jvm.Cond.fieldLink "LieCandlesModel" (84 : Nat) "LieCandlesModel" "numberWord" "[C") ∈ jl_tbl := jl_inT (jl_ch6 37 (by decide +kernel)) rfl
theorem jw_1238 : (Jvm.Cond.fieldLink "LieCandlesModel" (87 : Nat) "LieCandlesModel" "litWord" "[C") ∈ jl_tbl := jl_inT (jl_ch6 38 (by decide +kernel)) rfl
theorem jw_1239 : (Jvm.Cond.fieldLink "LieCandlesModel" (90 : Nat) "LieCandlesModel" "heldWord" "[C") ∈ jl_tbl := jl_inT (jl_ch6 39 (by decide +kernel)) rfl
theorem jw_1240 : (Jvm.Cond.fieldLink "LieCandlesModel" (93 : Nat) "LieCandlesModel" "waxWord" "[C") ∈ jl_tbl := jl_inT (jl_ch6 40 (by decide +kernel)) rfl
theorem jw_1241 : (Jvm.Cond.fieldLink "LieCandlesModel" (96 : Nat) "LieCandlesModel" "glowWord" "[C") ∈ jl_tbl := jl_inT (jl_ch6 41 (by decide +kernel)) rfl
theorem jw_1242 : (Jvm.Cond.fieldLink "LieCandlesModel" (99 : Nat) "LieCandlesModel" "orWord" "[C") ∈ jl_tbl := jl_inT (jl_ch6 42 (by decide +kernel)) rfl
theorem jw_1243 : (Jvm.Cond.fieldLink "LieCandlesModel" (102 : Nat) "LieCandlesModel" "andWord" "[C") ∈ jl_tbl := jl_inT (jl_ch6 43 (by decide +kernel)) rfl
theorem jw_1244 : (Jvm.Cond.fieldLink "LieCandlesModel" (105 : Nat) "LieCandlesModel" "notWord" "[C") ∈ jl_tbl := jl_inT (jl_ch6 44 (by decide +kernel)) rfl
theorem jw_1245 : (Jvm.Cond.fieldLink "LieCandlesModel" (108 : Nat) "LieCandlesModel" "allWord" "[C") ∈ jl_tbl := jl_inT (jl_ch6 45 (by decide +kernel)) rfl
theorem jw_1246 : (Jvm.Cond.fieldLink "LieCandlesModel" (111 : Nat) "LieCandlesModel" "minWord" "[C") ∈ jl_tbl := jl_inT (jl_ch6 46 (by decide +kernel)) rfl
theorem jw_1247 : (Jvm.Cond.fieldLink "LieCandlesModel" (114 : Nat) "LieCandlesModel" "maxWord" "[C") ∈ jl_tbl := jl_inT (jl_ch6 47 (by decide +kernel)) rfl
theorem jw_1248 : (Jvm.Cond.fieldLink "LieCandlesModel" (313 : Nat) "LieCandlesModel" "namePlace" "I") ∈ jl_tbl := jl_inT (jl_ch6 48 (by decide +kernel)) rfl
theorem jw_1249 : (Jvm.Cond.fieldLink "LieCandlesModel" (117 : Nat) "LieCandlesModel" "many" "[I") ∈ jl_tbl := jl_inT (jl_ch6 49 (by decide +kernel)) rfl
theorem jw_1250 : (Jvm.Cond.fieldLink "LieCandlesModel" (120 : Nat) "LieCandlesModel" "names" "[J") ∈ jl_tbl := jl_inT (jl_ch6 50 (by decide +kernel)) rfl
theorem jw_1251 : (Jvm.Cond.fieldLink "LieCandlesModel" (124 : Nat) "LieCandlesModel" "people" "[I") ∈ jl_tbl := jl_inT (jl_ch6 51 (by decide +kernel)) rfl
theorem jw_1252 : (Jvm.Cond.fieldLink "LieCandlesModel" (127 : Nat) "LieCandlesModel" "lies" "[I") ∈ jl_tbl := jl_inT (jl_ch6 52 (by decide +kernel)) rfl
theorem jw_1253 : (Jvm.Cond.fieldLink "LieCandlesModel" (130 : Nat) "LieCandlesModel" "plan0" "[I") ∈ jl_tbl := jl_inT (jl_ch6 53 (by decide +kernel)) rfl
theorem jw_1254 : (Jvm.Cond.fieldLink "LieCandlesModel" (133 : Nat) "LieCandlesModel" "codeFrom" "[I") ∈ jl_tbl := jl_inT (jl_ch6 54 (by decide +kernel)) rfl
theorem jw_1255 : (Jvm.Cond.fieldLink "LieCandlesModel" (136 : Nat) "LieCandlesModel" "codeEnd" "[I") ∈ jl_tbl := jl_inT (jl_ch6 55 (by decide +kernel)) rfl
theorem jw_1256 : (Jvm.Cond.fieldLink "LieCandlesModel" (139 : Nat) "LieCandlesModel" "codes" "[I") ∈ jl_tbl := jl_inT (jl_ch6 56 (by decide +kernel)) rfl
theorem jw_1257 : (Jvm.Cond.fieldLink "LieCandlesModel" (374 : Nat) "LieCandlesModel" "coded" "I") ∈ jl_tbl := jl_inT (jl_ch6 57 (by decide +kernel)) rfl
theorem jw_1258 : (Jvm.Cond.fieldLink "LieCandlesModel" (377 : Nat) "LieCandlesModel" "statements" "I") ∈ jl_tbl := jl_inT (jl_ch6 58 (by decide +kernel)) rfl
theorem jw_1259 : (Jvm.Cond.fieldLink "LieCandlesModel" (410 : Nat) "LieCandlesModel" "isTold" "Z") ∈ jl_tbl := jl_inT (jl_ch6 59 (by decide +kernel)) rfl
theorem jw_1260 : (Jvm.Cond.fieldLink "LieCandlesModel" (320 : Nat) "LieCandlesModel" "textKind" "I") ∈ jl_tbl := jl_inT (jl_ch6 60 (by decide +kernel)) rfl
theorem jw_1261 : (Jvm.Cond.fieldLink "LieCandlesModel" (142 : Nat) "LieCandlesModel" "now" "[I") ∈ jl_tbl := jl_inT (jl_ch6 61 (by decide +kernel)) rfl
theorem jw_1262 : (Jvm.Cond.fieldLink "LieCandlesModel" (477 : Nat) "LieCandlesModel" "askLie" "I") ∈ jl_tbl := jl_inT (jl_ch6 62 (by decide +kernel)) rfl
theorem jw_1263 : (Jvm.Cond.fieldLink "LieCandlesModel" (457 : Nat) "LieCandlesModel" "askPlace" "I") ∈ jl_tbl := jl_inT (jl_ch6 63 (by decide +kernel)) rfl
theorem jw_1264 : (Jvm.Cond.fieldLink "LieCandlesModel" (670 : Nat) "LieCandlesModel" "heldSet" "I") ∈ jl_tbl := jl_inT (jl_ch6 64 (by decide +kernel)) rfl
theorem jw_1265 : (Jvm.Cond.fieldLink "LieCandlesModel" (145 : Nat) "LieCandlesModel" "draftNow" "[I") ∈ jl_tbl := jl_inT (jl_ch6 65 (by decide +kernel)) rfl
theorem jw_1266 : (Jvm.Cond.fieldLink "LieCandlesModel" (492 : Nat) "LieCandlesModel" "outMany" "I") ∈ jl_tbl := jl_inT (jl_ch6 66 (by decide +kernel)) rfl
theorem jw_1267 : (Jvm.Cond.fieldLink "LieCandlesModel" (148 : Nat) "LieCandlesModel" "ahead" "[I") ∈ jl_tbl := jl_inT (jl_ch6 67 (by decide +kernel)) rfl
theorem jw_1268 : (Jvm.Cond.fieldLink "LieCandlesModel" (483 : Nat) "LieCandlesModel" "isThought" "Z") ∈ jl_tbl := jl_inT (jl_ch6 68 (by decide +kernel)) rfl
theorem jw_1269 : (Jvm.Cond.fieldLink "LieCandlesModel" (151 : Nat) "LieCandlesModel" "aside" "[I") ∈ jl_tbl := jl_inT (jl_ch6 69 (by decide +kernel)) rfl
theorem jw_1270 : (Jvm.Cond.fieldLink "LieCandlesModel" (417 : Nat) "LieCandlesModel" "rowMany" "I") ∈ jl_tbl := jl_inT (jl_ch6 70 (by decide +kernel)) rfl
theorem jw_1271 : (Jvm.Cond.fieldLink "LieCandlesModel" (154 : Nat) "LieCandlesModel" "rows" "[I") ∈ jl_tbl := jl_inT (jl_ch6 71 (by decide +kernel)) rfl
theorem jw_1272 : (Jvm.Cond.fieldLink "LieCandlesModel" (157 : Nat) "LieCandlesModel" "fitting" "[Z") ∈ jl_tbl := jl_inT (jl_ch6 72 (by decide +kernel)) rfl
theorem jw_1273 : (Jvm.Cond.fieldLink "LieCandlesModel" (568 : Nat) "LieCandlesModel" "fitMany" "I") ∈ jl_tbl := jl_inT (jl_ch6 73 (by decide +kernel)) rfl
theorem jw_1274 : (Jvm.Cond.fieldLink "LieCandlesModel" (162 : Nat) "LieCandlesModel" "ways" "[I") ∈ jl_tbl := jl_inT (jl_ch6 74 (by decide +kernel)) rfl
theorem jw_1275 : (Jvm.Cond.fieldLink "LieCandlesModel" (165 : Nat) "LieCandlesModel" "like" "[I") ∈ jl_tbl := jl_inT (jl_ch6 75 (by decide +kernel)) rfl
theorem jw_1276 : (Jvm.Cond.fieldLink "LieCandlesModel" (168 : Nat) "LieCandlesModel" "kept0" "[I") ∈ jl_tbl := jl_inT (jl_ch6 76 (by decide +kernel)) rfl
theorem jw_1277 : (Jvm.Cond.fieldLink "LieCandlesModel" (414 : Nat) "LieCandlesModel" "undoable" "I") ∈ jl_tbl := jl_inT (jl_ch6 77 (by decide +kernel)) rfl
theorem jw_1278 : (Jvm.Cond.fieldLink "LieCandlesModel" (580 : Nat) "LieCandlesModel" "newest" "I") ∈ jl_tbl := jl_inT (jl_ch6 78 (by decide +kernel)) rfl
theorem jw_1279 : (Jvm.Cond.fieldLink "LieCandlesModel" (171 : Nat) "LieCandlesModel" "seeded" "J") ∈ jl_tbl := jl_inT (jl_ch6 79 (by decide +kernel)) rfl
theorem jw_1280 : (Jvm.Cond.fieldLink "LieCandlesModel" (175 : Nat) "LieCandlesModel" "firstAsked" "[C") ∈ jl_tbl := jl_inT (jl_ch6 80 (by decide +kernel)) rfl
theorem jw_1281 : (Jvm.Cond.fieldLink "LieCandlesModel" (178 : Nat) "LieCandlesModel" "lastAsked" "[C") ∈ jl_tbl := jl_inT (jl_ch6 81 (by decide +kernel)) rfl
theorem jw_1282 : (Jvm.Cond.fieldLink "LieCandlesModel" (181 : Nat) "LieCandlesModel" "oftenAsked" "[C") ∈ jl_tbl := jl_inT (jl_ch6 82 (by decide +kernel)) rfl
theorem jw_1283 : (Jvm.Cond.fieldLink "LieCandlesModel" (184 : Nat) "LieCandlesModel" "totalAsked" "[C") ∈ jl_tbl := jl_inT (jl_ch6 83 (by decide +kernel)) rfl
theorem jw_1284 : (Jvm.Cond.fieldLink "LieCandlesModel" (187 : Nat) "LieCandlesModel" "mostAsked" "[C") ∈ jl_tbl := jl_inT (jl_ch6 84 (by decide +kernel)) rfl
theorem jw_1285 : (Jvm.Cond.fieldLink "LieCandlesModel" (190 : Nat) "LieCandlesModel" "leastAsked" "[C") ∈ jl_tbl := jl_inT (jl_ch6 85 (by decide +kernel)) rfl
theorem jw_1286 : (Jvm.Cond.fieldLink "LieCandlesModel" (193 : Nat) "LieCandlesModel" "notAsked" "[C") ∈ jl_tbl := jl_inT (jl_ch6 86 (by decide +kernel)) rfl
theorem jw_1287 : (Jvm.Cond.fieldLink "LieCandlesModel" (196 : Nat) "LieCandlesModel" "andAsked" "[C") ∈ jl_tbl := jl_inT (jl_ch6 87 (by decide +kernel)) rfl
theorem jw_1288 : (Jvm.Cond.fieldLink "LieCandlesModel" (199 : Nat) "LieCandlesModel" "orAsked" "[C") ∈ jl_tbl := jl_inT (jl_ch6 88 (by decide +kernel)) rfl
theorem jw_1289 : (Jvm.Cond.fieldLink "LieCandlesModel" (202 : Nat) "LieCandlesModel" "allAsked" "[C") ∈ jl_tbl := jl_inT (jl_ch6 89 (by decide +kernel)) rfl
theorem jw_1290 : (Jvm.Cond.fieldLink "LieCandlesModel" (205 : Nat) "LieCandlesModel" "minAsked" "[C") ∈ jl_tbl := jl_inT (jl_ch6 90 (by decide +kernel)) rfl
theorem jw_1291 : (Jvm.Cond.fieldLink "LieCandlesModel" (208 : Nat) "LieCandlesModel" "maxAsked" "[C") ∈ jl_tbl := jl_inT (jl_ch6 91 (by decide +kernel)) rfl
theorem jw_1292 : (Jvm.Cond.fieldLink "LieCandlesModel" (211 : Nat) "LieCandlesModel" "hourAsked" "[C") ∈ jl_tbl := jl_inT (jl_ch6 92 (by decide +kernel)) rfl
theorem jw_1293 : (Jvm.Cond.fieldLink "LieCandlesModel" (214 : Nat) "LieCandlesModel" "placeAsked" "[C") ∈ jl_tbl := jl_inT (jl_ch6 93 (by decide +kernel)) rfl
theorem jw_1294 : (Jvm.Cond.fieldLink "LieCandlesModel" (217 : Nat) "LieCandlesModel" "inchesAsked" "[C") ∈ jl_tbl := jl_inT (jl_ch6 94 (by decide +kernel)) rfl
theorem jw_1295 : (Jvm.Cond.fieldLink "LieCandlesModel" (220 : Nat) "LieCandlesModel" "nearAsked" "[C") ∈ jl_tbl := jl_inT (jl_ch6 95 (by decide +kernel)) rfl
theorem jw_1296 : (Jvm.Cond.fieldLink "LieCandlesModel" (223 : Nat) "LieCandlesModel" "draftAsked" "[C") ∈ jl_tbl := jl_inT (jl_ch6 96 (by decide +kernel)) rfl
theorem jw_1297 : (Jvm.Cond.fieldLink "LieCandlesModel" (226 : Nat) "LieCandlesModel" "toldAsked" "[C") ∈ jl_tbl := jl_inT (jl_ch6 97 (by decide +kernel)) rfl
theorem jw_1298 : (Jvm.Cond.fieldLink "LieCandlesModel" (229 : Nat) "LieCandlesModel" "trustAsked" "[C") ∈ jl_tbl := jl_inT (jl_ch6 98 (by decide +kernel)) rfl
theorem jw_1299 : (Jvm.Cond.fieldLink "LieCandlesModel" (232 : Nat) "LieCandlesModel" "numberAsked" "[C") ∈ jl_tbl := jl_inT (jl_ch6 99 (by decide +kernel)) rfl
theorem jw_1300 : (Jvm.Cond.fieldLink "LieCandlesModel" (235 : Nat) "LieCandlesModel" "litAsked" "[C") ∈ jl_tbl := jl_inT (jl_ch6 100 (by decide +kernel)) rfl
theorem jw_1301 : (Jvm.Cond.fieldLink "LieCandlesModel" (238 : Nat) "LieCandlesModel" "heldAsked" "[C") ∈ jl_tbl := jl_inT (jl_ch6 101 (by decide +kernel)) rfl
theorem jw_1302 : (Jvm.Cond.fieldLink "LieCandlesModel" (241 : Nat) "LieCandlesModel" "waxAsked" "[C") ∈ jl_tbl := jl_inT (jl_ch6 102 (by decide +kernel)) rfl
theorem jw_1303 : (Jvm.Cond.fieldLink "LieCandlesModel" (244 : Nat) "LieCandlesModel" "glowAsked" "[C") ∈ jl_tbl := jl_inT (jl_ch6 103 (by decide +kernel)) rfl
theorem jw_1304 : (Jvm.Cond.fieldLink "LieCandlesModel" (247 : Nat) "LieCandlesModel" "qCodes" "[I") ∈ jl_tbl := jl_inT (jl_ch6 104 (by decide +kernel)) rfl
theorem jw_1305 : (Jvm.Cond.fieldLink "LieCandlesModel" (356 : Nat) "LieCandlesModel" "qCoded" "I") ∈ jl_tbl := jl_inT (jl_ch6 105 (by decide +kernel)) rfl
theorem jw_1306 : (Jvm.Cond.fieldLink "LieCandlesModel" (250 : Nat) "LieCandlesModel" "qWait" "[I") ∈ jl_tbl := jl_inT (jl_ch6 106 (by decide +kernel)) rfl
theorem jw_1307 : (Jvm.Cond.fieldLink "LieCandlesModel" (359 : Nat) "LieCandlesModel" "qWaits" "I") ∈ jl_tbl := jl_inT (jl_ch6 107 (by decide +kernel)) rfl
theorem jw_1308 : (Jvm.Cond.fieldLink "LieCandlesModel" (362 : Nat) "LieCandlesModel" "qOpened" "I") ∈ jl_tbl := jl_inT (jl_ch6 108 (by decide +kernel)) rfl
theorem jw_1309 : (Jvm.Cond.fieldLink "LieCandlesModel" (365 : Nat) "LieCandlesModel" "qBase" "I") ∈ jl_tbl := jl_inT (jl_ch6 109 (by decide +kernel)) rfl
theorem jw_1310 : (Jvm.Cond.fieldLink "LieCandlesModel" (253 : Nat) "LieCandlesModel" "qPile" "[J") ∈ jl_tbl := jl_inT (jl_ch6 110 (by decide +kernel)) rfl
theorem jw_1311 : (Jvm.Cond.fieldLink "LieCandlesModel" (440 : Nat) "LieCandlesModel" "qPiled" "I") ∈ jl_tbl := jl_inT (jl_ch6 111 (by decide +kernel)) rfl
theorem jw_1312 : (Jvm.Cond.fieldLink "LieCandlesModel" (677 : Nat) "LieCandlesModel" "qAnswer" "J") ∈ jl_tbl := jl_inT (jl_ch6 112 (by decide +kernel)) rfl
theorem jw_1313 : (Jvm.Cond.fieldLink "LieCandlesModel" (680 : Nat) "LieCandlesModel" "qIsNew" "Z") ∈ jl_tbl := jl_inT (jl_ch6 113 (by decide +kernel)) rfl
theorem jw_1314 : (Jvm.Cond.fieldLink "LieCandlesModel" (256 : Nat) "LieCandlesModel" "octet" "[I") ∈ jl_tbl := jl_inT (jl_ch6 114 (by decide +kernel)) rfl
theorem jw_1315 : (Jvm.Cond.fieldLink "LieCandlesModel" (695 : Nat) "LieCandlesModel" "octets" "I") ∈ jl_tbl := jl_inT (jl_ch6 115 (by decide +kernel)) rfl
theorem jw_1539 : (Jvm.Cond.arrayClass Jvm.ClassFile.FieldType.char) ∈ jl_tbl := jl_inT (jl_ch7 99 (by decide +kernel)) rfl
theorem jw_1540 : (Jvm.Cond.arrayClass Jvm.ClassFile.FieldType.long) ∈ jl_tbl := jl_inT (jl_ch7 100 (by decide +kernel)) rfl
theorem jw_1541 : (Jvm.Cond.arrayClass Jvm.ClassFile.FieldType.boolean) ∈ jl_tbl := jl_inT (jl_ch7 101 (by decide +kernel)) rfl
theorem jw_1542 : (Jvm.Cond.methodLink "LieCandlesLaw" (17 : Nat) ({ cls := "LieCandlesModel", name := "feed", desc := "(IIIII)I" } : Jvm.MethodName)) ∈ jl_tbl := jl_inT (jl_ch7 102 (by decide +kernel)) rfl
theorem jw_1543 : (Jvm.Cond.instanceMethod ({ cls := "LieCandlesModel", name := "feed", desc := "(IIIII)I" } : Jvm.MethodName)) ∈ jl_tbl := jl_inT (jl_ch7 103 (by decide +kernel)) rfl
theorem jw_1544 : (Jvm.Cond.selects "LieCandlesModel" ({ cls := "LieCandlesModel", name := "feed", desc := "(IIIII)I" } : Jvm.MethodName) ({ cls := "LieCandlesModel", name := "feed", desc := "(IIIII)I" } : Jvm.MethodName)) ∈ jl_tbl := jl_inT (jl_ch7 104 (by decide +kernel)) rfl
theorem jw_1545 : (Jvm.Cond.code ({ cls := "LieCandlesModel", name := "feed", desc := "(IIIII)I" } : Jvm.MethodName) prog_14_method_4_code (8 : Nat) (Option.some Jvm.ClassFile.FieldType.int)) ∈ jl_tbl := jl_inT (jl_ch7 105 (rfl)) rfl
theorem jw_1546 : (Jvm.Cond.methodLink "LieCandlesLaw" (22 : Nat) ({ cls := "LieCandlesModel", name := "end", desc := "(I)Z" } : Jvm.MethodName)) ∈ jl_tbl := jl_inT (jl_ch7 106 (by decide +kernel)) rfl
theorem jw_1547 : (Jvm.Cond.instanceMethod ({ cls := "LieCandlesModel", name := "end", desc := "(I)Z" } : Jvm.MethodName)) ∈ jl_tbl := jl_inT (jl_ch7 107 (by decide +kernel)) rfl
theorem jw_1548 : (Jvm.Cond.selects "LieCandlesModel" ({ cls := "LieCandlesModel", name := "end", desc := "(I)Z" } : Jvm.MethodName) ({ cls := "LieCandlesModel", name := "end", desc := "(I)Z" } : Jvm.MethodName)) ∈ jl_tbl := jl_inT (jl_ch7 108 (by decide +kernel)) rfl
theorem jw_1549 : (Jvm.Cond.code ({ cls := "LieCandlesModel", name := "end", desc := "(I)Z" } : Jvm.MethodName) prog_14_method_5_code (2 : Nat) (Option.some Jvm.ClassFile.FieldType.boolean)) ∈ jl_tbl := jl_inT (jl_ch7 109 (rfl)) rfl
theorem jw_1550 : (Jvm.Cond.methodLink "LieCandlesLaw" (27 : Nat) ({ cls := "LieCandlesModel", name := "street", desc := "()I" } : Jvm.MethodName)) ∈ jl_tbl := jl_inT (jl_ch7 110 (by decide +kernel)) rfl
theorem jw_1551 : (Jvm.Cond.instanceMethod ({ cls := "LieCandlesModel", name := "street", desc := "()I" } : Jvm.MethodName)) ∈ jl_tbl := jl_inT (jl_ch7 111 (by decide +kernel)) rfl
theorem jw_1552 : (Jvm.Cond.selects "LieCandlesModel" ({ cls := "LieCandlesModel", name := "street", desc := "()I" } : Jvm.MethodName) ({ cls := "LieCandlesModel", name := "street", desc := "()I" } : Jvm.MethodName)) ∈ jl_tbl := jl_inT (jl_ch7 112 (by decide +kernel)) rfl
theorem jw_1553 : (Jvm.Cond.code ({ cls := "LieCandlesModel", name := "street", desc := "()I" } : Jvm.MethodName) prog_14_method_29_code (2 : Nat) (Option.some Jvm.ClassFile.FieldType.int)) ∈ jl_tbl := jl_inT (jl_ch7 113 (rfl)) rfl
theorem jw_1554 : (Jvm.Cond.methodLink "LieCandlesModel" (395 : Nat) ({ cls := "LieCandlesModel", name := "streetTold", desc := "()V" } : Jvm.MethodName)) ∈ jl_tbl := jl_inT (jl_ch7 114 (by decide +kernel)) rfl
theorem jw_1556 : (Jvm.Cond.instanceMethod ({ cls := "LieCandlesModel", name := "streetTold", desc := "()V" } : Jvm.MethodName)) ∈ jl_tbl := jl_inT (jl_ch7 116 (by decide +kernel)) rfl
theorem jw_1557 : (Jvm.Cond.code ({ cls := "LieCandlesModel", name := "streetTold", desc := "()V" } : Jvm.MethodName) prog_14_method_20_code (1 : Nat) (Option.none : Option Jvm.ClassFile.FieldType)) ∈ jl_tbl := jl_inT (jl_ch7 117 (rfl)) rfl
theorem jw_1558 : (Jvm.Cond.methodLink "LieCandlesModel" (329 : Nat) ({ cls := "LieCandlesModel", name := "asks", desc := "([C)V" } : Jvm.MethodName)) ∈ jl_tbl := jl_inT (jl_ch7 118 (by decide +kernel)) rfl
theorem jw_1560 : (Jvm.Cond.instanceMethod ({ cls := "LieCandlesModel", name := "asks", desc := "([C)V" } : Jvm.MethodName)) ∈ jl_tbl := jl_inT (jl_ch7 120 (by decide +kernel)) rfl
theorem jw_1561 : (Jvm.Cond.code ({ cls := "LieCandlesModel", name := "asks", desc := "([C)V" } : Jvm.MethodName) prog_14_method_12_code (2 : Nat) (Option.none : Option Jvm.ClassFile.FieldType)) ∈ jl_tbl := jl_inT (jl_ch7 121 (rfl)) rfl
theorem jw_1562 : (Jvm.Cond.methodLink "LieCandlesModel" (289 : Nat) ({ cls := "LieCandlesModel", name := "takes", desc := "([C)Z" } : Jvm.MethodName)) ∈ jl_tbl := jl_inT (jl_ch7 122 (by decide +kernel)) rfl
theorem jw_1564 : (Jvm.Cond.instanceMethod ({ cls := "LieCandlesModel", name := "takes", desc := "([C)Z" } : Jvm.MethodName)) ∈ jl_tbl := jl_inT (jl_ch7 124 (by decide +kernel)) rfl
theorem jw_1565 : (Jvm.Cond.code ({ cls := "LieCandlesModel", name := "takes", desc := "([C)Z" } : Jvm.MethodName) prog_14_method_11_code (2 : Nat) (Option.some Jvm.ClassFile.FieldType.boolean)) ∈ jl_tbl := jl_inT (jl_ch7 125 (rfl)) rfl
theorem jw_1566 : (Jvm.Cond.methodLink "LieCandlesModel" (285 : Nat) ({ cls := "LieCandlesModel", name := "isHere", desc := "([C)Z" } : Jvm.MethodName)) ∈ jl_tbl := jl_inT (jl_ch7 126 (by decide +kernel)) rfl
theorem jw_1568 : (Jvm.Cond.instanceMethod ({ cls := "LieCandlesModel", name := "isHere", desc := "([C)Z" } : Jvm.MethodName)) ∈ jl_tbl := jl_inT (jl_ch7 128 (by decide +kernel)) rfl
theorem jw_1569 : (Jvm.Cond.code ({ cls := "LieCandlesModel", name := "isHere", desc := "([C)Z" } : Jvm.MethodName) prog_14_method_10_code (4 : Nat) (Option.some Jvm.ClassFile.FieldType.boolean)) ∈ jl_tbl := jl_inT (jl_ch7 129 (rfl)) rfl
theorem jw_1570 : (Jvm.Cond.methodLink "LieCandlesModel" (274 : Nat) ({ cls := "LieCandlesModel", name := "look", desc := "()I" } : Jvm.MethodName)) ∈ jl_tbl := jl_inT (jl_ch7 130 (by decide +kernel)) rfl
theorem jw_1572 : (Jvm.Cond.instanceMethod ({ cls := "LieCandlesModel", name := "look", desc := "()I" } : Jvm.MethodName)) ∈ jl_tbl := jl_inT (jl_ch7 132 (by decide +kernel)) rfl
theorem jw_1573 : (Jvm.Cond.code ({ cls := "LieCandlesModel", name := "look", desc := "()I" } : Jvm.MethodName) prog_14_method_9_code (1 : Nat) (Option.some Jvm.ClassFile.FieldType.int)) ∈ jl_tbl := jl_inT (jl_ch7 133 (rfl)) rfl
theorem jw_1574 : (Jvm.Cond.methodLink "LieCandlesModel" (278 : Nat) ({ cls := "LieCandlesModel", name := "isLetter", desc := "(I)Z" } : Jvm.MethodName)) ∈ jl_tbl := jl_inT (jl_ch7 134 (by decide +kernel)) rfl
theorem jw_1575 : (Jvm.Cond.static ({ cls := "LieCandlesModel", name := "isLetter", desc := "(I)Z" } : Jvm.MethodName)) ∈ jl_tbl := jl_inT (jl_ch7 135 (by decide +kernel)) rfl
theorem jw_1576 : (Jvm.Cond.code ({ cls := "LieCandlesModel", name := "isLetter", desc := "(I)Z" } : Jvm.MethodName) prog_14_method_7_code (1 : Nat) (Option.some Jvm.ClassFile.FieldType.boolean)) ∈ jl_tbl := jl_inT (jl_ch7 136 (rfl)) rfl
theorem jw_1577 : (Jvm.Cond.methodLink "LieCandlesModel" (292 : Nat) ({ cls := "LieCandlesModel", name := "fail", desc := "(II)V" } : Jvm.MethodName)) ∈ jl_tbl := jl_inT (jl_ch7 137 (by decide +kernel)) rfl
theorem jw_1579 : (Jvm.Cond.instanceMethod ({ cls := "LieCandlesModel", name := "fail", desc := "(II)V" } : Jvm.MethodName)) ∈ jl_tbl := jl_inT (jl_ch7 139 (by decide +kernel)) rfl
theorem jw_1580 : (Jvm.Cond.code ({ cls := "LieCandlesModel", name := "fail", desc := "(II)V" } : Jvm.MethodName) prog_14_method_6_code (3 : Nat) (Option.none : Option Jvm.ClassFile.FieldType)) ∈ jl_tbl := jl_inT (jl_ch7 140 (rfl)) rfl
theorem jw_1581 : (Jvm.Cond.methodLink "LieCandlesModel" (333 : Nat) ({ cls := "LieCandlesModel", name := "number", desc := "(II)I" } : Jvm.MethodName)) ∈ jl_tbl := jl_inT (jl_ch7 141 (by decide +kernel)) rfl
theorem jw_1583 : (Jvm.Cond.instanceMethod ({ cls := "LieCandlesModel", name := "number", desc := "(II)I" } : Jvm.MethodName)) ∈ jl_tbl := jl_inT (jl_ch7 143 (by decide +kernel)) rfl
theorem jw_1584 : (Jvm.Cond.code ({ cls := "LieCandlesModel", name := "number", desc := "(II)I" } : Jvm.MethodName) prog_14_method_15_code (5 : Nat) (Option.some Jvm.ClassFile.FieldType.int)) ∈ jl_tbl := jl_inT (jl_ch7 144 (rfl)) rfl
theorem jw_1585 : (Jvm.Cond.methodLink "LieCandlesModel" (299 : Nat) ({ cls := "LieCandlesModel", name := "isDigit", desc := "(I)Z" } : Jvm.MethodName)) ∈ jl_tbl := jl_inT (jl_ch7 145 (by decide +kernel)) rfl
theorem jw_1586 : (Jvm.Cond.static ({ cls := "LieCandlesModel", name := "isDigit", desc := "(I)Z" } : Jvm.MethodName)) ∈ jl_tbl := jl_inT (jl_ch7 146 (by decide +kernel)) rfl
theorem jw_1587 : (Jvm.Cond.code ({ cls := "LieCandlesModel", name := "isDigit", desc := "(I)Z" } : Jvm.MethodName) prog_14_method_8_code (1 : Nat) (Option.some Jvm.ClassFile.FieldType.boolean)) ∈ jl_tbl := jl_inT (jl_ch7 147 (rfl)) rfl
theorem jw_1588 : (Jvm.Cond.methodLink "LieCandlesModel" (305 : Nat) ({ cls := "LieCandlesModel", name := "isIn", desc := "(JJJ)Z" } : Jvm.MethodName)) ∈ jl_tbl := jl_inT (jl_ch7 148 (by decide +kernel)) rfl
theorem jw_1589 : (Jvm.Cond.static ({ cls := "LieCandlesModel", name := "isIn", desc := "(JJJ)Z" } : Jvm.MethodName)) ∈ jl_tbl := jl_inT (jl_ch7 149 (by decide +kernel)) rfl
theorem jw_1590 : (Jvm.Cond.code ({ cls := "LieCandlesModel", name := "isIn", desc := "(JJJ)Z" } : Jvm.MethodName) prog_14_method_2_code (6 : Nat) (Option.some Jvm.ClassFile.FieldType.boolean)) ∈ jl_tbl := jl_inT (jl_ch7 150 (rfl)) rfl
theorem jw_1591 : (Jvm.Cond.methodLink "LieCandlesModel" (337 : Nat) ({ cls := "LieCandlesModel", name := "asksSign", desc := "(I)V" } : Jvm.MethodName)) ∈ jl_tbl := jl_inT (jl_ch7 151 (by decide +kernel)) rfl
theorem jw_1593 : (Jvm.Cond.instanceMethod ({ cls := "LieCandlesModel", name := "asksSign", desc := "(I)V" } : Jvm.MethodName)) ∈ jl_tbl := jl_inT (jl_ch7 153 (by decide +kernel)) rfl
theorem jw_1594 : (Jvm.Cond.code ({ cls := "LieCandlesModel", name := "asksSign", desc := "(I)V" } : Jvm.MethodName) prog_14_method_14_code (2 : Nat) (Option.none : Option Jvm.ClassFile.FieldType)) ∈ jl_tbl := jl_inT (jl_ch7 154 (rfl)) rfl
theorem jw_1595 : (Jvm.Cond.methodLink "LieCandlesModel" (296 : Nat) ({ cls := "LieCandlesModel", name := "takesSign", desc := "(I)Z" } : Jvm.MethodName)) ∈ jl_tbl := jl_inT (jl_ch7 155 (by decide +kernel)) rfl
theorem jw_1597 : (Jvm.Cond.instanceMethod ({ cls := "LieCandlesModel", name := "takesSign", desc := "(I)Z" } : Jvm.MethodName)) ∈ jl_tbl := jl_inT (jl_ch7 157 (by decide +kernel)) rfl
theorem jw_1598 : (Jvm.Cond.code ({ cls := "LieCandlesModel", name := "takesSign", desc := "(I)Z" } : Jvm.MethodName) prog_14_method_13_code (2 : Nat) (Option.some Jvm.ClassFile.FieldType.boolean)) ∈ jl_tbl := jl_inT (jl_ch7 158 (rfl)) rfl
theorem jw_1599 : (Jvm.Cond.methodLink "LieCandlesModel" (398 : Nat) ({ cls := "LieCandlesModel", name := "statementTold", desc := "()V" } : Jvm.MethodName)) ∈ jl_tbl := jl_inT (jl_ch7 159 (by decide +kernel)) rfl
theorem jw_1601 : (Jvm.Cond.instanceMethod ({ cls := "LieCandlesModel", name := "statementTold", desc := "()V" } : Jvm.MethodName)) ∈ jl_tbl := jl_inT (jl_ch7 161 (by decide +kernel)) rfl
theorem jw_1602 : (Jvm.Cond.code ({ cls := "LieCandlesModel", name := "statementTold", desc := "()V" } : Jvm.MethodName) prog_14_method_28_code (2 : Nat) (Option.none : Option Jvm.ClassFile.FieldType)) ∈ jl_tbl := jl_inT (jl_ch7 162 (rfl)) rfl
theorem jw_1603 : (Jvm.Cond.methodLink "LieCandlesModel" (380 : Nat) ({ cls := "LieCandlesModel", name := "personTold", desc := "(I)V" } : Jvm.MethodName)) ∈ jl_tbl := jl_inT (jl_ch7 163 (by decide +kernel)) rfl
theorem jw_1605 : (Jvm.Cond.instanceMethod ({ cls := "LieCandlesModel", name := "personTold", desc := "(I)V" } : Jvm.MethodName)) ∈ jl_tbl := jl_inT (jl_ch7 165 (by decide +kernel)) rfl
theorem jw_1606 : (Jvm.Cond.code ({ cls := "LieCandlesModel", name := "personTold", desc := "(I)V" } : Jvm.MethodName) prog_14_method_23_code (7 : Nat) (Option.none : Option Jvm.ClassFile.FieldType)) ∈ jl_tbl := jl_inT (jl_ch7 166 (rfl)) rfl
theorem jw_1607 : (Jvm.Cond.methodLink "LieCandlesModel" (345 : Nat) ({ cls := "LieCandlesModel", name := "isFull", desc := "(III)Z" } : Jvm.MethodName)) ∈ jl_tbl := jl_inT (jl_ch7 167 (by decide +kernel)) rfl
theorem jw_1609 : (Jvm.Cond.instanceMethod ({ cls := "LieCandlesModel", name := "isFull", desc := "(III)Z" } : Jvm.MethodName)) ∈ jl_tbl := jl_inT (jl_ch7 169 (by decide +kernel)) rfl
theorem jw_1610 : (Jvm.Cond.code ({ cls := "LieCandlesModel", name := "isFull", desc := "(III)Z" } : Jvm.MethodName) prog_14_method_19_code (4 : Nat) (Option.some Jvm.ClassFile.FieldType.boolean)) ∈ jl_tbl := jl_inT (jl_ch7 170 (rfl)) rfl
theorem jw_1611 : (Jvm.Cond.methodLink "LieCandlesModel" (349 : Nat) ({ cls := "LieCandlesModel", name := "newName", desc := "()J" } : Jvm.MethodName)) ∈ jl_tbl := jl_inT (jl_ch7 171 (by decide +kernel)) rfl
theorem jw_1613 : (Jvm.Cond.instanceMethod ({ cls := "LieCandlesModel", name := "newName", desc := "()J" } : Jvm.MethodName)) ∈ jl_tbl := jl_inT (jl_ch7 173 (by decide +kernel)) rfl
theorem jw_1614 : (Jvm.Cond.code ({ cls := "LieCandlesModel", name := "newName", desc := "()J" } : Jvm.MethodName) prog_14_method_21_code (5 : Nat) (Option.some Jvm.ClassFile.FieldType.long)) ∈ jl_tbl := jl_inT (jl_ch7 174 (rfl)) rfl
theorem jw_1615 : (Jvm.Cond.methodLink "LieCandlesModel" (341 : Nat) ({ cls := "LieCandlesModel", name := "name", desc := "()J" } : Jvm.MethodName)) ∈ jl_tbl := jl_inT (jl_ch7 175 (by decide +kernel)) rfl
theorem jw_1617 : (Jvm.Cond.instanceMethod ({ cls := "LieCandlesModel", name := "name", desc := "()J" } : Jvm.MethodName)) ∈ jl_tbl := jl_inT (jl_ch7 177 (by decide +kernel)) rfl
theorem jw_1618 : (Jvm.Cond.code ({ cls := "LieCandlesModel", name := "name", desc := "()J" } : Jvm.MethodName) prog_14_method_17_code (3 : Nat) (Option.some Jvm.ClassFile.FieldType.long)) ∈ jl_tbl := jl_inT (jl_ch7 178 (rfl)) rfl
theorem jw_1619 : (Jvm.Cond.methodLink "LieCandlesModel" (309 : Nat) ({ cls := "LieCandlesModel", name := "isOwnHere", desc := "()Z" } : Jvm.MethodName)) ∈ jl_tbl := jl_inT (jl_ch7 179 (by decide +kernel)) rfl
theorem jw_1621 : (Jvm.Cond.instanceMethod ({ cls := "LieCandlesModel", name := "isOwnHere", desc := "()Z" } : Jvm.MethodName)) ∈ jl_tbl := jl_inT (jl_ch7 181 (by decide +kernel)) rfl
theorem jw_1622 : (Jvm.Cond.code ({ cls := "LieCandlesModel", name := "isOwnHere", desc := "()Z" } : Jvm.MethodName) prog_14_method_16_code (2 : Nat) (Option.some Jvm.ClassFile.FieldType.boolean)) ∈ jl_tbl := jl_inT (jl_ch7 182 (rfl)) rfl
theorem jw_1623 : (Jvm.Cond.constantLong "LieCandlesModel" (316 : Nat) (27 : Int64)) ∈ jl_tbl := jl_inT (jl_ch7 183 (by decide +kernel)) rfl
theorem jw_1624 : (Jvm.Cond.constantLong "LieCandlesModel" (318 : Nat) (97 : Int64)) ∈ jl_tbl := jl_inT (jl_ch7 184 (by decide +kernel)) rfl
theorem jw_1625 : (Jvm.Cond.methodLink "LieCandlesModel" (383 : Nat) ({ cls := "LieCandlesModel", name := "lieTold", desc := "(I)V" } : Jvm.MethodName)) ∈ jl_tbl := jl_inT (jl_ch7 185 (by decide +kernel)) rfl
theorem jw_1627 : (Jvm.Cond.instanceMethod ({ cls := "LieCandlesModel", name := "lieTold", desc := "(I)V" } : Jvm.MethodName)) ∈ jl_tbl := jl_inT (jl_ch7 187 (by decide +kernel)) rfl
theorem jw_1628 : (Jvm.Cond.code ({ cls := "LieCandlesModel", name := "lieTold", desc := "(I)V" } : Jvm.MethodName) prog_14_method_24_code (6 : Nat) (Option.none : Option Jvm.ClassFile.FieldType)) ∈ jl_tbl := jl_inT (jl_ch7 188 (rfl)) rfl
theorem jw_1629 : (Jvm.Cond.methodLink "LieCandlesModel" (352 : Nat) ({ cls := "LieCandlesModel", name := "named", desc := "(I)I" } : Jvm.MethodName)) ∈ jl_tbl := jl_inT (jl_ch7 189 (by decide +kernel)) rfl
theorem jw_1631 : (Jvm.Cond.instanceMethod ({ cls := "LieCandlesModel", name := "named", desc := "(I)I" } : Jvm.MethodName)) ∈ jl_tbl := jl_inT (jl_ch7 191 (by decide +kernel)) rfl
theorem jw_1632 : (Jvm.Cond.code ({ cls := "LieCandlesModel", name := "named", desc := "(I)I" } : Jvm.MethodName) prog_14_method_22_code (5 : Nat) (Option.some Jvm.ClassFile.FieldType.int)) ∈ jl_tbl := jl_inT (jl_ch7 192 (rfl)) rfl
theorem jw_1633 : (Jvm.Cond.methodLink "LieCandlesModel" (386 : Nat) ({ cls := "LieCandlesModel", name := "hangsTold", desc := "()V" } : Jvm.MethodName)) ∈ jl_tbl := jl_inT (jl_ch7 193 (by decide +kernel)) rfl
theorem jw_1635 : (Jvm.Cond.instanceMethod ({ cls := "LieCandlesModel", name := "hangsTold", desc := "()V" } : Jvm.MethodName)) ∈ jl_tbl := jl_inT (jl_ch7 195 (by decide +kernel)) rfl
theorem jw_1636 : (Jvm.Cond.code ({ cls := "LieCandlesModel", name := "hangsTold", desc := "()V" } : Jvm.MethodName) prog_14_method_25_code (3 : Nat) (Option.none : Option Jvm.ClassFile.FieldType)) ∈ jl_tbl := jl_inT (jl_ch7 196 (rfl)) rfl
theorem jw_1637 : (Jvm.Cond.methodLink "LieCandlesModel" (389 : Nat) ({ cls := "LieCandlesModel", name := "lightTold", desc := "(I)V" } : Jvm.MethodName)) ∈ jl_tbl := jl_inT (jl_ch7 197 (by decide +kernel)) rfl
theorem jw_1639 : (Jvm.Cond.instanceMethod ({ cls := "LieCandlesModel", name := "lightTold", desc := "(I)V" } : Jvm.MethodName)) ∈ jl_tbl := jl_inT (jl_ch7 199 (by decide +kernel)) rfl
theorem jw_1640 : (Jvm.Cond.code ({ cls := "LieCandlesModel", name := "lightTold", desc := "(I)V" } : Jvm.MethodName) prog_14_method_26_code (6 : Nat) (Option.none : Option Jvm.ClassFile.FieldType)) ∈ jl_tbl := jl_inT (jl_ch7 200 (rfl)) rfl
theorem jw_1641 : (Jvm.Cond.methodLink "LieCandlesModel" (392 : Nat) ({ cls := "LieCandlesModel", name := "codesTold", desc := "(II)V" } : Jvm.MethodName)) ∈ jl_tbl := jl_inT (jl_ch7 201 (by decide +kernel)) rfl
theorem jw_1643 : (Jvm.Cond.instanceMethod ({ cls := "LieCandlesModel", name := "codesTold", desc := "(II)V" } : Jvm.MethodName)) ∈ jl_tbl := jl_inT (jl_ch7 203 (by decide +kernel)) rfl
theorem jw_1644 : (Jvm.Cond.code ({ cls := "LieCandlesModel", name := "codesTold", desc := "(II)V" } : Jvm.MethodName) prog_14_method_27_code (4 : Nat) (Option.none : Option Jvm.ClassFile.FieldType)) ∈ jl_tbl := jl_inT (jl_ch7 204 (rfl)) rfl
theorem jw_1645 : (Jvm.Cond.methodLink "LieCandlesModel" (368 : Nat) ({ cls := "LieCandlesModel", name := "qTest", desc := "()V" } : Jvm.MethodName)) ∈ jl_tbl := jl_inT (jl_ch7 205 (by decide +kernel)) rfl
theorem jw_1647 : (Jvm.Cond.instanceMethod ({ cls := "LieCandlesModel", name := "qTest", desc := "()V" } : Jvm.MethodName)) ∈ jl_tbl := jl_inT (jl_ch7 207 (by decide +kernel)) rfl
theorem jw_1648 : (Jvm.Cond.code ({ cls := "LieCandlesModel", name := "qTest", desc := "()V" } : Jvm.MethodName) prog_14_method_121_code (3 : Nat) (Option.none : Option Jvm.ClassFile.FieldType)) ∈ jl_tbl := jl_inT (jl_ch7 208 (rfl)) rfl
theorem jw_1649 : (Jvm.Cond.methodLink "LieCandlesModel" (622 : Nat) ({ cls := "LieCandlesModel", name := "qOpens", desc := "(II)V" } : Jvm.MethodName)) ∈ jl_tbl := jl_inT (jl_ch7 209 (by decide +kernel)) rfl
theorem jw_1651 : (Jvm.Cond.instanceMethod ({ cls := "LieCandlesModel", name := "qOpens", desc := "(II)V" } : Jvm.MethodName)) ∈ jl_tbl := jl_inT (jl_ch7 211 (by decide +kernel)) rfl
theorem jw_1652 : (Jvm.Cond.code ({ cls := "LieCandlesModel", name := "qOpens", desc := "(II)V" } : Jvm.MethodName) prog_14_method_105_code (3 : Nat) (Option.none : Option Jvm.ClassFile.FieldType)) ∈ jl_tbl := jl_inT (jl_ch7 212 (rfl)) rfl
theorem jw_1653 : (Jvm.Cond.methodLink "LieCandlesModel" (646 : Nat) ({ cls := "LieCandlesModel", name := "qFact", desc := "()V" } : Jvm.MethodName)) ∈ jl_tbl := jl_inT (jl_ch7 213 (by decide +kernel)) rfl
theorem jw_1655 : (Jvm.Cond.instanceMethod ({ cls := "LieCandlesModel", name := "qFact", desc := "()V" } : Jvm.MethodName)) ∈ jl_tbl := jl_inT (jl_ch7 215 (by decide +kernel)) rfl
theorem jw_1656 : (Jvm.Cond.code ({ cls := "LieCandlesModel", name := "qFact", desc := "()V" } : Jvm.MethodName) prog_14_method_118_code (2 : Nat) (Option.none : Option Jvm.ClassFile.FieldType)) ∈ jl_tbl := jl_inT (jl_ch7 216 (rfl)) rfl
theorem jw_1657 : (Jvm.Cond.methodLink "LieCandlesModel" (604 : Nat) ({ cls := "LieCandlesModel", name := "qCode", desc := "(I)V" } : Jvm.MethodName)) ∈ jl_tbl := jl_inT (jl_ch7 217 (by decide +kernel)) rfl
theorem jw_1659 : (Jvm.Cond.instanceMethod ({ cls := "LieCandlesModel", name := "qCode", desc := "(I)V" } : Jvm.MethodName)) ∈ jl_tbl := jl_inT (jl_ch7 219 (by decide +kernel)) rfl
theorem jw_1660 : (Jvm.Cond.code ({ cls := "LieCandlesModel", name := "qCode", desc := "(I)V" } : Jvm.MethodName) prog_14_method_104_code (2 : Nat) (Option.none : Option Jvm.ClassFile.FieldType)) ∈ jl_tbl := jl_inT (jl_ch7 220 (rfl)) rfl
theorem jw_1661 : (Jvm.Cond.methodLink "LieCandlesModel" (371 : Nat) ({ cls := "LieCandlesModel", name := "qSums", desc := "()V" } : Jvm.MethodName)) ∈ jl_tbl := jl_inT (jl_ch7 221 (by decide +kernel)) rfl
theorem jw_1663 : (Jvm.Cond.instanceMethod ({ cls := "LieCandlesModel", name := "qSums", desc := "()V" } : Jvm.MethodName)) ∈ jl_tbl := jl_inT (jl_ch7 223 (by decide +kernel)) rfl
theorem jw_1664 : (Jvm.Cond.code ({ cls := "LieCandlesModel", name := "qSums", desc := "()V" } : Jvm.MethodName) prog_14_method_117_code (3 : Nat) (Option.none : Option Jvm.ClassFile.FieldType)) ∈ jl_tbl := jl_inT (jl_ch7 224 (rfl)) rfl
theorem jw_1665 : (Jvm.Cond.methodLink "LieCandlesModel" (640 : Nat) ({ cls := "LieCandlesModel", name := "qPartTold", desc := "()V" } : Jvm.MethodName)) ∈ jl_tbl := jl_inT (jl_ch7 225 (by decide +kernel)) rfl
theorem jw_1667 : (Jvm.Cond.instanceMethod ({ cls := "LieCandlesModel", name := "qPartTold", desc := "()V" } : Jvm.MethodName)) ∈ jl_tbl := jl_inT (jl_ch7 227 (by decide +kernel)) rfl
theorem jw_1668 : (Jvm.Cond.code ({ cls := "LieCandlesModel", name := "qPartTold", desc := "()V" } : Jvm.MethodName) prog_14_method_115_code (6 : Nat) (Option.none : Option Jvm.ClassFile.FieldType)) ∈ jl_tbl := jl_inT (jl_ch7 228 (rfl)) rfl
theorem jw_1669 : (Jvm.Cond.methodLink "LieCandlesModel" (619 : Nat) ({ cls := "LieCandlesModel", name := "qWordOf", desc := "(II)I" } : Jvm.MethodName)) ∈ jl_tbl := jl_inT (jl_ch7 229 (by decide +kernel)) rfl
theorem jw_1671 : (Jvm.Cond.instanceMethod ({ cls := "LieCandlesModel", name := "qWordOf", desc := "(II)I" } : Jvm.MethodName)) ∈ jl_tbl := jl_inT (jl_ch7 231 (by decide +kernel)) rfl
theorem jw_1672 : (Jvm.Cond.code ({ cls := "LieCandlesModel", name := "qWordOf", desc := "(II)I" } : Jvm.MethodName) prog_14_method_112_code (4 : Nat) (Option.some Jvm.ClassFile.FieldType.int)) ∈ jl_tbl := jl_inT (jl_ch7 232 (rfl)) rfl
theorem jw_1673 : (Jvm.Cond.methodLink "LieCandlesModel" (613 : Nat) ({ cls := "LieCandlesModel", name := "qWordHere", desc := "()I" } : Jvm.MethodName)) ∈ jl_tbl := jl_inT (jl_ch7 233 (by decide +kernel)) rfl
theorem jw_1675 : (Jvm.Cond.instanceMethod ({ cls := "LieCandlesModel", name := "qWordHere", desc := "()I" } : Jvm.MethodName)) ∈ jl_tbl := jl_inT (jl_ch7 235 (by decide +kernel)) rfl
theorem jw_1676 : (Jvm.Cond.code ({ cls := "LieCandlesModel", name := "qWordHere", desc := "()I" } : Jvm.MethodName) prog_14_method_111_code (1 : Nat) (Option.some Jvm.ClassFile.FieldType.int)) ∈ jl_tbl := jl_inT (jl_ch7 236 (rfl)) rfl
theorem jw_1677 : (Jvm.Cond.methodLink "LieCandlesModel" (616 : Nat) ({ cls := "LieCandlesModel", name := "isAllowed", desc := "(I)Z" } : Jvm.MethodName)) ∈ jl_tbl := jl_inT (jl_ch7 237 (by decide +kernel)) rfl
theorem jw_1679 : (Jvm.Cond.instanceMethod ({ cls := "LieCandlesModel", name := "isAllowed", desc := "(I)Z" } : Jvm.MethodName)) ∈ jl_tbl := jl_inT (jl_ch7 239 (by decide +kernel)) rfl
theorem jw_1680 : (Jvm.Cond.code ({ cls := "LieCandlesModel", name := "isAllowed", desc := "(I)Z" } : Jvm.MethodName) prog_14_method_18_code (2 : Nat) (Option.some Jvm.ClassFile.FieldType.boolean)) ∈ jl_tbl := jl_inT (jl_ch8 0 (rfl)) rfl
theorem jw_1681 : (Jvm.Cond.constantLong "LieCandlesModel" (323 : Nat) (2 : Int64)) ∈ jl_tbl := jl_inT (jl_ch8 1 (by decide +kernel)) rfl
theorem jw_1682 : (Jvm.Cond.constantLong "LieCandlesModel" (325 : Nat) (5 : Int64)) ∈ jl_tbl := jl_inT (jl_ch8 2 (by decide +kernel)) rfl
theorem jw_1683 : (Jvm.Cond.constantLong "LieCandlesModel" (327 : Nat) (6 : Int64)) ∈ jl_tbl := jl_inT (jl_ch8 3 (by decide +kernel)) rfl
theorem jw_1684 : (Jvm.Cond.methodLink "LieCandlesModel" (625 : Nat) ({ cls := "LieCandlesModel", name := "qAsksWord", desc := "(I)V" } : Jvm.MethodName)) ∈ jl_tbl := jl_inT (jl_ch8 4 (by decide +kernel)) rfl
theorem jw_1686 : (Jvm.Cond.instanceMethod ({ cls := "LieCandlesModel", name := "qAsksWord", desc := "(I)V" } : Jvm.MethodName)) ∈ jl_tbl := jl_inT (jl_ch8 6 (by decide +kernel)) rfl
theorem jw_1687 : (Jvm.Cond.code ({ cls := "LieCandlesModel", name := "qAsksWord", desc := "(I)V" } : Jvm.MethodName) prog_14_method_113_code (2 : Nat) (Option.none : Option Jvm.ClassFile.FieldType)) ∈ jl_tbl := jl_inT (jl_ch8 7 (rfl)) rfl
theorem jw_1688 : (Jvm.Cond.methodLink "LieCandlesModel" (628 : Nat) ({ cls := "LieCandlesModel", name := "qEndsPart", desc := "()V" } : Jvm.MethodName)) ∈ jl_tbl := jl_inT (jl_ch8 8 (by decide +kernel)) rfl
theorem jw_1690 : (Jvm.Cond.instanceMethod ({ cls := "LieCandlesModel", name := "qEndsPart", desc := "()V" } : Jvm.MethodName)) ∈ jl_tbl := jl_inT (jl_ch8 10 (by decide +kernel)) rfl
theorem jw_1691 : (Jvm.Cond.code ({ cls := "LieCandlesModel", name := "qEndsPart", desc := "()V" } : Jvm.MethodName) prog_14_method_114_code (1 : Nat) (Option.none : Option Jvm.ClassFile.FieldType)) ∈ jl_tbl := jl_inT (jl_ch8 11 (rfl)) rfl
theorem jw_1692 : (Jvm.Cond.methodLink "LieCandlesModel" (610 : Nat) ({ cls := "LieCandlesModel", name := "qDrops", desc := "()V" } : Jvm.MethodName)) ∈ jl_tbl := jl_inT (jl_ch8 12 (by decide +kernel)) rfl
theorem jw_1694 : (Jvm.Cond.instanceMethod ({ cls := "LieCandlesModel", name := "qDrops", desc := "()V" } : Jvm.MethodName)) ∈ jl_tbl := jl_inT (jl_ch8 14 (by decide +kernel)) rfl
theorem jw_1695 : (Jvm.Cond.code ({ cls := "LieCandlesModel", name := "qDrops", desc := "()V" } : Jvm.MethodName) prog_14_method_107_code (1 : Nat) (Option.none : Option Jvm.ClassFile.FieldType)) ∈ jl_tbl := jl_inT (jl_ch8 15 (rfl)) rfl
theorem jw_1696 : (Jvm.Cond.methodLink "LieCandlesModel" (643 : Nat) ({ cls := "LieCandlesModel", name := "qGoesOn", desc := "()Z" } : Jvm.MethodName)) ∈ jl_tbl := jl_inT (jl_ch8 16 (by decide +kernel)) rfl
theorem jw_1698 : (Jvm.Cond.instanceMethod ({ cls := "LieCandlesModel", name := "qGoesOn", desc := "()Z" } : Jvm.MethodName)) ∈ jl_tbl := jl_inT (jl_ch8 18 (by decide +kernel)) rfl
theorem jw_1699 : (Jvm.Cond.code ({ cls := "LieCandlesModel", name := "qGoesOn", desc := "()Z" } : Jvm.MethodName) prog_14_method_116_code (2 : Nat) (Option.some Jvm.ClassFile.FieldType.boolean)) ∈ jl_tbl := jl_inT (jl_ch8 19 (rfl)) rfl
theorem jw_1700 : (Jvm.Cond.methodLink "LieCandlesModel" (631 : Nat) ({ cls := "LieCandlesModel", name := "qBracket", desc := "()I" } : Jvm.MethodName)) ∈ jl_tbl := jl_inT (jl_ch8 20 (by decide +kernel)) rfl
theorem jw_1702 : (Jvm.Cond.instanceMethod ({ cls := "LieCandlesModel", name := "qBracket", desc := "()I" } : Jvm.MethodName)) ∈ jl_tbl := jl_inT (jl_ch8 22 (by decide +kernel)) rfl
theorem jw_1703 : (Jvm.Cond.code ({ cls := "LieCandlesModel", name := "qBracket", desc := "()I" } : Jvm.MethodName) prog_14_method_109_code (2 : Nat) (Option.some Jvm.ClassFile.FieldType.int)) ∈ jl_tbl := jl_inT (jl_ch8 23 (rfl)) rfl
theorem jw_1704 : (Jvm.Cond.methodLink "LieCandlesModel" (607 : Nat) ({ cls := "LieCandlesModel", name := "qIsBracket", desc := "(I)Z" } : Jvm.MethodName)) ∈ jl_tbl := jl_inT (jl_ch8 24 (by decide +kernel)) rfl
theorem jw_1705 : (Jvm.Cond.static ({ cls := "LieCandlesModel", name := "qIsBracket", desc := "(I)Z" } : Jvm.MethodName)) ∈ jl_tbl := jl_inT (jl_ch8 25 (by decide +kernel)) rfl
theorem jw_1706 : (Jvm.Cond.code ({ cls := "LieCandlesModel", name := "qIsBracket", desc := "(I)Z" } : Jvm.MethodName) prog_14_method_108_code (1 : Nat) (Option.some Jvm.ClassFile.FieldType.boolean)) ∈ jl_tbl := jl_inT (jl_ch8 26 (rfl)) rfl
theorem jw_1707 : (Jvm.Cond.methodLink "LieCandlesModel" (634 : Nat) ({ cls := "LieCandlesModel", name := "qDropsToBracket", desc := "()V" } : Jvm.MethodName)) ∈ jl_tbl := jl_inT (jl_ch8 27 (by decide +kernel)) rfl
theorem jw_1709 : (Jvm.Cond.instanceMethod ({ cls := "LieCandlesModel", name := "qDropsToBracket", desc := "()V" } : Jvm.MethodName)) ∈ jl_tbl := jl_inT (jl_ch8 29 (by decide +kernel)) rfl
theorem jw_1710 : (Jvm.Cond.code ({ cls := "LieCandlesModel", name := "qDropsToBracket", desc := "()V" } : Jvm.MethodName) prog_14_method_110_code (1 : Nat) (Option.none : Option Jvm.ClassFile.FieldType)) ∈ jl_tbl := jl_inT (jl_ch8 30 (rfl)) rfl
theorem jw_1711 : (Jvm.Cond.methodLink "LieCandlesModel" (637 : Nat) ({ cls := "LieCandlesModel", name := "qIsOn", desc := "(I)Z" } : Jvm.MethodName)) ∈ jl_tbl := jl_inT (jl_ch8 31 (by decide +kernel)) rfl
theorem jw_1713 : (Jvm.Cond.instanceMethod ({ cls := "LieCandlesModel", name := "qIsOn", desc := "(I)Z" } : Jvm.MethodName)) ∈ jl_tbl := jl_inT (jl_ch8 33 (by decide +kernel)) rfl
theorem jw_1714 : (Jvm.Cond.code ({ cls := "LieCandlesModel", name := "qIsOn", desc := "(I)Z" } : Jvm.MethodName) prog_14_method_106_code (2 : Nat) (Option.some Jvm.ClassFile.FieldType.boolean)) ∈ jl_tbl := jl_inT (jl_ch8 34 (rfl)) rfl
theorem jw_1715 : (Jvm.Cond.methodLink "LieCandlesModel" (649 : Nat) ({ cls := "LieCandlesModel", name := "qDropsNots", desc := "()V" } : Jvm.MethodName)) ∈ jl_tbl := jl_inT (jl_ch8 35 (by decide +kernel)) rfl
theorem jw_1717 : (Jvm.Cond.instanceMethod ({ cls := "LieCandlesModel", name := "qDropsNots", desc := "()V" } : Jvm.MethodName)) ∈ jl_tbl := jl_inT (jl_ch8 37 (by decide +kernel)) rfl
theorem jw_1718 : (Jvm.Cond.code ({ cls := "LieCandlesModel", name := "qDropsNots", desc := "()V" } : Jvm.MethodName) prog_14_method_120_code (1 : Nat) (Option.none : Option Jvm.ClassFile.FieldType)) ∈ jl_tbl := jl_inT (jl_ch8 38 (rfl)) rfl
theorem jw_1719 : (Jvm.Cond.methodLink "LieCandlesModel" (652 : Nat) ({ cls := "LieCandlesModel", name := "qGoesOnTest", desc := "()Z" } : Jvm.MethodName)) ∈ jl_tbl := jl_inT (jl_ch8 39 (by decide +kernel)) rfl
theorem jw_1721 : (Jvm.Cond.instanceMethod ({ cls := "LieCandlesModel", name := "qGoesOnTest", desc := "()Z" } : Jvm.MethodName)) ∈ jl_tbl := jl_inT (jl_ch8 41 (by decide +kernel)) rfl
theorem jw_1722 : (Jvm.Cond.code ({ cls := "LieCandlesModel", name := "qGoesOnTest", desc := "()Z" } : Jvm.MethodName) prog_14_method_122_code (1 : Nat) (Option.some Jvm.ClassFile.FieldType.boolean)) ∈ jl_tbl := jl_inT (jl_ch8 42 (rfl)) rfl
theorem jw_1723 : (Jvm.Cond.methodLink "LieCandlesModel" (655 : Nat) ({ cls := "LieCandlesModel", name := "qHasSquare", desc := "()Z" } : Jvm.MethodName)) ∈ jl_tbl := jl_inT (jl_ch8 43 (by decide +kernel)) rfl
theorem jw_1725 : (Jvm.Cond.instanceMethod ({ cls := "LieCandlesModel", name := "qHasSquare", desc := "()Z" } : Jvm.MethodName)) ∈ jl_tbl := jl_inT (jl_ch8 45 (by decide +kernel)) rfl
theorem jw_1726 : (Jvm.Cond.code ({ cls := "LieCandlesModel", name := "qHasSquare", desc := "()Z" } : Jvm.MethodName) prog_14_method_119_code (2 : Nat) (Option.some Jvm.ClassFile.FieldType.boolean)) ∈ jl_tbl := jl_inT (jl_ch8 46 (rfl)) rfl
theorem jw_1727 : (Jvm.Cond.methodLink "LieCandlesModel" (404 : Nat) ({ cls := "LieCandlesModel", name := "refuses", desc := "(I)I" } : Jvm.MethodName)) ∈ jl_tbl := jl_inT (jl_ch8 47 (by decide +kernel)) rfl
theorem jw_1729 : (Jvm.Cond.instanceMethod ({ cls := "LieCandlesModel", name := "refuses", desc := "(I)I" } : Jvm.MethodName)) ∈ jl_tbl := jl_inT (jl_ch8 49 (by decide +kernel)) rfl
theorem jw_1730 : (Jvm.Cond.code ({ cls := "LieCandlesModel", name := "refuses", desc := "(I)I" } : Jvm.MethodName) prog_14_method_94_code (2 : Nat) (Option.some Jvm.ClassFile.FieldType.int)) ∈ jl_tbl := jl_inT (jl_ch8 50 (rfl)) rfl
theorem jw_1731 : (Jvm.Cond.methodLink "LieCandlesModel" (407 : Nat) ({ cls := "LieCandlesModel", name := "stands", desc := "()V" } : Jvm.MethodName)) ∈ jl_tbl := jl_inT (jl_ch8 51 (by decide +kernel)) rfl
theorem jw_1733 : (Jvm.Cond.instanceMethod ({ cls := "LieCandlesModel", name := "stands", desc := "()V" } : Jvm.MethodName)) ∈ jl_tbl := jl_inT (jl_ch8 53 (by decide +kernel)) rfl
theorem jw_1734 : (Jvm.Cond.code ({ cls := "LieCandlesModel", name := "stands", desc := "()V" } : Jvm.MethodName) prog_14_method_30_code (2 : Nat) (Option.none : Option Jvm.ClassFile.FieldType)) ∈ jl_tbl := jl_inT (jl_ch8 54 (rfl)) rfl
theorem jw_1735 : (Jvm.Cond.methodLink "LieCandlesLaw" (32 : Nat) ({ cls := "LieCandlesModel", name := "fault", desc := "(I)I" } : Jvm.MethodName)) ∈ jl_tbl := jl_inT (jl_ch8 55 (by decide +kernel)) rfl
theorem jw_1736 : (Jvm.Cond.instanceMethod ({ cls := "LieCandlesModel", name := "fault", desc := "(I)I" } : Jvm.MethodName)) ∈ jl_tbl := jl_inT (jl_ch8 56 (by decide +kernel)) rfl
theorem jw_1737 : (Jvm.Cond.selects "LieCandlesModel" ({ cls := "LieCandlesModel", name := "fault", desc := "(I)I" } : Jvm.MethodName) ({ cls := "LieCandlesModel", name := "fault", desc := "(I)I" } : Jvm.MethodName)) ∈ jl_tbl := jl_inT (jl_ch8 57 (by decide +kernel)) rfl
theorem jw_1738 : (Jvm.Cond.code ({ cls := "LieCandlesModel", name := "fault", desc := "(I)I" } : Jvm.MethodName) prog_14_method_31_code (2 : Nat) (Option.some Jvm.ClassFile.FieldType.int)) ∈ jl_tbl := jl_inT (jl_ch8 58 (rfl)) rfl
theorem jw_1739 : (Jvm.Cond.methodLink "LieCandlesLaw" (36 : Nat) ({ cls := "LieCandlesModel", name := "has", desc := "(I)I" } : Jvm.MethodName)) ∈ jl_tbl := jl_inT (jl_ch8 59 (by decide +kernel)) rfl
theorem jw_1740 : (Jvm.Cond.instanceMethod ({ cls := "LieCandlesModel", name := "has", desc := "(I)I" } : Jvm.MethodName)) ∈ jl_tbl := jl_inT (jl_ch8 60 (by decide +kernel)) rfl
theorem jw_1741 : (Jvm.Cond.selects "LieCandlesModel" ({ cls := "LieCandlesModel", name := "has", desc := "(I)I" } : Jvm.MethodName) ({ cls := "LieCandlesModel", name := "has", desc := "(I)I" } : Jvm.MethodName)) ∈ jl_tbl := jl_inT (jl_ch8 61 (by decide +kernel)) rfl
theorem jw_1742 : (Jvm.Cond.code ({ cls := "LieCandlesModel", name := "has", desc := "(I)I" } : Jvm.MethodName) prog_14_method_65_code (2 : Nat) (Option.some Jvm.ClassFile.FieldType.int)) ∈ jl_tbl := jl_inT (jl_ch8 62 (rfl)) rfl
theorem jw_1743 : (Jvm.Cond.methodLink "LieCandlesModel" (420 : Nat) ({ cls := "LieCandlesModel", name := "windowMany", desc := "()I" } : Jvm.MethodName)) ∈ jl_tbl := jl_inT (jl_ch8 63 (by decide +kernel)) rfl
theorem jw_1745 : (Jvm.Cond.instanceMethod ({ cls := "LieCandlesModel", name := "windowMany", desc := "()I" } : Jvm.MethodName)) ∈ jl_tbl := jl_inT (jl_ch8 65 (by decide +kernel)) rfl
theorem jw_1746 : (Jvm.Cond.code ({ cls := "LieCandlesModel", name := "windowMany", desc := "()I" } : Jvm.MethodName) prog_14_method_32_code (1 : Nat) (Option.some Jvm.ClassFile.FieldType.int)) ∈ jl_tbl := jl_inT (jl_ch8 66 (rfl)) rfl
theorem jw_1747 : (Jvm.Cond.methodLink "LieCandlesModel" (423 : Nat) ({ cls := "LieCandlesModel", name := "personMany", desc := "()I" } : Jvm.MethodName)) ∈ jl_tbl := jl_inT (jl_ch8 67 (by decide +kernel)) rfl
theorem jw_1749 : (Jvm.Cond.instanceMethod ({ cls := "LieCandlesModel", name := "personMany", desc := "()I" } : Jvm.MethodName)) ∈ jl_tbl := jl_inT (jl_ch8 69 (by decide +kernel)) rfl
theorem jw_1750 : (Jvm.Cond.code ({ cls := "LieCandlesModel", name := "personMany", desc := "()I" } : Jvm.MethodName) prog_14_method_33_code (1 : Nat) (Option.some Jvm.ClassFile.FieldType.int)) ∈ jl_tbl := jl_inT (jl_ch8 70 (rfl)) rfl
theorem jw_1751 : (Jvm.Cond.methodLink "LieCandlesModel" (426 : Nat) ({ cls := "LieCandlesModel", name := "lieMany", desc := "()I" } : Jvm.MethodName)) ∈ jl_tbl := jl_inT (jl_ch8 71 (by decide +kernel)) rfl
theorem jw_1753 : (Jvm.Cond.instanceMethod ({ cls := "LieCandlesModel", name := "lieMany", desc := "()I" } : Jvm.MethodName)) ∈ jl_tbl := jl_inT (jl_ch8 73 (by decide +kernel)) rfl
theorem jw_1754 : (Jvm.Cond.code ({ cls := "LieCandlesModel", name := "lieMany", desc := "()I" } : Jvm.MethodName) prog_14_method_34_code (1 : Nat) (Option.some Jvm.ClassFile.FieldType.int)) ∈ jl_tbl := jl_inT (jl_ch8 74 (rfl)) rfl
theorem jw_1755 : (Jvm.Cond.methodLink "LieCandlesModel" (495 : Nat) ({ cls := "LieCandlesModel", name := "planMany", desc := "()I" } : Jvm.MethodName)) ∈ jl_tbl := jl_inT (jl_ch8 75 (by decide +kernel)) rfl
theorem jw_1757 : (Jvm.Cond.instanceMethod ({ cls := "LieCandlesModel", name := "planMany", desc := "()I" } : Jvm.MethodName)) ∈ jl_tbl := jl_inT (jl_ch8 77 (by decide +kernel)) rfl
theorem jw_1758 : (Jvm.Cond.code ({ cls := "LieCandlesModel", name := "planMany", desc := "()I" } : Jvm.MethodName) prog_14_method_35_code (1 : Nat) (Option.some Jvm.ClassFile.FieldType.int)) ∈ jl_tbl := jl_inT (jl_ch8 78 (rfl)) rfl
theorem jw_1759 : (Jvm.Cond.methodLink "LieCandlesModel" (516 : Nat) ({ cls := "LieCandlesModel", name := "litMany", desc := "()I" } : Jvm.MethodName)) ∈ jl_tbl := jl_inT (jl_ch8 79 (by decide +kernel)) rfl
theorem jw_1761 : (Jvm.Cond.instanceMethod ({ cls := "LieCandlesModel", name := "litMany", desc := "()I" } : Jvm.MethodName)) ∈ jl_tbl := jl_inT (jl_ch8 81 (by decide +kernel)) rfl
theorem jw_1762 : (Jvm.Cond.code ({ cls := "LieCandlesModel", name := "litMany", desc := "()I" } : Jvm.MethodName) prog_14_method_64_code (3 : Nat) (Option.some Jvm.ClassFile.FieldType.int)) ∈ jl_tbl := jl_inT (jl_ch8 82 (rfl)) rfl
theorem jw_1763 : (Jvm.Cond.methodLink "LieCandlesModel" (432 : Nat) ({ cls := "LieCandlesModel", name := "isLit", desc := "(I)Z" } : Jvm.MethodName)) ∈ jl_tbl := jl_inT (jl_ch8 83 (by decide +kernel)) rfl
theorem jw_1765 : (Jvm.Cond.instanceMethod ({ cls := "LieCandlesModel", name := "isLit", desc := "(I)Z" } : Jvm.MethodName)) ∈ jl_tbl := jl_inT (jl_ch8 85 (by decide +kernel)) rfl
theorem jw_1766 : (Jvm.Cond.code ({ cls := "LieCandlesModel", name := "isLit", desc := "(I)Z" } : Jvm.MethodName) prog_14_method_42_code (2 : Nat) (Option.some Jvm.ClassFile.FieldType.boolean)) ∈ jl_tbl := jl_inT (jl_ch8 86 (rfl)) rfl
theorem jw_1767 : (Jvm.Cond.methodLink "LieCandlesModel" (480 : Nat) ({ cls := "LieCandlesModel", name := "laysHeld", desc := "()I" } : Jvm.MethodName)) ∈ jl_tbl := jl_inT (jl_ch8 87 (by decide +kernel)) rfl
theorem jw_1769 : (Jvm.Cond.instanceMethod ({ cls := "LieCandlesModel", name := "laysHeld", desc := "()I" } : Jvm.MethodName)) ∈ jl_tbl := jl_inT (jl_ch8 89 (by decide +kernel)) rfl
theorem jw_1770 : (Jvm.Cond.code ({ cls := "LieCandlesModel", name := "laysHeld", desc := "()I" } : Jvm.MethodName) prog_14_method_49_code (3 : Nat) (Option.some Jvm.ClassFile.FieldType.int)) ∈ jl_tbl := jl_inT (jl_ch8 90 (rfl)) rfl
theorem jw_1771 : (Jvm.Cond.methodLink "LieCandlesModel" (471 : Nat) ({ cls := "LieCandlesModel", name := "laysDrafts", desc := "()V" } : Jvm.MethodName)) ∈ jl_tbl := jl_inT (jl_ch8 91 (by decide +kernel)) rfl
theorem jw_1773 : (Jvm.Cond.instanceMethod ({ cls := "LieCandlesModel", name := "laysDrafts", desc := "()V" } : Jvm.MethodName)) ∈ jl_tbl := jl_inT (jl_ch8 93 (by decide +kernel)) rfl
theorem jw_1774 : (Jvm.Cond.code ({ cls := "LieCandlesModel", name := "laysDrafts", desc := "()V" } : Jvm.MethodName) prog_14_method_48_code (2 : Nat) (Option.none : Option Jvm.ClassFile.FieldType)) ∈ jl_tbl := jl_inT (jl_ch8 94 (rfl)) rfl
theorem jw_1775 : (Jvm.Cond.methodLink "LieCandlesModel" (468 : Nat) ({ cls := "LieCandlesModel", name := "draftAt", desc := "(I)I" } : Jvm.MethodName)) ∈ jl_tbl := jl_inT (jl_ch8 95 (by decide +kernel)) rfl
theorem jw_1777 : (Jvm.Cond.instanceMethod ({ cls := "LieCandlesModel", name := "draftAt", desc := "(I)I" } : Jvm.MethodName)) ∈ jl_tbl := jl_inT (jl_ch8 97 (by decide +kernel)) rfl
theorem jw_1778 : (Jvm.Cond.code ({ cls := "LieCandlesModel", name := "draftAt", desc := "(I)I" } : Jvm.MethodName) prog_14_method_47_code (2 : Nat) (Option.some Jvm.ClassFile.FieldType.int)) ∈ jl_tbl := jl_inT (jl_ch8 98 (rfl)) rfl
theorem jw_1779 : (Jvm.Cond.methodLink "LieCandlesModel" (454 : Nat) ({ cls := "LieCandlesModel", name := "isCoded", desc := "(I)Z" } : Jvm.MethodName)) ∈ jl_tbl := jl_inT (jl_ch8 99 (by decide +kernel)) rfl
theorem jw_1781 : (Jvm.Cond.instanceMethod ({ cls := "LieCandlesModel", name := "isCoded", desc := "(I)Z" } : Jvm.MethodName)) ∈ jl_tbl := jl_inT (jl_ch8 101 (by decide +kernel)) rfl
theorem jw_1782 : (Jvm.Cond.code ({ cls := "LieCandlesModel", name := "isCoded", desc := "(I)Z" } : Jvm.MethodName) prog_14_method_45_code (2 : Nat) (Option.some Jvm.ClassFile.FieldType.boolean)) ∈ jl_tbl := jl_inT (jl_ch8 102 (rfl)) rfl
theorem jw_1783 : (Jvm.Cond.methodLink "LieCandlesModel" (460 : Nat) ({ cls := "LieCandlesModel", name := "codesTell", desc := "(I)J" } : Jvm.MethodName)) ∈ jl_tbl := jl_inT (jl_ch8 103 (by decide +kernel)) rfl
theorem jw_1785 : (Jvm.Cond.instanceMethod ({ cls := "LieCandlesModel", name := "codesTell", desc := "(I)J" } : Jvm.MethodName)) ∈ jl_tbl := jl_inT (jl_ch8 105 (by decide +kernel)) rfl
theorem jw_1786 : (Jvm.Cond.code ({ cls := "LieCandlesModel", name := "codesTell", desc := "(I)J" } : Jvm.MethodName) prog_14_method_46_code (4 : Nat) (Option.some Jvm.ClassFile.FieldType.long)) ∈ jl_tbl := jl_inT (jl_ch8 106 (rfl)) rfl
theorem jw_1787 : (Jvm.Cond.methodLink "LieCandlesModel" (443 : Nat) ({ cls := "LieCandlesModel", name := "qPuts", desc := "(J)V" } : Jvm.MethodName)) ∈ jl_tbl := jl_inT (jl_ch8 107 (by decide +kernel)) rfl
theorem jw_1789 : (Jvm.Cond.instanceMethod ({ cls := "LieCandlesModel", name := "qPuts", desc := "(J)V" } : Jvm.MethodName)) ∈ jl_tbl := jl_inT (jl_ch8 109 (by decide +kernel)) rfl
theorem jw_1790 : (Jvm.Cond.code ({ cls := "LieCandlesModel", name := "qPuts", desc := "(J)V" } : Jvm.MethodName) prog_14_method_125_code (3 : Nat) (Option.none : Option Jvm.ClassFile.FieldType)) ∈ jl_tbl := jl_inT (jl_ch8 110 (rfl)) rfl
theorem jw_1791 : (Jvm.Cond.methodLink "LieCandlesModel" (447 : Nat) ({ cls := "LieCandlesModel", name := "qPartOf", desc := "(II)J" } : Jvm.MethodName)) ∈ jl_tbl := jl_inT (jl_ch8 111 (by decide +kernel)) rfl
theorem jw_1793 : (Jvm.Cond.instanceMethod ({ cls := "LieCandlesModel", name := "qPartOf", desc := "(II)J" } : Jvm.MethodName)) ∈ jl_tbl := jl_inT (jl_ch8 113 (by decide +kernel)) rfl
theorem jw_1794 : (Jvm.Cond.code ({ cls := "LieCandlesModel", name := "qPartOf", desc := "(II)J" } : Jvm.MethodName) prog_14_method_127_code (3 : Nat) (Option.some Jvm.ClassFile.FieldType.long)) ∈ jl_tbl := jl_inT (jl_ch8 114 (rfl)) rfl
theorem jw_1795 : (Jvm.Cond.methodLink "LieCandlesModel" (498 : Nat) ({ cls := "LieCandlesModel", name := "nearTo", desc := "(I)I" } : Jvm.MethodName)) ∈ jl_tbl := jl_inT (jl_ch8 115 (by decide +kernel)) rfl
theorem jw_1797 : (Jvm.Cond.instanceMethod ({ cls := "LieCandlesModel", name := "nearTo", desc := "(I)I" } : Jvm.MethodName)) ∈ jl_tbl := jl_inT (jl_ch8 117 (by decide +kernel)) rfl
theorem jw_1798 : (Jvm.Cond.code ({ cls := "LieCandlesModel", name := "nearTo", desc := "(I)I" } : Jvm.MethodName) prog_14_method_44_code (4 : Nat) (Option.some Jvm.ClassFile.FieldType.int)) ∈ jl_tbl := jl_inT (jl_ch8 118 (rfl)) rfl
theorem jw_1799 : (Jvm.Cond.methodLink "LieCandlesModel" (435 : Nat) ({ cls := "LieCandlesModel", name := "windowOf", desc := "(I)I" } : Jvm.MethodName)) ∈ jl_tbl := jl_inT (jl_ch8 119 (by decide +kernel)) rfl
theorem jw_1801 : (Jvm.Cond.instanceMethod ({ cls := "LieCandlesModel", name := "windowOf", desc := "(I)I" } : Jvm.MethodName)) ∈ jl_tbl := jl_inT (jl_ch8 121 (by decide +kernel)) rfl
theorem jw_1802 : (Jvm.Cond.code ({ cls := "LieCandlesModel", name := "windowOf", desc := "(I)I" } : Jvm.MethodName) prog_14_method_41_code (2 : Nat) (Option.some Jvm.ClassFile.FieldType.int)) ∈ jl_tbl := jl_inT (jl_ch8 122 (rfl)) rfl
theorem jw_1803 : (Jvm.Cond.methodLink "LieCandlesModel" (429 : Nat) ({ cls := "LieCandlesModel", name := "personOf", desc := "(I)I" } : Jvm.MethodName)) ∈ jl_tbl := jl_inT (jl_ch8 123 (by decide +kernel)) rfl
theorem jw_1805 : (Jvm.Cond.instanceMethod ({ cls := "LieCandlesModel", name := "personOf", desc := "(I)I" } : Jvm.MethodName)) ∈ jl_tbl := jl_inT (jl_ch8 125 (by decide +kernel)) rfl
theorem jw_1806 : (Jvm.Cond.code ({ cls := "LieCandlesModel", name := "personOf", desc := "(I)I" } : Jvm.MethodName) prog_14_method_39_code (2 : Nat) (Option.some Jvm.ClassFile.FieldType.int)) ∈ jl_tbl := jl_inT (jl_ch8 126 (rfl)) rfl
theorem jw_1807 : (Jvm.Cond.constantLong "LieCandlesModel" (438 : Nat) (-1 : Int64)) ∈ jl_tbl := jl_inT (jl_ch8 127 (by decide +kernel)) rfl
theorem jw_1808 : (Jvm.Cond.methodLink "LieCandlesModel" (451 : Nat) ({ cls := "LieCandlesModel", name := "qJoins", desc := "(I)V" } : Jvm.MethodName)) ∈ jl_tbl := jl_inT (jl_ch8 128 (by decide +kernel)) rfl
theorem jw_1810 : (Jvm.Cond.instanceMethod ({ cls := "LieCandlesModel", name := "qJoins", desc := "(I)V" } : Jvm.MethodName)) ∈ jl_tbl := jl_inT (jl_ch8 130 (by decide +kernel)) rfl
theorem jw_1811 : (Jvm.Cond.code ({ cls := "LieCandlesModel", name := "qJoins", desc := "(I)V" } : Jvm.MethodName) prog_14_method_126_code (6 : Nat) (Option.none : Option Jvm.ClassFile.FieldType)) ∈ jl_tbl := jl_inT (jl_ch8 131 (rfl)) rfl
theorem jw_1812 : (Jvm.Cond.methodLink "LieCandlesModel" (662 : Nat) ({ cls := "LieCandlesModel", name := "qClip", desc := "(J)J" } : Jvm.MethodName)) ∈ jl_tbl := jl_inT (jl_ch8 132 (by decide +kernel)) rfl
theorem jw_1813 : (Jvm.Cond.static ({ cls := "LieCandlesModel", name := "qClip", desc := "(J)J" } : Jvm.MethodName)) ∈ jl_tbl := jl_inT (jl_ch8 133 (by decide +kernel)) rfl
theorem jw_1814 : (Jvm.Cond.code ({ cls := "LieCandlesModel", name := "qClip", desc := "(J)J" } : Jvm.MethodName) prog_14_method_123_code (2 : Nat) (Option.some Jvm.ClassFile.FieldType.long)) ∈ jl_tbl := jl_inT (jl_ch8 134 (rfl)) rfl
theorem jw_1815 : (Jvm.Cond.constantLong "LieCandlesModel" (658 : Nat) (1000000 : Int64)) ∈ jl_tbl := jl_inT (jl_ch8 135 (by decide +kernel)) rfl
theorem jw_1816 : (Jvm.Cond.constantLong "LieCandlesModel" (660 : Nat) (-1000000 : Int64)) ∈ jl_tbl := jl_inT (jl_ch8 136 (by decide +kernel)) rfl
theorem jw_1817 : (Jvm.Cond.methodLink "LieCandlesModel" (666 : Nat) ({ cls := "LieCandlesModel", name := "qFloor", desc := "(JJ)J" } : Jvm.MethodName)) ∈ jl_tbl := jl_inT (jl_ch8 137 (by decide +kernel)) rfl
theorem jw_1818 : (Jvm.Cond.static ({ cls := "LieCandlesModel", name := "qFloor", desc := "(JJ)J" } : Jvm.MethodName)) ∈ jl_tbl := jl_inT (jl_ch8 138 (by decide +kernel)) rfl
theorem jw_1819 : (Jvm.Cond.code ({ cls := "LieCandlesModel", name := "qFloor", desc := "(JJ)J" } : Jvm.MethodName) prog_14_method_124_code (6 : Nat) (Option.some Jvm.ClassFile.FieldType.long)) ∈ jl_tbl := jl_inT (jl_ch8 139 (rfl)) rfl
theorem jw_1820 : (Jvm.Cond.methodLink "LieCandlesModel" (464 : Nat) ({ cls := "LieCandlesModel", name := "clamp", desc := "(JI)I" } : Jvm.MethodName)) ∈ jl_tbl := jl_inT (jl_ch8 140 (by decide +kernel)) rfl
theorem jw_1821 : (Jvm.Cond.static ({ cls := "LieCandlesModel", name := "clamp", desc := "(JI)I" } : Jvm.MethodName)) ∈ jl_tbl := jl_inT (jl_ch8 141 (by decide +kernel)) rfl
theorem jw_1822 : (Jvm.Cond.code ({ cls := "LieCandlesModel", name := "clamp", desc := "(JI)I" } : Jvm.MethodName) prog_14_method_3_code (3 : Nat) (Option.some Jvm.ClassFile.FieldType.int)) ∈ jl_tbl := jl_inT (jl_ch8 142 (rfl)) rfl
theorem jw_1823 : (Jvm.Cond.methodLink "LieCandlesModel" (474 : Nat) ({ cls := "LieCandlesModel", name := "hangsOn", desc := "(I)I" } : Jvm.MethodName)) ∈ jl_tbl := jl_inT (jl_ch8 143 (by decide +kernel)) rfl
theorem jw_1825 : (Jvm.Cond.instanceMethod ({ cls := "LieCandlesModel", name := "hangsOn", desc := "(I)I" } : Jvm.MethodName)) ∈ jl_tbl := jl_inT (jl_ch8 145 (by decide +kernel)) rfl
theorem jw_1826 : (Jvm.Cond.code ({ cls := "LieCandlesModel", name := "hangsOn", desc := "(I)I" } : Jvm.MethodName) prog_14_method_40_code (2 : Nat) (Option.some Jvm.ClassFile.FieldType.int)) ∈ jl_tbl := jl_inT (jl_ch8 146 (rfl)) rfl
theorem jw_1827 : (Jvm.Cond.methodLink "LieCandlesModel" (519 : Nat) ({ cls := "LieCandlesModel", name := "bits", desc := "(I)I" } : Jvm.MethodName)) ∈ jl_tbl := jl_inT (jl_ch8 147 (by decide +kernel)) rfl
theorem jw_1828 : (Jvm.Cond.static ({ cls := "LieCandlesModel", name := "bits", desc := "(I)I" } : Jvm.MethodName)) ∈ jl_tbl := jl_inT (jl_ch8 148 (by decide +kernel)) rfl
theorem jw_1829 : (Jvm.Cond.code ({ cls := "LieCandlesModel", name := "bits", desc := "(I)I" } : Jvm.MethodName) prog_14_method_51_code (3 : Nat) (Option.some Jvm.ClassFile.FieldType.int)) ∈ jl_tbl := jl_inT (jl_ch8 149 (rfl)) rfl
theorem jw_1830 : (Jvm.Cond.methodLink "LieCandlesLaw" (41 : Nat) ({ cls := "LieCandlesModel", name := "letter", desc := "(III)I" } : Jvm.MethodName)) ∈ jl_tbl := jl_inT (jl_ch8 150 (by decide +kernel)) rfl
theorem jw_1831 : (Jvm.Cond.instanceMethod ({ cls := "LieCandlesModel", name := "letter", desc := "(III)I" } : Jvm.MethodName)) ∈ jl_tbl := jl_inT (jl_ch8 151 (by decide +kernel)) rfl
theorem jw_1832 : (Jvm.Cond.selects "LieCandlesModel" ({ cls := "LieCandlesModel", name := "letter", desc := "(III)I" } : Jvm.MethodName) ({ cls := "LieCandlesModel", name := "letter", desc := "(III)I" } : Jvm.MethodName)) ∈ jl_tbl := jl_inT (jl_ch8 152 (by decide +kernel)) rfl
theorem jw_1833 : (Jvm.Cond.code ({ cls := "LieCandlesModel", name := "letter", desc := "(III)I" } : Jvm.MethodName) prog_14_method_66_code (9 : Nat) (Option.some Jvm.ClassFile.FieldType.int)) ∈ jl_tbl := jl_inT (jl_ch8 153 (rfl)) rfl
theorem jw_1834 : (Jvm.Cond.methodLink "LieCandlesLaw" (46 : Nat) ({ cls := "LieCandlesModel", name := "person", desc := "(II)I" } : Jvm.MethodName)) ∈ jl_tbl := jl_inT (jl_ch8 154 (by decide +kernel)) rfl
theorem jw_1835 : (Jvm.Cond.instanceMethod ({ cls := "LieCandlesModel", name := "person", desc := "(II)I" } : Jvm.MethodName)) ∈ jl_tbl := jl_inT (jl_ch8 155 (by decide +kernel)) rfl
theorem jw_1836 : (Jvm.Cond.selects "LieCandlesModel" ({ cls := "LieCandlesModel", name := "person", desc := "(II)I" } : Jvm.MethodName) ({ cls := "LieCandlesModel", name := "person", desc := "(II)I" } : Jvm.MethodName)) ∈ jl_tbl := jl_inT (jl_ch8 156 (by decide +kernel)) rfl
theorem jw_1837 : (Jvm.Cond.code ({ cls := "LieCandlesModel", name := "person", desc := "(II)I" } : Jvm.MethodName) prog_14_method_68_code (3 : Nat) (Option.some Jvm.ClassFile.FieldType.int)) ∈ jl_tbl := jl_inT (jl_ch8 157 (rfl)) rfl
theorem jw_1838 : (Jvm.Cond.methodLink "LieCandlesModel" (522 : Nat) ({ cls := "LieCandlesModel", name := "isPerson", desc := "(I)Z" } : Jvm.MethodName)) ∈ jl_tbl := jl_inT (jl_ch8 158 (by decide +kernel)) rfl
theorem jw_1840 : (Jvm.Cond.instanceMethod ({ cls := "LieCandlesModel", name := "isPerson", desc := "(I)Z" } : Jvm.MethodName)) ∈ jl_tbl := jl_inT (jl_ch8 160 (by decide +kernel)) rfl
theorem jw_1841 : (Jvm.Cond.code ({ cls := "LieCandlesModel", name := "isPerson", desc := "(I)Z" } : Jvm.MethodName) prog_14_method_37_code (2 : Nat) (Option.some Jvm.ClassFile.FieldType.boolean)) ∈ jl_tbl := jl_inT (jl_ch8 161 (rfl)) rfl
theorem jw_1842 : (Jvm.Cond.methodLink "LieCandlesModel" (525 : Nat) ({ cls := "LieCandlesModel", name := "litOf", desc := "(I)I" } : Jvm.MethodName)) ∈ jl_tbl := jl_inT (jl_ch8 162 (by decide +kernel)) rfl
theorem jw_1844 : (Jvm.Cond.instanceMethod ({ cls := "LieCandlesModel", name := "litOf", desc := "(I)I" } : Jvm.MethodName)) ∈ jl_tbl := jl_inT (jl_ch8 164 (by decide +kernel)) rfl
theorem jw_1845 : (Jvm.Cond.code ({ cls := "LieCandlesModel", name := "litOf", desc := "(I)I" } : Jvm.MethodName) prog_14_method_67_code (4 : Nat) (Option.some Jvm.ClassFile.FieldType.int)) ∈ jl_tbl := jl_inT (jl_ch8 165 (rfl)) rfl
theorem jw_1846 : (Jvm.Cond.methodLink "LieCandlesLaw" (50 : Nat) ({ cls := "LieCandlesModel", name := "lie", desc := "(II)I" } : Jvm.MethodName)) ∈ jl_tbl := jl_inT (jl_ch8 166 (by decide +kernel)) rfl
theorem jw_1847 : (Jvm.Cond.instanceMethod ({ cls := "LieCandlesModel", name := "lie", desc := "(II)I" } : Jvm.MethodName)) ∈ jl_tbl := jl_inT (jl_ch8 167 (by decide +kernel)) rfl
theorem jw_1848 : (Jvm.Cond.selects "LieCandlesModel" ({ cls := "LieCandlesModel", name := "lie", desc := "(II)I" } : Jvm.MethodName) ({ cls := "LieCandlesModel", name := "lie", desc := "(II)I" } : Jvm.MethodName)) ∈ jl_tbl := jl_inT (jl_ch8 168 (by decide +kernel)) rfl
theorem jw_1849 : (Jvm.Cond.code ({ cls := "LieCandlesModel", name := "lie", desc := "(II)I" } : Jvm.MethodName) prog_14_method_70_code (3 : Nat) (Option.some Jvm.ClassFile.FieldType.int)) ∈ jl_tbl := jl_inT (jl_ch8 169 (rfl)) rfl
theorem jw_1850 : (Jvm.Cond.methodLink "LieCandlesModel" (528 : Nat) ({ cls := "LieCandlesModel", name := "isLie", desc := "(J)Z" } : Jvm.MethodName)) ∈ jl_tbl := jl_inT (jl_ch8 170 (by decide +kernel)) rfl
theorem jw_1852 : (Jvm.Cond.instanceMethod ({ cls := "LieCandlesModel", name := "isLie", desc := "(J)Z" } : Jvm.MethodName)) ∈ jl_tbl := jl_inT (jl_ch8 172 (by decide +kernel)) rfl
theorem jw_1853 : (Jvm.Cond.code ({ cls := "LieCandlesModel", name := "isLie", desc := "(J)Z" } : Jvm.MethodName) prog_14_method_38_code (3 : Nat) (Option.some Jvm.ClassFile.FieldType.boolean)) ∈ jl_tbl := jl_inT (jl_ch8 173 (rfl)) rfl
theorem jw_1854 : (Jvm.Cond.methodLink "LieCandlesModel" (532 : Nat) ({ cls := "LieCandlesModel", name := "isHeld", desc := "(I)Z" } : Jvm.MethodName)) ∈ jl_tbl := jl_inT (jl_ch8 174 (by decide +kernel)) rfl
theorem jw_1856 : (Jvm.Cond.instanceMethod ({ cls := "LieCandlesModel", name := "isHeld", desc := "(I)Z" } : Jvm.MethodName)) ∈ jl_tbl := jl_inT (jl_ch8 176 (by decide +kernel)) rfl
theorem jw_1857 : (Jvm.Cond.code ({ cls := "LieCandlesModel", name := "isHeld", desc := "(I)Z" } : Jvm.MethodName) prog_14_method_50_code (2 : Nat) (Option.some Jvm.ClassFile.FieldType.boolean)) ∈ jl_tbl := jl_inT (jl_ch8 177 (rfl)) rfl
theorem jw_1858 : (Jvm.Cond.methodLink "LieCandlesModel" (535 : Nat) ({ cls := "LieCandlesModel", name := "hangingOn", desc := "(I)I" } : Jvm.MethodName)) ∈ jl_tbl := jl_inT (jl_ch8 178 (by decide +kernel)) rfl
theorem jw_1860 : (Jvm.Cond.instanceMethod ({ cls := "LieCandlesModel", name := "hangingOn", desc := "(I)I" } : Jvm.MethodName)) ∈ jl_tbl := jl_inT (jl_ch8 180 (by decide +kernel)) rfl
theorem jw_1861 : (Jvm.Cond.code ({ cls := "LieCandlesModel", name := "hangingOn", desc := "(I)I" } : Jvm.MethodName) prog_14_method_69_code (4 : Nat) (Option.some Jvm.ClassFile.FieldType.int)) ∈ jl_tbl := jl_inT (jl_ch8 181 (rfl)) rfl
theorem jw_1862 : (Jvm.Cond.methodLink "LieCandlesLaw" (54 : Nat) ({ cls := "LieCandlesModel", name := "draft", desc := "(II)I" } : Jvm.MethodName)) ∈ jl_tbl := jl_inT (jl_ch8 182 (by decide +kernel)) rfl
theorem jw_1863 : (Jvm.Cond.instanceMethod ({ cls := "LieCandlesModel", name := "draft", desc := "(II)I" } : Jvm.MethodName)) ∈ jl_tbl := jl_inT (jl_ch8 183 (by decide +kernel)) rfl
theorem jw_1864 : (Jvm.Cond.selects "LieCandlesModel" ({ cls := "LieCandlesModel", name := "draft", desc := "(II)I" } : Jvm.MethodName) ({ cls := "LieCandlesModel", name := "draft", desc := "(II)I" } : Jvm.MethodName)) ∈ jl_tbl := jl_inT (jl_ch8 184 (by decide +kernel)) rfl
theorem jw_1865 : (Jvm.Cond.code ({ cls := "LieCandlesModel", name := "draft", desc := "(II)I" } : Jvm.MethodName) prog_14_method_71_code (4 : Nat) (Option.some Jvm.ClassFile.FieldType.int)) ∈ jl_tbl := jl_inT (jl_ch8 185 (rfl)) rfl
theorem jw_1866 : (Jvm.Cond.methodLink "LieCandlesModel" (538 : Nat) ({ cls := "LieCandlesModel", name := "isWindow", desc := "(J)Z" } : Jvm.MethodName)) ∈ jl_tbl := jl_inT (jl_ch8 186 (by decide +kernel)) rfl
theorem jw_1868 : (Jvm.Cond.instanceMethod ({ cls := "LieCandlesModel", name := "isWindow", desc := "(J)Z" } : Jvm.MethodName)) ∈ jl_tbl := jl_inT (jl_ch8 188 (by decide +kernel)) rfl
theorem jw_1869 : (Jvm.Cond.code ({ cls := "LieCandlesModel", name := "isWindow", desc := "(J)Z" } : Jvm.MethodName) prog_14_method_36_code (3 : Nat) (Option.some Jvm.ClassFile.FieldType.boolean)) ∈ jl_tbl := jl_inT (jl_ch8 189 (rfl)) rfl
theorem jw_1870 : (Jvm.Cond.methodLink "LieCandlesModel" (541 : Nat) ({ cls := "LieCandlesModel", name := "isAhead", desc := "(III)Z" } : Jvm.MethodName)) ∈ jl_tbl := jl_inT (jl_ch8 190 (by decide +kernel)) rfl
theorem jw_1872 : (Jvm.Cond.instanceMethod ({ cls := "LieCandlesModel", name := "isAhead", desc := "(III)Z" } : Jvm.MethodName)) ∈ jl_tbl := jl_inT (jl_ch8 192 (by decide +kernel)) rfl
theorem jw_1873 : (Jvm.Cond.code ({ cls := "LieCandlesModel", name := "isAhead", desc := "(III)Z" } : Jvm.MethodName) prog_14_method_63_code (4 : Nat) (Option.some Jvm.ClassFile.FieldType.boolean)) ∈ jl_tbl := jl_inT (jl_ch8 193 (rfl)) rfl
theorem jw_1874 : (Jvm.Cond.methodLink "LieCandlesLaw" (58 : Nat) ({ cls := "LieCandlesModel", name := "plan", desc := "(II)I" } : Jvm.MethodName)) ∈ jl_tbl := jl_inT (jl_ch8 194 (by decide +kernel)) rfl
theorem jw_1875 : (Jvm.Cond.instanceMethod ({ cls := "LieCandlesModel", name := "plan", desc := "(II)I" } : Jvm.MethodName)) ∈ jl_tbl := jl_inT (jl_ch8 195 (by decide +kernel)) rfl
theorem jw_1876 : (Jvm.Cond.selects "LieCandlesModel" ({ cls := "LieCandlesModel", name := "plan", desc := "(II)I" } : Jvm.MethodName) ({ cls := "LieCandlesModel", name := "plan", desc := "(II)I" } : Jvm.MethodName)) ∈ jl_tbl := jl_inT (jl_ch8 196 (by decide +kernel)) rfl
theorem jw_1877 : (Jvm.Cond.code ({ cls := "LieCandlesModel", name := "plan", desc := "(II)I" } : Jvm.MethodName) prog_14_method_72_code (3 : Nat) (Option.some Jvm.ClassFile.FieldType.int)) ∈ jl_tbl := jl_inT (jl_ch8 197 (rfl)) rfl
theorem jw_1878 : (Jvm.Cond.methodLink "LieCandlesLaw" (62 : Nat) ({ cls := "LieCandlesModel", name := "kept", desc := "(II)I" } : Jvm.MethodName)) ∈ jl_tbl := jl_inT (jl_ch8 198 (by decide +kernel)) rfl
theorem jw_1879 : (Jvm.Cond.instanceMethod ({ cls := "LieCandlesModel", name := "kept", desc := "(II)I" } : Jvm.MethodName)) ∈ jl_tbl := jl_inT (jl_ch8 199 (by decide +kernel)) rfl
theorem jw_1880 : (Jvm.Cond.selects "LieCandlesModel" ({ cls := "LieCandlesModel", name := "kept", desc := "(II)I" } : Jvm.MethodName) ({ cls := "LieCandlesModel", name := "kept", desc := "(II)I" } : Jvm.MethodName)) ∈ jl_tbl := jl_inT (jl_ch8 200 (by decide +kernel)) rfl
theorem jw_1881 : (Jvm.Cond.code ({ cls := "LieCandlesModel", name := "kept", desc := "(II)I" } : Jvm.MethodName) prog_14_method_73_code (3 : Nat) (Option.some Jvm.ClassFile.FieldType.int)) ∈ jl_tbl := jl_inT (jl_ch8 201 (rfl)) rfl
theorem jw_1882 : (Jvm.Cond.methodLink "LieCandlesLaw" (66 : Nat) ({ cls := "LieCandlesModel", name := "later", desc := "(II)I" } : Jvm.MethodName)) ∈ jl_tbl := jl_inT (jl_ch8 202 (by decide +kernel)) rfl
theorem jw_1883 : (Jvm.Cond.instanceMethod ({ cls := "LieCandlesModel", name := "later", desc := "(II)I" } : Jvm.MethodName)) ∈ jl_tbl := jl_inT (jl_ch8 203 (by decide +kernel)) rfl
theorem jw_1884 : (Jvm.Cond.selects "LieCandlesModel" ({ cls := "LieCandlesModel", name := "later", desc := "(II)I" } : Jvm.MethodName) ({ cls := "LieCandlesModel", name := "later", desc := "(II)I" } : Jvm.MethodName)) ∈ jl_tbl := jl_inT (jl_ch8 204 (by decide +kernel)) rfl
theorem jw_1885 : (Jvm.Cond.code ({ cls := "LieCandlesModel", name := "later", desc := "(II)I" } : Jvm.MethodName) prog_14_method_74_code (4 : Nat) (Option.some Jvm.ClassFile.FieldType.int)) ∈ jl_tbl := jl_inT (jl_ch8 205 (rfl)) rfl
theorem jw_1886 : (Jvm.Cond.methodLink "LieCandlesModel" (544 : Nat) ({ cls := "LieCandlesModel", name := "putsAside", desc := "()V" } : Jvm.MethodName)) ∈ jl_tbl := jl_inT (jl_ch8 206 (by decide +kernel)) rfl
theorem jw_1888 : (Jvm.Cond.instanceMethod ({ cls := "LieCandlesModel", name := "putsAside", desc := "()V" } : Jvm.MethodName)) ∈ jl_tbl := jl_inT (jl_ch8 208 (by decide +kernel)) rfl
theorem jw_1889 : (Jvm.Cond.code ({ cls := "LieCandlesModel", name := "putsAside", desc := "()V" } : Jvm.MethodName) prog_14_method_60_code (2 : Nat) (Option.none : Option Jvm.ClassFile.FieldType)) ∈ jl_tbl := jl_inT (jl_ch8 209 (rfl)) rfl
theorem jw_1890 : (Jvm.Cond.methodLink "LieCandlesModel" (547 : Nat) ({ cls := "LieCandlesModel", name := "hoursGo", desc := "(I)V" } : Jvm.MethodName)) ∈ jl_tbl := jl_inT (jl_ch8 210 (by decide +kernel)) rfl
theorem jw_1892 : (Jvm.Cond.instanceMethod ({ cls := "LieCandlesModel", name := "hoursGo", desc := "(I)V" } : Jvm.MethodName)) ∈ jl_tbl := jl_inT (jl_ch8 212 (by decide +kernel)) rfl
theorem jw_1893 : (Jvm.Cond.code ({ cls := "LieCandlesModel", name := "hoursGo", desc := "(I)V" } : Jvm.MethodName) prog_14_method_58_code (3 : Nat) (Option.none : Option Jvm.ClassFile.FieldType)) ∈ jl_tbl := jl_inT (jl_ch8 213 (rfl)) rfl
theorem jw_1894 : (Jvm.Cond.methodLink "LieCandlesModel" (510 : Nat) ({ cls := "LieCandlesModel", name := "hourGoes", desc := "()V" } : Jvm.MethodName)) ∈ jl_tbl := jl_inT (jl_ch8 214 (by decide +kernel)) rfl
theorem jw_1896 : (Jvm.Cond.instanceMethod ({ cls := "LieCandlesModel", name := "hourGoes", desc := "()V" } : Jvm.MethodName)) ∈ jl_tbl := jl_inT (jl_ch8 216 (by decide +kernel)) rfl
theorem jw_1897 : (Jvm.Cond.code ({ cls := "LieCandlesModel", name := "hourGoes", desc := "()V" } : Jvm.MethodName) prog_14_method_57_code (2 : Nat) (Option.none : Option Jvm.ClassFile.FieldType)) ∈ jl_tbl := jl_inT (jl_ch8 217 (rfl)) rfl
theorem jw_1898 : (Jvm.Cond.methodLink "LieCandlesModel" (501 : Nat) ({ cls := "LieCandlesModel", name := "planGoes", desc := "()V" } : Jvm.MethodName)) ∈ jl_tbl := jl_inT (jl_ch8 218 (by decide +kernel)) rfl
theorem jw_1900 : (Jvm.Cond.instanceMethod ({ cls := "LieCandlesModel", name := "planGoes", desc := "()V" } : Jvm.MethodName)) ∈ jl_tbl := jl_inT (jl_ch8 220 (by decide +kernel)) rfl
theorem jw_1901 : (Jvm.Cond.code ({ cls := "LieCandlesModel", name := "planGoes", desc := "()V" } : Jvm.MethodName) prog_14_method_55_code (4 : Nat) (Option.none : Option Jvm.ClassFile.FieldType)) ∈ jl_tbl := jl_inT (jl_ch8 221 (rfl)) rfl
theorem jw_1902 : (Jvm.Cond.methodLink "LieCandlesModel" (504 : Nat) ({ cls := "LieCandlesModel", name := "burnt", desc := "(I)I" } : Jvm.MethodName)) ∈ jl_tbl := jl_inT (jl_ch8 222 (by decide +kernel)) rfl
theorem jw_1904 : (Jvm.Cond.instanceMethod ({ cls := "LieCandlesModel", name := "burnt", desc := "(I)I" } : Jvm.MethodName)) ∈ jl_tbl := jl_inT (jl_ch8 224 (by decide +kernel)) rfl
theorem jw_1905 : (Jvm.Cond.code ({ cls := "LieCandlesModel", name := "burnt", desc := "(I)I" } : Jvm.MethodName) prog_14_method_56_code (2 : Nat) (Option.some Jvm.ClassFile.FieldType.int)) ∈ jl_tbl := jl_inT (jl_ch8 225 (rfl)) rfl
theorem jw_1906 : (Jvm.Cond.methodLink "LieCandlesModel" (507 : Nat) ({ cls := "LieCandlesModel", name := "goesOut", desc := "(I)V" } : Jvm.MethodName)) ∈ jl_tbl := jl_inT (jl_ch8 226 (by decide +kernel)) rfl
theorem jw_1908 : (Jvm.Cond.instanceMethod ({ cls := "LieCandlesModel", name := "goesOut", desc := "(I)V" } : Jvm.MethodName)) ∈ jl_tbl := jl_inT (jl_ch8 228 (by decide +kernel)) rfl
theorem jw_1909 : (Jvm.Cond.code ({ cls := "LieCandlesModel", name := "goesOut", desc := "(I)V" } : Jvm.MethodName) prog_14_method_54_code (2 : Nat) (Option.none : Option Jvm.ClassFile.FieldType)) ∈ jl_tbl := jl_inT (jl_ch8 229 (rfl)) rfl
theorem jw_1910 : (Jvm.Cond.methodLink "LieCandlesModel" (486 : Nat) ({ cls := "LieCandlesModel", name := "darkens", desc := "(I)V" } : Jvm.MethodName)) ∈ jl_tbl := jl_inT (jl_ch8 230 (by decide +kernel)) rfl
theorem jw_1912 : (Jvm.Cond.instanceMethod ({ cls := "LieCandlesModel", name := "darkens", desc := "(I)V" } : Jvm.MethodName)) ∈ jl_tbl := jl_inT (jl_ch8 232 (by decide +kernel)) rfl
theorem jw_1913 : (Jvm.Cond.code ({ cls := "LieCandlesModel", name := "darkens", desc := "(I)V" } : Jvm.MethodName) prog_14_method_53_code (2 : Nat) (Option.none : Option Jvm.ClassFile.FieldType)) ∈ jl_tbl := jl_inT (jl_ch8 233 (rfl)) rfl
theorem jw_1914 : (Jvm.Cond.methodLink "LieCandlesModel" (489 : Nat) ({ cls := "LieCandlesModel", name := "isKept", desc := "(I)V" } : Jvm.MethodName)) ∈ jl_tbl := jl_inT (jl_ch8 234 (by decide +kernel)) rfl
theorem jw_1916 : (Jvm.Cond.instanceMethod ({ cls := "LieCandlesModel", name := "isKept", desc := "(I)V" } : Jvm.MethodName)) ∈ jl_tbl := jl_inT (jl_ch8 236 (by decide +kernel)) rfl
theorem jw_1917 : (Jvm.Cond.code ({ cls := "LieCandlesModel", name := "isKept", desc := "(I)V" } : Jvm.MethodName) prog_14_method_52_code (3 : Nat) (Option.none : Option Jvm.ClassFile.FieldType)) ∈ jl_tbl := jl_inT (jl_ch8 237 (rfl)) rfl
theorem jw_1918 : (Jvm.Cond.methodLink "LieCandlesModel" (550 : Nat) ({ cls := "LieCandlesModel", name := "takesBack", desc := "()V" } : Jvm.MethodName)) ∈ jl_tbl := jl_inT (jl_ch8 238 (by decide +kernel)) rfl
theorem jw_1920 : (Jvm.Cond.instanceMethod ({ cls := "LieCandlesModel", name := "takesBack", desc := "()V" } : Jvm.MethodName)) ∈ jl_tbl := jl_inT (jl_ch9 0 (by decide +kernel)) rfl
theorem jw_1921 : (Jvm.Cond.code ({ cls := "LieCandlesModel", name := "takesBack", desc := "()V" } : Jvm.MethodName) prog_14_method_62_code (1 : Nat) (Option.none : Option Jvm.ClassFile.FieldType)) ∈ jl_tbl := jl_inT (jl_ch9 1 (rfl)) rfl
theorem jw_1922 : (Jvm.Cond.methodLink "LieCandlesModel" (513 : Nat) ({ cls := "LieCandlesModel", name := "triesAnew", desc := "()V" } : Jvm.MethodName)) ∈ jl_tbl := jl_inT (jl_ch9 2 (by decide +kernel)) rfl
theorem jw_1924 : (Jvm.Cond.instanceMethod ({ cls := "LieCandlesModel", name := "triesAnew", desc := "()V" } : Jvm.MethodName)) ∈ jl_tbl := jl_inT (jl_ch9 4 (by decide +kernel)) rfl
theorem jw_1925 : (Jvm.Cond.code ({ cls := "LieCandlesModel", name := "triesAnew", desc := "()V" } : Jvm.MethodName) prog_14_method_61_code (2 : Nat) (Option.none : Option Jvm.ClassFile.FieldType)) ∈ jl_tbl := jl_inT (jl_ch9 5 (rfl)) rfl
theorem jw_1926 : (Jvm.Cond.methodLink "LieCandlesLaw" (70 : Nat) ({ cls := "LieCandlesModel", name := "held", desc := "(II)I" } : Jvm.MethodName)) ∈ jl_tbl := jl_inT (jl_ch9 6 (by decide +kernel)) rfl
theorem jw_1927 : (Jvm.Cond.instanceMethod ({ cls := "LieCandlesModel", name := "held", desc := "(II)I" } : Jvm.MethodName)) ∈ jl_tbl := jl_inT (jl_ch9 7 (by decide +kernel)) rfl
theorem jw_1928 : (Jvm.Cond.selects "LieCandlesModel" ({ cls := "LieCandlesModel", name := "held", desc := "(II)I" } : Jvm.MethodName) ({ cls := "LieCandlesModel", name := "held", desc := "(II)I" } : Jvm.MethodName)) ∈ jl_tbl := jl_inT (jl_ch9 8 (by decide +kernel)) rfl
theorem jw_1929 : (Jvm.Cond.code ({ cls := "LieCandlesModel", name := "held", desc := "(II)I" } : Jvm.MethodName) prog_14_method_75_code (4 : Nat) (Option.some Jvm.ClassFile.FieldType.int)) ∈ jl_tbl := jl_inT (jl_ch9 9 (rfl)) rfl
theorem jw_1930 : (Jvm.Cond.methodLink "LieCandlesLaw" (74 : Nat) ({ cls := "LieCandlesModel", name := "out", desc := "(I)I" } : Jvm.MethodName)) ∈ jl_tbl := jl_inT (jl_ch9 10 (by decide +kernel)) rfl
theorem jw_1931 : (Jvm.Cond.instanceMethod ({ cls := "LieCandlesModel", name := "out", desc := "(I)I" } : Jvm.MethodName)) ∈ jl_tbl := jl_inT (jl_ch9 11 (by decide +kernel)) rfl
theorem jw_1932 : (Jvm.Cond.selects "LieCandlesModel" ({ cls := "LieCandlesModel", name := "out", desc := "(I)I" } : Jvm.MethodName) ({ cls := "LieCandlesModel", name := "out", desc := "(I)I" } : Jvm.MethodName)) ∈ jl_tbl := jl_inT (jl_ch9 12 (by decide +kernel)) rfl
theorem jw_1933 : (Jvm.Cond.code ({ cls := "LieCandlesModel", name := "out", desc := "(I)I" } : Jvm.MethodName) prog_14_method_76_code (4 : Nat) (Option.some Jvm.ClassFile.FieldType.int)) ∈ jl_tbl := jl_inT (jl_ch9 13 (rfl)) rfl
theorem jw_1934 : (Jvm.Cond.methodLink "LieCandlesLaw" (78 : Nat) ({ cls := "LieCandlesModel", name := "trusted", desc := "(II)I" } : Jvm.MethodName)) ∈ jl_tbl := jl_inT (jl_ch9 14 (by decide +kernel)) rfl
theorem jw_1935 : (Jvm.Cond.instanceMethod ({ cls := "LieCandlesModel", name := "trusted", desc := "(II)I" } : Jvm.MethodName)) ∈ jl_tbl := jl_inT (jl_ch9 15 (by decide +kernel)) rfl
theorem jw_1936 : (Jvm.Cond.selects "LieCandlesModel" ({ cls := "LieCandlesModel", name := "trusted", desc := "(II)I" } : Jvm.MethodName) ({ cls := "LieCandlesModel", name := "trusted", desc := "(II)I" } : Jvm.MethodName)) ∈ jl_tbl := jl_inT (jl_ch9 16 (by decide +kernel)) rfl
theorem jw_1937 : (Jvm.Cond.code ({ cls := "LieCandlesModel", name := "trusted", desc := "(II)I" } : Jvm.MethodName) prog_14_method_77_code (7 : Nat) (Option.some Jvm.ClassFile.FieldType.int)) ∈ jl_tbl := jl_inT (jl_ch9 17 (rfl)) rfl
theorem jw_1938 : (Jvm.Cond.methodLink "LieCandlesLaw" (82 : Nat) ({ cls := "LieCandlesModel", name := "shorts", desc := "(II)I" } : Jvm.MethodName)) ∈ jl_tbl := jl_inT (jl_ch9 18 (by decide +kernel)) rfl
theorem jw_1939 : (Jvm.Cond.instanceMethod ({ cls := "LieCandlesModel", name := "shorts", desc := "(II)I" } : Jvm.MethodName)) ∈ jl_tbl := jl_inT (jl_ch9 19 (by decide +kernel)) rfl
theorem jw_1940 : (Jvm.Cond.selects "LieCandlesModel" ({ cls := "LieCandlesModel", name := "shorts", desc := "(II)I" } : Jvm.MethodName) ({ cls := "LieCandlesModel", name := "shorts", desc := "(II)I" } : Jvm.MethodName)) ∈ jl_tbl := jl_inT (jl_ch9 20 (by decide +kernel)) rfl
theorem jw_1941 : (Jvm.Cond.code ({ cls := "LieCandlesModel", name := "shorts", desc := "(II)I" } : Jvm.MethodName) prog_14_method_80_code (3 : Nat) (Option.some Jvm.ClassFile.FieldType.int)) ∈ jl_tbl := jl_inT (jl_ch9 21 (rfl)) rfl
theorem jw_1942 : (Jvm.Cond.methodLink "LieCandlesModel" (556 : Nat) ({ cls := "LieCandlesModel", name := "leastFor", desc := "(II)I" } : Jvm.MethodName)) ∈ jl_tbl := jl_inT (jl_ch9 22 (by decide +kernel)) rfl
theorem jw_1944 : (Jvm.Cond.instanceMethod ({ cls := "LieCandlesModel", name := "leastFor", desc := "(II)I" } : Jvm.MethodName)) ∈ jl_tbl := jl_inT (jl_ch9 24 (by decide +kernel)) rfl
theorem jw_1945 : (Jvm.Cond.code ({ cls := "LieCandlesModel", name := "leastFor", desc := "(II)I" } : Jvm.MethodName) prog_14_method_79_code (5 : Nat) (Option.some Jvm.ClassFile.FieldType.int)) ∈ jl_tbl := jl_inT (jl_ch9 25 (rfl)) rfl
theorem jw_1946 : (Jvm.Cond.methodLink "LieCandlesModel" (553 : Nat) ({ cls := "LieCandlesModel", name := "isEnough", desc := "(III)Z" } : Jvm.MethodName)) ∈ jl_tbl := jl_inT (jl_ch9 26 (by decide +kernel)) rfl
theorem jw_1948 : (Jvm.Cond.instanceMethod ({ cls := "LieCandlesModel", name := "isEnough", desc := "(III)Z" } : Jvm.MethodName)) ∈ jl_tbl := jl_inT (jl_ch9 28 (by decide +kernel)) rfl
theorem jw_1949 : (Jvm.Cond.code ({ cls := "LieCandlesModel", name := "isEnough", desc := "(III)Z" } : Jvm.MethodName) prog_14_method_78_code (5 : Nat) (Option.some Jvm.ClassFile.FieldType.boolean)) ∈ jl_tbl := jl_inT (jl_ch9 29 (rfl)) rfl
theorem jw_1950 : (Jvm.Cond.methodLink "LieCandlesLaw" (86 : Nat) ({ cls := "LieCandlesModel", name := "together", desc := "(II)I" } : Jvm.MethodName)) ∈ jl_tbl := jl_inT (jl_ch9 30 (by decide +kernel)) rfl
theorem jw_1951 : (Jvm.Cond.instanceMethod ({ cls := "LieCandlesModel", name := "together", desc := "(II)I" } : Jvm.MethodName)) ∈ jl_tbl := jl_inT (jl_ch9 31 (by decide +kernel)) rfl
theorem jw_1952 : (Jvm.Cond.selects "LieCandlesModel" ({ cls := "LieCandlesModel", name := "together", desc := "(II)I" } : Jvm.MethodName) ({ cls := "LieCandlesModel", name := "together", desc := "(II)I" } : Jvm.MethodName)) ∈ jl_tbl := jl_inT (jl_ch9 32 (by decide +kernel)) rfl
theorem jw_1953 : (Jvm.Cond.code ({ cls := "LieCandlesModel", name := "together", desc := "(II)I" } : Jvm.MethodName) prog_14_method_81_code (3 : Nat) (Option.some Jvm.ClassFile.FieldType.int)) ∈ jl_tbl := jl_inT (jl_ch9 33 (rfl)) rfl
theorem jw_1954 : (Jvm.Cond.methodLink "LieCandlesLaw" (90 : Nat) ({ cls := "LieCandlesModel", name := "keystone", desc := "(II)I" } : Jvm.MethodName)) ∈ jl_tbl := jl_inT (jl_ch9 34 (by decide +kernel)) rfl
theorem jw_1955 : (Jvm.Cond.instanceMethod ({ cls := "LieCandlesModel", name := "keystone", desc := "(II)I" } : Jvm.MethodName)) ∈ jl_tbl := jl_inT (jl_ch9 35 (by decide +kernel)) rfl
theorem jw_1956 : (Jvm.Cond.selects "LieCandlesModel" ({ cls := "LieCandlesModel", name := "keystone", desc := "(II)I" } : Jvm.MethodName) ({ cls := "LieCandlesModel", name := "keystone", desc := "(II)I" } : Jvm.MethodName)) ∈ jl_tbl := jl_inT (jl_ch9 36 (by decide +kernel)) rfl
theorem jw_1957 : (Jvm.Cond.code ({ cls := "LieCandlesModel", name := "keystone", desc := "(II)I" } : Jvm.MethodName) prog_14_method_83_code (7 : Nat) (Option.some Jvm.ClassFile.FieldType.int)) ∈ jl_tbl := jl_inT (jl_ch9 37 (rfl)) rfl
theorem jw_1958 : (Jvm.Cond.methodLink "LieCandlesModel" (559 : Nat) ({ cls := "LieCandlesModel", name := "snuffs", desc := "(I)V" } : Jvm.MethodName)) ∈ jl_tbl := jl_inT (jl_ch9 38 (by decide +kernel)) rfl
theorem jw_1960 : (Jvm.Cond.instanceMethod ({ cls := "LieCandlesModel", name := "snuffs", desc := "(I)V" } : Jvm.MethodName)) ∈ jl_tbl := jl_inT (jl_ch9 40 (by decide +kernel)) rfl
theorem jw_1961 : (Jvm.Cond.code ({ cls := "LieCandlesModel", name := "snuffs", desc := "(I)V" } : Jvm.MethodName) prog_14_method_82_code (2 : Nat) (Option.none : Option Jvm.ClassFile.FieldType)) ∈ jl_tbl := jl_inT (jl_ch9 41 (rfl)) rfl
theorem jw_1962 : (Jvm.Cond.methodLink "LieCandlesLaw" (94 : Nat) ({ cls := "LieCandlesModel", name := "change", desc := "(II)I" } : Jvm.MethodName)) ∈ jl_tbl := jl_inT (jl_ch9 42 (by decide +kernel)) rfl
theorem jw_1963 : (Jvm.Cond.instanceMethod ({ cls := "LieCandlesModel", name := "change", desc := "(II)I" } : Jvm.MethodName)) ∈ jl_tbl := jl_inT (jl_ch9 43 (by decide +kernel)) rfl
theorem jw_1964 : (Jvm.Cond.selects "LieCandlesModel" ({ cls := "LieCandlesModel", name := "change", desc := "(II)I" } : Jvm.MethodName) ({ cls := "LieCandlesModel", name := "change", desc := "(II)I" } : Jvm.MethodName)) ∈ jl_tbl := jl_inT (jl_ch9 44 (by decide +kernel)) rfl
theorem jw_1965 : (Jvm.Cond.code ({ cls := "LieCandlesModel", name := "change", desc := "(II)I" } : Jvm.MethodName) prog_14_method_84_code (9 : Nat) (Option.some Jvm.ClassFile.FieldType.int)) ∈ jl_tbl := jl_inT (jl_ch9 45 (rfl)) rfl
theorem jw_1966 : (Jvm.Cond.methodLink "LieCandlesLaw" (98 : Nat) ({ cls := "LieCandlesModel", name := "odds", desc := "(I)I" } : Jvm.MethodName)) ∈ jl_tbl := jl_inT (jl_ch9 46 (by decide +kernel)) rfl
theorem jw_1967 : (Jvm.Cond.instanceMethod ({ cls := "LieCandlesModel", name := "odds", desc := "(I)I" } : Jvm.MethodName)) ∈ jl_tbl := jl_inT (jl_ch9 47 (by decide +kernel)) rfl
theorem jw_1968 : (Jvm.Cond.selects "LieCandlesModel" ({ cls := "LieCandlesModel", name := "odds", desc := "(I)I" } : Jvm.MethodName) ({ cls := "LieCandlesModel", name := "odds", desc := "(I)I" } : Jvm.MethodName)) ∈ jl_tbl := jl_inT (jl_ch9 48 (by decide +kernel)) rfl
theorem jw_1969 : (Jvm.Cond.code ({ cls := "LieCandlesModel", name := "odds", desc := "(I)I" } : Jvm.MethodName) prog_14_method_85_code (4 : Nat) (Option.some Jvm.ClassFile.FieldType.int)) ∈ jl_tbl := jl_inT (jl_ch9 49 (rfl)) rfl
theorem jw_1970 : (Jvm.Cond.methodLink "LieCandlesModel" (562 : Nat) ({ cls := "LieCandlesModel", name := "blows", desc := "(I)V" } : Jvm.MethodName)) ∈ jl_tbl := jl_inT (jl_ch9 50 (by decide +kernel)) rfl
theorem jw_1972 : (Jvm.Cond.instanceMethod ({ cls := "LieCandlesModel", name := "blows", desc := "(I)V" } : Jvm.MethodName)) ∈ jl_tbl := jl_inT (jl_ch9 52 (by decide +kernel)) rfl
theorem jw_1973 : (Jvm.Cond.code ({ cls := "LieCandlesModel", name := "blows", desc := "(I)V" } : Jvm.MethodName) prog_14_method_59_code (3 : Nat) (Option.none : Option Jvm.ClassFile.FieldType)) ∈ jl_tbl := jl_inT (jl_ch9 53 (rfl)) rfl
theorem jw_1974 : (Jvm.Cond.methodLink "LieCandlesLaw" (102 : Nat) ({ cls := "LieCandlesModel", name := "see", desc := "()I" } : Jvm.MethodName)) ∈ jl_tbl := jl_inT (jl_ch9 54 (by decide +kernel)) rfl
theorem jw_1975 : (Jvm.Cond.instanceMethod ({ cls := "LieCandlesModel", name := "see", desc := "()I" } : Jvm.MethodName)) ∈ jl_tbl := jl_inT (jl_ch9 55 (by decide +kernel)) rfl
theorem jw_1976 : (Jvm.Cond.selects "LieCandlesModel" ({ cls := "LieCandlesModel", name := "see", desc := "()I" } : Jvm.MethodName) ({ cls := "LieCandlesModel", name := "see", desc := "()I" } : Jvm.MethodName)) ∈ jl_tbl := jl_inT (jl_ch9 56 (by decide +kernel)) rfl
theorem jw_1977 : (Jvm.Cond.code ({ cls := "LieCandlesModel", name := "see", desc := "()I" } : Jvm.MethodName) prog_14_method_86_code (4 : Nat) (Option.some Jvm.ClassFile.FieldType.int)) ∈ jl_tbl := jl_inT (jl_ch9 57 (rfl)) rfl
theorem jw_1978 : (Jvm.Cond.methodLink "LieCandlesLaw" (106 : Nat) ({ cls := "LieCandlesModel", name := "inches", desc := "(II)I" } : Jvm.MethodName)) ∈ jl_tbl := jl_inT (jl_ch9 58 (by decide +kernel)) rfl
theorem jw_1979 : (Jvm.Cond.instanceMethod ({ cls := "LieCandlesModel", name := "inches", desc := "(II)I" } : Jvm.MethodName)) ∈ jl_tbl := jl_inT (jl_ch9 59 (by decide +kernel)) rfl
theorem jw_1980 : (Jvm.Cond.selects "LieCandlesModel" ({ cls := "LieCandlesModel", name := "inches", desc := "(II)I" } : Jvm.MethodName) ({ cls := "LieCandlesModel", name := "inches", desc := "(II)I" } : Jvm.MethodName)) ∈ jl_tbl := jl_inT (jl_ch9 60 (by decide +kernel)) rfl
theorem jw_1981 : (Jvm.Cond.code ({ cls := "LieCandlesModel", name := "inches", desc := "(II)I" } : Jvm.MethodName) prog_14_method_89_code (5 : Nat) (Option.some Jvm.ClassFile.FieldType.int)) ∈ jl_tbl := jl_inT (jl_ch9 61 (rfl)) rfl
theorem jw_1982 : (Jvm.Cond.methodLink "LieCandlesModel" (574 : Nat) ({ cls := "LieCandlesModel", name := "laysInches", desc := "(I)V" } : Jvm.MethodName)) ∈ jl_tbl := jl_inT (jl_ch9 62 (by decide +kernel)) rfl
theorem jw_1984 : (Jvm.Cond.instanceMethod ({ cls := "LieCandlesModel", name := "laysInches", desc := "(I)V" } : Jvm.MethodName)) ∈ jl_tbl := jl_inT (jl_ch9 64 (by decide +kernel)) rfl
theorem jw_1985 : (Jvm.Cond.code ({ cls := "LieCandlesModel", name := "laysInches", desc := "(I)V" } : Jvm.MethodName) prog_14_method_88_code (5 : Nat) (Option.none : Option Jvm.ClassFile.FieldType)) ∈ jl_tbl := jl_inT (jl_ch9 65 (rfl)) rfl
theorem jw_1986 : (Jvm.Cond.methodLink "LieCandlesModel" (571 : Nat) ({ cls := "LieCandlesModel", name := "isAsSeen", desc := "(I)Z" } : Jvm.MethodName)) ∈ jl_tbl := jl_inT (jl_ch9 66 (by decide +kernel)) rfl
theorem jw_1988 : (Jvm.Cond.instanceMethod ({ cls := "LieCandlesModel", name := "isAsSeen", desc := "(I)Z" } : Jvm.MethodName)) ∈ jl_tbl := jl_inT (jl_ch9 68 (by decide +kernel)) rfl
theorem jw_1989 : (Jvm.Cond.code ({ cls := "LieCandlesModel", name := "isAsSeen", desc := "(I)Z" } : Jvm.MethodName) prog_14_method_87_code (3 : Nat) (Option.some Jvm.ClassFile.FieldType.boolean)) ∈ jl_tbl := jl_inT (jl_ch9 69 (rfl)) rfl
theorem jw_1990 : (Jvm.Cond.methodLink "LieCandlesModel" (565 : Nat) ({ cls := "LieCandlesModel", name := "litIn", desc := "(I)I" } : Jvm.MethodName)) ∈ jl_tbl := jl_inT (jl_ch9 70 (by decide +kernel)) rfl
theorem jw_1992 : (Jvm.Cond.instanceMethod ({ cls := "LieCandlesModel", name := "litIn", desc := "(I)I" } : Jvm.MethodName)) ∈ jl_tbl := jl_inT (jl_ch9 72 (by decide +kernel)) rfl
theorem jw_1993 : (Jvm.Cond.code ({ cls := "LieCandlesModel", name := "litIn", desc := "(I)I" } : Jvm.MethodName) prog_14_method_43_code (4 : Nat) (Option.some Jvm.ClassFile.FieldType.int)) ∈ jl_tbl := jl_inT (jl_ch9 73 (rfl)) rfl
theorem jw_1994 : (Jvm.Cond.methodLink "LieCandlesLaw" (110 : Nat) ({ cls := "LieCandlesModel", name := "tells", desc := "(II)I" } : Jvm.MethodName)) ∈ jl_tbl := jl_inT (jl_ch9 74 (by decide +kernel)) rfl
theorem jw_1995 : (Jvm.Cond.instanceMethod ({ cls := "LieCandlesModel", name := "tells", desc := "(II)I" } : Jvm.MethodName)) ∈ jl_tbl := jl_inT (jl_ch9 75 (by decide +kernel)) rfl
theorem jw_1996 : (Jvm.Cond.selects "LieCandlesModel" ({ cls := "LieCandlesModel", name := "tells", desc := "(II)I" } : Jvm.MethodName) ({ cls := "LieCandlesModel", name := "tells", desc := "(II)I" } : Jvm.MethodName)) ∈ jl_tbl := jl_inT (jl_ch9 76 (by decide +kernel)) rfl
theorem jw_1997 : (Jvm.Cond.code ({ cls := "LieCandlesModel", name := "tells", desc := "(II)I" } : Jvm.MethodName) prog_14_method_91_code (9 : Nat) (Option.some Jvm.ClassFile.FieldType.int)) ∈ jl_tbl := jl_inT (jl_ch9 77 (rfl)) rfl
theorem jw_1998 : (Jvm.Cond.methodLink "LieCandlesModel" (577 : Nat) ({ cls := "LieCandlesModel", name := "mostAlike", desc := "(I)I" } : Jvm.MethodName)) ∈ jl_tbl := jl_inT (jl_ch9 78 (by decide +kernel)) rfl
theorem jw_2000 : (Jvm.Cond.instanceMethod ({ cls := "LieCandlesModel", name := "mostAlike", desc := "(I)I" } : Jvm.MethodName)) ∈ jl_tbl := jl_inT (jl_ch9 80 (by decide +kernel)) rfl
theorem jw_2001 : (Jvm.Cond.code ({ cls := "LieCandlesModel", name := "mostAlike", desc := "(I)I" } : Jvm.MethodName) prog_14_method_90_code (5 : Nat) (Option.some Jvm.ClassFile.FieldType.int)) ∈ jl_tbl := jl_inT (jl_ch9 81 (rfl)) rfl
theorem jw_2002 : (Jvm.Cond.methodLink "LieCandlesLaw" (140 : Nat) ({ cls := "LieCandlesModel", name := "undo", desc := "()Z" } : Jvm.MethodName)) ∈ jl_tbl := jl_inT (jl_ch9 82 (by decide +kernel)) rfl
theorem jw_2003 : (Jvm.Cond.instanceMethod ({ cls := "LieCandlesModel", name := "undo", desc := "()Z" } : Jvm.MethodName)) ∈ jl_tbl := jl_inT (jl_ch9 83 (by decide +kernel)) rfl
theorem jw_2004 : (Jvm.Cond.selects "LieCandlesModel" ({ cls := "LieCandlesModel", name := "undo", desc := "()Z" } : Jvm.MethodName) ({ cls := "LieCandlesModel", name := "undo", desc := "()Z" } : Jvm.MethodName)) ∈ jl_tbl := jl_inT (jl_ch9 84 (by decide +kernel)) rfl
theorem jw_2005 : (Jvm.Cond.code ({ cls := "LieCandlesModel", name := "undo", desc := "()Z" } : Jvm.MethodName) prog_14_method_93_code (2 : Nat) (Option.some Jvm.ClassFile.FieldType.boolean)) ∈ jl_tbl := jl_inT (jl_ch9 85 (rfl)) rfl
theorem jw_2006 : (Jvm.Cond.methodLink "LieCandlesLaw" (115 : Nat) ({ cls := "LieCandlesModel", name := "light", desc := "(II)Z" } : Jvm.MethodName)) ∈ jl_tbl := jl_inT (jl_ch9 86 (by decide +kernel)) rfl
theorem jw_2007 : (Jvm.Cond.instanceMethod ({ cls := "LieCandlesModel", name := "light", desc := "(II)Z" } : Jvm.MethodName)) ∈ jl_tbl := jl_inT (jl_ch9 87 (by decide +kernel)) rfl
theorem jw_2008 : (Jvm.Cond.selects "LieCandlesModel" ({ cls := "LieCandlesModel", name := "light", desc := "(II)Z" } : Jvm.MethodName) ({ cls := "LieCandlesModel", name := "light", desc := "(II)Z" } : Jvm.MethodName)) ∈ jl_tbl := jl_inT (jl_ch9 88 (by decide +kernel)) rfl
theorem jw_2009 : (Jvm.Cond.code ({ cls := "LieCandlesModel", name := "light", desc := "(II)Z" } : Jvm.MethodName) prog_14_method_96_code (3 : Nat) (Option.some Jvm.ClassFile.FieldType.boolean)) ∈ jl_tbl := jl_inT (jl_ch9 89 (rfl)) rfl
theorem jw_2010 : (Jvm.Cond.constantLong "LieCandlesModel" (583 : Nat) (99 : Int64)) ∈ jl_tbl := jl_inT (jl_ch9 90 (by decide +kernel)) rfl
theorem jw_2011 : (Jvm.Cond.methodLink "LieCandlesModel" (585 : Nat) ({ cls := "LieCandlesModel", name := "isRefused", desc := "(I)Z" } : Jvm.MethodName)) ∈ jl_tbl := jl_inT (jl_ch9 91 (by decide +kernel)) rfl
theorem jw_2013 : (Jvm.Cond.instanceMethod ({ cls := "LieCandlesModel", name := "isRefused", desc := "(I)Z" } : Jvm.MethodName)) ∈ jl_tbl := jl_inT (jl_ch9 93 (by decide +kernel)) rfl
theorem jw_2014 : (Jvm.Cond.code ({ cls := "LieCandlesModel", name := "isRefused", desc := "(I)Z" } : Jvm.MethodName) prog_14_method_95_code (2 : Nat) (Option.some Jvm.ClassFile.FieldType.boolean)) ∈ jl_tbl := jl_inT (jl_ch9 94 (rfl)) rfl
theorem jw_2015 : (Jvm.Cond.methodLink "LieCandlesModel" (588 : Nat) ({ cls := "LieCandlesModel", name := "keeps", desc := "()V" } : Jvm.MethodName)) ∈ jl_tbl := jl_inT (jl_ch9 95 (by decide +kernel)) rfl
theorem jw_2017 : (Jvm.Cond.instanceMethod ({ cls := "LieCandlesModel", name := "keeps", desc := "()V" } : Jvm.MethodName)) ∈ jl_tbl := jl_inT (jl_ch9 97 (by decide +kernel)) rfl
theorem jw_2018 : (Jvm.Cond.code ({ cls := "LieCandlesModel", name := "keeps", desc := "()V" } : Jvm.MethodName) prog_14_method_92_code (2 : Nat) (Option.none : Option Jvm.ClassFile.FieldType)) ∈ jl_tbl := jl_inT (jl_ch9 98 (rfl)) rfl
theorem jw_2019 : (Jvm.Cond.methodLink "LieCandlesLaw" (119 : Nat) ({ cls := "LieCandlesModel", name := "snuff", desc := "(I)I" } : Jvm.MethodName)) ∈ jl_tbl := jl_inT (jl_ch9 99 (by decide +kernel)) rfl
theorem jw_2020 : (Jvm.Cond.instanceMethod ({ cls := "LieCandlesModel", name := "snuff", desc := "(I)I" } : Jvm.MethodName)) ∈ jl_tbl := jl_inT (jl_ch9 100 (by decide +kernel)) rfl
theorem jw_2021 : (Jvm.Cond.selects "LieCandlesModel" ({ cls := "LieCandlesModel", name := "snuff", desc := "(I)I" } : Jvm.MethodName) ({ cls := "LieCandlesModel", name := "snuff", desc := "(I)I" } : Jvm.MethodName)) ∈ jl_tbl := jl_inT (jl_ch9 101 (by decide +kernel)) rfl
theorem jw_2022 : (Jvm.Cond.code ({ cls := "LieCandlesModel", name := "snuff", desc := "(I)I" } : Jvm.MethodName) prog_14_method_97_code (3 : Nat) (Option.some Jvm.ClassFile.FieldType.int)) ∈ jl_tbl := jl_inT (jl_ch9 102 (rfl)) rfl
theorem jw_2023 : (Jvm.Cond.methodLink "LieCandlesLaw" (123 : Nat) ({ cls := "LieCandlesModel", name := "move", desc := "(II)Z" } : Jvm.MethodName)) ∈ jl_tbl := jl_inT (jl_ch9 103 (by decide +kernel)) rfl
theorem jw_2024 : (Jvm.Cond.instanceMethod ({ cls := "LieCandlesModel", name := "move", desc := "(II)Z" } : Jvm.MethodName)) ∈ jl_tbl := jl_inT (jl_ch9 104 (by decide +kernel)) rfl
theorem jw_2025 : (Jvm.Cond.selects "LieCandlesModel" ({ cls := "LieCandlesModel", name := "move", desc := "(II)Z" } : Jvm.MethodName) ({ cls := "LieCandlesModel", name := "move", desc := "(II)Z" } : Jvm.MethodName)) ∈ jl_tbl := jl_inT (jl_ch9 105 (by decide +kernel)) rfl
theorem jw_2026 : (Jvm.Cond.code ({ cls := "LieCandlesModel", name := "move", desc := "(II)Z" } : Jvm.MethodName) prog_14_method_98_code (3 : Nat) (Option.some Jvm.ClassFile.FieldType.boolean)) ∈ jl_tbl := jl_inT (jl_ch9 106 (rfl)) rfl
theorem jw_2027 : (Jvm.Cond.methodLink "LieCandlesLaw" (127 : Nat) ({ cls := "LieCandlesModel", name := "buy", desc := "(I)I" } : Jvm.MethodName)) ∈ jl_tbl := jl_inT (jl_ch9 107 (by decide +kernel)) rfl
theorem jw_2028 : (Jvm.Cond.instanceMethod ({ cls := "LieCandlesModel", name := "buy", desc := "(I)I" } : Jvm.MethodName)) ∈ jl_tbl := jl_inT (jl_ch9 108 (by decide +kernel)) rfl
theorem jw_2029 : (Jvm.Cond.selects "LieCandlesModel" ({ cls := "LieCandlesModel", name := "buy", desc := "(I)I" } : Jvm.MethodName) ({ cls := "LieCandlesModel", name := "buy", desc := "(I)I" } : Jvm.MethodName)) ∈ jl_tbl := jl_inT (jl_ch9 109 (by decide +kernel)) rfl
theorem jw_2030 : (Jvm.Cond.code ({ cls := "LieCandlesModel", name := "buy", desc := "(I)I" } : Jvm.MethodName) prog_14_method_99_code (2 : Nat) (Option.some Jvm.ClassFile.FieldType.int)) ∈ jl_tbl := jl_inT (jl_ch9 110 (rfl)) rfl
theorem jw_2031 : (Jvm.Cond.constantLong "LieCandlesModel" (591 : Nat) (999 : Int64)) ∈ jl_tbl := jl_inT (jl_ch9 111 (by decide +kernel)) rfl
theorem jw_2032 : (Jvm.Cond.methodLink "LieCandlesLaw" (131 : Nat) ({ cls := "LieCandlesModel", name := "hours", desc := "(I)I" } : Jvm.MethodName)) ∈ jl_tbl := jl_inT (jl_ch9 112 (by decide +kernel)) rfl
theorem jw_2033 : (Jvm.Cond.instanceMethod ({ cls := "LieCandlesModel", name := "hours", desc := "(I)I" } : Jvm.MethodName)) ∈ jl_tbl := jl_inT (jl_ch9 113 (by decide +kernel)) rfl
theorem jw_2034 : (Jvm.Cond.selects "LieCandlesModel" ({ cls := "LieCandlesModel", name := "hours", desc := "(I)I" } : Jvm.MethodName) ({ cls := "LieCandlesModel", name := "hours", desc := "(I)I" } : Jvm.MethodName)) ∈ jl_tbl := jl_inT (jl_ch9 114 (by decide +kernel)) rfl
theorem jw_2035 : (Jvm.Cond.code ({ cls := "LieCandlesModel", name := "hours", desc := "(I)I" } : Jvm.MethodName) prog_14_method_100_code (2 : Nat) (Option.some Jvm.ClassFile.FieldType.int)) ∈ jl_tbl := jl_inT (jl_ch9 115 (rfl)) rfl
theorem jw_2036 : (Jvm.Cond.methodLink "LieCandlesLaw" (144 : Nat) ({ cls := "LieCandlesModel", name := "seed", desc := "(I)Z" } : Jvm.MethodName)) ∈ jl_tbl := jl_inT (jl_ch9 116 (by decide +kernel)) rfl
theorem jw_2037 : (Jvm.Cond.instanceMethod ({ cls := "LieCandlesModel", name := "seed", desc := "(I)Z" } : Jvm.MethodName)) ∈ jl_tbl := jl_inT (jl_ch9 117 (by decide +kernel)) rfl
theorem jw_2038 : (Jvm.Cond.selects "LieCandlesModel" ({ cls := "LieCandlesModel", name := "seed", desc := "(I)Z" } : Jvm.MethodName) ({ cls := "LieCandlesModel", name := "seed", desc := "(I)Z" } : Jvm.MethodName)) ∈ jl_tbl := jl_inT (jl_ch9 118 (by decide +kernel)) rfl
theorem jw_2039 : (Jvm.Cond.code ({ cls := "LieCandlesModel", name := "seed", desc := "(I)Z" } : Jvm.MethodName) prog_14_method_101_code (2 : Nat) (Option.some Jvm.ClassFile.FieldType.boolean)) ∈ jl_tbl := jl_inT (jl_ch9 119 (rfl)) rfl
theorem jw_2040 : (Jvm.Cond.methodLink "LieCandlesLaw" (135 : Nat) ({ cls := "LieCandlesModel", name := "chance", desc := "(I)I" } : Jvm.MethodName)) ∈ jl_tbl := jl_inT (jl_ch9 120 (by decide +kernel)) rfl
theorem jw_2041 : (Jvm.Cond.instanceMethod ({ cls := "LieCandlesModel", name := "chance", desc := "(I)I" } : Jvm.MethodName)) ∈ jl_tbl := jl_inT (jl_ch9 121 (by decide +kernel)) rfl
theorem jw_2042 : (Jvm.Cond.selects "LieCandlesModel" ({ cls := "LieCandlesModel", name := "chance", desc := "(I)I" } : Jvm.MethodName) ({ cls := "LieCandlesModel", name := "chance", desc := "(I)I" } : Jvm.MethodName)) ∈ jl_tbl := jl_inT (jl_ch9 122 (by decide +kernel)) rfl
theorem jw_2043 : (Jvm.Cond.code ({ cls := "LieCandlesModel", name := "chance", desc := "(I)I" } : Jvm.MethodName) prog_14_method_103_code (4 : Nat) (Option.some Jvm.ClassFile.FieldType.int)) ∈ jl_tbl := jl_inT (jl_ch9 123 (rfl)) rfl
theorem jw_2044 : (Jvm.Cond.methodLink "LieCandlesModel" (601 : Nat) ({ cls := "LieCandlesModel", name := "drawOf", desc := "(I)I" } : Jvm.MethodName)) ∈ jl_tbl := jl_inT (jl_ch9 124 (by decide +kernel)) rfl
theorem jw_2046 : (Jvm.Cond.instanceMethod ({ cls := "LieCandlesModel", name := "drawOf", desc := "(I)I" } : Jvm.MethodName)) ∈ jl_tbl := jl_inT (jl_ch9 126 (by decide +kernel)) rfl
theorem jw_2047 : (Jvm.Cond.code ({ cls := "LieCandlesModel", name := "drawOf", desc := "(I)I" } : Jvm.MethodName) prog_14_method_102_code (2 : Nat) (Option.some Jvm.ClassFile.FieldType.int)) ∈ jl_tbl := jl_inT (jl_ch9 127 (rfl)) rfl
theorem jw_2048 : (Jvm.Cond.constantLong "LieCandlesModel" (593 : Nat) (1103515245 : Int64)) ∈ jl_tbl := jl_inT (jl_ch9 128 (by decide +kernel)) rfl
theorem jw_2049 : (Jvm.Cond.constantLong "LieCandlesModel" (595 : Nat) (12345 : Int64)) ∈ jl_tbl := jl_inT (jl_ch9 129 (by decide +kernel)) rfl
theorem jw_2050 : (Jvm.Cond.constantLong "LieCandlesModel" (597 : Nat) (2147483648 : Int64)) ∈ jl_tbl := jl_inT (jl_ch9 130 (by decide +kernel)) rfl
theorem jw_2051 : (Jvm.Cond.constantLong "LieCandlesModel" (599 : Nat) (64 : Int64)) ∈ jl_tbl := jl_inT (jl_ch9 131 (by decide +kernel)) rfl
theorem jw_2052 : (Jvm.Cond.methodLink "LieCandlesLaw" (149 : Nat) ({ cls := "LieCandlesModel", name := "ask", desc := "()J" } : Jvm.MethodName)) ∈ jl_tbl := jl_inT (jl_ch9 132 (by decide +kernel)) rfl
theorem jw_2053 : (Jvm.Cond.instanceMethod ({ cls := "LieCandlesModel", name := "ask", desc := "()J" } : Jvm.MethodName)) ∈ jl_tbl := jl_inT (jl_ch9 133 (by decide +kernel)) rfl
theorem jw_2054 : (Jvm.Cond.selects "LieCandlesModel" ({ cls := "LieCandlesModel", name := "ask", desc := "()J" } : Jvm.MethodName) ({ cls := "LieCandlesModel", name := "ask", desc := "()J" } : Jvm.MethodName)) ∈ jl_tbl := jl_inT (jl_ch9 134 (by decide +kernel)) rfl
theorem jw_2055 : (Jvm.Cond.code ({ cls := "LieCandlesModel", name := "ask", desc := "()J" } : Jvm.MethodName) prog_14_method_132_code (3 : Nat) (Option.some Jvm.ClassFile.FieldType.long)) ∈ jl_tbl := jl_inT (jl_ch9 135 (rfl)) rfl
theorem jw_2056 : (Jvm.Cond.constantLong "LieCandlesModel" (683 : Nat) (-1000000000000000 : Int64)) ∈ jl_tbl := jl_inT (jl_ch9 136 (by decide +kernel)) rfl
theorem jw_2057 : (Jvm.Cond.methodLink "LieCandlesModel" (685 : Nat) ({ cls := "LieCandlesModel", name := "qKind", desc := "()I" } : Jvm.MethodName)) ∈ jl_tbl := jl_inT (jl_ch9 137 (by decide +kernel)) rfl
theorem jw_2059 : (Jvm.Cond.instanceMethod ({ cls := "LieCandlesModel", name := "qKind", desc := "()I" } : Jvm.MethodName)) ∈ jl_tbl := jl_inT (jl_ch9 139 (by decide +kernel)) rfl
theorem jw_2060 : (Jvm.Cond.code ({ cls := "LieCandlesModel", name := "qKind", desc := "()I" } : Jvm.MethodName) prog_14_method_130_code (2 : Nat) (Option.some Jvm.ClassFile.FieldType.int)) ∈ jl_tbl := jl_inT (jl_ch9 140 (rfl)) rfl
theorem jw_2061 : (Jvm.Cond.methodLink "LieCandlesModel" (688 : Nat) ({ cls := "LieCandlesModel", name := "qTold", desc := "(I)J" } : Jvm.MethodName)) ∈ jl_tbl := jl_inT (jl_ch9 141 (by decide +kernel)) rfl
theorem jw_2063 : (Jvm.Cond.instanceMethod ({ cls := "LieCandlesModel", name := "qTold", desc := "(I)J" } : Jvm.MethodName)) ∈ jl_tbl := jl_inT (jl_ch9 143 (by decide +kernel)) rfl
theorem jw_2064 : (Jvm.Cond.code ({ cls := "LieCandlesModel", name := "qTold", desc := "(I)J" } : Jvm.MethodName) prog_14_method_129_code (4 : Nat) (Option.some Jvm.ClassFile.FieldType.long)) ∈ jl_tbl := jl_inT (jl_ch9 144 (rfl)) rfl
theorem jw_2065 : (Jvm.Cond.methodLink "LieCandlesModel" (673 : Nat) ({ cls := "LieCandlesModel", name := "qOf", desc := "(IJI)J" } : Jvm.MethodName)) ∈ jl_tbl := jl_inT (jl_ch9 145 (by decide +kernel)) rfl
theorem jw_2067 : (Jvm.Cond.instanceMethod ({ cls := "LieCandlesModel", name := "qOf", desc := "(IJI)J" } : Jvm.MethodName)) ∈ jl_tbl := jl_inT (jl_ch9 147 (by decide +kernel)) rfl
theorem jw_2068 : (Jvm.Cond.code ({ cls := "LieCandlesModel", name := "qOf", desc := "(IJI)J" } : Jvm.MethodName) prog_14_method_128_code (5 : Nat) (Option.some Jvm.ClassFile.FieldType.long)) ∈ jl_tbl := jl_inT (jl_ch9 148 (rfl)) rfl
theorem jw_2069 : (Jvm.Cond.methodLink "LieCandlesModel" (691 : Nat) ({ cls := "LieCandlesModel", name := "qTakes", desc := "(IJI)V" } : Jvm.MethodName)) ∈ jl_tbl := jl_inT (jl_ch9 149 (by decide +kernel)) rfl
theorem jw_2071 : (Jvm.Cond.instanceMethod ({ cls := "LieCandlesModel", name := "qTakes", desc := "(IJI)V" } : Jvm.MethodName)) ∈ jl_tbl := jl_inT (jl_ch9 151 (by decide +kernel)) rfl
theorem jw_2072 : (Jvm.Cond.code ({ cls := "LieCandlesModel", name := "qTakes", desc := "(IJI)V" } : Jvm.MethodName) prog_14_method_131_code (6 : Nat) (Option.none : Option Jvm.ClassFile.FieldType)) ∈ jl_tbl := jl_inT (jl_ch9 152 (rfl)) rfl
theorem jw_2073 : (Jvm.Cond.methodLink "LieCandlesLaw" (157 : Nat) ({ cls := "LieCandlesModel", name := "octet", desc := "(I)I" } : Jvm.MethodName)) ∈ jl_tbl := jl_inT (jl_ch9 153 (by decide +kernel)) rfl
theorem jw_2074 : (Jvm.Cond.instanceMethod ({ cls := "LieCandlesModel", name := "octet", desc := "(I)I" } : Jvm.MethodName)) ∈ jl_tbl := jl_inT (jl_ch9 154 (by decide +kernel)) rfl
theorem jw_2075 : (Jvm.Cond.selects "LieCandlesModel" ({ cls := "LieCandlesModel", name := "octet", desc := "(I)I" } : Jvm.MethodName) ({ cls := "LieCandlesModel", name := "octet", desc := "(I)I" } : Jvm.MethodName)) ∈ jl_tbl := jl_inT (jl_ch9 155 (by decide +kernel)) rfl
theorem jw_2076 : (Jvm.Cond.code ({ cls := "LieCandlesModel", name := "octet", desc := "(I)I" } : Jvm.MethodName) prog_14_method_137_code (2 : Nat) (Option.some Jvm.ClassFile.FieldType.int)) ∈ jl_tbl := jl_inT (jl_ch9 156 (rfl)) rfl
theorem jw_2077 : (Jvm.Cond.methodLink "LieCandlesLaw" (165 : Nat) ({ cls := "LieCandlesModel", name := "status", desc := "(I)I" } : Jvm.MethodName)) ∈ jl_tbl := jl_inT (jl_ch9 157 (by decide +kernel)) rfl
theorem jw_2078 : (Jvm.Cond.instanceMethod ({ cls := "LieCandlesModel", name := "status", desc := "(I)I" } : Jvm.MethodName)) ∈ jl_tbl := jl_inT (jl_ch9 158 (by decide +kernel)) rfl
theorem jw_2079 : (Jvm.Cond.selects "LieCandlesModel" ({ cls := "LieCandlesModel", name := "status", desc := "(I)I" } : Jvm.MethodName) ({ cls := "LieCandlesModel", name := "status", desc := "(I)I" } : Jvm.MethodName)) ∈ jl_tbl := jl_inT (jl_ch9 159 (by decide +kernel)) rfl
theorem jw_2080 : (Jvm.Cond.code ({ cls := "LieCandlesModel", name := "status", desc := "(I)I" } : Jvm.MethodName) prog_14_method_138_code (2 : Nat) (Option.some Jvm.ClassFile.FieldType.int)) ∈ jl_tbl := jl_inT (jl_ch9 160 (rfl)) rfl
theorem jw_2081 : (Jvm.Cond.methodLink "LieCandlesLaw" (153 : Nat) ({ cls := "LieCandlesModel", name := "image", desc := "()I" } : Jvm.MethodName)) ∈ jl_tbl := jl_inT (jl_ch9 161 (by decide +kernel)) rfl
theorem jw_2082 : (Jvm.Cond.instanceMethod ({ cls := "LieCandlesModel", name := "image", desc := "()I" } : Jvm.MethodName)) ∈ jl_tbl := jl_inT (jl_ch9 162 (by decide +kernel)) rfl
theorem jw_2083 : (Jvm.Cond.selects "LieCandlesModel" ({ cls := "LieCandlesModel", name := "image", desc := "()I" } : Jvm.MethodName) ({ cls := "LieCandlesModel", name := "image", desc := "()I" } : Jvm.MethodName)) ∈ jl_tbl := jl_inT (jl_ch9 163 (by decide +kernel)) rfl
theorem jw_2084 : (Jvm.Cond.code ({ cls := "LieCandlesModel", name := "image", desc := "()I" } : Jvm.MethodName) prog_14_method_139_code (2 : Nat) (Option.some Jvm.ClassFile.FieldType.int)) ∈ jl_tbl := jl_inT (jl_ch9 164 (rfl)) rfl
theorem jw_2085 : (Jvm.Cond.methodLink "LieCandlesModel" (701 : Nat) ({ cls := "LieCandlesModel", name := "writesTwo", desc := "(I)V" } : Jvm.MethodName)) ∈ jl_tbl := jl_inT (jl_ch9 165 (by decide +kernel)) rfl
theorem jw_2087 : (Jvm.Cond.instanceMethod ({ cls := "LieCandlesModel", name := "writesTwo", desc := "(I)V" } : Jvm.MethodName)) ∈ jl_tbl := jl_inT (jl_ch9 167 (by decide +kernel)) rfl
theorem jw_2088 : (Jvm.Cond.code ({ cls := "LieCandlesModel", name := "writesTwo", desc := "(I)V" } : Jvm.MethodName) prog_14_method_135_code (2 : Nat) (Option.none : Option Jvm.ClassFile.FieldType)) ∈ jl_tbl := jl_inT (jl_ch9 168 (rfl)) rfl
theorem jw_2089 : (Jvm.Cond.methodLink "LieCandlesModel" (698 : Nat) ({ cls := "LieCandlesModel", name := "writes", desc := "(I)V" } : Jvm.MethodName)) ∈ jl_tbl := jl_inT (jl_ch9 169 (by decide +kernel)) rfl
theorem jw_2091 : (Jvm.Cond.instanceMethod ({ cls := "LieCandlesModel", name := "writes", desc := "(I)V" } : Jvm.MethodName)) ∈ jl_tbl := jl_inT (jl_ch9 171 (by decide +kernel)) rfl
theorem jw_2092 : (Jvm.Cond.code ({ cls := "LieCandlesModel", name := "writes", desc := "(I)V" } : Jvm.MethodName) prog_14_method_134_code (2 : Nat) (Option.none : Option Jvm.ClassFile.FieldType)) ∈ jl_tbl := jl_inT (jl_ch9 172 (rfl)) rfl
theorem jw_2093 : (Jvm.Cond.methodLink "LieCandlesModel" (704 : Nat) ({ cls := "LieCandlesModel", name := "checked", desc := "([II)I" } : Jvm.MethodName)) ∈ jl_tbl := jl_inT (jl_ch9 173 (by decide +kernel)) rfl
theorem jw_2094 : (Jvm.Cond.static ({ cls := "LieCandlesModel", name := "checked", desc := "([II)I" } : Jvm.MethodName)) ∈ jl_tbl := jl_inT (jl_ch9 174 (by decide +kernel)) rfl
theorem jw_2095 : (Jvm.Cond.code ({ cls := "LieCandlesModel", name := "checked", desc := "([II)I" } : Jvm.MethodName) prog_14_method_133_code (4 : Nat) (Option.some Jvm.ClassFile.FieldType.int)) ∈ jl_tbl := jl_inT (jl_ch9 175 (rfl)) rfl
theorem jw_2096 : (Jvm.Cond.methodLink "LieCandlesLaw" (161 : Nat) ({ cls := "LieCandlesModel", name := "on", desc := "()Z" } : Jvm.MethodName)) ∈ jl_tbl := jl_inT (jl_ch9 176 (by decide +kernel)) rfl
theorem jw_2097 : (Jvm.Cond.instanceMethod ({ cls := "LieCandlesModel", name := "on", desc := "()Z" } : Jvm.MethodName)) ∈ jl_tbl := jl_inT (jl_ch9 177 (by decide +kernel)) rfl
theorem jw_2098 : (Jvm.Cond.selects "LieCandlesModel" ({ cls := "LieCandlesModel", name := "on", desc := "()Z" } : Jvm.MethodName) ({ cls := "LieCandlesModel", name := "on", desc := "()Z" } : Jvm.MethodName)) ∈ jl_tbl := jl_inT (jl_ch9 178 (by decide +kernel)) rfl
theorem jw_2099 : (Jvm.Cond.code ({ cls := "LieCandlesModel", name := "on", desc := "()Z" } : Jvm.MethodName) prog_14_method_141_code (4 : Nat) (Option.some Jvm.ClassFile.FieldType.boolean)) ∈ jl_tbl := jl_inT (jl_ch9 179 (rfl)) rfl
theorem jw_2100 : (Jvm.Cond.methodLink "LieCandlesModel" (711 : Nat) ({ cls := "LieCandlesModel", name := "isImage", desc := "(I)Z" } : Jvm.MethodName)) ∈ jl_tbl := jl_inT (jl_ch9 180 (by decide +kernel)) rfl
theorem jw_2102 : (Jvm.Cond.instanceMethod ({ cls := "LieCandlesModel", name := "isImage", desc := "(I)Z" } : Jvm.MethodName)) ∈ jl_tbl := jl_inT (jl_ch9 182 (by decide +kernel)) rfl
theorem jw_2103 : (Jvm.Cond.code ({ cls := "LieCandlesModel", name := "isImage", desc := "(I)Z" } : Jvm.MethodName) prog_14_method_140_code (4 : Nat) (Option.some Jvm.ClassFile.FieldType.boolean)) ∈ jl_tbl := jl_inT (jl_ch9 183 (rfl)) rfl
theorem jw_2104 : (Jvm.Cond.methodLink "LieCandlesModel" (708 : Nat) ({ cls := "LieCandlesModel", name := "twoAt", desc := "(I)I" } : Jvm.MethodName)) ∈ jl_tbl := jl_inT (jl_ch9 184 (by decide +kernel)) rfl
theorem jw_2106 : (Jvm.Cond.instanceMethod ({ cls := "LieCandlesModel", name := "twoAt", desc := "(I)I" } : Jvm.MethodName)) ∈ jl_tbl := jl_inT (jl_ch9 186 (by decide +kernel)) rfl
theorem jw_2107 : (Jvm.Cond.code ({ cls := "LieCandlesModel", name := "twoAt", desc := "(I)I" } : Jvm.MethodName) prog_14_method_136_code (2 : Nat) (Option.some Jvm.ClassFile.FieldType.int)) ∈ jl_tbl := jl_inT (jl_ch9 187 (rfl)) rfl
theorem jw_2108 : (Jvm.Cond.fieldLink "java/lang/String" (9 : Nat) "java/lang/String" "value" "[B") ∈ jl_tbl := jl_inT (jl_ch9 188 (by decide +kernel)) rfl
theorem jw_2109 : (Jvm.Cond.fieldLink "java/lang/String" (15 : Nat) "java/lang/String" "coder" "B") ∈ jl_tbl := jl_inT (jl_ch9 189 (by decide +kernel)) rfl
theorem jwp_0 : Cond.selects "LieCandles" ⟨"LieCandles", "refuse", "(I)I"⟩ ⟨"LieCandles", "refuse", "(I)I"⟩ ∈ jl_tbl := jl_mem 0 (by decide +kernel) rfl
theorem jwp_1 : Cond.selects "LieCandles" ⟨"LieCandles", "deny", "(I)Z"⟩ ⟨"LieCandles", "deny", "(I)Z"⟩ ∈ jl_tbl := jl_mem 1 (by decide +kernel) rfl
theorem jwp_2 : Cond.selects "LieCandles$Reader" ⟨"LieCandles$Reader", "wordNumber", "()I"⟩ ⟨"LieCandles$Reader", "wordNumber", "()I"⟩ ∈ jl_tbl := jl_mem 2 (by decide +kernel) rfl
theorem jwp_3 : Cond.selects "LieCandles$StreetReader" ⟨"LieCandles$StreetReader", "faultOf", "(II)I"⟩ ⟨"LieCandles$StreetReader", "faultOf", "(II)I"⟩ ∈ jl_tbl := jl_mem 3 (by decide +kernel) rfl
theorem jwp_4 : Cond.selects "LieCandles$StreetReader" ⟨"LieCandles$StreetReader", "isTooMany", "(I)Z"⟩ ⟨"LieCandles$StreetReader", "isTooMany", "(I)Z"⟩ ∈ jl_tbl := jl_mem 4 (by decide +kernel) rfl
theorem jwp_5 : Cond.selects "LieCandles$StreetReader" ⟨"LieCandles$StreetReader", "readOne", "(I)V"⟩ ⟨"LieCandles$StreetReader", "readOne", "(I)V"⟩ ∈ jl_tbl := jl_mem 5 (by decide +kernel) rfl
theorem jwp_6 : Cond.selects "LieCandles$StreetReader" ⟨"LieCandles$StreetReader", "readPerson", "()V"⟩ ⟨"LieCandles$StreetReader", "readPerson", "()V"⟩ ∈ jl_tbl := jl_mem 6 (by decide +kernel) rfl
theorem jwp_7 : Cond.selects "LieCandles$StreetReader" ⟨"LieCandles$StreetReader", "refuseKnown", "(I)V"⟩ ⟨"LieCandles$StreetReader", "refuseKnown", "(I)V"⟩ ∈ jl_tbl := jl_mem 7 (by decide +kernel) rfl
theorem jwp_8 : Cond.selects "LieCandles$StreetReader" ⟨"LieCandles$StreetReader", "readLie", "()V"⟩ ⟨"LieCandles$StreetReader", "readLie", "()V"⟩ ∈ jl_tbl := jl_mem 8 (by decide +kernel) rfl
theorem jwp_9 : Cond.selects "LieCandles$StreetReader" ⟨"LieCandles$StreetReader", "refuseNone", "(I)V"⟩ ⟨"LieCandles$StreetReader", "refuseNone", "(I)V"⟩ ∈ jl_tbl := jl_mem 9 (by decide +kernel) rfl
theorem jwp_10 : Cond.selects "LieCandles$StreetReader" ⟨"LieCandles$StreetReader", "readHangs", "()V"⟩ ⟨"LieCandles$StreetReader", "readHangs", "()V"⟩ ∈ jl_tbl := jl_mem 10 (by decide +kernel) rfl
theorem jwp_11 : Cond.selects "LieCandles$StreetReader" ⟨"LieCandles$StreetReader", "readLight", "()V"⟩ ⟨"LieCandles$StreetReader", "readLight", "()V"⟩ ∈ jl_tbl := jl_mem 11 (by decide +kernel) rfl
theorem jwp_12 : Cond.selects "LieCandles$Reader" ⟨"LieCandles$Reader", "sum", "()V"⟩ ⟨"LieCandles$Reader", "sum", "()V"⟩ ∈ jl_tbl := jl_mem 12 (by decide +kernel) rfl
theorem jwp_13 : Cond.selects "LieCandles$Reader" ⟨"LieCandles$Reader", "product", "()V"⟩ ⟨"LieCandles$Reader", "product", "()V"⟩ ∈ jl_tbl := jl_mem 13 (by decide +kernel) rfl
theorem jwp_14 : Cond.selects "LieCandles$Reader" ⟨"LieCandles$Reader", "part", "()V"⟩ ⟨"LieCandles$Reader", "part", "()V"⟩ ∈ jl_tbl := jl_mem 14 (by decide +kernel) rfl
theorem jwp_15 : Cond.selects "LieCandles$Reader" ⟨"LieCandles$Reader", "open", "(I)Z"⟩ ⟨"LieCandles$Reader", "open", "(I)Z"⟩ ∈ jl_tbl := jl_mem 15 (by decide +kernel) rfl
theorem jwp_16 : Cond.selects "LieCandles$Reader" ⟨"LieCandles$Reader", "wordPart", "(I)V"⟩ ⟨"LieCandles$Reader", "wordPart", "(I)V"⟩ ∈ jl_tbl := jl_mem 16 (by decide +kernel) rfl
theorem jwp_17 : Cond.selects "LieCandles$Reader" ⟨"LieCandles$Reader", "pairPart", "(I)V"⟩ ⟨"LieCandles$Reader", "pairPart", "(I)V"⟩ ∈ jl_tbl := jl_mem 17 (by decide +kernel) rfl
theorem jwp_18 : Cond.selects "LieCandles$Reader" ⟨"LieCandles$Reader", "test", "()V"⟩ ⟨"LieCandles$Reader", "test", "()V"⟩ ∈ jl_tbl := jl_mem 18 (by decide +kernel) rfl
theorem jwp_19 : Cond.selects "LieCandles$Reader" ⟨"LieCandles$Reader", "both", "()V"⟩ ⟨"LieCandles$Reader", "both", "()V"⟩ ∈ jl_tbl := jl_mem 19 (by decide +kernel) rfl
theorem jwp_20 : Cond.selects "LieCandles$Reader" ⟨"LieCandles$Reader", "fact", "()V"⟩ ⟨"LieCandles$Reader", "fact", "()V"⟩ ∈ jl_tbl := jl_mem 20 (by decide +kernel) rfl
theorem jwp_21 : Cond.selects "LieCandles" ⟨"LieCandles", "takeFault", "()V"⟩ ⟨"LieCandles", "takeFault", "()V"⟩ ∈ jl_tbl := jl_mem 21 (by decide +kernel) rfl
theorem jwp_22 : Cond.selects "LieCandles" ⟨"LieCandles", "forgetActs", "()V"⟩ ⟨"LieCandles", "forgetActs", "()V"⟩ ∈ jl_tbl := jl_mem 22 (by decide +kernel) rfl
theorem jwp_23 : Cond.selects "LieCandles$Reckoner" ⟨"LieCandles$Reckoner", "reckon", "(LLieCandles$State;ILLieCandles$Code;I)I"⟩ ⟨"LieCandles$Reckoner", "reckon", "(LLieCandles$State;ILLieCandles$Code;I)I"⟩ ∈ jl_tbl := jl_mem 23 (by decide +kernel) rfl
theorem jwp_24 : Cond.selects "LieCandles$Reckoner" ⟨"LieCandles$Reckoner", "run", "(LLieCandles$State;LLieCandles$Code;I)I"⟩ ⟨"LieCandles$Reckoner", "run", "(LLieCandles$State;LLieCandles$Code;I)I"⟩ ∈ jl_tbl := jl_mem 24 (by decide +kernel) rfl
theorem jwp_25 : Cond.selects "LieCandles$Reckoner" ⟨"LieCandles$Reckoner", "ofOne", "(LLieCandles$State;II)I"⟩ ⟨"LieCandles$Reckoner", "ofOne", "(LLieCandles$State;II)I"⟩ ∈ jl_tbl := jl_mem 25 (by decide +kernel) rfl
theorem jwp_26 : Cond.selects "LieCandles" ⟨"LieCandles", "isPerson", "(I)Z"⟩ ⟨"LieCandles", "isPerson", "(I)Z"⟩ ∈ jl_tbl := jl_mem 26 (by decide +kernel) rfl
theorem jwp_27 : Cond.selects "LieCandles" ⟨"LieCandles", "isLie", "(I)Z"⟩ ⟨"LieCandles", "isLie", "(I)Z"⟩ ∈ jl_tbl := jl_mem 27 (by decide +kernel) rfl
theorem jwp_28 : Cond.selects "LieCandles" ⟨"LieCandles", "isWindow", "(I)Z"⟩ ⟨"LieCandles", "isWindow", "(I)Z"⟩ ∈ jl_tbl := jl_mem 28 (by decide +kernel) rfl
theorem jwp_29 : Cond.selects "LieCandles$Reckoner" ⟨"LieCandles$Reckoner", "lightPlanned", "(LLieCandles$State;)V"⟩ ⟨"LieCandles$Reckoner", "lightPlanned", "(LLieCandles$State;)V"⟩ ∈ jl_tbl := jl_mem 29 (by decide +kernel) rfl
theorem jwp_30 : Cond.selects "LieCandles" ⟨"LieCandles", "isLit", "(I)Z"⟩ ⟨"LieCandles", "isLit", "(I)Z"⟩ ∈ jl_tbl := jl_mem 30 (by decide +kernel) rfl
theorem jwp_31 : Cond.selects "LieCandles" ⟨"LieCandles", "hasStreet", "()Z"⟩ ⟨"LieCandles", "hasStreet", "()Z"⟩ ∈ jl_tbl := jl_mem 31 (by decide +kernel) rfl
theorem jwp_32 : Cond.selects "LieCandles$Sight" ⟨"LieCandles$Sight", "lastSeen", "()I"⟩ ⟨"LieCandles$Sight", "lastSeen", "()I"⟩ ∈ jl_tbl := jl_mem 32 (by decide +kernel) rfl
theorem jwp_33 : Cond.selects "LieCandles$Sight" ⟨"LieCandles$Sight", "isAllSo", "(I)Z"⟩ ⟨"LieCandles$Sight", "isAllSo", "(I)Z"⟩ ∈ jl_tbl := jl_mem 33 (by decide +kernel) rfl
theorem jwp_34 : Cond.selects "LieCandles$Sight" ⟨"LieCandles$Sight", "tallyAll", "(II)V"⟩ ⟨"LieCandles$Sight", "tallyAll", "(II)V"⟩ ∈ jl_tbl := jl_mem 34 (by decide +kernel) rfl
theorem jwp_35 : Cond.selects "LieCandles$Sight" ⟨"LieCandles$Sight", "mostLeft", "(II)I"⟩ ⟨"LieCandles$Sight", "mostLeft", "(II)I"⟩ ∈ jl_tbl := jl_mem 35 (by decide +kernel) rfl
theorem jwp_36 : Cond.selects "LieCandles" ⟨"LieCandles", "passNow", "()I"⟩ ⟨"LieCandles", "passNow", "()I"⟩ ∈ jl_tbl := jl_mem 36 (by decide +kernel) rfl
theorem jwp_37 : Cond.selects "LieCandles$Log" ⟨"LieCandles$Log", "add", "(II)V"⟩ ⟨"LieCandles$Log", "add", "(II)V"⟩ ∈ jl_tbl := jl_mem 37 (by decide +kernel) rfl
theorem jwp_38 : Cond.selects "LieCandles" ⟨"LieCandles", "draw", "(I)I"⟩ ⟨"LieCandles", "draw", "(I)I"⟩ ∈ jl_tbl := jl_mem 38 (by decide +kernel) rfl
theorem jwp_39 : Cond.selects "LieCandles" ⟨"LieCandles", "putPair", "(II)V"⟩ ⟨"LieCandles", "putPair", "(II)V"⟩ ∈ jl_tbl := jl_mem 39 (by decide +kernel) rfl
theorem jwp_40 : Cond.selects "LieCandles" ⟨"LieCandles", "isPicture", "()Z"⟩ ⟨"LieCandles", "isPicture", "()Z"⟩ ∈ jl_tbl := jl_mem 40 (by decide +kernel) rfl
theorem jwp_41 : Cond.selects "LieCandlesModel" ⟨"LieCandlesModel", "streetTold", "()V"⟩ ⟨"LieCandlesModel", "streetTold", "()V"⟩ ∈ jl_tbl := jl_mem 41 (by decide +kernel) rfl
theorem jwp_42 : Cond.selects "LieCandlesModel" ⟨"LieCandlesModel", "asks", "([C)V"⟩ ⟨"LieCandlesModel", "asks", "([C)V"⟩ ∈ jl_tbl := jl_mem 42 (by decide +kernel) rfl
theorem jwp_43 : Cond.selects "LieCandlesModel" ⟨"LieCandlesModel", "takes", "([C)Z"⟩ ⟨"LieCandlesModel", "takes", "([C)Z"⟩ ∈ jl_tbl := jl_mem 43 (by decide +kernel) rfl
theorem jwp_44 : Cond.selects "LieCandlesModel" ⟨"LieCandlesModel", "isHere", "([C)Z"⟩ ⟨"LieCandlesModel", "isHere", "([C)Z"⟩ ∈ jl_tbl := jl_mem 44 (by decide +kernel) rfl
theorem jwp_45 : Cond.selects "LieCandlesModel" ⟨"LieCandlesModel", "look", "()I"⟩ ⟨"LieCandlesModel", "look", "()I"⟩ ∈ jl_tbl := jl_mem 45 (by decide +kernel) rfl
theorem jwp_46 : Cond.selects "LieCandlesModel" ⟨"LieCandlesModel", "fail", "(II)V"⟩ ⟨"LieCandlesModel", "fail", "(II)V"⟩ ∈ jl_tbl := jl_mem 46 (by decide +kernel) rfl
theorem jwp_47 : Cond.selects "LieCandlesModel" ⟨"LieCandlesModel", "number", "(II)I"⟩ ⟨"LieCandlesModel", "number", "(II)I"⟩ ∈ jl_tbl := jl_mem 47 (by decide +kernel) rfl
theorem jwp_48 : Cond.selects "LieCandlesModel" ⟨"LieCandlesModel", "asksSign", "(I)V"⟩ ⟨"LieCandlesModel", "asksSign", "(I)V"⟩ ∈ jl_tbl := jl_mem 48 (by decide +kernel) rfl
theorem jwp_49 : Cond.selects "LieCandlesModel" ⟨"LieCandlesModel", "takesSign", "(I)Z"⟩ ⟨"LieCandlesModel", "takesSign", "(I)Z"⟩ ∈ jl_tbl := jl_mem 49 (by decide +kernel) rfl
theorem jwp_50 : Cond.selects "LieCandlesModel" ⟨"LieCandlesModel", "statementTold", "()V"⟩ ⟨"LieCandlesModel", "statementTold", "()V"⟩ ∈ jl_tbl := jl_mem 50 (by decide +kernel) rfl
theorem jwp_51 : Cond.selects "LieCandlesModel" ⟨"LieCandlesModel", "personTold", "(I)V"⟩ ⟨"LieCandlesModel", "personTold", "(I)V"⟩ ∈ jl_tbl := jl_mem 51 (by decide +kernel) rfl
theorem jwp_52 : Cond.selects "LieCandlesModel" ⟨"LieCandlesModel", "isFull", "(III)Z"⟩ ⟨"LieCandlesModel", "isFull", "(III)Z"⟩ ∈ jl_tbl := jl_mem 52 (by decide +kernel) rfl
theorem jwp_53 : Cond.selects "LieCandlesModel" ⟨"LieCandlesModel", "newName", "()J"⟩ ⟨"LieCandlesModel", "newName", "()J"⟩ ∈ jl_tbl := jl_mem 53 (by decide +kernel) rfl
theorem jwp_54 : Cond.selects "LieCandlesModel" ⟨"LieCandlesModel", "name", "()J"⟩ ⟨"LieCandlesModel", "name", "()J"⟩ ∈ jl_tbl := jl_mem 54 (by decide +kernel) rfl
theorem jwp_55 : Cond.selects "LieCandlesModel" ⟨"LieCandlesModel", "isOwnHere", "()Z"⟩ ⟨"LieCandlesModel", "isOwnHere", "()Z"⟩ ∈ jl_tbl := jl_mem 55 (by decide +kernel) rfl
theorem jwp_56 : Cond.selects "LieCandlesModel" ⟨"LieCandlesModel", "lieTold", "(I)V"⟩ ⟨"LieCandlesModel", "lieTold", "(I)V"⟩ ∈ jl_tbl := jl_mem 56 (by decide +kernel) rfl
theorem jwp_57 : Cond.selects "LieCandlesModel" ⟨"LieCandlesModel", "named", "(I)I"⟩ ⟨"LieCandlesModel", "named", "(I)I"⟩ ∈ jl_tbl := jl_mem 57 (by decide +kernel) rfl
theorem jwp_58 : Cond.selects "LieCandlesModel" ⟨"LieCandlesModel", "hangsTold", "()V"⟩ ⟨"LieCandlesModel", "hangsTold", "()V"⟩ ∈ jl_tbl := jl_mem 58 (by decide +kernel) rfl
theorem jwp_59 : Cond.selects "LieCandlesModel" ⟨"LieCandlesModel", "lightTold", "(I)V"⟩ ⟨"LieCandlesModel", "lightTold", "(I)V"⟩ ∈ jl_tbl := jl_mem 59 (by decide +kernel) rfl
theorem jwp_60 : Cond.selects "LieCandlesModel" ⟨"LieCandlesModel", "codesTold", "(II)V"⟩ ⟨"LieCandlesModel", "codesTold", "(II)V"⟩ ∈ jl_tbl := jl_mem 60 (by decide +kernel) rfl
theorem jwp_61 : Cond.selects "LieCandlesModel" ⟨"LieCandlesModel", "qTest", "()V"⟩ ⟨"LieCandlesModel", "qTest", "()V"⟩ ∈ jl_tbl := jl_mem 61 (by decide +kernel) rfl
theorem jwp_62 : Cond.selects "LieCandlesModel" ⟨"LieCandlesModel", "qOpens", "(II)V"⟩ ⟨"LieCandlesModel", "qOpens", "(II)V"⟩ ∈ jl_tbl := jl_mem 62 (by decide +kernel) rfl
theorem jwp_63 : Cond.selects "LieCandlesModel" ⟨"LieCandlesModel", "qFact", "()V"⟩ ⟨"LieCandlesModel", "qFact", "()V"⟩ ∈ jl_tbl := jl_mem 63 (by decide +kernel) rfl
theorem jwp_64 : Cond.selects "LieCandlesModel" ⟨"LieCandlesModel", "qCode", "(I)V"⟩ ⟨"LieCandlesModel", "qCode", "(I)V"⟩ ∈ jl_tbl := jl_mem 64 (by decide +kernel) rfl
theorem jwp_65 : Cond.selects "LieCandlesModel" ⟨"LieCandlesModel", "qSums", "()V"⟩ ⟨"LieCandlesModel", "qSums", "()V"⟩ ∈ jl_tbl := jl_mem 65 (by decide +kernel) rfl
theorem jwp_66 : Cond.selects "LieCandlesModel" ⟨"LieCandlesModel", "qPartTold", "()V"⟩ ⟨"LieCandlesModel", "qPartTold", "()V"⟩ ∈ jl_tbl := jl_mem 66 (by decide +kernel) rfl
theorem jwp_67 : Cond.selects "LieCandlesModel" ⟨"LieCandlesModel", "qWordOf", "(II)I"⟩ ⟨"LieCandlesModel", "qWordOf", "(II)I"⟩ ∈ jl_tbl := jl_mem 67 (by decide +kernel) rfl
theorem jwp_68 : Cond.selects "LieCandlesModel" ⟨"LieCandlesModel", "qWordHere", "()I"⟩ ⟨"LieCandlesModel", "qWordHere", "()I"⟩ ∈ jl_tbl := jl_mem 68 (by decide +kernel) rfl
theorem jwp_69 : Cond.selects "LieCandlesModel" ⟨"LieCandlesModel", "isAllowed", "(I)Z"⟩ ⟨"LieCandlesModel", "isAllowed", "(I)Z"⟩ ∈ jl_tbl := jl_mem 69 (by decide +kernel) rfl
theorem jwp_70 : Cond.selects "LieCandlesModel" ⟨"LieCandlesModel", "qAsksWord", "(I)V"⟩ ⟨"LieCandlesModel", "qAsksWord", "(I)V"⟩ ∈ jl_tbl := jl_mem 70 (by decide +kernel) rfl
theorem jwp_71 : Cond.selects "LieCandlesModel" ⟨"LieCandlesModel", "qEndsPart", "()V"⟩ ⟨"LieCandlesModel", "qEndsPart", "()V"⟩ ∈ jl_tbl := jl_mem 71 (by decide +kernel) rfl
theorem jwp_72 : Cond.selects "LieCandlesModel" ⟨"LieCandlesModel", "qDrops", "()V"⟩ ⟨"LieCandlesModel", "qDrops", "()V"⟩ ∈ jl_tbl := jl_mem 72 (by decide +kernel) rfl
theorem jwp_73 : Cond.selects "LieCandlesModel" ⟨"LieCandlesModel", "qGoesOn", "()Z"⟩ ⟨"LieCandlesModel", "qGoesOn", "()Z"⟩ ∈ jl_tbl := jl_mem 73 (by decide +kernel) rfl
theorem jwp_74 : Cond.selects "LieCandlesModel" ⟨"LieCandlesModel", "qBracket", "()I"⟩ ⟨"LieCandlesModel", "qBracket", "()I"⟩ ∈ jl_tbl := jl_mem 74 (by decide +kernel) rfl
theorem jwp_75 : Cond.selects "LieCandlesModel" ⟨"LieCandlesModel", "qDropsToBracket", "()V"⟩ ⟨"LieCandlesModel", "qDropsToBracket", "()V"⟩ ∈ jl_tbl := jl_mem 75 (by decide +kernel) rfl
theorem jwp_76 : Cond.selects "LieCandlesModel" ⟨"LieCandlesModel", "qIsOn", "(I)Z"⟩ ⟨"LieCandlesModel", "qIsOn", "(I)Z"⟩ ∈ jl_tbl := jl_mem 76 (by decide +kernel) rfl
theorem jwp_77 : Cond.selects "LieCandlesModel" ⟨"LieCandlesModel", "qDropsNots", "()V"⟩ ⟨"LieCandlesModel", "qDropsNots", "()V"⟩ ∈ jl_tbl := jl_mem 77 (by decide +kernel) rfl
theorem jwp_78 : Cond.selects "LieCandlesModel" ⟨"LieCandlesModel", "qGoesOnTest", "()Z"⟩ ⟨"LieCandlesModel", "qGoesOnTest", "()Z"⟩ ∈ jl_tbl := jl_mem 78 (by decide +kernel) rfl
theorem jwp_79 : Cond.selects "LieCandlesModel" ⟨"LieCandlesModel", "qHasSquare", "()Z"⟩ ⟨"LieCandlesModel", "qHasSquare", "()Z"⟩ ∈ jl_tbl := jl_mem 79 (by decide +kernel) rfl
theorem jwp_80 : Cond.selects "LieCandlesModel" ⟨"LieCandlesModel", "refuses", "(I)I"⟩ ⟨"LieCandlesModel", "refuses", "(I)I"⟩ ∈ jl_tbl := jl_mem 80 (by decide +kernel) rfl
theorem jwp_81 : Cond.selects "LieCandlesModel" ⟨"LieCandlesModel", "stands", "()V"⟩ ⟨"LieCandlesModel", "stands", "()V"⟩ ∈ jl_tbl := jl_mem 81 (by decide +kernel) rfl
theorem jwp_82 : Cond.selects "LieCandlesModel" ⟨"LieCandlesModel", "windowMany", "()I"⟩ ⟨"LieCandlesModel", "windowMany", "()I"⟩ ∈ jl_tbl := jl_mem 82 (by decide +kernel) rfl
theorem jwp_83 : Cond.selects "LieCandlesModel" ⟨"LieCandlesModel", "personMany", "()I"⟩ ⟨"LieCandlesModel", "personMany", "()I"⟩ ∈ jl_tbl := jl_mem 83 (by decide +kernel) rfl
theorem jwp_84 : Cond.selects "LieCandlesModel" ⟨"LieCandlesModel", "lieMany", "()I"⟩ ⟨"LieCandlesModel", "lieMany", "()I"⟩ ∈ jl_tbl := jl_mem 84 (by decide +kernel) rfl
theorem jwp_85 : Cond.selects "LieCandlesModel" ⟨"LieCandlesModel", "planMany", "()I"⟩ ⟨"LieCandlesModel", "planMany", "()I"⟩ ∈ jl_tbl := jl_mem 85 (by decide +kernel) rfl
theorem jwp_86 : Cond.selects "LieCandlesModel" ⟨"LieCandlesModel", "litMany", "()I"⟩ ⟨"LieCandlesModel", "litMany", "()I"⟩ ∈ jl_tbl := jl_mem 86 (by decide +kernel) rfl
theorem jwp_87 : Cond.selects "LieCandlesModel" ⟨"LieCandlesModel", "isLit", "(I)Z"⟩ ⟨"LieCandlesModel", "isLit", "(I)Z"⟩ ∈ jl_tbl := jl_mem 87 (by decide +kernel) rfl
theorem jwp_88 : Cond.selects "LieCandlesModel" ⟨"LieCandlesModel", "laysHeld", "()I"⟩ ⟨"LieCandlesModel", "laysHeld", "()I"⟩ ∈ jl_tbl := jl_mem 88 (by decide +kernel) rfl
theorem jwp_89 : Cond.selects "LieCandlesModel" ⟨"LieCandlesModel", "laysDrafts", "()V"⟩ ⟨"LieCandlesModel", "laysDrafts", "()V"⟩ ∈ jl_tbl := jl_mem 89 (by decide +kernel) rfl
theorem jwp_90 : Cond.selects "LieCandlesModel" ⟨"LieCandlesModel", "draftAt", "(I)I"⟩ ⟨"LieCandlesModel", "draftAt", "(I)I"⟩ ∈ jl_tbl := jl_mem 90 (by decide +kernel) rfl
theorem jwp_91 : Cond.selects "LieCandlesModel" ⟨"LieCandlesModel", "isCoded", "(I)Z"⟩ ⟨"LieCandlesModel", "isCoded", "(I)Z"⟩ ∈ jl_tbl := jl_mem 91 (by decide +kernel) rfl
theorem jwp_92 : Cond.selects "LieCandlesModel" ⟨"LieCandlesModel", "codesTell", "(I)J"⟩ ⟨"LieCandlesModel", "codesTell", "(I)J"⟩ ∈ jl_tbl := jl_mem 92 (by decide +kernel) rfl
theorem jwp_93 : Cond.selects "LieCandlesModel" ⟨"LieCandlesModel", "qPuts", "(J)V"⟩ ⟨"LieCandlesModel", "qPuts", "(J)V"⟩ ∈ jl_tbl := jl_mem 93 (by decide +kernel) rfl
theorem jwp_94 : Cond.selects "LieCandlesModel" ⟨"LieCandlesModel", "qPartOf", "(II)J"⟩ ⟨"LieCandlesModel", "qPartOf", "(II)J"⟩ ∈ jl_tbl := jl_mem 94 (by decide +kernel) rfl
theorem jwp_95 : Cond.selects "LieCandlesModel" ⟨"LieCandlesModel", "nearTo", "(I)I"⟩ ⟨"LieCandlesModel", "nearTo", "(I)I"⟩ ∈ jl_tbl := jl_mem 95 (by decide +kernel) rfl
theorem jwp_96 : Cond.selects "LieCandlesModel" ⟨"LieCandlesModel", "windowOf", "(I)I"⟩ ⟨"LieCandlesModel", "windowOf", "(I)I"⟩ ∈ jl_tbl := jl_mem 96 (by decide +kernel) rfl
theorem jwp_97 : Cond.selects "LieCandlesModel" ⟨"LieCandlesModel", "personOf", "(I)I"⟩ ⟨"LieCandlesModel", "personOf", "(I)I"⟩ ∈ jl_tbl := jl_mem 97 (by decide +kernel) rfl
theorem jwp_98 : Cond.selects "LieCandlesModel" ⟨"LieCandlesModel", "qJoins", "(I)V"⟩ ⟨"LieCandlesModel", "qJoins", "(I)V"⟩ ∈ jl_tbl := jl_mem 98 (by decide +kernel) rfl
theorem jwp_99 : Cond.selects "LieCandlesModel" ⟨"LieCandlesModel", "hangsOn", "(I)I"⟩ ⟨"LieCandlesModel", "hangsOn", "(I)I"⟩ ∈ jl_tbl := jl_mem 99 (by decide +kernel) rfl
theorem jwp_100 : Cond.selects "LieCandlesModel" ⟨"LieCandlesModel", "isPerson", "(I)Z"⟩ ⟨"LieCandlesModel", "isPerson", "(I)Z"⟩ ∈ jl_tbl := jl_mem 100 (by decide +kernel) rfl
theorem jwp_101 : Cond.selects "LieCandlesModel" ⟨"LieCandlesModel", "litOf", "(I)I"⟩ ⟨"LieCandlesModel", "litOf", "(I)I"⟩ ∈ jl_tbl := jl_mem 101 (by decide +kernel) rfl
theorem jwp_102 : Cond.selects "LieCandlesModel" ⟨"LieCandlesModel", "isLie", "(J)Z"⟩ ⟨"LieCandlesModel", "isLie", "(J)Z"⟩ ∈ jl_tbl := jl_mem 102 (by decide +kernel) rfl
theorem jwp_103 : Cond.selects "LieCandlesModel" ⟨"LieCandlesModel", "isHeld", "(I)Z"⟩ ⟨"LieCandlesModel", "isHeld", "(I)Z"⟩ ∈ jl_tbl := jl_mem 103 (by decide +kernel) rfl
theorem jwp_104 : Cond.selects "LieCandlesModel" ⟨"LieCandlesModel", "hangingOn", "(I)I"⟩ ⟨"LieCandlesModel", "hangingOn", "(I)I"⟩ ∈ jl_tbl := jl_mem 104 (by decide +kernel) rfl
theorem jwp_105 : Cond.selects "LieCandlesModel" ⟨"LieCandlesModel", "isWindow", "(J)Z"⟩ ⟨"LieCandlesModel", "isWindow", "(J)Z"⟩ ∈ jl_tbl := jl_mem 105 (by decide +kernel) rfl
theorem jwp_106 : Cond.selects "LieCandlesModel" ⟨"LieCandlesModel", "isAhead", "(III)Z"⟩ ⟨"LieCandlesModel", "isAhead", "(III)Z"⟩ ∈ jl_tbl := jl_mem 106 (by decide +kernel) rfl
theorem jwp_107 : Cond.selects "LieCandlesModel" ⟨"LieCandlesModel", "putsAside", "()V"⟩ ⟨"LieCandlesModel", "putsAside", "()V"⟩ ∈ jl_tbl := jl_mem 107 (by decide +kernel) rfl
theorem jwp_108 : Cond.selects "LieCandlesModel" ⟨"LieCandlesModel", "hoursGo", "(I)V"⟩ ⟨"LieCandlesModel", "hoursGo", "(I)V"⟩ ∈ jl_tbl := jl_mem 108 (by decide +kernel) rfl
theorem jwp_109 : Cond.selects "LieCandlesModel" ⟨"LieCandlesModel", "hourGoes", "()V"⟩ ⟨"LieCandlesModel", "hourGoes", "()V"⟩ ∈ jl_tbl := jl_mem 109 (by decide +kernel) rfl
theorem jwp_110 : Cond.selects "LieCandlesModel" ⟨"LieCandlesModel", "planGoes", "()V"⟩ ⟨"LieCandlesModel", "planGoes", "()V"⟩ ∈ jl_tbl := jl_mem 110 (by decide +kernel) rfl
theorem jwp_111 : Cond.selects "LieCandlesModel" ⟨"LieCandlesModel", "burnt", "(I)I"⟩ ⟨"LieCandlesModel", "burnt", "(I)I"⟩ ∈ jl_tbl := jl_mem 111 (by decide +kernel) rfl
theorem jwp_112 : Cond.selects "LieCandlesModel" ⟨"LieCandlesModel", "goesOut", "(I)V"⟩ ⟨"LieCandlesModel", "goesOut", "(I)V"⟩ ∈ jl_tbl := jl_mem 112 (by decide +kernel) rfl
theorem jwp_113 : Cond.selects "LieCandlesModel" ⟨"LieCandlesModel", "darkens", "(I)V"⟩ ⟨"LieCandlesModel", "darkens", "(I)V"⟩ ∈ jl_tbl := jl_mem 113 (by decide +kernel) rfl
theorem jwp_114 : Cond.selects "LieCandlesModel" ⟨"LieCandlesModel", "isKept", "(I)V"⟩ ⟨"LieCandlesModel", "isKept", "(I)V"⟩ ∈ jl_tbl := jl_mem 114 (by decide +kernel) rfl
theorem jwp_115 : Cond.selects "LieCandlesModel" ⟨"LieCandlesModel", "takesBack", "()V"⟩ ⟨"LieCandlesModel", "takesBack", "()V"⟩ ∈ jl_tbl := jl_mem 115 (by decide +kernel) rfl
theorem jwp_116 : Cond.selects "LieCandlesModel" ⟨"LieCandlesModel", "triesAnew", "()V"⟩ ⟨"LieCandlesModel", "triesAnew", "()V"⟩ ∈ jl_tbl := jl_mem 116 (by decide +kernel) rfl
theorem jwp_117 : Cond.selects "LieCandlesModel" ⟨"LieCandlesModel", "leastFor", "(II)I"⟩ ⟨"LieCandlesModel", "leastFor", "(II)I"⟩ ∈ jl_tbl := jl_mem 117 (by decide +kernel) rfl
theorem jwp_118 : Cond.selects "LieCandlesModel" ⟨"LieCandlesModel", "isEnough", "(III)Z"⟩ ⟨"LieCandlesModel", "isEnough", "(III)Z"⟩ ∈ jl_tbl := jl_mem 118 (by decide +kernel) rfl
theorem jwp_119 : Cond.selects "LieCandlesModel" ⟨"LieCandlesModel", "snuffs", "(I)V"⟩ ⟨"LieCandlesModel", "snuffs", "(I)V"⟩ ∈ jl_tbl := jl_mem 119 (by decide +kernel) rfl
theorem jwp_120 : Cond.selects "LieCandlesModel" ⟨"LieCandlesModel", "blows", "(I)V"⟩ ⟨"LieCandlesModel", "blows", "(I)V"⟩ ∈ jl_tbl := jl_mem 120 (by decide +kernel) rfl
theorem jwp_121 : Cond.selects "LieCandlesModel" ⟨"LieCandlesModel", "laysInches", "(I)V"⟩ ⟨"LieCandlesModel", "laysInches", "(I)V"⟩ ∈ jl_tbl := jl_mem 121 (by decide +kernel) rfl
theorem jwp_122 : Cond.selects "LieCandlesModel" ⟨"LieCandlesModel", "isAsSeen", "(I)Z"⟩ ⟨"LieCandlesModel", "isAsSeen", "(I)Z"⟩ ∈ jl_tbl := jl_mem 122 (by decide +kernel) rfl
theorem jwp_123 : Cond.selects "LieCandlesModel" ⟨"LieCandlesModel", "litIn", "(I)I"⟩ ⟨"LieCandlesModel", "litIn", "(I)I"⟩ ∈ jl_tbl := jl_mem 123 (by decide +kernel) rfl
theorem jwp_124 : Cond.selects "LieCandlesModel" ⟨"LieCandlesModel", "mostAlike", "(I)I"⟩ ⟨"LieCandlesModel", "mostAlike", "(I)I"⟩ ∈ jl_tbl := jl_mem 124 (by decide +kernel) rfl
theorem jwp_125 : Cond.selects "LieCandlesModel" ⟨"LieCandlesModel", "isRefused", "(I)Z"⟩ ⟨"LieCandlesModel", "isRefused", "(I)Z"⟩ ∈ jl_tbl := jl_mem 125 (by decide +kernel) rfl
theorem jwp_126 : Cond.selects "LieCandlesModel" ⟨"LieCandlesModel", "keeps", "()V"⟩ ⟨"LieCandlesModel", "keeps", "()V"⟩ ∈ jl_tbl := jl_mem 126 (by decide +kernel) rfl
theorem jwp_127 : Cond.selects "LieCandlesModel" ⟨"LieCandlesModel", "drawOf", "(I)I"⟩ ⟨"LieCandlesModel", "drawOf", "(I)I"⟩ ∈ jl_tbl := jl_mem 127 (by decide +kernel) rfl
theorem jwp_128 : Cond.selects "LieCandlesModel" ⟨"LieCandlesModel", "qKind", "()I"⟩ ⟨"LieCandlesModel", "qKind", "()I"⟩ ∈ jl_tbl := jl_mem 128 (by decide +kernel) rfl
theorem jwp_129 : Cond.selects "LieCandlesModel" ⟨"LieCandlesModel", "qTold", "(I)J"⟩ ⟨"LieCandlesModel", "qTold", "(I)J"⟩ ∈ jl_tbl := jl_mem 129 (by decide +kernel) rfl
theorem jwp_130 : Cond.selects "LieCandlesModel" ⟨"LieCandlesModel", "qOf", "(IJI)J"⟩ ⟨"LieCandlesModel", "qOf", "(IJI)J"⟩ ∈ jl_tbl := jl_mem 130 (by decide +kernel) rfl
theorem jwp_131 : Cond.selects "LieCandlesModel" ⟨"LieCandlesModel", "qTakes", "(IJI)V"⟩ ⟨"LieCandlesModel", "qTakes", "(IJI)V"⟩ ∈ jl_tbl := jl_mem 131 (by decide +kernel) rfl
theorem jwp_132 : Cond.selects "LieCandlesModel" ⟨"LieCandlesModel", "writesTwo", "(I)V"⟩ ⟨"LieCandlesModel", "writesTwo", "(I)V"⟩ ∈ jl_tbl := jl_mem 132 (by decide +kernel) rfl
theorem jwp_133 : Cond.selects "LieCandlesModel" ⟨"LieCandlesModel", "writes", "(I)V"⟩ ⟨"LieCandlesModel", "writes", "(I)V"⟩ ∈ jl_tbl := jl_mem 133 (by decide +kernel) rfl
theorem jwp_134 : Cond.selects "LieCandlesModel" ⟨"LieCandlesModel", "isImage", "(I)Z"⟩ ⟨"LieCandlesModel", "isImage", "(I)Z"⟩ ∈ jl_tbl := jl_mem 134 (by decide +kernel) rfl
theorem jwp_135 : Cond.selects "LieCandlesModel" ⟨"LieCandlesModel", "twoAt", "(I)I"⟩ ⟨"LieCandlesModel", "twoAt", "(I)I"⟩ ∈ jl_tbl := jl_mem 135 (by decide +kernel) rfl
theorem jc_0 : jl_CF 0 RX0 TX0 6 tyX0 := ⟨rfl, jl_memR [200, 202, 204, 206, 208, 210] (by decide +kernel) (by decide +kernel), tyX0_ok, nmX0, by decide +kernel, by decide⟩
theorem jc_1 : jl_CF 1 RX1 TX1 8 tyX1 := ⟨rfl, jl_memR [497, 499, 501, 503, 505, 507, 509, 511] (by decide +kernel) (by decide +kernel), tyX1_ok, nmX1, by decide +kernel, by decide⟩
theorem jc_2 : jl_CF 2 RX2 TX2 4 tyX2 := ⟨rfl, jl_memR [414, 416, 418, 420] (by decide +kernel) (by decide +kernel), tyX2_ok, nmX2, by decide +kernel, by decide⟩
theorem jc_3 : jl_CF 3 RX3 TX3 4 tyX3 := ⟨rfl, jl_memR [440, 442, 444, 446] (by decide +kernel) (by decide +kernel), tyX3_ok, nmX3, by decide +kernel, by decide⟩
theorem jc_4 : jl_CF 4 RX4 TX4 9 tyX4 := ⟨rfl, jl_memR [335, 337, 339, 341, 343, 345, 347, 349, 351] (by decide +kernel) (by decide +kernel), tyX4_ok, nmX4, by decide +kernel, by decide⟩
theorem jc_5 : jl_CF 5 RX5 TX5 5 tyX5 := ⟨rfl, jl_memR [463, 465, 467, 469, 471] (by decide +kernel) (by decide +kernel), tyX5_ok, nmX5, by decide +kernel, by decide⟩
theorem jc_6 : jl_CF 6 RX6 TX6 11 tyX6 := ⟨rfl, jl_memR [537, 539, 541, 543, 545, 547, 549, 551, 553, 555, 557] (by decide +kernel) (by decide +kernel), tyX6_ok, nmX6, by decide +kernel, by decide⟩
theorem jc_7 : jl_CF 7 RX7 TX7 5 tyX7 := ⟨rfl, jl_memR [392, 394, 396, 398, 400] (by decide +kernel) (by decide +kernel), tyX7_ok, nmX7, by decide +kernel, by decide⟩
theorem jc_8 : jl_CF 8 RX8 TX8 17 tyX8 := ⟨rfl, jl_memR [280, 282, 284, 286, 288, 290, 292, 294, 296, 298, 300, 302, 304, 306, 308, 310, 312] (by decide +kernel) (by decide +kernel), tyX8_ok, nmX8, by decide +kernel, by decide⟩
theorem jc_9 : jl_CF 9 RX9 TX9 2 tyX9 := ⟨rfl, jl_memR [362, 364] (by decide +kernel) (by decide +kernel), tyX9_ok, nmX9, by decide +kernel, by decide⟩
theorem jc_10 : jl_CF 10 RX10 TX10 2 tyX10 := ⟨rfl, jl_memR [178, 180] (by decide +kernel) (by decide +kernel), tyX10_ok, nmX10, by decide +kernel, by decide⟩
theorem jc_11 : jl_CF 11 RX11 TX11 18 tyX11 := ⟨rfl, jl_memR [578, 580, 582, 584, 586, 588, 590, 592, 594, 596, 598, 600, 602, 604, 606, 608, 610, 612] (by decide +kernel) (by decide +kernel), tyX11_ok, nmX11, by decide +kernel, by decide⟩
theorem jc_12 : jl_CF 12 RX12 TX12 111 tyX12 := ⟨rfl, jl_memR [1452, 1454, 1456, 1458, 1460, 1462, 1464, 1466, 1468, 1470, 1472, 1474, 1476, 1478, 1480, 1482, 1484, 1486, 1488, 1490, 1492, 1494, 1496, 1498, 1500, 1502, 1504, 1506, 1508, 1510, 1512, 1514, 1516, 1518, 1520, 1522, 1524, 1526, 1528, 1530, 1532, 1534, 1536, 1538, 1540, 1542, 1544, 1546, 1548, 1550, 1552, 1554, 1556, 1558, 1560, 1562, 1564, 1566, 1568, 1570, 1572, 1574, 1576, 1578, 1580, 1582, 1584, 1586, 1588, 1590, 1592, 1594, 1596, 1598, 1600, 1602, 1604, 1606, 1608, 1610, 1612, 1614, 1616, 1618, 1620, 1622, 1624, 1626, 1628, 1630, 1632, 1634, 1636, 1638, 1640, 1642, 1644, 1646, 1648, 1650, 1652, 1654, 1656, 1658, 1660, 1662, 1664, 1666, 1668, 1670, 1672] (by decide +kernel) (by decide +kernel), tyX12_ok, nmX12, by decide +kernel, by decide⟩
theorem jk_0 : jl_kd 0 = (11, 18) := by decide +kernel
theorem jk_1 : jl_kd 1 = (10, 2) := by decide +kernel
theorem jk_2 : jl_kd 2 = (20, 1600) := by decide +kernel
theorem jk_3 : jl_kd 3 = (0, 6) := by decide +kernel
theorem jk_4 : jl_kd 4 = (20, 1608) := by decide +kernel
theorem jk_5 : jl_kd 5 = (20, 3) := by decide +kernel
theorem jk_6 : jl_kd 6 = (20, 3) := by decide +kernel
theorem jk_7 : jl_kd 7 = (20, 3) := by decide +kernel
theorem jk_8 : jl_kd 8 = (8, 17) := by decide +kernel
theorem jk_9 : jl_kd 9 = (20, 6) := by decide +kernel
theorem jk_10 : jl_kd 10 = (20, 6) := by decide +kernel
theorem jk_11 : jl_kd 11 = (20, 6) := by decide +kernel
theorem jk_12 : jl_kd 12 = (20, 8) := by decide +kernel
theorem jk_13 : jl_kd 13 = (20, 8) := by decide +kernel
theorem jk_14 : jl_kd 14 = (20, 8) := by decide +kernel
theorem jk_15 : jl_kd 15 = (20, 16) := by decide +kernel
theorem jk_16 : jl_kd 16 = (20, 16) := by decide +kernel
theorem jk_17 : jl_kd 17 = (20, 16) := by decide +kernel
theorem jk_18 : jl_kd 18 = (0, 6) := by decide +kernel
theorem jk_19 : jl_kd 19 = (20, 1608) := by decide +kernel
theorem jk_20 : jl_kd 20 = (20, 3) := by decide +kernel
theorem jk_21 : jl_kd 21 = (20, 3) := by decide +kernel
theorem jk_22 : jl_kd 22 = (20, 3) := by decide +kernel
theorem jk_23 : jl_kd 23 = (8, 17) := by decide +kernel
theorem jk_24 : jl_kd 24 = (20, 6) := by decide +kernel
theorem jk_25 : jl_kd 25 = (20, 6) := by decide +kernel
theorem jk_26 : jl_kd 26 = (20, 6) := by decide +kernel
theorem jk_27 : jl_kd 27 = (20, 8) := by decide +kernel
theorem jk_28 : jl_kd 28 = (20, 8) := by decide +kernel
theorem jk_29 : jl_kd 29 = (20, 8) := by decide +kernel
theorem jk_30 : jl_kd 30 = (20, 16) := by decide +kernel
theorem jk_31 : jl_kd 31 = (20, 16) := by decide +kernel
theorem jk_32 : jl_kd 32 = (20, 16) := by decide +kernel
theorem jk_33 : jl_kd 33 = (0, 6) := by decide +kernel
theorem jk_34 : jl_kd 34 = (20, 1608) := by decide +kernel
theorem jk_35 : jl_kd 35 = (20, 3) := by decide +kernel
theorem jk_36 : jl_kd 36 = (20, 3) := by decide +kernel
theorem jk_37 : jl_kd 37 = (20, 3) := by decide +kernel
theorem jk_38 : jl_kd 38 = (4, 9) := by decide +kernel
theorem jk_39 : jl_kd 39 = (9, 2) := by decide +kernel
theorem jk_40 : jl_kd 40 = (7, 5) := by decide +kernel
theorem jk_41 : jl_kd 41 = (20, 6) := by decide +kernel
theorem jk_42 : jl_kd 42 = (20, 8) := by decide +kernel
theorem jk_43 : jl_kd 43 = (20, 8) := by decide +kernel
theorem jk_44 : jl_kd 44 = (2, 4) := by decide +kernel
theorem jk_45 : jl_kd 45 = (20, 40) := by decide +kernel
theorem jk_46 : jl_kd 46 = (20, 40) := by decide +kernel
theorem jk_47 : jl_kd 47 = (3, 4) := by decide +kernel
theorem jk_48 : jl_kd 48 = (24, 20) := by decide +kernel
theorem jk_49 : jl_kd 49 = (25, 20) := by decide +kernel
theorem jk_50 : jl_kd 50 = (7, 5) := by decide +kernel
theorem jk_51 : jl_kd 51 = (20, 6) := by decide +kernel
theorem jk_52 : jl_kd 52 = (20, 8) := by decide +kernel
theorem jk_53 : jl_kd 53 = (20, 8) := by decide +kernel
theorem jk_54 : jl_kd 54 = (2, 4) := by decide +kernel
theorem jk_55 : jl_kd 55 = (20, 40) := by decide +kernel
theorem jk_56 : jl_kd 56 = (20, 40) := by decide +kernel
theorem jk_57 : jl_kd 57 = (7, 5) := by decide +kernel
theorem jk_58 : jl_kd 58 = (20, 6) := by decide +kernel
theorem jk_59 : jl_kd 59 = (20, 8) := by decide +kernel
theorem jk_60 : jl_kd 60 = (20, 8) := by decide +kernel
theorem jk_61 : jl_kd 61 = (2, 4) := by decide +kernel
theorem jk_62 : jl_kd 62 = (20, 40) := by decide +kernel
theorem jk_63 : jl_kd 63 = (20, 40) := by decide +kernel
theorem jk_64 : jl_kd 64 = (7, 5) := by decide +kernel
theorem jk_65 : jl_kd 65 = (20, 6) := by decide +kernel
theorem jk_66 : jl_kd 66 = (20, 8) := by decide +kernel
theorem jk_67 : jl_kd 67 = (20, 8) := by decide +kernel
theorem jk_68 : jl_kd 68 = (2, 4) := by decide +kernel
theorem jk_69 : jl_kd 69 = (20, 40) := by decide +kernel
theorem jk_70 : jl_kd 70 = (20, 40) := by decide +kernel
theorem jk_71 : jl_kd 71 = (7, 5) := by decide +kernel
theorem jk_72 : jl_kd 72 = (20, 6) := by decide +kernel
theorem jk_73 : jl_kd 73 = (20, 8) := by decide +kernel
theorem jk_74 : jl_kd 74 = (20, 8) := by decide +kernel
theorem jk_75 : jl_kd 75 = (2, 4) := by decide +kernel
theorem jk_76 : jl_kd 76 = (20, 40) := by decide +kernel
theorem jk_77 : jl_kd 77 = (20, 40) := by decide +kernel
theorem jk_78 : jl_kd 78 = (7, 5) := by decide +kernel
theorem jk_79 : jl_kd 79 = (20, 6) := by decide +kernel
theorem jk_80 : jl_kd 80 = (20, 8) := by decide +kernel
theorem jk_81 : jl_kd 81 = (20, 8) := by decide +kernel
theorem jk_82 : jl_kd 82 = (2, 4) := by decide +kernel
theorem jk_83 : jl_kd 83 = (20, 40) := by decide +kernel
theorem jk_84 : jl_kd 84 = (20, 40) := by decide +kernel
theorem jk_85 : jl_kd 85 = (7, 5) := by decide +kernel
theorem jk_86 : jl_kd 86 = (20, 6) := by decide +kernel
theorem jk_87 : jl_kd 87 = (20, 8) := by decide +kernel
theorem jk_88 : jl_kd 88 = (20, 8) := by decide +kernel
theorem jk_89 : jl_kd 89 = (2, 4) := by decide +kernel
theorem jk_90 : jl_kd 90 = (20, 40) := by decide +kernel
theorem jk_91 : jl_kd 91 = (20, 40) := by decide +kernel
theorem jk_92 : jl_kd 92 = (7, 5) := by decide +kernel
theorem jk_93 : jl_kd 93 = (20, 6) := by decide +kernel
theorem jk_94 : jl_kd 94 = (20, 8) := by decide +kernel
theorem jk_95 : jl_kd 95 = (20, 8) := by decide +kernel
theorem jk_96 : jl_kd 96 = (2, 4) := by decide +kernel
theorem jk_97 : jl_kd 97 = (20, 40) := by decide +kernel
theorem jk_98 : jl_kd 98 = (20, 40) := by decide +kernel
theorem jk_99 : jl_kd 99 = (7, 5) := by decide +kernel
theorem jk_100 : jl_kd 100 = (20, 6) := by decide +kernel
theorem jk_101 : jl_kd 101 = (20, 8) := by decide +kernel
theorem jk_102 : jl_kd 102 = (20, 8) := by decide +kernel
theorem jk_103 : jl_kd 103 = (2, 4) := by decide +kernel
theorem jk_104 : jl_kd 104 = (20, 40) := by decide +kernel
theorem jk_105 : jl_kd 105 = (20, 40) := by decide +kernel
theorem jk_106 : jl_kd 106 = (7, 5) := by decide +kernel
theorem jk_107 : jl_kd 107 = (20, 6) := by decide +kernel
theorem jk_108 : jl_kd 108 = (20, 8) := by decide +kernel
theorem jk_109 : jl_kd 109 = (20, 8) := by decide +kernel
theorem jk_110 : jl_kd 110 = (2, 4) := by decide +kernel
theorem jk_111 : jl_kd 111 = (20, 40) := by decide +kernel
theorem jk_112 : jl_kd 112 = (20, 40) := by decide +kernel
theorem jk_113 : jl_kd 113 = (7, 5) := by decide +kernel
theorem jk_114 : jl_kd 114 = (20, 6) := by decide +kernel
theorem jk_115 : jl_kd 115 = (20, 8) := by decide +kernel
theorem jk_116 : jl_kd 116 = (20, 8) := by decide +kernel
theorem jk_117 : jl_kd 117 = (2, 4) := by decide +kernel
theorem jk_118 : jl_kd 118 = (20, 40) := by decide +kernel
theorem jk_119 : jl_kd 119 = (20, 40) := by decide +kernel
theorem jk_120 : jl_kd 120 = (7, 5) := by decide +kernel
theorem jk_121 : jl_kd 121 = (20, 6) := by decide +kernel
theorem jk_122 : jl_kd 122 = (20, 8) := by decide +kernel
theorem jk_123 : jl_kd 123 = (20, 8) := by decide +kernel
theorem jk_124 : jl_kd 124 = (2, 4) := by decide +kernel
theorem jk_125 : jl_kd 125 = (20, 40) := by decide +kernel
theorem jk_126 : jl_kd 126 = (20, 40) := by decide +kernel
theorem jk_127 : jl_kd 127 = (7, 5) := by decide +kernel
theorem jk_128 : jl_kd 128 = (20, 6) := by decide +kernel
theorem jk_129 : jl_kd 129 = (20, 8) := by decide +kernel
theorem jk_130 : jl_kd 130 = (20, 8) := by decide +kernel
theorem jk_131 : jl_kd 131 = (2, 4) := by decide +kernel
theorem jk_132 : jl_kd 132 = (20, 40) := by decide +kernel
theorem jk_133 : jl_kd 133 = (20, 40) := by decide +kernel
theorem jk_134 : jl_kd 134 = (7, 5) := by decide +kernel
theorem jk_135 : jl_kd 135 = (20, 6) := by decide +kernel
theorem jk_136 : jl_kd 136 = (20, 8) := by decide +kernel
theorem jk_137 : jl_kd 137 = (20, 8) := by decide +kernel
theorem jk_138 : jl_kd 138 = (2, 4) := by decide +kernel
theorem jk_139 : jl_kd 139 = (20, 40) := by decide +kernel
theorem jk_140 : jl_kd 140 = (20, 40) := by decide +kernel
theorem jk_141 : jl_kd 141 = (7, 5) := by decide +kernel
theorem jk_142 : jl_kd 142 = (20, 6) := by decide +kernel
theorem jk_143 : jl_kd 143 = (20, 8) := by decide +kernel
theorem jk_144 : jl_kd 144 = (20, 8) := by decide +kernel
theorem jk_145 : jl_kd 145 = (2, 4) := by decide +kernel
theorem jk_146 : jl_kd 146 = (20, 40) := by decide +kernel
theorem jk_147 : jl_kd 147 = (20, 40) := by decide +kernel
theorem jk_148 : jl_kd 148 = (7, 5) := by decide +kernel
theorem jk_149 : jl_kd 149 = (20, 6) := by decide +kernel
theorem jk_150 : jl_kd 150 = (20, 8) := by decide +kernel
theorem jk_151 : jl_kd 151 = (20, 8) := by decide +kernel
theorem jk_152 : jl_kd 152 = (2, 4) := by decide +kernel
theorem jk_153 : jl_kd 153 = (20, 40) := by decide +kernel
theorem jk_154 : jl_kd 154 = (20, 40) := by decide +kernel
theorem jk_155 : jl_kd 155 = (7, 5) := by decide +kernel
theorem jk_156 : jl_kd 156 = (20, 6) := by decide +kernel
theorem jk_157 : jl_kd 157 = (20, 8) := by decide +kernel
theorem jk_158 : jl_kd 158 = (20, 8) := by decide +kernel
theorem jk_159 : jl_kd 159 = (2, 4) := by decide +kernel
theorem jk_160 : jl_kd 160 = (20, 40) := by decide +kernel
theorem jk_161 : jl_kd 161 = (20, 40) := by decide +kernel
theorem jk_162 : jl_kd 162 = (7, 5) := by decide +kernel
theorem jk_163 : jl_kd 163 = (20, 6) := by decide +kernel
theorem jk_164 : jl_kd 164 = (20, 8) := by decide +kernel
theorem jk_165 : jl_kd 165 = (20, 8) := by decide +kernel
theorem jk_166 : jl_kd 166 = (2, 4) := by decide +kernel
theorem jk_167 : jl_kd 167 = (20, 40) := by decide +kernel
theorem jk_168 : jl_kd 168 = (20, 40) := by decide +kernel
theorem jk_169 : jl_kd 169 = (7, 5) := by decide +kernel
theorem jk_170 : jl_kd 170 = (20, 6) := by decide +kernel
theorem jk_171 : jl_kd 171 = (20, 8) := by decide +kernel
theorem jk_172 : jl_kd 172 = (20, 8) := by decide +kernel
theorem jk_173 : jl_kd 173 = (2, 4) := by decide +kernel
theorem jk_174 : jl_kd 174 = (20, 40) := by decide +kernel
theorem jk_175 : jl_kd 175 = (20, 40) := by decide +kernel
theorem jk_176 : jl_kd 176 = (7, 5) := by decide +kernel
theorem jk_177 : jl_kd 177 = (20, 6) := by decide +kernel
theorem jk_178 : jl_kd 178 = (20, 8) := by decide +kernel
theorem jk_179 : jl_kd 179 = (20, 8) := by decide +kernel
theorem jk_180 : jl_kd 180 = (2, 4) := by decide +kernel
theorem jk_181 : jl_kd 181 = (20, 40) := by decide +kernel
theorem jk_182 : jl_kd 182 = (20, 40) := by decide +kernel
theorem jk_183 : jl_kd 183 = (7, 5) := by decide +kernel
theorem jk_184 : jl_kd 184 = (20, 6) := by decide +kernel
theorem jk_185 : jl_kd 185 = (20, 8) := by decide +kernel
theorem jk_186 : jl_kd 186 = (20, 8) := by decide +kernel
theorem jk_187 : jl_kd 187 = (2, 4) := by decide +kernel
theorem jk_188 : jl_kd 188 = (20, 40) := by decide +kernel
theorem jk_189 : jl_kd 189 = (20, 40) := by decide +kernel
theorem jk_190 : jl_kd 190 = (5, 5) := by decide +kernel
theorem jk_191 : jl_kd 191 = (20, 128) := by decide +kernel
theorem jk_192 : jl_kd 192 = (20, 24) := by decide +kernel
theorem jk_193 : jl_kd 193 = (20, 8) := by decide +kernel
theorem jk_194 : jl_kd 194 = (20, 30) := by decide +kernel
theorem jk_195 : jl_kd 195 = (1, 8) := by decide +kernel
theorem jk_196 : jl_kd 196 = (7, 5) := by decide +kernel
theorem jk_197 : jl_kd 197 = (20, 6) := by decide +kernel
theorem jk_198 : jl_kd 198 = (20, 8) := by decide +kernel
theorem jk_199 : jl_kd 199 = (20, 8) := by decide +kernel
theorem jk_200 : jl_kd 200 = (6, 11) := by decide +kernel
theorem jk_201 : jl_kd 201 = (20, 48) := by decide +kernel
theorem jk_202 : jl_kd 202 = (20, 99) := by decide +kernel
theorem jk_203 : jl_kd 203 = (20, 1620) := by decide +kernel
theorem jk_204 : jl_kd 204 = (20, 27) := by decide +kernel
theorem jk_205 : jl_kd 205 = (20, 6) := by decide +kernel
theorem jk_206 : jl_kd 206 = (12, 111) := by decide +kernel
theorem jk_207 : jl_kd 207 = (20, 1600) := by decide +kernel
theorem jk_208 : jl_kd 208 = (20, 6) := by decide +kernel
theorem jk_209 : jl_kd 209 = (22, 6) := by decide +kernel
theorem jk_210 : jl_kd 210 = (22, 6) := by decide +kernel
theorem jk_211 : jl_kd 211 = (22, 2) := by decide +kernel
theorem jk_212 : jl_kd 212 = (22, 5) := by decide +kernel
theorem jk_213 : jl_kd 213 = (22, 3) := by decide +kernel
theorem jk_214 : jl_kd 214 = (22, 2) := by decide +kernel
theorem jk_215 : jl_kd 215 = (22, 5) := by decide +kernel
theorem jk_216 : jl_kd 216 = (22, 2) := by decide +kernel
theorem jk_217 : jl_kd 217 = (22, 5) := by decide +kernel
theorem jk_218 : jl_kd 218 = (22, 3) := by decide +kernel
theorem jk_219 : jl_kd 219 = (22, 6) := by decide +kernel
theorem jk_220 : jl_kd 220 = (22, 6) := by decide +kernel
theorem jk_221 : jl_kd 221 = (22, 5) := by decide +kernel
theorem jk_222 : jl_kd 222 = (22, 8) := by decide +kernel
theorem jk_223 : jl_kd 223 = (22, 4) := by decide +kernel
theorem jk_224 : jl_kd 224 = (22, 6) := by decide +kernel
theorem jk_225 : jl_kd 225 = (22, 4) := by decide +kernel
theorem jk_226 : jl_kd 226 = (22, 5) := by decide +kernel
theorem jk_227 : jl_kd 227 = (22, 4) := by decide +kernel
theorem jk_228 : jl_kd 228 = (22, 4) := by decide +kernel
theorem jk_229 : jl_kd 229 = (22, 5) := by decide +kernel
theorem jk_230 : jl_kd 230 = (22, 6) := by decide +kernel
theorem jk_231 : jl_kd 231 = (22, 3) := by decide +kernel
theorem jk_232 : jl_kd 232 = (22, 4) := by decide +kernel
theorem jk_233 : jl_kd 233 = (22, 3) := by decide +kernel
theorem jk_234 : jl_kd 234 = (22, 4) := by decide +kernel
theorem jk_235 : jl_kd 235 = (22, 2) := by decide +kernel
theorem jk_236 : jl_kd 236 = (22, 3) := by decide +kernel
theorem jk_237 : jl_kd 237 = (22, 3) := by decide +kernel
theorem jk_238 : jl_kd 238 = (22, 3) := by decide +kernel
theorem jk_239 : jl_kd 239 = (22, 3) := by decide +kernel
theorem jk_240 : jl_kd 240 = (22, 3) := by decide +kernel
theorem jk_241 : jl_kd 241 = (20, 12) := by decide +kernel
theorem jk_242 : jl_kd 242 = (21, 32) := by decide +kernel
theorem jk_243 : jl_kd 243 = (20, 24) := by decide +kernel
theorem jk_244 : jl_kd 244 = (20, 32) := by decide +kernel
theorem jk_245 : jl_kd 245 = (20, 96) := by decide +kernel
theorem jk_246 : jl_kd 246 = (20, 6) := by decide +kernel
theorem jk_247 : jl_kd 247 = (20, 6) := by decide +kernel
theorem jk_248 : jl_kd 248 = (20, 3200) := by decide +kernel
theorem jk_249 : jl_kd 249 = (20, 105) := by decide +kernel
theorem jk_250 : jl_kd 250 = (20, 30) := by decide +kernel
theorem jk_251 : jl_kd 251 = (20, 8) := by decide +kernel
theorem jk_252 : jl_kd 252 = (20, 24) := by decide +kernel
theorem jk_253 : jl_kd 253 = (20, 48) := by decide +kernel
theorem jk_254 : jl_kd 254 = (23, 100) := by decide +kernel
theorem jk_255 : jl_kd 255 = (20, 93000) := by decide +kernel
theorem jk_256 : jl_kd 256 = (20, 9) := by decide +kernel
theorem jk_257 : jl_kd 257 = (20, 2100) := by decide +kernel
theorem jk_258 : jl_kd 258 = (22, 5) := by decide +kernel
theorem jk_259 : jl_kd 259 = (22, 4) := by decide +kernel
theorem jk_260 : jl_kd 260 = (22, 5) := by decide +kernel
theorem jk_261 : jl_kd 261 = (22, 5) := by decide +kernel
theorem jk_262 : jl_kd 262 = (22, 4) := by decide +kernel
theorem jk_263 : jl_kd 263 = (22, 5) := by decide +kernel
theorem jk_264 : jl_kd 264 = (22, 3) := by decide +kernel
theorem jk_265 : jl_kd 265 = (22, 3) := by decide +kernel
theorem jk_266 : jl_kd 266 = (22, 2) := by decide +kernel
theorem jk_267 : jl_kd 267 = (22, 3) := by decide +kernel
theorem jk_268 : jl_kd 268 = (22, 3) := by decide +kernel
theorem jk_269 : jl_kd 269 = (22, 3) := by decide +kernel
theorem jk_270 : jl_kd 270 = (22, 4) := by decide +kernel
theorem jk_271 : jl_kd 271 = (22, 5) := by decide +kernel
theorem jk_272 : jl_kd 272 = (22, 6) := by decide +kernel
theorem jk_273 : jl_kd 273 = (22, 4) := by decide +kernel
theorem jk_274 : jl_kd 274 = (22, 5) := by decide +kernel
theorem jk_275 : jl_kd 275 = (22, 4) := by decide +kernel
theorem jk_276 : jl_kd 276 = (22, 5) := by decide +kernel
theorem jk_277 : jl_kd 277 = (22, 6) := by decide +kernel
theorem jk_278 : jl_kd 278 = (22, 3) := by decide +kernel
theorem jk_279 : jl_kd 279 = (22, 4) := by decide +kernel
theorem jk_280 : jl_kd 280 = (22, 3) := by decide +kernel
theorem jk_281 : jl_kd 281 = (22, 4) := by decide +kernel
theorem jk_282 : jl_kd 282 = (20, 1700) := by decide +kernel
theorem jk_283 : jl_kd 283 = (20, 1700) := by decide +kernel
theorem jk_284 : jl_kd 284 = (21, 1700) := by decide +kernel
theorem jk_285 : jl_kd 285 = (20, 27) := by decide +kernel
