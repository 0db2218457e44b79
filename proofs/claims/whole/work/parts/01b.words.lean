theorem tbl1 : tables_1_1.length = 240 := by rfl
theorem tbl2 : tables_1_2.length = 240 := by rfl
theorem tbl3 : tables_1_3.length = 240 := by rfl
theorem tbl4 : tables_1_4.length = 240 := by rfl
theorem tbap {a b : List Cond} {n j : Nat} {w : Cond} (hn : a.length = n) (h : b[j]? = some w) : (a ++ b)[n + j]? = some w := by
  rw [List.getElem?_append_right (by omega), hn]
  have : n + j - n = j := by omega
  rw [this]; exact h
theorem tbal {a b : List Cond} {j : Nat} {w : Cond} (h : a[j]? = some w) : (a ++ b)[j]? = some w := by
  rw [List.getElem?_append_left (List.getElem?_eq_some_iff.mp h).1]; exact h
theorem tbk1 {j : Nat} {w : Cond} (h : tables_1_1[j]? = some w) : tables_1[j]? = some w := tbal h
theorem tbk2 {j : Nat} {w : Cond} (h : tables_1_2[j]? = some w) : tables_1[240 + j]? = some w := tbap tbl1 (tbal h)
theorem tbk3 {j : Nat} {w : Cond} (h : tables_1_3[j]? = some w) : tables_1[240 + (240 + j)]? = some w := tbap tbl1 (tbap tbl2 (tbal h))
theorem tbk4 {j : Nat} {w : Cond} (h : tables_1_4[j]? = some w) : tables_1[240 + (240 + (240 + j))]? = some w := tbap tbl1 (tbap tbl2 (tbap tbl3 (tbal h)))
theorem tbk5 {j : Nat} {w : Cond} (h : tables_1_5[j]? = some w) : tables_1[240 + (240 + (240 + (240 + j)))]? = some w := tbap tbl1 (tbap tbl2 (tbap tbl3 (tbap tbl4 h)))
set_option maxRecDepth 100000 in
theorem tb_0 : tables_1[0]? = some (Jvm.Cond.initialized "SortUtilityLaw") := tbk1 (j := 0) rfl
set_option maxRecDepth 100000 in
theorem tb_1 : tables_1[1]? = some (Jvm.Cond.initialized "SortUtility") := tbk1 (j := 1) rfl
set_option maxRecDepth 100000 in
theorem tb_2 : tables_1[2]? = some (Jvm.Cond.initialized "SortUtility$Statements") := tbk1 (j := 2) rfl
set_option maxRecDepth 100000 in
theorem tb_3 : tables_1[3]? = some (Jvm.Cond.initialized "java/util/AbstractCollection") := tbk1 (j := 3) rfl
set_option maxRecDepth 100000 in
theorem tb_4 : tables_1[4]? = some (Jvm.Cond.initialized "java/util/AbstractList") := tbk1 (j := 4) rfl
set_option maxRecDepth 100000 in
theorem tb_5 : tables_1[5]? = some (Jvm.Cond.initialized "java/util/ArrayList") := tbk1 (j := 5) rfl
set_option maxRecDepth 100000 in
theorem tb_6 : tables_1[6]? = some (Jvm.Cond.initialized "SortUtility$Rows") := tbk1 (j := 6) rfl
set_option maxRecDepth 100000 in
theorem tb_7 : tables_1[7]? = some (Jvm.Cond.initialized "SortUtility$Row") := tbk1 (j := 7) rfl
set_option maxRecDepth 100000 in
theorem tb_8 : tables_1[8]? = some (Jvm.Cond.initialized "SortUtilityModel") := tbk1 (j := 8) rfl
set_option maxRecDepth 100000 in
theorem tb_9 : tables_1[9]? = some (Jvm.Cond.initialized "SortUtility$Reader") := tbk1 (j := 9) rfl
set_option maxRecDepth 100000 in
theorem tb_10 : tables_1[10]? = some (Jvm.Cond.initialized "java/lang/Math") := tbk1 (j := 10) rfl
set_option maxRecDepth 100000 in
theorem tb_11 : tables_1[11]? = some (Jvm.Cond.initialized "java/lang/String") := tbk1 (j := 11) rfl
set_option maxRecDepth 100000 in
theorem tb_12 : tables_1[12]? = some (Jvm.Cond.initialized "java/lang/StringLatin1") := tbk1 (j := 12) rfl
set_option maxRecDepth 100000 in
theorem tb_13 : tables_1[13]? = some (Jvm.Cond.initialized "jdk/internal/util/Preconditions") := tbk1 (j := 13) rfl
set_option maxRecDepth 100000 in
theorem tb_14 : tables_1[14]? = some (Jvm.Cond.initialized "java/lang/StringUTF16") := tbk1 (j := 14) rfl
set_option maxRecDepth 100000 in
theorem tb_15 : tables_1[15]? = some (Jvm.Cond.initialized "java/lang/Throwable") := tbk1 (j := 15) rfl
set_option maxRecDepth 100000 in
theorem tb_16 : tables_1[16]? = some (Jvm.Cond.initialized "java/lang/Exception") := tbk1 (j := 16) rfl
set_option maxRecDepth 100000 in
theorem tb_17 : tables_1[17]? = some (Jvm.Cond.initialized "java/lang/RuntimeException") := tbk1 (j := 17) rfl
set_option maxRecDepth 100000 in
theorem tb_18 : tables_1[18]? = some (Jvm.Cond.initialized "java/lang/IllegalArgumentException") := tbk1 (j := 18) rfl
set_option maxRecDepth 100000 in
theorem tb_19 : tables_1[19]? = some (Jvm.Cond.initialized "SortUtility$1") := tbk1 (j := 19) rfl
set_option maxRecDepth 100000 in
theorem tb_20 : tables_1[20]? = some (Jvm.Cond.initialized "SortUtility$Part") := tbk1 (j := 20) rfl
set_option maxRecDepth 100000 in
theorem tb_21 : tables_1[21]? = some (Jvm.Cond.initialized "SortUtility$Key") := tbk1 (j := 21) rfl
set_option maxRecDepth 100000 in
theorem tb_22 : tables_1[22]? = some (Jvm.Cond.initialized "jdk/internal/util/ArraysSupport") := tbk1 (j := 22) rfl
set_option maxRecDepth 100000 in
theorem tb_23 : tables_1[23]? = some (Jvm.Cond.initialized "java/util/Arrays") := tbk1 (j := 23) rfl
set_option maxRecDepth 100000 in
theorem tb_24 : tables_1[24]? = some (Jvm.Cond.initialized "java/lang/System") := tbk1 (j := 24) rfl
set_option maxRecDepth 100000 in
theorem tb_25 : tables_1[25]? = some (Jvm.Cond.initialized "SortUtility$Test") := tbk1 (j := 25) rfl
set_option maxRecDepth 100000 in
theorem tb_26 : tables_1[26]? = some (Jvm.Cond.initialized "java/util/Objects") := tbk1 (j := 26) rfl
set_option maxRecDepth 100000 in
theorem tb_27 : tables_1[27]? = some (Jvm.Cond.initialized "java/lang/IndexOutOfBoundsException") := tbk1 (j := 27) rfl
set_option maxRecDepth 100000 in
theorem tb_28 : tables_1[28]? = some (Jvm.Cond.initialized "java/lang/ArrayIndexOutOfBoundsException") := tbk1 (j := 28) rfl
set_option maxRecDepth 100000 in
theorem tb_29 : tables_1[29]? = some (Jvm.Cond.classLink "SortUtilityLaw" (8 : Nat) "SortUtility") := tbk1 (j := 29) rfl
set_option maxRecDepth 100000 in
theorem tb_30 : tables_1[30]? = some (Jvm.Cond.instantiable "SortUtility" (15 : Nat)) := tbk1 (j := 30) rfl
set_option maxRecDepth 100000 in
theorem tb_31 : tables_1[31]? = some (Jvm.Cond.methodLink "SortUtilityLaw" (15 : Nat) ({ cls := "SortUtility", name := "<init>", desc := "()V" } : Jvm.MethodName)) := tbk1 (j := 31) rfl
set_option maxRecDepth 100000 in
theorem tb_32 : tables_1[32]? = some (Jvm.Cond.instanceMethod ({ cls := "SortUtility", name := "<init>", desc := "()V" } : Jvm.MethodName)) := tbk1 (j := 32) rfl
set_option maxRecDepth 100000 in
theorem tb_33 : tables_1[33]? = some (Jvm.Cond.code ({ cls := "SortUtility", name := "<init>", desc := "()V" } : Jvm.MethodName) prog_1_method_1_code (1 : Nat) (Option.none : Option Jvm.ClassFile.FieldType)) := tbk1 (j := 33) rfl
set_option maxRecDepth 100000 in
theorem tb_34 : tables_1[34]? = some (Jvm.Cond.methodLink "SortUtility" (1 : Nat) ({ cls := "java/lang/Object", name := "<init>", desc := "()V" } : Jvm.MethodName)) := tbk1 (j := 34) rfl
set_option maxRecDepth 100000 in
theorem tb_35 : tables_1[35]? = some (Jvm.Cond.instanceMethod ({ cls := "java/lang/Object", name := "<init>", desc := "()V" } : Jvm.MethodName)) := tbk1 (j := 35) rfl
set_option maxRecDepth 100000 in
theorem tb_36 : tables_1[36]? = some (Jvm.Cond.code ({ cls := "java/lang/Object", name := "<init>", desc := "()V" } : Jvm.MethodName) object_method_1_code (1 : Nat) (Option.none : Option Jvm.ClassFile.FieldType)) := tbk1 (j := 36) rfl
set_option maxRecDepth 100000 in
theorem tb_37 : tables_1[37]? = some (Jvm.Cond.classLink "SortUtility" (17 : Nat) "SortUtility$Statements") := tbk1 (j := 37) rfl
set_option maxRecDepth 100000 in
theorem tb_38 : tables_1[38]? = some (Jvm.Cond.instantiable "SortUtility$Statements" (8 : Nat)) := tbk1 (j := 38) rfl
set_option maxRecDepth 100000 in
theorem tb_39 : tables_1[39]? = some (Jvm.Cond.methodLinkNest "SortUtility" (19 : Nat) ({ cls := "SortUtility$Statements", name := "<init>", desc := "()V" } : Jvm.MethodName) "SortUtility") := tbk1 (j := 39) rfl
set_option maxRecDepth 100000 in
theorem tb_40 : tables_1[40]? = some (Jvm.Cond.instanceMethod ({ cls := "SortUtility$Statements", name := "<init>", desc := "()V" } : Jvm.MethodName)) := tbk1 (j := 40) rfl
set_option maxRecDepth 100000 in
theorem tb_41 : tables_1[41]? = some (Jvm.Cond.code ({ cls := "SortUtility$Statements", name := "<init>", desc := "()V" } : Jvm.MethodName) prog_8_method_1_code (1 : Nat) (Option.none : Option Jvm.ClassFile.FieldType)) := tbk1 (j := 41) rfl
set_option maxRecDepth 100000 in
theorem tb_42 : tables_1[42]? = some (Jvm.Cond.methodLink "SortUtility$Statements" (3 : Nat) ({ cls := "java/lang/Object", name := "<init>", desc := "()V" } : Jvm.MethodName)) := tbk1 (j := 42) rfl
set_option maxRecDepth 100000 in
theorem tb_43 : tables_1[43]? = some (Jvm.Cond.classLink "SortUtility$Statements" (9 : Nat) "java/util/ArrayList") := tbk1 (j := 43) rfl
set_option maxRecDepth 100000 in
theorem tb_44 : tables_1[44]? = some (Jvm.Cond.instantiable "java/util/ArrayList" (3 : Nat)) := tbk1 (j := 44) rfl
set_option maxRecDepth 100000 in
theorem tb_45 : tables_1[45]? = some (Jvm.Cond.methodLink "SortUtility$Statements" (11 : Nat) ({ cls := "java/util/ArrayList", name := "<init>", desc := "()V" } : Jvm.MethodName)) := tbk1 (j := 45) rfl
set_option maxRecDepth 100000 in
theorem tb_46 : tables_1[46]? = some (Jvm.Cond.instanceMethod ({ cls := "java/util/ArrayList", name := "<init>", desc := "()V" } : Jvm.MethodName)) := tbk1 (j := 46) rfl
set_option maxRecDepth 100000 in
theorem tb_47 : tables_1[47]? = some (Jvm.Cond.code ({ cls := "java/util/ArrayList", name := "<init>", desc := "()V" } : Jvm.MethodName) prog_30_method_2_code (1 : Nat) (Option.none : Option Jvm.ClassFile.FieldType)) := tbk1 (j := 47) rfl
set_option maxRecDepth 100000 in
theorem tb_48 : tables_1[48]? = some (Jvm.Cond.methodLink "java/util/ArrayList" (1 : Nat) ({ cls := "java/util/AbstractList", name := "<init>", desc := "()V" } : Jvm.MethodName)) := tbk1 (j := 48) rfl
set_option maxRecDepth 100000 in
theorem tb_49 : tables_1[49]? = some (Jvm.Cond.instanceMethod ({ cls := "java/util/AbstractList", name := "<init>", desc := "()V" } : Jvm.MethodName)) := tbk1 (j := 49) rfl
set_option maxRecDepth 100000 in
theorem tb_50 : tables_1[50]? = some (Jvm.Cond.code ({ cls := "java/util/AbstractList", name := "<init>", desc := "()V" } : Jvm.MethodName) prog_29_method_1_code (1 : Nat) (Option.none : Option Jvm.ClassFile.FieldType)) := tbk1 (j := 50) rfl
set_option maxRecDepth 100000 in
theorem tb_51 : tables_1[51]? = some (Jvm.Cond.methodLink "java/util/AbstractList" (1 : Nat) ({ cls := "java/util/AbstractCollection", name := "<init>", desc := "()V" } : Jvm.MethodName)) := tbk1 (j := 51) rfl
set_option maxRecDepth 100000 in
theorem tb_52 : tables_1[52]? = some (Jvm.Cond.instanceMethod ({ cls := "java/util/AbstractCollection", name := "<init>", desc := "()V" } : Jvm.MethodName)) := tbk1 (j := 52) rfl
set_option maxRecDepth 100000 in
theorem tb_53 : tables_1[53]? = some (Jvm.Cond.code ({ cls := "java/util/AbstractCollection", name := "<init>", desc := "()V" } : Jvm.MethodName) prog_28_method_1_code (1 : Nat) (Option.none : Option Jvm.ClassFile.FieldType)) := tbk1 (j := 53) rfl
set_option maxRecDepth 100000 in
theorem tb_54 : tables_1[54]? = some (Jvm.Cond.methodLink "java/util/AbstractCollection" (1 : Nat) ({ cls := "java/lang/Object", name := "<init>", desc := "()V" } : Jvm.MethodName)) := tbk1 (j := 54) rfl
set_option maxRecDepth 100000 in
theorem tb_55 : tables_1[55]? = some (Jvm.Cond.fieldLink "java/util/ArrayList" (39 : Nat) "java/util/ArrayList" "DEFAULTCAPACITY_EMPTY_ELEMENTDATA" "[Ljava/lang/Object;") := tbk1 (j := 55) rfl
set_option maxRecDepth 100000 in
theorem tb_56 : tables_1[56]? = some (Jvm.Cond.laysStatic "java/util/ArrayList" "DEFAULTCAPACITY_EMPTY_ELEMENTDATA" "[Ljava/lang/Object;") := tbk1 (j := 56) rfl
set_option maxRecDepth 100000 in
theorem tb_57 : tables_1[57]? = some (Jvm.Cond.fieldLink "java/util/ArrayList" (9 : Nat) "java/util/ArrayList" "elementData" "[Ljava/lang/Object;") := tbk1 (j := 57) rfl
set_option maxRecDepth 100000 in
theorem tb_58 : tables_1[58]? = some (Jvm.Cond.fieldLink "java/util/ArrayList" (48 : Nat) "java/util/ArrayList" "size" "I") := tbk1 (j := 58) rfl
set_option maxRecDepth 100000 in
theorem tb_59 : tables_1[59]? = some (Jvm.Cond.fieldLink "java/util/AbstractList" (7 : Nat) "java/util/AbstractList" "modCount" "I") := tbk1 (j := 59) rfl
set_option maxRecDepth 100000 in
theorem tb_60 : tables_1[60]? = some (Jvm.Cond.fieldLink "java/util/ArrayList" (63 : Nat) "java/util/ArrayList" "modCount" "I") := tbk1 (j := 60) rfl
set_option maxRecDepth 100000 in
theorem tb_61 : tables_1[61]? = some (Jvm.Cond.sameField "java/util/ArrayList" "java/util/AbstractList" "modCount" "I") := tbk1 (j := 61) rfl
set_option maxRecDepth 100000 in
theorem tb_62 : tables_1[62]? = some (Jvm.Cond.lays "java/util/ArrayList" "java/util/ArrayList" "elementData" "[Ljava/lang/Object;") := tbk1 (j := 62) rfl
set_option maxRecDepth 100000 in
theorem tb_63 : tables_1[63]? = some (Jvm.Cond.soleField "java/util/ArrayList" "elementData") := tbk1 (j := 63) rfl
set_option maxRecDepth 100000 in
theorem tb_64 : tables_1[64]? = some (Jvm.Cond.lays "java/util/ArrayList" "java/util/ArrayList" "size" "I") := tbk1 (j := 64) rfl
set_option maxRecDepth 100000 in
theorem tb_65 : tables_1[65]? = some (Jvm.Cond.soleField "java/util/ArrayList" "size") := tbk1 (j := 65) rfl
set_option maxRecDepth 100000 in
theorem tb_66 : tables_1[66]? = some (Jvm.Cond.lays "java/util/ArrayList" "java/util/AbstractList" "modCount" "I") := tbk1 (j := 66) rfl
set_option maxRecDepth 100000 in
theorem tb_67 : tables_1[67]? = some (Jvm.Cond.soleField "java/util/AbstractList" "modCount") := tbk1 (j := 67) rfl
set_option maxRecDepth 100000 in
theorem tb_68 : tables_1[68]? = some (Jvm.Cond.superclass "java/util/ArrayList" "java/util/AbstractList") := tbk1 (j := 68) rfl
set_option maxRecDepth 100000 in
theorem tb_69 : tables_1[69]? = some (Jvm.Cond.arrayClass Jvm.ClassFile.FieldType.int) := tbk1 (j := 69) rfl
set_option maxRecDepth 100000 in
theorem tb_70 : tables_1[70]? = some (Jvm.Cond.fieldLink "SortUtility$Statements" (12 : Nat) "SortUtility$Statements" "keys" "Ljava/util/ArrayList;") := tbk1 (j := 70) rfl
set_option maxRecDepth 100000 in
theorem tb_71 : tables_1[71]? = some (Jvm.Cond.fieldLink "SortUtility$Reader" (108 : Nat) "SortUtility$Statements" "keys" "Ljava/util/ArrayList;") := tbk1 (j := 71) rfl
set_option maxRecDepth 100000 in
theorem tb_72 : tables_1[72]? = some (Jvm.Cond.fieldLink "SortUtility" (144 : Nat) "SortUtility$Statements" "keys" "Ljava/util/ArrayList;") := tbk1 (j := 72) rfl
set_option maxRecDepth 100000 in
theorem tb_73 : tables_1[73]? = some (Jvm.Cond.fieldLink "SortUtility$Statements" (18 : Nat) "SortUtility$Statements" "tests" "Ljava/util/ArrayList;") := tbk1 (j := 73) rfl
set_option maxRecDepth 100000 in
theorem tb_74 : tables_1[74]? = some (Jvm.Cond.fieldLink "SortUtility$Reader" (131 : Nat) "SortUtility$Statements" "tests" "Ljava/util/ArrayList;") := tbk1 (j := 74) rfl
set_option maxRecDepth 100000 in
theorem tb_75 : tables_1[75]? = some (Jvm.Cond.fieldLink "SortUtility" (176 : Nat) "SortUtility$Statements" "tests" "Ljava/util/ArrayList;") := tbk1 (j := 75) rfl
set_option maxRecDepth 100000 in
theorem tb_76 : tables_1[76]? = some (Jvm.Cond.fieldLink "SortUtility$Statements" (21 : Nat) "SortUtility$Statements" "sums" "Ljava/util/ArrayList;") := tbk1 (j := 76) rfl
set_option maxRecDepth 100000 in
theorem tb_77 : tables_1[77]? = some (Jvm.Cond.fieldLink "SortUtility$Reader" (148 : Nat) "SortUtility$Statements" "sums" "Ljava/util/ArrayList;") := tbk1 (j := 77) rfl
set_option maxRecDepth 100000 in
theorem tb_78 : tables_1[78]? = some (Jvm.Cond.fieldLink "SortUtility" (179 : Nat) "SortUtility$Statements" "sums" "Ljava/util/ArrayList;") := tbk1 (j := 78) rfl
set_option maxRecDepth 100000 in
theorem tb_79 : tables_1[79]? = some (Jvm.Cond.fieldLink "SortUtility$Statements" (24 : Nat) "SortUtility$Statements" "pieces" "Ljava/util/ArrayList;") := tbk1 (j := 79) rfl
set_option maxRecDepth 100000 in
theorem tb_80 : tables_1[80]? = some (Jvm.Cond.fieldLink "SortUtility$Reader" (151 : Nat) "SortUtility$Statements" "pieces" "Ljava/util/ArrayList;") := tbk1 (j := 80) rfl
set_option maxRecDepth 100000 in
theorem tb_81 : tables_1[81]? = some (Jvm.Cond.fieldLink "SortUtility" (182 : Nat) "SortUtility$Statements" "pieces" "Ljava/util/ArrayList;") := tbk1 (j := 81) rfl
set_option maxRecDepth 100000 in
theorem tb_82 : tables_1[82]? = some (Jvm.Cond.fieldLink "SortUtility$Statements" (27 : Nat) "SortUtility$Statements" "omits" "Z") := tbk1 (j := 82) rfl
set_option maxRecDepth 100000 in
theorem tb_83 : tables_1[83]? = some (Jvm.Cond.fieldLink "SortUtility$Reader" (76 : Nat) "SortUtility$Statements" "omits" "Z") := tbk1 (j := 83) rfl
set_option maxRecDepth 100000 in
theorem tb_84 : tables_1[84]? = some (Jvm.Cond.fieldLink "SortUtility$Statements" (31 : Nat) "SortUtility$Statements" "skip" "I") := tbk1 (j := 84) rfl
set_option maxRecDepth 100000 in
theorem tb_85 : tables_1[85]? = some (Jvm.Cond.fieldLink "SortUtility$Reader" (89 : Nat) "SortUtility$Statements" "skip" "I") := tbk1 (j := 85) rfl
set_option maxRecDepth 100000 in
theorem tb_86 : tables_1[86]? = some (Jvm.Cond.fieldLink "SortUtility" (185 : Nat) "SortUtility$Statements" "skip" "I") := tbk1 (j := 86) rfl
set_option maxRecDepth 100000 in
theorem tb_87 : tables_1[87]? = some (Jvm.Cond.fieldLink "SortUtility$Statements" (35 : Nat) "SortUtility$Statements" "stop" "I") := tbk1 (j := 87) rfl
set_option maxRecDepth 100000 in
theorem tb_88 : tables_1[88]? = some (Jvm.Cond.fieldLink "SortUtility$Reader" (92 : Nat) "SortUtility$Statements" "stop" "I") := tbk1 (j := 88) rfl
set_option maxRecDepth 100000 in
theorem tb_89 : tables_1[89]? = some (Jvm.Cond.fieldLink "SortUtility" (188 : Nat) "SortUtility$Statements" "stop" "I") := tbk1 (j := 89) rfl
set_option maxRecDepth 100000 in
theorem tb_90 : tables_1[90]? = some (Jvm.Cond.fieldLink "SortUtility$Statements" (38 : Nat) "SortUtility$Statements" "size" "I") := tbk1 (j := 90) rfl
set_option maxRecDepth 100000 in
theorem tb_91 : tables_1[91]? = some (Jvm.Cond.fieldLink "SortUtility$Reader" (38 : Nat) "SortUtility$Statements" "size" "I") := tbk1 (j := 91) rfl
set_option maxRecDepth 100000 in
theorem tb_92 : tables_1[92]? = some (Jvm.Cond.fieldLink "SortUtility" (88 : Nat) "SortUtility$Statements" "size" "I") := tbk1 (j := 92) rfl
set_option maxRecDepth 100000 in
theorem tb_93 : tables_1[93]? = some (Jvm.Cond.laysFinal "SortUtility$Statements" "SortUtility$Statements" "keys" "Ljava/util/ArrayList;") := tbk1 (j := 93) rfl
set_option maxRecDepth 100000 in
theorem tb_94 : tables_1[94]? = some (Jvm.Cond.soleField "SortUtility$Statements" "keys") := tbk1 (j := 94) rfl
set_option maxRecDepth 100000 in
theorem tb_95 : tables_1[95]? = some (Jvm.Cond.laysFinal "SortUtility$Statements" "SortUtility$Statements" "tests" "Ljava/util/ArrayList;") := tbk1 (j := 95) rfl
set_option maxRecDepth 100000 in
theorem tb_96 : tables_1[96]? = some (Jvm.Cond.soleField "SortUtility$Statements" "tests") := tbk1 (j := 96) rfl
set_option maxRecDepth 100000 in
theorem tb_97 : tables_1[97]? = some (Jvm.Cond.laysFinal "SortUtility$Statements" "SortUtility$Statements" "sums" "Ljava/util/ArrayList;") := tbk1 (j := 97) rfl
set_option maxRecDepth 100000 in
theorem tb_98 : tables_1[98]? = some (Jvm.Cond.soleField "SortUtility$Statements" "sums") := tbk1 (j := 98) rfl
set_option maxRecDepth 100000 in
theorem tb_99 : tables_1[99]? = some (Jvm.Cond.laysFinal "SortUtility$Statements" "SortUtility$Statements" "pieces" "Ljava/util/ArrayList;") := tbk1 (j := 99) rfl
set_option maxRecDepth 100000 in
theorem tb_100 : tables_1[100]? = some (Jvm.Cond.soleField "SortUtility$Statements" "pieces") := tbk1 (j := 100) rfl
set_option maxRecDepth 100000 in
theorem tb_101 : tables_1[101]? = some (Jvm.Cond.lays "SortUtility$Statements" "SortUtility$Statements" "omits" "Z") := tbk1 (j := 101) rfl
set_option maxRecDepth 100000 in
theorem tb_102 : tables_1[102]? = some (Jvm.Cond.soleField "SortUtility$Statements" "omits") := tbk1 (j := 102) rfl
set_option maxRecDepth 100000 in
theorem tb_103 : tables_1[103]? = some (Jvm.Cond.lays "SortUtility$Statements" "SortUtility$Statements" "skip" "I") := tbk1 (j := 103) rfl
set_option maxRecDepth 100000 in
theorem tb_104 : tables_1[104]? = some (Jvm.Cond.soleField "SortUtility$Statements" "skip") := tbk1 (j := 104) rfl
set_option maxRecDepth 100000 in
theorem tb_105 : tables_1[105]? = some (Jvm.Cond.lays "SortUtility$Statements" "SortUtility$Statements" "stop" "I") := tbk1 (j := 105) rfl
set_option maxRecDepth 100000 in
theorem tb_106 : tables_1[106]? = some (Jvm.Cond.soleField "SortUtility$Statements" "stop") := tbk1 (j := 106) rfl
set_option maxRecDepth 100000 in
theorem tb_107 : tables_1[107]? = some (Jvm.Cond.lays "SortUtility$Statements" "SortUtility$Statements" "size" "I") := tbk1 (j := 107) rfl
set_option maxRecDepth 100000 in
theorem tb_108 : tables_1[108]? = some (Jvm.Cond.soleField "SortUtility$Statements" "size") := tbk1 (j := 108) rfl
set_option maxRecDepth 100000 in
theorem tb_109 : tables_1[109]? = some (Jvm.Cond.superclass "SortUtility$Statements" "java/lang/Object") := tbk1 (j := 109) rfl
set_option maxRecDepth 100000 in
theorem tb_110 : tables_1[110]? = some (Jvm.Cond.classLink "SortUtility" (24 : Nat) "SortUtility$Rows") := tbk1 (j := 110) rfl
set_option maxRecDepth 100000 in
theorem tb_111 : tables_1[111]? = some (Jvm.Cond.instantiable "SortUtility$Rows" (2 : Nat)) := tbk1 (j := 111) rfl
set_option maxRecDepth 100000 in
theorem tb_112 : tables_1[112]? = some (Jvm.Cond.methodLinkNest "SortUtility" (26 : Nat) ({ cls := "SortUtility$Rows", name := "<init>", desc := "()V" } : Jvm.MethodName) "SortUtility") := tbk1 (j := 112) rfl
set_option maxRecDepth 100000 in
theorem tb_113 : tables_1[113]? = some (Jvm.Cond.instanceMethod ({ cls := "SortUtility$Rows", name := "<init>", desc := "()V" } : Jvm.MethodName)) := tbk1 (j := 113) rfl
set_option maxRecDepth 100000 in
theorem tb_114 : tables_1[114]? = some (Jvm.Cond.code ({ cls := "SortUtility$Rows", name := "<init>", desc := "()V" } : Jvm.MethodName) prog_7_method_1_code (1 : Nat) (Option.none : Option Jvm.ClassFile.FieldType)) := tbk1 (j := 114) rfl
set_option maxRecDepth 100000 in
theorem tb_115 : tables_1[115]? = some (Jvm.Cond.methodLink "SortUtility$Rows" (3 : Nat) ({ cls := "java/lang/Object", name := "<init>", desc := "()V" } : Jvm.MethodName)) := tbk1 (j := 115) rfl
set_option maxRecDepth 100000 in
theorem tb_116 : tables_1[116]? = some (Jvm.Cond.classLink "SortUtility$Rows" (9 : Nat) "java/util/ArrayList") := tbk1 (j := 116) rfl
set_option maxRecDepth 100000 in
theorem tb_117 : tables_1[117]? = some (Jvm.Cond.methodLink "SortUtility$Rows" (11 : Nat) ({ cls := "java/util/ArrayList", name := "<init>", desc := "()V" } : Jvm.MethodName)) := tbk1 (j := 117) rfl
set_option maxRecDepth 100000 in
theorem tb_118 : tables_1[118]? = some (Jvm.Cond.fieldLink "SortUtility$Rows" (12 : Nat) "SortUtility$Rows" "made" "Ljava/util/ArrayList;") := tbk1 (j := 118) rfl
set_option maxRecDepth 100000 in
theorem tb_119 : tables_1[119]? = some (Jvm.Cond.fieldLink "SortUtility$Rows" (18 : Nat) "SortUtility$Rows" "size" "I") := tbk1 (j := 119) rfl
set_option maxRecDepth 100000 in
theorem tb_120 : tables_1[120]? = some (Jvm.Cond.fieldLink "SortUtility" (95 : Nat) "SortUtility$Rows" "size" "I") := tbk1 (j := 120) rfl
set_option maxRecDepth 100000 in
theorem tb_121 : tables_1[121]? = some (Jvm.Cond.laysFinal "SortUtility$Rows" "SortUtility$Rows" "made" "Ljava/util/ArrayList;") := tbk1 (j := 121) rfl
set_option maxRecDepth 100000 in
theorem tb_122 : tables_1[122]? = some (Jvm.Cond.soleField "SortUtility$Rows" "made") := tbk1 (j := 122) rfl
set_option maxRecDepth 100000 in
theorem tb_123 : tables_1[123]? = some (Jvm.Cond.lays "SortUtility$Rows" "SortUtility$Rows" "size" "I") := tbk1 (j := 123) rfl
set_option maxRecDepth 100000 in
theorem tb_124 : tables_1[124]? = some (Jvm.Cond.soleField "SortUtility$Rows" "size") := tbk1 (j := 124) rfl
set_option maxRecDepth 100000 in
theorem tb_125 : tables_1[125]? = some (Jvm.Cond.superclass "SortUtility$Rows" "java/lang/Object") := tbk1 (j := 125) rfl
set_option maxRecDepth 100000 in
theorem tb_126 : tables_1[126]? = some (Jvm.Cond.classLink "SortUtility" (40 : Nat) "java/util/ArrayList") := tbk1 (j := 126) rfl
set_option maxRecDepth 100000 in
theorem tb_127 : tables_1[127]? = some (Jvm.Cond.methodLink "SortUtility" (42 : Nat) ({ cls := "java/util/ArrayList", name := "<init>", desc := "()V" } : Jvm.MethodName)) := tbk1 (j := 127) rfl
set_option maxRecDepth 100000 in
theorem tb_128 : tables_1[128]? = some (Jvm.Cond.classLink "SortUtility" (57 : Nat) "SortUtility$Row") := tbk1 (j := 128) rfl
set_option maxRecDepth 100000 in
theorem tb_129 : tables_1[129]? = some (Jvm.Cond.instantiable "SortUtility$Row" (5 : Nat)) := tbk1 (j := 129) rfl
set_option maxRecDepth 100000 in
theorem tb_130 : tables_1[130]? = some (Jvm.Cond.methodLinkNest "SortUtility" (59 : Nat) ({ cls := "SortUtility$Row", name := "<init>", desc := "()V" } : Jvm.MethodName) "SortUtility") := tbk1 (j := 130) rfl
set_option maxRecDepth 100000 in
theorem tb_131 : tables_1[131]? = some (Jvm.Cond.instanceMethod ({ cls := "SortUtility$Row", name := "<init>", desc := "()V" } : Jvm.MethodName)) := tbk1 (j := 131) rfl
set_option maxRecDepth 100000 in
theorem tb_132 : tables_1[132]? = some (Jvm.Cond.code ({ cls := "SortUtility$Row", name := "<init>", desc := "()V" } : Jvm.MethodName) prog_6_method_1_code (1 : Nat) (Option.none : Option Jvm.ClassFile.FieldType)) := tbk1 (j := 132) rfl
set_option maxRecDepth 100000 in
theorem tb_133 : tables_1[133]? = some (Jvm.Cond.methodLink "SortUtility$Row" (3 : Nat) ({ cls := "java/lang/Object", name := "<init>", desc := "()V" } : Jvm.MethodName)) := tbk1 (j := 133) rfl
set_option maxRecDepth 100000 in
theorem tb_134 : tables_1[134]? = some (Jvm.Cond.fieldLink "SortUtility$Row" (9 : Nat) "SortUtility$Row" "bytes" "[B") := tbk1 (j := 134) rfl
set_option maxRecDepth 100000 in
theorem tb_135 : tables_1[135]? = some (Jvm.Cond.fieldLink "SortUtility$Row" (15 : Nat) "SortUtility$Row" "length" "I") := tbk1 (j := 135) rfl
set_option maxRecDepth 100000 in
theorem tb_136 : tables_1[136]? = some (Jvm.Cond.fieldLink "SortUtility$Rows" (36 : Nat) "SortUtility$Row" "length" "I") := tbk1 (j := 136) rfl
set_option maxRecDepth 100000 in
theorem tb_137 : tables_1[137]? = some (Jvm.Cond.fieldLink "SortUtility" (134 : Nat) "SortUtility$Row" "length" "I") := tbk1 (j := 137) rfl
set_option maxRecDepth 100000 in
theorem tb_138 : tables_1[138]? = some (Jvm.Cond.fieldLink "SortUtility$Row" (19 : Nat) "SortUtility$Row" "input" "I") := tbk1 (j := 138) rfl
set_option maxRecDepth 100000 in
theorem tb_139 : tables_1[139]? = some (Jvm.Cond.fieldLink "SortUtility" (100 : Nat) "SortUtility$Row" "input" "I") := tbk1 (j := 139) rfl
set_option maxRecDepth 100000 in
theorem tb_140 : tables_1[140]? = some (Jvm.Cond.fieldLink "SortUtility$Row" (22 : Nat) "SortUtility$Row" "number" "I") := tbk1 (j := 140) rfl
set_option maxRecDepth 100000 in
theorem tb_141 : tables_1[141]? = some (Jvm.Cond.fieldLink "SortUtility" (103 : Nat) "SortUtility$Row" "number" "I") := tbk1 (j := 141) rfl
set_option maxRecDepth 100000 in
theorem tb_142 : tables_1[142]? = some (Jvm.Cond.fieldLink "SortUtility$Row" (25 : Nat) "SortUtility$Row" "madeOf" "I") := tbk1 (j := 142) rfl
set_option maxRecDepth 100000 in
theorem tb_143 : tables_1[143]? = some (Jvm.Cond.fieldLink "SortUtility" (141 : Nat) "SortUtility$Row" "madeOf" "I") := tbk1 (j := 143) rfl
set_option maxRecDepth 100000 in
theorem tb_144 : tables_1[144]? = some (Jvm.Cond.laysFinal "SortUtility$Row" "SortUtility$Row" "bytes" "[B") := tbk1 (j := 144) rfl
set_option maxRecDepth 100000 in
theorem tb_145 : tables_1[145]? = some (Jvm.Cond.soleField "SortUtility$Row" "bytes") := tbk1 (j := 145) rfl
set_option maxRecDepth 100000 in
theorem tb_146 : tables_1[146]? = some (Jvm.Cond.lays "SortUtility$Row" "SortUtility$Row" "length" "I") := tbk1 (j := 146) rfl
set_option maxRecDepth 100000 in
theorem tb_147 : tables_1[147]? = some (Jvm.Cond.soleField "SortUtility$Row" "length") := tbk1 (j := 147) rfl
set_option maxRecDepth 100000 in
theorem tb_148 : tables_1[148]? = some (Jvm.Cond.lays "SortUtility$Row" "SortUtility$Row" "input" "I") := tbk1 (j := 148) rfl
set_option maxRecDepth 100000 in
theorem tb_149 : tables_1[149]? = some (Jvm.Cond.soleField "SortUtility$Row" "input") := tbk1 (j := 149) rfl
set_option maxRecDepth 100000 in
theorem tb_150 : tables_1[150]? = some (Jvm.Cond.lays "SortUtility$Row" "SortUtility$Row" "number" "I") := tbk1 (j := 150) rfl
set_option maxRecDepth 100000 in
theorem tb_151 : tables_1[151]? = some (Jvm.Cond.soleField "SortUtility$Row" "number") := tbk1 (j := 151) rfl
set_option maxRecDepth 100000 in
theorem tb_152 : tables_1[152]? = some (Jvm.Cond.lays "SortUtility$Row" "SortUtility$Row" "madeOf" "I") := tbk1 (j := 152) rfl
set_option maxRecDepth 100000 in
theorem tb_153 : tables_1[153]? = some (Jvm.Cond.soleField "SortUtility$Row" "madeOf") := tbk1 (j := 153) rfl
set_option maxRecDepth 100000 in
theorem tb_154 : tables_1[154]? = some (Jvm.Cond.superclass "SortUtility$Row" "java/lang/Object") := tbk1 (j := 154) rfl
set_option maxRecDepth 100000 in
theorem tb_155 : tables_1[155]? = some (Jvm.Cond.arrayClass Jvm.ClassFile.FieldType.byte) := tbk1 (j := 155) rfl
set_option maxRecDepth 100000 in
theorem tb_156 : tables_1[156]? = some (Jvm.Cond.fieldLink "SortUtility" (9 : Nat) "SortUtility" "signs" "[I") := tbk1 (j := 156) rfl
set_option maxRecDepth 100000 in
theorem tb_157 : tables_1[157]? = some (Jvm.Cond.fieldLink "SortUtility" (13 : Nat) "SortUtility" "signCount" "I") := tbk1 (j := 157) rfl
set_option maxRecDepth 100000 in
theorem tb_158 : tables_1[158]? = some (Jvm.Cond.fieldLink "SortUtility" (20 : Nat) "SortUtility" "statements" "LSortUtility$Statements;") := tbk1 (j := 158) rfl
set_option maxRecDepth 100000 in
theorem tb_159 : tables_1[159]? = some (Jvm.Cond.fieldLink "SortUtility" (27 : Nat) "SortUtility" "records" "LSortUtility$Rows;") := tbk1 (j := 159) rfl
set_option maxRecDepth 100000 in
theorem tb_160 : tables_1[160]? = some (Jvm.Cond.fieldLink "SortUtility" (31 : Nat) "SortUtility" "laidOut" "LSortUtility$Rows;") := tbk1 (j := 160) rfl
set_option maxRecDepth 100000 in
theorem tb_161 : tables_1[161]? = some (Jvm.Cond.fieldLink "SortUtility" (34 : Nat) "SortUtility" "refused" "LSortUtility$Rows;") := tbk1 (j := 161) rfl
set_option maxRecDepth 100000 in
theorem tb_162 : tables_1[162]? = some (Jvm.Cond.fieldLink "SortUtility" (37 : Nat) "SortUtility" "joined" "LSortUtility$Rows;") := tbk1 (j := 162) rfl
set_option maxRecDepth 100000 in
theorem tb_163 : tables_1[163]? = some (Jvm.Cond.fieldLink "SortUtility" (43 : Nat) "SortUtility" "unmatched" "Ljava/util/ArrayList;") := tbk1 (j := 163) rfl
set_option maxRecDepth 100000 in
theorem tb_164 : tables_1[164]? = some (Jvm.Cond.fieldLink "SortUtility" (47 : Nat) "SortUtility" "exitDoes" "I") := tbk1 (j := 164) rfl
set_option maxRecDepth 100000 in
theorem tb_165 : tables_1[165]? = some (Jvm.Cond.fieldLink "SortUtility" (50 : Nat) "SortUtility" "exitStops" "Z") := tbk1 (j := 165) rfl
set_option maxRecDepth 100000 in
theorem tb_166 : tables_1[166]? = some (Jvm.Cond.fieldLink "SortUtility" (54 : Nat) "SortUtility" "picked" "Ljava/util/ArrayList;") := tbk1 (j := 166) rfl
set_option maxRecDepth 100000 in
theorem tb_167 : tables_1[167]? = some (Jvm.Cond.fieldLink "SortUtility" (60 : Nat) "SortUtility" "held" "LSortUtility$Row;") := tbk1 (j := 167) rfl
set_option maxRecDepth 100000 in
theorem tb_168 : tables_1[168]? = some (Jvm.Cond.fieldLink "SortUtility" (64 : Nat) "SortUtility" "newSums" "[J") := tbk1 (j := 168) rfl
set_option maxRecDepth 100000 in
theorem tb_169 : tables_1[169]? = some (Jvm.Cond.fieldLink "SortUtility" (68 : Nat) "SortUtility" "arrivedAtExit" "I") := tbk1 (j := 169) rfl
set_option maxRecDepth 100000 in
theorem tb_170 : tables_1[170]? = some (Jvm.Cond.fieldLink "SortUtility" (71 : Nat) "SortUtility" "latestCode" "I") := tbk1 (j := 170) rfl
set_option maxRecDepth 100000 in
theorem tb_171 : tables_1[171]? = some (Jvm.Cond.laysFinal "SortUtility" "SortUtility" "signs" "[I") := tbk1 (j := 171) rfl
set_option maxRecDepth 100000 in
theorem tb_172 : tables_1[172]? = some (Jvm.Cond.soleField "SortUtility" "signs") := tbk1 (j := 172) rfl
set_option maxRecDepth 100000 in
theorem tb_173 : tables_1[173]? = some (Jvm.Cond.lays "SortUtility" "SortUtility" "signCount" "I") := tbk1 (j := 173) rfl
set_option maxRecDepth 100000 in
theorem tb_174 : tables_1[174]? = some (Jvm.Cond.soleField "SortUtility" "signCount") := tbk1 (j := 174) rfl
set_option maxRecDepth 100000 in
theorem tb_175 : tables_1[175]? = some (Jvm.Cond.lays "SortUtility" "SortUtility" "statements" "LSortUtility$Statements;") := tbk1 (j := 175) rfl
set_option maxRecDepth 100000 in
theorem tb_176 : tables_1[176]? = some (Jvm.Cond.soleField "SortUtility" "statements") := tbk1 (j := 176) rfl
set_option maxRecDepth 100000 in
theorem tb_177 : tables_1[177]? = some (Jvm.Cond.laysFinal "SortUtility" "SortUtility" "records" "LSortUtility$Rows;") := tbk1 (j := 177) rfl
set_option maxRecDepth 100000 in
theorem tb_178 : tables_1[178]? = some (Jvm.Cond.soleField "SortUtility" "records") := tbk1 (j := 178) rfl
set_option maxRecDepth 100000 in
theorem tb_179 : tables_1[179]? = some (Jvm.Cond.laysFinal "SortUtility" "SortUtility" "laidOut" "LSortUtility$Rows;") := tbk1 (j := 179) rfl
set_option maxRecDepth 100000 in
theorem tb_180 : tables_1[180]? = some (Jvm.Cond.soleField "SortUtility" "laidOut") := tbk1 (j := 180) rfl
set_option maxRecDepth 100000 in
theorem tb_181 : tables_1[181]? = some (Jvm.Cond.laysFinal "SortUtility" "SortUtility" "refused" "LSortUtility$Rows;") := tbk1 (j := 181) rfl
set_option maxRecDepth 100000 in
theorem tb_182 : tables_1[182]? = some (Jvm.Cond.soleField "SortUtility" "refused") := tbk1 (j := 182) rfl
set_option maxRecDepth 100000 in
theorem tb_183 : tables_1[183]? = some (Jvm.Cond.laysFinal "SortUtility" "SortUtility" "joined" "LSortUtility$Rows;") := tbk1 (j := 183) rfl
set_option maxRecDepth 100000 in
theorem tb_184 : tables_1[184]? = some (Jvm.Cond.soleField "SortUtility" "joined") := tbk1 (j := 184) rfl
set_option maxRecDepth 100000 in
theorem tb_185 : tables_1[185]? = some (Jvm.Cond.laysFinal "SortUtility" "SortUtility" "unmatched" "Ljava/util/ArrayList;") := tbk1 (j := 185) rfl
set_option maxRecDepth 100000 in
theorem tb_186 : tables_1[186]? = some (Jvm.Cond.soleField "SortUtility" "unmatched") := tbk1 (j := 186) rfl
set_option maxRecDepth 100000 in
theorem tb_187 : tables_1[187]? = some (Jvm.Cond.lays "SortUtility" "SortUtility" "exitDoes" "I") := tbk1 (j := 187) rfl
set_option maxRecDepth 100000 in
theorem tb_188 : tables_1[188]? = some (Jvm.Cond.soleField "SortUtility" "exitDoes") := tbk1 (j := 188) rfl
set_option maxRecDepth 100000 in
theorem tb_189 : tables_1[189]? = some (Jvm.Cond.lays "SortUtility" "SortUtility" "exitStops" "Z") := tbk1 (j := 189) rfl
set_option maxRecDepth 100000 in
theorem tb_190 : tables_1[190]? = some (Jvm.Cond.soleField "SortUtility" "exitStops") := tbk1 (j := 190) rfl
set_option maxRecDepth 100000 in
theorem tb_191 : tables_1[191]? = some (Jvm.Cond.laysFinal "SortUtility" "SortUtility" "picked" "Ljava/util/ArrayList;") := tbk1 (j := 191) rfl
set_option maxRecDepth 100000 in
theorem tb_192 : tables_1[192]? = some (Jvm.Cond.soleField "SortUtility" "picked") := tbk1 (j := 192) rfl
set_option maxRecDepth 100000 in
theorem tb_193 : tables_1[193]? = some (Jvm.Cond.laysFinal "SortUtility" "SortUtility" "held" "LSortUtility$Row;") := tbk1 (j := 193) rfl
set_option maxRecDepth 100000 in
theorem tb_194 : tables_1[194]? = some (Jvm.Cond.soleField "SortUtility" "held") := tbk1 (j := 194) rfl
set_option maxRecDepth 100000 in
theorem tb_195 : tables_1[195]? = some (Jvm.Cond.laysFinal "SortUtility" "SortUtility" "newSums" "[J") := tbk1 (j := 195) rfl
set_option maxRecDepth 100000 in
theorem tb_196 : tables_1[196]? = some (Jvm.Cond.soleField "SortUtility" "newSums") := tbk1 (j := 196) rfl
set_option maxRecDepth 100000 in
theorem tb_197 : tables_1[197]? = some (Jvm.Cond.lays "SortUtility" "SortUtility" "arrivedAtExit" "I") := tbk1 (j := 197) rfl
set_option maxRecDepth 100000 in
theorem tb_198 : tables_1[198]? = some (Jvm.Cond.soleField "SortUtility" "arrivedAtExit") := tbk1 (j := 198) rfl
set_option maxRecDepth 100000 in
theorem tb_199 : tables_1[199]? = some (Jvm.Cond.lays "SortUtility" "SortUtility" "latestCode" "I") := tbk1 (j := 199) rfl
set_option maxRecDepth 100000 in
theorem tb_200 : tables_1[200]? = some (Jvm.Cond.soleField "SortUtility" "latestCode") := tbk1 (j := 200) rfl
set_option maxRecDepth 100000 in
theorem tb_201 : tables_1[201]? = some (Jvm.Cond.superclass "SortUtility" "java/lang/Object") := tbk1 (j := 201) rfl
set_option maxRecDepth 100000 in
theorem tb_202 : tables_1[202]? = some (Jvm.Cond.arrayClass Jvm.ClassFile.FieldType.long) := tbk1 (j := 202) rfl
set_option maxRecDepth 100000 in
theorem tb_203 : tables_1[203]? = some (Jvm.Cond.methodLink "SortUtilityLaw" (19 : Nat) ({ cls := "SortUtility", name := "sign", desc := "(I)V" } : Jvm.MethodName)) := tbk1 (j := 203) rfl
set_option maxRecDepth 100000 in
theorem tb_204 : tables_1[204]? = some (Jvm.Cond.instanceMethod ({ cls := "SortUtility", name := "sign", desc := "(I)V" } : Jvm.MethodName)) := tbk1 (j := 204) rfl
set_option maxRecDepth 100000 in
theorem tb_205 : tables_1[205]? = some (Jvm.Cond.selects "SortUtility" ({ cls := "SortUtility", name := "sign", desc := "(I)V" } : Jvm.MethodName) ({ cls := "SortUtility", name := "sign", desc := "(I)V" } : Jvm.MethodName)) := tbk1 (j := 205) rfl
set_option maxRecDepth 100000 in
theorem tb_206 : tables_1[206]? = some (Jvm.Cond.code ({ cls := "SortUtility", name := "sign", desc := "(I)V" } : Jvm.MethodName) prog_1_method_2_code (2 : Nat) (Option.none : Option Jvm.ClassFile.FieldType)) := tbk1 (j := 206) rfl
set_option maxRecDepth 100000 in
theorem tb_207 : tables_1[207]? = some (Jvm.Cond.methodLink "SortUtilityLaw" (24 : Nat) ({ cls := "SortUtility", name := "read", desc := "()I" } : Jvm.MethodName)) := tbk1 (j := 207) rfl
set_option maxRecDepth 100000 in
theorem tb_208 : tables_1[208]? = some (Jvm.Cond.instanceMethod ({ cls := "SortUtility", name := "read", desc := "()I" } : Jvm.MethodName)) := tbk1 (j := 208) rfl
set_option maxRecDepth 100000 in
theorem tb_209 : tables_1[209]? = some (Jvm.Cond.selects "SortUtility" ({ cls := "SortUtility", name := "read", desc := "()I" } : Jvm.MethodName) ({ cls := "SortUtility", name := "read", desc := "()I" } : Jvm.MethodName)) := tbk1 (j := 209) rfl
set_option maxRecDepth 100000 in
theorem tb_210 : tables_1[210]? = some (Jvm.Cond.codeWith ({ cls := "SortUtility", name := "read", desc := "()I" } : Jvm.MethodName) prog_1_method_3_code (3 : Nat) (Option.some Jvm.ClassFile.FieldType.int) [((21 : Nat), (29 : Nat), (32 : Nat), (83 : Nat))]) := tbk1 (j := 210) rfl
set_option maxRecDepth 100000 in
theorem tb_211 : tables_1[211]? = some (Jvm.Cond.classLink "SortUtility" (83 : Nat) "java/lang/IllegalArgumentException") := tbk1 (j := 211) rfl
set_option maxRecDepth 100000 in
theorem tb_212 : tables_1[212]? = some (Jvm.Cond.classLink "SortUtility" (74 : Nat) "SortUtility$Reader") := tbk1 (j := 212) rfl
set_option maxRecDepth 100000 in
theorem tb_213 : tables_1[213]? = some (Jvm.Cond.instantiable "SortUtility$Reader" (5 : Nat)) := tbk1 (j := 213) rfl
set_option maxRecDepth 100000 in
theorem tb_214 : tables_1[214]? = some (Jvm.Cond.methodLink "SortUtility" (76 : Nat) ({ cls := "SortUtility$Reader", name := "<init>", desc := "([II)V" } : Jvm.MethodName)) := tbk1 (j := 214) rfl
set_option maxRecDepth 100000 in
theorem tb_215 : tables_1[215]? = some (Jvm.Cond.instanceMethod ({ cls := "SortUtility$Reader", name := "<init>", desc := "([II)V" } : Jvm.MethodName)) := tbk1 (j := 215) rfl
set_option maxRecDepth 100000 in
theorem tb_216 : tables_1[216]? = some (Jvm.Cond.code ({ cls := "SortUtility$Reader", name := "<init>", desc := "([II)V" } : Jvm.MethodName) prog_5_method_1_code (3 : Nat) (Option.none : Option Jvm.ClassFile.FieldType)) := tbk1 (j := 216) rfl
set_option maxRecDepth 100000 in
theorem tb_217 : tables_1[217]? = some (Jvm.Cond.methodLink "SortUtility$Reader" (3 : Nat) ({ cls := "java/lang/Object", name := "<init>", desc := "()V" } : Jvm.MethodName)) := tbk1 (j := 217) rfl
set_option maxRecDepth 100000 in
theorem tb_218 : tables_1[218]? = some (Jvm.Cond.classLink "SortUtility$Reader" (9 : Nat) "SortUtility$Statements") := tbk1 (j := 218) rfl
set_option maxRecDepth 100000 in
theorem tb_219 : tables_1[219]? = some (Jvm.Cond.methodLinkNest "SortUtility$Reader" (11 : Nat) ({ cls := "SortUtility$Statements", name := "<init>", desc := "()V" } : Jvm.MethodName) "SortUtility") := tbk1 (j := 219) rfl
set_option maxRecDepth 100000 in
theorem tb_220 : tables_1[220]? = some (Jvm.Cond.methodLink "SortUtility$Reader" (29 : Nat) ({ cls := "java/lang/Math", name := "min", desc := "(II)I" } : Jvm.MethodName)) := tbk1 (j := 220) rfl
set_option maxRecDepth 100000 in
theorem tb_221 : tables_1[221]? = some (Jvm.Cond.static ({ cls := "java/lang/Math", name := "min", desc := "(II)I" } : Jvm.MethodName)) := tbk1 (j := 221) rfl
set_option maxRecDepth 100000 in
theorem tb_222 : tables_1[222]? = some (Jvm.Cond.code ({ cls := "java/lang/Math", name := "min", desc := "(II)I" } : Jvm.MethodName) prog_21_method_69_code (2 : Nat) (Option.some Jvm.ClassFile.FieldType.int)) := tbk1 (j := 222) rfl
set_option maxRecDepth 100000 in
theorem tb_223 : tables_1[223]? = some (Jvm.Cond.fieldLink "SortUtility$Reader" (25 : Nat) "SortUtility$Reader" "signs" "[I") := tbk1 (j := 223) rfl
set_option maxRecDepth 100000 in
theorem tb_224 : tables_1[224]? = some (Jvm.Cond.fieldLink "SortUtility$Reader" (35 : Nat) "SortUtility$Reader" "end" "I") := tbk1 (j := 224) rfl
set_option maxRecDepth 100000 in
theorem tb_225 : tables_1[225]? = some (Jvm.Cond.fieldLink "SortUtility$Reader" (12 : Nat) "SortUtility$Reader" "found" "LSortUtility$Statements;") := tbk1 (j := 225) rfl
set_option maxRecDepth 100000 in
theorem tb_226 : tables_1[226]? = some (Jvm.Cond.fieldLink "SortUtility$Reader" (18 : Nat) "SortUtility$Reader" "wordsSeen" "I") := tbk1 (j := 226) rfl
set_option maxRecDepth 100000 in
theorem tb_227 : tables_1[227]? = some (Jvm.Cond.fieldLink "SortUtility$Reader" (22 : Nat) "SortUtility$Reader" "at" "I") := tbk1 (j := 227) rfl
set_option maxRecDepth 100000 in
theorem tb_228 : tables_1[228]? = some (Jvm.Cond.fieldLink "SortUtility" (85 : Nat) "SortUtility$Reader" "at" "I") := tbk1 (j := 228) rfl
set_option maxRecDepth 100000 in
theorem tb_229 : tables_1[229]? = some (Jvm.Cond.laysFinal "SortUtility$Reader" "SortUtility$Reader" "signs" "[I") := tbk1 (j := 229) rfl
set_option maxRecDepth 100000 in
theorem tb_230 : tables_1[230]? = some (Jvm.Cond.soleField "SortUtility$Reader" "signs") := tbk1 (j := 230) rfl
set_option maxRecDepth 100000 in
theorem tb_231 : tables_1[231]? = some (Jvm.Cond.laysFinal "SortUtility$Reader" "SortUtility$Reader" "end" "I") := tbk1 (j := 231) rfl
set_option maxRecDepth 100000 in
theorem tb_232 : tables_1[232]? = some (Jvm.Cond.soleField "SortUtility$Reader" "end") := tbk1 (j := 232) rfl
set_option maxRecDepth 100000 in
theorem tb_233 : tables_1[233]? = some (Jvm.Cond.laysFinal "SortUtility$Reader" "SortUtility$Reader" "found" "LSortUtility$Statements;") := tbk1 (j := 233) rfl
set_option maxRecDepth 100000 in
theorem tb_234 : tables_1[234]? = some (Jvm.Cond.soleField "SortUtility$Reader" "found") := tbk1 (j := 234) rfl
set_option maxRecDepth 100000 in
theorem tb_235 : tables_1[235]? = some (Jvm.Cond.lays "SortUtility$Reader" "SortUtility$Reader" "wordsSeen" "I") := tbk1 (j := 235) rfl
set_option maxRecDepth 100000 in
theorem tb_236 : tables_1[236]? = some (Jvm.Cond.soleField "SortUtility$Reader" "wordsSeen") := tbk1 (j := 236) rfl
set_option maxRecDepth 100000 in
theorem tb_237 : tables_1[237]? = some (Jvm.Cond.lays "SortUtility$Reader" "SortUtility$Reader" "at" "I") := tbk1 (j := 237) rfl
set_option maxRecDepth 100000 in
theorem tb_238 : tables_1[238]? = some (Jvm.Cond.soleField "SortUtility$Reader" "at") := tbk1 (j := 238) rfl
set_option maxRecDepth 100000 in
theorem tb_239 : tables_1[239]? = some (Jvm.Cond.superclass "SortUtility$Reader" "java/lang/Object") := tbk1 (j := 239) rfl
set_option maxRecDepth 100000 in
theorem tb_240 : tables_1[240]? = some (Jvm.Cond.methodLink "SortUtility" (79 : Nat) ({ cls := "SortUtility$Reader", name := "readAll", desc := "()LSortUtility$Statements;" } : Jvm.MethodName)) := tbk2 (j := 0) rfl
set_option maxRecDepth 100000 in
theorem tb_241 : tables_1[241]? = some (Jvm.Cond.instanceMethod ({ cls := "SortUtility$Reader", name := "readAll", desc := "()LSortUtility$Statements;" } : Jvm.MethodName)) := tbk2 (j := 1) rfl
set_option maxRecDepth 100000 in
theorem tb_242 : tables_1[242]? = some (Jvm.Cond.selects "SortUtility$Reader" ({ cls := "SortUtility$Reader", name := "readAll", desc := "()LSortUtility$Statements;" } : Jvm.MethodName) ({ cls := "SortUtility$Reader", name := "readAll", desc := "()LSortUtility$Statements;" } : Jvm.MethodName)) := tbk2 (j := 2) rfl
set_option maxRecDepth 100000 in
theorem tb_243 : tables_1[243]? = some (Jvm.Cond.code ({ cls := "SortUtility$Reader", name := "readAll", desc := "()LSortUtility$Statements;" } : Jvm.MethodName) prog_5_method_2_code (1 : Nat) (Option.some (Jvm.ClassFile.FieldType.object "SortUtility$Statements"))) := tbk2 (j := 3) rfl
set_option maxRecDepth 100000 in
theorem tb_244 : tables_1[244]? = some (Jvm.Cond.methodLink "SortUtility$Reader" (41 : Nat) ({ cls := "SortUtility$Reader", name := "hasMore", desc := "()Z" } : Jvm.MethodName)) := tbk2 (j := 4) rfl
set_option maxRecDepth 100000 in
theorem tb_245 : tables_1[245]? = some (Jvm.Cond.privateMethod ({ cls := "SortUtility$Reader", name := "hasMore", desc := "()Z" } : Jvm.MethodName)) := tbk2 (j := 5) rfl
set_option maxRecDepth 100000 in
theorem tb_246 : tables_1[246]? = some (Jvm.Cond.instanceMethod ({ cls := "SortUtility$Reader", name := "hasMore", desc := "()Z" } : Jvm.MethodName)) := tbk2 (j := 6) rfl
set_option maxRecDepth 100000 in
theorem tb_247 : tables_1[247]? = some (Jvm.Cond.code ({ cls := "SortUtility$Reader", name := "hasMore", desc := "()Z" } : Jvm.MethodName) prog_5_method_15_code (1 : Nat) (Option.some Jvm.ClassFile.FieldType.boolean)) := tbk2 (j := 7) rfl
set_option maxRecDepth 100000 in
theorem tb_248 : tables_1[248]? = some (Jvm.Cond.methodLink "SortUtility$Reader" (103 : Nat) ({ cls := "SortUtility$Reader", name := "nextSign", desc := "()I" } : Jvm.MethodName)) := tbk2 (j := 8) rfl
set_option maxRecDepth 100000 in
theorem tb_249 : tables_1[249]? = some (Jvm.Cond.privateMethod ({ cls := "SortUtility$Reader", name := "nextSign", desc := "()I" } : Jvm.MethodName)) := tbk2 (j := 9) rfl
set_option maxRecDepth 100000 in
theorem tb_250 : tables_1[250]? = some (Jvm.Cond.instanceMethod ({ cls := "SortUtility$Reader", name := "nextSign", desc := "()I" } : Jvm.MethodName)) := tbk2 (j := 10) rfl
set_option maxRecDepth 100000 in
theorem tb_251 : tables_1[251]? = some (Jvm.Cond.code ({ cls := "SortUtility$Reader", name := "nextSign", desc := "()I" } : Jvm.MethodName) prog_5_method_16_code (1 : Nat) (Option.some Jvm.ClassFile.FieldType.int)) := tbk2 (j := 11) rfl
set_option maxRecDepth 100000 in
theorem tb_252 : tables_1[252]? = some (Jvm.Cond.methodLink "SortUtility$Reader" (45 : Nat) ({ cls := "SortUtility$Reader", name := "readWord", desc := "()LSortUtility$Word;" } : Jvm.MethodName)) := tbk2 (j := 12) rfl
set_option maxRecDepth 100000 in
theorem tb_253 : tables_1[253]? = some (Jvm.Cond.privateMethod ({ cls := "SortUtility$Reader", name := "readWord", desc := "()LSortUtility$Word;" } : Jvm.MethodName)) := tbk2 (j := 13) rfl
set_option maxRecDepth 100000 in
theorem tb_254 : tables_1[254]? = some (Jvm.Cond.instanceMethod ({ cls := "SortUtility$Reader", name := "readWord", desc := "()LSortUtility$Word;" } : Jvm.MethodName)) := tbk2 (j := 14) rfl
set_option maxRecDepth 100000 in
theorem tb_255 : tables_1[255]? = some (Jvm.Cond.code ({ cls := "SortUtility$Reader", name := "readWord", desc := "()LSortUtility$Word;" } : Jvm.MethodName) prog_5_method_8_code (4 : Nat) (Option.some (Jvm.ClassFile.FieldType.object "SortUtility$Word"))) := tbk2 (j := 15) rfl
set_option maxRecDepth 100000 in
theorem tb_256 : tables_1[256]? = some (Jvm.Cond.methodLink "SortUtility$Reader" (157 : Nat) ({ cls := "SortUtility$Reader", name := "isLetter", desc := "(I)Z" } : Jvm.MethodName)) := tbk2 (j := 16) rfl
set_option maxRecDepth 100000 in
theorem tb_257 : tables_1[257]? = some (Jvm.Cond.static ({ cls := "SortUtility$Reader", name := "isLetter", desc := "(I)Z" } : Jvm.MethodName)) := tbk2 (j := 17) rfl
set_option maxRecDepth 100000 in
theorem tb_258 : tables_1[258]? = some (Jvm.Cond.code ({ cls := "SortUtility$Reader", name := "isLetter", desc := "(I)Z" } : Jvm.MethodName) prog_5_method_17_code (1 : Nat) (Option.some Jvm.ClassFile.FieldType.boolean)) := tbk2 (j := 18) rfl
set_option maxRecDepth 100000 in
theorem tb_259 : tables_1[259]? = some (Jvm.Cond.fieldLinkNest "SortUtility$Reader" (161 : Nat) "SortUtility" "WORDS" "[LSortUtility$Word;" "SortUtility") := tbk2 (j := 19) rfl
set_option maxRecDepth 100000 in
theorem tb_260 : tables_1[260]? = some (Jvm.Cond.laysStatic "SortUtility" "WORDS" "[LSortUtility$Word;") := tbk2 (j := 20) rfl
set_option maxRecDepth 100000 in
theorem tb_261 : tables_1[261]? = some (Jvm.Cond.methodLink "SortUtility$Reader" (172 : Nat) ({ cls := "SortUtility$Reader", name := "spells", desc := "(Ljava/lang/String;I)Z" } : Jvm.MethodName)) := tbk2 (j := 21) rfl
set_option maxRecDepth 100000 in
theorem tb_262 : tables_1[262]? = some (Jvm.Cond.privateMethod ({ cls := "SortUtility$Reader", name := "spells", desc := "(Ljava/lang/String;I)Z" } : Jvm.MethodName)) := tbk2 (j := 22) rfl
set_option maxRecDepth 100000 in
theorem tb_263 : tables_1[263]? = some (Jvm.Cond.instanceMethod ({ cls := "SortUtility$Reader", name := "spells", desc := "(Ljava/lang/String;I)Z" } : Jvm.MethodName)) := tbk2 (j := 23) rfl
set_option maxRecDepth 100000 in
theorem tb_264 : tables_1[264]? = some (Jvm.Cond.code ({ cls := "SortUtility$Reader", name := "spells", desc := "(Ljava/lang/String;I)Z" } : Jvm.MethodName) prog_5_method_9_code (4 : Nat) (Option.some Jvm.ClassFile.FieldType.boolean)) := tbk2 (j := 24) rfl
set_option maxRecDepth 100000 in
theorem tb_265 : tables_1[265]? = some (Jvm.Cond.methodLink "SortUtility$Reader" (178 : Nat) ({ cls := "java/lang/String", name := "length", desc := "()I" } : Jvm.MethodName)) := tbk2 (j := 25) rfl
set_option maxRecDepth 100000 in
theorem tb_266 : tables_1[266]? = some (Jvm.Cond.instanceMethod ({ cls := "java/lang/String", name := "length", desc := "()I" } : Jvm.MethodName)) := tbk2 (j := 26) rfl
set_option maxRecDepth 100000 in
theorem tb_267 : tables_1[267]? = some (Jvm.Cond.selects "java/lang/String" ({ cls := "java/lang/String", name := "length", desc := "()I" } : Jvm.MethodName) ({ cls := "java/lang/String", name := "length", desc := "()I" } : Jvm.MethodName)) := tbk2 (j := 27) rfl
set_option maxRecDepth 100000 in
theorem tb_268 : tables_1[268]? = some (Jvm.Cond.code ({ cls := "java/lang/String", name := "length", desc := "()I" } : Jvm.MethodName) prog_23_method_54_code (1 : Nat) (Option.some Jvm.ClassFile.FieldType.int)) := tbk2 (j := 28) rfl
set_option maxRecDepth 100000 in
theorem tb_269 : tables_1[269]? = some (Jvm.Cond.methodLink "java/lang/String" (335 : Nat) ({ cls := "java/lang/String", name := "coder", desc := "()B" } : Jvm.MethodName)) := tbk2 (j := 29) rfl
set_option maxRecDepth 100000 in
theorem tb_270 : tables_1[270]? = some (Jvm.Cond.instanceMethod ({ cls := "java/lang/String", name := "coder", desc := "()B" } : Jvm.MethodName)) := tbk2 (j := 30) rfl
set_option maxRecDepth 100000 in
theorem tb_271 : tables_1[271]? = some (Jvm.Cond.selects "java/lang/String" ({ cls := "java/lang/String", name := "coder", desc := "()B" } : Jvm.MethodName) ({ cls := "java/lang/String", name := "coder", desc := "()B" } : Jvm.MethodName)) := tbk2 (j := 31) rfl
set_option maxRecDepth 100000 in
theorem tb_272 : tables_1[272]? = some (Jvm.Cond.code ({ cls := "java/lang/String", name := "coder", desc := "()B" } : Jvm.MethodName) prog_23_method_152_code (1 : Nat) (Option.some Jvm.ClassFile.FieldType.byte)) := tbk2 (j := 32) rfl
set_option maxRecDepth 100000 in
theorem tb_273 : tables_1[273]? = some (Jvm.Cond.fieldLink "java/lang/String" (38 : Nat) "java/lang/String" "COMPACT_STRINGS" "Z") := tbk2 (j := 33) rfl
set_option maxRecDepth 100000 in
theorem tb_274 : tables_1[274]? = some (Jvm.Cond.laysStatic "java/lang/String" "COMPACT_STRINGS" "Z") := tbk2 (j := 34) rfl
set_option maxRecDepth 100000 in
theorem tb_275 : tables_1[275]? = some (Jvm.Cond.methodLink "SortUtility$Reader" (183 : Nat) ({ cls := "java/lang/String", name := "charAt", desc := "(I)C" } : Jvm.MethodName)) := tbk2 (j := 35) rfl
set_option maxRecDepth 100000 in
theorem tb_276 : tables_1[276]? = some (Jvm.Cond.instanceMethod ({ cls := "java/lang/String", name := "charAt", desc := "(I)C" } : Jvm.MethodName)) := tbk2 (j := 36) rfl
set_option maxRecDepth 100000 in
theorem tb_277 : tables_1[277]? = some (Jvm.Cond.selects "java/lang/String" ({ cls := "java/lang/String", name := "charAt", desc := "(I)C" } : Jvm.MethodName) ({ cls := "java/lang/String", name := "charAt", desc := "(I)C" } : Jvm.MethodName)) := tbk2 (j := 37) rfl
set_option maxRecDepth 100000 in
theorem tb_278 : tables_1[278]? = some (Jvm.Cond.code ({ cls := "java/lang/String", name := "charAt", desc := "(I)C" } : Jvm.MethodName) prog_23_method_56_code (2 : Nat) (Option.some Jvm.ClassFile.FieldType.char)) := tbk2 (j := 38) rfl
set_option maxRecDepth 100000 in
theorem tb_279 : tables_1[279]? = some (Jvm.Cond.methodLink "java/lang/String" (492 : Nat) ({ cls := "java/lang/String", name := "isLatin1", desc := "()Z" } : Jvm.MethodName)) := tbk2 (j := 39) rfl
set_option maxRecDepth 100000 in
theorem tb_280 : tables_1[280]? = some (Jvm.Cond.instanceMethod ({ cls := "java/lang/String", name := "isLatin1", desc := "()Z" } : Jvm.MethodName)) := tbk2 (j := 40) rfl
set_option maxRecDepth 100000 in
theorem tb_281 : tables_1[281]? = some (Jvm.Cond.selects "java/lang/String" ({ cls := "java/lang/String", name := "isLatin1", desc := "()Z" } : Jvm.MethodName) ({ cls := "java/lang/String", name := "isLatin1", desc := "()Z" } : Jvm.MethodName)) := tbk2 (j := 41) rfl
set_option maxRecDepth 100000 in
theorem tb_282 : tables_1[282]? = some (Jvm.Cond.code ({ cls := "java/lang/String", name := "isLatin1", desc := "()Z" } : Jvm.MethodName) prog_23_method_154_code (1 : Nat) (Option.some Jvm.ClassFile.FieldType.boolean)) := tbk2 (j := 42) rfl
set_option maxRecDepth 100000 in
theorem tb_283 : tables_1[283]? = some (Jvm.Cond.methodLink "java/lang/String" (495 : Nat) ({ cls := "java/lang/StringLatin1", name := "charAt", desc := "([BI)C" } : Jvm.MethodName)) := tbk2 (j := 43) rfl
set_option maxRecDepth 100000 in
theorem tb_284 : tables_1[284]? = some (Jvm.Cond.static ({ cls := "java/lang/StringLatin1", name := "charAt", desc := "([BI)C" } : Jvm.MethodName)) := tbk2 (j := 44) rfl
set_option maxRecDepth 100000 in
theorem tb_285 : tables_1[285]? = some (Jvm.Cond.code ({ cls := "java/lang/StringLatin1", name := "charAt", desc := "([BI)C" } : Jvm.MethodName) prog_24_method_2_code (2 : Nat) (Option.some Jvm.ClassFile.FieldType.char)) := tbk2 (j := 45) rfl
set_option maxRecDepth 100000 in
theorem tb_286 : tables_1[286]? = some (Jvm.Cond.methodLink "java/lang/StringLatin1" (9 : Nat) ({ cls := "java/lang/String", name := "checkIndex", desc := "(II)V" } : Jvm.MethodName)) := tbk2 (j := 46) rfl
set_option maxRecDepth 100000 in
theorem tb_287 : tables_1[287]? = some (Jvm.Cond.static ({ cls := "java/lang/String", name := "checkIndex", desc := "(II)V" } : Jvm.MethodName)) := tbk2 (j := 47) rfl
set_option maxRecDepth 100000 in
theorem tb_288 : tables_1[288]? = some (Jvm.Cond.code ({ cls := "java/lang/String", name := "checkIndex", desc := "(II)V" } : Jvm.MethodName) prog_23_method_155_code (2 : Nat) (Option.none : Option Jvm.ClassFile.FieldType)) := tbk2 (j := 48) rfl
set_option maxRecDepth 100000 in
theorem tb_289 : tables_1[289]? = some (Jvm.Cond.fieldLink "java/lang/String" (1053 : Nat) "jdk/internal/util/Preconditions" "SIOOBE_FORMATTER" "Ljava/util/function/BiFunction;") := tbk2 (j := 49) rfl
set_option maxRecDepth 100000 in
theorem tb_290 : tables_1[290]? = some (Jvm.Cond.laysStatic "jdk/internal/util/Preconditions" "SIOOBE_FORMATTER" "Ljava/util/function/BiFunction;") := tbk2 (j := 50) rfl
set_option maxRecDepth 100000 in
theorem tb_291 : tables_1[291]? = some (Jvm.Cond.methodLink "java/lang/String" (1059 : Nat) ({ cls := "jdk/internal/util/Preconditions", name := "checkIndex", desc := "(IILjava/util/function/BiFunction;)I" } : Jvm.MethodName)) := tbk2 (j := 51) rfl
set_option maxRecDepth 100000 in
theorem tb_292 : tables_1[292]? = some (Jvm.Cond.static ({ cls := "jdk/internal/util/Preconditions", name := "checkIndex", desc := "(IILjava/util/function/BiFunction;)I" } : Jvm.MethodName)) := tbk2 (j := 52) rfl
set_option maxRecDepth 100000 in
theorem tb_293 : tables_1[293]? = some (Jvm.Cond.code ({ cls := "jdk/internal/util/Preconditions", name := "checkIndex", desc := "(IILjava/util/function/BiFunction;)I" } : Jvm.MethodName) prog_38_method_11_code (3 : Nat) (Option.some Jvm.ClassFile.FieldType.int)) := tbk2 (j := 53) rfl
set_option maxRecDepth 100000 in
theorem tb_294 : tables_1[294]? = some (Jvm.Cond.methodLink "java/lang/String" (498 : Nat) ({ cls := "java/lang/StringUTF16", name := "charAt", desc := "([BI)C" } : Jvm.MethodName)) := tbk2 (j := 54) rfl
set_option maxRecDepth 100000 in
theorem tb_295 : tables_1[295]? = some (Jvm.Cond.static ({ cls := "java/lang/StringUTF16", name := "charAt", desc := "([BI)C" } : Jvm.MethodName)) := tbk2 (j := 55) rfl
set_option maxRecDepth 100000 in
theorem tb_296 : tables_1[296]? = some (Jvm.Cond.code ({ cls := "java/lang/StringUTF16", name := "charAt", desc := "([BI)C" } : Jvm.MethodName) prog_25_method_83_code (2 : Nat) (Option.some Jvm.ClassFile.FieldType.char)) := tbk2 (j := 56) rfl
set_option maxRecDepth 100000 in
theorem tb_297 : tables_1[297]? = some (Jvm.Cond.methodLink "java/lang/StringUTF16" (67 : Nat) ({ cls := "java/lang/StringUTF16", name := "checkIndex", desc := "(I[B)V" } : Jvm.MethodName)) := tbk2 (j := 57) rfl
set_option maxRecDepth 100000 in
theorem tb_298 : tables_1[298]? = some (Jvm.Cond.static ({ cls := "java/lang/StringUTF16", name := "checkIndex", desc := "(I[B)V" } : Jvm.MethodName)) := tbk2 (j := 58) rfl
set_option maxRecDepth 100000 in
theorem tb_299 : tables_1[299]? = some (Jvm.Cond.code ({ cls := "java/lang/StringUTF16", name := "checkIndex", desc := "(I[B)V" } : Jvm.MethodName) prog_25_method_91_code (2 : Nat) (Option.none : Option Jvm.ClassFile.FieldType)) := tbk2 (j := 59) rfl
set_option maxRecDepth 100000 in
theorem tb_300 : tables_1[300]? = some (Jvm.Cond.methodLink "java/lang/StringUTF16" (48 : Nat) ({ cls := "java/lang/StringUTF16", name := "length", desc := "([B)I" } : Jvm.MethodName)) := tbk2 (j := 60) rfl
set_option maxRecDepth 100000 in
theorem tb_301 : tables_1[301]? = some (Jvm.Cond.static ({ cls := "java/lang/StringUTF16", name := "length", desc := "([B)I" } : Jvm.MethodName)) := tbk2 (j := 61) rfl
set_option maxRecDepth 100000 in
theorem tb_302 : tables_1[302]? = some (Jvm.Cond.code ({ cls := "java/lang/StringUTF16", name := "length", desc := "([B)I" } : Jvm.MethodName) prog_25_method_6_code (1 : Nat) (Option.some Jvm.ClassFile.FieldType.int)) := tbk2 (j := 62) rfl
set_option maxRecDepth 100000 in
theorem tb_303 : tables_1[303]? = some (Jvm.Cond.methodLink "java/lang/StringUTF16" (414 : Nat) ({ cls := "java/lang/String", name := "checkIndex", desc := "(II)V" } : Jvm.MethodName)) := tbk2 (j := 63) rfl
set_option maxRecDepth 100000 in
theorem tb_304 : tables_1[304]? = some (Jvm.Cond.methodLink "java/lang/StringUTF16" (71 : Nat) ({ cls := "java/lang/StringUTF16", name := "getChar", desc := "([BI)C" } : Jvm.MethodName)) := tbk2 (j := 64) rfl
set_option maxRecDepth 100000 in
theorem tb_305 : tables_1[305]? = some (Jvm.Cond.static ({ cls := "java/lang/StringUTF16", name := "getChar", desc := "([BI)C" } : Jvm.MethodName)) := tbk2 (j := 65) rfl
set_option maxRecDepth 100000 in
theorem tb_306 : tables_1[306]? = some (Jvm.Cond.code ({ cls := "java/lang/StringUTF16", name := "getChar", desc := "([BI)C" } : Jvm.MethodName) prog_25_method_5_code (2 : Nat) (Option.some Jvm.ClassFile.FieldType.char)) := tbk2 (j := 66) rfl
set_option maxRecDepth 100000 in
theorem tb_307 : tables_1[307]? = some (Jvm.Cond.fieldLink "java/lang/StringUTF16" (44 : Nat) "java/lang/StringUTF16" "$assertionsDisabled" "Z") := tbk2 (j := 67) rfl
set_option maxRecDepth 100000 in
theorem tb_308 : tables_1[308]? = some (Jvm.Cond.laysStatic "java/lang/StringUTF16" "$assertionsDisabled" "Z") := tbk2 (j := 68) rfl
set_option maxRecDepth 100000 in
theorem tb_309 : tables_1[309]? = some (Jvm.Cond.fieldLink "java/lang/StringUTF16" (59 : Nat) "java/lang/StringUTF16" "HI_BYTE_SHIFT" "I") := tbk2 (j := 69) rfl
set_option maxRecDepth 100000 in
theorem tb_310 : tables_1[310]? = some (Jvm.Cond.laysStatic "java/lang/StringUTF16" "HI_BYTE_SHIFT" "I") := tbk2 (j := 70) rfl
set_option maxRecDepth 100000 in
theorem tb_311 : tables_1[311]? = some (Jvm.Cond.fieldLink "java/lang/StringUTF16" (63 : Nat) "java/lang/StringUTF16" "LO_BYTE_SHIFT" "I") := tbk2 (j := 71) rfl
set_option maxRecDepth 100000 in
theorem tb_312 : tables_1[312]? = some (Jvm.Cond.laysStatic "java/lang/StringUTF16" "LO_BYTE_SHIFT" "I") := tbk2 (j := 72) rfl
set_option maxRecDepth 100000 in
theorem tb_313 : tables_1[313]? = some (Jvm.Cond.classLink "SortUtility$Reader" (141 : Nat) "java/lang/IllegalArgumentException") := tbk2 (j := 73) rfl
set_option maxRecDepth 100000 in
theorem tb_314 : tables_1[314]? = some (Jvm.Cond.instantiable "java/lang/IllegalArgumentException" (6 : Nat)) := tbk2 (j := 74) rfl
set_option maxRecDepth 100000 in
theorem tb_315 : tables_1[315]? = some (Jvm.Cond.castable "java/lang/IllegalArgumentException" "java/lang/IllegalArgumentException") := tbk2 (j := 75) rfl
set_option maxRecDepth 100000 in
theorem tb_316 : tables_1[316]? = some (Jvm.Cond.declares ({ cls := "java/lang/RuntimeException", name := "<init>", desc := "()V" } : Jvm.MethodName)) := tbk2 (j := 76) rfl
set_option maxRecDepth 100000 in
theorem tb_317 : tables_1[317]? = some (Jvm.Cond.declares ({ cls := "java/lang/RuntimeException", name := "<init>", desc := "(Ljava/lang/String;)V" } : Jvm.MethodName)) := tbk2 (j := 77) rfl
set_option maxRecDepth 100000 in
theorem tb_318 : tables_1[318]? = some (Jvm.Cond.declares ({ cls := "java/lang/Exception", name := "<init>", desc := "()V" } : Jvm.MethodName)) := tbk2 (j := 78) rfl
set_option maxRecDepth 100000 in
theorem tb_319 : tables_1[319]? = some (Jvm.Cond.declares ({ cls := "java/lang/Exception", name := "<init>", desc := "(Ljava/lang/String;)V" } : Jvm.MethodName)) := tbk2 (j := 79) rfl
set_option maxRecDepth 100000 in
theorem tb_320 : tables_1[320]? = some (Jvm.Cond.declares ({ cls := "java/lang/Throwable", name := "<init>", desc := "()V" } : Jvm.MethodName)) := tbk2 (j := 80) rfl
set_option maxRecDepth 100000 in
theorem tb_321 : tables_1[321]? = some (Jvm.Cond.declares ({ cls := "java/lang/Throwable", name := "<init>", desc := "(Ljava/lang/String;)V" } : Jvm.MethodName)) := tbk2 (j := 81) rfl
set_option maxRecDepth 100000 in
theorem tb_322 : tables_1[322]? = some (Jvm.Cond.selects "java/lang/IllegalArgumentException" ({ cls := "java/lang/Throwable", name := "fillInStackTrace", desc := "(I)Ljava/lang/Throwable;" } : Jvm.MethodName) ({ cls := "java/lang/Throwable", name := "fillInStackTrace", desc := "(I)Ljava/lang/Throwable;" } : Jvm.MethodName)) := tbk2 (j := 82) rfl
set_option maxRecDepth 100000 in
theorem tb_323 : tables_1[323]? = some (Jvm.Cond.selects "java/lang/IllegalArgumentException" ({ cls := "java/lang/Throwable", name := "fillInStackTrace", desc := "()Ljava/lang/Throwable;" } : Jvm.MethodName) ({ cls := "java/lang/Throwable", name := "fillInStackTrace", desc := "()Ljava/lang/Throwable;" } : Jvm.MethodName)) := tbk2 (j := 83) rfl
set_option maxRecDepth 100000 in
theorem tb_324 : tables_1[324]? = some (Jvm.Cond.lays "java/lang/IllegalArgumentException" "java/lang/Throwable" "cause" "Ljava/lang/Throwable;") := tbk2 (j := 84) rfl
set_option maxRecDepth 100000 in
theorem tb_325 : tables_1[325]? = some (Jvm.Cond.lays "java/lang/Throwable" "java/lang/Throwable" "cause" "Ljava/lang/Throwable;") := tbk2 (j := 85) rfl
set_option maxRecDepth 100000 in
theorem tb_326 : tables_1[326]? = some (Jvm.Cond.lays "java/lang/IllegalArgumentException" "java/lang/Throwable" "stackTrace" "[Ljava/lang/StackTraceElement;") := tbk2 (j := 86) rfl
set_option maxRecDepth 100000 in
theorem tb_327 : tables_1[327]? = some (Jvm.Cond.lays "java/lang/Throwable" "java/lang/Throwable" "stackTrace" "[Ljava/lang/StackTraceElement;") := tbk2 (j := 87) rfl
set_option maxRecDepth 100000 in
theorem tb_328 : tables_1[328]? = some (Jvm.Cond.lays "java/lang/IllegalArgumentException" "java/lang/Throwable" "suppressedExceptions" "Ljava/util/List;") := tbk2 (j := 88) rfl
set_option maxRecDepth 100000 in
theorem tb_329 : tables_1[329]? = some (Jvm.Cond.lays "java/lang/Throwable" "java/lang/Throwable" "suppressedExceptions" "Ljava/util/List;") := tbk2 (j := 89) rfl
set_option maxRecDepth 100000 in
theorem tb_330 : tables_1[330]? = some (Jvm.Cond.lays "java/lang/IllegalArgumentException" "java/lang/Throwable" "detailMessage" "Ljava/lang/String;") := tbk2 (j := 90) rfl
set_option maxRecDepth 100000 in
theorem tb_331 : tables_1[331]? = some (Jvm.Cond.lays "java/lang/Throwable" "java/lang/Throwable" "detailMessage" "Ljava/lang/String;") := tbk2 (j := 91) rfl
set_option maxRecDepth 100000 in
theorem tb_332 : tables_1[332]? = some (Jvm.Cond.lays "java/lang/IllegalArgumentException" "java/lang/Throwable" "backtrace" "Ljava/lang/Object;") := tbk2 (j := 92) rfl
set_option maxRecDepth 100000 in
theorem tb_333 : tables_1[333]? = some (Jvm.Cond.lays "java/lang/Throwable" "java/lang/Throwable" "backtrace" "Ljava/lang/Object;") := tbk2 (j := 93) rfl
set_option maxRecDepth 100000 in
theorem tb_334 : tables_1[334]? = some (Jvm.Cond.fieldLink "java/lang/Throwable" (198 : Nat) "java/lang/Throwable" "backtrace" "Ljava/lang/Object;") := tbk2 (j := 94) rfl
set_option maxRecDepth 100000 in
theorem tb_335 : tables_1[335]? = some (Jvm.Cond.superclass "java/lang/Throwable" "java/lang/Object") := tbk2 (j := 95) rfl
set_option maxRecDepth 100000 in
theorem tb_336 : tables_1[336]? = some (Jvm.Cond.instanceMethod ({ cls := "java/lang/Throwable", name := "<init>", desc := "()V" } : Jvm.MethodName)) := tbk2 (j := 96) rfl
set_option maxRecDepth 100000 in
theorem tb_337 : tables_1[337]? = some (Jvm.Cond.code ({ cls := "java/lang/Throwable", name := "<init>", desc := "()V" } : Jvm.MethodName) prog_27_method_1_code (1 : Nat) (Option.none : Option Jvm.ClassFile.FieldType)) := tbk2 (j := 97) rfl
set_option maxRecDepth 100000 in
theorem tb_338 : tables_1[338]? = some (Jvm.Cond.methodLink "java/lang/Throwable" (1 : Nat) ({ cls := "java/lang/Object", name := "<init>", desc := "()V" } : Jvm.MethodName)) := tbk2 (j := 98) rfl
set_option maxRecDepth 100000 in
theorem tb_339 : tables_1[339]? = some (Jvm.Cond.fieldLink "java/lang/Throwable" (13 : Nat) "java/lang/Throwable" "UNASSIGNED_STACK" "[Ljava/lang/StackTraceElement;") := tbk2 (j := 99) rfl
set_option maxRecDepth 100000 in
theorem tb_340 : tables_1[340]? = some (Jvm.Cond.laysStatic "java/lang/Throwable" "UNASSIGNED_STACK" "[Ljava/lang/StackTraceElement;") := tbk2 (j := 100) rfl
set_option maxRecDepth 100000 in
theorem tb_341 : tables_1[341]? = some (Jvm.Cond.fieldLink "java/lang/Throwable" (20 : Nat) "java/lang/Throwable" "SUPPRESSED_SENTINEL" "Ljava/util/List;") := tbk2 (j := 101) rfl
set_option maxRecDepth 100000 in
theorem tb_342 : tables_1[342]? = some (Jvm.Cond.laysStatic "java/lang/Throwable" "SUPPRESSED_SENTINEL" "Ljava/util/List;") := tbk2 (j := 102) rfl
set_option maxRecDepth 100000 in
theorem tb_343 : tables_1[343]? = some (Jvm.Cond.methodLink "java/lang/Throwable" (27 : Nat) ({ cls := "java/lang/Throwable", name := "fillInStackTrace", desc := "()Ljava/lang/Throwable;" } : Jvm.MethodName)) := tbk2 (j := 103) rfl
set_option maxRecDepth 100000 in
theorem tb_344 : tables_1[344]? = some (Jvm.Cond.instanceMethod ({ cls := "java/lang/Throwable", name := "fillInStackTrace", desc := "()Ljava/lang/Throwable;" } : Jvm.MethodName)) := tbk2 (j := 104) rfl
set_option maxRecDepth 100000 in
theorem tb_345 : tables_1[345]? = some (Jvm.Cond.sameMethod "java/lang/Throwable" "java/lang/Throwable" "fillInStackTrace" "()Ljava/lang/Throwable;") := tbk2 (j := 105) rfl
set_option maxRecDepth 100000 in
theorem tb_346 : tables_1[346]? = some (Jvm.Cond.selects "java/lang/ArrayIndexOutOfBoundsException" ({ cls := "java/lang/Throwable", name := "fillInStackTrace", desc := "()Ljava/lang/Throwable;" } : Jvm.MethodName) ({ cls := "java/lang/Throwable", name := "fillInStackTrace", desc := "()Ljava/lang/Throwable;" } : Jvm.MethodName)) := tbk2 (j := 106) rfl
set_option maxRecDepth 100000 in
theorem tb_347 : tables_1[347]? = some (Jvm.Cond.codeSync ({ cls := "java/lang/Throwable", name := "fillInStackTrace", desc := "()Ljava/lang/Throwable;" } : Jvm.MethodName) prog_27_method_18_code (1 : Nat) (Option.some (Jvm.ClassFile.FieldType.object "java/lang/Throwable"))) := tbk2 (j := 107) rfl
set_option maxRecDepth 100000 in
theorem tb_348 : tables_1[348]? = some (Jvm.Cond.methodLink "java/lang/Throwable" (202 : Nat) ({ cls := "java/lang/Throwable", name := "fillInStackTrace", desc := "(I)Ljava/lang/Throwable;" } : Jvm.MethodName)) := tbk2 (j := 108) rfl
set_option maxRecDepth 100000 in
theorem tb_349 : tables_1[349]? = some (Jvm.Cond.privateMethod ({ cls := "java/lang/Throwable", name := "fillInStackTrace", desc := "(I)Ljava/lang/Throwable;" } : Jvm.MethodName)) := tbk2 (j := 109) rfl
set_option maxRecDepth 100000 in
theorem tb_350 : tables_1[350]? = some (Jvm.Cond.instanceMethod ({ cls := "java/lang/Throwable", name := "fillInStackTrace", desc := "(I)Ljava/lang/Throwable;" } : Jvm.MethodName)) := tbk2 (j := 110) rfl
set_option maxRecDepth 100000 in
theorem tb_351 : tables_1[351]? = some (Jvm.Cond.instantiable "java/lang/Throwable" (6 : Nat)) := tbk2 (j := 111) rfl
set_option maxRecDepth 100000 in
theorem tb_352 : tables_1[352]? = some (Jvm.Cond.native ({ cls := "java/lang/Throwable", name := "fillInStackTrace", desc := "(I)Ljava/lang/Throwable;" } : Jvm.MethodName)) := tbk2 (j := 112) rfl
set_option maxRecDepth 100000 in
theorem tb_353 : tables_1[353]? = some (Jvm.Cond.stringRef "SortUtility$Reader" (176 : Nat) "no such word, or it is there already") := tbk2 (j := 113) rfl
set_option maxRecDepth 100000 in
theorem tb_354 : tables_1[354]? = some (Jvm.Cond.methodLink "SortUtility$Reader" (145 : Nat) ({ cls := "java/lang/IllegalArgumentException", name := "<init>", desc := "(Ljava/lang/String;)V" } : Jvm.MethodName)) := tbk2 (j := 114) rfl
set_option maxRecDepth 100000 in
theorem tb_355 : tables_1[355]? = some (Jvm.Cond.instanceMethod ({ cls := "java/lang/IllegalArgumentException", name := "<init>", desc := "(Ljava/lang/String;)V" } : Jvm.MethodName)) := tbk2 (j := 115) rfl
set_option maxRecDepth 100000 in
theorem tb_356 : tables_1[356]? = some (Jvm.Cond.code ({ cls := "java/lang/IllegalArgumentException", name := "<init>", desc := "(Ljava/lang/String;)V" } : Jvm.MethodName) prog_18_method_2_code (2 : Nat) (Option.none : Option Jvm.ClassFile.FieldType)) := tbk2 (j := 116) rfl
set_option maxRecDepth 100000 in
theorem tb_357 : tables_1[357]? = some (Jvm.Cond.methodLink "java/lang/IllegalArgumentException" (7 : Nat) ({ cls := "java/lang/RuntimeException", name := "<init>", desc := "(Ljava/lang/String;)V" } : Jvm.MethodName)) := tbk2 (j := 117) rfl
set_option maxRecDepth 100000 in
theorem tb_358 : tables_1[358]? = some (Jvm.Cond.instanceMethod ({ cls := "java/lang/RuntimeException", name := "<init>", desc := "(Ljava/lang/String;)V" } : Jvm.MethodName)) := tbk2 (j := 118) rfl
set_option maxRecDepth 100000 in
theorem tb_359 : tables_1[359]? = some (Jvm.Cond.code ({ cls := "java/lang/RuntimeException", name := "<init>", desc := "(Ljava/lang/String;)V" } : Jvm.MethodName) prog_22_method_2_code (2 : Nat) (Option.none : Option Jvm.ClassFile.FieldType)) := tbk2 (j := 119) rfl
set_option maxRecDepth 100000 in
theorem tb_360 : tables_1[360]? = some (Jvm.Cond.methodLink "java/lang/RuntimeException" (7 : Nat) ({ cls := "java/lang/Exception", name := "<init>", desc := "(Ljava/lang/String;)V" } : Jvm.MethodName)) := tbk2 (j := 120) rfl
set_option maxRecDepth 100000 in
theorem tb_361 : tables_1[361]? = some (Jvm.Cond.instanceMethod ({ cls := "java/lang/Exception", name := "<init>", desc := "(Ljava/lang/String;)V" } : Jvm.MethodName)) := tbk2 (j := 121) rfl
set_option maxRecDepth 100000 in
theorem tb_362 : tables_1[362]? = some (Jvm.Cond.code ({ cls := "java/lang/Exception", name := "<init>", desc := "(Ljava/lang/String;)V" } : Jvm.MethodName) prog_17_method_2_code (2 : Nat) (Option.none : Option Jvm.ClassFile.FieldType)) := tbk2 (j := 122) rfl
set_option maxRecDepth 100000 in
theorem tb_363 : tables_1[363]? = some (Jvm.Cond.methodLink "java/lang/Exception" (7 : Nat) ({ cls := "java/lang/Throwable", name := "<init>", desc := "(Ljava/lang/String;)V" } : Jvm.MethodName)) := tbk2 (j := 123) rfl
set_option maxRecDepth 100000 in
theorem tb_364 : tables_1[364]? = some (Jvm.Cond.instanceMethod ({ cls := "java/lang/Throwable", name := "<init>", desc := "(Ljava/lang/String;)V" } : Jvm.MethodName)) := tbk2 (j := 124) rfl
set_option maxRecDepth 100000 in
theorem tb_365 : tables_1[365]? = some (Jvm.Cond.code ({ cls := "java/lang/Throwable", name := "<init>", desc := "(Ljava/lang/String;)V" } : Jvm.MethodName) prog_27_method_2_code (2 : Nat) (Option.none : Option Jvm.ClassFile.FieldType)) := tbk2 (j := 125) rfl
set_option maxRecDepth 100000 in
theorem tb_366 : tables_1[366]? = some (Jvm.Cond.fieldLink "java/lang/Throwable" (198 : Nat) "java/lang/Throwable" "backtrace" "Ljava/lang/Object;") := tbk2 (j := 126) rfl
set_option maxRecDepth 100000 in
theorem tb_367 : tables_1[367]? = some (Jvm.Cond.fieldLink "java/lang/Throwable" (31 : Nat) "java/lang/Throwable" "detailMessage" "Ljava/lang/String;") := tbk2 (j := 127) rfl
set_option maxRecDepth 100000 in
theorem tb_368 : tables_1[368]? = some (Jvm.Cond.fieldLink "java/lang/Throwable" (7 : Nat) "java/lang/Throwable" "cause" "Ljava/lang/Throwable;") := tbk2 (j := 128) rfl
set_option maxRecDepth 100000 in
theorem tb_369 : tables_1[369]? = some (Jvm.Cond.fieldLink "java/lang/Throwable" (17 : Nat) "java/lang/Throwable" "stackTrace" "[Ljava/lang/StackTraceElement;") := tbk2 (j := 129) rfl
set_option maxRecDepth 100000 in
theorem tb_370 : tables_1[370]? = some (Jvm.Cond.fieldLink "java/lang/Throwable" (24 : Nat) "java/lang/Throwable" "suppressedExceptions" "Ljava/util/List;") := tbk2 (j := 130) rfl
set_option maxRecDepth 100000 in
theorem tb_371 : tables_1[371]? = some (Jvm.Cond.soleField "java/lang/Throwable" "backtrace") := tbk2 (j := 131) rfl
set_option maxRecDepth 100000 in
theorem tb_372 : tables_1[372]? = some (Jvm.Cond.soleField "java/lang/Throwable" "detailMessage") := tbk2 (j := 132) rfl
set_option maxRecDepth 100000 in
theorem tb_373 : tables_1[373]? = some (Jvm.Cond.soleField "java/lang/Throwable" "cause") := tbk2 (j := 133) rfl
set_option maxRecDepth 100000 in
theorem tb_374 : tables_1[374]? = some (Jvm.Cond.soleField "java/lang/Throwable" "stackTrace") := tbk2 (j := 134) rfl
set_option maxRecDepth 100000 in
theorem tb_375 : tables_1[375]? = some (Jvm.Cond.lays "java/lang/IllegalArgumentException" "java/lang/Throwable" "depth" "I") := tbk2 (j := 135) rfl
set_option maxRecDepth 100000 in
theorem tb_376 : tables_1[376]? = some (Jvm.Cond.soleField "java/lang/Throwable" "depth") := tbk2 (j := 136) rfl
set_option maxRecDepth 100000 in
theorem tb_377 : tables_1[377]? = some (Jvm.Cond.soleField "java/lang/Throwable" "suppressedExceptions") := tbk2 (j := 137) rfl
set_option maxRecDepth 100000 in
theorem tb_378 : tables_1[378]? = some (Jvm.Cond.superclass "java/lang/IllegalArgumentException" "java/lang/RuntimeException") := tbk2 (j := 138) rfl
set_option maxRecDepth 100000 in
theorem tb_379 : tables_1[379]? = some (Jvm.Cond.methodLink "SortUtility$Reader" (49 : Nat) ({ cls := "SortUtility$Reader", name := "readSaid", desc := "(LSortUtility$Word;)V" } : Jvm.MethodName)) := tbk2 (j := 139) rfl
set_option maxRecDepth 100000 in
theorem tb_380 : tables_1[380]? = some (Jvm.Cond.privateMethod ({ cls := "SortUtility$Reader", name := "readSaid", desc := "(LSortUtility$Word;)V" } : Jvm.MethodName)) := tbk2 (j := 140) rfl
set_option maxRecDepth 100000 in
theorem tb_381 : tables_1[381]? = some (Jvm.Cond.instanceMethod ({ cls := "SortUtility$Reader", name := "readSaid", desc := "(LSortUtility$Word;)V" } : Jvm.MethodName)) := tbk2 (j := 141) rfl
set_option maxRecDepth 100000 in
theorem tb_382 : tables_1[382]? = some (Jvm.Cond.code ({ cls := "SortUtility$Reader", name := "readSaid", desc := "(LSortUtility$Word;)V" } : Jvm.MethodName) prog_5_method_3_code (2 : Nat) (Option.none : Option Jvm.ClassFile.FieldType)) := tbk2 (j := 142) rfl
set_option maxRecDepth 100000 in
theorem tb_383 : tables_1[383]? = some (Jvm.Cond.fieldLink "SortUtility$Reader" (59 : Nat) "SortUtility$1" "$SwitchMap$SortUtility$Word" "[I") := tbk2 (j := 143) rfl
set_option maxRecDepth 100000 in
theorem tb_384 : tables_1[384]? = some (Jvm.Cond.laysStatic "SortUtility$1" "$SwitchMap$SortUtility$Word" "[I") := tbk2 (j := 144) rfl
set_option maxRecDepth 100000 in
theorem tb_385 : tables_1[385]? = some (Jvm.Cond.methodLink "SortUtility$Reader" (64 : Nat) ({ cls := "SortUtility$Word", name := "ordinal", desc := "()I" } : Jvm.MethodName)) := tbk2 (j := 145) rfl
set_option maxRecDepth 100000 in
theorem tb_386 : tables_1[386]? = some (Jvm.Cond.sameMethod "SortUtility$Word" "java/lang/Enum" "ordinal" "()I") := tbk2 (j := 146) rfl
set_option maxRecDepth 100000 in
theorem tb_387 : tables_1[387]? = some (Jvm.Cond.declares ({ cls := "java/lang/Enum", name := "ordinal", desc := "()I" } : Jvm.MethodName)) := tbk2 (j := 147) rfl
set_option maxRecDepth 100000 in
theorem tb_388 : tables_1[388]? = some (Jvm.Cond.selects "SortUtility$Word" ({ cls := "SortUtility$Word", name := "ordinal", desc := "()I" } : Jvm.MethodName) ({ cls := "java/lang/Enum", name := "ordinal", desc := "()I" } : Jvm.MethodName)) := tbk2 (j := 148) rfl
set_option maxRecDepth 100000 in
theorem tb_389 : tables_1[389]? = some (Jvm.Cond.instanceMethod ({ cls := "java/lang/Enum", name := "ordinal", desc := "()I" } : Jvm.MethodName)) := tbk2 (j := 149) rfl
set_option maxRecDepth 100000 in
theorem tb_390 : tables_1[390]? = some (Jvm.Cond.code ({ cls := "java/lang/Enum", name := "ordinal", desc := "()I" } : Jvm.MethodName) prog_16_method_2_code (1 : Nat) (Option.some Jvm.ClassFile.FieldType.int)) := tbk2 (j := 150) rfl
set_option maxRecDepth 100000 in
theorem tb_391 : tables_1[391]? = some (Jvm.Cond.methodLink "SortUtility$Reader" (70 : Nat) ({ cls := "SortUtility$Reader", name := "readKeys", desc := "()V" } : Jvm.MethodName)) := tbk2 (j := 151) rfl
set_option maxRecDepth 100000 in
theorem tb_392 : tables_1[392]? = some (Jvm.Cond.privateMethod ({ cls := "SortUtility$Reader", name := "readKeys", desc := "()V" } : Jvm.MethodName)) := tbk2 (j := 152) rfl
set_option maxRecDepth 100000 in
theorem tb_393 : tables_1[393]? = some (Jvm.Cond.instanceMethod ({ cls := "SortUtility$Reader", name := "readKeys", desc := "()V" } : Jvm.MethodName)) := tbk2 (j := 153) rfl
set_option maxRecDepth 100000 in
theorem tb_394 : tables_1[394]? = some (Jvm.Cond.code ({ cls := "SortUtility$Reader", name := "readKeys", desc := "()V" } : Jvm.MethodName) prog_5_method_4_code (4 : Nat) (Option.none : Option Jvm.ClassFile.FieldType)) := tbk2 (j := 154) rfl
set_option maxRecDepth 100000 in
theorem tb_395 : tables_1[395]? = some (Jvm.Cond.methodLink "SortUtility$Reader" (95 : Nat) ({ cls := "SortUtility$Reader", name := "readField", desc := "(I)LSortUtility$Part;" } : Jvm.MethodName)) := tbk2 (j := 155) rfl
set_option maxRecDepth 100000 in
theorem tb_396 : tables_1[396]? = some (Jvm.Cond.privateMethod ({ cls := "SortUtility$Reader", name := "readField", desc := "(I)LSortUtility$Part;" } : Jvm.MethodName)) := tbk2 (j := 156) rfl
set_option maxRecDepth 100000 in
theorem tb_397 : tables_1[397]? = some (Jvm.Cond.instanceMethod ({ cls := "SortUtility$Reader", name := "readField", desc := "(I)LSortUtility$Part;" } : Jvm.MethodName)) := tbk2 (j := 157) rfl
set_option maxRecDepth 100000 in
theorem tb_398 : tables_1[398]? = some (Jvm.Cond.code ({ cls := "SortUtility$Reader", name := "readField", desc := "(I)LSortUtility$Part;" } : Jvm.MethodName) prog_5_method_10_code (4 : Nat) (Option.some (Jvm.ClassFile.FieldType.object "SortUtility$Part"))) := tbk2 (j := 158) rfl
set_option maxRecDepth 100000 in
theorem tb_399 : tables_1[399]? = some (Jvm.Cond.methodLink "SortUtility$Reader" (86 : Nat) ({ cls := "SortUtility$Reader", name := "readNumber", desc := "(II)I" } : Jvm.MethodName)) := tbk2 (j := 159) rfl
set_option maxRecDepth 100000 in
theorem tb_400 : tables_1[400]? = some (Jvm.Cond.privateMethod ({ cls := "SortUtility$Reader", name := "readNumber", desc := "(II)I" } : Jvm.MethodName)) := tbk2 (j := 160) rfl
set_option maxRecDepth 100000 in
theorem tb_401 : tables_1[401]? = some (Jvm.Cond.instanceMethod ({ cls := "SortUtility$Reader", name := "readNumber", desc := "(II)I" } : Jvm.MethodName)) := tbk2 (j := 161) rfl
set_option maxRecDepth 100000 in
theorem tb_402 : tables_1[402]? = some (Jvm.Cond.code ({ cls := "SortUtility$Reader", name := "readNumber", desc := "(II)I" } : Jvm.MethodName) prog_5_method_13_code (6 : Nat) (Option.some Jvm.ClassFile.FieldType.int)) := tbk2 (j := 162) rfl
set_option maxRecDepth 100000 in
theorem tb_403 : tables_1[403]? = some (Jvm.Cond.methodLinkNest "SortUtility$Reader" (212 : Nat) ({ cls := "SortUtility", name := "isDigit", desc := "(I)Z" } : Jvm.MethodName) "SortUtility") := tbk2 (j := 163) rfl
set_option maxRecDepth 100000 in
theorem tb_404 : tables_1[404]? = some (Jvm.Cond.static ({ cls := "SortUtility", name := "isDigit", desc := "(I)Z" } : Jvm.MethodName)) := tbk2 (j := 164) rfl
set_option maxRecDepth 100000 in
theorem tb_405 : tables_1[405]? = some (Jvm.Cond.code ({ cls := "SortUtility", name := "isDigit", desc := "(I)Z" } : Jvm.MethodName) prog_1_method_31_code (1 : Nat) (Option.some Jvm.ClassFile.FieldType.boolean)) := tbk2 (j := 165) rfl
set_option maxRecDepth 100000 in
theorem tb_406 : tables_1[406]? = some (Jvm.Cond.stringRef "SortUtility$Reader" (215 : Nat) "no number, or not such a one") := tbk2 (j := 166) rfl
set_option maxRecDepth 100000 in
theorem tb_407 : tables_1[407]? = some (Jvm.Cond.stringRef "SortUtility$Reader" (99 : Nat) ",") := tbk2 (j := 167) rfl
set_option maxRecDepth 100000 in
theorem tb_408 : tables_1[408]? = some (Jvm.Cond.methodLink "SortUtility$Reader" (55 : Nat) ({ cls := "SortUtility$Reader", name := "take", desc := "(Ljava/lang/String;)I" } : Jvm.MethodName)) := tbk2 (j := 168) rfl
set_option maxRecDepth 100000 in
theorem tb_409 : tables_1[409]? = some (Jvm.Cond.privateMethod ({ cls := "SortUtility$Reader", name := "take", desc := "(Ljava/lang/String;)I" } : Jvm.MethodName)) := tbk2 (j := 169) rfl
set_option maxRecDepth 100000 in
theorem tb_410 : tables_1[410]? = some (Jvm.Cond.instanceMethod ({ cls := "SortUtility$Reader", name := "take", desc := "(Ljava/lang/String;)I" } : Jvm.MethodName)) := tbk2 (j := 170) rfl
set_option maxRecDepth 100000 in
theorem tb_411 : tables_1[411]? = some (Jvm.Cond.code ({ cls := "SortUtility$Reader", name := "take", desc := "(Ljava/lang/String;)I" } : Jvm.MethodName) prog_5_method_14_code (4 : Nat) (Option.some Jvm.ClassFile.FieldType.int)) := tbk2 (j := 171) rfl
set_option maxRecDepth 100000 in
theorem tb_412 : tables_1[412]? = some (Jvm.Cond.stringRef "SortUtility$Reader" (217 : Nat) "a sign that can't be there") := tbk2 (j := 172) rfl
set_option maxRecDepth 100000 in
theorem tb_413 : tables_1[413]? = some (Jvm.Cond.methodLink "SortUtility$Reader" (187 : Nat) ({ cls := "SortUtility$Part", name := "ofField", desc := "(II)LSortUtility$Part;" } : Jvm.MethodName)) := tbk2 (j := 173) rfl
set_option maxRecDepth 100000 in
theorem tb_414 : tables_1[414]? = some (Jvm.Cond.static ({ cls := "SortUtility$Part", name := "ofField", desc := "(II)LSortUtility$Part;" } : Jvm.MethodName)) := tbk2 (j := 174) rfl
set_option maxRecDepth 100000 in
theorem tb_415 : tables_1[415]? = some (Jvm.Cond.code ({ cls := "SortUtility$Part", name := "ofField", desc := "(II)LSortUtility$Part;" } : Jvm.MethodName) prog_4_method_2_code (2 : Nat) (Option.some (Jvm.ClassFile.FieldType.object "SortUtility$Part"))) := tbk2 (j := 175) rfl
set_option maxRecDepth 100000 in
theorem tb_416 : tables_1[416]? = some (Jvm.Cond.classLink "SortUtility$Part" (10 : Nat) "SortUtility$Part") := tbk2 (j := 176) rfl
set_option maxRecDepth 100000 in
theorem tb_417 : tables_1[417]? = some (Jvm.Cond.instantiable "SortUtility$Part" (3 : Nat)) := tbk2 (j := 177) rfl
set_option maxRecDepth 100000 in
theorem tb_418 : tables_1[418]? = some (Jvm.Cond.methodLink "SortUtility$Part" (22 : Nat) ({ cls := "SortUtility$Part", name := "<init>", desc := "([BII)V" } : Jvm.MethodName)) := tbk2 (j := 178) rfl
set_option maxRecDepth 100000 in
theorem tb_419 : tables_1[419]? = some (Jvm.Cond.instanceMethod ({ cls := "SortUtility$Part", name := "<init>", desc := "([BII)V" } : Jvm.MethodName)) := tbk2 (j := 179) rfl
set_option maxRecDepth 100000 in
theorem tb_420 : tables_1[420]? = some (Jvm.Cond.code ({ cls := "SortUtility$Part", name := "<init>", desc := "([BII)V" } : Jvm.MethodName) prog_4_method_1_code (4 : Nat) (Option.none : Option Jvm.ClassFile.FieldType)) := tbk2 (j := 180) rfl
set_option maxRecDepth 100000 in
theorem tb_421 : tables_1[421]? = some (Jvm.Cond.methodLink "SortUtility$Part" (3 : Nat) ({ cls := "java/lang/Object", name := "<init>", desc := "()V" } : Jvm.MethodName)) := tbk2 (j := 181) rfl
set_option maxRecDepth 100000 in
theorem tb_422 : tables_1[422]? = some (Jvm.Cond.fieldLink "SortUtility$Part" (9 : Nat) "SortUtility$Part" "text" "[B") := tbk2 (j := 182) rfl
set_option maxRecDepth 100000 in
theorem tb_423 : tables_1[423]? = some (Jvm.Cond.fieldLink "SortUtility$Part" (15 : Nat) "SortUtility$Part" "from" "I") := tbk2 (j := 183) rfl
set_option maxRecDepth 100000 in
theorem tb_424 : tables_1[424]? = some (Jvm.Cond.fieldLink "SortUtility$Part" (19 : Nat) "SortUtility$Part" "length" "I") := tbk2 (j := 184) rfl
set_option maxRecDepth 100000 in
theorem tb_425 : tables_1[425]? = some (Jvm.Cond.fieldLink "SortUtility" (243 : Nat) "SortUtility$Part" "length" "I") := tbk2 (j := 185) rfl
set_option maxRecDepth 100000 in
theorem tb_426 : tables_1[426]? = some (Jvm.Cond.laysFinal "SortUtility$Part" "SortUtility$Part" "text" "[B") := tbk2 (j := 186) rfl
set_option maxRecDepth 100000 in
theorem tb_427 : tables_1[427]? = some (Jvm.Cond.soleField "SortUtility$Part" "text") := tbk2 (j := 187) rfl
set_option maxRecDepth 100000 in
theorem tb_428 : tables_1[428]? = some (Jvm.Cond.laysFinal "SortUtility$Part" "SortUtility$Part" "from" "I") := tbk2 (j := 188) rfl
set_option maxRecDepth 100000 in
theorem tb_429 : tables_1[429]? = some (Jvm.Cond.soleField "SortUtility$Part" "from") := tbk2 (j := 189) rfl
set_option maxRecDepth 100000 in
theorem tb_430 : tables_1[430]? = some (Jvm.Cond.laysFinal "SortUtility$Part" "SortUtility$Part" "length" "I") := tbk2 (j := 190) rfl
set_option maxRecDepth 100000 in
theorem tb_431 : tables_1[431]? = some (Jvm.Cond.soleField "SortUtility$Part" "length") := tbk2 (j := 191) rfl
set_option maxRecDepth 100000 in
theorem tb_432 : tables_1[432]? = some (Jvm.Cond.superclass "SortUtility$Part" "java/lang/Object") := tbk2 (j := 192) rfl
set_option maxRecDepth 100000 in
theorem tb_433 : tables_1[433]? = some (Jvm.Cond.stringRef "SortUtility$Reader" (101 : Nat) "ad") := tbk2 (j := 193) rfl
set_option maxRecDepth 100000 in
theorem tb_434 : tables_1[434]? = some (Jvm.Cond.stringRef "SortUtility$Reader" (106 : Nat) "bn") := tbk2 (j := 194) rfl
set_option maxRecDepth 100000 in
theorem tb_435 : tables_1[435]? = some (Jvm.Cond.classLink "SortUtility$Reader" (112 : Nat) "SortUtility$Key") := tbk2 (j := 195) rfl
set_option maxRecDepth 100000 in
theorem tb_436 : tables_1[436]? = some (Jvm.Cond.instantiable "SortUtility$Key" (3 : Nat)) := tbk2 (j := 196) rfl
set_option maxRecDepth 100000 in
theorem tb_437 : tables_1[437]? = some (Jvm.Cond.methodLink "SortUtility$Reader" (114 : Nat) ({ cls := "SortUtility$Key", name := "<init>", desc := "(LSortUtility$Part;ZZ)V" } : Jvm.MethodName)) := tbk2 (j := 197) rfl
set_option maxRecDepth 100000 in
theorem tb_438 : tables_1[438]? = some (Jvm.Cond.instanceMethod ({ cls := "SortUtility$Key", name := "<init>", desc := "(LSortUtility$Part;ZZ)V" } : Jvm.MethodName)) := tbk2 (j := 198) rfl
set_option maxRecDepth 100000 in
theorem tb_439 : tables_1[439]? = some (Jvm.Cond.code ({ cls := "SortUtility$Key", name := "<init>", desc := "(LSortUtility$Part;ZZ)V" } : Jvm.MethodName) prog_3_method_1_code (4 : Nat) (Option.none : Option Jvm.ClassFile.FieldType)) := tbk2 (j := 199) rfl
set_option maxRecDepth 100000 in
theorem tb_440 : tables_1[440]? = some (Jvm.Cond.methodLink "SortUtility$Key" (1 : Nat) ({ cls := "java/lang/Object", name := "<init>", desc := "()V" } : Jvm.MethodName)) := tbk2 (j := 200) rfl
set_option maxRecDepth 100000 in
theorem tb_441 : tables_1[441]? = some (Jvm.Cond.fieldLink "SortUtility$Key" (7 : Nat) "SortUtility$Key" "field" "LSortUtility$Part;") := tbk2 (j := 201) rfl
set_option maxRecDepth 100000 in
theorem tb_442 : tables_1[442]? = some (Jvm.Cond.fieldLink "SortUtility$Statements" (50 : Nat) "SortUtility$Key" "field" "LSortUtility$Part;") := tbk2 (j := 202) rfl
set_option maxRecDepth 100000 in
theorem tb_443 : tables_1[443]? = some (Jvm.Cond.fieldLink "SortUtility" (253 : Nat) "SortUtility$Key" "field" "LSortUtility$Part;") := tbk2 (j := 203) rfl
set_option maxRecDepth 100000 in
theorem tb_444 : tables_1[444]? = some (Jvm.Cond.fieldLink "SortUtility$Key" (13 : Nat) "SortUtility$Key" "down" "Z") := tbk2 (j := 204) rfl
set_option maxRecDepth 100000 in
theorem tb_445 : tables_1[445]? = some (Jvm.Cond.fieldLink "SortUtility$Statements" (61 : Nat) "SortUtility$Key" "down" "Z") := tbk2 (j := 205) rfl
set_option maxRecDepth 100000 in
theorem tb_446 : tables_1[446]? = some (Jvm.Cond.fieldLink "SortUtility$Key" (17 : Nat) "SortUtility$Key" "asNumber" "Z") := tbk2 (j := 206) rfl
set_option maxRecDepth 100000 in
theorem tb_447 : tables_1[447]? = some (Jvm.Cond.fieldLink "SortUtility$Statements" (54 : Nat) "SortUtility$Key" "asNumber" "Z") := tbk2 (j := 207) rfl
set_option maxRecDepth 100000 in
theorem tb_448 : tables_1[448]? = some (Jvm.Cond.fieldLink "SortUtility" (257 : Nat) "SortUtility$Key" "asNumber" "Z") := tbk2 (j := 208) rfl
set_option maxRecDepth 100000 in
theorem tb_449 : tables_1[449]? = some (Jvm.Cond.laysFinal "SortUtility$Key" "SortUtility$Key" "field" "LSortUtility$Part;") := tbk2 (j := 209) rfl
set_option maxRecDepth 100000 in
theorem tb_450 : tables_1[450]? = some (Jvm.Cond.soleField "SortUtility$Key" "field") := tbk2 (j := 210) rfl
set_option maxRecDepth 100000 in
theorem tb_451 : tables_1[451]? = some (Jvm.Cond.laysFinal "SortUtility$Key" "SortUtility$Key" "down" "Z") := tbk2 (j := 211) rfl
set_option maxRecDepth 100000 in
theorem tb_452 : tables_1[452]? = some (Jvm.Cond.soleField "SortUtility$Key" "down") := tbk2 (j := 212) rfl
set_option maxRecDepth 100000 in
theorem tb_453 : tables_1[453]? = some (Jvm.Cond.laysFinal "SortUtility$Key" "SortUtility$Key" "asNumber" "Z") := tbk2 (j := 213) rfl
set_option maxRecDepth 100000 in
theorem tb_454 : tables_1[454]? = some (Jvm.Cond.soleField "SortUtility$Key" "asNumber") := tbk2 (j := 214) rfl
set_option maxRecDepth 100000 in
theorem tb_455 : tables_1[455]? = some (Jvm.Cond.superclass "SortUtility$Key" "java/lang/Object") := tbk2 (j := 215) rfl
set_option maxRecDepth 100000 in
theorem tb_456 : tables_1[456]? = some (Jvm.Cond.methodLink "SortUtility$Reader" (117 : Nat) ({ cls := "java/util/ArrayList", name := "add", desc := "(Ljava/lang/Object;)Z" } : Jvm.MethodName)) := tbk2 (j := 216) rfl
set_option maxRecDepth 100000 in
theorem tb_457 : tables_1[457]? = some (Jvm.Cond.instanceMethod ({ cls := "java/util/ArrayList", name := "add", desc := "(Ljava/lang/Object;)Z" } : Jvm.MethodName)) := tbk2 (j := 217) rfl
set_option maxRecDepth 100000 in
theorem tb_458 : tables_1[458]? = some (Jvm.Cond.selects "java/util/ArrayList" ({ cls := "java/util/ArrayList", name := "add", desc := "(Ljava/lang/Object;)Z" } : Jvm.MethodName) ({ cls := "java/util/ArrayList", name := "add", desc := "(Ljava/lang/Object;)Z" } : Jvm.MethodName)) := tbk2 (j := 218) rfl
set_option maxRecDepth 100000 in
theorem tb_459 : tables_1[459]? = some (Jvm.Cond.code ({ cls := "java/util/ArrayList", name := "add", desc := "(Ljava/lang/Object;)Z" } : Jvm.MethodName) prog_30_method_25_code (2 : Nat) (Option.some Jvm.ClassFile.FieldType.boolean)) := tbk2 (j := 219) rfl
set_option maxRecDepth 100000 in
theorem tb_460 : tables_1[460]? = some (Jvm.Cond.methodLink "java/util/ArrayList" (131 : Nat) ({ cls := "java/util/ArrayList", name := "add", desc := "(Ljava/lang/Object;[Ljava/lang/Object;I)V" } : Jvm.MethodName)) := tbk2 (j := 220) rfl
set_option maxRecDepth 100000 in
theorem tb_461 : tables_1[461]? = some (Jvm.Cond.privateMethod ({ cls := "java/util/ArrayList", name := "add", desc := "(Ljava/lang/Object;[Ljava/lang/Object;I)V" } : Jvm.MethodName)) := tbk2 (j := 221) rfl
set_option maxRecDepth 100000 in
theorem tb_462 : tables_1[462]? = some (Jvm.Cond.instanceMethod ({ cls := "java/util/ArrayList", name := "add", desc := "(Ljava/lang/Object;[Ljava/lang/Object;I)V" } : Jvm.MethodName)) := tbk2 (j := 222) rfl
set_option maxRecDepth 100000 in
theorem tb_463 : tables_1[463]? = some (Jvm.Cond.code ({ cls := "java/util/ArrayList", name := "add", desc := "(Ljava/lang/Object;[Ljava/lang/Object;I)V" } : Jvm.MethodName) prog_30_method_24_code (4 : Nat) (Option.none : Option Jvm.ClassFile.FieldType)) := tbk2 (j := 223) rfl
set_option maxRecDepth 100000 in
theorem tb_464 : tables_1[464]? = some (Jvm.Cond.methodLink "java/util/ArrayList" (129 : Nat) ({ cls := "java/util/ArrayList", name := "grow", desc := "()[Ljava/lang/Object;" } : Jvm.MethodName)) := tbk2 (j := 224) rfl
set_option maxRecDepth 100000 in
theorem tb_465 : tables_1[465]? = some (Jvm.Cond.privateMethod ({ cls := "java/util/ArrayList", name := "grow", desc := "()[Ljava/lang/Object;" } : Jvm.MethodName)) := tbk2 (j := 225) rfl
set_option maxRecDepth 100000 in
theorem tb_466 : tables_1[466]? = some (Jvm.Cond.instanceMethod ({ cls := "java/util/ArrayList", name := "grow", desc := "()[Ljava/lang/Object;" } : Jvm.MethodName)) := tbk2 (j := 226) rfl
set_option maxRecDepth 100000 in
theorem tb_467 : tables_1[467]? = some (Jvm.Cond.code ({ cls := "java/util/ArrayList", name := "grow", desc := "()[Ljava/lang/Object;" } : Jvm.MethodName) prog_30_method_7_code (1 : Nat) (Option.some (Jvm.ClassFile.FieldType.array (Jvm.ClassFile.FieldType.object "java/lang/Object")))) := tbk2 (j := 227) rfl
set_option maxRecDepth 100000 in
theorem tb_468 : tables_1[468]? = some (Jvm.Cond.methodLink "java/util/ArrayList" (69 : Nat) ({ cls := "java/util/ArrayList", name := "grow", desc := "(I)[Ljava/lang/Object;" } : Jvm.MethodName)) := tbk2 (j := 228) rfl
set_option maxRecDepth 100000 in
theorem tb_469 : tables_1[469]? = some (Jvm.Cond.privateMethod ({ cls := "java/util/ArrayList", name := "grow", desc := "(I)[Ljava/lang/Object;" } : Jvm.MethodName)) := tbk2 (j := 229) rfl
set_option maxRecDepth 100000 in
theorem tb_470 : tables_1[470]? = some (Jvm.Cond.instanceMethod ({ cls := "java/util/ArrayList", name := "grow", desc := "(I)[Ljava/lang/Object;" } : Jvm.MethodName)) := tbk2 (j := 230) rfl
set_option maxRecDepth 100000 in
theorem tb_471 : tables_1[471]? = some (Jvm.Cond.code ({ cls := "java/util/ArrayList", name := "grow", desc := "(I)[Ljava/lang/Object;" } : Jvm.MethodName) prog_30_method_6_code (4 : Nat) (Option.some (Jvm.ClassFile.FieldType.array (Jvm.ClassFile.FieldType.object "java/lang/Object")))) := tbk2 (j := 231) rfl
set_option maxRecDepth 100000 in
theorem tb_472 : tables_1[472]? = some (Jvm.Cond.methodLink "java/util/ArrayList" (73 : Nat) ({ cls := "jdk/internal/util/ArraysSupport", name := "newLength", desc := "(III)I" } : Jvm.MethodName)) := tbk2 (j := 232) rfl
set_option maxRecDepth 100000 in
theorem tb_473 : tables_1[473]? = some (Jvm.Cond.static ({ cls := "jdk/internal/util/ArraysSupport", name := "newLength", desc := "(III)I" } : Jvm.MethodName)) := tbk2 (j := 233) rfl
set_option maxRecDepth 100000 in
theorem tb_474 : tables_1[474]? = some (Jvm.Cond.code ({ cls := "jdk/internal/util/ArraysSupport", name := "newLength", desc := "(III)I" } : Jvm.MethodName) prog_37_method_27_code (4 : Nat) (Option.some Jvm.ClassFile.FieldType.int)) := tbk2 (j := 234) rfl
set_option maxRecDepth 100000 in
theorem tb_475 : tables_1[475]? = some (Jvm.Cond.methodLink "jdk/internal/util/ArraysSupport" (194 : Nat) ({ cls := "java/lang/Math", name := "max", desc := "(II)I" } : Jvm.MethodName)) := tbk2 (j := 235) rfl
set_option maxRecDepth 100000 in
theorem tb_476 : tables_1[476]? = some (Jvm.Cond.static ({ cls := "java/lang/Math", name := "max", desc := "(II)I" } : Jvm.MethodName)) := tbk2 (j := 236) rfl
set_option maxRecDepth 100000 in
theorem tb_477 : tables_1[477]? = some (Jvm.Cond.code ({ cls := "java/lang/Math", name := "max", desc := "(II)I" } : Jvm.MethodName) prog_21_method_65_code (2 : Nat) (Option.some Jvm.ClassFile.FieldType.int)) := tbk2 (j := 237) rfl
set_option maxRecDepth 100000 in
theorem tb_478 : tables_1[478]? = some (Jvm.Cond.constant "jdk/internal/util/ArraysSupport" (200 : Nat) (2147483639 : Int32)) := tbk2 (j := 238) rfl
set_option maxRecDepth 100000 in
theorem tb_479 : tables_1[479]? = some (Jvm.Cond.methodLink "jdk/internal/util/ArraysSupport" (201 : Nat) ({ cls := "jdk/internal/util/ArraysSupport", name := "hugeLength", desc := "(II)I" } : Jvm.MethodName)) := tbk2 (j := 239) rfl
set_option maxRecDepth 100000 in
theorem tb_480 : tables_1[480]? = some (Jvm.Cond.static ({ cls := "jdk/internal/util/ArraysSupport", name := "hugeLength", desc := "(II)I" } : Jvm.MethodName)) := tbk3 (j := 0) rfl
set_option maxRecDepth 100000 in
theorem tb_481 : tables_1[481]? = some (Jvm.Cond.code ({ cls := "jdk/internal/util/ArraysSupport", name := "hugeLength", desc := "(II)I" } : Jvm.MethodName) prog_37_method_28_code (3 : Nat) (Option.some Jvm.ClassFile.FieldType.int)) := tbk3 (j := 1) rfl
set_option maxRecDepth 100000 in
theorem tb_482 : tables_1[482]? = some (Jvm.Cond.methodLink "java/util/ArrayList" (66 : Nat) ({ cls := "java/util/Arrays", name := "copyOf", desc := "([Ljava/lang/Object;I)[Ljava/lang/Object;" } : Jvm.MethodName)) := tbk3 (j := 2) rfl
set_option maxRecDepth 100000 in
theorem tb_483 : tables_1[483]? = some (Jvm.Cond.static ({ cls := "java/util/Arrays", name := "copyOf", desc := "([Ljava/lang/Object;I)[Ljava/lang/Object;" } : Jvm.MethodName)) := tbk3 (j := 3) rfl
set_option maxRecDepth 100000 in
theorem tb_484 : tables_1[484]? = some (Jvm.Cond.code ({ cls := "java/util/Arrays", name := "copyOf", desc := "([Ljava/lang/Object;I)[Ljava/lang/Object;" } : Jvm.MethodName) prog_31_method_119_code (2 : Nat) (Option.some (Jvm.ClassFile.FieldType.array (Jvm.ClassFile.FieldType.object "java/lang/Object")))) := tbk3 (j := 4) rfl
set_option maxRecDepth 100000 in
theorem tb_485 : tables_1[485]? = some (Jvm.Cond.methodLink "java/util/Arrays" (86 : Nat) ({ cls := "java/lang/Object", name := "getClass", desc := "()Ljava/lang/Class;" } : Jvm.MethodName)) := tbk3 (j := 5) rfl
set_option maxRecDepth 100000 in
theorem tb_486 : tables_1[486]? = some (Jvm.Cond.instanceMethod ({ cls := "java/lang/Object", name := "getClass", desc := "()Ljava/lang/Class;" } : Jvm.MethodName)) := tbk3 (j := 6) rfl
set_option maxRecDepth 100000 in
theorem tb_487 : tables_1[487]? = some (Jvm.Cond.sameMethod "java/lang/Object" "java/lang/Object" "getClass" "()Ljava/lang/Class;") := tbk3 (j := 7) rfl
set_option maxRecDepth 100000 in
theorem tb_488 : tables_1[488]? = some (Jvm.Cond.selects "SortUtility" ({ cls := "java/lang/Object", name := "getClass", desc := "()Ljava/lang/Class;" } : Jvm.MethodName) ({ cls := "java/lang/Object", name := "getClass", desc := "()Ljava/lang/Class;" } : Jvm.MethodName)) := tbk3 (j := 8) rfl
set_option maxRecDepth 100000 in
theorem tb_489 : tables_1[489]? = some (Jvm.Cond.selects "SortUtility$Key" ({ cls := "java/lang/Object", name := "getClass", desc := "()Ljava/lang/Class;" } : Jvm.MethodName) ({ cls := "java/lang/Object", name := "getClass", desc := "()Ljava/lang/Class;" } : Jvm.MethodName)) := tbk3 (j := 9) rfl
set_option maxRecDepth 100000 in
theorem tb_490 : tables_1[490]? = some (Jvm.Cond.selects "SortUtility$Part" ({ cls := "java/lang/Object", name := "getClass", desc := "()Ljava/lang/Class;" } : Jvm.MethodName) ({ cls := "java/lang/Object", name := "getClass", desc := "()Ljava/lang/Class;" } : Jvm.MethodName)) := tbk3 (j := 10) rfl
set_option maxRecDepth 100000 in
theorem tb_491 : tables_1[491]? = some (Jvm.Cond.selects "SortUtility$Reader" ({ cls := "java/lang/Object", name := "getClass", desc := "()Ljava/lang/Class;" } : Jvm.MethodName) ({ cls := "java/lang/Object", name := "getClass", desc := "()Ljava/lang/Class;" } : Jvm.MethodName)) := tbk3 (j := 11) rfl
set_option maxRecDepth 100000 in
theorem tb_492 : tables_1[492]? = some (Jvm.Cond.selects "SortUtility$Row" ({ cls := "java/lang/Object", name := "getClass", desc := "()Ljava/lang/Class;" } : Jvm.MethodName) ({ cls := "java/lang/Object", name := "getClass", desc := "()Ljava/lang/Class;" } : Jvm.MethodName)) := tbk3 (j := 12) rfl
set_option maxRecDepth 100000 in
theorem tb_493 : tables_1[493]? = some (Jvm.Cond.selects "SortUtility$Rows" ({ cls := "java/lang/Object", name := "getClass", desc := "()Ljava/lang/Class;" } : Jvm.MethodName) ({ cls := "java/lang/Object", name := "getClass", desc := "()Ljava/lang/Class;" } : Jvm.MethodName)) := tbk3 (j := 13) rfl
set_option maxRecDepth 100000 in
theorem tb_494 : tables_1[494]? = some (Jvm.Cond.selects "SortUtility$Statements" ({ cls := "java/lang/Object", name := "getClass", desc := "()Ljava/lang/Class;" } : Jvm.MethodName) ({ cls := "java/lang/Object", name := "getClass", desc := "()Ljava/lang/Class;" } : Jvm.MethodName)) := tbk3 (j := 14) rfl
set_option maxRecDepth 100000 in
theorem tb_495 : tables_1[495]? = some (Jvm.Cond.selects "SortUtility$Test" ({ cls := "java/lang/Object", name := "getClass", desc := "()Ljava/lang/Class;" } : Jvm.MethodName) ({ cls := "java/lang/Object", name := "getClass", desc := "()Ljava/lang/Class;" } : Jvm.MethodName)) := tbk3 (j := 15) rfl
set_option maxRecDepth 100000 in
theorem tb_496 : tables_1[496]? = some (Jvm.Cond.selects "SortUtility$Word" ({ cls := "java/lang/Object", name := "getClass", desc := "()Ljava/lang/Class;" } : Jvm.MethodName) ({ cls := "java/lang/Object", name := "getClass", desc := "()Ljava/lang/Class;" } : Jvm.MethodName)) := tbk3 (j := 16) rfl
set_option maxRecDepth 100000 in
theorem tb_497 : tables_1[497]? = some (Jvm.Cond.selects "SortUtilityModel" ({ cls := "java/lang/Object", name := "getClass", desc := "()Ljava/lang/Class;" } : Jvm.MethodName) ({ cls := "java/lang/Object", name := "getClass", desc := "()Ljava/lang/Class;" } : Jvm.MethodName)) := tbk3 (j := 17) rfl
set_option maxRecDepth 100000 in
theorem tb_498 : tables_1[498]? = some (Jvm.Cond.selects "java/lang/ArrayIndexOutOfBoundsException" ({ cls := "java/lang/Object", name := "getClass", desc := "()Ljava/lang/Class;" } : Jvm.MethodName) ({ cls := "java/lang/Object", name := "getClass", desc := "()Ljava/lang/Class;" } : Jvm.MethodName)) := tbk3 (j := 18) rfl
set_option maxRecDepth 100000 in
theorem tb_499 : tables_1[499]? = some (Jvm.Cond.selects "java/lang/IllegalArgumentException" ({ cls := "java/lang/Object", name := "getClass", desc := "()Ljava/lang/Class;" } : Jvm.MethodName) ({ cls := "java/lang/Object", name := "getClass", desc := "()Ljava/lang/Class;" } : Jvm.MethodName)) := tbk3 (j := 19) rfl
set_option maxRecDepth 100000 in
theorem tb_500 : tables_1[500]? = some (Jvm.Cond.selects "java/util/ArrayList" ({ cls := "java/lang/Object", name := "getClass", desc := "()Ljava/lang/Class;" } : Jvm.MethodName) ({ cls := "java/lang/Object", name := "getClass", desc := "()Ljava/lang/Class;" } : Jvm.MethodName)) := tbk3 (j := 20) rfl
set_option maxRecDepth 100000 in
theorem tb_501 : tables_1[501]? = some (Jvm.Cond.native ({ cls := "java/lang/Object", name := "getClass", desc := "()Ljava/lang/Class;" } : Jvm.MethodName)) := tbk3 (j := 21) rfl
set_option maxRecDepth 100000 in
theorem tb_502 : tables_1[502]? = some (Jvm.Cond.methodLink "java/util/Arrays" (300 : Nat) ({ cls := "java/util/Arrays", name := "copyOf", desc := "([Ljava/lang/Object;ILjava/lang/Class;)[Ljava/lang/Object;" } : Jvm.MethodName)) := tbk3 (j := 22) rfl
set_option maxRecDepth 100000 in
theorem tb_503 : tables_1[503]? = some (Jvm.Cond.static ({ cls := "java/util/Arrays", name := "copyOf", desc := "([Ljava/lang/Object;ILjava/lang/Class;)[Ljava/lang/Object;" } : Jvm.MethodName)) := tbk3 (j := 23) rfl
set_option maxRecDepth 100000 in
theorem tb_504 : tables_1[504]? = some (Jvm.Cond.code ({ cls := "java/util/Arrays", name := "copyOf", desc := "([Ljava/lang/Object;ILjava/lang/Class;)[Ljava/lang/Object;" } : Jvm.MethodName) prog_31_method_120_code (4 : Nat) (Option.some (Jvm.ClassFile.FieldType.array (Jvm.ClassFile.FieldType.object "java/lang/Object")))) := tbk3 (j := 24) rfl
set_option maxRecDepth 100000 in
theorem tb_505 : tables_1[505]? = some (Jvm.Cond.classLink "java/util/Arrays" (110 : Nat) "[Ljava/lang/Object;") := tbk3 (j := 25) rfl
set_option maxRecDepth 100000 in
theorem tb_506 : tables_1[506]? = some (Jvm.Cond.arrayOver (Jvm.ClassFile.FieldType.object "java/lang/Object")) := tbk3 (j := 26) rfl
set_option maxRecDepth 100000 in
theorem tb_507 : tables_1[507]? = some (Jvm.Cond.classLink "java/util/Arrays" (2 : Nat) "java/lang/Object") := tbk3 (j := 27) rfl
set_option maxRecDepth 100000 in
theorem tb_508 : tables_1[508]? = some (Jvm.Cond.methodLink "java/util/Arrays" (304 : Nat) ({ cls := "java/lang/Math", name := "min", desc := "(II)I" } : Jvm.MethodName)) := tbk3 (j := 28) rfl
set_option maxRecDepth 100000 in
theorem tb_509 : tables_1[509]? = some (Jvm.Cond.methodLink "java/util/Arrays" (150 : Nat) ({ cls := "java/lang/System", name := "arraycopy", desc := "(Ljava/lang/Object;ILjava/lang/Object;II)V" } : Jvm.MethodName)) := tbk3 (j := 29) rfl
set_option maxRecDepth 100000 in
theorem tb_510 : tables_1[510]? = some (Jvm.Cond.static ({ cls := "java/lang/System", name := "arraycopy", desc := "(Ljava/lang/Object;ILjava/lang/Object;II)V" } : Jvm.MethodName)) := tbk3 (j := 30) rfl
set_option maxRecDepth 100000 in
theorem tb_511 : tables_1[511]? = some (Jvm.Cond.native ({ cls := "java/lang/System", name := "arraycopy", desc := "(Ljava/lang/Object;ILjava/lang/Object;II)V" } : Jvm.MethodName)) := tbk3 (j := 31) rfl
set_option maxRecDepth 100000 in
theorem tb_512 : tables_1[512]? = some (Jvm.Cond.methodLink "java/util/ArrayList" (79 : Nat) ({ cls := "java/lang/Math", name := "max", desc := "(II)I" } : Jvm.MethodName)) := tbk3 (j := 32) rfl
set_option maxRecDepth 100000 in
theorem tb_513 : tables_1[513]? = some (Jvm.Cond.classLink "java/util/ArrayList" (7 : Nat) "java/lang/Object") := tbk3 (j := 33) rfl
set_option maxRecDepth 100000 in
theorem tb_514 : tables_1[514]? = some (Jvm.Cond.methodLink "SortUtility$Reader" (123 : Nat) ({ cls := "java/util/ArrayList", name := "size", desc := "()I" } : Jvm.MethodName)) := tbk3 (j := 34) rfl
set_option maxRecDepth 100000 in
theorem tb_515 : tables_1[515]? = some (Jvm.Cond.instanceMethod ({ cls := "java/util/ArrayList", name := "size", desc := "()I" } : Jvm.MethodName)) := tbk3 (j := 35) rfl
set_option maxRecDepth 100000 in
theorem tb_516 : tables_1[516]? = some (Jvm.Cond.selects "java/util/ArrayList" ({ cls := "java/util/ArrayList", name := "size", desc := "()I" } : Jvm.MethodName) ({ cls := "java/util/ArrayList", name := "size", desc := "()I" } : Jvm.MethodName)) := tbk3 (j := 36) rfl
set_option maxRecDepth 100000 in
theorem tb_517 : tables_1[517]? = some (Jvm.Cond.code ({ cls := "java/util/ArrayList", name := "size", desc := "()I" } : Jvm.MethodName) prog_30_method_8_code (1 : Nat) (Option.some Jvm.ClassFile.FieldType.int)) := tbk3 (j := 37) rfl
set_option maxRecDepth 100000 in
theorem tb_518 : tables_1[518]? = some (Jvm.Cond.methodLink "SortUtility$Reader" (73 : Nat) ({ cls := "SortUtility$Reader", name := "readTests", desc := "()V" } : Jvm.MethodName)) := tbk3 (j := 38) rfl
set_option maxRecDepth 100000 in
theorem tb_519 : tables_1[519]? = some (Jvm.Cond.privateMethod ({ cls := "SortUtility$Reader", name := "readTests", desc := "()V" } : Jvm.MethodName)) := tbk3 (j := 39) rfl
set_option maxRecDepth 100000 in
theorem tb_520 : tables_1[520]? = some (Jvm.Cond.instanceMethod ({ cls := "SortUtility$Reader", name := "readTests", desc := "()V" } : Jvm.MethodName)) := tbk3 (j := 40) rfl
set_option maxRecDepth 100000 in
theorem tb_521 : tables_1[521]? = some (Jvm.Cond.code ({ cls := "SortUtility$Reader", name := "readTests", desc := "()V" } : Jvm.MethodName) prog_5_method_5_code (7 : Nat) (Option.none : Option Jvm.ClassFile.FieldType)) := tbk3 (j := 41) rfl
set_option maxRecDepth 100000 in
theorem tb_522 : tables_1[522]? = some (Jvm.Cond.stringRef "SortUtility$Reader" (125 : Nat) "=#<>") := tbk3 (j := 42) rfl
set_option maxRecDepth 100000 in
theorem tb_523 : tables_1[523]? = some (Jvm.Cond.methodLink "SortUtility$Reader" (127 : Nat) ({ cls := "SortUtility$Reader", name := "readText", desc := "()LSortUtility$Part;" } : Jvm.MethodName)) := tbk3 (j := 43) rfl
set_option maxRecDepth 100000 in
theorem tb_524 : tables_1[524]? = some (Jvm.Cond.privateMethod ({ cls := "SortUtility$Reader", name := "readText", desc := "()LSortUtility$Part;" } : Jvm.MethodName)) := tbk3 (j := 44) rfl
set_option maxRecDepth 100000 in
theorem tb_525 : tables_1[525]? = some (Jvm.Cond.instanceMethod ({ cls := "SortUtility$Reader", name := "readText", desc := "()LSortUtility$Part;" } : Jvm.MethodName)) := tbk3 (j := 45) rfl
set_option maxRecDepth 100000 in
theorem tb_526 : tables_1[526]? = some (Jvm.Cond.code ({ cls := "SortUtility$Reader", name := "readText", desc := "()LSortUtility$Part;" } : Jvm.MethodName) prog_5_method_11_code (4 : Nat) (Option.some (Jvm.ClassFile.FieldType.object "SortUtility$Part"))) := tbk3 (j := 46) rfl
set_option maxRecDepth 100000 in
theorem tb_527 : tables_1[527]? = some (Jvm.Cond.stringRef "SortUtility$Reader" (193 : Nat) "'") := tbk3 (j := 47) rfl
set_option maxRecDepth 100000 in
theorem tb_528 : tables_1[528]? = some (Jvm.Cond.methodLink "SortUtility$Reader" (195 : Nat) ({ cls := "SortUtility$Reader", name := "isTextSign", desc := "(I)Z" } : Jvm.MethodName)) := tbk3 (j := 48) rfl
set_option maxRecDepth 100000 in
theorem tb_529 : tables_1[529]? = some (Jvm.Cond.static ({ cls := "SortUtility$Reader", name := "isTextSign", desc := "(I)Z" } : Jvm.MethodName)) := tbk3 (j := 49) rfl
set_option maxRecDepth 100000 in
theorem tb_530 : tables_1[530]? = some (Jvm.Cond.code ({ cls := "SortUtility$Reader", name := "isTextSign", desc := "(I)Z" } : Jvm.MethodName) prog_5_method_18_code (1 : Nat) (Option.some Jvm.ClassFile.FieldType.boolean)) := tbk3 (j := 50) rfl
set_option maxRecDepth 100000 in
theorem tb_531 : tables_1[531]? = some (Jvm.Cond.stringRef "SortUtility$Reader" (198 : Nat) "a text without characters or without an end") := tbk3 (j := 51) rfl
set_option maxRecDepth 100000 in
theorem tb_532 : tables_1[532]? = some (Jvm.Cond.methodLink "SortUtility$Reader" (200 : Nat) ({ cls := "SortUtility$Part", name := "ofText", desc := "([B)LSortUtility$Part;" } : Jvm.MethodName)) := tbk3 (j := 52) rfl
set_option maxRecDepth 100000 in
theorem tb_533 : tables_1[533]? = some (Jvm.Cond.static ({ cls := "SortUtility$Part", name := "ofText", desc := "([B)LSortUtility$Part;" } : Jvm.MethodName)) := tbk3 (j := 53) rfl
set_option maxRecDepth 100000 in
theorem tb_534 : tables_1[534]? = some (Jvm.Cond.code ({ cls := "SortUtility$Part", name := "ofText", desc := "([B)LSortUtility$Part;" } : Jvm.MethodName) prog_4_method_3_code (1 : Nat) (Option.some (Jvm.ClassFile.FieldType.object "SortUtility$Part"))) := tbk3 (j := 54) rfl
set_option maxRecDepth 100000 in
theorem tb_535 : tables_1[535]? = some (Jvm.Cond.classLink "SortUtility$Reader" (134 : Nat) "SortUtility$Test") := tbk3 (j := 55) rfl
set_option maxRecDepth 100000 in
theorem tb_536 : tables_1[536]? = some (Jvm.Cond.instantiable "SortUtility$Test" (4 : Nat)) := tbk3 (j := 56) rfl
set_option maxRecDepth 100000 in
theorem tb_537 : tables_1[537]? = some (Jvm.Cond.methodLink "SortUtility$Reader" (136 : Nat) ({ cls := "SortUtility$Test", name := "<init>", desc := "(ZLSortUtility$Part;ILSortUtility$Part;)V" } : Jvm.MethodName)) := tbk3 (j := 57) rfl
set_option maxRecDepth 100000 in
theorem tb_538 : tables_1[538]? = some (Jvm.Cond.instanceMethod ({ cls := "SortUtility$Test", name := "<init>", desc := "(ZLSortUtility$Part;ILSortUtility$Part;)V" } : Jvm.MethodName)) := tbk3 (j := 58) rfl
set_option maxRecDepth 100000 in
theorem tb_539 : tables_1[539]? = some (Jvm.Cond.code ({ cls := "SortUtility$Test", name := "<init>", desc := "(ZLSortUtility$Part;ILSortUtility$Part;)V" } : Jvm.MethodName) prog_9_method_1_code (5 : Nat) (Option.none : Option Jvm.ClassFile.FieldType)) := tbk3 (j := 59) rfl
set_option maxRecDepth 100000 in
theorem tb_540 : tables_1[540]? = some (Jvm.Cond.methodLink "SortUtility$Test" (1 : Nat) ({ cls := "java/lang/Object", name := "<init>", desc := "()V" } : Jvm.MethodName)) := tbk3 (j := 60) rfl
set_option maxRecDepth 100000 in
theorem tb_541 : tables_1[541]? = some (Jvm.Cond.fieldLink "SortUtility$Test" (7 : Nat) "SortUtility$Test" "isOr" "Z") := tbk3 (j := 61) rfl
set_option maxRecDepth 100000 in
theorem tb_542 : tables_1[542]? = some (Jvm.Cond.fieldLink "SortUtility$Statements" (74 : Nat) "SortUtility$Test" "isOr" "Z") := tbk3 (j := 62) rfl
set_option maxRecDepth 100000 in
theorem tb_543 : tables_1[543]? = some (Jvm.Cond.fieldLink "SortUtility$Test" (13 : Nat) "SortUtility$Test" "left" "LSortUtility$Part;") := tbk3 (j := 63) rfl
set_option maxRecDepth 100000 in
theorem tb_544 : tables_1[544]? = some (Jvm.Cond.fieldLink "SortUtility$Test" (17 : Nat) "SortUtility$Test" "relation" "I") := tbk3 (j := 64) rfl
set_option maxRecDepth 100000 in
theorem tb_545 : tables_1[545]? = some (Jvm.Cond.fieldLink "SortUtility$Test" (21 : Nat) "SortUtility$Test" "right" "LSortUtility$Part;") := tbk3 (j := 65) rfl
set_option maxRecDepth 100000 in
theorem tb_546 : tables_1[546]? = some (Jvm.Cond.laysFinal "SortUtility$Test" "SortUtility$Test" "isOr" "Z") := tbk3 (j := 66) rfl
set_option maxRecDepth 100000 in
theorem tb_547 : tables_1[547]? = some (Jvm.Cond.soleField "SortUtility$Test" "isOr") := tbk3 (j := 67) rfl
set_option maxRecDepth 100000 in
theorem tb_548 : tables_1[548]? = some (Jvm.Cond.laysFinal "SortUtility$Test" "SortUtility$Test" "left" "LSortUtility$Part;") := tbk3 (j := 68) rfl
set_option maxRecDepth 100000 in
theorem tb_549 : tables_1[549]? = some (Jvm.Cond.soleField "SortUtility$Test" "left") := tbk3 (j := 69) rfl
set_option maxRecDepth 100000 in
theorem tb_550 : tables_1[550]? = some (Jvm.Cond.laysFinal "SortUtility$Test" "SortUtility$Test" "relation" "I") := tbk3 (j := 70) rfl
set_option maxRecDepth 100000 in
theorem tb_551 : tables_1[551]? = some (Jvm.Cond.soleField "SortUtility$Test" "relation") := tbk3 (j := 71) rfl
set_option maxRecDepth 100000 in
theorem tb_552 : tables_1[552]? = some (Jvm.Cond.laysFinal "SortUtility$Test" "SortUtility$Test" "right" "LSortUtility$Part;") := tbk3 (j := 72) rfl
set_option maxRecDepth 100000 in
theorem tb_553 : tables_1[553]? = some (Jvm.Cond.soleField "SortUtility$Test" "right") := tbk3 (j := 73) rfl
set_option maxRecDepth 100000 in
theorem tb_554 : tables_1[554]? = some (Jvm.Cond.superclass "SortUtility$Test" "java/lang/Object") := tbk3 (j := 74) rfl
set_option maxRecDepth 100000 in
theorem tb_555 : tables_1[555]? = some (Jvm.Cond.stringRef "SortUtility$Reader" (139 : Nat) "&|") := tbk3 (j := 75) rfl
set_option maxRecDepth 100000 in
theorem tb_556 : tables_1[556]? = some (Jvm.Cond.stringRef "SortUtility$Reader" (143 : Nat) "a test too many") := tbk3 (j := 76) rfl
set_option maxRecDepth 100000 in
theorem tb_557 : tables_1[557]? = some (Jvm.Cond.methodLink "SortUtility$Reader" (80 : Nat) ({ cls := "SortUtility$Reader", name := "readSums", desc := "()V" } : Jvm.MethodName)) := tbk3 (j := 77) rfl
set_option maxRecDepth 100000 in
theorem tb_558 : tables_1[558]? = some (Jvm.Cond.privateMethod ({ cls := "SortUtility$Reader", name := "readSums", desc := "()V" } : Jvm.MethodName)) := tbk3 (j := 78) rfl
set_option maxRecDepth 100000 in
theorem tb_559 : tables_1[559]? = some (Jvm.Cond.instanceMethod ({ cls := "SortUtility$Reader", name := "readSums", desc := "()V" } : Jvm.MethodName)) := tbk3 (j := 79) rfl
set_option maxRecDepth 100000 in
theorem tb_560 : tables_1[560]? = some (Jvm.Cond.code ({ cls := "SortUtility$Reader", name := "readSums", desc := "()V" } : Jvm.MethodName) prog_5_method_6_code (1 : Nat) (Option.none : Option Jvm.ClassFile.FieldType)) := tbk3 (j := 80) rfl
set_option maxRecDepth 100000 in
theorem tb_561 : tables_1[561]? = some (Jvm.Cond.methodLink "SortUtility$Reader" (83 : Nat) ({ cls := "SortUtility$Reader", name := "readPieces", desc := "()V" } : Jvm.MethodName)) := tbk3 (j := 81) rfl
set_option maxRecDepth 100000 in
theorem tb_562 : tables_1[562]? = some (Jvm.Cond.privateMethod ({ cls := "SortUtility$Reader", name := "readPieces", desc := "()V" } : Jvm.MethodName)) := tbk3 (j := 82) rfl
set_option maxRecDepth 100000 in
theorem tb_563 : tables_1[563]? = some (Jvm.Cond.instanceMethod ({ cls := "SortUtility$Reader", name := "readPieces", desc := "()V" } : Jvm.MethodName)) := tbk3 (j := 83) rfl
set_option maxRecDepth 100000 in
theorem tb_564 : tables_1[564]? = some (Jvm.Cond.code ({ cls := "SortUtility$Reader", name := "readPieces", desc := "()V" } : Jvm.MethodName) prog_5_method_7_code (2 : Nat) (Option.none : Option Jvm.ClassFile.FieldType)) := tbk3 (j := 84) rfl
set_option maxRecDepth 100000 in
theorem tb_565 : tables_1[565]? = some (Jvm.Cond.methodLink "SortUtility$Reader" (154 : Nat) ({ cls := "SortUtility$Reader", name := "readBlanks", desc := "()LSortUtility$Part;" } : Jvm.MethodName)) := tbk3 (j := 85) rfl
set_option maxRecDepth 100000 in
theorem tb_566 : tables_1[566]? = some (Jvm.Cond.privateMethod ({ cls := "SortUtility$Reader", name := "readBlanks", desc := "()LSortUtility$Part;" } : Jvm.MethodName)) := tbk3 (j := 86) rfl
set_option maxRecDepth 100000 in
theorem tb_567 : tables_1[567]? = some (Jvm.Cond.instanceMethod ({ cls := "SortUtility$Reader", name := "readBlanks", desc := "()LSortUtility$Part;" } : Jvm.MethodName)) := tbk3 (j := 87) rfl
set_option maxRecDepth 100000 in
theorem tb_568 : tables_1[568]? = some (Jvm.Cond.code ({ cls := "SortUtility$Reader", name := "readBlanks", desc := "()LSortUtility$Part;" } : Jvm.MethodName) prog_5_method_12_code (2 : Nat) (Option.some (Jvm.ClassFile.FieldType.object "SortUtility$Part"))) := tbk3 (j := 88) rfl
set_option maxRecDepth 100000 in
theorem tb_569 : tables_1[569]? = some (Jvm.Cond.stringRef "SortUtility$Reader" (204 : Nat) "x") := tbk3 (j := 89) rfl
set_option maxRecDepth 100000 in
theorem tb_570 : tables_1[570]? = some (Jvm.Cond.methodLink "SortUtility$Reader" (206 : Nat) ({ cls := "java/util/Arrays", name := "fill", desc := "([BB)V" } : Jvm.MethodName)) := tbk3 (j := 90) rfl
set_option maxRecDepth 100000 in
theorem tb_571 : tables_1[571]? = some (Jvm.Cond.static ({ cls := "java/util/Arrays", name := "fill", desc := "([BB)V" } : Jvm.MethodName)) := tbk3 (j := 91) rfl
set_option maxRecDepth 100000 in
theorem tb_572 : tables_1[572]? = some (Jvm.Cond.code ({ cls := "java/util/Arrays", name := "fill", desc := "([BB)V" } : Jvm.MethodName) prog_31_method_109_code (4 : Nat) (Option.none : Option Jvm.ClassFile.FieldType)) := tbk3 (j := 92) rfl
set_option maxRecDepth 100000 in
theorem tb_573 : tables_1[573]? = some (Jvm.Cond.stringRef "SortUtility$Reader" (53 : Nat) ";") := tbk3 (j := 93) rfl
set_option maxRecDepth 100000 in
theorem tb_574 : tables_1[574]? = some (Jvm.Cond.methodLink "SortUtilityLaw" (29 : Nat) ({ cls := "SortUtility", name := "record", desc := "(I)I" } : Jvm.MethodName)) := tbk3 (j := 94) rfl
set_option maxRecDepth 100000 in
theorem tb_575 : tables_1[575]? = some (Jvm.Cond.instanceMethod ({ cls := "SortUtility", name := "record", desc := "(I)I" } : Jvm.MethodName)) := tbk3 (j := 95) rfl
set_option maxRecDepth 100000 in
theorem tb_576 : tables_1[576]? = some (Jvm.Cond.selects "SortUtility" ({ cls := "SortUtility", name := "record", desc := "(I)I" } : Jvm.MethodName) ({ cls := "SortUtility", name := "record", desc := "(I)I" } : Jvm.MethodName)) := tbk3 (j := 96) rfl
set_option maxRecDepth 100000 in
theorem tb_577 : tables_1[577]? = some (Jvm.Cond.code ({ cls := "SortUtility", name := "record", desc := "(I)I" } : Jvm.MethodName) prog_1_method_4_code (4 : Nat) (Option.some Jvm.ClassFile.FieldType.int)) := tbk3 (j := 97) rfl
set_option maxRecDepth 100000 in
theorem tb_578 : tables_1[578]? = some (Jvm.Cond.methodLink "SortUtility" (91 : Nat) ({ cls := "SortUtility", name := "isInput", desc := "(I)Z" } : Jvm.MethodName)) := tbk3 (j := 98) rfl
set_option maxRecDepth 100000 in
theorem tb_579 : tables_1[579]? = some (Jvm.Cond.static ({ cls := "SortUtility", name := "isInput", desc := "(I)Z" } : Jvm.MethodName)) := tbk3 (j := 99) rfl
set_option maxRecDepth 100000 in
theorem tb_580 : tables_1[580]? = some (Jvm.Cond.code ({ cls := "SortUtility", name := "isInput", desc := "(I)Z" } : Jvm.MethodName) prog_1_method_16_code (1 : Nat) (Option.some Jvm.ClassFile.FieldType.boolean)) := tbk3 (j := 100) rfl
set_option maxRecDepth 100000 in
theorem tb_581 : tables_1[581]? = some (Jvm.Cond.methodLink "SortUtility" (96 : Nat) ({ cls := "SortUtility$Rows", name := "add", desc := "()LSortUtility$Row;" } : Jvm.MethodName)) := tbk3 (j := 101) rfl
set_option maxRecDepth 100000 in
theorem tb_582 : tables_1[582]? = some (Jvm.Cond.instanceMethod ({ cls := "SortUtility$Rows", name := "add", desc := "()LSortUtility$Row;" } : Jvm.MethodName)) := tbk3 (j := 102) rfl
set_option maxRecDepth 100000 in
theorem tb_583 : tables_1[583]? = some (Jvm.Cond.selects "SortUtility$Rows" ({ cls := "SortUtility$Rows", name := "add", desc := "()LSortUtility$Row;" } : Jvm.MethodName) ({ cls := "SortUtility$Rows", name := "add", desc := "()LSortUtility$Row;" } : Jvm.MethodName)) := tbk3 (j := 103) rfl
set_option maxRecDepth 100000 in
theorem tb_584 : tables_1[584]? = some (Jvm.Cond.code ({ cls := "SortUtility$Rows", name := "add", desc := "()LSortUtility$Row;" } : Jvm.MethodName) prog_7_method_2_code (2 : Nat) (Option.some (Jvm.ClassFile.FieldType.object "SortUtility$Row"))) := tbk3 (j := 104) rfl
set_option maxRecDepth 100000 in
theorem tb_585 : tables_1[585]? = some (Jvm.Cond.methodLink "SortUtility$Rows" (22 : Nat) ({ cls := "java/util/ArrayList", name := "size", desc := "()I" } : Jvm.MethodName)) := tbk3 (j := 105) rfl
set_option maxRecDepth 100000 in
theorem tb_586 : tables_1[586]? = some (Jvm.Cond.classLink "SortUtility$Rows" (25 : Nat) "SortUtility$Row") := tbk3 (j := 106) rfl
set_option maxRecDepth 100000 in
theorem tb_587 : tables_1[587]? = some (Jvm.Cond.methodLinkNest "SortUtility$Rows" (27 : Nat) ({ cls := "SortUtility$Row", name := "<init>", desc := "()V" } : Jvm.MethodName) "SortUtility") := tbk3 (j := 107) rfl
set_option maxRecDepth 100000 in
theorem tb_588 : tables_1[588]? = some (Jvm.Cond.methodLink "SortUtility$Rows" (28 : Nat) ({ cls := "java/util/ArrayList", name := "add", desc := "(Ljava/lang/Object;)Z" } : Jvm.MethodName)) := tbk3 (j := 108) rfl
set_option maxRecDepth 100000 in
theorem tb_589 : tables_1[589]? = some (Jvm.Cond.methodLink "SortUtility$Rows" (32 : Nat) ({ cls := "java/util/ArrayList", name := "get", desc := "(I)Ljava/lang/Object;" } : Jvm.MethodName)) := tbk3 (j := 109) rfl
set_option maxRecDepth 100000 in
theorem tb_590 : tables_1[590]? = some (Jvm.Cond.instanceMethod ({ cls := "java/util/ArrayList", name := "get", desc := "(I)Ljava/lang/Object;" } : Jvm.MethodName)) := tbk3 (j := 110) rfl
set_option maxRecDepth 100000 in
theorem tb_591 : tables_1[591]? = some (Jvm.Cond.selects "java/util/ArrayList" ({ cls := "java/util/ArrayList", name := "get", desc := "(I)Ljava/lang/Object;" } : Jvm.MethodName) ({ cls := "java/util/ArrayList", name := "get", desc := "(I)Ljava/lang/Object;" } : Jvm.MethodName)) := tbk3 (j := 111) rfl
set_option maxRecDepth 100000 in
theorem tb_592 : tables_1[592]? = some (Jvm.Cond.code ({ cls := "java/util/ArrayList", name := "get", desc := "(I)Ljava/lang/Object;" } : Jvm.MethodName) prog_30_method_20_code (2 : Nat) (Option.some (Jvm.ClassFile.FieldType.object "java/lang/Object"))) := tbk3 (j := 112) rfl
set_option maxRecDepth 100000 in
theorem tb_593 : tables_1[593]? = some (Jvm.Cond.methodLink "java/util/ArrayList" (118 : Nat) ({ cls := "java/util/Objects", name := "checkIndex", desc := "(II)I" } : Jvm.MethodName)) := tbk3 (j := 113) rfl
set_option maxRecDepth 100000 in
theorem tb_594 : tables_1[594]? = some (Jvm.Cond.static ({ cls := "java/util/Objects", name := "checkIndex", desc := "(II)I" } : Jvm.MethodName)) := tbk3 (j := 114) rfl
set_option maxRecDepth 100000 in
theorem tb_595 : tables_1[595]? = some (Jvm.Cond.code ({ cls := "java/util/Objects", name := "checkIndex", desc := "(II)I" } : Jvm.MethodName) prog_34_method_17_code (2 : Nat) (Option.some Jvm.ClassFile.FieldType.int)) := tbk3 (j := 115) rfl
set_option maxRecDepth 100000 in
theorem tb_596 : tables_1[596]? = some (Jvm.Cond.methodLink "java/util/Objects" (105 : Nat) ({ cls := "jdk/internal/util/Preconditions", name := "checkIndex", desc := "(IILjava/util/function/BiFunction;)I" } : Jvm.MethodName)) := tbk3 (j := 116) rfl
set_option maxRecDepth 100000 in
theorem tb_597 : tables_1[597]? = some (Jvm.Cond.methodLink "java/util/ArrayList" (123 : Nat) ({ cls := "java/util/ArrayList", name := "elementData", desc := "(I)Ljava/lang/Object;" } : Jvm.MethodName)) := tbk3 (j := 117) rfl
set_option maxRecDepth 100000 in
theorem tb_598 : tables_1[598]? = some (Jvm.Cond.instanceMethod ({ cls := "java/util/ArrayList", name := "elementData", desc := "(I)Ljava/lang/Object;" } : Jvm.MethodName)) := tbk3 (j := 118) rfl
set_option maxRecDepth 100000 in
theorem tb_599 : tables_1[599]? = some (Jvm.Cond.selects "java/util/ArrayList" ({ cls := "java/util/ArrayList", name := "elementData", desc := "(I)Ljava/lang/Object;" } : Jvm.MethodName) ({ cls := "java/util/ArrayList", name := "elementData", desc := "(I)Ljava/lang/Object;" } : Jvm.MethodName)) := tbk3 (j := 119) rfl
set_option maxRecDepth 100000 in
theorem tb_600 : tables_1[600]? = some (Jvm.Cond.code ({ cls := "java/util/ArrayList", name := "elementData", desc := "(I)Ljava/lang/Object;" } : Jvm.MethodName) prog_30_method_18_code (2 : Nat) (Option.some (Jvm.ClassFile.FieldType.object "java/lang/Object"))) := tbk3 (j := 120) rfl
set_option maxRecDepth 100000 in
theorem tb_601 : tables_1[601]? = some (Jvm.Cond.methodLink "SortUtilityLaw" (43 : Nat) ({ cls := "SortUtility", name := "run", desc := "()I" } : Jvm.MethodName)) := tbk3 (j := 121) rfl
set_option maxRecDepth 100000 in
theorem tb_602 : tables_1[602]? = some (Jvm.Cond.instanceMethod ({ cls := "SortUtility", name := "run", desc := "()I" } : Jvm.MethodName)) := tbk3 (j := 122) rfl
set_option maxRecDepth 100000 in
theorem tb_603 : tables_1[603]? = some (Jvm.Cond.selects "SortUtility" ({ cls := "SortUtility", name := "run", desc := "()I" } : Jvm.MethodName) ({ cls := "SortUtility", name := "run", desc := "()I" } : Jvm.MethodName)) := tbk3 (j := 123) rfl
set_option maxRecDepth 100000 in
theorem tb_604 : tables_1[604]? = some (Jvm.Cond.code ({ cls := "SortUtility", name := "run", desc := "()I" } : Jvm.MethodName) prog_1_method_6_code (1 : Nat) (Option.some Jvm.ClassFile.FieldType.int)) := tbk3 (j := 124) rfl
set_option maxRecDepth 100000 in
theorem tb_605 : tables_1[605]? = some (Jvm.Cond.methodLink "SortUtility" (120 : Nat) ({ cls := "SortUtility$Rows", name := "clear", desc := "()V" } : Jvm.MethodName)) := tbk3 (j := 125) rfl
set_option maxRecDepth 100000 in
theorem tb_606 : tables_1[606]? = some (Jvm.Cond.instanceMethod ({ cls := "SortUtility$Rows", name := "clear", desc := "()V" } : Jvm.MethodName)) := tbk3 (j := 126) rfl
set_option maxRecDepth 100000 in
theorem tb_607 : tables_1[607]? = some (Jvm.Cond.selects "SortUtility$Rows" ({ cls := "SortUtility$Rows", name := "clear", desc := "()V" } : Jvm.MethodName) ({ cls := "SortUtility$Rows", name := "clear", desc := "()V" } : Jvm.MethodName)) := tbk3 (j := 127) rfl
set_option maxRecDepth 100000 in
theorem tb_608 : tables_1[608]? = some (Jvm.Cond.code ({ cls := "SortUtility$Rows", name := "clear", desc := "()V" } : Jvm.MethodName) prog_7_method_4_code (1 : Nat) (Option.none : Option Jvm.ClassFile.FieldType)) := tbk3 (j := 128) rfl
set_option maxRecDepth 100000 in
theorem tb_609 : tables_1[609]? = some (Jvm.Cond.methodLink "SortUtility" (123 : Nat) ({ cls := "java/util/ArrayList", name := "clear", desc := "()V" } : Jvm.MethodName)) := tbk3 (j := 129) rfl
set_option maxRecDepth 100000 in
theorem tb_610 : tables_1[610]? = some (Jvm.Cond.instanceMethod ({ cls := "java/util/ArrayList", name := "clear", desc := "()V" } : Jvm.MethodName)) := tbk3 (j := 130) rfl
set_option maxRecDepth 100000 in
theorem tb_611 : tables_1[611]? = some (Jvm.Cond.selects "java/util/ArrayList" ({ cls := "java/util/ArrayList", name := "clear", desc := "()V" } : Jvm.MethodName) ({ cls := "java/util/ArrayList", name := "clear", desc := "()V" } : Jvm.MethodName)) := tbk3 (j := 131) rfl
set_option maxRecDepth 100000 in
theorem tb_612 : tables_1[612]? = some (Jvm.Cond.code ({ cls := "java/util/ArrayList", name := "clear", desc := "()V" } : Jvm.MethodName) prog_30_method_40_code (4 : Nat) (Option.none : Option Jvm.ClassFile.FieldType)) := tbk3 (j := 132) rfl
set_option maxRecDepth 100000 in
theorem tb_613 : tables_1[613]? = some (Jvm.Cond.methodLink "SortUtility" (124 : Nat) ({ cls := "SortUtility", name := "pickRecords", desc := "()V" } : Jvm.MethodName)) := tbk3 (j := 133) rfl
set_option maxRecDepth 100000 in
theorem tb_614 : tables_1[614]? = some (Jvm.Cond.privateMethod ({ cls := "SortUtility", name := "pickRecords", desc := "()V" } : Jvm.MethodName)) := tbk3 (j := 134) rfl
set_option maxRecDepth 100000 in
theorem tb_615 : tables_1[615]? = some (Jvm.Cond.instanceMethod ({ cls := "SortUtility", name := "pickRecords", desc := "()V" } : Jvm.MethodName)) := tbk3 (j := 135) rfl
set_option maxRecDepth 100000 in
theorem tb_616 : tables_1[616]? = some (Jvm.Cond.code ({ cls := "SortUtility", name := "pickRecords", desc := "()V" } : Jvm.MethodName) prog_1_method_19_code (5 : Nat) (Option.none : Option Jvm.ClassFile.FieldType)) := tbk3 (j := 136) rfl
set_option maxRecDepth 100000 in
theorem tb_617 : tables_1[617]? = some (Jvm.Cond.methodLink "SortUtility" (106 : Nat) ({ cls := "SortUtility$Rows", name := "at", desc := "(I)LSortUtility$Row;" } : Jvm.MethodName)) := tbk3 (j := 137) rfl
set_option maxRecDepth 100000 in
theorem tb_618 : tables_1[618]? = some (Jvm.Cond.instanceMethod ({ cls := "SortUtility$Rows", name := "at", desc := "(I)LSortUtility$Row;" } : Jvm.MethodName)) := tbk3 (j := 138) rfl
set_option maxRecDepth 100000 in
theorem tb_619 : tables_1[619]? = some (Jvm.Cond.selects "SortUtility$Rows" ({ cls := "SortUtility$Rows", name := "at", desc := "(I)LSortUtility$Row;" } : Jvm.MethodName) ({ cls := "SortUtility$Rows", name := "at", desc := "(I)LSortUtility$Row;" } : Jvm.MethodName)) := tbk3 (j := 139) rfl
set_option maxRecDepth 100000 in
theorem tb_620 : tables_1[620]? = some (Jvm.Cond.code ({ cls := "SortUtility$Rows", name := "at", desc := "(I)LSortUtility$Row;" } : Jvm.MethodName) prog_7_method_3_code (2 : Nat) (Option.some (Jvm.ClassFile.FieldType.object "SortUtility$Row"))) := tbk3 (j := 140) rfl
set_option maxRecDepth 100000 in
theorem tb_621 : tables_1[621]? = some (Jvm.Cond.methodLink "SortUtility" (191 : Nat) ({ cls := "SortUtility$Statements", name := "keeps", desc := "(LSortUtility$Row;)Z" } : Jvm.MethodName)) := tbk3 (j := 141) rfl
set_option maxRecDepth 100000 in
theorem tb_622 : tables_1[622]? = some (Jvm.Cond.instanceMethod ({ cls := "SortUtility$Statements", name := "keeps", desc := "(LSortUtility$Row;)Z" } : Jvm.MethodName)) := tbk3 (j := 142) rfl
set_option maxRecDepth 100000 in
theorem tb_623 : tables_1[623]? = some (Jvm.Cond.selects "SortUtility$Statements" ({ cls := "SortUtility$Statements", name := "keeps", desc := "(LSortUtility$Row;)Z" } : Jvm.MethodName) ({ cls := "SortUtility$Statements", name := "keeps", desc := "(LSortUtility$Row;)Z" } : Jvm.MethodName)) := tbk3 (j := 143) rfl
set_option maxRecDepth 100000 in
theorem tb_624 : tables_1[624]? = some (Jvm.Cond.code ({ cls := "SortUtility$Statements", name := "keeps", desc := "(LSortUtility$Row;)Z" } : Jvm.MethodName) prog_8_method_3_code (5 : Nat) (Option.some Jvm.ClassFile.FieldType.boolean)) := tbk3 (j := 144) rfl
set_option maxRecDepth 100000 in
theorem tb_625 : tables_1[625]? = some (Jvm.Cond.methodLink "SortUtility$Statements" (64 : Nat) ({ cls := "java/util/ArrayList", name := "isEmpty", desc := "()Z" } : Jvm.MethodName)) := tbk3 (j := 145) rfl
set_option maxRecDepth 100000 in
theorem tb_626 : tables_1[626]? = some (Jvm.Cond.instanceMethod ({ cls := "java/util/ArrayList", name := "isEmpty", desc := "()Z" } : Jvm.MethodName)) := tbk3 (j := 146) rfl
set_option maxRecDepth 100000 in
theorem tb_627 : tables_1[627]? = some (Jvm.Cond.selects "java/util/ArrayList" ({ cls := "java/util/ArrayList", name := "isEmpty", desc := "()Z" } : Jvm.MethodName) ({ cls := "java/util/ArrayList", name := "isEmpty", desc := "()Z" } : Jvm.MethodName)) := tbk3 (j := 147) rfl
set_option maxRecDepth 100000 in
theorem tb_628 : tables_1[628]? = some (Jvm.Cond.code ({ cls := "java/util/ArrayList", name := "isEmpty", desc := "()Z" } : Jvm.MethodName) prog_30_method_9_code (1 : Nat) (Option.some Jvm.ClassFile.FieldType.boolean)) := tbk3 (j := 148) rfl
set_option maxRecDepth 100000 in
theorem tb_629 : tables_1[629]? = some (Jvm.Cond.methodLink "SortUtility$Statements" (44 : Nat) ({ cls := "java/util/ArrayList", name := "get", desc := "(I)Ljava/lang/Object;" } : Jvm.MethodName)) := tbk3 (j := 149) rfl
set_option maxRecDepth 100000 in
theorem tb_630 : tables_1[630]? = some (Jvm.Cond.classLink "SortUtility$Statements" (68 : Nat) "SortUtility$Test") := tbk3 (j := 150) rfl
set_option maxRecDepth 100000 in
theorem tb_631 : tables_1[631]? = some (Jvm.Cond.methodLink "SortUtility$Statements" (70 : Nat) ({ cls := "SortUtility$Test", name := "holds", desc := "(LSortUtility$Row;)Z" } : Jvm.MethodName)) := tbk3 (j := 151) rfl
set_option maxRecDepth 100000 in
theorem tb_632 : tables_1[632]? = some (Jvm.Cond.instanceMethod ({ cls := "SortUtility$Test", name := "holds", desc := "(LSortUtility$Row;)Z" } : Jvm.MethodName)) := tbk3 (j := 152) rfl
set_option maxRecDepth 100000 in
theorem tb_633 : tables_1[633]? = some (Jvm.Cond.selects "SortUtility$Test" ({ cls := "SortUtility$Test", name := "holds", desc := "(LSortUtility$Row;)Z" } : Jvm.MethodName) ({ cls := "SortUtility$Test", name := "holds", desc := "(LSortUtility$Row;)Z" } : Jvm.MethodName)) := tbk3 (j := 153) rfl
set_option maxRecDepth 100000 in
theorem tb_634 : tables_1[634]? = some (Jvm.Cond.code ({ cls := "SortUtility$Test", name := "holds", desc := "(LSortUtility$Row;)Z" } : Jvm.MethodName) prog_9_method_2_code (3 : Nat) (Option.some Jvm.ClassFile.FieldType.boolean)) := tbk3 (j := 154) rfl
set_option maxRecDepth 100000 in
theorem tb_635 : tables_1[635]? = some (Jvm.Cond.methodLinkNest "SortUtility$Test" (24 : Nat) ({ cls := "SortUtility", name := "compareParts", desc := "(LSortUtility$Part;LSortUtility$Row;LSortUtility$Part;LSortUtility$Row;Z)I" } : Jvm.MethodName) "SortUtility") := tbk3 (j := 155) rfl
set_option maxRecDepth 100000 in
theorem tb_636 : tables_1[636]? = some (Jvm.Cond.static ({ cls := "SortUtility", name := "compareParts", desc := "(LSortUtility$Part;LSortUtility$Row;LSortUtility$Part;LSortUtility$Row;Z)I" } : Jvm.MethodName)) := tbk3 (j := 156) rfl
set_option maxRecDepth 100000 in
theorem tb_637 : tables_1[637]? = some (Jvm.Cond.code ({ cls := "SortUtility", name := "compareParts", desc := "(LSortUtility$Part;LSortUtility$Row;LSortUtility$Part;LSortUtility$Row;Z)I" } : Jvm.MethodName) prog_1_method_30_code (10 : Nat) (Option.some Jvm.ClassFile.FieldType.int)) := tbk3 (j := 157) rfl
set_option maxRecDepth 100000 in
theorem tb_638 : tables_1[638]? = some (Jvm.Cond.methodLink "SortUtility" (217 : Nat) ({ cls := "java/lang/Math", name := "max", desc := "(II)I" } : Jvm.MethodName)) := tbk3 (j := 158) rfl
set_option maxRecDepth 100000 in
theorem tb_639 : tables_1[639]? = some (Jvm.Cond.methodLink "SortUtility" (244 : Nat) ({ cls := "SortUtility$Part", name := "octetAt", desc := "(LSortUtility$Row;I)I" } : Jvm.MethodName)) := tbk3 (j := 159) rfl
set_option maxRecDepth 100000 in
theorem tb_640 : tables_1[640]? = some (Jvm.Cond.instanceMethod ({ cls := "SortUtility$Part", name := "octetAt", desc := "(LSortUtility$Row;I)I" } : Jvm.MethodName)) := tbk3 (j := 160) rfl
set_option maxRecDepth 100000 in
theorem tb_641 : tables_1[641]? = some (Jvm.Cond.selects "SortUtility$Part" ({ cls := "SortUtility$Part", name := "octetAt", desc := "(LSortUtility$Row;I)I" } : Jvm.MethodName) ({ cls := "SortUtility$Part", name := "octetAt", desc := "(LSortUtility$Row;I)I" } : Jvm.MethodName)) := tbk3 (j := 161) rfl
set_option maxRecDepth 100000 in
theorem tb_642 : tables_1[642]? = some (Jvm.Cond.code ({ cls := "SortUtility$Part", name := "octetAt", desc := "(LSortUtility$Row;I)I" } : Jvm.MethodName) prog_4_method_4_code (3 : Nat) (Option.some Jvm.ClassFile.FieldType.int)) := tbk3 (j := 162) rfl
set_option maxRecDepth 100000 in
theorem tb_643 : tables_1[643]? = some (Jvm.Cond.methodLink "SortUtility$Part" (25 : Nat) ({ cls := "SortUtility$Row", name := "octetAt", desc := "(I)I" } : Jvm.MethodName)) := tbk3 (j := 163) rfl
set_option maxRecDepth 100000 in
theorem tb_644 : tables_1[644]? = some (Jvm.Cond.instanceMethod ({ cls := "SortUtility$Row", name := "octetAt", desc := "(I)I" } : Jvm.MethodName)) := tbk3 (j := 164) rfl
set_option maxRecDepth 100000 in
theorem tb_645 : tables_1[645]? = some (Jvm.Cond.selects "SortUtility$Row" ({ cls := "SortUtility$Row", name := "octetAt", desc := "(I)I" } : Jvm.MethodName) ({ cls := "SortUtility$Row", name := "octetAt", desc := "(I)I" } : Jvm.MethodName)) := tbk3 (j := 165) rfl
set_option maxRecDepth 100000 in
theorem tb_646 : tables_1[646]? = some (Jvm.Cond.code ({ cls := "SortUtility$Row", name := "octetAt", desc := "(I)I" } : Jvm.MethodName) prog_6_method_2_code (2 : Nat) (Option.some Jvm.ClassFile.FieldType.int)) := tbk3 (j := 166) rfl
set_option maxRecDepth 100000 in
theorem tb_647 : tables_1[647]? = some (Jvm.Cond.methodLink "SortUtility" (268 : Nat) ({ cls := "SortUtility", name := "digitOf", desc := "(I)I" } : Jvm.MethodName)) := tbk3 (j := 167) rfl
set_option maxRecDepth 100000 in
theorem tb_648 : tables_1[648]? = some (Jvm.Cond.static ({ cls := "SortUtility", name := "digitOf", desc := "(I)I" } : Jvm.MethodName)) := tbk3 (j := 168) rfl
set_option maxRecDepth 100000 in
theorem tb_649 : tables_1[649]? = some (Jvm.Cond.code ({ cls := "SortUtility", name := "digitOf", desc := "(I)I" } : Jvm.MethodName) prog_1_method_32_code (1 : Nat) (Option.some Jvm.ClassFile.FieldType.int)) := tbk3 (j := 169) rfl
set_option maxRecDepth 100000 in
theorem tb_650 : tables_1[650]? = some (Jvm.Cond.methodLink "SortUtility" (271 : Nat) ({ cls := "SortUtility", name := "isDigit", desc := "(I)Z" } : Jvm.MethodName)) := tbk3 (j := 170) rfl
set_option maxRecDepth 100000 in
theorem tb_651 : tables_1[651]? = some (Jvm.Cond.methodLink "SortUtility$Statements" (41 : Nat) ({ cls := "java/util/ArrayList", name := "size", desc := "()I" } : Jvm.MethodName)) := tbk3 (j := 171) rfl
set_option maxRecDepth 100000 in
theorem tb_652 : tables_1[652]? = some (Jvm.Cond.methodLink "SortUtility" (195 : Nat) ({ cls := "SortUtility", name := "insertSorted", desc := "(LSortUtility$Row;)V" } : Jvm.MethodName)) := tbk3 (j := 172) rfl
set_option maxRecDepth 100000 in
theorem tb_653 : tables_1[653]? = some (Jvm.Cond.privateMethod ({ cls := "SortUtility", name := "insertSorted", desc := "(LSortUtility$Row;)V" } : Jvm.MethodName)) := tbk3 (j := 173) rfl
set_option maxRecDepth 100000 in
theorem tb_654 : tables_1[654]? = some (Jvm.Cond.instanceMethod ({ cls := "SortUtility", name := "insertSorted", desc := "(LSortUtility$Row;)V" } : Jvm.MethodName)) := tbk3 (j := 174) rfl
set_option maxRecDepth 100000 in
theorem tb_655 : tables_1[655]? = some (Jvm.Cond.code ({ cls := "SortUtility", name := "insertSorted", desc := "(LSortUtility$Row;)V" } : Jvm.MethodName) prog_1_method_20_code (5 : Nat) (Option.none : Option Jvm.ClassFile.FieldType)) := tbk3 (j := 175) rfl
set_option maxRecDepth 100000 in
theorem tb_656 : tables_1[656]? = some (Jvm.Cond.methodLink "SortUtility" (161 : Nat) ({ cls := "java/util/ArrayList", name := "size", desc := "()I" } : Jvm.MethodName)) := tbk3 (j := 176) rfl
set_option maxRecDepth 100000 in
theorem tb_657 : tables_1[657]? = some (Jvm.Cond.methodLink "SortUtility" (164 : Nat) ({ cls := "java/util/ArrayList", name := "get", desc := "(I)Ljava/lang/Object;" } : Jvm.MethodName)) := tbk3 (j := 177) rfl
set_option maxRecDepth 100000 in
theorem tb_658 : tables_1[658]? = some (Jvm.Cond.methodLink "SortUtility" (172 : Nat) ({ cls := "SortUtility$Statements", name := "compareRows", desc := "(LSortUtility$Row;LSortUtility$Row;)I" } : Jvm.MethodName)) := tbk3 (j := 178) rfl
set_option maxRecDepth 100000 in
theorem tb_659 : tables_1[659]? = some (Jvm.Cond.instanceMethod ({ cls := "SortUtility$Statements", name := "compareRows", desc := "(LSortUtility$Row;LSortUtility$Row;)I" } : Jvm.MethodName)) := tbk3 (j := 179) rfl
set_option maxRecDepth 100000 in
theorem tb_660 : tables_1[660]? = some (Jvm.Cond.selects "SortUtility$Statements" ({ cls := "SortUtility$Statements", name := "compareRows", desc := "(LSortUtility$Row;LSortUtility$Row;)I" } : Jvm.MethodName) ({ cls := "SortUtility$Statements", name := "compareRows", desc := "(LSortUtility$Row;LSortUtility$Row;)I" } : Jvm.MethodName)) := tbk3 (j := 180) rfl
set_option maxRecDepth 100000 in
theorem tb_661 : tables_1[661]? = some (Jvm.Cond.code ({ cls := "SortUtility$Statements", name := "compareRows", desc := "(LSortUtility$Row;LSortUtility$Row;)I" } : Jvm.MethodName) prog_8_method_2_code (6 : Nat) (Option.some Jvm.ClassFile.FieldType.int)) := tbk3 (j := 181) rfl
set_option maxRecDepth 100000 in
theorem tb_662 : tables_1[662]? = some (Jvm.Cond.classLink "SortUtility$Statements" (48 : Nat) "SortUtility$Key") := tbk3 (j := 182) rfl
set_option maxRecDepth 100000 in
theorem tb_663 : tables_1[663]? = some (Jvm.Cond.methodLinkNest "SortUtility$Statements" (57 : Nat) ({ cls := "SortUtility", name := "compareParts", desc := "(LSortUtility$Part;LSortUtility$Row;LSortUtility$Part;LSortUtility$Row;Z)I" } : Jvm.MethodName) "SortUtility") := tbk3 (j := 183) rfl
set_option maxRecDepth 100000 in
theorem tb_664 : tables_1[664]? = some (Jvm.Cond.methodLink "SortUtility" (202 : Nat) ({ cls := "java/util/ArrayList", name := "add", desc := "(ILjava/lang/Object;)V" } : Jvm.MethodName)) := tbk3 (j := 184) rfl
set_option maxRecDepth 100000 in
theorem tb_665 : tables_1[665]? = some (Jvm.Cond.instanceMethod ({ cls := "java/util/ArrayList", name := "add", desc := "(ILjava/lang/Object;)V" } : Jvm.MethodName)) := tbk3 (j := 185) rfl
set_option maxRecDepth 100000 in
theorem tb_666 : tables_1[666]? = some (Jvm.Cond.selects "java/util/ArrayList" ({ cls := "java/util/ArrayList", name := "add", desc := "(ILjava/lang/Object;)V" } : Jvm.MethodName) ({ cls := "java/util/ArrayList", name := "add", desc := "(ILjava/lang/Object;)V" } : Jvm.MethodName)) := tbk3 (j := 186) rfl
set_option maxRecDepth 100000 in
theorem tb_667 : tables_1[667]? = some (Jvm.Cond.code ({ cls := "java/util/ArrayList", name := "add", desc := "(ILjava/lang/Object;)V" } : Jvm.MethodName) prog_30_method_26_code (5 : Nat) (Option.none : Option Jvm.ClassFile.FieldType)) := tbk3 (j := 187) rfl
set_option maxRecDepth 100000 in
theorem tb_668 : tables_1[668]? = some (Jvm.Cond.methodLink "java/util/ArrayList" (135 : Nat) ({ cls := "java/util/ArrayList", name := "rangeCheckForAdd", desc := "(I)V" } : Jvm.MethodName)) := tbk3 (j := 188) rfl
set_option maxRecDepth 100000 in
theorem tb_669 : tables_1[669]? = some (Jvm.Cond.privateMethod ({ cls := "java/util/ArrayList", name := "rangeCheckForAdd", desc := "(I)V" } : Jvm.MethodName)) := tbk3 (j := 189) rfl
set_option maxRecDepth 100000 in
theorem tb_670 : tables_1[670]? = some (Jvm.Cond.instanceMethod ({ cls := "java/util/ArrayList", name := "rangeCheckForAdd", desc := "(I)V" } : Jvm.MethodName)) := tbk3 (j := 190) rfl
set_option maxRecDepth 100000 in
theorem tb_671 : tables_1[671]? = some (Jvm.Cond.code ({ cls := "java/util/ArrayList", name := "rangeCheckForAdd", desc := "(I)V" } : Jvm.MethodName) prog_30_method_45_code (2 : Nat) (Option.none : Option Jvm.ClassFile.FieldType)) := tbk3 (j := 191) rfl
set_option maxRecDepth 100000 in
theorem tb_672 : tables_1[672]? = some (Jvm.Cond.methodLink "java/util/ArrayList" (112 : Nat) ({ cls := "java/lang/System", name := "arraycopy", desc := "(Ljava/lang/Object;ILjava/lang/Object;II)V" } : Jvm.MethodName)) := tbk3 (j := 192) rfl
set_option maxRecDepth 100000 in
theorem tb_673 : tables_1[673]? = some (Jvm.Cond.methodLink "SortUtility" (199 : Nat) ({ cls := "SortUtility", name := "refuse", desc := "(LSortUtility$Row;)V" } : Jvm.MethodName)) := tbk3 (j := 193) rfl
set_option maxRecDepth 100000 in
theorem tb_674 : tables_1[674]? = some (Jvm.Cond.privateMethod ({ cls := "SortUtility", name := "refuse", desc := "(LSortUtility$Row;)V" } : Jvm.MethodName)) := tbk3 (j := 194) rfl
set_option maxRecDepth 100000 in
theorem tb_675 : tables_1[675]? = some (Jvm.Cond.instanceMethod ({ cls := "SortUtility", name := "refuse", desc := "(LSortUtility$Row;)V" } : Jvm.MethodName)) := tbk3 (j := 195) rfl
set_option maxRecDepth 100000 in
theorem tb_676 : tables_1[676]? = some (Jvm.Cond.code ({ cls := "SortUtility", name := "refuse", desc := "(LSortUtility$Row;)V" } : Jvm.MethodName) prog_1_method_21_code (3 : Nat) (Option.none : Option Jvm.ClassFile.FieldType)) := tbk3 (j := 196) rfl
set_option maxRecDepth 100000 in
theorem tb_677 : tables_1[677]? = some (Jvm.Cond.methodLink "SortUtility" (205 : Nat) ({ cls := "SortUtility$Row", name := "become", desc := "(LSortUtility$Row;)V" } : Jvm.MethodName)) := tbk3 (j := 197) rfl
set_option maxRecDepth 100000 in
theorem tb_678 : tables_1[678]? = some (Jvm.Cond.instanceMethod ({ cls := "SortUtility$Row", name := "become", desc := "(LSortUtility$Row;)V" } : Jvm.MethodName)) := tbk3 (j := 198) rfl
set_option maxRecDepth 100000 in
theorem tb_679 : tables_1[679]? = some (Jvm.Cond.selects "SortUtility$Row" ({ cls := "SortUtility$Row", name := "become", desc := "(LSortUtility$Row;)V" } : Jvm.MethodName) ({ cls := "SortUtility$Row", name := "become", desc := "(LSortUtility$Row;)V" } : Jvm.MethodName)) := tbk3 (j := 199) rfl
set_option maxRecDepth 100000 in
theorem tb_680 : tables_1[680]? = some (Jvm.Cond.code ({ cls := "SortUtility$Row", name := "become", desc := "(LSortUtility$Row;)V" } : Jvm.MethodName) prog_6_method_5_code (2 : Nat) (Option.none : Option Jvm.ClassFile.FieldType)) := tbk3 (j := 200) rfl
set_option maxRecDepth 100000 in
theorem tb_681 : tables_1[681]? = some (Jvm.Cond.methodLink "SortUtility$Row" (38 : Nat) ({ cls := "java/lang/System", name := "arraycopy", desc := "(Ljava/lang/Object;ILjava/lang/Object;II)V" } : Jvm.MethodName)) := tbk3 (j := 201) rfl
set_option maxRecDepth 100000 in
theorem tb_682 : tables_1[682]? = some (Jvm.Cond.methodLink "SortUtility" (127 : Nat) ({ cls := "SortUtility", name := "sumAndDeliver", desc := "()V" } : Jvm.MethodName)) := tbk3 (j := 202) rfl
set_option maxRecDepth 100000 in
theorem tb_683 : tables_1[683]? = some (Jvm.Cond.privateMethod ({ cls := "SortUtility", name := "sumAndDeliver", desc := "()V" } : Jvm.MethodName)) := tbk3 (j := 203) rfl
set_option maxRecDepth 100000 in
theorem tb_684 : tables_1[684]? = some (Jvm.Cond.instanceMethod ({ cls := "SortUtility", name := "sumAndDeliver", desc := "()V" } : Jvm.MethodName)) := tbk3 (j := 204) rfl
set_option maxRecDepth 100000 in
theorem tb_685 : tables_1[685]? = some (Jvm.Cond.code ({ cls := "SortUtility", name := "sumAndDeliver", desc := "()V" } : Jvm.MethodName) prog_1_method_22_code (3 : Nat) (Option.none : Option Jvm.ClassFile.FieldType)) := tbk3 (j := 205) rfl
set_option maxRecDepth 100000 in
theorem tb_686 : tables_1[686]? = some (Jvm.Cond.methodLink "SortUtility" (208 : Nat) ({ cls := "SortUtility", name := "heldTakesUp", desc := "(LSortUtility$Row;)Z" } : Jvm.MethodName)) := tbk3 (j := 206) rfl
set_option maxRecDepth 100000 in
theorem tb_687 : tables_1[687]? = some (Jvm.Cond.privateMethod ({ cls := "SortUtility", name := "heldTakesUp", desc := "(LSortUtility$Row;)Z" } : Jvm.MethodName)) := tbk3 (j := 207) rfl
set_option maxRecDepth 100000 in
theorem tb_688 : tables_1[688]? = some (Jvm.Cond.instanceMethod ({ cls := "SortUtility", name := "heldTakesUp", desc := "(LSortUtility$Row;)Z" } : Jvm.MethodName)) := tbk3 (j := 208) rfl
set_option maxRecDepth 100000 in
theorem tb_689 : tables_1[689]? = some (Jvm.Cond.code ({ cls := "SortUtility", name := "heldTakesUp", desc := "(LSortUtility$Row;)Z" } : Jvm.MethodName) prog_1_method_23_code (3 : Nat) (Option.some Jvm.ClassFile.FieldType.boolean)) := tbk3 (j := 209) rfl
set_option maxRecDepth 100000 in
theorem tb_690 : tables_1[690]? = some (Jvm.Cond.methodLink "SortUtility" (147 : Nat) ({ cls := "java/util/ArrayList", name := "isEmpty", desc := "()Z" } : Jvm.MethodName)) := tbk3 (j := 210) rfl
set_option maxRecDepth 100000 in
theorem tb_691 : tables_1[691]? = some (Jvm.Cond.methodLink "SortUtility" (214 : Nat) ({ cls := "SortUtility", name := "sumsHavePlace", desc := "(LSortUtility$Row;)Z" } : Jvm.MethodName)) := tbk3 (j := 211) rfl
set_option maxRecDepth 100000 in
theorem tb_692 : tables_1[692]? = some (Jvm.Cond.privateMethod ({ cls := "SortUtility", name := "sumsHavePlace", desc := "(LSortUtility$Row;)Z" } : Jvm.MethodName)) := tbk3 (j := 212) rfl
set_option maxRecDepth 100000 in
theorem tb_693 : tables_1[693]? = some (Jvm.Cond.instanceMethod ({ cls := "SortUtility", name := "sumsHavePlace", desc := "(LSortUtility$Row;)Z" } : Jvm.MethodName)) := tbk3 (j := 213) rfl
set_option maxRecDepth 100000 in
theorem tb_694 : tables_1[694]? = some (Jvm.Cond.code ({ cls := "SortUtility", name := "sumsHavePlace", desc := "(LSortUtility$Row;)Z" } : Jvm.MethodName) prog_1_method_24_code (4 : Nat) (Option.some Jvm.ClassFile.FieldType.boolean)) := tbk3 (j := 214) rfl
set_option maxRecDepth 100000 in
theorem tb_695 : tables_1[695]? = some (Jvm.Cond.classLink "SortUtility" (223 : Nat) "SortUtility$Part") := tbk3 (j := 215) rfl
set_option maxRecDepth 100000 in
theorem tb_696 : tables_1[696]? = some (Jvm.Cond.methodLink "SortUtility" (229 : Nat) ({ cls := "SortUtility$Part", name := "numberIn", desc := "(LSortUtility$Row;)J" } : Jvm.MethodName)) := tbk3 (j := 216) rfl
set_option maxRecDepth 100000 in
theorem tb_697 : tables_1[697]? = some (Jvm.Cond.instanceMethod ({ cls := "SortUtility$Part", name := "numberIn", desc := "(LSortUtility$Row;)J" } : Jvm.MethodName)) := tbk3 (j := 217) rfl
set_option maxRecDepth 100000 in
theorem tb_698 : tables_1[698]? = some (Jvm.Cond.selects "SortUtility$Part" ({ cls := "SortUtility$Part", name := "numberIn", desc := "(LSortUtility$Row;)J" } : Jvm.MethodName) ({ cls := "SortUtility$Part", name := "numberIn", desc := "(LSortUtility$Row;)J" } : Jvm.MethodName)) := tbk3 (j := 218) rfl
set_option maxRecDepth 100000 in
theorem tb_699 : tables_1[699]? = some (Jvm.Cond.code ({ cls := "SortUtility$Part", name := "numberIn", desc := "(LSortUtility$Row;)J" } : Jvm.MethodName) prog_4_method_5_code (5 : Nat) (Option.some Jvm.ClassFile.FieldType.long)) := tbk3 (j := 219) rfl
set_option maxRecDepth 100000 in
theorem tb_700 : tables_1[700]? = some (Jvm.Cond.constantLong "SortUtility$Part" (31 : Nat) (10 : Int64)) := tbk3 (j := 220) rfl
set_option maxRecDepth 100000 in
theorem tb_701 : tables_1[701]? = some (Jvm.Cond.methodLink "SortUtility$Part" (33 : Nat) ({ cls := "SortUtility$Part", name := "octetAt", desc := "(LSortUtility$Row;I)I" } : Jvm.MethodName)) := tbk3 (j := 221) rfl
set_option maxRecDepth 100000 in
theorem tb_702 : tables_1[702]? = some (Jvm.Cond.methodLinkNest "SortUtility$Part" (36 : Nat) ({ cls := "SortUtility", name := "digitOf", desc := "(I)I" } : Jvm.MethodName) "SortUtility") := tbk3 (j := 222) rfl
set_option maxRecDepth 100000 in
theorem tb_703 : tables_1[703]? = some (Jvm.Cond.methodLink "SortUtility" (233 : Nat) ({ cls := "SortUtility$Part", name := "firstNumberTooLong", desc := "()J" } : Jvm.MethodName)) := tbk3 (j := 223) rfl
set_option maxRecDepth 100000 in
theorem tb_704 : tables_1[704]? = some (Jvm.Cond.instanceMethod ({ cls := "SortUtility$Part", name := "firstNumberTooLong", desc := "()J" } : Jvm.MethodName)) := tbk3 (j := 224) rfl
set_option maxRecDepth 100000 in
theorem tb_705 : tables_1[705]? = some (Jvm.Cond.selects "SortUtility$Part" ({ cls := "SortUtility$Part", name := "firstNumberTooLong", desc := "()J" } : Jvm.MethodName) ({ cls := "SortUtility$Part", name := "firstNumberTooLong", desc := "()J" } : Jvm.MethodName)) := tbk3 (j := 225) rfl
set_option maxRecDepth 100000 in
theorem tb_706 : tables_1[706]? = some (Jvm.Cond.code ({ cls := "SortUtility$Part", name := "firstNumberTooLong", desc := "()J" } : Jvm.MethodName) prog_4_method_6_code (4 : Nat) (Option.some Jvm.ClassFile.FieldType.long)) := tbk3 (j := 226) rfl
set_option maxRecDepth 100000 in
theorem tb_707 : tables_1[707]? = some (Jvm.Cond.methodLink "SortUtility" (225 : Nat) ({ cls := "SortUtility$Part", name := "writeNumber", desc := "(LSortUtility$Row;J)V" } : Jvm.MethodName)) := tbk3 (j := 227) rfl
set_option maxRecDepth 100000 in
theorem tb_708 : tables_1[708]? = some (Jvm.Cond.instanceMethod ({ cls := "SortUtility$Part", name := "writeNumber", desc := "(LSortUtility$Row;J)V" } : Jvm.MethodName)) := tbk3 (j := 228) rfl
set_option maxRecDepth 100000 in
theorem tb_709 : tables_1[709]? = some (Jvm.Cond.selects "SortUtility$Part" ({ cls := "SortUtility$Part", name := "writeNumber", desc := "(LSortUtility$Row;J)V" } : Jvm.MethodName) ({ cls := "SortUtility$Part", name := "writeNumber", desc := "(LSortUtility$Row;J)V" } : Jvm.MethodName)) := tbk3 (j := 229) rfl
set_option maxRecDepth 100000 in
theorem tb_710 : tables_1[710]? = some (Jvm.Cond.code ({ cls := "SortUtility$Part", name := "writeNumber", desc := "(LSortUtility$Row;J)V" } : Jvm.MethodName) prog_4_method_7_code (7 : Nat) (Option.none : Option Jvm.ClassFile.FieldType)) := tbk3 (j := 230) rfl
set_option maxRecDepth 100000 in
theorem tb_711 : tables_1[711]? = some (Jvm.Cond.constantLong "SortUtility$Part" (39 : Nat) (48 : Int64)) := tbk3 (j := 231) rfl
set_option maxRecDepth 100000 in
theorem tb_712 : tables_1[712]? = some (Jvm.Cond.methodLink "SortUtility$Part" (41 : Nat) ({ cls := "SortUtility$Row", name := "put", desc := "(II)V" } : Jvm.MethodName)) := tbk3 (j := 232) rfl
set_option maxRecDepth 100000 in
theorem tb_713 : tables_1[713]? = some (Jvm.Cond.instanceMethod ({ cls := "SortUtility$Row", name := "put", desc := "(II)V" } : Jvm.MethodName)) := tbk3 (j := 233) rfl
set_option maxRecDepth 100000 in
theorem tb_714 : tables_1[714]? = some (Jvm.Cond.selects "SortUtility$Row" ({ cls := "SortUtility$Row", name := "put", desc := "(II)V" } : Jvm.MethodName) ({ cls := "SortUtility$Row", name := "put", desc := "(II)V" } : Jvm.MethodName)) := tbk3 (j := 234) rfl
set_option maxRecDepth 100000 in
theorem tb_715 : tables_1[715]? = some (Jvm.Cond.code ({ cls := "SortUtility$Row", name := "put", desc := "(II)V" } : Jvm.MethodName) prog_6_method_3_code (3 : Nat) (Option.none : Option Jvm.ClassFile.FieldType)) := tbk3 (j := 235) rfl
set_option maxRecDepth 100000 in
theorem tb_716 : tables_1[716]? = some (Jvm.Cond.methodLink "SortUtility$Row" (28 : Nat) ({ cls := "java/lang/Math", name := "max", desc := "(II)I" } : Jvm.MethodName)) := tbk3 (j := 236) rfl
set_option maxRecDepth 100000 in
theorem tb_717 : tables_1[717]? = some (Jvm.Cond.methodLink "SortUtility" (211 : Nat) ({ cls := "SortUtility", name := "deliverHeld", desc := "()V" } : Jvm.MethodName)) := tbk3 (j := 237) rfl
set_option maxRecDepth 100000 in
theorem tb_718 : tables_1[718]? = some (Jvm.Cond.privateMethod ({ cls := "SortUtility", name := "deliverHeld", desc := "()V" } : Jvm.MethodName)) := tbk3 (j := 238) rfl
set_option maxRecDepth 100000 in
theorem tb_719 : tables_1[719]? = some (Jvm.Cond.instanceMethod ({ cls := "SortUtility", name := "deliverHeld", desc := "()V" } : Jvm.MethodName)) := tbk3 (j := 239) rfl
set_option maxRecDepth 100000 in
theorem tb_720 : tables_1[720]? = some (Jvm.Cond.code ({ cls := "SortUtility", name := "deliverHeld", desc := "()V" } : Jvm.MethodName) prog_1_method_25_code (2 : Nat) (Option.none : Option Jvm.ClassFile.FieldType)) := tbk4 (j := 0) rfl
set_option maxRecDepth 100000 in
theorem tb_721 : tables_1[721]? = some (Jvm.Cond.methodLink "SortUtility" (137 : Nat) ({ cls := "SortUtility$Row", name := "octetAt", desc := "(I)I" } : Jvm.MethodName)) := tbk4 (j := 1) rfl
set_option maxRecDepth 100000 in
theorem tb_722 : tables_1[722]? = some (Jvm.Cond.methodLink "SortUtility" (237 : Nat) ({ cls := "SortUtility$Row", name := "raiseLetters", desc := "()V" } : Jvm.MethodName)) := tbk4 (j := 2) rfl
set_option maxRecDepth 100000 in
theorem tb_723 : tables_1[723]? = some (Jvm.Cond.instanceMethod ({ cls := "SortUtility$Row", name := "raiseLetters", desc := "()V" } : Jvm.MethodName)) := tbk4 (j := 3) rfl
set_option maxRecDepth 100000 in
theorem tb_724 : tables_1[724]? = some (Jvm.Cond.selects "SortUtility$Row" ({ cls := "SortUtility$Row", name := "raiseLetters", desc := "()V" } : Jvm.MethodName) ({ cls := "SortUtility$Row", name := "raiseLetters", desc := "()V" } : Jvm.MethodName)) := tbk4 (j := 4) rfl
set_option maxRecDepth 100000 in
theorem tb_725 : tables_1[725]? = some (Jvm.Cond.code ({ cls := "SortUtility$Row", name := "raiseLetters", desc := "()V" } : Jvm.MethodName) prog_6_method_6_code (2 : Nat) (Option.none : Option Jvm.ClassFile.FieldType)) := tbk4 (j := 5) rfl
set_option maxRecDepth 100000 in
theorem tb_726 : tables_1[726]? = some (Jvm.Cond.methodLink "SortUtility" (240 : Nat) ({ cls := "SortUtility", name := "layOutHeld", desc := "(LSortUtility$Row;)V" } : Jvm.MethodName)) := tbk4 (j := 6) rfl
set_option maxRecDepth 100000 in
theorem tb_727 : tables_1[727]? = some (Jvm.Cond.privateMethod ({ cls := "SortUtility", name := "layOutHeld", desc := "(LSortUtility$Row;)V" } : Jvm.MethodName)) := tbk4 (j := 7) rfl
set_option maxRecDepth 100000 in
theorem tb_728 : tables_1[728]? = some (Jvm.Cond.instanceMethod ({ cls := "SortUtility", name := "layOutHeld", desc := "(LSortUtility$Row;)V" } : Jvm.MethodName)) := tbk4 (j := 8) rfl
set_option maxRecDepth 100000 in
theorem tb_729 : tables_1[729]? = some (Jvm.Cond.code ({ cls := "SortUtility", name := "layOutHeld", desc := "(LSortUtility$Row;)V" } : Jvm.MethodName) prog_1_method_26_code (5 : Nat) (Option.none : Option Jvm.ClassFile.FieldType)) := tbk4 (j := 9) rfl
set_option maxRecDepth 100000 in
theorem tb_730 : tables_1[730]? = some (Jvm.Cond.methodLink "SortUtility" (247 : Nat) ({ cls := "SortUtility$Row", name := "append", desc := "(I)V" } : Jvm.MethodName)) := tbk4 (j := 10) rfl
set_option maxRecDepth 100000 in
theorem tb_731 : tables_1[731]? = some (Jvm.Cond.instanceMethod ({ cls := "SortUtility$Row", name := "append", desc := "(I)V" } : Jvm.MethodName)) := tbk4 (j := 11) rfl
set_option maxRecDepth 100000 in
theorem tb_732 : tables_1[732]? = some (Jvm.Cond.selects "SortUtility$Row" ({ cls := "SortUtility$Row", name := "append", desc := "(I)V" } : Jvm.MethodName) ({ cls := "SortUtility$Row", name := "append", desc := "(I)V" } : Jvm.MethodName)) := tbk4 (j := 12) rfl
set_option maxRecDepth 100000 in
theorem tb_733 : tables_1[733]? = some (Jvm.Cond.code ({ cls := "SortUtility$Row", name := "append", desc := "(I)V" } : Jvm.MethodName) prog_6_method_4_code (2 : Nat) (Option.none : Option Jvm.ClassFile.FieldType)) := tbk4 (j := 13) rfl
set_option maxRecDepth 100000 in
theorem tb_734 : tables_1[734]? = some (Jvm.Cond.methodLink "SortUtility$Row" (34 : Nat) ({ cls := "SortUtility$Row", name := "put", desc := "(II)V" } : Jvm.MethodName)) := tbk4 (j := 14) rfl
set_option maxRecDepth 100000 in
theorem tb_735 : tables_1[735]? = some (Jvm.Cond.methodLink "SortUtilityLaw" (47 : Nat) ({ cls := "SortUtility", name := "out", desc := "(III)I" } : Jvm.MethodName)) := tbk4 (j := 15) rfl
set_option maxRecDepth 100000 in
theorem tb_736 : tables_1[736]? = some (Jvm.Cond.instanceMethod ({ cls := "SortUtility", name := "out", desc := "(III)I" } : Jvm.MethodName)) := tbk4 (j := 16) rfl
set_option maxRecDepth 100000 in
theorem tb_737 : tables_1[737]? = some (Jvm.Cond.selects "SortUtility" ({ cls := "SortUtility", name := "out", desc := "(III)I" } : Jvm.MethodName) ({ cls := "SortUtility", name := "out", desc := "(III)I" } : Jvm.MethodName)) := tbk4 (j := 17) rfl
set_option maxRecDepth 100000 in
theorem tb_738 : tables_1[738]? = some (Jvm.Cond.code ({ cls := "SortUtility", name := "out", desc := "(III)I" } : Jvm.MethodName) prog_1_method_7_code (5 : Nat) (Option.some Jvm.ClassFile.FieldType.int)) := tbk4 (j := 18) rfl
set_option maxRecDepth 100000 in
theorem tb_739 : tables_1[739]? = some (Jvm.Cond.methodLink "SortUtility" (130 : Nat) ({ cls := "SortUtility", name := "outputRow", desc := "(II)LSortUtility$Row;" } : Jvm.MethodName)) := tbk4 (j := 19) rfl
set_option maxRecDepth 100000 in
theorem tb_740 : tables_1[740]? = some (Jvm.Cond.privateMethod ({ cls := "SortUtility", name := "outputRow", desc := "(II)LSortUtility$Row;" } : Jvm.MethodName)) := tbk4 (j := 20) rfl
set_option maxRecDepth 100000 in
theorem tb_741 : tables_1[741]? = some (Jvm.Cond.instanceMethod ({ cls := "SortUtility", name := "outputRow", desc := "(II)LSortUtility$Row;" } : Jvm.MethodName)) := tbk4 (j := 21) rfl
set_option maxRecDepth 100000 in
theorem tb_742 : tables_1[742]? = some (Jvm.Cond.code ({ cls := "SortUtility", name := "outputRow", desc := "(II)LSortUtility$Row;" } : Jvm.MethodName) prog_1_method_18_code (4 : Nat) (Option.some (Jvm.ClassFile.FieldType.object "SortUtility$Row"))) := tbk4 (j := 22) rfl
set_option maxRecDepth 100000 in
theorem tb_743 : tables_1[743]? = some (Jvm.Cond.methodLink "SortUtility" (168 : Nat) ({ cls := "SortUtility", name := "outputRows", desc := "(I)LSortUtility$Rows;" } : Jvm.MethodName)) := tbk4 (j := 23) rfl
set_option maxRecDepth 100000 in
theorem tb_744 : tables_1[744]? = some (Jvm.Cond.privateMethod ({ cls := "SortUtility", name := "outputRows", desc := "(I)LSortUtility$Rows;" } : Jvm.MethodName)) := tbk4 (j := 24) rfl
set_option maxRecDepth 100000 in
theorem tb_745 : tables_1[745]? = some (Jvm.Cond.instanceMethod ({ cls := "SortUtility", name := "outputRows", desc := "(I)LSortUtility$Rows;" } : Jvm.MethodName)) := tbk4 (j := 25) rfl
set_option maxRecDepth 100000 in
theorem tb_746 : tables_1[746]? = some (Jvm.Cond.code ({ cls := "SortUtility", name := "outputRows", desc := "(I)LSortUtility$Rows;" } : Jvm.MethodName) prog_1_method_17_code (2 : Nat) (Option.some (Jvm.ClassFile.FieldType.object "SortUtility$Rows"))) := tbk4 (j := 26) rfl
set_option maxRecDepth 100000 in
theorem tb_747 : tables_1[747]? = some (Jvm.Cond.methodLink "SortUtilityLaw" (52 : Nat) ({ cls := "SortUtility", name := "sum", desc := "(II)I" } : Jvm.MethodName)) := tbk4 (j := 27) rfl
set_option maxRecDepth 100000 in
theorem tb_748 : tables_1[748]? = some (Jvm.Cond.instanceMethod ({ cls := "SortUtility", name := "sum", desc := "(II)I" } : Jvm.MethodName)) := tbk4 (j := 28) rfl
set_option maxRecDepth 100000 in
theorem tb_749 : tables_1[749]? = some (Jvm.Cond.selects "SortUtility" ({ cls := "SortUtility", name := "sum", desc := "(II)I" } : Jvm.MethodName) ({ cls := "SortUtility", name := "sum", desc := "(II)I" } : Jvm.MethodName)) := tbk4 (j := 29) rfl
set_option maxRecDepth 100000 in
theorem tb_750 : tables_1[750]? = some (Jvm.Cond.code ({ cls := "SortUtility", name := "sum", desc := "(II)I" } : Jvm.MethodName) prog_1_method_8_code (4 : Nat) (Option.some Jvm.ClassFile.FieldType.int)) := tbk4 (j := 30) rfl
set_option maxRecDepth 100000 in
theorem tb_751 : tables_1[751]? = some (Jvm.Cond.methodLink "SortUtilityLaw" (57 : Nat) ({ cls := "SortUtility", name := "join", desc := "(II)I" } : Jvm.MethodName)) := tbk4 (j := 31) rfl
set_option maxRecDepth 100000 in
theorem tb_752 : tables_1[752]? = some (Jvm.Cond.instanceMethod ({ cls := "SortUtility", name := "join", desc := "(II)I" } : Jvm.MethodName)) := tbk4 (j := 32) rfl
set_option maxRecDepth 100000 in
theorem tb_753 : tables_1[753]? = some (Jvm.Cond.selects "SortUtility" ({ cls := "SortUtility", name := "join", desc := "(II)I" } : Jvm.MethodName) ({ cls := "SortUtility", name := "join", desc := "(II)I" } : Jvm.MethodName)) := tbk4 (j := 33) rfl
set_option maxRecDepth 100000 in
theorem tb_754 : tables_1[754]? = some (Jvm.Cond.code ({ cls := "SortUtility", name := "join", desc := "(II)I" } : Jvm.MethodName) prog_1_method_9_code (6 : Nat) (Option.some Jvm.ClassFile.FieldType.int)) := tbk4 (j := 34) rfl
set_option maxRecDepth 100000 in
theorem tb_755 : tables_1[755]? = some (Jvm.Cond.methodLink "SortUtility" (151 : Nat) ({ cls := "SortUtility", name := "longestOf", desc := "(I)I" } : Jvm.MethodName)) := tbk4 (j := 35) rfl
set_option maxRecDepth 100000 in
theorem tb_756 : tables_1[756]? = some (Jvm.Cond.privateMethod ({ cls := "SortUtility", name := "longestOf", desc := "(I)I" } : Jvm.MethodName)) := tbk4 (j := 36) rfl
set_option maxRecDepth 100000 in
theorem tb_757 : tables_1[757]? = some (Jvm.Cond.instanceMethod ({ cls := "SortUtility", name := "longestOf", desc := "(I)I" } : Jvm.MethodName)) := tbk4 (j := 37) rfl
set_option maxRecDepth 100000 in
theorem tb_758 : tables_1[758]? = some (Jvm.Cond.code ({ cls := "SortUtility", name := "longestOf", desc := "(I)I" } : Jvm.MethodName) prog_1_method_27_code (5 : Nat) (Option.some Jvm.ClassFile.FieldType.int)) := tbk4 (j := 38) rfl
set_option maxRecDepth 100000 in
theorem tb_759 : tables_1[759]? = some (Jvm.Cond.methodLink "SortUtility" (154 : Nat) ({ cls := "SortUtility", name := "joinWithAll", desc := "(LSortUtility$Row;II)Z" } : Jvm.MethodName)) := tbk4 (j := 39) rfl
set_option maxRecDepth 100000 in
theorem tb_760 : tables_1[760]? = some (Jvm.Cond.privateMethod ({ cls := "SortUtility", name := "joinWithAll", desc := "(LSortUtility$Row;II)Z" } : Jvm.MethodName)) := tbk4 (j := 40) rfl
set_option maxRecDepth 100000 in
theorem tb_761 : tables_1[761]? = some (Jvm.Cond.instanceMethod ({ cls := "SortUtility", name := "joinWithAll", desc := "(LSortUtility$Row;II)Z" } : Jvm.MethodName)) := tbk4 (j := 41) rfl
set_option maxRecDepth 100000 in
theorem tb_762 : tables_1[762]? = some (Jvm.Cond.code ({ cls := "SortUtility", name := "joinWithAll", desc := "(LSortUtility$Row;II)Z" } : Jvm.MethodName) prog_1_method_28_code (8 : Nat) (Option.some Jvm.ClassFile.FieldType.boolean)) := tbk4 (j := 42) rfl
set_option maxRecDepth 100000 in
theorem tb_763 : tables_1[763]? = some (Jvm.Cond.classLink "SortUtility" (251 : Nat) "SortUtility$Key") := tbk4 (j := 43) rfl
set_option maxRecDepth 100000 in
theorem tb_764 : tables_1[764]? = some (Jvm.Cond.methodLink "SortUtility" (260 : Nat) ({ cls := "SortUtility", name := "compareParts", desc := "(LSortUtility$Part;LSortUtility$Row;LSortUtility$Part;LSortUtility$Row;Z)I" } : Jvm.MethodName)) := tbk4 (j := 44) rfl
set_option maxRecDepth 100000 in
theorem tb_765 : tables_1[765]? = some (Jvm.Cond.methodLink "SortUtility" (264 : Nat) ({ cls := "SortUtility", name := "addJoined", desc := "(LSortUtility$Row;LSortUtility$Row;I)V" } : Jvm.MethodName)) := tbk4 (j := 45) rfl
set_option maxRecDepth 100000 in
theorem tb_766 : tables_1[766]? = some (Jvm.Cond.privateMethod ({ cls := "SortUtility", name := "addJoined", desc := "(LSortUtility$Row;LSortUtility$Row;I)V" } : Jvm.MethodName)) := tbk4 (j := 46) rfl
set_option maxRecDepth 100000 in
theorem tb_767 : tables_1[767]? = some (Jvm.Cond.instanceMethod ({ cls := "SortUtility", name := "addJoined", desc := "(LSortUtility$Row;LSortUtility$Row;I)V" } : Jvm.MethodName)) := tbk4 (j := 47) rfl
set_option maxRecDepth 100000 in
theorem tb_768 : tables_1[768]? = some (Jvm.Cond.code ({ cls := "SortUtility", name := "addJoined", desc := "(LSortUtility$Row;LSortUtility$Row;I)V" } : Jvm.MethodName) prog_1_method_29_code (6 : Nat) (Option.none : Option Jvm.ClassFile.FieldType)) := tbk4 (j := 48) rfl
set_option maxRecDepth 100000 in
theorem tb_769 : tables_1[769]? = some (Jvm.Cond.methodLink "SortUtility" (158 : Nat) ({ cls := "java/util/ArrayList", name := "add", desc := "(Ljava/lang/Object;)Z" } : Jvm.MethodName)) := tbk4 (j := 49) rfl
set_option maxRecDepth 100000 in
theorem tb_770 : tables_1[770]? = some (Jvm.Cond.methodLink "SortUtilityLaw" (61 : Nat) ({ cls := "SortUtility", name := "left", desc := "(I)I" } : Jvm.MethodName)) := tbk4 (j := 50) rfl
set_option maxRecDepth 100000 in
theorem tb_771 : tables_1[771]? = some (Jvm.Cond.instanceMethod ({ cls := "SortUtility", name := "left", desc := "(I)I" } : Jvm.MethodName)) := tbk4 (j := 51) rfl
set_option maxRecDepth 100000 in
theorem tb_772 : tables_1[772]? = some (Jvm.Cond.selects "SortUtility" ({ cls := "SortUtility", name := "left", desc := "(I)I" } : Jvm.MethodName) ({ cls := "SortUtility", name := "left", desc := "(I)I" } : Jvm.MethodName)) := tbk4 (j := 52) rfl
set_option maxRecDepth 100000 in
theorem tb_773 : tables_1[773]? = some (Jvm.Cond.code ({ cls := "SortUtility", name := "left", desc := "(I)I" } : Jvm.MethodName) prog_1_method_10_code (2 : Nat) (Option.some Jvm.ClassFile.FieldType.int)) := tbk4 (j := 53) rfl
set_option maxRecDepth 100000 in
theorem tb_774 : tables_1[774]? = some (Jvm.Cond.methodLink "SortUtilityLaw" (65 : Nat) ({ cls := "SortUtility", name := "code", desc := "()I" } : Jvm.MethodName)) := tbk4 (j := 54) rfl
set_option maxRecDepth 100000 in
theorem tb_775 : tables_1[775]? = some (Jvm.Cond.instanceMethod ({ cls := "SortUtility", name := "code", desc := "()I" } : Jvm.MethodName)) := tbk4 (j := 55) rfl
set_option maxRecDepth 100000 in
theorem tb_776 : tables_1[776]? = some (Jvm.Cond.selects "SortUtility" ({ cls := "SortUtility", name := "code", desc := "()I" } : Jvm.MethodName) ({ cls := "SortUtility", name := "code", desc := "()I" } : Jvm.MethodName)) := tbk4 (j := 56) rfl
set_option maxRecDepth 100000 in
theorem tb_777 : tables_1[777]? = some (Jvm.Cond.code ({ cls := "SortUtility", name := "code", desc := "()I" } : Jvm.MethodName) prog_1_method_11_code (1 : Nat) (Option.some Jvm.ClassFile.FieldType.int)) := tbk4 (j := 57) rfl
set_option maxRecDepth 100000 in
theorem tb_778 : tables_1[778]? = some (Jvm.Cond.methodLink "SortUtilityLaw" (69 : Nat) ({ cls := "SortUtility", name := "exit", desc := "(IZ)I" } : Jvm.MethodName)) := tbk4 (j := 58) rfl
set_option maxRecDepth 100000 in
theorem tb_779 : tables_1[779]? = some (Jvm.Cond.instanceMethod ({ cls := "SortUtility", name := "exit", desc := "(IZ)I" } : Jvm.MethodName)) := tbk4 (j := 59) rfl
set_option maxRecDepth 100000 in
theorem tb_780 : tables_1[780]? = some (Jvm.Cond.selects "SortUtility" ({ cls := "SortUtility", name := "exit", desc := "(IZ)I" } : Jvm.MethodName) ({ cls := "SortUtility", name := "exit", desc := "(IZ)I" } : Jvm.MethodName)) := tbk4 (j := 60) rfl
set_option maxRecDepth 100000 in
theorem tb_781 : tables_1[781]? = some (Jvm.Cond.code ({ cls := "SortUtility", name := "exit", desc := "(IZ)I" } : Jvm.MethodName) prog_1_method_12_code (4 : Nat) (Option.some Jvm.ClassFile.FieldType.int)) := tbk4 (j := 61) rfl
set_option maxRecDepth 100000 in
theorem tb_782 : tables_1[782]? = some (Jvm.Cond.methodLink "SortUtilityLaw" (74 : Nat) ({ cls := "SortUtility", name := "total", desc := "(II)I" } : Jvm.MethodName)) := tbk4 (j := 62) rfl
set_option maxRecDepth 100000 in
theorem tb_783 : tables_1[783]? = some (Jvm.Cond.instanceMethod ({ cls := "SortUtility", name := "total", desc := "(II)I" } : Jvm.MethodName)) := tbk4 (j := 63) rfl
set_option maxRecDepth 100000 in
theorem tb_784 : tables_1[784]? = some (Jvm.Cond.selects "SortUtility" ({ cls := "SortUtility", name := "total", desc := "(II)I" } : Jvm.MethodName) ({ cls := "SortUtility", name := "total", desc := "(II)I" } : Jvm.MethodName)) := tbk4 (j := 64) rfl
set_option maxRecDepth 100000 in
theorem tb_785 : tables_1[785]? = some (Jvm.Cond.code ({ cls := "SortUtility", name := "total", desc := "(II)I" } : Jvm.MethodName) prog_1_method_13_code (6 : Nat) (Option.some Jvm.ClassFile.FieldType.int)) := tbk4 (j := 65) rfl
set_option maxRecDepth 100000 in
theorem tb_786 : tables_1[786]? = some (Jvm.Cond.methodLink "SortUtilityLaw" (78 : Nat) ({ cls := "SortUtility", name := "plain", desc := "(I)Z" } : Jvm.MethodName)) := tbk4 (j := 66) rfl
set_option maxRecDepth 100000 in
theorem tb_787 : tables_1[787]? = some (Jvm.Cond.instanceMethod ({ cls := "SortUtility", name := "plain", desc := "(I)Z" } : Jvm.MethodName)) := tbk4 (j := 67) rfl
set_option maxRecDepth 100000 in
theorem tb_788 : tables_1[788]? = some (Jvm.Cond.selects "SortUtility" ({ cls := "SortUtility", name := "plain", desc := "(I)Z" } : Jvm.MethodName) ({ cls := "SortUtility", name := "plain", desc := "(I)Z" } : Jvm.MethodName)) := tbk4 (j := 68) rfl
set_option maxRecDepth 100000 in
theorem tb_789 : tables_1[789]? = some (Jvm.Cond.code ({ cls := "SortUtility", name := "plain", desc := "(I)Z" } : Jvm.MethodName) prog_1_method_14_code (6 : Nat) (Option.some Jvm.ClassFile.FieldType.boolean)) := tbk4 (j := 69) rfl
set_option maxRecDepth 100000 in
theorem tb_790 : tables_1[790]? = some (Jvm.Cond.methodLink "SortUtilityLaw" (83 : Nat) ({ cls := "SortUtility", name := "count", desc := "(I)I" } : Jvm.MethodName)) := tbk4 (j := 70) rfl
set_option maxRecDepth 100000 in
theorem tb_791 : tables_1[791]? = some (Jvm.Cond.instanceMethod ({ cls := "SortUtility", name := "count", desc := "(I)I" } : Jvm.MethodName)) := tbk4 (j := 71) rfl
set_option maxRecDepth 100000 in
theorem tb_792 : tables_1[792]? = some (Jvm.Cond.selects "SortUtility" ({ cls := "SortUtility", name := "count", desc := "(I)I" } : Jvm.MethodName) ({ cls := "SortUtility", name := "count", desc := "(I)I" } : Jvm.MethodName)) := tbk4 (j := 72) rfl
set_option maxRecDepth 100000 in
theorem tb_793 : tables_1[793]? = some (Jvm.Cond.code ({ cls := "SortUtility", name := "count", desc := "(I)I" } : Jvm.MethodName) prog_1_method_15_code (2 : Nat) (Option.some Jvm.ClassFile.FieldType.int)) := tbk4 (j := 73) rfl
set_option maxRecDepth 100000 in
theorem tb_794 : tables_1[794]? = some (Jvm.Cond.methodLink "SortUtilityLaw" (34 : Nat) ({ cls := "SortUtilityLaw", name := "octet", desc := "(LSortUtility;IIB)I" } : Jvm.MethodName)) := tbk4 (j := 74) rfl
set_option maxRecDepth 100000 in
theorem tb_795 : tables_1[795]? = some (Jvm.Cond.static ({ cls := "SortUtilityLaw", name := "octet", desc := "(LSortUtility;IIB)I" } : Jvm.MethodName)) := tbk4 (j := 75) rfl
set_option maxRecDepth 100000 in
theorem tb_796 : tables_1[796]? = some (Jvm.Cond.codeWith ({ cls := "SortUtilityLaw", name := "octet", desc := "(LSortUtility;IIB)I" } : Jvm.MethodName) method_3_code (5 : Nat) (Option.some Jvm.ClassFile.FieldType.int) [((0 : Nat), (7 : Nat), (10 : Nat), (13 : Nat))]) := tbk4 (j := 76) rfl
set_option maxRecDepth 100000 in
theorem tb_797 : tables_1[797]? = some (Jvm.Cond.classLink "SortUtilityLaw" (13 : Nat) "java/lang/ArrayIndexOutOfBoundsException") := tbk4 (j := 77) rfl
set_option maxRecDepth 100000 in
theorem tb_798 : tables_1[798]? = some (Jvm.Cond.methodLink "SortUtilityLaw" (7 : Nat) ({ cls := "SortUtility", name := "octet", desc := "(IIB)V" } : Jvm.MethodName)) := tbk4 (j := 78) rfl
set_option maxRecDepth 100000 in
theorem tb_799 : tables_1[799]? = some (Jvm.Cond.instanceMethod ({ cls := "SortUtility", name := "octet", desc := "(IIB)V" } : Jvm.MethodName)) := tbk4 (j := 79) rfl
set_option maxRecDepth 100000 in
theorem tb_800 : tables_1[800]? = some (Jvm.Cond.selects "SortUtility" ({ cls := "SortUtility", name := "octet", desc := "(IIB)V" } : Jvm.MethodName) ({ cls := "SortUtility", name := "octet", desc := "(IIB)V" } : Jvm.MethodName)) := tbk4 (j := 80) rfl
set_option maxRecDepth 100000 in
theorem tb_801 : tables_1[801]? = some (Jvm.Cond.code ({ cls := "SortUtility", name := "octet", desc := "(IIB)V" } : Jvm.MethodName) prog_1_method_5_code (5 : Nat) (Option.none : Option Jvm.ClassFile.FieldType)) := tbk4 (j := 81) rfl
set_option maxRecDepth 100000 in
theorem tb_802 : tables_1[802]? = some (Jvm.Cond.classLink "SortUtility" (109 : Nat) "java/lang/ArrayIndexOutOfBoundsException") := tbk4 (j := 82) rfl
set_option maxRecDepth 100000 in
theorem tb_803 : tables_1[803]? = some (Jvm.Cond.instantiable "java/lang/ArrayIndexOutOfBoundsException" (6 : Nat)) := tbk4 (j := 83) rfl
set_option maxRecDepth 100000 in
theorem tb_804 : tables_1[804]? = some (Jvm.Cond.castable "java/lang/ArrayIndexOutOfBoundsException" "java/lang/ArrayIndexOutOfBoundsException") := tbk4 (j := 84) rfl
set_option maxRecDepth 100000 in
theorem tb_805 : tables_1[805]? = some (Jvm.Cond.declares ({ cls := "java/lang/IndexOutOfBoundsException", name := "<init>", desc := "()V" } : Jvm.MethodName)) := tbk4 (j := 85) rfl
set_option maxRecDepth 100000 in
theorem tb_806 : tables_1[806]? = some (Jvm.Cond.declares ({ cls := "java/lang/IndexOutOfBoundsException", name := "<init>", desc := "(Ljava/lang/String;)V" } : Jvm.MethodName)) := tbk4 (j := 86) rfl
set_option maxRecDepth 100000 in
theorem tb_807 : tables_1[807]? = some (Jvm.Cond.selects "java/lang/ArrayIndexOutOfBoundsException" ({ cls := "java/lang/Throwable", name := "fillInStackTrace", desc := "(I)Ljava/lang/Throwable;" } : Jvm.MethodName) ({ cls := "java/lang/Throwable", name := "fillInStackTrace", desc := "(I)Ljava/lang/Throwable;" } : Jvm.MethodName)) := tbk4 (j := 87) rfl
set_option maxRecDepth 100000 in
theorem tb_808 : tables_1[808]? = some (Jvm.Cond.lays "java/lang/ArrayIndexOutOfBoundsException" "java/lang/Throwable" "cause" "Ljava/lang/Throwable;") := tbk4 (j := 88) rfl
set_option maxRecDepth 100000 in
theorem tb_809 : tables_1[809]? = some (Jvm.Cond.lays "java/lang/ArrayIndexOutOfBoundsException" "java/lang/Throwable" "stackTrace" "[Ljava/lang/StackTraceElement;") := tbk4 (j := 89) rfl
set_option maxRecDepth 100000 in
theorem tb_810 : tables_1[810]? = some (Jvm.Cond.lays "java/lang/ArrayIndexOutOfBoundsException" "java/lang/Throwable" "suppressedExceptions" "Ljava/util/List;") := tbk4 (j := 90) rfl
set_option maxRecDepth 100000 in
theorem tb_811 : tables_1[811]? = some (Jvm.Cond.lays "java/lang/ArrayIndexOutOfBoundsException" "java/lang/Throwable" "detailMessage" "Ljava/lang/String;") := tbk4 (j := 91) rfl
set_option maxRecDepth 100000 in
theorem tb_812 : tables_1[812]? = some (Jvm.Cond.lays "java/lang/ArrayIndexOutOfBoundsException" "java/lang/Throwable" "backtrace" "Ljava/lang/Object;") := tbk4 (j := 92) rfl
set_option maxRecDepth 100000 in
theorem tb_813 : tables_1[813]? = some (Jvm.Cond.stringRef "SortUtility" (111 : Nat) "no such record, or no such place in it") := tbk4 (j := 93) rfl
set_option maxRecDepth 100000 in
theorem tb_814 : tables_1[814]? = some (Jvm.Cond.methodLink "SortUtility" (113 : Nat) ({ cls := "java/lang/ArrayIndexOutOfBoundsException", name := "<init>", desc := "(Ljava/lang/String;)V" } : Jvm.MethodName)) := tbk4 (j := 94) rfl
set_option maxRecDepth 100000 in
theorem tb_815 : tables_1[815]? = some (Jvm.Cond.instanceMethod ({ cls := "java/lang/ArrayIndexOutOfBoundsException", name := "<init>", desc := "(Ljava/lang/String;)V" } : Jvm.MethodName)) := tbk4 (j := 95) rfl
set_option maxRecDepth 100000 in
theorem tb_816 : tables_1[816]? = some (Jvm.Cond.code ({ cls := "java/lang/ArrayIndexOutOfBoundsException", name := "<init>", desc := "(Ljava/lang/String;)V" } : Jvm.MethodName) prog_14_method_2_code (2 : Nat) (Option.none : Option Jvm.ClassFile.FieldType)) := tbk4 (j := 96) rfl
set_option maxRecDepth 100000 in
theorem tb_817 : tables_1[817]? = some (Jvm.Cond.methodLink "java/lang/ArrayIndexOutOfBoundsException" (7 : Nat) ({ cls := "java/lang/IndexOutOfBoundsException", name := "<init>", desc := "(Ljava/lang/String;)V" } : Jvm.MethodName)) := tbk4 (j := 97) rfl
set_option maxRecDepth 100000 in
theorem tb_818 : tables_1[818]? = some (Jvm.Cond.instanceMethod ({ cls := "java/lang/IndexOutOfBoundsException", name := "<init>", desc := "(Ljava/lang/String;)V" } : Jvm.MethodName)) := tbk4 (j := 98) rfl
set_option maxRecDepth 100000 in
theorem tb_819 : tables_1[819]? = some (Jvm.Cond.code ({ cls := "java/lang/IndexOutOfBoundsException", name := "<init>", desc := "(Ljava/lang/String;)V" } : Jvm.MethodName) prog_19_method_2_code (2 : Nat) (Option.none : Option Jvm.ClassFile.FieldType)) := tbk4 (j := 99) rfl
set_option maxRecDepth 100000 in
theorem tb_820 : tables_1[820]? = some (Jvm.Cond.methodLink "java/lang/IndexOutOfBoundsException" (7 : Nat) ({ cls := "java/lang/RuntimeException", name := "<init>", desc := "(Ljava/lang/String;)V" } : Jvm.MethodName)) := tbk4 (j := 100) rfl
set_option maxRecDepth 100000 in
theorem tb_821 : tables_1[821]? = some (Jvm.Cond.lays "java/lang/ArrayIndexOutOfBoundsException" "java/lang/Throwable" "depth" "I") := tbk4 (j := 101) rfl
set_option maxRecDepth 100000 in
theorem tb_822 : tables_1[822]? = some (Jvm.Cond.superclass "java/lang/ArrayIndexOutOfBoundsException" "java/lang/IndexOutOfBoundsException") := tbk4 (j := 102) rfl
set_option maxRecDepth 100000 in
theorem tb_823 : tables_1[823]? = some (Jvm.Cond.methodLink "SortUtility" (116 : Nat) ({ cls := "SortUtility$Row", name := "put", desc := "(II)V" } : Jvm.MethodName)) := tbk4 (j := 103) rfl
set_option maxRecDepth 100000 in
theorem tb_824 : tables_1[824]? = some (Jvm.Cond.classLink "SortUtilityLaw" (16 : Nat) "SortUtilityModel") := tbk4 (j := 104) rfl
set_option maxRecDepth 100000 in
theorem tb_825 : tables_1[825]? = some (Jvm.Cond.instantiable "SortUtilityModel" (42 : Nat)) := tbk4 (j := 105) rfl
set_option maxRecDepth 100000 in
theorem tb_826 : tables_1[826]? = some (Jvm.Cond.methodLink "SortUtilityLaw" (18 : Nat) ({ cls := "SortUtilityModel", name := "<init>", desc := "()V" } : Jvm.MethodName)) := tbk4 (j := 106) rfl
set_option maxRecDepth 100000 in
theorem tb_827 : tables_1[827]? = some (Jvm.Cond.instanceMethod ({ cls := "SortUtilityModel", name := "<init>", desc := "()V" } : Jvm.MethodName)) := tbk4 (j := 107) rfl
set_option maxRecDepth 100000 in
theorem tb_828 : tables_1[828]? = some (Jvm.Cond.code ({ cls := "SortUtilityModel", name := "<init>", desc := "()V" } : Jvm.MethodName) prog_12_method_1_code (1 : Nat) (Option.none : Option Jvm.ClassFile.FieldType)) := tbk4 (j := 108) rfl
set_option maxRecDepth 100000 in
theorem tb_829 : tables_1[829]? = some (Jvm.Cond.methodLink "SortUtilityModel" (1 : Nat) ({ cls := "java/lang/Object", name := "<init>", desc := "()V" } : Jvm.MethodName)) := tbk4 (j := 109) rfl
set_option maxRecDepth 100000 in
theorem tb_830 : tables_1[830]? = some (Jvm.Cond.constant "SortUtilityModel" (61 : Nat) (45000 : Int32)) := tbk4 (j := 110) rfl
set_option maxRecDepth 100000 in
theorem tb_831 : tables_1[831]? = some (Jvm.Cond.fieldLink "SortUtilityModel" (114 : Nat) "SortUtilityModel" "code" "I") := tbk4 (j := 111) rfl
set_option maxRecDepth 100000 in
theorem tb_832 : tables_1[832]? = some (Jvm.Cond.fieldLink "SortUtilityModel" (7 : Nat) "SortUtilityModel" "text" "[I") := tbk4 (j := 112) rfl
set_option maxRecDepth 100000 in
theorem tb_833 : tables_1[833]? = some (Jvm.Cond.fieldLink "SortUtilityModel" (118 : Nat) "SortUtilityModel" "length" "I") := tbk4 (j := 113) rfl
set_option maxRecDepth 100000 in
theorem tb_834 : tables_1[834]? = some (Jvm.Cond.fieldLink "SortUtilityModel" (121 : Nat) "SortUtilityModel" "place" "I") := tbk4 (j := 114) rfl
set_option maxRecDepth 100000 in
theorem tb_835 : tables_1[835]? = some (Jvm.Cond.fieldLink "SortUtilityModel" (13 : Nat) "SortUtilityModel" "words" "[I") := tbk4 (j := 115) rfl
set_option maxRecDepth 100000 in
theorem tb_836 : tables_1[836]? = some (Jvm.Cond.fieldLink "SortUtilityModel" (16 : Nat) "SortUtilityModel" "counts" "[I") := tbk4 (j := 116) rfl
set_option maxRecDepth 100000 in
theorem tb_837 : tables_1[837]? = some (Jvm.Cond.fieldLink "SortUtilityModel" (19 : Nat) "SortUtilityModel" "limits" "[I") := tbk4 (j := 117) rfl
set_option maxRecDepth 100000 in
theorem tb_838 : tables_1[838]? = some (Jvm.Cond.fieldLink "SortUtilityModel" (22 : Nat) "SortUtilityModel" "keys" "[I") := tbk4 (j := 118) rfl
set_option maxRecDepth 100000 in
theorem tb_839 : tables_1[839]? = some (Jvm.Cond.fieldLink "SortUtilityModel" (25 : Nat) "SortUtilityModel" "tests" "[I") := tbk4 (j := 119) rfl
set_option maxRecDepth 100000 in
theorem tb_840 : tables_1[840]? = some (Jvm.Cond.fieldLink "SortUtilityModel" (28 : Nat) "SortUtilityModel" "sums" "[I") := tbk4 (j := 120) rfl
set_option maxRecDepth 100000 in
theorem tb_841 : tables_1[841]? = some (Jvm.Cond.fieldLink "SortUtilityModel" (31 : Nat) "SortUtilityModel" "pieces" "[I") := tbk4 (j := 121) rfl
set_option maxRecDepth 100000 in
theorem tb_842 : tables_1[842]? = some (Jvm.Cond.fieldLink "SortUtilityModel" (34 : Nat) "SortUtilityModel" "letters" "[I") := tbk4 (j := 122) rfl
set_option maxRecDepth 100000 in
theorem tb_843 : tables_1[843]? = some (Jvm.Cond.fieldLink "SortUtilityModel" (37 : Nat) "SortUtilityModel" "bytes" "[I") := tbk4 (j := 123) rfl
set_option maxRecDepth 100000 in
theorem tb_844 : tables_1[844]? = some (Jvm.Cond.fieldLink "SortUtilityModel" (40 : Nat) "SortUtilityModel" "lengths" "[I") := tbk4 (j := 124) rfl
set_option maxRecDepth 100000 in
theorem tb_845 : tables_1[845]? = some (Jvm.Cond.fieldLink "SortUtilityModel" (43 : Nat) "SortUtilityModel" "inputs" "[I") := tbk4 (j := 125) rfl
set_option maxRecDepth 100000 in
theorem tb_846 : tables_1[846]? = some (Jvm.Cond.fieldLink "SortUtilityModel" (191 : Nat) "SortUtilityModel" "records" "I") := tbk4 (j := 126) rfl
set_option maxRecDepth 100000 in
theorem tb_847 : tables_1[847]? = some (Jvm.Cond.fieldLink "SortUtilityModel" (246 : Nat) "SortUtilityModel" "does" "I") := tbk4 (j := 127) rfl
set_option maxRecDepth 100000 in
theorem tb_848 : tables_1[848]? = some (Jvm.Cond.fieldLink "SortUtilityModel" (225 : Nat) "SortUtilityModel" "result" "I") := tbk4 (j := 128) rfl
set_option maxRecDepth 100000 in
theorem tb_849 : tables_1[849]? = some (Jvm.Cond.fieldLink "SortUtilityModel" (242 : Nat) "SortUtilityModel" "stops" "Z") := tbk4 (j := 129) rfl
set_option maxRecDepth 100000 in
theorem tb_850 : tables_1[850]? = some (Jvm.Cond.fieldLink "SortUtilityModel" (46 : Nat) "SortUtilityModel" "copy" "[I") := tbk4 (j := 130) rfl
set_option maxRecDepth 100000 in
theorem tb_851 : tables_1[851]? = some (Jvm.Cond.fieldLink "SortUtilityModel" (49 : Nat) "SortUtilityModel" "copyLengths" "[I") := tbk4 (j := 131) rfl
set_option maxRecDepth 100000 in
theorem tb_852 : tables_1[852]? = some (Jvm.Cond.fieldLink "SortUtilityModel" (52 : Nat) "SortUtilityModel" "made" "[I") := tbk4 (j := 132) rfl
set_option maxRecDepth 100000 in
theorem tb_853 : tables_1[853]? = some (Jvm.Cond.fieldLink "SortUtilityModel" (55 : Nat) "SortUtilityModel" "firsts" "[I") := tbk4 (j := 133) rfl
set_option maxRecDepth 100000 in
theorem tb_854 : tables_1[854]? = some (Jvm.Cond.fieldLink "SortUtilityModel" (58 : Nat) "SortUtilityModel" "order" "[I") := tbk4 (j := 134) rfl
set_option maxRecDepth 100000 in
theorem tb_855 : tables_1[855]? = some (Jvm.Cond.fieldLink "SortUtilityModel" (62 : Nat) "SortUtilityModel" "out" "[I") := tbk4 (j := 135) rfl
set_option maxRecDepth 100000 in
theorem tb_856 : tables_1[856]? = some (Jvm.Cond.fieldLink "SortUtilityModel" (65 : Nat) "SortUtilityModel" "outLengths" "[I") := tbk4 (j := 136) rfl
set_option maxRecDepth 100000 in
theorem tb_857 : tables_1[857]? = some (Jvm.Cond.fieldLink "SortUtilityModel" (68 : Nat) "SortUtilityModel" "outs" "[I") := tbk4 (j := 137) rfl
set_option maxRecDepth 100000 in
theorem tb_858 : tables_1[858]? = some (Jvm.Cond.fieldLink "SortUtilityModel" (71 : Nat) "SortUtilityModel" "madeOf" "[I") := tbk4 (j := 138) rfl
set_option maxRecDepth 100000 in
theorem tb_859 : tables_1[859]? = some (Jvm.Cond.fieldLink "SortUtilityModel" (74 : Nat) "SortUtilityModel" "firstOf" "[I") := tbk4 (j := 139) rfl
set_option maxRecDepth 100000 in
theorem tb_860 : tables_1[860]? = some (Jvm.Cond.fieldLink "SortUtilityModel" (77 : Nat) "SortUtilityModel" "lefts" "[I") := tbk4 (j := 140) rfl
set_option maxRecDepth 100000 in
theorem tb_861 : tables_1[861]? = some (Jvm.Cond.fieldLink "SortUtilityModel" (252 : Nat) "SortUtilityModel" "left" "I") := tbk4 (j := 141) rfl
set_option maxRecDepth 100000 in
theorem tb_862 : tables_1[862]? = some (Jvm.Cond.fieldLink "SortUtilityModel" (80 : Nat) "SortUtilityModel" "oldWords" "[I") := tbk4 (j := 142) rfl
set_option maxRecDepth 100000 in
theorem tb_863 : tables_1[863]? = some (Jvm.Cond.fieldLink "SortUtilityModel" (83 : Nat) "SortUtilityModel" "oldCounts" "[I") := tbk4 (j := 143) rfl
set_option maxRecDepth 100000 in
theorem tb_864 : tables_1[864]? = some (Jvm.Cond.fieldLink "SortUtilityModel" (86 : Nat) "SortUtilityModel" "oldLimits" "[I") := tbk4 (j := 144) rfl
set_option maxRecDepth 100000 in
theorem tb_865 : tables_1[865]? = some (Jvm.Cond.fieldLink "SortUtilityModel" (89 : Nat) "SortUtilityModel" "oldKeys" "[I") := tbk4 (j := 145) rfl
set_option maxRecDepth 100000 in
theorem tb_866 : tables_1[866]? = some (Jvm.Cond.fieldLink "SortUtilityModel" (92 : Nat) "SortUtilityModel" "oldTests" "[I") := tbk4 (j := 146) rfl
set_option maxRecDepth 100000 in
theorem tb_867 : tables_1[867]? = some (Jvm.Cond.fieldLink "SortUtilityModel" (95 : Nat) "SortUtilityModel" "oldSums" "[I") := tbk4 (j := 147) rfl
set_option maxRecDepth 100000 in
theorem tb_868 : tables_1[868]? = some (Jvm.Cond.fieldLink "SortUtilityModel" (98 : Nat) "SortUtilityModel" "oldPieces" "[I") := tbk4 (j := 148) rfl
set_option maxRecDepth 100000 in
theorem tb_869 : tables_1[869]? = some (Jvm.Cond.fieldLink "SortUtilityModel" (101 : Nat) "SortUtilityModel" "oldLetters" "[I") := tbk4 (j := 149) rfl
set_option maxRecDepth 100000 in
theorem tb_870 : tables_1[870]? = some (Jvm.Cond.fieldLink "SortUtilityModel" (104 : Nat) "SortUtilityModel" "total" "[J") := tbk4 (j := 150) rfl
set_option maxRecDepth 100000 in
theorem tb_871 : tables_1[871]? = some (Jvm.Cond.fieldLink "SortUtilityModel" (108 : Nat) "SortUtilityModel" "one" "[I") := tbk4 (j := 151) rfl
set_option maxRecDepth 100000 in
theorem tb_872 : tables_1[872]? = some (Jvm.Cond.fieldLink "SortUtilityModel" (111 : Nat) "SortUtilityModel" "oneLengths" "[I") := tbk4 (j := 152) rfl
set_option maxRecDepth 100000 in
theorem tb_873 : tables_1[873]? = some (Jvm.Cond.lays "SortUtilityModel" "SortUtilityModel" "code" "I") := tbk4 (j := 153) rfl
set_option maxRecDepth 100000 in
theorem tb_874 : tables_1[874]? = some (Jvm.Cond.soleField "SortUtilityModel" "code") := tbk4 (j := 154) rfl
set_option maxRecDepth 100000 in
theorem tb_875 : tables_1[875]? = some (Jvm.Cond.laysFinal "SortUtilityModel" "SortUtilityModel" "text" "[I") := tbk4 (j := 155) rfl
set_option maxRecDepth 100000 in
theorem tb_876 : tables_1[876]? = some (Jvm.Cond.soleField "SortUtilityModel" "text") := tbk4 (j := 156) rfl
set_option maxRecDepth 100000 in
theorem tb_877 : tables_1[877]? = some (Jvm.Cond.lays "SortUtilityModel" "SortUtilityModel" "length" "I") := tbk4 (j := 157) rfl
set_option maxRecDepth 100000 in
theorem tb_878 : tables_1[878]? = some (Jvm.Cond.soleField "SortUtilityModel" "length") := tbk4 (j := 158) rfl
set_option maxRecDepth 100000 in
theorem tb_879 : tables_1[879]? = some (Jvm.Cond.lays "SortUtilityModel" "SortUtilityModel" "place" "I") := tbk4 (j := 159) rfl
set_option maxRecDepth 100000 in
theorem tb_880 : tables_1[880]? = some (Jvm.Cond.soleField "SortUtilityModel" "place") := tbk4 (j := 160) rfl
set_option maxRecDepth 100000 in
theorem tb_881 : tables_1[881]? = some (Jvm.Cond.laysFinal "SortUtilityModel" "SortUtilityModel" "words" "[I") := tbk4 (j := 161) rfl
set_option maxRecDepth 100000 in
theorem tb_882 : tables_1[882]? = some (Jvm.Cond.soleField "SortUtilityModel" "words") := tbk4 (j := 162) rfl
set_option maxRecDepth 100000 in
theorem tb_883 : tables_1[883]? = some (Jvm.Cond.laysFinal "SortUtilityModel" "SortUtilityModel" "counts" "[I") := tbk4 (j := 163) rfl
set_option maxRecDepth 100000 in
theorem tb_884 : tables_1[884]? = some (Jvm.Cond.soleField "SortUtilityModel" "counts") := tbk4 (j := 164) rfl
set_option maxRecDepth 100000 in
theorem tb_885 : tables_1[885]? = some (Jvm.Cond.laysFinal "SortUtilityModel" "SortUtilityModel" "limits" "[I") := tbk4 (j := 165) rfl
set_option maxRecDepth 100000 in
theorem tb_886 : tables_1[886]? = some (Jvm.Cond.soleField "SortUtilityModel" "limits") := tbk4 (j := 166) rfl
set_option maxRecDepth 100000 in
theorem tb_887 : tables_1[887]? = some (Jvm.Cond.laysFinal "SortUtilityModel" "SortUtilityModel" "keys" "[I") := tbk4 (j := 167) rfl
set_option maxRecDepth 100000 in
theorem tb_888 : tables_1[888]? = some (Jvm.Cond.soleField "SortUtilityModel" "keys") := tbk4 (j := 168) rfl
set_option maxRecDepth 100000 in
theorem tb_889 : tables_1[889]? = some (Jvm.Cond.laysFinal "SortUtilityModel" "SortUtilityModel" "tests" "[I") := tbk4 (j := 169) rfl
set_option maxRecDepth 100000 in
theorem tb_890 : tables_1[890]? = some (Jvm.Cond.soleField "SortUtilityModel" "tests") := tbk4 (j := 170) rfl
set_option maxRecDepth 100000 in
theorem tb_891 : tables_1[891]? = some (Jvm.Cond.laysFinal "SortUtilityModel" "SortUtilityModel" "sums" "[I") := tbk4 (j := 171) rfl
set_option maxRecDepth 100000 in
theorem tb_892 : tables_1[892]? = some (Jvm.Cond.soleField "SortUtilityModel" "sums") := tbk4 (j := 172) rfl
set_option maxRecDepth 100000 in
theorem tb_893 : tables_1[893]? = some (Jvm.Cond.laysFinal "SortUtilityModel" "SortUtilityModel" "pieces" "[I") := tbk4 (j := 173) rfl
set_option maxRecDepth 100000 in
theorem tb_894 : tables_1[894]? = some (Jvm.Cond.soleField "SortUtilityModel" "pieces") := tbk4 (j := 174) rfl
set_option maxRecDepth 100000 in
theorem tb_895 : tables_1[895]? = some (Jvm.Cond.laysFinal "SortUtilityModel" "SortUtilityModel" "letters" "[I") := tbk4 (j := 175) rfl
set_option maxRecDepth 100000 in
theorem tb_896 : tables_1[896]? = some (Jvm.Cond.soleField "SortUtilityModel" "letters") := tbk4 (j := 176) rfl
set_option maxRecDepth 100000 in
theorem tb_897 : tables_1[897]? = some (Jvm.Cond.laysFinal "SortUtilityModel" "SortUtilityModel" "bytes" "[I") := tbk4 (j := 177) rfl
set_option maxRecDepth 100000 in
theorem tb_898 : tables_1[898]? = some (Jvm.Cond.soleField "SortUtilityModel" "bytes") := tbk4 (j := 178) rfl
set_option maxRecDepth 100000 in
theorem tb_899 : tables_1[899]? = some (Jvm.Cond.laysFinal "SortUtilityModel" "SortUtilityModel" "lengths" "[I") := tbk4 (j := 179) rfl
set_option maxRecDepth 100000 in
theorem tb_900 : tables_1[900]? = some (Jvm.Cond.soleField "SortUtilityModel" "lengths") := tbk4 (j := 180) rfl
set_option maxRecDepth 100000 in
theorem tb_901 : tables_1[901]? = some (Jvm.Cond.laysFinal "SortUtilityModel" "SortUtilityModel" "inputs" "[I") := tbk4 (j := 181) rfl
set_option maxRecDepth 100000 in
theorem tb_902 : tables_1[902]? = some (Jvm.Cond.soleField "SortUtilityModel" "inputs") := tbk4 (j := 182) rfl
set_option maxRecDepth 100000 in
theorem tb_903 : tables_1[903]? = some (Jvm.Cond.lays "SortUtilityModel" "SortUtilityModel" "records" "I") := tbk4 (j := 183) rfl
set_option maxRecDepth 100000 in
theorem tb_904 : tables_1[904]? = some (Jvm.Cond.soleField "SortUtilityModel" "records") := tbk4 (j := 184) rfl
set_option maxRecDepth 100000 in
theorem tb_905 : tables_1[905]? = some (Jvm.Cond.lays "SortUtilityModel" "SortUtilityModel" "does" "I") := tbk4 (j := 185) rfl
set_option maxRecDepth 100000 in
theorem tb_906 : tables_1[906]? = some (Jvm.Cond.soleField "SortUtilityModel" "does") := tbk4 (j := 186) rfl
set_option maxRecDepth 100000 in
theorem tb_907 : tables_1[907]? = some (Jvm.Cond.lays "SortUtilityModel" "SortUtilityModel" "result" "I") := tbk4 (j := 187) rfl
set_option maxRecDepth 100000 in
theorem tb_908 : tables_1[908]? = some (Jvm.Cond.soleField "SortUtilityModel" "result") := tbk4 (j := 188) rfl
set_option maxRecDepth 100000 in
theorem tb_909 : tables_1[909]? = some (Jvm.Cond.lays "SortUtilityModel" "SortUtilityModel" "stops" "Z") := tbk4 (j := 189) rfl
set_option maxRecDepth 100000 in
theorem tb_910 : tables_1[910]? = some (Jvm.Cond.soleField "SortUtilityModel" "stops") := tbk4 (j := 190) rfl
set_option maxRecDepth 100000 in
theorem tb_911 : tables_1[911]? = some (Jvm.Cond.laysFinal "SortUtilityModel" "SortUtilityModel" "copy" "[I") := tbk4 (j := 191) rfl
set_option maxRecDepth 100000 in
theorem tb_912 : tables_1[912]? = some (Jvm.Cond.soleField "SortUtilityModel" "copy") := tbk4 (j := 192) rfl
set_option maxRecDepth 100000 in
theorem tb_913 : tables_1[913]? = some (Jvm.Cond.laysFinal "SortUtilityModel" "SortUtilityModel" "copyLengths" "[I") := tbk4 (j := 193) rfl
set_option maxRecDepth 100000 in
theorem tb_914 : tables_1[914]? = some (Jvm.Cond.soleField "SortUtilityModel" "copyLengths") := tbk4 (j := 194) rfl
set_option maxRecDepth 100000 in
theorem tb_915 : tables_1[915]? = some (Jvm.Cond.laysFinal "SortUtilityModel" "SortUtilityModel" "made" "[I") := tbk4 (j := 195) rfl
set_option maxRecDepth 100000 in
theorem tb_916 : tables_1[916]? = some (Jvm.Cond.soleField "SortUtilityModel" "made") := tbk4 (j := 196) rfl
set_option maxRecDepth 100000 in
theorem tb_917 : tables_1[917]? = some (Jvm.Cond.laysFinal "SortUtilityModel" "SortUtilityModel" "firsts" "[I") := tbk4 (j := 197) rfl
set_option maxRecDepth 100000 in
theorem tb_918 : tables_1[918]? = some (Jvm.Cond.soleField "SortUtilityModel" "firsts") := tbk4 (j := 198) rfl
set_option maxRecDepth 100000 in
theorem tb_919 : tables_1[919]? = some (Jvm.Cond.laysFinal "SortUtilityModel" "SortUtilityModel" "order" "[I") := tbk4 (j := 199) rfl
set_option maxRecDepth 100000 in
theorem tb_920 : tables_1[920]? = some (Jvm.Cond.soleField "SortUtilityModel" "order") := tbk4 (j := 200) rfl
set_option maxRecDepth 100000 in
theorem tb_921 : tables_1[921]? = some (Jvm.Cond.laysFinal "SortUtilityModel" "SortUtilityModel" "out" "[I") := tbk4 (j := 201) rfl
set_option maxRecDepth 100000 in
theorem tb_922 : tables_1[922]? = some (Jvm.Cond.soleField "SortUtilityModel" "out") := tbk4 (j := 202) rfl
set_option maxRecDepth 100000 in
theorem tb_923 : tables_1[923]? = some (Jvm.Cond.laysFinal "SortUtilityModel" "SortUtilityModel" "outLengths" "[I") := tbk4 (j := 203) rfl
set_option maxRecDepth 100000 in
theorem tb_924 : tables_1[924]? = some (Jvm.Cond.soleField "SortUtilityModel" "outLengths") := tbk4 (j := 204) rfl
set_option maxRecDepth 100000 in
theorem tb_925 : tables_1[925]? = some (Jvm.Cond.laysFinal "SortUtilityModel" "SortUtilityModel" "outs" "[I") := tbk4 (j := 205) rfl
set_option maxRecDepth 100000 in
theorem tb_926 : tables_1[926]? = some (Jvm.Cond.soleField "SortUtilityModel" "outs") := tbk4 (j := 206) rfl
set_option maxRecDepth 100000 in
theorem tb_927 : tables_1[927]? = some (Jvm.Cond.laysFinal "SortUtilityModel" "SortUtilityModel" "madeOf" "[I") := tbk4 (j := 207) rfl
set_option maxRecDepth 100000 in
theorem tb_928 : tables_1[928]? = some (Jvm.Cond.soleField "SortUtilityModel" "madeOf") := tbk4 (j := 208) rfl
set_option maxRecDepth 100000 in
theorem tb_929 : tables_1[929]? = some (Jvm.Cond.laysFinal "SortUtilityModel" "SortUtilityModel" "firstOf" "[I") := tbk4 (j := 209) rfl
set_option maxRecDepth 100000 in
theorem tb_930 : tables_1[930]? = some (Jvm.Cond.soleField "SortUtilityModel" "firstOf") := tbk4 (j := 210) rfl
set_option maxRecDepth 100000 in
theorem tb_931 : tables_1[931]? = some (Jvm.Cond.laysFinal "SortUtilityModel" "SortUtilityModel" "lefts" "[I") := tbk4 (j := 211) rfl
set_option maxRecDepth 100000 in
theorem tb_932 : tables_1[932]? = some (Jvm.Cond.soleField "SortUtilityModel" "lefts") := tbk4 (j := 212) rfl
set_option maxRecDepth 100000 in
theorem tb_933 : tables_1[933]? = some (Jvm.Cond.lays "SortUtilityModel" "SortUtilityModel" "left" "I") := tbk4 (j := 213) rfl
set_option maxRecDepth 100000 in
theorem tb_934 : tables_1[934]? = some (Jvm.Cond.soleField "SortUtilityModel" "left") := tbk4 (j := 214) rfl
set_option maxRecDepth 100000 in
theorem tb_935 : tables_1[935]? = some (Jvm.Cond.laysFinal "SortUtilityModel" "SortUtilityModel" "oldWords" "[I") := tbk4 (j := 215) rfl
set_option maxRecDepth 100000 in
theorem tb_936 : tables_1[936]? = some (Jvm.Cond.soleField "SortUtilityModel" "oldWords") := tbk4 (j := 216) rfl
set_option maxRecDepth 100000 in
theorem tb_937 : tables_1[937]? = some (Jvm.Cond.laysFinal "SortUtilityModel" "SortUtilityModel" "oldCounts" "[I") := tbk4 (j := 217) rfl
set_option maxRecDepth 100000 in
theorem tb_938 : tables_1[938]? = some (Jvm.Cond.soleField "SortUtilityModel" "oldCounts") := tbk4 (j := 218) rfl
set_option maxRecDepth 100000 in
theorem tb_939 : tables_1[939]? = some (Jvm.Cond.laysFinal "SortUtilityModel" "SortUtilityModel" "oldLimits" "[I") := tbk4 (j := 219) rfl
set_option maxRecDepth 100000 in
theorem tb_940 : tables_1[940]? = some (Jvm.Cond.soleField "SortUtilityModel" "oldLimits") := tbk4 (j := 220) rfl
set_option maxRecDepth 100000 in
theorem tb_941 : tables_1[941]? = some (Jvm.Cond.laysFinal "SortUtilityModel" "SortUtilityModel" "oldKeys" "[I") := tbk4 (j := 221) rfl
set_option maxRecDepth 100000 in
theorem tb_942 : tables_1[942]? = some (Jvm.Cond.soleField "SortUtilityModel" "oldKeys") := tbk4 (j := 222) rfl
set_option maxRecDepth 100000 in
theorem tb_943 : tables_1[943]? = some (Jvm.Cond.laysFinal "SortUtilityModel" "SortUtilityModel" "oldTests" "[I") := tbk4 (j := 223) rfl
set_option maxRecDepth 100000 in
theorem tb_944 : tables_1[944]? = some (Jvm.Cond.soleField "SortUtilityModel" "oldTests") := tbk4 (j := 224) rfl
set_option maxRecDepth 100000 in
theorem tb_945 : tables_1[945]? = some (Jvm.Cond.laysFinal "SortUtilityModel" "SortUtilityModel" "oldSums" "[I") := tbk4 (j := 225) rfl
set_option maxRecDepth 100000 in
theorem tb_946 : tables_1[946]? = some (Jvm.Cond.soleField "SortUtilityModel" "oldSums") := tbk4 (j := 226) rfl
set_option maxRecDepth 100000 in
theorem tb_947 : tables_1[947]? = some (Jvm.Cond.laysFinal "SortUtilityModel" "SortUtilityModel" "oldPieces" "[I") := tbk4 (j := 227) rfl
set_option maxRecDepth 100000 in
theorem tb_948 : tables_1[948]? = some (Jvm.Cond.soleField "SortUtilityModel" "oldPieces") := tbk4 (j := 228) rfl
set_option maxRecDepth 100000 in
theorem tb_949 : tables_1[949]? = some (Jvm.Cond.laysFinal "SortUtilityModel" "SortUtilityModel" "oldLetters" "[I") := tbk4 (j := 229) rfl
set_option maxRecDepth 100000 in
theorem tb_950 : tables_1[950]? = some (Jvm.Cond.soleField "SortUtilityModel" "oldLetters") := tbk4 (j := 230) rfl
set_option maxRecDepth 100000 in
theorem tb_951 : tables_1[951]? = some (Jvm.Cond.laysFinal "SortUtilityModel" "SortUtilityModel" "total" "[J") := tbk4 (j := 231) rfl
set_option maxRecDepth 100000 in
theorem tb_952 : tables_1[952]? = some (Jvm.Cond.soleField "SortUtilityModel" "total") := tbk4 (j := 232) rfl
set_option maxRecDepth 100000 in
theorem tb_953 : tables_1[953]? = some (Jvm.Cond.laysFinal "SortUtilityModel" "SortUtilityModel" "one" "[I") := tbk4 (j := 233) rfl
set_option maxRecDepth 100000 in
theorem tb_954 : tables_1[954]? = some (Jvm.Cond.soleField "SortUtilityModel" "one") := tbk4 (j := 234) rfl
set_option maxRecDepth 100000 in
theorem tb_955 : tables_1[955]? = some (Jvm.Cond.laysFinal "SortUtilityModel" "SortUtilityModel" "oneLengths" "[I") := tbk4 (j := 235) rfl
set_option maxRecDepth 100000 in
theorem tb_956 : tables_1[956]? = some (Jvm.Cond.soleField "SortUtilityModel" "oneLengths") := tbk4 (j := 236) rfl
set_option maxRecDepth 100000 in
theorem tb_957 : tables_1[957]? = some (Jvm.Cond.superclass "SortUtilityModel" "java/lang/Object") := tbk4 (j := 237) rfl
set_option maxRecDepth 100000 in
theorem tb_958 : tables_1[958]? = some (Jvm.Cond.methodLink "SortUtilityLaw" (40 : Nat) ({ cls := "SortUtilityModel", name := "thrown", desc := "()I" } : Jvm.MethodName)) := tbk4 (j := 238) rfl
set_option maxRecDepth 100000 in
theorem tb_959 : tables_1[959]? = some (Jvm.Cond.instanceMethod ({ cls := "SortUtilityModel", name := "thrown", desc := "()I" } : Jvm.MethodName)) := tbk4 (j := 239) rfl
set_option maxRecDepth 100000 in
theorem tb_960 : tables_1[960]? = some (Jvm.Cond.selects "SortUtilityModel" ({ cls := "SortUtilityModel", name := "thrown", desc := "()I" } : Jvm.MethodName) ({ cls := "SortUtilityModel", name := "thrown", desc := "()I" } : Jvm.MethodName)) := tbk5 (j := 0) rfl
set_option maxRecDepth 100000 in
theorem tb_961 : tables_1[961]? = some (Jvm.Cond.code ({ cls := "SortUtilityModel", name := "thrown", desc := "()I" } : Jvm.MethodName) prog_12_method_2_code (1 : Nat) (Option.some Jvm.ClassFile.FieldType.int)) := tbk5 (j := 1) rfl
set_option maxRecDepth 100000 in
theorem tb_962 : tables_1[962]? = some (Jvm.Cond.methodLink "SortUtilityLaw" (23 : Nat) ({ cls := "SortUtilityModel", name := "sign", desc := "(I)V" } : Jvm.MethodName)) := tbk5 (j := 2) rfl
set_option maxRecDepth 100000 in
theorem tb_963 : tables_1[963]? = some (Jvm.Cond.instanceMethod ({ cls := "SortUtilityModel", name := "sign", desc := "(I)V" } : Jvm.MethodName)) := tbk5 (j := 3) rfl
set_option maxRecDepth 100000 in
theorem tb_964 : tables_1[964]? = some (Jvm.Cond.selects "SortUtilityModel" ({ cls := "SortUtilityModel", name := "sign", desc := "(I)V" } : Jvm.MethodName) ({ cls := "SortUtilityModel", name := "sign", desc := "(I)V" } : Jvm.MethodName)) := tbk5 (j := 4) rfl
set_option maxRecDepth 100000 in
theorem tb_965 : tables_1[965]? = some (Jvm.Cond.code ({ cls := "SortUtilityModel", name := "sign", desc := "(I)V" } : Jvm.MethodName) prog_12_method_3_code (2 : Nat) (Option.none : Option Jvm.ClassFile.FieldType)) := tbk5 (j := 5) rfl
set_option maxRecDepth 100000 in
theorem tb_966 : tables_1[966]? = some (Jvm.Cond.methodLink "SortUtilityLaw" (28 : Nat) ({ cls := "SortUtilityModel", name := "read", desc := "()I" } : Jvm.MethodName)) := tbk5 (j := 6) rfl
set_option maxRecDepth 100000 in
theorem tb_967 : tables_1[967]? = some (Jvm.Cond.instanceMethod ({ cls := "SortUtilityModel", name := "read", desc := "()I" } : Jvm.MethodName)) := tbk5 (j := 7) rfl
set_option maxRecDepth 100000 in
theorem tb_968 : tables_1[968]? = some (Jvm.Cond.selects "SortUtilityModel" ({ cls := "SortUtilityModel", name := "read", desc := "()I" } : Jvm.MethodName) ({ cls := "SortUtilityModel", name := "read", desc := "()I" } : Jvm.MethodName)) := tbk5 (j := 8) rfl
set_option maxRecDepth 100000 in
theorem tb_969 : tables_1[969]? = some (Jvm.Cond.code ({ cls := "SortUtilityModel", name := "read", desc := "()I" } : Jvm.MethodName) prog_12_method_20_code (3 : Nat) (Option.some Jvm.ClassFile.FieldType.int)) := tbk5 (j := 9) rfl
set_option maxRecDepth 100000 in
theorem tb_970 : tables_1[970]? = some (Jvm.Cond.methodLink "SortUtilityModel" (178 : Nat) ({ cls := "SortUtilityModel", name := "keepOld", desc := "()V" } : Jvm.MethodName)) := tbk5 (j := 10) rfl
set_option maxRecDepth 100000 in
theorem tb_971 : tables_1[971]? = some (Jvm.Cond.privateMethod ({ cls := "SortUtilityModel", name := "keepOld", desc := "()V" } : Jvm.MethodName)) := tbk5 (j := 11) rfl
set_option maxRecDepth 100000 in
theorem tb_972 : tables_1[972]? = some (Jvm.Cond.instanceMethod ({ cls := "SortUtilityModel", name := "keepOld", desc := "()V" } : Jvm.MethodName)) := tbk5 (j := 12) rfl
set_option maxRecDepth 100000 in
theorem tb_973 : tables_1[973]? = some (Jvm.Cond.code ({ cls := "SortUtilityModel", name := "keepOld", desc := "()V" } : Jvm.MethodName) prog_12_method_22_code (1 : Nat) (Option.none : Option Jvm.ClassFile.FieldType)) := tbk5 (j := 13) rfl
set_option maxRecDepth 100000 in
theorem tb_974 : tables_1[974]? = some (Jvm.Cond.methodLink "SortUtilityModel" (187 : Nat) ({ cls := "SortUtilityModel", name := "move", desc := "([I[II)V" } : Jvm.MethodName)) := tbk5 (j := 14) rfl
set_option maxRecDepth 100000 in
theorem tb_975 : tables_1[975]? = some (Jvm.Cond.static ({ cls := "SortUtilityModel", name := "move", desc := "([I[II)V" } : Jvm.MethodName)) := tbk5 (j := 15) rfl
set_option maxRecDepth 100000 in
theorem tb_976 : tables_1[976]? = some (Jvm.Cond.code ({ cls := "SortUtilityModel", name := "move", desc := "([I[II)V" } : Jvm.MethodName) prog_12_method_21_code (4 : Nat) (Option.none : Option Jvm.ClassFile.FieldType)) := tbk5 (j := 16) rfl
set_option maxRecDepth 100000 in
theorem tb_977 : tables_1[977]? = some (Jvm.Cond.methodLink "SortUtilityModel" (128 : Nat) ({ cls := "SortUtilityModel", name := "sign", desc := "()I" } : Jvm.MethodName)) := tbk5 (j := 17) rfl
set_option maxRecDepth 100000 in
theorem tb_978 : tables_1[978]? = some (Jvm.Cond.privateMethod ({ cls := "SortUtilityModel", name := "sign", desc := "()I" } : Jvm.MethodName)) := tbk5 (j := 18) rfl
set_option maxRecDepth 100000 in
theorem tb_979 : tables_1[979]? = some (Jvm.Cond.instanceMethod ({ cls := "SortUtilityModel", name := "sign", desc := "()I" } : Jvm.MethodName)) := tbk5 (j := 19) rfl
set_option maxRecDepth 100000 in
theorem tb_980 : tables_1[980]? = some (Jvm.Cond.code ({ cls := "SortUtilityModel", name := "sign", desc := "()I" } : Jvm.MethodName) prog_12_method_5_code (1 : Nat) (Option.some Jvm.ClassFile.FieldType.int)) := tbk5 (j := 20) rfl
set_option maxRecDepth 100000 in
theorem tb_981 : tables_1[981]? = some (Jvm.Cond.methodLink "SortUtilityModel" (124 : Nat) ({ cls := "SortUtilityModel", name := "at", desc := "(I)I" } : Jvm.MethodName)) := tbk5 (j := 21) rfl
set_option maxRecDepth 100000 in
theorem tb_982 : tables_1[982]? = some (Jvm.Cond.privateMethod ({ cls := "SortUtilityModel", name := "at", desc := "(I)I" } : Jvm.MethodName)) := tbk5 (j := 22) rfl
set_option maxRecDepth 100000 in
theorem tb_983 : tables_1[983]? = some (Jvm.Cond.instanceMethod ({ cls := "SortUtilityModel", name := "at", desc := "(I)I" } : Jvm.MethodName)) := tbk5 (j := 23) rfl
set_option maxRecDepth 100000 in
theorem tb_984 : tables_1[984]? = some (Jvm.Cond.code ({ cls := "SortUtilityModel", name := "at", desc := "(I)I" } : Jvm.MethodName) prog_12_method_4_code (2 : Nat) (Option.some Jvm.ClassFile.FieldType.int)) := tbk5 (j := 24) rfl
set_option maxRecDepth 100000 in
theorem tb_985 : tables_1[985]? = some (Jvm.Cond.methodLink "SortUtilityModel" (181 : Nat) ({ cls := "SortUtilityModel", name := "statement", desc := "()Z" } : Jvm.MethodName)) := tbk5 (j := 25) rfl
set_option maxRecDepth 100000 in
theorem tb_986 : tables_1[986]? = some (Jvm.Cond.privateMethod ({ cls := "SortUtilityModel", name := "statement", desc := "()Z" } : Jvm.MethodName)) := tbk5 (j := 26) rfl
set_option maxRecDepth 100000 in
theorem tb_987 : tables_1[987]? = some (Jvm.Cond.instanceMethod ({ cls := "SortUtilityModel", name := "statement", desc := "()Z" } : Jvm.MethodName)) := tbk5 (j := 27) rfl
set_option maxRecDepth 100000 in
theorem tb_988 : tables_1[988]? = some (Jvm.Cond.code ({ cls := "SortUtilityModel", name := "statement", desc := "()Z" } : Jvm.MethodName) prog_12_method_18_code (5 : Nat) (Option.some Jvm.ClassFile.FieldType.boolean)) := tbk5 (j := 28) rfl
set_option maxRecDepth 100000 in
theorem tb_989 : tables_1[989]? = some (Jvm.Cond.methodLink "SortUtilityModel" (152 : Nat) ({ cls := "SortUtilityModel", name := "isSmall", desc := "(I)Z" } : Jvm.MethodName)) := tbk5 (j := 29) rfl
set_option maxRecDepth 100000 in
theorem tb_990 : tables_1[990]? = some (Jvm.Cond.privateMethod ({ cls := "SortUtilityModel", name := "isSmall", desc := "(I)Z" } : Jvm.MethodName)) := tbk5 (j := 30) rfl
set_option maxRecDepth 100000 in
theorem tb_991 : tables_1[991]? = some (Jvm.Cond.instanceMethod ({ cls := "SortUtilityModel", name := "isSmall", desc := "(I)Z" } : Jvm.MethodName)) := tbk5 (j := 31) rfl
set_option maxRecDepth 100000 in
theorem tb_992 : tables_1[992]? = some (Jvm.Cond.code ({ cls := "SortUtilityModel", name := "isSmall", desc := "(I)Z" } : Jvm.MethodName) prog_12_method_6_code (2 : Nat) (Option.some Jvm.ClassFile.FieldType.boolean)) := tbk5 (j := 32) rfl
set_option maxRecDepth 100000 in
theorem tb_993 : tables_1[993]? = some (Jvm.Cond.methodLink "SortUtilityModel" (162 : Nat) ({ cls := "SortUtilityModel", name := "word", desc := "()I" } : Jvm.MethodName)) := tbk5 (j := 33) rfl
set_option maxRecDepth 100000 in
theorem tb_994 : tables_1[994]? = some (Jvm.Cond.privateMethod ({ cls := "SortUtilityModel", name := "word", desc := "()I" } : Jvm.MethodName)) := tbk5 (j := 34) rfl
set_option maxRecDepth 100000 in
theorem tb_995 : tables_1[995]? = some (Jvm.Cond.instanceMethod ({ cls := "SortUtilityModel", name := "word", desc := "()I" } : Jvm.MethodName)) := tbk5 (j := 35) rfl
set_option maxRecDepth 100000 in
theorem tb_996 : tables_1[996]? = some (Jvm.Cond.code ({ cls := "SortUtilityModel", name := "word", desc := "()I" } : Jvm.MethodName) prog_12_method_16_code (3 : Nat) (Option.some Jvm.ClassFile.FieldType.int)) := tbk5 (j := 36) rfl
set_option maxRecDepth 100000 in
theorem tb_997 : tables_1[997]? = some (Jvm.Cond.methodLink "SortUtilityModel" (155 : Nat) ({ cls := "SortUtilityModel", name := "isInclude", desc := "(I)Z" } : Jvm.MethodName)) := tbk5 (j := 37) rfl
set_option maxRecDepth 100000 in
theorem tb_998 : tables_1[998]? = some (Jvm.Cond.privateMethod ({ cls := "SortUtilityModel", name := "isInclude", desc := "(I)Z" } : Jvm.MethodName)) := tbk5 (j := 38) rfl
set_option maxRecDepth 100000 in
theorem tb_999 : tables_1[999]? = some (Jvm.Cond.instanceMethod ({ cls := "SortUtilityModel", name := "isInclude", desc := "(I)Z" } : Jvm.MethodName)) := tbk5 (j := 39) rfl
set_option maxRecDepth 100000 in
theorem tb_1000 : tables_1[1000]? = some (Jvm.Cond.code ({ cls := "SortUtilityModel", name := "isInclude", desc := "(I)Z" } : Jvm.MethodName) prog_12_method_17_code (2 : Nat) (Option.some Jvm.ClassFile.FieldType.boolean)) := tbk5 (j := 40) rfl
set_option maxRecDepth 100000 in
theorem tb_1001 : tables_1[1001]? = some (Jvm.Cond.constant "SortUtilityModel" (158 : Nat) (385418 : Int32)) := tbk5 (j := 41) rfl
set_option maxRecDepth 100000 in
theorem tb_1002 : tables_1[1002]? = some (Jvm.Cond.constant "SortUtilityModel" (159 : Nat) (304985 : Int32)) := tbk5 (j := 42) rfl
set_option maxRecDepth 100000 in
theorem tb_1003 : tables_1[1003]? = some (Jvm.Cond.constant "SortUtilityModel" (160 : Nat) (382255 : Int32)) := tbk5 (j := 43) rfl
set_option maxRecDepth 100000 in
theorem tb_1004 : tables_1[1004]? = some (Jvm.Cond.constant "SortUtilityModel" (161 : Nat) (388978 : Int32)) := tbk5 (j := 44) rfl
set_option maxRecDepth 100000 in
theorem tb_1005 : tables_1[1005]? = some (Jvm.Cond.methodLink "SortUtilityModel" (165 : Nat) ({ cls := "SortUtilityModel", name := "key", desc := "()Z" } : Jvm.MethodName)) := tbk5 (j := 45) rfl
set_option maxRecDepth 100000 in
theorem tb_1006 : tables_1[1006]? = some (Jvm.Cond.privateMethod ({ cls := "SortUtilityModel", name := "key", desc := "()Z" } : Jvm.MethodName)) := tbk5 (j := 46) rfl
set_option maxRecDepth 100000 in
theorem tb_1007 : tables_1[1007]? = some (Jvm.Cond.instanceMethod ({ cls := "SortUtilityModel", name := "key", desc := "()Z" } : Jvm.MethodName)) := tbk5 (j := 47) rfl
set_option maxRecDepth 100000 in
theorem tb_1008 : tables_1[1008]? = some (Jvm.Cond.code ({ cls := "SortUtilityModel", name := "key", desc := "()Z" } : Jvm.MethodName) prog_12_method_12_code (4 : Nat) (Option.some Jvm.ClassFile.FieldType.boolean)) := tbk5 (j := 48) rfl
set_option maxRecDepth 100000 in
theorem tb_1009 : tables_1[1009]? = some (Jvm.Cond.methodLink "SortUtilityModel" (143 : Nat) ({ cls := "SortUtilityModel", name := "field", desc := "([III)Z" } : Jvm.MethodName)) := tbk5 (j := 49) rfl
set_option maxRecDepth 100000 in
theorem tb_1010 : tables_1[1010]? = some (Jvm.Cond.privateMethod ({ cls := "SortUtilityModel", name := "field", desc := "([III)Z" } : Jvm.MethodName)) := tbk5 (j := 50) rfl
set_option maxRecDepth 100000 in
theorem tb_1011 : tables_1[1011]? = some (Jvm.Cond.instanceMethod ({ cls := "SortUtilityModel", name := "field", desc := "([III)Z" } : Jvm.MethodName)) := tbk5 (j := 51) rfl
set_option maxRecDepth 100000 in
theorem tb_1012 : tables_1[1012]? = some (Jvm.Cond.code ({ cls := "SortUtilityModel", name := "field", desc := "([III)Z" } : Jvm.MethodName) prog_12_method_10_code (6 : Nat) (Option.some Jvm.ClassFile.FieldType.boolean)) := tbk5 (j := 52) rfl
set_option maxRecDepth 100000 in
theorem tb_1013 : tables_1[1013]? = some (Jvm.Cond.methodLink "SortUtilityModel" (136 : Nat) ({ cls := "SortUtilityModel", name := "number", desc := "(II)I" } : Jvm.MethodName)) := tbk5 (j := 53) rfl
set_option maxRecDepth 100000 in
theorem tb_1014 : tables_1[1014]? = some (Jvm.Cond.privateMethod ({ cls := "SortUtilityModel", name := "number", desc := "(II)I" } : Jvm.MethodName)) := tbk5 (j := 54) rfl
set_option maxRecDepth 100000 in
theorem tb_1015 : tables_1[1015]? = some (Jvm.Cond.instanceMethod ({ cls := "SortUtilityModel", name := "number", desc := "(II)I" } : Jvm.MethodName)) := tbk5 (j := 55) rfl
set_option maxRecDepth 100000 in
theorem tb_1016 : tables_1[1016]? = some (Jvm.Cond.code ({ cls := "SortUtilityModel", name := "number", desc := "(II)I" } : Jvm.MethodName) prog_12_method_8_code (5 : Nat) (Option.some Jvm.ClassFile.FieldType.int)) := tbk5 (j := 56) rfl
set_option maxRecDepth 100000 in
theorem tb_1017 : tables_1[1017]? = some (Jvm.Cond.methodLink "SortUtilityModel" (132 : Nat) ({ cls := "SortUtilityModel", name := "isDigit", desc := "(I)Z" } : Jvm.MethodName)) := tbk5 (j := 57) rfl
set_option maxRecDepth 100000 in
theorem tb_1018 : tables_1[1018]? = some (Jvm.Cond.privateMethod ({ cls := "SortUtilityModel", name := "isDigit", desc := "(I)Z" } : Jvm.MethodName)) := tbk5 (j := 58) rfl
set_option maxRecDepth 100000 in
theorem tb_1019 : tables_1[1019]? = some (Jvm.Cond.instanceMethod ({ cls := "SortUtilityModel", name := "isDigit", desc := "(I)Z" } : Jvm.MethodName)) := tbk5 (j := 59) rfl
set_option maxRecDepth 100000 in
theorem tb_1020 : tables_1[1020]? = some (Jvm.Cond.code ({ cls := "SortUtilityModel", name := "isDigit", desc := "(I)Z" } : Jvm.MethodName) prog_12_method_7_code (2 : Nat) (Option.some Jvm.ClassFile.FieldType.boolean)) := tbk5 (j := 60) rfl
set_option maxRecDepth 100000 in
theorem tb_1021 : tables_1[1021]? = some (Jvm.Cond.methodLink "SortUtilityModel" (140 : Nat) ({ cls := "SortUtilityModel", name := "meets", desc := "(I)Z" } : Jvm.MethodName)) := tbk5 (j := 61) rfl
set_option maxRecDepth 100000 in
theorem tb_1022 : tables_1[1022]? = some (Jvm.Cond.privateMethod ({ cls := "SortUtilityModel", name := "meets", desc := "(I)Z" } : Jvm.MethodName)) := tbk5 (j := 62) rfl
set_option maxRecDepth 100000 in
theorem tb_1023 : tables_1[1023]? = some (Jvm.Cond.instanceMethod ({ cls := "SortUtilityModel", name := "meets", desc := "(I)Z" } : Jvm.MethodName)) := tbk5 (j := 63) rfl
set_option maxRecDepth 100000 in
theorem tb_1024 : tables_1[1024]? = some (Jvm.Cond.code ({ cls := "SortUtilityModel", name := "meets", desc := "(I)Z" } : Jvm.MethodName) prog_12_method_9_code (2 : Nat) (Option.some Jvm.ClassFile.FieldType.boolean)) := tbk5 (j := 64) rfl
set_option maxRecDepth 100000 in
theorem tb_1025 : tables_1[1025]? = some (Jvm.Cond.methodLink "SortUtilityModel" (169 : Nat) ({ cls := "SortUtilityModel", name := "testing", desc := "()Z" } : Jvm.MethodName)) := tbk5 (j := 65) rfl
set_option maxRecDepth 100000 in
theorem tb_1026 : tables_1[1026]? = some (Jvm.Cond.privateMethod ({ cls := "SortUtilityModel", name := "testing", desc := "()Z" } : Jvm.MethodName)) := tbk5 (j := 66) rfl
set_option maxRecDepth 100000 in
theorem tb_1027 : tables_1[1027]? = some (Jvm.Cond.instanceMethod ({ cls := "SortUtilityModel", name := "testing", desc := "()Z" } : Jvm.MethodName)) := tbk5 (j := 67) rfl
set_option maxRecDepth 100000 in
theorem tb_1028 : tables_1[1028]? = some (Jvm.Cond.code ({ cls := "SortUtilityModel", name := "testing", desc := "()Z" } : Jvm.MethodName) prog_12_method_14_code (2 : Nat) (Option.some Jvm.ClassFile.FieldType.boolean)) := tbk5 (j := 68) rfl
set_option maxRecDepth 100000 in
theorem tb_1029 : tables_1[1029]? = some (Jvm.Cond.methodLink "SortUtilityModel" (149 : Nat) ({ cls := "SortUtilityModel", name := "test", desc := "(I)Z" } : Jvm.MethodName)) := tbk5 (j := 69) rfl
set_option maxRecDepth 100000 in
theorem tb_1030 : tables_1[1030]? = some (Jvm.Cond.privateMethod ({ cls := "SortUtilityModel", name := "test", desc := "(I)Z" } : Jvm.MethodName)) := tbk5 (j := 70) rfl
set_option maxRecDepth 100000 in
theorem tb_1031 : tables_1[1031]? = some (Jvm.Cond.instanceMethod ({ cls := "SortUtilityModel", name := "test", desc := "(I)Z" } : Jvm.MethodName)) := tbk5 (j := 71) rfl
set_option maxRecDepth 100000 in
theorem tb_1032 : tables_1[1032]? = some (Jvm.Cond.code ({ cls := "SortUtilityModel", name := "test", desc := "(I)Z" } : Jvm.MethodName) prog_12_method_13_code (5 : Nat) (Option.some Jvm.ClassFile.FieldType.boolean)) := tbk5 (j := 72) rfl
set_option maxRecDepth 100000 in
theorem tb_1033 : tables_1[1033]? = some (Jvm.Cond.methodLink "SortUtilityModel" (147 : Nat) ({ cls := "SortUtilityModel", name := "letters", desc := "(I)I" } : Jvm.MethodName)) := tbk5 (j := 73) rfl
set_option maxRecDepth 100000 in
theorem tb_1034 : tables_1[1034]? = some (Jvm.Cond.privateMethod ({ cls := "SortUtilityModel", name := "letters", desc := "(I)I" } : Jvm.MethodName)) := tbk5 (j := 74) rfl
set_option maxRecDepth 100000 in
theorem tb_1035 : tables_1[1035]? = some (Jvm.Cond.instanceMethod ({ cls := "SortUtilityModel", name := "letters", desc := "(I)I" } : Jvm.MethodName)) := tbk5 (j := 75) rfl
set_option maxRecDepth 100000 in
theorem tb_1036 : tables_1[1036]? = some (Jvm.Cond.code ({ cls := "SortUtilityModel", name := "letters", desc := "(I)I" } : Jvm.MethodName) prog_12_method_11_code (3 : Nat) (Option.some Jvm.ClassFile.FieldType.int)) := tbk5 (j := 76) rfl
set_option maxRecDepth 100000 in
theorem tb_1037 : tables_1[1037]? = some (Jvm.Cond.methodLink "SortUtilityModel" (172 : Nat) ({ cls := "SortUtilityModel", name := "sumField", desc := "()Z" } : Jvm.MethodName)) := tbk5 (j := 77) rfl
set_option maxRecDepth 100000 in
theorem tb_1038 : tables_1[1038]? = some (Jvm.Cond.privateMethod ({ cls := "SortUtilityModel", name := "sumField", desc := "()Z" } : Jvm.MethodName)) := tbk5 (j := 78) rfl
set_option maxRecDepth 100000 in
theorem tb_1039 : tables_1[1039]? = some (Jvm.Cond.instanceMethod ({ cls := "SortUtilityModel", name := "sumField", desc := "()Z" } : Jvm.MethodName)) := tbk5 (j := 79) rfl
set_option maxRecDepth 100000 in
theorem tb_1040 : tables_1[1040]? = some (Jvm.Cond.code ({ cls := "SortUtilityModel", name := "sumField", desc := "()Z" } : Jvm.MethodName) prog_12_method_19_code (1 : Nat) (Option.some Jvm.ClassFile.FieldType.boolean)) := tbk5 (j := 80) rfl
set_option maxRecDepth 100000 in
theorem tb_1041 : tables_1[1041]? = some (Jvm.Cond.methodLink "SortUtilityModel" (175 : Nat) ({ cls := "SortUtilityModel", name := "piece", desc := "()Z" } : Jvm.MethodName)) := tbk5 (j := 81) rfl
set_option maxRecDepth 100000 in
theorem tb_1042 : tables_1[1042]? = some (Jvm.Cond.privateMethod ({ cls := "SortUtilityModel", name := "piece", desc := "()Z" } : Jvm.MethodName)) := tbk5 (j := 82) rfl
set_option maxRecDepth 100000 in
theorem tb_1043 : tables_1[1043]? = some (Jvm.Cond.instanceMethod ({ cls := "SortUtilityModel", name := "piece", desc := "()Z" } : Jvm.MethodName)) := tbk5 (j := 83) rfl
set_option maxRecDepth 100000 in
theorem tb_1044 : tables_1[1044]? = some (Jvm.Cond.code ({ cls := "SortUtilityModel", name := "piece", desc := "()Z" } : Jvm.MethodName) prog_12_method_15_code (3 : Nat) (Option.some Jvm.ClassFile.FieldType.boolean)) := tbk5 (j := 84) rfl
set_option maxRecDepth 100000 in
theorem tb_1045 : tables_1[1045]? = some (Jvm.Cond.methodLink "SortUtilityModel" (184 : Nat) ({ cls := "SortUtilityModel", name := "takeOld", desc := "()V" } : Jvm.MethodName)) := tbk5 (j := 85) rfl
set_option maxRecDepth 100000 in
theorem tb_1046 : tables_1[1046]? = some (Jvm.Cond.privateMethod ({ cls := "SortUtilityModel", name := "takeOld", desc := "()V" } : Jvm.MethodName)) := tbk5 (j := 86) rfl
set_option maxRecDepth 100000 in
theorem tb_1047 : tables_1[1047]? = some (Jvm.Cond.instanceMethod ({ cls := "SortUtilityModel", name := "takeOld", desc := "()V" } : Jvm.MethodName)) := tbk5 (j := 87) rfl
set_option maxRecDepth 100000 in
theorem tb_1048 : tables_1[1048]? = some (Jvm.Cond.code ({ cls := "SortUtilityModel", name := "takeOld", desc := "()V" } : Jvm.MethodName) prog_12_method_23_code (1 : Nat) (Option.none : Option Jvm.ClassFile.FieldType)) := tbk5 (j := 88) rfl
set_option maxRecDepth 100000 in
theorem tb_1049 : tables_1[1049]? = some (Jvm.Cond.methodLink "SortUtilityLaw" (33 : Nat) ({ cls := "SortUtilityModel", name := "record", desc := "(I)I" } : Jvm.MethodName)) := tbk5 (j := 89) rfl
set_option maxRecDepth 100000 in
theorem tb_1050 : tables_1[1050]? = some (Jvm.Cond.instanceMethod ({ cls := "SortUtilityModel", name := "record", desc := "(I)I" } : Jvm.MethodName)) := tbk5 (j := 90) rfl
set_option maxRecDepth 100000 in
theorem tb_1051 : tables_1[1051]? = some (Jvm.Cond.selects "SortUtilityModel" ({ cls := "SortUtilityModel", name := "record", desc := "(I)I" } : Jvm.MethodName) ({ cls := "SortUtilityModel", name := "record", desc := "(I)I" } : Jvm.MethodName)) := tbk5 (j := 91) rfl
set_option maxRecDepth 100000 in
theorem tb_1052 : tables_1[1052]? = some (Jvm.Cond.code ({ cls := "SortUtilityModel", name := "record", desc := "(I)I" } : Jvm.MethodName) prog_12_method_24_code (2 : Nat) (Option.some Jvm.ClassFile.FieldType.int)) := tbk5 (j := 92) rfl
set_option maxRecDepth 100000 in
theorem tb_1053 : tables_1[1053]? = some (Jvm.Cond.methodLink "SortUtilityLaw" (39 : Nat) ({ cls := "SortUtilityModel", name := "octet", desc := "(IIB)V" } : Jvm.MethodName)) := tbk5 (j := 93) rfl
set_option maxRecDepth 100000 in
theorem tb_1054 : tables_1[1054]? = some (Jvm.Cond.instanceMethod ({ cls := "SortUtilityModel", name := "octet", desc := "(IIB)V" } : Jvm.MethodName)) := tbk5 (j := 94) rfl
set_option maxRecDepth 100000 in
theorem tb_1055 : tables_1[1055]? = some (Jvm.Cond.selects "SortUtilityModel" ({ cls := "SortUtilityModel", name := "octet", desc := "(IIB)V" } : Jvm.MethodName) ({ cls := "SortUtilityModel", name := "octet", desc := "(IIB)V" } : Jvm.MethodName)) := tbk5 (j := 95) rfl
set_option maxRecDepth 100000 in
theorem tb_1056 : tables_1[1056]? = some (Jvm.Cond.code ({ cls := "SortUtilityModel", name := "octet", desc := "(IIB)V" } : Jvm.MethodName) prog_12_method_25_code (6 : Nat) (Option.none : Option Jvm.ClassFile.FieldType)) := tbk5 (j := 96) rfl
set_option maxRecDepth 100000 in
theorem tb_1057 : tables_1[1057]? = some (Jvm.Cond.methodLink "SortUtilityLaw" (46 : Nat) ({ cls := "SortUtilityModel", name := "run", desc := "()I" } : Jvm.MethodName)) := tbk5 (j := 97) rfl
set_option maxRecDepth 100000 in
theorem tb_1058 : tables_1[1058]? = some (Jvm.Cond.instanceMethod ({ cls := "SortUtilityModel", name := "run", desc := "()I" } : Jvm.MethodName)) := tbk5 (j := 98) rfl
set_option maxRecDepth 100000 in
theorem tb_1059 : tables_1[1059]? = some (Jvm.Cond.selects "SortUtilityModel" ({ cls := "SortUtilityModel", name := "run", desc := "()I" } : Jvm.MethodName) ({ cls := "SortUtilityModel", name := "run", desc := "()I" } : Jvm.MethodName)) := tbk5 (j := 99) rfl
set_option maxRecDepth 100000 in
theorem tb_1060 : tables_1[1060]? = some (Jvm.Cond.code ({ cls := "SortUtilityModel", name := "run", desc := "()I" } : Jvm.MethodName) prog_12_method_38_code (8 : Nat) (Option.some Jvm.ClassFile.FieldType.int)) := tbk5 (j := 100) rfl
set_option maxRecDepth 100000 in
theorem tb_1061 : tables_1[1061]? = some (Jvm.Cond.methodLink "SortUtilityModel" (236 : Nat) ({ cls := "SortUtilityModel", name := "comes", desc := "(I)Z" } : Jvm.MethodName)) := tbk5 (j := 101) rfl
set_option maxRecDepth 100000 in
theorem tb_1062 : tables_1[1062]? = some (Jvm.Cond.privateMethod ({ cls := "SortUtilityModel", name := "comes", desc := "(I)Z" } : Jvm.MethodName)) := tbk5 (j := 102) rfl
set_option maxRecDepth 100000 in
theorem tb_1063 : tables_1[1063]? = some (Jvm.Cond.instanceMethod ({ cls := "SortUtilityModel", name := "comes", desc := "(I)Z" } : Jvm.MethodName)) := tbk5 (j := 103) rfl
set_option maxRecDepth 100000 in
theorem tb_1064 : tables_1[1064]? = some (Jvm.Cond.code ({ cls := "SortUtilityModel", name := "comes", desc := "(I)Z" } : Jvm.MethodName) prog_12_method_32_code (4 : Nat) (Option.some Jvm.ClassFile.FieldType.boolean)) := tbk5 (j := 104) rfl
set_option maxRecDepth 100000 in
theorem tb_1065 : tables_1[1065]? = some (Jvm.Cond.methodLink "SortUtilityModel" (207 : Nat) ({ cls := "SortUtilityModel", name := "holds", desc := "(II)Z" } : Jvm.MethodName)) := tbk5 (j := 105) rfl
set_option maxRecDepth 100000 in
theorem tb_1066 : tables_1[1066]? = some (Jvm.Cond.privateMethod ({ cls := "SortUtilityModel", name := "holds", desc := "(II)Z" } : Jvm.MethodName)) := tbk5 (j := 106) rfl
set_option maxRecDepth 100000 in
theorem tb_1067 : tables_1[1067]? = some (Jvm.Cond.instanceMethod ({ cls := "SortUtilityModel", name := "holds", desc := "(II)Z" } : Jvm.MethodName)) := tbk5 (j := 107) rfl
set_option maxRecDepth 100000 in
theorem tb_1068 : tables_1[1068]? = some (Jvm.Cond.code ({ cls := "SortUtilityModel", name := "holds", desc := "(II)Z" } : Jvm.MethodName) prog_12_method_31_code (9 : Nat) (Option.some Jvm.ClassFile.FieldType.boolean)) := tbk5 (j := 108) rfl
set_option maxRecDepth 100000 in
theorem tb_1069 : tables_1[1069]? = some (Jvm.Cond.methodLink "SortUtilityModel" (194 : Nat) ({ cls := "SortUtilityModel", name := "byteOf", desc := "([I[III)I" } : Jvm.MethodName)) := tbk5 (j := 109) rfl
set_option maxRecDepth 100000 in
theorem tb_1070 : tables_1[1070]? = some (Jvm.Cond.static ({ cls := "SortUtilityModel", name := "byteOf", desc := "([I[III)I" } : Jvm.MethodName)) := tbk5 (j := 110) rfl
set_option maxRecDepth 100000 in
theorem tb_1071 : tables_1[1071]? = some (Jvm.Cond.code ({ cls := "SortUtilityModel", name := "byteOf", desc := "([I[III)I" } : Jvm.MethodName) prog_12_method_26_code (4 : Nat) (Option.some Jvm.ClassFile.FieldType.int)) := tbk5 (j := 111) rfl
set_option maxRecDepth 100000 in
theorem tb_1072 : tables_1[1072]? = some (Jvm.Cond.methodLink "SortUtilityModel" (228 : Nat) ({ cls := "SortUtilityModel", name := "begin", desc := "(I)V" } : Jvm.MethodName)) := tbk5 (j := 112) rfl
set_option maxRecDepth 100000 in
theorem tb_1073 : tables_1[1073]? = some (Jvm.Cond.privateMethod ({ cls := "SortUtilityModel", name := "begin", desc := "(I)V" } : Jvm.MethodName)) := tbk5 (j := 113) rfl
set_option maxRecDepth 100000 in
theorem tb_1074 : tables_1[1074]? = some (Jvm.Cond.instanceMethod ({ cls := "SortUtilityModel", name := "begin", desc := "(I)V" } : Jvm.MethodName)) := tbk5 (j := 114) rfl
set_option maxRecDepth 100000 in
theorem tb_1075 : tables_1[1075]? = some (Jvm.Cond.code ({ cls := "SortUtilityModel", name := "begin", desc := "(I)V" } : Jvm.MethodName) prog_12_method_34_code (2 : Nat) (Option.none : Option Jvm.ClassFile.FieldType)) := tbk5 (j := 115) rfl
set_option maxRecDepth 100000 in
theorem tb_1076 : tables_1[1076]? = some (Jvm.Cond.methodLink "SortUtilityModel" (232 : Nat) ({ cls := "SortUtilityModel", name := "put", desc := "(II)V" } : Jvm.MethodName)) := tbk5 (j := 116) rfl
set_option maxRecDepth 100000 in
theorem tb_1077 : tables_1[1077]? = some (Jvm.Cond.privateMethod ({ cls := "SortUtilityModel", name := "put", desc := "(II)V" } : Jvm.MethodName)) := tbk5 (j := 117) rfl
set_option maxRecDepth 100000 in
theorem tb_1078 : tables_1[1078]? = some (Jvm.Cond.instanceMethod ({ cls := "SortUtilityModel", name := "put", desc := "(II)V" } : Jvm.MethodName)) := tbk5 (j := 118) rfl
set_option maxRecDepth 100000 in
theorem tb_1079 : tables_1[1079]? = some (Jvm.Cond.code ({ cls := "SortUtilityModel", name := "put", desc := "(II)V" } : Jvm.MethodName) prog_12_method_33_code (5 : Nat) (Option.none : Option Jvm.ClassFile.FieldType)) := tbk5 (j := 119) rfl
set_option maxRecDepth 100000 in
theorem tb_1080 : tables_1[1080]? = some (Jvm.Cond.methodLink "SortUtilityModel" (217 : Nat) ({ cls := "SortUtilityModel", name := "byKeys", desc := "([I[II[I[II)I" } : Jvm.MethodName)) := tbk5 (j := 120) rfl
set_option maxRecDepth 100000 in
theorem tb_1081 : tables_1[1081]? = some (Jvm.Cond.privateMethod ({ cls := "SortUtilityModel", name := "byKeys", desc := "([I[II[I[II)I" } : Jvm.MethodName)) := tbk5 (j := 121) rfl
set_option maxRecDepth 100000 in
theorem tb_1082 : tables_1[1082]? = some (Jvm.Cond.instanceMethod ({ cls := "SortUtilityModel", name := "byKeys", desc := "([I[II[I[II)I" } : Jvm.MethodName)) := tbk5 (j := 122) rfl
set_option maxRecDepth 100000 in
theorem tb_1083 : tables_1[1083]? = some (Jvm.Cond.code ({ cls := "SortUtilityModel", name := "byKeys", desc := "([I[II[I[II)I" } : Jvm.MethodName) prog_12_method_30_code (9 : Nat) (Option.some Jvm.ClassFile.FieldType.int)) := tbk5 (j := 123) rfl
set_option maxRecDepth 100000 in
theorem tb_1084 : tables_1[1084]? = some (Jvm.Cond.methodLink "SortUtilityModel" (203 : Nat) ({ cls := "SortUtilityModel", name := "byKey", desc := "(I[I[II[I[II)I" } : Jvm.MethodName)) := tbk5 (j := 124) rfl
set_option maxRecDepth 100000 in
theorem tb_1085 : tables_1[1085]? = some (Jvm.Cond.privateMethod ({ cls := "SortUtilityModel", name := "byKey", desc := "(I[I[II[I[II)I" } : Jvm.MethodName)) := tbk5 (j := 125) rfl
set_option maxRecDepth 100000 in
theorem tb_1086 : tables_1[1086]? = some (Jvm.Cond.instanceMethod ({ cls := "SortUtilityModel", name := "byKey", desc := "(I[I[II[I[II)I" } : Jvm.MethodName)) := tbk5 (j := 126) rfl
set_option maxRecDepth 100000 in
theorem tb_1087 : tables_1[1087]? = some (Jvm.Cond.code ({ cls := "SortUtilityModel", name := "byKey", desc := "(I[I[II[I[II)I" } : Jvm.MethodName) prog_12_method_29_code (13 : Nat) (Option.some Jvm.ClassFile.FieldType.int)) := tbk5 (j := 127) rfl
set_option maxRecDepth 100000 in
theorem tb_1088 : tables_1[1088]? = some (Jvm.Cond.methodLink "SortUtilityModel" (200 : Nat) ({ cls := "SortUtilityModel", name := "digitAt", desc := "(I)I" } : Jvm.MethodName)) := tbk5 (j := 128) rfl
set_option maxRecDepth 100000 in
theorem tb_1089 : tables_1[1089]? = some (Jvm.Cond.static ({ cls := "SortUtilityModel", name := "digitAt", desc := "(I)I" } : Jvm.MethodName)) := tbk5 (j := 129) rfl
set_option maxRecDepth 100000 in
theorem tb_1090 : tables_1[1090]? = some (Jvm.Cond.code ({ cls := "SortUtilityModel", name := "digitAt", desc := "(I)I" } : Jvm.MethodName) prog_12_method_28_code (1 : Nat) (Option.some Jvm.ClassFile.FieldType.int)) := tbk5 (j := 130) rfl
set_option maxRecDepth 100000 in
theorem tb_1091 : tables_1[1091]? = some (Jvm.Cond.methodLink "SortUtilityModel" (239 : Nat) ({ cls := "SortUtilityModel", name := "takesUp", desc := "(II)Z" } : Jvm.MethodName)) := tbk5 (j := 131) rfl
set_option maxRecDepth 100000 in
theorem tb_1092 : tables_1[1092]? = some (Jvm.Cond.privateMethod ({ cls := "SortUtilityModel", name := "takesUp", desc := "(II)Z" } : Jvm.MethodName)) := tbk5 (j := 132) rfl
set_option maxRecDepth 100000 in
theorem tb_1093 : tables_1[1093]? = some (Jvm.Cond.instanceMethod ({ cls := "SortUtilityModel", name := "takesUp", desc := "(II)Z" } : Jvm.MethodName)) := tbk5 (j := 133) rfl
set_option maxRecDepth 100000 in
theorem tb_1094 : tables_1[1094]? = some (Jvm.Cond.code ({ cls := "SortUtilityModel", name := "takesUp", desc := "(II)Z" } : Jvm.MethodName) prog_12_method_36_code (10 : Nat) (Option.some Jvm.ClassFile.FieldType.boolean)) := tbk5 (j := 134) rfl
set_option maxRecDepth 100000 in
theorem tb_1095 : tables_1[1095]? = some (Jvm.Cond.methodLink "SortUtilityModel" (221 : Nat) ({ cls := "SortUtilityModel", name := "summed", desc := "(III)J" } : Jvm.MethodName)) := tbk5 (j := 135) rfl
set_option maxRecDepth 100000 in
theorem tb_1096 : tables_1[1096]? = some (Jvm.Cond.privateMethod ({ cls := "SortUtilityModel", name := "summed", desc := "(III)J" } : Jvm.MethodName)) := tbk5 (j := 136) rfl
set_option maxRecDepth 100000 in
theorem tb_1097 : tables_1[1097]? = some (Jvm.Cond.instanceMethod ({ cls := "SortUtilityModel", name := "summed", desc := "(III)J" } : Jvm.MethodName)) := tbk5 (j := 137) rfl
set_option maxRecDepth 100000 in
theorem tb_1098 : tables_1[1098]? = some (Jvm.Cond.code ({ cls := "SortUtilityModel", name := "summed", desc := "(III)J" } : Jvm.MethodName) prog_12_method_35_code (8 : Nat) (Option.some Jvm.ClassFile.FieldType.long)) := tbk5 (j := 138) rfl
set_option maxRecDepth 100000 in
theorem tb_1099 : tables_1[1099]? = some (Jvm.Cond.constantLong "SortUtilityModel" (198 : Nat) (10 : Int64)) := tbk5 (j := 139) rfl
set_option maxRecDepth 100000 in
theorem tb_1100 : tables_1[1100]? = some (Jvm.Cond.methodLink "SortUtilityModel" (211 : Nat) ({ cls := "SortUtilityModel", name := "asNumber", desc := "([I[IIII)J" } : Jvm.MethodName)) := tbk5 (j := 140) rfl
set_option maxRecDepth 100000 in
theorem tb_1101 : tables_1[1101]? = some (Jvm.Cond.static ({ cls := "SortUtilityModel", name := "asNumber", desc := "([I[IIII)J" } : Jvm.MethodName)) := tbk5 (j := 141) rfl
set_option maxRecDepth 100000 in
theorem tb_1102 : tables_1[1102]? = some (Jvm.Cond.code ({ cls := "SortUtilityModel", name := "asNumber", desc := "([I[IIII)J" } : Jvm.MethodName) prog_12_method_27_code (9 : Nat) (Option.some Jvm.ClassFile.FieldType.long)) := tbk5 (j := 142) rfl
set_option maxRecDepth 100000 in
theorem tb_1103 : tables_1[1103]? = some (Jvm.Cond.constantLong "SortUtilityModel" (215 : Nat) (-1 : Int64)) := tbk5 (j := 143) rfl
set_option maxRecDepth 100000 in
theorem tb_1104 : tables_1[1104]? = some (Jvm.Cond.methodLink "SortUtilityModel" (249 : Nat) ({ cls := "SortUtilityModel", name := "lay", desc := "(I)V" } : Jvm.MethodName)) := tbk5 (j := 144) rfl
set_option maxRecDepth 100000 in
theorem tb_1105 : tables_1[1105]? = some (Jvm.Cond.privateMethod ({ cls := "SortUtilityModel", name := "lay", desc := "(I)V" } : Jvm.MethodName)) := tbk5 (j := 145) rfl
set_option maxRecDepth 100000 in
theorem tb_1106 : tables_1[1106]? = some (Jvm.Cond.instanceMethod ({ cls := "SortUtilityModel", name := "lay", desc := "(I)V" } : Jvm.MethodName)) := tbk5 (j := 146) rfl
set_option maxRecDepth 100000 in
theorem tb_1107 : tables_1[1107]? = some (Jvm.Cond.code ({ cls := "SortUtilityModel", name := "lay", desc := "(I)V" } : Jvm.MethodName) prog_12_method_37_code (5 : Nat) (Option.none : Option Jvm.ClassFile.FieldType)) := tbk5 (j := 147) rfl
set_option maxRecDepth 100000 in
theorem tb_1108 : tables_1[1108]? = some (Jvm.Cond.methodLink "SortUtilityLaw" (60 : Nat) ({ cls := "SortUtilityModel", name := "join", desc := "(II)I" } : Jvm.MethodName)) := tbk5 (j := 148) rfl
set_option maxRecDepth 100000 in
theorem tb_1109 : tables_1[1109]? = some (Jvm.Cond.instanceMethod ({ cls := "SortUtilityModel", name := "join", desc := "(II)I" } : Jvm.MethodName)) := tbk5 (j := 149) rfl
set_option maxRecDepth 100000 in
theorem tb_1110 : tables_1[1110]? = some (Jvm.Cond.selects "SortUtilityModel" ({ cls := "SortUtilityModel", name := "join", desc := "(II)I" } : Jvm.MethodName) ({ cls := "SortUtilityModel", name := "join", desc := "(II)I" } : Jvm.MethodName)) := tbk5 (j := 150) rfl
set_option maxRecDepth 100000 in
theorem tb_1111 : tables_1[1111]? = some (Jvm.Cond.code ({ cls := "SortUtilityModel", name := "join", desc := "(II)I" } : Jvm.MethodName) prog_12_method_39_code (8 : Nat) (Option.some Jvm.ClassFile.FieldType.int)) := tbk5 (j := 151) rfl
set_option maxRecDepth 100000 in
theorem tb_1112 : tables_1[1112]? = some (Jvm.Cond.methodLink "SortUtilityLaw" (51 : Nat) ({ cls := "SortUtilityModel", name := "out", desc := "(III)I" } : Jvm.MethodName)) := tbk5 (j := 152) rfl
set_option maxRecDepth 100000 in
theorem tb_1113 : tables_1[1113]? = some (Jvm.Cond.instanceMethod ({ cls := "SortUtilityModel", name := "out", desc := "(III)I" } : Jvm.MethodName)) := tbk5 (j := 153) rfl
set_option maxRecDepth 100000 in
theorem tb_1114 : tables_1[1114]? = some (Jvm.Cond.selects "SortUtilityModel" ({ cls := "SortUtilityModel", name := "out", desc := "(III)I" } : Jvm.MethodName) ({ cls := "SortUtilityModel", name := "out", desc := "(III)I" } : Jvm.MethodName)) := tbk5 (j := 154) rfl
set_option maxRecDepth 100000 in
theorem tb_1115 : tables_1[1115]? = some (Jvm.Cond.code ({ cls := "SortUtilityModel", name := "out", desc := "(III)I" } : Jvm.MethodName) prog_12_method_41_code (4 : Nat) (Option.some Jvm.ClassFile.FieldType.int)) := tbk5 (j := 155) rfl
set_option maxRecDepth 100000 in
theorem tb_1116 : tables_1[1116]? = some (Jvm.Cond.methodLink "SortUtilityModel" (255 : Nat) ({ cls := "SortUtilityModel", name := "isOut", desc := "(II)Z" } : Jvm.MethodName)) := tbk5 (j := 156) rfl
set_option maxRecDepth 100000 in
theorem tb_1117 : tables_1[1117]? = some (Jvm.Cond.privateMethod ({ cls := "SortUtilityModel", name := "isOut", desc := "(II)Z" } : Jvm.MethodName)) := tbk5 (j := 157) rfl
set_option maxRecDepth 100000 in
theorem tb_1118 : tables_1[1118]? = some (Jvm.Cond.instanceMethod ({ cls := "SortUtilityModel", name := "isOut", desc := "(II)Z" } : Jvm.MethodName)) := tbk5 (j := 158) rfl
set_option maxRecDepth 100000 in
theorem tb_1119 : tables_1[1119]? = some (Jvm.Cond.code ({ cls := "SortUtilityModel", name := "isOut", desc := "(II)Z" } : Jvm.MethodName) prog_12_method_40_code (3 : Nat) (Option.some Jvm.ClassFile.FieldType.boolean)) := tbk5 (j := 159) rfl
set_option maxRecDepth 100000 in
theorem tb_1120 : tables_1[1120]? = some (Jvm.Cond.methodLink "SortUtilityLaw" (56 : Nat) ({ cls := "SortUtilityModel", name := "sum", desc := "(II)I" } : Jvm.MethodName)) := tbk5 (j := 160) rfl
set_option maxRecDepth 100000 in
theorem tb_1121 : tables_1[1121]? = some (Jvm.Cond.instanceMethod ({ cls := "SortUtilityModel", name := "sum", desc := "(II)I" } : Jvm.MethodName)) := tbk5 (j := 161) rfl
set_option maxRecDepth 100000 in
theorem tb_1122 : tables_1[1122]? = some (Jvm.Cond.selects "SortUtilityModel" ({ cls := "SortUtilityModel", name := "sum", desc := "(II)I" } : Jvm.MethodName) ({ cls := "SortUtilityModel", name := "sum", desc := "(II)I" } : Jvm.MethodName)) := tbk5 (j := 162) rfl
set_option maxRecDepth 100000 in
theorem tb_1123 : tables_1[1123]? = some (Jvm.Cond.code ({ cls := "SortUtilityModel", name := "sum", desc := "(II)I" } : Jvm.MethodName) prog_12_method_42_code (3 : Nat) (Option.some Jvm.ClassFile.FieldType.int)) := tbk5 (j := 163) rfl
set_option maxRecDepth 100000 in
theorem tb_1124 : tables_1[1124]? = some (Jvm.Cond.methodLink "SortUtilityLaw" (64 : Nat) ({ cls := "SortUtilityModel", name := "left", desc := "(I)I" } : Jvm.MethodName)) := tbk5 (j := 164) rfl
set_option maxRecDepth 100000 in
theorem tb_1125 : tables_1[1125]? = some (Jvm.Cond.instanceMethod ({ cls := "SortUtilityModel", name := "left", desc := "(I)I" } : Jvm.MethodName)) := tbk5 (j := 165) rfl
set_option maxRecDepth 100000 in
theorem tb_1126 : tables_1[1126]? = some (Jvm.Cond.selects "SortUtilityModel" ({ cls := "SortUtilityModel", name := "left", desc := "(I)I" } : Jvm.MethodName) ({ cls := "SortUtilityModel", name := "left", desc := "(I)I" } : Jvm.MethodName)) := tbk5 (j := 166) rfl
set_option maxRecDepth 100000 in
theorem tb_1127 : tables_1[1127]? = some (Jvm.Cond.code ({ cls := "SortUtilityModel", name := "left", desc := "(I)I" } : Jvm.MethodName) prog_12_method_43_code (2 : Nat) (Option.some Jvm.ClassFile.FieldType.int)) := tbk5 (j := 167) rfl
set_option maxRecDepth 100000 in
theorem tb_1128 : tables_1[1128]? = some (Jvm.Cond.methodLink "SortUtilityLaw" (68 : Nat) ({ cls := "SortUtilityModel", name := "code", desc := "()I" } : Jvm.MethodName)) := tbk5 (j := 168) rfl
set_option maxRecDepth 100000 in
theorem tb_1129 : tables_1[1129]? = some (Jvm.Cond.instanceMethod ({ cls := "SortUtilityModel", name := "code", desc := "()I" } : Jvm.MethodName)) := tbk5 (j := 169) rfl
set_option maxRecDepth 100000 in
theorem tb_1130 : tables_1[1130]? = some (Jvm.Cond.selects "SortUtilityModel" ({ cls := "SortUtilityModel", name := "code", desc := "()I" } : Jvm.MethodName) ({ cls := "SortUtilityModel", name := "code", desc := "()I" } : Jvm.MethodName)) := tbk5 (j := 170) rfl
set_option maxRecDepth 100000 in
theorem tb_1131 : tables_1[1131]? = some (Jvm.Cond.code ({ cls := "SortUtilityModel", name := "code", desc := "()I" } : Jvm.MethodName) prog_12_method_44_code (1 : Nat) (Option.some Jvm.ClassFile.FieldType.int)) := tbk5 (j := 171) rfl
set_option maxRecDepth 100000 in
theorem tb_1132 : tables_1[1132]? = some (Jvm.Cond.methodLink "SortUtilityLaw" (73 : Nat) ({ cls := "SortUtilityModel", name := "exit", desc := "(IZ)I" } : Jvm.MethodName)) := tbk5 (j := 172) rfl
set_option maxRecDepth 100000 in
theorem tb_1133 : tables_1[1133]? = some (Jvm.Cond.instanceMethod ({ cls := "SortUtilityModel", name := "exit", desc := "(IZ)I" } : Jvm.MethodName)) := tbk5 (j := 173) rfl
set_option maxRecDepth 100000 in
theorem tb_1134 : tables_1[1134]? = some (Jvm.Cond.selects "SortUtilityModel" ({ cls := "SortUtilityModel", name := "exit", desc := "(IZ)I" } : Jvm.MethodName) ({ cls := "SortUtilityModel", name := "exit", desc := "(IZ)I" } : Jvm.MethodName)) := tbk5 (j := 174) rfl
set_option maxRecDepth 100000 in
theorem tb_1135 : tables_1[1135]? = some (Jvm.Cond.code ({ cls := "SortUtilityModel", name := "exit", desc := "(IZ)I" } : Jvm.MethodName) prog_12_method_45_code (4 : Nat) (Option.some Jvm.ClassFile.FieldType.int)) := tbk5 (j := 175) rfl
set_option maxRecDepth 100000 in
theorem tb_1136 : tables_1[1136]? = some (Jvm.Cond.methodLink "SortUtilityLaw" (77 : Nat) ({ cls := "SortUtilityModel", name := "total", desc := "(II)I" } : Jvm.MethodName)) := tbk5 (j := 176) rfl
set_option maxRecDepth 100000 in
theorem tb_1137 : tables_1[1137]? = some (Jvm.Cond.instanceMethod ({ cls := "SortUtilityModel", name := "total", desc := "(II)I" } : Jvm.MethodName)) := tbk5 (j := 177) rfl
set_option maxRecDepth 100000 in
theorem tb_1138 : tables_1[1138]? = some (Jvm.Cond.selects "SortUtilityModel" ({ cls := "SortUtilityModel", name := "total", desc := "(II)I" } : Jvm.MethodName) ({ cls := "SortUtilityModel", name := "total", desc := "(II)I" } : Jvm.MethodName)) := tbk5 (j := 178) rfl
set_option maxRecDepth 100000 in
theorem tb_1139 : tables_1[1139]? = some (Jvm.Cond.code ({ cls := "SortUtilityModel", name := "total", desc := "(II)I" } : Jvm.MethodName) prog_12_method_46_code (5 : Nat) (Option.some Jvm.ClassFile.FieldType.int)) := tbk5 (j := 179) rfl
set_option maxRecDepth 100000 in
theorem tb_1140 : tables_1[1140]? = some (Jvm.Cond.methodLink "SortUtilityLaw" (82 : Nat) ({ cls := "SortUtilityModel", name := "plain", desc := "(I)Z" } : Jvm.MethodName)) := tbk5 (j := 180) rfl
set_option maxRecDepth 100000 in
theorem tb_1141 : tables_1[1141]? = some (Jvm.Cond.instanceMethod ({ cls := "SortUtilityModel", name := "plain", desc := "(I)Z" } : Jvm.MethodName)) := tbk5 (j := 181) rfl
set_option maxRecDepth 100000 in
theorem tb_1142 : tables_1[1142]? = some (Jvm.Cond.selects "SortUtilityModel" ({ cls := "SortUtilityModel", name := "plain", desc := "(I)Z" } : Jvm.MethodName) ({ cls := "SortUtilityModel", name := "plain", desc := "(I)Z" } : Jvm.MethodName)) := tbk5 (j := 182) rfl
set_option maxRecDepth 100000 in
theorem tb_1143 : tables_1[1143]? = some (Jvm.Cond.code ({ cls := "SortUtilityModel", name := "plain", desc := "(I)Z" } : Jvm.MethodName) prog_12_method_47_code (6 : Nat) (Option.some Jvm.ClassFile.FieldType.boolean)) := tbk5 (j := 183) rfl
set_option maxRecDepth 100000 in
theorem tb_1144 : tables_1[1144]? = some (Jvm.Cond.methodLink "SortUtilityLaw" (86 : Nat) ({ cls := "SortUtilityModel", name := "count", desc := "(I)I" } : Jvm.MethodName)) := tbk5 (j := 184) rfl
set_option maxRecDepth 100000 in
theorem tb_1145 : tables_1[1145]? = some (Jvm.Cond.instanceMethod ({ cls := "SortUtilityModel", name := "count", desc := "(I)I" } : Jvm.MethodName)) := tbk5 (j := 185) rfl
set_option maxRecDepth 100000 in
theorem tb_1146 : tables_1[1146]? = some (Jvm.Cond.selects "SortUtilityModel" ({ cls := "SortUtilityModel", name := "count", desc := "(I)I" } : Jvm.MethodName) ({ cls := "SortUtilityModel", name := "count", desc := "(I)I" } : Jvm.MethodName)) := tbk5 (j := 186) rfl
set_option maxRecDepth 100000 in
theorem tb_1147 : tables_1[1147]? = some (Jvm.Cond.code ({ cls := "SortUtilityModel", name := "count", desc := "(I)I" } : Jvm.MethodName) prog_12_method_48_code (2 : Nat) (Option.some Jvm.ClassFile.FieldType.int)) := tbk5 (j := 187) rfl
set_option maxRecDepth 100000 in
theorem tb_1148 : tables_1[1148]? = some (Jvm.Cond.sameMethod "java/lang/Throwable" "java/lang/Throwable" "fillInStackTrace" "(I)Ljava/lang/Throwable;") := tbk5 (j := 188) rfl
set_option maxRecDepth 100000 in
theorem tb_1149 : tables_1[1149]? = some (Jvm.Cond.castable "SortUtility$Row" "SortUtility$Row") := tbk5 (j := 189) rfl
set_option maxRecDepth 100000 in
theorem tb_1150 : tables_1[1150]? = some (Jvm.Cond.castable "SortUtility$Test" "SortUtility$Test") := tbk5 (j := 190) rfl
set_option maxRecDepth 100000 in
theorem tb_1151 : tables_1[1151]? = some (Jvm.Cond.castable "SortUtility$Key" "SortUtility$Key") := tbk5 (j := 191) rfl
set_option maxRecDepth 100000 in
theorem tb_1152 : tables_1[1152]? = some (Jvm.Cond.castable "SortUtility$Part" "SortUtility$Part") := tbk5 (j := 192) rfl
set_option maxRecDepth 100000 in
theorem tb_1153 : tables_1[1153]? = some (Jvm.Cond.sameMethod "[Ljava/lang/Object;" "java/lang/Object" "getClass" "()Ljava/lang/Class;") := tbk5 (j := 193) rfl
set_option maxRecDepth 100000 in
theorem tb_1154 : tables_1[1154]? = some (Jvm.Cond.selects "[Ljava/lang/Object;" ({ cls := "java/lang/Object", name := "getClass", desc := "()Ljava/lang/Class;" } : Jvm.MethodName) ({ cls := "java/lang/Object", name := "getClass", desc := "()Ljava/lang/Class;" } : Jvm.MethodName)) := tbk5 (j := 194) rfl
set_option maxRecDepth 100000 in
theorem tb_1155 : tables_1[1155]? = some (Jvm.Cond.declares ({ cls := "java/lang/Object", name := "getClass", desc := "()Ljava/lang/Class;" } : Jvm.MethodName)) := tbk5 (j := 195) rfl
set_option maxRecDepth 100000 in
theorem tb_1156 : tables_1[1156]? = some (Jvm.Cond.castable "SortUtility" "java/lang/Object") := tbk5 (j := 196) rfl
set_option maxRecDepth 100000 in
theorem tb_1157 : tables_1[1157]? = some (Jvm.Cond.castable "SortUtility$Statements" "java/lang/Object") := tbk5 (j := 197) rfl
set_option maxRecDepth 100000 in
theorem tb_1158 : tables_1[1158]? = some (Jvm.Cond.castable "SortUtility$Rows" "java/lang/Object") := tbk5 (j := 198) rfl
set_option maxRecDepth 100000 in
theorem tb_1159 : tables_1[1159]? = some (Jvm.Cond.castable "SortUtility$Row" "java/lang/Object") := tbk5 (j := 199) rfl
set_option maxRecDepth 100000 in
theorem tb_1160 : tables_1[1160]? = some (Jvm.Cond.castable "SortUtilityModel" "java/lang/Object") := tbk5 (j := 200) rfl
set_option maxRecDepth 100000 in
theorem tb_1161 : tables_1[1161]? = some (Jvm.Cond.castable "SortUtility$Reader" "java/lang/Object") := tbk5 (j := 201) rfl
set_option maxRecDepth 100000 in
theorem tb_1162 : tables_1[1162]? = some (Jvm.Cond.castable "SortUtility$Part" "java/lang/Object") := tbk5 (j := 202) rfl
set_option maxRecDepth 100000 in
theorem tb_1163 : tables_1[1163]? = some (Jvm.Cond.castable "SortUtility$Key" "java/lang/Object") := tbk5 (j := 203) rfl
set_option maxRecDepth 100000 in
theorem tb_1164 : tables_1[1164]? = some (Jvm.Cond.castable "SortUtility$Test" "java/lang/Object") := tbk5 (j := 204) rfl
set_option maxRecDepth 100000 in
theorem tb_1165 : tables_1[1165]? = some (Jvm.Cond.castable "SortUtility$Word" "java/lang/Object") := tbk5 (j := 205) rfl
set_option maxRecDepth 100000 in
theorem tb_1166 : tables_1[1166]? = some (Jvm.Cond.castable "java/lang/String" "java/lang/Object") := tbk5 (j := 206) rfl
set_option maxRecDepth 100000 in
theorem tb_1167 : tables_1[1167]? = some (Jvm.Cond.fieldLink "SortUtility$Reader" (165 : Nat) "SortUtility$Word" "bit" "I") := tbk5 (j := 207) rfl
set_option maxRecDepth 100000 in
theorem tb_1168 : tables_1[1168]? = some (Jvm.Cond.fieldLink "SortUtility$Reader" (168 : Nat) "SortUtility$Word" "spelling" "Ljava/lang/String;") := tbk5 (j := 208) rfl
set_option maxRecDepth 100000 in
theorem tb_1169 : tables_1[1169]? = some (Jvm.Cond.fieldLink "java/lang/String" (9 : Nat) "java/lang/String" "value" "[B") := tbk5 (j := 209) rfl
set_option maxRecDepth 100000 in
theorem tb_1170 : tables_1[1170]? = some (Jvm.Cond.fieldLink "java/lang/String" (15 : Nat) "java/lang/String" "coder" "B") := tbk5 (j := 210) rfl
set_option maxRecDepth 100000 in
theorem tb_1171 : tables_1[1171]? = some (Jvm.Cond.fieldLink "java/lang/Enum" (7 : Nat) "java/lang/Enum" "ordinal" "I") := tbk5 (j := 211) rfl
set_option maxRecDepth 100000 in
theorem tb_1172 : tables_1[1172]? = some (Jvm.Cond.laysStatic "SortUtility$Word" "SORT" "LSortUtility$Word;") := tbk5 (j := 212) rfl
set_option maxRecDepth 100000 in
theorem tb_1173 : tables_1[1173]? = some (Jvm.Cond.laysStatic "SortUtility$Word" "INCLUDE" "LSortUtility$Word;") := tbk5 (j := 213) rfl
set_option maxRecDepth 100000 in
theorem tb_1174 : tables_1[1174]? = some (Jvm.Cond.laysStatic "SortUtility$Word" "OMIT" "LSortUtility$Word;") := tbk5 (j := 214) rfl
set_option maxRecDepth 100000 in
theorem tb_1175 : tables_1[1175]? = some (Jvm.Cond.laysStatic "SortUtility$Word" "SUM" "LSortUtility$Word;") := tbk5 (j := 215) rfl
set_option maxRecDepth 100000 in
theorem tb_1176 : tables_1[1176]? = some (Jvm.Cond.laysStatic "SortUtility$Word" "OUT" "LSortUtility$Word;") := tbk5 (j := 216) rfl
set_option maxRecDepth 100000 in
theorem tb_1177 : tables_1[1177]? = some (Jvm.Cond.laysStatic "SortUtility$Word" "SKIP" "LSortUtility$Word;") := tbk5 (j := 217) rfl
set_option maxRecDepth 100000 in
theorem tb_1178 : tables_1[1178]? = some (Jvm.Cond.laysStatic "SortUtility$Word" "STOP" "LSortUtility$Word;") := tbk5 (j := 218) rfl
set_option maxRecDepth 100000 in
theorem tb_1179 : tables_1[1179]? = some (Jvm.Cond.stringRef "SortUtility$Word" (53 : Nat) "sort") := tbk5 (j := 219) rfl
set_option maxRecDepth 100000 in
theorem tb_1180 : tables_1[1180]? = some (Jvm.Cond.stringRef "SortUtility$Word" (59 : Nat) "include") := tbk5 (j := 220) rfl
set_option maxRecDepth 100000 in
theorem tb_1181 : tables_1[1181]? = some (Jvm.Cond.stringRef "SortUtility$Word" (62 : Nat) "omit") := tbk5 (j := 221) rfl
set_option maxRecDepth 100000 in
theorem tb_1182 : tables_1[1182]? = some (Jvm.Cond.stringRef "SortUtility$Word" (65 : Nat) "sum") := tbk5 (j := 222) rfl
set_option maxRecDepth 100000 in
theorem tb_1183 : tables_1[1183]? = some (Jvm.Cond.stringRef "SortUtility$Word" (68 : Nat) "out") := tbk5 (j := 223) rfl
set_option maxRecDepth 100000 in
theorem tb_1184 : tables_1[1184]? = some (Jvm.Cond.stringRef "SortUtility$Word" (71 : Nat) "skip") := tbk5 (j := 224) rfl
set_option maxRecDepth 100000 in
theorem tb_1185 : tables_1[1185]? = some (Jvm.Cond.stringRef "SortUtility$Word" (74 : Nat) "stop") := tbk5 (j := 225) rfl
