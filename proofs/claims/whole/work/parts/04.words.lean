theorem tq_0 : tables_1[0]? = some (Jvm.Cond.initialized "SandRipplesLaw") := by decide +kernel
theorem tq_1 : tables_1[1]? = some (Jvm.Cond.initialized "SandRipples") := by decide +kernel
theorem tq_2 : tables_1[2]? = some (Jvm.Cond.initialized "SandRipples$World") := by decide +kernel
theorem tq_3 : tables_1[3]? = some (Jvm.Cond.initialized "java/lang/Math") := by decide +kernel
theorem tq_4 : tables_1[4]? = some (Jvm.Cond.initialized "SandRipples$Floor") := by decide +kernel
theorem tq_5 : tables_1[5]? = some (Jvm.Cond.initialized "SandRipples$Reader") := by decide +kernel
theorem tq_6 : tables_1[6]? = some (Jvm.Cond.initialized "SandRipples$Text") := by decide +kernel
theorem tq_7 : tables_1[7]? = some (Jvm.Cond.initialized "SandRipples$Sheet") := by decide +kernel
theorem tq_8 : tables_1[8]? = some (Jvm.Cond.initialized "SandRipples$Slot") := by decide +kernel
theorem tq_9 : tables_1[9]? = some (Jvm.Cond.initialized "SandRipplesModel") := by decide +kernel
theorem tq_10 : tables_1[10]? = some (Jvm.Cond.initialized "java/lang/Integer") := by decide +kernel
theorem tq_11 : tables_1[11]? = some (Jvm.Cond.initialized "java/lang/System") := by decide +kernel
theorem tq_12 : tables_1[12]? = some (Jvm.Cond.initialized "java/lang/String") := by decide +kernel
theorem tq_13 : tables_1[13]? = some (Jvm.Cond.initialized "java/lang/StringLatin1") := by decide +kernel
theorem tq_14 : tables_1[14]? = some (Jvm.Cond.initialized "jdk/internal/util/Preconditions") := by decide +kernel
theorem tq_15 : tables_1[15]? = some (Jvm.Cond.initialized "java/lang/StringUTF16") := by decide +kernel
theorem tq_16 : tables_1[16]? = some (Jvm.Cond.initialized "java/lang/Character") := by decide +kernel
theorem tq_17 : tables_1[17]? = some (Jvm.Cond.classLink "SandRipplesLaw" (7 : Nat) "SandRipples") := by decide +kernel
theorem tq_18 : tables_1[18]? = some (Jvm.Cond.instantiable "SandRipples" (14 : Nat)) := by decide +kernel
theorem tq_19 : tables_1[19]? = some (Jvm.Cond.methodLink "SandRipplesLaw" (9 : Nat) ({ cls := "SandRipples", name := "<init>", desc := "()V" } : Jvm.MethodName)) := by decide +kernel
theorem tq_20 : tables_1[20]? = some (Jvm.Cond.instanceMethod ({ cls := "SandRipples", name := "<init>", desc := "()V" } : Jvm.MethodName)) := by decide +kernel
theorem tq_21 : tables_1[21]? = some (Jvm.Cond.code ({ cls := "SandRipples", name := "<init>", desc := "()V" } : Jvm.MethodName) prog_1_method_1_code (2 : Nat) (Option.none : Option Jvm.ClassFile.FieldType)) := by decide +kernel
theorem tq_22 : tables_1[22]? = some (Jvm.Cond.methodLink "SandRipples" (1 : Nat) ({ cls := "java/lang/Object", name := "<init>", desc := "()V" } : Jvm.MethodName)) := by decide +kernel
theorem tq_23 : tables_1[23]? = some (Jvm.Cond.instanceMethod ({ cls := "java/lang/Object", name := "<init>", desc := "()V" } : Jvm.MethodName)) := by decide +kernel
theorem tq_24 : tables_1[24]? = some (Jvm.Cond.code ({ cls := "java/lang/Object", name := "<init>", desc := "()V" } : Jvm.MethodName) object_method_1_code (1 : Nat) (Option.none : Option Jvm.ClassFile.FieldType)) := by decide +kernel
theorem tq_25 : tables_1[25]? = some (Jvm.Cond.classLink "SandRipples" (7 : Nat) "SandRipples$World") := by decide +kernel
theorem tq_26 : tables_1[26]? = some (Jvm.Cond.instantiable "SandRipples$World" (6 : Nat)) := by decide +kernel
theorem tq_27 : tables_1[27]? = some (Jvm.Cond.methodLinkNest "SandRipples" (11 : Nat) ({ cls := "SandRipples$World", name := "<init>", desc := "(I)V" } : Jvm.MethodName) "SandRipples") := by decide +kernel
theorem tq_28 : tables_1[28]? = some (Jvm.Cond.instanceMethod ({ cls := "SandRipples$World", name := "<init>", desc := "(I)V" } : Jvm.MethodName)) := by decide +kernel
theorem tq_29 : tables_1[29]? = some (Jvm.Cond.code ({ cls := "SandRipples$World", name := "<init>", desc := "(I)V" } : Jvm.MethodName) prog_7_method_1_code (3 : Nat) (Option.none : Option Jvm.ClassFile.FieldType)) := by decide +kernel
theorem tq_30 : tables_1[30]? = some (Jvm.Cond.methodLink "SandRipples$World" (3 : Nat) ({ cls := "java/lang/Object", name := "<init>", desc := "()V" } : Jvm.MethodName)) := by decide +kernel
theorem tq_31 : tables_1[31]? = some (Jvm.Cond.constant "SandRipples$World" (25 : Nat) (-1000000005 : Int32)) := by decide +kernel
theorem tq_32 : tables_1[32]? = some (Jvm.Cond.methodLink "SandRipples$World" (29 : Nat) ({ cls := "java/lang/Math", name := "max", desc := "(II)I" } : Jvm.MethodName)) := by decide +kernel
theorem tq_33 : tables_1[33]? = some (Jvm.Cond.static ({ cls := "java/lang/Math", name := "max", desc := "(II)I" } : Jvm.MethodName)) := by decide +kernel
theorem tq_34 : tables_1[34]? = some (Jvm.Cond.code ({ cls := "java/lang/Math", name := "max", desc := "(II)I" } : Jvm.MethodName) prog_12_method_65_code (2 : Nat) (Option.some Jvm.ClassFile.FieldType.int)) := by decide +kernel
theorem tq_35 : tables_1[35]? = some (Jvm.Cond.classLink "SandRipples$World" (35 : Nat) "SandRipples$Floor") := by decide +kernel
theorem tq_36 : tables_1[36]? = some (Jvm.Cond.arrayOver (Jvm.ClassFile.FieldType.object "SandRipples$Floor")) := by decide +kernel
theorem tq_37 : tables_1[37]? = some (Jvm.Cond.instantiable "SandRipples$Floor" (3 : Nat)) := by decide +kernel
theorem tq_38 : tables_1[38]? = some (Jvm.Cond.methodLinkNest "SandRipples$World" (41 : Nat) ({ cls := "SandRipples$Floor", name := "<init>", desc := "()V" } : Jvm.MethodName) "SandRipples") := by decide +kernel
theorem tq_39 : tables_1[39]? = some (Jvm.Cond.instanceMethod ({ cls := "SandRipples$Floor", name := "<init>", desc := "()V" } : Jvm.MethodName)) := by decide +kernel
theorem tq_40 : tables_1[40]? = some (Jvm.Cond.code ({ cls := "SandRipples$Floor", name := "<init>", desc := "()V" } : Jvm.MethodName) prog_2_method_1_code (1 : Nat) (Option.none : Option Jvm.ClassFile.FieldType)) := by decide +kernel
theorem tq_41 : tables_1[41]? = some (Jvm.Cond.methodLink "SandRipples$Floor" (3 : Nat) ({ cls := "java/lang/Object", name := "<init>", desc := "()V" } : Jvm.MethodName)) := by decide +kernel
theorem tq_42 : tables_1[42]? = some (Jvm.Cond.fieldLink "SandRipples$Floor" (9 : Nat) "SandRipples$Floor" "sand" "[I") := by decide +kernel
theorem tq_43 : tables_1[43]? = some (Jvm.Cond.fieldLinkNest "SandRipples$Sheet" (36 : Nat) "SandRipples$Floor" "sand" "[I" "SandRipples") := by decide +kernel
theorem tq_44 : tables_1[44]? = some (Jvm.Cond.fieldLinkNest "SandRipples" (149 : Nat) "SandRipples$Floor" "sand" "[I" "SandRipples") := by decide +kernel
theorem tq_45 : tables_1[45]? = some (Jvm.Cond.fieldLink "SandRipples$Floor" (15 : Nat) "SandRipples$Floor" "tick" "I") := by decide +kernel
theorem tq_46 : tables_1[46]? = some (Jvm.Cond.fieldLinkNest "SandRipples" (100 : Nat) "SandRipples$Floor" "tick" "I" "SandRipples") := by decide +kernel
theorem tq_47 : tables_1[47]? = some (Jvm.Cond.fieldLink "SandRipples$Floor" (19 : Nat) "SandRipples$Floor" "kind" "I") := by decide +kernel
theorem tq_48 : tables_1[48]? = some (Jvm.Cond.fieldLinkNest "SandRipples" (97 : Nat) "SandRipples$Floor" "kind" "I" "SandRipples") := by decide +kernel
theorem tq_49 : tables_1[49]? = some (Jvm.Cond.laysFinal "SandRipples$Floor" "SandRipples$Floor" "sand" "[I") := by decide +kernel
theorem tq_50 : tables_1[50]? = some (Jvm.Cond.soleField "SandRipples$Floor" "sand") := by decide +kernel
theorem tq_51 : tables_1[51]? = some (Jvm.Cond.lays "SandRipples$Floor" "SandRipples$Floor" "tick" "I") := by decide +kernel
theorem tq_52 : tables_1[52]? = some (Jvm.Cond.soleField "SandRipples$Floor" "tick") := by decide +kernel
theorem tq_53 : tables_1[53]? = some (Jvm.Cond.lays "SandRipples$Floor" "SandRipples$Floor" "kind" "I") := by decide +kernel
theorem tq_54 : tables_1[54]? = some (Jvm.Cond.soleField "SandRipples$Floor" "kind") := by decide +kernel
theorem tq_55 : tables_1[55]? = some (Jvm.Cond.superclass "SandRipples$Floor" "java/lang/Object") := by decide +kernel
theorem tq_56 : tables_1[56]? = some (Jvm.Cond.arrayClass Jvm.ClassFile.FieldType.int) := by decide +kernel
theorem tq_57 : tables_1[57]? = some (Jvm.Cond.fieldLink "SandRipples$World" (37 : Nat) "SandRipples$World" "floors" "[LSandRipples$Floor;") := by decide +kernel
theorem tq_58 : tables_1[58]? = some (Jvm.Cond.fieldLinkNest "SandRipples" (85 : Nat) "SandRipples$World" "floors" "[LSandRipples$Floor;" "SandRipples") := by decide +kernel
theorem tq_59 : tables_1[59]? = some (Jvm.Cond.fieldLink "SandRipples$World" (9 : Nat) "SandRipples$World" "floorCount" "I") := by decide +kernel
theorem tq_60 : tables_1[60]? = some (Jvm.Cond.fieldLinkNest "SandRipples" (81 : Nat) "SandRipples$World" "floorCount" "I" "SandRipples") := by decide +kernel
theorem tq_61 : tables_1[61]? = some (Jvm.Cond.fieldLink "SandRipples$World" (15 : Nat) "SandRipples$World" "sea" "[I") := by decide +kernel
theorem tq_62 : tables_1[62]? = some (Jvm.Cond.fieldLinkNest "SandRipples" (143 : Nat) "SandRipples$World" "sea" "[I" "SandRipples") := by decide +kernel
theorem tq_63 : tables_1[63]? = some (Jvm.Cond.fieldLink "SandRipples$World" (19 : Nat) "SandRipples$World" "z" "I") := by decide +kernel
theorem tq_64 : tables_1[64]? = some (Jvm.Cond.fieldLinkNest "SandRipples" (155 : Nat) "SandRipples$World" "z" "I" "SandRipples") := by decide +kernel
theorem tq_65 : tables_1[65]? = some (Jvm.Cond.fieldLink "SandRipples$World" (22 : Nat) "SandRipples$World" "textCount" "I") := by decide +kernel
theorem tq_66 : tables_1[66]? = some (Jvm.Cond.fieldLinkNest "SandRipples" (221 : Nat) "SandRipples$World" "textCount" "I" "SandRipples") := by decide +kernel
theorem tq_67 : tables_1[67]? = some (Jvm.Cond.fieldLink "SandRipples$World" (26 : Nat) "SandRipples$World" "laws" "[I") := by decide +kernel
theorem tq_68 : tables_1[68]? = some (Jvm.Cond.fieldLinkNest "SandRipples" (228 : Nat) "SandRipples$World" "laws" "[I" "SandRipples") := by decide +kernel
theorem tq_69 : tables_1[69]? = some (Jvm.Cond.laysFinal "SandRipples$World" "SandRipples$World" "floors" "[LSandRipples$Floor;") := by decide +kernel
theorem tq_70 : tables_1[70]? = some (Jvm.Cond.soleField "SandRipples$World" "floors") := by decide +kernel
theorem tq_71 : tables_1[71]? = some (Jvm.Cond.lays "SandRipples$World" "SandRipples$World" "floorCount" "I") := by decide +kernel
theorem tq_72 : tables_1[72]? = some (Jvm.Cond.soleField "SandRipples$World" "floorCount") := by decide +kernel
theorem tq_73 : tables_1[73]? = some (Jvm.Cond.laysFinal "SandRipples$World" "SandRipples$World" "sea" "[I") := by decide +kernel
theorem tq_74 : tables_1[74]? = some (Jvm.Cond.soleField "SandRipples$World" "sea") := by decide +kernel
theorem tq_75 : tables_1[75]? = some (Jvm.Cond.lays "SandRipples$World" "SandRipples$World" "z" "I") := by decide +kernel
theorem tq_76 : tables_1[76]? = some (Jvm.Cond.soleField "SandRipples$World" "z") := by decide +kernel
theorem tq_77 : tables_1[77]? = some (Jvm.Cond.lays "SandRipples$World" "SandRipples$World" "textCount" "I") := by decide +kernel
theorem tq_78 : tables_1[78]? = some (Jvm.Cond.soleField "SandRipples$World" "textCount") := by decide +kernel
theorem tq_79 : tables_1[79]? = some (Jvm.Cond.laysFinal "SandRipples$World" "SandRipples$World" "laws" "[I") := by decide +kernel
theorem tq_80 : tables_1[80]? = some (Jvm.Cond.soleField "SandRipples$World" "laws") := by decide +kernel
theorem tq_81 : tables_1[81]? = some (Jvm.Cond.superclass "SandRipples$World" "java/lang/Object") := by decide +kernel
theorem tq_82 : tables_1[82]? = some (Jvm.Cond.classLink "SandRipples" (32 : Nat) "SandRipples$Text") := by decide +kernel
theorem tq_83 : tables_1[83]? = some (Jvm.Cond.arrayOver (Jvm.ClassFile.FieldType.object "SandRipples$Text")) := by decide +kernel
theorem tq_84 : tables_1[84]? = some (Jvm.Cond.classLink "SandRipples" (38 : Nat) "SandRipples$Reader") := by decide +kernel
theorem tq_85 : tables_1[85]? = some (Jvm.Cond.instantiable "SandRipples$Reader" (9 : Nat)) := by decide +kernel
theorem tq_86 : tables_1[86]? = some (Jvm.Cond.methodLinkNest "SandRipples" (40 : Nat) ({ cls := "SandRipples$Reader", name := "<init>", desc := "()V" } : Jvm.MethodName) "SandRipples") := by decide +kernel
theorem tq_87 : tables_1[87]? = some (Jvm.Cond.instanceMethod ({ cls := "SandRipples$Reader", name := "<init>", desc := "()V" } : Jvm.MethodName)) := by decide +kernel
theorem tq_88 : tables_1[88]? = some (Jvm.Cond.code ({ cls := "SandRipples$Reader", name := "<init>", desc := "()V" } : Jvm.MethodName) prog_3_method_1_code (1 : Nat) (Option.none : Option Jvm.ClassFile.FieldType)) := by decide +kernel
theorem tq_89 : tables_1[89]? = some (Jvm.Cond.methodLink "SandRipples$Reader" (3 : Nat) ({ cls := "java/lang/Object", name := "<init>", desc := "()V" } : Jvm.MethodName)) := by decide +kernel
theorem tq_90 : tables_1[90]? = some (Jvm.Cond.fieldLink "SandRipples$Reader" (9 : Nat) "SandRipples$Reader" "key" "I") := by decide +kernel
theorem tq_91 : tables_1[91]? = some (Jvm.Cond.fieldLinkNest "SandRipples$Text" (25 : Nat) "SandRipples$Reader" "key" "I" "SandRipples") := by decide +kernel
theorem tq_92 : tables_1[92]? = some (Jvm.Cond.fieldLink "SandRipples$Reader" (15 : Nat) "SandRipples$Reader" "leaves" "I") := by decide +kernel
theorem tq_93 : tables_1[93]? = some (Jvm.Cond.fieldLinkNest "SandRipples$Text" (28 : Nat) "SandRipples$Reader" "leaves" "I" "SandRipples") := by decide +kernel
theorem tq_94 : tables_1[94]? = some (Jvm.Cond.fieldLink "SandRipples$Reader" (18 : Nat) "SandRipples$Reader" "length" "I") := by decide +kernel
theorem tq_95 : tables_1[95]? = some (Jvm.Cond.fieldLinkNest "SandRipples$Text" (29 : Nat) "SandRipples$Reader" "length" "I" "SandRipples") := by decide +kernel
theorem tq_96 : tables_1[96]? = some (Jvm.Cond.fieldLink "SandRipples$Reader" (21 : Nat) "SandRipples$Reader" "steps" "[I") := by decide +kernel
theorem tq_97 : tables_1[97]? = some (Jvm.Cond.fieldLinkNest "SandRipples$Text" (30 : Nat) "SandRipples$Reader" "steps" "[I" "SandRipples") := by decide +kernel
theorem tq_98 : tables_1[98]? = some (Jvm.Cond.fieldLink "SandRipples$Reader" (25 : Nat) "SandRipples$Reader" "signs" "[I") := by decide +kernel
theorem tq_99 : tables_1[99]? = some (Jvm.Cond.fieldLink "SandRipples$Reader" (28 : Nat) "SandRipples$Reader" "signCount" "I") := by decide +kernel
theorem tq_100 : tables_1[100]? = some (Jvm.Cond.fieldLink "SandRipples$Reader" (31 : Nat) "SandRipples$Reader" "openBrackets" "I") := by decide +kernel
theorem tq_101 : tables_1[101]? = some (Jvm.Cond.fieldLink "SandRipples$Reader" (34 : Nat) "SandRipples$Reader" "openNots" "I") := by decide +kernel
theorem tq_102 : tables_1[102]? = some (Jvm.Cond.fieldLink "SandRipples$Reader" (37 : Nat) "SandRipples$Reader" "pieceIsDue" "Z") := by decide +kernel
theorem tq_103 : tables_1[103]? = some (Jvm.Cond.lays "SandRipples$Reader" "SandRipples$Reader" "key" "I") := by decide +kernel
theorem tq_104 : tables_1[104]? = some (Jvm.Cond.soleField "SandRipples$Reader" "key") := by decide +kernel
theorem tq_105 : tables_1[105]? = some (Jvm.Cond.lays "SandRipples$Reader" "SandRipples$Reader" "leaves" "I") := by decide +kernel
theorem tq_106 : tables_1[106]? = some (Jvm.Cond.soleField "SandRipples$Reader" "leaves") := by decide +kernel
theorem tq_107 : tables_1[107]? = some (Jvm.Cond.lays "SandRipples$Reader" "SandRipples$Reader" "length" "I") := by decide +kernel
theorem tq_108 : tables_1[108]? = some (Jvm.Cond.soleField "SandRipples$Reader" "length") := by decide +kernel
theorem tq_109 : tables_1[109]? = some (Jvm.Cond.laysFinal "SandRipples$Reader" "SandRipples$Reader" "steps" "[I") := by decide +kernel
theorem tq_110 : tables_1[110]? = some (Jvm.Cond.soleField "SandRipples$Reader" "steps") := by decide +kernel
theorem tq_111 : tables_1[111]? = some (Jvm.Cond.laysFinal "SandRipples$Reader" "SandRipples$Reader" "signs" "[I") := by decide +kernel
theorem tq_112 : tables_1[112]? = some (Jvm.Cond.soleField "SandRipples$Reader" "signs") := by decide +kernel
theorem tq_113 : tables_1[113]? = some (Jvm.Cond.lays "SandRipples$Reader" "SandRipples$Reader" "signCount" "I") := by decide +kernel
theorem tq_114 : tables_1[114]? = some (Jvm.Cond.soleField "SandRipples$Reader" "signCount") := by decide +kernel
theorem tq_115 : tables_1[115]? = some (Jvm.Cond.lays "SandRipples$Reader" "SandRipples$Reader" "openBrackets" "I") := by decide +kernel
theorem tq_116 : tables_1[116]? = some (Jvm.Cond.soleField "SandRipples$Reader" "openBrackets") := by decide +kernel
theorem tq_117 : tables_1[117]? = some (Jvm.Cond.lays "SandRipples$Reader" "SandRipples$Reader" "openNots" "I") := by decide +kernel
theorem tq_118 : tables_1[118]? = some (Jvm.Cond.soleField "SandRipples$Reader" "openNots") := by decide +kernel
theorem tq_119 : tables_1[119]? = some (Jvm.Cond.lays "SandRipples$Reader" "SandRipples$Reader" "pieceIsDue" "Z") := by decide +kernel
theorem tq_120 : tables_1[120]? = some (Jvm.Cond.soleField "SandRipples$Reader" "pieceIsDue") := by decide +kernel
theorem tq_121 : tables_1[121]? = some (Jvm.Cond.superclass "SandRipples$Reader" "java/lang/Object") := by decide +kernel
theorem tq_122 : tables_1[122]? = some (Jvm.Cond.classLink "SandRipples" (55 : Nat) "SandRipples$Sheet") := by decide +kernel
theorem tq_123 : tables_1[123]? = some (Jvm.Cond.arrayOver (Jvm.ClassFile.FieldType.object "SandRipples$Sheet")) := by decide +kernel
theorem tq_124 : tables_1[124]? = some (Jvm.Cond.classLink "SandRipples" (61 : Nat) "SandRipples$Slot") := by decide +kernel
theorem tq_125 : tables_1[125]? = some (Jvm.Cond.arrayOver (Jvm.ClassFile.FieldType.object "SandRipples$Slot")) := by decide +kernel
theorem tq_126 : tables_1[126]? = some (Jvm.Cond.instantiable "SandRipples$Text" (4 : Nat)) := by decide +kernel
theorem tq_127 : tables_1[127]? = some (Jvm.Cond.methodLinkNest "SandRipples" (73 : Nat) ({ cls := "SandRipples$Text", name := "<init>", desc := "()V" } : Jvm.MethodName) "SandRipples") := by decide +kernel
theorem tq_128 : tables_1[128]? = some (Jvm.Cond.instanceMethod ({ cls := "SandRipples$Text", name := "<init>", desc := "()V" } : Jvm.MethodName)) := by decide +kernel
theorem tq_129 : tables_1[129]? = some (Jvm.Cond.code ({ cls := "SandRipples$Text", name := "<init>", desc := "()V" } : Jvm.MethodName) prog_6_method_1_code (1 : Nat) (Option.none : Option Jvm.ClassFile.FieldType)) := by decide +kernel
theorem tq_130 : tables_1[130]? = some (Jvm.Cond.methodLink "SandRipples$Text" (3 : Nat) ({ cls := "java/lang/Object", name := "<init>", desc := "()V" } : Jvm.MethodName)) := by decide +kernel
theorem tq_131 : tables_1[131]? = some (Jvm.Cond.fieldLink "SandRipples$Text" (9 : Nat) "SandRipples$Text" "key" "I") := by decide +kernel
theorem tq_132 : tables_1[132]? = some (Jvm.Cond.fieldLinkNest "SandRipples" (231 : Nat) "SandRipples$Text" "key" "I" "SandRipples") := by decide +kernel
theorem tq_133 : tables_1[133]? = some (Jvm.Cond.fieldLink "SandRipples$Text" (15 : Nat) "SandRipples$Text" "leaves" "I") := by decide +kernel
theorem tq_134 : tables_1[134]? = some (Jvm.Cond.fieldLinkNest "SandRipples" (234 : Nat) "SandRipples$Text" "leaves" "I" "SandRipples") := by decide +kernel
theorem tq_135 : tables_1[135]? = some (Jvm.Cond.fieldLink "SandRipples$Text" (18 : Nat) "SandRipples$Text" "length" "I") := by decide +kernel
theorem tq_136 : tables_1[136]? = some (Jvm.Cond.fieldLink "SandRipples$Text" (21 : Nat) "SandRipples$Text" "steps" "[I") := by decide +kernel
theorem tq_137 : tables_1[137]? = some (Jvm.Cond.lays "SandRipples$Text" "SandRipples$Text" "key" "I") := by decide +kernel
theorem tq_138 : tables_1[138]? = some (Jvm.Cond.soleField "SandRipples$Text" "key") := by decide +kernel
theorem tq_139 : tables_1[139]? = some (Jvm.Cond.lays "SandRipples$Text" "SandRipples$Text" "leaves" "I") := by decide +kernel
theorem tq_140 : tables_1[140]? = some (Jvm.Cond.soleField "SandRipples$Text" "leaves") := by decide +kernel
theorem tq_141 : tables_1[141]? = some (Jvm.Cond.lays "SandRipples$Text" "SandRipples$Text" "length" "I") := by decide +kernel
theorem tq_142 : tables_1[142]? = some (Jvm.Cond.soleField "SandRipples$Text" "length") := by decide +kernel
theorem tq_143 : tables_1[143]? = some (Jvm.Cond.laysFinal "SandRipples$Text" "SandRipples$Text" "steps" "[I") := by decide +kernel
theorem tq_144 : tables_1[144]? = some (Jvm.Cond.soleField "SandRipples$Text" "steps") := by decide +kernel
theorem tq_145 : tables_1[145]? = some (Jvm.Cond.superclass "SandRipples$Text" "java/lang/Object") := by decide +kernel
theorem tq_146 : tables_1[146]? = some (Jvm.Cond.instantiable "SandRipples$Sheet" (3 : Nat)) := by decide +kernel
theorem tq_147 : tables_1[147]? = some (Jvm.Cond.methodLinkNest "SandRipples" (74 : Nat) ({ cls := "SandRipples$Sheet", name := "<init>", desc := "()V" } : Jvm.MethodName) "SandRipples") := by decide +kernel
theorem tq_148 : tables_1[148]? = some (Jvm.Cond.instanceMethod ({ cls := "SandRipples$Sheet", name := "<init>", desc := "()V" } : Jvm.MethodName)) := by decide +kernel
theorem tq_149 : tables_1[149]? = some (Jvm.Cond.code ({ cls := "SandRipples$Sheet", name := "<init>", desc := "()V" } : Jvm.MethodName) prog_4_method_1_code (1 : Nat) (Option.none : Option Jvm.ClassFile.FieldType)) := by decide +kernel
theorem tq_150 : tables_1[150]? = some (Jvm.Cond.methodLink "SandRipples$Sheet" (3 : Nat) ({ cls := "java/lang/Object", name := "<init>", desc := "()V" } : Jvm.MethodName)) := by decide +kernel
theorem tq_151 : tables_1[151]? = some (Jvm.Cond.fieldLink "SandRipples$Sheet" (9 : Nat) "SandRipples$Sheet" "sort" "I") := by decide +kernel
theorem tq_152 : tables_1[152]? = some (Jvm.Cond.fieldLinkNest "SandRipples" (199 : Nat) "SandRipples$Sheet" "sort" "I" "SandRipples") := by decide +kernel
theorem tq_153 : tables_1[153]? = some (Jvm.Cond.fieldLink "SandRipples$Sheet" (15 : Nat) "SandRipples$Sheet" "length" "I") := by decide +kernel
theorem tq_154 : tables_1[154]? = some (Jvm.Cond.fieldLink "SandRipples$Sheet" (18 : Nat) "SandRipples$Sheet" "places" "[I") := by decide +kernel
theorem tq_155 : tables_1[155]? = some (Jvm.Cond.fieldLinkNest "SandRipples" (245 : Nat) "SandRipples$Sheet" "places" "[I" "SandRipples") := by decide +kernel
theorem tq_156 : tables_1[156]? = some (Jvm.Cond.lays "SandRipples$Sheet" "SandRipples$Sheet" "sort" "I") := by decide +kernel
theorem tq_157 : tables_1[157]? = some (Jvm.Cond.soleField "SandRipples$Sheet" "sort") := by decide +kernel
theorem tq_158 : tables_1[158]? = some (Jvm.Cond.lays "SandRipples$Sheet" "SandRipples$Sheet" "length" "I") := by decide +kernel
theorem tq_159 : tables_1[159]? = some (Jvm.Cond.soleField "SandRipples$Sheet" "length") := by decide +kernel
theorem tq_160 : tables_1[160]? = some (Jvm.Cond.laysFinal "SandRipples$Sheet" "SandRipples$Sheet" "places" "[I") := by decide +kernel
theorem tq_161 : tables_1[161]? = some (Jvm.Cond.soleField "SandRipples$Sheet" "places") := by decide +kernel
theorem tq_162 : tables_1[162]? = some (Jvm.Cond.superclass "SandRipples$Sheet" "java/lang/Object") := by decide +kernel
theorem tq_163 : tables_1[163]? = some (Jvm.Cond.instantiable "SandRipples$Slot" (4 : Nat)) := by decide +kernel
theorem tq_164 : tables_1[164]? = some (Jvm.Cond.methodLinkNest "SandRipples" (75 : Nat) ({ cls := "SandRipples$Slot", name := "<init>", desc := "()V" } : Jvm.MethodName) "SandRipples") := by decide +kernel
theorem tq_165 : tables_1[165]? = some (Jvm.Cond.instanceMethod ({ cls := "SandRipples$Slot", name := "<init>", desc := "()V" } : Jvm.MethodName)) := by decide +kernel
theorem tq_166 : tables_1[166]? = some (Jvm.Cond.code ({ cls := "SandRipples$Slot", name := "<init>", desc := "()V" } : Jvm.MethodName) prog_5_method_1_code (1 : Nat) (Option.none : Option Jvm.ClassFile.FieldType)) := by decide +kernel
theorem tq_167 : tables_1[167]? = some (Jvm.Cond.methodLink "SandRipples$Slot" (3 : Nat) ({ cls := "java/lang/Object", name := "<init>", desc := "()V" } : Jvm.MethodName)) := by decide +kernel
theorem tq_168 : tables_1[168]? = some (Jvm.Cond.classLink "SandRipples$Slot" (15 : Nat) "SandRipples$Floor") := by decide +kernel
theorem tq_169 : tables_1[169]? = some (Jvm.Cond.methodLinkNest "SandRipples$Slot" (17 : Nat) ({ cls := "SandRipples$Floor", name := "<init>", desc := "()V" } : Jvm.MethodName) "SandRipples") := by decide +kernel
theorem tq_170 : tables_1[170]? = some (Jvm.Cond.classLink "SandRipples$Slot" (22 : Nat) "SandRipples$Sheet") := by decide +kernel
theorem tq_171 : tables_1[171]? = some (Jvm.Cond.methodLinkNest "SandRipples$Slot" (24 : Nat) ({ cls := "SandRipples$Sheet", name := "<init>", desc := "()V" } : Jvm.MethodName) "SandRipples") := by decide +kernel
theorem tq_172 : tables_1[172]? = some (Jvm.Cond.fieldLink "SandRipples$Slot" (9 : Nat) "SandRipples$Slot" "thing" "I") := by decide +kernel
theorem tq_173 : tables_1[173]? = some (Jvm.Cond.fieldLinkNest "SandRipples" (269 : Nat) "SandRipples$Slot" "thing" "I" "SandRipples") := by decide +kernel
theorem tq_174 : tables_1[174]? = some (Jvm.Cond.fieldLink "SandRipples$Slot" (18 : Nat) "SandRipples$Slot" "floor" "LSandRipples$Floor;") := by decide +kernel
theorem tq_175 : tables_1[175]? = some (Jvm.Cond.fieldLinkNest "SandRipples" (272 : Nat) "SandRipples$Slot" "floor" "LSandRipples$Floor;" "SandRipples") := by decide +kernel
theorem tq_176 : tables_1[176]? = some (Jvm.Cond.fieldLink "SandRipples$Slot" (25 : Nat) "SandRipples$Slot" "sheet" "LSandRipples$Sheet;") := by decide +kernel
theorem tq_177 : tables_1[177]? = some (Jvm.Cond.fieldLinkNest "SandRipples" (280 : Nat) "SandRipples$Slot" "sheet" "LSandRipples$Sheet;" "SandRipples") := by decide +kernel
theorem tq_178 : tables_1[178]? = some (Jvm.Cond.fieldLink "SandRipples$Slot" (29 : Nat) "SandRipples$Slot" "number" "I") := by decide +kernel
theorem tq_179 : tables_1[179]? = some (Jvm.Cond.fieldLinkNest "SandRipples" (287 : Nat) "SandRipples$Slot" "number" "I" "SandRipples") := by decide +kernel
theorem tq_180 : tables_1[180]? = some (Jvm.Cond.lays "SandRipples$Slot" "SandRipples$Slot" "thing" "I") := by decide +kernel
theorem tq_181 : tables_1[181]? = some (Jvm.Cond.soleField "SandRipples$Slot" "thing") := by decide +kernel
theorem tq_182 : tables_1[182]? = some (Jvm.Cond.laysFinal "SandRipples$Slot" "SandRipples$Slot" "floor" "LSandRipples$Floor;") := by decide +kernel
theorem tq_183 : tables_1[183]? = some (Jvm.Cond.soleField "SandRipples$Slot" "floor") := by decide +kernel
theorem tq_184 : tables_1[184]? = some (Jvm.Cond.laysFinal "SandRipples$Slot" "SandRipples$Slot" "sheet" "LSandRipples$Sheet;") := by decide +kernel
theorem tq_185 : tables_1[185]? = some (Jvm.Cond.soleField "SandRipples$Slot" "sheet") := by decide +kernel
theorem tq_186 : tables_1[186]? = some (Jvm.Cond.lays "SandRipples$Slot" "SandRipples$Slot" "number" "I") := by decide +kernel
theorem tq_187 : tables_1[187]? = some (Jvm.Cond.soleField "SandRipples$Slot" "number") := by decide +kernel
theorem tq_188 : tables_1[188]? = some (Jvm.Cond.superclass "SandRipples$Slot" "java/lang/Object") := by decide +kernel
theorem tq_189 : tables_1[189]? = some (Jvm.Cond.fieldLink "SandRipples" (14 : Nat) "SandRipples" "now" "LSandRipples$World;") := by decide +kernel
theorem tq_190 : tables_1[190]? = some (Jvm.Cond.fieldLink "SandRipples" (18 : Nat) "SandRipples" "image" "LSandRipples$World;") := by decide +kernel
theorem tq_191 : tables_1[191]? = some (Jvm.Cond.fieldLink "SandRipples" (21 : Nat) "SandRipples" "imageKept" "Z") := by decide +kernel
theorem tq_192 : tables_1[192]? = some (Jvm.Cond.fieldLink "SandRipples" (25 : Nat) "SandRipples" "thought" "LSandRipples$World;") := by decide +kernel
theorem tq_193 : tables_1[193]? = some (Jvm.Cond.fieldLink "SandRipples" (28 : Nat) "SandRipples" "lifted" "[I") := by decide +kernel
theorem tq_194 : tables_1[194]? = some (Jvm.Cond.fieldLink "SandRipples" (34 : Nat) "SandRipples" "texts" "[LSandRipples$Text;") := by decide +kernel
theorem tq_195 : tables_1[195]? = some (Jvm.Cond.fieldLink "SandRipples" (41 : Nat) "SandRipples" "reader" "LSandRipples$Reader;") := by decide +kernel
theorem tq_196 : tables_1[196]? = some (Jvm.Cond.fieldLink "SandRipples" (45 : Nat) "SandRipples" "stack" "[I") := by decide +kernel
theorem tq_197 : tables_1[197]? = some (Jvm.Cond.fieldLink "SandRipples" (48 : Nat) "SandRipples" "tape" "[I") := by decide +kernel
theorem tq_198 : tables_1[198]? = some (Jvm.Cond.fieldLink "SandRipples" (51 : Nat) "SandRipples" "tapeLength" "I") := by decide +kernel
theorem tq_199 : tables_1[199]? = some (Jvm.Cond.fieldLink "SandRipples" (57 : Nat) "SandRipples" "sheets" "[LSandRipples$Sheet;") := by decide +kernel
theorem tq_200 : tables_1[200]? = some (Jvm.Cond.fieldLink "SandRipples" (63 : Nat) "SandRipples" "slots" "[LSandRipples$Slot;") := by decide +kernel
theorem tq_201 : tables_1[201]? = some (Jvm.Cond.fieldLink "SandRipples" (67 : Nat) "SandRipples" "waiting" "[I") := by decide +kernel
theorem tq_202 : tables_1[202]? = some (Jvm.Cond.fieldLink "SandRipples" (70 : Nat) "SandRipples" "waitingCount" "I") := by decide +kernel
theorem tq_203 : tables_1[203]? = some (Jvm.Cond.laysFinal "SandRipples" "SandRipples" "now" "LSandRipples$World;") := by decide +kernel
theorem tq_204 : tables_1[204]? = some (Jvm.Cond.soleField "SandRipples" "now") := by decide +kernel
theorem tq_205 : tables_1[205]? = some (Jvm.Cond.laysFinal "SandRipples" "SandRipples" "image" "LSandRipples$World;") := by decide +kernel
theorem tq_206 : tables_1[206]? = some (Jvm.Cond.soleField "SandRipples" "image") := by decide +kernel
theorem tq_207 : tables_1[207]? = some (Jvm.Cond.lays "SandRipples" "SandRipples" "imageKept" "Z") := by decide +kernel
theorem tq_208 : tables_1[208]? = some (Jvm.Cond.soleField "SandRipples" "imageKept") := by decide +kernel
theorem tq_209 : tables_1[209]? = some (Jvm.Cond.laysFinal "SandRipples" "SandRipples" "thought" "LSandRipples$World;") := by decide +kernel
theorem tq_210 : tables_1[210]? = some (Jvm.Cond.soleField "SandRipples" "thought") := by decide +kernel
theorem tq_211 : tables_1[211]? = some (Jvm.Cond.laysFinal "SandRipples" "SandRipples" "lifted" "[I") := by decide +kernel
theorem tq_212 : tables_1[212]? = some (Jvm.Cond.soleField "SandRipples" "lifted") := by decide +kernel
theorem tq_213 : tables_1[213]? = some (Jvm.Cond.laysFinal "SandRipples" "SandRipples" "texts" "[LSandRipples$Text;") := by decide +kernel
theorem tq_214 : tables_1[214]? = some (Jvm.Cond.soleField "SandRipples" "texts") := by decide +kernel
theorem tq_215 : tables_1[215]? = some (Jvm.Cond.laysFinal "SandRipples" "SandRipples" "reader" "LSandRipples$Reader;") := by decide +kernel
theorem tq_216 : tables_1[216]? = some (Jvm.Cond.soleField "SandRipples" "reader") := by decide +kernel
theorem tq_217 : tables_1[217]? = some (Jvm.Cond.laysFinal "SandRipples" "SandRipples" "stack" "[I") := by decide +kernel
theorem tq_218 : tables_1[218]? = some (Jvm.Cond.soleField "SandRipples" "stack") := by decide +kernel
theorem tq_219 : tables_1[219]? = some (Jvm.Cond.laysFinal "SandRipples" "SandRipples" "tape" "[I") := by decide +kernel
theorem tq_220 : tables_1[220]? = some (Jvm.Cond.soleField "SandRipples" "tape") := by decide +kernel
theorem tq_221 : tables_1[221]? = some (Jvm.Cond.lays "SandRipples" "SandRipples" "tapeLength" "I") := by decide +kernel
theorem tq_222 : tables_1[222]? = some (Jvm.Cond.soleField "SandRipples" "tapeLength") := by decide +kernel
theorem tq_223 : tables_1[223]? = some (Jvm.Cond.laysFinal "SandRipples" "SandRipples" "sheets" "[LSandRipples$Sheet;") := by decide +kernel
theorem tq_224 : tables_1[224]? = some (Jvm.Cond.soleField "SandRipples" "sheets") := by decide +kernel
theorem tq_225 : tables_1[225]? = some (Jvm.Cond.laysFinal "SandRipples" "SandRipples" "slots" "[LSandRipples$Slot;") := by decide +kernel
theorem tq_226 : tables_1[226]? = some (Jvm.Cond.soleField "SandRipples" "slots") := by decide +kernel
theorem tq_227 : tables_1[227]? = some (Jvm.Cond.laysFinal "SandRipples" "SandRipples" "waiting" "[I") := by decide +kernel
theorem tq_228 : tables_1[228]? = some (Jvm.Cond.soleField "SandRipples" "waiting") := by decide +kernel
theorem tq_229 : tables_1[229]? = some (Jvm.Cond.lays "SandRipples" "SandRipples" "waitingCount" "I") := by decide +kernel
theorem tq_230 : tables_1[230]? = some (Jvm.Cond.soleField "SandRipples" "waitingCount") := by decide +kernel
theorem tq_231 : tables_1[231]? = some (Jvm.Cond.superclass "SandRipples" "java/lang/Object") := by decide +kernel
theorem tq_232 : tables_1[232]? = some (Jvm.Cond.methodLink "SandRipplesLaw" (13 : Nat) ({ cls := "SandRipples", name := "floor", desc := "(I)I" } : Jvm.MethodName)) := by decide +kernel
theorem tq_233 : tables_1[233]? = some (Jvm.Cond.instanceMethod ({ cls := "SandRipples", name := "floor", desc := "(I)I" } : Jvm.MethodName)) := by decide +kernel
theorem tq_234 : tables_1[234]? = some (Jvm.Cond.selects "SandRipples" ({ cls := "SandRipples", name := "floor", desc := "(I)I" } : Jvm.MethodName) ({ cls := "SandRipples", name := "floor", desc := "(I)I" } : Jvm.MethodName)) := by decide +kernel
theorem tq_235 : tables_1[235]? = some (Jvm.Cond.code ({ cls := "SandRipples", name := "floor", desc := "(I)I" } : Jvm.MethodName) prog_1_method_2_code (2 : Nat) (Option.some Jvm.ClassFile.FieldType.int)) := by decide +kernel
theorem tq_236 : tables_1[236]? = some (Jvm.Cond.methodLink "SandRipples" (76 : Nat) ({ cls := "SandRipples", name := "isKind", desc := "(I)Z" } : Jvm.MethodName)) := by decide +kernel
theorem tq_237 : tables_1[237]? = some (Jvm.Cond.static ({ cls := "SandRipples", name := "isKind", desc := "(I)Z" } : Jvm.MethodName)) := by decide +kernel
theorem tq_238 : tables_1[238]? = some (Jvm.Cond.code ({ cls := "SandRipples", name := "isKind", desc := "(I)Z" } : Jvm.MethodName) prog_1_method_44_code (1 : Nat) (Option.some Jvm.ClassFile.FieldType.boolean)) := by decide +kernel
theorem tq_239 : tables_1[239]? = some (Jvm.Cond.constant "SandRipples" (80 : Nat) (-1000000001 : Int32)) := by decide +kernel
theorem tq_240 : tables_1[240]? = some (Jvm.Cond.constant "SandRipples" (84 : Nat) (-1000000003 : Int32)) := by decide +kernel
theorem tq_241 : tables_1[241]? = some (Jvm.Cond.methodLinkNest "SandRipples" (89 : Nat) ({ cls := "SandRipples$Floor", name := "begin", desc := "(I)V" } : Jvm.MethodName) "SandRipples") := by decide +kernel
theorem tq_242 : tables_1[242]? = some (Jvm.Cond.privateMethod ({ cls := "SandRipples$Floor", name := "begin", desc := "(I)V" } : Jvm.MethodName)) := by decide +kernel
theorem tq_243 : tables_1[243]? = some (Jvm.Cond.instanceMethod ({ cls := "SandRipples$Floor", name := "begin", desc := "(I)V" } : Jvm.MethodName)) := by decide +kernel
theorem tq_244 : tables_1[244]? = some (Jvm.Cond.code ({ cls := "SandRipples$Floor", name := "begin", desc := "(I)V" } : Jvm.MethodName) prog_2_method_2_code (3 : Nat) (Option.none : Option Jvm.ClassFile.FieldType)) := by decide +kernel
theorem tq_245 : tables_1[245]? = some (Jvm.Cond.methodLink "SandRipplesLaw" (18 : Nat) ({ cls := "SandRipples", name := "told", desc := "(II)I" } : Jvm.MethodName)) := by decide +kernel
theorem tq_246 : tables_1[246]? = some (Jvm.Cond.instanceMethod ({ cls := "SandRipples", name := "told", desc := "(II)I" } : Jvm.MethodName)) := by decide +kernel
theorem tq_247 : tables_1[247]? = some (Jvm.Cond.selects "SandRipples" ({ cls := "SandRipples", name := "told", desc := "(II)I" } : Jvm.MethodName) ({ cls := "SandRipples", name := "told", desc := "(II)I" } : Jvm.MethodName)) := by decide +kernel
theorem tq_248 : tables_1[248]? = some (Jvm.Cond.code ({ cls := "SandRipples", name := "told", desc := "(II)I" } : Jvm.MethodName) prog_1_method_3_code (4 : Nat) (Option.some Jvm.ClassFile.FieldType.int)) := by decide +kernel
theorem tq_249 : tables_1[249]? = some (Jvm.Cond.methodLink "SandRipples" (94 : Nat) ({ cls := "SandRipples", name := "isFloor", desc := "(I)Z" } : Jvm.MethodName)) := by decide +kernel
theorem tq_250 : tables_1[250]? = some (Jvm.Cond.privateMethod ({ cls := "SandRipples", name := "isFloor", desc := "(I)Z" } : Jvm.MethodName)) := by decide +kernel
theorem tq_251 : tables_1[251]? = some (Jvm.Cond.instanceMethod ({ cls := "SandRipples", name := "isFloor", desc := "(I)Z" } : Jvm.MethodName)) := by decide +kernel
theorem tq_252 : tables_1[252]? = some (Jvm.Cond.code ({ cls := "SandRipples", name := "isFloor", desc := "(I)Z" } : Jvm.MethodName) prog_1_method_48_code (2 : Nat) (Option.some Jvm.ClassFile.FieldType.boolean)) := by decide +kernel
theorem tq_253 : tables_1[253]? = some (Jvm.Cond.methodLinkNest "SandRipples" (103 : Nat) ({ cls := "SandRipples$Floor", name := "total", desc := "()I" } : Jvm.MethodName) "SandRipples") := by decide +kernel
theorem tq_254 : tables_1[254]? = some (Jvm.Cond.privateMethod ({ cls := "SandRipples$Floor", name := "total", desc := "()I" } : Jvm.MethodName)) := by decide +kernel
theorem tq_255 : tables_1[255]? = some (Jvm.Cond.instanceMethod ({ cls := "SandRipples$Floor", name := "total", desc := "()I" } : Jvm.MethodName)) := by decide +kernel
theorem tq_256 : tables_1[256]? = some (Jvm.Cond.code ({ cls := "SandRipples$Floor", name := "total", desc := "()I" } : Jvm.MethodName) prog_2_method_4_code (3 : Nat) (Option.some Jvm.ClassFile.FieldType.int)) := by decide +kernel
theorem tq_257 : tables_1[257]? = some (Jvm.Cond.methodLinkNest "SandRipples" (107 : Nat) ({ cls := "SandRipples$Floor", name := "greatest", desc := "()I" } : Jvm.MethodName) "SandRipples") := by decide +kernel
theorem tq_258 : tables_1[258]? = some (Jvm.Cond.privateMethod ({ cls := "SandRipples$Floor", name := "greatest", desc := "()I" } : Jvm.MethodName)) := by decide +kernel
theorem tq_259 : tables_1[259]? = some (Jvm.Cond.instanceMethod ({ cls := "SandRipples$Floor", name := "greatest", desc := "()I" } : Jvm.MethodName)) := by decide +kernel
theorem tq_260 : tables_1[260]? = some (Jvm.Cond.code ({ cls := "SandRipples$Floor", name := "greatest", desc := "()I" } : Jvm.MethodName) prog_2_method_5_code (3 : Nat) (Option.some Jvm.ClassFile.FieldType.int)) := by decide +kernel
theorem tq_261 : tables_1[261]? = some (Jvm.Cond.methodLink "SandRipples$Floor" (28 : Nat) ({ cls := "java/lang/Math", name := "max", desc := "(II)I" } : Jvm.MethodName)) := by decide +kernel
theorem tq_262 : tables_1[262]? = some (Jvm.Cond.methodLinkNest "SandRipples" (110 : Nat) ({ cls := "SandRipples$Floor", name := "least", desc := "()I" } : Jvm.MethodName) "SandRipples") := by decide +kernel
theorem tq_263 : tables_1[263]? = some (Jvm.Cond.privateMethod ({ cls := "SandRipples$Floor", name := "least", desc := "()I" } : Jvm.MethodName)) := by decide +kernel
theorem tq_264 : tables_1[264]? = some (Jvm.Cond.instanceMethod ({ cls := "SandRipples$Floor", name := "least", desc := "()I" } : Jvm.MethodName)) := by decide +kernel
theorem tq_265 : tables_1[265]? = some (Jvm.Cond.code ({ cls := "SandRipples$Floor", name := "least", desc := "()I" } : Jvm.MethodName) prog_2_method_6_code (3 : Nat) (Option.some Jvm.ClassFile.FieldType.int)) := by decide +kernel
theorem tq_266 : tables_1[266]? = some (Jvm.Cond.methodLink "SandRipples$Floor" (34 : Nat) ({ cls := "java/lang/Math", name := "min", desc := "(II)I" } : Jvm.MethodName)) := by decide +kernel
theorem tq_267 : tables_1[267]? = some (Jvm.Cond.static ({ cls := "java/lang/Math", name := "min", desc := "(II)I" } : Jvm.MethodName)) := by decide +kernel
theorem tq_268 : tables_1[268]? = some (Jvm.Cond.code ({ cls := "java/lang/Math", name := "min", desc := "(II)I" } : Jvm.MethodName) prog_12_method_69_code (2 : Nat) (Option.some Jvm.ClassFile.FieldType.int)) := by decide +kernel
theorem tq_269 : tables_1[269]? = some (Jvm.Cond.methodLinkNest "SandRipples" (113 : Nat) ({ cls := "SandRipples$Floor", name := "crests", desc := "()I" } : Jvm.MethodName) "SandRipples") := by decide +kernel
theorem tq_270 : tables_1[270]? = some (Jvm.Cond.privateMethod ({ cls := "SandRipples$Floor", name := "crests", desc := "()I" } : Jvm.MethodName)) := by decide +kernel
theorem tq_271 : tables_1[271]? = some (Jvm.Cond.instanceMethod ({ cls := "SandRipples$Floor", name := "crests", desc := "()I" } : Jvm.MethodName)) := by decide +kernel
theorem tq_272 : tables_1[272]? = some (Jvm.Cond.code ({ cls := "SandRipples$Floor", name := "crests", desc := "()I" } : Jvm.MethodName) prog_2_method_8_code (3 : Nat) (Option.some Jvm.ClassFile.FieldType.int)) := by decide +kernel
theorem tq_273 : tables_1[273]? = some (Jvm.Cond.methodLink "SandRipples$Floor" (44 : Nat) ({ cls := "SandRipples$Floor", name := "isCrest", desc := "(I)Z" } : Jvm.MethodName)) := by decide +kernel
theorem tq_274 : tables_1[274]? = some (Jvm.Cond.privateMethod ({ cls := "SandRipples$Floor", name := "isCrest", desc := "(I)Z" } : Jvm.MethodName)) := by decide +kernel
theorem tq_275 : tables_1[275]? = some (Jvm.Cond.instanceMethod ({ cls := "SandRipples$Floor", name := "isCrest", desc := "(I)Z" } : Jvm.MethodName)) := by decide +kernel
theorem tq_276 : tables_1[276]? = some (Jvm.Cond.code ({ cls := "SandRipples$Floor", name := "isCrest", desc := "(I)Z" } : Jvm.MethodName) prog_2_method_7_code (2 : Nat) (Option.some Jvm.ClassFile.FieldType.boolean)) := by decide +kernel
theorem tq_277 : tables_1[277]? = some (Jvm.Cond.methodLinkNest "SandRipples$Floor" (37 : Nat) ({ cls := "SandRipples", name := "aheadOf", desc := "(I)I" } : Jvm.MethodName) "SandRipples") := by decide +kernel
theorem tq_278 : tables_1[278]? = some (Jvm.Cond.static ({ cls := "SandRipples", name := "aheadOf", desc := "(I)I" } : Jvm.MethodName)) := by decide +kernel
theorem tq_279 : tables_1[279]? = some (Jvm.Cond.code ({ cls := "SandRipples", name := "aheadOf", desc := "(I)I" } : Jvm.MethodName) prog_1_method_52_code (1 : Nat) (Option.some Jvm.ClassFile.FieldType.int)) := by decide +kernel
theorem tq_280 : tables_1[280]? = some (Jvm.Cond.methodLinkNest "SandRipples$Floor" (41 : Nat) ({ cls := "SandRipples", name := "nextOf", desc := "(I)I" } : Jvm.MethodName) "SandRipples") := by decide +kernel
theorem tq_281 : tables_1[281]? = some (Jvm.Cond.static ({ cls := "SandRipples", name := "nextOf", desc := "(I)I" } : Jvm.MethodName)) := by decide +kernel
theorem tq_282 : tables_1[282]? = some (Jvm.Cond.code ({ cls := "SandRipples", name := "nextOf", desc := "(I)I" } : Jvm.MethodName) prog_1_method_51_code (1 : Nat) (Option.some Jvm.ClassFile.FieldType.int)) := by decide +kernel
theorem tq_283 : tables_1[283]? = some (Jvm.Cond.methodLinkNest "SandRipples" (116 : Nat) ({ cls := "SandRipples$Floor", name := "lean", desc := "()I" } : Jvm.MethodName) "SandRipples") := by decide +kernel
theorem tq_284 : tables_1[284]? = some (Jvm.Cond.privateMethod ({ cls := "SandRipples$Floor", name := "lean", desc := "()I" } : Jvm.MethodName)) := by decide +kernel
theorem tq_285 : tables_1[285]? = some (Jvm.Cond.instanceMethod ({ cls := "SandRipples$Floor", name := "lean", desc := "()I" } : Jvm.MethodName)) := by decide +kernel
theorem tq_286 : tables_1[286]? = some (Jvm.Cond.code ({ cls := "SandRipples$Floor", name := "lean", desc := "()I" } : Jvm.MethodName) prog_2_method_9_code (3 : Nat) (Option.some Jvm.ClassFile.FieldType.int)) := by decide +kernel
theorem tq_287 : tables_1[287]? = some (Jvm.Cond.methodLink "SandRipples$Floor" (48 : Nat) ({ cls := "java/lang/Integer", name := "compare", desc := "(II)I" } : Jvm.MethodName)) := by decide +kernel
theorem tq_288 : tables_1[288]? = some (Jvm.Cond.static ({ cls := "java/lang/Integer", name := "compare", desc := "(II)I" } : Jvm.MethodName)) := by decide +kernel
theorem tq_289 : tables_1[289]? = some (Jvm.Cond.code ({ cls := "java/lang/Integer", name := "compare", desc := "(II)I" } : Jvm.MethodName) prog_11_method_40_code (2 : Nat) (Option.some Jvm.ClassFile.FieldType.int)) := by decide +kernel
theorem tq_290 : tables_1[290]? = some (Jvm.Cond.methodLinkNest "SandRipples" (119 : Nat) ({ cls := "SandRipples$Floor", name := "worth", desc := "()I" } : Jvm.MethodName) "SandRipples") := by decide +kernel
theorem tq_291 : tables_1[291]? = some (Jvm.Cond.privateMethod ({ cls := "SandRipples$Floor", name := "worth", desc := "()I" } : Jvm.MethodName)) := by decide +kernel
theorem tq_292 : tables_1[292]? = some (Jvm.Cond.instanceMethod ({ cls := "SandRipples$Floor", name := "worth", desc := "()I" } : Jvm.MethodName)) := by decide +kernel
theorem tq_293 : tables_1[293]? = some (Jvm.Cond.code ({ cls := "SandRipples$Floor", name := "worth", desc := "()I" } : Jvm.MethodName) prog_2_method_10_code (2 : Nat) (Option.some Jvm.ClassFile.FieldType.int)) := by decide +kernel
theorem tq_294 : tables_1[294]? = some (Jvm.Cond.methodLink "SandRipples$Floor" (53 : Nat) ({ cls := "SandRipples$Floor", name := "greatest", desc := "()I" } : Jvm.MethodName)) := by decide +kernel
theorem tq_295 : tables_1[295]? = some (Jvm.Cond.methodLink "SandRipples$Floor" (57 : Nat) ({ cls := "SandRipples$Floor", name := "least", desc := "()I" } : Jvm.MethodName)) := by decide +kernel
theorem tq_296 : tables_1[296]? = some (Jvm.Cond.methodLink "SandRipples$Floor" (60 : Nat) ({ cls := "SandRipples$Floor", name := "crests", desc := "()I" } : Jvm.MethodName)) := by decide +kernel
theorem tq_297 : tables_1[297]? = some (Jvm.Cond.methodLink "SandRipples$Floor" (63 : Nat) ({ cls := "SandRipples$Floor", name := "lean", desc := "()I" } : Jvm.MethodName)) := by decide +kernel
theorem tq_298 : tables_1[298]? = some (Jvm.Cond.methodLink "SandRipples$Floor" (66 : Nat) ({ cls := "SandRipples$Floor", name := "total", desc := "()I" } : Jvm.MethodName)) := by decide +kernel
theorem tq_299 : tables_1[299]? = some (Jvm.Cond.methodLink "SandRipples" (122 : Nat) ({ cls := "SandRipples", name := "reachOf", desc := "(LSandRipples$World;LSandRipples$Floor;)I" } : Jvm.MethodName)) := by decide +kernel
theorem tq_300 : tables_1[300]? = some (Jvm.Cond.static ({ cls := "SandRipples", name := "reachOf", desc := "(LSandRipples$World;LSandRipples$Floor;)I" } : Jvm.MethodName)) := by decide +kernel
theorem tq_301 : tables_1[301]? = some (Jvm.Cond.code ({ cls := "SandRipples", name := "reachOf", desc := "(LSandRipples$World;LSandRipples$Floor;)I" } : Jvm.MethodName) prog_1_method_55_code (3 : Nat) (Option.some Jvm.ClassFile.FieldType.int)) := by decide +kernel
theorem tq_302 : tables_1[302]? = some (Jvm.Cond.methodLink "SandRipples" (305 : Nat) ({ cls := "java/lang/Math", name := "max", desc := "(II)I" } : Jvm.MethodName)) := by decide +kernel
theorem tq_303 : tables_1[303]? = some (Jvm.Cond.methodLinkNest "SandRipples" (126 : Nat) ({ cls := "SandRipples$Floor", name := "way", desc := "()I" } : Jvm.MethodName) "SandRipples") := by decide +kernel
theorem tq_304 : tables_1[304]? = some (Jvm.Cond.privateMethod ({ cls := "SandRipples$Floor", name := "way", desc := "()I" } : Jvm.MethodName)) := by decide +kernel
theorem tq_305 : tables_1[305]? = some (Jvm.Cond.instanceMethod ({ cls := "SandRipples$Floor", name := "way", desc := "()I" } : Jvm.MethodName)) := by decide +kernel
theorem tq_306 : tables_1[306]? = some (Jvm.Cond.code ({ cls := "SandRipples$Floor", name := "way", desc := "()I" } : Jvm.MethodName) prog_2_method_11_code (1 : Nat) (Option.some Jvm.ClassFile.FieldType.int)) := by decide +kernel
theorem tq_307 : tables_1[307]? = some (Jvm.Cond.methodLink "SandRipples" (129 : Nat) ({ cls := "SandRipples", name := "marksOf", desc := "(LSandRipples$World;LSandRipples$Floor;)I" } : Jvm.MethodName)) := by decide +kernel
theorem tq_308 : tables_1[308]? = some (Jvm.Cond.privateMethod ({ cls := "SandRipples", name := "marksOf", desc := "(LSandRipples$World;LSandRipples$Floor;)I" } : Jvm.MethodName)) := by decide +kernel
theorem tq_309 : tables_1[309]? = some (Jvm.Cond.instanceMethod ({ cls := "SandRipples", name := "marksOf", desc := "(LSandRipples$World;LSandRipples$Floor;)I" } : Jvm.MethodName)) := by decide +kernel
theorem tq_310 : tables_1[310]? = some (Jvm.Cond.code ({ cls := "SandRipples", name := "marksOf", desc := "(LSandRipples$World;LSandRipples$Floor;)I" } : Jvm.MethodName) prog_1_method_58_code (7 : Nat) (Option.some Jvm.ClassFile.FieldType.int)) := by decide +kernel
theorem tq_311 : tables_1[311]? = some (Jvm.Cond.methodLinkNest "SandRipples" (169 : Nat) ({ cls := "SandRipples$Floor", name := "isCrest", desc := "(I)Z" } : Jvm.MethodName) "SandRipples") := by decide +kernel
theorem tq_312 : tables_1[312]? = some (Jvm.Cond.constant "SandRipples" (172 : Nat) (-1000000005 : Int32)) := by decide +kernel
theorem tq_313 : tables_1[313]? = some (Jvm.Cond.methodLinkNest "SandRipples" (308 : Nat) ({ cls := "SandRipples$Text", name := "value", desc := "([IIII)I" } : Jvm.MethodName) "SandRipples") := by decide +kernel
theorem tq_314 : tables_1[314]? = some (Jvm.Cond.privateMethod ({ cls := "SandRipples$Text", name := "value", desc := "([IIII)I" } : Jvm.MethodName)) := by decide +kernel
theorem tq_315 : tables_1[315]? = some (Jvm.Cond.instanceMethod ({ cls := "SandRipples$Text", name := "value", desc := "([IIII)I" } : Jvm.MethodName)) := by decide +kernel
theorem tq_316 : tables_1[316]? = some (Jvm.Cond.code ({ cls := "SandRipples$Text", name := "value", desc := "([IIII)I" } : Jvm.MethodName) prog_6_method_3_code (8 : Nat) (Option.some Jvm.ClassFile.FieldType.int)) := by decide +kernel
theorem tq_317 : tables_1[317]? = some (Jvm.Cond.methodLink "SandRipples$Text" (37 : Nat) ({ cls := "SandRipples$Text", name := "leaf", desc := "(IIII)I" } : Jvm.MethodName)) := by decide +kernel
theorem tq_318 : tables_1[318]? = some (Jvm.Cond.static ({ cls := "SandRipples$Text", name := "leaf", desc := "(IIII)I" } : Jvm.MethodName)) := by decide +kernel
theorem tq_319 : tables_1[319]? = some (Jvm.Cond.code ({ cls := "SandRipples$Text", name := "leaf", desc := "(IIII)I" } : Jvm.MethodName) prog_6_method_4_code (4 : Nat) (Option.some Jvm.ClassFile.FieldType.int)) := by decide +kernel
theorem tq_320 : tables_1[320]? = some (Jvm.Cond.methodLink "SandRipples$Text" (41 : Nat) ({ cls := "SandRipples$Text", name := "joined", desc := "(III)I" } : Jvm.MethodName)) := by decide +kernel
theorem tq_321 : tables_1[321]? = some (Jvm.Cond.static ({ cls := "SandRipples$Text", name := "joined", desc := "(III)I" } : Jvm.MethodName)) := by decide +kernel
theorem tq_322 : tables_1[322]? = some (Jvm.Cond.code ({ cls := "SandRipples$Text", name := "joined", desc := "(III)I" } : Jvm.MethodName) prog_6_method_5_code (3 : Nat) (Option.some Jvm.ClassFile.FieldType.int)) := by decide +kernel
theorem tq_323 : tables_1[323]? = some (Jvm.Cond.methodLink "SandRipples" (253 : Nat) ({ cls := "SandRipples", name := "within", desc := "(III)I" } : Jvm.MethodName)) := by decide +kernel
theorem tq_324 : tables_1[324]? = some (Jvm.Cond.static ({ cls := "SandRipples", name := "within", desc := "(III)I" } : Jvm.MethodName)) := by decide +kernel
theorem tq_325 : tables_1[325]? = some (Jvm.Cond.code ({ cls := "SandRipples", name := "within", desc := "(III)I" } : Jvm.MethodName) prog_1_method_54_code (3 : Nat) (Option.some Jvm.ClassFile.FieldType.int)) := by decide +kernel
theorem tq_326 : tables_1[326]? = some (Jvm.Cond.methodLink "SandRipples" (189 : Nat) ({ cls := "java/lang/Math", name := "min", desc := "(II)I" } : Jvm.MethodName)) := by decide +kernel
theorem tq_327 : tables_1[327]? = some (Jvm.Cond.methodLink "SandRipplesLaw" (23 : Nat) ({ cls := "SandRipples", name := "as", desc := "(II)I" } : Jvm.MethodName)) := by decide +kernel
theorem tq_328 : tables_1[328]? = some (Jvm.Cond.instanceMethod ({ cls := "SandRipples", name := "as", desc := "(II)I" } : Jvm.MethodName)) := by decide +kernel
theorem tq_329 : tables_1[329]? = some (Jvm.Cond.selects "SandRipples" ({ cls := "SandRipples", name := "as", desc := "(II)I" } : Jvm.MethodName) ({ cls := "SandRipples", name := "as", desc := "(II)I" } : Jvm.MethodName)) := by decide +kernel
theorem tq_330 : tables_1[330]? = some (Jvm.Cond.code ({ cls := "SandRipples", name := "as", desc := "(II)I" } : Jvm.MethodName) prog_1_method_4_code (4 : Nat) (Option.some Jvm.ClassFile.FieldType.int)) := by decide +kernel
theorem tq_331 : tables_1[331]? = some (Jvm.Cond.methodLink "SandRipples" (132 : Nat) ({ cls := "SandRipples", name := "isUnder", desc := "(II)Z" } : Jvm.MethodName)) := by decide +kernel
theorem tq_332 : tables_1[332]? = some (Jvm.Cond.static ({ cls := "SandRipples", name := "isUnder", desc := "(II)Z" } : Jvm.MethodName)) := by decide +kernel
theorem tq_333 : tables_1[333]? = some (Jvm.Cond.code ({ cls := "SandRipples", name := "isUnder", desc := "(II)Z" } : Jvm.MethodName) prog_1_method_49_code (4 : Nat) (Option.some Jvm.ClassFile.FieldType.boolean)) := by decide +kernel
theorem tq_334 : tables_1[334]? = some (Jvm.Cond.fieldLink "SandRipples" (299 : Nat) "SandRipples" "KIND_ABOVE" "[I") := by decide +kernel
theorem tq_335 : tables_1[335]? = some (Jvm.Cond.laysStatic "SandRipples" "KIND_ABOVE" "[I") := by decide +kernel
theorem tq_336 : tables_1[336]? = some (Jvm.Cond.constant "SandRipples" (136 : Nat) (-1000000012 : Int32)) := by decide +kernel
theorem tq_337 : tables_1[337]? = some (Jvm.Cond.methodLink "SandRipplesLaw" (27 : Nat) ({ cls := "SandRipples", name := "turns", desc := "(II)I" } : Jvm.MethodName)) := by decide +kernel
theorem tq_338 : tables_1[338]? = some (Jvm.Cond.instanceMethod ({ cls := "SandRipples", name := "turns", desc := "(II)I" } : Jvm.MethodName)) := by decide +kernel
theorem tq_339 : tables_1[339]? = some (Jvm.Cond.selects "SandRipples" ({ cls := "SandRipples", name := "turns", desc := "(II)I" } : Jvm.MethodName) ({ cls := "SandRipples", name := "turns", desc := "(II)I" } : Jvm.MethodName)) := by decide +kernel
theorem tq_340 : tables_1[340]? = some (Jvm.Cond.code ({ cls := "SandRipples", name := "turns", desc := "(II)I" } : Jvm.MethodName) prog_1_method_5_code (5 : Nat) (Option.some Jvm.ClassFile.FieldType.int)) := by decide +kernel
theorem tq_341 : tables_1[341]? = some (Jvm.Cond.methodLink "SandRipplesLaw" (31 : Nat) ({ cls := "SandRipples", name := "sea", desc := "(II)I" } : Jvm.MethodName)) := by decide +kernel
theorem tq_342 : tables_1[342]? = some (Jvm.Cond.instanceMethod ({ cls := "SandRipples", name := "sea", desc := "(II)I" } : Jvm.MethodName)) := by decide +kernel
theorem tq_343 : tables_1[343]? = some (Jvm.Cond.selects "SandRipples" ({ cls := "SandRipples", name := "sea", desc := "(II)I" } : Jvm.MethodName) ({ cls := "SandRipples", name := "sea", desc := "(II)I" } : Jvm.MethodName)) := by decide +kernel
theorem tq_344 : tables_1[344]? = some (Jvm.Cond.code ({ cls := "SandRipples", name := "sea", desc := "(II)I" } : Jvm.MethodName) prog_1_method_6_code (4 : Nat) (Option.some Jvm.ClassFile.FieldType.int)) := by decide +kernel
theorem tq_345 : tables_1[345]? = some (Jvm.Cond.fieldLink "SandRipples" (137 : Nat) "SandRipples" "SEA_LEAST" "[I") := by decide +kernel
theorem tq_346 : tables_1[346]? = some (Jvm.Cond.laysStatic "SandRipples" "SEA_LEAST" "[I") := by decide +kernel
theorem tq_347 : tables_1[347]? = some (Jvm.Cond.fieldLink "SandRipples" (140 : Nat) "SandRipples" "SEA_MOST" "[I") := by decide +kernel
theorem tq_348 : tables_1[348]? = some (Jvm.Cond.laysStatic "SandRipples" "SEA_MOST" "[I") := by decide +kernel
theorem tq_349 : tables_1[349]? = some (Jvm.Cond.methodLink "SandRipplesLaw" (35 : Nat) ({ cls := "SandRipples", name := "sand", desc := "(II)I" } : Jvm.MethodName)) := by decide +kernel
theorem tq_350 : tables_1[350]? = some (Jvm.Cond.instanceMethod ({ cls := "SandRipples", name := "sand", desc := "(II)I" } : Jvm.MethodName)) := by decide +kernel
theorem tq_351 : tables_1[351]? = some (Jvm.Cond.selects "SandRipples" ({ cls := "SandRipples", name := "sand", desc := "(II)I" } : Jvm.MethodName) ({ cls := "SandRipples", name := "sand", desc := "(II)I" } : Jvm.MethodName)) := by decide +kernel
theorem tq_352 : tables_1[352]? = some (Jvm.Cond.code ({ cls := "SandRipples", name := "sand", desc := "(II)I" } : Jvm.MethodName) prog_1_method_7_code (3 : Nat) (Option.some Jvm.ClassFile.FieldType.int)) := by decide +kernel
theorem tq_353 : tables_1[353]? = some (Jvm.Cond.methodLink "SandRipples" (146 : Nat) ({ cls := "SandRipples", name := "isCell", desc := "(I)Z" } : Jvm.MethodName)) := by decide +kernel
theorem tq_354 : tables_1[354]? = some (Jvm.Cond.static ({ cls := "SandRipples", name := "isCell", desc := "(I)Z" } : Jvm.MethodName)) := by decide +kernel
theorem tq_355 : tables_1[355]? = some (Jvm.Cond.code ({ cls := "SandRipples", name := "isCell", desc := "(I)Z" } : Jvm.MethodName) prog_1_method_45_code (1 : Nat) (Option.some Jvm.ClassFile.FieldType.boolean)) := by decide +kernel
theorem tq_356 : tables_1[356]? = some (Jvm.Cond.methodLink "SandRipplesLaw" (39 : Nat) ({ cls := "SandRipples", name := "heap", desc := "(III)I" } : Jvm.MethodName)) := by decide +kernel
theorem tq_357 : tables_1[357]? = some (Jvm.Cond.instanceMethod ({ cls := "SandRipples", name := "heap", desc := "(III)I" } : Jvm.MethodName)) := by decide +kernel
theorem tq_358 : tables_1[358]? = some (Jvm.Cond.selects "SandRipples" ({ cls := "SandRipples", name := "heap", desc := "(III)I" } : Jvm.MethodName) ({ cls := "SandRipples", name := "heap", desc := "(III)I" } : Jvm.MethodName)) := by decide +kernel
theorem tq_359 : tables_1[359]? = some (Jvm.Cond.code ({ cls := "SandRipples", name := "heap", desc := "(III)I" } : Jvm.MethodName) prog_1_method_8_code (6 : Nat) (Option.some Jvm.ClassFile.FieldType.int)) := by decide +kernel
theorem tq_360 : tables_1[360]? = some (Jvm.Cond.methodLink "SandRipplesLaw" (44 : Nat) ({ cls := "SandRipples", name := "deal", desc := "(I)I" } : Jvm.MethodName)) := by decide +kernel
theorem tq_361 : tables_1[361]? = some (Jvm.Cond.instanceMethod ({ cls := "SandRipples", name := "deal", desc := "(I)I" } : Jvm.MethodName)) := by decide +kernel
theorem tq_362 : tables_1[362]? = some (Jvm.Cond.selects "SandRipples" ({ cls := "SandRipples", name := "deal", desc := "(I)I" } : Jvm.MethodName) ({ cls := "SandRipples", name := "deal", desc := "(I)I" } : Jvm.MethodName)) := by decide +kernel
theorem tq_363 : tables_1[363]? = some (Jvm.Cond.code ({ cls := "SandRipples", name := "deal", desc := "(I)I" } : Jvm.MethodName) prog_1_method_9_code (4 : Nat) (Option.some Jvm.ClassFile.FieldType.int)) := by decide +kernel
theorem tq_364 : tables_1[364]? = some (Jvm.Cond.methodLinkNest "SandRipples" (152 : Nat) ({ cls := "SandRipples$World", name := "draw", desc := "()I" } : Jvm.MethodName) "SandRipples") := by decide +kernel
theorem tq_365 : tables_1[365]? = some (Jvm.Cond.privateMethod ({ cls := "SandRipples$World", name := "draw", desc := "()I" } : Jvm.MethodName)) := by decide +kernel
theorem tq_366 : tables_1[366]? = some (Jvm.Cond.instanceMethod ({ cls := "SandRipples$World", name := "draw", desc := "()I" } : Jvm.MethodName)) := by decide +kernel
theorem tq_367 : tables_1[367]? = some (Jvm.Cond.code ({ cls := "SandRipples$World", name := "draw", desc := "()I" } : Jvm.MethodName) prog_7_method_4_code (1 : Nat) (Option.some Jvm.ClassFile.FieldType.int)) := by decide +kernel
theorem tq_368 : tables_1[368]? = some (Jvm.Cond.constant "SandRipples$World" (56 : Nat) (1103515245 : Int32)) := by decide +kernel
theorem tq_369 : tables_1[369]? = some (Jvm.Cond.methodLink "SandRipplesLaw" (48 : Nat) ({ cls := "SandRipples", name := "seed", desc := "(I)I" } : Jvm.MethodName)) := by decide +kernel
theorem tq_370 : tables_1[370]? = some (Jvm.Cond.instanceMethod ({ cls := "SandRipples", name := "seed", desc := "(I)I" } : Jvm.MethodName)) := by decide +kernel
theorem tq_371 : tables_1[371]? = some (Jvm.Cond.selects "SandRipples" ({ cls := "SandRipples", name := "seed", desc := "(I)I" } : Jvm.MethodName) ({ cls := "SandRipples", name := "seed", desc := "(I)I" } : Jvm.MethodName)) := by decide +kernel
theorem tq_372 : tables_1[372]? = some (Jvm.Cond.code ({ cls := "SandRipples", name := "seed", desc := "(I)I" } : Jvm.MethodName) prog_1_method_10_code (3 : Nat) (Option.some Jvm.ClassFile.FieldType.int)) := by decide +kernel
theorem tq_373 : tables_1[373]? = some (Jvm.Cond.methodLink "SandRipplesLaw" (52 : Nat) ({ cls := "SandRipples", name := "lift", desc := "(III)I" } : Jvm.MethodName)) := by decide +kernel
theorem tq_374 : tables_1[374]? = some (Jvm.Cond.instanceMethod ({ cls := "SandRipples", name := "lift", desc := "(III)I" } : Jvm.MethodName)) := by decide +kernel
theorem tq_375 : tables_1[375]? = some (Jvm.Cond.selects "SandRipples" ({ cls := "SandRipples", name := "lift", desc := "(III)I" } : Jvm.MethodName) ({ cls := "SandRipples", name := "lift", desc := "(III)I" } : Jvm.MethodName)) := by decide +kernel
theorem tq_376 : tables_1[376]? = some (Jvm.Cond.code ({ cls := "SandRipples", name := "lift", desc := "(III)I" } : Jvm.MethodName) prog_1_method_11_code (5 : Nat) (Option.some Jvm.ClassFile.FieldType.int)) := by decide +kernel
theorem tq_377 : tables_1[377]? = some (Jvm.Cond.methodLink "SandRipples" (158 : Nat) ({ cls := "SandRipples", name := "liftOf", desc := "(LSandRipples$World;LSandRipples$Floor;I)I" } : Jvm.MethodName)) := by decide +kernel
theorem tq_378 : tables_1[378]? = some (Jvm.Cond.privateMethod ({ cls := "SandRipples", name := "liftOf", desc := "(LSandRipples$World;LSandRipples$Floor;I)I" } : Jvm.MethodName)) := by decide +kernel
theorem tq_379 : tables_1[379]? = some (Jvm.Cond.instanceMethod ({ cls := "SandRipples", name := "liftOf", desc := "(LSandRipples$World;LSandRipples$Floor;I)I" } : Jvm.MethodName)) := by decide +kernel
theorem tq_380 : tables_1[380]? = some (Jvm.Cond.code ({ cls := "SandRipples", name := "liftOf", desc := "(LSandRipples$World;LSandRipples$Floor;I)I" } : Jvm.MethodName) prog_1_method_56_code (10 : Nat) (Option.some Jvm.ClassFile.FieldType.int)) := by decide +kernel
theorem tq_381 : tables_1[381]? = some (Jvm.Cond.methodLink "SandRipples" (162 : Nat) ({ cls := "SandRipples", name := "inRing", desc := "(I)I" } : Jvm.MethodName)) := by decide +kernel
theorem tq_382 : tables_1[382]? = some (Jvm.Cond.static ({ cls := "SandRipples", name := "inRing", desc := "(I)I" } : Jvm.MethodName)) := by decide +kernel
theorem tq_383 : tables_1[383]? = some (Jvm.Cond.code ({ cls := "SandRipples", name := "inRing", desc := "(I)I" } : Jvm.MethodName) prog_1_method_53_code (1 : Nat) (Option.some Jvm.ClassFile.FieldType.int)) := by decide +kernel
theorem tq_384 : tables_1[384]? = some (Jvm.Cond.methodLink "SandRipples" (302 : Nat) ({ cls := "java/lang/Math", name := "floorMod", desc := "(II)I" } : Jvm.MethodName)) := by decide +kernel
theorem tq_385 : tables_1[385]? = some (Jvm.Cond.static ({ cls := "java/lang/Math", name := "floorMod", desc := "(II)I" } : Jvm.MethodName)) := by decide +kernel
theorem tq_386 : tables_1[386]? = some (Jvm.Cond.code ({ cls := "java/lang/Math", name := "floorMod", desc := "(II)I" } : Jvm.MethodName) prog_12_method_50_code (3 : Nat) (Option.some Jvm.ClassFile.FieldType.int)) := by decide +kernel
theorem tq_387 : tables_1[387]? = some (Jvm.Cond.methodLink "SandRipplesLaw" (56 : Nat) ({ cls := "SandRipples", name := "run", desc := "(II)I" } : Jvm.MethodName)) := by decide +kernel
theorem tq_388 : tables_1[388]? = some (Jvm.Cond.instanceMethod ({ cls := "SandRipples", name := "run", desc := "(II)I" } : Jvm.MethodName)) := by decide +kernel
theorem tq_389 : tables_1[389]? = some (Jvm.Cond.selects "SandRipples" ({ cls := "SandRipples", name := "run", desc := "(II)I" } : Jvm.MethodName) ({ cls := "SandRipples", name := "run", desc := "(II)I" } : Jvm.MethodName)) := by decide +kernel
theorem tq_390 : tables_1[390]? = some (Jvm.Cond.code ({ cls := "SandRipples", name := "run", desc := "(II)I" } : Jvm.MethodName) prog_1_method_12_code (5 : Nat) (Option.some Jvm.ClassFile.FieldType.int)) := by decide +kernel
theorem tq_391 : tables_1[391]? = some (Jvm.Cond.methodLink "SandRipples" (166 : Nat) ({ cls := "SandRipples", name := "oneTick", desc := "(LSandRipples$World;LSandRipples$Floor;)I" } : Jvm.MethodName)) := by decide +kernel
theorem tq_392 : tables_1[392]? = some (Jvm.Cond.privateMethod ({ cls := "SandRipples", name := "oneTick", desc := "(LSandRipples$World;LSandRipples$Floor;)I" } : Jvm.MethodName)) := by decide +kernel
theorem tq_393 : tables_1[393]? = some (Jvm.Cond.instanceMethod ({ cls := "SandRipples", name := "oneTick", desc := "(LSandRipples$World;LSandRipples$Floor;)I" } : Jvm.MethodName)) := by decide +kernel
theorem tq_394 : tables_1[394]? = some (Jvm.Cond.code ({ cls := "SandRipples", name := "oneTick", desc := "(LSandRipples$World;LSandRipples$Floor;)I" } : Jvm.MethodName) prog_1_method_59_code (4 : Nat) (Option.some Jvm.ClassFile.FieldType.int)) := by decide +kernel
theorem tq_395 : tables_1[395]? = some (Jvm.Cond.methodLink "SandRipples" (312 : Nat) ({ cls := "SandRipples", name := "liftAll", desc := "(LSandRipples$World;LSandRipples$Floor;)I" } : Jvm.MethodName)) := by decide +kernel
theorem tq_396 : tables_1[396]? = some (Jvm.Cond.privateMethod ({ cls := "SandRipples", name := "liftAll", desc := "(LSandRipples$World;LSandRipples$Floor;)I" } : Jvm.MethodName)) := by decide +kernel
theorem tq_397 : tables_1[397]? = some (Jvm.Cond.instanceMethod ({ cls := "SandRipples", name := "liftAll", desc := "(LSandRipples$World;LSandRipples$Floor;)I" } : Jvm.MethodName)) := by decide +kernel
theorem tq_398 : tables_1[398]? = some (Jvm.Cond.code ({ cls := "SandRipples", name := "liftAll", desc := "(LSandRipples$World;LSandRipples$Floor;)I" } : Jvm.MethodName) prog_1_method_60_code (7 : Nat) (Option.some Jvm.ClassFile.FieldType.int)) := by decide +kernel
theorem tq_399 : tables_1[399]? = some (Jvm.Cond.methodLink "SandRipples" (315 : Nat) ({ cls := "SandRipples", name := "slideAll", desc := "(LSandRipples$World;LSandRipples$Floor;)I" } : Jvm.MethodName)) := by decide +kernel
theorem tq_400 : tables_1[400]? = some (Jvm.Cond.privateMethod ({ cls := "SandRipples", name := "slideAll", desc := "(LSandRipples$World;LSandRipples$Floor;)I" } : Jvm.MethodName)) := by decide +kernel
theorem tq_401 : tables_1[401]? = some (Jvm.Cond.instanceMethod ({ cls := "SandRipples", name := "slideAll", desc := "(LSandRipples$World;LSandRipples$Floor;)I" } : Jvm.MethodName)) := by decide +kernel
theorem tq_402 : tables_1[402]? = some (Jvm.Cond.code ({ cls := "SandRipples", name := "slideAll", desc := "(LSandRipples$World;LSandRipples$Floor;)I" } : Jvm.MethodName) prog_1_method_61_code (8 : Nat) (Option.some Jvm.ClassFile.FieldType.int)) := by decide +kernel
theorem tq_403 : tables_1[403]? = some (Jvm.Cond.methodLink "SandRipples" (173 : Nat) ({ cls := "SandRipples", name := "nextOf", desc := "(I)I" } : Jvm.MethodName)) := by decide +kernel
theorem tq_404 : tables_1[404]? = some (Jvm.Cond.methodLink "SandRipples" (193 : Nat) ({ cls := "SandRipples", name := "aheadOf", desc := "(I)I" } : Jvm.MethodName)) := by decide +kernel
theorem tq_405 : tables_1[405]? = some (Jvm.Cond.methodLink "SandRipples" (318 : Nat) ({ cls := "SandRipples", name := "slideOf", desc := "(LSandRipples$World;I)I" } : Jvm.MethodName)) := by decide +kernel
theorem tq_406 : tables_1[406]? = some (Jvm.Cond.privateMethod ({ cls := "SandRipples", name := "slideOf", desc := "(LSandRipples$World;I)I" } : Jvm.MethodName)) := by decide +kernel
theorem tq_407 : tables_1[407]? = some (Jvm.Cond.instanceMethod ({ cls := "SandRipples", name := "slideOf", desc := "(LSandRipples$World;I)I" } : Jvm.MethodName)) := by decide +kernel
theorem tq_408 : tables_1[408]? = some (Jvm.Cond.code ({ cls := "SandRipples", name := "slideOf", desc := "(LSandRipples$World;I)I" } : Jvm.MethodName) prog_1_method_57_code (5 : Nat) (Option.some Jvm.ClassFile.FieldType.int)) := by decide +kernel
theorem tq_409 : tables_1[409]? = some (Jvm.Cond.methodLink "SandRipplesLaw" (60 : Nat) ({ cls := "SandRipples", name := "crest", desc := "(II)I" } : Jvm.MethodName)) := by decide +kernel
theorem tq_410 : tables_1[410]? = some (Jvm.Cond.instanceMethod ({ cls := "SandRipples", name := "crest", desc := "(II)I" } : Jvm.MethodName)) := by decide +kernel
theorem tq_411 : tables_1[411]? = some (Jvm.Cond.selects "SandRipples" ({ cls := "SandRipples", name := "crest", desc := "(II)I" } : Jvm.MethodName) ({ cls := "SandRipples", name := "crest", desc := "(II)I" } : Jvm.MethodName)) := by decide +kernel
theorem tq_412 : tables_1[412]? = some (Jvm.Cond.code ({ cls := "SandRipples", name := "crest", desc := "(II)I" } : Jvm.MethodName) prog_1_method_13_code (6 : Nat) (Option.some Jvm.ClassFile.FieldType.int)) := by decide +kernel
theorem tq_413 : tables_1[413]? = some (Jvm.Cond.methodLink "SandRipplesLaw" (64 : Nat) ({ cls := "SandRipples", name := "apart", desc := "(I)I" } : Jvm.MethodName)) := by decide +kernel
theorem tq_414 : tables_1[414]? = some (Jvm.Cond.instanceMethod ({ cls := "SandRipples", name := "apart", desc := "(I)I" } : Jvm.MethodName)) := by decide +kernel
theorem tq_415 : tables_1[415]? = some (Jvm.Cond.selects "SandRipples" ({ cls := "SandRipples", name := "apart", desc := "(I)I" } : Jvm.MethodName) ({ cls := "SandRipples", name := "apart", desc := "(I)I" } : Jvm.MethodName)) := by decide +kernel
theorem tq_416 : tables_1[416]? = some (Jvm.Cond.code ({ cls := "SandRipples", name := "apart", desc := "(I)I" } : Jvm.MethodName) prog_1_method_14_code (3 : Nat) (Option.some Jvm.ClassFile.FieldType.int)) := by decide +kernel
theorem tq_417 : tables_1[417]? = some (Jvm.Cond.methodLink "SandRipplesLaw" (68 : Nat) ({ cls := "SandRipples", name := "flat", desc := "(II)I" } : Jvm.MethodName)) := by decide +kernel
theorem tq_418 : tables_1[418]? = some (Jvm.Cond.instanceMethod ({ cls := "SandRipples", name := "flat", desc := "(II)I" } : Jvm.MethodName)) := by decide +kernel
theorem tq_419 : tables_1[419]? = some (Jvm.Cond.selects "SandRipples" ({ cls := "SandRipples", name := "flat", desc := "(II)I" } : Jvm.MethodName) ({ cls := "SandRipples", name := "flat", desc := "(II)I" } : Jvm.MethodName)) := by decide +kernel
theorem tq_420 : tables_1[420]? = some (Jvm.Cond.code ({ cls := "SandRipples", name := "flat", desc := "(II)I" } : Jvm.MethodName) prog_1_method_15_code (5 : Nat) (Option.some Jvm.ClassFile.FieldType.int)) := by decide +kernel
theorem tq_421 : tables_1[421]? = some (Jvm.Cond.methodLink "SandRipples" (176 : Nat) ({ cls := "java/lang/Math", name := "abs", desc := "(I)I" } : Jvm.MethodName)) := by decide +kernel
theorem tq_422 : tables_1[422]? = some (Jvm.Cond.static ({ cls := "java/lang/Math", name := "abs", desc := "(I)I" } : Jvm.MethodName)) := by decide +kernel
theorem tq_423 : tables_1[423]? = some (Jvm.Cond.code ({ cls := "java/lang/Math", name := "abs", desc := "(I)I" } : Jvm.MethodName) prog_12_method_59_code (1 : Nat) (Option.some Jvm.ClassFile.FieldType.int)) := by decide +kernel
theorem tq_424 : tables_1[424]? = some (Jvm.Cond.methodLink "SandRipplesLaw" (72 : Nat) ({ cls := "SandRipples", name := "soon", desc := "(II)I" } : Jvm.MethodName)) := by decide +kernel
theorem tq_425 : tables_1[425]? = some (Jvm.Cond.instanceMethod ({ cls := "SandRipples", name := "soon", desc := "(II)I" } : Jvm.MethodName)) := by decide +kernel
theorem tq_426 : tables_1[426]? = some (Jvm.Cond.selects "SandRipples" ({ cls := "SandRipples", name := "soon", desc := "(II)I" } : Jvm.MethodName) ({ cls := "SandRipples", name := "soon", desc := "(II)I" } : Jvm.MethodName)) := by decide +kernel
theorem tq_427 : tables_1[427]? = some (Jvm.Cond.code ({ cls := "SandRipples", name := "soon", desc := "(II)I" } : Jvm.MethodName) prog_1_method_16_code (5 : Nat) (Option.some Jvm.ClassFile.FieldType.int)) := by decide +kernel
theorem tq_428 : tables_1[428]? = some (Jvm.Cond.methodLink "SandRipples" (181 : Nat) ({ cls := "SandRipples", name := "think", desc := "(LSandRipples$World;I)LSandRipples$Floor;" } : Jvm.MethodName)) := by decide +kernel
theorem tq_429 : tables_1[429]? = some (Jvm.Cond.privateMethod ({ cls := "SandRipples", name := "think", desc := "(LSandRipples$World;I)LSandRipples$Floor;" } : Jvm.MethodName)) := by decide +kernel
theorem tq_430 : tables_1[430]? = some (Jvm.Cond.instanceMethod ({ cls := "SandRipples", name := "think", desc := "(LSandRipples$World;I)LSandRipples$Floor;" } : Jvm.MethodName)) := by decide +kernel
theorem tq_431 : tables_1[431]? = some (Jvm.Cond.code ({ cls := "SandRipples", name := "think", desc := "(LSandRipples$World;I)LSandRipples$Floor;" } : Jvm.MethodName) prog_1_method_62_code (3 : Nat) (Option.some (Jvm.ClassFile.FieldType.object "SandRipples$Floor"))) := by decide +kernel
theorem tq_432 : tables_1[432]? = some (Jvm.Cond.methodLinkNest "SandRipples" (322 : Nat) ({ cls := "SandRipples$World", name := "becomeSea", desc := "(LSandRipples$World;)V" } : Jvm.MethodName) "SandRipples") := by decide +kernel
theorem tq_433 : tables_1[433]? = some (Jvm.Cond.privateMethod ({ cls := "SandRipples$World", name := "becomeSea", desc := "(LSandRipples$World;)V" } : Jvm.MethodName)) := by decide +kernel
theorem tq_434 : tables_1[434]? = some (Jvm.Cond.instanceMethod ({ cls := "SandRipples$World", name := "becomeSea", desc := "(LSandRipples$World;)V" } : Jvm.MethodName)) := by decide +kernel
theorem tq_435 : tables_1[435]? = some (Jvm.Cond.code ({ cls := "SandRipples$World", name := "becomeSea", desc := "(LSandRipples$World;)V" } : Jvm.MethodName) prog_7_method_3_code (2 : Nat) (Option.none : Option Jvm.ClassFile.FieldType)) := by decide +kernel
theorem tq_436 : tables_1[436]? = some (Jvm.Cond.methodLink "SandRipples$World" (50 : Nat) ({ cls := "java/lang/System", name := "arraycopy", desc := "(Ljava/lang/Object;ILjava/lang/Object;II)V" } : Jvm.MethodName)) := by decide +kernel
theorem tq_437 : tables_1[437]? = some (Jvm.Cond.static ({ cls := "java/lang/System", name := "arraycopy", desc := "(Ljava/lang/Object;ILjava/lang/Object;II)V" } : Jvm.MethodName)) := by decide +kernel
theorem tq_438 : tables_1[438]? = some (Jvm.Cond.native ({ cls := "java/lang/System", name := "arraycopy", desc := "(Ljava/lang/Object;ILjava/lang/Object;II)V" } : Jvm.MethodName)) := by decide +kernel
theorem tq_439 : tables_1[439]? = some (Jvm.Cond.methodLinkNest "SandRipples" (276 : Nat) ({ cls := "SandRipples$Floor", name := "become", desc := "(LSandRipples$Floor;)V" } : Jvm.MethodName) "SandRipples") := by decide +kernel
theorem tq_440 : tables_1[440]? = some (Jvm.Cond.privateMethod ({ cls := "SandRipples$Floor", name := "become", desc := "(LSandRipples$Floor;)V" } : Jvm.MethodName)) := by decide +kernel
theorem tq_441 : tables_1[441]? = some (Jvm.Cond.instanceMethod ({ cls := "SandRipples$Floor", name := "become", desc := "(LSandRipples$Floor;)V" } : Jvm.MethodName)) := by decide +kernel
theorem tq_442 : tables_1[442]? = some (Jvm.Cond.code ({ cls := "SandRipples$Floor", name := "become", desc := "(LSandRipples$Floor;)V" } : Jvm.MethodName) prog_2_method_3_code (2 : Nat) (Option.none : Option Jvm.ClassFile.FieldType)) := by decide +kernel
theorem tq_443 : tables_1[443]? = some (Jvm.Cond.methodLink "SandRipples$Floor" (22 : Nat) ({ cls := "java/lang/System", name := "arraycopy", desc := "(Ljava/lang/Object;ILjava/lang/Object;II)V" } : Jvm.MethodName)) := by decide +kernel
theorem tq_444 : tables_1[444]? = some (Jvm.Cond.methodLink "SandRipplesLaw" (76 : Nat) ({ cls := "SandRipples", name := "period", desc := "(I)I" } : Jvm.MethodName)) := by decide +kernel
theorem tq_445 : tables_1[445]? = some (Jvm.Cond.instanceMethod ({ cls := "SandRipples", name := "period", desc := "(I)I" } : Jvm.MethodName)) := by decide +kernel
theorem tq_446 : tables_1[446]? = some (Jvm.Cond.selects "SandRipples" ({ cls := "SandRipples", name := "period", desc := "(I)I" } : Jvm.MethodName) ({ cls := "SandRipples", name := "period", desc := "(I)I" } : Jvm.MethodName)) := by decide +kernel
theorem tq_447 : tables_1[447]? = some (Jvm.Cond.code ({ cls := "SandRipples", name := "period", desc := "(I)I" } : Jvm.MethodName) prog_1_method_17_code (4 : Nat) (Option.some Jvm.ClassFile.FieldType.int)) := by decide +kernel
theorem tq_448 : tables_1[448]? = some (Jvm.Cond.methodLinkNest "SandRipples" (185 : Nat) ({ cls := "SandRipples$Floor", name := "unlikeTurned", desc := "(LSandRipples$Floor;I)I" } : Jvm.MethodName) "SandRipples") := by decide +kernel
theorem tq_449 : tables_1[449]? = some (Jvm.Cond.privateMethod ({ cls := "SandRipples$Floor", name := "unlikeTurned", desc := "(LSandRipples$Floor;I)I" } : Jvm.MethodName)) := by decide +kernel
theorem tq_450 : tables_1[450]? = some (Jvm.Cond.instanceMethod ({ cls := "SandRipples$Floor", name := "unlikeTurned", desc := "(LSandRipples$Floor;I)I" } : Jvm.MethodName)) := by decide +kernel
theorem tq_451 : tables_1[451]? = some (Jvm.Cond.code ({ cls := "SandRipples$Floor", name := "unlikeTurned", desc := "(LSandRipples$Floor;I)I" } : Jvm.MethodName) prog_2_method_12_code (5 : Nat) (Option.some Jvm.ClassFile.FieldType.int)) := by decide +kernel
theorem tq_452 : tables_1[452]? = some (Jvm.Cond.methodLinkNest "SandRipples$Floor" (69 : Nat) ({ cls := "SandRipples", name := "inRing", desc := "(I)I" } : Jvm.MethodName) "SandRipples") := by decide +kernel
theorem tq_453 : tables_1[453]? = some (Jvm.Cond.methodLink "SandRipplesLaw" (80 : Nat) ({ cls := "SandRipples", name := "foot", desc := "(III)I" } : Jvm.MethodName)) := by decide +kernel
theorem tq_454 : tables_1[454]? = some (Jvm.Cond.instanceMethod ({ cls := "SandRipples", name := "foot", desc := "(III)I" } : Jvm.MethodName)) := by decide +kernel
theorem tq_455 : tables_1[455]? = some (Jvm.Cond.selects "SandRipples" ({ cls := "SandRipples", name := "foot", desc := "(III)I" } : Jvm.MethodName) ({ cls := "SandRipples", name := "foot", desc := "(III)I" } : Jvm.MethodName)) := by decide +kernel
theorem tq_456 : tables_1[456]? = some (Jvm.Cond.code ({ cls := "SandRipples", name := "foot", desc := "(III)I" } : Jvm.MethodName) prog_1_method_18_code (6 : Nat) (Option.some Jvm.ClassFile.FieldType.int)) := by decide +kernel
theorem tq_457 : tables_1[457]? = some (Jvm.Cond.methodLink "SandRipplesLaw" (84 : Nat) ({ cls := "SandRipples", name := "worm", desc := "(II)I" } : Jvm.MethodName)) := by decide +kernel
theorem tq_458 : tables_1[458]? = some (Jvm.Cond.instanceMethod ({ cls := "SandRipples", name := "worm", desc := "(II)I" } : Jvm.MethodName)) := by decide +kernel
theorem tq_459 : tables_1[459]? = some (Jvm.Cond.selects "SandRipples" ({ cls := "SandRipples", name := "worm", desc := "(II)I" } : Jvm.MethodName) ({ cls := "SandRipples", name := "worm", desc := "(II)I" } : Jvm.MethodName)) := by decide +kernel
theorem tq_460 : tables_1[460]? = some (Jvm.Cond.code ({ cls := "SandRipples", name := "worm", desc := "(II)I" } : Jvm.MethodName) prog_1_method_19_code (7 : Nat) (Option.some Jvm.ClassFile.FieldType.int)) := by decide +kernel
theorem tq_461 : tables_1[461]? = some (Jvm.Cond.methodLink "SandRipplesLaw" (88 : Nat) ({ cls := "SandRipples", name := "press", desc := "(II)I" } : Jvm.MethodName)) := by decide +kernel
theorem tq_462 : tables_1[462]? = some (Jvm.Cond.instanceMethod ({ cls := "SandRipples", name := "press", desc := "(II)I" } : Jvm.MethodName)) := by decide +kernel
theorem tq_463 : tables_1[463]? = some (Jvm.Cond.selects "SandRipples" ({ cls := "SandRipples", name := "press", desc := "(II)I" } : Jvm.MethodName) ({ cls := "SandRipples", name := "press", desc := "(II)I" } : Jvm.MethodName)) := by decide +kernel
theorem tq_464 : tables_1[464]? = some (Jvm.Cond.code ({ cls := "SandRipples", name := "press", desc := "(II)I" } : Jvm.MethodName) prog_1_method_20_code (6 : Nat) (Option.some Jvm.ClassFile.FieldType.int)) := by decide +kernel
theorem tq_465 : tables_1[465]? = some (Jvm.Cond.methodLink "SandRipplesLaw" (92 : Nat) ({ cls := "SandRipples", name := "unlike", desc := "(II)I" } : Jvm.MethodName)) := by decide +kernel
theorem tq_466 : tables_1[466]? = some (Jvm.Cond.instanceMethod ({ cls := "SandRipples", name := "unlike", desc := "(II)I" } : Jvm.MethodName)) := by decide +kernel
theorem tq_467 : tables_1[467]? = some (Jvm.Cond.selects "SandRipples" ({ cls := "SandRipples", name := "unlike", desc := "(II)I" } : Jvm.MethodName) ({ cls := "SandRipples", name := "unlike", desc := "(II)I" } : Jvm.MethodName)) := by decide +kernel
theorem tq_468 : tables_1[468]? = some (Jvm.Cond.code ({ cls := "SandRipples", name := "unlike", desc := "(II)I" } : Jvm.MethodName) prog_1_method_21_code (3 : Nat) (Option.some Jvm.ClassFile.FieldType.int)) := by decide +kernel
theorem tq_469 : tables_1[469]? = some (Jvm.Cond.methodLink "SandRipplesLaw" (96 : Nat) ({ cls := "SandRipples", name := "turned", desc := "(III)I" } : Jvm.MethodName)) := by decide +kernel
theorem tq_470 : tables_1[470]? = some (Jvm.Cond.instanceMethod ({ cls := "SandRipples", name := "turned", desc := "(III)I" } : Jvm.MethodName)) := by decide +kernel
theorem tq_471 : tables_1[471]? = some (Jvm.Cond.selects "SandRipples" ({ cls := "SandRipples", name := "turned", desc := "(III)I" } : Jvm.MethodName) ({ cls := "SandRipples", name := "turned", desc := "(III)I" } : Jvm.MethodName)) := by decide +kernel
theorem tq_472 : tables_1[472]? = some (Jvm.Cond.code ({ cls := "SandRipples", name := "turned", desc := "(III)I" } : Jvm.MethodName) prog_1_method_22_code (8 : Nat) (Option.some Jvm.ClassFile.FieldType.int)) := by decide +kernel
theorem tq_473 : tables_1[473]? = some (Jvm.Cond.methodLink "SandRipplesLaw" (100 : Nat) ({ cls := "SandRipples", name := "seen", desc := "(III)I" } : Jvm.MethodName)) := by decide +kernel
theorem tq_474 : tables_1[474]? = some (Jvm.Cond.instanceMethod ({ cls := "SandRipples", name := "seen", desc := "(III)I" } : Jvm.MethodName)) := by decide +kernel
theorem tq_475 : tables_1[475]? = some (Jvm.Cond.selects "SandRipples" ({ cls := "SandRipples", name := "seen", desc := "(III)I" } : Jvm.MethodName) ({ cls := "SandRipples", name := "seen", desc := "(III)I" } : Jvm.MethodName)) := by decide +kernel
theorem tq_476 : tables_1[476]? = some (Jvm.Cond.code ({ cls := "SandRipples", name := "seen", desc := "(III)I" } : Jvm.MethodName) prog_1_method_23_code (9 : Nat) (Option.some Jvm.ClassFile.FieldType.int)) := by decide +kernel
theorem tq_477 : tables_1[477]? = some (Jvm.Cond.methodLink "SandRipples" (196 : Nat) ({ cls := "SandRipples", name := "isSheet", desc := "(I)Z" } : Jvm.MethodName)) := by decide +kernel
theorem tq_478 : tables_1[478]? = some (Jvm.Cond.static ({ cls := "SandRipples", name := "isSheet", desc := "(I)Z" } : Jvm.MethodName)) := by decide +kernel
theorem tq_479 : tables_1[479]? = some (Jvm.Cond.code ({ cls := "SandRipples", name := "isSheet", desc := "(I)Z" } : Jvm.MethodName) prog_1_method_46_code (1 : Nat) (Option.some Jvm.ClassFile.FieldType.boolean)) := by decide +kernel
theorem tq_480 : tables_1[480]? = some (Jvm.Cond.constant "SandRipples" (202 : Nat) (-1000000011 : Int32)) := by decide +kernel
theorem tq_481 : tables_1[481]? = some (Jvm.Cond.constant "SandRipples" (205 : Nat) (2147483647 : Int32)) := by decide +kernel
theorem tq_482 : tables_1[482]? = some (Jvm.Cond.methodLink "SandRipples" (206 : Nat) ({ cls := "SandRipples", name := "thinkBehind", desc := "(IIII)LSandRipples$Floor;" } : Jvm.MethodName)) := by decide +kernel
theorem tq_483 : tables_1[483]? = some (Jvm.Cond.privateMethod ({ cls := "SandRipples", name := "thinkBehind", desc := "(IIII)LSandRipples$Floor;" } : Jvm.MethodName)) := by decide +kernel
theorem tq_484 : tables_1[484]? = some (Jvm.Cond.instanceMethod ({ cls := "SandRipples", name := "thinkBehind", desc := "(IIII)LSandRipples$Floor;" } : Jvm.MethodName)) := by decide +kernel
theorem tq_485 : tables_1[485]? = some (Jvm.Cond.code ({ cls := "SandRipples", name := "thinkBehind", desc := "(IIII)LSandRipples$Floor;" } : Jvm.MethodName) prog_1_method_63_code (7 : Nat) (Option.some (Jvm.ClassFile.FieldType.object "SandRipples$Floor"))) := by decide +kernel
theorem tq_486 : tables_1[486]? = some (Jvm.Cond.methodLinkNest "SandRipples" (210 : Nat) ({ cls := "SandRipples$Sheet", name := "differences", desc := "(LSandRipples$Floor;)I" } : Jvm.MethodName) "SandRipples") := by decide +kernel
theorem tq_487 : tables_1[487]? = some (Jvm.Cond.privateMethod ({ cls := "SandRipples$Sheet", name := "differences", desc := "(LSandRipples$Floor;)I" } : Jvm.MethodName)) := by decide +kernel
theorem tq_488 : tables_1[488]? = some (Jvm.Cond.instanceMethod ({ cls := "SandRipples$Sheet", name := "differences", desc := "(LSandRipples$Floor;)I" } : Jvm.MethodName)) := by decide +kernel
theorem tq_489 : tables_1[489]? = some (Jvm.Cond.code ({ cls := "SandRipples$Sheet", name := "differences", desc := "(LSandRipples$Floor;)I" } : Jvm.MethodName) prog_4_method_7_code (4 : Nat) (Option.some Jvm.ClassFile.FieldType.int)) := by decide +kernel
theorem tq_490 : tables_1[490]? = some (Jvm.Cond.methodLink "SandRipples$Sheet" (33 : Nat) ({ cls := "SandRipples$Sheet", name := "isNumber", desc := "(I)Z" } : Jvm.MethodName)) := by decide +kernel
theorem tq_491 : tables_1[491]? = some (Jvm.Cond.privateMethod ({ cls := "SandRipples$Sheet", name := "isNumber", desc := "(I)Z" } : Jvm.MethodName)) := by decide +kernel
theorem tq_492 : tables_1[492]? = some (Jvm.Cond.instanceMethod ({ cls := "SandRipples$Sheet", name := "isNumber", desc := "(I)Z" } : Jvm.MethodName)) := by decide +kernel
theorem tq_493 : tables_1[493]? = some (Jvm.Cond.code ({ cls := "SandRipples$Sheet", name := "isNumber", desc := "(I)Z" } : Jvm.MethodName) prog_4_method_6_code (2 : Nat) (Option.some Jvm.ClassFile.FieldType.boolean)) := by decide +kernel
theorem tq_494 : tables_1[494]? = some (Jvm.Cond.methodLink "SandRipples$Sheet" (28 : Nat) ({ cls := "SandRipples$Sheet", name := "hasPlace", desc := "(I)Z" } : Jvm.MethodName)) := by decide +kernel
theorem tq_495 : tables_1[495]? = some (Jvm.Cond.privateMethod ({ cls := "SandRipples$Sheet", name := "hasPlace", desc := "(I)Z" } : Jvm.MethodName)) := by decide +kernel
theorem tq_496 : tables_1[496]? = some (Jvm.Cond.instanceMethod ({ cls := "SandRipples$Sheet", name := "hasPlace", desc := "(I)Z" } : Jvm.MethodName)) := by decide +kernel
theorem tq_497 : tables_1[497]? = some (Jvm.Cond.code ({ cls := "SandRipples$Sheet", name := "hasPlace", desc := "(I)Z" } : Jvm.MethodName) prog_4_method_4_code (2 : Nat) (Option.some Jvm.ClassFile.FieldType.boolean)) := by decide +kernel
theorem tq_498 : tables_1[498]? = some (Jvm.Cond.constant "SandRipples$Sheet" (32 : Nat) (-1000000005 : Int32)) := by decide +kernel
theorem tq_499 : tables_1[499]? = some (Jvm.Cond.methodLink "SandRipples$Sheet" (41 : Nat) ({ cls := "java/lang/Math", name := "abs", desc := "(I)I" } : Jvm.MethodName)) := by decide +kernel
theorem tq_500 : tables_1[500]? = some (Jvm.Cond.methodLink "SandRipplesLaw" (104 : Nat) ({ cls := "SandRipples", name := "best", desc := "(III)I" } : Jvm.MethodName)) := by decide +kernel
theorem tq_501 : tables_1[501]? = some (Jvm.Cond.instanceMethod ({ cls := "SandRipples", name := "best", desc := "(III)I" } : Jvm.MethodName)) := by decide +kernel
theorem tq_502 : tables_1[502]? = some (Jvm.Cond.selects "SandRipples" ({ cls := "SandRipples", name := "best", desc := "(III)I" } : Jvm.MethodName) ({ cls := "SandRipples", name := "best", desc := "(III)I" } : Jvm.MethodName)) := by decide +kernel
theorem tq_503 : tables_1[503]? = some (Jvm.Cond.code ({ cls := "SandRipples", name := "best", desc := "(III)I" } : Jvm.MethodName) prog_1_method_24_code (8 : Nat) (Option.some Jvm.ClassFile.FieldType.int)) := by decide +kernel
theorem tq_504 : tables_1[504]? = some (Jvm.Cond.methodLink "SandRipplesLaw" (108 : Nat) ({ cls := "SandRipples", name := "feed", desc := "(III)I" } : Jvm.MethodName)) := by decide +kernel
theorem tq_505 : tables_1[505]? = some (Jvm.Cond.instanceMethod ({ cls := "SandRipples", name := "feed", desc := "(III)I" } : Jvm.MethodName)) := by decide +kernel
theorem tq_506 : tables_1[506]? = some (Jvm.Cond.selects "SandRipples" ({ cls := "SandRipples", name := "feed", desc := "(III)I" } : Jvm.MethodName) ({ cls := "SandRipples", name := "feed", desc := "(III)I" } : Jvm.MethodName)) := by decide +kernel
theorem tq_507 : tables_1[507]? = some (Jvm.Cond.code ({ cls := "SandRipples", name := "feed", desc := "(III)I" } : Jvm.MethodName) prog_1_method_25_code (4 : Nat) (Option.some Jvm.ClassFile.FieldType.int)) := by decide +kernel
theorem tq_508 : tables_1[508]? = some (Jvm.Cond.methodLink "SandRipples" (214 : Nat) ({ cls := "SandRipples", name := "feedNumber", desc := "(I)V" } : Jvm.MethodName)) := by decide +kernel
theorem tq_509 : tables_1[509]? = some (Jvm.Cond.privateMethod ({ cls := "SandRipples", name := "feedNumber", desc := "(I)V" } : Jvm.MethodName)) := by decide +kernel
theorem tq_510 : tables_1[510]? = some (Jvm.Cond.instanceMethod ({ cls := "SandRipples", name := "feedNumber", desc := "(I)V" } : Jvm.MethodName)) := by decide +kernel
theorem tq_511 : tables_1[511]? = some (Jvm.Cond.code ({ cls := "SandRipples", name := "feedNumber", desc := "(I)V" } : Jvm.MethodName) prog_1_method_64_code (3 : Nat) (Option.none : Option Jvm.ClassFile.FieldType)) := by decide +kernel
theorem tq_512 : tables_1[512]? = some (Jvm.Cond.methodLink "SandRipplesLaw" (112 : Nat) ({ cls := "SandRipples", name := "trim", desc := "(I)I" } : Jvm.MethodName)) := by decide +kernel
theorem tq_513 : tables_1[513]? = some (Jvm.Cond.instanceMethod ({ cls := "SandRipples", name := "trim", desc := "(I)I" } : Jvm.MethodName)) := by decide +kernel
theorem tq_514 : tables_1[514]? = some (Jvm.Cond.selects "SandRipples" ({ cls := "SandRipples", name := "trim", desc := "(I)I" } : Jvm.MethodName) ({ cls := "SandRipples", name := "trim", desc := "(I)I" } : Jvm.MethodName)) := by decide +kernel
theorem tq_515 : tables_1[515]? = some (Jvm.Cond.code ({ cls := "SandRipples", name := "trim", desc := "(I)I" } : Jvm.MethodName) prog_1_method_26_code (2 : Nat) (Option.some Jvm.ClassFile.FieldType.int)) := by decide +kernel
theorem tq_516 : tables_1[516]? = some (Jvm.Cond.methodLink "SandRipplesLaw" (116 : Nat) ({ cls := "SandRipples", name := "text", desc := "()I" } : Jvm.MethodName)) := by decide +kernel
theorem tq_517 : tables_1[517]? = some (Jvm.Cond.instanceMethod ({ cls := "SandRipples", name := "text", desc := "()I" } : Jvm.MethodName)) := by decide +kernel
theorem tq_518 : tables_1[518]? = some (Jvm.Cond.selects "SandRipples" ({ cls := "SandRipples", name := "text", desc := "()I" } : Jvm.MethodName) ({ cls := "SandRipples", name := "text", desc := "()I" } : Jvm.MethodName)) := by decide +kernel
theorem tq_519 : tables_1[519]? = some (Jvm.Cond.code ({ cls := "SandRipples", name := "text", desc := "()I" } : Jvm.MethodName) prog_1_method_27_code (4 : Nat) (Option.some Jvm.ClassFile.FieldType.int)) := by decide +kernel
theorem tq_520 : tables_1[520]? = some (Jvm.Cond.methodLinkNest "SandRipples" (217 : Nat) ({ cls := "SandRipples$Reader", name := "faultOf", desc := "([II)I" } : Jvm.MethodName) "SandRipples") := by decide +kernel
theorem tq_521 : tables_1[521]? = some (Jvm.Cond.privateMethod ({ cls := "SandRipples$Reader", name := "faultOf", desc := "([II)I" } : Jvm.MethodName)) := by decide +kernel
theorem tq_522 : tables_1[522]? = some (Jvm.Cond.instanceMethod ({ cls := "SandRipples$Reader", name := "faultOf", desc := "([II)I" } : Jvm.MethodName)) := by decide +kernel
theorem tq_523 : tables_1[523]? = some (Jvm.Cond.code ({ cls := "SandRipples$Reader", name := "faultOf", desc := "([II)I" } : Jvm.MethodName) prog_3_method_2_code (8 : Nat) (Option.some Jvm.ClassFile.FieldType.int)) := by decide +kernel
theorem tq_524 : tables_1[524]? = some (Jvm.Cond.methodLink "SandRipples$Reader" (41 : Nat) ({ cls := "SandRipples$Reader", name := "begin", desc := "()V" } : Jvm.MethodName)) := by decide +kernel
theorem tq_525 : tables_1[525]? = some (Jvm.Cond.privateMethod ({ cls := "SandRipples$Reader", name := "begin", desc := "()V" } : Jvm.MethodName)) := by decide +kernel
theorem tq_526 : tables_1[526]? = some (Jvm.Cond.instanceMethod ({ cls := "SandRipples$Reader", name := "begin", desc := "()V" } : Jvm.MethodName)) := by decide +kernel
theorem tq_527 : tables_1[527]? = some (Jvm.Cond.code ({ cls := "SandRipples$Reader", name := "begin", desc := "()V" } : Jvm.MethodName) prog_3_method_3_code (1 : Nat) (Option.none : Option Jvm.ClassFile.FieldType)) := by decide +kernel
theorem tq_528 : tables_1[528]? = some (Jvm.Cond.methodLink "SandRipples$Reader" (44 : Nat) ({ cls := "SandRipples$Reader", name := "pastBlanks", desc := "([III)I" } : Jvm.MethodName)) := by decide +kernel
theorem tq_529 : tables_1[529]? = some (Jvm.Cond.static ({ cls := "SandRipples$Reader", name := "pastBlanks", desc := "([III)I" } : Jvm.MethodName)) := by decide +kernel
theorem tq_530 : tables_1[530]? = some (Jvm.Cond.code ({ cls := "SandRipples$Reader", name := "pastBlanks", desc := "([III)I" } : Jvm.MethodName) prog_3_method_20_code (4 : Nat) (Option.some Jvm.ClassFile.FieldType.int)) := by decide +kernel
theorem tq_531 : tables_1[531]? = some (Jvm.Cond.methodLink "SandRipples$Reader" (48 : Nat) ({ cls := "SandRipples$Reader", name := "endOfWord", desc := "([III)I" } : Jvm.MethodName)) := by decide +kernel
theorem tq_532 : tables_1[532]? = some (Jvm.Cond.static ({ cls := "SandRipples$Reader", name := "endOfWord", desc := "([III)I" } : Jvm.MethodName)) := by decide +kernel
theorem tq_533 : tables_1[533]? = some (Jvm.Cond.code ({ cls := "SandRipples$Reader", name := "endOfWord", desc := "([III)I" } : Jvm.MethodName) prog_3_method_21_code (6 : Nat) (Option.some Jvm.ClassFile.FieldType.int)) := by decide +kernel
theorem tq_534 : tables_1[534]? = some (Jvm.Cond.methodLink "SandRipples$Reader" (75 : Nat) ({ cls := "SandRipples$Reader", name := "isLetter", desc := "(I)Z" } : Jvm.MethodName)) := by decide +kernel
theorem tq_535 : tables_1[535]? = some (Jvm.Cond.static ({ cls := "SandRipples$Reader", name := "isLetter", desc := "(I)Z" } : Jvm.MethodName)) := by decide +kernel
theorem tq_536 : tables_1[536]? = some (Jvm.Cond.code ({ cls := "SandRipples$Reader", name := "isLetter", desc := "(I)Z" } : Jvm.MethodName) prog_3_method_23_code (1 : Nat) (Option.some Jvm.ClassFile.FieldType.boolean)) := by decide +kernel
theorem tq_537 : tables_1[537]? = some (Jvm.Cond.methodLink "SandRipples$Reader" (69 : Nat) ({ cls := "SandRipples$Reader", name := "isDigit", desc := "(I)Z" } : Jvm.MethodName)) := by decide +kernel
theorem tq_538 : tables_1[538]? = some (Jvm.Cond.static ({ cls := "SandRipples$Reader", name := "isDigit", desc := "(I)Z" } : Jvm.MethodName)) := by decide +kernel
theorem tq_539 : tables_1[539]? = some (Jvm.Cond.code ({ cls := "SandRipples$Reader", name := "isDigit", desc := "(I)Z" } : Jvm.MethodName) prog_3_method_24_code (1 : Nat) (Option.some Jvm.ClassFile.FieldType.boolean)) := by decide +kernel
theorem tq_540 : tables_1[540]? = some (Jvm.Cond.methodLink "SandRipples$Reader" (51 : Nat) ({ cls := "SandRipples$Reader", name := "keyOf", desc := "([III)I" } : Jvm.MethodName)) := by decide +kernel
theorem tq_541 : tables_1[541]? = some (Jvm.Cond.static ({ cls := "SandRipples$Reader", name := "keyOf", desc := "([III)I" } : Jvm.MethodName)) := by decide +kernel
theorem tq_542 : tables_1[542]? = some (Jvm.Cond.code ({ cls := "SandRipples$Reader", name := "keyOf", desc := "([III)I" } : Jvm.MethodName) prog_3_method_16_code (4 : Nat) (Option.some Jvm.ClassFile.FieldType.int)) := by decide +kernel
theorem tq_543 : tables_1[543]? = some (Jvm.Cond.methodLink "SandRipples$Reader" (113 : Nat) ({ cls := "SandRipples$Reader", name := "wordOf", desc := "(I)Ljava/lang/String;" } : Jvm.MethodName)) := by decide +kernel
theorem tq_544 : tables_1[544]? = some (Jvm.Cond.static ({ cls := "SandRipples$Reader", name := "wordOf", desc := "(I)Ljava/lang/String;" } : Jvm.MethodName)) := by decide +kernel
theorem tq_545 : tables_1[545]? = some (Jvm.Cond.code ({ cls := "SandRipples$Reader", name := "wordOf", desc := "(I)Ljava/lang/String;" } : Jvm.MethodName) prog_3_method_17_code (1 : Nat) (Option.some (Jvm.ClassFile.FieldType.object "java/lang/String"))) := by decide +kernel
theorem tq_546 : tables_1[546]? = some (Jvm.Cond.stringRef "SandRipples$Reader" (120 : Nat) "lift") := by decide +kernel
theorem tq_547 : tables_1[547]? = some (Jvm.Cond.stringRef "SandRipples$Reader" (122 : Nat) "slide") := by decide +kernel
theorem tq_548 : tables_1[548]? = some (Jvm.Cond.stringRef "SandRipples$Reader" (124 : Nat) "mark") := by decide +kernel
theorem tq_549 : tables_1[549]? = some (Jvm.Cond.methodLink "SandRipples$Reader" (116 : Nat) ({ cls := "SandRipples$Reader", name := "isWord", desc := "([IIILjava/lang/String;)Z" } : Jvm.MethodName)) := by decide +kernel
theorem tq_550 : tables_1[550]? = some (Jvm.Cond.static ({ cls := "SandRipples$Reader", name := "isWord", desc := "([IIILjava/lang/String;)Z" } : Jvm.MethodName)) := by decide +kernel
theorem tq_551 : tables_1[551]? = some (Jvm.Cond.code ({ cls := "SandRipples$Reader", name := "isWord", desc := "([IIILjava/lang/String;)Z" } : Jvm.MethodName) prog_3_method_19_code (5 : Nat) (Option.some Jvm.ClassFile.FieldType.boolean)) := by decide +kernel
theorem tq_552 : tables_1[552]? = some (Jvm.Cond.methodLink "SandRipples$Reader" (132 : Nat) ({ cls := "java/lang/String", name := "length", desc := "()I" } : Jvm.MethodName)) := by decide +kernel
theorem tq_553 : tables_1[553]? = some (Jvm.Cond.instanceMethod ({ cls := "java/lang/String", name := "length", desc := "()I" } : Jvm.MethodName)) := by decide +kernel
theorem tq_554 : tables_1[554]? = some (Jvm.Cond.selects "java/lang/String" ({ cls := "java/lang/String", name := "length", desc := "()I" } : Jvm.MethodName) ({ cls := "java/lang/String", name := "length", desc := "()I" } : Jvm.MethodName)) := by decide +kernel
theorem tq_555 : tables_1[555]? = some (Jvm.Cond.code ({ cls := "java/lang/String", name := "length", desc := "()I" } : Jvm.MethodName) prog_13_method_54_code (1 : Nat) (Option.some Jvm.ClassFile.FieldType.int)) := by decide +kernel
theorem tq_556 : tables_1[556]? = some (Jvm.Cond.methodLink "java/lang/String" (335 : Nat) ({ cls := "java/lang/String", name := "coder", desc := "()B" } : Jvm.MethodName)) := by decide +kernel
theorem tq_557 : tables_1[557]? = some (Jvm.Cond.instanceMethod ({ cls := "java/lang/String", name := "coder", desc := "()B" } : Jvm.MethodName)) := by decide +kernel
theorem tq_558 : tables_1[558]? = some (Jvm.Cond.selects "java/lang/String" ({ cls := "java/lang/String", name := "coder", desc := "()B" } : Jvm.MethodName) ({ cls := "java/lang/String", name := "coder", desc := "()B" } : Jvm.MethodName)) := by decide +kernel
theorem tq_559 : tables_1[559]? = some (Jvm.Cond.code ({ cls := "java/lang/String", name := "coder", desc := "()B" } : Jvm.MethodName) prog_13_method_152_code (1 : Nat) (Option.some Jvm.ClassFile.FieldType.byte)) := by decide +kernel
theorem tq_560 : tables_1[560]? = some (Jvm.Cond.fieldLink "java/lang/String" (38 : Nat) "java/lang/String" "COMPACT_STRINGS" "Z") := by decide +kernel
theorem tq_561 : tables_1[561]? = some (Jvm.Cond.laysStatic "java/lang/String" "COMPACT_STRINGS" "Z") := by decide +kernel
theorem tq_562 : tables_1[562]? = some (Jvm.Cond.methodLink "SandRipples$Reader" (135 : Nat) ({ cls := "java/lang/String", name := "charAt", desc := "(I)C" } : Jvm.MethodName)) := by decide +kernel
theorem tq_563 : tables_1[563]? = some (Jvm.Cond.instanceMethod ({ cls := "java/lang/String", name := "charAt", desc := "(I)C" } : Jvm.MethodName)) := by decide +kernel
theorem tq_564 : tables_1[564]? = some (Jvm.Cond.selects "java/lang/String" ({ cls := "java/lang/String", name := "charAt", desc := "(I)C" } : Jvm.MethodName) ({ cls := "java/lang/String", name := "charAt", desc := "(I)C" } : Jvm.MethodName)) := by decide +kernel
theorem tq_565 : tables_1[565]? = some (Jvm.Cond.code ({ cls := "java/lang/String", name := "charAt", desc := "(I)C" } : Jvm.MethodName) prog_13_method_56_code (2 : Nat) (Option.some Jvm.ClassFile.FieldType.char)) := by decide +kernel
theorem tq_566 : tables_1[566]? = some (Jvm.Cond.methodLink "java/lang/String" (492 : Nat) ({ cls := "java/lang/String", name := "isLatin1", desc := "()Z" } : Jvm.MethodName)) := by decide +kernel
theorem tq_567 : tables_1[567]? = some (Jvm.Cond.instanceMethod ({ cls := "java/lang/String", name := "isLatin1", desc := "()Z" } : Jvm.MethodName)) := by decide +kernel
theorem tq_568 : tables_1[568]? = some (Jvm.Cond.selects "java/lang/String" ({ cls := "java/lang/String", name := "isLatin1", desc := "()Z" } : Jvm.MethodName) ({ cls := "java/lang/String", name := "isLatin1", desc := "()Z" } : Jvm.MethodName)) := by decide +kernel
theorem tq_569 : tables_1[569]? = some (Jvm.Cond.code ({ cls := "java/lang/String", name := "isLatin1", desc := "()Z" } : Jvm.MethodName) prog_13_method_154_code (1 : Nat) (Option.some Jvm.ClassFile.FieldType.boolean)) := by decide +kernel
theorem tq_570 : tables_1[570]? = some (Jvm.Cond.methodLink "java/lang/String" (495 : Nat) ({ cls := "java/lang/StringLatin1", name := "charAt", desc := "([BI)C" } : Jvm.MethodName)) := by decide +kernel
theorem tq_571 : tables_1[571]? = some (Jvm.Cond.static ({ cls := "java/lang/StringLatin1", name := "charAt", desc := "([BI)C" } : Jvm.MethodName)) := by decide +kernel
theorem tq_572 : tables_1[572]? = some (Jvm.Cond.code ({ cls := "java/lang/StringLatin1", name := "charAt", desc := "([BI)C" } : Jvm.MethodName) prog_14_method_2_code (2 : Nat) (Option.some Jvm.ClassFile.FieldType.char)) := by decide +kernel
theorem tq_573 : tables_1[573]? = some (Jvm.Cond.methodLink "java/lang/StringLatin1" (9 : Nat) ({ cls := "java/lang/String", name := "checkIndex", desc := "(II)V" } : Jvm.MethodName)) := by decide +kernel
theorem tq_574 : tables_1[574]? = some (Jvm.Cond.static ({ cls := "java/lang/String", name := "checkIndex", desc := "(II)V" } : Jvm.MethodName)) := by decide +kernel
theorem tq_575 : tables_1[575]? = some (Jvm.Cond.code ({ cls := "java/lang/String", name := "checkIndex", desc := "(II)V" } : Jvm.MethodName) prog_13_method_155_code (2 : Nat) (Option.none : Option Jvm.ClassFile.FieldType)) := by decide +kernel
theorem tq_576 : tables_1[576]? = some (Jvm.Cond.fieldLink "java/lang/String" (1053 : Nat) "jdk/internal/util/Preconditions" "SIOOBE_FORMATTER" "Ljava/util/function/BiFunction;") := by decide +kernel
theorem tq_577 : tables_1[577]? = some (Jvm.Cond.laysStatic "jdk/internal/util/Preconditions" "SIOOBE_FORMATTER" "Ljava/util/function/BiFunction;") := by decide +kernel
theorem tq_578 : tables_1[578]? = some (Jvm.Cond.methodLink "java/lang/String" (1059 : Nat) ({ cls := "jdk/internal/util/Preconditions", name := "checkIndex", desc := "(IILjava/util/function/BiFunction;)I" } : Jvm.MethodName)) := by decide +kernel
theorem tq_579 : tables_1[579]? = some (Jvm.Cond.static ({ cls := "jdk/internal/util/Preconditions", name := "checkIndex", desc := "(IILjava/util/function/BiFunction;)I" } : Jvm.MethodName)) := by decide +kernel
theorem tq_580 : tables_1[580]? = some (Jvm.Cond.code ({ cls := "jdk/internal/util/Preconditions", name := "checkIndex", desc := "(IILjava/util/function/BiFunction;)I" } : Jvm.MethodName) prog_17_method_11_code (3 : Nat) (Option.some Jvm.ClassFile.FieldType.int)) := by decide +kernel
theorem tq_581 : tables_1[581]? = some (Jvm.Cond.methodLink "java/lang/String" (498 : Nat) ({ cls := "java/lang/StringUTF16", name := "charAt", desc := "([BI)C" } : Jvm.MethodName)) := by decide +kernel
theorem tq_582 : tables_1[582]? = some (Jvm.Cond.static ({ cls := "java/lang/StringUTF16", name := "charAt", desc := "([BI)C" } : Jvm.MethodName)) := by decide +kernel
theorem tq_583 : tables_1[583]? = some (Jvm.Cond.code ({ cls := "java/lang/StringUTF16", name := "charAt", desc := "([BI)C" } : Jvm.MethodName) prog_15_method_83_code (2 : Nat) (Option.some Jvm.ClassFile.FieldType.char)) := by decide +kernel
theorem tq_584 : tables_1[584]? = some (Jvm.Cond.methodLink "java/lang/StringUTF16" (67 : Nat) ({ cls := "java/lang/StringUTF16", name := "checkIndex", desc := "(I[B)V" } : Jvm.MethodName)) := by decide +kernel
theorem tq_585 : tables_1[585]? = some (Jvm.Cond.static ({ cls := "java/lang/StringUTF16", name := "checkIndex", desc := "(I[B)V" } : Jvm.MethodName)) := by decide +kernel
theorem tq_586 : tables_1[586]? = some (Jvm.Cond.code ({ cls := "java/lang/StringUTF16", name := "checkIndex", desc := "(I[B)V" } : Jvm.MethodName) prog_15_method_91_code (2 : Nat) (Option.none : Option Jvm.ClassFile.FieldType)) := by decide +kernel
theorem tq_587 : tables_1[587]? = some (Jvm.Cond.methodLink "java/lang/StringUTF16" (48 : Nat) ({ cls := "java/lang/StringUTF16", name := "length", desc := "([B)I" } : Jvm.MethodName)) := by decide +kernel
theorem tq_588 : tables_1[588]? = some (Jvm.Cond.static ({ cls := "java/lang/StringUTF16", name := "length", desc := "([B)I" } : Jvm.MethodName)) := by decide +kernel
theorem tq_589 : tables_1[589]? = some (Jvm.Cond.code ({ cls := "java/lang/StringUTF16", name := "length", desc := "([B)I" } : Jvm.MethodName) prog_15_method_6_code (1 : Nat) (Option.some Jvm.ClassFile.FieldType.int)) := by decide +kernel
theorem tq_590 : tables_1[590]? = some (Jvm.Cond.methodLink "java/lang/StringUTF16" (414 : Nat) ({ cls := "java/lang/String", name := "checkIndex", desc := "(II)V" } : Jvm.MethodName)) := by decide +kernel
theorem tq_591 : tables_1[591]? = some (Jvm.Cond.methodLink "java/lang/StringUTF16" (71 : Nat) ({ cls := "java/lang/StringUTF16", name := "getChar", desc := "([BI)C" } : Jvm.MethodName)) := by decide +kernel
theorem tq_592 : tables_1[592]? = some (Jvm.Cond.static ({ cls := "java/lang/StringUTF16", name := "getChar", desc := "([BI)C" } : Jvm.MethodName)) := by decide +kernel
theorem tq_593 : tables_1[593]? = some (Jvm.Cond.code ({ cls := "java/lang/StringUTF16", name := "getChar", desc := "([BI)C" } : Jvm.MethodName) prog_15_method_5_code (2 : Nat) (Option.some Jvm.ClassFile.FieldType.char)) := by decide +kernel
theorem tq_594 : tables_1[594]? = some (Jvm.Cond.fieldLink "java/lang/StringUTF16" (44 : Nat) "java/lang/StringUTF16" "$assertionsDisabled" "Z") := by decide +kernel
theorem tq_595 : tables_1[595]? = some (Jvm.Cond.laysStatic "java/lang/StringUTF16" "$assertionsDisabled" "Z") := by decide +kernel
theorem tq_596 : tables_1[596]? = some (Jvm.Cond.fieldLink "java/lang/StringUTF16" (59 : Nat) "java/lang/StringUTF16" "HI_BYTE_SHIFT" "I") := by decide +kernel
theorem tq_597 : tables_1[597]? = some (Jvm.Cond.laysStatic "java/lang/StringUTF16" "HI_BYTE_SHIFT" "I") := by decide +kernel
theorem tq_598 : tables_1[598]? = some (Jvm.Cond.fieldLink "java/lang/StringUTF16" (63 : Nat) "java/lang/StringUTF16" "LO_BYTE_SHIFT" "I") := by decide +kernel
theorem tq_599 : tables_1[599]? = some (Jvm.Cond.laysStatic "java/lang/StringUTF16" "LO_BYTE_SHIFT" "I") := by decide +kernel
theorem tq_600 : tables_1[600]? = some (Jvm.Cond.methodLink "SandRipples$Reader" (54 : Nat) ({ cls := "SandRipples$Reader", name := "isInWord", desc := "(I)Z" } : Jvm.MethodName)) := by decide +kernel
theorem tq_601 : tables_1[601]? = some (Jvm.Cond.static ({ cls := "SandRipples$Reader", name := "isInWord", desc := "(I)Z" } : Jvm.MethodName)) := by decide +kernel
theorem tq_602 : tables_1[602]? = some (Jvm.Cond.code ({ cls := "SandRipples$Reader", name := "isInWord", desc := "(I)Z" } : Jvm.MethodName) prog_3_method_22_code (1 : Nat) (Option.some Jvm.ClassFile.FieldType.boolean)) := by decide +kernel
theorem tq_603 : tables_1[603]? = some (Jvm.Cond.methodLink "SandRipples$Reader" (58 : Nat) ({ cls := "SandRipples$Reader", name := "takesPiece", desc := "([III)Z" } : Jvm.MethodName)) := by decide +kernel
theorem tq_604 : tables_1[604]? = some (Jvm.Cond.privateMethod ({ cls := "SandRipples$Reader", name := "takesPiece", desc := "([III)Z" } : Jvm.MethodName)) := by decide +kernel
theorem tq_605 : tables_1[605]? = some (Jvm.Cond.instanceMethod ({ cls := "SandRipples$Reader", name := "takesPiece", desc := "([III)Z" } : Jvm.MethodName)) := by decide +kernel
theorem tq_606 : tables_1[606]? = some (Jvm.Cond.code ({ cls := "SandRipples$Reader", name := "takesPiece", desc := "([III)Z" } : Jvm.MethodName) prog_3_method_4_code (5 : Nat) (Option.some Jvm.ClassFile.FieldType.boolean)) := by decide +kernel
theorem tq_607 : tables_1[607]? = some (Jvm.Cond.methodLink "SandRipples$Reader" (72 : Nat) ({ cls := "SandRipples$Reader", name := "takesNumber", desc := "([III)Z" } : Jvm.MethodName)) := by decide +kernel
theorem tq_608 : tables_1[608]? = some (Jvm.Cond.privateMethod ({ cls := "SandRipples$Reader", name := "takesNumber", desc := "([III)Z" } : Jvm.MethodName)) := by decide +kernel
theorem tq_609 : tables_1[609]? = some (Jvm.Cond.instanceMethod ({ cls := "SandRipples$Reader", name := "takesNumber", desc := "([III)Z" } : Jvm.MethodName)) := by decide +kernel
theorem tq_610 : tables_1[610]? = some (Jvm.Cond.code ({ cls := "SandRipples$Reader", name := "takesNumber", desc := "([III)Z" } : Jvm.MethodName) prog_3_method_5_code (6 : Nat) (Option.some Jvm.ClassFile.FieldType.boolean)) := by decide +kernel
theorem tq_611 : tables_1[611]? = some (Jvm.Cond.methodLink "SandRipples$Reader" (84 : Nat) ({ cls := "SandRipples$Reader", name := "takeLeaf", desc := "(I)V" } : Jvm.MethodName)) := by decide +kernel
theorem tq_612 : tables_1[612]? = some (Jvm.Cond.privateMethod ({ cls := "SandRipples$Reader", name := "takeLeaf", desc := "(I)V" } : Jvm.MethodName)) := by decide +kernel
theorem tq_613 : tables_1[613]? = some (Jvm.Cond.instanceMethod ({ cls := "SandRipples$Reader", name := "takeLeaf", desc := "(I)V" } : Jvm.MethodName)) := by decide +kernel
theorem tq_614 : tables_1[614]? = some (Jvm.Cond.code ({ cls := "SandRipples$Reader", name := "takeLeaf", desc := "(I)V" } : Jvm.MethodName) prog_3_method_7_code (2 : Nat) (Option.none : Option Jvm.ClassFile.FieldType)) := by decide +kernel
theorem tq_615 : tables_1[615]? = some (Jvm.Cond.methodLink "SandRipples$Reader" (98 : Nat) ({ cls := "SandRipples$Reader", name := "put", desc := "(I)V" } : Jvm.MethodName)) := by decide +kernel
theorem tq_616 : tables_1[616]? = some (Jvm.Cond.privateMethod ({ cls := "SandRipples$Reader", name := "put", desc := "(I)V" } : Jvm.MethodName)) := by decide +kernel
theorem tq_617 : tables_1[617]? = some (Jvm.Cond.instanceMethod ({ cls := "SandRipples$Reader", name := "put", desc := "(I)V" } : Jvm.MethodName)) := by decide +kernel
theorem tq_618 : tables_1[618]? = some (Jvm.Cond.code ({ cls := "SandRipples$Reader", name := "put", desc := "(I)V" } : Jvm.MethodName) prog_3_method_14_code (2 : Nat) (Option.none : Option Jvm.ClassFile.FieldType)) := by decide +kernel
theorem tq_619 : tables_1[619]? = some (Jvm.Cond.methodLink "SandRipples$Reader" (101 : Nat) ({ cls := "SandRipples$Reader", name := "endPiece", desc := "()V" } : Jvm.MethodName)) := by decide +kernel
theorem tq_620 : tables_1[620]? = some (Jvm.Cond.privateMethod ({ cls := "SandRipples$Reader", name := "endPiece", desc := "()V" } : Jvm.MethodName)) := by decide +kernel
theorem tq_621 : tables_1[621]? = some (Jvm.Cond.instanceMethod ({ cls := "SandRipples$Reader", name := "endPiece", desc := "()V" } : Jvm.MethodName)) := by decide +kernel
theorem tq_622 : tables_1[622]? = some (Jvm.Cond.code ({ cls := "SandRipples$Reader", name := "endPiece", desc := "()V" } : Jvm.MethodName) prog_3_method_8_code (1 : Nat) (Option.none : Option Jvm.ClassFile.FieldType)) := by decide +kernel
theorem tq_623 : tables_1[623]? = some (Jvm.Cond.methodLink "SandRipples$Reader" (78 : Nat) ({ cls := "SandRipples$Reader", name := "takesName", desc := "(I)Z" } : Jvm.MethodName)) := by decide +kernel
theorem tq_624 : tables_1[624]? = some (Jvm.Cond.privateMethod ({ cls := "SandRipples$Reader", name := "takesName", desc := "(I)Z" } : Jvm.MethodName)) := by decide +kernel
theorem tq_625 : tables_1[625]? = some (Jvm.Cond.instanceMethod ({ cls := "SandRipples$Reader", name := "takesName", desc := "(I)Z" } : Jvm.MethodName)) := by decide +kernel
theorem tq_626 : tables_1[626]? = some (Jvm.Cond.code ({ cls := "SandRipples$Reader", name := "takesName", desc := "(I)Z" } : Jvm.MethodName) prog_3_method_6_code (3 : Nat) (Option.some Jvm.ClassFile.FieldType.boolean)) := by decide +kernel
theorem tq_627 : tables_1[627]? = some (Jvm.Cond.methodLink "SandRipples$Reader" (88 : Nat) ({ cls := "SandRipples$Reader", name := "namesOf", desc := "(I)Ljava/lang/String;" } : Jvm.MethodName)) := by decide +kernel
theorem tq_628 : tables_1[628]? = some (Jvm.Cond.static ({ cls := "SandRipples$Reader", name := "namesOf", desc := "(I)Ljava/lang/String;" } : Jvm.MethodName)) := by decide +kernel
theorem tq_629 : tables_1[629]? = some (Jvm.Cond.code ({ cls := "SandRipples$Reader", name := "namesOf", desc := "(I)Ljava/lang/String;" } : Jvm.MethodName) prog_3_method_18_code (1 : Nat) (Option.some (Jvm.ClassFile.FieldType.object "java/lang/String"))) := by decide +kernel
theorem tq_630 : tables_1[630]? = some (Jvm.Cond.stringRef "SandRipples$Reader" (126 : Nat) "hsp") := by decide +kernel
theorem tq_631 : tables_1[631]? = some (Jvm.Cond.stringRef "SandRipples$Reader" (128 : Nat) "dg") := by decide +kernel
theorem tq_632 : tables_1[632]? = some (Jvm.Cond.stringRef "SandRipples$Reader" (130 : Nat) "ch") := by decide +kernel
theorem tq_633 : tables_1[633]? = some (Jvm.Cond.methodLink "SandRipples$Reader" (92 : Nat) ({ cls := "java/lang/String", name := "indexOf", desc := "(I)I" } : Jvm.MethodName)) := by decide +kernel
theorem tq_634 : tables_1[634]? = some (Jvm.Cond.instanceMethod ({ cls := "java/lang/String", name := "indexOf", desc := "(I)I" } : Jvm.MethodName)) := by decide +kernel
theorem tq_635 : tables_1[635]? = some (Jvm.Cond.selects "java/lang/String" ({ cls := "java/lang/String", name := "indexOf", desc := "(I)I" } : Jvm.MethodName) ({ cls := "java/lang/String", name := "indexOf", desc := "(I)I" } : Jvm.MethodName)) := by decide +kernel
theorem tq_636 : tables_1[636]? = some (Jvm.Cond.code ({ cls := "java/lang/String", name := "indexOf", desc := "(I)I" } : Jvm.MethodName) prog_13_method_79_code (2 : Nat) (Option.some Jvm.ClassFile.FieldType.int)) := by decide +kernel
theorem tq_637 : tables_1[637]? = some (Jvm.Cond.methodLink "java/lang/String" (633 : Nat) ({ cls := "java/lang/String", name := "indexOf", desc := "(II)I" } : Jvm.MethodName)) := by decide +kernel
theorem tq_638 : tables_1[638]? = some (Jvm.Cond.instanceMethod ({ cls := "java/lang/String", name := "indexOf", desc := "(II)I" } : Jvm.MethodName)) := by decide +kernel
theorem tq_639 : tables_1[639]? = some (Jvm.Cond.selects "java/lang/String" ({ cls := "java/lang/String", name := "indexOf", desc := "(II)I" } : Jvm.MethodName) ({ cls := "java/lang/String", name := "indexOf", desc := "(II)I" } : Jvm.MethodName)) := by decide +kernel
theorem tq_640 : tables_1[640]? = some (Jvm.Cond.code ({ cls := "java/lang/String", name := "indexOf", desc := "(II)I" } : Jvm.MethodName) prog_13_method_80_code (3 : Nat) (Option.some Jvm.ClassFile.FieldType.int)) := by decide +kernel
theorem tq_641 : tables_1[641]? = some (Jvm.Cond.methodLink "java/lang/String" (505 : Nat) ({ cls := "java/lang/String", name := "length", desc := "()I" } : Jvm.MethodName)) := by decide +kernel
theorem tq_642 : tables_1[642]? = some (Jvm.Cond.methodLink "java/lang/String" (637 : Nat) ({ cls := "java/lang/StringLatin1", name := "indexOf", desc := "([BIII)I" } : Jvm.MethodName)) := by decide +kernel
theorem tq_643 : tables_1[643]? = some (Jvm.Cond.static ({ cls := "java/lang/StringLatin1", name := "indexOf", desc := "([BIII)I" } : Jvm.MethodName)) := by decide +kernel
theorem tq_644 : tables_1[644]? = some (Jvm.Cond.code ({ cls := "java/lang/StringLatin1", name := "indexOf", desc := "([BIII)I" } : Jvm.MethodName) prog_14_method_22_code (4 : Nat) (Option.some Jvm.ClassFile.FieldType.int)) := by decide +kernel
theorem tq_645 : tables_1[645]? = some (Jvm.Cond.methodLink "java/lang/StringLatin1" (88 : Nat) ({ cls := "java/lang/StringLatin1", name := "canEncode", desc := "(I)Z" } : Jvm.MethodName)) := by decide +kernel
theorem tq_646 : tables_1[646]? = some (Jvm.Cond.static ({ cls := "java/lang/StringLatin1", name := "canEncode", desc := "(I)Z" } : Jvm.MethodName)) := by decide +kernel
theorem tq_647 : tables_1[647]? = some (Jvm.Cond.code ({ cls := "java/lang/StringLatin1", name := "canEncode", desc := "(I)Z" } : Jvm.MethodName) prog_14_method_4_code (1 : Nat) (Option.some Jvm.ClassFile.FieldType.boolean)) := by decide +kernel
theorem tq_648 : tables_1[648]? = some (Jvm.Cond.methodLink "java/lang/StringLatin1" (92 : Nat) ({ cls := "java/lang/Math", name := "max", desc := "(II)I" } : Jvm.MethodName)) := by decide +kernel
theorem tq_649 : tables_1[649]? = some (Jvm.Cond.methodLink "java/lang/StringLatin1" (38 : Nat) ({ cls := "java/lang/Math", name := "min", desc := "(II)I" } : Jvm.MethodName)) := by decide +kernel
theorem tq_650 : tables_1[650]? = some (Jvm.Cond.methodLink "java/lang/StringLatin1" (95 : Nat) ({ cls := "java/lang/StringLatin1", name := "indexOfChar", desc := "([BIII)I" } : Jvm.MethodName)) := by decide +kernel
theorem tq_651 : tables_1[651]? = some (Jvm.Cond.static ({ cls := "java/lang/StringLatin1", name := "indexOfChar", desc := "([BIII)I" } : Jvm.MethodName)) := by decide +kernel
theorem tq_652 : tables_1[652]? = some (Jvm.Cond.code ({ cls := "java/lang/StringLatin1", name := "indexOfChar", desc := "([BIII)I" } : Jvm.MethodName) prog_14_method_23_code (6 : Nat) (Option.some Jvm.ClassFile.FieldType.int)) := by decide +kernel
theorem tq_653 : tables_1[653]? = some (Jvm.Cond.methodLink "java/lang/String" (640 : Nat) ({ cls := "java/lang/StringUTF16", name := "indexOf", desc := "([BIII)I" } : Jvm.MethodName)) := by decide +kernel
theorem tq_654 : tables_1[654]? = some (Jvm.Cond.static ({ cls := "java/lang/StringUTF16", name := "indexOf", desc := "([BIII)I" } : Jvm.MethodName)) := by decide +kernel
theorem tq_655 : tables_1[655]? = some (Jvm.Cond.code ({ cls := "java/lang/StringUTF16", name := "indexOf", desc := "([BIII)I" } : Jvm.MethodName) prog_15_method_40_code (4 : Nat) (Option.some Jvm.ClassFile.FieldType.int)) := by decide +kernel
theorem tq_656 : tables_1[656]? = some (Jvm.Cond.methodLink "java/lang/StringUTF16" (224 : Nat) ({ cls := "java/lang/Math", name := "max", desc := "(II)I" } : Jvm.MethodName)) := by decide +kernel
theorem tq_657 : tables_1[657]? = some (Jvm.Cond.methodLink "java/lang/StringUTF16" (183 : Nat) ({ cls := "java/lang/Math", name := "min", desc := "(II)I" } : Jvm.MethodName)) := by decide +kernel
theorem tq_658 : tables_1[658]? = some (Jvm.Cond.constant "java/lang/StringUTF16" (227 : Nat) (65536 : Int32)) := by decide +kernel
theorem tq_659 : tables_1[659]? = some (Jvm.Cond.methodLink "java/lang/StringUTF16" (228 : Nat) ({ cls := "java/lang/StringUTF16", name := "indexOfChar", desc := "([BIII)I" } : Jvm.MethodName)) := by decide +kernel
theorem tq_660 : tables_1[660]? = some (Jvm.Cond.static ({ cls := "java/lang/StringUTF16", name := "indexOfChar", desc := "([BIII)I" } : Jvm.MethodName)) := by decide +kernel
theorem tq_661 : tables_1[661]? = some (Jvm.Cond.code ({ cls := "java/lang/StringUTF16", name := "indexOfChar", desc := "([BIII)I" } : Jvm.MethodName) prog_15_method_47_code (4 : Nat) (Option.some Jvm.ClassFile.FieldType.int)) := by decide +kernel
theorem tq_662 : tables_1[662]? = some (Jvm.Cond.methodLink "java/lang/StringUTF16" (96 : Nat) ({ cls := "java/lang/StringUTF16", name := "checkBoundsBeginEnd", desc := "(II[B)V" } : Jvm.MethodName)) := by decide +kernel
theorem tq_663 : tables_1[663]? = some (Jvm.Cond.static ({ cls := "java/lang/StringUTF16", name := "checkBoundsBeginEnd", desc := "(II[B)V" } : Jvm.MethodName)) := by decide +kernel
theorem tq_664 : tables_1[664]? = some (Jvm.Cond.code ({ cls := "java/lang/StringUTF16", name := "checkBoundsBeginEnd", desc := "(II[B)V" } : Jvm.MethodName) prog_15_method_93_code (3 : Nat) (Option.none : Option Jvm.ClassFile.FieldType)) := by decide +kernel
theorem tq_665 : tables_1[665]? = some (Jvm.Cond.methodLink "java/lang/StringUTF16" (241 : Nat) ({ cls := "java/lang/String", name := "checkBoundsBeginEnd", desc := "(III)V" } : Jvm.MethodName)) := by decide +kernel
theorem tq_666 : tables_1[666]? = some (Jvm.Cond.static ({ cls := "java/lang/String", name := "checkBoundsBeginEnd", desc := "(III)V" } : Jvm.MethodName)) := by decide +kernel
theorem tq_667 : tables_1[667]? = some (Jvm.Cond.code ({ cls := "java/lang/String", name := "checkBoundsBeginEnd", desc := "(III)V" } : Jvm.MethodName) prog_13_method_158_code (3 : Nat) (Option.none : Option Jvm.ClassFile.FieldType)) := by decide +kernel
theorem tq_668 : tables_1[668]? = some (Jvm.Cond.methodLink "java/lang/String" (1062 : Nat) ({ cls := "jdk/internal/util/Preconditions", name := "checkFromToIndex", desc := "(IIILjava/util/function/BiFunction;)I" } : Jvm.MethodName)) := by decide +kernel
theorem tq_669 : tables_1[669]? = some (Jvm.Cond.static ({ cls := "jdk/internal/util/Preconditions", name := "checkFromToIndex", desc := "(IIILjava/util/function/BiFunction;)I" } : Jvm.MethodName)) := by decide +kernel
theorem tq_670 : tables_1[670]? = some (Jvm.Cond.code ({ cls := "jdk/internal/util/Preconditions", name := "checkFromToIndex", desc := "(IIILjava/util/function/BiFunction;)I" } : Jvm.MethodName) prog_17_method_12_code (4 : Nat) (Option.some Jvm.ClassFile.FieldType.int)) := by decide +kernel
theorem tq_671 : tables_1[671]? = some (Jvm.Cond.methodLink "java/lang/StringUTF16" (244 : Nat) ({ cls := "java/lang/StringUTF16", name := "indexOfCharUnsafe", desc := "([BIII)I" } : Jvm.MethodName)) := by decide +kernel
theorem tq_672 : tables_1[672]? = some (Jvm.Cond.static ({ cls := "java/lang/StringUTF16", name := "indexOfCharUnsafe", desc := "([BIII)I" } : Jvm.MethodName)) := by decide +kernel
theorem tq_673 : tables_1[673]? = some (Jvm.Cond.code ({ cls := "java/lang/StringUTF16", name := "indexOfCharUnsafe", desc := "([BIII)I" } : Jvm.MethodName) prog_15_method_48_code (5 : Nat) (Option.some Jvm.ClassFile.FieldType.int)) := by decide +kernel
theorem tq_674 : tables_1[674]? = some (Jvm.Cond.methodLink "java/lang/StringUTF16" (232 : Nat) ({ cls := "java/lang/StringUTF16", name := "indexOfSupplementary", desc := "([BIII)I" } : Jvm.MethodName)) := by decide +kernel
theorem tq_675 : tables_1[675]? = some (Jvm.Cond.static ({ cls := "java/lang/StringUTF16", name := "indexOfSupplementary", desc := "([BIII)I" } : Jvm.MethodName)) := by decide +kernel
theorem tq_676 : tables_1[676]? = some (Jvm.Cond.code ({ cls := "java/lang/StringUTF16", name := "indexOfSupplementary", desc := "([BIII)I" } : Jvm.MethodName) prog_15_method_49_code (7 : Nat) (Option.some Jvm.ClassFile.FieldType.int)) := by decide +kernel
theorem tq_677 : tables_1[677]? = some (Jvm.Cond.methodLink "java/lang/StringUTF16" (164 : Nat) ({ cls := "java/lang/Character", name := "isValidCodePoint", desc := "(I)Z" } : Jvm.MethodName)) := by decide +kernel
theorem tq_678 : tables_1[678]? = some (Jvm.Cond.static ({ cls := "java/lang/Character", name := "isValidCodePoint", desc := "(I)Z" } : Jvm.MethodName)) := by decide +kernel
theorem tq_679 : tables_1[679]? = some (Jvm.Cond.code ({ cls := "java/lang/Character", name := "isValidCodePoint", desc := "(I)Z" } : Jvm.MethodName) prog_10_method_11_code (2 : Nat) (Option.some Jvm.ClassFile.FieldType.boolean)) := by decide +kernel
theorem tq_680 : tables_1[680]? = some (Jvm.Cond.methodLink "java/lang/StringUTF16" (157 : Nat) ({ cls := "java/lang/Character", name := "highSurrogate", desc := "(I)C" } : Jvm.MethodName)) := by decide +kernel
theorem tq_681 : tables_1[681]? = some (Jvm.Cond.static ({ cls := "java/lang/Character", name := "highSurrogate", desc := "(I)C" } : Jvm.MethodName)) := by decide +kernel
theorem tq_682 : tables_1[682]? = some (Jvm.Cond.code ({ cls := "java/lang/Character", name := "highSurrogate", desc := "(I)C" } : Jvm.MethodName) prog_10_method_28_code (1 : Nat) (Option.some Jvm.ClassFile.FieldType.char)) := by decide +kernel
theorem tq_683 : tables_1[683]? = some (Jvm.Cond.constant "java/lang/Character" (110 : Nat) (55232 : Int32)) := by decide +kernel
theorem tq_684 : tables_1[684]? = some (Jvm.Cond.methodLink "java/lang/StringUTF16" (161 : Nat) ({ cls := "java/lang/Character", name := "lowSurrogate", desc := "(I)C" } : Jvm.MethodName)) := by decide +kernel
theorem tq_685 : tables_1[685]? = some (Jvm.Cond.static ({ cls := "java/lang/Character", name := "lowSurrogate", desc := "(I)C" } : Jvm.MethodName)) := by decide +kernel
theorem tq_686 : tables_1[686]? = some (Jvm.Cond.code ({ cls := "java/lang/Character", name := "lowSurrogate", desc := "(I)C" } : Jvm.MethodName) prog_10_method_29_code (1 : Nat) (Option.some Jvm.ClassFile.FieldType.char)) := by decide +kernel
theorem tq_687 : tables_1[687]? = some (Jvm.Cond.constant "java/lang/Character" (76 : Nat) (56320 : Int32)) := by decide +kernel
theorem tq_688 : tables_1[688]? = some (Jvm.Cond.methodLink "SandRipples$Reader" (81 : Nat) ({ cls := "SandRipples$Reader", name := "waits", desc := "(I)Z" } : Jvm.MethodName)) := by decide +kernel
theorem tq_689 : tables_1[689]? = some (Jvm.Cond.privateMethod ({ cls := "SandRipples$Reader", name := "waits", desc := "(I)Z" } : Jvm.MethodName)) := by decide +kernel
theorem tq_690 : tables_1[690]? = some (Jvm.Cond.instanceMethod ({ cls := "SandRipples$Reader", name := "waits", desc := "(I)Z" } : Jvm.MethodName)) := by decide +kernel
theorem tq_691 : tables_1[691]? = some (Jvm.Cond.code ({ cls := "SandRipples$Reader", name := "waits", desc := "(I)Z" } : Jvm.MethodName) prog_3_method_13_code (2 : Nat) (Option.some Jvm.ClassFile.FieldType.boolean)) := by decide +kernel
theorem tq_692 : tables_1[692]? = some (Jvm.Cond.methodLink "SandRipples$Reader" (62 : Nat) ({ cls := "SandRipples$Reader", name := "takesSign", desc := "(I)Z" } : Jvm.MethodName)) := by decide +kernel
theorem tq_693 : tables_1[693]? = some (Jvm.Cond.privateMethod ({ cls := "SandRipples$Reader", name := "takesSign", desc := "(I)Z" } : Jvm.MethodName)) := by decide +kernel
theorem tq_694 : tables_1[694]? = some (Jvm.Cond.instanceMethod ({ cls := "SandRipples$Reader", name := "takesSign", desc := "(I)Z" } : Jvm.MethodName)) := by decide +kernel
theorem tq_695 : tables_1[695]? = some (Jvm.Cond.code ({ cls := "SandRipples$Reader", name := "takesSign", desc := "(I)Z" } : Jvm.MethodName) prog_3_method_9_code (4 : Nat) (Option.some Jvm.ClassFile.FieldType.boolean)) := by decide +kernel
theorem tq_696 : tables_1[696]? = some (Jvm.Cond.methodLink "SandRipples$Reader" (104 : Nat) ({ cls := "SandRipples$Reader", name := "closesBracket", desc := "()Z" } : Jvm.MethodName)) := by decide +kernel
theorem tq_697 : tables_1[697]? = some (Jvm.Cond.privateMethod ({ cls := "SandRipples$Reader", name := "closesBracket", desc := "()Z" } : Jvm.MethodName)) := by decide +kernel
theorem tq_698 : tables_1[698]? = some (Jvm.Cond.instanceMethod ({ cls := "SandRipples$Reader", name := "closesBracket", desc := "()Z" } : Jvm.MethodName)) := by decide +kernel
theorem tq_699 : tables_1[699]? = some (Jvm.Cond.code ({ cls := "SandRipples$Reader", name := "closesBracket", desc := "()Z" } : Jvm.MethodName) prog_3_method_10_code (1 : Nat) (Option.some Jvm.ClassFile.FieldType.boolean)) := by decide +kernel
theorem tq_700 : tables_1[700]? = some (Jvm.Cond.methodLink "SandRipples$Reader" (110 : Nat) ({ cls := "SandRipples$Reader", name := "putThoseAbove", desc := "(I)V" } : Jvm.MethodName)) := by decide +kernel
theorem tq_701 : tables_1[701]? = some (Jvm.Cond.privateMethod ({ cls := "SandRipples$Reader", name := "putThoseAbove", desc := "(I)V" } : Jvm.MethodName)) := by decide +kernel
theorem tq_702 : tables_1[702]? = some (Jvm.Cond.instanceMethod ({ cls := "SandRipples$Reader", name := "putThoseAbove", desc := "(I)V" } : Jvm.MethodName)) := by decide +kernel
theorem tq_703 : tables_1[703]? = some (Jvm.Cond.code ({ cls := "SandRipples$Reader", name := "putThoseAbove", desc := "(I)V" } : Jvm.MethodName) prog_3_method_12_code (2 : Nat) (Option.none : Option Jvm.ClassFile.FieldType)) := by decide +kernel
theorem tq_704 : tables_1[704]? = some (Jvm.Cond.methodLink "SandRipples$Reader" (107 : Nat) ({ cls := "SandRipples$Reader", name := "rankOf", desc := "(I)I" } : Jvm.MethodName)) := by decide +kernel
theorem tq_705 : tables_1[705]? = some (Jvm.Cond.static ({ cls := "SandRipples$Reader", name := "rankOf", desc := "(I)I" } : Jvm.MethodName)) := by decide +kernel
theorem tq_706 : tables_1[706]? = some (Jvm.Cond.code ({ cls := "SandRipples$Reader", name := "rankOf", desc := "(I)I" } : Jvm.MethodName) prog_3_method_15_code (1 : Nat) (Option.some Jvm.ClassFile.FieldType.int)) := by decide +kernel
theorem tq_707 : tables_1[707]? = some (Jvm.Cond.methodLink "SandRipples$Reader" (65 : Nat) ({ cls := "SandRipples$Reader", name := "endsHere", desc := "()Z" } : Jvm.MethodName)) := by decide +kernel
theorem tq_708 : tables_1[708]? = some (Jvm.Cond.privateMethod ({ cls := "SandRipples$Reader", name := "endsHere", desc := "()Z" } : Jvm.MethodName)) := by decide +kernel
theorem tq_709 : tables_1[709]? = some (Jvm.Cond.instanceMethod ({ cls := "SandRipples$Reader", name := "endsHere", desc := "()Z" } : Jvm.MethodName)) := by decide +kernel
theorem tq_710 : tables_1[710]? = some (Jvm.Cond.code ({ cls := "SandRipples$Reader", name := "endsHere", desc := "()Z" } : Jvm.MethodName) prog_3_method_11_code (1 : Nat) (Option.some Jvm.ClassFile.FieldType.boolean)) := by decide +kernel
theorem tq_711 : tables_1[711]? = some (Jvm.Cond.methodLinkNest "SandRipples" (224 : Nat) ({ cls := "SandRipples$Text", name := "take", desc := "(LSandRipples$Reader;)V" } : Jvm.MethodName) "SandRipples") := by decide +kernel
theorem tq_712 : tables_1[712]? = some (Jvm.Cond.privateMethod ({ cls := "SandRipples$Text", name := "take", desc := "(LSandRipples$Reader;)V" } : Jvm.MethodName)) := by decide +kernel
theorem tq_713 : tables_1[713]? = some (Jvm.Cond.instanceMethod ({ cls := "SandRipples$Text", name := "take", desc := "(LSandRipples$Reader;)V" } : Jvm.MethodName)) := by decide +kernel
theorem tq_714 : tables_1[714]? = some (Jvm.Cond.code ({ cls := "SandRipples$Text", name := "take", desc := "(LSandRipples$Reader;)V" } : Jvm.MethodName) prog_6_method_2_code (2 : Nat) (Option.none : Option Jvm.ClassFile.FieldType)) := by decide +kernel
theorem tq_715 : tables_1[715]? = some (Jvm.Cond.methodLink "SandRipples$Text" (31 : Nat) ({ cls := "java/lang/System", name := "arraycopy", desc := "(Ljava/lang/Object;ILjava/lang/Object;II)V" } : Jvm.MethodName)) := by decide +kernel
theorem tq_716 : tables_1[716]? = some (Jvm.Cond.arrayClass Jvm.ClassFile.FieldType.byte) := by decide +kernel
theorem tq_717 : tables_1[717]? = some (Jvm.Cond.methodLink "SandRipplesLaw" (121 : Nat) ({ cls := "SandRipples", name := "textTold", desc := "(II)I" } : Jvm.MethodName)) := by decide +kernel
theorem tq_718 : tables_1[718]? = some (Jvm.Cond.instanceMethod ({ cls := "SandRipples", name := "textTold", desc := "(II)I" } : Jvm.MethodName)) := by decide +kernel
theorem tq_719 : tables_1[719]? = some (Jvm.Cond.selects "SandRipples" ({ cls := "SandRipples", name := "textTold", desc := "(II)I" } : Jvm.MethodName) ({ cls := "SandRipples", name := "textTold", desc := "(II)I" } : Jvm.MethodName)) := by decide +kernel
theorem tq_720 : tables_1[720]? = some (Jvm.Cond.code ({ cls := "SandRipples", name := "textTold", desc := "(II)I" } : Jvm.MethodName) prog_1_method_28_code (3 : Nat) (Option.some Jvm.ClassFile.FieldType.int)) := by decide +kernel
theorem tq_721 : tables_1[721]? = some (Jvm.Cond.methodLink "SandRipplesLaw" (125 : Nat) ({ cls := "SandRipples", name := "why", desc := "(I)I" } : Jvm.MethodName)) := by decide +kernel
theorem tq_722 : tables_1[722]? = some (Jvm.Cond.instanceMethod ({ cls := "SandRipples", name := "why", desc := "(I)I" } : Jvm.MethodName)) := by decide +kernel
theorem tq_723 : tables_1[723]? = some (Jvm.Cond.selects "SandRipples" ({ cls := "SandRipples", name := "why", desc := "(I)I" } : Jvm.MethodName) ({ cls := "SandRipples", name := "why", desc := "(I)I" } : Jvm.MethodName)) := by decide +kernel
theorem tq_724 : tables_1[724]? = some (Jvm.Cond.code ({ cls := "SandRipples", name := "why", desc := "(I)I" } : Jvm.MethodName) prog_1_method_29_code (2 : Nat) (Option.some Jvm.ClassFile.FieldType.int)) := by decide +kernel
theorem tq_725 : tables_1[725]? = some (Jvm.Cond.methodLink "SandRipplesLaw" (129 : Nat) ({ cls := "SandRipples", name := "sheet", desc := "(III)I" } : Jvm.MethodName)) := by decide +kernel
theorem tq_726 : tables_1[726]? = some (Jvm.Cond.instanceMethod ({ cls := "SandRipples", name := "sheet", desc := "(III)I" } : Jvm.MethodName)) := by decide +kernel
theorem tq_727 : tables_1[727]? = some (Jvm.Cond.selects "SandRipples" ({ cls := "SandRipples", name := "sheet", desc := "(III)I" } : Jvm.MethodName) ({ cls := "SandRipples", name := "sheet", desc := "(III)I" } : Jvm.MethodName)) := by decide +kernel
theorem tq_728 : tables_1[728]? = some (Jvm.Cond.code ({ cls := "SandRipples", name := "sheet", desc := "(III)I" } : Jvm.MethodName) prog_1_method_30_code (4 : Nat) (Option.some Jvm.ClassFile.FieldType.int)) := by decide +kernel
theorem tq_729 : tables_1[729]? = some (Jvm.Cond.methodLinkNest "SandRipples" (237 : Nat) ({ cls := "SandRipples$Sheet", name := "begin", desc := "(II)V" } : Jvm.MethodName) "SandRipples") := by decide +kernel
theorem tq_730 : tables_1[730]? = some (Jvm.Cond.privateMethod ({ cls := "SandRipples$Sheet", name := "begin", desc := "(II)V" } : Jvm.MethodName)) := by decide +kernel
theorem tq_731 : tables_1[731]? = some (Jvm.Cond.instanceMethod ({ cls := "SandRipples$Sheet", name := "begin", desc := "(II)V" } : Jvm.MethodName)) := by decide +kernel
theorem tq_732 : tables_1[732]? = some (Jvm.Cond.code ({ cls := "SandRipples$Sheet", name := "begin", desc := "(II)V" } : Jvm.MethodName) prog_4_method_2_code (4 : Nat) (Option.none : Option Jvm.ClassFile.FieldType)) := by decide +kernel
theorem tq_733 : tables_1[733]? = some (Jvm.Cond.constant "SandRipples" (240 : Nat) (-1000000014 : Int32)) := by decide +kernel
theorem tq_734 : tables_1[734]? = some (Jvm.Cond.methodLink "SandRipplesLaw" (133 : Nat) ({ cls := "SandRipples", name := "mark", desc := "(III)I" } : Jvm.MethodName)) := by decide +kernel
theorem tq_735 : tables_1[735]? = some (Jvm.Cond.instanceMethod ({ cls := "SandRipples", name := "mark", desc := "(III)I" } : Jvm.MethodName)) := by decide +kernel
theorem tq_736 : tables_1[736]? = some (Jvm.Cond.selects "SandRipples" ({ cls := "SandRipples", name := "mark", desc := "(III)I" } : Jvm.MethodName) ({ cls := "SandRipples", name := "mark", desc := "(III)I" } : Jvm.MethodName)) := by decide +kernel
theorem tq_737 : tables_1[737]? = some (Jvm.Cond.code ({ cls := "SandRipples", name := "mark", desc := "(III)I" } : Jvm.MethodName) prog_1_method_31_code (5 : Nat) (Option.some Jvm.ClassFile.FieldType.int)) := by decide +kernel
theorem tq_738 : tables_1[738]? = some (Jvm.Cond.methodLinkNest "SandRipples" (241 : Nat) ({ cls := "SandRipples$Sheet", name := "hasPlace", desc := "(I)Z" } : Jvm.MethodName) "SandRipples") := by decide +kernel
theorem tq_739 : tables_1[739]? = some (Jvm.Cond.constant "SandRipples" (244 : Nat) (-1000000013 : Int32)) := by decide +kernel
theorem tq_740 : tables_1[740]? = some (Jvm.Cond.constant "SandRipples" (248 : Nat) (-99999 : Int32)) := by decide +kernel
theorem tq_741 : tables_1[741]? = some (Jvm.Cond.constant "SandRipples" (249 : Nat) (99999 : Int32)) := by decide +kernel
theorem tq_742 : tables_1[742]? = some (Jvm.Cond.methodLink "SandRipplesLaw" (137 : Nat) ({ cls := "SandRipples", name := "pour", desc := "(II)I" } : Jvm.MethodName)) := by decide +kernel
theorem tq_743 : tables_1[743]? = some (Jvm.Cond.instanceMethod ({ cls := "SandRipples", name := "pour", desc := "(II)I" } : Jvm.MethodName)) := by decide +kernel
theorem tq_744 : tables_1[744]? = some (Jvm.Cond.selects "SandRipples" ({ cls := "SandRipples", name := "pour", desc := "(II)I" } : Jvm.MethodName) ({ cls := "SandRipples", name := "pour", desc := "(II)I" } : Jvm.MethodName)) := by decide +kernel
theorem tq_745 : tables_1[745]? = some (Jvm.Cond.code ({ cls := "SandRipples", name := "pour", desc := "(II)I" } : Jvm.MethodName) prog_1_method_32_code (8 : Nat) (Option.some Jvm.ClassFile.FieldType.int)) := by decide +kernel
theorem tq_746 : tables_1[746]? = some (Jvm.Cond.methodLinkNest "SandRipples" (250 : Nat) ({ cls := "SandRipples$Sheet", name := "isNumber", desc := "(I)Z" } : Jvm.MethodName) "SandRipples") := by decide +kernel
theorem tq_747 : tables_1[747]? = some (Jvm.Cond.methodLink "SandRipplesLaw" (141 : Nat) ({ cls := "SandRipples", name := "reads", desc := "(II)I" } : Jvm.MethodName)) := by decide +kernel
theorem tq_748 : tables_1[748]? = some (Jvm.Cond.instanceMethod ({ cls := "SandRipples", name := "reads", desc := "(II)I" } : Jvm.MethodName)) := by decide +kernel
theorem tq_749 : tables_1[749]? = some (Jvm.Cond.selects "SandRipples" ({ cls := "SandRipples", name := "reads", desc := "(II)I" } : Jvm.MethodName) ({ cls := "SandRipples", name := "reads", desc := "(II)I" } : Jvm.MethodName)) := by decide +kernel
theorem tq_750 : tables_1[750]? = some (Jvm.Cond.code ({ cls := "SandRipples", name := "reads", desc := "(II)I" } : Jvm.MethodName) prog_1_method_33_code (6 : Nat) (Option.some Jvm.ClassFile.FieldType.int)) := by decide +kernel
theorem tq_751 : tables_1[751]? = some (Jvm.Cond.methodLink "SandRipplesLaw" (145 : Nat) ({ cls := "SandRipples", name := "copy", desc := "(IIIII)I" } : Jvm.MethodName)) := by decide +kernel
theorem tq_752 : tables_1[752]? = some (Jvm.Cond.instanceMethod ({ cls := "SandRipples", name := "copy", desc := "(IIIII)I" } : Jvm.MethodName)) := by decide +kernel
theorem tq_753 : tables_1[753]? = some (Jvm.Cond.selects "SandRipples" ({ cls := "SandRipples", name := "copy", desc := "(IIIII)I" } : Jvm.MethodName) ({ cls := "SandRipples", name := "copy", desc := "(IIIII)I" } : Jvm.MethodName)) := by decide +kernel
theorem tq_754 : tables_1[754]? = some (Jvm.Cond.code ({ cls := "SandRipples", name := "copy", desc := "(IIIII)I" } : Jvm.MethodName) prog_1_method_34_code (8 : Nat) (Option.some Jvm.ClassFile.FieldType.int)) := by decide +kernel
theorem tq_755 : tables_1[755]? = some (Jvm.Cond.methodLinkNest "SandRipples" (257 : Nat) ({ cls := "SandRipples$Sheet", name := "hasStretch", desc := "(II)Z" } : Jvm.MethodName) "SandRipples") := by decide +kernel
theorem tq_756 : tables_1[756]? = some (Jvm.Cond.privateMethod ({ cls := "SandRipples$Sheet", name := "hasStretch", desc := "(II)Z" } : Jvm.MethodName)) := by decide +kernel
theorem tq_757 : tables_1[757]? = some (Jvm.Cond.instanceMethod ({ cls := "SandRipples$Sheet", name := "hasStretch", desc := "(II)Z" } : Jvm.MethodName)) := by decide +kernel
theorem tq_758 : tables_1[758]? = some (Jvm.Cond.code ({ cls := "SandRipples$Sheet", name := "hasStretch", desc := "(II)Z" } : Jvm.MethodName) prog_4_method_5_code (3 : Nat) (Option.some Jvm.ClassFile.FieldType.boolean)) := by decide +kernel
theorem tq_759 : tables_1[759]? = some (Jvm.Cond.methodLink "SandRipples" (260 : Nat) ({ cls := "java/lang/System", name := "arraycopy", desc := "(Ljava/lang/Object;ILjava/lang/Object;II)V" } : Jvm.MethodName)) := by decide +kernel
theorem tq_760 : tables_1[760]? = some (Jvm.Cond.methodLink "SandRipplesLaw" (150 : Nat) ({ cls := "SandRipples", name := "lay", desc := "(III)I" } : Jvm.MethodName)) := by decide +kernel
theorem tq_761 : tables_1[761]? = some (Jvm.Cond.instanceMethod ({ cls := "SandRipples", name := "lay", desc := "(III)I" } : Jvm.MethodName)) := by decide +kernel
theorem tq_762 : tables_1[762]? = some (Jvm.Cond.selects "SandRipples" ({ cls := "SandRipples", name := "lay", desc := "(III)I" } : Jvm.MethodName) ({ cls := "SandRipples", name := "lay", desc := "(III)I" } : Jvm.MethodName)) := by decide +kernel
theorem tq_763 : tables_1[763]? = some (Jvm.Cond.code ({ cls := "SandRipples", name := "lay", desc := "(III)I" } : Jvm.MethodName) prog_1_method_35_code (6 : Nat) (Option.some Jvm.ClassFile.FieldType.int)) := by decide +kernel
theorem tq_764 : tables_1[764]? = some (Jvm.Cond.methodLink "SandRipples" (266 : Nat) ({ cls := "SandRipples", name := "isSlot", desc := "(I)Z" } : Jvm.MethodName)) := by decide +kernel
theorem tq_765 : tables_1[765]? = some (Jvm.Cond.static ({ cls := "SandRipples", name := "isSlot", desc := "(I)Z" } : Jvm.MethodName)) := by decide +kernel
theorem tq_766 : tables_1[766]? = some (Jvm.Cond.code ({ cls := "SandRipples", name := "isSlot", desc := "(I)Z" } : Jvm.MethodName) prog_1_method_47_code (1 : Nat) (Option.some Jvm.ClassFile.FieldType.boolean)) := by decide +kernel
theorem tq_767 : tables_1[767]? = some (Jvm.Cond.methodLinkNest "SandRipples" (284 : Nat) ({ cls := "SandRipples$Sheet", name := "become", desc := "(LSandRipples$Sheet;)V" } : Jvm.MethodName) "SandRipples") := by decide +kernel
theorem tq_768 : tables_1[768]? = some (Jvm.Cond.privateMethod ({ cls := "SandRipples$Sheet", name := "become", desc := "(LSandRipples$Sheet;)V" } : Jvm.MethodName)) := by decide +kernel
theorem tq_769 : tables_1[769]? = some (Jvm.Cond.instanceMethod ({ cls := "SandRipples$Sheet", name := "become", desc := "(LSandRipples$Sheet;)V" } : Jvm.MethodName)) := by decide +kernel
theorem tq_770 : tables_1[770]? = some (Jvm.Cond.code ({ cls := "SandRipples$Sheet", name := "become", desc := "(LSandRipples$Sheet;)V" } : Jvm.MethodName) prog_4_method_3_code (2 : Nat) (Option.none : Option Jvm.ClassFile.FieldType)) := by decide +kernel
theorem tq_771 : tables_1[771]? = some (Jvm.Cond.methodLink "SandRipples$Sheet" (22 : Nat) ({ cls := "java/lang/System", name := "arraycopy", desc := "(Ljava/lang/Object;ILjava/lang/Object;II)V" } : Jvm.MethodName)) := by decide +kernel
theorem tq_772 : tables_1[772]? = some (Jvm.Cond.methodLink "SandRipplesLaw" (154 : Nat) ({ cls := "SandRipples", name := "ask", desc := "(II)I" } : Jvm.MethodName)) := by decide +kernel
theorem tq_773 : tables_1[773]? = some (Jvm.Cond.instanceMethod ({ cls := "SandRipples", name := "ask", desc := "(II)I" } : Jvm.MethodName)) := by decide +kernel
theorem tq_774 : tables_1[774]? = some (Jvm.Cond.selects "SandRipples" ({ cls := "SandRipples", name := "ask", desc := "(II)I" } : Jvm.MethodName) ({ cls := "SandRipples", name := "ask", desc := "(II)I" } : Jvm.MethodName)) := by decide +kernel
theorem tq_775 : tables_1[775]? = some (Jvm.Cond.code ({ cls := "SandRipples", name := "ask", desc := "(II)I" } : Jvm.MethodName) prog_1_method_36_code (4 : Nat) (Option.some Jvm.ClassFile.FieldType.int)) := by decide +kernel
theorem tq_776 : tables_1[776]? = some (Jvm.Cond.methodLink "SandRipplesLaw" (158 : Nat) ({ cls := "SandRipples", name := "item", desc := "(II)I" } : Jvm.MethodName)) := by decide +kernel
theorem tq_777 : tables_1[777]? = some (Jvm.Cond.instanceMethod ({ cls := "SandRipples", name := "item", desc := "(II)I" } : Jvm.MethodName)) := by decide +kernel
theorem tq_778 : tables_1[778]? = some (Jvm.Cond.selects "SandRipples" ({ cls := "SandRipples", name := "item", desc := "(II)I" } : Jvm.MethodName) ({ cls := "SandRipples", name := "item", desc := "(II)I" } : Jvm.MethodName)) := by decide +kernel
theorem tq_779 : tables_1[779]? = some (Jvm.Cond.code ({ cls := "SandRipples", name := "item", desc := "(II)I" } : Jvm.MethodName) prog_1_method_37_code (4 : Nat) (Option.some Jvm.ClassFile.FieldType.int)) := by decide +kernel
theorem tq_780 : tables_1[780]? = some (Jvm.Cond.methodLink "SandRipplesLaw" (162 : Nat) ({ cls := "SandRipples", name := "rest", desc := "(II)I" } : Jvm.MethodName)) := by decide +kernel
theorem tq_781 : tables_1[781]? = some (Jvm.Cond.instanceMethod ({ cls := "SandRipples", name := "rest", desc := "(II)I" } : Jvm.MethodName)) := by decide +kernel
theorem tq_782 : tables_1[782]? = some (Jvm.Cond.selects "SandRipples" ({ cls := "SandRipples", name := "rest", desc := "(II)I" } : Jvm.MethodName) ({ cls := "SandRipples", name := "rest", desc := "(II)I" } : Jvm.MethodName)) := by decide +kernel
theorem tq_783 : tables_1[783]? = some (Jvm.Cond.code ({ cls := "SandRipples", name := "rest", desc := "(II)I" } : Jvm.MethodName) prog_1_method_38_code (4 : Nat) (Option.some Jvm.ClassFile.FieldType.int)) := by decide +kernel
theorem tq_784 : tables_1[784]? = some (Jvm.Cond.constant "SandRipples" (290 : Nat) (-1000000002 : Int32)) := by decide +kernel
theorem tq_785 : tables_1[785]? = some (Jvm.Cond.methodLink "SandRipplesLaw" (166 : Nat) ({ cls := "SandRipples", name := "tell", desc := "(I)I" } : Jvm.MethodName)) := by decide +kernel
theorem tq_786 : tables_1[786]? = some (Jvm.Cond.instanceMethod ({ cls := "SandRipples", name := "tell", desc := "(I)I" } : Jvm.MethodName)) := by decide +kernel
theorem tq_787 : tables_1[787]? = some (Jvm.Cond.selects "SandRipples" ({ cls := "SandRipples", name := "tell", desc := "(I)I" } : Jvm.MethodName) ({ cls := "SandRipples", name := "tell", desc := "(I)I" } : Jvm.MethodName)) := by decide +kernel
theorem tq_788 : tables_1[788]? = some (Jvm.Cond.code ({ cls := "SandRipples", name := "tell", desc := "(I)I" } : Jvm.MethodName) prog_1_method_39_code (2 : Nat) (Option.some Jvm.ClassFile.FieldType.int)) := by decide +kernel
theorem tq_789 : tables_1[789]? = some (Jvm.Cond.methodLink "SandRipplesLaw" (170 : Nat) ({ cls := "SandRipples", name := "check", desc := "(II)I" } : Jvm.MethodName)) := by decide +kernel
theorem tq_790 : tables_1[790]? = some (Jvm.Cond.instanceMethod ({ cls := "SandRipples", name := "check", desc := "(II)I" } : Jvm.MethodName)) := by decide +kernel
theorem tq_791 : tables_1[791]? = some (Jvm.Cond.selects "SandRipples" ({ cls := "SandRipples", name := "check", desc := "(II)I" } : Jvm.MethodName) ({ cls := "SandRipples", name := "check", desc := "(II)I" } : Jvm.MethodName)) := by decide +kernel
theorem tq_792 : tables_1[792]? = some (Jvm.Cond.code ({ cls := "SandRipples", name := "check", desc := "(II)I" } : Jvm.MethodName) prog_1_method_40_code (7 : Nat) (Option.some Jvm.ClassFile.FieldType.int)) := by decide +kernel
theorem tq_793 : tables_1[793]? = some (Jvm.Cond.methodLink "SandRipples" (291 : Nat) ({ cls := "SandRipples", name := "isTold", desc := "(III)Z" } : Jvm.MethodName)) := by decide +kernel
theorem tq_794 : tables_1[794]? = some (Jvm.Cond.privateMethod ({ cls := "SandRipples", name := "isTold", desc := "(III)Z" } : Jvm.MethodName)) := by decide +kernel
theorem tq_795 : tables_1[795]? = some (Jvm.Cond.instanceMethod ({ cls := "SandRipples", name := "isTold", desc := "(III)Z" } : Jvm.MethodName)) := by decide +kernel
theorem tq_796 : tables_1[796]? = some (Jvm.Cond.code ({ cls := "SandRipples", name := "isTold", desc := "(III)Z" } : Jvm.MethodName) prog_1_method_50_code (4 : Nat) (Option.some Jvm.ClassFile.FieldType.boolean)) := by decide +kernel
theorem tq_797 : tables_1[797]? = some (Jvm.Cond.methodLink "SandRipplesLaw" (174 : Nat) ({ cls := "SandRipples", name := "keep", desc := "()I" } : Jvm.MethodName)) := by decide +kernel
theorem tq_798 : tables_1[798]? = some (Jvm.Cond.instanceMethod ({ cls := "SandRipples", name := "keep", desc := "()I" } : Jvm.MethodName)) := by decide +kernel
theorem tq_799 : tables_1[799]? = some (Jvm.Cond.selects "SandRipples" ({ cls := "SandRipples", name := "keep", desc := "()I" } : Jvm.MethodName) ({ cls := "SandRipples", name := "keep", desc := "()I" } : Jvm.MethodName)) := by decide +kernel
theorem tq_800 : tables_1[800]? = some (Jvm.Cond.code ({ cls := "SandRipples", name := "keep", desc := "()I" } : Jvm.MethodName) prog_1_method_41_code (1 : Nat) (Option.some Jvm.ClassFile.FieldType.int)) := by decide +kernel
theorem tq_801 : tables_1[801]? = some (Jvm.Cond.methodLinkNest "SandRipples" (295 : Nat) ({ cls := "SandRipples$World", name := "becomeAll", desc := "(LSandRipples$World;)V" } : Jvm.MethodName) "SandRipples") := by decide +kernel
theorem tq_802 : tables_1[802]? = some (Jvm.Cond.privateMethod ({ cls := "SandRipples$World", name := "becomeAll", desc := "(LSandRipples$World;)V" } : Jvm.MethodName)) := by decide +kernel
theorem tq_803 : tables_1[803]? = some (Jvm.Cond.instanceMethod ({ cls := "SandRipples$World", name := "becomeAll", desc := "(LSandRipples$World;)V" } : Jvm.MethodName)) := by decide +kernel
theorem tq_804 : tables_1[804]? = some (Jvm.Cond.code ({ cls := "SandRipples$World", name := "becomeAll", desc := "(LSandRipples$World;)V" } : Jvm.MethodName) prog_7_method_2_code (3 : Nat) (Option.none : Option Jvm.ClassFile.FieldType)) := by decide +kernel
theorem tq_805 : tables_1[805]? = some (Jvm.Cond.methodLink "SandRipples$World" (42 : Nat) ({ cls := "SandRipples$World", name := "becomeSea", desc := "(LSandRipples$World;)V" } : Jvm.MethodName)) := by decide +kernel
theorem tq_806 : tables_1[806]? = some (Jvm.Cond.methodLinkNest "SandRipples$World" (46 : Nat) ({ cls := "SandRipples$Floor", name := "become", desc := "(LSandRipples$Floor;)V" } : Jvm.MethodName) "SandRipples") := by decide +kernel
theorem tq_807 : tables_1[807]? = some (Jvm.Cond.methodLink "SandRipplesLaw" (178 : Nat) ({ cls := "SandRipples", name := "back", desc := "()I" } : Jvm.MethodName)) := by decide +kernel
theorem tq_808 : tables_1[808]? = some (Jvm.Cond.instanceMethod ({ cls := "SandRipples", name := "back", desc := "()I" } : Jvm.MethodName)) := by decide +kernel
theorem tq_809 : tables_1[809]? = some (Jvm.Cond.selects "SandRipples" ({ cls := "SandRipples", name := "back", desc := "()I" } : Jvm.MethodName) ({ cls := "SandRipples", name := "back", desc := "()I" } : Jvm.MethodName)) := by decide +kernel
theorem tq_810 : tables_1[810]? = some (Jvm.Cond.code ({ cls := "SandRipples", name := "back", desc := "()I" } : Jvm.MethodName) prog_1_method_42_code (1 : Nat) (Option.some Jvm.ClassFile.FieldType.int)) := by decide +kernel
theorem tq_811 : tables_1[811]? = some (Jvm.Cond.methodLink "SandRipplesLaw" (182 : Nat) ({ cls := "SandRipples", name := "count", desc := "(I)I" } : Jvm.MethodName)) := by decide +kernel
theorem tq_812 : tables_1[812]? = some (Jvm.Cond.instanceMethod ({ cls := "SandRipples", name := "count", desc := "(I)I" } : Jvm.MethodName)) := by decide +kernel
theorem tq_813 : tables_1[813]? = some (Jvm.Cond.selects "SandRipples" ({ cls := "SandRipples", name := "count", desc := "(I)I" } : Jvm.MethodName) ({ cls := "SandRipples", name := "count", desc := "(I)I" } : Jvm.MethodName)) := by decide +kernel
theorem tq_814 : tables_1[814]? = some (Jvm.Cond.code ({ cls := "SandRipples", name := "count", desc := "(I)I" } : Jvm.MethodName) prog_1_method_43_code (2 : Nat) (Option.some Jvm.ClassFile.FieldType.int)) := by decide +kernel
theorem tq_815 : tables_1[815]? = some (Jvm.Cond.classLink "SandRipplesLaw" (10 : Nat) "SandRipplesModel") := by decide +kernel
theorem tq_816 : tables_1[816]? = some (Jvm.Cond.instantiable "SandRipplesModel" (34 : Nat)) := by decide +kernel
theorem tq_817 : tables_1[817]? = some (Jvm.Cond.methodLink "SandRipplesLaw" (12 : Nat) ({ cls := "SandRipplesModel", name := "<init>", desc := "()V" } : Jvm.MethodName)) := by decide +kernel
theorem tq_818 : tables_1[818]? = some (Jvm.Cond.instanceMethod ({ cls := "SandRipplesModel", name := "<init>", desc := "()V" } : Jvm.MethodName)) := by decide +kernel
theorem tq_819 : tables_1[819]? = some (Jvm.Cond.code ({ cls := "SandRipplesModel", name := "<init>", desc := "()V" } : Jvm.MethodName) prog_9_method_1_code (1 : Nat) (Option.none : Option Jvm.ClassFile.FieldType)) := by decide +kernel
theorem tq_820 : tables_1[820]? = some (Jvm.Cond.methodLink "SandRipplesModel" (1 : Nat) ({ cls := "java/lang/Object", name := "<init>", desc := "()V" } : Jvm.MethodName)) := by decide +kernel
theorem tq_821 : tables_1[821]? = some (Jvm.Cond.fieldLink "SandRipplesModel" (9 : Nat) "SandRipplesModel" "now" "[I") := by decide +kernel
theorem tq_822 : tables_1[822]? = some (Jvm.Cond.fieldLink "SandRipplesModel" (13 : Nat) "SandRipplesModel" "image" "[I") := by decide +kernel
theorem tq_823 : tables_1[823]? = some (Jvm.Cond.fieldLink "SandRipplesModel" (16 : Nat) "SandRipplesModel" "aside" "[I") := by decide +kernel
theorem tq_824 : tables_1[824]? = some (Jvm.Cond.fieldLink "SandRipplesModel" (272 : Nat) "SandRipplesModel" "hasImage" "Z") := by decide +kernel
theorem tq_825 : tables_1[825]? = some (Jvm.Cond.fieldLink "SandRipplesModel" (19 : Nat) "SandRipplesModel" "lifts" "[I") := by decide +kernel
theorem tq_826 : tables_1[826]? = some (Jvm.Cond.fieldLink "SandRipplesModel" (22 : Nat) "SandRipplesModel" "before" "[I") := by decide +kernel
theorem tq_827 : tables_1[827]? = some (Jvm.Cond.fieldLink "SandRipplesModel" (25 : Nat) "SandRipplesModel" "tape" "[I") := by decide +kernel
theorem tq_828 : tables_1[828]? = some (Jvm.Cond.fieldLink "SandRipplesModel" (193 : Nat) "SandRipplesModel" "taped" "I") := by decide +kernel
theorem tq_829 : tables_1[829]? = some (Jvm.Cond.fieldLink "SandRipplesModel" (197 : Nat) "SandRipplesModel" "next" "I") := by decide +kernel
theorem tq_830 : tables_1[830]? = some (Jvm.Cond.fieldLink "SandRipplesModel" (200 : Nat) "SandRipplesModel" "from" "I") := by decide +kernel
theorem tq_831 : tables_1[831]? = some (Jvm.Cond.fieldLink "SandRipplesModel" (206 : Nat) "SandRipplesModel" "token" "I") := by decide +kernel
theorem tq_832 : tables_1[832]? = some (Jvm.Cond.fieldLink "SandRipplesModel" (212 : Nat) "SandRipplesModel" "value" "I") := by decide +kernel
theorem tq_833 : tables_1[833]? = some (Jvm.Cond.fieldLink "SandRipplesModel" (203 : Nat) "SandRipplesModel" "ended" "I") := by decide +kernel
theorem tq_834 : tables_1[834]? = some (Jvm.Cond.fieldLink "SandRipplesModel" (218 : Nat) "SandRipplesModel" "key" "I") := by decide +kernel
theorem tq_835 : tables_1[835]? = some (Jvm.Cond.fieldLink "SandRipplesModel" (28 : Nat) "SandRipplesModel" "keys" "[C") := by decide +kernel
theorem tq_836 : tables_1[836]? = some (Jvm.Cond.fieldLink "SandRipplesModel" (32 : Nat) "SandRipplesModel" "keyAt" "[I") := by decide +kernel
theorem tq_837 : tables_1[837]? = some (Jvm.Cond.fieldLink "SandRipplesModel" (35 : Nat) "SandRipplesModel" "code" "[I") := by decide +kernel
theorem tq_838 : tables_1[838]? = some (Jvm.Cond.fieldLink "SandRipplesModel" (230 : Nat) "SandRipplesModel" "codes" "I") := by decide +kernel
theorem tq_839 : tables_1[839]? = some (Jvm.Cond.fieldLink "SandRipplesModel" (236 : Nat) "SandRipplesModel" "atoms" "I") := by decide +kernel
theorem tq_840 : tables_1[840]? = some (Jvm.Cond.fieldLink "SandRipplesModel" (38 : Nat) "SandRipplesModel" "waits" "[I") := by decide +kernel
theorem tq_841 : tables_1[841]? = some (Jvm.Cond.fieldLink "SandRipplesModel" (224 : Nat) "SandRipplesModel" "held" "I") := by decide +kernel
theorem tq_842 : tables_1[842]? = some (Jvm.Cond.fieldLink "SandRipplesModel" (41 : Nat) "SandRipplesModel" "tested" "[Z") := by decide +kernel
theorem tq_843 : tables_1[843]? = some (Jvm.Cond.fieldLink "SandRipplesModel" (45 : Nat) "SandRipplesModel" "stack" "[I") := by decide +kernel
theorem tq_844 : tables_1[844]? = some (Jvm.Cond.fieldLink "SandRipplesModel" (48 : Nat) "SandRipplesModel" "facts" "[I") := by decide +kernel
theorem tq_845 : tables_1[845]? = some (Jvm.Cond.fieldLink "SandRipplesModel" (51 : Nat) "SandRipplesModel" "sorts" "[I") := by decide +kernel
theorem tq_846 : tables_1[846]? = some (Jvm.Cond.fieldLink "SandRipplesModel" (54 : Nat) "SandRipplesModel" "sizes" "[I") := by decide +kernel
theorem tq_847 : tables_1[847]? = some (Jvm.Cond.fieldLink "SandRipplesModel" (57 : Nat) "SandRipplesModel" "cells" "[I") := by decide +kernel
theorem tq_848 : tables_1[848]? = some (Jvm.Cond.fieldLink "SandRipplesModel" (60 : Nat) "SandRipplesModel" "holds" "[I") := by decide +kernel
theorem tq_849 : tables_1[849]? = some (Jvm.Cond.fieldLink "SandRipplesModel" (63 : Nat) "SandRipplesModel" "holdsA" "[I") := by decide +kernel
theorem tq_850 : tables_1[850]? = some (Jvm.Cond.fieldLink "SandRipplesModel" (66 : Nat) "SandRipplesModel" "holdsB" "[I") := by decide +kernel
theorem tq_851 : tables_1[851]? = some (Jvm.Cond.fieldLink "SandRipplesModel" (69 : Nat) "SandRipplesModel" "heldCells" "[I") := by decide +kernel
theorem tq_852 : tables_1[852]? = some (Jvm.Cond.fieldLink "SandRipplesModel" (72 : Nat) "SandRipplesModel" "moved" "[I") := by decide +kernel
theorem tq_853 : tables_1[853]? = some (Jvm.Cond.fieldLink "SandRipplesModel" (75 : Nat) "SandRipplesModel" "tells" "[I") := by decide +kernel
theorem tq_854 : tables_1[854]? = some (Jvm.Cond.fieldLink "SandRipplesModel" (269 : Nat) "SandRipplesModel" "waiting" "I") := by decide +kernel
theorem tq_855 : tables_1[855]? = some (Jvm.Cond.laysFinal "SandRipplesModel" "SandRipplesModel" "now" "[I") := by decide +kernel
theorem tq_856 : tables_1[856]? = some (Jvm.Cond.soleField "SandRipplesModel" "now") := by decide +kernel
theorem tq_857 : tables_1[857]? = some (Jvm.Cond.laysFinal "SandRipplesModel" "SandRipplesModel" "image" "[I") := by decide +kernel
theorem tq_858 : tables_1[858]? = some (Jvm.Cond.soleField "SandRipplesModel" "image") := by decide +kernel
theorem tq_859 : tables_1[859]? = some (Jvm.Cond.laysFinal "SandRipplesModel" "SandRipplesModel" "aside" "[I") := by decide +kernel
theorem tq_860 : tables_1[860]? = some (Jvm.Cond.soleField "SandRipplesModel" "aside") := by decide +kernel
theorem tq_861 : tables_1[861]? = some (Jvm.Cond.lays "SandRipplesModel" "SandRipplesModel" "hasImage" "Z") := by decide +kernel
theorem tq_862 : tables_1[862]? = some (Jvm.Cond.soleField "SandRipplesModel" "hasImage") := by decide +kernel
theorem tq_863 : tables_1[863]? = some (Jvm.Cond.laysFinal "SandRipplesModel" "SandRipplesModel" "lifts" "[I") := by decide +kernel
theorem tq_864 : tables_1[864]? = some (Jvm.Cond.soleField "SandRipplesModel" "lifts") := by decide +kernel
theorem tq_865 : tables_1[865]? = some (Jvm.Cond.laysFinal "SandRipplesModel" "SandRipplesModel" "before" "[I") := by decide +kernel
theorem tq_866 : tables_1[866]? = some (Jvm.Cond.soleField "SandRipplesModel" "before") := by decide +kernel
theorem tq_867 : tables_1[867]? = some (Jvm.Cond.laysFinal "SandRipplesModel" "SandRipplesModel" "tape" "[I") := by decide +kernel
theorem tq_868 : tables_1[868]? = some (Jvm.Cond.soleField "SandRipplesModel" "tape") := by decide +kernel
theorem tq_869 : tables_1[869]? = some (Jvm.Cond.lays "SandRipplesModel" "SandRipplesModel" "taped" "I") := by decide +kernel
theorem tq_870 : tables_1[870]? = some (Jvm.Cond.soleField "SandRipplesModel" "taped") := by decide +kernel
theorem tq_871 : tables_1[871]? = some (Jvm.Cond.lays "SandRipplesModel" "SandRipplesModel" "next" "I") := by decide +kernel
theorem tq_872 : tables_1[872]? = some (Jvm.Cond.soleField "SandRipplesModel" "next") := by decide +kernel
theorem tq_873 : tables_1[873]? = some (Jvm.Cond.lays "SandRipplesModel" "SandRipplesModel" "from" "I") := by decide +kernel
theorem tq_874 : tables_1[874]? = some (Jvm.Cond.soleField "SandRipplesModel" "from") := by decide +kernel
theorem tq_875 : tables_1[875]? = some (Jvm.Cond.lays "SandRipplesModel" "SandRipplesModel" "token" "I") := by decide +kernel
theorem tq_876 : tables_1[876]? = some (Jvm.Cond.soleField "SandRipplesModel" "token") := by decide +kernel
theorem tq_877 : tables_1[877]? = some (Jvm.Cond.lays "SandRipplesModel" "SandRipplesModel" "value" "I") := by decide +kernel
theorem tq_878 : tables_1[878]? = some (Jvm.Cond.soleField "SandRipplesModel" "value") := by decide +kernel
theorem tq_879 : tables_1[879]? = some (Jvm.Cond.lays "SandRipplesModel" "SandRipplesModel" "ended" "I") := by decide +kernel
theorem tq_880 : tables_1[880]? = some (Jvm.Cond.soleField "SandRipplesModel" "ended") := by decide +kernel
theorem tq_881 : tables_1[881]? = some (Jvm.Cond.lays "SandRipplesModel" "SandRipplesModel" "key" "I") := by decide +kernel
theorem tq_882 : tables_1[882]? = some (Jvm.Cond.soleField "SandRipplesModel" "key") := by decide +kernel
theorem tq_883 : tables_1[883]? = some (Jvm.Cond.laysFinal "SandRipplesModel" "SandRipplesModel" "keys" "[C") := by decide +kernel
theorem tq_884 : tables_1[884]? = some (Jvm.Cond.soleField "SandRipplesModel" "keys") := by decide +kernel
theorem tq_885 : tables_1[885]? = some (Jvm.Cond.laysFinal "SandRipplesModel" "SandRipplesModel" "keyAt" "[I") := by decide +kernel
theorem tq_886 : tables_1[886]? = some (Jvm.Cond.soleField "SandRipplesModel" "keyAt") := by decide +kernel
theorem tq_887 : tables_1[887]? = some (Jvm.Cond.laysFinal "SandRipplesModel" "SandRipplesModel" "code" "[I") := by decide +kernel
theorem tq_888 : tables_1[888]? = some (Jvm.Cond.soleField "SandRipplesModel" "code") := by decide +kernel
theorem tq_889 : tables_1[889]? = some (Jvm.Cond.lays "SandRipplesModel" "SandRipplesModel" "codes" "I") := by decide +kernel
theorem tq_890 : tables_1[890]? = some (Jvm.Cond.soleField "SandRipplesModel" "codes") := by decide +kernel
theorem tq_891 : tables_1[891]? = some (Jvm.Cond.lays "SandRipplesModel" "SandRipplesModel" "atoms" "I") := by decide +kernel
theorem tq_892 : tables_1[892]? = some (Jvm.Cond.soleField "SandRipplesModel" "atoms") := by decide +kernel
theorem tq_893 : tables_1[893]? = some (Jvm.Cond.laysFinal "SandRipplesModel" "SandRipplesModel" "waits" "[I") := by decide +kernel
theorem tq_894 : tables_1[894]? = some (Jvm.Cond.soleField "SandRipplesModel" "waits") := by decide +kernel
theorem tq_895 : tables_1[895]? = some (Jvm.Cond.lays "SandRipplesModel" "SandRipplesModel" "held" "I") := by decide +kernel
theorem tq_896 : tables_1[896]? = some (Jvm.Cond.soleField "SandRipplesModel" "held") := by decide +kernel
theorem tq_897 : tables_1[897]? = some (Jvm.Cond.laysFinal "SandRipplesModel" "SandRipplesModel" "tested" "[Z") := by decide +kernel
theorem tq_898 : tables_1[898]? = some (Jvm.Cond.soleField "SandRipplesModel" "tested") := by decide +kernel
theorem tq_899 : tables_1[899]? = some (Jvm.Cond.laysFinal "SandRipplesModel" "SandRipplesModel" "stack" "[I") := by decide +kernel
theorem tq_900 : tables_1[900]? = some (Jvm.Cond.soleField "SandRipplesModel" "stack") := by decide +kernel
theorem tq_901 : tables_1[901]? = some (Jvm.Cond.laysFinal "SandRipplesModel" "SandRipplesModel" "facts" "[I") := by decide +kernel
theorem tq_902 : tables_1[902]? = some (Jvm.Cond.soleField "SandRipplesModel" "facts") := by decide +kernel
theorem tq_903 : tables_1[903]? = some (Jvm.Cond.laysFinal "SandRipplesModel" "SandRipplesModel" "sorts" "[I") := by decide +kernel
theorem tq_904 : tables_1[904]? = some (Jvm.Cond.soleField "SandRipplesModel" "sorts") := by decide +kernel
theorem tq_905 : tables_1[905]? = some (Jvm.Cond.laysFinal "SandRipplesModel" "SandRipplesModel" "sizes" "[I") := by decide +kernel
theorem tq_906 : tables_1[906]? = some (Jvm.Cond.soleField "SandRipplesModel" "sizes") := by decide +kernel
theorem tq_907 : tables_1[907]? = some (Jvm.Cond.laysFinal "SandRipplesModel" "SandRipplesModel" "cells" "[I") := by decide +kernel
theorem tq_908 : tables_1[908]? = some (Jvm.Cond.soleField "SandRipplesModel" "cells") := by decide +kernel
theorem tq_909 : tables_1[909]? = some (Jvm.Cond.laysFinal "SandRipplesModel" "SandRipplesModel" "holds" "[I") := by decide +kernel
theorem tq_910 : tables_1[910]? = some (Jvm.Cond.soleField "SandRipplesModel" "holds") := by decide +kernel
theorem tq_911 : tables_1[911]? = some (Jvm.Cond.laysFinal "SandRipplesModel" "SandRipplesModel" "holdsA" "[I") := by decide +kernel
theorem tq_912 : tables_1[912]? = some (Jvm.Cond.soleField "SandRipplesModel" "holdsA") := by decide +kernel
theorem tq_913 : tables_1[913]? = some (Jvm.Cond.laysFinal "SandRipplesModel" "SandRipplesModel" "holdsB" "[I") := by decide +kernel
theorem tq_914 : tables_1[914]? = some (Jvm.Cond.soleField "SandRipplesModel" "holdsB") := by decide +kernel
theorem tq_915 : tables_1[915]? = some (Jvm.Cond.laysFinal "SandRipplesModel" "SandRipplesModel" "heldCells" "[I") := by decide +kernel
theorem tq_916 : tables_1[916]? = some (Jvm.Cond.soleField "SandRipplesModel" "heldCells") := by decide +kernel
theorem tq_917 : tables_1[917]? = some (Jvm.Cond.laysFinal "SandRipplesModel" "SandRipplesModel" "moved" "[I") := by decide +kernel
theorem tq_918 : tables_1[918]? = some (Jvm.Cond.soleField "SandRipplesModel" "moved") := by decide +kernel
theorem tq_919 : tables_1[919]? = some (Jvm.Cond.laysFinal "SandRipplesModel" "SandRipplesModel" "tells" "[I") := by decide +kernel
theorem tq_920 : tables_1[920]? = some (Jvm.Cond.soleField "SandRipplesModel" "tells") := by decide +kernel
theorem tq_921 : tables_1[921]? = some (Jvm.Cond.lays "SandRipplesModel" "SandRipplesModel" "waiting" "I") := by decide +kernel
theorem tq_922 : tables_1[922]? = some (Jvm.Cond.soleField "SandRipplesModel" "waiting") := by decide +kernel
theorem tq_923 : tables_1[923]? = some (Jvm.Cond.superclass "SandRipplesModel" "java/lang/Object") := by decide +kernel
theorem tq_924 : tables_1[924]? = some (Jvm.Cond.arrayClass Jvm.ClassFile.FieldType.char) := by decide +kernel
theorem tq_925 : tables_1[925]? = some (Jvm.Cond.arrayClass Jvm.ClassFile.FieldType.boolean) := by decide +kernel
theorem tq_926 : tables_1[926]? = some (Jvm.Cond.methodLink "SandRipplesLaw" (17 : Nat) ({ cls := "SandRipplesModel", name := "floor", desc := "(I)I" } : Jvm.MethodName)) := by decide +kernel
theorem tq_927 : tables_1[927]? = some (Jvm.Cond.instanceMethod ({ cls := "SandRipplesModel", name := "floor", desc := "(I)I" } : Jvm.MethodName)) := by decide +kernel
theorem tq_928 : tables_1[928]? = some (Jvm.Cond.selects "SandRipplesModel" ({ cls := "SandRipplesModel", name := "floor", desc := "(I)I" } : Jvm.MethodName) ({ cls := "SandRipplesModel", name := "floor", desc := "(I)I" } : Jvm.MethodName)) := by decide +kernel
theorem tq_929 : tables_1[929]? = some (Jvm.Cond.code ({ cls := "SandRipplesModel", name := "floor", desc := "(I)I" } : Jvm.MethodName) prog_9_method_12_code (4 : Nat) (Option.some Jvm.ClassFile.FieldType.int)) := by decide +kernel
theorem tq_930 : tables_1[930]? = some (Jvm.Cond.methodLink "SandRipplesModel" (78 : Nat) ({ cls := "SandRipplesModel", name := "in", desc := "(III)Z" } : Jvm.MethodName)) := by decide +kernel
theorem tq_931 : tables_1[931]? = some (Jvm.Cond.static ({ cls := "SandRipplesModel", name := "in", desc := "(III)Z" } : Jvm.MethodName)) := by decide +kernel
theorem tq_932 : tables_1[932]? = some (Jvm.Cond.code ({ cls := "SandRipplesModel", name := "in", desc := "(III)Z" } : Jvm.MethodName) prog_9_method_2_code (3 : Nat) (Option.some Jvm.ClassFile.FieldType.boolean)) := by decide +kernel
theorem tq_933 : tables_1[933]? = some (Jvm.Cond.constant "SandRipplesModel" (90 : Nat) (-1000000001 : Int32)) := by decide +kernel
theorem tq_934 : tables_1[934]? = some (Jvm.Cond.constant "SandRipplesModel" (91 : Nat) (-1000000003 : Int32)) := by decide +kernel
theorem tq_935 : tables_1[935]? = some (Jvm.Cond.methodLink "SandRipplesModel" (82 : Nat) ({ cls := "SandRipplesModel", name := "at", desc := "(I)I" } : Jvm.MethodName)) := by decide +kernel
theorem tq_936 : tables_1[936]? = some (Jvm.Cond.static ({ cls := "SandRipplesModel", name := "at", desc := "(I)I" } : Jvm.MethodName)) := by decide +kernel
theorem tq_937 : tables_1[937]? = some (Jvm.Cond.code ({ cls := "SandRipplesModel", name := "at", desc := "(I)I" } : Jvm.MethodName) prog_9_method_7_code (1 : Nat) (Option.some Jvm.ClassFile.FieldType.int)) := by decide +kernel
theorem tq_938 : tables_1[938]? = some (Jvm.Cond.methodLink "SandRipplesModel" (86 : Nat) ({ cls := "SandRipplesModel", name := "spot", desc := "(II)I" } : Jvm.MethodName)) := by decide +kernel
theorem tq_939 : tables_1[939]? = some (Jvm.Cond.static ({ cls := "SandRipplesModel", name := "spot", desc := "(II)I" } : Jvm.MethodName)) := by decide +kernel
theorem tq_940 : tables_1[940]? = some (Jvm.Cond.code ({ cls := "SandRipplesModel", name := "spot", desc := "(II)I" } : Jvm.MethodName) prog_9_method_10_code (2 : Nat) (Option.some Jvm.ClassFile.FieldType.int)) := by decide +kernel
theorem tq_941 : tables_1[941]? = some (Jvm.Cond.methodLink "SandRipplesLaw" (22 : Nat) ({ cls := "SandRipplesModel", name := "told", desc := "(II)I" } : Jvm.MethodName)) := by decide +kernel
theorem tq_942 : tables_1[942]? = some (Jvm.Cond.instanceMethod ({ cls := "SandRipplesModel", name := "told", desc := "(II)I" } : Jvm.MethodName)) := by decide +kernel
theorem tq_943 : tables_1[943]? = some (Jvm.Cond.selects "SandRipplesModel" ({ cls := "SandRipplesModel", name := "told", desc := "(II)I" } : Jvm.MethodName) ({ cls := "SandRipplesModel", name := "told", desc := "(II)I" } : Jvm.MethodName)) := by decide +kernel
theorem tq_944 : tables_1[944]? = some (Jvm.Cond.code ({ cls := "SandRipplesModel", name := "told", desc := "(II)I" } : Jvm.MethodName) prog_9_method_23_code (3 : Nat) (Option.some Jvm.ClassFile.FieldType.int)) := by decide +kernel
theorem tq_945 : tables_1[945]? = some (Jvm.Cond.methodLink "SandRipplesModel" (128 : Nat) ({ cls := "SandRipplesModel", name := "isFloor", desc := "(I)Z" } : Jvm.MethodName)) := by decide +kernel
theorem tq_946 : tables_1[946]? = some (Jvm.Cond.privateMethod ({ cls := "SandRipplesModel", name := "isFloor", desc := "(I)Z" } : Jvm.MethodName)) := by decide +kernel
theorem tq_947 : tables_1[947]? = some (Jvm.Cond.instanceMethod ({ cls := "SandRipplesModel", name := "isFloor", desc := "(I)Z" } : Jvm.MethodName)) := by decide +kernel
theorem tq_948 : tables_1[948]? = some (Jvm.Cond.code ({ cls := "SandRipplesModel", name := "isFloor", desc := "(I)Z" } : Jvm.MethodName) prog_9_method_5_code (2 : Nat) (Option.some Jvm.ClassFile.FieldType.boolean)) := by decide +kernel
theorem tq_949 : tables_1[949]? = some (Jvm.Cond.methodLink "SandRipplesModel" (92 : Nat) ({ cls := "SandRipplesModel", name := "kindOf", desc := "(I)I" } : Jvm.MethodName)) := by decide +kernel
theorem tq_950 : tables_1[950]? = some (Jvm.Cond.privateMethod ({ cls := "SandRipplesModel", name := "kindOf", desc := "(I)I" } : Jvm.MethodName)) := by decide +kernel
theorem tq_951 : tables_1[951]? = some (Jvm.Cond.instanceMethod ({ cls := "SandRipplesModel", name := "kindOf", desc := "(I)I" } : Jvm.MethodName)) := by decide +kernel
theorem tq_952 : tables_1[952]? = some (Jvm.Cond.code ({ cls := "SandRipplesModel", name := "kindOf", desc := "(I)I" } : Jvm.MethodName) prog_9_method_8_code (2 : Nat) (Option.some Jvm.ClassFile.FieldType.int)) := by decide +kernel
theorem tq_953 : tables_1[953]? = some (Jvm.Cond.methodLink "SandRipplesModel" (99 : Nat) ({ cls := "SandRipplesModel", name := "tickOf", desc := "(I)I" } : Jvm.MethodName)) := by decide +kernel
theorem tq_954 : tables_1[954]? = some (Jvm.Cond.privateMethod ({ cls := "SandRipplesModel", name := "tickOf", desc := "(I)I" } : Jvm.MethodName)) := by decide +kernel
theorem tq_955 : tables_1[955]? = some (Jvm.Cond.instanceMethod ({ cls := "SandRipplesModel", name := "tickOf", desc := "(I)I" } : Jvm.MethodName)) := by decide +kernel
theorem tq_956 : tables_1[956]? = some (Jvm.Cond.code ({ cls := "SandRipplesModel", name := "tickOf", desc := "(I)I" } : Jvm.MethodName) prog_9_method_9_code (2 : Nat) (Option.some Jvm.ClassFile.FieldType.int)) := by decide +kernel
theorem tq_957 : tables_1[957]? = some (Jvm.Cond.methodLink "SandRipplesModel" (125 : Nat) ({ cls := "SandRipplesModel", name := "sumOf", desc := "(I)I" } : Jvm.MethodName)) := by decide +kernel
theorem tq_958 : tables_1[958]? = some (Jvm.Cond.privateMethod ({ cls := "SandRipplesModel", name := "sumOf", desc := "(I)I" } : Jvm.MethodName)) := by decide +kernel
theorem tq_959 : tables_1[959]? = some (Jvm.Cond.instanceMethod ({ cls := "SandRipplesModel", name := "sumOf", desc := "(I)I" } : Jvm.MethodName)) := by decide +kernel
theorem tq_960 : tables_1[960]? = some (Jvm.Cond.code ({ cls := "SandRipplesModel", name := "sumOf", desc := "(I)I" } : Jvm.MethodName) prog_9_method_19_code (4 : Nat) (Option.some Jvm.ClassFile.FieldType.int)) := by decide +kernel
theorem tq_961 : tables_1[961]? = some (Jvm.Cond.methodLink "SandRipplesModel" (102 : Nat) ({ cls := "SandRipplesModel", name := "sandOf", desc := "(II)I" } : Jvm.MethodName)) := by decide +kernel
theorem tq_962 : tables_1[962]? = some (Jvm.Cond.privateMethod ({ cls := "SandRipplesModel", name := "sandOf", desc := "(II)I" } : Jvm.MethodName)) := by decide +kernel
theorem tq_963 : tables_1[963]? = some (Jvm.Cond.instanceMethod ({ cls := "SandRipplesModel", name := "sandOf", desc := "(II)I" } : Jvm.MethodName)) := by decide +kernel
theorem tq_964 : tables_1[964]? = some (Jvm.Cond.code ({ cls := "SandRipplesModel", name := "sandOf", desc := "(II)I" } : Jvm.MethodName) prog_9_method_11_code (3 : Nat) (Option.some Jvm.ClassFile.FieldType.int)) := by decide +kernel
theorem tq_965 : tables_1[965]? = some (Jvm.Cond.methodLink "SandRipplesModel" (115 : Nat) ({ cls := "SandRipplesModel", name := "extremeOf", desc := "(IZ)I" } : Jvm.MethodName)) := by decide +kernel
theorem tq_966 : tables_1[966]? = some (Jvm.Cond.privateMethod ({ cls := "SandRipplesModel", name := "extremeOf", desc := "(IZ)I" } : Jvm.MethodName)) := by decide +kernel
theorem tq_967 : tables_1[967]? = some (Jvm.Cond.instanceMethod ({ cls := "SandRipplesModel", name := "extremeOf", desc := "(IZ)I" } : Jvm.MethodName)) := by decide +kernel
theorem tq_968 : tables_1[968]? = some (Jvm.Cond.code ({ cls := "SandRipplesModel", name := "extremeOf", desc := "(IZ)I" } : Jvm.MethodName) prog_9_method_20_code (6 : Nat) (Option.some Jvm.ClassFile.FieldType.int)) := by decide +kernel
theorem tq_969 : tables_1[969]? = some (Jvm.Cond.methodLink "SandRipplesModel" (119 : Nat) ({ cls := "SandRipplesModel", name := "crestsOf", desc := "(I)I" } : Jvm.MethodName)) := by decide +kernel
theorem tq_970 : tables_1[970]? = some (Jvm.Cond.privateMethod ({ cls := "SandRipplesModel", name := "crestsOf", desc := "(I)I" } : Jvm.MethodName)) := by decide +kernel
theorem tq_971 : tables_1[971]? = some (Jvm.Cond.instanceMethod ({ cls := "SandRipplesModel", name := "crestsOf", desc := "(I)I" } : Jvm.MethodName)) := by decide +kernel
theorem tq_972 : tables_1[972]? = some (Jvm.Cond.code ({ cls := "SandRipplesModel", name := "crestsOf", desc := "(I)I" } : Jvm.MethodName) prog_9_method_17_code (4 : Nat) (Option.some Jvm.ClassFile.FieldType.int)) := by decide +kernel
theorem tq_973 : tables_1[973]? = some (Jvm.Cond.methodLink "SandRipplesModel" (111 : Nat) ({ cls := "SandRipplesModel", name := "isCrest", desc := "(II)Z" } : Jvm.MethodName)) := by decide +kernel
theorem tq_974 : tables_1[974]? = some (Jvm.Cond.privateMethod ({ cls := "SandRipplesModel", name := "isCrest", desc := "(II)Z" } : Jvm.MethodName)) := by decide +kernel
theorem tq_975 : tables_1[975]? = some (Jvm.Cond.instanceMethod ({ cls := "SandRipplesModel", name := "isCrest", desc := "(II)Z" } : Jvm.MethodName)) := by decide +kernel
theorem tq_976 : tables_1[976]? = some (Jvm.Cond.code ({ cls := "SandRipplesModel", name := "isCrest", desc := "(II)Z" } : Jvm.MethodName) prog_9_method_16_code (3 : Nat) (Option.some Jvm.ClassFile.FieldType.boolean)) := by decide +kernel
theorem tq_977 : tables_1[977]? = some (Jvm.Cond.methodLink "SandRipplesModel" (122 : Nat) ({ cls := "SandRipplesModel", name := "leanOf", desc := "(I)I" } : Jvm.MethodName)) := by decide +kernel
theorem tq_978 : tables_1[978]? = some (Jvm.Cond.privateMethod ({ cls := "SandRipplesModel", name := "leanOf", desc := "(I)I" } : Jvm.MethodName)) := by decide +kernel
theorem tq_979 : tables_1[979]? = some (Jvm.Cond.instanceMethod ({ cls := "SandRipplesModel", name := "leanOf", desc := "(I)I" } : Jvm.MethodName)) := by decide +kernel
theorem tq_980 : tables_1[980]? = some (Jvm.Cond.code ({ cls := "SandRipplesModel", name := "leanOf", desc := "(I)I" } : Jvm.MethodName) prog_9_method_18_code (5 : Nat) (Option.some Jvm.ClassFile.FieldType.int)) := by decide +kernel
theorem tq_981 : tables_1[981]? = some (Jvm.Cond.methodLink "SandRipplesModel" (132 : Nat) ({ cls := "SandRipplesModel", name := "worthOf", desc := "(I)I" } : Jvm.MethodName)) := by decide +kernel
theorem tq_982 : tables_1[982]? = some (Jvm.Cond.privateMethod ({ cls := "SandRipplesModel", name := "worthOf", desc := "(I)I" } : Jvm.MethodName)) := by decide +kernel
theorem tq_983 : tables_1[983]? = some (Jvm.Cond.instanceMethod ({ cls := "SandRipplesModel", name := "worthOf", desc := "(I)I" } : Jvm.MethodName)) := by decide +kernel
theorem tq_984 : tables_1[984]? = some (Jvm.Cond.code ({ cls := "SandRipplesModel", name := "worthOf", desc := "(I)I" } : Jvm.MethodName) prog_9_method_21_code (3 : Nat) (Option.some Jvm.ClassFile.FieldType.int)) := by decide +kernel
theorem tq_985 : tables_1[985]? = some (Jvm.Cond.methodLink "SandRipplesModel" (135 : Nat) ({ cls := "SandRipplesModel", name := "reachOf", desc := "(I)I" } : Jvm.MethodName)) := by decide +kernel
theorem tq_986 : tables_1[986]? = some (Jvm.Cond.privateMethod ({ cls := "SandRipplesModel", name := "reachOf", desc := "(I)I" } : Jvm.MethodName)) := by decide +kernel
theorem tq_987 : tables_1[987]? = some (Jvm.Cond.instanceMethod ({ cls := "SandRipplesModel", name := "reachOf", desc := "(I)I" } : Jvm.MethodName)) := by decide +kernel
theorem tq_988 : tables_1[988]? = some (Jvm.Cond.code ({ cls := "SandRipplesModel", name := "reachOf", desc := "(I)I" } : Jvm.MethodName) prog_9_method_13_code (3 : Nat) (Option.some Jvm.ClassFile.FieldType.int)) := by decide +kernel
theorem tq_989 : tables_1[989]? = some (Jvm.Cond.methodLink "SandRipplesModel" (95 : Nat) ({ cls := "SandRipplesModel", name := "within", desc := "(III)I" } : Jvm.MethodName)) := by decide +kernel
theorem tq_990 : tables_1[990]? = some (Jvm.Cond.static ({ cls := "SandRipplesModel", name := "within", desc := "(III)I" } : Jvm.MethodName)) := by decide +kernel
theorem tq_991 : tables_1[991]? = some (Jvm.Cond.code ({ cls := "SandRipplesModel", name := "within", desc := "(III)I" } : Jvm.MethodName) prog_9_method_3_code (3 : Nat) (Option.some Jvm.ClassFile.FieldType.int)) := by decide +kernel
theorem tq_992 : tables_1[992]? = some (Jvm.Cond.methodLink "SandRipplesModel" (138 : Nat) ({ cls := "SandRipplesModel", name := "wayOf", desc := "(I)I" } : Jvm.MethodName)) := by decide +kernel
theorem tq_993 : tables_1[993]? = some (Jvm.Cond.privateMethod ({ cls := "SandRipplesModel", name := "wayOf", desc := "(I)I" } : Jvm.MethodName)) := by decide +kernel
theorem tq_994 : tables_1[994]? = some (Jvm.Cond.instanceMethod ({ cls := "SandRipplesModel", name := "wayOf", desc := "(I)I" } : Jvm.MethodName)) := by decide +kernel
theorem tq_995 : tables_1[995]? = some (Jvm.Cond.code ({ cls := "SandRipplesModel", name := "wayOf", desc := "(I)I" } : Jvm.MethodName) prog_9_method_14_code (3 : Nat) (Option.some Jvm.ClassFile.FieldType.int)) := by decide +kernel
theorem tq_996 : tables_1[996]? = some (Jvm.Cond.methodLink "SandRipplesModel" (141 : Nat) ({ cls := "SandRipplesModel", name := "marksOf", desc := "(I)I" } : Jvm.MethodName)) := by decide +kernel
theorem tq_997 : tables_1[997]? = some (Jvm.Cond.privateMethod ({ cls := "SandRipplesModel", name := "marksOf", desc := "(I)I" } : Jvm.MethodName)) := by decide +kernel
theorem tq_998 : tables_1[998]? = some (Jvm.Cond.instanceMethod ({ cls := "SandRipplesModel", name := "marksOf", desc := "(I)I" } : Jvm.MethodName)) := by decide +kernel
theorem tq_999 : tables_1[999]? = some (Jvm.Cond.code ({ cls := "SandRipplesModel", name := "marksOf", desc := "(I)I" } : Jvm.MethodName) prog_9_method_22_code (5 : Nat) (Option.some Jvm.ClassFile.FieldType.int)) := by decide +kernel
theorem tq_1000 : tables_1[1000]? = some (Jvm.Cond.methodLink "SandRipplesModel" (105 : Nat) ({ cls := "SandRipplesModel", name := "counts", desc := "(I)I" } : Jvm.MethodName)) := by decide +kernel
theorem tq_1001 : tables_1[1001]? = some (Jvm.Cond.privateMethod ({ cls := "SandRipplesModel", name := "counts", desc := "(I)I" } : Jvm.MethodName)) := by decide +kernel
theorem tq_1002 : tables_1[1002]? = some (Jvm.Cond.instanceMethod ({ cls := "SandRipplesModel", name := "counts", desc := "(I)I" } : Jvm.MethodName)) := by decide +kernel
theorem tq_1003 : tables_1[1003]? = some (Jvm.Cond.code ({ cls := "SandRipplesModel", name := "counts", desc := "(I)I" } : Jvm.MethodName) prog_9_method_71_code (3 : Nat) (Option.some Jvm.ClassFile.FieldType.int)) := by decide +kernel
theorem tq_1004 : tables_1[1004]? = some (Jvm.Cond.methodLink "SandRipplesModel" (108 : Nat) ({ cls := "SandRipplesModel", name := "worksOut", desc := "(I)I" } : Jvm.MethodName)) := by decide +kernel
theorem tq_1005 : tables_1[1005]? = some (Jvm.Cond.privateMethod ({ cls := "SandRipplesModel", name := "worksOut", desc := "(I)I" } : Jvm.MethodName)) := by decide +kernel
theorem tq_1006 : tables_1[1006]? = some (Jvm.Cond.instanceMethod ({ cls := "SandRipplesModel", name := "worksOut", desc := "(I)I" } : Jvm.MethodName)) := by decide +kernel
theorem tq_1007 : tables_1[1007]? = some (Jvm.Cond.code ({ cls := "SandRipplesModel", name := "worksOut", desc := "(I)I" } : Jvm.MethodName) prog_9_method_74_code (6 : Nat) (Option.some Jvm.ClassFile.FieldType.int)) := by decide +kernel
theorem tq_1008 : tables_1[1008]? = some (Jvm.Cond.methodLink "SandRipplesModel" (258 : Nat) ({ cls := "SandRipplesModel", name := "two", desc := "(III)I" } : Jvm.MethodName)) := by decide +kernel
theorem tq_1009 : tables_1[1009]? = some (Jvm.Cond.static ({ cls := "SandRipplesModel", name := "two", desc := "(III)I" } : Jvm.MethodName)) := by decide +kernel
theorem tq_1010 : tables_1[1010]? = some (Jvm.Cond.code ({ cls := "SandRipplesModel", name := "two", desc := "(III)I" } : Jvm.MethodName) prog_9_method_73_code (3 : Nat) (Option.some Jvm.ClassFile.FieldType.int)) := by decide +kernel
theorem tq_1011 : tables_1[1011]? = some (Jvm.Cond.methodLink "SandRipplesLaw" (26 : Nat) ({ cls := "SandRipplesModel", name := "as", desc := "(II)I" } : Jvm.MethodName)) := by decide +kernel
theorem tq_1012 : tables_1[1012]? = some (Jvm.Cond.instanceMethod ({ cls := "SandRipplesModel", name := "as", desc := "(II)I" } : Jvm.MethodName)) := by decide +kernel
theorem tq_1013 : tables_1[1013]? = some (Jvm.Cond.selects "SandRipplesModel" ({ cls := "SandRipplesModel", name := "as", desc := "(II)I" } : Jvm.MethodName) ({ cls := "SandRipplesModel", name := "as", desc := "(II)I" } : Jvm.MethodName)) := by decide +kernel
theorem tq_1014 : tables_1[1014]? = some (Jvm.Cond.code ({ cls := "SandRipplesModel", name := "as", desc := "(II)I" } : Jvm.MethodName) prog_9_method_25_code (3 : Nat) (Option.some Jvm.ClassFile.FieldType.int)) := by decide +kernel
theorem tq_1015 : tables_1[1015]? = some (Jvm.Cond.methodLink "SandRipplesModel" (144 : Nat) ({ cls := "SandRipplesModel", name := "isUnder", desc := "(II)Z" } : Jvm.MethodName)) := by decide +kernel
theorem tq_1016 : tables_1[1016]? = some (Jvm.Cond.static ({ cls := "SandRipplesModel", name := "isUnder", desc := "(II)Z" } : Jvm.MethodName)) := by decide +kernel
theorem tq_1017 : tables_1[1017]? = some (Jvm.Cond.code ({ cls := "SandRipplesModel", name := "isUnder", desc := "(II)Z" } : Jvm.MethodName) prog_9_method_24_code (2 : Nat) (Option.some Jvm.ClassFile.FieldType.boolean)) := by decide +kernel
theorem tq_1018 : tables_1[1018]? = some (Jvm.Cond.constant "SandRipplesModel" (147 : Nat) (-1000000012 : Int32)) := by decide +kernel
theorem tq_1019 : tables_1[1019]? = some (Jvm.Cond.methodLink "SandRipplesLaw" (30 : Nat) ({ cls := "SandRipplesModel", name := "turns", desc := "(II)I" } : Jvm.MethodName)) := by decide +kernel
theorem tq_1020 : tables_1[1020]? = some (Jvm.Cond.instanceMethod ({ cls := "SandRipplesModel", name := "turns", desc := "(II)I" } : Jvm.MethodName)) := by decide +kernel
theorem tq_1021 : tables_1[1021]? = some (Jvm.Cond.selects "SandRipplesModel" ({ cls := "SandRipplesModel", name := "turns", desc := "(II)I" } : Jvm.MethodName) ({ cls := "SandRipplesModel", name := "turns", desc := "(II)I" } : Jvm.MethodName)) := by decide +kernel
theorem tq_1022 : tables_1[1022]? = some (Jvm.Cond.code ({ cls := "SandRipplesModel", name := "turns", desc := "(II)I" } : Jvm.MethodName) prog_9_method_27_code (3 : Nat) (Option.some Jvm.ClassFile.FieldType.int)) := by decide +kernel
theorem tq_1023 : tables_1[1023]? = some (Jvm.Cond.methodLink "SandRipplesModel" (148 : Nat) ({ cls := "SandRipplesModel", name := "becomes", desc := "(II)I" } : Jvm.MethodName)) := by decide +kernel
theorem tq_1024 : tables_1[1024]? = some (Jvm.Cond.privateMethod ({ cls := "SandRipplesModel", name := "becomes", desc := "(II)I" } : Jvm.MethodName)) := by decide +kernel
theorem tq_1025 : tables_1[1025]? = some (Jvm.Cond.instanceMethod ({ cls := "SandRipplesModel", name := "becomes", desc := "(II)I" } : Jvm.MethodName)) := by decide +kernel
theorem tq_1026 : tables_1[1026]? = some (Jvm.Cond.code ({ cls := "SandRipplesModel", name := "becomes", desc := "(II)I" } : Jvm.MethodName) prog_9_method_26_code (4 : Nat) (Option.some Jvm.ClassFile.FieldType.int)) := by decide +kernel
theorem tq_1027 : tables_1[1027]? = some (Jvm.Cond.methodLink "SandRipplesLaw" (34 : Nat) ({ cls := "SandRipplesModel", name := "sea", desc := "(II)I" } : Jvm.MethodName)) := by decide +kernel
theorem tq_1028 : tables_1[1028]? = some (Jvm.Cond.instanceMethod ({ cls := "SandRipplesModel", name := "sea", desc := "(II)I" } : Jvm.MethodName)) := by decide +kernel
theorem tq_1029 : tables_1[1029]? = some (Jvm.Cond.selects "SandRipplesModel" ({ cls := "SandRipplesModel", name := "sea", desc := "(II)I" } : Jvm.MethodName) ({ cls := "SandRipplesModel", name := "sea", desc := "(II)I" } : Jvm.MethodName)) := by decide +kernel
theorem tq_1030 : tables_1[1030]? = some (Jvm.Cond.code ({ cls := "SandRipplesModel", name := "sea", desc := "(II)I" } : Jvm.MethodName) prog_9_method_28_code (3 : Nat) (Option.some Jvm.ClassFile.FieldType.int)) := by decide +kernel
theorem tq_1031 : tables_1[1031]? = some (Jvm.Cond.methodLink "SandRipplesLaw" (38 : Nat) ({ cls := "SandRipplesModel", name := "sand", desc := "(II)I" } : Jvm.MethodName)) := by decide +kernel
theorem tq_1032 : tables_1[1032]? = some (Jvm.Cond.instanceMethod ({ cls := "SandRipplesModel", name := "sand", desc := "(II)I" } : Jvm.MethodName)) := by decide +kernel
theorem tq_1033 : tables_1[1033]? = some (Jvm.Cond.selects "SandRipplesModel" ({ cls := "SandRipplesModel", name := "sand", desc := "(II)I" } : Jvm.MethodName) ({ cls := "SandRipplesModel", name := "sand", desc := "(II)I" } : Jvm.MethodName)) := by decide +kernel
theorem tq_1034 : tables_1[1034]? = some (Jvm.Cond.code ({ cls := "SandRipplesModel", name := "sand", desc := "(II)I" } : Jvm.MethodName) prog_9_method_29_code (3 : Nat) (Option.some Jvm.ClassFile.FieldType.int)) := by decide +kernel
theorem tq_1035 : tables_1[1035]? = some (Jvm.Cond.methodLink "SandRipplesModel" (151 : Nat) ({ cls := "SandRipplesModel", name := "isCell", desc := "(I)Z" } : Jvm.MethodName)) := by decide +kernel
theorem tq_1036 : tables_1[1036]? = some (Jvm.Cond.static ({ cls := "SandRipplesModel", name := "isCell", desc := "(I)Z" } : Jvm.MethodName)) := by decide +kernel
theorem tq_1037 : tables_1[1037]? = some (Jvm.Cond.code ({ cls := "SandRipplesModel", name := "isCell", desc := "(I)Z" } : Jvm.MethodName) prog_9_method_6_code (1 : Nat) (Option.some Jvm.ClassFile.FieldType.boolean)) := by decide +kernel
theorem tq_1038 : tables_1[1038]? = some (Jvm.Cond.methodLink "SandRipplesLaw" (43 : Nat) ({ cls := "SandRipplesModel", name := "heap", desc := "(III)I" } : Jvm.MethodName)) := by decide +kernel
theorem tq_1039 : tables_1[1039]? = some (Jvm.Cond.instanceMethod ({ cls := "SandRipplesModel", name := "heap", desc := "(III)I" } : Jvm.MethodName)) := by decide +kernel
theorem tq_1040 : tables_1[1040]? = some (Jvm.Cond.selects "SandRipplesModel" ({ cls := "SandRipplesModel", name := "heap", desc := "(III)I" } : Jvm.MethodName) ({ cls := "SandRipplesModel", name := "heap", desc := "(III)I" } : Jvm.MethodName)) := by decide +kernel
theorem tq_1041 : tables_1[1041]? = some (Jvm.Cond.code ({ cls := "SandRipplesModel", name := "heap", desc := "(III)I" } : Jvm.MethodName) prog_9_method_30_code (4 : Nat) (Option.some Jvm.ClassFile.FieldType.int)) := by decide +kernel
theorem tq_1042 : tables_1[1042]? = some (Jvm.Cond.methodLink "SandRipplesLaw" (47 : Nat) ({ cls := "SandRipplesModel", name := "deal", desc := "(I)I" } : Jvm.MethodName)) := by decide +kernel
theorem tq_1043 : tables_1[1043]? = some (Jvm.Cond.instanceMethod ({ cls := "SandRipplesModel", name := "deal", desc := "(I)I" } : Jvm.MethodName)) := by decide +kernel
theorem tq_1044 : tables_1[1044]? = some (Jvm.Cond.selects "SandRipplesModel" ({ cls := "SandRipplesModel", name := "deal", desc := "(I)I" } : Jvm.MethodName) ({ cls := "SandRipplesModel", name := "deal", desc := "(I)I" } : Jvm.MethodName)) := by decide +kernel
theorem tq_1045 : tables_1[1045]? = some (Jvm.Cond.code ({ cls := "SandRipplesModel", name := "deal", desc := "(I)I" } : Jvm.MethodName) prog_9_method_32_code (3 : Nat) (Option.some Jvm.ClassFile.FieldType.int)) := by decide +kernel
theorem tq_1046 : tables_1[1046]? = some (Jvm.Cond.methodLink "SandRipplesModel" (155 : Nat) ({ cls := "SandRipplesModel", name := "draw", desc := "()I" } : Jvm.MethodName)) := by decide +kernel
theorem tq_1047 : tables_1[1047]? = some (Jvm.Cond.privateMethod ({ cls := "SandRipplesModel", name := "draw", desc := "()I" } : Jvm.MethodName)) := by decide +kernel
theorem tq_1048 : tables_1[1048]? = some (Jvm.Cond.instanceMethod ({ cls := "SandRipplesModel", name := "draw", desc := "()I" } : Jvm.MethodName)) := by decide +kernel
theorem tq_1049 : tables_1[1049]? = some (Jvm.Cond.code ({ cls := "SandRipplesModel", name := "draw", desc := "()I" } : Jvm.MethodName) prog_9_method_31_code (1 : Nat) (Option.some Jvm.ClassFile.FieldType.int)) := by decide +kernel
theorem tq_1050 : tables_1[1050]? = some (Jvm.Cond.constant "SandRipplesModel" (154 : Nat) (1103515245 : Int32)) := by decide +kernel
theorem tq_1051 : tables_1[1051]? = some (Jvm.Cond.methodLink "SandRipplesLaw" (51 : Nat) ({ cls := "SandRipplesModel", name := "seed", desc := "(I)I" } : Jvm.MethodName)) := by decide +kernel
theorem tq_1052 : tables_1[1052]? = some (Jvm.Cond.instanceMethod ({ cls := "SandRipplesModel", name := "seed", desc := "(I)I" } : Jvm.MethodName)) := by decide +kernel
theorem tq_1053 : tables_1[1053]? = some (Jvm.Cond.selects "SandRipplesModel" ({ cls := "SandRipplesModel", name := "seed", desc := "(I)I" } : Jvm.MethodName) ({ cls := "SandRipplesModel", name := "seed", desc := "(I)I" } : Jvm.MethodName)) := by decide +kernel
theorem tq_1054 : tables_1[1054]? = some (Jvm.Cond.code ({ cls := "SandRipplesModel", name := "seed", desc := "(I)I" } : Jvm.MethodName) prog_9_method_33_code (3 : Nat) (Option.some Jvm.ClassFile.FieldType.int)) := by decide +kernel
theorem tq_1055 : tables_1[1055]? = some (Jvm.Cond.methodLink "SandRipplesLaw" (55 : Nat) ({ cls := "SandRipplesModel", name := "lift", desc := "(III)I" } : Jvm.MethodName)) := by decide +kernel
theorem tq_1056 : tables_1[1056]? = some (Jvm.Cond.instanceMethod ({ cls := "SandRipplesModel", name := "lift", desc := "(III)I" } : Jvm.MethodName)) := by decide +kernel
theorem tq_1057 : tables_1[1057]? = some (Jvm.Cond.selects "SandRipplesModel" ({ cls := "SandRipplesModel", name := "lift", desc := "(III)I" } : Jvm.MethodName) ({ cls := "SandRipplesModel", name := "lift", desc := "(III)I" } : Jvm.MethodName)) := by decide +kernel
theorem tq_1058 : tables_1[1058]? = some (Jvm.Cond.code ({ cls := "SandRipplesModel", name := "lift", desc := "(III)I" } : Jvm.MethodName) prog_9_method_34_code (5 : Nat) (Option.some Jvm.ClassFile.FieldType.int)) := by decide +kernel
theorem tq_1059 : tables_1[1059]? = some (Jvm.Cond.methodLink "SandRipplesModel" (159 : Nat) ({ cls := "SandRipplesModel", name := "liftOf", desc := "(III)I" } : Jvm.MethodName)) := by decide +kernel
theorem tq_1060 : tables_1[1060]? = some (Jvm.Cond.privateMethod ({ cls := "SandRipplesModel", name := "liftOf", desc := "(III)I" } : Jvm.MethodName)) := by decide +kernel
theorem tq_1061 : tables_1[1061]? = some (Jvm.Cond.instanceMethod ({ cls := "SandRipplesModel", name := "liftOf", desc := "(III)I" } : Jvm.MethodName)) := by decide +kernel
theorem tq_1062 : tables_1[1062]? = some (Jvm.Cond.code ({ cls := "SandRipplesModel", name := "liftOf", desc := "(III)I" } : Jvm.MethodName) prog_9_method_15_code (7 : Nat) (Option.some Jvm.ClassFile.FieldType.int)) := by decide +kernel
theorem tq_1063 : tables_1[1063]? = some (Jvm.Cond.methodLink "SandRipplesLaw" (59 : Nat) ({ cls := "SandRipplesModel", name := "run", desc := "(II)I" } : Jvm.MethodName)) := by decide +kernel
theorem tq_1064 : tables_1[1064]? = some (Jvm.Cond.instanceMethod ({ cls := "SandRipplesModel", name := "run", desc := "(II)I" } : Jvm.MethodName)) := by decide +kernel
theorem tq_1065 : tables_1[1065]? = some (Jvm.Cond.selects "SandRipplesModel" ({ cls := "SandRipplesModel", name := "run", desc := "(II)I" } : Jvm.MethodName) ({ cls := "SandRipplesModel", name := "run", desc := "(II)I" } : Jvm.MethodName)) := by decide +kernel
theorem tq_1066 : tables_1[1066]? = some (Jvm.Cond.code ({ cls := "SandRipplesModel", name := "run", desc := "(II)I" } : Jvm.MethodName) prog_9_method_38_code (3 : Nat) (Option.some Jvm.ClassFile.FieldType.int)) := by decide +kernel
theorem tq_1067 : tables_1[1067]? = some (Jvm.Cond.methodLink "SandRipplesModel" (168 : Nat) ({ cls := "SandRipplesModel", name := "ticks", desc := "(II)I" } : Jvm.MethodName)) := by decide +kernel
theorem tq_1068 : tables_1[1068]? = some (Jvm.Cond.privateMethod ({ cls := "SandRipplesModel", name := "ticks", desc := "(II)I" } : Jvm.MethodName)) := by decide +kernel
theorem tq_1069 : tables_1[1069]? = some (Jvm.Cond.instanceMethod ({ cls := "SandRipplesModel", name := "ticks", desc := "(II)I" } : Jvm.MethodName)) := by decide +kernel
theorem tq_1070 : tables_1[1070]? = some (Jvm.Cond.code ({ cls := "SandRipplesModel", name := "ticks", desc := "(II)I" } : Jvm.MethodName) prog_9_method_37_code (5 : Nat) (Option.some Jvm.ClassFile.FieldType.int)) := by decide +kernel
theorem tq_1071 : tables_1[1071]? = some (Jvm.Cond.methodLink "SandRipplesModel" (165 : Nat) ({ cls := "SandRipplesModel", name := "tick", desc := "(I)I" } : Jvm.MethodName)) := by decide +kernel
theorem tq_1072 : tables_1[1072]? = some (Jvm.Cond.privateMethod ({ cls := "SandRipplesModel", name := "tick", desc := "(I)I" } : Jvm.MethodName)) := by decide +kernel
theorem tq_1073 : tables_1[1073]? = some (Jvm.Cond.instanceMethod ({ cls := "SandRipplesModel", name := "tick", desc := "(I)I" } : Jvm.MethodName)) := by decide +kernel
theorem tq_1074 : tables_1[1074]? = some (Jvm.Cond.code ({ cls := "SandRipplesModel", name := "tick", desc := "(I)I" } : Jvm.MethodName) prog_9_method_36_code (9 : Nat) (Option.some Jvm.ClassFile.FieldType.int)) := by decide +kernel
theorem tq_1075 : tables_1[1075]? = some (Jvm.Cond.methodLink "SandRipplesModel" (162 : Nat) ({ cls := "SandRipplesModel", name := "slideBy", desc := "(I)I" } : Jvm.MethodName)) := by decide +kernel
theorem tq_1076 : tables_1[1076]? = some (Jvm.Cond.privateMethod ({ cls := "SandRipplesModel", name := "slideBy", desc := "(I)I" } : Jvm.MethodName)) := by decide +kernel
theorem tq_1077 : tables_1[1077]? = some (Jvm.Cond.instanceMethod ({ cls := "SandRipplesModel", name := "slideBy", desc := "(I)I" } : Jvm.MethodName)) := by decide +kernel
theorem tq_1078 : tables_1[1078]? = some (Jvm.Cond.code ({ cls := "SandRipplesModel", name := "slideBy", desc := "(I)I" } : Jvm.MethodName) prog_9_method_35_code (3 : Nat) (Option.some Jvm.ClassFile.FieldType.int)) := by decide +kernel
theorem tq_1079 : tables_1[1079]? = some (Jvm.Cond.methodLink "SandRipplesLaw" (63 : Nat) ({ cls := "SandRipplesModel", name := "crest", desc := "(II)I" } : Jvm.MethodName)) := by decide +kernel
theorem tq_1080 : tables_1[1080]? = some (Jvm.Cond.instanceMethod ({ cls := "SandRipplesModel", name := "crest", desc := "(II)I" } : Jvm.MethodName)) := by decide +kernel
theorem tq_1081 : tables_1[1081]? = some (Jvm.Cond.selects "SandRipplesModel" ({ cls := "SandRipplesModel", name := "crest", desc := "(II)I" } : Jvm.MethodName) ({ cls := "SandRipplesModel", name := "crest", desc := "(II)I" } : Jvm.MethodName)) := by decide +kernel
theorem tq_1082 : tables_1[1082]? = some (Jvm.Cond.code ({ cls := "SandRipplesModel", name := "crest", desc := "(II)I" } : Jvm.MethodName) prog_9_method_39_code (5 : Nat) (Option.some Jvm.ClassFile.FieldType.int)) := by decide +kernel
theorem tq_1083 : tables_1[1083]? = some (Jvm.Cond.constant "SandRipplesModel" (171 : Nat) (-1000000005 : Int32)) := by decide +kernel
theorem tq_1084 : tables_1[1084]? = some (Jvm.Cond.methodLink "SandRipplesLaw" (67 : Nat) ({ cls := "SandRipplesModel", name := "apart", desc := "(I)I" } : Jvm.MethodName)) := by decide +kernel
theorem tq_1085 : tables_1[1085]? = some (Jvm.Cond.instanceMethod ({ cls := "SandRipplesModel", name := "apart", desc := "(I)I" } : Jvm.MethodName)) := by decide +kernel
theorem tq_1086 : tables_1[1086]? = some (Jvm.Cond.selects "SandRipplesModel" ({ cls := "SandRipplesModel", name := "apart", desc := "(I)I" } : Jvm.MethodName) ({ cls := "SandRipplesModel", name := "apart", desc := "(I)I" } : Jvm.MethodName)) := by decide +kernel
theorem tq_1087 : tables_1[1087]? = some (Jvm.Cond.code ({ cls := "SandRipplesModel", name := "apart", desc := "(I)I" } : Jvm.MethodName) prog_9_method_40_code (3 : Nat) (Option.some Jvm.ClassFile.FieldType.int)) := by decide +kernel
theorem tq_1088 : tables_1[1088]? = some (Jvm.Cond.methodLink "SandRipplesLaw" (71 : Nat) ({ cls := "SandRipplesModel", name := "flat", desc := "(II)I" } : Jvm.MethodName)) := by decide +kernel
theorem tq_1089 : tables_1[1089]? = some (Jvm.Cond.instanceMethod ({ cls := "SandRipplesModel", name := "flat", desc := "(II)I" } : Jvm.MethodName)) := by decide +kernel
theorem tq_1090 : tables_1[1090]? = some (Jvm.Cond.selects "SandRipplesModel" ({ cls := "SandRipplesModel", name := "flat", desc := "(II)I" } : Jvm.MethodName) ({ cls := "SandRipplesModel", name := "flat", desc := "(II)I" } : Jvm.MethodName)) := by decide +kernel
theorem tq_1091 : tables_1[1091]? = some (Jvm.Cond.code ({ cls := "SandRipplesModel", name := "flat", desc := "(II)I" } : Jvm.MethodName) prog_9_method_41_code (4 : Nat) (Option.some Jvm.ClassFile.FieldType.int)) := by decide +kernel
theorem tq_1092 : tables_1[1092]? = some (Jvm.Cond.methodLink "SandRipplesLaw" (75 : Nat) ({ cls := "SandRipplesModel", name := "soon", desc := "(II)I" } : Jvm.MethodName)) := by decide +kernel
theorem tq_1093 : tables_1[1093]? = some (Jvm.Cond.instanceMethod ({ cls := "SandRipplesModel", name := "soon", desc := "(II)I" } : Jvm.MethodName)) := by decide +kernel
theorem tq_1094 : tables_1[1094]? = some (Jvm.Cond.selects "SandRipplesModel" ({ cls := "SandRipplesModel", name := "soon", desc := "(II)I" } : Jvm.MethodName) ({ cls := "SandRipplesModel", name := "soon", desc := "(II)I" } : Jvm.MethodName)) := by decide +kernel
theorem tq_1095 : tables_1[1095]? = some (Jvm.Cond.code ({ cls := "SandRipplesModel", name := "soon", desc := "(II)I" } : Jvm.MethodName) prog_9_method_44_code (5 : Nat) (Option.some Jvm.ClassFile.FieldType.int)) := by decide +kernel
theorem tq_1096 : tables_1[1096]? = some (Jvm.Cond.methodLink "SandRipplesModel" (172 : Nat) ({ cls := "SandRipplesModel", name := "thinks", desc := "(I)V" } : Jvm.MethodName)) := by decide +kernel
theorem tq_1097 : tables_1[1097]? = some (Jvm.Cond.privateMethod ({ cls := "SandRipplesModel", name := "thinks", desc := "(I)V" } : Jvm.MethodName)) := by decide +kernel
theorem tq_1098 : tables_1[1098]? = some (Jvm.Cond.instanceMethod ({ cls := "SandRipplesModel", name := "thinks", desc := "(I)V" } : Jvm.MethodName)) := by decide +kernel
theorem tq_1099 : tables_1[1099]? = some (Jvm.Cond.code ({ cls := "SandRipplesModel", name := "thinks", desc := "(I)V" } : Jvm.MethodName) prog_9_method_42_code (3 : Nat) (Option.none : Option Jvm.ClassFile.FieldType)) := by decide +kernel
theorem tq_1100 : tables_1[1100]? = some (Jvm.Cond.methodLink "SandRipplesModel" (176 : Nat) ({ cls := "SandRipplesModel", name := "putsBack", desc := "(I)V" } : Jvm.MethodName)) := by decide +kernel
theorem tq_1101 : tables_1[1101]? = some (Jvm.Cond.privateMethod ({ cls := "SandRipplesModel", name := "putsBack", desc := "(I)V" } : Jvm.MethodName)) := by decide +kernel
theorem tq_1102 : tables_1[1102]? = some (Jvm.Cond.instanceMethod ({ cls := "SandRipplesModel", name := "putsBack", desc := "(I)V" } : Jvm.MethodName)) := by decide +kernel
theorem tq_1103 : tables_1[1103]? = some (Jvm.Cond.code ({ cls := "SandRipplesModel", name := "putsBack", desc := "(I)V" } : Jvm.MethodName) prog_9_method_43_code (3 : Nat) (Option.none : Option Jvm.ClassFile.FieldType)) := by decide +kernel
theorem tq_1104 : tables_1[1104]? = some (Jvm.Cond.methodLink "SandRipplesLaw" (79 : Nat) ({ cls := "SandRipplesModel", name := "period", desc := "(I)I" } : Jvm.MethodName)) := by decide +kernel
theorem tq_1105 : tables_1[1105]? = some (Jvm.Cond.instanceMethod ({ cls := "SandRipplesModel", name := "period", desc := "(I)I" } : Jvm.MethodName)) := by decide +kernel
theorem tq_1106 : tables_1[1106]? = some (Jvm.Cond.selects "SandRipplesModel" ({ cls := "SandRipplesModel", name := "period", desc := "(I)I" } : Jvm.MethodName) ({ cls := "SandRipplesModel", name := "period", desc := "(I)I" } : Jvm.MethodName)) := by decide +kernel
theorem tq_1107 : tables_1[1107]? = some (Jvm.Cond.code ({ cls := "SandRipplesModel", name := "period", desc := "(I)I" } : Jvm.MethodName) prog_9_method_46_code (5 : Nat) (Option.some Jvm.ClassFile.FieldType.int)) := by decide +kernel
theorem tq_1108 : tables_1[1108]? = some (Jvm.Cond.methodLink "SandRipplesModel" (179 : Nat) ({ cls := "SandRipplesModel", name := "isAsBefore", desc := "(I)Z" } : Jvm.MethodName)) := by decide +kernel
theorem tq_1109 : tables_1[1109]? = some (Jvm.Cond.privateMethod ({ cls := "SandRipplesModel", name := "isAsBefore", desc := "(I)Z" } : Jvm.MethodName)) := by decide +kernel
theorem tq_1110 : tables_1[1110]? = some (Jvm.Cond.instanceMethod ({ cls := "SandRipplesModel", name := "isAsBefore", desc := "(I)Z" } : Jvm.MethodName)) := by decide +kernel
theorem tq_1111 : tables_1[1111]? = some (Jvm.Cond.code ({ cls := "SandRipplesModel", name := "isAsBefore", desc := "(I)Z" } : Jvm.MethodName) prog_9_method_45_code (3 : Nat) (Option.some Jvm.ClassFile.FieldType.boolean)) := by decide +kernel
theorem tq_1112 : tables_1[1112]? = some (Jvm.Cond.methodLink "SandRipplesLaw" (83 : Nat) ({ cls := "SandRipplesModel", name := "foot", desc := "(III)I" } : Jvm.MethodName)) := by decide +kernel
theorem tq_1113 : tables_1[1113]? = some (Jvm.Cond.instanceMethod ({ cls := "SandRipplesModel", name := "foot", desc := "(III)I" } : Jvm.MethodName)) := by decide +kernel
theorem tq_1114 : tables_1[1114]? = some (Jvm.Cond.selects "SandRipplesModel" ({ cls := "SandRipplesModel", name := "foot", desc := "(III)I" } : Jvm.MethodName) ({ cls := "SandRipplesModel", name := "foot", desc := "(III)I" } : Jvm.MethodName)) := by decide +kernel
theorem tq_1115 : tables_1[1115]? = some (Jvm.Cond.code ({ cls := "SandRipplesModel", name := "foot", desc := "(III)I" } : Jvm.MethodName) prog_9_method_47_code (5 : Nat) (Option.some Jvm.ClassFile.FieldType.int)) := by decide +kernel
theorem tq_1116 : tables_1[1116]? = some (Jvm.Cond.methodLink "SandRipplesLaw" (87 : Nat) ({ cls := "SandRipplesModel", name := "worm", desc := "(II)I" } : Jvm.MethodName)) := by decide +kernel
theorem tq_1117 : tables_1[1117]? = some (Jvm.Cond.instanceMethod ({ cls := "SandRipplesModel", name := "worm", desc := "(II)I" } : Jvm.MethodName)) := by decide +kernel
theorem tq_1118 : tables_1[1118]? = some (Jvm.Cond.selects "SandRipplesModel" ({ cls := "SandRipplesModel", name := "worm", desc := "(II)I" } : Jvm.MethodName) ({ cls := "SandRipplesModel", name := "worm", desc := "(II)I" } : Jvm.MethodName)) := by decide +kernel
theorem tq_1119 : tables_1[1119]? = some (Jvm.Cond.code ({ cls := "SandRipplesModel", name := "worm", desc := "(II)I" } : Jvm.MethodName) prog_9_method_48_code (4 : Nat) (Option.some Jvm.ClassFile.FieldType.int)) := by decide +kernel
theorem tq_1120 : tables_1[1120]? = some (Jvm.Cond.methodLink "SandRipplesLaw" (91 : Nat) ({ cls := "SandRipplesModel", name := "press", desc := "(II)I" } : Jvm.MethodName)) := by decide +kernel
theorem tq_1121 : tables_1[1121]? = some (Jvm.Cond.instanceMethod ({ cls := "SandRipplesModel", name := "press", desc := "(II)I" } : Jvm.MethodName)) := by decide +kernel
theorem tq_1122 : tables_1[1122]? = some (Jvm.Cond.selects "SandRipplesModel" ({ cls := "SandRipplesModel", name := "press", desc := "(II)I" } : Jvm.MethodName) ({ cls := "SandRipplesModel", name := "press", desc := "(II)I" } : Jvm.MethodName)) := by decide +kernel
theorem tq_1123 : tables_1[1123]? = some (Jvm.Cond.code ({ cls := "SandRipplesModel", name := "press", desc := "(II)I" } : Jvm.MethodName) prog_9_method_49_code (5 : Nat) (Option.some Jvm.ClassFile.FieldType.int)) := by decide +kernel
theorem tq_1124 : tables_1[1124]? = some (Jvm.Cond.methodLink "SandRipplesLaw" (95 : Nat) ({ cls := "SandRipplesModel", name := "unlike", desc := "(II)I" } : Jvm.MethodName)) := by decide +kernel
theorem tq_1125 : tables_1[1125]? = some (Jvm.Cond.instanceMethod ({ cls := "SandRipplesModel", name := "unlike", desc := "(II)I" } : Jvm.MethodName)) := by decide +kernel
theorem tq_1126 : tables_1[1126]? = some (Jvm.Cond.selects "SandRipplesModel" ({ cls := "SandRipplesModel", name := "unlike", desc := "(II)I" } : Jvm.MethodName) ({ cls := "SandRipplesModel", name := "unlike", desc := "(II)I" } : Jvm.MethodName)) := by decide +kernel
theorem tq_1127 : tables_1[1127]? = some (Jvm.Cond.code ({ cls := "SandRipplesModel", name := "unlike", desc := "(II)I" } : Jvm.MethodName) prog_9_method_51_code (3 : Nat) (Option.some Jvm.ClassFile.FieldType.int)) := by decide +kernel
theorem tq_1128 : tables_1[1128]? = some (Jvm.Cond.methodLink "SandRipplesModel" (182 : Nat) ({ cls := "SandRipplesModel", name := "unlikeBy", desc := "(III)I" } : Jvm.MethodName)) := by decide +kernel
theorem tq_1129 : tables_1[1129]? = some (Jvm.Cond.privateMethod ({ cls := "SandRipplesModel", name := "unlikeBy", desc := "(III)I" } : Jvm.MethodName)) := by decide +kernel
theorem tq_1130 : tables_1[1130]? = some (Jvm.Cond.instanceMethod ({ cls := "SandRipplesModel", name := "unlikeBy", desc := "(III)I" } : Jvm.MethodName)) := by decide +kernel
theorem tq_1131 : tables_1[1131]? = some (Jvm.Cond.code ({ cls := "SandRipplesModel", name := "unlikeBy", desc := "(III)I" } : Jvm.MethodName) prog_9_method_50_code (6 : Nat) (Option.some Jvm.ClassFile.FieldType.int)) := by decide +kernel
theorem tq_1132 : tables_1[1132]? = some (Jvm.Cond.methodLink "SandRipplesLaw" (99 : Nat) ({ cls := "SandRipplesModel", name := "turned", desc := "(III)I" } : Jvm.MethodName)) := by decide +kernel
theorem tq_1133 : tables_1[1133]? = some (Jvm.Cond.instanceMethod ({ cls := "SandRipplesModel", name := "turned", desc := "(III)I" } : Jvm.MethodName)) := by decide +kernel
theorem tq_1134 : tables_1[1134]? = some (Jvm.Cond.selects "SandRipplesModel" ({ cls := "SandRipplesModel", name := "turned", desc := "(III)I" } : Jvm.MethodName) ({ cls := "SandRipplesModel", name := "turned", desc := "(III)I" } : Jvm.MethodName)) := by decide +kernel
theorem tq_1135 : tables_1[1135]? = some (Jvm.Cond.code ({ cls := "SandRipplesModel", name := "turned", desc := "(III)I" } : Jvm.MethodName) prog_9_method_52_code (6 : Nat) (Option.some Jvm.ClassFile.FieldType.int)) := by decide +kernel
theorem tq_1136 : tables_1[1136]? = some (Jvm.Cond.methodLink "SandRipplesLaw" (103 : Nat) ({ cls := "SandRipplesModel", name := "seen", desc := "(III)I" } : Jvm.MethodName)) := by decide +kernel
theorem tq_1137 : tables_1[1137]? = some (Jvm.Cond.instanceMethod ({ cls := "SandRipplesModel", name := "seen", desc := "(III)I" } : Jvm.MethodName)) := by decide +kernel
theorem tq_1138 : tables_1[1138]? = some (Jvm.Cond.selects "SandRipplesModel" ({ cls := "SandRipplesModel", name := "seen", desc := "(III)I" } : Jvm.MethodName) ({ cls := "SandRipplesModel", name := "seen", desc := "(III)I" } : Jvm.MethodName)) := by decide +kernel
theorem tq_1139 : tables_1[1139]? = some (Jvm.Cond.code ({ cls := "SandRipplesModel", name := "seen", desc := "(III)I" } : Jvm.MethodName) prog_9_method_54_code (12 : Nat) (Option.some Jvm.ClassFile.FieldType.int)) := by decide +kernel
theorem tq_1140 : tables_1[1140]? = some (Jvm.Cond.methodLink "SandRipplesModel" (185 : Nat) ({ cls := "SandRipplesModel", name := "isSheet", desc := "(I)Z" } : Jvm.MethodName)) := by decide +kernel
theorem tq_1141 : tables_1[1141]? = some (Jvm.Cond.static ({ cls := "SandRipplesModel", name := "isSheet", desc := "(I)Z" } : Jvm.MethodName)) := by decide +kernel
theorem tq_1142 : tables_1[1142]? = some (Jvm.Cond.code ({ cls := "SandRipplesModel", name := "isSheet", desc := "(I)Z" } : Jvm.MethodName) prog_9_method_75_code (1 : Nat) (Option.some Jvm.ClassFile.FieldType.boolean)) := by decide +kernel
theorem tq_1143 : tables_1[1143]? = some (Jvm.Cond.constant "SandRipplesModel" (188 : Nat) (-1000000011 : Int32)) := by decide +kernel
theorem tq_1144 : tables_1[1144]? = some (Jvm.Cond.methodLink "SandRipplesModel" (189 : Nat) ({ cls := "SandRipplesModel", name := "offBy", desc := "(II)J" } : Jvm.MethodName)) := by decide +kernel
theorem tq_1145 : tables_1[1145]? = some (Jvm.Cond.privateMethod ({ cls := "SandRipplesModel", name := "offBy", desc := "(II)J" } : Jvm.MethodName)) := by decide +kernel
theorem tq_1146 : tables_1[1146]? = some (Jvm.Cond.instanceMethod ({ cls := "SandRipplesModel", name := "offBy", desc := "(II)J" } : Jvm.MethodName)) := by decide +kernel
theorem tq_1147 : tables_1[1147]? = some (Jvm.Cond.code ({ cls := "SandRipplesModel", name := "offBy", desc := "(II)J" } : Jvm.MethodName) prog_9_method_53_code (8 : Nat) (Option.some Jvm.ClassFile.FieldType.long)) := by decide +kernel
theorem tq_1148 : tables_1[1148]? = some (Jvm.Cond.methodLink "SandRipplesLaw" (107 : Nat) ({ cls := "SandRipplesModel", name := "best", desc := "(III)I" } : Jvm.MethodName)) := by decide +kernel
theorem tq_1149 : tables_1[1149]? = some (Jvm.Cond.instanceMethod ({ cls := "SandRipplesModel", name := "best", desc := "(III)I" } : Jvm.MethodName)) := by decide +kernel
theorem tq_1150 : tables_1[1150]? = some (Jvm.Cond.selects "SandRipplesModel" ({ cls := "SandRipplesModel", name := "best", desc := "(III)I" } : Jvm.MethodName) ({ cls := "SandRipplesModel", name := "best", desc := "(III)I" } : Jvm.MethodName)) := by decide +kernel
theorem tq_1151 : tables_1[1151]? = some (Jvm.Cond.code ({ cls := "SandRipplesModel", name := "best", desc := "(III)I" } : Jvm.MethodName) prog_9_method_55_code (10 : Nat) (Option.some Jvm.ClassFile.FieldType.int)) := by decide +kernel
theorem tq_1152 : tables_1[1152]? = some (Jvm.Cond.methodLink "SandRipplesLaw" (111 : Nat) ({ cls := "SandRipplesModel", name := "feed", desc := "(III)I" } : Jvm.MethodName)) := by decide +kernel
theorem tq_1153 : tables_1[1153]? = some (Jvm.Cond.instanceMethod ({ cls := "SandRipplesModel", name := "feed", desc := "(III)I" } : Jvm.MethodName)) := by decide +kernel
theorem tq_1154 : tables_1[1154]? = some (Jvm.Cond.selects "SandRipplesModel" ({ cls := "SandRipplesModel", name := "feed", desc := "(III)I" } : Jvm.MethodName) ({ cls := "SandRipplesModel", name := "feed", desc := "(III)I" } : Jvm.MethodName)) := by decide +kernel
theorem tq_1155 : tables_1[1155]? = some (Jvm.Cond.code ({ cls := "SandRipplesModel", name := "feed", desc := "(III)I" } : Jvm.MethodName) prog_9_method_56_code (6 : Nat) (Option.some Jvm.ClassFile.FieldType.int)) := by decide +kernel
theorem tq_1156 : tables_1[1156]? = some (Jvm.Cond.methodLink "SandRipplesLaw" (115 : Nat) ({ cls := "SandRipplesModel", name := "trim", desc := "(I)I" } : Jvm.MethodName)) := by decide +kernel
theorem tq_1157 : tables_1[1157]? = some (Jvm.Cond.instanceMethod ({ cls := "SandRipplesModel", name := "trim", desc := "(I)I" } : Jvm.MethodName)) := by decide +kernel
theorem tq_1158 : tables_1[1158]? = some (Jvm.Cond.selects "SandRipplesModel" ({ cls := "SandRipplesModel", name := "trim", desc := "(I)I" } : Jvm.MethodName) ({ cls := "SandRipplesModel", name := "trim", desc := "(I)I" } : Jvm.MethodName)) := by decide +kernel
theorem tq_1159 : tables_1[1159]? = some (Jvm.Cond.code ({ cls := "SandRipplesModel", name := "trim", desc := "(I)I" } : Jvm.MethodName) prog_9_method_57_code (2 : Nat) (Option.some Jvm.ClassFile.FieldType.int)) := by decide +kernel
theorem tq_1160 : tables_1[1160]? = some (Jvm.Cond.methodLink "SandRipplesLaw" (120 : Nat) ({ cls := "SandRipplesModel", name := "text", desc := "()I" } : Jvm.MethodName)) := by decide +kernel
theorem tq_1161 : tables_1[1161]? = some (Jvm.Cond.instanceMethod ({ cls := "SandRipplesModel", name := "text", desc := "()I" } : Jvm.MethodName)) := by decide +kernel
theorem tq_1162 : tables_1[1162]? = some (Jvm.Cond.selects "SandRipplesModel" ({ cls := "SandRipplesModel", name := "text", desc := "()I" } : Jvm.MethodName) ({ cls := "SandRipplesModel", name := "text", desc := "()I" } : Jvm.MethodName)) := by decide +kernel
theorem tq_1163 : tables_1[1163]? = some (Jvm.Cond.code ({ cls := "SandRipplesModel", name := "text", desc := "()I" } : Jvm.MethodName) prog_9_method_69_code (4 : Nat) (Option.some Jvm.ClassFile.FieldType.int)) := by decide +kernel
theorem tq_1164 : tables_1[1164]? = some (Jvm.Cond.methodLink "SandRipplesModel" (221 : Nat) ({ cls := "SandRipplesModel", name := "go", desc := "()V" } : Jvm.MethodName)) := by decide +kernel
theorem tq_1165 : tables_1[1165]? = some (Jvm.Cond.privateMethod ({ cls := "SandRipplesModel", name := "go", desc := "()V" } : Jvm.MethodName)) := by decide +kernel
theorem tq_1166 : tables_1[1166]? = some (Jvm.Cond.instanceMethod ({ cls := "SandRipplesModel", name := "go", desc := "()V" } : Jvm.MethodName)) := by decide +kernel
theorem tq_1167 : tables_1[1167]? = some (Jvm.Cond.code ({ cls := "SandRipplesModel", name := "go", desc := "()V" } : Jvm.MethodName) prog_9_method_60_code (2 : Nat) (Option.none : Option Jvm.ClassFile.FieldType)) := by decide +kernel
theorem tq_1168 : tables_1[1168]? = some (Jvm.Cond.methodLink "SandRipplesModel" (209 : Nat) ({ cls := "SandRipplesModel", name := "isLetter", desc := "(I)Z" } : Jvm.MethodName)) := by decide +kernel
theorem tq_1169 : tables_1[1169]? = some (Jvm.Cond.privateMethod ({ cls := "SandRipplesModel", name := "isLetter", desc := "(I)Z" } : Jvm.MethodName)) := by decide +kernel
theorem tq_1170 : tables_1[1170]? = some (Jvm.Cond.instanceMethod ({ cls := "SandRipplesModel", name := "isLetter", desc := "(I)Z" } : Jvm.MethodName)) := by decide +kernel
theorem tq_1171 : tables_1[1171]? = some (Jvm.Cond.code ({ cls := "SandRipplesModel", name := "isLetter", desc := "(I)Z" } : Jvm.MethodName) prog_9_method_58_code (2 : Nat) (Option.some Jvm.ClassFile.FieldType.boolean)) := by decide +kernel
theorem tq_1172 : tables_1[1172]? = some (Jvm.Cond.methodLink "SandRipplesModel" (215 : Nat) ({ cls := "SandRipplesModel", name := "isFigure", desc := "(I)Z" } : Jvm.MethodName)) := by decide +kernel
theorem tq_1173 : tables_1[1173]? = some (Jvm.Cond.privateMethod ({ cls := "SandRipplesModel", name := "isFigure", desc := "(I)Z" } : Jvm.MethodName)) := by decide +kernel
theorem tq_1174 : tables_1[1174]? = some (Jvm.Cond.instanceMethod ({ cls := "SandRipplesModel", name := "isFigure", desc := "(I)Z" } : Jvm.MethodName)) := by decide +kernel
theorem tq_1175 : tables_1[1175]? = some (Jvm.Cond.code ({ cls := "SandRipplesModel", name := "isFigure", desc := "(I)Z" } : Jvm.MethodName) prog_9_method_59_code (2 : Nat) (Option.some Jvm.ClassFile.FieldType.boolean)) := by decide +kernel
theorem tq_1176 : tables_1[1176]? = some (Jvm.Cond.methodLink "SandRipplesModel" (252 : Nat) ({ cls := "SandRipplesModel", name := "takesKey", desc := "()Z" } : Jvm.MethodName)) := by decide +kernel
theorem tq_1177 : tables_1[1177]? = some (Jvm.Cond.privateMethod ({ cls := "SandRipplesModel", name := "takesKey", desc := "()Z" } : Jvm.MethodName)) := by decide +kernel
theorem tq_1178 : tables_1[1178]? = some (Jvm.Cond.instanceMethod ({ cls := "SandRipplesModel", name := "takesKey", desc := "()Z" } : Jvm.MethodName)) := by decide +kernel
theorem tq_1179 : tables_1[1179]? = some (Jvm.Cond.code ({ cls := "SandRipplesModel", name := "takesKey", desc := "()Z" } : Jvm.MethodName) prog_9_method_61_code (5 : Nat) (Option.some Jvm.ClassFile.FieldType.boolean)) := by decide +kernel
theorem tq_1180 : tables_1[1180]? = some (Jvm.Cond.methodLink "SandRipplesModel" (255 : Nat) ({ cls := "SandRipplesModel", name := "takesE", desc := "()Z" } : Jvm.MethodName)) := by decide +kernel
theorem tq_1181 : tables_1[1181]? = some (Jvm.Cond.privateMethod ({ cls := "SandRipplesModel", name := "takesE", desc := "()Z" } : Jvm.MethodName)) := by decide +kernel
theorem tq_1182 : tables_1[1182]? = some (Jvm.Cond.instanceMethod ({ cls := "SandRipplesModel", name := "takesE", desc := "()Z" } : Jvm.MethodName)) := by decide +kernel
theorem tq_1183 : tables_1[1183]? = some (Jvm.Cond.code ({ cls := "SandRipplesModel", name := "takesE", desc := "()Z" } : Jvm.MethodName) prog_9_method_67_code (5 : Nat) (Option.some Jvm.ClassFile.FieldType.boolean)) := by decide +kernel
theorem tq_1184 : tables_1[1184]? = some (Jvm.Cond.methodLink "SandRipplesModel" (242 : Nat) ({ cls := "SandRipplesModel", name := "takesPart", desc := "()Z" } : Jvm.MethodName)) := by decide +kernel
theorem tq_1185 : tables_1[1185]? = some (Jvm.Cond.privateMethod ({ cls := "SandRipplesModel", name := "takesPart", desc := "()Z" } : Jvm.MethodName)) := by decide +kernel
theorem tq_1186 : tables_1[1186]? = some (Jvm.Cond.instanceMethod ({ cls := "SandRipplesModel", name := "takesPart", desc := "()Z" } : Jvm.MethodName)) := by decide +kernel
theorem tq_1187 : tables_1[1187]? = some (Jvm.Cond.code ({ cls := "SandRipplesModel", name := "takesPart", desc := "()Z" } : Jvm.MethodName) prog_9_method_66_code (2 : Nat) (Option.some Jvm.ClassFile.FieldType.boolean)) := by decide +kernel
theorem tq_1188 : tables_1[1188]? = some (Jvm.Cond.methodLink "SandRipplesModel" (233 : Nat) ({ cls := "SandRipplesModel", name := "nameOf", desc := "(I)I" } : Jvm.MethodName)) := by decide +kernel
theorem tq_1189 : tables_1[1189]? = some (Jvm.Cond.privateMethod ({ cls := "SandRipplesModel", name := "nameOf", desc := "(I)I" } : Jvm.MethodName)) := by decide +kernel
theorem tq_1190 : tables_1[1190]? = some (Jvm.Cond.instanceMethod ({ cls := "SandRipplesModel", name := "nameOf", desc := "(I)I" } : Jvm.MethodName)) := by decide +kernel
theorem tq_1191 : tables_1[1191]? = some (Jvm.Cond.code ({ cls := "SandRipplesModel", name := "nameOf", desc := "(I)I" } : Jvm.MethodName) prog_9_method_62_code (2 : Nat) (Option.some Jvm.ClassFile.FieldType.int)) := by decide +kernel
theorem tq_1192 : tables_1[1192]? = some (Jvm.Cond.methodLink "SandRipplesModel" (239 : Nat) ({ cls := "SandRipplesModel", name := "settle", desc := "(I)V" } : Jvm.MethodName)) := by decide +kernel
theorem tq_1193 : tables_1[1193]? = some (Jvm.Cond.privateMethod ({ cls := "SandRipplesModel", name := "settle", desc := "(I)V" } : Jvm.MethodName)) := by decide +kernel
theorem tq_1194 : tables_1[1194]? = some (Jvm.Cond.instanceMethod ({ cls := "SandRipplesModel", name := "settle", desc := "(I)V" } : Jvm.MethodName)) := by decide +kernel
theorem tq_1195 : tables_1[1195]? = some (Jvm.Cond.code ({ cls := "SandRipplesModel", name := "settle", desc := "(I)V" } : Jvm.MethodName) prog_9_method_64_code (2 : Nat) (Option.none : Option Jvm.ClassFile.FieldType)) := by decide +kernel
theorem tq_1196 : tables_1[1196]? = some (Jvm.Cond.methodLink "SandRipplesModel" (227 : Nat) ({ cls := "SandRipplesModel", name := "rank", desc := "(I)I" } : Jvm.MethodName)) := by decide +kernel
theorem tq_1197 : tables_1[1197]? = some (Jvm.Cond.static ({ cls := "SandRipplesModel", name := "rank", desc := "(I)I" } : Jvm.MethodName)) := by decide +kernel
theorem tq_1198 : tables_1[1198]? = some (Jvm.Cond.code ({ cls := "SandRipplesModel", name := "rank", desc := "(I)I" } : Jvm.MethodName) prog_9_method_63_code (1 : Nat) (Option.some Jvm.ClassFile.FieldType.int)) := by decide +kernel
theorem tq_1199 : tables_1[1199]? = some (Jvm.Cond.methodLink "SandRipplesModel" (246 : Nat) ({ cls := "SandRipplesModel", name := "notsOpen", desc := "()I" } : Jvm.MethodName)) := by decide +kernel
theorem tq_1200 : tables_1[1200]? = some (Jvm.Cond.privateMethod ({ cls := "SandRipplesModel", name := "notsOpen", desc := "()I" } : Jvm.MethodName)) := by decide +kernel
theorem tq_1201 : tables_1[1201]? = some (Jvm.Cond.instanceMethod ({ cls := "SandRipplesModel", name := "notsOpen", desc := "()I" } : Jvm.MethodName)) := by decide +kernel
theorem tq_1202 : tables_1[1202]? = some (Jvm.Cond.code ({ cls := "SandRipplesModel", name := "notsOpen", desc := "()I" } : Jvm.MethodName) prog_9_method_68_code (3 : Nat) (Option.some Jvm.ClassFile.FieldType.int)) := by decide +kernel
theorem tq_1203 : tables_1[1203]? = some (Jvm.Cond.methodLink "SandRipplesModel" (249 : Nat) ({ cls := "SandRipplesModel", name := "signHere", desc := "()I" } : Jvm.MethodName)) := by decide +kernel
theorem tq_1204 : tables_1[1204]? = some (Jvm.Cond.privateMethod ({ cls := "SandRipplesModel", name := "signHere", desc := "()I" } : Jvm.MethodName)) := by decide +kernel
theorem tq_1205 : tables_1[1205]? = some (Jvm.Cond.instanceMethod ({ cls := "SandRipplesModel", name := "signHere", desc := "()I" } : Jvm.MethodName)) := by decide +kernel
theorem tq_1206 : tables_1[1206]? = some (Jvm.Cond.code ({ cls := "SandRipplesModel", name := "signHere", desc := "()I" } : Jvm.MethodName) prog_9_method_65_code (1 : Nat) (Option.some Jvm.ClassFile.FieldType.int)) := by decide +kernel
theorem tq_1207 : tables_1[1207]? = some (Jvm.Cond.methodLink "SandRipplesLaw" (124 : Nat) ({ cls := "SandRipplesModel", name := "textTold", desc := "(II)I" } : Jvm.MethodName)) := by decide +kernel
theorem tq_1208 : tables_1[1208]? = some (Jvm.Cond.instanceMethod ({ cls := "SandRipplesModel", name := "textTold", desc := "(II)I" } : Jvm.MethodName)) := by decide +kernel
theorem tq_1209 : tables_1[1209]? = some (Jvm.Cond.selects "SandRipplesModel" ({ cls := "SandRipplesModel", name := "textTold", desc := "(II)I" } : Jvm.MethodName) ({ cls := "SandRipplesModel", name := "textTold", desc := "(II)I" } : Jvm.MethodName)) := by decide +kernel
theorem tq_1210 : tables_1[1210]? = some (Jvm.Cond.code ({ cls := "SandRipplesModel", name := "textTold", desc := "(II)I" } : Jvm.MethodName) prog_9_method_70_code (3 : Nat) (Option.some Jvm.ClassFile.FieldType.int)) := by decide +kernel
theorem tq_1211 : tables_1[1211]? = some (Jvm.Cond.methodLink "SandRipplesLaw" (128 : Nat) ({ cls := "SandRipplesModel", name := "why", desc := "(I)I" } : Jvm.MethodName)) := by decide +kernel
theorem tq_1212 : tables_1[1212]? = some (Jvm.Cond.instanceMethod ({ cls := "SandRipplesModel", name := "why", desc := "(I)I" } : Jvm.MethodName)) := by decide +kernel
theorem tq_1213 : tables_1[1213]? = some (Jvm.Cond.selects "SandRipplesModel" ({ cls := "SandRipplesModel", name := "why", desc := "(I)I" } : Jvm.MethodName) ({ cls := "SandRipplesModel", name := "why", desc := "(I)I" } : Jvm.MethodName)) := by decide +kernel
theorem tq_1214 : tables_1[1214]? = some (Jvm.Cond.code ({ cls := "SandRipplesModel", name := "why", desc := "(I)I" } : Jvm.MethodName) prog_9_method_72_code (3 : Nat) (Option.some Jvm.ClassFile.FieldType.int)) := by decide +kernel
theorem tq_1215 : tables_1[1215]? = some (Jvm.Cond.methodLink "SandRipplesLaw" (132 : Nat) ({ cls := "SandRipplesModel", name := "sheet", desc := "(III)I" } : Jvm.MethodName)) := by decide +kernel
theorem tq_1216 : tables_1[1216]? = some (Jvm.Cond.instanceMethod ({ cls := "SandRipplesModel", name := "sheet", desc := "(III)I" } : Jvm.MethodName)) := by decide +kernel
theorem tq_1217 : tables_1[1217]? = some (Jvm.Cond.selects "SandRipplesModel" ({ cls := "SandRipplesModel", name := "sheet", desc := "(III)I" } : Jvm.MethodName) ({ cls := "SandRipplesModel", name := "sheet", desc := "(III)I" } : Jvm.MethodName)) := by decide +kernel
theorem tq_1218 : tables_1[1218]? = some (Jvm.Cond.code ({ cls := "SandRipplesModel", name := "sheet", desc := "(III)I" } : Jvm.MethodName) prog_9_method_77_code (5 : Nat) (Option.some Jvm.ClassFile.FieldType.int)) := by decide +kernel
theorem tq_1219 : tables_1[1219]? = some (Jvm.Cond.constant "SandRipplesModel" (261 : Nat) (-1000000014 : Int32)) := by decide +kernel
theorem tq_1220 : tables_1[1220]? = some (Jvm.Cond.methodLink "SandRipplesLaw" (136 : Nat) ({ cls := "SandRipplesModel", name := "mark", desc := "(III)I" } : Jvm.MethodName)) := by decide +kernel
theorem tq_1221 : tables_1[1221]? = some (Jvm.Cond.instanceMethod ({ cls := "SandRipplesModel", name := "mark", desc := "(III)I" } : Jvm.MethodName)) := by decide +kernel
theorem tq_1222 : tables_1[1222]? = some (Jvm.Cond.selects "SandRipplesModel" ({ cls := "SandRipplesModel", name := "mark", desc := "(III)I" } : Jvm.MethodName) ({ cls := "SandRipplesModel", name := "mark", desc := "(III)I" } : Jvm.MethodName)) := by decide +kernel
theorem tq_1223 : tables_1[1223]? = some (Jvm.Cond.code ({ cls := "SandRipplesModel", name := "mark", desc := "(III)I" } : Jvm.MethodName) prog_9_method_78_code (4 : Nat) (Option.some Jvm.ClassFile.FieldType.int)) := by decide +kernel
theorem tq_1224 : tables_1[1224]? = some (Jvm.Cond.constant "SandRipplesModel" (262 : Nat) (-1000000013 : Int32)) := by decide +kernel
theorem tq_1225 : tables_1[1225]? = some (Jvm.Cond.constant "SandRipplesModel" (263 : Nat) (-99999 : Int32)) := by decide +kernel
theorem tq_1226 : tables_1[1226]? = some (Jvm.Cond.constant "SandRipplesModel" (264 : Nat) (99999 : Int32)) := by decide +kernel
theorem tq_1227 : tables_1[1227]? = some (Jvm.Cond.methodLink "SandRipplesLaw" (140 : Nat) ({ cls := "SandRipplesModel", name := "pour", desc := "(II)I" } : Jvm.MethodName)) := by decide +kernel
theorem tq_1228 : tables_1[1228]? = some (Jvm.Cond.instanceMethod ({ cls := "SandRipplesModel", name := "pour", desc := "(II)I" } : Jvm.MethodName)) := by decide +kernel
theorem tq_1229 : tables_1[1229]? = some (Jvm.Cond.selects "SandRipplesModel" ({ cls := "SandRipplesModel", name := "pour", desc := "(II)I" } : Jvm.MethodName) ({ cls := "SandRipplesModel", name := "pour", desc := "(II)I" } : Jvm.MethodName)) := by decide +kernel
theorem tq_1230 : tables_1[1230]? = some (Jvm.Cond.code ({ cls := "SandRipplesModel", name := "pour", desc := "(II)I" } : Jvm.MethodName) prog_9_method_79_code (7 : Nat) (Option.some Jvm.ClassFile.FieldType.int)) := by decide +kernel
theorem tq_1231 : tables_1[1231]? = some (Jvm.Cond.methodLink "SandRipplesLaw" (144 : Nat) ({ cls := "SandRipplesModel", name := "reads", desc := "(II)I" } : Jvm.MethodName)) := by decide +kernel
theorem tq_1232 : tables_1[1232]? = some (Jvm.Cond.instanceMethod ({ cls := "SandRipplesModel", name := "reads", desc := "(II)I" } : Jvm.MethodName)) := by decide +kernel
theorem tq_1233 : tables_1[1233]? = some (Jvm.Cond.selects "SandRipplesModel" ({ cls := "SandRipplesModel", name := "reads", desc := "(II)I" } : Jvm.MethodName) ({ cls := "SandRipplesModel", name := "reads", desc := "(II)I" } : Jvm.MethodName)) := by decide +kernel
theorem tq_1234 : tables_1[1234]? = some (Jvm.Cond.code ({ cls := "SandRipplesModel", name := "reads", desc := "(II)I" } : Jvm.MethodName) prog_9_method_80_code (5 : Nat) (Option.some Jvm.ClassFile.FieldType.int)) := by decide +kernel
theorem tq_1235 : tables_1[1235]? = some (Jvm.Cond.methodLink "SandRipplesLaw" (149 : Nat) ({ cls := "SandRipplesModel", name := "copy", desc := "(IIIII)I" } : Jvm.MethodName)) := by decide +kernel
theorem tq_1236 : tables_1[1236]? = some (Jvm.Cond.instanceMethod ({ cls := "SandRipplesModel", name := "copy", desc := "(IIIII)I" } : Jvm.MethodName)) := by decide +kernel
theorem tq_1237 : tables_1[1237]? = some (Jvm.Cond.selects "SandRipplesModel" ({ cls := "SandRipplesModel", name := "copy", desc := "(IIIII)I" } : Jvm.MethodName) ({ cls := "SandRipplesModel", name := "copy", desc := "(IIIII)I" } : Jvm.MethodName)) := by decide +kernel
theorem tq_1238 : tables_1[1238]? = some (Jvm.Cond.code ({ cls := "SandRipplesModel", name := "copy", desc := "(IIIII)I" } : Jvm.MethodName) prog_9_method_81_code (7 : Nat) (Option.some Jvm.ClassFile.FieldType.int)) := by decide +kernel
theorem tq_1239 : tables_1[1239]? = some (Jvm.Cond.methodLink "SandRipplesLaw" (153 : Nat) ({ cls := "SandRipplesModel", name := "lay", desc := "(III)I" } : Jvm.MethodName)) := by decide +kernel
theorem tq_1240 : tables_1[1240]? = some (Jvm.Cond.instanceMethod ({ cls := "SandRipplesModel", name := "lay", desc := "(III)I" } : Jvm.MethodName)) := by decide +kernel
theorem tq_1241 : tables_1[1241]? = some (Jvm.Cond.selects "SandRipplesModel" ({ cls := "SandRipplesModel", name := "lay", desc := "(III)I" } : Jvm.MethodName) ({ cls := "SandRipplesModel", name := "lay", desc := "(III)I" } : Jvm.MethodName)) := by decide +kernel
theorem tq_1242 : tables_1[1242]? = some (Jvm.Cond.code ({ cls := "SandRipplesModel", name := "lay", desc := "(III)I" } : Jvm.MethodName) prog_9_method_82_code (6 : Nat) (Option.some Jvm.ClassFile.FieldType.int)) := by decide +kernel
theorem tq_1243 : tables_1[1243]? = some (Jvm.Cond.methodLink "SandRipplesModel" (265 : Nat) ({ cls := "SandRipplesModel", name := "isSlot", desc := "(I)Z" } : Jvm.MethodName)) := by decide +kernel
theorem tq_1244 : tables_1[1244]? = some (Jvm.Cond.static ({ cls := "SandRipplesModel", name := "isSlot", desc := "(I)Z" } : Jvm.MethodName)) := by decide +kernel
theorem tq_1245 : tables_1[1245]? = some (Jvm.Cond.code ({ cls := "SandRipplesModel", name := "isSlot", desc := "(I)Z" } : Jvm.MethodName) prog_9_method_76_code (1 : Nat) (Option.some Jvm.ClassFile.FieldType.boolean)) := by decide +kernel
theorem tq_1246 : tables_1[1246]? = some (Jvm.Cond.methodLink "SandRipplesLaw" (157 : Nat) ({ cls := "SandRipplesModel", name := "ask", desc := "(II)I" } : Jvm.MethodName)) := by decide +kernel
theorem tq_1247 : tables_1[1247]? = some (Jvm.Cond.instanceMethod ({ cls := "SandRipplesModel", name := "ask", desc := "(II)I" } : Jvm.MethodName)) := by decide +kernel
theorem tq_1248 : tables_1[1248]? = some (Jvm.Cond.selects "SandRipplesModel" ({ cls := "SandRipplesModel", name := "ask", desc := "(II)I" } : Jvm.MethodName) ({ cls := "SandRipplesModel", name := "ask", desc := "(II)I" } : Jvm.MethodName)) := by decide +kernel
theorem tq_1249 : tables_1[1249]? = some (Jvm.Cond.code ({ cls := "SandRipplesModel", name := "ask", desc := "(II)I" } : Jvm.MethodName) prog_9_method_83_code (3 : Nat) (Option.some Jvm.ClassFile.FieldType.int)) := by decide +kernel
theorem tq_1250 : tables_1[1250]? = some (Jvm.Cond.methodLink "SandRipplesLaw" (161 : Nat) ({ cls := "SandRipplesModel", name := "item", desc := "(II)I" } : Jvm.MethodName)) := by decide +kernel
theorem tq_1251 : tables_1[1251]? = some (Jvm.Cond.instanceMethod ({ cls := "SandRipplesModel", name := "item", desc := "(II)I" } : Jvm.MethodName)) := by decide +kernel
theorem tq_1252 : tables_1[1252]? = some (Jvm.Cond.selects "SandRipplesModel" ({ cls := "SandRipplesModel", name := "item", desc := "(II)I" } : Jvm.MethodName) ({ cls := "SandRipplesModel", name := "item", desc := "(II)I" } : Jvm.MethodName)) := by decide +kernel
theorem tq_1253 : tables_1[1253]? = some (Jvm.Cond.code ({ cls := "SandRipplesModel", name := "item", desc := "(II)I" } : Jvm.MethodName) prog_9_method_84_code (4 : Nat) (Option.some Jvm.ClassFile.FieldType.int)) := by decide +kernel
theorem tq_1254 : tables_1[1254]? = some (Jvm.Cond.methodLink "SandRipplesLaw" (165 : Nat) ({ cls := "SandRipplesModel", name := "rest", desc := "(II)I" } : Jvm.MethodName)) := by decide +kernel
theorem tq_1255 : tables_1[1255]? = some (Jvm.Cond.instanceMethod ({ cls := "SandRipplesModel", name := "rest", desc := "(II)I" } : Jvm.MethodName)) := by decide +kernel
theorem tq_1256 : tables_1[1256]? = some (Jvm.Cond.selects "SandRipplesModel" ({ cls := "SandRipplesModel", name := "rest", desc := "(II)I" } : Jvm.MethodName) ({ cls := "SandRipplesModel", name := "rest", desc := "(II)I" } : Jvm.MethodName)) := by decide +kernel
theorem tq_1257 : tables_1[1257]? = some (Jvm.Cond.code ({ cls := "SandRipplesModel", name := "rest", desc := "(II)I" } : Jvm.MethodName) prog_9_method_85_code (3 : Nat) (Option.some Jvm.ClassFile.FieldType.int)) := by decide +kernel
theorem tq_1258 : tables_1[1258]? = some (Jvm.Cond.constant "SandRipplesModel" (268 : Nat) (-1000000002 : Int32)) := by decide +kernel
theorem tq_1259 : tables_1[1259]? = some (Jvm.Cond.methodLink "SandRipplesLaw" (169 : Nat) ({ cls := "SandRipplesModel", name := "tell", desc := "(I)I" } : Jvm.MethodName)) := by decide +kernel
theorem tq_1260 : tables_1[1260]? = some (Jvm.Cond.instanceMethod ({ cls := "SandRipplesModel", name := "tell", desc := "(I)I" } : Jvm.MethodName)) := by decide +kernel
theorem tq_1261 : tables_1[1261]? = some (Jvm.Cond.selects "SandRipplesModel" ({ cls := "SandRipplesModel", name := "tell", desc := "(I)I" } : Jvm.MethodName) ({ cls := "SandRipplesModel", name := "tell", desc := "(I)I" } : Jvm.MethodName)) := by decide +kernel
theorem tq_1262 : tables_1[1262]? = some (Jvm.Cond.code ({ cls := "SandRipplesModel", name := "tell", desc := "(I)I" } : Jvm.MethodName) prog_9_method_86_code (2 : Nat) (Option.some Jvm.ClassFile.FieldType.int)) := by decide +kernel
theorem tq_1263 : tables_1[1263]? = some (Jvm.Cond.methodLink "SandRipplesLaw" (173 : Nat) ({ cls := "SandRipplesModel", name := "check", desc := "(II)I" } : Jvm.MethodName)) := by decide +kernel
theorem tq_1264 : tables_1[1264]? = some (Jvm.Cond.instanceMethod ({ cls := "SandRipplesModel", name := "check", desc := "(II)I" } : Jvm.MethodName)) := by decide +kernel
theorem tq_1265 : tables_1[1265]? = some (Jvm.Cond.selects "SandRipplesModel" ({ cls := "SandRipplesModel", name := "check", desc := "(II)I" } : Jvm.MethodName) ({ cls := "SandRipplesModel", name := "check", desc := "(II)I" } : Jvm.MethodName)) := by decide +kernel
theorem tq_1266 : tables_1[1266]? = some (Jvm.Cond.code ({ cls := "SandRipplesModel", name := "check", desc := "(II)I" } : Jvm.MethodName) prog_9_method_87_code (7 : Nat) (Option.some Jvm.ClassFile.FieldType.int)) := by decide +kernel
theorem tq_1267 : tables_1[1267]? = some (Jvm.Cond.methodLink "SandRipplesModel" (276 : Nat) ({ cls := "SandRipplesModel", name := "copyAll", desc := "([I[I)V" } : Jvm.MethodName)) := by decide +kernel
theorem tq_1268 : tables_1[1268]? = some (Jvm.Cond.static ({ cls := "SandRipplesModel", name := "copyAll", desc := "([I[I)V" } : Jvm.MethodName)) := by decide +kernel
theorem tq_1269 : tables_1[1269]? = some (Jvm.Cond.code ({ cls := "SandRipplesModel", name := "copyAll", desc := "([I[I)V" } : Jvm.MethodName) prog_9_method_4_code (3 : Nat) (Option.none : Option Jvm.ClassFile.FieldType)) := by decide +kernel
theorem tq_1270 : tables_1[1270]? = some (Jvm.Cond.methodLink "SandRipplesLaw" (177 : Nat) ({ cls := "SandRipplesModel", name := "keep", desc := "()I" } : Jvm.MethodName)) := by decide +kernel
theorem tq_1271 : tables_1[1271]? = some (Jvm.Cond.instanceMethod ({ cls := "SandRipplesModel", name := "keep", desc := "()I" } : Jvm.MethodName)) := by decide +kernel
theorem tq_1272 : tables_1[1272]? = some (Jvm.Cond.selects "SandRipplesModel" ({ cls := "SandRipplesModel", name := "keep", desc := "()I" } : Jvm.MethodName) ({ cls := "SandRipplesModel", name := "keep", desc := "()I" } : Jvm.MethodName)) := by decide +kernel
theorem tq_1273 : tables_1[1273]? = some (Jvm.Cond.code ({ cls := "SandRipplesModel", name := "keep", desc := "()I" } : Jvm.MethodName) prog_9_method_88_code (1 : Nat) (Option.some Jvm.ClassFile.FieldType.int)) := by decide +kernel
theorem tq_1274 : tables_1[1274]? = some (Jvm.Cond.methodLink "SandRipplesLaw" (181 : Nat) ({ cls := "SandRipplesModel", name := "back", desc := "()I" } : Jvm.MethodName)) := by decide +kernel
theorem tq_1275 : tables_1[1275]? = some (Jvm.Cond.instanceMethod ({ cls := "SandRipplesModel", name := "back", desc := "()I" } : Jvm.MethodName)) := by decide +kernel
theorem tq_1276 : tables_1[1276]? = some (Jvm.Cond.selects "SandRipplesModel" ({ cls := "SandRipplesModel", name := "back", desc := "()I" } : Jvm.MethodName) ({ cls := "SandRipplesModel", name := "back", desc := "()I" } : Jvm.MethodName)) := by decide +kernel
theorem tq_1277 : tables_1[1277]? = some (Jvm.Cond.code ({ cls := "SandRipplesModel", name := "back", desc := "()I" } : Jvm.MethodName) prog_9_method_89_code (1 : Nat) (Option.some Jvm.ClassFile.FieldType.int)) := by decide +kernel
theorem tq_1278 : tables_1[1278]? = some (Jvm.Cond.methodLink "SandRipplesLaw" (185 : Nat) ({ cls := "SandRipplesModel", name := "count", desc := "(I)I" } : Jvm.MethodName)) := by decide +kernel
theorem tq_1279 : tables_1[1279]? = some (Jvm.Cond.instanceMethod ({ cls := "SandRipplesModel", name := "count", desc := "(I)I" } : Jvm.MethodName)) := by decide +kernel
theorem tq_1280 : tables_1[1280]? = some (Jvm.Cond.selects "SandRipplesModel" ({ cls := "SandRipplesModel", name := "count", desc := "(I)I" } : Jvm.MethodName) ({ cls := "SandRipplesModel", name := "count", desc := "(I)I" } : Jvm.MethodName)) := by decide +kernel
theorem tq_1281 : tables_1[1281]? = some (Jvm.Cond.code ({ cls := "SandRipplesModel", name := "count", desc := "(I)I" } : Jvm.MethodName) prog_9_method_90_code (2 : Nat) (Option.some Jvm.ClassFile.FieldType.int)) := by decide +kernel
theorem tq_1282 : tables_1[1282]? = some (Jvm.Cond.fieldLink "java/lang/String" (9 : Nat) "java/lang/String" "value" "[B") := by decide +kernel
theorem tq_1283 : tables_1[1283]? = some (Jvm.Cond.fieldLink "java/lang/String" (15 : Nat) "java/lang/String" "coder" "B") := by decide +kernel
