theorem am_in_t {w : Cond} (i : Nat) (h : tables_1[i]? = some w) (g : goodWord w = true) : w ∈ am_Tg := List.mem_filter.mpr ⟨List.mem_append_right _ (List.mem_of_getElem? h), g⟩
theorem am_in_n {w : Cond} (i : Nat) (h : tables_1[i]? = some w) (g : am_nwq w = true) : w ∈ am_nw := List.mem_filter.mpr ⟨List.mem_of_getElem? h, g⟩
theorem am_in_s {w : Cond} (i : Nat) (h : (k2_sels lw_privs)[i]? = some w) (g : goodWord w = true) : w ∈ am_Tg := List.mem_filter.mpr ⟨List.mem_append_left _ (List.mem_of_getElem? h), g⟩
theorem am_cn {x : Int32} (h : (x.toUInt32 % 65536).toInt32 = x) : narrow .char (.int x) = .int x := by have := pk_nc x; rw [h] at this; exact this
theorem am_bn {x : Int32} (h : x.toInt8.toInt32 = x) : narrow .byte (.int x) = .int x := by have := pk_nb x; rw [h] at this; exact this
def kA1 (j : Nat) : Int32 := ([-1, 0, 0, 1, 2, 0] : List Int32).getD j 0
def kA2 (j : Nat) : Int32 := ([0, 0, 0, 1] : List Int32).getD j 0
def kA3 (j : Nat) : Int32 := ([11, 9, 11, 20] : List Int32).getD j 0
theorem kI_m8 : Int32.ofInt (-8) = ((-8) : Int32) := by decide +kernel
theorem kI_m1 : Int32.ofInt (-1) = ((-1) : Int32) := by decide +kernel
theorem kI_0 : Int32.ofInt (0) = (0 : Int32) := by decide +kernel
theorem kI_1 : Int32.ofInt (1) = (1 : Int32) := by decide +kernel
theorem kI_2 : Int32.ofInt (2) = (2 : Int32) := by decide +kernel
theorem kI_3 : Int32.ofInt (3) = (3 : Int32) := by decide +kernel
theorem kI_4 : Int32.ofInt (4) = (4 : Int32) := by decide +kernel
theorem kI_5 : Int32.ofInt (5) = (5 : Int32) := by decide +kernel
theorem kI_6 : Int32.ofInt (6) = (6 : Int32) := by decide +kernel
theorem kB_m100 : (Int8.ofInt (-100)).toInt32 = ((-100) : Int32) := by decide +kernel
theorem kB_m99 : (Int8.ofInt (-99)).toInt32 = ((-99) : Int32) := by decide +kernel
theorem kB_m33 : (Int8.ofInt (-33)).toInt32 = ((-33) : Int32) := by decide +kernel
theorem kB_m11 : (Int8.ofInt (-11)).toInt32 = ((-11) : Int32) := by decide +kernel
theorem kB_m10 : (Int8.ofInt (-10)).toInt32 = ((-10) : Int32) := by decide +kernel
theorem kB_m9 : (Int8.ofInt (-9)).toInt32 = ((-9) : Int32) := by decide +kernel
theorem kB_m8 : (Int8.ofInt (-8)).toInt32 = ((-8) : Int32) := by decide +kernel
theorem kB_m7 : (Int8.ofInt (-7)).toInt32 = ((-7) : Int32) := by decide +kernel
theorem kB_m6 : (Int8.ofInt (-6)).toInt32 = ((-6) : Int32) := by decide +kernel
theorem kB_m5 : (Int8.ofInt (-5)).toInt32 = ((-5) : Int32) := by decide +kernel
theorem kB_m4 : (Int8.ofInt (-4)).toInt32 = ((-4) : Int32) := by decide +kernel
theorem kB_m3 : (Int8.ofInt (-3)).toInt32 = ((-3) : Int32) := by decide +kernel
theorem kB_m2 : (Int8.ofInt (-2)).toInt32 = ((-2) : Int32) := by decide +kernel
theorem kB_6 : (Int8.ofInt (6)).toInt32 = (6 : Int32) := by decide +kernel
theorem kB_7 : (Int8.ofInt (7)).toInt32 = (7 : Int32) := by decide +kernel
theorem kB_8 : (Int8.ofInt (8)).toInt32 = (8 : Int32) := by decide +kernel
theorem kB_9 : (Int8.ofInt (9)).toInt32 = (9 : Int32) := by decide +kernel
theorem kB_10 : (Int8.ofInt (10)).toInt32 = (10 : Int32) := by decide +kernel
theorem kB_11 : (Int8.ofInt (11)).toInt32 = (11 : Int32) := by decide +kernel
theorem kB_12 : (Int8.ofInt (12)).toInt32 = (12 : Int32) := by decide +kernel
theorem kB_14 : (Int8.ofInt (14)).toInt32 = (14 : Int32) := by decide +kernel
theorem kB_20 : (Int8.ofInt (20)).toInt32 = (20 : Int32) := by decide +kernel
theorem kB_23 : (Int8.ofInt (23)).toInt32 = (23 : Int32) := by decide +kernel
theorem kB_24 : (Int8.ofInt (24)).toInt32 = (24 : Int32) := by decide +kernel
theorem kB_25 : (Int8.ofInt (25)).toInt32 = (25 : Int32) := by decide +kernel
theorem kB_26 : (Int8.ofInt (26)).toInt32 = (26 : Int32) := by decide +kernel
theorem kB_30 : (Int8.ofInt (30)).toInt32 = (30 : Int32) := by decide +kernel
theorem kB_32 : (Int8.ofInt (32)).toInt32 = (32 : Int32) := by decide +kernel
theorem kB_33 : (Int8.ofInt (33)).toInt32 = (33 : Int32) := by decide +kernel
theorem kB_40 : (Int8.ofInt (40)).toInt32 = (40 : Int32) := by decide +kernel
theorem kB_41 : (Int8.ofInt (41)).toInt32 = (41 : Int32) := by decide +kernel
theorem kB_48 : (Int8.ofInt (48)).toInt32 = (48 : Int32) := by decide +kernel
theorem kB_57 : (Int8.ofInt (57)).toInt32 = (57 : Int32) := by decide +kernel
theorem kB_60 : (Int8.ofInt (60)).toInt32 = (60 : Int32) := by decide +kernel
theorem kB_63 : (Int8.ofInt (63)).toInt32 = (63 : Int32) := by decide +kernel
theorem kB_96 : (Int8.ofInt (96)).toInt32 = (96 : Int32) := by decide +kernel
theorem kB_97 : (Int8.ofInt (97)).toInt32 = (97 : Int32) := by decide +kernel
theorem kB_99 : (Int8.ofInt (99)).toInt32 = (99 : Int32) := by decide +kernel
theorem kB_100 : (Int8.ofInt (100)).toInt32 = (100 : Int32) := by decide +kernel
theorem kB_103 : (Int8.ofInt (103)).toInt32 = (103 : Int32) := by decide +kernel
theorem kB_104 : (Int8.ofInt (104)).toInt32 = (104 : Int32) := by decide +kernel
theorem kB_112 : (Int8.ofInt (112)).toInt32 = (112 : Int32) := by decide +kernel
theorem kB_115 : (Int8.ofInt (115)).toInt32 = (115 : Int32) := by decide +kernel
theorem kB_122 : (Int8.ofInt (122)).toInt32 = (122 : Int32) := by decide +kernel
theorem kS_163 : (Int16.ofInt (163)).toInt32 = (163 : Int32) := by decide +kernel
theorem kS_191 : (Int16.ofInt (191)).toInt32 = (191 : Int32) := by decide +kernel
theorem kS_255 : (Int16.ofInt (255)).toInt32 = (255 : Int32) := by decide +kernel
theorem kS_1000 : (Int16.ofInt (1000)).toInt32 = (1000 : Int32) := by decide +kernel
theorem kS_1535 : (Int16.ofInt (1535)).toInt32 = (1535 : Int32) := by decide +kernel
theorem kS_2400 : (Int16.ofInt (2400)).toInt32 = (2400 : Int32) := by decide +kernel
theorem kS_10000 : (Int16.ofInt (10000)).toInt32 = (10000 : Int32) := by decide +kernel
theorem kS_12345 : (Int16.ofInt (12345)).toInt32 = (12345 : Int32) := by decide +kernel
theorem tw_1 : (Jvm.Cond.initialized "SandRipples") ∈ am_Tg := am_in_t 1 tq_1 rfl
theorem tw_2 : (Jvm.Cond.initialized "SandRipples$World") ∈ am_Tg := am_in_t 2 tq_2 rfl
theorem tw_3 : (Jvm.Cond.initialized "java/lang/Math") ∈ am_Tg := am_in_t 3 tq_3 rfl
theorem tw_4 : (Jvm.Cond.initialized "SandRipples$Floor") ∈ am_Tg := am_in_t 4 tq_4 rfl
theorem tw_5 : (Jvm.Cond.initialized "SandRipples$Reader") ∈ am_Tg := am_in_t 5 tq_5 rfl
theorem tw_6 : (Jvm.Cond.initialized "SandRipples$Text") ∈ am_Tg := am_in_t 6 tq_6 rfl
theorem tw_7 : (Jvm.Cond.initialized "SandRipples$Sheet") ∈ am_Tg := am_in_t 7 tq_7 rfl
theorem tw_8 : (Jvm.Cond.initialized "SandRipples$Slot") ∈ am_Tg := am_in_t 8 tq_8 rfl
theorem tw_9 : (Jvm.Cond.initialized "SandRipplesModel") ∈ am_Tg := am_in_t 9 tq_9 rfl
theorem tw_10 : (Jvm.Cond.initialized "java/lang/Integer") ∈ am_Tg := am_in_t 10 tq_10 rfl
theorem tw_11 : (Jvm.Cond.initialized "java/lang/System") ∈ am_Tg := am_in_t 11 tq_11 rfl
theorem tw_12 : (Jvm.Cond.initialized "java/lang/String") ∈ am_Tg := am_in_t 12 tq_12 rfl
theorem tw_13 : (Jvm.Cond.initialized "java/lang/StringLatin1") ∈ am_Tg := am_in_t 13 tq_13 rfl
theorem tw_14 : (Jvm.Cond.initialized "jdk/internal/util/Preconditions") ∈ am_Tg := am_in_t 14 tq_14 rfl
theorem tw_18 : (Jvm.Cond.instantiable "SandRipples" (14 : Nat)) ∈ am_Tg := am_in_t 18 tq_18 rfl
theorem tw_26 : (Jvm.Cond.instantiable "SandRipples$World" (6 : Nat)) ∈ am_Tg := am_in_t 26 tq_26 rfl
theorem tw_33 : (Jvm.Cond.static ({ cls := "java/lang/Math", name := "max", desc := "(II)I" } : Jvm.MethodName)) ∈ am_Tg := am_in_t 33 tq_33 rfl
theorem tw_34 : (Jvm.Cond.code ({ cls := "java/lang/Math", name := "max", desc := "(II)I" } : Jvm.MethodName) prog_12_method_65_code (2 : Nat) (Option.some Jvm.ClassFile.FieldType.int)) ∈ am_Tg := am_in_t 34 tq_34 rfl
theorem tw_37 : (Jvm.Cond.instantiable "SandRipples$Floor" (3 : Nat)) ∈ am_Tg := am_in_t 37 tq_37 rfl
theorem tw_42 : (Jvm.Cond.fieldLink "SandRipples$Floor" (9 : Nat) "SandRipples$Floor" "sand" "[I") ∈ am_Tg := am_in_t 42 tq_42 rfl
theorem tw_45 : (Jvm.Cond.fieldLink "SandRipples$Floor" (15 : Nat) "SandRipples$Floor" "tick" "I") ∈ am_Tg := am_in_t 45 tq_45 rfl
theorem tw_47 : (Jvm.Cond.fieldLink "SandRipples$Floor" (19 : Nat) "SandRipples$Floor" "kind" "I") ∈ am_Tg := am_in_t 47 tq_47 rfl
theorem tw_57 : (Jvm.Cond.fieldLink "SandRipples$World" (37 : Nat) "SandRipples$World" "floors" "[LSandRipples$Floor;") ∈ am_Tg := am_in_t 57 tq_57 rfl
theorem tw_59 : (Jvm.Cond.fieldLink "SandRipples$World" (9 : Nat) "SandRipples$World" "floorCount" "I") ∈ am_Tg := am_in_t 59 tq_59 rfl
theorem tw_61 : (Jvm.Cond.fieldLink "SandRipples$World" (15 : Nat) "SandRipples$World" "sea" "[I") ∈ am_Tg := am_in_t 61 tq_61 rfl
theorem tw_63 : (Jvm.Cond.fieldLink "SandRipples$World" (19 : Nat) "SandRipples$World" "z" "I") ∈ am_Tg := am_in_t 63 tq_63 rfl
theorem tw_65 : (Jvm.Cond.fieldLink "SandRipples$World" (22 : Nat) "SandRipples$World" "textCount" "I") ∈ am_Tg := am_in_t 65 tq_65 rfl
theorem tw_67 : (Jvm.Cond.fieldLink "SandRipples$World" (26 : Nat) "SandRipples$World" "laws" "[I") ∈ am_Tg := am_in_t 67 tq_67 rfl
theorem tw_85 : (Jvm.Cond.instantiable "SandRipples$Reader" (9 : Nat)) ∈ am_Tg := am_in_t 85 tq_85 rfl
theorem tw_90 : (Jvm.Cond.fieldLink "SandRipples$Reader" (9 : Nat) "SandRipples$Reader" "key" "I") ∈ am_Tg := am_in_t 90 tq_90 rfl
theorem tw_92 : (Jvm.Cond.fieldLink "SandRipples$Reader" (15 : Nat) "SandRipples$Reader" "leaves" "I") ∈ am_Tg := am_in_t 92 tq_92 rfl
theorem tw_94 : (Jvm.Cond.fieldLink "SandRipples$Reader" (18 : Nat) "SandRipples$Reader" "length" "I") ∈ am_Tg := am_in_t 94 tq_94 rfl
theorem tw_96 : (Jvm.Cond.fieldLink "SandRipples$Reader" (21 : Nat) "SandRipples$Reader" "steps" "[I") ∈ am_Tg := am_in_t 96 tq_96 rfl
theorem tw_98 : (Jvm.Cond.fieldLink "SandRipples$Reader" (25 : Nat) "SandRipples$Reader" "signs" "[I") ∈ am_Tg := am_in_t 98 tq_98 rfl
theorem tw_99 : (Jvm.Cond.fieldLink "SandRipples$Reader" (28 : Nat) "SandRipples$Reader" "signCount" "I") ∈ am_Tg := am_in_t 99 tq_99 rfl
theorem tw_100 : (Jvm.Cond.fieldLink "SandRipples$Reader" (31 : Nat) "SandRipples$Reader" "openBrackets" "I") ∈ am_Tg := am_in_t 100 tq_100 rfl
theorem tw_101 : (Jvm.Cond.fieldLink "SandRipples$Reader" (34 : Nat) "SandRipples$Reader" "openNots" "I") ∈ am_Tg := am_in_t 101 tq_101 rfl
theorem tw_102 : (Jvm.Cond.fieldLink "SandRipples$Reader" (37 : Nat) "SandRipples$Reader" "pieceIsDue" "Z") ∈ am_Tg := am_in_t 102 tq_102 rfl
theorem tw_126 : (Jvm.Cond.instantiable "SandRipples$Text" (4 : Nat)) ∈ am_Tg := am_in_t 126 tq_126 rfl
theorem tw_131 : (Jvm.Cond.fieldLink "SandRipples$Text" (9 : Nat) "SandRipples$Text" "key" "I") ∈ am_Tg := am_in_t 131 tq_131 rfl
theorem tw_133 : (Jvm.Cond.fieldLink "SandRipples$Text" (15 : Nat) "SandRipples$Text" "leaves" "I") ∈ am_Tg := am_in_t 133 tq_133 rfl
theorem tw_135 : (Jvm.Cond.fieldLink "SandRipples$Text" (18 : Nat) "SandRipples$Text" "length" "I") ∈ am_Tg := am_in_t 135 tq_135 rfl
theorem tw_136 : (Jvm.Cond.fieldLink "SandRipples$Text" (21 : Nat) "SandRipples$Text" "steps" "[I") ∈ am_Tg := am_in_t 136 tq_136 rfl
theorem tw_146 : (Jvm.Cond.instantiable "SandRipples$Sheet" (3 : Nat)) ∈ am_Tg := am_in_t 146 tq_146 rfl
theorem tw_151 : (Jvm.Cond.fieldLink "SandRipples$Sheet" (9 : Nat) "SandRipples$Sheet" "sort" "I") ∈ am_Tg := am_in_t 151 tq_151 rfl
theorem tw_153 : (Jvm.Cond.fieldLink "SandRipples$Sheet" (15 : Nat) "SandRipples$Sheet" "length" "I") ∈ am_Tg := am_in_t 153 tq_153 rfl
theorem tw_154 : (Jvm.Cond.fieldLink "SandRipples$Sheet" (18 : Nat) "SandRipples$Sheet" "places" "[I") ∈ am_Tg := am_in_t 154 tq_154 rfl
theorem tw_163 : (Jvm.Cond.instantiable "SandRipples$Slot" (4 : Nat)) ∈ am_Tg := am_in_t 163 tq_163 rfl
theorem tw_189 : (Jvm.Cond.fieldLink "SandRipples" (14 : Nat) "SandRipples" "now" "LSandRipples$World;") ∈ am_Tg := am_in_t 189 tq_189 rfl
theorem tw_190 : (Jvm.Cond.fieldLink "SandRipples" (18 : Nat) "SandRipples" "image" "LSandRipples$World;") ∈ am_Tg := am_in_t 190 tq_190 rfl
theorem tw_191 : (Jvm.Cond.fieldLink "SandRipples" (21 : Nat) "SandRipples" "imageKept" "Z") ∈ am_Tg := am_in_t 191 tq_191 rfl
theorem tw_192 : (Jvm.Cond.fieldLink "SandRipples" (25 : Nat) "SandRipples" "thought" "LSandRipples$World;") ∈ am_Tg := am_in_t 192 tq_192 rfl
theorem tw_193 : (Jvm.Cond.fieldLink "SandRipples" (28 : Nat) "SandRipples" "lifted" "[I") ∈ am_Tg := am_in_t 193 tq_193 rfl
theorem tw_194 : (Jvm.Cond.fieldLink "SandRipples" (34 : Nat) "SandRipples" "texts" "[LSandRipples$Text;") ∈ am_Tg := am_in_t 194 tq_194 rfl
theorem tw_195 : (Jvm.Cond.fieldLink "SandRipples" (41 : Nat) "SandRipples" "reader" "LSandRipples$Reader;") ∈ am_Tg := am_in_t 195 tq_195 rfl
theorem tw_196 : (Jvm.Cond.fieldLink "SandRipples" (45 : Nat) "SandRipples" "stack" "[I") ∈ am_Tg := am_in_t 196 tq_196 rfl
theorem tw_197 : (Jvm.Cond.fieldLink "SandRipples" (48 : Nat) "SandRipples" "tape" "[I") ∈ am_Tg := am_in_t 197 tq_197 rfl
theorem tw_198 : (Jvm.Cond.fieldLink "SandRipples" (51 : Nat) "SandRipples" "tapeLength" "I") ∈ am_Tg := am_in_t 198 tq_198 rfl
theorem tw_199 : (Jvm.Cond.fieldLink "SandRipples" (57 : Nat) "SandRipples" "sheets" "[LSandRipples$Sheet;") ∈ am_Tg := am_in_t 199 tq_199 rfl
theorem tw_200 : (Jvm.Cond.fieldLink "SandRipples" (63 : Nat) "SandRipples" "slots" "[LSandRipples$Slot;") ∈ am_Tg := am_in_t 200 tq_200 rfl
theorem tw_201 : (Jvm.Cond.fieldLink "SandRipples" (67 : Nat) "SandRipples" "waiting" "[I") ∈ am_Tg := am_in_t 201 tq_201 rfl
theorem tw_202 : (Jvm.Cond.fieldLink "SandRipples" (70 : Nat) "SandRipples" "waitingCount" "I") ∈ am_Tg := am_in_t 202 tq_202 rfl
theorem tw_232 : (Jvm.Cond.methodLink "SandRipplesLaw" (13 : Nat) ({ cls := "SandRipples", name := "floor", desc := "(I)I" } : Jvm.MethodName)) ∈ am_Tg := am_in_t 232 tq_232 rfl
theorem tw_233 : (Jvm.Cond.instanceMethod ({ cls := "SandRipples", name := "floor", desc := "(I)I" } : Jvm.MethodName)) ∈ am_Tg := am_in_t 233 tq_233 rfl
theorem tw_234 : (Jvm.Cond.selects "SandRipples" ({ cls := "SandRipples", name := "floor", desc := "(I)I" } : Jvm.MethodName) ({ cls := "SandRipples", name := "floor", desc := "(I)I" } : Jvm.MethodName)) ∈ am_Tg := am_in_t 234 tq_234 rfl
theorem tw_235 : (Jvm.Cond.code ({ cls := "SandRipples", name := "floor", desc := "(I)I" } : Jvm.MethodName) prog_1_method_2_code (2 : Nat) (Option.some Jvm.ClassFile.FieldType.int)) ∈ am_Tg := am_in_t 235 tq_235 rfl
theorem tw_236 : (Jvm.Cond.methodLink "SandRipples" (76 : Nat) ({ cls := "SandRipples", name := "isKind", desc := "(I)Z" } : Jvm.MethodName)) ∈ am_Tg := am_in_t 236 tq_236 rfl
theorem tw_237 : (Jvm.Cond.static ({ cls := "SandRipples", name := "isKind", desc := "(I)Z" } : Jvm.MethodName)) ∈ am_Tg := am_in_t 237 tq_237 rfl
theorem tw_238 : (Jvm.Cond.code ({ cls := "SandRipples", name := "isKind", desc := "(I)Z" } : Jvm.MethodName) prog_1_method_44_code (1 : Nat) (Option.some Jvm.ClassFile.FieldType.boolean)) ∈ am_Tg := am_in_t 238 tq_238 rfl
theorem tw_239 : (Jvm.Cond.constant "SandRipples" (80 : Nat) (-1000000001 : Int32)) ∈ am_Tg := am_in_t 239 tq_239 rfl
theorem tw_240 : (Jvm.Cond.constant "SandRipples" (84 : Nat) (-1000000003 : Int32)) ∈ am_Tg := am_in_t 240 tq_240 rfl
theorem tw_243 : (Jvm.Cond.instanceMethod ({ cls := "SandRipples$Floor", name := "begin", desc := "(I)V" } : Jvm.MethodName)) ∈ am_Tg := am_in_t 243 tq_243 rfl
theorem tw_244 : (Jvm.Cond.code ({ cls := "SandRipples$Floor", name := "begin", desc := "(I)V" } : Jvm.MethodName) prog_2_method_2_code (3 : Nat) (Option.none : Option Jvm.ClassFile.FieldType)) ∈ am_Tg := am_in_t 244 tq_244 rfl
theorem tw_245 : (Jvm.Cond.methodLink "SandRipplesLaw" (18 : Nat) ({ cls := "SandRipples", name := "told", desc := "(II)I" } : Jvm.MethodName)) ∈ am_Tg := am_in_t 245 tq_245 rfl
theorem tw_246 : (Jvm.Cond.instanceMethod ({ cls := "SandRipples", name := "told", desc := "(II)I" } : Jvm.MethodName)) ∈ am_Tg := am_in_t 246 tq_246 rfl
theorem tw_247 : (Jvm.Cond.selects "SandRipples" ({ cls := "SandRipples", name := "told", desc := "(II)I" } : Jvm.MethodName) ({ cls := "SandRipples", name := "told", desc := "(II)I" } : Jvm.MethodName)) ∈ am_Tg := am_in_t 247 tq_247 rfl
theorem tw_248 : (Jvm.Cond.code ({ cls := "SandRipples", name := "told", desc := "(II)I" } : Jvm.MethodName) prog_1_method_3_code (4 : Nat) (Option.some Jvm.ClassFile.FieldType.int)) ∈ am_Tg := am_in_t 248 tq_248 rfl
theorem tw_249 : (Jvm.Cond.methodLink "SandRipples" (94 : Nat) ({ cls := "SandRipples", name := "isFloor", desc := "(I)Z" } : Jvm.MethodName)) ∈ am_Tg := am_in_t 249 tq_249 rfl
theorem tw_251 : (Jvm.Cond.instanceMethod ({ cls := "SandRipples", name := "isFloor", desc := "(I)Z" } : Jvm.MethodName)) ∈ am_Tg := am_in_t 251 tq_251 rfl
theorem tw_252 : (Jvm.Cond.code ({ cls := "SandRipples", name := "isFloor", desc := "(I)Z" } : Jvm.MethodName) prog_1_method_48_code (2 : Nat) (Option.some Jvm.ClassFile.FieldType.boolean)) ∈ am_Tg := am_in_t 252 tq_252 rfl
theorem tw_255 : (Jvm.Cond.instanceMethod ({ cls := "SandRipples$Floor", name := "total", desc := "()I" } : Jvm.MethodName)) ∈ am_Tg := am_in_t 255 tq_255 rfl
theorem tw_256 : (Jvm.Cond.code ({ cls := "SandRipples$Floor", name := "total", desc := "()I" } : Jvm.MethodName) prog_2_method_4_code (3 : Nat) (Option.some Jvm.ClassFile.FieldType.int)) ∈ am_Tg := am_in_t 256 tq_256 rfl
theorem tw_259 : (Jvm.Cond.instanceMethod ({ cls := "SandRipples$Floor", name := "greatest", desc := "()I" } : Jvm.MethodName)) ∈ am_Tg := am_in_t 259 tq_259 rfl
theorem tw_260 : (Jvm.Cond.code ({ cls := "SandRipples$Floor", name := "greatest", desc := "()I" } : Jvm.MethodName) prog_2_method_5_code (3 : Nat) (Option.some Jvm.ClassFile.FieldType.int)) ∈ am_Tg := am_in_t 260 tq_260 rfl
theorem tw_261 : (Jvm.Cond.methodLink "SandRipples$Floor" (28 : Nat) ({ cls := "java/lang/Math", name := "max", desc := "(II)I" } : Jvm.MethodName)) ∈ am_Tg := am_in_t 261 tq_261 rfl
theorem tw_264 : (Jvm.Cond.instanceMethod ({ cls := "SandRipples$Floor", name := "least", desc := "()I" } : Jvm.MethodName)) ∈ am_Tg := am_in_t 264 tq_264 rfl
theorem tw_265 : (Jvm.Cond.code ({ cls := "SandRipples$Floor", name := "least", desc := "()I" } : Jvm.MethodName) prog_2_method_6_code (3 : Nat) (Option.some Jvm.ClassFile.FieldType.int)) ∈ am_Tg := am_in_t 265 tq_265 rfl
theorem tw_266 : (Jvm.Cond.methodLink "SandRipples$Floor" (34 : Nat) ({ cls := "java/lang/Math", name := "min", desc := "(II)I" } : Jvm.MethodName)) ∈ am_Tg := am_in_t 266 tq_266 rfl
theorem tw_267 : (Jvm.Cond.static ({ cls := "java/lang/Math", name := "min", desc := "(II)I" } : Jvm.MethodName)) ∈ am_Tg := am_in_t 267 tq_267 rfl
theorem tw_268 : (Jvm.Cond.code ({ cls := "java/lang/Math", name := "min", desc := "(II)I" } : Jvm.MethodName) prog_12_method_69_code (2 : Nat) (Option.some Jvm.ClassFile.FieldType.int)) ∈ am_Tg := am_in_t 268 tq_268 rfl
theorem tw_271 : (Jvm.Cond.instanceMethod ({ cls := "SandRipples$Floor", name := "crests", desc := "()I" } : Jvm.MethodName)) ∈ am_Tg := am_in_t 271 tq_271 rfl
theorem tw_272 : (Jvm.Cond.code ({ cls := "SandRipples$Floor", name := "crests", desc := "()I" } : Jvm.MethodName) prog_2_method_8_code (3 : Nat) (Option.some Jvm.ClassFile.FieldType.int)) ∈ am_Tg := am_in_t 272 tq_272 rfl
theorem tw_273 : (Jvm.Cond.methodLink "SandRipples$Floor" (44 : Nat) ({ cls := "SandRipples$Floor", name := "isCrest", desc := "(I)Z" } : Jvm.MethodName)) ∈ am_Tg := am_in_t 273 tq_273 rfl
theorem tw_275 : (Jvm.Cond.instanceMethod ({ cls := "SandRipples$Floor", name := "isCrest", desc := "(I)Z" } : Jvm.MethodName)) ∈ am_Tg := am_in_t 275 tq_275 rfl
theorem tw_276 : (Jvm.Cond.code ({ cls := "SandRipples$Floor", name := "isCrest", desc := "(I)Z" } : Jvm.MethodName) prog_2_method_7_code (2 : Nat) (Option.some Jvm.ClassFile.FieldType.boolean)) ∈ am_Tg := am_in_t 276 tq_276 rfl
theorem tw_278 : (Jvm.Cond.static ({ cls := "SandRipples", name := "aheadOf", desc := "(I)I" } : Jvm.MethodName)) ∈ am_Tg := am_in_t 278 tq_278 rfl
theorem tw_279 : (Jvm.Cond.code ({ cls := "SandRipples", name := "aheadOf", desc := "(I)I" } : Jvm.MethodName) prog_1_method_52_code (1 : Nat) (Option.some Jvm.ClassFile.FieldType.int)) ∈ am_Tg := am_in_t 279 tq_279 rfl
theorem tw_281 : (Jvm.Cond.static ({ cls := "SandRipples", name := "nextOf", desc := "(I)I" } : Jvm.MethodName)) ∈ am_Tg := am_in_t 281 tq_281 rfl
theorem tw_282 : (Jvm.Cond.code ({ cls := "SandRipples", name := "nextOf", desc := "(I)I" } : Jvm.MethodName) prog_1_method_51_code (1 : Nat) (Option.some Jvm.ClassFile.FieldType.int)) ∈ am_Tg := am_in_t 282 tq_282 rfl
theorem tw_285 : (Jvm.Cond.instanceMethod ({ cls := "SandRipples$Floor", name := "lean", desc := "()I" } : Jvm.MethodName)) ∈ am_Tg := am_in_t 285 tq_285 rfl
theorem tw_286 : (Jvm.Cond.code ({ cls := "SandRipples$Floor", name := "lean", desc := "()I" } : Jvm.MethodName) prog_2_method_9_code (3 : Nat) (Option.some Jvm.ClassFile.FieldType.int)) ∈ am_Tg := am_in_t 286 tq_286 rfl
theorem tw_287 : (Jvm.Cond.methodLink "SandRipples$Floor" (48 : Nat) ({ cls := "java/lang/Integer", name := "compare", desc := "(II)I" } : Jvm.MethodName)) ∈ am_Tg := am_in_t 287 tq_287 rfl
theorem tw_288 : (Jvm.Cond.static ({ cls := "java/lang/Integer", name := "compare", desc := "(II)I" } : Jvm.MethodName)) ∈ am_Tg := am_in_t 288 tq_288 rfl
theorem tw_289 : (Jvm.Cond.code ({ cls := "java/lang/Integer", name := "compare", desc := "(II)I" } : Jvm.MethodName) prog_11_method_40_code (2 : Nat) (Option.some Jvm.ClassFile.FieldType.int)) ∈ am_Tg := am_in_t 289 tq_289 rfl
theorem tw_292 : (Jvm.Cond.instanceMethod ({ cls := "SandRipples$Floor", name := "worth", desc := "()I" } : Jvm.MethodName)) ∈ am_Tg := am_in_t 292 tq_292 rfl
theorem tw_293 : (Jvm.Cond.code ({ cls := "SandRipples$Floor", name := "worth", desc := "()I" } : Jvm.MethodName) prog_2_method_10_code (2 : Nat) (Option.some Jvm.ClassFile.FieldType.int)) ∈ am_Tg := am_in_t 293 tq_293 rfl
theorem tw_294 : (Jvm.Cond.methodLink "SandRipples$Floor" (53 : Nat) ({ cls := "SandRipples$Floor", name := "greatest", desc := "()I" } : Jvm.MethodName)) ∈ am_Tg := am_in_t 294 tq_294 rfl
theorem tw_295 : (Jvm.Cond.methodLink "SandRipples$Floor" (57 : Nat) ({ cls := "SandRipples$Floor", name := "least", desc := "()I" } : Jvm.MethodName)) ∈ am_Tg := am_in_t 295 tq_295 rfl
theorem tw_296 : (Jvm.Cond.methodLink "SandRipples$Floor" (60 : Nat) ({ cls := "SandRipples$Floor", name := "crests", desc := "()I" } : Jvm.MethodName)) ∈ am_Tg := am_in_t 296 tq_296 rfl
theorem tw_297 : (Jvm.Cond.methodLink "SandRipples$Floor" (63 : Nat) ({ cls := "SandRipples$Floor", name := "lean", desc := "()I" } : Jvm.MethodName)) ∈ am_Tg := am_in_t 297 tq_297 rfl
theorem tw_298 : (Jvm.Cond.methodLink "SandRipples$Floor" (66 : Nat) ({ cls := "SandRipples$Floor", name := "total", desc := "()I" } : Jvm.MethodName)) ∈ am_Tg := am_in_t 298 tq_298 rfl
theorem tw_299 : (Jvm.Cond.methodLink "SandRipples" (122 : Nat) ({ cls := "SandRipples", name := "reachOf", desc := "(LSandRipples$World;LSandRipples$Floor;)I" } : Jvm.MethodName)) ∈ am_Tg := am_in_t 299 tq_299 rfl
theorem tw_300 : (Jvm.Cond.static ({ cls := "SandRipples", name := "reachOf", desc := "(LSandRipples$World;LSandRipples$Floor;)I" } : Jvm.MethodName)) ∈ am_Tg := am_in_t 300 tq_300 rfl
theorem tw_301 : (Jvm.Cond.code ({ cls := "SandRipples", name := "reachOf", desc := "(LSandRipples$World;LSandRipples$Floor;)I" } : Jvm.MethodName) prog_1_method_55_code (3 : Nat) (Option.some Jvm.ClassFile.FieldType.int)) ∈ am_Tg := am_in_t 301 tq_301 rfl
theorem tw_302 : (Jvm.Cond.methodLink "SandRipples" (305 : Nat) ({ cls := "java/lang/Math", name := "max", desc := "(II)I" } : Jvm.MethodName)) ∈ am_Tg := am_in_t 302 tq_302 rfl
theorem tw_305 : (Jvm.Cond.instanceMethod ({ cls := "SandRipples$Floor", name := "way", desc := "()I" } : Jvm.MethodName)) ∈ am_Tg := am_in_t 305 tq_305 rfl
theorem tw_306 : (Jvm.Cond.code ({ cls := "SandRipples$Floor", name := "way", desc := "()I" } : Jvm.MethodName) prog_2_method_11_code (1 : Nat) (Option.some Jvm.ClassFile.FieldType.int)) ∈ am_Tg := am_in_t 306 tq_306 rfl
theorem tw_307 : (Jvm.Cond.methodLink "SandRipples" (129 : Nat) ({ cls := "SandRipples", name := "marksOf", desc := "(LSandRipples$World;LSandRipples$Floor;)I" } : Jvm.MethodName)) ∈ am_Tg := am_in_t 307 tq_307 rfl
theorem tw_309 : (Jvm.Cond.instanceMethod ({ cls := "SandRipples", name := "marksOf", desc := "(LSandRipples$World;LSandRipples$Floor;)I" } : Jvm.MethodName)) ∈ am_Tg := am_in_t 309 tq_309 rfl
theorem tw_310 : (Jvm.Cond.code ({ cls := "SandRipples", name := "marksOf", desc := "(LSandRipples$World;LSandRipples$Floor;)I" } : Jvm.MethodName) prog_1_method_58_code (7 : Nat) (Option.some Jvm.ClassFile.FieldType.int)) ∈ am_Tg := am_in_t 310 tq_310 rfl
theorem tw_312 : (Jvm.Cond.constant "SandRipples" (172 : Nat) (-1000000005 : Int32)) ∈ am_Tg := am_in_t 312 tq_312 rfl
theorem tw_315 : (Jvm.Cond.instanceMethod ({ cls := "SandRipples$Text", name := "value", desc := "([IIII)I" } : Jvm.MethodName)) ∈ am_Tg := am_in_t 315 tq_315 rfl
theorem tw_316 : (Jvm.Cond.code ({ cls := "SandRipples$Text", name := "value", desc := "([IIII)I" } : Jvm.MethodName) prog_6_method_3_code (8 : Nat) (Option.some Jvm.ClassFile.FieldType.int)) ∈ am_Tg := am_in_t 316 tq_316 rfl
theorem tw_317 : (Jvm.Cond.methodLink "SandRipples$Text" (37 : Nat) ({ cls := "SandRipples$Text", name := "leaf", desc := "(IIII)I" } : Jvm.MethodName)) ∈ am_Tg := am_in_t 317 tq_317 rfl
theorem tw_318 : (Jvm.Cond.static ({ cls := "SandRipples$Text", name := "leaf", desc := "(IIII)I" } : Jvm.MethodName)) ∈ am_Tg := am_in_t 318 tq_318 rfl
theorem tw_319 : (Jvm.Cond.code ({ cls := "SandRipples$Text", name := "leaf", desc := "(IIII)I" } : Jvm.MethodName) prog_6_method_4_code (4 : Nat) (Option.some Jvm.ClassFile.FieldType.int)) ∈ am_Tg := am_in_t 319 tq_319 rfl
theorem tw_320 : (Jvm.Cond.methodLink "SandRipples$Text" (41 : Nat) ({ cls := "SandRipples$Text", name := "joined", desc := "(III)I" } : Jvm.MethodName)) ∈ am_Tg := am_in_t 320 tq_320 rfl
theorem tw_321 : (Jvm.Cond.static ({ cls := "SandRipples$Text", name := "joined", desc := "(III)I" } : Jvm.MethodName)) ∈ am_Tg := am_in_t 321 tq_321 rfl
theorem tw_322 : (Jvm.Cond.code ({ cls := "SandRipples$Text", name := "joined", desc := "(III)I" } : Jvm.MethodName) prog_6_method_5_code (3 : Nat) (Option.some Jvm.ClassFile.FieldType.int)) ∈ am_Tg := am_in_t 322 tq_322 rfl
theorem tw_323 : (Jvm.Cond.methodLink "SandRipples" (253 : Nat) ({ cls := "SandRipples", name := "within", desc := "(III)I" } : Jvm.MethodName)) ∈ am_Tg := am_in_t 323 tq_323 rfl
theorem tw_324 : (Jvm.Cond.static ({ cls := "SandRipples", name := "within", desc := "(III)I" } : Jvm.MethodName)) ∈ am_Tg := am_in_t 324 tq_324 rfl
theorem tw_325 : (Jvm.Cond.code ({ cls := "SandRipples", name := "within", desc := "(III)I" } : Jvm.MethodName) prog_1_method_54_code (3 : Nat) (Option.some Jvm.ClassFile.FieldType.int)) ∈ am_Tg := am_in_t 325 tq_325 rfl
theorem tw_326 : (Jvm.Cond.methodLink "SandRipples" (189 : Nat) ({ cls := "java/lang/Math", name := "min", desc := "(II)I" } : Jvm.MethodName)) ∈ am_Tg := am_in_t 326 tq_326 rfl
theorem tw_327 : (Jvm.Cond.methodLink "SandRipplesLaw" (23 : Nat) ({ cls := "SandRipples", name := "as", desc := "(II)I" } : Jvm.MethodName)) ∈ am_Tg := am_in_t 327 tq_327 rfl
theorem tw_328 : (Jvm.Cond.instanceMethod ({ cls := "SandRipples", name := "as", desc := "(II)I" } : Jvm.MethodName)) ∈ am_Tg := am_in_t 328 tq_328 rfl
theorem tw_329 : (Jvm.Cond.selects "SandRipples" ({ cls := "SandRipples", name := "as", desc := "(II)I" } : Jvm.MethodName) ({ cls := "SandRipples", name := "as", desc := "(II)I" } : Jvm.MethodName)) ∈ am_Tg := am_in_t 329 tq_329 rfl
theorem tw_330 : (Jvm.Cond.code ({ cls := "SandRipples", name := "as", desc := "(II)I" } : Jvm.MethodName) prog_1_method_4_code (4 : Nat) (Option.some Jvm.ClassFile.FieldType.int)) ∈ am_Tg := am_in_t 330 tq_330 rfl
theorem tw_331 : (Jvm.Cond.methodLink "SandRipples" (132 : Nat) ({ cls := "SandRipples", name := "isUnder", desc := "(II)Z" } : Jvm.MethodName)) ∈ am_Tg := am_in_t 331 tq_331 rfl
theorem tw_332 : (Jvm.Cond.static ({ cls := "SandRipples", name := "isUnder", desc := "(II)Z" } : Jvm.MethodName)) ∈ am_Tg := am_in_t 332 tq_332 rfl
theorem tw_333 : (Jvm.Cond.code ({ cls := "SandRipples", name := "isUnder", desc := "(II)Z" } : Jvm.MethodName) prog_1_method_49_code (4 : Nat) (Option.some Jvm.ClassFile.FieldType.boolean)) ∈ am_Tg := am_in_t 333 tq_333 rfl
theorem tw_334 : (Jvm.Cond.fieldLink "SandRipples" (299 : Nat) "SandRipples" "KIND_ABOVE" "[I") ∈ am_Tg := am_in_t 334 tq_334 rfl
theorem tw_336 : (Jvm.Cond.constant "SandRipples" (136 : Nat) (-1000000012 : Int32)) ∈ am_Tg := am_in_t 336 tq_336 rfl
theorem tw_337 : (Jvm.Cond.methodLink "SandRipplesLaw" (27 : Nat) ({ cls := "SandRipples", name := "turns", desc := "(II)I" } : Jvm.MethodName)) ∈ am_Tg := am_in_t 337 tq_337 rfl
theorem tw_338 : (Jvm.Cond.instanceMethod ({ cls := "SandRipples", name := "turns", desc := "(II)I" } : Jvm.MethodName)) ∈ am_Tg := am_in_t 338 tq_338 rfl
theorem tw_339 : (Jvm.Cond.selects "SandRipples" ({ cls := "SandRipples", name := "turns", desc := "(II)I" } : Jvm.MethodName) ({ cls := "SandRipples", name := "turns", desc := "(II)I" } : Jvm.MethodName)) ∈ am_Tg := am_in_t 339 tq_339 rfl
theorem tw_340 : (Jvm.Cond.code ({ cls := "SandRipples", name := "turns", desc := "(II)I" } : Jvm.MethodName) prog_1_method_5_code (5 : Nat) (Option.some Jvm.ClassFile.FieldType.int)) ∈ am_Tg := am_in_t 340 tq_340 rfl
theorem tw_341 : (Jvm.Cond.methodLink "SandRipplesLaw" (31 : Nat) ({ cls := "SandRipples", name := "sea", desc := "(II)I" } : Jvm.MethodName)) ∈ am_Tg := am_in_t 341 tq_341 rfl
theorem tw_342 : (Jvm.Cond.instanceMethod ({ cls := "SandRipples", name := "sea", desc := "(II)I" } : Jvm.MethodName)) ∈ am_Tg := am_in_t 342 tq_342 rfl
theorem tw_343 : (Jvm.Cond.selects "SandRipples" ({ cls := "SandRipples", name := "sea", desc := "(II)I" } : Jvm.MethodName) ({ cls := "SandRipples", name := "sea", desc := "(II)I" } : Jvm.MethodName)) ∈ am_Tg := am_in_t 343 tq_343 rfl
theorem tw_344 : (Jvm.Cond.code ({ cls := "SandRipples", name := "sea", desc := "(II)I" } : Jvm.MethodName) prog_1_method_6_code (4 : Nat) (Option.some Jvm.ClassFile.FieldType.int)) ∈ am_Tg := am_in_t 344 tq_344 rfl
theorem tw_345 : (Jvm.Cond.fieldLink "SandRipples" (137 : Nat) "SandRipples" "SEA_LEAST" "[I") ∈ am_Tg := am_in_t 345 tq_345 rfl
theorem tw_347 : (Jvm.Cond.fieldLink "SandRipples" (140 : Nat) "SandRipples" "SEA_MOST" "[I") ∈ am_Tg := am_in_t 347 tq_347 rfl
theorem tw_349 : (Jvm.Cond.methodLink "SandRipplesLaw" (35 : Nat) ({ cls := "SandRipples", name := "sand", desc := "(II)I" } : Jvm.MethodName)) ∈ am_Tg := am_in_t 349 tq_349 rfl
theorem tw_350 : (Jvm.Cond.instanceMethod ({ cls := "SandRipples", name := "sand", desc := "(II)I" } : Jvm.MethodName)) ∈ am_Tg := am_in_t 350 tq_350 rfl
theorem tw_351 : (Jvm.Cond.selects "SandRipples" ({ cls := "SandRipples", name := "sand", desc := "(II)I" } : Jvm.MethodName) ({ cls := "SandRipples", name := "sand", desc := "(II)I" } : Jvm.MethodName)) ∈ am_Tg := am_in_t 351 tq_351 rfl
theorem tw_352 : (Jvm.Cond.code ({ cls := "SandRipples", name := "sand", desc := "(II)I" } : Jvm.MethodName) prog_1_method_7_code (3 : Nat) (Option.some Jvm.ClassFile.FieldType.int)) ∈ am_Tg := am_in_t 352 tq_352 rfl
theorem tw_353 : (Jvm.Cond.methodLink "SandRipples" (146 : Nat) ({ cls := "SandRipples", name := "isCell", desc := "(I)Z" } : Jvm.MethodName)) ∈ am_Tg := am_in_t 353 tq_353 rfl
theorem tw_354 : (Jvm.Cond.static ({ cls := "SandRipples", name := "isCell", desc := "(I)Z" } : Jvm.MethodName)) ∈ am_Tg := am_in_t 354 tq_354 rfl
theorem tw_355 : (Jvm.Cond.code ({ cls := "SandRipples", name := "isCell", desc := "(I)Z" } : Jvm.MethodName) prog_1_method_45_code (1 : Nat) (Option.some Jvm.ClassFile.FieldType.boolean)) ∈ am_Tg := am_in_t 355 tq_355 rfl
theorem tw_356 : (Jvm.Cond.methodLink "SandRipplesLaw" (39 : Nat) ({ cls := "SandRipples", name := "heap", desc := "(III)I" } : Jvm.MethodName)) ∈ am_Tg := am_in_t 356 tq_356 rfl
theorem tw_357 : (Jvm.Cond.instanceMethod ({ cls := "SandRipples", name := "heap", desc := "(III)I" } : Jvm.MethodName)) ∈ am_Tg := am_in_t 357 tq_357 rfl
theorem tw_358 : (Jvm.Cond.selects "SandRipples" ({ cls := "SandRipples", name := "heap", desc := "(III)I" } : Jvm.MethodName) ({ cls := "SandRipples", name := "heap", desc := "(III)I" } : Jvm.MethodName)) ∈ am_Tg := am_in_t 358 tq_358 rfl
theorem tw_359 : (Jvm.Cond.code ({ cls := "SandRipples", name := "heap", desc := "(III)I" } : Jvm.MethodName) prog_1_method_8_code (6 : Nat) (Option.some Jvm.ClassFile.FieldType.int)) ∈ am_Tg := am_in_t 359 tq_359 rfl
theorem tw_360 : (Jvm.Cond.methodLink "SandRipplesLaw" (44 : Nat) ({ cls := "SandRipples", name := "deal", desc := "(I)I" } : Jvm.MethodName)) ∈ am_Tg := am_in_t 360 tq_360 rfl
theorem tw_361 : (Jvm.Cond.instanceMethod ({ cls := "SandRipples", name := "deal", desc := "(I)I" } : Jvm.MethodName)) ∈ am_Tg := am_in_t 361 tq_361 rfl
theorem tw_362 : (Jvm.Cond.selects "SandRipples" ({ cls := "SandRipples", name := "deal", desc := "(I)I" } : Jvm.MethodName) ({ cls := "SandRipples", name := "deal", desc := "(I)I" } : Jvm.MethodName)) ∈ am_Tg := am_in_t 362 tq_362 rfl
theorem tw_363 : (Jvm.Cond.code ({ cls := "SandRipples", name := "deal", desc := "(I)I" } : Jvm.MethodName) prog_1_method_9_code (4 : Nat) (Option.some Jvm.ClassFile.FieldType.int)) ∈ am_Tg := am_in_t 363 tq_363 rfl
theorem tw_366 : (Jvm.Cond.instanceMethod ({ cls := "SandRipples$World", name := "draw", desc := "()I" } : Jvm.MethodName)) ∈ am_Tg := am_in_t 366 tq_366 rfl
theorem tw_367 : (Jvm.Cond.code ({ cls := "SandRipples$World", name := "draw", desc := "()I" } : Jvm.MethodName) prog_7_method_4_code (1 : Nat) (Option.some Jvm.ClassFile.FieldType.int)) ∈ am_Tg := am_in_t 367 tq_367 rfl
theorem tw_368 : (Jvm.Cond.constant "SandRipples$World" (56 : Nat) (1103515245 : Int32)) ∈ am_Tg := am_in_t 368 tq_368 rfl
theorem tw_369 : (Jvm.Cond.methodLink "SandRipplesLaw" (48 : Nat) ({ cls := "SandRipples", name := "seed", desc := "(I)I" } : Jvm.MethodName)) ∈ am_Tg := am_in_t 369 tq_369 rfl
theorem tw_370 : (Jvm.Cond.instanceMethod ({ cls := "SandRipples", name := "seed", desc := "(I)I" } : Jvm.MethodName)) ∈ am_Tg := am_in_t 370 tq_370 rfl
theorem tw_371 : (Jvm.Cond.selects "SandRipples" ({ cls := "SandRipples", name := "seed", desc := "(I)I" } : Jvm.MethodName) ({ cls := "SandRipples", name := "seed", desc := "(I)I" } : Jvm.MethodName)) ∈ am_Tg := am_in_t 371 tq_371 rfl
theorem tw_372 : (Jvm.Cond.code ({ cls := "SandRipples", name := "seed", desc := "(I)I" } : Jvm.MethodName) prog_1_method_10_code (3 : Nat) (Option.some Jvm.ClassFile.FieldType.int)) ∈ am_Tg := am_in_t 372 tq_372 rfl
theorem tw_373 : (Jvm.Cond.methodLink "SandRipplesLaw" (52 : Nat) ({ cls := "SandRipples", name := "lift", desc := "(III)I" } : Jvm.MethodName)) ∈ am_Tg := am_in_t 373 tq_373 rfl
theorem tw_374 : (Jvm.Cond.instanceMethod ({ cls := "SandRipples", name := "lift", desc := "(III)I" } : Jvm.MethodName)) ∈ am_Tg := am_in_t 374 tq_374 rfl
theorem tw_375 : (Jvm.Cond.selects "SandRipples" ({ cls := "SandRipples", name := "lift", desc := "(III)I" } : Jvm.MethodName) ({ cls := "SandRipples", name := "lift", desc := "(III)I" } : Jvm.MethodName)) ∈ am_Tg := am_in_t 375 tq_375 rfl
theorem tw_376 : (Jvm.Cond.code ({ cls := "SandRipples", name := "lift", desc := "(III)I" } : Jvm.MethodName) prog_1_method_11_code (5 : Nat) (Option.some Jvm.ClassFile.FieldType.int)) ∈ am_Tg := am_in_t 376 tq_376 rfl
theorem tw_377 : (Jvm.Cond.methodLink "SandRipples" (158 : Nat) ({ cls := "SandRipples", name := "liftOf", desc := "(LSandRipples$World;LSandRipples$Floor;I)I" } : Jvm.MethodName)) ∈ am_Tg := am_in_t 377 tq_377 rfl
theorem tw_379 : (Jvm.Cond.instanceMethod ({ cls := "SandRipples", name := "liftOf", desc := "(LSandRipples$World;LSandRipples$Floor;I)I" } : Jvm.MethodName)) ∈ am_Tg := am_in_t 379 tq_379 rfl
theorem tw_380 : (Jvm.Cond.code ({ cls := "SandRipples", name := "liftOf", desc := "(LSandRipples$World;LSandRipples$Floor;I)I" } : Jvm.MethodName) prog_1_method_56_code (10 : Nat) (Option.some Jvm.ClassFile.FieldType.int)) ∈ am_Tg := am_in_t 380 tq_380 rfl
theorem tw_381 : (Jvm.Cond.methodLink "SandRipples" (162 : Nat) ({ cls := "SandRipples", name := "inRing", desc := "(I)I" } : Jvm.MethodName)) ∈ am_Tg := am_in_t 381 tq_381 rfl
theorem tw_382 : (Jvm.Cond.static ({ cls := "SandRipples", name := "inRing", desc := "(I)I" } : Jvm.MethodName)) ∈ am_Tg := am_in_t 382 tq_382 rfl
theorem tw_383 : (Jvm.Cond.code ({ cls := "SandRipples", name := "inRing", desc := "(I)I" } : Jvm.MethodName) prog_1_method_53_code (1 : Nat) (Option.some Jvm.ClassFile.FieldType.int)) ∈ am_Tg := am_in_t 383 tq_383 rfl
theorem tw_384 : (Jvm.Cond.methodLink "SandRipples" (302 : Nat) ({ cls := "java/lang/Math", name := "floorMod", desc := "(II)I" } : Jvm.MethodName)) ∈ am_Tg := am_in_t 384 tq_384 rfl
theorem tw_385 : (Jvm.Cond.static ({ cls := "java/lang/Math", name := "floorMod", desc := "(II)I" } : Jvm.MethodName)) ∈ am_Tg := am_in_t 385 tq_385 rfl
theorem tw_386 : (Jvm.Cond.code ({ cls := "java/lang/Math", name := "floorMod", desc := "(II)I" } : Jvm.MethodName) prog_12_method_50_code (3 : Nat) (Option.some Jvm.ClassFile.FieldType.int)) ∈ am_Tg := am_in_t 386 tq_386 rfl
theorem tw_387 : (Jvm.Cond.methodLink "SandRipplesLaw" (56 : Nat) ({ cls := "SandRipples", name := "run", desc := "(II)I" } : Jvm.MethodName)) ∈ am_Tg := am_in_t 387 tq_387 rfl
theorem tw_388 : (Jvm.Cond.instanceMethod ({ cls := "SandRipples", name := "run", desc := "(II)I" } : Jvm.MethodName)) ∈ am_Tg := am_in_t 388 tq_388 rfl
theorem tw_389 : (Jvm.Cond.selects "SandRipples" ({ cls := "SandRipples", name := "run", desc := "(II)I" } : Jvm.MethodName) ({ cls := "SandRipples", name := "run", desc := "(II)I" } : Jvm.MethodName)) ∈ am_Tg := am_in_t 389 tq_389 rfl
theorem tw_390 : (Jvm.Cond.code ({ cls := "SandRipples", name := "run", desc := "(II)I" } : Jvm.MethodName) prog_1_method_12_code (5 : Nat) (Option.some Jvm.ClassFile.FieldType.int)) ∈ am_Tg := am_in_t 390 tq_390 rfl
theorem tw_391 : (Jvm.Cond.methodLink "SandRipples" (166 : Nat) ({ cls := "SandRipples", name := "oneTick", desc := "(LSandRipples$World;LSandRipples$Floor;)I" } : Jvm.MethodName)) ∈ am_Tg := am_in_t 391 tq_391 rfl
theorem tw_393 : (Jvm.Cond.instanceMethod ({ cls := "SandRipples", name := "oneTick", desc := "(LSandRipples$World;LSandRipples$Floor;)I" } : Jvm.MethodName)) ∈ am_Tg := am_in_t 393 tq_393 rfl
theorem tw_394 : (Jvm.Cond.code ({ cls := "SandRipples", name := "oneTick", desc := "(LSandRipples$World;LSandRipples$Floor;)I" } : Jvm.MethodName) prog_1_method_59_code (4 : Nat) (Option.some Jvm.ClassFile.FieldType.int)) ∈ am_Tg := am_in_t 394 tq_394 rfl
theorem tw_395 : (Jvm.Cond.methodLink "SandRipples" (312 : Nat) ({ cls := "SandRipples", name := "liftAll", desc := "(LSandRipples$World;LSandRipples$Floor;)I" } : Jvm.MethodName)) ∈ am_Tg := am_in_t 395 tq_395 rfl
theorem tw_397 : (Jvm.Cond.instanceMethod ({ cls := "SandRipples", name := "liftAll", desc := "(LSandRipples$World;LSandRipples$Floor;)I" } : Jvm.MethodName)) ∈ am_Tg := am_in_t 397 tq_397 rfl
theorem tw_398 : (Jvm.Cond.code ({ cls := "SandRipples", name := "liftAll", desc := "(LSandRipples$World;LSandRipples$Floor;)I" } : Jvm.MethodName) prog_1_method_60_code (7 : Nat) (Option.some Jvm.ClassFile.FieldType.int)) ∈ am_Tg := am_in_t 398 tq_398 rfl
theorem tw_399 : (Jvm.Cond.methodLink "SandRipples" (315 : Nat) ({ cls := "SandRipples", name := "slideAll", desc := "(LSandRipples$World;LSandRipples$Floor;)I" } : Jvm.MethodName)) ∈ am_Tg := am_in_t 399 tq_399 rfl
theorem tw_401 : (Jvm.Cond.instanceMethod ({ cls := "SandRipples", name := "slideAll", desc := "(LSandRipples$World;LSandRipples$Floor;)I" } : Jvm.MethodName)) ∈ am_Tg := am_in_t 401 tq_401 rfl
theorem tw_402 : (Jvm.Cond.code ({ cls := "SandRipples", name := "slideAll", desc := "(LSandRipples$World;LSandRipples$Floor;)I" } : Jvm.MethodName) prog_1_method_61_code (8 : Nat) (Option.some Jvm.ClassFile.FieldType.int)) ∈ am_Tg := am_in_t 402 tq_402 rfl
theorem tw_403 : (Jvm.Cond.methodLink "SandRipples" (173 : Nat) ({ cls := "SandRipples", name := "nextOf", desc := "(I)I" } : Jvm.MethodName)) ∈ am_Tg := am_in_t 403 tq_403 rfl
theorem tw_404 : (Jvm.Cond.methodLink "SandRipples" (193 : Nat) ({ cls := "SandRipples", name := "aheadOf", desc := "(I)I" } : Jvm.MethodName)) ∈ am_Tg := am_in_t 404 tq_404 rfl
theorem tw_405 : (Jvm.Cond.methodLink "SandRipples" (318 : Nat) ({ cls := "SandRipples", name := "slideOf", desc := "(LSandRipples$World;I)I" } : Jvm.MethodName)) ∈ am_Tg := am_in_t 405 tq_405 rfl
theorem tw_407 : (Jvm.Cond.instanceMethod ({ cls := "SandRipples", name := "slideOf", desc := "(LSandRipples$World;I)I" } : Jvm.MethodName)) ∈ am_Tg := am_in_t 407 tq_407 rfl
theorem tw_408 : (Jvm.Cond.code ({ cls := "SandRipples", name := "slideOf", desc := "(LSandRipples$World;I)I" } : Jvm.MethodName) prog_1_method_57_code (5 : Nat) (Option.some Jvm.ClassFile.FieldType.int)) ∈ am_Tg := am_in_t 408 tq_408 rfl
theorem tw_409 : (Jvm.Cond.methodLink "SandRipplesLaw" (60 : Nat) ({ cls := "SandRipples", name := "crest", desc := "(II)I" } : Jvm.MethodName)) ∈ am_Tg := am_in_t 409 tq_409 rfl
theorem tw_410 : (Jvm.Cond.instanceMethod ({ cls := "SandRipples", name := "crest", desc := "(II)I" } : Jvm.MethodName)) ∈ am_Tg := am_in_t 410 tq_410 rfl
theorem tw_411 : (Jvm.Cond.selects "SandRipples" ({ cls := "SandRipples", name := "crest", desc := "(II)I" } : Jvm.MethodName) ({ cls := "SandRipples", name := "crest", desc := "(II)I" } : Jvm.MethodName)) ∈ am_Tg := am_in_t 411 tq_411 rfl
theorem tw_412 : (Jvm.Cond.code ({ cls := "SandRipples", name := "crest", desc := "(II)I" } : Jvm.MethodName) prog_1_method_13_code (6 : Nat) (Option.some Jvm.ClassFile.FieldType.int)) ∈ am_Tg := am_in_t 412 tq_412 rfl
theorem tw_413 : (Jvm.Cond.methodLink "SandRipplesLaw" (64 : Nat) ({ cls := "SandRipples", name := "apart", desc := "(I)I" } : Jvm.MethodName)) ∈ am_Tg := am_in_t 413 tq_413 rfl
theorem tw_414 : (Jvm.Cond.instanceMethod ({ cls := "SandRipples", name := "apart", desc := "(I)I" } : Jvm.MethodName)) ∈ am_Tg := am_in_t 414 tq_414 rfl
theorem tw_415 : (Jvm.Cond.selects "SandRipples" ({ cls := "SandRipples", name := "apart", desc := "(I)I" } : Jvm.MethodName) ({ cls := "SandRipples", name := "apart", desc := "(I)I" } : Jvm.MethodName)) ∈ am_Tg := am_in_t 415 tq_415 rfl
theorem tw_416 : (Jvm.Cond.code ({ cls := "SandRipples", name := "apart", desc := "(I)I" } : Jvm.MethodName) prog_1_method_14_code (3 : Nat) (Option.some Jvm.ClassFile.FieldType.int)) ∈ am_Tg := am_in_t 416 tq_416 rfl
theorem tw_417 : (Jvm.Cond.methodLink "SandRipplesLaw" (68 : Nat) ({ cls := "SandRipples", name := "flat", desc := "(II)I" } : Jvm.MethodName)) ∈ am_Tg := am_in_t 417 tq_417 rfl
theorem tw_418 : (Jvm.Cond.instanceMethod ({ cls := "SandRipples", name := "flat", desc := "(II)I" } : Jvm.MethodName)) ∈ am_Tg := am_in_t 418 tq_418 rfl
theorem tw_419 : (Jvm.Cond.selects "SandRipples" ({ cls := "SandRipples", name := "flat", desc := "(II)I" } : Jvm.MethodName) ({ cls := "SandRipples", name := "flat", desc := "(II)I" } : Jvm.MethodName)) ∈ am_Tg := am_in_t 419 tq_419 rfl
theorem tw_420 : (Jvm.Cond.code ({ cls := "SandRipples", name := "flat", desc := "(II)I" } : Jvm.MethodName) prog_1_method_15_code (5 : Nat) (Option.some Jvm.ClassFile.FieldType.int)) ∈ am_Tg := am_in_t 420 tq_420 rfl
theorem tw_421 : (Jvm.Cond.methodLink "SandRipples" (176 : Nat) ({ cls := "java/lang/Math", name := "abs", desc := "(I)I" } : Jvm.MethodName)) ∈ am_Tg := am_in_t 421 tq_421 rfl
theorem tw_422 : (Jvm.Cond.static ({ cls := "java/lang/Math", name := "abs", desc := "(I)I" } : Jvm.MethodName)) ∈ am_Tg := am_in_t 422 tq_422 rfl
theorem tw_423 : (Jvm.Cond.code ({ cls := "java/lang/Math", name := "abs", desc := "(I)I" } : Jvm.MethodName) prog_12_method_59_code (1 : Nat) (Option.some Jvm.ClassFile.FieldType.int)) ∈ am_Tg := am_in_t 423 tq_423 rfl
theorem tw_424 : (Jvm.Cond.methodLink "SandRipplesLaw" (72 : Nat) ({ cls := "SandRipples", name := "soon", desc := "(II)I" } : Jvm.MethodName)) ∈ am_Tg := am_in_t 424 tq_424 rfl
theorem tw_425 : (Jvm.Cond.instanceMethod ({ cls := "SandRipples", name := "soon", desc := "(II)I" } : Jvm.MethodName)) ∈ am_Tg := am_in_t 425 tq_425 rfl
theorem tw_426 : (Jvm.Cond.selects "SandRipples" ({ cls := "SandRipples", name := "soon", desc := "(II)I" } : Jvm.MethodName) ({ cls := "SandRipples", name := "soon", desc := "(II)I" } : Jvm.MethodName)) ∈ am_Tg := am_in_t 426 tq_426 rfl
theorem tw_427 : (Jvm.Cond.code ({ cls := "SandRipples", name := "soon", desc := "(II)I" } : Jvm.MethodName) prog_1_method_16_code (5 : Nat) (Option.some Jvm.ClassFile.FieldType.int)) ∈ am_Tg := am_in_t 427 tq_427 rfl
theorem tw_428 : (Jvm.Cond.methodLink "SandRipples" (181 : Nat) ({ cls := "SandRipples", name := "think", desc := "(LSandRipples$World;I)LSandRipples$Floor;" } : Jvm.MethodName)) ∈ am_Tg := am_in_t 428 tq_428 rfl
theorem tw_430 : (Jvm.Cond.instanceMethod ({ cls := "SandRipples", name := "think", desc := "(LSandRipples$World;I)LSandRipples$Floor;" } : Jvm.MethodName)) ∈ am_Tg := am_in_t 430 tq_430 rfl
theorem tw_431 : (Jvm.Cond.code ({ cls := "SandRipples", name := "think", desc := "(LSandRipples$World;I)LSandRipples$Floor;" } : Jvm.MethodName) prog_1_method_62_code (3 : Nat) (Option.some (Jvm.ClassFile.FieldType.object "SandRipples$Floor"))) ∈ am_Tg := am_in_t 431 tq_431 rfl
theorem tw_434 : (Jvm.Cond.instanceMethod ({ cls := "SandRipples$World", name := "becomeSea", desc := "(LSandRipples$World;)V" } : Jvm.MethodName)) ∈ am_Tg := am_in_t 434 tq_434 rfl
theorem tw_435 : (Jvm.Cond.code ({ cls := "SandRipples$World", name := "becomeSea", desc := "(LSandRipples$World;)V" } : Jvm.MethodName) prog_7_method_3_code (2 : Nat) (Option.none : Option Jvm.ClassFile.FieldType)) ∈ am_Tg := am_in_t 435 tq_435 rfl
theorem tw_436 : (Jvm.Cond.methodLink "SandRipples$World" (50 : Nat) ({ cls := "java/lang/System", name := "arraycopy", desc := "(Ljava/lang/Object;ILjava/lang/Object;II)V" } : Jvm.MethodName)) ∈ am_Tg := am_in_t 436 tq_436 rfl
theorem tw_437 : (Jvm.Cond.static ({ cls := "java/lang/System", name := "arraycopy", desc := "(Ljava/lang/Object;ILjava/lang/Object;II)V" } : Jvm.MethodName)) ∈ am_Tg := am_in_t 437 tq_437 rfl
theorem tw_438 : (Jvm.Cond.native ({ cls := "java/lang/System", name := "arraycopy", desc := "(Ljava/lang/Object;ILjava/lang/Object;II)V" } : Jvm.MethodName)) ∈ am_Tg := am_in_t 438 tq_438 rfl
theorem tw_441 : (Jvm.Cond.instanceMethod ({ cls := "SandRipples$Floor", name := "become", desc := "(LSandRipples$Floor;)V" } : Jvm.MethodName)) ∈ am_Tg := am_in_t 441 tq_441 rfl
theorem tw_442 : (Jvm.Cond.code ({ cls := "SandRipples$Floor", name := "become", desc := "(LSandRipples$Floor;)V" } : Jvm.MethodName) prog_2_method_3_code (2 : Nat) (Option.none : Option Jvm.ClassFile.FieldType)) ∈ am_Tg := am_in_t 442 tq_442 rfl
theorem tw_443 : (Jvm.Cond.methodLink "SandRipples$Floor" (22 : Nat) ({ cls := "java/lang/System", name := "arraycopy", desc := "(Ljava/lang/Object;ILjava/lang/Object;II)V" } : Jvm.MethodName)) ∈ am_Tg := am_in_t 443 tq_443 rfl
theorem tw_444 : (Jvm.Cond.methodLink "SandRipplesLaw" (76 : Nat) ({ cls := "SandRipples", name := "period", desc := "(I)I" } : Jvm.MethodName)) ∈ am_Tg := am_in_t 444 tq_444 rfl
theorem tw_445 : (Jvm.Cond.instanceMethod ({ cls := "SandRipples", name := "period", desc := "(I)I" } : Jvm.MethodName)) ∈ am_Tg := am_in_t 445 tq_445 rfl
theorem tw_446 : (Jvm.Cond.selects "SandRipples" ({ cls := "SandRipples", name := "period", desc := "(I)I" } : Jvm.MethodName) ({ cls := "SandRipples", name := "period", desc := "(I)I" } : Jvm.MethodName)) ∈ am_Tg := am_in_t 446 tq_446 rfl
theorem tw_447 : (Jvm.Cond.code ({ cls := "SandRipples", name := "period", desc := "(I)I" } : Jvm.MethodName) prog_1_method_17_code (4 : Nat) (Option.some Jvm.ClassFile.FieldType.int)) ∈ am_Tg := am_in_t 447 tq_447 rfl
theorem tw_450 : (Jvm.Cond.instanceMethod ({ cls := "SandRipples$Floor", name := "unlikeTurned", desc := "(LSandRipples$Floor;I)I" } : Jvm.MethodName)) ∈ am_Tg := am_in_t 450 tq_450 rfl
theorem tw_451 : (Jvm.Cond.code ({ cls := "SandRipples$Floor", name := "unlikeTurned", desc := "(LSandRipples$Floor;I)I" } : Jvm.MethodName) prog_2_method_12_code (5 : Nat) (Option.some Jvm.ClassFile.FieldType.int)) ∈ am_Tg := am_in_t 451 tq_451 rfl
theorem tw_453 : (Jvm.Cond.methodLink "SandRipplesLaw" (80 : Nat) ({ cls := "SandRipples", name := "foot", desc := "(III)I" } : Jvm.MethodName)) ∈ am_Tg := am_in_t 453 tq_453 rfl
theorem tw_454 : (Jvm.Cond.instanceMethod ({ cls := "SandRipples", name := "foot", desc := "(III)I" } : Jvm.MethodName)) ∈ am_Tg := am_in_t 454 tq_454 rfl
theorem tw_455 : (Jvm.Cond.selects "SandRipples" ({ cls := "SandRipples", name := "foot", desc := "(III)I" } : Jvm.MethodName) ({ cls := "SandRipples", name := "foot", desc := "(III)I" } : Jvm.MethodName)) ∈ am_Tg := am_in_t 455 tq_455 rfl
theorem tw_456 : (Jvm.Cond.code ({ cls := "SandRipples", name := "foot", desc := "(III)I" } : Jvm.MethodName) prog_1_method_18_code (6 : Nat) (Option.some Jvm.ClassFile.FieldType.int)) ∈ am_Tg := am_in_t 456 tq_456 rfl
theorem tw_457 : (Jvm.Cond.methodLink "SandRipplesLaw" (84 : Nat) ({ cls := "SandRipples", name := "worm", desc := "(II)I" } : Jvm.MethodName)) ∈ am_Tg := am_in_t 457 tq_457 rfl
theorem tw_458 : (Jvm.Cond.instanceMethod ({ cls := "SandRipples", name := "worm", desc := "(II)I" } : Jvm.MethodName)) ∈ am_Tg := am_in_t 458 tq_458 rfl
theorem tw_459 : (Jvm.Cond.selects "SandRipples" ({ cls := "SandRipples", name := "worm", desc := "(II)I" } : Jvm.MethodName) ({ cls := "SandRipples", name := "worm", desc := "(II)I" } : Jvm.MethodName)) ∈ am_Tg := am_in_t 459 tq_459 rfl
theorem tw_460 : (Jvm.Cond.code ({ cls := "SandRipples", name := "worm", desc := "(II)I" } : Jvm.MethodName) prog_1_method_19_code (7 : Nat) (Option.some Jvm.ClassFile.FieldType.int)) ∈ am_Tg := am_in_t 460 tq_460 rfl
theorem tw_461 : (Jvm.Cond.methodLink "SandRipplesLaw" (88 : Nat) ({ cls := "SandRipples", name := "press", desc := "(II)I" } : Jvm.MethodName)) ∈ am_Tg := am_in_t 461 tq_461 rfl
theorem tw_462 : (Jvm.Cond.instanceMethod ({ cls := "SandRipples", name := "press", desc := "(II)I" } : Jvm.MethodName)) ∈ am_Tg := am_in_t 462 tq_462 rfl
theorem tw_463 : (Jvm.Cond.selects "SandRipples" ({ cls := "SandRipples", name := "press", desc := "(II)I" } : Jvm.MethodName) ({ cls := "SandRipples", name := "press", desc := "(II)I" } : Jvm.MethodName)) ∈ am_Tg := am_in_t 463 tq_463 rfl
theorem tw_464 : (Jvm.Cond.code ({ cls := "SandRipples", name := "press", desc := "(II)I" } : Jvm.MethodName) prog_1_method_20_code (6 : Nat) (Option.some Jvm.ClassFile.FieldType.int)) ∈ am_Tg := am_in_t 464 tq_464 rfl
theorem tw_465 : (Jvm.Cond.methodLink "SandRipplesLaw" (92 : Nat) ({ cls := "SandRipples", name := "unlike", desc := "(II)I" } : Jvm.MethodName)) ∈ am_Tg := am_in_t 465 tq_465 rfl
theorem tw_466 : (Jvm.Cond.instanceMethod ({ cls := "SandRipples", name := "unlike", desc := "(II)I" } : Jvm.MethodName)) ∈ am_Tg := am_in_t 466 tq_466 rfl
theorem tw_467 : (Jvm.Cond.selects "SandRipples" ({ cls := "SandRipples", name := "unlike", desc := "(II)I" } : Jvm.MethodName) ({ cls := "SandRipples", name := "unlike", desc := "(II)I" } : Jvm.MethodName)) ∈ am_Tg := am_in_t 467 tq_467 rfl
theorem tw_468 : (Jvm.Cond.code ({ cls := "SandRipples", name := "unlike", desc := "(II)I" } : Jvm.MethodName) prog_1_method_21_code (3 : Nat) (Option.some Jvm.ClassFile.FieldType.int)) ∈ am_Tg := am_in_t 468 tq_468 rfl
theorem tw_469 : (Jvm.Cond.methodLink "SandRipplesLaw" (96 : Nat) ({ cls := "SandRipples", name := "turned", desc := "(III)I" } : Jvm.MethodName)) ∈ am_Tg := am_in_t 469 tq_469 rfl
theorem tw_470 : (Jvm.Cond.instanceMethod ({ cls := "SandRipples", name := "turned", desc := "(III)I" } : Jvm.MethodName)) ∈ am_Tg := am_in_t 470 tq_470 rfl
theorem tw_471 : (Jvm.Cond.selects "SandRipples" ({ cls := "SandRipples", name := "turned", desc := "(III)I" } : Jvm.MethodName) ({ cls := "SandRipples", name := "turned", desc := "(III)I" } : Jvm.MethodName)) ∈ am_Tg := am_in_t 471 tq_471 rfl
theorem tw_472 : (Jvm.Cond.code ({ cls := "SandRipples", name := "turned", desc := "(III)I" } : Jvm.MethodName) prog_1_method_22_code (8 : Nat) (Option.some Jvm.ClassFile.FieldType.int)) ∈ am_Tg := am_in_t 472 tq_472 rfl
theorem tw_473 : (Jvm.Cond.methodLink "SandRipplesLaw" (100 : Nat) ({ cls := "SandRipples", name := "seen", desc := "(III)I" } : Jvm.MethodName)) ∈ am_Tg := am_in_t 473 tq_473 rfl
theorem tw_474 : (Jvm.Cond.instanceMethod ({ cls := "SandRipples", name := "seen", desc := "(III)I" } : Jvm.MethodName)) ∈ am_Tg := am_in_t 474 tq_474 rfl
theorem tw_475 : (Jvm.Cond.selects "SandRipples" ({ cls := "SandRipples", name := "seen", desc := "(III)I" } : Jvm.MethodName) ({ cls := "SandRipples", name := "seen", desc := "(III)I" } : Jvm.MethodName)) ∈ am_Tg := am_in_t 475 tq_475 rfl
theorem tw_476 : (Jvm.Cond.code ({ cls := "SandRipples", name := "seen", desc := "(III)I" } : Jvm.MethodName) prog_1_method_23_code (9 : Nat) (Option.some Jvm.ClassFile.FieldType.int)) ∈ am_Tg := am_in_t 476 tq_476 rfl
theorem tw_477 : (Jvm.Cond.methodLink "SandRipples" (196 : Nat) ({ cls := "SandRipples", name := "isSheet", desc := "(I)Z" } : Jvm.MethodName)) ∈ am_Tg := am_in_t 477 tq_477 rfl
theorem tw_478 : (Jvm.Cond.static ({ cls := "SandRipples", name := "isSheet", desc := "(I)Z" } : Jvm.MethodName)) ∈ am_Tg := am_in_t 478 tq_478 rfl
theorem tw_479 : (Jvm.Cond.code ({ cls := "SandRipples", name := "isSheet", desc := "(I)Z" } : Jvm.MethodName) prog_1_method_46_code (1 : Nat) (Option.some Jvm.ClassFile.FieldType.boolean)) ∈ am_Tg := am_in_t 479 tq_479 rfl
theorem tw_480 : (Jvm.Cond.constant "SandRipples" (202 : Nat) (-1000000011 : Int32)) ∈ am_Tg := am_in_t 480 tq_480 rfl
theorem tw_481 : (Jvm.Cond.constant "SandRipples" (205 : Nat) (2147483647 : Int32)) ∈ am_Tg := am_in_t 481 tq_481 rfl
theorem tw_482 : (Jvm.Cond.methodLink "SandRipples" (206 : Nat) ({ cls := "SandRipples", name := "thinkBehind", desc := "(IIII)LSandRipples$Floor;" } : Jvm.MethodName)) ∈ am_Tg := am_in_t 482 tq_482 rfl
theorem tw_484 : (Jvm.Cond.instanceMethod ({ cls := "SandRipples", name := "thinkBehind", desc := "(IIII)LSandRipples$Floor;" } : Jvm.MethodName)) ∈ am_Tg := am_in_t 484 tq_484 rfl
theorem tw_485 : (Jvm.Cond.code ({ cls := "SandRipples", name := "thinkBehind", desc := "(IIII)LSandRipples$Floor;" } : Jvm.MethodName) prog_1_method_63_code (7 : Nat) (Option.some (Jvm.ClassFile.FieldType.object "SandRipples$Floor"))) ∈ am_Tg := am_in_t 485 tq_485 rfl
theorem tw_488 : (Jvm.Cond.instanceMethod ({ cls := "SandRipples$Sheet", name := "differences", desc := "(LSandRipples$Floor;)I" } : Jvm.MethodName)) ∈ am_Tg := am_in_t 488 tq_488 rfl
theorem tw_489 : (Jvm.Cond.code ({ cls := "SandRipples$Sheet", name := "differences", desc := "(LSandRipples$Floor;)I" } : Jvm.MethodName) prog_4_method_7_code (4 : Nat) (Option.some Jvm.ClassFile.FieldType.int)) ∈ am_Tg := am_in_t 489 tq_489 rfl
theorem tw_490 : (Jvm.Cond.methodLink "SandRipples$Sheet" (33 : Nat) ({ cls := "SandRipples$Sheet", name := "isNumber", desc := "(I)Z" } : Jvm.MethodName)) ∈ am_Tg := am_in_t 490 tq_490 rfl
theorem tw_492 : (Jvm.Cond.instanceMethod ({ cls := "SandRipples$Sheet", name := "isNumber", desc := "(I)Z" } : Jvm.MethodName)) ∈ am_Tg := am_in_t 492 tq_492 rfl
theorem tw_493 : (Jvm.Cond.code ({ cls := "SandRipples$Sheet", name := "isNumber", desc := "(I)Z" } : Jvm.MethodName) prog_4_method_6_code (2 : Nat) (Option.some Jvm.ClassFile.FieldType.boolean)) ∈ am_Tg := am_in_t 493 tq_493 rfl
theorem tw_494 : (Jvm.Cond.methodLink "SandRipples$Sheet" (28 : Nat) ({ cls := "SandRipples$Sheet", name := "hasPlace", desc := "(I)Z" } : Jvm.MethodName)) ∈ am_Tg := am_in_t 494 tq_494 rfl
theorem tw_496 : (Jvm.Cond.instanceMethod ({ cls := "SandRipples$Sheet", name := "hasPlace", desc := "(I)Z" } : Jvm.MethodName)) ∈ am_Tg := am_in_t 496 tq_496 rfl
theorem tw_497 : (Jvm.Cond.code ({ cls := "SandRipples$Sheet", name := "hasPlace", desc := "(I)Z" } : Jvm.MethodName) prog_4_method_4_code (2 : Nat) (Option.some Jvm.ClassFile.FieldType.boolean)) ∈ am_Tg := am_in_t 497 tq_497 rfl
theorem tw_498 : (Jvm.Cond.constant "SandRipples$Sheet" (32 : Nat) (-1000000005 : Int32)) ∈ am_Tg := am_in_t 498 tq_498 rfl
theorem tw_499 : (Jvm.Cond.methodLink "SandRipples$Sheet" (41 : Nat) ({ cls := "java/lang/Math", name := "abs", desc := "(I)I" } : Jvm.MethodName)) ∈ am_Tg := am_in_t 499 tq_499 rfl
theorem tw_500 : (Jvm.Cond.methodLink "SandRipplesLaw" (104 : Nat) ({ cls := "SandRipples", name := "best", desc := "(III)I" } : Jvm.MethodName)) ∈ am_Tg := am_in_t 500 tq_500 rfl
theorem tw_501 : (Jvm.Cond.instanceMethod ({ cls := "SandRipples", name := "best", desc := "(III)I" } : Jvm.MethodName)) ∈ am_Tg := am_in_t 501 tq_501 rfl
theorem tw_502 : (Jvm.Cond.selects "SandRipples" ({ cls := "SandRipples", name := "best", desc := "(III)I" } : Jvm.MethodName) ({ cls := "SandRipples", name := "best", desc := "(III)I" } : Jvm.MethodName)) ∈ am_Tg := am_in_t 502 tq_502 rfl
theorem tw_503 : (Jvm.Cond.code ({ cls := "SandRipples", name := "best", desc := "(III)I" } : Jvm.MethodName) prog_1_method_24_code (8 : Nat) (Option.some Jvm.ClassFile.FieldType.int)) ∈ am_Tg := am_in_t 503 tq_503 rfl
theorem tw_504 : (Jvm.Cond.methodLink "SandRipplesLaw" (108 : Nat) ({ cls := "SandRipples", name := "feed", desc := "(III)I" } : Jvm.MethodName)) ∈ am_Tg := am_in_t 504 tq_504 rfl
theorem tw_505 : (Jvm.Cond.instanceMethod ({ cls := "SandRipples", name := "feed", desc := "(III)I" } : Jvm.MethodName)) ∈ am_Tg := am_in_t 505 tq_505 rfl
theorem tw_506 : (Jvm.Cond.selects "SandRipples" ({ cls := "SandRipples", name := "feed", desc := "(III)I" } : Jvm.MethodName) ({ cls := "SandRipples", name := "feed", desc := "(III)I" } : Jvm.MethodName)) ∈ am_Tg := am_in_t 506 tq_506 rfl
theorem tw_507 : (Jvm.Cond.code ({ cls := "SandRipples", name := "feed", desc := "(III)I" } : Jvm.MethodName) prog_1_method_25_code (4 : Nat) (Option.some Jvm.ClassFile.FieldType.int)) ∈ am_Tg := am_in_t 507 tq_507 rfl
theorem tw_508 : (Jvm.Cond.methodLink "SandRipples" (214 : Nat) ({ cls := "SandRipples", name := "feedNumber", desc := "(I)V" } : Jvm.MethodName)) ∈ am_Tg := am_in_t 508 tq_508 rfl
theorem tw_510 : (Jvm.Cond.instanceMethod ({ cls := "SandRipples", name := "feedNumber", desc := "(I)V" } : Jvm.MethodName)) ∈ am_Tg := am_in_t 510 tq_510 rfl
theorem tw_511 : (Jvm.Cond.code ({ cls := "SandRipples", name := "feedNumber", desc := "(I)V" } : Jvm.MethodName) prog_1_method_64_code (3 : Nat) (Option.none : Option Jvm.ClassFile.FieldType)) ∈ am_Tg := am_in_t 511 tq_511 rfl
theorem tw_512 : (Jvm.Cond.methodLink "SandRipplesLaw" (112 : Nat) ({ cls := "SandRipples", name := "trim", desc := "(I)I" } : Jvm.MethodName)) ∈ am_Tg := am_in_t 512 tq_512 rfl
theorem tw_513 : (Jvm.Cond.instanceMethod ({ cls := "SandRipples", name := "trim", desc := "(I)I" } : Jvm.MethodName)) ∈ am_Tg := am_in_t 513 tq_513 rfl
theorem tw_514 : (Jvm.Cond.selects "SandRipples" ({ cls := "SandRipples", name := "trim", desc := "(I)I" } : Jvm.MethodName) ({ cls := "SandRipples", name := "trim", desc := "(I)I" } : Jvm.MethodName)) ∈ am_Tg := am_in_t 514 tq_514 rfl
theorem tw_515 : (Jvm.Cond.code ({ cls := "SandRipples", name := "trim", desc := "(I)I" } : Jvm.MethodName) prog_1_method_26_code (2 : Nat) (Option.some Jvm.ClassFile.FieldType.int)) ∈ am_Tg := am_in_t 515 tq_515 rfl
theorem tw_516 : (Jvm.Cond.methodLink "SandRipplesLaw" (116 : Nat) ({ cls := "SandRipples", name := "text", desc := "()I" } : Jvm.MethodName)) ∈ am_Tg := am_in_t 516 tq_516 rfl
theorem tw_517 : (Jvm.Cond.instanceMethod ({ cls := "SandRipples", name := "text", desc := "()I" } : Jvm.MethodName)) ∈ am_Tg := am_in_t 517 tq_517 rfl
theorem tw_518 : (Jvm.Cond.selects "SandRipples" ({ cls := "SandRipples", name := "text", desc := "()I" } : Jvm.MethodName) ({ cls := "SandRipples", name := "text", desc := "()I" } : Jvm.MethodName)) ∈ am_Tg := am_in_t 518 tq_518 rfl
theorem tw_519 : (Jvm.Cond.code ({ cls := "SandRipples", name := "text", desc := "()I" } : Jvm.MethodName) prog_1_method_27_code (4 : Nat) (Option.some Jvm.ClassFile.FieldType.int)) ∈ am_Tg := am_in_t 519 tq_519 rfl
theorem tw_522 : (Jvm.Cond.instanceMethod ({ cls := "SandRipples$Reader", name := "faultOf", desc := "([II)I" } : Jvm.MethodName)) ∈ am_Tg := am_in_t 522 tq_522 rfl
theorem tw_523 : (Jvm.Cond.code ({ cls := "SandRipples$Reader", name := "faultOf", desc := "([II)I" } : Jvm.MethodName) prog_3_method_2_code (8 : Nat) (Option.some Jvm.ClassFile.FieldType.int)) ∈ am_Tg := am_in_t 523 tq_523 rfl
theorem tw_524 : (Jvm.Cond.methodLink "SandRipples$Reader" (41 : Nat) ({ cls := "SandRipples$Reader", name := "begin", desc := "()V" } : Jvm.MethodName)) ∈ am_Tg := am_in_t 524 tq_524 rfl
theorem tw_526 : (Jvm.Cond.instanceMethod ({ cls := "SandRipples$Reader", name := "begin", desc := "()V" } : Jvm.MethodName)) ∈ am_Tg := am_in_t 526 tq_526 rfl
theorem tw_527 : (Jvm.Cond.code ({ cls := "SandRipples$Reader", name := "begin", desc := "()V" } : Jvm.MethodName) prog_3_method_3_code (1 : Nat) (Option.none : Option Jvm.ClassFile.FieldType)) ∈ am_Tg := am_in_t 527 tq_527 rfl
theorem tw_528 : (Jvm.Cond.methodLink "SandRipples$Reader" (44 : Nat) ({ cls := "SandRipples$Reader", name := "pastBlanks", desc := "([III)I" } : Jvm.MethodName)) ∈ am_Tg := am_in_t 528 tq_528 rfl
theorem tw_529 : (Jvm.Cond.static ({ cls := "SandRipples$Reader", name := "pastBlanks", desc := "([III)I" } : Jvm.MethodName)) ∈ am_Tg := am_in_t 529 tq_529 rfl
theorem tw_530 : (Jvm.Cond.code ({ cls := "SandRipples$Reader", name := "pastBlanks", desc := "([III)I" } : Jvm.MethodName) prog_3_method_20_code (4 : Nat) (Option.some Jvm.ClassFile.FieldType.int)) ∈ am_Tg := am_in_t 530 tq_530 rfl
theorem tw_531 : (Jvm.Cond.methodLink "SandRipples$Reader" (48 : Nat) ({ cls := "SandRipples$Reader", name := "endOfWord", desc := "([III)I" } : Jvm.MethodName)) ∈ am_Tg := am_in_t 531 tq_531 rfl
theorem tw_532 : (Jvm.Cond.static ({ cls := "SandRipples$Reader", name := "endOfWord", desc := "([III)I" } : Jvm.MethodName)) ∈ am_Tg := am_in_t 532 tq_532 rfl
theorem tw_533 : (Jvm.Cond.code ({ cls := "SandRipples$Reader", name := "endOfWord", desc := "([III)I" } : Jvm.MethodName) prog_3_method_21_code (6 : Nat) (Option.some Jvm.ClassFile.FieldType.int)) ∈ am_Tg := am_in_t 533 tq_533 rfl
theorem tw_534 : (Jvm.Cond.methodLink "SandRipples$Reader" (75 : Nat) ({ cls := "SandRipples$Reader", name := "isLetter", desc := "(I)Z" } : Jvm.MethodName)) ∈ am_Tg := am_in_t 534 tq_534 rfl
theorem tw_535 : (Jvm.Cond.static ({ cls := "SandRipples$Reader", name := "isLetter", desc := "(I)Z" } : Jvm.MethodName)) ∈ am_Tg := am_in_t 535 tq_535 rfl
theorem tw_536 : (Jvm.Cond.code ({ cls := "SandRipples$Reader", name := "isLetter", desc := "(I)Z" } : Jvm.MethodName) prog_3_method_23_code (1 : Nat) (Option.some Jvm.ClassFile.FieldType.boolean)) ∈ am_Tg := am_in_t 536 tq_536 rfl
theorem tw_537 : (Jvm.Cond.methodLink "SandRipples$Reader" (69 : Nat) ({ cls := "SandRipples$Reader", name := "isDigit", desc := "(I)Z" } : Jvm.MethodName)) ∈ am_Tg := am_in_t 537 tq_537 rfl
theorem tw_538 : (Jvm.Cond.static ({ cls := "SandRipples$Reader", name := "isDigit", desc := "(I)Z" } : Jvm.MethodName)) ∈ am_Tg := am_in_t 538 tq_538 rfl
theorem tw_539 : (Jvm.Cond.code ({ cls := "SandRipples$Reader", name := "isDigit", desc := "(I)Z" } : Jvm.MethodName) prog_3_method_24_code (1 : Nat) (Option.some Jvm.ClassFile.FieldType.boolean)) ∈ am_Tg := am_in_t 539 tq_539 rfl
theorem tw_540 : (Jvm.Cond.methodLink "SandRipples$Reader" (51 : Nat) ({ cls := "SandRipples$Reader", name := "keyOf", desc := "([III)I" } : Jvm.MethodName)) ∈ am_Tg := am_in_t 540 tq_540 rfl
theorem tw_541 : (Jvm.Cond.static ({ cls := "SandRipples$Reader", name := "keyOf", desc := "([III)I" } : Jvm.MethodName)) ∈ am_Tg := am_in_t 541 tq_541 rfl
theorem tw_542 : (Jvm.Cond.code ({ cls := "SandRipples$Reader", name := "keyOf", desc := "([III)I" } : Jvm.MethodName) prog_3_method_16_code (4 : Nat) (Option.some Jvm.ClassFile.FieldType.int)) ∈ am_Tg := am_in_t 542 tq_542 rfl
theorem tw_543 : (Jvm.Cond.methodLink "SandRipples$Reader" (113 : Nat) ({ cls := "SandRipples$Reader", name := "wordOf", desc := "(I)Ljava/lang/String;" } : Jvm.MethodName)) ∈ am_Tg := am_in_t 543 tq_543 rfl
theorem tw_544 : (Jvm.Cond.static ({ cls := "SandRipples$Reader", name := "wordOf", desc := "(I)Ljava/lang/String;" } : Jvm.MethodName)) ∈ am_Tg := am_in_t 544 tq_544 rfl
theorem tw_545 : (Jvm.Cond.code ({ cls := "SandRipples$Reader", name := "wordOf", desc := "(I)Ljava/lang/String;" } : Jvm.MethodName) prog_3_method_17_code (1 : Nat) (Option.some (Jvm.ClassFile.FieldType.object "java/lang/String"))) ∈ am_Tg := am_in_t 545 tq_545 rfl
theorem tw_549 : (Jvm.Cond.methodLink "SandRipples$Reader" (116 : Nat) ({ cls := "SandRipples$Reader", name := "isWord", desc := "([IIILjava/lang/String;)Z" } : Jvm.MethodName)) ∈ am_Tg := am_in_t 549 tq_549 rfl
theorem tw_550 : (Jvm.Cond.static ({ cls := "SandRipples$Reader", name := "isWord", desc := "([IIILjava/lang/String;)Z" } : Jvm.MethodName)) ∈ am_Tg := am_in_t 550 tq_550 rfl
theorem tw_551 : (Jvm.Cond.code ({ cls := "SandRipples$Reader", name := "isWord", desc := "([IIILjava/lang/String;)Z" } : Jvm.MethodName) prog_3_method_19_code (5 : Nat) (Option.some Jvm.ClassFile.FieldType.boolean)) ∈ am_Tg := am_in_t 551 tq_551 rfl
theorem tw_552 : (Jvm.Cond.methodLink "SandRipples$Reader" (132 : Nat) ({ cls := "java/lang/String", name := "length", desc := "()I" } : Jvm.MethodName)) ∈ am_Tg := am_in_t 552 tq_552 rfl
theorem tw_553 : (Jvm.Cond.instanceMethod ({ cls := "java/lang/String", name := "length", desc := "()I" } : Jvm.MethodName)) ∈ am_Tg := am_in_t 553 tq_553 rfl
theorem tw_554 : (Jvm.Cond.selects "java/lang/String" ({ cls := "java/lang/String", name := "length", desc := "()I" } : Jvm.MethodName) ({ cls := "java/lang/String", name := "length", desc := "()I" } : Jvm.MethodName)) ∈ am_Tg := am_in_t 554 tq_554 rfl
theorem tw_555 : (Jvm.Cond.code ({ cls := "java/lang/String", name := "length", desc := "()I" } : Jvm.MethodName) prog_13_method_54_code (1 : Nat) (Option.some Jvm.ClassFile.FieldType.int)) ∈ am_Tg := am_in_t 555 tq_555 rfl
theorem tw_556 : (Jvm.Cond.methodLink "java/lang/String" (335 : Nat) ({ cls := "java/lang/String", name := "coder", desc := "()B" } : Jvm.MethodName)) ∈ am_Tg := am_in_t 556 tq_556 rfl
theorem tw_557 : (Jvm.Cond.instanceMethod ({ cls := "java/lang/String", name := "coder", desc := "()B" } : Jvm.MethodName)) ∈ am_Tg := am_in_t 557 tq_557 rfl
theorem tw_558 : (Jvm.Cond.selects "java/lang/String" ({ cls := "java/lang/String", name := "coder", desc := "()B" } : Jvm.MethodName) ({ cls := "java/lang/String", name := "coder", desc := "()B" } : Jvm.MethodName)) ∈ am_Tg := am_in_t 558 tq_558 rfl
theorem tw_559 : (Jvm.Cond.code ({ cls := "java/lang/String", name := "coder", desc := "()B" } : Jvm.MethodName) prog_13_method_152_code (1 : Nat) (Option.some Jvm.ClassFile.FieldType.byte)) ∈ am_Tg := am_in_t 559 tq_559 rfl
theorem tw_560 : (Jvm.Cond.fieldLink "java/lang/String" (38 : Nat) "java/lang/String" "COMPACT_STRINGS" "Z") ∈ am_Tg := am_in_t 560 tq_560 rfl
theorem tw_562 : (Jvm.Cond.methodLink "SandRipples$Reader" (135 : Nat) ({ cls := "java/lang/String", name := "charAt", desc := "(I)C" } : Jvm.MethodName)) ∈ am_Tg := am_in_t 562 tq_562 rfl
theorem tw_563 : (Jvm.Cond.instanceMethod ({ cls := "java/lang/String", name := "charAt", desc := "(I)C" } : Jvm.MethodName)) ∈ am_Tg := am_in_t 563 tq_563 rfl
theorem tw_564 : (Jvm.Cond.selects "java/lang/String" ({ cls := "java/lang/String", name := "charAt", desc := "(I)C" } : Jvm.MethodName) ({ cls := "java/lang/String", name := "charAt", desc := "(I)C" } : Jvm.MethodName)) ∈ am_Tg := am_in_t 564 tq_564 rfl
theorem tw_565 : (Jvm.Cond.code ({ cls := "java/lang/String", name := "charAt", desc := "(I)C" } : Jvm.MethodName) prog_13_method_56_code (2 : Nat) (Option.some Jvm.ClassFile.FieldType.char)) ∈ am_Tg := am_in_t 565 tq_565 rfl
theorem tw_566 : (Jvm.Cond.methodLink "java/lang/String" (492 : Nat) ({ cls := "java/lang/String", name := "isLatin1", desc := "()Z" } : Jvm.MethodName)) ∈ am_Tg := am_in_t 566 tq_566 rfl
theorem tw_567 : (Jvm.Cond.instanceMethod ({ cls := "java/lang/String", name := "isLatin1", desc := "()Z" } : Jvm.MethodName)) ∈ am_Tg := am_in_t 567 tq_567 rfl
theorem tw_568 : (Jvm.Cond.selects "java/lang/String" ({ cls := "java/lang/String", name := "isLatin1", desc := "()Z" } : Jvm.MethodName) ({ cls := "java/lang/String", name := "isLatin1", desc := "()Z" } : Jvm.MethodName)) ∈ am_Tg := am_in_t 568 tq_568 rfl
theorem tw_569 : (Jvm.Cond.code ({ cls := "java/lang/String", name := "isLatin1", desc := "()Z" } : Jvm.MethodName) prog_13_method_154_code (1 : Nat) (Option.some Jvm.ClassFile.FieldType.boolean)) ∈ am_Tg := am_in_t 569 tq_569 rfl
theorem tw_570 : (Jvm.Cond.methodLink "java/lang/String" (495 : Nat) ({ cls := "java/lang/StringLatin1", name := "charAt", desc := "([BI)C" } : Jvm.MethodName)) ∈ am_Tg := am_in_t 570 tq_570 rfl
theorem tw_571 : (Jvm.Cond.static ({ cls := "java/lang/StringLatin1", name := "charAt", desc := "([BI)C" } : Jvm.MethodName)) ∈ am_Tg := am_in_t 571 tq_571 rfl
theorem tw_572 : (Jvm.Cond.code ({ cls := "java/lang/StringLatin1", name := "charAt", desc := "([BI)C" } : Jvm.MethodName) prog_14_method_2_code (2 : Nat) (Option.some Jvm.ClassFile.FieldType.char)) ∈ am_Tg := am_in_t 572 tq_572 rfl
theorem tw_573 : (Jvm.Cond.methodLink "java/lang/StringLatin1" (9 : Nat) ({ cls := "java/lang/String", name := "checkIndex", desc := "(II)V" } : Jvm.MethodName)) ∈ am_Tg := am_in_t 573 tq_573 rfl
theorem tw_574 : (Jvm.Cond.static ({ cls := "java/lang/String", name := "checkIndex", desc := "(II)V" } : Jvm.MethodName)) ∈ am_Tg := am_in_t 574 tq_574 rfl
theorem tw_575 : (Jvm.Cond.code ({ cls := "java/lang/String", name := "checkIndex", desc := "(II)V" } : Jvm.MethodName) prog_13_method_155_code (2 : Nat) (Option.none : Option Jvm.ClassFile.FieldType)) ∈ am_Tg := am_in_t 575 tq_575 rfl
theorem tw_576 : (Jvm.Cond.fieldLink "java/lang/String" (1053 : Nat) "jdk/internal/util/Preconditions" "SIOOBE_FORMATTER" "Ljava/util/function/BiFunction;") ∈ am_Tg := am_in_t 576 tq_576 rfl
theorem tw_578 : (Jvm.Cond.methodLink "java/lang/String" (1059 : Nat) ({ cls := "jdk/internal/util/Preconditions", name := "checkIndex", desc := "(IILjava/util/function/BiFunction;)I" } : Jvm.MethodName)) ∈ am_Tg := am_in_t 578 tq_578 rfl
theorem tw_579 : (Jvm.Cond.static ({ cls := "jdk/internal/util/Preconditions", name := "checkIndex", desc := "(IILjava/util/function/BiFunction;)I" } : Jvm.MethodName)) ∈ am_Tg := am_in_t 579 tq_579 rfl
theorem tw_580 : (Jvm.Cond.code ({ cls := "jdk/internal/util/Preconditions", name := "checkIndex", desc := "(IILjava/util/function/BiFunction;)I" } : Jvm.MethodName) prog_17_method_11_code (3 : Nat) (Option.some Jvm.ClassFile.FieldType.int)) ∈ am_Tg := am_in_t 580 tq_580 rfl
theorem tw_600 : (Jvm.Cond.methodLink "SandRipples$Reader" (54 : Nat) ({ cls := "SandRipples$Reader", name := "isInWord", desc := "(I)Z" } : Jvm.MethodName)) ∈ am_Tg := am_in_t 600 tq_600 rfl
theorem tw_601 : (Jvm.Cond.static ({ cls := "SandRipples$Reader", name := "isInWord", desc := "(I)Z" } : Jvm.MethodName)) ∈ am_Tg := am_in_t 601 tq_601 rfl
theorem tw_602 : (Jvm.Cond.code ({ cls := "SandRipples$Reader", name := "isInWord", desc := "(I)Z" } : Jvm.MethodName) prog_3_method_22_code (1 : Nat) (Option.some Jvm.ClassFile.FieldType.boolean)) ∈ am_Tg := am_in_t 602 tq_602 rfl
theorem tw_603 : (Jvm.Cond.methodLink "SandRipples$Reader" (58 : Nat) ({ cls := "SandRipples$Reader", name := "takesPiece", desc := "([III)Z" } : Jvm.MethodName)) ∈ am_Tg := am_in_t 603 tq_603 rfl
theorem tw_605 : (Jvm.Cond.instanceMethod ({ cls := "SandRipples$Reader", name := "takesPiece", desc := "([III)Z" } : Jvm.MethodName)) ∈ am_Tg := am_in_t 605 tq_605 rfl
theorem tw_606 : (Jvm.Cond.code ({ cls := "SandRipples$Reader", name := "takesPiece", desc := "([III)Z" } : Jvm.MethodName) prog_3_method_4_code (5 : Nat) (Option.some Jvm.ClassFile.FieldType.boolean)) ∈ am_Tg := am_in_t 606 tq_606 rfl
theorem tw_607 : (Jvm.Cond.methodLink "SandRipples$Reader" (72 : Nat) ({ cls := "SandRipples$Reader", name := "takesNumber", desc := "([III)Z" } : Jvm.MethodName)) ∈ am_Tg := am_in_t 607 tq_607 rfl
theorem tw_609 : (Jvm.Cond.instanceMethod ({ cls := "SandRipples$Reader", name := "takesNumber", desc := "([III)Z" } : Jvm.MethodName)) ∈ am_Tg := am_in_t 609 tq_609 rfl
theorem tw_610 : (Jvm.Cond.code ({ cls := "SandRipples$Reader", name := "takesNumber", desc := "([III)Z" } : Jvm.MethodName) prog_3_method_5_code (6 : Nat) (Option.some Jvm.ClassFile.FieldType.boolean)) ∈ am_Tg := am_in_t 610 tq_610 rfl
theorem tw_611 : (Jvm.Cond.methodLink "SandRipples$Reader" (84 : Nat) ({ cls := "SandRipples$Reader", name := "takeLeaf", desc := "(I)V" } : Jvm.MethodName)) ∈ am_Tg := am_in_t 611 tq_611 rfl
theorem tw_613 : (Jvm.Cond.instanceMethod ({ cls := "SandRipples$Reader", name := "takeLeaf", desc := "(I)V" } : Jvm.MethodName)) ∈ am_Tg := am_in_t 613 tq_613 rfl
theorem tw_614 : (Jvm.Cond.code ({ cls := "SandRipples$Reader", name := "takeLeaf", desc := "(I)V" } : Jvm.MethodName) prog_3_method_7_code (2 : Nat) (Option.none : Option Jvm.ClassFile.FieldType)) ∈ am_Tg := am_in_t 614 tq_614 rfl
theorem tw_615 : (Jvm.Cond.methodLink "SandRipples$Reader" (98 : Nat) ({ cls := "SandRipples$Reader", name := "put", desc := "(I)V" } : Jvm.MethodName)) ∈ am_Tg := am_in_t 615 tq_615 rfl
theorem tw_617 : (Jvm.Cond.instanceMethod ({ cls := "SandRipples$Reader", name := "put", desc := "(I)V" } : Jvm.MethodName)) ∈ am_Tg := am_in_t 617 tq_617 rfl
theorem tw_618 : (Jvm.Cond.code ({ cls := "SandRipples$Reader", name := "put", desc := "(I)V" } : Jvm.MethodName) prog_3_method_14_code (2 : Nat) (Option.none : Option Jvm.ClassFile.FieldType)) ∈ am_Tg := am_in_t 618 tq_618 rfl
theorem tw_619 : (Jvm.Cond.methodLink "SandRipples$Reader" (101 : Nat) ({ cls := "SandRipples$Reader", name := "endPiece", desc := "()V" } : Jvm.MethodName)) ∈ am_Tg := am_in_t 619 tq_619 rfl
theorem tw_621 : (Jvm.Cond.instanceMethod ({ cls := "SandRipples$Reader", name := "endPiece", desc := "()V" } : Jvm.MethodName)) ∈ am_Tg := am_in_t 621 tq_621 rfl
theorem tw_622 : (Jvm.Cond.code ({ cls := "SandRipples$Reader", name := "endPiece", desc := "()V" } : Jvm.MethodName) prog_3_method_8_code (1 : Nat) (Option.none : Option Jvm.ClassFile.FieldType)) ∈ am_Tg := am_in_t 622 tq_622 rfl
theorem tw_623 : (Jvm.Cond.methodLink "SandRipples$Reader" (78 : Nat) ({ cls := "SandRipples$Reader", name := "takesName", desc := "(I)Z" } : Jvm.MethodName)) ∈ am_Tg := am_in_t 623 tq_623 rfl
theorem tw_625 : (Jvm.Cond.instanceMethod ({ cls := "SandRipples$Reader", name := "takesName", desc := "(I)Z" } : Jvm.MethodName)) ∈ am_Tg := am_in_t 625 tq_625 rfl
theorem tw_626 : (Jvm.Cond.code ({ cls := "SandRipples$Reader", name := "takesName", desc := "(I)Z" } : Jvm.MethodName) prog_3_method_6_code (3 : Nat) (Option.some Jvm.ClassFile.FieldType.boolean)) ∈ am_Tg := am_in_t 626 tq_626 rfl
theorem tw_627 : (Jvm.Cond.methodLink "SandRipples$Reader" (88 : Nat) ({ cls := "SandRipples$Reader", name := "namesOf", desc := "(I)Ljava/lang/String;" } : Jvm.MethodName)) ∈ am_Tg := am_in_t 627 tq_627 rfl
theorem tw_628 : (Jvm.Cond.static ({ cls := "SandRipples$Reader", name := "namesOf", desc := "(I)Ljava/lang/String;" } : Jvm.MethodName)) ∈ am_Tg := am_in_t 628 tq_628 rfl
theorem tw_629 : (Jvm.Cond.code ({ cls := "SandRipples$Reader", name := "namesOf", desc := "(I)Ljava/lang/String;" } : Jvm.MethodName) prog_3_method_18_code (1 : Nat) (Option.some (Jvm.ClassFile.FieldType.object "java/lang/String"))) ∈ am_Tg := am_in_t 629 tq_629 rfl
theorem tw_633 : (Jvm.Cond.methodLink "SandRipples$Reader" (92 : Nat) ({ cls := "java/lang/String", name := "indexOf", desc := "(I)I" } : Jvm.MethodName)) ∈ am_Tg := am_in_t 633 tq_633 rfl
theorem tw_634 : (Jvm.Cond.instanceMethod ({ cls := "java/lang/String", name := "indexOf", desc := "(I)I" } : Jvm.MethodName)) ∈ am_Tg := am_in_t 634 tq_634 rfl
theorem tw_635 : (Jvm.Cond.selects "java/lang/String" ({ cls := "java/lang/String", name := "indexOf", desc := "(I)I" } : Jvm.MethodName) ({ cls := "java/lang/String", name := "indexOf", desc := "(I)I" } : Jvm.MethodName)) ∈ am_Tg := am_in_t 635 tq_635 rfl
theorem tw_636 : (Jvm.Cond.code ({ cls := "java/lang/String", name := "indexOf", desc := "(I)I" } : Jvm.MethodName) prog_13_method_79_code (2 : Nat) (Option.some Jvm.ClassFile.FieldType.int)) ∈ am_Tg := am_in_t 636 tq_636 rfl
theorem tw_637 : (Jvm.Cond.methodLink "java/lang/String" (633 : Nat) ({ cls := "java/lang/String", name := "indexOf", desc := "(II)I" } : Jvm.MethodName)) ∈ am_Tg := am_in_t 637 tq_637 rfl
theorem tw_638 : (Jvm.Cond.instanceMethod ({ cls := "java/lang/String", name := "indexOf", desc := "(II)I" } : Jvm.MethodName)) ∈ am_Tg := am_in_t 638 tq_638 rfl
theorem tw_639 : (Jvm.Cond.selects "java/lang/String" ({ cls := "java/lang/String", name := "indexOf", desc := "(II)I" } : Jvm.MethodName) ({ cls := "java/lang/String", name := "indexOf", desc := "(II)I" } : Jvm.MethodName)) ∈ am_Tg := am_in_t 639 tq_639 rfl
theorem tw_640 : (Jvm.Cond.code ({ cls := "java/lang/String", name := "indexOf", desc := "(II)I" } : Jvm.MethodName) prog_13_method_80_code (3 : Nat) (Option.some Jvm.ClassFile.FieldType.int)) ∈ am_Tg := am_in_t 640 tq_640 rfl
theorem tw_641 : (Jvm.Cond.methodLink "java/lang/String" (505 : Nat) ({ cls := "java/lang/String", name := "length", desc := "()I" } : Jvm.MethodName)) ∈ am_Tg := am_in_t 641 tq_641 rfl
theorem tw_642 : (Jvm.Cond.methodLink "java/lang/String" (637 : Nat) ({ cls := "java/lang/StringLatin1", name := "indexOf", desc := "([BIII)I" } : Jvm.MethodName)) ∈ am_Tg := am_in_t 642 tq_642 rfl
theorem tw_643 : (Jvm.Cond.static ({ cls := "java/lang/StringLatin1", name := "indexOf", desc := "([BIII)I" } : Jvm.MethodName)) ∈ am_Tg := am_in_t 643 tq_643 rfl
theorem tw_644 : (Jvm.Cond.code ({ cls := "java/lang/StringLatin1", name := "indexOf", desc := "([BIII)I" } : Jvm.MethodName) prog_14_method_22_code (4 : Nat) (Option.some Jvm.ClassFile.FieldType.int)) ∈ am_Tg := am_in_t 644 tq_644 rfl
theorem tw_645 : (Jvm.Cond.methodLink "java/lang/StringLatin1" (88 : Nat) ({ cls := "java/lang/StringLatin1", name := "canEncode", desc := "(I)Z" } : Jvm.MethodName)) ∈ am_Tg := am_in_t 645 tq_645 rfl
theorem tw_646 : (Jvm.Cond.static ({ cls := "java/lang/StringLatin1", name := "canEncode", desc := "(I)Z" } : Jvm.MethodName)) ∈ am_Tg := am_in_t 646 tq_646 rfl
theorem tw_647 : (Jvm.Cond.code ({ cls := "java/lang/StringLatin1", name := "canEncode", desc := "(I)Z" } : Jvm.MethodName) prog_14_method_4_code (1 : Nat) (Option.some Jvm.ClassFile.FieldType.boolean)) ∈ am_Tg := am_in_t 647 tq_647 rfl
theorem tw_648 : (Jvm.Cond.methodLink "java/lang/StringLatin1" (92 : Nat) ({ cls := "java/lang/Math", name := "max", desc := "(II)I" } : Jvm.MethodName)) ∈ am_Tg := am_in_t 648 tq_648 rfl
theorem tw_649 : (Jvm.Cond.methodLink "java/lang/StringLatin1" (38 : Nat) ({ cls := "java/lang/Math", name := "min", desc := "(II)I" } : Jvm.MethodName)) ∈ am_Tg := am_in_t 649 tq_649 rfl
theorem tw_650 : (Jvm.Cond.methodLink "java/lang/StringLatin1" (95 : Nat) ({ cls := "java/lang/StringLatin1", name := "indexOfChar", desc := "([BIII)I" } : Jvm.MethodName)) ∈ am_Tg := am_in_t 650 tq_650 rfl
theorem tw_651 : (Jvm.Cond.static ({ cls := "java/lang/StringLatin1", name := "indexOfChar", desc := "([BIII)I" } : Jvm.MethodName)) ∈ am_Tg := am_in_t 651 tq_651 rfl
theorem tw_652 : (Jvm.Cond.code ({ cls := "java/lang/StringLatin1", name := "indexOfChar", desc := "([BIII)I" } : Jvm.MethodName) prog_14_method_23_code (6 : Nat) (Option.some Jvm.ClassFile.FieldType.int)) ∈ am_Tg := am_in_t 652 tq_652 rfl
theorem tw_688 : (Jvm.Cond.methodLink "SandRipples$Reader" (81 : Nat) ({ cls := "SandRipples$Reader", name := "waits", desc := "(I)Z" } : Jvm.MethodName)) ∈ am_Tg := am_in_t 688 tq_688 rfl
theorem tw_690 : (Jvm.Cond.instanceMethod ({ cls := "SandRipples$Reader", name := "waits", desc := "(I)Z" } : Jvm.MethodName)) ∈ am_Tg := am_in_t 690 tq_690 rfl
theorem tw_691 : (Jvm.Cond.code ({ cls := "SandRipples$Reader", name := "waits", desc := "(I)Z" } : Jvm.MethodName) prog_3_method_13_code (2 : Nat) (Option.some Jvm.ClassFile.FieldType.boolean)) ∈ am_Tg := am_in_t 691 tq_691 rfl
theorem tw_692 : (Jvm.Cond.methodLink "SandRipples$Reader" (62 : Nat) ({ cls := "SandRipples$Reader", name := "takesSign", desc := "(I)Z" } : Jvm.MethodName)) ∈ am_Tg := am_in_t 692 tq_692 rfl
theorem tw_694 : (Jvm.Cond.instanceMethod ({ cls := "SandRipples$Reader", name := "takesSign", desc := "(I)Z" } : Jvm.MethodName)) ∈ am_Tg := am_in_t 694 tq_694 rfl
theorem tw_695 : (Jvm.Cond.code ({ cls := "SandRipples$Reader", name := "takesSign", desc := "(I)Z" } : Jvm.MethodName) prog_3_method_9_code (4 : Nat) (Option.some Jvm.ClassFile.FieldType.boolean)) ∈ am_Tg := am_in_t 695 tq_695 rfl
theorem tw_696 : (Jvm.Cond.methodLink "SandRipples$Reader" (104 : Nat) ({ cls := "SandRipples$Reader", name := "closesBracket", desc := "()Z" } : Jvm.MethodName)) ∈ am_Tg := am_in_t 696 tq_696 rfl
theorem tw_698 : (Jvm.Cond.instanceMethod ({ cls := "SandRipples$Reader", name := "closesBracket", desc := "()Z" } : Jvm.MethodName)) ∈ am_Tg := am_in_t 698 tq_698 rfl
theorem tw_699 : (Jvm.Cond.code ({ cls := "SandRipples$Reader", name := "closesBracket", desc := "()Z" } : Jvm.MethodName) prog_3_method_10_code (1 : Nat) (Option.some Jvm.ClassFile.FieldType.boolean)) ∈ am_Tg := am_in_t 699 tq_699 rfl
theorem tw_700 : (Jvm.Cond.methodLink "SandRipples$Reader" (110 : Nat) ({ cls := "SandRipples$Reader", name := "putThoseAbove", desc := "(I)V" } : Jvm.MethodName)) ∈ am_Tg := am_in_t 700 tq_700 rfl
theorem tw_702 : (Jvm.Cond.instanceMethod ({ cls := "SandRipples$Reader", name := "putThoseAbove", desc := "(I)V" } : Jvm.MethodName)) ∈ am_Tg := am_in_t 702 tq_702 rfl
theorem tw_703 : (Jvm.Cond.code ({ cls := "SandRipples$Reader", name := "putThoseAbove", desc := "(I)V" } : Jvm.MethodName) prog_3_method_12_code (2 : Nat) (Option.none : Option Jvm.ClassFile.FieldType)) ∈ am_Tg := am_in_t 703 tq_703 rfl
theorem tw_704 : (Jvm.Cond.methodLink "SandRipples$Reader" (107 : Nat) ({ cls := "SandRipples$Reader", name := "rankOf", desc := "(I)I" } : Jvm.MethodName)) ∈ am_Tg := am_in_t 704 tq_704 rfl
theorem tw_705 : (Jvm.Cond.static ({ cls := "SandRipples$Reader", name := "rankOf", desc := "(I)I" } : Jvm.MethodName)) ∈ am_Tg := am_in_t 705 tq_705 rfl
theorem tw_706 : (Jvm.Cond.code ({ cls := "SandRipples$Reader", name := "rankOf", desc := "(I)I" } : Jvm.MethodName) prog_3_method_15_code (1 : Nat) (Option.some Jvm.ClassFile.FieldType.int)) ∈ am_Tg := am_in_t 706 tq_706 rfl
theorem tw_707 : (Jvm.Cond.methodLink "SandRipples$Reader" (65 : Nat) ({ cls := "SandRipples$Reader", name := "endsHere", desc := "()Z" } : Jvm.MethodName)) ∈ am_Tg := am_in_t 707 tq_707 rfl
theorem tw_709 : (Jvm.Cond.instanceMethod ({ cls := "SandRipples$Reader", name := "endsHere", desc := "()Z" } : Jvm.MethodName)) ∈ am_Tg := am_in_t 709 tq_709 rfl
theorem tw_710 : (Jvm.Cond.code ({ cls := "SandRipples$Reader", name := "endsHere", desc := "()Z" } : Jvm.MethodName) prog_3_method_11_code (1 : Nat) (Option.some Jvm.ClassFile.FieldType.boolean)) ∈ am_Tg := am_in_t 710 tq_710 rfl
theorem tw_713 : (Jvm.Cond.instanceMethod ({ cls := "SandRipples$Text", name := "take", desc := "(LSandRipples$Reader;)V" } : Jvm.MethodName)) ∈ am_Tg := am_in_t 713 tq_713 rfl
theorem tw_714 : (Jvm.Cond.code ({ cls := "SandRipples$Text", name := "take", desc := "(LSandRipples$Reader;)V" } : Jvm.MethodName) prog_6_method_2_code (2 : Nat) (Option.none : Option Jvm.ClassFile.FieldType)) ∈ am_Tg := am_in_t 714 tq_714 rfl
theorem tw_715 : (Jvm.Cond.methodLink "SandRipples$Text" (31 : Nat) ({ cls := "java/lang/System", name := "arraycopy", desc := "(Ljava/lang/Object;ILjava/lang/Object;II)V" } : Jvm.MethodName)) ∈ am_Tg := am_in_t 715 tq_715 rfl
theorem tw_717 : (Jvm.Cond.methodLink "SandRipplesLaw" (121 : Nat) ({ cls := "SandRipples", name := "textTold", desc := "(II)I" } : Jvm.MethodName)) ∈ am_Tg := am_in_t 717 tq_717 rfl
theorem tw_718 : (Jvm.Cond.instanceMethod ({ cls := "SandRipples", name := "textTold", desc := "(II)I" } : Jvm.MethodName)) ∈ am_Tg := am_in_t 718 tq_718 rfl
theorem tw_719 : (Jvm.Cond.selects "SandRipples" ({ cls := "SandRipples", name := "textTold", desc := "(II)I" } : Jvm.MethodName) ({ cls := "SandRipples", name := "textTold", desc := "(II)I" } : Jvm.MethodName)) ∈ am_Tg := am_in_t 719 tq_719 rfl
theorem tw_720 : (Jvm.Cond.code ({ cls := "SandRipples", name := "textTold", desc := "(II)I" } : Jvm.MethodName) prog_1_method_28_code (3 : Nat) (Option.some Jvm.ClassFile.FieldType.int)) ∈ am_Tg := am_in_t 720 tq_720 rfl
theorem tw_721 : (Jvm.Cond.methodLink "SandRipplesLaw" (125 : Nat) ({ cls := "SandRipples", name := "why", desc := "(I)I" } : Jvm.MethodName)) ∈ am_Tg := am_in_t 721 tq_721 rfl
theorem tw_722 : (Jvm.Cond.instanceMethod ({ cls := "SandRipples", name := "why", desc := "(I)I" } : Jvm.MethodName)) ∈ am_Tg := am_in_t 722 tq_722 rfl
theorem tw_723 : (Jvm.Cond.selects "SandRipples" ({ cls := "SandRipples", name := "why", desc := "(I)I" } : Jvm.MethodName) ({ cls := "SandRipples", name := "why", desc := "(I)I" } : Jvm.MethodName)) ∈ am_Tg := am_in_t 723 tq_723 rfl
theorem tw_724 : (Jvm.Cond.code ({ cls := "SandRipples", name := "why", desc := "(I)I" } : Jvm.MethodName) prog_1_method_29_code (2 : Nat) (Option.some Jvm.ClassFile.FieldType.int)) ∈ am_Tg := am_in_t 724 tq_724 rfl
theorem tw_725 : (Jvm.Cond.methodLink "SandRipplesLaw" (129 : Nat) ({ cls := "SandRipples", name := "sheet", desc := "(III)I" } : Jvm.MethodName)) ∈ am_Tg := am_in_t 725 tq_725 rfl
theorem tw_726 : (Jvm.Cond.instanceMethod ({ cls := "SandRipples", name := "sheet", desc := "(III)I" } : Jvm.MethodName)) ∈ am_Tg := am_in_t 726 tq_726 rfl
theorem tw_727 : (Jvm.Cond.selects "SandRipples" ({ cls := "SandRipples", name := "sheet", desc := "(III)I" } : Jvm.MethodName) ({ cls := "SandRipples", name := "sheet", desc := "(III)I" } : Jvm.MethodName)) ∈ am_Tg := am_in_t 727 tq_727 rfl
theorem tw_728 : (Jvm.Cond.code ({ cls := "SandRipples", name := "sheet", desc := "(III)I" } : Jvm.MethodName) prog_1_method_30_code (4 : Nat) (Option.some Jvm.ClassFile.FieldType.int)) ∈ am_Tg := am_in_t 728 tq_728 rfl
theorem tw_731 : (Jvm.Cond.instanceMethod ({ cls := "SandRipples$Sheet", name := "begin", desc := "(II)V" } : Jvm.MethodName)) ∈ am_Tg := am_in_t 731 tq_731 rfl
theorem tw_732 : (Jvm.Cond.code ({ cls := "SandRipples$Sheet", name := "begin", desc := "(II)V" } : Jvm.MethodName) prog_4_method_2_code (4 : Nat) (Option.none : Option Jvm.ClassFile.FieldType)) ∈ am_Tg := am_in_t 732 tq_732 rfl
theorem tw_733 : (Jvm.Cond.constant "SandRipples" (240 : Nat) (-1000000014 : Int32)) ∈ am_Tg := am_in_t 733 tq_733 rfl
theorem tw_734 : (Jvm.Cond.methodLink "SandRipplesLaw" (133 : Nat) ({ cls := "SandRipples", name := "mark", desc := "(III)I" } : Jvm.MethodName)) ∈ am_Tg := am_in_t 734 tq_734 rfl
theorem tw_735 : (Jvm.Cond.instanceMethod ({ cls := "SandRipples", name := "mark", desc := "(III)I" } : Jvm.MethodName)) ∈ am_Tg := am_in_t 735 tq_735 rfl
theorem tw_736 : (Jvm.Cond.selects "SandRipples" ({ cls := "SandRipples", name := "mark", desc := "(III)I" } : Jvm.MethodName) ({ cls := "SandRipples", name := "mark", desc := "(III)I" } : Jvm.MethodName)) ∈ am_Tg := am_in_t 736 tq_736 rfl
theorem tw_737 : (Jvm.Cond.code ({ cls := "SandRipples", name := "mark", desc := "(III)I" } : Jvm.MethodName) prog_1_method_31_code (5 : Nat) (Option.some Jvm.ClassFile.FieldType.int)) ∈ am_Tg := am_in_t 737 tq_737 rfl
theorem tw_739 : (Jvm.Cond.constant "SandRipples" (244 : Nat) (-1000000013 : Int32)) ∈ am_Tg := am_in_t 739 tq_739 rfl
theorem tw_740 : (Jvm.Cond.constant "SandRipples" (248 : Nat) (-99999 : Int32)) ∈ am_Tg := am_in_t 740 tq_740 rfl
theorem tw_741 : (Jvm.Cond.constant "SandRipples" (249 : Nat) (99999 : Int32)) ∈ am_Tg := am_in_t 741 tq_741 rfl
theorem tw_742 : (Jvm.Cond.methodLink "SandRipplesLaw" (137 : Nat) ({ cls := "SandRipples", name := "pour", desc := "(II)I" } : Jvm.MethodName)) ∈ am_Tg := am_in_t 742 tq_742 rfl
theorem tw_743 : (Jvm.Cond.instanceMethod ({ cls := "SandRipples", name := "pour", desc := "(II)I" } : Jvm.MethodName)) ∈ am_Tg := am_in_t 743 tq_743 rfl
theorem tw_744 : (Jvm.Cond.selects "SandRipples" ({ cls := "SandRipples", name := "pour", desc := "(II)I" } : Jvm.MethodName) ({ cls := "SandRipples", name := "pour", desc := "(II)I" } : Jvm.MethodName)) ∈ am_Tg := am_in_t 744 tq_744 rfl
theorem tw_745 : (Jvm.Cond.code ({ cls := "SandRipples", name := "pour", desc := "(II)I" } : Jvm.MethodName) prog_1_method_32_code (8 : Nat) (Option.some Jvm.ClassFile.FieldType.int)) ∈ am_Tg := am_in_t 745 tq_745 rfl
theorem tw_747 : (Jvm.Cond.methodLink "SandRipplesLaw" (141 : Nat) ({ cls := "SandRipples", name := "reads", desc := "(II)I" } : Jvm.MethodName)) ∈ am_Tg := am_in_t 747 tq_747 rfl
theorem tw_748 : (Jvm.Cond.instanceMethod ({ cls := "SandRipples", name := "reads", desc := "(II)I" } : Jvm.MethodName)) ∈ am_Tg := am_in_t 748 tq_748 rfl
theorem tw_749 : (Jvm.Cond.selects "SandRipples" ({ cls := "SandRipples", name := "reads", desc := "(II)I" } : Jvm.MethodName) ({ cls := "SandRipples", name := "reads", desc := "(II)I" } : Jvm.MethodName)) ∈ am_Tg := am_in_t 749 tq_749 rfl
theorem tw_750 : (Jvm.Cond.code ({ cls := "SandRipples", name := "reads", desc := "(II)I" } : Jvm.MethodName) prog_1_method_33_code (6 : Nat) (Option.some Jvm.ClassFile.FieldType.int)) ∈ am_Tg := am_in_t 750 tq_750 rfl
theorem tw_751 : (Jvm.Cond.methodLink "SandRipplesLaw" (145 : Nat) ({ cls := "SandRipples", name := "copy", desc := "(IIIII)I" } : Jvm.MethodName)) ∈ am_Tg := am_in_t 751 tq_751 rfl
theorem tw_752 : (Jvm.Cond.instanceMethod ({ cls := "SandRipples", name := "copy", desc := "(IIIII)I" } : Jvm.MethodName)) ∈ am_Tg := am_in_t 752 tq_752 rfl
theorem tw_753 : (Jvm.Cond.selects "SandRipples" ({ cls := "SandRipples", name := "copy", desc := "(IIIII)I" } : Jvm.MethodName) ({ cls := "SandRipples", name := "copy", desc := "(IIIII)I" } : Jvm.MethodName)) ∈ am_Tg := am_in_t 753 tq_753 rfl
theorem tw_754 : (Jvm.Cond.code ({ cls := "SandRipples", name := "copy", desc := "(IIIII)I" } : Jvm.MethodName) prog_1_method_34_code (8 : Nat) (Option.some Jvm.ClassFile.FieldType.int)) ∈ am_Tg := am_in_t 754 tq_754 rfl
theorem tw_757 : (Jvm.Cond.instanceMethod ({ cls := "SandRipples$Sheet", name := "hasStretch", desc := "(II)Z" } : Jvm.MethodName)) ∈ am_Tg := am_in_t 757 tq_757 rfl
theorem tw_758 : (Jvm.Cond.code ({ cls := "SandRipples$Sheet", name := "hasStretch", desc := "(II)Z" } : Jvm.MethodName) prog_4_method_5_code (3 : Nat) (Option.some Jvm.ClassFile.FieldType.boolean)) ∈ am_Tg := am_in_t 758 tq_758 rfl
theorem tw_759 : (Jvm.Cond.methodLink "SandRipples" (260 : Nat) ({ cls := "java/lang/System", name := "arraycopy", desc := "(Ljava/lang/Object;ILjava/lang/Object;II)V" } : Jvm.MethodName)) ∈ am_Tg := am_in_t 759 tq_759 rfl
theorem tw_760 : (Jvm.Cond.methodLink "SandRipplesLaw" (150 : Nat) ({ cls := "SandRipples", name := "lay", desc := "(III)I" } : Jvm.MethodName)) ∈ am_Tg := am_in_t 760 tq_760 rfl
theorem tw_761 : (Jvm.Cond.instanceMethod ({ cls := "SandRipples", name := "lay", desc := "(III)I" } : Jvm.MethodName)) ∈ am_Tg := am_in_t 761 tq_761 rfl
theorem tw_762 : (Jvm.Cond.selects "SandRipples" ({ cls := "SandRipples", name := "lay", desc := "(III)I" } : Jvm.MethodName) ({ cls := "SandRipples", name := "lay", desc := "(III)I" } : Jvm.MethodName)) ∈ am_Tg := am_in_t 762 tq_762 rfl
theorem tw_763 : (Jvm.Cond.code ({ cls := "SandRipples", name := "lay", desc := "(III)I" } : Jvm.MethodName) prog_1_method_35_code (6 : Nat) (Option.some Jvm.ClassFile.FieldType.int)) ∈ am_Tg := am_in_t 763 tq_763 rfl
theorem tw_764 : (Jvm.Cond.methodLink "SandRipples" (266 : Nat) ({ cls := "SandRipples", name := "isSlot", desc := "(I)Z" } : Jvm.MethodName)) ∈ am_Tg := am_in_t 764 tq_764 rfl
theorem tw_765 : (Jvm.Cond.static ({ cls := "SandRipples", name := "isSlot", desc := "(I)Z" } : Jvm.MethodName)) ∈ am_Tg := am_in_t 765 tq_765 rfl
theorem tw_766 : (Jvm.Cond.code ({ cls := "SandRipples", name := "isSlot", desc := "(I)Z" } : Jvm.MethodName) prog_1_method_47_code (1 : Nat) (Option.some Jvm.ClassFile.FieldType.boolean)) ∈ am_Tg := am_in_t 766 tq_766 rfl
theorem tw_769 : (Jvm.Cond.instanceMethod ({ cls := "SandRipples$Sheet", name := "become", desc := "(LSandRipples$Sheet;)V" } : Jvm.MethodName)) ∈ am_Tg := am_in_t 769 tq_769 rfl
theorem tw_770 : (Jvm.Cond.code ({ cls := "SandRipples$Sheet", name := "become", desc := "(LSandRipples$Sheet;)V" } : Jvm.MethodName) prog_4_method_3_code (2 : Nat) (Option.none : Option Jvm.ClassFile.FieldType)) ∈ am_Tg := am_in_t 770 tq_770 rfl
theorem tw_771 : (Jvm.Cond.methodLink "SandRipples$Sheet" (22 : Nat) ({ cls := "java/lang/System", name := "arraycopy", desc := "(Ljava/lang/Object;ILjava/lang/Object;II)V" } : Jvm.MethodName)) ∈ am_Tg := am_in_t 771 tq_771 rfl
theorem tw_772 : (Jvm.Cond.methodLink "SandRipplesLaw" (154 : Nat) ({ cls := "SandRipples", name := "ask", desc := "(II)I" } : Jvm.MethodName)) ∈ am_Tg := am_in_t 772 tq_772 rfl
theorem tw_773 : (Jvm.Cond.instanceMethod ({ cls := "SandRipples", name := "ask", desc := "(II)I" } : Jvm.MethodName)) ∈ am_Tg := am_in_t 773 tq_773 rfl
theorem tw_774 : (Jvm.Cond.selects "SandRipples" ({ cls := "SandRipples", name := "ask", desc := "(II)I" } : Jvm.MethodName) ({ cls := "SandRipples", name := "ask", desc := "(II)I" } : Jvm.MethodName)) ∈ am_Tg := am_in_t 774 tq_774 rfl
theorem tw_775 : (Jvm.Cond.code ({ cls := "SandRipples", name := "ask", desc := "(II)I" } : Jvm.MethodName) prog_1_method_36_code (4 : Nat) (Option.some Jvm.ClassFile.FieldType.int)) ∈ am_Tg := am_in_t 775 tq_775 rfl
theorem tw_776 : (Jvm.Cond.methodLink "SandRipplesLaw" (158 : Nat) ({ cls := "SandRipples", name := "item", desc := "(II)I" } : Jvm.MethodName)) ∈ am_Tg := am_in_t 776 tq_776 rfl
theorem tw_777 : (Jvm.Cond.instanceMethod ({ cls := "SandRipples", name := "item", desc := "(II)I" } : Jvm.MethodName)) ∈ am_Tg := am_in_t 777 tq_777 rfl
theorem tw_778 : (Jvm.Cond.selects "SandRipples" ({ cls := "SandRipples", name := "item", desc := "(II)I" } : Jvm.MethodName) ({ cls := "SandRipples", name := "item", desc := "(II)I" } : Jvm.MethodName)) ∈ am_Tg := am_in_t 778 tq_778 rfl
theorem tw_779 : (Jvm.Cond.code ({ cls := "SandRipples", name := "item", desc := "(II)I" } : Jvm.MethodName) prog_1_method_37_code (4 : Nat) (Option.some Jvm.ClassFile.FieldType.int)) ∈ am_Tg := am_in_t 779 tq_779 rfl
theorem tw_780 : (Jvm.Cond.methodLink "SandRipplesLaw" (162 : Nat) ({ cls := "SandRipples", name := "rest", desc := "(II)I" } : Jvm.MethodName)) ∈ am_Tg := am_in_t 780 tq_780 rfl
theorem tw_781 : (Jvm.Cond.instanceMethod ({ cls := "SandRipples", name := "rest", desc := "(II)I" } : Jvm.MethodName)) ∈ am_Tg := am_in_t 781 tq_781 rfl
theorem tw_782 : (Jvm.Cond.selects "SandRipples" ({ cls := "SandRipples", name := "rest", desc := "(II)I" } : Jvm.MethodName) ({ cls := "SandRipples", name := "rest", desc := "(II)I" } : Jvm.MethodName)) ∈ am_Tg := am_in_t 782 tq_782 rfl
theorem tw_783 : (Jvm.Cond.code ({ cls := "SandRipples", name := "rest", desc := "(II)I" } : Jvm.MethodName) prog_1_method_38_code (4 : Nat) (Option.some Jvm.ClassFile.FieldType.int)) ∈ am_Tg := am_in_t 783 tq_783 rfl
theorem tw_784 : (Jvm.Cond.constant "SandRipples" (290 : Nat) (-1000000002 : Int32)) ∈ am_Tg := am_in_t 784 tq_784 rfl
theorem tw_785 : (Jvm.Cond.methodLink "SandRipplesLaw" (166 : Nat) ({ cls := "SandRipples", name := "tell", desc := "(I)I" } : Jvm.MethodName)) ∈ am_Tg := am_in_t 785 tq_785 rfl
theorem tw_786 : (Jvm.Cond.instanceMethod ({ cls := "SandRipples", name := "tell", desc := "(I)I" } : Jvm.MethodName)) ∈ am_Tg := am_in_t 786 tq_786 rfl
theorem tw_787 : (Jvm.Cond.selects "SandRipples" ({ cls := "SandRipples", name := "tell", desc := "(I)I" } : Jvm.MethodName) ({ cls := "SandRipples", name := "tell", desc := "(I)I" } : Jvm.MethodName)) ∈ am_Tg := am_in_t 787 tq_787 rfl
theorem tw_788 : (Jvm.Cond.code ({ cls := "SandRipples", name := "tell", desc := "(I)I" } : Jvm.MethodName) prog_1_method_39_code (2 : Nat) (Option.some Jvm.ClassFile.FieldType.int)) ∈ am_Tg := am_in_t 788 tq_788 rfl
theorem tw_789 : (Jvm.Cond.methodLink "SandRipplesLaw" (170 : Nat) ({ cls := "SandRipples", name := "check", desc := "(II)I" } : Jvm.MethodName)) ∈ am_Tg := am_in_t 789 tq_789 rfl
theorem tw_790 : (Jvm.Cond.instanceMethod ({ cls := "SandRipples", name := "check", desc := "(II)I" } : Jvm.MethodName)) ∈ am_Tg := am_in_t 790 tq_790 rfl
theorem tw_791 : (Jvm.Cond.selects "SandRipples" ({ cls := "SandRipples", name := "check", desc := "(II)I" } : Jvm.MethodName) ({ cls := "SandRipples", name := "check", desc := "(II)I" } : Jvm.MethodName)) ∈ am_Tg := am_in_t 791 tq_791 rfl
theorem tw_792 : (Jvm.Cond.code ({ cls := "SandRipples", name := "check", desc := "(II)I" } : Jvm.MethodName) prog_1_method_40_code (7 : Nat) (Option.some Jvm.ClassFile.FieldType.int)) ∈ am_Tg := am_in_t 792 tq_792 rfl
theorem tw_793 : (Jvm.Cond.methodLink "SandRipples" (291 : Nat) ({ cls := "SandRipples", name := "isTold", desc := "(III)Z" } : Jvm.MethodName)) ∈ am_Tg := am_in_t 793 tq_793 rfl
theorem tw_795 : (Jvm.Cond.instanceMethod ({ cls := "SandRipples", name := "isTold", desc := "(III)Z" } : Jvm.MethodName)) ∈ am_Tg := am_in_t 795 tq_795 rfl
theorem tw_796 : (Jvm.Cond.code ({ cls := "SandRipples", name := "isTold", desc := "(III)Z" } : Jvm.MethodName) prog_1_method_50_code (4 : Nat) (Option.some Jvm.ClassFile.FieldType.boolean)) ∈ am_Tg := am_in_t 796 tq_796 rfl
theorem tw_797 : (Jvm.Cond.methodLink "SandRipplesLaw" (174 : Nat) ({ cls := "SandRipples", name := "keep", desc := "()I" } : Jvm.MethodName)) ∈ am_Tg := am_in_t 797 tq_797 rfl
theorem tw_798 : (Jvm.Cond.instanceMethod ({ cls := "SandRipples", name := "keep", desc := "()I" } : Jvm.MethodName)) ∈ am_Tg := am_in_t 798 tq_798 rfl
theorem tw_799 : (Jvm.Cond.selects "SandRipples" ({ cls := "SandRipples", name := "keep", desc := "()I" } : Jvm.MethodName) ({ cls := "SandRipples", name := "keep", desc := "()I" } : Jvm.MethodName)) ∈ am_Tg := am_in_t 799 tq_799 rfl
theorem tw_800 : (Jvm.Cond.code ({ cls := "SandRipples", name := "keep", desc := "()I" } : Jvm.MethodName) prog_1_method_41_code (1 : Nat) (Option.some Jvm.ClassFile.FieldType.int)) ∈ am_Tg := am_in_t 800 tq_800 rfl
theorem tw_803 : (Jvm.Cond.instanceMethod ({ cls := "SandRipples$World", name := "becomeAll", desc := "(LSandRipples$World;)V" } : Jvm.MethodName)) ∈ am_Tg := am_in_t 803 tq_803 rfl
theorem tw_804 : (Jvm.Cond.code ({ cls := "SandRipples$World", name := "becomeAll", desc := "(LSandRipples$World;)V" } : Jvm.MethodName) prog_7_method_2_code (3 : Nat) (Option.none : Option Jvm.ClassFile.FieldType)) ∈ am_Tg := am_in_t 804 tq_804 rfl
theorem tw_805 : (Jvm.Cond.methodLink "SandRipples$World" (42 : Nat) ({ cls := "SandRipples$World", name := "becomeSea", desc := "(LSandRipples$World;)V" } : Jvm.MethodName)) ∈ am_Tg := am_in_t 805 tq_805 rfl
theorem tw_807 : (Jvm.Cond.methodLink "SandRipplesLaw" (178 : Nat) ({ cls := "SandRipples", name := "back", desc := "()I" } : Jvm.MethodName)) ∈ am_Tg := am_in_t 807 tq_807 rfl
theorem tw_808 : (Jvm.Cond.instanceMethod ({ cls := "SandRipples", name := "back", desc := "()I" } : Jvm.MethodName)) ∈ am_Tg := am_in_t 808 tq_808 rfl
theorem tw_809 : (Jvm.Cond.selects "SandRipples" ({ cls := "SandRipples", name := "back", desc := "()I" } : Jvm.MethodName) ({ cls := "SandRipples", name := "back", desc := "()I" } : Jvm.MethodName)) ∈ am_Tg := am_in_t 809 tq_809 rfl
theorem tw_810 : (Jvm.Cond.code ({ cls := "SandRipples", name := "back", desc := "()I" } : Jvm.MethodName) prog_1_method_42_code (1 : Nat) (Option.some Jvm.ClassFile.FieldType.int)) ∈ am_Tg := am_in_t 810 tq_810 rfl
theorem tw_811 : (Jvm.Cond.methodLink "SandRipplesLaw" (182 : Nat) ({ cls := "SandRipples", name := "count", desc := "(I)I" } : Jvm.MethodName)) ∈ am_Tg := am_in_t 811 tq_811 rfl
theorem tw_812 : (Jvm.Cond.instanceMethod ({ cls := "SandRipples", name := "count", desc := "(I)I" } : Jvm.MethodName)) ∈ am_Tg := am_in_t 812 tq_812 rfl
theorem tw_813 : (Jvm.Cond.selects "SandRipples" ({ cls := "SandRipples", name := "count", desc := "(I)I" } : Jvm.MethodName) ({ cls := "SandRipples", name := "count", desc := "(I)I" } : Jvm.MethodName)) ∈ am_Tg := am_in_t 813 tq_813 rfl
theorem tw_814 : (Jvm.Cond.code ({ cls := "SandRipples", name := "count", desc := "(I)I" } : Jvm.MethodName) prog_1_method_43_code (2 : Nat) (Option.some Jvm.ClassFile.FieldType.int)) ∈ am_Tg := am_in_t 814 tq_814 rfl
theorem tw_816 : (Jvm.Cond.instantiable "SandRipplesModel" (34 : Nat)) ∈ am_Tg := am_in_t 816 tq_816 rfl
theorem tw_821 : (Jvm.Cond.fieldLink "SandRipplesModel" (9 : Nat) "SandRipplesModel" "now" "[I") ∈ am_Tg := am_in_t 821 tq_821 rfl
theorem tw_822 : (Jvm.Cond.fieldLink "SandRipplesModel" (13 : Nat) "SandRipplesModel" "image" "[I") ∈ am_Tg := am_in_t 822 tq_822 rfl
theorem tw_823 : (Jvm.Cond.fieldLink "SandRipplesModel" (16 : Nat) "SandRipplesModel" "aside" "[I") ∈ am_Tg := am_in_t 823 tq_823 rfl
theorem tw_824 : (Jvm.Cond.fieldLink "SandRipplesModel" (272 : Nat) "SandRipplesModel" "hasImage" "Z") ∈ am_Tg := am_in_t 824 tq_824 rfl
theorem tw_825 : (Jvm.Cond.fieldLink "SandRipplesModel" (19 : Nat) "SandRipplesModel" "lifts" "[I") ∈ am_Tg := am_in_t 825 tq_825 rfl
theorem tw_826 : (Jvm.Cond.fieldLink "SandRipplesModel" (22 : Nat) "SandRipplesModel" "before" "[I") ∈ am_Tg := am_in_t 826 tq_826 rfl
theorem tw_827 : (Jvm.Cond.fieldLink "SandRipplesModel" (25 : Nat) "SandRipplesModel" "tape" "[I") ∈ am_Tg := am_in_t 827 tq_827 rfl
theorem tw_828 : (Jvm.Cond.fieldLink "SandRipplesModel" (193 : Nat) "SandRipplesModel" "taped" "I") ∈ am_Tg := am_in_t 828 tq_828 rfl
theorem tw_829 : (Jvm.Cond.fieldLink "SandRipplesModel" (197 : Nat) "SandRipplesModel" "next" "I") ∈ am_Tg := am_in_t 829 tq_829 rfl
theorem tw_830 : (Jvm.Cond.fieldLink "SandRipplesModel" (200 : Nat) "SandRipplesModel" "from" "I") ∈ am_Tg := am_in_t 830 tq_830 rfl
theorem tw_831 : (Jvm.Cond.fieldLink "SandRipplesModel" (206 : Nat) "SandRipplesModel" "token" "I") ∈ am_Tg := am_in_t 831 tq_831 rfl
theorem tw_832 : (Jvm.Cond.fieldLink "SandRipplesModel" (212 : Nat) "SandRipplesModel" "value" "I") ∈ am_Tg := am_in_t 832 tq_832 rfl
theorem tw_833 : (Jvm.Cond.fieldLink "SandRipplesModel" (203 : Nat) "SandRipplesModel" "ended" "I") ∈ am_Tg := am_in_t 833 tq_833 rfl
theorem tw_834 : (Jvm.Cond.fieldLink "SandRipplesModel" (218 : Nat) "SandRipplesModel" "key" "I") ∈ am_Tg := am_in_t 834 tq_834 rfl
theorem tw_835 : (Jvm.Cond.fieldLink "SandRipplesModel" (28 : Nat) "SandRipplesModel" "keys" "[C") ∈ am_Tg := am_in_t 835 tq_835 rfl
theorem tw_836 : (Jvm.Cond.fieldLink "SandRipplesModel" (32 : Nat) "SandRipplesModel" "keyAt" "[I") ∈ am_Tg := am_in_t 836 tq_836 rfl
theorem tw_837 : (Jvm.Cond.fieldLink "SandRipplesModel" (35 : Nat) "SandRipplesModel" "code" "[I") ∈ am_Tg := am_in_t 837 tq_837 rfl
theorem tw_838 : (Jvm.Cond.fieldLink "SandRipplesModel" (230 : Nat) "SandRipplesModel" "codes" "I") ∈ am_Tg := am_in_t 838 tq_838 rfl
theorem tw_839 : (Jvm.Cond.fieldLink "SandRipplesModel" (236 : Nat) "SandRipplesModel" "atoms" "I") ∈ am_Tg := am_in_t 839 tq_839 rfl
theorem tw_840 : (Jvm.Cond.fieldLink "SandRipplesModel" (38 : Nat) "SandRipplesModel" "waits" "[I") ∈ am_Tg := am_in_t 840 tq_840 rfl
theorem tw_841 : (Jvm.Cond.fieldLink "SandRipplesModel" (224 : Nat) "SandRipplesModel" "held" "I") ∈ am_Tg := am_in_t 841 tq_841 rfl
theorem tw_842 : (Jvm.Cond.fieldLink "SandRipplesModel" (41 : Nat) "SandRipplesModel" "tested" "[Z") ∈ am_Tg := am_in_t 842 tq_842 rfl
theorem tw_843 : (Jvm.Cond.fieldLink "SandRipplesModel" (45 : Nat) "SandRipplesModel" "stack" "[I") ∈ am_Tg := am_in_t 843 tq_843 rfl
theorem tw_844 : (Jvm.Cond.fieldLink "SandRipplesModel" (48 : Nat) "SandRipplesModel" "facts" "[I") ∈ am_Tg := am_in_t 844 tq_844 rfl
theorem tw_845 : (Jvm.Cond.fieldLink "SandRipplesModel" (51 : Nat) "SandRipplesModel" "sorts" "[I") ∈ am_Tg := am_in_t 845 tq_845 rfl
theorem tw_846 : (Jvm.Cond.fieldLink "SandRipplesModel" (54 : Nat) "SandRipplesModel" "sizes" "[I") ∈ am_Tg := am_in_t 846 tq_846 rfl
theorem tw_847 : (Jvm.Cond.fieldLink "SandRipplesModel" (57 : Nat) "SandRipplesModel" "cells" "[I") ∈ am_Tg := am_in_t 847 tq_847 rfl
theorem tw_848 : (Jvm.Cond.fieldLink "SandRipplesModel" (60 : Nat) "SandRipplesModel" "holds" "[I") ∈ am_Tg := am_in_t 848 tq_848 rfl
theorem tw_849 : (Jvm.Cond.fieldLink "SandRipplesModel" (63 : Nat) "SandRipplesModel" "holdsA" "[I") ∈ am_Tg := am_in_t 849 tq_849 rfl
theorem tw_850 : (Jvm.Cond.fieldLink "SandRipplesModel" (66 : Nat) "SandRipplesModel" "holdsB" "[I") ∈ am_Tg := am_in_t 850 tq_850 rfl
theorem tw_851 : (Jvm.Cond.fieldLink "SandRipplesModel" (69 : Nat) "SandRipplesModel" "heldCells" "[I") ∈ am_Tg := am_in_t 851 tq_851 rfl
theorem tw_852 : (Jvm.Cond.fieldLink "SandRipplesModel" (72 : Nat) "SandRipplesModel" "moved" "[I") ∈ am_Tg := am_in_t 852 tq_852 rfl
theorem tw_853 : (Jvm.Cond.fieldLink "SandRipplesModel" (75 : Nat) "SandRipplesModel" "tells" "[I") ∈ am_Tg := am_in_t 853 tq_853 rfl
theorem tw_854 : (Jvm.Cond.fieldLink "SandRipplesModel" (269 : Nat) "SandRipplesModel" "waiting" "I") ∈ am_Tg := am_in_t 854 tq_854 rfl
theorem tw_926 : (Jvm.Cond.methodLink "SandRipplesLaw" (17 : Nat) ({ cls := "SandRipplesModel", name := "floor", desc := "(I)I" } : Jvm.MethodName)) ∈ am_Tg := am_in_t 926 tq_926 rfl
theorem tw_927 : (Jvm.Cond.instanceMethod ({ cls := "SandRipplesModel", name := "floor", desc := "(I)I" } : Jvm.MethodName)) ∈ am_Tg := am_in_t 927 tq_927 rfl
theorem tw_928 : (Jvm.Cond.selects "SandRipplesModel" ({ cls := "SandRipplesModel", name := "floor", desc := "(I)I" } : Jvm.MethodName) ({ cls := "SandRipplesModel", name := "floor", desc := "(I)I" } : Jvm.MethodName)) ∈ am_Tg := am_in_t 928 tq_928 rfl
theorem tw_929 : (Jvm.Cond.code ({ cls := "SandRipplesModel", name := "floor", desc := "(I)I" } : Jvm.MethodName) prog_9_method_12_code (4 : Nat) (Option.some Jvm.ClassFile.FieldType.int)) ∈ am_Tg := am_in_t 929 tq_929 rfl
theorem tw_930 : (Jvm.Cond.methodLink "SandRipplesModel" (78 : Nat) ({ cls := "SandRipplesModel", name := "in", desc := "(III)Z" } : Jvm.MethodName)) ∈ am_Tg := am_in_t 930 tq_930 rfl
theorem tw_931 : (Jvm.Cond.static ({ cls := "SandRipplesModel", name := "in", desc := "(III)Z" } : Jvm.MethodName)) ∈ am_Tg := am_in_t 931 tq_931 rfl
theorem tw_932 : (Jvm.Cond.code ({ cls := "SandRipplesModel", name := "in", desc := "(III)Z" } : Jvm.MethodName) prog_9_method_2_code (3 : Nat) (Option.some Jvm.ClassFile.FieldType.boolean)) ∈ am_Tg := am_in_t 932 tq_932 rfl
theorem tw_933 : (Jvm.Cond.constant "SandRipplesModel" (90 : Nat) (-1000000001 : Int32)) ∈ am_Tg := am_in_t 933 tq_933 rfl
theorem tw_934 : (Jvm.Cond.constant "SandRipplesModel" (91 : Nat) (-1000000003 : Int32)) ∈ am_Tg := am_in_t 934 tq_934 rfl
theorem tw_935 : (Jvm.Cond.methodLink "SandRipplesModel" (82 : Nat) ({ cls := "SandRipplesModel", name := "at", desc := "(I)I" } : Jvm.MethodName)) ∈ am_Tg := am_in_t 935 tq_935 rfl
theorem tw_936 : (Jvm.Cond.static ({ cls := "SandRipplesModel", name := "at", desc := "(I)I" } : Jvm.MethodName)) ∈ am_Tg := am_in_t 936 tq_936 rfl
theorem tw_937 : (Jvm.Cond.code ({ cls := "SandRipplesModel", name := "at", desc := "(I)I" } : Jvm.MethodName) prog_9_method_7_code (1 : Nat) (Option.some Jvm.ClassFile.FieldType.int)) ∈ am_Tg := am_in_t 937 tq_937 rfl
theorem tw_938 : (Jvm.Cond.methodLink "SandRipplesModel" (86 : Nat) ({ cls := "SandRipplesModel", name := "spot", desc := "(II)I" } : Jvm.MethodName)) ∈ am_Tg := am_in_t 938 tq_938 rfl
theorem tw_939 : (Jvm.Cond.static ({ cls := "SandRipplesModel", name := "spot", desc := "(II)I" } : Jvm.MethodName)) ∈ am_Tg := am_in_t 939 tq_939 rfl
theorem tw_940 : (Jvm.Cond.code ({ cls := "SandRipplesModel", name := "spot", desc := "(II)I" } : Jvm.MethodName) prog_9_method_10_code (2 : Nat) (Option.some Jvm.ClassFile.FieldType.int)) ∈ am_Tg := am_in_t 940 tq_940 rfl
theorem tw_941 : (Jvm.Cond.methodLink "SandRipplesLaw" (22 : Nat) ({ cls := "SandRipplesModel", name := "told", desc := "(II)I" } : Jvm.MethodName)) ∈ am_Tg := am_in_t 941 tq_941 rfl
theorem tw_942 : (Jvm.Cond.instanceMethod ({ cls := "SandRipplesModel", name := "told", desc := "(II)I" } : Jvm.MethodName)) ∈ am_Tg := am_in_t 942 tq_942 rfl
theorem tw_943 : (Jvm.Cond.selects "SandRipplesModel" ({ cls := "SandRipplesModel", name := "told", desc := "(II)I" } : Jvm.MethodName) ({ cls := "SandRipplesModel", name := "told", desc := "(II)I" } : Jvm.MethodName)) ∈ am_Tg := am_in_t 943 tq_943 rfl
theorem tw_944 : (Jvm.Cond.code ({ cls := "SandRipplesModel", name := "told", desc := "(II)I" } : Jvm.MethodName) prog_9_method_23_code (3 : Nat) (Option.some Jvm.ClassFile.FieldType.int)) ∈ am_Tg := am_in_t 944 tq_944 rfl
theorem tw_945 : (Jvm.Cond.methodLink "SandRipplesModel" (128 : Nat) ({ cls := "SandRipplesModel", name := "isFloor", desc := "(I)Z" } : Jvm.MethodName)) ∈ am_Tg := am_in_t 945 tq_945 rfl
theorem tw_947 : (Jvm.Cond.instanceMethod ({ cls := "SandRipplesModel", name := "isFloor", desc := "(I)Z" } : Jvm.MethodName)) ∈ am_Tg := am_in_t 947 tq_947 rfl
theorem tw_948 : (Jvm.Cond.code ({ cls := "SandRipplesModel", name := "isFloor", desc := "(I)Z" } : Jvm.MethodName) prog_9_method_5_code (2 : Nat) (Option.some Jvm.ClassFile.FieldType.boolean)) ∈ am_Tg := am_in_t 948 tq_948 rfl
theorem tw_949 : (Jvm.Cond.methodLink "SandRipplesModel" (92 : Nat) ({ cls := "SandRipplesModel", name := "kindOf", desc := "(I)I" } : Jvm.MethodName)) ∈ am_Tg := am_in_t 949 tq_949 rfl
theorem tw_951 : (Jvm.Cond.instanceMethod ({ cls := "SandRipplesModel", name := "kindOf", desc := "(I)I" } : Jvm.MethodName)) ∈ am_Tg := am_in_t 951 tq_951 rfl
theorem tw_952 : (Jvm.Cond.code ({ cls := "SandRipplesModel", name := "kindOf", desc := "(I)I" } : Jvm.MethodName) prog_9_method_8_code (2 : Nat) (Option.some Jvm.ClassFile.FieldType.int)) ∈ am_Tg := am_in_t 952 tq_952 rfl
theorem tw_953 : (Jvm.Cond.methodLink "SandRipplesModel" (99 : Nat) ({ cls := "SandRipplesModel", name := "tickOf", desc := "(I)I" } : Jvm.MethodName)) ∈ am_Tg := am_in_t 953 tq_953 rfl
theorem tw_955 : (Jvm.Cond.instanceMethod ({ cls := "SandRipplesModel", name := "tickOf", desc := "(I)I" } : Jvm.MethodName)) ∈ am_Tg := am_in_t 955 tq_955 rfl
theorem tw_956 : (Jvm.Cond.code ({ cls := "SandRipplesModel", name := "tickOf", desc := "(I)I" } : Jvm.MethodName) prog_9_method_9_code (2 : Nat) (Option.some Jvm.ClassFile.FieldType.int)) ∈ am_Tg := am_in_t 956 tq_956 rfl
theorem tw_957 : (Jvm.Cond.methodLink "SandRipplesModel" (125 : Nat) ({ cls := "SandRipplesModel", name := "sumOf", desc := "(I)I" } : Jvm.MethodName)) ∈ am_Tg := am_in_t 957 tq_957 rfl
theorem tw_959 : (Jvm.Cond.instanceMethod ({ cls := "SandRipplesModel", name := "sumOf", desc := "(I)I" } : Jvm.MethodName)) ∈ am_Tg := am_in_t 959 tq_959 rfl
theorem tw_960 : (Jvm.Cond.code ({ cls := "SandRipplesModel", name := "sumOf", desc := "(I)I" } : Jvm.MethodName) prog_9_method_19_code (4 : Nat) (Option.some Jvm.ClassFile.FieldType.int)) ∈ am_Tg := am_in_t 960 tq_960 rfl
theorem tw_961 : (Jvm.Cond.methodLink "SandRipplesModel" (102 : Nat) ({ cls := "SandRipplesModel", name := "sandOf", desc := "(II)I" } : Jvm.MethodName)) ∈ am_Tg := am_in_t 961 tq_961 rfl
theorem tw_963 : (Jvm.Cond.instanceMethod ({ cls := "SandRipplesModel", name := "sandOf", desc := "(II)I" } : Jvm.MethodName)) ∈ am_Tg := am_in_t 963 tq_963 rfl
theorem tw_964 : (Jvm.Cond.code ({ cls := "SandRipplesModel", name := "sandOf", desc := "(II)I" } : Jvm.MethodName) prog_9_method_11_code (3 : Nat) (Option.some Jvm.ClassFile.FieldType.int)) ∈ am_Tg := am_in_t 964 tq_964 rfl
theorem tw_965 : (Jvm.Cond.methodLink "SandRipplesModel" (115 : Nat) ({ cls := "SandRipplesModel", name := "extremeOf", desc := "(IZ)I" } : Jvm.MethodName)) ∈ am_Tg := am_in_t 965 tq_965 rfl
theorem tw_967 : (Jvm.Cond.instanceMethod ({ cls := "SandRipplesModel", name := "extremeOf", desc := "(IZ)I" } : Jvm.MethodName)) ∈ am_Tg := am_in_t 967 tq_967 rfl
theorem tw_968 : (Jvm.Cond.code ({ cls := "SandRipplesModel", name := "extremeOf", desc := "(IZ)I" } : Jvm.MethodName) prog_9_method_20_code (6 : Nat) (Option.some Jvm.ClassFile.FieldType.int)) ∈ am_Tg := am_in_t 968 tq_968 rfl
theorem tw_969 : (Jvm.Cond.methodLink "SandRipplesModel" (119 : Nat) ({ cls := "SandRipplesModel", name := "crestsOf", desc := "(I)I" } : Jvm.MethodName)) ∈ am_Tg := am_in_t 969 tq_969 rfl
theorem tw_971 : (Jvm.Cond.instanceMethod ({ cls := "SandRipplesModel", name := "crestsOf", desc := "(I)I" } : Jvm.MethodName)) ∈ am_Tg := am_in_t 971 tq_971 rfl
theorem tw_972 : (Jvm.Cond.code ({ cls := "SandRipplesModel", name := "crestsOf", desc := "(I)I" } : Jvm.MethodName) prog_9_method_17_code (4 : Nat) (Option.some Jvm.ClassFile.FieldType.int)) ∈ am_Tg := am_in_t 972 tq_972 rfl
theorem tw_973 : (Jvm.Cond.methodLink "SandRipplesModel" (111 : Nat) ({ cls := "SandRipplesModel", name := "isCrest", desc := "(II)Z" } : Jvm.MethodName)) ∈ am_Tg := am_in_t 973 tq_973 rfl
theorem tw_975 : (Jvm.Cond.instanceMethod ({ cls := "SandRipplesModel", name := "isCrest", desc := "(II)Z" } : Jvm.MethodName)) ∈ am_Tg := am_in_t 975 tq_975 rfl
theorem tw_976 : (Jvm.Cond.code ({ cls := "SandRipplesModel", name := "isCrest", desc := "(II)Z" } : Jvm.MethodName) prog_9_method_16_code (3 : Nat) (Option.some Jvm.ClassFile.FieldType.boolean)) ∈ am_Tg := am_in_t 976 tq_976 rfl
theorem tw_977 : (Jvm.Cond.methodLink "SandRipplesModel" (122 : Nat) ({ cls := "SandRipplesModel", name := "leanOf", desc := "(I)I" } : Jvm.MethodName)) ∈ am_Tg := am_in_t 977 tq_977 rfl
theorem tw_979 : (Jvm.Cond.instanceMethod ({ cls := "SandRipplesModel", name := "leanOf", desc := "(I)I" } : Jvm.MethodName)) ∈ am_Tg := am_in_t 979 tq_979 rfl
theorem tw_980 : (Jvm.Cond.code ({ cls := "SandRipplesModel", name := "leanOf", desc := "(I)I" } : Jvm.MethodName) prog_9_method_18_code (5 : Nat) (Option.some Jvm.ClassFile.FieldType.int)) ∈ am_Tg := am_in_t 980 tq_980 rfl
theorem tw_981 : (Jvm.Cond.methodLink "SandRipplesModel" (132 : Nat) ({ cls := "SandRipplesModel", name := "worthOf", desc := "(I)I" } : Jvm.MethodName)) ∈ am_Tg := am_in_t 981 tq_981 rfl
theorem tw_983 : (Jvm.Cond.instanceMethod ({ cls := "SandRipplesModel", name := "worthOf", desc := "(I)I" } : Jvm.MethodName)) ∈ am_Tg := am_in_t 983 tq_983 rfl
theorem tw_984 : (Jvm.Cond.code ({ cls := "SandRipplesModel", name := "worthOf", desc := "(I)I" } : Jvm.MethodName) prog_9_method_21_code (3 : Nat) (Option.some Jvm.ClassFile.FieldType.int)) ∈ am_Tg := am_in_t 984 tq_984 rfl
theorem tw_985 : (Jvm.Cond.methodLink "SandRipplesModel" (135 : Nat) ({ cls := "SandRipplesModel", name := "reachOf", desc := "(I)I" } : Jvm.MethodName)) ∈ am_Tg := am_in_t 985 tq_985 rfl
theorem tw_987 : (Jvm.Cond.instanceMethod ({ cls := "SandRipplesModel", name := "reachOf", desc := "(I)I" } : Jvm.MethodName)) ∈ am_Tg := am_in_t 987 tq_987 rfl
theorem tw_988 : (Jvm.Cond.code ({ cls := "SandRipplesModel", name := "reachOf", desc := "(I)I" } : Jvm.MethodName) prog_9_method_13_code (3 : Nat) (Option.some Jvm.ClassFile.FieldType.int)) ∈ am_Tg := am_in_t 988 tq_988 rfl
theorem tw_989 : (Jvm.Cond.methodLink "SandRipplesModel" (95 : Nat) ({ cls := "SandRipplesModel", name := "within", desc := "(III)I" } : Jvm.MethodName)) ∈ am_Tg := am_in_t 989 tq_989 rfl
theorem tw_990 : (Jvm.Cond.static ({ cls := "SandRipplesModel", name := "within", desc := "(III)I" } : Jvm.MethodName)) ∈ am_Tg := am_in_t 990 tq_990 rfl
theorem tw_991 : (Jvm.Cond.code ({ cls := "SandRipplesModel", name := "within", desc := "(III)I" } : Jvm.MethodName) prog_9_method_3_code (3 : Nat) (Option.some Jvm.ClassFile.FieldType.int)) ∈ am_Tg := am_in_t 991 tq_991 rfl
theorem tw_992 : (Jvm.Cond.methodLink "SandRipplesModel" (138 : Nat) ({ cls := "SandRipplesModel", name := "wayOf", desc := "(I)I" } : Jvm.MethodName)) ∈ am_Tg := am_in_t 992 tq_992 rfl
theorem tw_994 : (Jvm.Cond.instanceMethod ({ cls := "SandRipplesModel", name := "wayOf", desc := "(I)I" } : Jvm.MethodName)) ∈ am_Tg := am_in_t 994 tq_994 rfl
theorem tw_995 : (Jvm.Cond.code ({ cls := "SandRipplesModel", name := "wayOf", desc := "(I)I" } : Jvm.MethodName) prog_9_method_14_code (3 : Nat) (Option.some Jvm.ClassFile.FieldType.int)) ∈ am_Tg := am_in_t 995 tq_995 rfl
theorem tw_996 : (Jvm.Cond.methodLink "SandRipplesModel" (141 : Nat) ({ cls := "SandRipplesModel", name := "marksOf", desc := "(I)I" } : Jvm.MethodName)) ∈ am_Tg := am_in_t 996 tq_996 rfl
theorem tw_998 : (Jvm.Cond.instanceMethod ({ cls := "SandRipplesModel", name := "marksOf", desc := "(I)I" } : Jvm.MethodName)) ∈ am_Tg := am_in_t 998 tq_998 rfl
theorem tw_999 : (Jvm.Cond.code ({ cls := "SandRipplesModel", name := "marksOf", desc := "(I)I" } : Jvm.MethodName) prog_9_method_22_code (5 : Nat) (Option.some Jvm.ClassFile.FieldType.int)) ∈ am_Tg := am_in_t 999 tq_999 rfl
theorem tw_1000 : (Jvm.Cond.methodLink "SandRipplesModel" (105 : Nat) ({ cls := "SandRipplesModel", name := "counts", desc := "(I)I" } : Jvm.MethodName)) ∈ am_Tg := am_in_t 1000 tq_1000 rfl
theorem tw_1002 : (Jvm.Cond.instanceMethod ({ cls := "SandRipplesModel", name := "counts", desc := "(I)I" } : Jvm.MethodName)) ∈ am_Tg := am_in_t 1002 tq_1002 rfl
theorem tw_1003 : (Jvm.Cond.code ({ cls := "SandRipplesModel", name := "counts", desc := "(I)I" } : Jvm.MethodName) prog_9_method_71_code (3 : Nat) (Option.some Jvm.ClassFile.FieldType.int)) ∈ am_Tg := am_in_t 1003 tq_1003 rfl
theorem tw_1004 : (Jvm.Cond.methodLink "SandRipplesModel" (108 : Nat) ({ cls := "SandRipplesModel", name := "worksOut", desc := "(I)I" } : Jvm.MethodName)) ∈ am_Tg := am_in_t 1004 tq_1004 rfl
theorem tw_1006 : (Jvm.Cond.instanceMethod ({ cls := "SandRipplesModel", name := "worksOut", desc := "(I)I" } : Jvm.MethodName)) ∈ am_Tg := am_in_t 1006 tq_1006 rfl
theorem tw_1007 : (Jvm.Cond.code ({ cls := "SandRipplesModel", name := "worksOut", desc := "(I)I" } : Jvm.MethodName) prog_9_method_74_code (6 : Nat) (Option.some Jvm.ClassFile.FieldType.int)) ∈ am_Tg := am_in_t 1007 tq_1007 rfl
theorem tw_1008 : (Jvm.Cond.methodLink "SandRipplesModel" (258 : Nat) ({ cls := "SandRipplesModel", name := "two", desc := "(III)I" } : Jvm.MethodName)) ∈ am_Tg := am_in_t 1008 tq_1008 rfl
theorem tw_1009 : (Jvm.Cond.static ({ cls := "SandRipplesModel", name := "two", desc := "(III)I" } : Jvm.MethodName)) ∈ am_Tg := am_in_t 1009 tq_1009 rfl
theorem tw_1010 : (Jvm.Cond.code ({ cls := "SandRipplesModel", name := "two", desc := "(III)I" } : Jvm.MethodName) prog_9_method_73_code (3 : Nat) (Option.some Jvm.ClassFile.FieldType.int)) ∈ am_Tg := am_in_t 1010 tq_1010 rfl
theorem tw_1011 : (Jvm.Cond.methodLink "SandRipplesLaw" (26 : Nat) ({ cls := "SandRipplesModel", name := "as", desc := "(II)I" } : Jvm.MethodName)) ∈ am_Tg := am_in_t 1011 tq_1011 rfl
theorem tw_1012 : (Jvm.Cond.instanceMethod ({ cls := "SandRipplesModel", name := "as", desc := "(II)I" } : Jvm.MethodName)) ∈ am_Tg := am_in_t 1012 tq_1012 rfl
theorem tw_1013 : (Jvm.Cond.selects "SandRipplesModel" ({ cls := "SandRipplesModel", name := "as", desc := "(II)I" } : Jvm.MethodName) ({ cls := "SandRipplesModel", name := "as", desc := "(II)I" } : Jvm.MethodName)) ∈ am_Tg := am_in_t 1013 tq_1013 rfl
theorem tw_1014 : (Jvm.Cond.code ({ cls := "SandRipplesModel", name := "as", desc := "(II)I" } : Jvm.MethodName) prog_9_method_25_code (3 : Nat) (Option.some Jvm.ClassFile.FieldType.int)) ∈ am_Tg := am_in_t 1014 tq_1014 rfl
theorem tw_1015 : (Jvm.Cond.methodLink "SandRipplesModel" (144 : Nat) ({ cls := "SandRipplesModel", name := "isUnder", desc := "(II)Z" } : Jvm.MethodName)) ∈ am_Tg := am_in_t 1015 tq_1015 rfl
theorem tw_1016 : (Jvm.Cond.static ({ cls := "SandRipplesModel", name := "isUnder", desc := "(II)Z" } : Jvm.MethodName)) ∈ am_Tg := am_in_t 1016 tq_1016 rfl
theorem tw_1017 : (Jvm.Cond.code ({ cls := "SandRipplesModel", name := "isUnder", desc := "(II)Z" } : Jvm.MethodName) prog_9_method_24_code (2 : Nat) (Option.some Jvm.ClassFile.FieldType.boolean)) ∈ am_Tg := am_in_t 1017 tq_1017 rfl
theorem tw_1018 : (Jvm.Cond.constant "SandRipplesModel" (147 : Nat) (-1000000012 : Int32)) ∈ am_Tg := am_in_t 1018 tq_1018 rfl
theorem tw_1019 : (Jvm.Cond.methodLink "SandRipplesLaw" (30 : Nat) ({ cls := "SandRipplesModel", name := "turns", desc := "(II)I" } : Jvm.MethodName)) ∈ am_Tg := am_in_t 1019 tq_1019 rfl
theorem tw_1020 : (Jvm.Cond.instanceMethod ({ cls := "SandRipplesModel", name := "turns", desc := "(II)I" } : Jvm.MethodName)) ∈ am_Tg := am_in_t 1020 tq_1020 rfl
theorem tw_1021 : (Jvm.Cond.selects "SandRipplesModel" ({ cls := "SandRipplesModel", name := "turns", desc := "(II)I" } : Jvm.MethodName) ({ cls := "SandRipplesModel", name := "turns", desc := "(II)I" } : Jvm.MethodName)) ∈ am_Tg := am_in_t 1021 tq_1021 rfl
theorem tw_1022 : (Jvm.Cond.code ({ cls := "SandRipplesModel", name := "turns", desc := "(II)I" } : Jvm.MethodName) prog_9_method_27_code (3 : Nat) (Option.some Jvm.ClassFile.FieldType.int)) ∈ am_Tg := am_in_t 1022 tq_1022 rfl
theorem tw_1023 : (Jvm.Cond.methodLink "SandRipplesModel" (148 : Nat) ({ cls := "SandRipplesModel", name := "becomes", desc := "(II)I" } : Jvm.MethodName)) ∈ am_Tg := am_in_t 1023 tq_1023 rfl
theorem tw_1025 : (Jvm.Cond.instanceMethod ({ cls := "SandRipplesModel", name := "becomes", desc := "(II)I" } : Jvm.MethodName)) ∈ am_Tg := am_in_t 1025 tq_1025 rfl
theorem tw_1026 : (Jvm.Cond.code ({ cls := "SandRipplesModel", name := "becomes", desc := "(II)I" } : Jvm.MethodName) prog_9_method_26_code (4 : Nat) (Option.some Jvm.ClassFile.FieldType.int)) ∈ am_Tg := am_in_t 1026 tq_1026 rfl
theorem tw_1027 : (Jvm.Cond.methodLink "SandRipplesLaw" (34 : Nat) ({ cls := "SandRipplesModel", name := "sea", desc := "(II)I" } : Jvm.MethodName)) ∈ am_Tg := am_in_t 1027 tq_1027 rfl
theorem tw_1028 : (Jvm.Cond.instanceMethod ({ cls := "SandRipplesModel", name := "sea", desc := "(II)I" } : Jvm.MethodName)) ∈ am_Tg := am_in_t 1028 tq_1028 rfl
theorem tw_1029 : (Jvm.Cond.selects "SandRipplesModel" ({ cls := "SandRipplesModel", name := "sea", desc := "(II)I" } : Jvm.MethodName) ({ cls := "SandRipplesModel", name := "sea", desc := "(II)I" } : Jvm.MethodName)) ∈ am_Tg := am_in_t 1029 tq_1029 rfl
theorem tw_1030 : (Jvm.Cond.code ({ cls := "SandRipplesModel", name := "sea", desc := "(II)I" } : Jvm.MethodName) prog_9_method_28_code (3 : Nat) (Option.some Jvm.ClassFile.FieldType.int)) ∈ am_Tg := am_in_t 1030 tq_1030 rfl
theorem tw_1031 : (Jvm.Cond.methodLink "SandRipplesLaw" (38 : Nat) ({ cls := "SandRipplesModel", name := "sand", desc := "(II)I" } : Jvm.MethodName)) ∈ am_Tg := am_in_t 1031 tq_1031 rfl
theorem tw_1032 : (Jvm.Cond.instanceMethod ({ cls := "SandRipplesModel", name := "sand", desc := "(II)I" } : Jvm.MethodName)) ∈ am_Tg := am_in_t 1032 tq_1032 rfl
theorem tw_1033 : (Jvm.Cond.selects "SandRipplesModel" ({ cls := "SandRipplesModel", name := "sand", desc := "(II)I" } : Jvm.MethodName) ({ cls := "SandRipplesModel", name := "sand", desc := "(II)I" } : Jvm.MethodName)) ∈ am_Tg := am_in_t 1033 tq_1033 rfl
theorem tw_1034 : (Jvm.Cond.code ({ cls := "SandRipplesModel", name := "sand", desc := "(II)I" } : Jvm.MethodName) prog_9_method_29_code (3 : Nat) (Option.some Jvm.ClassFile.FieldType.int)) ∈ am_Tg := am_in_t 1034 tq_1034 rfl
theorem tw_1035 : (Jvm.Cond.methodLink "SandRipplesModel" (151 : Nat) ({ cls := "SandRipplesModel", name := "isCell", desc := "(I)Z" } : Jvm.MethodName)) ∈ am_Tg := am_in_t 1035 tq_1035 rfl
theorem tw_1036 : (Jvm.Cond.static ({ cls := "SandRipplesModel", name := "isCell", desc := "(I)Z" } : Jvm.MethodName)) ∈ am_Tg := am_in_t 1036 tq_1036 rfl
theorem tw_1037 : (Jvm.Cond.code ({ cls := "SandRipplesModel", name := "isCell", desc := "(I)Z" } : Jvm.MethodName) prog_9_method_6_code (1 : Nat) (Option.some Jvm.ClassFile.FieldType.boolean)) ∈ am_Tg := am_in_t 1037 tq_1037 rfl
theorem tw_1038 : (Jvm.Cond.methodLink "SandRipplesLaw" (43 : Nat) ({ cls := "SandRipplesModel", name := "heap", desc := "(III)I" } : Jvm.MethodName)) ∈ am_Tg := am_in_t 1038 tq_1038 rfl
theorem tw_1039 : (Jvm.Cond.instanceMethod ({ cls := "SandRipplesModel", name := "heap", desc := "(III)I" } : Jvm.MethodName)) ∈ am_Tg := am_in_t 1039 tq_1039 rfl
theorem tw_1040 : (Jvm.Cond.selects "SandRipplesModel" ({ cls := "SandRipplesModel", name := "heap", desc := "(III)I" } : Jvm.MethodName) ({ cls := "SandRipplesModel", name := "heap", desc := "(III)I" } : Jvm.MethodName)) ∈ am_Tg := am_in_t 1040 tq_1040 rfl
theorem tw_1041 : (Jvm.Cond.code ({ cls := "SandRipplesModel", name := "heap", desc := "(III)I" } : Jvm.MethodName) prog_9_method_30_code (4 : Nat) (Option.some Jvm.ClassFile.FieldType.int)) ∈ am_Tg := am_in_t 1041 tq_1041 rfl
theorem tw_1042 : (Jvm.Cond.methodLink "SandRipplesLaw" (47 : Nat) ({ cls := "SandRipplesModel", name := "deal", desc := "(I)I" } : Jvm.MethodName)) ∈ am_Tg := am_in_t 1042 tq_1042 rfl
theorem tw_1043 : (Jvm.Cond.instanceMethod ({ cls := "SandRipplesModel", name := "deal", desc := "(I)I" } : Jvm.MethodName)) ∈ am_Tg := am_in_t 1043 tq_1043 rfl
theorem tw_1044 : (Jvm.Cond.selects "SandRipplesModel" ({ cls := "SandRipplesModel", name := "deal", desc := "(I)I" } : Jvm.MethodName) ({ cls := "SandRipplesModel", name := "deal", desc := "(I)I" } : Jvm.MethodName)) ∈ am_Tg := am_in_t 1044 tq_1044 rfl
theorem tw_1045 : (Jvm.Cond.code ({ cls := "SandRipplesModel", name := "deal", desc := "(I)I" } : Jvm.MethodName) prog_9_method_32_code (3 : Nat) (Option.some Jvm.ClassFile.FieldType.int)) ∈ am_Tg := am_in_t 1045 tq_1045 rfl
theorem tw_1046 : (Jvm.Cond.methodLink "SandRipplesModel" (155 : Nat) ({ cls := "SandRipplesModel", name := "draw", desc := "()I" } : Jvm.MethodName)) ∈ am_Tg := am_in_t 1046 tq_1046 rfl
theorem tw_1048 : (Jvm.Cond.instanceMethod ({ cls := "SandRipplesModel", name := "draw", desc := "()I" } : Jvm.MethodName)) ∈ am_Tg := am_in_t 1048 tq_1048 rfl
theorem tw_1049 : (Jvm.Cond.code ({ cls := "SandRipplesModel", name := "draw", desc := "()I" } : Jvm.MethodName) prog_9_method_31_code (1 : Nat) (Option.some Jvm.ClassFile.FieldType.int)) ∈ am_Tg := am_in_t 1049 tq_1049 rfl
theorem tw_1050 : (Jvm.Cond.constant "SandRipplesModel" (154 : Nat) (1103515245 : Int32)) ∈ am_Tg := am_in_t 1050 tq_1050 rfl
theorem tw_1051 : (Jvm.Cond.methodLink "SandRipplesLaw" (51 : Nat) ({ cls := "SandRipplesModel", name := "seed", desc := "(I)I" } : Jvm.MethodName)) ∈ am_Tg := am_in_t 1051 tq_1051 rfl
theorem tw_1052 : (Jvm.Cond.instanceMethod ({ cls := "SandRipplesModel", name := "seed", desc := "(I)I" } : Jvm.MethodName)) ∈ am_Tg := am_in_t 1052 tq_1052 rfl
theorem tw_1053 : (Jvm.Cond.selects "SandRipplesModel" ({ cls := "SandRipplesModel", name := "seed", desc := "(I)I" } : Jvm.MethodName) ({ cls := "SandRipplesModel", name := "seed", desc := "(I)I" } : Jvm.MethodName)) ∈ am_Tg := am_in_t 1053 tq_1053 rfl
theorem tw_1054 : (Jvm.Cond.code ({ cls := "SandRipplesModel", name := "seed", desc := "(I)I" } : Jvm.MethodName) prog_9_method_33_code (3 : Nat) (Option.some Jvm.ClassFile.FieldType.int)) ∈ am_Tg := am_in_t 1054 tq_1054 rfl
theorem tw_1055 : (Jvm.Cond.methodLink "SandRipplesLaw" (55 : Nat) ({ cls := "SandRipplesModel", name := "lift", desc := "(III)I" } : Jvm.MethodName)) ∈ am_Tg := am_in_t 1055 tq_1055 rfl
theorem tw_1056 : (Jvm.Cond.instanceMethod ({ cls := "SandRipplesModel", name := "lift", desc := "(III)I" } : Jvm.MethodName)) ∈ am_Tg := am_in_t 1056 tq_1056 rfl
theorem tw_1057 : (Jvm.Cond.selects "SandRipplesModel" ({ cls := "SandRipplesModel", name := "lift", desc := "(III)I" } : Jvm.MethodName) ({ cls := "SandRipplesModel", name := "lift", desc := "(III)I" } : Jvm.MethodName)) ∈ am_Tg := am_in_t 1057 tq_1057 rfl
theorem tw_1058 : (Jvm.Cond.code ({ cls := "SandRipplesModel", name := "lift", desc := "(III)I" } : Jvm.MethodName) prog_9_method_34_code (5 : Nat) (Option.some Jvm.ClassFile.FieldType.int)) ∈ am_Tg := am_in_t 1058 tq_1058 rfl
theorem tw_1059 : (Jvm.Cond.methodLink "SandRipplesModel" (159 : Nat) ({ cls := "SandRipplesModel", name := "liftOf", desc := "(III)I" } : Jvm.MethodName)) ∈ am_Tg := am_in_t 1059 tq_1059 rfl
theorem tw_1061 : (Jvm.Cond.instanceMethod ({ cls := "SandRipplesModel", name := "liftOf", desc := "(III)I" } : Jvm.MethodName)) ∈ am_Tg := am_in_t 1061 tq_1061 rfl
theorem tw_1062 : (Jvm.Cond.code ({ cls := "SandRipplesModel", name := "liftOf", desc := "(III)I" } : Jvm.MethodName) prog_9_method_15_code (7 : Nat) (Option.some Jvm.ClassFile.FieldType.int)) ∈ am_Tg := am_in_t 1062 tq_1062 rfl
theorem tw_1063 : (Jvm.Cond.methodLink "SandRipplesLaw" (59 : Nat) ({ cls := "SandRipplesModel", name := "run", desc := "(II)I" } : Jvm.MethodName)) ∈ am_Tg := am_in_t 1063 tq_1063 rfl
theorem tw_1064 : (Jvm.Cond.instanceMethod ({ cls := "SandRipplesModel", name := "run", desc := "(II)I" } : Jvm.MethodName)) ∈ am_Tg := am_in_t 1064 tq_1064 rfl
theorem tw_1065 : (Jvm.Cond.selects "SandRipplesModel" ({ cls := "SandRipplesModel", name := "run", desc := "(II)I" } : Jvm.MethodName) ({ cls := "SandRipplesModel", name := "run", desc := "(II)I" } : Jvm.MethodName)) ∈ am_Tg := am_in_t 1065 tq_1065 rfl
theorem tw_1066 : (Jvm.Cond.code ({ cls := "SandRipplesModel", name := "run", desc := "(II)I" } : Jvm.MethodName) prog_9_method_38_code (3 : Nat) (Option.some Jvm.ClassFile.FieldType.int)) ∈ am_Tg := am_in_t 1066 tq_1066 rfl
theorem tw_1067 : (Jvm.Cond.methodLink "SandRipplesModel" (168 : Nat) ({ cls := "SandRipplesModel", name := "ticks", desc := "(II)I" } : Jvm.MethodName)) ∈ am_Tg := am_in_t 1067 tq_1067 rfl
theorem tw_1069 : (Jvm.Cond.instanceMethod ({ cls := "SandRipplesModel", name := "ticks", desc := "(II)I" } : Jvm.MethodName)) ∈ am_Tg := am_in_t 1069 tq_1069 rfl
theorem tw_1070 : (Jvm.Cond.code ({ cls := "SandRipplesModel", name := "ticks", desc := "(II)I" } : Jvm.MethodName) prog_9_method_37_code (5 : Nat) (Option.some Jvm.ClassFile.FieldType.int)) ∈ am_Tg := am_in_t 1070 tq_1070 rfl
theorem tw_1071 : (Jvm.Cond.methodLink "SandRipplesModel" (165 : Nat) ({ cls := "SandRipplesModel", name := "tick", desc := "(I)I" } : Jvm.MethodName)) ∈ am_Tg := am_in_t 1071 tq_1071 rfl
theorem tw_1073 : (Jvm.Cond.instanceMethod ({ cls := "SandRipplesModel", name := "tick", desc := "(I)I" } : Jvm.MethodName)) ∈ am_Tg := am_in_t 1073 tq_1073 rfl
theorem tw_1074 : (Jvm.Cond.code ({ cls := "SandRipplesModel", name := "tick", desc := "(I)I" } : Jvm.MethodName) prog_9_method_36_code (9 : Nat) (Option.some Jvm.ClassFile.FieldType.int)) ∈ am_Tg := am_in_t 1074 tq_1074 rfl
theorem tw_1075 : (Jvm.Cond.methodLink "SandRipplesModel" (162 : Nat) ({ cls := "SandRipplesModel", name := "slideBy", desc := "(I)I" } : Jvm.MethodName)) ∈ am_Tg := am_in_t 1075 tq_1075 rfl
theorem tw_1077 : (Jvm.Cond.instanceMethod ({ cls := "SandRipplesModel", name := "slideBy", desc := "(I)I" } : Jvm.MethodName)) ∈ am_Tg := am_in_t 1077 tq_1077 rfl
theorem tw_1078 : (Jvm.Cond.code ({ cls := "SandRipplesModel", name := "slideBy", desc := "(I)I" } : Jvm.MethodName) prog_9_method_35_code (3 : Nat) (Option.some Jvm.ClassFile.FieldType.int)) ∈ am_Tg := am_in_t 1078 tq_1078 rfl
theorem tw_1079 : (Jvm.Cond.methodLink "SandRipplesLaw" (63 : Nat) ({ cls := "SandRipplesModel", name := "crest", desc := "(II)I" } : Jvm.MethodName)) ∈ am_Tg := am_in_t 1079 tq_1079 rfl
theorem tw_1080 : (Jvm.Cond.instanceMethod ({ cls := "SandRipplesModel", name := "crest", desc := "(II)I" } : Jvm.MethodName)) ∈ am_Tg := am_in_t 1080 tq_1080 rfl
theorem tw_1081 : (Jvm.Cond.selects "SandRipplesModel" ({ cls := "SandRipplesModel", name := "crest", desc := "(II)I" } : Jvm.MethodName) ({ cls := "SandRipplesModel", name := "crest", desc := "(II)I" } : Jvm.MethodName)) ∈ am_Tg := am_in_t 1081 tq_1081 rfl
theorem tw_1082 : (Jvm.Cond.code ({ cls := "SandRipplesModel", name := "crest", desc := "(II)I" } : Jvm.MethodName) prog_9_method_39_code (5 : Nat) (Option.some Jvm.ClassFile.FieldType.int)) ∈ am_Tg := am_in_t 1082 tq_1082 rfl
theorem tw_1083 : (Jvm.Cond.constant "SandRipplesModel" (171 : Nat) (-1000000005 : Int32)) ∈ am_Tg := am_in_t 1083 tq_1083 rfl
theorem tw_1084 : (Jvm.Cond.methodLink "SandRipplesLaw" (67 : Nat) ({ cls := "SandRipplesModel", name := "apart", desc := "(I)I" } : Jvm.MethodName)) ∈ am_Tg := am_in_t 1084 tq_1084 rfl
theorem tw_1085 : (Jvm.Cond.instanceMethod ({ cls := "SandRipplesModel", name := "apart", desc := "(I)I" } : Jvm.MethodName)) ∈ am_Tg := am_in_t 1085 tq_1085 rfl
theorem tw_1086 : (Jvm.Cond.selects "SandRipplesModel" ({ cls := "SandRipplesModel", name := "apart", desc := "(I)I" } : Jvm.MethodName) ({ cls := "SandRipplesModel", name := "apart", desc := "(I)I" } : Jvm.MethodName)) ∈ am_Tg := am_in_t 1086 tq_1086 rfl
theorem tw_1087 : (Jvm.Cond.code ({ cls := "SandRipplesModel", name := "apart", desc := "(I)I" } : Jvm.MethodName) prog_9_method_40_code (3 : Nat) (Option.some Jvm.ClassFile.FieldType.int)) ∈ am_Tg := am_in_t 1087 tq_1087 rfl
theorem tw_1088 : (Jvm.Cond.methodLink "SandRipplesLaw" (71 : Nat) ({ cls := "SandRipplesModel", name := "flat", desc := "(II)I" } : Jvm.MethodName)) ∈ am_Tg := am_in_t 1088 tq_1088 rfl
theorem tw_1089 : (Jvm.Cond.instanceMethod ({ cls := "SandRipplesModel", name := "flat", desc := "(II)I" } : Jvm.MethodName)) ∈ am_Tg := am_in_t 1089 tq_1089 rfl
theorem tw_1090 : (Jvm.Cond.selects "SandRipplesModel" ({ cls := "SandRipplesModel", name := "flat", desc := "(II)I" } : Jvm.MethodName) ({ cls := "SandRipplesModel", name := "flat", desc := "(II)I" } : Jvm.MethodName)) ∈ am_Tg := am_in_t 1090 tq_1090 rfl
theorem tw_1091 : (Jvm.Cond.code ({ cls := "SandRipplesModel", name := "flat", desc := "(II)I" } : Jvm.MethodName) prog_9_method_41_code (4 : Nat) (Option.some Jvm.ClassFile.FieldType.int)) ∈ am_Tg := am_in_t 1091 tq_1091 rfl
theorem tw_1092 : (Jvm.Cond.methodLink "SandRipplesLaw" (75 : Nat) ({ cls := "SandRipplesModel", name := "soon", desc := "(II)I" } : Jvm.MethodName)) ∈ am_Tg := am_in_t 1092 tq_1092 rfl
theorem tw_1093 : (Jvm.Cond.instanceMethod ({ cls := "SandRipplesModel", name := "soon", desc := "(II)I" } : Jvm.MethodName)) ∈ am_Tg := am_in_t 1093 tq_1093 rfl
theorem tw_1094 : (Jvm.Cond.selects "SandRipplesModel" ({ cls := "SandRipplesModel", name := "soon", desc := "(II)I" } : Jvm.MethodName) ({ cls := "SandRipplesModel", name := "soon", desc := "(II)I" } : Jvm.MethodName)) ∈ am_Tg := am_in_t 1094 tq_1094 rfl
theorem tw_1095 : (Jvm.Cond.code ({ cls := "SandRipplesModel", name := "soon", desc := "(II)I" } : Jvm.MethodName) prog_9_method_44_code (5 : Nat) (Option.some Jvm.ClassFile.FieldType.int)) ∈ am_Tg := am_in_t 1095 tq_1095 rfl
theorem tw_1096 : (Jvm.Cond.methodLink "SandRipplesModel" (172 : Nat) ({ cls := "SandRipplesModel", name := "thinks", desc := "(I)V" } : Jvm.MethodName)) ∈ am_Tg := am_in_t 1096 tq_1096 rfl
theorem tw_1098 : (Jvm.Cond.instanceMethod ({ cls := "SandRipplesModel", name := "thinks", desc := "(I)V" } : Jvm.MethodName)) ∈ am_Tg := am_in_t 1098 tq_1098 rfl
theorem tw_1099 : (Jvm.Cond.code ({ cls := "SandRipplesModel", name := "thinks", desc := "(I)V" } : Jvm.MethodName) prog_9_method_42_code (3 : Nat) (Option.none : Option Jvm.ClassFile.FieldType)) ∈ am_Tg := am_in_t 1099 tq_1099 rfl
theorem tw_1100 : (Jvm.Cond.methodLink "SandRipplesModel" (176 : Nat) ({ cls := "SandRipplesModel", name := "putsBack", desc := "(I)V" } : Jvm.MethodName)) ∈ am_Tg := am_in_t 1100 tq_1100 rfl
theorem tw_1102 : (Jvm.Cond.instanceMethod ({ cls := "SandRipplesModel", name := "putsBack", desc := "(I)V" } : Jvm.MethodName)) ∈ am_Tg := am_in_t 1102 tq_1102 rfl
theorem tw_1103 : (Jvm.Cond.code ({ cls := "SandRipplesModel", name := "putsBack", desc := "(I)V" } : Jvm.MethodName) prog_9_method_43_code (3 : Nat) (Option.none : Option Jvm.ClassFile.FieldType)) ∈ am_Tg := am_in_t 1103 tq_1103 rfl
theorem tw_1104 : (Jvm.Cond.methodLink "SandRipplesLaw" (79 : Nat) ({ cls := "SandRipplesModel", name := "period", desc := "(I)I" } : Jvm.MethodName)) ∈ am_Tg := am_in_t 1104 tq_1104 rfl
theorem tw_1105 : (Jvm.Cond.instanceMethod ({ cls := "SandRipplesModel", name := "period", desc := "(I)I" } : Jvm.MethodName)) ∈ am_Tg := am_in_t 1105 tq_1105 rfl
theorem tw_1106 : (Jvm.Cond.selects "SandRipplesModel" ({ cls := "SandRipplesModel", name := "period", desc := "(I)I" } : Jvm.MethodName) ({ cls := "SandRipplesModel", name := "period", desc := "(I)I" } : Jvm.MethodName)) ∈ am_Tg := am_in_t 1106 tq_1106 rfl
theorem tw_1107 : (Jvm.Cond.code ({ cls := "SandRipplesModel", name := "period", desc := "(I)I" } : Jvm.MethodName) prog_9_method_46_code (5 : Nat) (Option.some Jvm.ClassFile.FieldType.int)) ∈ am_Tg := am_in_t 1107 tq_1107 rfl
theorem tw_1108 : (Jvm.Cond.methodLink "SandRipplesModel" (179 : Nat) ({ cls := "SandRipplesModel", name := "isAsBefore", desc := "(I)Z" } : Jvm.MethodName)) ∈ am_Tg := am_in_t 1108 tq_1108 rfl
theorem tw_1110 : (Jvm.Cond.instanceMethod ({ cls := "SandRipplesModel", name := "isAsBefore", desc := "(I)Z" } : Jvm.MethodName)) ∈ am_Tg := am_in_t 1110 tq_1110 rfl
theorem tw_1111 : (Jvm.Cond.code ({ cls := "SandRipplesModel", name := "isAsBefore", desc := "(I)Z" } : Jvm.MethodName) prog_9_method_45_code (3 : Nat) (Option.some Jvm.ClassFile.FieldType.boolean)) ∈ am_Tg := am_in_t 1111 tq_1111 rfl
theorem tw_1112 : (Jvm.Cond.methodLink "SandRipplesLaw" (83 : Nat) ({ cls := "SandRipplesModel", name := "foot", desc := "(III)I" } : Jvm.MethodName)) ∈ am_Tg := am_in_t 1112 tq_1112 rfl
theorem tw_1113 : (Jvm.Cond.instanceMethod ({ cls := "SandRipplesModel", name := "foot", desc := "(III)I" } : Jvm.MethodName)) ∈ am_Tg := am_in_t 1113 tq_1113 rfl
theorem tw_1114 : (Jvm.Cond.selects "SandRipplesModel" ({ cls := "SandRipplesModel", name := "foot", desc := "(III)I" } : Jvm.MethodName) ({ cls := "SandRipplesModel", name := "foot", desc := "(III)I" } : Jvm.MethodName)) ∈ am_Tg := am_in_t 1114 tq_1114 rfl
theorem tw_1115 : (Jvm.Cond.code ({ cls := "SandRipplesModel", name := "foot", desc := "(III)I" } : Jvm.MethodName) prog_9_method_47_code (5 : Nat) (Option.some Jvm.ClassFile.FieldType.int)) ∈ am_Tg := am_in_t 1115 tq_1115 rfl
theorem tw_1116 : (Jvm.Cond.methodLink "SandRipplesLaw" (87 : Nat) ({ cls := "SandRipplesModel", name := "worm", desc := "(II)I" } : Jvm.MethodName)) ∈ am_Tg := am_in_t 1116 tq_1116 rfl
theorem tw_1117 : (Jvm.Cond.instanceMethod ({ cls := "SandRipplesModel", name := "worm", desc := "(II)I" } : Jvm.MethodName)) ∈ am_Tg := am_in_t 1117 tq_1117 rfl
theorem tw_1118 : (Jvm.Cond.selects "SandRipplesModel" ({ cls := "SandRipplesModel", name := "worm", desc := "(II)I" } : Jvm.MethodName) ({ cls := "SandRipplesModel", name := "worm", desc := "(II)I" } : Jvm.MethodName)) ∈ am_Tg := am_in_t 1118 tq_1118 rfl
theorem tw_1119 : (Jvm.Cond.code ({ cls := "SandRipplesModel", name := "worm", desc := "(II)I" } : Jvm.MethodName) prog_9_method_48_code (4 : Nat) (Option.some Jvm.ClassFile.FieldType.int)) ∈ am_Tg := am_in_t 1119 tq_1119 rfl
theorem tw_1120 : (Jvm.Cond.methodLink "SandRipplesLaw" (91 : Nat) ({ cls := "SandRipplesModel", name := "press", desc := "(II)I" } : Jvm.MethodName)) ∈ am_Tg := am_in_t 1120 tq_1120 rfl
theorem tw_1121 : (Jvm.Cond.instanceMethod ({ cls := "SandRipplesModel", name := "press", desc := "(II)I" } : Jvm.MethodName)) ∈ am_Tg := am_in_t 1121 tq_1121 rfl
theorem tw_1122 : (Jvm.Cond.selects "SandRipplesModel" ({ cls := "SandRipplesModel", name := "press", desc := "(II)I" } : Jvm.MethodName) ({ cls := "SandRipplesModel", name := "press", desc := "(II)I" } : Jvm.MethodName)) ∈ am_Tg := am_in_t 1122 tq_1122 rfl
theorem tw_1123 : (Jvm.Cond.code ({ cls := "SandRipplesModel", name := "press", desc := "(II)I" } : Jvm.MethodName) prog_9_method_49_code (5 : Nat) (Option.some Jvm.ClassFile.FieldType.int)) ∈ am_Tg := am_in_t 1123 tq_1123 rfl
theorem tw_1124 : (Jvm.Cond.methodLink "SandRipplesLaw" (95 : Nat) ({ cls := "SandRipplesModel", name := "unlike", desc := "(II)I" } : Jvm.MethodName)) ∈ am_Tg := am_in_t 1124 tq_1124 rfl
theorem tw_1125 : (Jvm.Cond.instanceMethod ({ cls := "SandRipplesModel", name := "unlike", desc := "(II)I" } : Jvm.MethodName)) ∈ am_Tg := am_in_t 1125 tq_1125 rfl
theorem tw_1126 : (Jvm.Cond.selects "SandRipplesModel" ({ cls := "SandRipplesModel", name := "unlike", desc := "(II)I" } : Jvm.MethodName) ({ cls := "SandRipplesModel", name := "unlike", desc := "(II)I" } : Jvm.MethodName)) ∈ am_Tg := am_in_t 1126 tq_1126 rfl
theorem tw_1127 : (Jvm.Cond.code ({ cls := "SandRipplesModel", name := "unlike", desc := "(II)I" } : Jvm.MethodName) prog_9_method_51_code (3 : Nat) (Option.some Jvm.ClassFile.FieldType.int)) ∈ am_Tg := am_in_t 1127 tq_1127 rfl
theorem tw_1128 : (Jvm.Cond.methodLink "SandRipplesModel" (182 : Nat) ({ cls := "SandRipplesModel", name := "unlikeBy", desc := "(III)I" } : Jvm.MethodName)) ∈ am_Tg := am_in_t 1128 tq_1128 rfl
theorem tw_1130 : (Jvm.Cond.instanceMethod ({ cls := "SandRipplesModel", name := "unlikeBy", desc := "(III)I" } : Jvm.MethodName)) ∈ am_Tg := am_in_t 1130 tq_1130 rfl
theorem tw_1131 : (Jvm.Cond.code ({ cls := "SandRipplesModel", name := "unlikeBy", desc := "(III)I" } : Jvm.MethodName) prog_9_method_50_code (6 : Nat) (Option.some Jvm.ClassFile.FieldType.int)) ∈ am_Tg := am_in_t 1131 tq_1131 rfl
theorem tw_1132 : (Jvm.Cond.methodLink "SandRipplesLaw" (99 : Nat) ({ cls := "SandRipplesModel", name := "turned", desc := "(III)I" } : Jvm.MethodName)) ∈ am_Tg := am_in_t 1132 tq_1132 rfl
theorem tw_1133 : (Jvm.Cond.instanceMethod ({ cls := "SandRipplesModel", name := "turned", desc := "(III)I" } : Jvm.MethodName)) ∈ am_Tg := am_in_t 1133 tq_1133 rfl
theorem tw_1134 : (Jvm.Cond.selects "SandRipplesModel" ({ cls := "SandRipplesModel", name := "turned", desc := "(III)I" } : Jvm.MethodName) ({ cls := "SandRipplesModel", name := "turned", desc := "(III)I" } : Jvm.MethodName)) ∈ am_Tg := am_in_t 1134 tq_1134 rfl
theorem tw_1135 : (Jvm.Cond.code ({ cls := "SandRipplesModel", name := "turned", desc := "(III)I" } : Jvm.MethodName) prog_9_method_52_code (6 : Nat) (Option.some Jvm.ClassFile.FieldType.int)) ∈ am_Tg := am_in_t 1135 tq_1135 rfl
theorem tw_1136 : (Jvm.Cond.methodLink "SandRipplesLaw" (103 : Nat) ({ cls := "SandRipplesModel", name := "seen", desc := "(III)I" } : Jvm.MethodName)) ∈ am_Tg := am_in_t 1136 tq_1136 rfl
theorem tw_1137 : (Jvm.Cond.instanceMethod ({ cls := "SandRipplesModel", name := "seen", desc := "(III)I" } : Jvm.MethodName)) ∈ am_Tg := am_in_t 1137 tq_1137 rfl
theorem tw_1138 : (Jvm.Cond.selects "SandRipplesModel" ({ cls := "SandRipplesModel", name := "seen", desc := "(III)I" } : Jvm.MethodName) ({ cls := "SandRipplesModel", name := "seen", desc := "(III)I" } : Jvm.MethodName)) ∈ am_Tg := am_in_t 1138 tq_1138 rfl
theorem tw_1139 : (Jvm.Cond.code ({ cls := "SandRipplesModel", name := "seen", desc := "(III)I" } : Jvm.MethodName) prog_9_method_54_code (12 : Nat) (Option.some Jvm.ClassFile.FieldType.int)) ∈ am_Tg := am_in_t 1139 tq_1139 rfl
theorem tw_1140 : (Jvm.Cond.methodLink "SandRipplesModel" (185 : Nat) ({ cls := "SandRipplesModel", name := "isSheet", desc := "(I)Z" } : Jvm.MethodName)) ∈ am_Tg := am_in_t 1140 tq_1140 rfl
theorem tw_1141 : (Jvm.Cond.static ({ cls := "SandRipplesModel", name := "isSheet", desc := "(I)Z" } : Jvm.MethodName)) ∈ am_Tg := am_in_t 1141 tq_1141 rfl
theorem tw_1142 : (Jvm.Cond.code ({ cls := "SandRipplesModel", name := "isSheet", desc := "(I)Z" } : Jvm.MethodName) prog_9_method_75_code (1 : Nat) (Option.some Jvm.ClassFile.FieldType.boolean)) ∈ am_Tg := am_in_t 1142 tq_1142 rfl
theorem tw_1143 : (Jvm.Cond.constant "SandRipplesModel" (188 : Nat) (-1000000011 : Int32)) ∈ am_Tg := am_in_t 1143 tq_1143 rfl
theorem tw_1144 : (Jvm.Cond.methodLink "SandRipplesModel" (189 : Nat) ({ cls := "SandRipplesModel", name := "offBy", desc := "(II)J" } : Jvm.MethodName)) ∈ am_Tg := am_in_t 1144 tq_1144 rfl
theorem tw_1146 : (Jvm.Cond.instanceMethod ({ cls := "SandRipplesModel", name := "offBy", desc := "(II)J" } : Jvm.MethodName)) ∈ am_Tg := am_in_t 1146 tq_1146 rfl
theorem tw_1147 : (Jvm.Cond.code ({ cls := "SandRipplesModel", name := "offBy", desc := "(II)J" } : Jvm.MethodName) prog_9_method_53_code (8 : Nat) (Option.some Jvm.ClassFile.FieldType.long)) ∈ am_Tg := am_in_t 1147 tq_1147 rfl
theorem tw_1148 : (Jvm.Cond.methodLink "SandRipplesLaw" (107 : Nat) ({ cls := "SandRipplesModel", name := "best", desc := "(III)I" } : Jvm.MethodName)) ∈ am_Tg := am_in_t 1148 tq_1148 rfl
theorem tw_1149 : (Jvm.Cond.instanceMethod ({ cls := "SandRipplesModel", name := "best", desc := "(III)I" } : Jvm.MethodName)) ∈ am_Tg := am_in_t 1149 tq_1149 rfl
theorem tw_1150 : (Jvm.Cond.selects "SandRipplesModel" ({ cls := "SandRipplesModel", name := "best", desc := "(III)I" } : Jvm.MethodName) ({ cls := "SandRipplesModel", name := "best", desc := "(III)I" } : Jvm.MethodName)) ∈ am_Tg := am_in_t 1150 tq_1150 rfl
theorem tw_1151 : (Jvm.Cond.code ({ cls := "SandRipplesModel", name := "best", desc := "(III)I" } : Jvm.MethodName) prog_9_method_55_code (10 : Nat) (Option.some Jvm.ClassFile.FieldType.int)) ∈ am_Tg := am_in_t 1151 tq_1151 rfl
theorem tw_1152 : (Jvm.Cond.methodLink "SandRipplesLaw" (111 : Nat) ({ cls := "SandRipplesModel", name := "feed", desc := "(III)I" } : Jvm.MethodName)) ∈ am_Tg := am_in_t 1152 tq_1152 rfl
theorem tw_1153 : (Jvm.Cond.instanceMethod ({ cls := "SandRipplesModel", name := "feed", desc := "(III)I" } : Jvm.MethodName)) ∈ am_Tg := am_in_t 1153 tq_1153 rfl
theorem tw_1154 : (Jvm.Cond.selects "SandRipplesModel" ({ cls := "SandRipplesModel", name := "feed", desc := "(III)I" } : Jvm.MethodName) ({ cls := "SandRipplesModel", name := "feed", desc := "(III)I" } : Jvm.MethodName)) ∈ am_Tg := am_in_t 1154 tq_1154 rfl
theorem tw_1155 : (Jvm.Cond.code ({ cls := "SandRipplesModel", name := "feed", desc := "(III)I" } : Jvm.MethodName) prog_9_method_56_code (6 : Nat) (Option.some Jvm.ClassFile.FieldType.int)) ∈ am_Tg := am_in_t 1155 tq_1155 rfl
theorem tw_1156 : (Jvm.Cond.methodLink "SandRipplesLaw" (115 : Nat) ({ cls := "SandRipplesModel", name := "trim", desc := "(I)I" } : Jvm.MethodName)) ∈ am_Tg := am_in_t 1156 tq_1156 rfl
theorem tw_1157 : (Jvm.Cond.instanceMethod ({ cls := "SandRipplesModel", name := "trim", desc := "(I)I" } : Jvm.MethodName)) ∈ am_Tg := am_in_t 1157 tq_1157 rfl
theorem tw_1158 : (Jvm.Cond.selects "SandRipplesModel" ({ cls := "SandRipplesModel", name := "trim", desc := "(I)I" } : Jvm.MethodName) ({ cls := "SandRipplesModel", name := "trim", desc := "(I)I" } : Jvm.MethodName)) ∈ am_Tg := am_in_t 1158 tq_1158 rfl
theorem tw_1159 : (Jvm.Cond.code ({ cls := "SandRipplesModel", name := "trim", desc := "(I)I" } : Jvm.MethodName) prog_9_method_57_code (2 : Nat) (Option.some Jvm.ClassFile.FieldType.int)) ∈ am_Tg := am_in_t 1159 tq_1159 rfl
theorem tw_1160 : (Jvm.Cond.methodLink "SandRipplesLaw" (120 : Nat) ({ cls := "SandRipplesModel", name := "text", desc := "()I" } : Jvm.MethodName)) ∈ am_Tg := am_in_t 1160 tq_1160 rfl
theorem tw_1161 : (Jvm.Cond.instanceMethod ({ cls := "SandRipplesModel", name := "text", desc := "()I" } : Jvm.MethodName)) ∈ am_Tg := am_in_t 1161 tq_1161 rfl
theorem tw_1162 : (Jvm.Cond.selects "SandRipplesModel" ({ cls := "SandRipplesModel", name := "text", desc := "()I" } : Jvm.MethodName) ({ cls := "SandRipplesModel", name := "text", desc := "()I" } : Jvm.MethodName)) ∈ am_Tg := am_in_t 1162 tq_1162 rfl
theorem tw_1163 : (Jvm.Cond.code ({ cls := "SandRipplesModel", name := "text", desc := "()I" } : Jvm.MethodName) prog_9_method_69_code (4 : Nat) (Option.some Jvm.ClassFile.FieldType.int)) ∈ am_Tg := am_in_t 1163 tq_1163 rfl
theorem tw_1164 : (Jvm.Cond.methodLink "SandRipplesModel" (221 : Nat) ({ cls := "SandRipplesModel", name := "go", desc := "()V" } : Jvm.MethodName)) ∈ am_Tg := am_in_t 1164 tq_1164 rfl
theorem tw_1166 : (Jvm.Cond.instanceMethod ({ cls := "SandRipplesModel", name := "go", desc := "()V" } : Jvm.MethodName)) ∈ am_Tg := am_in_t 1166 tq_1166 rfl
theorem tw_1167 : (Jvm.Cond.code ({ cls := "SandRipplesModel", name := "go", desc := "()V" } : Jvm.MethodName) prog_9_method_60_code (2 : Nat) (Option.none : Option Jvm.ClassFile.FieldType)) ∈ am_Tg := am_in_t 1167 tq_1167 rfl
theorem tw_1168 : (Jvm.Cond.methodLink "SandRipplesModel" (209 : Nat) ({ cls := "SandRipplesModel", name := "isLetter", desc := "(I)Z" } : Jvm.MethodName)) ∈ am_Tg := am_in_t 1168 tq_1168 rfl
theorem tw_1170 : (Jvm.Cond.instanceMethod ({ cls := "SandRipplesModel", name := "isLetter", desc := "(I)Z" } : Jvm.MethodName)) ∈ am_Tg := am_in_t 1170 tq_1170 rfl
theorem tw_1171 : (Jvm.Cond.code ({ cls := "SandRipplesModel", name := "isLetter", desc := "(I)Z" } : Jvm.MethodName) prog_9_method_58_code (2 : Nat) (Option.some Jvm.ClassFile.FieldType.boolean)) ∈ am_Tg := am_in_t 1171 tq_1171 rfl
theorem tw_1172 : (Jvm.Cond.methodLink "SandRipplesModel" (215 : Nat) ({ cls := "SandRipplesModel", name := "isFigure", desc := "(I)Z" } : Jvm.MethodName)) ∈ am_Tg := am_in_t 1172 tq_1172 rfl
theorem tw_1174 : (Jvm.Cond.instanceMethod ({ cls := "SandRipplesModel", name := "isFigure", desc := "(I)Z" } : Jvm.MethodName)) ∈ am_Tg := am_in_t 1174 tq_1174 rfl
theorem tw_1175 : (Jvm.Cond.code ({ cls := "SandRipplesModel", name := "isFigure", desc := "(I)Z" } : Jvm.MethodName) prog_9_method_59_code (2 : Nat) (Option.some Jvm.ClassFile.FieldType.boolean)) ∈ am_Tg := am_in_t 1175 tq_1175 rfl
theorem tw_1176 : (Jvm.Cond.methodLink "SandRipplesModel" (252 : Nat) ({ cls := "SandRipplesModel", name := "takesKey", desc := "()Z" } : Jvm.MethodName)) ∈ am_Tg := am_in_t 1176 tq_1176 rfl
theorem tw_1178 : (Jvm.Cond.instanceMethod ({ cls := "SandRipplesModel", name := "takesKey", desc := "()Z" } : Jvm.MethodName)) ∈ am_Tg := am_in_t 1178 tq_1178 rfl
theorem tw_1179 : (Jvm.Cond.code ({ cls := "SandRipplesModel", name := "takesKey", desc := "()Z" } : Jvm.MethodName) prog_9_method_61_code (5 : Nat) (Option.some Jvm.ClassFile.FieldType.boolean)) ∈ am_Tg := am_in_t 1179 tq_1179 rfl
theorem tw_1180 : (Jvm.Cond.methodLink "SandRipplesModel" (255 : Nat) ({ cls := "SandRipplesModel", name := "takesE", desc := "()Z" } : Jvm.MethodName)) ∈ am_Tg := am_in_t 1180 tq_1180 rfl
theorem tw_1182 : (Jvm.Cond.instanceMethod ({ cls := "SandRipplesModel", name := "takesE", desc := "()Z" } : Jvm.MethodName)) ∈ am_Tg := am_in_t 1182 tq_1182 rfl
theorem tw_1183 : (Jvm.Cond.code ({ cls := "SandRipplesModel", name := "takesE", desc := "()Z" } : Jvm.MethodName) prog_9_method_67_code (5 : Nat) (Option.some Jvm.ClassFile.FieldType.boolean)) ∈ am_Tg := am_in_t 1183 tq_1183 rfl
theorem tw_1184 : (Jvm.Cond.methodLink "SandRipplesModel" (242 : Nat) ({ cls := "SandRipplesModel", name := "takesPart", desc := "()Z" } : Jvm.MethodName)) ∈ am_Tg := am_in_t 1184 tq_1184 rfl
theorem tw_1186 : (Jvm.Cond.instanceMethod ({ cls := "SandRipplesModel", name := "takesPart", desc := "()Z" } : Jvm.MethodName)) ∈ am_Tg := am_in_t 1186 tq_1186 rfl
theorem tw_1187 : (Jvm.Cond.code ({ cls := "SandRipplesModel", name := "takesPart", desc := "()Z" } : Jvm.MethodName) prog_9_method_66_code (2 : Nat) (Option.some Jvm.ClassFile.FieldType.boolean)) ∈ am_Tg := am_in_t 1187 tq_1187 rfl
theorem tw_1188 : (Jvm.Cond.methodLink "SandRipplesModel" (233 : Nat) ({ cls := "SandRipplesModel", name := "nameOf", desc := "(I)I" } : Jvm.MethodName)) ∈ am_Tg := am_in_t 1188 tq_1188 rfl
theorem tw_1190 : (Jvm.Cond.instanceMethod ({ cls := "SandRipplesModel", name := "nameOf", desc := "(I)I" } : Jvm.MethodName)) ∈ am_Tg := am_in_t 1190 tq_1190 rfl
theorem tw_1191 : (Jvm.Cond.code ({ cls := "SandRipplesModel", name := "nameOf", desc := "(I)I" } : Jvm.MethodName) prog_9_method_62_code (2 : Nat) (Option.some Jvm.ClassFile.FieldType.int)) ∈ am_Tg := am_in_t 1191 tq_1191 rfl
theorem tw_1192 : (Jvm.Cond.methodLink "SandRipplesModel" (239 : Nat) ({ cls := "SandRipplesModel", name := "settle", desc := "(I)V" } : Jvm.MethodName)) ∈ am_Tg := am_in_t 1192 tq_1192 rfl
theorem tw_1194 : (Jvm.Cond.instanceMethod ({ cls := "SandRipplesModel", name := "settle", desc := "(I)V" } : Jvm.MethodName)) ∈ am_Tg := am_in_t 1194 tq_1194 rfl
theorem tw_1195 : (Jvm.Cond.code ({ cls := "SandRipplesModel", name := "settle", desc := "(I)V" } : Jvm.MethodName) prog_9_method_64_code (2 : Nat) (Option.none : Option Jvm.ClassFile.FieldType)) ∈ am_Tg := am_in_t 1195 tq_1195 rfl
theorem tw_1196 : (Jvm.Cond.methodLink "SandRipplesModel" (227 : Nat) ({ cls := "SandRipplesModel", name := "rank", desc := "(I)I" } : Jvm.MethodName)) ∈ am_Tg := am_in_t 1196 tq_1196 rfl
theorem tw_1197 : (Jvm.Cond.static ({ cls := "SandRipplesModel", name := "rank", desc := "(I)I" } : Jvm.MethodName)) ∈ am_Tg := am_in_t 1197 tq_1197 rfl
theorem tw_1198 : (Jvm.Cond.code ({ cls := "SandRipplesModel", name := "rank", desc := "(I)I" } : Jvm.MethodName) prog_9_method_63_code (1 : Nat) (Option.some Jvm.ClassFile.FieldType.int)) ∈ am_Tg := am_in_t 1198 tq_1198 rfl
theorem tw_1199 : (Jvm.Cond.methodLink "SandRipplesModel" (246 : Nat) ({ cls := "SandRipplesModel", name := "notsOpen", desc := "()I" } : Jvm.MethodName)) ∈ am_Tg := am_in_t 1199 tq_1199 rfl
theorem tw_1201 : (Jvm.Cond.instanceMethod ({ cls := "SandRipplesModel", name := "notsOpen", desc := "()I" } : Jvm.MethodName)) ∈ am_Tg := am_in_t 1201 tq_1201 rfl
theorem tw_1202 : (Jvm.Cond.code ({ cls := "SandRipplesModel", name := "notsOpen", desc := "()I" } : Jvm.MethodName) prog_9_method_68_code (3 : Nat) (Option.some Jvm.ClassFile.FieldType.int)) ∈ am_Tg := am_in_t 1202 tq_1202 rfl
theorem tw_1203 : (Jvm.Cond.methodLink "SandRipplesModel" (249 : Nat) ({ cls := "SandRipplesModel", name := "signHere", desc := "()I" } : Jvm.MethodName)) ∈ am_Tg := am_in_t 1203 tq_1203 rfl
theorem tw_1205 : (Jvm.Cond.instanceMethod ({ cls := "SandRipplesModel", name := "signHere", desc := "()I" } : Jvm.MethodName)) ∈ am_Tg := am_in_t 1205 tq_1205 rfl
theorem tw_1206 : (Jvm.Cond.code ({ cls := "SandRipplesModel", name := "signHere", desc := "()I" } : Jvm.MethodName) prog_9_method_65_code (1 : Nat) (Option.some Jvm.ClassFile.FieldType.int)) ∈ am_Tg := am_in_t 1206 tq_1206 rfl
theorem tw_1207 : (Jvm.Cond.methodLink "SandRipplesLaw" (124 : Nat) ({ cls := "SandRipplesModel", name := "textTold", desc := "(II)I" } : Jvm.MethodName)) ∈ am_Tg := am_in_t 1207 tq_1207 rfl
theorem tw_1208 : (Jvm.Cond.instanceMethod ({ cls := "SandRipplesModel", name := "textTold", desc := "(II)I" } : Jvm.MethodName)) ∈ am_Tg := am_in_t 1208 tq_1208 rfl
theorem tw_1209 : (Jvm.Cond.selects "SandRipplesModel" ({ cls := "SandRipplesModel", name := "textTold", desc := "(II)I" } : Jvm.MethodName) ({ cls := "SandRipplesModel", name := "textTold", desc := "(II)I" } : Jvm.MethodName)) ∈ am_Tg := am_in_t 1209 tq_1209 rfl
theorem tw_1210 : (Jvm.Cond.code ({ cls := "SandRipplesModel", name := "textTold", desc := "(II)I" } : Jvm.MethodName) prog_9_method_70_code (3 : Nat) (Option.some Jvm.ClassFile.FieldType.int)) ∈ am_Tg := am_in_t 1210 tq_1210 rfl
theorem tw_1211 : (Jvm.Cond.methodLink "SandRipplesLaw" (128 : Nat) ({ cls := "SandRipplesModel", name := "why", desc := "(I)I" } : Jvm.MethodName)) ∈ am_Tg := am_in_t 1211 tq_1211 rfl
theorem tw_1212 : (Jvm.Cond.instanceMethod ({ cls := "SandRipplesModel", name := "why", desc := "(I)I" } : Jvm.MethodName)) ∈ am_Tg := am_in_t 1212 tq_1212 rfl
theorem tw_1213 : (Jvm.Cond.selects "SandRipplesModel" ({ cls := "SandRipplesModel", name := "why", desc := "(I)I" } : Jvm.MethodName) ({ cls := "SandRipplesModel", name := "why", desc := "(I)I" } : Jvm.MethodName)) ∈ am_Tg := am_in_t 1213 tq_1213 rfl
theorem tw_1214 : (Jvm.Cond.code ({ cls := "SandRipplesModel", name := "why", desc := "(I)I" } : Jvm.MethodName) prog_9_method_72_code (3 : Nat) (Option.some Jvm.ClassFile.FieldType.int)) ∈ am_Tg := am_in_t 1214 tq_1214 rfl
theorem tw_1215 : (Jvm.Cond.methodLink "SandRipplesLaw" (132 : Nat) ({ cls := "SandRipplesModel", name := "sheet", desc := "(III)I" } : Jvm.MethodName)) ∈ am_Tg := am_in_t 1215 tq_1215 rfl
theorem tw_1216 : (Jvm.Cond.instanceMethod ({ cls := "SandRipplesModel", name := "sheet", desc := "(III)I" } : Jvm.MethodName)) ∈ am_Tg := am_in_t 1216 tq_1216 rfl
theorem tw_1217 : (Jvm.Cond.selects "SandRipplesModel" ({ cls := "SandRipplesModel", name := "sheet", desc := "(III)I" } : Jvm.MethodName) ({ cls := "SandRipplesModel", name := "sheet", desc := "(III)I" } : Jvm.MethodName)) ∈ am_Tg := am_in_t 1217 tq_1217 rfl
theorem tw_1218 : (Jvm.Cond.code ({ cls := "SandRipplesModel", name := "sheet", desc := "(III)I" } : Jvm.MethodName) prog_9_method_77_code (5 : Nat) (Option.some Jvm.ClassFile.FieldType.int)) ∈ am_Tg := am_in_t 1218 tq_1218 rfl
theorem tw_1219 : (Jvm.Cond.constant "SandRipplesModel" (261 : Nat) (-1000000014 : Int32)) ∈ am_Tg := am_in_t 1219 tq_1219 rfl
theorem tw_1220 : (Jvm.Cond.methodLink "SandRipplesLaw" (136 : Nat) ({ cls := "SandRipplesModel", name := "mark", desc := "(III)I" } : Jvm.MethodName)) ∈ am_Tg := am_in_t 1220 tq_1220 rfl
theorem tw_1221 : (Jvm.Cond.instanceMethod ({ cls := "SandRipplesModel", name := "mark", desc := "(III)I" } : Jvm.MethodName)) ∈ am_Tg := am_in_t 1221 tq_1221 rfl
theorem tw_1222 : (Jvm.Cond.selects "SandRipplesModel" ({ cls := "SandRipplesModel", name := "mark", desc := "(III)I" } : Jvm.MethodName) ({ cls := "SandRipplesModel", name := "mark", desc := "(III)I" } : Jvm.MethodName)) ∈ am_Tg := am_in_t 1222 tq_1222 rfl
theorem tw_1223 : (Jvm.Cond.code ({ cls := "SandRipplesModel", name := "mark", desc := "(III)I" } : Jvm.MethodName) prog_9_method_78_code (4 : Nat) (Option.some Jvm.ClassFile.FieldType.int)) ∈ am_Tg := am_in_t 1223 tq_1223 rfl
theorem tw_1224 : (Jvm.Cond.constant "SandRipplesModel" (262 : Nat) (-1000000013 : Int32)) ∈ am_Tg := am_in_t 1224 tq_1224 rfl
theorem tw_1225 : (Jvm.Cond.constant "SandRipplesModel" (263 : Nat) (-99999 : Int32)) ∈ am_Tg := am_in_t 1225 tq_1225 rfl
theorem tw_1226 : (Jvm.Cond.constant "SandRipplesModel" (264 : Nat) (99999 : Int32)) ∈ am_Tg := am_in_t 1226 tq_1226 rfl
theorem tw_1227 : (Jvm.Cond.methodLink "SandRipplesLaw" (140 : Nat) ({ cls := "SandRipplesModel", name := "pour", desc := "(II)I" } : Jvm.MethodName)) ∈ am_Tg := am_in_t 1227 tq_1227 rfl
theorem tw_1228 : (Jvm.Cond.instanceMethod ({ cls := "SandRipplesModel", name := "pour", desc := "(II)I" } : Jvm.MethodName)) ∈ am_Tg := am_in_t 1228 tq_1228 rfl
theorem tw_1229 : (Jvm.Cond.selects "SandRipplesModel" ({ cls := "SandRipplesModel", name := "pour", desc := "(II)I" } : Jvm.MethodName) ({ cls := "SandRipplesModel", name := "pour", desc := "(II)I" } : Jvm.MethodName)) ∈ am_Tg := am_in_t 1229 tq_1229 rfl
theorem tw_1230 : (Jvm.Cond.code ({ cls := "SandRipplesModel", name := "pour", desc := "(II)I" } : Jvm.MethodName) prog_9_method_79_code (7 : Nat) (Option.some Jvm.ClassFile.FieldType.int)) ∈ am_Tg := am_in_t 1230 tq_1230 rfl
theorem tw_1231 : (Jvm.Cond.methodLink "SandRipplesLaw" (144 : Nat) ({ cls := "SandRipplesModel", name := "reads", desc := "(II)I" } : Jvm.MethodName)) ∈ am_Tg := am_in_t 1231 tq_1231 rfl
theorem tw_1232 : (Jvm.Cond.instanceMethod ({ cls := "SandRipplesModel", name := "reads", desc := "(II)I" } : Jvm.MethodName)) ∈ am_Tg := am_in_t 1232 tq_1232 rfl
theorem tw_1233 : (Jvm.Cond.selects "SandRipplesModel" ({ cls := "SandRipplesModel", name := "reads", desc := "(II)I" } : Jvm.MethodName) ({ cls := "SandRipplesModel", name := "reads", desc := "(II)I" } : Jvm.MethodName)) ∈ am_Tg := am_in_t 1233 tq_1233 rfl
theorem tw_1234 : (Jvm.Cond.code ({ cls := "SandRipplesModel", name := "reads", desc := "(II)I" } : Jvm.MethodName) prog_9_method_80_code (5 : Nat) (Option.some Jvm.ClassFile.FieldType.int)) ∈ am_Tg := am_in_t 1234 tq_1234 rfl
theorem tw_1235 : (Jvm.Cond.methodLink "SandRipplesLaw" (149 : Nat) ({ cls := "SandRipplesModel", name := "copy", desc := "(IIIII)I" } : Jvm.MethodName)) ∈ am_Tg := am_in_t 1235 tq_1235 rfl
theorem tw_1236 : (Jvm.Cond.instanceMethod ({ cls := "SandRipplesModel", name := "copy", desc := "(IIIII)I" } : Jvm.MethodName)) ∈ am_Tg := am_in_t 1236 tq_1236 rfl
theorem tw_1237 : (Jvm.Cond.selects "SandRipplesModel" ({ cls := "SandRipplesModel", name := "copy", desc := "(IIIII)I" } : Jvm.MethodName) ({ cls := "SandRipplesModel", name := "copy", desc := "(IIIII)I" } : Jvm.MethodName)) ∈ am_Tg := am_in_t 1237 tq_1237 rfl
theorem tw_1238 : (Jvm.Cond.code ({ cls := "SandRipplesModel", name := "copy", desc := "(IIIII)I" } : Jvm.MethodName) prog_9_method_81_code (7 : Nat) (Option.some Jvm.ClassFile.FieldType.int)) ∈ am_Tg := am_in_t 1238 tq_1238 rfl
theorem tw_1239 : (Jvm.Cond.methodLink "SandRipplesLaw" (153 : Nat) ({ cls := "SandRipplesModel", name := "lay", desc := "(III)I" } : Jvm.MethodName)) ∈ am_Tg := am_in_t 1239 tq_1239 rfl
theorem tw_1240 : (Jvm.Cond.instanceMethod ({ cls := "SandRipplesModel", name := "lay", desc := "(III)I" } : Jvm.MethodName)) ∈ am_Tg := am_in_t 1240 tq_1240 rfl
theorem tw_1241 : (Jvm.Cond.selects "SandRipplesModel" ({ cls := "SandRipplesModel", name := "lay", desc := "(III)I" } : Jvm.MethodName) ({ cls := "SandRipplesModel", name := "lay", desc := "(III)I" } : Jvm.MethodName)) ∈ am_Tg := am_in_t 1241 tq_1241 rfl
theorem tw_1242 : (Jvm.Cond.code ({ cls := "SandRipplesModel", name := "lay", desc := "(III)I" } : Jvm.MethodName) prog_9_method_82_code (6 : Nat) (Option.some Jvm.ClassFile.FieldType.int)) ∈ am_Tg := am_in_t 1242 tq_1242 rfl
theorem tw_1243 : (Jvm.Cond.methodLink "SandRipplesModel" (265 : Nat) ({ cls := "SandRipplesModel", name := "isSlot", desc := "(I)Z" } : Jvm.MethodName)) ∈ am_Tg := am_in_t 1243 tq_1243 rfl
theorem tw_1244 : (Jvm.Cond.static ({ cls := "SandRipplesModel", name := "isSlot", desc := "(I)Z" } : Jvm.MethodName)) ∈ am_Tg := am_in_t 1244 tq_1244 rfl
theorem tw_1245 : (Jvm.Cond.code ({ cls := "SandRipplesModel", name := "isSlot", desc := "(I)Z" } : Jvm.MethodName) prog_9_method_76_code (1 : Nat) (Option.some Jvm.ClassFile.FieldType.boolean)) ∈ am_Tg := am_in_t 1245 tq_1245 rfl
theorem tw_1246 : (Jvm.Cond.methodLink "SandRipplesLaw" (157 : Nat) ({ cls := "SandRipplesModel", name := "ask", desc := "(II)I" } : Jvm.MethodName)) ∈ am_Tg := am_in_t 1246 tq_1246 rfl
theorem tw_1247 : (Jvm.Cond.instanceMethod ({ cls := "SandRipplesModel", name := "ask", desc := "(II)I" } : Jvm.MethodName)) ∈ am_Tg := am_in_t 1247 tq_1247 rfl
theorem tw_1248 : (Jvm.Cond.selects "SandRipplesModel" ({ cls := "SandRipplesModel", name := "ask", desc := "(II)I" } : Jvm.MethodName) ({ cls := "SandRipplesModel", name := "ask", desc := "(II)I" } : Jvm.MethodName)) ∈ am_Tg := am_in_t 1248 tq_1248 rfl
theorem tw_1249 : (Jvm.Cond.code ({ cls := "SandRipplesModel", name := "ask", desc := "(II)I" } : Jvm.MethodName) prog_9_method_83_code (3 : Nat) (Option.some Jvm.ClassFile.FieldType.int)) ∈ am_Tg := am_in_t 1249 tq_1249 rfl
theorem tw_1250 : (Jvm.Cond.methodLink "SandRipplesLaw" (161 : Nat) ({ cls := "SandRipplesModel", name := "item", desc := "(II)I" } : Jvm.MethodName)) ∈ am_Tg := am_in_t 1250 tq_1250 rfl
theorem tw_1251 : (Jvm.Cond.instanceMethod ({ cls := "SandRipplesModel", name := "item", desc := "(II)I" } : Jvm.MethodName)) ∈ am_Tg := am_in_t 1251 tq_1251 rfl
theorem tw_1252 : (Jvm.Cond.selects "SandRipplesModel" ({ cls := "SandRipplesModel", name := "item", desc := "(II)I" } : Jvm.MethodName) ({ cls := "SandRipplesModel", name := "item", desc := "(II)I" } : Jvm.MethodName)) ∈ am_Tg := am_in_t 1252 tq_1252 rfl
theorem tw_1253 : (Jvm.Cond.code ({ cls := "SandRipplesModel", name := "item", desc := "(II)I" } : Jvm.MethodName) prog_9_method_84_code (4 : Nat) (Option.some Jvm.ClassFile.FieldType.int)) ∈ am_Tg := am_in_t 1253 tq_1253 rfl
theorem tw_1254 : (Jvm.Cond.methodLink "SandRipplesLaw" (165 : Nat) ({ cls := "SandRipplesModel", name := "rest", desc := "(II)I" } : Jvm.MethodName)) ∈ am_Tg := am_in_t 1254 tq_1254 rfl
theorem tw_1255 : (Jvm.Cond.instanceMethod ({ cls := "SandRipplesModel", name := "rest", desc := "(II)I" } : Jvm.MethodName)) ∈ am_Tg := am_in_t 1255 tq_1255 rfl
theorem tw_1256 : (Jvm.Cond.selects "SandRipplesModel" ({ cls := "SandRipplesModel", name := "rest", desc := "(II)I" } : Jvm.MethodName) ({ cls := "SandRipplesModel", name := "rest", desc := "(II)I" } : Jvm.MethodName)) ∈ am_Tg := am_in_t 1256 tq_1256 rfl
theorem tw_1257 : (Jvm.Cond.code ({ cls := "SandRipplesModel", name := "rest", desc := "(II)I" } : Jvm.MethodName) prog_9_method_85_code (3 : Nat) (Option.some Jvm.ClassFile.FieldType.int)) ∈ am_Tg := am_in_t 1257 tq_1257 rfl
theorem tw_1258 : (Jvm.Cond.constant "SandRipplesModel" (268 : Nat) (-1000000002 : Int32)) ∈ am_Tg := am_in_t 1258 tq_1258 rfl
theorem tw_1259 : (Jvm.Cond.methodLink "SandRipplesLaw" (169 : Nat) ({ cls := "SandRipplesModel", name := "tell", desc := "(I)I" } : Jvm.MethodName)) ∈ am_Tg := am_in_t 1259 tq_1259 rfl
theorem tw_1260 : (Jvm.Cond.instanceMethod ({ cls := "SandRipplesModel", name := "tell", desc := "(I)I" } : Jvm.MethodName)) ∈ am_Tg := am_in_t 1260 tq_1260 rfl
theorem tw_1261 : (Jvm.Cond.selects "SandRipplesModel" ({ cls := "SandRipplesModel", name := "tell", desc := "(I)I" } : Jvm.MethodName) ({ cls := "SandRipplesModel", name := "tell", desc := "(I)I" } : Jvm.MethodName)) ∈ am_Tg := am_in_t 1261 tq_1261 rfl
theorem tw_1262 : (Jvm.Cond.code ({ cls := "SandRipplesModel", name := "tell", desc := "(I)I" } : Jvm.MethodName) prog_9_method_86_code (2 : Nat) (Option.some Jvm.ClassFile.FieldType.int)) ∈ am_Tg := am_in_t 1262 tq_1262 rfl
theorem tw_1263 : (Jvm.Cond.methodLink "SandRipplesLaw" (173 : Nat) ({ cls := "SandRipplesModel", name := "check", desc := "(II)I" } : Jvm.MethodName)) ∈ am_Tg := am_in_t 1263 tq_1263 rfl
theorem tw_1264 : (Jvm.Cond.instanceMethod ({ cls := "SandRipplesModel", name := "check", desc := "(II)I" } : Jvm.MethodName)) ∈ am_Tg := am_in_t 1264 tq_1264 rfl
theorem tw_1265 : (Jvm.Cond.selects "SandRipplesModel" ({ cls := "SandRipplesModel", name := "check", desc := "(II)I" } : Jvm.MethodName) ({ cls := "SandRipplesModel", name := "check", desc := "(II)I" } : Jvm.MethodName)) ∈ am_Tg := am_in_t 1265 tq_1265 rfl
theorem tw_1266 : (Jvm.Cond.code ({ cls := "SandRipplesModel", name := "check", desc := "(II)I" } : Jvm.MethodName) prog_9_method_87_code (7 : Nat) (Option.some Jvm.ClassFile.FieldType.int)) ∈ am_Tg := am_in_t 1266 tq_1266 rfl
theorem tw_1267 : (Jvm.Cond.methodLink "SandRipplesModel" (276 : Nat) ({ cls := "SandRipplesModel", name := "copyAll", desc := "([I[I)V" } : Jvm.MethodName)) ∈ am_Tg := am_in_t 1267 tq_1267 rfl
theorem tw_1268 : (Jvm.Cond.static ({ cls := "SandRipplesModel", name := "copyAll", desc := "([I[I)V" } : Jvm.MethodName)) ∈ am_Tg := am_in_t 1268 tq_1268 rfl
theorem tw_1269 : (Jvm.Cond.code ({ cls := "SandRipplesModel", name := "copyAll", desc := "([I[I)V" } : Jvm.MethodName) prog_9_method_4_code (3 : Nat) (Option.none : Option Jvm.ClassFile.FieldType)) ∈ am_Tg := am_in_t 1269 tq_1269 rfl
theorem tw_1270 : (Jvm.Cond.methodLink "SandRipplesLaw" (177 : Nat) ({ cls := "SandRipplesModel", name := "keep", desc := "()I" } : Jvm.MethodName)) ∈ am_Tg := am_in_t 1270 tq_1270 rfl
theorem tw_1271 : (Jvm.Cond.instanceMethod ({ cls := "SandRipplesModel", name := "keep", desc := "()I" } : Jvm.MethodName)) ∈ am_Tg := am_in_t 1271 tq_1271 rfl
theorem tw_1272 : (Jvm.Cond.selects "SandRipplesModel" ({ cls := "SandRipplesModel", name := "keep", desc := "()I" } : Jvm.MethodName) ({ cls := "SandRipplesModel", name := "keep", desc := "()I" } : Jvm.MethodName)) ∈ am_Tg := am_in_t 1272 tq_1272 rfl
theorem tw_1273 : (Jvm.Cond.code ({ cls := "SandRipplesModel", name := "keep", desc := "()I" } : Jvm.MethodName) prog_9_method_88_code (1 : Nat) (Option.some Jvm.ClassFile.FieldType.int)) ∈ am_Tg := am_in_t 1273 tq_1273 rfl
theorem tw_1274 : (Jvm.Cond.methodLink "SandRipplesLaw" (181 : Nat) ({ cls := "SandRipplesModel", name := "back", desc := "()I" } : Jvm.MethodName)) ∈ am_Tg := am_in_t 1274 tq_1274 rfl
theorem tw_1275 : (Jvm.Cond.instanceMethod ({ cls := "SandRipplesModel", name := "back", desc := "()I" } : Jvm.MethodName)) ∈ am_Tg := am_in_t 1275 tq_1275 rfl
theorem tw_1276 : (Jvm.Cond.selects "SandRipplesModel" ({ cls := "SandRipplesModel", name := "back", desc := "()I" } : Jvm.MethodName) ({ cls := "SandRipplesModel", name := "back", desc := "()I" } : Jvm.MethodName)) ∈ am_Tg := am_in_t 1276 tq_1276 rfl
theorem tw_1277 : (Jvm.Cond.code ({ cls := "SandRipplesModel", name := "back", desc := "()I" } : Jvm.MethodName) prog_9_method_89_code (1 : Nat) (Option.some Jvm.ClassFile.FieldType.int)) ∈ am_Tg := am_in_t 1277 tq_1277 rfl
theorem tw_1278 : (Jvm.Cond.methodLink "SandRipplesLaw" (185 : Nat) ({ cls := "SandRipplesModel", name := "count", desc := "(I)I" } : Jvm.MethodName)) ∈ am_Tg := am_in_t 1278 tq_1278 rfl
theorem tw_1279 : (Jvm.Cond.instanceMethod ({ cls := "SandRipplesModel", name := "count", desc := "(I)I" } : Jvm.MethodName)) ∈ am_Tg := am_in_t 1279 tq_1279 rfl
theorem tw_1280 : (Jvm.Cond.selects "SandRipplesModel" ({ cls := "SandRipplesModel", name := "count", desc := "(I)I" } : Jvm.MethodName) ({ cls := "SandRipplesModel", name := "count", desc := "(I)I" } : Jvm.MethodName)) ∈ am_Tg := am_in_t 1280 tq_1280 rfl
theorem tw_1281 : (Jvm.Cond.code ({ cls := "SandRipplesModel", name := "count", desc := "(I)I" } : Jvm.MethodName) prog_9_method_90_code (2 : Nat) (Option.some Jvm.ClassFile.FieldType.int)) ∈ am_Tg := am_in_t 1281 tq_1281 rfl
theorem tw_1282 : (Jvm.Cond.fieldLink "java/lang/String" (9 : Nat) "java/lang/String" "value" "[B") ∈ am_Tg := am_in_t 1282 tq_1282 rfl
theorem tw_1283 : (Jvm.Cond.fieldLink "java/lang/String" (15 : Nat) "java/lang/String" "coder" "B") ∈ am_Tg := am_in_t 1283 tq_1283 rfl
theorem tn_43 : (Jvm.Cond.fieldLinkNest "SandRipples$Sheet" (36 : Nat) "SandRipples$Floor" "sand" "[I" "SandRipples") ∈ am_nw := am_in_n 43 tq_43 rfl
theorem tn_44 : (Jvm.Cond.fieldLinkNest "SandRipples" (149 : Nat) "SandRipples$Floor" "sand" "[I" "SandRipples") ∈ am_nw := am_in_n 44 tq_44 rfl
theorem tn_46 : (Jvm.Cond.fieldLinkNest "SandRipples" (100 : Nat) "SandRipples$Floor" "tick" "I" "SandRipples") ∈ am_nw := am_in_n 46 tq_46 rfl
theorem tn_48 : (Jvm.Cond.fieldLinkNest "SandRipples" (97 : Nat) "SandRipples$Floor" "kind" "I" "SandRipples") ∈ am_nw := am_in_n 48 tq_48 rfl
theorem tn_58 : (Jvm.Cond.fieldLinkNest "SandRipples" (85 : Nat) "SandRipples$World" "floors" "[LSandRipples$Floor;" "SandRipples") ∈ am_nw := am_in_n 58 tq_58 rfl
theorem tn_60 : (Jvm.Cond.fieldLinkNest "SandRipples" (81 : Nat) "SandRipples$World" "floorCount" "I" "SandRipples") ∈ am_nw := am_in_n 60 tq_60 rfl
theorem tn_62 : (Jvm.Cond.fieldLinkNest "SandRipples" (143 : Nat) "SandRipples$World" "sea" "[I" "SandRipples") ∈ am_nw := am_in_n 62 tq_62 rfl
theorem tn_64 : (Jvm.Cond.fieldLinkNest "SandRipples" (155 : Nat) "SandRipples$World" "z" "I" "SandRipples") ∈ am_nw := am_in_n 64 tq_64 rfl
theorem tn_66 : (Jvm.Cond.fieldLinkNest "SandRipples" (221 : Nat) "SandRipples$World" "textCount" "I" "SandRipples") ∈ am_nw := am_in_n 66 tq_66 rfl
theorem tn_68 : (Jvm.Cond.fieldLinkNest "SandRipples" (228 : Nat) "SandRipples$World" "laws" "[I" "SandRipples") ∈ am_nw := am_in_n 68 tq_68 rfl
theorem tn_91 : (Jvm.Cond.fieldLinkNest "SandRipples$Text" (25 : Nat) "SandRipples$Reader" "key" "I" "SandRipples") ∈ am_nw := am_in_n 91 tq_91 rfl
theorem tn_93 : (Jvm.Cond.fieldLinkNest "SandRipples$Text" (28 : Nat) "SandRipples$Reader" "leaves" "I" "SandRipples") ∈ am_nw := am_in_n 93 tq_93 rfl
theorem tn_95 : (Jvm.Cond.fieldLinkNest "SandRipples$Text" (29 : Nat) "SandRipples$Reader" "length" "I" "SandRipples") ∈ am_nw := am_in_n 95 tq_95 rfl
theorem tn_97 : (Jvm.Cond.fieldLinkNest "SandRipples$Text" (30 : Nat) "SandRipples$Reader" "steps" "[I" "SandRipples") ∈ am_nw := am_in_n 97 tq_97 rfl
theorem tn_132 : (Jvm.Cond.fieldLinkNest "SandRipples" (231 : Nat) "SandRipples$Text" "key" "I" "SandRipples") ∈ am_nw := am_in_n 132 tq_132 rfl
theorem tn_134 : (Jvm.Cond.fieldLinkNest "SandRipples" (234 : Nat) "SandRipples$Text" "leaves" "I" "SandRipples") ∈ am_nw := am_in_n 134 tq_134 rfl
theorem tn_152 : (Jvm.Cond.fieldLinkNest "SandRipples" (199 : Nat) "SandRipples$Sheet" "sort" "I" "SandRipples") ∈ am_nw := am_in_n 152 tq_152 rfl
theorem tn_155 : (Jvm.Cond.fieldLinkNest "SandRipples" (245 : Nat) "SandRipples$Sheet" "places" "[I" "SandRipples") ∈ am_nw := am_in_n 155 tq_155 rfl
theorem tn_173 : (Jvm.Cond.fieldLinkNest "SandRipples" (269 : Nat) "SandRipples$Slot" "thing" "I" "SandRipples") ∈ am_nw := am_in_n 173 tq_173 rfl
theorem tn_175 : (Jvm.Cond.fieldLinkNest "SandRipples" (272 : Nat) "SandRipples$Slot" "floor" "LSandRipples$Floor;" "SandRipples") ∈ am_nw := am_in_n 175 tq_175 rfl
theorem tn_177 : (Jvm.Cond.fieldLinkNest "SandRipples" (280 : Nat) "SandRipples$Slot" "sheet" "LSandRipples$Sheet;" "SandRipples") ∈ am_nw := am_in_n 177 tq_177 rfl
theorem tn_179 : (Jvm.Cond.fieldLinkNest "SandRipples" (287 : Nat) "SandRipples$Slot" "number" "I" "SandRipples") ∈ am_nw := am_in_n 179 tq_179 rfl
theorem tn_241 : (Jvm.Cond.methodLinkNest "SandRipples" (89 : Nat) ({ cls := "SandRipples$Floor", name := "begin", desc := "(I)V" } : Jvm.MethodName) "SandRipples") ∈ am_nw := am_in_n 241 tq_241 rfl
theorem tn_253 : (Jvm.Cond.methodLinkNest "SandRipples" (103 : Nat) ({ cls := "SandRipples$Floor", name := "total", desc := "()I" } : Jvm.MethodName) "SandRipples") ∈ am_nw := am_in_n 253 tq_253 rfl
theorem tn_257 : (Jvm.Cond.methodLinkNest "SandRipples" (107 : Nat) ({ cls := "SandRipples$Floor", name := "greatest", desc := "()I" } : Jvm.MethodName) "SandRipples") ∈ am_nw := am_in_n 257 tq_257 rfl
theorem tn_262 : (Jvm.Cond.methodLinkNest "SandRipples" (110 : Nat) ({ cls := "SandRipples$Floor", name := "least", desc := "()I" } : Jvm.MethodName) "SandRipples") ∈ am_nw := am_in_n 262 tq_262 rfl
theorem tn_269 : (Jvm.Cond.methodLinkNest "SandRipples" (113 : Nat) ({ cls := "SandRipples$Floor", name := "crests", desc := "()I" } : Jvm.MethodName) "SandRipples") ∈ am_nw := am_in_n 269 tq_269 rfl
theorem tn_277 : (Jvm.Cond.methodLinkNest "SandRipples$Floor" (37 : Nat) ({ cls := "SandRipples", name := "aheadOf", desc := "(I)I" } : Jvm.MethodName) "SandRipples") ∈ am_nw := am_in_n 277 tq_277 rfl
theorem tn_280 : (Jvm.Cond.methodLinkNest "SandRipples$Floor" (41 : Nat) ({ cls := "SandRipples", name := "nextOf", desc := "(I)I" } : Jvm.MethodName) "SandRipples") ∈ am_nw := am_in_n 280 tq_280 rfl
theorem tn_283 : (Jvm.Cond.methodLinkNest "SandRipples" (116 : Nat) ({ cls := "SandRipples$Floor", name := "lean", desc := "()I" } : Jvm.MethodName) "SandRipples") ∈ am_nw := am_in_n 283 tq_283 rfl
theorem tn_290 : (Jvm.Cond.methodLinkNest "SandRipples" (119 : Nat) ({ cls := "SandRipples$Floor", name := "worth", desc := "()I" } : Jvm.MethodName) "SandRipples") ∈ am_nw := am_in_n 290 tq_290 rfl
theorem tn_303 : (Jvm.Cond.methodLinkNest "SandRipples" (126 : Nat) ({ cls := "SandRipples$Floor", name := "way", desc := "()I" } : Jvm.MethodName) "SandRipples") ∈ am_nw := am_in_n 303 tq_303 rfl
theorem tn_311 : (Jvm.Cond.methodLinkNest "SandRipples" (169 : Nat) ({ cls := "SandRipples$Floor", name := "isCrest", desc := "(I)Z" } : Jvm.MethodName) "SandRipples") ∈ am_nw := am_in_n 311 tq_311 rfl
theorem tn_313 : (Jvm.Cond.methodLinkNest "SandRipples" (308 : Nat) ({ cls := "SandRipples$Text", name := "value", desc := "([IIII)I" } : Jvm.MethodName) "SandRipples") ∈ am_nw := am_in_n 313 tq_313 rfl
theorem tn_364 : (Jvm.Cond.methodLinkNest "SandRipples" (152 : Nat) ({ cls := "SandRipples$World", name := "draw", desc := "()I" } : Jvm.MethodName) "SandRipples") ∈ am_nw := am_in_n 364 tq_364 rfl
theorem tn_432 : (Jvm.Cond.methodLinkNest "SandRipples" (322 : Nat) ({ cls := "SandRipples$World", name := "becomeSea", desc := "(LSandRipples$World;)V" } : Jvm.MethodName) "SandRipples") ∈ am_nw := am_in_n 432 tq_432 rfl
theorem tn_439 : (Jvm.Cond.methodLinkNest "SandRipples" (276 : Nat) ({ cls := "SandRipples$Floor", name := "become", desc := "(LSandRipples$Floor;)V" } : Jvm.MethodName) "SandRipples") ∈ am_nw := am_in_n 439 tq_439 rfl
theorem tn_448 : (Jvm.Cond.methodLinkNest "SandRipples" (185 : Nat) ({ cls := "SandRipples$Floor", name := "unlikeTurned", desc := "(LSandRipples$Floor;I)I" } : Jvm.MethodName) "SandRipples") ∈ am_nw := am_in_n 448 tq_448 rfl
theorem tn_452 : (Jvm.Cond.methodLinkNest "SandRipples$Floor" (69 : Nat) ({ cls := "SandRipples", name := "inRing", desc := "(I)I" } : Jvm.MethodName) "SandRipples") ∈ am_nw := am_in_n 452 tq_452 rfl
theorem tn_486 : (Jvm.Cond.methodLinkNest "SandRipples" (210 : Nat) ({ cls := "SandRipples$Sheet", name := "differences", desc := "(LSandRipples$Floor;)I" } : Jvm.MethodName) "SandRipples") ∈ am_nw := am_in_n 486 tq_486 rfl
theorem tn_520 : (Jvm.Cond.methodLinkNest "SandRipples" (217 : Nat) ({ cls := "SandRipples$Reader", name := "faultOf", desc := "([II)I" } : Jvm.MethodName) "SandRipples") ∈ am_nw := am_in_n 520 tq_520 rfl
theorem tn_711 : (Jvm.Cond.methodLinkNest "SandRipples" (224 : Nat) ({ cls := "SandRipples$Text", name := "take", desc := "(LSandRipples$Reader;)V" } : Jvm.MethodName) "SandRipples") ∈ am_nw := am_in_n 711 tq_711 rfl
theorem tn_729 : (Jvm.Cond.methodLinkNest "SandRipples" (237 : Nat) ({ cls := "SandRipples$Sheet", name := "begin", desc := "(II)V" } : Jvm.MethodName) "SandRipples") ∈ am_nw := am_in_n 729 tq_729 rfl
theorem tn_738 : (Jvm.Cond.methodLinkNest "SandRipples" (241 : Nat) ({ cls := "SandRipples$Sheet", name := "hasPlace", desc := "(I)Z" } : Jvm.MethodName) "SandRipples") ∈ am_nw := am_in_n 738 tq_738 rfl
theorem tn_746 : (Jvm.Cond.methodLinkNest "SandRipples" (250 : Nat) ({ cls := "SandRipples$Sheet", name := "isNumber", desc := "(I)Z" } : Jvm.MethodName) "SandRipples") ∈ am_nw := am_in_n 746 tq_746 rfl
theorem tn_755 : (Jvm.Cond.methodLinkNest "SandRipples" (257 : Nat) ({ cls := "SandRipples$Sheet", name := "hasStretch", desc := "(II)Z" } : Jvm.MethodName) "SandRipples") ∈ am_nw := am_in_n 755 tq_755 rfl
theorem tn_767 : (Jvm.Cond.methodLinkNest "SandRipples" (284 : Nat) ({ cls := "SandRipples$Sheet", name := "become", desc := "(LSandRipples$Sheet;)V" } : Jvm.MethodName) "SandRipples") ∈ am_nw := am_in_n 767 tq_767 rfl
theorem tn_801 : (Jvm.Cond.methodLinkNest "SandRipples" (295 : Nat) ({ cls := "SandRipples$World", name := "becomeAll", desc := "(LSandRipples$World;)V" } : Jvm.MethodName) "SandRipples") ∈ am_nw := am_in_n 801 tq_801 rfl
theorem tn_806 : (Jvm.Cond.methodLinkNest "SandRipples$World" (46 : Nat) ({ cls := "SandRipples$Floor", name := "become", desc := "(LSandRipples$Floor;)V" } : Jvm.MethodName) "SandRipples") ∈ am_nw := am_in_n 806 tq_806 rfl
theorem w_nat : Cond.native arraycopyName ∈ am_Tg := tw_438
theorem w_sta : Cond.static arraycopyName ∈ am_Tg := tw_437
theorem w_ini : Cond.initialized "java/lang/System" ∈ am_Tg := tw_11
theorem cl_0 : vwCl[0]? = some (RX0, TX0, 3) := rfl
theorem okC_0 : am_okC 0 RX0 TX0 3 tyX0 := ⟨rfl, by decide +kernel, tyX0_ok, nmX0, tw_37, tw_4⟩
theorem cl_1 : vwCl[1]? = some (RX1, TX1, 9) := rfl
theorem okC_1 : am_okC 1 RX1 TX1 9 tyX1 := ⟨rfl, by decide +kernel, tyX1_ok, nmX1, tw_85, tw_5⟩
theorem cl_2 : vwCl[2]? = some (RX2, TX2, 3) := rfl
theorem okC_2 : am_okC 2 RX2 TX2 3 tyX2 := ⟨rfl, by decide +kernel, tyX2_ok, nmX2, tw_146, tw_7⟩
theorem cl_3 : vwCl[3]? = some (RX3, TX3, 4) := rfl
theorem okC_3 : am_okC 3 RX3 TX3 4 tyX3 := ⟨rfl, by decide +kernel, tyX3_ok, nmX3, tw_163, tw_8⟩
theorem cl_4 : vwCl[4]? = some (RX4, TX4, 4) := rfl
theorem okC_4 : am_okC 4 RX4 TX4 4 tyX4 := ⟨rfl, by decide +kernel, tyX4_ok, nmX4, tw_126, tw_6⟩
theorem cl_5 : vwCl[5]? = some (RX5, TX5, 6) := rfl
theorem okC_5 : am_okC 5 RX5 TX5 6 tyX5 := ⟨rfl, by decide +kernel, tyX5_ok, nmX5, tw_26, tw_2⟩
theorem cl_6 : vwCl[6]? = some (RX6, TX6, 14) := rfl
theorem okC_6 : am_okC 6 RX6 TX6 14 tyX6 := ⟨rfl, by decide +kernel, tyX6_ok, nmX6, tw_18, tw_1⟩
theorem cl_7 : vwCl[7]? = some (RX7, TX7, 34) := rfl
theorem okC_7 : am_okC 7 RX7 TX7 34 tyX7 := ⟨rfl, by decide +kernel, tyX7_ok, nmX7, tw_816, tw_9⟩
def M_X6_isKind : am_M := (yX6_isKind, cX6_isKind, 1, (Option.some Jvm.ClassFile.FieldType.boolean), 0)
theorem ok_X6_isKind : am_okM M_X6_isKind 1 := ⟨plainFor_of_name (by decide +kernel), ⟨by decide +kernel, by decide +kernel, by decide +kernel⟩, tw_238, by decide, tw_1⟩
theorem st_X6_isKind : Cond.static M_X6_isKind.1 ∈ am_Tg := tw_237
def M_X0_begin : am_M := (yX0_begin, cX0_begin, 3, (Option.none : Option Jvm.ClassFile.FieldType), 0)
theorem ok_X0_begin : am_okM M_X0_begin 1 := ⟨plainFor_of_name (by decide +kernel), ⟨by decide +kernel, by decide +kernel, by decide +kernel⟩, tw_244, by decide, tw_4⟩
theorem in_X0_begin : Cond.instanceMethod M_X0_begin.1 ∈ am_Tg := tw_243
theorem se_X0_begin : Cond.selects M_X0_begin.1.cls M_X0_begin.1 M_X0_begin.1 ∈ am_Tg := am_in_s 0 (by decide +kernel) rfl
def M_X6_floor : am_M := (yX6_floor, cX6_floor, 2, (Option.some Jvm.ClassFile.FieldType.int), 1)
theorem ok_X6_floor : am_okM M_X6_floor 1 := ⟨plainFor_of_name (by decide +kernel), ⟨by decide +kernel, by decide +kernel, by decide +kernel⟩, tw_235, by decide, tw_1⟩
theorem in_X6_floor : Cond.instanceMethod M_X6_floor.1 ∈ am_Tg := tw_233
theorem se_X6_floor : Cond.selects M_X6_floor.1.cls M_X6_floor.1 M_X6_floor.1 ∈ am_Tg := tw_234
def M_X7_in : am_M := (yX7_in, cX7_in, 3, (Option.some Jvm.ClassFile.FieldType.boolean), 0)
theorem ok_X7_in : am_okM M_X7_in 3 := ⟨plainFor_of_name (by decide +kernel), ⟨by decide +kernel, by decide +kernel, by decide +kernel⟩, tw_932, by decide, tw_9⟩
theorem st_X7_in : Cond.static M_X7_in.1 ∈ am_Tg := tw_931
def M_X7_at : am_M := (yX7_at, cX7_at, 1, (Option.some Jvm.ClassFile.FieldType.int), 0)
theorem ok_X7_at : am_okM M_X7_at 1 := ⟨plainFor_of_name (by decide +kernel), ⟨by decide +kernel, by decide +kernel, by decide +kernel⟩, tw_937, by decide, tw_9⟩
theorem st_X7_at : Cond.static M_X7_at.1 ∈ am_Tg := tw_936
def M_X7_spot : am_M := (yX7_spot, cX7_spot, 2, (Option.some Jvm.ClassFile.FieldType.int), 1)
theorem ok_X7_spot : am_okM M_X7_spot 2 := ⟨plainFor_of_name (by decide +kernel), ⟨by decide +kernel, by decide +kernel, by decide +kernel⟩, tw_940, by decide, tw_9⟩
theorem st_X7_spot : Cond.static M_X7_spot.1 ∈ am_Tg := tw_939
def M_X7_floor : am_M := (yX7_floor, cX7_floor, 4, (Option.some Jvm.ClassFile.FieldType.int), 2)
theorem ok_X7_floor : am_okM M_X7_floor 1 := ⟨plainFor_of_name (by decide +kernel), ⟨by decide +kernel, by decide +kernel, by decide +kernel⟩, tw_929, by decide, tw_9⟩
theorem in_X7_floor : Cond.instanceMethod M_X7_floor.1 ∈ am_Tg := tw_927
theorem se_X7_floor : Cond.selects M_X7_floor.1.cls M_X7_floor.1 M_X7_floor.1 ∈ am_Tg := tw_928
def M_X6_isFloor : am_M := (yX6_isFloor, cX6_isFloor, 2, (Option.some Jvm.ClassFile.FieldType.boolean), 0)
theorem ok_X6_isFloor : am_okM M_X6_isFloor 1 := ⟨plainFor_of_name (by decide +kernel), ⟨by decide +kernel, by decide +kernel, by decide +kernel⟩, tw_252, by decide, tw_1⟩
theorem in_X6_isFloor : Cond.instanceMethod M_X6_isFloor.1 ∈ am_Tg := tw_251
theorem se_X6_isFloor : Cond.selects M_X6_isFloor.1.cls M_X6_isFloor.1 M_X6_isFloor.1 ∈ am_Tg := am_in_s 1 (by decide +kernel) rfl
def M_X0_total : am_M := (yX0_total, cX0_total, 3, (Option.some Jvm.ClassFile.FieldType.int), 0)
theorem ok_X0_total : am_okM M_X0_total 0 := ⟨plainFor_of_name (by decide +kernel), ⟨by decide +kernel, by decide +kernel, by decide +kernel⟩, tw_256, by decide, tw_4⟩
theorem in_X0_total : Cond.instanceMethod M_X0_total.1 ∈ am_Tg := tw_255
theorem se_X0_total : Cond.selects M_X0_total.1.cls M_X0_total.1 M_X0_total.1 ∈ am_Tg := am_in_s 2 (by decide +kernel) rfl
def M_J9_max_7cf53 : am_M := (yJ9_max_7cf53, cJ9_max_7cf53, 2, (Option.some Jvm.ClassFile.FieldType.int), 0)
theorem ok_J9_max_7cf53 : am_okM M_J9_max_7cf53 2 := ⟨by decide +kernel, ⟨by decide +kernel, by decide +kernel, by decide +kernel⟩, tw_34, by decide, tw_3⟩
theorem st_J9_max_7cf53 : Cond.static M_J9_max_7cf53.1 ∈ am_Tg := tw_33
def M_X0_greatest : am_M := (yX0_greatest, cX0_greatest, 3, (Option.some Jvm.ClassFile.FieldType.int), 1)
theorem ok_X0_greatest : am_okM M_X0_greatest 0 := ⟨plainFor_of_name (by decide +kernel), ⟨by decide +kernel, by decide +kernel, by decide +kernel⟩, tw_260, by decide, tw_4⟩
theorem in_X0_greatest : Cond.instanceMethod M_X0_greatest.1 ∈ am_Tg := tw_259
theorem se_X0_greatest : Cond.selects M_X0_greatest.1.cls M_X0_greatest.1 M_X0_greatest.1 ∈ am_Tg := am_in_s 3 (by decide +kernel) rfl
def M_J9_min_7cf53 : am_M := (yJ9_min_7cf53, cJ9_min_7cf53, 2, (Option.some Jvm.ClassFile.FieldType.int), 0)
theorem ok_J9_min_7cf53 : am_okM M_J9_min_7cf53 2 := ⟨by decide +kernel, ⟨by decide +kernel, by decide +kernel, by decide +kernel⟩, tw_268, by decide, tw_3⟩
theorem st_J9_min_7cf53 : Cond.static M_J9_min_7cf53.1 ∈ am_Tg := tw_267
def M_X0_least : am_M := (yX0_least, cX0_least, 3, (Option.some Jvm.ClassFile.FieldType.int), 1)
theorem ok_X0_least : am_okM M_X0_least 0 := ⟨plainFor_of_name (by decide +kernel), ⟨by decide +kernel, by decide +kernel, by decide +kernel⟩, tw_265, by decide, tw_4⟩
theorem in_X0_least : Cond.instanceMethod M_X0_least.1 ∈ am_Tg := tw_264
theorem se_X0_least : Cond.selects M_X0_least.1.cls M_X0_least.1 M_X0_least.1 ∈ am_Tg := am_in_s 4 (by decide +kernel) rfl
def M_X6_aheadOf : am_M := (yX6_aheadOf, cX6_aheadOf, 1, (Option.some Jvm.ClassFile.FieldType.int), 0)
theorem ok_X6_aheadOf : am_okM M_X6_aheadOf 1 := ⟨plainFor_of_name (by decide +kernel), ⟨by decide +kernel, by decide +kernel, by decide +kernel⟩, tw_279, by decide, tw_1⟩
theorem st_X6_aheadOf : Cond.static M_X6_aheadOf.1 ∈ am_Tg := tw_278
def M_X6_nextOf : am_M := (yX6_nextOf, cX6_nextOf, 1, (Option.some Jvm.ClassFile.FieldType.int), 0)
theorem ok_X6_nextOf : am_okM M_X6_nextOf 1 := ⟨plainFor_of_name (by decide +kernel), ⟨by decide +kernel, by decide +kernel, by decide +kernel⟩, tw_282, by decide, tw_1⟩
theorem st_X6_nextOf : Cond.static M_X6_nextOf.1 ∈ am_Tg := tw_281
def M_X0_isCrest : am_M := (yX0_isCrest, cX0_isCrest, 2, (Option.some Jvm.ClassFile.FieldType.boolean), 1)
theorem ok_X0_isCrest : am_okM M_X0_isCrest 1 := ⟨plainFor_of_name (by decide +kernel), ⟨by decide +kernel, by decide +kernel, by decide +kernel⟩, tw_276, by decide, tw_4⟩
theorem in_X0_isCrest : Cond.instanceMethod M_X0_isCrest.1 ∈ am_Tg := tw_275
theorem se_X0_isCrest : Cond.selects M_X0_isCrest.1.cls M_X0_isCrest.1 M_X0_isCrest.1 ∈ am_Tg := am_in_s 6 (by decide +kernel) rfl
def M_X0_crests : am_M := (yX0_crests, cX0_crests, 3, (Option.some Jvm.ClassFile.FieldType.int), 2)
theorem ok_X0_crests : am_okM M_X0_crests 0 := ⟨plainFor_of_name (by decide +kernel), ⟨by decide +kernel, by decide +kernel, by decide +kernel⟩, tw_272, by decide, tw_4⟩
theorem in_X0_crests : Cond.instanceMethod M_X0_crests.1 ∈ am_Tg := tw_271
theorem se_X0_crests : Cond.selects M_X0_crests.1.cls M_X0_crests.1 M_X0_crests.1 ∈ am_Tg := am_in_s 5 (by decide +kernel) rfl
def M_J6_compare_7cf53 : am_M := (yJ6_compare_7cf53, cJ6_compare_7cf53, 2, (Option.some Jvm.ClassFile.FieldType.int), 0)
theorem ok_J6_compare_7cf53 : am_okM M_J6_compare_7cf53 2 := ⟨plainFor_of_name (by decide +kernel), ⟨by decide +kernel, by decide +kernel, by decide +kernel⟩, tw_289, by decide, tw_10⟩
theorem st_J6_compare_7cf53 : Cond.static M_J6_compare_7cf53.1 ∈ am_Tg := tw_288
def M_X0_lean : am_M := (yX0_lean, cX0_lean, 3, (Option.some Jvm.ClassFile.FieldType.int), 1)
theorem ok_X0_lean : am_okM M_X0_lean 0 := ⟨plainFor_of_name (by decide +kernel), ⟨by decide +kernel, by decide +kernel, by decide +kernel⟩, tw_286, by decide, tw_4⟩
theorem in_X0_lean : Cond.instanceMethod M_X0_lean.1 ∈ am_Tg := tw_285
theorem se_X0_lean : Cond.selects M_X0_lean.1.cls M_X0_lean.1 M_X0_lean.1 ∈ am_Tg := am_in_s 7 (by decide +kernel) rfl
def M_X0_worth : am_M := (yX0_worth, cX0_worth, 2, (Option.some Jvm.ClassFile.FieldType.int), 3)
theorem ok_X0_worth : am_okM M_X0_worth 0 := ⟨plainFor_of_name (by decide +kernel), ⟨by decide +kernel, by decide +kernel, by decide +kernel⟩, tw_293, by decide, tw_4⟩
theorem in_X0_worth : Cond.instanceMethod M_X0_worth.1 ∈ am_Tg := tw_292
theorem se_X0_worth : Cond.selects M_X0_worth.1.cls M_X0_worth.1 M_X0_worth.1 ∈ am_Tg := am_in_s 8 (by decide +kernel) rfl
def M_X6_reachOf : am_M := (yX6_reachOf, cX6_reachOf, 3, (Option.some Jvm.ClassFile.FieldType.int), 1)
theorem ok_X6_reachOf : am_okM M_X6_reachOf 2 := ⟨plainFor_of_name (by decide +kernel), ⟨by decide +kernel, by decide +kernel, by decide +kernel⟩, tw_301, by decide, tw_1⟩
theorem st_X6_reachOf : Cond.static M_X6_reachOf.1 ∈ am_Tg := tw_300
def M_X0_way : am_M := (yX0_way, cX0_way, 1, (Option.some Jvm.ClassFile.FieldType.int), 0)
theorem ok_X0_way : am_okM M_X0_way 0 := ⟨plainFor_of_name (by decide +kernel), ⟨by decide +kernel, by decide +kernel, by decide +kernel⟩, tw_306, by decide, tw_4⟩
theorem in_X0_way : Cond.instanceMethod M_X0_way.1 ∈ am_Tg := tw_305
theorem se_X0_way : Cond.selects M_X0_way.1.cls M_X0_way.1 M_X0_way.1 ∈ am_Tg := am_in_s 9 (by decide +kernel) rfl
def M_X4_leaf : am_M := (yX4_leaf, cX4_leaf, 4, (Option.some Jvm.ClassFile.FieldType.int), 0)
theorem ok_X4_leaf : am_okM M_X4_leaf 4 := ⟨plainFor_of_name (by decide +kernel), ⟨by decide +kernel, by decide +kernel, by decide +kernel⟩, tw_319, by decide, tw_6⟩
theorem st_X4_leaf : Cond.static M_X4_leaf.1 ∈ am_Tg := tw_318
def M_X4_joined : am_M := (yX4_joined, cX4_joined, 3, (Option.some Jvm.ClassFile.FieldType.int), 0)
theorem ok_X4_joined : am_okM M_X4_joined 3 := ⟨plainFor_of_name (by decide +kernel), ⟨by decide +kernel, by decide +kernel, by decide +kernel⟩, tw_322, by decide, tw_6⟩
theorem st_X4_joined : Cond.static M_X4_joined.1 ∈ am_Tg := tw_321
def M_X4_value : am_M := (yX4_value, cX4_value, 8, (Option.some Jvm.ClassFile.FieldType.int), 1)
theorem ok_X4_value : am_okM M_X4_value 4 := ⟨plainFor_of_name (by decide +kernel), ⟨by decide +kernel, by decide +kernel, by decide +kernel⟩, tw_316, by decide, tw_6⟩
theorem in_X4_value : Cond.instanceMethod M_X4_value.1 ∈ am_Tg := tw_315
theorem se_X4_value : Cond.selects M_X4_value.1.cls M_X4_value.1 M_X4_value.1 ∈ am_Tg := am_in_s 11 (by decide +kernel) rfl
def M_X6_within : am_M := (yX6_within, cX6_within, 3, (Option.some Jvm.ClassFile.FieldType.int), 1)
theorem ok_X6_within : am_okM M_X6_within 3 := ⟨plainFor_of_name (by decide +kernel), ⟨by decide +kernel, by decide +kernel, by decide +kernel⟩, tw_325, by decide, tw_1⟩
theorem st_X6_within : Cond.static M_X6_within.1 ∈ am_Tg := tw_324
def M_X6_marksOf : am_M := (yX6_marksOf, cX6_marksOf, 7, (Option.some Jvm.ClassFile.FieldType.int), 2)
theorem ok_X6_marksOf : am_okM M_X6_marksOf 2 := ⟨plainFor_of_name (by decide +kernel), ⟨by decide +kernel, by decide +kernel, by decide +kernel⟩, tw_310, by decide, tw_1⟩
theorem in_X6_marksOf : Cond.instanceMethod M_X6_marksOf.1 ∈ am_Tg := tw_309
theorem se_X6_marksOf : Cond.selects M_X6_marksOf.1.cls M_X6_marksOf.1 M_X6_marksOf.1 ∈ am_Tg := am_in_s 10 (by decide +kernel) rfl
def M_X6_told : am_M := (yX6_told, cX6_told, 4, (Option.some Jvm.ClassFile.FieldType.int), 4)
theorem ok_X6_told : am_okM M_X6_told 2 := ⟨plainFor_of_name (by decide +kernel), ⟨by decide +kernel, by decide +kernel, by decide +kernel⟩, tw_248, by decide, tw_1⟩
theorem in_X6_told : Cond.instanceMethod M_X6_told.1 ∈ am_Tg := tw_246
theorem se_X6_told : Cond.selects M_X6_told.1.cls M_X6_told.1 M_X6_told.1 ∈ am_Tg := tw_247
def M_X7_isFloor : am_M := (yX7_isFloor, cX7_isFloor, 2, (Option.some Jvm.ClassFile.FieldType.boolean), 1)
theorem ok_X7_isFloor : am_okM M_X7_isFloor 1 := ⟨plainFor_of_name (by decide +kernel), ⟨by decide +kernel, by decide +kernel, by decide +kernel⟩, tw_948, by decide, tw_9⟩
theorem in_X7_isFloor : Cond.instanceMethod M_X7_isFloor.1 ∈ am_Tg := tw_947
theorem se_X7_isFloor : Cond.selects M_X7_isFloor.1.cls M_X7_isFloor.1 M_X7_isFloor.1 ∈ am_Tg := am_in_s 46 (by decide +kernel) rfl
def M_X7_kindOf : am_M := (yX7_kindOf, cX7_kindOf, 2, (Option.some Jvm.ClassFile.FieldType.int), 1)
theorem ok_X7_kindOf : am_okM M_X7_kindOf 1 := ⟨plainFor_of_name (by decide +kernel), ⟨by decide +kernel, by decide +kernel, by decide +kernel⟩, tw_952, by decide, tw_9⟩
theorem in_X7_kindOf : Cond.instanceMethod M_X7_kindOf.1 ∈ am_Tg := tw_951
theorem se_X7_kindOf : Cond.selects M_X7_kindOf.1.cls M_X7_kindOf.1 M_X7_kindOf.1 ∈ am_Tg := am_in_s 47 (by decide +kernel) rfl
def M_X7_tickOf : am_M := (yX7_tickOf, cX7_tickOf, 2, (Option.some Jvm.ClassFile.FieldType.int), 1)
theorem ok_X7_tickOf : am_okM M_X7_tickOf 1 := ⟨plainFor_of_name (by decide +kernel), ⟨by decide +kernel, by decide +kernel, by decide +kernel⟩, tw_956, by decide, tw_9⟩
theorem in_X7_tickOf : Cond.instanceMethod M_X7_tickOf.1 ∈ am_Tg := tw_955
theorem se_X7_tickOf : Cond.selects M_X7_tickOf.1.cls M_X7_tickOf.1 M_X7_tickOf.1 ∈ am_Tg := am_in_s 48 (by decide +kernel) rfl
def M_X7_sandOf : am_M := (yX7_sandOf, cX7_sandOf, 3, (Option.some Jvm.ClassFile.FieldType.int), 2)
theorem ok_X7_sandOf : am_okM M_X7_sandOf 2 := ⟨plainFor_of_name (by decide +kernel), ⟨by decide +kernel, by decide +kernel, by decide +kernel⟩, tw_964, by decide, tw_9⟩
theorem in_X7_sandOf : Cond.instanceMethod M_X7_sandOf.1 ∈ am_Tg := tw_963
theorem se_X7_sandOf : Cond.selects M_X7_sandOf.1.cls M_X7_sandOf.1 M_X7_sandOf.1 ∈ am_Tg := am_in_s 50 (by decide +kernel) rfl
def M_X7_sumOf : am_M := (yX7_sumOf, cX7_sumOf, 4, (Option.some Jvm.ClassFile.FieldType.int), 3)
theorem ok_X7_sumOf : am_okM M_X7_sumOf 1 := ⟨plainFor_of_name (by decide +kernel), ⟨by decide +kernel, by decide +kernel, by decide +kernel⟩, tw_960, by decide, tw_9⟩
theorem in_X7_sumOf : Cond.instanceMethod M_X7_sumOf.1 ∈ am_Tg := tw_959
theorem se_X7_sumOf : Cond.selects M_X7_sumOf.1.cls M_X7_sumOf.1 M_X7_sumOf.1 ∈ am_Tg := am_in_s 49 (by decide +kernel) rfl
def M_X7_extremeOf : am_M := (yX7_extremeOf, cX7_extremeOf, 6, (Option.some Jvm.ClassFile.FieldType.int), 3)
theorem ok_X7_extremeOf : am_okM M_X7_extremeOf 2 := ⟨plainFor_of_name (by decide +kernel), ⟨by decide +kernel, by decide +kernel, by decide +kernel⟩, tw_968, by decide, tw_9⟩
theorem in_X7_extremeOf : Cond.instanceMethod M_X7_extremeOf.1 ∈ am_Tg := tw_967
theorem se_X7_extremeOf : Cond.selects M_X7_extremeOf.1.cls M_X7_extremeOf.1 M_X7_extremeOf.1 ∈ am_Tg := am_in_s 51 (by decide +kernel) rfl
def M_X7_isCrest : am_M := (yX7_isCrest, cX7_isCrest, 3, (Option.some Jvm.ClassFile.FieldType.boolean), 3)
theorem ok_X7_isCrest : am_okM M_X7_isCrest 2 := ⟨plainFor_of_name (by decide +kernel), ⟨by decide +kernel, by decide +kernel, by decide +kernel⟩, tw_976, by decide, tw_9⟩
theorem in_X7_isCrest : Cond.instanceMethod M_X7_isCrest.1 ∈ am_Tg := tw_975
theorem se_X7_isCrest : Cond.selects M_X7_isCrest.1.cls M_X7_isCrest.1 M_X7_isCrest.1 ∈ am_Tg := am_in_s 53 (by decide +kernel) rfl
def M_X7_crestsOf : am_M := (yX7_crestsOf, cX7_crestsOf, 4, (Option.some Jvm.ClassFile.FieldType.int), 4)
theorem ok_X7_crestsOf : am_okM M_X7_crestsOf 1 := ⟨plainFor_of_name (by decide +kernel), ⟨by decide +kernel, by decide +kernel, by decide +kernel⟩, tw_972, by decide, tw_9⟩
theorem in_X7_crestsOf : Cond.instanceMethod M_X7_crestsOf.1 ∈ am_Tg := tw_971
theorem se_X7_crestsOf : Cond.selects M_X7_crestsOf.1.cls M_X7_crestsOf.1 M_X7_crestsOf.1 ∈ am_Tg := am_in_s 52 (by decide +kernel) rfl
def M_X7_leanOf : am_M := (yX7_leanOf, cX7_leanOf, 5, (Option.some Jvm.ClassFile.FieldType.int), 3)
theorem ok_X7_leanOf : am_okM M_X7_leanOf 1 := ⟨plainFor_of_name (by decide +kernel), ⟨by decide +kernel, by decide +kernel, by decide +kernel⟩, tw_980, by decide, tw_9⟩
theorem in_X7_leanOf : Cond.instanceMethod M_X7_leanOf.1 ∈ am_Tg := tw_979
theorem se_X7_leanOf : Cond.selects M_X7_leanOf.1.cls M_X7_leanOf.1 M_X7_leanOf.1 ∈ am_Tg := am_in_s 54 (by decide +kernel) rfl
def M_X7_worthOf : am_M := (yX7_worthOf, cX7_worthOf, 3, (Option.some Jvm.ClassFile.FieldType.int), 5)
theorem ok_X7_worthOf : am_okM M_X7_worthOf 1 := ⟨plainFor_of_name (by decide +kernel), ⟨by decide +kernel, by decide +kernel, by decide +kernel⟩, tw_984, by decide, tw_9⟩
theorem in_X7_worthOf : Cond.instanceMethod M_X7_worthOf.1 ∈ am_Tg := tw_983
theorem se_X7_worthOf : Cond.selects M_X7_worthOf.1.cls M_X7_worthOf.1 M_X7_worthOf.1 ∈ am_Tg := am_in_s 55 (by decide +kernel) rfl
def M_X7_within : am_M := (yX7_within, cX7_within, 3, (Option.some Jvm.ClassFile.FieldType.int), 0)
theorem ok_X7_within : am_okM M_X7_within 3 := ⟨plainFor_of_name (by decide +kernel), ⟨by decide +kernel, by decide +kernel, by decide +kernel⟩, tw_991, by decide, tw_9⟩
theorem st_X7_within : Cond.static M_X7_within.1 ∈ am_Tg := tw_990
def M_X7_reachOf : am_M := (yX7_reachOf, cX7_reachOf, 3, (Option.some Jvm.ClassFile.FieldType.int), 2)
theorem ok_X7_reachOf : am_okM M_X7_reachOf 1 := ⟨plainFor_of_name (by decide +kernel), ⟨by decide +kernel, by decide +kernel, by decide +kernel⟩, tw_988, by decide, tw_9⟩
theorem in_X7_reachOf : Cond.instanceMethod M_X7_reachOf.1 ∈ am_Tg := tw_987
theorem se_X7_reachOf : Cond.selects M_X7_reachOf.1.cls M_X7_reachOf.1 M_X7_reachOf.1 ∈ am_Tg := am_in_s 56 (by decide +kernel) rfl
def M_X7_wayOf : am_M := (yX7_wayOf, cX7_wayOf, 3, (Option.some Jvm.ClassFile.FieldType.int), 2)
theorem ok_X7_wayOf : am_okM M_X7_wayOf 1 := ⟨plainFor_of_name (by decide +kernel), ⟨by decide +kernel, by decide +kernel, by decide +kernel⟩, tw_995, by decide, tw_9⟩
theorem in_X7_wayOf : Cond.instanceMethod M_X7_wayOf.1 ∈ am_Tg := tw_994
theorem se_X7_wayOf : Cond.selects M_X7_wayOf.1.cls M_X7_wayOf.1 M_X7_wayOf.1 ∈ am_Tg := am_in_s 57 (by decide +kernel) rfl
def M_X7_counts : am_M := (yX7_counts, cX7_counts, 3, (Option.some Jvm.ClassFile.FieldType.int), 0)
theorem ok_X7_counts : am_okM M_X7_counts 1 := ⟨plainFor_of_name (by decide +kernel), ⟨by decide +kernel, by decide +kernel, by decide +kernel⟩, tw_1003, by decide, tw_9⟩
theorem in_X7_counts : Cond.instanceMethod M_X7_counts.1 ∈ am_Tg := tw_1002
theorem se_X7_counts : Cond.selects M_X7_counts.1.cls M_X7_counts.1 M_X7_counts.1 ∈ am_Tg := am_in_s 59 (by decide +kernel) rfl
def M_X7_two : am_M := (yX7_two, cX7_two, 3, (Option.some Jvm.ClassFile.FieldType.int), 0)
theorem ok_X7_two : am_okM M_X7_two 3 := ⟨plainFor_of_name (by decide +kernel), ⟨by decide +kernel, by decide +kernel, by decide +kernel⟩, tw_1010, by decide, tw_9⟩
theorem st_X7_two : Cond.static M_X7_two.1 ∈ am_Tg := tw_1009
def M_X7_worksOut : am_M := (yX7_worksOut, cX7_worksOut, 6, (Option.some Jvm.ClassFile.FieldType.int), 1)
theorem ok_X7_worksOut : am_okM M_X7_worksOut 1 := ⟨plainFor_of_name (by decide +kernel), ⟨by decide +kernel, by decide +kernel, by decide +kernel⟩, tw_1007, by decide, tw_9⟩
theorem in_X7_worksOut : Cond.instanceMethod M_X7_worksOut.1 ∈ am_Tg := tw_1006
theorem se_X7_worksOut : Cond.selects M_X7_worksOut.1.cls M_X7_worksOut.1 M_X7_worksOut.1 ∈ am_Tg := am_in_s 60 (by decide +kernel) rfl
def M_X7_marksOf : am_M := (yX7_marksOf, cX7_marksOf, 5, (Option.some Jvm.ClassFile.FieldType.int), 4)
theorem ok_X7_marksOf : am_okM M_X7_marksOf 1 := ⟨plainFor_of_name (by decide +kernel), ⟨by decide +kernel, by decide +kernel, by decide +kernel⟩, tw_999, by decide, tw_9⟩
theorem in_X7_marksOf : Cond.instanceMethod M_X7_marksOf.1 ∈ am_Tg := tw_998
theorem se_X7_marksOf : Cond.selects M_X7_marksOf.1.cls M_X7_marksOf.1 M_X7_marksOf.1 ∈ am_Tg := am_in_s 58 (by decide +kernel) rfl
def M_X7_told : am_M := (yX7_told, cX7_told, 3, (Option.some Jvm.ClassFile.FieldType.int), 6)
theorem ok_X7_told : am_okM M_X7_told 2 := ⟨plainFor_of_name (by decide +kernel), ⟨by decide +kernel, by decide +kernel, by decide +kernel⟩, tw_944, by decide, tw_9⟩
theorem in_X7_told : Cond.instanceMethod M_X7_told.1 ∈ am_Tg := tw_942
theorem se_X7_told : Cond.selects M_X7_told.1.cls M_X7_told.1 M_X7_told.1 ∈ am_Tg := tw_943
def M_X6_isUnder : am_M := (yX6_isUnder, cX6_isUnder, 4, (Option.some Jvm.ClassFile.FieldType.boolean), 1)
theorem ok_X6_isUnder : am_okM M_X6_isUnder 2 := ⟨plainFor_of_name (by decide +kernel), ⟨by decide +kernel, by decide +kernel, by decide +kernel⟩, tw_333, by decide, tw_1⟩
theorem st_X6_isUnder : Cond.static M_X6_isUnder.1 ∈ am_Tg := tw_332
def M_X6_as : am_M := (yX6_as, cX6_as, 4, (Option.some Jvm.ClassFile.FieldType.int), 2)
theorem ok_X6_as : am_okM M_X6_as 2 := ⟨plainFor_of_name (by decide +kernel), ⟨by decide +kernel, by decide +kernel, by decide +kernel⟩, tw_330, by decide, tw_1⟩
theorem in_X6_as : Cond.instanceMethod M_X6_as.1 ∈ am_Tg := tw_328
theorem se_X6_as : Cond.selects M_X6_as.1.cls M_X6_as.1 M_X6_as.1 ∈ am_Tg := tw_329
def M_X7_isUnder : am_M := (yX7_isUnder, cX7_isUnder, 2, (Option.some Jvm.ClassFile.FieldType.boolean), 0)
theorem ok_X7_isUnder : am_okM M_X7_isUnder 2 := ⟨plainFor_of_name (by decide +kernel), ⟨by decide +kernel, by decide +kernel, by decide +kernel⟩, tw_1017, by decide, tw_9⟩
theorem st_X7_isUnder : Cond.static M_X7_isUnder.1 ∈ am_Tg := tw_1016
def M_X7_as : am_M := (yX7_as, cX7_as, 3, (Option.some Jvm.ClassFile.FieldType.int), 2)
theorem ok_X7_as : am_okM M_X7_as 2 := ⟨plainFor_of_name (by decide +kernel), ⟨by decide +kernel, by decide +kernel, by decide +kernel⟩, tw_1014, by decide, tw_9⟩
theorem in_X7_as : Cond.instanceMethod M_X7_as.1 ∈ am_Tg := tw_1012
theorem se_X7_as : Cond.selects M_X7_as.1.cls M_X7_as.1 M_X7_as.1 ∈ am_Tg := tw_1013
def M_X6_turns : am_M := (yX6_turns, cX6_turns, 5, (Option.some Jvm.ClassFile.FieldType.int), 1)
theorem ok_X6_turns : am_okM M_X6_turns 2 := ⟨plainFor_of_name (by decide +kernel), ⟨by decide +kernel, by decide +kernel, by decide +kernel⟩, tw_340, by decide, tw_1⟩
theorem in_X6_turns : Cond.instanceMethod M_X6_turns.1 ∈ am_Tg := tw_338
theorem se_X6_turns : Cond.selects M_X6_turns.1.cls M_X6_turns.1 M_X6_turns.1 ∈ am_Tg := tw_339
def M_X7_becomes : am_M := (yX7_becomes, cX7_becomes, 4, (Option.some Jvm.ClassFile.FieldType.int), 0)
theorem ok_X7_becomes : am_okM M_X7_becomes 2 := ⟨plainFor_of_name (by decide +kernel), ⟨by decide +kernel, by decide +kernel, by decide +kernel⟩, tw_1026, by decide, tw_9⟩
theorem in_X7_becomes : Cond.instanceMethod M_X7_becomes.1 ∈ am_Tg := tw_1025
theorem se_X7_becomes : Cond.selects M_X7_becomes.1.cls M_X7_becomes.1 M_X7_becomes.1 ∈ am_Tg := am_in_s 61 (by decide +kernel) rfl
def M_X7_turns : am_M := (yX7_turns, cX7_turns, 3, (Option.some Jvm.ClassFile.FieldType.int), 2)
theorem ok_X7_turns : am_okM M_X7_turns 2 := ⟨plainFor_of_name (by decide +kernel), ⟨by decide +kernel, by decide +kernel, by decide +kernel⟩, tw_1022, by decide, tw_9⟩
theorem in_X7_turns : Cond.instanceMethod M_X7_turns.1 ∈ am_Tg := tw_1020
theorem se_X7_turns : Cond.selects M_X7_turns.1.cls M_X7_turns.1 M_X7_turns.1 ∈ am_Tg := tw_1021
def M_X6_sea : am_M := (yX6_sea, cX6_sea, 4, (Option.some Jvm.ClassFile.FieldType.int), 0)
theorem ok_X6_sea : am_okM M_X6_sea 2 := ⟨plainFor_of_name (by decide +kernel), ⟨by decide +kernel, by decide +kernel, by decide +kernel⟩, tw_344, by decide, tw_1⟩
theorem in_X6_sea : Cond.instanceMethod M_X6_sea.1 ∈ am_Tg := tw_342
theorem se_X6_sea : Cond.selects M_X6_sea.1.cls M_X6_sea.1 M_X6_sea.1 ∈ am_Tg := tw_343
def M_X7_sea : am_M := (yX7_sea, cX7_sea, 3, (Option.some Jvm.ClassFile.FieldType.int), 1)
theorem ok_X7_sea : am_okM M_X7_sea 2 := ⟨plainFor_of_name (by decide +kernel), ⟨by decide +kernel, by decide +kernel, by decide +kernel⟩, tw_1030, by decide, tw_9⟩
theorem in_X7_sea : Cond.instanceMethod M_X7_sea.1 ∈ am_Tg := tw_1028
theorem se_X7_sea : Cond.selects M_X7_sea.1.cls M_X7_sea.1 M_X7_sea.1 ∈ am_Tg := tw_1029
def M_X6_isCell : am_M := (yX6_isCell, cX6_isCell, 1, (Option.some Jvm.ClassFile.FieldType.boolean), 0)
theorem ok_X6_isCell : am_okM M_X6_isCell 1 := ⟨plainFor_of_name (by decide +kernel), ⟨by decide +kernel, by decide +kernel, by decide +kernel⟩, tw_355, by decide, tw_1⟩
theorem st_X6_isCell : Cond.static M_X6_isCell.1 ∈ am_Tg := tw_354
def M_X6_sand : am_M := (yX6_sand, cX6_sand, 3, (Option.some Jvm.ClassFile.FieldType.int), 1)
theorem ok_X6_sand : am_okM M_X6_sand 2 := ⟨plainFor_of_name (by decide +kernel), ⟨by decide +kernel, by decide +kernel, by decide +kernel⟩, tw_352, by decide, tw_1⟩
theorem in_X6_sand : Cond.instanceMethod M_X6_sand.1 ∈ am_Tg := tw_350
theorem se_X6_sand : Cond.selects M_X6_sand.1.cls M_X6_sand.1 M_X6_sand.1 ∈ am_Tg := tw_351
def M_X7_isCell : am_M := (yX7_isCell, cX7_isCell, 1, (Option.some Jvm.ClassFile.FieldType.boolean), 1)
theorem ok_X7_isCell : am_okM M_X7_isCell 1 := ⟨plainFor_of_name (by decide +kernel), ⟨by decide +kernel, by decide +kernel, by decide +kernel⟩, tw_1037, by decide, tw_9⟩
theorem st_X7_isCell : Cond.static M_X7_isCell.1 ∈ am_Tg := tw_1036
def M_X7_sand : am_M := (yX7_sand, cX7_sand, 3, (Option.some Jvm.ClassFile.FieldType.int), 3)
theorem ok_X7_sand : am_okM M_X7_sand 2 := ⟨plainFor_of_name (by decide +kernel), ⟨by decide +kernel, by decide +kernel, by decide +kernel⟩, tw_1034, by decide, tw_9⟩
theorem in_X7_sand : Cond.instanceMethod M_X7_sand.1 ∈ am_Tg := tw_1032
theorem se_X7_sand : Cond.selects M_X7_sand.1.cls M_X7_sand.1 M_X7_sand.1 ∈ am_Tg := tw_1033
def M_X6_heap : am_M := (yX6_heap, cX6_heap, 6, (Option.some Jvm.ClassFile.FieldType.int), 1)
theorem ok_X6_heap : am_okM M_X6_heap 3 := ⟨plainFor_of_name (by decide +kernel), ⟨by decide +kernel, by decide +kernel, by decide +kernel⟩, tw_359, by decide, tw_1⟩
theorem in_X6_heap : Cond.instanceMethod M_X6_heap.1 ∈ am_Tg := tw_357
theorem se_X6_heap : Cond.selects M_X6_heap.1.cls M_X6_heap.1 M_X6_heap.1 ∈ am_Tg := tw_358
def M_X7_heap : am_M := (yX7_heap, cX7_heap, 4, (Option.some Jvm.ClassFile.FieldType.int), 2)
theorem ok_X7_heap : am_okM M_X7_heap 3 := ⟨plainFor_of_name (by decide +kernel), ⟨by decide +kernel, by decide +kernel, by decide +kernel⟩, tw_1041, by decide, tw_9⟩
theorem in_X7_heap : Cond.instanceMethod M_X7_heap.1 ∈ am_Tg := tw_1039
theorem se_X7_heap : Cond.selects M_X7_heap.1.cls M_X7_heap.1 M_X7_heap.1 ∈ am_Tg := tw_1040
def M_X5_draw : am_M := (yX5_draw, cX5_draw, 1, (Option.some Jvm.ClassFile.FieldType.int), 0)
theorem ok_X5_draw : am_okM M_X5_draw 0 := ⟨plainFor_of_name (by decide +kernel), ⟨by decide +kernel, by decide +kernel, by decide +kernel⟩, tw_367, by decide, tw_2⟩
theorem in_X5_draw : Cond.instanceMethod M_X5_draw.1 ∈ am_Tg := tw_366
theorem se_X5_draw : Cond.selects M_X5_draw.1.cls M_X5_draw.1 M_X5_draw.1 ∈ am_Tg := am_in_s 12 (by decide +kernel) rfl
def M_X6_deal : am_M := (yX6_deal, cX6_deal, 4, (Option.some Jvm.ClassFile.FieldType.int), 1)
theorem ok_X6_deal : am_okM M_X6_deal 1 := ⟨plainFor_of_name (by decide +kernel), ⟨by decide +kernel, by decide +kernel, by decide +kernel⟩, tw_363, by decide, tw_1⟩
theorem in_X6_deal : Cond.instanceMethod M_X6_deal.1 ∈ am_Tg := tw_361
theorem se_X6_deal : Cond.selects M_X6_deal.1.cls M_X6_deal.1 M_X6_deal.1 ∈ am_Tg := tw_362
def M_X7_draw : am_M := (yX7_draw, cX7_draw, 1, (Option.some Jvm.ClassFile.FieldType.int), 0)
theorem ok_X7_draw : am_okM M_X7_draw 0 := ⟨plainFor_of_name (by decide +kernel), ⟨by decide +kernel, by decide +kernel, by decide +kernel⟩, tw_1049, by decide, tw_9⟩
theorem in_X7_draw : Cond.instanceMethod M_X7_draw.1 ∈ am_Tg := tw_1048
theorem se_X7_draw : Cond.selects M_X7_draw.1.cls M_X7_draw.1 M_X7_draw.1 ∈ am_Tg := am_in_s 62 (by decide +kernel) rfl
def M_X7_deal : am_M := (yX7_deal, cX7_deal, 3, (Option.some Jvm.ClassFile.FieldType.int), 4)
theorem ok_X7_deal : am_okM M_X7_deal 1 := ⟨plainFor_of_name (by decide +kernel), ⟨by decide +kernel, by decide +kernel, by decide +kernel⟩, tw_1045, by decide, tw_9⟩
theorem in_X7_deal : Cond.instanceMethod M_X7_deal.1 ∈ am_Tg := tw_1043
theorem se_X7_deal : Cond.selects M_X7_deal.1.cls M_X7_deal.1 M_X7_deal.1 ∈ am_Tg := tw_1044
def M_X6_seed : am_M := (yX6_seed, cX6_seed, 3, (Option.some Jvm.ClassFile.FieldType.int), 0)
theorem ok_X6_seed : am_okM M_X6_seed 1 := ⟨plainFor_of_name (by decide +kernel), ⟨by decide +kernel, by decide +kernel, by decide +kernel⟩, tw_372, by decide, tw_1⟩
theorem in_X6_seed : Cond.instanceMethod M_X6_seed.1 ∈ am_Tg := tw_370
theorem se_X6_seed : Cond.selects M_X6_seed.1.cls M_X6_seed.1 M_X6_seed.1 ∈ am_Tg := tw_371
def M_X7_seed : am_M := (yX7_seed, cX7_seed, 3, (Option.some Jvm.ClassFile.FieldType.int), 0)
theorem ok_X7_seed : am_okM M_X7_seed 1 := ⟨plainFor_of_name (by decide +kernel), ⟨by decide +kernel, by decide +kernel, by decide +kernel⟩, tw_1054, by decide, tw_9⟩
theorem in_X7_seed : Cond.instanceMethod M_X7_seed.1 ∈ am_Tg := tw_1052
theorem se_X7_seed : Cond.selects M_X7_seed.1.cls M_X7_seed.1 M_X7_seed.1 ∈ am_Tg := tw_1053
def M_J9_floorMod_7cf53 : am_M := (yJ9_floorMod_7cf53, cJ9_floorMod_7cf53, 3, (Option.some Jvm.ClassFile.FieldType.int), 0)
theorem ok_J9_floorMod_7cf53 : am_okM M_J9_floorMod_7cf53 2 := ⟨by decide +kernel, ⟨by decide +kernel, by decide +kernel, by decide +kernel⟩, tw_386, by decide, tw_3⟩
theorem st_J9_floorMod_7cf53 : Cond.static M_J9_floorMod_7cf53.1 ∈ am_Tg := tw_385
def M_X6_inRing : am_M := (yX6_inRing, cX6_inRing, 1, (Option.some Jvm.ClassFile.FieldType.int), 1)
theorem ok_X6_inRing : am_okM M_X6_inRing 1 := ⟨plainFor_of_name (by decide +kernel), ⟨by decide +kernel, by decide +kernel, by decide +kernel⟩, tw_383, by decide, tw_1⟩
theorem st_X6_inRing : Cond.static M_X6_inRing.1 ∈ am_Tg := tw_382
def M_X6_liftOf : am_M := (yX6_liftOf, cX6_liftOf, 10, (Option.some Jvm.ClassFile.FieldType.int), 2)
theorem ok_X6_liftOf : am_okM M_X6_liftOf 3 := ⟨plainFor_of_name (by decide +kernel), ⟨by decide +kernel, by decide +kernel, by decide +kernel⟩, tw_380, by decide, tw_1⟩
theorem in_X6_liftOf : Cond.instanceMethod M_X6_liftOf.1 ∈ am_Tg := tw_379
theorem se_X6_liftOf : Cond.selects M_X6_liftOf.1.cls M_X6_liftOf.1 M_X6_liftOf.1 ∈ am_Tg := am_in_s 13 (by decide +kernel) rfl
def M_X6_lift : am_M := (yX6_lift, cX6_lift, 5, (Option.some Jvm.ClassFile.FieldType.int), 3)
theorem ok_X6_lift : am_okM M_X6_lift 3 := ⟨plainFor_of_name (by decide +kernel), ⟨by decide +kernel, by decide +kernel, by decide +kernel⟩, tw_376, by decide, tw_1⟩
theorem in_X6_lift : Cond.instanceMethod M_X6_lift.1 ∈ am_Tg := tw_374
theorem se_X6_lift : Cond.selects M_X6_lift.1.cls M_X6_lift.1 M_X6_lift.1 ∈ am_Tg := tw_375
def M_X7_liftOf : am_M := (yX7_liftOf, cX7_liftOf, 7, (Option.some Jvm.ClassFile.FieldType.int), 3)
theorem ok_X7_liftOf : am_okM M_X7_liftOf 3 := ⟨plainFor_of_name (by decide +kernel), ⟨by decide +kernel, by decide +kernel, by decide +kernel⟩, tw_1062, by decide, tw_9⟩
theorem in_X7_liftOf : Cond.instanceMethod M_X7_liftOf.1 ∈ am_Tg := tw_1061
theorem se_X7_liftOf : Cond.selects M_X7_liftOf.1.cls M_X7_liftOf.1 M_X7_liftOf.1 ∈ am_Tg := am_in_s 63 (by decide +kernel) rfl
def M_X7_lift : am_M := (yX7_lift, cX7_lift, 5, (Option.some Jvm.ClassFile.FieldType.int), 4)
theorem ok_X7_lift : am_okM M_X7_lift 3 := ⟨plainFor_of_name (by decide +kernel), ⟨by decide +kernel, by decide +kernel, by decide +kernel⟩, tw_1058, by decide, tw_9⟩
theorem in_X7_lift : Cond.instanceMethod M_X7_lift.1 ∈ am_Tg := tw_1056
theorem se_X7_lift : Cond.selects M_X7_lift.1.cls M_X7_lift.1 M_X7_lift.1 ∈ am_Tg := tw_1057
def M_X6_liftAll : am_M := (yX6_liftAll, cX6_liftAll, 7, (Option.some Jvm.ClassFile.FieldType.int), 3)
theorem ok_X6_liftAll : am_okM M_X6_liftAll 2 := ⟨plainFor_of_name (by decide +kernel), ⟨by decide +kernel, by decide +kernel, by decide +kernel⟩, tw_398, by decide, tw_1⟩
theorem in_X6_liftAll : Cond.instanceMethod M_X6_liftAll.1 ∈ am_Tg := tw_397
theorem se_X6_liftAll : Cond.selects M_X6_liftAll.1.cls M_X6_liftAll.1 M_X6_liftAll.1 ∈ am_Tg := am_in_s 15 (by decide +kernel) rfl
def M_X6_slideOf : am_M := (yX6_slideOf, cX6_slideOf, 5, (Option.some Jvm.ClassFile.FieldType.int), 2)
theorem ok_X6_slideOf : am_okM M_X6_slideOf 2 := ⟨plainFor_of_name (by decide +kernel), ⟨by decide +kernel, by decide +kernel, by decide +kernel⟩, tw_408, by decide, tw_1⟩
theorem in_X6_slideOf : Cond.instanceMethod M_X6_slideOf.1 ∈ am_Tg := tw_407
theorem se_X6_slideOf : Cond.selects M_X6_slideOf.1.cls M_X6_slideOf.1 M_X6_slideOf.1 ∈ am_Tg := am_in_s 17 (by decide +kernel) rfl
def M_X6_slideAll : am_M := (yX6_slideAll, cX6_slideAll, 8, (Option.some Jvm.ClassFile.FieldType.int), 3)
theorem ok_X6_slideAll : am_okM M_X6_slideAll 2 := ⟨plainFor_of_name (by decide +kernel), ⟨by decide +kernel, by decide +kernel, by decide +kernel⟩, tw_402, by decide, tw_1⟩
theorem in_X6_slideAll : Cond.instanceMethod M_X6_slideAll.1 ∈ am_Tg := tw_401
theorem se_X6_slideAll : Cond.selects M_X6_slideAll.1.cls M_X6_slideAll.1 M_X6_slideAll.1 ∈ am_Tg := am_in_s 16 (by decide +kernel) rfl
def M_X6_oneTick : am_M := (yX6_oneTick, cX6_oneTick, 4, (Option.some Jvm.ClassFile.FieldType.int), 4)
theorem ok_X6_oneTick : am_okM M_X6_oneTick 2 := ⟨plainFor_of_name (by decide +kernel), ⟨by decide +kernel, by decide +kernel, by decide +kernel⟩, tw_394, by decide, tw_1⟩
theorem in_X6_oneTick : Cond.instanceMethod M_X6_oneTick.1 ∈ am_Tg := tw_393
theorem se_X6_oneTick : Cond.selects M_X6_oneTick.1.cls M_X6_oneTick.1 M_X6_oneTick.1 ∈ am_Tg := am_in_s 14 (by decide +kernel) rfl
def M_X6_run : am_M := (yX6_run, cX6_run, 5, (Option.some Jvm.ClassFile.FieldType.int), 5)
theorem ok_X6_run : am_okM M_X6_run 2 := ⟨plainFor_of_name (by decide +kernel), ⟨by decide +kernel, by decide +kernel, by decide +kernel⟩, tw_390, by decide, tw_1⟩
theorem in_X6_run : Cond.instanceMethod M_X6_run.1 ∈ am_Tg := tw_388
theorem se_X6_run : Cond.selects M_X6_run.1.cls M_X6_run.1 M_X6_run.1 ∈ am_Tg := tw_389
def M_X7_slideBy : am_M := (yX7_slideBy, cX7_slideBy, 3, (Option.some Jvm.ClassFile.FieldType.int), 2)
theorem ok_X7_slideBy : am_okM M_X7_slideBy 1 := ⟨plainFor_of_name (by decide +kernel), ⟨by decide +kernel, by decide +kernel, by decide +kernel⟩, tw_1078, by decide, tw_9⟩
theorem in_X7_slideBy : Cond.instanceMethod M_X7_slideBy.1 ∈ am_Tg := tw_1077
theorem se_X7_slideBy : Cond.selects M_X7_slideBy.1.cls M_X7_slideBy.1 M_X7_slideBy.1 ∈ am_Tg := am_in_s 66 (by decide +kernel) rfl
def M_X7_tick : am_M := (yX7_tick, cX7_tick, 9, (Option.some Jvm.ClassFile.FieldType.int), 4)
theorem ok_X7_tick : am_okM M_X7_tick 1 := ⟨plainFor_of_name (by decide +kernel), ⟨by decide +kernel, by decide +kernel, by decide +kernel⟩, tw_1074, by decide, tw_9⟩
theorem in_X7_tick : Cond.instanceMethod M_X7_tick.1 ∈ am_Tg := tw_1073
theorem se_X7_tick : Cond.selects M_X7_tick.1.cls M_X7_tick.1 M_X7_tick.1 ∈ am_Tg := am_in_s 65 (by decide +kernel) rfl
def M_X7_ticks : am_M := (yX7_ticks, cX7_ticks, 5, (Option.some Jvm.ClassFile.FieldType.int), 5)
theorem ok_X7_ticks : am_okM M_X7_ticks 2 := ⟨plainFor_of_name (by decide +kernel), ⟨by decide +kernel, by decide +kernel, by decide +kernel⟩, tw_1070, by decide, tw_9⟩
theorem in_X7_ticks : Cond.instanceMethod M_X7_ticks.1 ∈ am_Tg := tw_1069
theorem se_X7_ticks : Cond.selects M_X7_ticks.1.cls M_X7_ticks.1 M_X7_ticks.1 ∈ am_Tg := am_in_s 64 (by decide +kernel) rfl
def M_X7_run : am_M := (yX7_run, cX7_run, 3, (Option.some Jvm.ClassFile.FieldType.int), 6)
theorem ok_X7_run : am_okM M_X7_run 2 := ⟨plainFor_of_name (by decide +kernel), ⟨by decide +kernel, by decide +kernel, by decide +kernel⟩, tw_1066, by decide, tw_9⟩
theorem in_X7_run : Cond.instanceMethod M_X7_run.1 ∈ am_Tg := tw_1064
theorem se_X7_run : Cond.selects M_X7_run.1.cls M_X7_run.1 M_X7_run.1 ∈ am_Tg := tw_1065
def M_X6_crest : am_M := (yX6_crest, cX6_crest, 6, (Option.some Jvm.ClassFile.FieldType.int), 2)
theorem ok_X6_crest : am_okM M_X6_crest 2 := ⟨plainFor_of_name (by decide +kernel), ⟨by decide +kernel, by decide +kernel, by decide +kernel⟩, tw_412, by decide, tw_1⟩
theorem in_X6_crest : Cond.instanceMethod M_X6_crest.1 ∈ am_Tg := tw_410
theorem se_X6_crest : Cond.selects M_X6_crest.1.cls M_X6_crest.1 M_X6_crest.1 ∈ am_Tg := tw_411
def M_X7_crest : am_M := (yX7_crest, cX7_crest, 5, (Option.some Jvm.ClassFile.FieldType.int), 4)
theorem ok_X7_crest : am_okM M_X7_crest 2 := ⟨plainFor_of_name (by decide +kernel), ⟨by decide +kernel, by decide +kernel, by decide +kernel⟩, tw_1082, by decide, tw_9⟩
theorem in_X7_crest : Cond.instanceMethod M_X7_crest.1 ∈ am_Tg := tw_1080
theorem se_X7_crest : Cond.selects M_X7_crest.1.cls M_X7_crest.1 M_X7_crest.1 ∈ am_Tg := tw_1081
def M_X6_apart : am_M := (yX6_apart, cX6_apart, 3, (Option.some Jvm.ClassFile.FieldType.int), 3)
theorem ok_X6_apart : am_okM M_X6_apart 1 := ⟨plainFor_of_name (by decide +kernel), ⟨by decide +kernel, by decide +kernel, by decide +kernel⟩, tw_416, by decide, tw_1⟩
theorem in_X6_apart : Cond.instanceMethod M_X6_apart.1 ∈ am_Tg := tw_414
theorem se_X6_apart : Cond.selects M_X6_apart.1.cls M_X6_apart.1 M_X6_apart.1 ∈ am_Tg := tw_415
def M_X7_apart : am_M := (yX7_apart, cX7_apart, 3, (Option.some Jvm.ClassFile.FieldType.int), 5)
theorem ok_X7_apart : am_okM M_X7_apart 1 := ⟨plainFor_of_name (by decide +kernel), ⟨by decide +kernel, by decide +kernel, by decide +kernel⟩, tw_1087, by decide, tw_9⟩
theorem in_X7_apart : Cond.instanceMethod M_X7_apart.1 ∈ am_Tg := tw_1085
theorem se_X7_apart : Cond.selects M_X7_apart.1.cls M_X7_apart.1 M_X7_apart.1 ∈ am_Tg := tw_1086
def M_J9_abs_0f7a4 : am_M := (yJ9_abs_0f7a4, cJ9_abs_0f7a4, 1, (Option.some Jvm.ClassFile.FieldType.int), 0)
theorem ok_J9_abs_0f7a4 : am_okM M_J9_abs_0f7a4 1 := ⟨by decide +kernel, ⟨by decide +kernel, by decide +kernel, by decide +kernel⟩, tw_423, by decide, tw_3⟩
theorem st_J9_abs_0f7a4 : Cond.static M_J9_abs_0f7a4.1 ∈ am_Tg := tw_422
def M_X6_flat : am_M := (yX6_flat, cX6_flat, 5, (Option.some Jvm.ClassFile.FieldType.int), 1)
theorem ok_X6_flat : am_okM M_X6_flat 2 := ⟨plainFor_of_name (by decide +kernel), ⟨by decide +kernel, by decide +kernel, by decide +kernel⟩, tw_420, by decide, tw_1⟩
theorem in_X6_flat : Cond.instanceMethod M_X6_flat.1 ∈ am_Tg := tw_418
theorem se_X6_flat : Cond.selects M_X6_flat.1.cls M_X6_flat.1 M_X6_flat.1 ∈ am_Tg := tw_419
def M_X7_flat : am_M := (yX7_flat, cX7_flat, 4, (Option.some Jvm.ClassFile.FieldType.int), 3)
theorem ok_X7_flat : am_okM M_X7_flat 2 := ⟨plainFor_of_name (by decide +kernel), ⟨by decide +kernel, by decide +kernel, by decide +kernel⟩, tw_1091, by decide, tw_9⟩
theorem in_X7_flat : Cond.instanceMethod M_X7_flat.1 ∈ am_Tg := tw_1089
theorem se_X7_flat : Cond.selects M_X7_flat.1.cls M_X7_flat.1 M_X7_flat.1 ∈ am_Tg := tw_1090
def M_X5_becomeSea : am_M := (yX5_becomeSea, cX5_becomeSea, 2, (Option.none : Option Jvm.ClassFile.FieldType), 1)
theorem ok_X5_becomeSea : am_okM M_X5_becomeSea 1 := ⟨plainFor_of_name (by decide +kernel), ⟨by decide +kernel, by decide +kernel, by decide +kernel⟩, tw_435, by decide, tw_2⟩
theorem in_X5_becomeSea : Cond.instanceMethod M_X5_becomeSea.1 ∈ am_Tg := tw_434
theorem se_X5_becomeSea : Cond.selects M_X5_becomeSea.1.cls M_X5_becomeSea.1 M_X5_becomeSea.1 ∈ am_Tg := am_in_s 19 (by decide +kernel) rfl
def M_X0_become : am_M := (yX0_become, cX0_become, 2, (Option.none : Option Jvm.ClassFile.FieldType), 1)
theorem ok_X0_become : am_okM M_X0_become 1 := ⟨plainFor_of_name (by decide +kernel), ⟨by decide +kernel, by decide +kernel, by decide +kernel⟩, tw_442, by decide, tw_4⟩
theorem in_X0_become : Cond.instanceMethod M_X0_become.1 ∈ am_Tg := tw_441
theorem se_X0_become : Cond.selects M_X0_become.1.cls M_X0_become.1 M_X0_become.1 ∈ am_Tg := am_in_s 20 (by decide +kernel) rfl
def M_X6_think : am_M := (yX6_think, cX6_think, 3, (Option.some (Jvm.ClassFile.FieldType.object "SandRipples$Floor")), 2)
theorem ok_X6_think : am_okM M_X6_think 2 := ⟨plainFor_of_name (by decide +kernel), ⟨by decide +kernel, by decide +kernel, by decide +kernel⟩, tw_431, by decide, tw_1⟩
theorem in_X6_think : Cond.instanceMethod M_X6_think.1 ∈ am_Tg := tw_430
theorem se_X6_think : Cond.selects M_X6_think.1.cls M_X6_think.1 M_X6_think.1 ∈ am_Tg := am_in_s 18 (by decide +kernel) rfl
def M_X6_soon : am_M := (yX6_soon, cX6_soon, 5, (Option.some Jvm.ClassFile.FieldType.int), 5)
theorem ok_X6_soon : am_okM M_X6_soon 2 := ⟨plainFor_of_name (by decide +kernel), ⟨by decide +kernel, by decide +kernel, by decide +kernel⟩, tw_427, by decide, tw_1⟩
theorem in_X6_soon : Cond.instanceMethod M_X6_soon.1 ∈ am_Tg := tw_425
theorem se_X6_soon : Cond.selects M_X6_soon.1.cls M_X6_soon.1 M_X6_soon.1 ∈ am_Tg := tw_426
def M_X7_thinks : am_M := (yX7_thinks, cX7_thinks, 3, (Option.none : Option Jvm.ClassFile.FieldType), 1)
theorem ok_X7_thinks : am_okM M_X7_thinks 1 := ⟨plainFor_of_name (by decide +kernel), ⟨by decide +kernel, by decide +kernel, by decide +kernel⟩, tw_1099, by decide, tw_9⟩
theorem in_X7_thinks : Cond.instanceMethod M_X7_thinks.1 ∈ am_Tg := tw_1098
theorem se_X7_thinks : Cond.selects M_X7_thinks.1.cls M_X7_thinks.1 M_X7_thinks.1 ∈ am_Tg := am_in_s 67 (by decide +kernel) rfl
def M_X7_putsBack : am_M := (yX7_putsBack, cX7_putsBack, 3, (Option.none : Option Jvm.ClassFile.FieldType), 1)
theorem ok_X7_putsBack : am_okM M_X7_putsBack 1 := ⟨plainFor_of_name (by decide +kernel), ⟨by decide +kernel, by decide +kernel, by decide +kernel⟩, tw_1103, by decide, tw_9⟩
theorem in_X7_putsBack : Cond.instanceMethod M_X7_putsBack.1 ∈ am_Tg := tw_1102
theorem se_X7_putsBack : Cond.selects M_X7_putsBack.1.cls M_X7_putsBack.1 M_X7_putsBack.1 ∈ am_Tg := am_in_s 68 (by decide +kernel) rfl
def M_X7_soon : am_M := (yX7_soon, cX7_soon, 5, (Option.some Jvm.ClassFile.FieldType.int), 5)
theorem ok_X7_soon : am_okM M_X7_soon 2 := ⟨plainFor_of_name (by decide +kernel), ⟨by decide +kernel, by decide +kernel, by decide +kernel⟩, tw_1095, by decide, tw_9⟩
theorem in_X7_soon : Cond.instanceMethod M_X7_soon.1 ∈ am_Tg := tw_1093
theorem se_X7_soon : Cond.selects M_X7_soon.1.cls M_X7_soon.1 M_X7_soon.1 ∈ am_Tg := tw_1094
def M_X0_unlikeTurned : am_M := (yX0_unlikeTurned, cX0_unlikeTurned, 5, (Option.some Jvm.ClassFile.FieldType.int), 2)
theorem ok_X0_unlikeTurned : am_okM M_X0_unlikeTurned 2 := ⟨plainFor_of_name (by decide +kernel), ⟨by decide +kernel, by decide +kernel, by decide +kernel⟩, tw_451, by decide, tw_4⟩
theorem in_X0_unlikeTurned : Cond.instanceMethod M_X0_unlikeTurned.1 ∈ am_Tg := tw_450
theorem se_X0_unlikeTurned : Cond.selects M_X0_unlikeTurned.1.cls M_X0_unlikeTurned.1 M_X0_unlikeTurned.1 ∈ am_Tg := am_in_s 21 (by decide +kernel) rfl
def M_X6_period : am_M := (yX6_period, cX6_period, 4, (Option.some Jvm.ClassFile.FieldType.int), 5)
theorem ok_X6_period : am_okM M_X6_period 1 := ⟨plainFor_of_name (by decide +kernel), ⟨by decide +kernel, by decide +kernel, by decide +kernel⟩, tw_447, by decide, tw_1⟩
theorem in_X6_period : Cond.instanceMethod M_X6_period.1 ∈ am_Tg := tw_445
theorem se_X6_period : Cond.selects M_X6_period.1.cls M_X6_period.1 M_X6_period.1 ∈ am_Tg := tw_446
def M_X7_isAsBefore : am_M := (yX7_isAsBefore, cX7_isAsBefore, 3, (Option.some Jvm.ClassFile.FieldType.boolean), 1)
theorem ok_X7_isAsBefore : am_okM M_X7_isAsBefore 1 := ⟨plainFor_of_name (by decide +kernel), ⟨by decide +kernel, by decide +kernel, by decide +kernel⟩, tw_1111, by decide, tw_9⟩
theorem in_X7_isAsBefore : Cond.instanceMethod M_X7_isAsBefore.1 ∈ am_Tg := tw_1110
theorem se_X7_isAsBefore : Cond.selects M_X7_isAsBefore.1.cls M_X7_isAsBefore.1 M_X7_isAsBefore.1 ∈ am_Tg := am_in_s 69 (by decide +kernel) rfl
def M_X7_period : am_M := (yX7_period, cX7_period, 5, (Option.some Jvm.ClassFile.FieldType.int), 5)
theorem ok_X7_period : am_okM M_X7_period 1 := ⟨plainFor_of_name (by decide +kernel), ⟨by decide +kernel, by decide +kernel, by decide +kernel⟩, tw_1107, by decide, tw_9⟩
theorem in_X7_period : Cond.instanceMethod M_X7_period.1 ∈ am_Tg := tw_1105
theorem se_X7_period : Cond.selects M_X7_period.1.cls M_X7_period.1 M_X7_period.1 ∈ am_Tg := tw_1106
def M_X6_foot : am_M := (yX6_foot, cX6_foot, 6, (Option.some Jvm.ClassFile.FieldType.int), 1)
theorem ok_X6_foot : am_okM M_X6_foot 3 := ⟨plainFor_of_name (by decide +kernel), ⟨by decide +kernel, by decide +kernel, by decide +kernel⟩, tw_456, by decide, tw_1⟩
theorem in_X6_foot : Cond.instanceMethod M_X6_foot.1 ∈ am_Tg := tw_454
theorem se_X6_foot : Cond.selects M_X6_foot.1.cls M_X6_foot.1 M_X6_foot.1 ∈ am_Tg := tw_455
def M_X7_foot : am_M := (yX7_foot, cX7_foot, 5, (Option.some Jvm.ClassFile.FieldType.int), 3)
theorem ok_X7_foot : am_okM M_X7_foot 3 := ⟨plainFor_of_name (by decide +kernel), ⟨by decide +kernel, by decide +kernel, by decide +kernel⟩, tw_1115, by decide, tw_9⟩
theorem in_X7_foot : Cond.instanceMethod M_X7_foot.1 ∈ am_Tg := tw_1113
theorem se_X7_foot : Cond.selects M_X7_foot.1.cls M_X7_foot.1 M_X7_foot.1 ∈ am_Tg := tw_1114
def M_X6_worm : am_M := (yX6_worm, cX6_worm, 7, (Option.some Jvm.ClassFile.FieldType.int), 1)
theorem ok_X6_worm : am_okM M_X6_worm 2 := ⟨plainFor_of_name (by decide +kernel), ⟨by decide +kernel, by decide +kernel, by decide +kernel⟩, tw_460, by decide, tw_1⟩
theorem in_X6_worm : Cond.instanceMethod M_X6_worm.1 ∈ am_Tg := tw_458
theorem se_X6_worm : Cond.selects M_X6_worm.1.cls M_X6_worm.1 M_X6_worm.1 ∈ am_Tg := tw_459
def M_X7_worm : am_M := (yX7_worm, cX7_worm, 4, (Option.some Jvm.ClassFile.FieldType.int), 3)
theorem ok_X7_worm : am_okM M_X7_worm 2 := ⟨plainFor_of_name (by decide +kernel), ⟨by decide +kernel, by decide +kernel, by decide +kernel⟩, tw_1119, by decide, tw_9⟩
theorem in_X7_worm : Cond.instanceMethod M_X7_worm.1 ∈ am_Tg := tw_1117
theorem se_X7_worm : Cond.selects M_X7_worm.1.cls M_X7_worm.1 M_X7_worm.1 ∈ am_Tg := tw_1118
def M_X6_press : am_M := (yX6_press, cX6_press, 6, (Option.some Jvm.ClassFile.FieldType.int), 1)
theorem ok_X6_press : am_okM M_X6_press 2 := ⟨plainFor_of_name (by decide +kernel), ⟨by decide +kernel, by decide +kernel, by decide +kernel⟩, tw_464, by decide, tw_1⟩
theorem in_X6_press : Cond.instanceMethod M_X6_press.1 ∈ am_Tg := tw_462
theorem se_X6_press : Cond.selects M_X6_press.1.cls M_X6_press.1 M_X6_press.1 ∈ am_Tg := tw_463
def M_X7_press : am_M := (yX7_press, cX7_press, 5, (Option.some Jvm.ClassFile.FieldType.int), 4)
theorem ok_X7_press : am_okM M_X7_press 2 := ⟨plainFor_of_name (by decide +kernel), ⟨by decide +kernel, by decide +kernel, by decide +kernel⟩, tw_1123, by decide, tw_9⟩
theorem in_X7_press : Cond.instanceMethod M_X7_press.1 ∈ am_Tg := tw_1121
theorem se_X7_press : Cond.selects M_X7_press.1.cls M_X7_press.1 M_X7_press.1 ∈ am_Tg := tw_1122
def M_X6_unlike : am_M := (yX6_unlike, cX6_unlike, 3, (Option.some Jvm.ClassFile.FieldType.int), 3)
theorem ok_X6_unlike : am_okM M_X6_unlike 2 := ⟨plainFor_of_name (by decide +kernel), ⟨by decide +kernel, by decide +kernel, by decide +kernel⟩, tw_468, by decide, tw_1⟩
theorem in_X6_unlike : Cond.instanceMethod M_X6_unlike.1 ∈ am_Tg := tw_466
theorem se_X6_unlike : Cond.selects M_X6_unlike.1.cls M_X6_unlike.1 M_X6_unlike.1 ∈ am_Tg := tw_467
def M_X7_unlikeBy : am_M := (yX7_unlikeBy, cX7_unlikeBy, 6, (Option.some Jvm.ClassFile.FieldType.int), 3)
theorem ok_X7_unlikeBy : am_okM M_X7_unlikeBy 3 := ⟨plainFor_of_name (by decide +kernel), ⟨by decide +kernel, by decide +kernel, by decide +kernel⟩, tw_1131, by decide, tw_9⟩
theorem in_X7_unlikeBy : Cond.instanceMethod M_X7_unlikeBy.1 ∈ am_Tg := tw_1130
theorem se_X7_unlikeBy : Cond.selects M_X7_unlikeBy.1.cls M_X7_unlikeBy.1 M_X7_unlikeBy.1 ∈ am_Tg := am_in_s 70 (by decide +kernel) rfl
def M_X7_unlike : am_M := (yX7_unlike, cX7_unlike, 3, (Option.some Jvm.ClassFile.FieldType.int), 4)
theorem ok_X7_unlike : am_okM M_X7_unlike 2 := ⟨plainFor_of_name (by decide +kernel), ⟨by decide +kernel, by decide +kernel, by decide +kernel⟩, tw_1127, by decide, tw_9⟩
theorem in_X7_unlike : Cond.instanceMethod M_X7_unlike.1 ∈ am_Tg := tw_1125
theorem se_X7_unlike : Cond.selects M_X7_unlike.1.cls M_X7_unlike.1 M_X7_unlike.1 ∈ am_Tg := tw_1126
def M_X6_turned : am_M := (yX6_turned, cX6_turned, 8, (Option.some Jvm.ClassFile.FieldType.int), 3)
theorem ok_X6_turned : am_okM M_X6_turned 3 := ⟨plainFor_of_name (by decide +kernel), ⟨by decide +kernel, by decide +kernel, by decide +kernel⟩, tw_472, by decide, tw_1⟩
theorem in_X6_turned : Cond.instanceMethod M_X6_turned.1 ∈ am_Tg := tw_470
theorem se_X6_turned : Cond.selects M_X6_turned.1.cls M_X6_turned.1 M_X6_turned.1 ∈ am_Tg := tw_471
def M_X7_turned : am_M := (yX7_turned, cX7_turned, 6, (Option.some Jvm.ClassFile.FieldType.int), 4)
theorem ok_X7_turned : am_okM M_X7_turned 3 := ⟨plainFor_of_name (by decide +kernel), ⟨by decide +kernel, by decide +kernel, by decide +kernel⟩, tw_1135, by decide, tw_9⟩
theorem in_X7_turned : Cond.instanceMethod M_X7_turned.1 ∈ am_Tg := tw_1133
theorem se_X7_turned : Cond.selects M_X7_turned.1.cls M_X7_turned.1 M_X7_turned.1 ∈ am_Tg := tw_1134
def M_X6_isSheet : am_M := (yX6_isSheet, cX6_isSheet, 1, (Option.some Jvm.ClassFile.FieldType.boolean), 0)
theorem ok_X6_isSheet : am_okM M_X6_isSheet 1 := ⟨plainFor_of_name (by decide +kernel), ⟨by decide +kernel, by decide +kernel, by decide +kernel⟩, tw_479, by decide, tw_1⟩
theorem st_X6_isSheet : Cond.static M_X6_isSheet.1 ∈ am_Tg := tw_478
def M_X6_thinkBehind : am_M := (yX6_thinkBehind, cX6_thinkBehind, 7, (Option.some (Jvm.ClassFile.FieldType.object "SandRipples$Floor")), 5)
theorem ok_X6_thinkBehind : am_okM M_X6_thinkBehind 4 := ⟨plainFor_of_name (by decide +kernel), ⟨by decide +kernel, by decide +kernel, by decide +kernel⟩, tw_485, by decide, tw_1⟩
theorem in_X6_thinkBehind : Cond.instanceMethod M_X6_thinkBehind.1 ∈ am_Tg := tw_484
theorem se_X6_thinkBehind : Cond.selects M_X6_thinkBehind.1.cls M_X6_thinkBehind.1 M_X6_thinkBehind.1 ∈ am_Tg := am_in_s 22 (by decide +kernel) rfl
def M_X2_hasPlace : am_M := (yX2_hasPlace, cX2_hasPlace, 2, (Option.some Jvm.ClassFile.FieldType.boolean), 0)
theorem ok_X2_hasPlace : am_okM M_X2_hasPlace 1 := ⟨plainFor_of_name (by decide +kernel), ⟨by decide +kernel, by decide +kernel, by decide +kernel⟩, tw_497, by decide, tw_7⟩
theorem in_X2_hasPlace : Cond.instanceMethod M_X2_hasPlace.1 ∈ am_Tg := tw_496
theorem se_X2_hasPlace : Cond.selects M_X2_hasPlace.1.cls M_X2_hasPlace.1 M_X2_hasPlace.1 ∈ am_Tg := am_in_s 25 (by decide +kernel) rfl
def M_X2_isNumber : am_M := (yX2_isNumber, cX2_isNumber, 2, (Option.some Jvm.ClassFile.FieldType.boolean), 1)
theorem ok_X2_isNumber : am_okM M_X2_isNumber 1 := ⟨plainFor_of_name (by decide +kernel), ⟨by decide +kernel, by decide +kernel, by decide +kernel⟩, tw_493, by decide, tw_7⟩
theorem in_X2_isNumber : Cond.instanceMethod M_X2_isNumber.1 ∈ am_Tg := tw_492
theorem se_X2_isNumber : Cond.selects M_X2_isNumber.1.cls M_X2_isNumber.1 M_X2_isNumber.1 ∈ am_Tg := am_in_s 24 (by decide +kernel) rfl
def M_X2_differences : am_M := (yX2_differences, cX2_differences, 4, (Option.some Jvm.ClassFile.FieldType.int), 2)
theorem ok_X2_differences : am_okM M_X2_differences 1 := ⟨plainFor_of_name (by decide +kernel), ⟨by decide +kernel, by decide +kernel, by decide +kernel⟩, tw_489, by decide, tw_7⟩
theorem in_X2_differences : Cond.instanceMethod M_X2_differences.1 ∈ am_Tg := tw_488
theorem se_X2_differences : Cond.selects M_X2_differences.1.cls M_X2_differences.1 M_X2_differences.1 ∈ am_Tg := am_in_s 23 (by decide +kernel) rfl
def M_X6_seen : am_M := (yX6_seen, cX6_seen, 9, (Option.some Jvm.ClassFile.FieldType.int), 6)
theorem ok_X6_seen : am_okM M_X6_seen 3 := ⟨plainFor_of_name (by decide +kernel), ⟨by decide +kernel, by decide +kernel, by decide +kernel⟩, tw_476, by decide, tw_1⟩
theorem in_X6_seen : Cond.instanceMethod M_X6_seen.1 ∈ am_Tg := tw_474
theorem se_X6_seen : Cond.selects M_X6_seen.1.cls M_X6_seen.1 M_X6_seen.1 ∈ am_Tg := tw_475
def M_X7_isSheet : am_M := (yX7_isSheet, cX7_isSheet, 1, (Option.some Jvm.ClassFile.FieldType.boolean), 1)
theorem ok_X7_isSheet : am_okM M_X7_isSheet 1 := ⟨plainFor_of_name (by decide +kernel), ⟨by decide +kernel, by decide +kernel, by decide +kernel⟩, tw_1142, by decide, tw_9⟩
theorem st_X7_isSheet : Cond.static M_X7_isSheet.1 ∈ am_Tg := tw_1141
def M_X7_offBy : am_M := (yX7_offBy, cX7_offBy, 8, (Option.some Jvm.ClassFile.FieldType.long), 3)
theorem ok_X7_offBy : am_okM M_X7_offBy 2 := ⟨plainFor_of_name (by decide +kernel), ⟨by decide +kernel, by decide +kernel, by decide +kernel⟩, tw_1147, by decide, tw_9⟩
theorem in_X7_offBy : Cond.instanceMethod M_X7_offBy.1 ∈ am_Tg := tw_1146
theorem se_X7_offBy : Cond.selects M_X7_offBy.1.cls M_X7_offBy.1 M_X7_offBy.1 ∈ am_Tg := am_in_s 71 (by decide +kernel) rfl
def M_X7_seen : am_M := (yX7_seen, cX7_seen, 12, (Option.some Jvm.ClassFile.FieldType.int), 6)
theorem ok_X7_seen : am_okM M_X7_seen 3 := ⟨plainFor_of_name (by decide +kernel), ⟨by decide +kernel, by decide +kernel, by decide +kernel⟩, tw_1139, by decide, tw_9⟩
theorem in_X7_seen : Cond.instanceMethod M_X7_seen.1 ∈ am_Tg := tw_1137
theorem se_X7_seen : Cond.selects M_X7_seen.1.cls M_X7_seen.1 M_X7_seen.1 ∈ am_Tg := tw_1138
def M_X6_best : am_M := (yX6_best, cX6_best, 8, (Option.some Jvm.ClassFile.FieldType.int), 6)
theorem ok_X6_best : am_okM M_X6_best 3 := ⟨plainFor_of_name (by decide +kernel), ⟨by decide +kernel, by decide +kernel, by decide +kernel⟩, tw_503, by decide, tw_1⟩
theorem in_X6_best : Cond.instanceMethod M_X6_best.1 ∈ am_Tg := tw_501
theorem se_X6_best : Cond.selects M_X6_best.1.cls M_X6_best.1 M_X6_best.1 ∈ am_Tg := tw_502
def M_X7_best : am_M := (yX7_best, cX7_best, 10, (Option.some Jvm.ClassFile.FieldType.int), 6)
theorem ok_X7_best : am_okM M_X7_best 3 := ⟨plainFor_of_name (by decide +kernel), ⟨by decide +kernel, by decide +kernel, by decide +kernel⟩, tw_1151, by decide, tw_9⟩
theorem in_X7_best : Cond.instanceMethod M_X7_best.1 ∈ am_Tg := tw_1149
theorem se_X7_best : Cond.selects M_X7_best.1.cls M_X7_best.1 M_X7_best.1 ∈ am_Tg := tw_1150
def M_X6_feedNumber : am_M := (yX6_feedNumber, cX6_feedNumber, 3, (Option.none : Option Jvm.ClassFile.FieldType), 0)
theorem ok_X6_feedNumber : am_okM M_X6_feedNumber 1 := ⟨plainFor_of_name (by decide +kernel), ⟨by decide +kernel, by decide +kernel, by decide +kernel⟩, tw_511, by decide, tw_1⟩
theorem in_X6_feedNumber : Cond.instanceMethod M_X6_feedNumber.1 ∈ am_Tg := tw_510
theorem se_X6_feedNumber : Cond.selects M_X6_feedNumber.1.cls M_X6_feedNumber.1 M_X6_feedNumber.1 ∈ am_Tg := am_in_s 26 (by decide +kernel) rfl
def M_X6_feed : am_M := (yX6_feed, cX6_feed, 4, (Option.some Jvm.ClassFile.FieldType.int), 1)
theorem ok_X6_feed : am_okM M_X6_feed 3 := ⟨plainFor_of_name (by decide +kernel), ⟨by decide +kernel, by decide +kernel, by decide +kernel⟩, tw_507, by decide, tw_1⟩
theorem in_X6_feed : Cond.instanceMethod M_X6_feed.1 ∈ am_Tg := tw_505
theorem se_X6_feed : Cond.selects M_X6_feed.1.cls M_X6_feed.1 M_X6_feed.1 ∈ am_Tg := tw_506
def M_X7_feed : am_M := (yX7_feed, cX7_feed, 6, (Option.some Jvm.ClassFile.FieldType.int), 0)
theorem ok_X7_feed : am_okM M_X7_feed 3 := ⟨plainFor_of_name (by decide +kernel), ⟨by decide +kernel, by decide +kernel, by decide +kernel⟩, tw_1155, by decide, tw_9⟩
theorem in_X7_feed : Cond.instanceMethod M_X7_feed.1 ∈ am_Tg := tw_1153
theorem se_X7_feed : Cond.selects M_X7_feed.1.cls M_X7_feed.1 M_X7_feed.1 ∈ am_Tg := tw_1154
def M_X6_trim : am_M := (yX6_trim, cX6_trim, 2, (Option.some Jvm.ClassFile.FieldType.int), 0)
theorem ok_X6_trim : am_okM M_X6_trim 1 := ⟨plainFor_of_name (by decide +kernel), ⟨by decide +kernel, by decide +kernel, by decide +kernel⟩, tw_515, by decide, tw_1⟩
theorem in_X6_trim : Cond.instanceMethod M_X6_trim.1 ∈ am_Tg := tw_513
theorem se_X6_trim : Cond.selects M_X6_trim.1.cls M_X6_trim.1 M_X6_trim.1 ∈ am_Tg := tw_514
def M_X7_trim : am_M := (yX7_trim, cX7_trim, 2, (Option.some Jvm.ClassFile.FieldType.int), 1)
theorem ok_X7_trim : am_okM M_X7_trim 1 := ⟨plainFor_of_name (by decide +kernel), ⟨by decide +kernel, by decide +kernel, by decide +kernel⟩, tw_1159, by decide, tw_9⟩
theorem in_X7_trim : Cond.instanceMethod M_X7_trim.1 ∈ am_Tg := tw_1157
theorem se_X7_trim : Cond.selects M_X7_trim.1.cls M_X7_trim.1 M_X7_trim.1 ∈ am_Tg := tw_1158
def M_X1_begin : am_M := (yX1_begin, cX1_begin, 1, (Option.none : Option Jvm.ClassFile.FieldType), 0)
theorem ok_X1_begin : am_okM M_X1_begin 0 := ⟨plainFor_of_name (by decide +kernel), ⟨by decide +kernel, by decide +kernel, by decide +kernel⟩, tw_527, by decide, tw_5⟩
theorem in_X1_begin : Cond.instanceMethod M_X1_begin.1 ∈ am_Tg := tw_526
theorem se_X1_begin : Cond.selects M_X1_begin.1.cls M_X1_begin.1 M_X1_begin.1 ∈ am_Tg := am_in_s 28 (by decide +kernel) rfl
def M_X1_pastBlanks : am_M := (yX1_pastBlanks, cX1_pastBlanks, 4, (Option.some Jvm.ClassFile.FieldType.int), 0)
theorem ok_X1_pastBlanks : am_okM M_X1_pastBlanks 3 := ⟨plainFor_of_name (by decide +kernel), ⟨by decide +kernel, by decide +kernel, by decide +kernel⟩, tw_530, by decide, tw_5⟩
theorem st_X1_pastBlanks : Cond.static M_X1_pastBlanks.1 ∈ am_Tg := tw_529
def M_X1_isLetter : am_M := (yX1_isLetter, cX1_isLetter, 1, (Option.some Jvm.ClassFile.FieldType.boolean), 0)
theorem ok_X1_isLetter : am_okM M_X1_isLetter 1 := ⟨plainFor_of_name (by decide +kernel), ⟨by decide +kernel, by decide +kernel, by decide +kernel⟩, tw_536, by decide, tw_5⟩
theorem st_X1_isLetter : Cond.static M_X1_isLetter.1 ∈ am_Tg := tw_535
def M_X1_isDigit : am_M := (yX1_isDigit, cX1_isDigit, 1, (Option.some Jvm.ClassFile.FieldType.boolean), 0)
theorem ok_X1_isDigit : am_okM M_X1_isDigit 1 := ⟨plainFor_of_name (by decide +kernel), ⟨by decide +kernel, by decide +kernel, by decide +kernel⟩, tw_539, by decide, tw_5⟩
theorem st_X1_isDigit : Cond.static M_X1_isDigit.1 ∈ am_Tg := tw_538
def M_X1_endOfWord : am_M := (yX1_endOfWord, cX1_endOfWord, 6, (Option.some Jvm.ClassFile.FieldType.int), 1)
theorem ok_X1_endOfWord : am_okM M_X1_endOfWord 3 := ⟨plainFor_of_name (by decide +kernel), ⟨by decide +kernel, by decide +kernel, by decide +kernel⟩, tw_533, by decide, tw_5⟩
theorem st_X1_endOfWord : Cond.static M_X1_endOfWord.1 ∈ am_Tg := tw_532
def M_X1_wordOf : am_M := (yX1_wordOf, cX1_wordOf, 1, (Option.some (Jvm.ClassFile.FieldType.object "java/lang/String")), 0)
theorem ok_X1_wordOf : am_okM M_X1_wordOf 1 := ⟨plainFor_of_name (by decide +kernel), ⟨by decide +kernel, by decide +kernel, by decide +kernel⟩, tw_545, by decide, tw_5⟩
theorem st_X1_wordOf : Cond.static M_X1_wordOf.1 ∈ am_Tg := tw_544
def M_J0_coder_7d493 : am_M := (yJ0_coder_7d493, cJ0_coder_7d493, 1, (Option.some Jvm.ClassFile.FieldType.byte), 0)
theorem ok_J0_coder_7d493 : am_okM M_J0_coder_7d493 0 := ⟨plainFor_of_name (by decide +kernel), ⟨by decide +kernel, by decide +kernel, by decide +kernel⟩, tw_559, by decide, tw_12⟩
theorem in_J0_coder_7d493 : Cond.instanceMethod M_J0_coder_7d493.1 ∈ am_Tg := tw_557
theorem se_J0_coder_7d493 : Cond.selects M_J0_coder_7d493.1.cls M_J0_coder_7d493.1 M_J0_coder_7d493.1 ∈ am_Tg := tw_558
def M_J0_length_8abf5 : am_M := (yJ0_length_8abf5, cJ0_length_8abf5, 1, (Option.some Jvm.ClassFile.FieldType.int), 1)
theorem ok_J0_length_8abf5 : am_okM M_J0_length_8abf5 0 := ⟨plainFor_of_name (by decide +kernel), ⟨by decide +kernel, by decide +kernel, by decide +kernel⟩, tw_555, by decide, tw_12⟩
theorem in_J0_length_8abf5 : Cond.instanceMethod M_J0_length_8abf5.1 ∈ am_Tg := tw_553
theorem se_J0_length_8abf5 : Cond.selects M_J0_length_8abf5.1.cls M_J0_length_8abf5.1 M_J0_length_8abf5.1 ∈ am_Tg := tw_554
def M_J0_isLatin1_aae02 : am_M := (yJ0_isLatin1_aae02, cJ0_isLatin1_aae02, 1, (Option.some Jvm.ClassFile.FieldType.boolean), 0)
theorem ok_J0_isLatin1_aae02 : am_okM M_J0_isLatin1_aae02 0 := ⟨plainFor_of_name (by decide +kernel), ⟨by decide +kernel, by decide +kernel, by decide +kernel⟩, tw_569, by decide, tw_12⟩
theorem in_J0_isLatin1_aae02 : Cond.instanceMethod M_J0_isLatin1_aae02.1 ∈ am_Tg := tw_567
theorem se_J0_isLatin1_aae02 : Cond.selects M_J0_isLatin1_aae02.1.cls M_J0_isLatin1_aae02.1 M_J0_isLatin1_aae02.1 ∈ am_Tg := tw_568
def M_J3_checkIndex_8e157 : am_M := (yJ3_checkIndex_8e157, cJ3_checkIndex_8e157, 3, (Option.some Jvm.ClassFile.FieldType.int), 0)
theorem ok_J3_checkIndex_8e157 : am_okM M_J3_checkIndex_8e157 3 := ⟨plainFor_of_name (by decide +kernel), ⟨by decide +kernel, by decide +kernel, by decide +kernel⟩, tw_580, by decide, tw_14⟩
theorem st_J3_checkIndex_8e157 : Cond.static M_J3_checkIndex_8e157.1 ∈ am_Tg := tw_579
def M_J0_checkIndex_df160 : am_M := (yJ0_checkIndex_df160, cJ0_checkIndex_df160, 2, (Option.none : Option Jvm.ClassFile.FieldType), 1)
theorem ok_J0_checkIndex_df160 : am_okM M_J0_checkIndex_df160 2 := ⟨plainFor_of_name (by decide +kernel), ⟨by decide +kernel, by decide +kernel, by decide +kernel⟩, tw_575, by decide, tw_12⟩
theorem st_J0_checkIndex_df160 : Cond.static M_J0_checkIndex_df160.1 ∈ am_Tg := tw_574
def M_J1_charAt_3b067 : am_M := (yJ1_charAt_3b067, cJ1_charAt_3b067, 2, (Option.some Jvm.ClassFile.FieldType.char), 2)
theorem ok_J1_charAt_3b067 : am_okM M_J1_charAt_3b067 2 := ⟨plainFor_of_name (by decide +kernel), ⟨by decide +kernel, by decide +kernel, by decide +kernel⟩, tw_572, by decide, tw_13⟩
theorem st_J1_charAt_3b067 : Cond.static M_J1_charAt_3b067.1 ∈ am_Tg := tw_571
def M_J0_charAt_5068e : am_M := (yJ0_charAt_5068e, cJ0_charAt_5068e, 2, (Option.some Jvm.ClassFile.FieldType.char), 3)
theorem ok_J0_charAt_5068e : am_okM M_J0_charAt_5068e 1 := ⟨plainFor_of_name (by decide +kernel), ⟨by decide +kernel, by decide +kernel, by decide +kernel⟩, tw_565, by decide, tw_12⟩
theorem in_J0_charAt_5068e : Cond.instanceMethod M_J0_charAt_5068e.1 ∈ am_Tg := tw_563
theorem se_J0_charAt_5068e : Cond.selects M_J0_charAt_5068e.1.cls M_J0_charAt_5068e.1 M_J0_charAt_5068e.1 ∈ am_Tg := tw_564
def M_X1_isWord : am_M := (yX1_isWord, cX1_isWord, 5, (Option.some Jvm.ClassFile.FieldType.boolean), 4)
theorem ok_X1_isWord : am_okM M_X1_isWord 4 := ⟨plainFor_of_name (by decide +kernel), ⟨by decide +kernel, by decide +kernel, by decide +kernel⟩, tw_551, by decide, tw_5⟩
theorem st_X1_isWord : Cond.static M_X1_isWord.1 ∈ am_Tg := tw_550
def M_X1_keyOf : am_M := (yX1_keyOf, cX1_keyOf, 4, (Option.some Jvm.ClassFile.FieldType.int), 5)
theorem ok_X1_keyOf : am_okM M_X1_keyOf 3 := ⟨plainFor_of_name (by decide +kernel), ⟨by decide +kernel, by decide +kernel, by decide +kernel⟩, tw_542, by decide, tw_5⟩
theorem st_X1_keyOf : Cond.static M_X1_keyOf.1 ∈ am_Tg := tw_541
def M_X1_isInWord : am_M := (yX1_isInWord, cX1_isInWord, 1, (Option.some Jvm.ClassFile.FieldType.boolean), 1)
theorem ok_X1_isInWord : am_okM M_X1_isInWord 1 := ⟨plainFor_of_name (by decide +kernel), ⟨by decide +kernel, by decide +kernel, by decide +kernel⟩, tw_602, by decide, tw_5⟩
theorem st_X1_isInWord : Cond.static M_X1_isInWord.1 ∈ am_Tg := tw_601
def M_X1_put : am_M := (yX1_put, cX1_put, 2, (Option.none : Option Jvm.ClassFile.FieldType), 0)
theorem ok_X1_put : am_okM M_X1_put 1 := ⟨plainFor_of_name (by decide +kernel), ⟨by decide +kernel, by decide +kernel, by decide +kernel⟩, tw_618, by decide, tw_5⟩
theorem in_X1_put : Cond.instanceMethod M_X1_put.1 ∈ am_Tg := tw_617
theorem se_X1_put : Cond.selects M_X1_put.1.cls M_X1_put.1 M_X1_put.1 ∈ am_Tg := am_in_s 32 (by decide +kernel) rfl
def M_X1_endPiece : am_M := (yX1_endPiece, cX1_endPiece, 1, (Option.none : Option Jvm.ClassFile.FieldType), 1)
theorem ok_X1_endPiece : am_okM M_X1_endPiece 0 := ⟨plainFor_of_name (by decide +kernel), ⟨by decide +kernel, by decide +kernel, by decide +kernel⟩, tw_622, by decide, tw_5⟩
theorem in_X1_endPiece : Cond.instanceMethod M_X1_endPiece.1 ∈ am_Tg := tw_621
theorem se_X1_endPiece : Cond.selects M_X1_endPiece.1.cls M_X1_endPiece.1 M_X1_endPiece.1 ∈ am_Tg := am_in_s 33 (by decide +kernel) rfl
def M_X1_takeLeaf : am_M := (yX1_takeLeaf, cX1_takeLeaf, 2, (Option.none : Option Jvm.ClassFile.FieldType), 2)
theorem ok_X1_takeLeaf : am_okM M_X1_takeLeaf 1 := ⟨plainFor_of_name (by decide +kernel), ⟨by decide +kernel, by decide +kernel, by decide +kernel⟩, tw_614, by decide, tw_5⟩
theorem in_X1_takeLeaf : Cond.instanceMethod M_X1_takeLeaf.1 ∈ am_Tg := tw_613
theorem se_X1_takeLeaf : Cond.selects M_X1_takeLeaf.1.cls M_X1_takeLeaf.1 M_X1_takeLeaf.1 ∈ am_Tg := am_in_s 31 (by decide +kernel) rfl
def M_X1_takesNumber : am_M := (yX1_takesNumber, cX1_takesNumber, 6, (Option.some Jvm.ClassFile.FieldType.boolean), 3)
theorem ok_X1_takesNumber : am_okM M_X1_takesNumber 3 := ⟨plainFor_of_name (by decide +kernel), ⟨by decide +kernel, by decide +kernel, by decide +kernel⟩, tw_610, by decide, tw_5⟩
theorem in_X1_takesNumber : Cond.instanceMethod M_X1_takesNumber.1 ∈ am_Tg := tw_609
theorem se_X1_takesNumber : Cond.selects M_X1_takesNumber.1.cls M_X1_takesNumber.1 M_X1_takesNumber.1 ∈ am_Tg := am_in_s 30 (by decide +kernel) rfl
def M_X1_namesOf : am_M := (yX1_namesOf, cX1_namesOf, 1, (Option.some (Jvm.ClassFile.FieldType.object "java/lang/String")), 0)
theorem ok_X1_namesOf : am_okM M_X1_namesOf 1 := ⟨plainFor_of_name (by decide +kernel), ⟨by decide +kernel, by decide +kernel, by decide +kernel⟩, tw_629, by decide, tw_5⟩
theorem st_X1_namesOf : Cond.static M_X1_namesOf.1 ∈ am_Tg := tw_628
def M_J1_canEncode_9a6ad : am_M := (yJ1_canEncode_9a6ad, cJ1_canEncode_9a6ad, 1, (Option.some Jvm.ClassFile.FieldType.boolean), 0)
theorem ok_J1_canEncode_9a6ad : am_okM M_J1_canEncode_9a6ad 1 := ⟨plainFor_of_name (by decide +kernel), ⟨by decide +kernel, by decide +kernel, by decide +kernel⟩, tw_647, by decide, tw_13⟩
theorem st_J1_canEncode_9a6ad : Cond.static M_J1_canEncode_9a6ad.1 ∈ am_Tg := tw_646
def M_J1_indexOfChar_4cfef : am_M := (yJ1_indexOfChar_4cfef, cJ1_indexOfChar_4cfef, 6, (Option.some Jvm.ClassFile.FieldType.int), 0)
theorem ok_J1_indexOfChar_4cfef : am_okM M_J1_indexOfChar_4cfef 4 := ⟨plainFor_of_name (by decide +kernel), ⟨by decide +kernel, by decide +kernel, by decide +kernel⟩, tw_652, by decide, tw_13⟩
theorem st_J1_indexOfChar_4cfef : Cond.static M_J1_indexOfChar_4cfef.1 ∈ am_Tg := tw_651
def M_J1_indexOf_4cfef : am_M := (yJ1_indexOf_4cfef, cJ1_indexOf_4cfef, 4, (Option.some Jvm.ClassFile.FieldType.int), 1)
theorem ok_J1_indexOf_4cfef : am_okM M_J1_indexOf_4cfef 4 := ⟨plainFor_of_name (by decide +kernel), ⟨by decide +kernel, by decide +kernel, by decide +kernel⟩, tw_644, by decide, tw_13⟩
theorem st_J1_indexOf_4cfef : Cond.static M_J1_indexOf_4cfef.1 ∈ am_Tg := tw_643
def M_J0_indexOf_7cf53 : am_M := (yJ0_indexOf_7cf53, cJ0_indexOf_7cf53, 3, (Option.some Jvm.ClassFile.FieldType.int), 2)
theorem ok_J0_indexOf_7cf53 : am_okM M_J0_indexOf_7cf53 2 := ⟨plainFor_of_name (by decide +kernel), ⟨by decide +kernel, by decide +kernel, by decide +kernel⟩, tw_640, by decide, tw_12⟩
theorem in_J0_indexOf_7cf53 : Cond.instanceMethod M_J0_indexOf_7cf53.1 ∈ am_Tg := tw_638
theorem se_J0_indexOf_7cf53 : Cond.selects M_J0_indexOf_7cf53.1.cls M_J0_indexOf_7cf53.1 M_J0_indexOf_7cf53.1 ∈ am_Tg := tw_639
def M_J0_indexOf_0f7a4 : am_M := (yJ0_indexOf_0f7a4, cJ0_indexOf_0f7a4, 2, (Option.some Jvm.ClassFile.FieldType.int), 3)
theorem ok_J0_indexOf_0f7a4 : am_okM M_J0_indexOf_0f7a4 1 := ⟨plainFor_of_name (by decide +kernel), ⟨by decide +kernel, by decide +kernel, by decide +kernel⟩, tw_636, by decide, tw_12⟩
theorem in_J0_indexOf_0f7a4 : Cond.instanceMethod M_J0_indexOf_0f7a4.1 ∈ am_Tg := tw_634
theorem se_J0_indexOf_0f7a4 : Cond.selects M_J0_indexOf_0f7a4.1.cls M_J0_indexOf_0f7a4.1 M_J0_indexOf_0f7a4.1 ∈ am_Tg := tw_635
def M_X1_takesName : am_M := (yX1_takesName, cX1_takesName, 3, (Option.some Jvm.ClassFile.FieldType.boolean), 4)
theorem ok_X1_takesName : am_okM M_X1_takesName 1 := ⟨plainFor_of_name (by decide +kernel), ⟨by decide +kernel, by decide +kernel, by decide +kernel⟩, tw_626, by decide, tw_5⟩
theorem in_X1_takesName : Cond.instanceMethod M_X1_takesName.1 ∈ am_Tg := tw_625
theorem se_X1_takesName : Cond.selects M_X1_takesName.1.cls M_X1_takesName.1 M_X1_takesName.1 ∈ am_Tg := am_in_s 34 (by decide +kernel) rfl
def M_X1_waits : am_M := (yX1_waits, cX1_waits, 2, (Option.some Jvm.ClassFile.FieldType.boolean), 0)
theorem ok_X1_waits : am_okM M_X1_waits 1 := ⟨plainFor_of_name (by decide +kernel), ⟨by decide +kernel, by decide +kernel, by decide +kernel⟩, tw_691, by decide, tw_5⟩
theorem in_X1_waits : Cond.instanceMethod M_X1_waits.1 ∈ am_Tg := tw_690
theorem se_X1_waits : Cond.selects M_X1_waits.1.cls M_X1_waits.1 M_X1_waits.1 ∈ am_Tg := am_in_s 35 (by decide +kernel) rfl
def M_X1_takesPiece : am_M := (yX1_takesPiece, cX1_takesPiece, 5, (Option.some Jvm.ClassFile.FieldType.boolean), 5)
theorem ok_X1_takesPiece : am_okM M_X1_takesPiece 3 := ⟨plainFor_of_name (by decide +kernel), ⟨by decide +kernel, by decide +kernel, by decide +kernel⟩, tw_606, by decide, tw_5⟩
theorem in_X1_takesPiece : Cond.instanceMethod M_X1_takesPiece.1 ∈ am_Tg := tw_605
theorem se_X1_takesPiece : Cond.selects M_X1_takesPiece.1.cls M_X1_takesPiece.1 M_X1_takesPiece.1 ∈ am_Tg := am_in_s 29 (by decide +kernel) rfl
def M_X1_rankOf : am_M := (yX1_rankOf, cX1_rankOf, 1, (Option.some Jvm.ClassFile.FieldType.int), 0)
theorem ok_X1_rankOf : am_okM M_X1_rankOf 1 := ⟨plainFor_of_name (by decide +kernel), ⟨by decide +kernel, by decide +kernel, by decide +kernel⟩, tw_706, by decide, tw_5⟩
theorem st_X1_rankOf : Cond.static M_X1_rankOf.1 ∈ am_Tg := tw_705
def M_X1_putThoseAbove : am_M := (yX1_putThoseAbove, cX1_putThoseAbove, 2, (Option.none : Option Jvm.ClassFile.FieldType), 1)
theorem ok_X1_putThoseAbove : am_okM M_X1_putThoseAbove 1 := ⟨plainFor_of_name (by decide +kernel), ⟨by decide +kernel, by decide +kernel, by decide +kernel⟩, tw_703, by decide, tw_5⟩
theorem in_X1_putThoseAbove : Cond.instanceMethod M_X1_putThoseAbove.1 ∈ am_Tg := tw_702
theorem se_X1_putThoseAbove : Cond.selects M_X1_putThoseAbove.1.cls M_X1_putThoseAbove.1 M_X1_putThoseAbove.1 ∈ am_Tg := am_in_s 38 (by decide +kernel) rfl
def M_X1_closesBracket : am_M := (yX1_closesBracket, cX1_closesBracket, 1, (Option.some Jvm.ClassFile.FieldType.boolean), 2)
theorem ok_X1_closesBracket : am_okM M_X1_closesBracket 0 := ⟨plainFor_of_name (by decide +kernel), ⟨by decide +kernel, by decide +kernel, by decide +kernel⟩, tw_699, by decide, tw_5⟩
theorem in_X1_closesBracket : Cond.instanceMethod M_X1_closesBracket.1 ∈ am_Tg := tw_698
theorem se_X1_closesBracket : Cond.selects M_X1_closesBracket.1.cls M_X1_closesBracket.1 M_X1_closesBracket.1 ∈ am_Tg := am_in_s 37 (by decide +kernel) rfl
def M_X1_takesSign : am_M := (yX1_takesSign, cX1_takesSign, 4, (Option.some Jvm.ClassFile.FieldType.boolean), 3)
theorem ok_X1_takesSign : am_okM M_X1_takesSign 1 := ⟨plainFor_of_name (by decide +kernel), ⟨by decide +kernel, by decide +kernel, by decide +kernel⟩, tw_695, by decide, tw_5⟩
theorem in_X1_takesSign : Cond.instanceMethod M_X1_takesSign.1 ∈ am_Tg := tw_694
theorem se_X1_takesSign : Cond.selects M_X1_takesSign.1.cls M_X1_takesSign.1 M_X1_takesSign.1 ∈ am_Tg := am_in_s 36 (by decide +kernel) rfl
def M_X1_endsHere : am_M := (yX1_endsHere, cX1_endsHere, 1, (Option.some Jvm.ClassFile.FieldType.boolean), 2)
theorem ok_X1_endsHere : am_okM M_X1_endsHere 0 := ⟨plainFor_of_name (by decide +kernel), ⟨by decide +kernel, by decide +kernel, by decide +kernel⟩, tw_710, by decide, tw_5⟩
theorem in_X1_endsHere : Cond.instanceMethod M_X1_endsHere.1 ∈ am_Tg := tw_709
theorem se_X1_endsHere : Cond.selects M_X1_endsHere.1.cls M_X1_endsHere.1 M_X1_endsHere.1 ∈ am_Tg := am_in_s 39 (by decide +kernel) rfl
def M_X1_faultOf : am_M := (yX1_faultOf, cX1_faultOf, 8, (Option.some Jvm.ClassFile.FieldType.int), 6)
theorem ok_X1_faultOf : am_okM M_X1_faultOf 2 := ⟨plainFor_of_name (by decide +kernel), ⟨by decide +kernel, by decide +kernel, by decide +kernel⟩, tw_523, by decide, tw_5⟩
theorem in_X1_faultOf : Cond.instanceMethod M_X1_faultOf.1 ∈ am_Tg := tw_522
theorem se_X1_faultOf : Cond.selects M_X1_faultOf.1.cls M_X1_faultOf.1 M_X1_faultOf.1 ∈ am_Tg := am_in_s 27 (by decide +kernel) rfl
def M_X4_take : am_M := (yX4_take, cX4_take, 2, (Option.none : Option Jvm.ClassFile.FieldType), 1)
theorem ok_X4_take : am_okM M_X4_take 1 := ⟨plainFor_of_name (by decide +kernel), ⟨by decide +kernel, by decide +kernel, by decide +kernel⟩, tw_714, by decide, tw_6⟩
theorem in_X4_take : Cond.instanceMethod M_X4_take.1 ∈ am_Tg := tw_713
theorem se_X4_take : Cond.selects M_X4_take.1.cls M_X4_take.1 M_X4_take.1 ∈ am_Tg := am_in_s 40 (by decide +kernel) rfl
def M_X6_text : am_M := (yX6_text, cX6_text, 4, (Option.some Jvm.ClassFile.FieldType.int), 7)
theorem ok_X6_text : am_okM M_X6_text 0 := ⟨plainFor_of_name (by decide +kernel), ⟨by decide +kernel, by decide +kernel, by decide +kernel⟩, tw_519, by decide, tw_1⟩
theorem in_X6_text : Cond.instanceMethod M_X6_text.1 ∈ am_Tg := tw_517
theorem se_X6_text : Cond.selects M_X6_text.1.cls M_X6_text.1 M_X6_text.1 ∈ am_Tg := tw_518
def M_X7_isLetter : am_M := (yX7_isLetter, cX7_isLetter, 2, (Option.some Jvm.ClassFile.FieldType.boolean), 0)
theorem ok_X7_isLetter : am_okM M_X7_isLetter 1 := ⟨plainFor_of_name (by decide +kernel), ⟨by decide +kernel, by decide +kernel, by decide +kernel⟩, tw_1171, by decide, tw_9⟩
theorem in_X7_isLetter : Cond.instanceMethod M_X7_isLetter.1 ∈ am_Tg := tw_1170
theorem se_X7_isLetter : Cond.selects M_X7_isLetter.1.cls M_X7_isLetter.1 M_X7_isLetter.1 ∈ am_Tg := am_in_s 73 (by decide +kernel) rfl
def M_X7_isFigure : am_M := (yX7_isFigure, cX7_isFigure, 2, (Option.some Jvm.ClassFile.FieldType.boolean), 0)
theorem ok_X7_isFigure : am_okM M_X7_isFigure 1 := ⟨plainFor_of_name (by decide +kernel), ⟨by decide +kernel, by decide +kernel, by decide +kernel⟩, tw_1175, by decide, tw_9⟩
theorem in_X7_isFigure : Cond.instanceMethod M_X7_isFigure.1 ∈ am_Tg := tw_1174
theorem se_X7_isFigure : Cond.selects M_X7_isFigure.1.cls M_X7_isFigure.1 M_X7_isFigure.1 ∈ am_Tg := am_in_s 74 (by decide +kernel) rfl
def M_X7_go : am_M := (yX7_go, cX7_go, 2, (Option.none : Option Jvm.ClassFile.FieldType), 1)
theorem ok_X7_go : am_okM M_X7_go 0 := ⟨plainFor_of_name (by decide +kernel), ⟨by decide +kernel, by decide +kernel, by decide +kernel⟩, tw_1167, by decide, tw_9⟩
theorem in_X7_go : Cond.instanceMethod M_X7_go.1 ∈ am_Tg := tw_1166
theorem se_X7_go : Cond.selects M_X7_go.1.cls M_X7_go.1 M_X7_go.1 ∈ am_Tg := am_in_s 72 (by decide +kernel) rfl
def M_X7_takesKey : am_M := (yX7_takesKey, cX7_takesKey, 5, (Option.some Jvm.ClassFile.FieldType.boolean), 2)
theorem ok_X7_takesKey : am_okM M_X7_takesKey 0 := ⟨plainFor_of_name (by decide +kernel), ⟨by decide +kernel, by decide +kernel, by decide +kernel⟩, tw_1179, by decide, tw_9⟩
theorem in_X7_takesKey : Cond.instanceMethod M_X7_takesKey.1 ∈ am_Tg := tw_1178
theorem se_X7_takesKey : Cond.selects M_X7_takesKey.1.cls M_X7_takesKey.1 M_X7_takesKey.1 ∈ am_Tg := am_in_s 75 (by decide +kernel) rfl
def M_X7_nameOf : am_M := (yX7_nameOf, cX7_nameOf, 2, (Option.some Jvm.ClassFile.FieldType.int), 0)
theorem ok_X7_nameOf : am_okM M_X7_nameOf 1 := ⟨plainFor_of_name (by decide +kernel), ⟨by decide +kernel, by decide +kernel, by decide +kernel⟩, tw_1191, by decide, tw_9⟩
theorem in_X7_nameOf : Cond.instanceMethod M_X7_nameOf.1 ∈ am_Tg := tw_1190
theorem se_X7_nameOf : Cond.selects M_X7_nameOf.1.cls M_X7_nameOf.1 M_X7_nameOf.1 ∈ am_Tg := am_in_s 78 (by decide +kernel) rfl
def M_X7_rank : am_M := (yX7_rank, cX7_rank, 1, (Option.some Jvm.ClassFile.FieldType.int), 0)
theorem ok_X7_rank : am_okM M_X7_rank 1 := ⟨plainFor_of_name (by decide +kernel), ⟨by decide +kernel, by decide +kernel, by decide +kernel⟩, tw_1198, by decide, tw_9⟩
theorem st_X7_rank : Cond.static M_X7_rank.1 ∈ am_Tg := tw_1197
def M_X7_settle : am_M := (yX7_settle, cX7_settle, 2, (Option.none : Option Jvm.ClassFile.FieldType), 1)
theorem ok_X7_settle : am_okM M_X7_settle 1 := ⟨plainFor_of_name (by decide +kernel), ⟨by decide +kernel, by decide +kernel, by decide +kernel⟩, tw_1195, by decide, tw_9⟩
theorem in_X7_settle : Cond.instanceMethod M_X7_settle.1 ∈ am_Tg := tw_1194
theorem se_X7_settle : Cond.selects M_X7_settle.1.cls M_X7_settle.1 M_X7_settle.1 ∈ am_Tg := am_in_s 79 (by decide +kernel) rfl
def M_X7_takesPart : am_M := (yX7_takesPart, cX7_takesPart, 2, (Option.some Jvm.ClassFile.FieldType.boolean), 2)
theorem ok_X7_takesPart : am_okM M_X7_takesPart 0 := ⟨plainFor_of_name (by decide +kernel), ⟨by decide +kernel, by decide +kernel, by decide +kernel⟩, tw_1187, by decide, tw_9⟩
theorem in_X7_takesPart : Cond.instanceMethod M_X7_takesPart.1 ∈ am_Tg := tw_1186
theorem se_X7_takesPart : Cond.selects M_X7_takesPart.1.cls M_X7_takesPart.1 M_X7_takesPart.1 ∈ am_Tg := am_in_s 77 (by decide +kernel) rfl
def M_X7_notsOpen : am_M := (yX7_notsOpen, cX7_notsOpen, 3, (Option.some Jvm.ClassFile.FieldType.int), 0)
theorem ok_X7_notsOpen : am_okM M_X7_notsOpen 0 := ⟨plainFor_of_name (by decide +kernel), ⟨by decide +kernel, by decide +kernel, by decide +kernel⟩, tw_1202, by decide, tw_9⟩
theorem in_X7_notsOpen : Cond.instanceMethod M_X7_notsOpen.1 ∈ am_Tg := tw_1201
theorem se_X7_notsOpen : Cond.selects M_X7_notsOpen.1.cls M_X7_notsOpen.1 M_X7_notsOpen.1 ∈ am_Tg := am_in_s 80 (by decide +kernel) rfl
def M_X7_signHere : am_M := (yX7_signHere, cX7_signHere, 1, (Option.some Jvm.ClassFile.FieldType.int), 0)
theorem ok_X7_signHere : am_okM M_X7_signHere 0 := ⟨plainFor_of_name (by decide +kernel), ⟨by decide +kernel, by decide +kernel, by decide +kernel⟩, tw_1206, by decide, tw_9⟩
theorem in_X7_signHere : Cond.instanceMethod M_X7_signHere.1 ∈ am_Tg := tw_1205
theorem se_X7_signHere : Cond.selects M_X7_signHere.1.cls M_X7_signHere.1 M_X7_signHere.1 ∈ am_Tg := am_in_s 81 (by decide +kernel) rfl
def M_X7_takesE : am_M := (yX7_takesE, cX7_takesE, 5, (Option.some Jvm.ClassFile.FieldType.boolean), 3)
theorem ok_X7_takesE : am_okM M_X7_takesE 0 := ⟨plainFor_of_name (by decide +kernel), ⟨by decide +kernel, by decide +kernel, by decide +kernel⟩, tw_1183, by decide, tw_9⟩
theorem in_X7_takesE : Cond.instanceMethod M_X7_takesE.1 ∈ am_Tg := tw_1182
theorem se_X7_takesE : Cond.selects M_X7_takesE.1.cls M_X7_takesE.1 M_X7_takesE.1 ∈ am_Tg := am_in_s 76 (by decide +kernel) rfl
def M_X7_text : am_M := (yX7_text, cX7_text, 4, (Option.some Jvm.ClassFile.FieldType.int), 4)
theorem ok_X7_text : am_okM M_X7_text 0 := ⟨plainFor_of_name (by decide +kernel), ⟨by decide +kernel, by decide +kernel, by decide +kernel⟩, tw_1163, by decide, tw_9⟩
theorem in_X7_text : Cond.instanceMethod M_X7_text.1 ∈ am_Tg := tw_1161
theorem se_X7_text : Cond.selects M_X7_text.1.cls M_X7_text.1 M_X7_text.1 ∈ am_Tg := tw_1162
def M_X6_textTold : am_M := (yX6_textTold, cX6_textTold, 3, (Option.some Jvm.ClassFile.FieldType.int), 0)
theorem ok_X6_textTold : am_okM M_X6_textTold 2 := ⟨plainFor_of_name (by decide +kernel), ⟨by decide +kernel, by decide +kernel, by decide +kernel⟩, tw_720, by decide, tw_1⟩
theorem in_X6_textTold : Cond.instanceMethod M_X6_textTold.1 ∈ am_Tg := tw_718
theorem se_X6_textTold : Cond.selects M_X6_textTold.1.cls M_X6_textTold.1 M_X6_textTold.1 ∈ am_Tg := tw_719
def M_X7_textTold : am_M := (yX7_textTold, cX7_textTold, 3, (Option.some Jvm.ClassFile.FieldType.int), 1)
theorem ok_X7_textTold : am_okM M_X7_textTold 2 := ⟨plainFor_of_name (by decide +kernel), ⟨by decide +kernel, by decide +kernel, by decide +kernel⟩, tw_1210, by decide, tw_9⟩
theorem in_X7_textTold : Cond.instanceMethod M_X7_textTold.1 ∈ am_Tg := tw_1208
theorem se_X7_textTold : Cond.selects M_X7_textTold.1.cls M_X7_textTold.1 M_X7_textTold.1 ∈ am_Tg := tw_1209
def M_X6_why : am_M := (yX6_why, cX6_why, 2, (Option.some Jvm.ClassFile.FieldType.int), 0)
theorem ok_X6_why : am_okM M_X6_why 1 := ⟨plainFor_of_name (by decide +kernel), ⟨by decide +kernel, by decide +kernel, by decide +kernel⟩, tw_724, by decide, tw_1⟩
theorem in_X6_why : Cond.instanceMethod M_X6_why.1 ∈ am_Tg := tw_722
theorem se_X6_why : Cond.selects M_X6_why.1.cls M_X6_why.1 M_X6_why.1 ∈ am_Tg := tw_723
def M_X7_why : am_M := (yX7_why, cX7_why, 3, (Option.some Jvm.ClassFile.FieldType.int), 1)
theorem ok_X7_why : am_okM M_X7_why 1 := ⟨plainFor_of_name (by decide +kernel), ⟨by decide +kernel, by decide +kernel, by decide +kernel⟩, tw_1214, by decide, tw_9⟩
theorem in_X7_why : Cond.instanceMethod M_X7_why.1 ∈ am_Tg := tw_1212
theorem se_X7_why : Cond.selects M_X7_why.1.cls M_X7_why.1 M_X7_why.1 ∈ am_Tg := tw_1213
def M_X2_begin : am_M := (yX2_begin, cX2_begin, 4, (Option.none : Option Jvm.ClassFile.FieldType), 0)
theorem ok_X2_begin : am_okM M_X2_begin 2 := ⟨plainFor_of_name (by decide +kernel), ⟨by decide +kernel, by decide +kernel, by decide +kernel⟩, tw_732, by decide, tw_7⟩
theorem in_X2_begin : Cond.instanceMethod M_X2_begin.1 ∈ am_Tg := tw_731
theorem se_X2_begin : Cond.selects M_X2_begin.1.cls M_X2_begin.1 M_X2_begin.1 ∈ am_Tg := am_in_s 41 (by decide +kernel) rfl
def M_X6_sheet : am_M := (yX6_sheet, cX6_sheet, 4, (Option.some Jvm.ClassFile.FieldType.int), 1)
theorem ok_X6_sheet : am_okM M_X6_sheet 3 := ⟨plainFor_of_name (by decide +kernel), ⟨by decide +kernel, by decide +kernel, by decide +kernel⟩, tw_728, by decide, tw_1⟩
theorem in_X6_sheet : Cond.instanceMethod M_X6_sheet.1 ∈ am_Tg := tw_726
theorem se_X6_sheet : Cond.selects M_X6_sheet.1.cls M_X6_sheet.1 M_X6_sheet.1 ∈ am_Tg := tw_727
def M_X7_sheet : am_M := (yX7_sheet, cX7_sheet, 5, (Option.some Jvm.ClassFile.FieldType.int), 2)
theorem ok_X7_sheet : am_okM M_X7_sheet 3 := ⟨plainFor_of_name (by decide +kernel), ⟨by decide +kernel, by decide +kernel, by decide +kernel⟩, tw_1218, by decide, tw_9⟩
theorem in_X7_sheet : Cond.instanceMethod M_X7_sheet.1 ∈ am_Tg := tw_1216
theorem se_X7_sheet : Cond.selects M_X7_sheet.1.cls M_X7_sheet.1 M_X7_sheet.1 ∈ am_Tg := tw_1217
def M_X6_mark : am_M := (yX6_mark, cX6_mark, 5, (Option.some Jvm.ClassFile.FieldType.int), 1)
theorem ok_X6_mark : am_okM M_X6_mark 3 := ⟨plainFor_of_name (by decide +kernel), ⟨by decide +kernel, by decide +kernel, by decide +kernel⟩, tw_737, by decide, tw_1⟩
theorem in_X6_mark : Cond.instanceMethod M_X6_mark.1 ∈ am_Tg := tw_735
theorem se_X6_mark : Cond.selects M_X6_mark.1.cls M_X6_mark.1 M_X6_mark.1 ∈ am_Tg := tw_736
def M_X7_mark : am_M := (yX7_mark, cX7_mark, 4, (Option.some Jvm.ClassFile.FieldType.int), 2)
theorem ok_X7_mark : am_okM M_X7_mark 3 := ⟨plainFor_of_name (by decide +kernel), ⟨by decide +kernel, by decide +kernel, by decide +kernel⟩, tw_1223, by decide, tw_9⟩
theorem in_X7_mark : Cond.instanceMethod M_X7_mark.1 ∈ am_Tg := tw_1221
theorem se_X7_mark : Cond.selects M_X7_mark.1.cls M_X7_mark.1 M_X7_mark.1 ∈ am_Tg := tw_1222
def M_X6_pour : am_M := (yX6_pour, cX6_pour, 8, (Option.some Jvm.ClassFile.FieldType.int), 2)
theorem ok_X6_pour : am_okM M_X6_pour 2 := ⟨plainFor_of_name (by decide +kernel), ⟨by decide +kernel, by decide +kernel, by decide +kernel⟩, tw_745, by decide, tw_1⟩
theorem in_X6_pour : Cond.instanceMethod M_X6_pour.1 ∈ am_Tg := tw_743
theorem se_X6_pour : Cond.selects M_X6_pour.1.cls M_X6_pour.1 M_X6_pour.1 ∈ am_Tg := tw_744
def M_X7_pour : am_M := (yX7_pour, cX7_pour, 7, (Option.some Jvm.ClassFile.FieldType.int), 3)
theorem ok_X7_pour : am_okM M_X7_pour 2 := ⟨plainFor_of_name (by decide +kernel), ⟨by decide +kernel, by decide +kernel, by decide +kernel⟩, tw_1230, by decide, tw_9⟩
theorem in_X7_pour : Cond.instanceMethod M_X7_pour.1 ∈ am_Tg := tw_1228
theorem se_X7_pour : Cond.selects M_X7_pour.1.cls M_X7_pour.1 M_X7_pour.1 ∈ am_Tg := tw_1229
def M_X6_reads : am_M := (yX6_reads, cX6_reads, 6, (Option.some Jvm.ClassFile.FieldType.int), 2)
theorem ok_X6_reads : am_okM M_X6_reads 2 := ⟨plainFor_of_name (by decide +kernel), ⟨by decide +kernel, by decide +kernel, by decide +kernel⟩, tw_750, by decide, tw_1⟩
theorem in_X6_reads : Cond.instanceMethod M_X6_reads.1 ∈ am_Tg := tw_748
theorem se_X6_reads : Cond.selects M_X6_reads.1.cls M_X6_reads.1 M_X6_reads.1 ∈ am_Tg := tw_749
def M_X7_reads : am_M := (yX7_reads, cX7_reads, 5, (Option.some Jvm.ClassFile.FieldType.int), 3)
theorem ok_X7_reads : am_okM M_X7_reads 2 := ⟨plainFor_of_name (by decide +kernel), ⟨by decide +kernel, by decide +kernel, by decide +kernel⟩, tw_1234, by decide, tw_9⟩
theorem in_X7_reads : Cond.instanceMethod M_X7_reads.1 ∈ am_Tg := tw_1232
theorem se_X7_reads : Cond.selects M_X7_reads.1.cls M_X7_reads.1 M_X7_reads.1 ∈ am_Tg := tw_1233
def M_X2_hasStretch : am_M := (yX2_hasStretch, cX2_hasStretch, 3, (Option.some Jvm.ClassFile.FieldType.boolean), 0)
theorem ok_X2_hasStretch : am_okM M_X2_hasStretch 2 := ⟨plainFor_of_name (by decide +kernel), ⟨by decide +kernel, by decide +kernel, by decide +kernel⟩, tw_758, by decide, tw_7⟩
theorem in_X2_hasStretch : Cond.instanceMethod M_X2_hasStretch.1 ∈ am_Tg := tw_757
theorem se_X2_hasStretch : Cond.selects M_X2_hasStretch.1.cls M_X2_hasStretch.1 M_X2_hasStretch.1 ∈ am_Tg := am_in_s 42 (by decide +kernel) rfl
def M_X6_copy : am_M := (yX6_copy, cX6_copy, 8, (Option.some Jvm.ClassFile.FieldType.int), 1)
theorem ok_X6_copy : am_okM M_X6_copy 5 := ⟨plainFor_of_name (by decide +kernel), ⟨by decide +kernel, by decide +kernel, by decide +kernel⟩, tw_754, by decide, tw_1⟩
theorem in_X6_copy : Cond.instanceMethod M_X6_copy.1 ∈ am_Tg := tw_752
theorem se_X6_copy : Cond.selects M_X6_copy.1.cls M_X6_copy.1 M_X6_copy.1 ∈ am_Tg := tw_753
def M_X7_copy : am_M := (yX7_copy, cX7_copy, 7, (Option.some Jvm.ClassFile.FieldType.int), 2)
theorem ok_X7_copy : am_okM M_X7_copy 5 := ⟨plainFor_of_name (by decide +kernel), ⟨by decide +kernel, by decide +kernel, by decide +kernel⟩, tw_1238, by decide, tw_9⟩
theorem in_X7_copy : Cond.instanceMethod M_X7_copy.1 ∈ am_Tg := tw_1236
theorem se_X7_copy : Cond.selects M_X7_copy.1.cls M_X7_copy.1 M_X7_copy.1 ∈ am_Tg := tw_1237
def M_X6_isSlot : am_M := (yX6_isSlot, cX6_isSlot, 1, (Option.some Jvm.ClassFile.FieldType.boolean), 0)
theorem ok_X6_isSlot : am_okM M_X6_isSlot 1 := ⟨plainFor_of_name (by decide +kernel), ⟨by decide +kernel, by decide +kernel, by decide +kernel⟩, tw_766, by decide, tw_1⟩
theorem st_X6_isSlot : Cond.static M_X6_isSlot.1 ∈ am_Tg := tw_765
def M_X2_become : am_M := (yX2_become, cX2_become, 2, (Option.none : Option Jvm.ClassFile.FieldType), 1)
theorem ok_X2_become : am_okM M_X2_become 1 := ⟨plainFor_of_name (by decide +kernel), ⟨by decide +kernel, by decide +kernel, by decide +kernel⟩, tw_770, by decide, tw_7⟩
theorem in_X2_become : Cond.instanceMethod M_X2_become.1 ∈ am_Tg := tw_769
theorem se_X2_become : Cond.selects M_X2_become.1.cls M_X2_become.1 M_X2_become.1 ∈ am_Tg := am_in_s 43 (by decide +kernel) rfl
def M_X6_lay : am_M := (yX6_lay, cX6_lay, 6, (Option.some Jvm.ClassFile.FieldType.int), 2)
theorem ok_X6_lay : am_okM M_X6_lay 3 := ⟨plainFor_of_name (by decide +kernel), ⟨by decide +kernel, by decide +kernel, by decide +kernel⟩, tw_763, by decide, tw_1⟩
theorem in_X6_lay : Cond.instanceMethod M_X6_lay.1 ∈ am_Tg := tw_761
theorem se_X6_lay : Cond.selects M_X6_lay.1.cls M_X6_lay.1 M_X6_lay.1 ∈ am_Tg := tw_762
def M_X7_isSlot : am_M := (yX7_isSlot, cX7_isSlot, 1, (Option.some Jvm.ClassFile.FieldType.boolean), 1)
theorem ok_X7_isSlot : am_okM M_X7_isSlot 1 := ⟨plainFor_of_name (by decide +kernel), ⟨by decide +kernel, by decide +kernel, by decide +kernel⟩, tw_1245, by decide, tw_9⟩
theorem st_X7_isSlot : Cond.static M_X7_isSlot.1 ∈ am_Tg := tw_1244
def M_X7_lay : am_M := (yX7_lay, cX7_lay, 6, (Option.some Jvm.ClassFile.FieldType.int), 6)
theorem ok_X7_lay : am_okM M_X7_lay 3 := ⟨plainFor_of_name (by decide +kernel), ⟨by decide +kernel, by decide +kernel, by decide +kernel⟩, tw_1242, by decide, tw_9⟩
theorem in_X7_lay : Cond.instanceMethod M_X7_lay.1 ∈ am_Tg := tw_1240
theorem se_X7_lay : Cond.selects M_X7_lay.1.cls M_X7_lay.1 M_X7_lay.1 ∈ am_Tg := tw_1241
def M_X6_ask : am_M := (yX6_ask, cX6_ask, 4, (Option.some Jvm.ClassFile.FieldType.int), 4)
theorem ok_X6_ask : am_okM M_X6_ask 2 := ⟨plainFor_of_name (by decide +kernel), ⟨by decide +kernel, by decide +kernel, by decide +kernel⟩, tw_775, by decide, tw_1⟩
theorem in_X6_ask : Cond.instanceMethod M_X6_ask.1 ∈ am_Tg := tw_773
theorem se_X6_ask : Cond.selects M_X6_ask.1.cls M_X6_ask.1 M_X6_ask.1 ∈ am_Tg := tw_774
def M_X7_ask : am_M := (yX7_ask, cX7_ask, 3, (Option.some Jvm.ClassFile.FieldType.int), 2)
theorem ok_X7_ask : am_okM M_X7_ask 2 := ⟨plainFor_of_name (by decide +kernel), ⟨by decide +kernel, by decide +kernel, by decide +kernel⟩, tw_1249, by decide, tw_9⟩
theorem in_X7_ask : Cond.instanceMethod M_X7_ask.1 ∈ am_Tg := tw_1247
theorem se_X7_ask : Cond.selects M_X7_ask.1.cls M_X7_ask.1 M_X7_ask.1 ∈ am_Tg := tw_1248
def M_X6_item : am_M := (yX6_item, cX6_item, 4, (Option.some Jvm.ClassFile.FieldType.int), 2)
theorem ok_X6_item : am_okM M_X6_item 2 := ⟨plainFor_of_name (by decide +kernel), ⟨by decide +kernel, by decide +kernel, by decide +kernel⟩, tw_779, by decide, tw_1⟩
theorem in_X6_item : Cond.instanceMethod M_X6_item.1 ∈ am_Tg := tw_777
theorem se_X6_item : Cond.selects M_X6_item.1.cls M_X6_item.1 M_X6_item.1 ∈ am_Tg := tw_778
def M_X7_item : am_M := (yX7_item, cX7_item, 4, (Option.some Jvm.ClassFile.FieldType.int), 2)
theorem ok_X7_item : am_okM M_X7_item 2 := ⟨plainFor_of_name (by decide +kernel), ⟨by decide +kernel, by decide +kernel, by decide +kernel⟩, tw_1253, by decide, tw_9⟩
theorem in_X7_item : Cond.instanceMethod M_X7_item.1 ∈ am_Tg := tw_1251
theorem se_X7_item : Cond.selects M_X7_item.1.cls M_X7_item.1 M_X7_item.1 ∈ am_Tg := tw_1252
def M_X6_rest : am_M := (yX6_rest, cX6_rest, 4, (Option.some Jvm.ClassFile.FieldType.int), 1)
theorem ok_X6_rest : am_okM M_X6_rest 2 := ⟨plainFor_of_name (by decide +kernel), ⟨by decide +kernel, by decide +kernel, by decide +kernel⟩, tw_783, by decide, tw_1⟩
theorem in_X6_rest : Cond.instanceMethod M_X6_rest.1 ∈ am_Tg := tw_781
theorem se_X6_rest : Cond.selects M_X6_rest.1.cls M_X6_rest.1 M_X6_rest.1 ∈ am_Tg := tw_782
def M_X7_rest : am_M := (yX7_rest, cX7_rest, 3, (Option.some Jvm.ClassFile.FieldType.int), 2)
theorem ok_X7_rest : am_okM M_X7_rest 2 := ⟨plainFor_of_name (by decide +kernel), ⟨by decide +kernel, by decide +kernel, by decide +kernel⟩, tw_1257, by decide, tw_9⟩
theorem in_X7_rest : Cond.instanceMethod M_X7_rest.1 ∈ am_Tg := tw_1255
theorem se_X7_rest : Cond.selects M_X7_rest.1.cls M_X7_rest.1 M_X7_rest.1 ∈ am_Tg := tw_1256
def M_X6_tell : am_M := (yX6_tell, cX6_tell, 2, (Option.some Jvm.ClassFile.FieldType.int), 0)
theorem ok_X6_tell : am_okM M_X6_tell 1 := ⟨plainFor_of_name (by decide +kernel), ⟨by decide +kernel, by decide +kernel, by decide +kernel⟩, tw_788, by decide, tw_1⟩
theorem in_X6_tell : Cond.instanceMethod M_X6_tell.1 ∈ am_Tg := tw_786
theorem se_X6_tell : Cond.selects M_X6_tell.1.cls M_X6_tell.1 M_X6_tell.1 ∈ am_Tg := tw_787
def M_X7_tell : am_M := (yX7_tell, cX7_tell, 2, (Option.some Jvm.ClassFile.FieldType.int), 0)
theorem ok_X7_tell : am_okM M_X7_tell 1 := ⟨plainFor_of_name (by decide +kernel), ⟨by decide +kernel, by decide +kernel, by decide +kernel⟩, tw_1262, by decide, tw_9⟩
theorem in_X7_tell : Cond.instanceMethod M_X7_tell.1 ∈ am_Tg := tw_1260
theorem se_X7_tell : Cond.selects M_X7_tell.1.cls M_X7_tell.1 M_X7_tell.1 ∈ am_Tg := tw_1261
def M_X6_isTold : am_M := (yX6_isTold, cX6_isTold, 4, (Option.some Jvm.ClassFile.FieldType.boolean), 0)
theorem ok_X6_isTold : am_okM M_X6_isTold 3 := ⟨plainFor_of_name (by decide +kernel), ⟨by decide +kernel, by decide +kernel, by decide +kernel⟩, tw_796, by decide, tw_1⟩
theorem in_X6_isTold : Cond.instanceMethod M_X6_isTold.1 ∈ am_Tg := tw_795
theorem se_X6_isTold : Cond.selects M_X6_isTold.1.cls M_X6_isTold.1 M_X6_isTold.1 ∈ am_Tg := am_in_s 44 (by decide +kernel) rfl
def M_X6_check : am_M := (yX6_check, cX6_check, 7, (Option.some Jvm.ClassFile.FieldType.int), 5)
theorem ok_X6_check : am_okM M_X6_check 2 := ⟨plainFor_of_name (by decide +kernel), ⟨by decide +kernel, by decide +kernel, by decide +kernel⟩, tw_792, by decide, tw_1⟩
theorem in_X6_check : Cond.instanceMethod M_X6_check.1 ∈ am_Tg := tw_790
theorem se_X6_check : Cond.selects M_X6_check.1.cls M_X6_check.1 M_X6_check.1 ∈ am_Tg := tw_791
def M_X7_copyAll : am_M := (yX7_copyAll, cX7_copyAll, 3, (Option.none : Option Jvm.ClassFile.FieldType), 0)
theorem ok_X7_copyAll : am_okM M_X7_copyAll 2 := ⟨plainFor_of_name (by decide +kernel), ⟨by decide +kernel, by decide +kernel, by decide +kernel⟩, tw_1269, by decide, tw_9⟩
theorem st_X7_copyAll : Cond.static M_X7_copyAll.1 ∈ am_Tg := tw_1268
def M_X7_check : am_M := (yX7_check, cX7_check, 7, (Option.some Jvm.ClassFile.FieldType.int), 5)
theorem ok_X7_check : am_okM M_X7_check 2 := ⟨plainFor_of_name (by decide +kernel), ⟨by decide +kernel, by decide +kernel, by decide +kernel⟩, tw_1266, by decide, tw_9⟩
theorem in_X7_check : Cond.instanceMethod M_X7_check.1 ∈ am_Tg := tw_1264
theorem se_X7_check : Cond.selects M_X7_check.1.cls M_X7_check.1 M_X7_check.1 ∈ am_Tg := tw_1265
def M_X5_becomeAll : am_M := (yX5_becomeAll, cX5_becomeAll, 3, (Option.none : Option Jvm.ClassFile.FieldType), 2)
theorem ok_X5_becomeAll : am_okM M_X5_becomeAll 1 := ⟨plainFor_of_name (by decide +kernel), ⟨by decide +kernel, by decide +kernel, by decide +kernel⟩, tw_804, by decide, tw_2⟩
theorem in_X5_becomeAll : Cond.instanceMethod M_X5_becomeAll.1 ∈ am_Tg := tw_803
theorem se_X5_becomeAll : Cond.selects M_X5_becomeAll.1.cls M_X5_becomeAll.1 M_X5_becomeAll.1 ∈ am_Tg := am_in_s 45 (by decide +kernel) rfl
def M_X6_keep : am_M := (yX6_keep, cX6_keep, 1, (Option.some Jvm.ClassFile.FieldType.int), 3)
theorem ok_X6_keep : am_okM M_X6_keep 0 := ⟨plainFor_of_name (by decide +kernel), ⟨by decide +kernel, by decide +kernel, by decide +kernel⟩, tw_800, by decide, tw_1⟩
theorem in_X6_keep : Cond.instanceMethod M_X6_keep.1 ∈ am_Tg := tw_798
theorem se_X6_keep : Cond.selects M_X6_keep.1.cls M_X6_keep.1 M_X6_keep.1 ∈ am_Tg := tw_799
def M_X7_keep : am_M := (yX7_keep, cX7_keep, 1, (Option.some Jvm.ClassFile.FieldType.int), 1)
theorem ok_X7_keep : am_okM M_X7_keep 0 := ⟨plainFor_of_name (by decide +kernel), ⟨by decide +kernel, by decide +kernel, by decide +kernel⟩, tw_1273, by decide, tw_9⟩
theorem in_X7_keep : Cond.instanceMethod M_X7_keep.1 ∈ am_Tg := tw_1271
theorem se_X7_keep : Cond.selects M_X7_keep.1.cls M_X7_keep.1 M_X7_keep.1 ∈ am_Tg := tw_1272
def M_X6_back : am_M := (yX6_back, cX6_back, 1, (Option.some Jvm.ClassFile.FieldType.int), 3)
theorem ok_X6_back : am_okM M_X6_back 0 := ⟨plainFor_of_name (by decide +kernel), ⟨by decide +kernel, by decide +kernel, by decide +kernel⟩, tw_810, by decide, tw_1⟩
theorem in_X6_back : Cond.instanceMethod M_X6_back.1 ∈ am_Tg := tw_808
theorem se_X6_back : Cond.selects M_X6_back.1.cls M_X6_back.1 M_X6_back.1 ∈ am_Tg := tw_809
def M_X7_back : am_M := (yX7_back, cX7_back, 1, (Option.some Jvm.ClassFile.FieldType.int), 1)
theorem ok_X7_back : am_okM M_X7_back 0 := ⟨plainFor_of_name (by decide +kernel), ⟨by decide +kernel, by decide +kernel, by decide +kernel⟩, tw_1277, by decide, tw_9⟩
theorem in_X7_back : Cond.instanceMethod M_X7_back.1 ∈ am_Tg := tw_1275
theorem se_X7_back : Cond.selects M_X7_back.1.cls M_X7_back.1 M_X7_back.1 ∈ am_Tg := tw_1276
def M_X6_count : am_M := (yX6_count, cX6_count, 2, (Option.some Jvm.ClassFile.FieldType.int), 0)
theorem ok_X6_count : am_okM M_X6_count 1 := ⟨plainFor_of_name (by decide +kernel), ⟨by decide +kernel, by decide +kernel, by decide +kernel⟩, tw_814, by decide, tw_1⟩
theorem in_X6_count : Cond.instanceMethod M_X6_count.1 ∈ am_Tg := tw_812
theorem se_X6_count : Cond.selects M_X6_count.1.cls M_X6_count.1 M_X6_count.1 ∈ am_Tg := tw_813
def M_X7_count : am_M := (yX7_count, cX7_count, 2, (Option.some Jvm.ClassFile.FieldType.int), 0)
theorem ok_X7_count : am_okM M_X7_count 1 := ⟨plainFor_of_name (by decide +kernel), ⟨by decide +kernel, by decide +kernel, by decide +kernel⟩, tw_1281, by decide, tw_9⟩
theorem in_X7_count : Cond.instanceMethod M_X7_count.1 ∈ am_Tg := tw_1279
theorem se_X7_count : Cond.selects M_X7_count.1.cls M_X7_count.1 M_X7_count.1 ∈ am_Tg := tw_1280
def M_L_law : am_M := (yL_law, cL_law, 4, (Option.some Jvm.ClassFile.FieldType.boolean), 8)
theorem lk_RX6_76 : am_lk RX6 76 M_X6_isKind.1 := Or.inl tw_236
theorem lk_RX6_89 : am_lk RX6 89 M_X0_begin.1 := Or.inr ⟨_, tn_241⟩
theorem lk_RX6_94 : am_lk RX6 94 M_X6_isFloor.1 := Or.inl tw_249
theorem lk_RX6_103 : am_lk RX6 103 M_X0_total.1 := Or.inr ⟨_, tn_253⟩
theorem lk_RX6_107 : am_lk RX6 107 M_X0_greatest.1 := Or.inr ⟨_, tn_257⟩
theorem lk_RX6_110 : am_lk RX6 110 M_X0_least.1 := Or.inr ⟨_, tn_262⟩
theorem lk_RX6_113 : am_lk RX6 113 M_X0_crests.1 := Or.inr ⟨_, tn_269⟩
theorem lk_RX6_116 : am_lk RX6 116 M_X0_lean.1 := Or.inr ⟨_, tn_283⟩
theorem lk_RX6_119 : am_lk RX6 119 M_X0_worth.1 := Or.inr ⟨_, tn_290⟩
theorem lk_RX6_122 : am_lk RX6 122 M_X6_reachOf.1 := Or.inl tw_299
theorem lk_RX6_126 : am_lk RX6 126 M_X0_way.1 := Or.inr ⟨_, tn_303⟩
theorem lk_RX6_129 : am_lk RX6 129 M_X6_marksOf.1 := Or.inl tw_307
theorem lk_RX6_132 : am_lk RX6 132 M_X6_isUnder.1 := Or.inl tw_331
theorem lk_RX6_146 : am_lk RX6 146 M_X6_isCell.1 := Or.inl tw_353
theorem lk_RX6_152 : am_lk RX6 152 M_X5_draw.1 := Or.inr ⟨_, tn_364⟩
theorem lk_RX6_158 : am_lk RX6 158 M_X6_liftOf.1 := Or.inl tw_377
theorem lk_RX6_162 : am_lk RX6 162 M_X6_inRing.1 := Or.inl tw_381
theorem lk_RX6_166 : am_lk RX6 166 M_X6_oneTick.1 := Or.inl tw_391
theorem lk_RX6_169 : am_lk RX6 169 M_X0_isCrest.1 := Or.inr ⟨_, tn_311⟩
theorem lk_RX6_173 : am_lk RX6 173 M_X6_nextOf.1 := Or.inl tw_403
theorem lk_RX6_176 : am_lk RX6 176 M_J9_abs_0f7a4.1 := Or.inl tw_421
theorem lk_RX6_181 : am_lk RX6 181 M_X6_think.1 := Or.inl tw_428
theorem lk_RX6_185 : am_lk RX6 185 M_X0_unlikeTurned.1 := Or.inr ⟨_, tn_448⟩
theorem lk_RX6_189 : am_lk RX6 189 M_J9_min_7cf53.1 := Or.inl tw_326
theorem lk_RX6_193 : am_lk RX6 193 M_X6_aheadOf.1 := Or.inl tw_404
theorem lk_RX6_196 : am_lk RX6 196 M_X6_isSheet.1 := Or.inl tw_477
theorem lk_RX6_206 : am_lk RX6 206 M_X6_thinkBehind.1 := Or.inl tw_482
theorem lk_RX6_210 : am_lk RX6 210 M_X2_differences.1 := Or.inr ⟨_, tn_486⟩
theorem lk_RX6_214 : am_lk RX6 214 M_X6_feedNumber.1 := Or.inl tw_508
theorem lk_RX6_217 : am_lk RX6 217 M_X1_faultOf.1 := Or.inr ⟨_, tn_520⟩
theorem lk_RX6_224 : am_lk RX6 224 M_X4_take.1 := Or.inr ⟨_, tn_711⟩
theorem lk_RX6_237 : am_lk RX6 237 M_X2_begin.1 := Or.inr ⟨_, tn_729⟩
theorem lk_RX6_241 : am_lk RX6 241 M_X2_hasPlace.1 := Or.inr ⟨_, tn_738⟩
theorem lk_RX6_250 : am_lk RX6 250 M_X2_isNumber.1 := Or.inr ⟨_, tn_746⟩
theorem lk_RX6_253 : am_lk RX6 253 M_X6_within.1 := Or.inl tw_323
theorem lk_RX6_257 : am_lk RX6 257 M_X2_hasStretch.1 := Or.inr ⟨_, tn_755⟩
theorem lk_RX6_266 : am_lk RX6 266 M_X6_isSlot.1 := Or.inl tw_764
theorem lk_RX6_276 : am_lk RX6 276 M_X0_become.1 := Or.inr ⟨_, tn_439⟩
theorem lk_RX6_284 : am_lk RX6 284 M_X2_become.1 := Or.inr ⟨_, tn_767⟩
theorem lk_RX6_291 : am_lk RX6 291 M_X6_isTold.1 := Or.inl tw_793
theorem lk_RX6_295 : am_lk RX6 295 M_X5_becomeAll.1 := Or.inr ⟨_, tn_801⟩
theorem lk_RX6_302 : am_lk RX6 302 M_J9_floorMod_7cf53.1 := Or.inl tw_384
theorem lk_RX6_305 : am_lk RX6 305 M_J9_max_7cf53.1 := Or.inl tw_302
theorem lk_RX6_308 : am_lk RX6 308 M_X4_value.1 := Or.inr ⟨_, tn_313⟩
theorem lk_RX6_312 : am_lk RX6 312 M_X6_liftAll.1 := Or.inl tw_395
theorem lk_RX6_315 : am_lk RX6 315 M_X6_slideAll.1 := Or.inl tw_399
theorem lk_RX6_318 : am_lk RX6 318 M_X6_slideOf.1 := Or.inl tw_405
theorem lk_RX6_322 : am_lk RX6 322 M_X5_becomeSea.1 := Or.inr ⟨_, tn_432⟩
theorem lk_RX0_28 : am_lk RX0 28 M_J9_max_7cf53.1 := Or.inl tw_261
theorem lk_RX0_34 : am_lk RX0 34 M_J9_min_7cf53.1 := Or.inl tw_266
theorem lk_RX0_37 : am_lk RX0 37 M_X6_aheadOf.1 := Or.inr ⟨_, tn_277⟩
theorem lk_RX0_41 : am_lk RX0 41 M_X6_nextOf.1 := Or.inr ⟨_, tn_280⟩
theorem lk_RX0_44 : am_lk RX0 44 M_X0_isCrest.1 := Or.inl tw_273
theorem lk_RX0_48 : am_lk RX0 48 M_J6_compare_7cf53.1 := Or.inl tw_287
theorem lk_RX0_53 : am_lk RX0 53 M_X0_greatest.1 := Or.inl tw_294
theorem lk_RX0_57 : am_lk RX0 57 M_X0_least.1 := Or.inl tw_295
theorem lk_RX0_60 : am_lk RX0 60 M_X0_crests.1 := Or.inl tw_296
theorem lk_RX0_63 : am_lk RX0 63 M_X0_lean.1 := Or.inl tw_297
theorem lk_RX0_66 : am_lk RX0 66 M_X0_total.1 := Or.inl tw_298
theorem lk_RX0_69 : am_lk RX0 69 M_X6_inRing.1 := Or.inr ⟨_, tn_452⟩
theorem lk_RX1_41 : am_lk RX1 41 M_X1_begin.1 := Or.inl tw_524
theorem lk_RX1_44 : am_lk RX1 44 M_X1_pastBlanks.1 := Or.inl tw_528
theorem lk_RX1_48 : am_lk RX1 48 M_X1_endOfWord.1 := Or.inl tw_531
theorem lk_RX1_51 : am_lk RX1 51 M_X1_keyOf.1 := Or.inl tw_540
theorem lk_RX1_54 : am_lk RX1 54 M_X1_isInWord.1 := Or.inl tw_600
theorem lk_RX1_58 : am_lk RX1 58 M_X1_takesPiece.1 := Or.inl tw_603
theorem lk_RX1_62 : am_lk RX1 62 M_X1_takesSign.1 := Or.inl tw_692
theorem lk_RX1_65 : am_lk RX1 65 M_X1_endsHere.1 := Or.inl tw_707
theorem lk_RX1_69 : am_lk RX1 69 M_X1_isDigit.1 := Or.inl tw_537
theorem lk_RX1_72 : am_lk RX1 72 M_X1_takesNumber.1 := Or.inl tw_607
theorem lk_RX1_75 : am_lk RX1 75 M_X1_isLetter.1 := Or.inl tw_534
theorem lk_RX1_78 : am_lk RX1 78 M_X1_takesName.1 := Or.inl tw_623
theorem lk_RX1_81 : am_lk RX1 81 M_X1_waits.1 := Or.inl tw_688
theorem lk_RX1_84 : am_lk RX1 84 M_X1_takeLeaf.1 := Or.inl tw_611
theorem lk_RX1_88 : am_lk RX1 88 M_X1_namesOf.1 := Or.inl tw_627
theorem lk_RX1_92 : am_lk RX1 92 M_J0_indexOf_0f7a4.1 := Or.inl tw_633
theorem lk_RX1_98 : am_lk RX1 98 M_X1_put.1 := Or.inl tw_615
theorem lk_RX1_101 : am_lk RX1 101 M_X1_endPiece.1 := Or.inl tw_619
theorem lk_RX1_104 : am_lk RX1 104 M_X1_closesBracket.1 := Or.inl tw_696
theorem lk_RX1_107 : am_lk RX1 107 M_X1_rankOf.1 := Or.inl tw_704
theorem lk_RX1_110 : am_lk RX1 110 M_X1_putThoseAbove.1 := Or.inl tw_700
theorem lk_RX1_113 : am_lk RX1 113 M_X1_wordOf.1 := Or.inl tw_543
theorem lk_RX1_116 : am_lk RX1 116 M_X1_isWord.1 := Or.inl tw_549
theorem lk_RX1_132 : am_lk RX1 132 M_J0_length_8abf5.1 := Or.inl tw_552
theorem lk_RX1_135 : am_lk RX1 135 M_J0_charAt_5068e.1 := Or.inl tw_562
theorem lk_RX2_28 : am_lk RX2 28 M_X2_hasPlace.1 := Or.inl tw_494
theorem lk_RX2_33 : am_lk RX2 33 M_X2_isNumber.1 := Or.inl tw_490
theorem lk_RX2_41 : am_lk RX2 41 M_J9_abs_0f7a4.1 := Or.inl tw_499
theorem lk_RX4_37 : am_lk RX4 37 M_X4_leaf.1 := Or.inl tw_317
theorem lk_RX4_41 : am_lk RX4 41 M_X4_joined.1 := Or.inl tw_320
theorem lk_RX5_42 : am_lk RX5 42 M_X5_becomeSea.1 := Or.inl tw_805
theorem lk_RX5_46 : am_lk RX5 46 M_X0_become.1 := Or.inr ⟨_, tn_806⟩
theorem lk_RL_13 : am_lk RL 13 M_X6_floor.1 := Or.inl tw_232
theorem lk_RL_17 : am_lk RL 17 M_X7_floor.1 := Or.inl tw_926
theorem lk_RL_18 : am_lk RL 18 M_X6_told.1 := Or.inl tw_245
theorem lk_RL_22 : am_lk RL 22 M_X7_told.1 := Or.inl tw_941
theorem lk_RL_23 : am_lk RL 23 M_X6_as.1 := Or.inl tw_327
theorem lk_RL_26 : am_lk RL 26 M_X7_as.1 := Or.inl tw_1011
theorem lk_RL_27 : am_lk RL 27 M_X6_turns.1 := Or.inl tw_337
theorem lk_RL_30 : am_lk RL 30 M_X7_turns.1 := Or.inl tw_1019
theorem lk_RL_31 : am_lk RL 31 M_X6_sea.1 := Or.inl tw_341
theorem lk_RL_34 : am_lk RL 34 M_X7_sea.1 := Or.inl tw_1027
theorem lk_RL_35 : am_lk RL 35 M_X6_sand.1 := Or.inl tw_349
theorem lk_RL_38 : am_lk RL 38 M_X7_sand.1 := Or.inl tw_1031
theorem lk_RL_39 : am_lk RL 39 M_X6_heap.1 := Or.inl tw_356
theorem lk_RL_43 : am_lk RL 43 M_X7_heap.1 := Or.inl tw_1038
theorem lk_RL_44 : am_lk RL 44 M_X6_deal.1 := Or.inl tw_360
theorem lk_RL_47 : am_lk RL 47 M_X7_deal.1 := Or.inl tw_1042
theorem lk_RL_48 : am_lk RL 48 M_X6_seed.1 := Or.inl tw_369
theorem lk_RL_51 : am_lk RL 51 M_X7_seed.1 := Or.inl tw_1051
theorem lk_RL_52 : am_lk RL 52 M_X6_lift.1 := Or.inl tw_373
theorem lk_RL_55 : am_lk RL 55 M_X7_lift.1 := Or.inl tw_1055
theorem lk_RL_56 : am_lk RL 56 M_X6_run.1 := Or.inl tw_387
theorem lk_RL_59 : am_lk RL 59 M_X7_run.1 := Or.inl tw_1063
theorem lk_RL_60 : am_lk RL 60 M_X6_crest.1 := Or.inl tw_409
theorem lk_RL_63 : am_lk RL 63 M_X7_crest.1 := Or.inl tw_1079
theorem lk_RL_64 : am_lk RL 64 M_X6_apart.1 := Or.inl tw_413
theorem lk_RL_67 : am_lk RL 67 M_X7_apart.1 := Or.inl tw_1084
theorem lk_RL_68 : am_lk RL 68 M_X6_flat.1 := Or.inl tw_417
theorem lk_RL_71 : am_lk RL 71 M_X7_flat.1 := Or.inl tw_1088
theorem lk_RL_72 : am_lk RL 72 M_X6_soon.1 := Or.inl tw_424
theorem lk_RL_75 : am_lk RL 75 M_X7_soon.1 := Or.inl tw_1092
theorem lk_RL_76 : am_lk RL 76 M_X6_period.1 := Or.inl tw_444
theorem lk_RL_79 : am_lk RL 79 M_X7_period.1 := Or.inl tw_1104
theorem lk_RL_80 : am_lk RL 80 M_X6_foot.1 := Or.inl tw_453
theorem lk_RL_83 : am_lk RL 83 M_X7_foot.1 := Or.inl tw_1112
theorem lk_RL_84 : am_lk RL 84 M_X6_worm.1 := Or.inl tw_457
theorem lk_RL_87 : am_lk RL 87 M_X7_worm.1 := Or.inl tw_1116
theorem lk_RL_88 : am_lk RL 88 M_X6_press.1 := Or.inl tw_461
theorem lk_RL_91 : am_lk RL 91 M_X7_press.1 := Or.inl tw_1120
theorem lk_RL_92 : am_lk RL 92 M_X6_unlike.1 := Or.inl tw_465
theorem lk_RL_95 : am_lk RL 95 M_X7_unlike.1 := Or.inl tw_1124
theorem lk_RL_96 : am_lk RL 96 M_X6_turned.1 := Or.inl tw_469
theorem lk_RL_99 : am_lk RL 99 M_X7_turned.1 := Or.inl tw_1132
theorem lk_RL_100 : am_lk RL 100 M_X6_seen.1 := Or.inl tw_473
theorem lk_RL_103 : am_lk RL 103 M_X7_seen.1 := Or.inl tw_1136
theorem lk_RL_104 : am_lk RL 104 M_X6_best.1 := Or.inl tw_500
theorem lk_RL_107 : am_lk RL 107 M_X7_best.1 := Or.inl tw_1148
theorem lk_RL_108 : am_lk RL 108 M_X6_feed.1 := Or.inl tw_504
theorem lk_RL_111 : am_lk RL 111 M_X7_feed.1 := Or.inl tw_1152
theorem lk_RL_112 : am_lk RL 112 M_X6_trim.1 := Or.inl tw_512
theorem lk_RL_115 : am_lk RL 115 M_X7_trim.1 := Or.inl tw_1156
theorem lk_RL_116 : am_lk RL 116 M_X6_text.1 := Or.inl tw_516
theorem lk_RL_120 : am_lk RL 120 M_X7_text.1 := Or.inl tw_1160
theorem lk_RL_121 : am_lk RL 121 M_X6_textTold.1 := Or.inl tw_717
theorem lk_RL_124 : am_lk RL 124 M_X7_textTold.1 := Or.inl tw_1207
theorem lk_RL_125 : am_lk RL 125 M_X6_why.1 := Or.inl tw_721
theorem lk_RL_128 : am_lk RL 128 M_X7_why.1 := Or.inl tw_1211
theorem lk_RL_129 : am_lk RL 129 M_X6_sheet.1 := Or.inl tw_725
theorem lk_RL_132 : am_lk RL 132 M_X7_sheet.1 := Or.inl tw_1215
theorem lk_RL_133 : am_lk RL 133 M_X6_mark.1 := Or.inl tw_734
theorem lk_RL_136 : am_lk RL 136 M_X7_mark.1 := Or.inl tw_1220
theorem lk_RL_137 : am_lk RL 137 M_X6_pour.1 := Or.inl tw_742
theorem lk_RL_140 : am_lk RL 140 M_X7_pour.1 := Or.inl tw_1227
theorem lk_RL_141 : am_lk RL 141 M_X6_reads.1 := Or.inl tw_747
theorem lk_RL_144 : am_lk RL 144 M_X7_reads.1 := Or.inl tw_1231
theorem lk_RL_145 : am_lk RL 145 M_X6_copy.1 := Or.inl tw_751
theorem lk_RL_149 : am_lk RL 149 M_X7_copy.1 := Or.inl tw_1235
theorem lk_RL_150 : am_lk RL 150 M_X6_lay.1 := Or.inl tw_760
theorem lk_RL_153 : am_lk RL 153 M_X7_lay.1 := Or.inl tw_1239
theorem lk_RL_154 : am_lk RL 154 M_X6_ask.1 := Or.inl tw_772
theorem lk_RL_157 : am_lk RL 157 M_X7_ask.1 := Or.inl tw_1246
theorem lk_RL_158 : am_lk RL 158 M_X6_item.1 := Or.inl tw_776
theorem lk_RL_161 : am_lk RL 161 M_X7_item.1 := Or.inl tw_1250
theorem lk_RL_162 : am_lk RL 162 M_X6_rest.1 := Or.inl tw_780
theorem lk_RL_165 : am_lk RL 165 M_X7_rest.1 := Or.inl tw_1254
theorem lk_RL_166 : am_lk RL 166 M_X6_tell.1 := Or.inl tw_785
theorem lk_RL_169 : am_lk RL 169 M_X7_tell.1 := Or.inl tw_1259
theorem lk_RL_170 : am_lk RL 170 M_X6_check.1 := Or.inl tw_789
theorem lk_RL_173 : am_lk RL 173 M_X7_check.1 := Or.inl tw_1263
theorem lk_RL_174 : am_lk RL 174 M_X6_keep.1 := Or.inl tw_797
theorem lk_RL_177 : am_lk RL 177 M_X7_keep.1 := Or.inl tw_1270
theorem lk_RL_178 : am_lk RL 178 M_X6_back.1 := Or.inl tw_807
theorem lk_RL_181 : am_lk RL 181 M_X7_back.1 := Or.inl tw_1274
theorem lk_RL_182 : am_lk RL 182 M_X6_count.1 := Or.inl tw_811
theorem lk_RL_185 : am_lk RL 185 M_X7_count.1 := Or.inl tw_1278
theorem lk_RX7_78 : am_lk RX7 78 M_X7_in.1 := Or.inl tw_930
theorem lk_RX7_82 : am_lk RX7 82 M_X7_at.1 := Or.inl tw_935
theorem lk_RX7_86 : am_lk RX7 86 M_X7_spot.1 := Or.inl tw_938
theorem lk_RX7_92 : am_lk RX7 92 M_X7_kindOf.1 := Or.inl tw_949
theorem lk_RX7_95 : am_lk RX7 95 M_X7_within.1 := Or.inl tw_989
theorem lk_RX7_99 : am_lk RX7 99 M_X7_tickOf.1 := Or.inl tw_953
theorem lk_RX7_102 : am_lk RX7 102 M_X7_sandOf.1 := Or.inl tw_961
theorem lk_RX7_105 : am_lk RX7 105 M_X7_counts.1 := Or.inl tw_1000
theorem lk_RX7_108 : am_lk RX7 108 M_X7_worksOut.1 := Or.inl tw_1004
theorem lk_RX7_111 : am_lk RX7 111 M_X7_isCrest.1 := Or.inl tw_973
theorem lk_RX7_115 : am_lk RX7 115 M_X7_extremeOf.1 := Or.inl tw_965
theorem lk_RX7_119 : am_lk RX7 119 M_X7_crestsOf.1 := Or.inl tw_969
theorem lk_RX7_122 : am_lk RX7 122 M_X7_leanOf.1 := Or.inl tw_977
theorem lk_RX7_125 : am_lk RX7 125 M_X7_sumOf.1 := Or.inl tw_957
theorem lk_RX7_128 : am_lk RX7 128 M_X7_isFloor.1 := Or.inl tw_945
theorem lk_RX7_132 : am_lk RX7 132 M_X7_worthOf.1 := Or.inl tw_981
theorem lk_RX7_135 : am_lk RX7 135 M_X7_reachOf.1 := Or.inl tw_985
theorem lk_RX7_138 : am_lk RX7 138 M_X7_wayOf.1 := Or.inl tw_992
theorem lk_RX7_141 : am_lk RX7 141 M_X7_marksOf.1 := Or.inl tw_996
theorem lk_RX7_144 : am_lk RX7 144 M_X7_isUnder.1 := Or.inl tw_1015
theorem lk_RX7_148 : am_lk RX7 148 M_X7_becomes.1 := Or.inl tw_1023
theorem lk_RX7_151 : am_lk RX7 151 M_X7_isCell.1 := Or.inl tw_1035
theorem lk_RX7_155 : am_lk RX7 155 M_X7_draw.1 := Or.inl tw_1046
theorem lk_RX7_159 : am_lk RX7 159 M_X7_liftOf.1 := Or.inl tw_1059
theorem lk_RX7_162 : am_lk RX7 162 M_X7_slideBy.1 := Or.inl tw_1075
theorem lk_RX7_165 : am_lk RX7 165 M_X7_tick.1 := Or.inl tw_1071
theorem lk_RX7_168 : am_lk RX7 168 M_X7_ticks.1 := Or.inl tw_1067
theorem lk_RX7_172 : am_lk RX7 172 M_X7_thinks.1 := Or.inl tw_1096
theorem lk_RX7_176 : am_lk RX7 176 M_X7_putsBack.1 := Or.inl tw_1100
theorem lk_RX7_179 : am_lk RX7 179 M_X7_isAsBefore.1 := Or.inl tw_1108
theorem lk_RX7_182 : am_lk RX7 182 M_X7_unlikeBy.1 := Or.inl tw_1128
theorem lk_RX7_185 : am_lk RX7 185 M_X7_isSheet.1 := Or.inl tw_1140
theorem lk_RX7_189 : am_lk RX7 189 M_X7_offBy.1 := Or.inl tw_1144
theorem lk_RX7_209 : am_lk RX7 209 M_X7_isLetter.1 := Or.inl tw_1168
theorem lk_RX7_215 : am_lk RX7 215 M_X7_isFigure.1 := Or.inl tw_1172
theorem lk_RX7_221 : am_lk RX7 221 M_X7_go.1 := Or.inl tw_1164
theorem lk_RX7_227 : am_lk RX7 227 M_X7_rank.1 := Or.inl tw_1196
theorem lk_RX7_233 : am_lk RX7 233 M_X7_nameOf.1 := Or.inl tw_1188
theorem lk_RX7_239 : am_lk RX7 239 M_X7_settle.1 := Or.inl tw_1192
theorem lk_RX7_242 : am_lk RX7 242 M_X7_takesPart.1 := Or.inl tw_1184
theorem lk_RX7_246 : am_lk RX7 246 M_X7_notsOpen.1 := Or.inl tw_1199
theorem lk_RX7_249 : am_lk RX7 249 M_X7_signHere.1 := Or.inl tw_1203
theorem lk_RX7_252 : am_lk RX7 252 M_X7_takesKey.1 := Or.inl tw_1176
theorem lk_RX7_255 : am_lk RX7 255 M_X7_takesE.1 := Or.inl tw_1180
theorem lk_RX7_258 : am_lk RX7 258 M_X7_two.1 := Or.inl tw_1008
theorem lk_RX7_265 : am_lk RX7 265 M_X7_isSlot.1 := Or.inl tw_1243
theorem lk_RX7_276 : am_lk RX7 276 M_X7_copyAll.1 := Or.inl tw_1267
theorem lk_RJ0_335 : am_lk RJ0 335 M_J0_coder_7d493.1 := Or.inl tw_556
theorem lk_RJ0_492 : am_lk RJ0 492 M_J0_isLatin1_aae02.1 := Or.inl tw_566
theorem lk_RJ0_495 : am_lk RJ0 495 M_J1_charAt_3b067.1 := Or.inl tw_570
theorem lk_RJ0_505 : am_lk RJ0 505 M_J0_length_8abf5.1 := Or.inl tw_641
theorem lk_RJ0_633 : am_lk RJ0 633 M_J0_indexOf_7cf53.1 := Or.inl tw_637
theorem lk_RJ0_637 : am_lk RJ0 637 M_J1_indexOf_4cfef.1 := Or.inl tw_642
theorem lk_RJ0_1059 : am_lk RJ0 1059 M_J3_checkIndex_8e157.1 := Or.inl tw_578
theorem lk_RJ1_9 : am_lk RJ1 9 M_J0_checkIndex_df160.1 := Or.inl tw_573
theorem lk_RJ1_38 : am_lk RJ1 38 M_J9_min_7cf53.1 := Or.inl tw_649
theorem lk_RJ1_88 : am_lk RJ1 88 M_J1_canEncode_9a6ad.1 := Or.inl tw_645
theorem lk_RJ1_92 : am_lk RJ1 92 M_J9_max_7cf53.1 := Or.inl tw_648
theorem lk_RJ1_95 : am_lk RJ1 95 M_J1_indexOfChar_4cfef.1 := Or.inl tw_650
theorem gf_RX0_15 : am_gf RX0 15 0 1 := ⟨by decide, RX0, TX0, 3, tyX0, okC_0, by decide, Or.inl tw_45⟩
theorem gf_RX0_19 : am_gf RX0 19 0 2 := ⟨by decide, RX0, TX0, 3, tyX0, okC_0, by decide, Or.inl tw_47⟩
theorem gf_RX0_9 : am_gf RX0 9 0 0 := ⟨by decide, RX0, TX0, 3, tyX0, okC_0, by decide, Or.inl tw_42⟩
theorem gf_RX1_15 : am_gf RX1 15 1 1 := ⟨by decide, RX1, TX1, 9, tyX1, okC_1, by decide, Or.inl tw_92⟩
theorem gf_RX1_18 : am_gf RX1 18 1 2 := ⟨by decide, RX1, TX1, 9, tyX1, okC_1, by decide, Or.inl tw_94⟩
theorem gf_RX1_21 : am_gf RX1 21 1 3 := ⟨by decide, RX1, TX1, 9, tyX1, okC_1, by decide, Or.inl tw_96⟩
theorem gf_RX1_25 : am_gf RX1 25 1 4 := ⟨by decide, RX1, TX1, 9, tyX1, okC_1, by decide, Or.inl tw_98⟩
theorem gf_RX1_28 : am_gf RX1 28 1 5 := ⟨by decide, RX1, TX1, 9, tyX1, okC_1, by decide, Or.inl tw_99⟩
theorem gf_RX1_31 : am_gf RX1 31 1 6 := ⟨by decide, RX1, TX1, 9, tyX1, okC_1, by decide, Or.inl tw_100⟩
theorem gf_RX1_34 : am_gf RX1 34 1 7 := ⟨by decide, RX1, TX1, 9, tyX1, okC_1, by decide, Or.inl tw_101⟩
theorem gf_RX1_37 : am_gf RX1 37 1 8 := ⟨by decide, RX1, TX1, 9, tyX1, okC_1, by decide, Or.inl tw_102⟩
theorem gf_RX1_9 : am_gf RX1 9 1 0 := ⟨by decide, RX1, TX1, 9, tyX1, okC_1, by decide, Or.inl tw_90⟩
theorem gf_RX2_15 : am_gf RX2 15 2 1 := ⟨by decide, RX2, TX2, 3, tyX2, okC_2, by decide, Or.inl tw_153⟩
theorem gf_RX2_18 : am_gf RX2 18 2 2 := ⟨by decide, RX2, TX2, 3, tyX2, okC_2, by decide, Or.inl tw_154⟩
theorem gf_RX2_36 : am_gf RX2 36 0 0 := ⟨by decide, RX0, TX0, 3, tyX0, okC_0, by decide, Or.inr ⟨_, tn_43⟩⟩
theorem gf_RX2_9 : am_gf RX2 9 2 0 := ⟨by decide, RX2, TX2, 3, tyX2, okC_2, by decide, Or.inl tw_151⟩
theorem gf_RX4_18 : am_gf RX4 18 4 2 := ⟨by decide, RX4, TX4, 4, tyX4, okC_4, by decide, Or.inl tw_135⟩
theorem gf_RX4_21 : am_gf RX4 21 4 3 := ⟨by decide, RX4, TX4, 4, tyX4, okC_4, by decide, Or.inl tw_136⟩
theorem gf_RX4_25 : am_gf RX4 25 1 0 := ⟨by decide, RX1, TX1, 9, tyX1, okC_1, by decide, Or.inr ⟨_, tn_91⟩⟩
theorem gf_RX4_28 : am_gf RX4 28 1 1 := ⟨by decide, RX1, TX1, 9, tyX1, okC_1, by decide, Or.inr ⟨_, tn_93⟩⟩
theorem gf_RX4_29 : am_gf RX4 29 1 2 := ⟨by decide, RX1, TX1, 9, tyX1, okC_1, by decide, Or.inr ⟨_, tn_95⟩⟩
theorem gf_RX4_30 : am_gf RX4 30 1 3 := ⟨by decide, RX1, TX1, 9, tyX1, okC_1, by decide, Or.inr ⟨_, tn_97⟩⟩
theorem gf_RX5_15 : am_gf RX5 15 5 2 := ⟨by decide, RX5, TX5, 6, tyX5, okC_5, by decide, Or.inl tw_61⟩
theorem gf_RX5_19 : am_gf RX5 19 5 3 := ⟨by decide, RX5, TX5, 6, tyX5, okC_5, by decide, Or.inl tw_63⟩
theorem gf_RX5_22 : am_gf RX5 22 5 4 := ⟨by decide, RX5, TX5, 6, tyX5, okC_5, by decide, Or.inl tw_65⟩
theorem gf_RX5_26 : am_gf RX5 26 5 5 := ⟨by decide, RX5, TX5, 6, tyX5, okC_5, by decide, Or.inl tw_67⟩
theorem gf_RX5_37 : am_gf RX5 37 5 0 := ⟨by decide, RX5, TX5, 6, tyX5, okC_5, by decide, Or.inl tw_57⟩
theorem gf_RX5_9 : am_gf RX5 9 5 1 := ⟨by decide, RX5, TX5, 6, tyX5, okC_5, by decide, Or.inl tw_59⟩
theorem gf_RX6_100 : am_gf RX6 100 0 1 := ⟨by decide, RX0, TX0, 3, tyX0, okC_0, by decide, Or.inr ⟨_, tn_46⟩⟩
theorem gf_RX6_14 : am_gf RX6 14 6 0 := ⟨by decide, RX6, TX6, 14, tyX6, okC_6, by decide, Or.inl tw_189⟩
theorem gf_RX6_143 : am_gf RX6 143 5 2 := ⟨by decide, RX5, TX5, 6, tyX5, okC_5, by decide, Or.inr ⟨_, tn_62⟩⟩
theorem gf_RX6_149 : am_gf RX6 149 0 0 := ⟨by decide, RX0, TX0, 3, tyX0, okC_0, by decide, Or.inr ⟨_, tn_44⟩⟩
theorem gf_RX6_155 : am_gf RX6 155 5 3 := ⟨by decide, RX5, TX5, 6, tyX5, okC_5, by decide, Or.inr ⟨_, tn_64⟩⟩
theorem gf_RX6_18 : am_gf RX6 18 6 1 := ⟨by decide, RX6, TX6, 14, tyX6, okC_6, by decide, Or.inl tw_190⟩
theorem gf_RX6_199 : am_gf RX6 199 2 0 := ⟨by decide, RX2, TX2, 3, tyX2, okC_2, by decide, Or.inr ⟨_, tn_152⟩⟩
theorem gf_RX6_21 : am_gf RX6 21 6 2 := ⟨by decide, RX6, TX6, 14, tyX6, okC_6, by decide, Or.inl tw_191⟩
theorem gf_RX6_221 : am_gf RX6 221 5 4 := ⟨by decide, RX5, TX5, 6, tyX5, okC_5, by decide, Or.inr ⟨_, tn_66⟩⟩
theorem gf_RX6_228 : am_gf RX6 228 5 5 := ⟨by decide, RX5, TX5, 6, tyX5, okC_5, by decide, Or.inr ⟨_, tn_68⟩⟩
theorem gf_RX6_231 : am_gf RX6 231 4 0 := ⟨by decide, RX4, TX4, 4, tyX4, okC_4, by decide, Or.inr ⟨_, tn_132⟩⟩
theorem gf_RX6_234 : am_gf RX6 234 4 1 := ⟨by decide, RX4, TX4, 4, tyX4, okC_4, by decide, Or.inr ⟨_, tn_134⟩⟩
theorem gf_RX6_245 : am_gf RX6 245 2 2 := ⟨by decide, RX2, TX2, 3, tyX2, okC_2, by decide, Or.inr ⟨_, tn_155⟩⟩
theorem gf_RX6_25 : am_gf RX6 25 6 3 := ⟨by decide, RX6, TX6, 14, tyX6, okC_6, by decide, Or.inl tw_192⟩
theorem gf_RX6_269 : am_gf RX6 269 3 0 := ⟨by decide, RX3, TX3, 4, tyX3, okC_3, by decide, Or.inr ⟨_, tn_173⟩⟩
theorem gf_RX6_272 : am_gf RX6 272 3 1 := ⟨by decide, RX3, TX3, 4, tyX3, okC_3, by decide, Or.inr ⟨_, tn_175⟩⟩
theorem gf_RX6_28 : am_gf RX6 28 6 4 := ⟨by decide, RX6, TX6, 14, tyX6, okC_6, by decide, Or.inl tw_193⟩
theorem gf_RX6_280 : am_gf RX6 280 3 2 := ⟨by decide, RX3, TX3, 4, tyX3, okC_3, by decide, Or.inr ⟨_, tn_177⟩⟩
theorem gf_RX6_287 : am_gf RX6 287 3 3 := ⟨by decide, RX3, TX3, 4, tyX3, okC_3, by decide, Or.inr ⟨_, tn_179⟩⟩
theorem gf_RX6_34 : am_gf RX6 34 6 5 := ⟨by decide, RX6, TX6, 14, tyX6, okC_6, by decide, Or.inl tw_194⟩
theorem gf_RX6_41 : am_gf RX6 41 6 6 := ⟨by decide, RX6, TX6, 14, tyX6, okC_6, by decide, Or.inl tw_195⟩
theorem gf_RX6_45 : am_gf RX6 45 6 7 := ⟨by decide, RX6, TX6, 14, tyX6, okC_6, by decide, Or.inl tw_196⟩
theorem gf_RX6_48 : am_gf RX6 48 6 8 := ⟨by decide, RX6, TX6, 14, tyX6, okC_6, by decide, Or.inl tw_197⟩
theorem gf_RX6_51 : am_gf RX6 51 6 9 := ⟨by decide, RX6, TX6, 14, tyX6, okC_6, by decide, Or.inl tw_198⟩
theorem gf_RX6_57 : am_gf RX6 57 6 10 := ⟨by decide, RX6, TX6, 14, tyX6, okC_6, by decide, Or.inl tw_199⟩
theorem gf_RX6_63 : am_gf RX6 63 6 11 := ⟨by decide, RX6, TX6, 14, tyX6, okC_6, by decide, Or.inl tw_200⟩
theorem gf_RX6_67 : am_gf RX6 67 6 12 := ⟨by decide, RX6, TX6, 14, tyX6, okC_6, by decide, Or.inl tw_201⟩
theorem gf_RX6_70 : am_gf RX6 70 6 13 := ⟨by decide, RX6, TX6, 14, tyX6, okC_6, by decide, Or.inl tw_202⟩
theorem gf_RX6_81 : am_gf RX6 81 5 1 := ⟨by decide, RX5, TX5, 6, tyX5, okC_5, by decide, Or.inr ⟨_, tn_60⟩⟩
theorem gf_RX6_85 : am_gf RX6 85 5 0 := ⟨by decide, RX5, TX5, 6, tyX5, okC_5, by decide, Or.inr ⟨_, tn_58⟩⟩
theorem gf_RX6_97 : am_gf RX6 97 0 2 := ⟨by decide, RX0, TX0, 3, tyX0, okC_0, by decide, Or.inr ⟨_, tn_48⟩⟩
theorem gf_RX7_13 : am_gf RX7 13 7 1 := ⟨by decide, RX7, TX7, 34, tyX7, okC_7, by decide, Or.inl tw_822⟩
theorem gf_RX7_16 : am_gf RX7 16 7 2 := ⟨by decide, RX7, TX7, 34, tyX7, okC_7, by decide, Or.inl tw_823⟩
theorem gf_RX7_19 : am_gf RX7 19 7 4 := ⟨by decide, RX7, TX7, 34, tyX7, okC_7, by decide, Or.inl tw_825⟩
theorem gf_RX7_193 : am_gf RX7 193 7 7 := ⟨by decide, RX7, TX7, 34, tyX7, okC_7, by decide, Or.inl tw_828⟩
theorem gf_RX7_197 : am_gf RX7 197 7 8 := ⟨by decide, RX7, TX7, 34, tyX7, okC_7, by decide, Or.inl tw_829⟩
theorem gf_RX7_200 : am_gf RX7 200 7 9 := ⟨by decide, RX7, TX7, 34, tyX7, okC_7, by decide, Or.inl tw_830⟩
theorem gf_RX7_203 : am_gf RX7 203 7 12 := ⟨by decide, RX7, TX7, 34, tyX7, okC_7, by decide, Or.inl tw_833⟩
theorem gf_RX7_206 : am_gf RX7 206 7 10 := ⟨by decide, RX7, TX7, 34, tyX7, okC_7, by decide, Or.inl tw_831⟩
theorem gf_RX7_212 : am_gf RX7 212 7 11 := ⟨by decide, RX7, TX7, 34, tyX7, okC_7, by decide, Or.inl tw_832⟩
theorem gf_RX7_218 : am_gf RX7 218 7 13 := ⟨by decide, RX7, TX7, 34, tyX7, okC_7, by decide, Or.inl tw_834⟩
theorem gf_RX7_22 : am_gf RX7 22 7 5 := ⟨by decide, RX7, TX7, 34, tyX7, okC_7, by decide, Or.inl tw_826⟩
theorem gf_RX7_224 : am_gf RX7 224 7 20 := ⟨by decide, RX7, TX7, 34, tyX7, okC_7, by decide, Or.inl tw_841⟩
theorem gf_RX7_230 : am_gf RX7 230 7 17 := ⟨by decide, RX7, TX7, 34, tyX7, okC_7, by decide, Or.inl tw_838⟩
theorem gf_RX7_236 : am_gf RX7 236 7 18 := ⟨by decide, RX7, TX7, 34, tyX7, okC_7, by decide, Or.inl tw_839⟩
theorem gf_RX7_25 : am_gf RX7 25 7 6 := ⟨by decide, RX7, TX7, 34, tyX7, okC_7, by decide, Or.inl tw_827⟩
theorem gf_RX7_269 : am_gf RX7 269 7 33 := ⟨by decide, RX7, TX7, 34, tyX7, okC_7, by decide, Or.inl tw_854⟩
theorem gf_RX7_272 : am_gf RX7 272 7 3 := ⟨by decide, RX7, TX7, 34, tyX7, okC_7, by decide, Or.inl tw_824⟩
theorem gf_RX7_28 : am_gf RX7 28 7 14 := ⟨by decide, RX7, TX7, 34, tyX7, okC_7, by decide, Or.inl tw_835⟩
theorem gf_RX7_32 : am_gf RX7 32 7 15 := ⟨by decide, RX7, TX7, 34, tyX7, okC_7, by decide, Or.inl tw_836⟩
theorem gf_RX7_35 : am_gf RX7 35 7 16 := ⟨by decide, RX7, TX7, 34, tyX7, okC_7, by decide, Or.inl tw_837⟩
theorem gf_RX7_38 : am_gf RX7 38 7 19 := ⟨by decide, RX7, TX7, 34, tyX7, okC_7, by decide, Or.inl tw_840⟩
theorem gf_RX7_41 : am_gf RX7 41 7 21 := ⟨by decide, RX7, TX7, 34, tyX7, okC_7, by decide, Or.inl tw_842⟩
theorem gf_RX7_45 : am_gf RX7 45 7 22 := ⟨by decide, RX7, TX7, 34, tyX7, okC_7, by decide, Or.inl tw_843⟩
theorem gf_RX7_48 : am_gf RX7 48 7 23 := ⟨by decide, RX7, TX7, 34, tyX7, okC_7, by decide, Or.inl tw_844⟩
theorem gf_RX7_51 : am_gf RX7 51 7 24 := ⟨by decide, RX7, TX7, 34, tyX7, okC_7, by decide, Or.inl tw_845⟩
theorem gf_RX7_54 : am_gf RX7 54 7 25 := ⟨by decide, RX7, TX7, 34, tyX7, okC_7, by decide, Or.inl tw_846⟩
theorem gf_RX7_57 : am_gf RX7 57 7 26 := ⟨by decide, RX7, TX7, 34, tyX7, okC_7, by decide, Or.inl tw_847⟩
theorem gf_RX7_60 : am_gf RX7 60 7 27 := ⟨by decide, RX7, TX7, 34, tyX7, okC_7, by decide, Or.inl tw_848⟩
theorem gf_RX7_63 : am_gf RX7 63 7 28 := ⟨by decide, RX7, TX7, 34, tyX7, okC_7, by decide, Or.inl tw_849⟩
theorem gf_RX7_66 : am_gf RX7 66 7 29 := ⟨by decide, RX7, TX7, 34, tyX7, okC_7, by decide, Or.inl tw_850⟩
theorem gf_RX7_69 : am_gf RX7 69 7 30 := ⟨by decide, RX7, TX7, 34, tyX7, okC_7, by decide, Or.inl tw_851⟩
theorem gf_RX7_72 : am_gf RX7 72 7 31 := ⟨by decide, RX7, TX7, 34, tyX7, okC_7, by decide, Or.inl tw_852⟩
theorem gf_RX7_75 : am_gf RX7 75 7 32 := ⟨by decide, RX7, TX7, 34, tyX7, okC_7, by decide, Or.inl tw_853⟩
theorem gf_RX7_9 : am_gf RX7 9 7 0 := ⟨by decide, RX7, TX7, 34, tyX7, okC_7, by decide, Or.inl tw_821⟩
theorem pf_RX0_15 : am_pf RX0 15 0 1 .int := ⟨by decide, RX0, TX0, 3, tyX0, okC_0, by decide, Or.inl tw_45, rfl, rfl⟩
theorem pf_RX0_19 : am_pf RX0 19 0 2 .int := ⟨by decide, RX0, TX0, 3, tyX0, okC_0, by decide, Or.inl tw_47, rfl, rfl⟩
theorem pf_RX1_15 : am_pf RX1 15 1 1 .int := ⟨by decide, RX1, TX1, 9, tyX1, okC_1, by decide, Or.inl tw_92, rfl, rfl⟩
theorem pf_RX1_18 : am_pf RX1 18 1 2 .int := ⟨by decide, RX1, TX1, 9, tyX1, okC_1, by decide, Or.inl tw_94, rfl, rfl⟩
theorem pf_RX1_28 : am_pf RX1 28 1 5 .int := ⟨by decide, RX1, TX1, 9, tyX1, okC_1, by decide, Or.inl tw_99, rfl, rfl⟩
theorem pf_RX1_31 : am_pf RX1 31 1 6 .int := ⟨by decide, RX1, TX1, 9, tyX1, okC_1, by decide, Or.inl tw_100, rfl, rfl⟩
theorem pf_RX1_34 : am_pf RX1 34 1 7 .int := ⟨by decide, RX1, TX1, 9, tyX1, okC_1, by decide, Or.inl tw_101, rfl, rfl⟩
theorem pf_RX1_37 : am_pf RX1 37 1 8 .boolean := ⟨by decide, RX1, TX1, 9, tyX1, okC_1, by decide, Or.inl tw_102, rfl, rfl⟩
theorem pf_RX1_9 : am_pf RX1 9 1 0 .int := ⟨by decide, RX1, TX1, 9, tyX1, okC_1, by decide, Or.inl tw_90, rfl, rfl⟩
theorem pf_RX2_15 : am_pf RX2 15 2 1 .int := ⟨by decide, RX2, TX2, 3, tyX2, okC_2, by decide, Or.inl tw_153, rfl, rfl⟩
theorem pf_RX2_9 : am_pf RX2 9 2 0 .int := ⟨by decide, RX2, TX2, 3, tyX2, okC_2, by decide, Or.inl tw_151, rfl, rfl⟩
theorem pf_RX4_15 : am_pf RX4 15 4 1 .int := ⟨by decide, RX4, TX4, 4, tyX4, okC_4, by decide, Or.inl tw_133, rfl, rfl⟩
theorem pf_RX4_18 : am_pf RX4 18 4 2 .int := ⟨by decide, RX4, TX4, 4, tyX4, okC_4, by decide, Or.inl tw_135, rfl, rfl⟩
theorem pf_RX4_9 : am_pf RX4 9 4 0 .int := ⟨by decide, RX4, TX4, 4, tyX4, okC_4, by decide, Or.inl tw_131, rfl, rfl⟩
theorem pf_RX5_19 : am_pf RX5 19 5 3 .int := ⟨by decide, RX5, TX5, 6, tyX5, okC_5, by decide, Or.inl tw_63, rfl, rfl⟩
theorem pf_RX5_22 : am_pf RX5 22 5 4 .int := ⟨by decide, RX5, TX5, 6, tyX5, okC_5, by decide, Or.inl tw_65, rfl, rfl⟩
theorem pf_RX5_9 : am_pf RX5 9 5 1 .int := ⟨by decide, RX5, TX5, 6, tyX5, okC_5, by decide, Or.inl tw_59, rfl, rfl⟩
theorem pf_RX6_100 : am_pf RX6 100 0 1 .int := ⟨by decide, RX0, TX0, 3, tyX0, okC_0, by decide, Or.inr ⟨_, tn_46⟩, rfl, rfl⟩
theorem pf_RX6_155 : am_pf RX6 155 5 3 .int := ⟨by decide, RX5, TX5, 6, tyX5, okC_5, by decide, Or.inr ⟨_, tn_64⟩, rfl, rfl⟩
theorem pf_RX6_21 : am_pf RX6 21 6 2 .boolean := ⟨by decide, RX6, TX6, 14, tyX6, okC_6, by decide, Or.inl tw_191, rfl, rfl⟩
theorem pf_RX6_221 : am_pf RX6 221 5 4 .int := ⟨by decide, RX5, TX5, 6, tyX5, okC_5, by decide, Or.inr ⟨_, tn_66⟩, rfl, rfl⟩
theorem pf_RX6_269 : am_pf RX6 269 3 0 .int := ⟨by decide, RX3, TX3, 4, tyX3, okC_3, by decide, Or.inr ⟨_, tn_173⟩, rfl, rfl⟩
theorem pf_RX6_287 : am_pf RX6 287 3 3 .int := ⟨by decide, RX3, TX3, 4, tyX3, okC_3, by decide, Or.inr ⟨_, tn_179⟩, rfl, rfl⟩
theorem pf_RX6_51 : am_pf RX6 51 6 9 .int := ⟨by decide, RX6, TX6, 14, tyX6, okC_6, by decide, Or.inl tw_198, rfl, rfl⟩
theorem pf_RX6_70 : am_pf RX6 70 6 13 .int := ⟨by decide, RX6, TX6, 14, tyX6, okC_6, by decide, Or.inl tw_202, rfl, rfl⟩
theorem pf_RX6_81 : am_pf RX6 81 5 1 .int := ⟨by decide, RX5, TX5, 6, tyX5, okC_5, by decide, Or.inr ⟨_, tn_60⟩, rfl, rfl⟩
theorem pf_RX6_97 : am_pf RX6 97 0 2 .int := ⟨by decide, RX0, TX0, 3, tyX0, okC_0, by decide, Or.inr ⟨_, tn_48⟩, rfl, rfl⟩
theorem pf_RX7_193 : am_pf RX7 193 7 7 .int := ⟨by decide, RX7, TX7, 34, tyX7, okC_7, by decide, Or.inl tw_828, rfl, rfl⟩
theorem pf_RX7_197 : am_pf RX7 197 7 8 .int := ⟨by decide, RX7, TX7, 34, tyX7, okC_7, by decide, Or.inl tw_829, rfl, rfl⟩
theorem pf_RX7_200 : am_pf RX7 200 7 9 .int := ⟨by decide, RX7, TX7, 34, tyX7, okC_7, by decide, Or.inl tw_830, rfl, rfl⟩
theorem pf_RX7_203 : am_pf RX7 203 7 12 .int := ⟨by decide, RX7, TX7, 34, tyX7, okC_7, by decide, Or.inl tw_833, rfl, rfl⟩
theorem pf_RX7_206 : am_pf RX7 206 7 10 .int := ⟨by decide, RX7, TX7, 34, tyX7, okC_7, by decide, Or.inl tw_831, rfl, rfl⟩
theorem pf_RX7_212 : am_pf RX7 212 7 11 .int := ⟨by decide, RX7, TX7, 34, tyX7, okC_7, by decide, Or.inl tw_832, rfl, rfl⟩
theorem pf_RX7_218 : am_pf RX7 218 7 13 .int := ⟨by decide, RX7, TX7, 34, tyX7, okC_7, by decide, Or.inl tw_834, rfl, rfl⟩
theorem pf_RX7_224 : am_pf RX7 224 7 20 .int := ⟨by decide, RX7, TX7, 34, tyX7, okC_7, by decide, Or.inl tw_841, rfl, rfl⟩
theorem pf_RX7_230 : am_pf RX7 230 7 17 .int := ⟨by decide, RX7, TX7, 34, tyX7, okC_7, by decide, Or.inl tw_838, rfl, rfl⟩
theorem pf_RX7_236 : am_pf RX7 236 7 18 .int := ⟨by decide, RX7, TX7, 34, tyX7, okC_7, by decide, Or.inl tw_839, rfl, rfl⟩
theorem pf_RX7_269 : am_pf RX7 269 7 33 .int := ⟨by decide, RX7, TX7, 34, tyX7, okC_7, by decide, Or.inl tw_854, rfl, rfl⟩
theorem pf_RX7_272 : am_pf RX7 272 7 3 .boolean := ⟨by decide, RX7, TX7, 34, tyX7, okC_7, by decide, Or.inl tw_824, rfl, rfl⟩
section CALLS
variable {X : Nat × (Nat → Int32)} {M : am_M} {pc : Nat} {L : List (Nat × Value)} {S : List Value} {u u1 ur : am_MU} {vr : Option Value}
theorem px_callsi {idx n : Nat} {M' : am_M} (As : List Value) {st : List Value} {v : Int32} (hd : decode M.2.1 pc = .ok (.invokestatic idx, 3)) (hM : am_okM M' n) (hlk : am_lk M.1.cls idx M'.1) (hst : Cond.static M'.1 ∈ am_Tg) (hgt : M'.2.2.2.2 + 1 ≤ M.2.2.2.2) (hlen : As.length = n) (hC : am_Cn X M' As (hp u) (hp u1, some (.int v))) (hstk : st = As.reverse ++ S) (hrs : (S.map fun v => v.category).sum ≤ 8) (kk : am_Ev X M (pc + 3) L (.int v :: S) (hp u1) (hp ur, vr)) : am_Ev X M pc L st (hp u) (hp ur, vr) := ev_calls As hd hM hlk hst hgt hlen hC hstk hrs (Nat.le_refl _) (Nat.le_refl _) kk
theorem px_callvi {idx n a ci nf : Nat} {M' : am_M} (As : List Value) {st : List Value} {v : Int32} {rf : Nat → Option (Option Nat)} {T : u_T} {N : Nat} (hci : ci < 100) (hcl : vwCl[ci]? = some (M'.1.cls, T, N)) (ha : am_at (hp u) a (ci, nf, rf)) (hd : decode M.2.1 pc = .ok (.invokevirtual idx, 3)) (hM : am_okM M' n) (hlk : am_lk M.1.cls idx M'.1) (hst : Cond.instanceMethod M'.1 ∈ am_Tg) (hsel : Cond.selects M'.1.cls M'.1 M'.1 ∈ am_Tg) (hgt : M'.2.2.2.2 + 1 ≤ M.2.2.2.2) (hlen : As.length = n) (hC : am_Cn X M' (.ref a :: As) (hp u) (hp u1, some (.int v))) (hstk : st = As.reverse ++ .ref a :: S) (hrs : (S.map fun v => v.category).sum ≤ 8) (kk : am_Ev X M (pc + 3) L (.int v :: S) (hp u1) (hp ur, vr)) : am_Ev X M pc L st (hp u) (hp ur, vr) := ev_callv As hci hcl ha hd hM hlk hst hsel hgt hlen hC hstk hrs (Nat.le_refl _) (Nat.le_refl _) kk
theorem px_callSi {idx n a : Nat} {M' : am_M} (As : List Value) {st : List Value} {v : Int32} (hS0 : M'.1.cls = "java/lang/String") (ha : 4 ≤ a ∧ a < 10) (hd : decode M.2.1 pc = .ok (.invokevirtual idx, 3)) (hM : am_okM M' n) (hlk : am_lk M.1.cls idx M'.1) (hst : Cond.instanceMethod M'.1 ∈ am_Tg) (hsel : Cond.selects M'.1.cls M'.1 M'.1 ∈ am_Tg) (hgt : M'.2.2.2.2 + 1 ≤ M.2.2.2.2) (hlen : As.length = n) (hC : am_Cn X M' (.retAddr a :: As) (hp u) (hp u1, some (.int v))) (hstk : st = As.reverse ++ .retAddr a :: S) (hrs : (S.map fun v => v.category).sum ≤ 8) (kk : am_Ev X M (pc + 3) L (.int v :: S) (hp u1) (hp ur, vr)) : am_Ev X M pc L st (hp u) (hp ur, vr) := ev_callvS As hS0 ha hd hM hlk hst hsel hgt hlen hC hstk hrs (Nat.le_refl _) (Nat.le_refl _) kk
theorem px_callsl {idx n : Nat} {M' : am_M} (As : List Value) {st : List Value} {v : Int64} (hd : decode M.2.1 pc = .ok (.invokestatic idx, 3)) (hM : am_okM M' n) (hlk : am_lk M.1.cls idx M'.1) (hst : Cond.static M'.1 ∈ am_Tg) (hgt : M'.2.2.2.2 + 1 ≤ M.2.2.2.2) (hlen : As.length = n) (hC : am_Cn X M' As (hp u) (hp u1, some (.long v))) (hstk : st = As.reverse ++ S) (hrs : (S.map fun v => v.category).sum ≤ 8) (kk : am_Ev X M (pc + 3) L (.long v :: S) (hp u1) (hp ur, vr)) : am_Ev X M pc L st (hp u) (hp ur, vr) := ev_calls As hd hM hlk hst hgt hlen hC hstk hrs (Nat.le_refl _) (Nat.le_refl _) kk
theorem px_callvl {idx n a ci nf : Nat} {M' : am_M} (As : List Value) {st : List Value} {v : Int64} {rf : Nat → Option (Option Nat)} {T : u_T} {N : Nat} (hci : ci < 100) (hcl : vwCl[ci]? = some (M'.1.cls, T, N)) (ha : am_at (hp u) a (ci, nf, rf)) (hd : decode M.2.1 pc = .ok (.invokevirtual idx, 3)) (hM : am_okM M' n) (hlk : am_lk M.1.cls idx M'.1) (hst : Cond.instanceMethod M'.1 ∈ am_Tg) (hsel : Cond.selects M'.1.cls M'.1 M'.1 ∈ am_Tg) (hgt : M'.2.2.2.2 + 1 ≤ M.2.2.2.2) (hlen : As.length = n) (hC : am_Cn X M' (.ref a :: As) (hp u) (hp u1, some (.long v))) (hstk : st = As.reverse ++ .ref a :: S) (hrs : (S.map fun v => v.category).sum ≤ 8) (kk : am_Ev X M (pc + 3) L (.long v :: S) (hp u1) (hp ur, vr)) : am_Ev X M pc L st (hp u) (hp ur, vr) := ev_callv As hci hcl ha hd hM hlk hst hsel hgt hlen hC hstk hrs (Nat.le_refl _) (Nat.le_refl _) kk
theorem px_callSl {idx n a : Nat} {M' : am_M} (As : List Value) {st : List Value} {v : Int64} (hS0 : M'.1.cls = "java/lang/String") (ha : 4 ≤ a ∧ a < 10) (hd : decode M.2.1 pc = .ok (.invokevirtual idx, 3)) (hM : am_okM M' n) (hlk : am_lk M.1.cls idx M'.1) (hst : Cond.instanceMethod M'.1 ∈ am_Tg) (hsel : Cond.selects M'.1.cls M'.1 M'.1 ∈ am_Tg) (hgt : M'.2.2.2.2 + 1 ≤ M.2.2.2.2) (hlen : As.length = n) (hC : am_Cn X M' (.retAddr a :: As) (hp u) (hp u1, some (.long v))) (hstk : st = As.reverse ++ .retAddr a :: S) (hrs : (S.map fun v => v.category).sum ≤ 8) (kk : am_Ev X M (pc + 3) L (.long v :: S) (hp u1) (hp ur, vr)) : am_Ev X M pc L st (hp u) (hp ur, vr) := ev_callvS As hS0 ha hd hM hlk hst hsel hgt hlen hC hstk hrs (Nat.le_refl _) (Nat.le_refl _) kk
theorem px_callsr {idx n : Nat} {M' : am_M} (As : List Value) {st : List Value} {v : Nat} (hd : decode M.2.1 pc = .ok (.invokestatic idx, 3)) (hM : am_okM M' n) (hlk : am_lk M.1.cls idx M'.1) (hst : Cond.static M'.1 ∈ am_Tg) (hgt : M'.2.2.2.2 + 1 ≤ M.2.2.2.2) (hlen : As.length = n) (hC : am_Cn X M' As (hp u) (hp u1, some (.ref v))) (hstk : st = As.reverse ++ S) (hrs : (S.map fun v => v.category).sum ≤ 8) (kk : am_Ev X M (pc + 3) L (.ref v :: S) (hp u1) (hp ur, vr)) : am_Ev X M pc L st (hp u) (hp ur, vr) := ev_calls As hd hM hlk hst hgt hlen hC hstk hrs (Nat.le_refl _) (Nat.le_refl _) kk
theorem px_callvr {idx n a ci nf : Nat} {M' : am_M} (As : List Value) {st : List Value} {v : Nat} {rf : Nat → Option (Option Nat)} {T : u_T} {N : Nat} (hci : ci < 100) (hcl : vwCl[ci]? = some (M'.1.cls, T, N)) (ha : am_at (hp u) a (ci, nf, rf)) (hd : decode M.2.1 pc = .ok (.invokevirtual idx, 3)) (hM : am_okM M' n) (hlk : am_lk M.1.cls idx M'.1) (hst : Cond.instanceMethod M'.1 ∈ am_Tg) (hsel : Cond.selects M'.1.cls M'.1 M'.1 ∈ am_Tg) (hgt : M'.2.2.2.2 + 1 ≤ M.2.2.2.2) (hlen : As.length = n) (hC : am_Cn X M' (.ref a :: As) (hp u) (hp u1, some (.ref v))) (hstk : st = As.reverse ++ .ref a :: S) (hrs : (S.map fun v => v.category).sum ≤ 8) (kk : am_Ev X M (pc + 3) L (.ref v :: S) (hp u1) (hp ur, vr)) : am_Ev X M pc L st (hp u) (hp ur, vr) := ev_callv As hci hcl ha hd hM hlk hst hsel hgt hlen hC hstk hrs (Nat.le_refl _) (Nat.le_refl _) kk
theorem px_callSr {idx n a : Nat} {M' : am_M} (As : List Value) {st : List Value} {v : Nat} (hS0 : M'.1.cls = "java/lang/String") (ha : 4 ≤ a ∧ a < 10) (hd : decode M.2.1 pc = .ok (.invokevirtual idx, 3)) (hM : am_okM M' n) (hlk : am_lk M.1.cls idx M'.1) (hst : Cond.instanceMethod M'.1 ∈ am_Tg) (hsel : Cond.selects M'.1.cls M'.1 M'.1 ∈ am_Tg) (hgt : M'.2.2.2.2 + 1 ≤ M.2.2.2.2) (hlen : As.length = n) (hC : am_Cn X M' (.retAddr a :: As) (hp u) (hp u1, some (.ref v))) (hstk : st = As.reverse ++ .retAddr a :: S) (hrs : (S.map fun v => v.category).sum ≤ 8) (kk : am_Ev X M (pc + 3) L (.ref v :: S) (hp u1) (hp ur, vr)) : am_Ev X M pc L st (hp u) (hp ur, vr) := ev_callvS As hS0 ha hd hM hlk hst hsel hgt hlen hC hstk hrs (Nat.le_refl _) (Nat.le_refl _) kk
theorem px_callsk {idx n : Nat} {M' : am_M} (As : List Value) {st : List Value} {v : Nat} (hd : decode M.2.1 pc = .ok (.invokestatic idx, 3)) (hM : am_okM M' n) (hlk : am_lk M.1.cls idx M'.1) (hst : Cond.static M'.1 ∈ am_Tg) (hgt : M'.2.2.2.2 + 1 ≤ M.2.2.2.2) (hlen : As.length = n) (hC : am_Cn X M' As (hp u) (hp u1, some (.retAddr v))) (hstk : st = As.reverse ++ S) (hrs : (S.map fun v => v.category).sum ≤ 8) (kk : am_Ev X M (pc + 3) L (.retAddr v :: S) (hp u1) (hp ur, vr)) : am_Ev X M pc L st (hp u) (hp ur, vr) := ev_calls As hd hM hlk hst hgt hlen hC hstk hrs (Nat.le_refl _) (Nat.le_refl _) kk
theorem px_callvk {idx n a ci nf : Nat} {M' : am_M} (As : List Value) {st : List Value} {v : Nat} {rf : Nat → Option (Option Nat)} {T : u_T} {N : Nat} (hci : ci < 100) (hcl : vwCl[ci]? = some (M'.1.cls, T, N)) (ha : am_at (hp u) a (ci, nf, rf)) (hd : decode M.2.1 pc = .ok (.invokevirtual idx, 3)) (hM : am_okM M' n) (hlk : am_lk M.1.cls idx M'.1) (hst : Cond.instanceMethod M'.1 ∈ am_Tg) (hsel : Cond.selects M'.1.cls M'.1 M'.1 ∈ am_Tg) (hgt : M'.2.2.2.2 + 1 ≤ M.2.2.2.2) (hlen : As.length = n) (hC : am_Cn X M' (.ref a :: As) (hp u) (hp u1, some (.retAddr v))) (hstk : st = As.reverse ++ .ref a :: S) (hrs : (S.map fun v => v.category).sum ≤ 8) (kk : am_Ev X M (pc + 3) L (.retAddr v :: S) (hp u1) (hp ur, vr)) : am_Ev X M pc L st (hp u) (hp ur, vr) := ev_callv As hci hcl ha hd hM hlk hst hsel hgt hlen hC hstk hrs (Nat.le_refl _) (Nat.le_refl _) kk
theorem px_callSk {idx n a : Nat} {M' : am_M} (As : List Value) {st : List Value} {v : Nat} (hS0 : M'.1.cls = "java/lang/String") (ha : 4 ≤ a ∧ a < 10) (hd : decode M.2.1 pc = .ok (.invokevirtual idx, 3)) (hM : am_okM M' n) (hlk : am_lk M.1.cls idx M'.1) (hst : Cond.instanceMethod M'.1 ∈ am_Tg) (hsel : Cond.selects M'.1.cls M'.1 M'.1 ∈ am_Tg) (hgt : M'.2.2.2.2 + 1 ≤ M.2.2.2.2) (hlen : As.length = n) (hC : am_Cn X M' (.retAddr a :: As) (hp u) (hp u1, some (.retAddr v))) (hstk : st = As.reverse ++ .retAddr a :: S) (hrs : (S.map fun v => v.category).sum ≤ 8) (kk : am_Ev X M (pc + 3) L (.retAddr v :: S) (hp u1) (hp ur, vr)) : am_Ev X M pc L st (hp u) (hp ur, vr) := ev_callvS As hS0 ha hd hM hlk hst hsel hgt hlen hC hstk hrs (Nat.le_refl _) (Nat.le_refl _) kk
theorem px_callsv {idx n : Nat} {M' : am_M} (As : List Value) {st : List Value} (hd : decode M.2.1 pc = .ok (.invokestatic idx, 3)) (hM : am_okM M' n) (hlk : am_lk M.1.cls idx M'.1) (hst : Cond.static M'.1 ∈ am_Tg) (hgt : M'.2.2.2.2 + 1 ≤ M.2.2.2.2) (hlen : As.length = n) (hC : am_Cn X M' As (hp u) (hp u1, none)) (hstk : st = As.reverse ++ S) (hrs : (S.map fun v => v.category).sum ≤ 8) (kk : am_Ev X M (pc + 3) L (S) (hp u1) (hp ur, vr)) : am_Ev X M pc L st (hp u) (hp ur, vr) := ev_calls As hd hM hlk hst hgt hlen hC hstk hrs (Nat.le_refl _) (Nat.le_refl _) kk
theorem px_callvv {idx n a ci nf : Nat} {M' : am_M} (As : List Value) {st : List Value} {rf : Nat → Option (Option Nat)} {T : u_T} {N : Nat} (hci : ci < 100) (hcl : vwCl[ci]? = some (M'.1.cls, T, N)) (ha : am_at (hp u) a (ci, nf, rf)) (hd : decode M.2.1 pc = .ok (.invokevirtual idx, 3)) (hM : am_okM M' n) (hlk : am_lk M.1.cls idx M'.1) (hst : Cond.instanceMethod M'.1 ∈ am_Tg) (hsel : Cond.selects M'.1.cls M'.1 M'.1 ∈ am_Tg) (hgt : M'.2.2.2.2 + 1 ≤ M.2.2.2.2) (hlen : As.length = n) (hC : am_Cn X M' (.ref a :: As) (hp u) (hp u1, none)) (hstk : st = As.reverse ++ .ref a :: S) (hrs : (S.map fun v => v.category).sum ≤ 8) (kk : am_Ev X M (pc + 3) L (S) (hp u1) (hp ur, vr)) : am_Ev X M pc L st (hp u) (hp ur, vr) := ev_callv As hci hcl ha hd hM hlk hst hsel hgt hlen hC hstk hrs (Nat.le_refl _) (Nat.le_refl _) kk
theorem px_callSv {idx n a : Nat} {M' : am_M} (As : List Value) {st : List Value} (hS0 : M'.1.cls = "java/lang/String") (ha : 4 ≤ a ∧ a < 10) (hd : decode M.2.1 pc = .ok (.invokevirtual idx, 3)) (hM : am_okM M' n) (hlk : am_lk M.1.cls idx M'.1) (hst : Cond.instanceMethod M'.1 ∈ am_Tg) (hsel : Cond.selects M'.1.cls M'.1 M'.1 ∈ am_Tg) (hgt : M'.2.2.2.2 + 1 ≤ M.2.2.2.2) (hlen : As.length = n) (hC : am_Cn X M' (.retAddr a :: As) (hp u) (hp u1, none)) (hstk : st = As.reverse ++ .retAddr a :: S) (hrs : (S.map fun v => v.category).sum ≤ 8) (kk : am_Ev X M (pc + 3) L (S) (hp u1) (hp ur, vr)) : am_Ev X M pc L st (hp u) (hp ur, vr) := ev_callvS As hS0 ha hd hM hlk hst hsel hgt hlen hC hstk hrs (Nat.le_refl _) (Nat.le_refl _) kk
end CALLS
