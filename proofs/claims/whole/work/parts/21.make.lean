def rfb0 : Nat → Option (Option Nat) := fun j => match j with
  | 0 => some none
  | _ => none
def rfb1 : Nat → Option (Option Nat) := fun j => match j with
  | 3 => some none
  | 4 => some none
  | _ => none
def rfb2 : Nat → Option (Option Nat) := fun j => match j with
  | 2 => some none
  | _ => none
def rfb3 : Nat → Option (Option Nat) := fun j => match j with
  | 1 => some none
  | 2 => some none
  | _ => none
def rfb4 : Nat → Option (Option Nat) := fun j => match j with
  | 3 => some none
  | _ => none
def rfb5 : Nat → Option (Option Nat) := fun j => match j with
  | 0 => some none
  | 2 => some none
  | 5 => some none
  | _ => none
def rfb6 : Nat → Option (Option Nat) := fun j => match j with
  | 0 => some none
  | 1 => some none
  | 3 => some none
  | 4 => some none
  | 5 => some none
  | 6 => some none
  | 7 => some none
  | 8 => some none
  | 10 => some none
  | 11 => some none
  | 12 => some none
  | _ => none
def rfb7 : Nat → Option (Option Nat) := fun j => match j with
  | 0 => some none
  | 1 => some none
  | 2 => some none
  | 4 => some none
  | 5 => some none
  | 6 => some none
  | 14 => some none
  | 15 => some none
  | 16 => some none
  | 19 => some none
  | 21 => some none
  | 22 => some none
  | 23 => some none
  | 24 => some none
  | 25 => some none
  | 26 => some none
  | 27 => some none
  | 28 => some none
  | 29 => some none
  | 30 => some none
  | 31 => some none
  | 32 => some none
  | _ => none
theorem tw_20 : (Jvm.Cond.instanceMethod ({ cls := "SandRipples", name := "<init>", desc := "()V" } : Jvm.MethodName)) ∈ am_Tg := am_in_t 20 tq_20 rfl
theorem tw_21 : (Jvm.Cond.code ({ cls := "SandRipples", name := "<init>", desc := "()V" } : Jvm.MethodName) prog_1_method_1_code (2 : Nat) (Option.none : Option Jvm.ClassFile.FieldType)) ∈ am_Tg := am_in_t 21 tq_21 rfl
theorem tw_22 : (Jvm.Cond.methodLink "SandRipples" (1 : Nat) ({ cls := "java/lang/Object", name := "<init>", desc := "()V" } : Jvm.MethodName)) ∈ am_Tg := am_in_t 22 tq_22 rfl
theorem tw_23 : (Jvm.Cond.instanceMethod ({ cls := "java/lang/Object", name := "<init>", desc := "()V" } : Jvm.MethodName)) ∈ am_Tg := am_in_t 23 tq_23 rfl
theorem tw_24 : (Jvm.Cond.code ({ cls := "java/lang/Object", name := "<init>", desc := "()V" } : Jvm.MethodName) object_method_1_code (1 : Nat) (Option.none : Option Jvm.ClassFile.FieldType)) ∈ am_Tg := am_in_t 24 tq_24 rfl
theorem tw_25 : (Jvm.Cond.classLink "SandRipples" (7 : Nat) "SandRipples$World") ∈ am_Tg := am_in_t 25 tq_25 rfl
theorem tw_28 : (Jvm.Cond.instanceMethod ({ cls := "SandRipples$World", name := "<init>", desc := "(I)V" } : Jvm.MethodName)) ∈ am_Tg := am_in_t 28 tq_28 rfl
theorem tw_29 : (Jvm.Cond.code ({ cls := "SandRipples$World", name := "<init>", desc := "(I)V" } : Jvm.MethodName) prog_7_method_1_code (3 : Nat) (Option.none : Option Jvm.ClassFile.FieldType)) ∈ am_Tg := am_in_t 29 tq_29 rfl
theorem tw_30 : (Jvm.Cond.methodLink "SandRipples$World" (3 : Nat) ({ cls := "java/lang/Object", name := "<init>", desc := "()V" } : Jvm.MethodName)) ∈ am_Tg := am_in_t 30 tq_30 rfl
theorem tw_31 : (Jvm.Cond.constant "SandRipples$World" (25 : Nat) (-1000000005 : Int32)) ∈ am_Tg := am_in_t 31 tq_31 rfl
theorem tw_32 : (Jvm.Cond.methodLink "SandRipples$World" (29 : Nat) ({ cls := "java/lang/Math", name := "max", desc := "(II)I" } : Jvm.MethodName)) ∈ am_Tg := am_in_t 32 tq_32 rfl
theorem tw_35 : (Jvm.Cond.classLink "SandRipples$World" (35 : Nat) "SandRipples$Floor") ∈ am_Tg := am_in_t 35 tq_35 rfl
theorem tw_39 : (Jvm.Cond.instanceMethod ({ cls := "SandRipples$Floor", name := "<init>", desc := "()V" } : Jvm.MethodName)) ∈ am_Tg := am_in_t 39 tq_39 rfl
theorem tw_40 : (Jvm.Cond.code ({ cls := "SandRipples$Floor", name := "<init>", desc := "()V" } : Jvm.MethodName) prog_2_method_1_code (1 : Nat) (Option.none : Option Jvm.ClassFile.FieldType)) ∈ am_Tg := am_in_t 40 tq_40 rfl
theorem tw_41 : (Jvm.Cond.methodLink "SandRipples$Floor" (3 : Nat) ({ cls := "java/lang/Object", name := "<init>", desc := "()V" } : Jvm.MethodName)) ∈ am_Tg := am_in_t 41 tq_41 rfl
theorem tw_56 : (Jvm.Cond.arrayClass Jvm.ClassFile.FieldType.int) ∈ am_Tg := am_in_t 56 tq_56 rfl
theorem tw_82 : (Jvm.Cond.classLink "SandRipples" (32 : Nat) "SandRipples$Text") ∈ am_Tg := am_in_t 82 tq_82 rfl
theorem tw_84 : (Jvm.Cond.classLink "SandRipples" (38 : Nat) "SandRipples$Reader") ∈ am_Tg := am_in_t 84 tq_84 rfl
theorem tw_87 : (Jvm.Cond.instanceMethod ({ cls := "SandRipples$Reader", name := "<init>", desc := "()V" } : Jvm.MethodName)) ∈ am_Tg := am_in_t 87 tq_87 rfl
theorem tw_88 : (Jvm.Cond.code ({ cls := "SandRipples$Reader", name := "<init>", desc := "()V" } : Jvm.MethodName) prog_3_method_1_code (1 : Nat) (Option.none : Option Jvm.ClassFile.FieldType)) ∈ am_Tg := am_in_t 88 tq_88 rfl
theorem tw_89 : (Jvm.Cond.methodLink "SandRipples$Reader" (3 : Nat) ({ cls := "java/lang/Object", name := "<init>", desc := "()V" } : Jvm.MethodName)) ∈ am_Tg := am_in_t 89 tq_89 rfl
theorem tw_122 : (Jvm.Cond.classLink "SandRipples" (55 : Nat) "SandRipples$Sheet") ∈ am_Tg := am_in_t 122 tq_122 rfl
theorem tw_124 : (Jvm.Cond.classLink "SandRipples" (61 : Nat) "SandRipples$Slot") ∈ am_Tg := am_in_t 124 tq_124 rfl
theorem tw_128 : (Jvm.Cond.instanceMethod ({ cls := "SandRipples$Text", name := "<init>", desc := "()V" } : Jvm.MethodName)) ∈ am_Tg := am_in_t 128 tq_128 rfl
theorem tw_129 : (Jvm.Cond.code ({ cls := "SandRipples$Text", name := "<init>", desc := "()V" } : Jvm.MethodName) prog_6_method_1_code (1 : Nat) (Option.none : Option Jvm.ClassFile.FieldType)) ∈ am_Tg := am_in_t 129 tq_129 rfl
theorem tw_130 : (Jvm.Cond.methodLink "SandRipples$Text" (3 : Nat) ({ cls := "java/lang/Object", name := "<init>", desc := "()V" } : Jvm.MethodName)) ∈ am_Tg := am_in_t 130 tq_130 rfl
theorem tw_148 : (Jvm.Cond.instanceMethod ({ cls := "SandRipples$Sheet", name := "<init>", desc := "()V" } : Jvm.MethodName)) ∈ am_Tg := am_in_t 148 tq_148 rfl
theorem tw_149 : (Jvm.Cond.code ({ cls := "SandRipples$Sheet", name := "<init>", desc := "()V" } : Jvm.MethodName) prog_4_method_1_code (1 : Nat) (Option.none : Option Jvm.ClassFile.FieldType)) ∈ am_Tg := am_in_t 149 tq_149 rfl
theorem tw_150 : (Jvm.Cond.methodLink "SandRipples$Sheet" (3 : Nat) ({ cls := "java/lang/Object", name := "<init>", desc := "()V" } : Jvm.MethodName)) ∈ am_Tg := am_in_t 150 tq_150 rfl
theorem tw_165 : (Jvm.Cond.instanceMethod ({ cls := "SandRipples$Slot", name := "<init>", desc := "()V" } : Jvm.MethodName)) ∈ am_Tg := am_in_t 165 tq_165 rfl
theorem tw_166 : (Jvm.Cond.code ({ cls := "SandRipples$Slot", name := "<init>", desc := "()V" } : Jvm.MethodName) prog_5_method_1_code (1 : Nat) (Option.none : Option Jvm.ClassFile.FieldType)) ∈ am_Tg := am_in_t 166 tq_166 rfl
theorem tw_167 : (Jvm.Cond.methodLink "SandRipples$Slot" (3 : Nat) ({ cls := "java/lang/Object", name := "<init>", desc := "()V" } : Jvm.MethodName)) ∈ am_Tg := am_in_t 167 tq_167 rfl
theorem tw_168 : (Jvm.Cond.classLink "SandRipples$Slot" (15 : Nat) "SandRipples$Floor") ∈ am_Tg := am_in_t 168 tq_168 rfl
theorem tw_170 : (Jvm.Cond.classLink "SandRipples$Slot" (22 : Nat) "SandRipples$Sheet") ∈ am_Tg := am_in_t 170 tq_170 rfl
theorem tw_172 : (Jvm.Cond.fieldLink "SandRipples$Slot" (9 : Nat) "SandRipples$Slot" "thing" "I") ∈ am_Tg := am_in_t 172 tq_172 rfl
theorem tw_174 : (Jvm.Cond.fieldLink "SandRipples$Slot" (18 : Nat) "SandRipples$Slot" "floor" "LSandRipples$Floor;") ∈ am_Tg := am_in_t 174 tq_174 rfl
theorem tw_176 : (Jvm.Cond.fieldLink "SandRipples$Slot" (25 : Nat) "SandRipples$Slot" "sheet" "LSandRipples$Sheet;") ∈ am_Tg := am_in_t 176 tq_176 rfl
theorem tw_178 : (Jvm.Cond.fieldLink "SandRipples$Slot" (29 : Nat) "SandRipples$Slot" "number" "I") ∈ am_Tg := am_in_t 178 tq_178 rfl
theorem tw_818 : (Jvm.Cond.instanceMethod ({ cls := "SandRipplesModel", name := "<init>", desc := "()V" } : Jvm.MethodName)) ∈ am_Tg := am_in_t 818 tq_818 rfl
theorem tw_819 : (Jvm.Cond.code ({ cls := "SandRipplesModel", name := "<init>", desc := "()V" } : Jvm.MethodName) prog_9_method_1_code (1 : Nat) (Option.none : Option Jvm.ClassFile.FieldType)) ∈ am_Tg := am_in_t 819 tq_819 rfl
theorem tw_820 : (Jvm.Cond.methodLink "SandRipplesModel" (1 : Nat) ({ cls := "java/lang/Object", name := "<init>", desc := "()V" } : Jvm.MethodName)) ∈ am_Tg := am_in_t 820 tq_820 rfl
theorem tw_924 : (Jvm.Cond.arrayClass Jvm.ClassFile.FieldType.char) ∈ am_Tg := am_in_t 924 tq_924 rfl
theorem tw_925 : (Jvm.Cond.arrayClass Jvm.ClassFile.FieldType.boolean) ∈ am_Tg := am_in_t 925 tq_925 rfl
theorem tn_27 : (Jvm.Cond.methodLinkNest "SandRipples" (11 : Nat) ({ cls := "SandRipples$World", name := "<init>", desc := "(I)V" } : Jvm.MethodName) "SandRipples") ∈ am_nw := am_in_n 27 tq_27 rfl
theorem tn_38 : (Jvm.Cond.methodLinkNest "SandRipples$World" (41 : Nat) ({ cls := "SandRipples$Floor", name := "<init>", desc := "()V" } : Jvm.MethodName) "SandRipples") ∈ am_nw := am_in_n 38 tq_38 rfl
theorem tn_86 : (Jvm.Cond.methodLinkNest "SandRipples" (40 : Nat) ({ cls := "SandRipples$Reader", name := "<init>", desc := "()V" } : Jvm.MethodName) "SandRipples") ∈ am_nw := am_in_n 86 tq_86 rfl
theorem tn_127 : (Jvm.Cond.methodLinkNest "SandRipples" (73 : Nat) ({ cls := "SandRipples$Text", name := "<init>", desc := "()V" } : Jvm.MethodName) "SandRipples") ∈ am_nw := am_in_n 127 tq_127 rfl
theorem tn_147 : (Jvm.Cond.methodLinkNest "SandRipples" (74 : Nat) ({ cls := "SandRipples$Sheet", name := "<init>", desc := "()V" } : Jvm.MethodName) "SandRipples") ∈ am_nw := am_in_n 147 tq_147 rfl
theorem tn_164 : (Jvm.Cond.methodLinkNest "SandRipples" (75 : Nat) ({ cls := "SandRipples$Slot", name := "<init>", desc := "()V" } : Jvm.MethodName) "SandRipples") ∈ am_nw := am_in_n 164 tq_164 rfl
theorem tn_169 : (Jvm.Cond.methodLinkNest "SandRipples$Slot" (17 : Nat) ({ cls := "SandRipples$Floor", name := "<init>", desc := "()V" } : Jvm.MethodName) "SandRipples") ∈ am_nw := am_in_n 169 tq_169 rfl
theorem tn_171 : (Jvm.Cond.methodLinkNest "SandRipples$Slot" (24 : Nat) ({ cls := "SandRipples$Sheet", name := "<init>", desc := "()V" } : Jvm.MethodName) "SandRipples") ∈ am_nw := am_in_n 171 tq_171 rfl
theorem w_oi : Cond.instanceMethod Lib.objectInit ∈ am_Tg := tw_23
theorem w_oc : Cond.code Lib.objectInit ⟨#[0xb1]⟩ 1 none ∈ am_Tg := tw_24
theorem w_ac0 : Cond.arrayClass .int ∈ am_Tg := tw_56
theorem w_ac1 : Cond.arrayClass .boolean ∈ am_Tg := tw_925
theorem w_ac2 : Cond.arrayClass .char ∈ am_Tg := tw_924
theorem kB_13 : (Int8.ofInt (13)).toInt32 = (13 : Int32) := by decide +kernel
theorem kB_101 : (Int8.ofInt (101)).toInt32 = (101 : Int32) := by decide +kernel
theorem kB_102 : (Int8.ofInt (102)).toInt32 = (102 : Int32) := by decide +kernel
theorem kB_105 : (Int8.ofInt (105)).toInt32 = (105 : Int32) := by decide +kernel
theorem kB_107 : (Int8.ofInt (107)).toInt32 = (107 : Int32) := by decide +kernel
theorem kB_108 : (Int8.ofInt (108)).toInt32 = (108 : Int32) := by decide +kernel
theorem kB_109 : (Int8.ofInt (109)).toInt32 = (109 : Int32) := by decide +kernel
theorem kB_114 : (Int8.ofInt (114)).toInt32 = (114 : Int32) := by decide +kernel
theorem kB_116 : (Int8.ofInt (116)).toInt32 = (116 : Int32) := by decide +kernel
theorem kB_120 : (Int8.ofInt (120)).toInt32 = (120 : Int32) := by decide +kernel
def M_X0_init : am_M := (yX0_init, cX0_init, 1, (Option.none : Option Jvm.ClassFile.FieldType), 1)
theorem ok_X0_init : am_okM M_X0_init 0 := ⟨plainFor_of_name (by decide +kernel), ⟨by decide +kernel, by decide +kernel, by decide +kernel⟩, tw_40, by decide, tw_4⟩
theorem in_X0_init : Cond.instanceMethod M_X0_init.1 ∈ am_Tg := tw_39
def M_X5_init : am_M := (yX5_init, cX5_init, 3, (Option.none : Option Jvm.ClassFile.FieldType), 2)
theorem ok_X5_init : am_okM M_X5_init 1 := ⟨plainFor_of_name (by decide +kernel), ⟨by decide +kernel, by decide +kernel, by decide +kernel⟩, tw_29, by decide, tw_2⟩
theorem in_X5_init : Cond.instanceMethod M_X5_init.1 ∈ am_Tg := tw_28
def M_X1_init : am_M := (yX1_init, cX1_init, 1, (Option.none : Option Jvm.ClassFile.FieldType), 1)
theorem ok_X1_init : am_okM M_X1_init 0 := ⟨plainFor_of_name (by decide +kernel), ⟨by decide +kernel, by decide +kernel, by decide +kernel⟩, tw_88, by decide, tw_5⟩
theorem in_X1_init : Cond.instanceMethod M_X1_init.1 ∈ am_Tg := tw_87
def M_X4_init : am_M := (yX4_init, cX4_init, 1, (Option.none : Option Jvm.ClassFile.FieldType), 1)
theorem ok_X4_init : am_okM M_X4_init 0 := ⟨plainFor_of_name (by decide +kernel), ⟨by decide +kernel, by decide +kernel, by decide +kernel⟩, tw_129, by decide, tw_6⟩
theorem in_X4_init : Cond.instanceMethod M_X4_init.1 ∈ am_Tg := tw_128
def M_X2_init : am_M := (yX2_init, cX2_init, 1, (Option.none : Option Jvm.ClassFile.FieldType), 1)
theorem ok_X2_init : am_okM M_X2_init 0 := ⟨plainFor_of_name (by decide +kernel), ⟨by decide +kernel, by decide +kernel, by decide +kernel⟩, tw_149, by decide, tw_7⟩
theorem in_X2_init : Cond.instanceMethod M_X2_init.1 ∈ am_Tg := tw_148
def M_X3_init : am_M := (yX3_init, cX3_init, 1, (Option.none : Option Jvm.ClassFile.FieldType), 2)
theorem ok_X3_init : am_okM M_X3_init 0 := ⟨plainFor_of_name (by decide +kernel), ⟨by decide +kernel, by decide +kernel, by decide +kernel⟩, tw_166, by decide, tw_8⟩
theorem in_X3_init : Cond.instanceMethod M_X3_init.1 ∈ am_Tg := tw_165
def M_X6_init : am_M := (yX6_init, cX6_init, 2, (Option.none : Option Jvm.ClassFile.FieldType), 3)
theorem ok_X6_init : am_okM M_X6_init 0 := ⟨plainFor_of_name (by decide +kernel), ⟨by decide +kernel, by decide +kernel, by decide +kernel⟩, tw_21, by decide, tw_1⟩
theorem in_X6_init : Cond.instanceMethod M_X6_init.1 ∈ am_Tg := tw_20
def M_X7_init : am_M := (yX7_init, cX7_init, 1, (Option.none : Option Jvm.ClassFile.FieldType), 1)
theorem ok_X7_init : am_okM M_X7_init 0 := ⟨plainFor_of_name (by decide +kernel), ⟨by decide +kernel, by decide +kernel, by decide +kernel⟩, tw_819, by decide, tw_9⟩
theorem in_X7_init : Cond.instanceMethod M_X7_init.1 ∈ am_Tg := tw_818
theorem lk_RX6_11 : am_lk RX6 11 M_X5_init.1 := Or.inr ⟨_, tn_27⟩
theorem lk_RX6_40 : am_lk RX6 40 M_X1_init.1 := Or.inr ⟨_, tn_86⟩
theorem lk_RX6_73 : am_lk RX6 73 M_X4_init.1 := Or.inr ⟨_, tn_127⟩
theorem lk_RX6_74 : am_lk RX6 74 M_X2_init.1 := Or.inr ⟨_, tn_147⟩
theorem lk_RX6_75 : am_lk RX6 75 M_X3_init.1 := Or.inr ⟨_, tn_164⟩
theorem lk_RX3_17 : am_lk RX3 17 M_X0_init.1 := Or.inr ⟨_, tn_169⟩
theorem lk_RX3_24 : am_lk RX3 24 M_X2_init.1 := Or.inr ⟨_, tn_171⟩
theorem lk_RX5_29 : am_lk RX5 29 M_J9_max_7cf53.1 := Or.inl tw_32
theorem lk_RX5_41 : am_lk RX5 41 M_X0_init.1 := Or.inr ⟨_, tn_38⟩
theorem pF_RX0_9 : am_pF RX0 9 0 0 (.array .int) := ⟨by decide, RX0, TX0, 3, tyX0, okC_0, by decide, tw_42, rfl, rfl, rfl⟩
theorem pF_RX1_21 : am_pF RX1 21 1 3 (.array .int) := ⟨by decide, RX1, TX1, 9, tyX1, okC_1, by decide, tw_96, rfl, rfl, rfl⟩
theorem pF_RX1_25 : am_pF RX1 25 1 4 (.array .int) := ⟨by decide, RX1, TX1, 9, tyX1, okC_1, by decide, tw_98, rfl, rfl, rfl⟩
theorem pF_RX2_18 : am_pF RX2 18 2 2 (.array .int) := ⟨by decide, RX2, TX2, 3, tyX2, okC_2, by decide, tw_154, rfl, rfl, rfl⟩
theorem pF_RX3_18 : am_pF RX3 18 3 1 (.object "SandRipples$Floor") := ⟨by decide, RX3, TX3, 4, tyX3, okC_3, by decide, tw_174, rfl, rfl, rfl⟩
theorem pF_RX3_25 : am_pF RX3 25 3 2 (.object "SandRipples$Sheet") := ⟨by decide, RX3, TX3, 4, tyX3, okC_3, by decide, tw_176, rfl, rfl, rfl⟩
theorem pF_RX4_21 : am_pF RX4 21 4 3 (.array .int) := ⟨by decide, RX4, TX4, 4, tyX4, okC_4, by decide, tw_136, rfl, rfl, rfl⟩
theorem pF_RX5_15 : am_pF RX5 15 5 2 (.array .int) := ⟨by decide, RX5, TX5, 6, tyX5, okC_5, by decide, tw_61, rfl, rfl, rfl⟩
theorem pF_RX5_26 : am_pF RX5 26 5 5 (.array .int) := ⟨by decide, RX5, TX5, 6, tyX5, okC_5, by decide, tw_67, rfl, rfl, rfl⟩
theorem pF_RX5_37 : am_pF RX5 37 5 0 (.array (.object "SandRipples$Floor")) := ⟨by decide, RX5, TX5, 6, tyX5, okC_5, by decide, tw_57, rfl, rfl, rfl⟩
theorem pF_RX6_14 : am_pF RX6 14 6 0 (.object "SandRipples$World") := ⟨by decide, RX6, TX6, 14, tyX6, okC_6, by decide, tw_189, rfl, rfl, rfl⟩
theorem pF_RX6_18 : am_pF RX6 18 6 1 (.object "SandRipples$World") := ⟨by decide, RX6, TX6, 14, tyX6, okC_6, by decide, tw_190, rfl, rfl, rfl⟩
theorem pF_RX6_25 : am_pF RX6 25 6 3 (.object "SandRipples$World") := ⟨by decide, RX6, TX6, 14, tyX6, okC_6, by decide, tw_192, rfl, rfl, rfl⟩
theorem pF_RX6_28 : am_pF RX6 28 6 4 (.array .int) := ⟨by decide, RX6, TX6, 14, tyX6, okC_6, by decide, tw_193, rfl, rfl, rfl⟩
theorem pF_RX6_34 : am_pF RX6 34 6 5 (.array (.object "SandRipples$Text")) := ⟨by decide, RX6, TX6, 14, tyX6, okC_6, by decide, tw_194, rfl, rfl, rfl⟩
theorem pF_RX6_41 : am_pF RX6 41 6 6 (.object "SandRipples$Reader") := ⟨by decide, RX6, TX6, 14, tyX6, okC_6, by decide, tw_195, rfl, rfl, rfl⟩
theorem pF_RX6_45 : am_pF RX6 45 6 7 (.array .int) := ⟨by decide, RX6, TX6, 14, tyX6, okC_6, by decide, tw_196, rfl, rfl, rfl⟩
theorem pF_RX6_48 : am_pF RX6 48 6 8 (.array .int) := ⟨by decide, RX6, TX6, 14, tyX6, okC_6, by decide, tw_197, rfl, rfl, rfl⟩
theorem pF_RX6_57 : am_pF RX6 57 6 10 (.array (.object "SandRipples$Sheet")) := ⟨by decide, RX6, TX6, 14, tyX6, okC_6, by decide, tw_199, rfl, rfl, rfl⟩
theorem pF_RX6_63 : am_pF RX6 63 6 11 (.array (.object "SandRipples$Slot")) := ⟨by decide, RX6, TX6, 14, tyX6, okC_6, by decide, tw_200, rfl, rfl, rfl⟩
theorem pF_RX6_67 : am_pF RX6 67 6 12 (.array .int) := ⟨by decide, RX6, TX6, 14, tyX6, okC_6, by decide, tw_201, rfl, rfl, rfl⟩
theorem pF_RX7_13 : am_pF RX7 13 7 1 (.array .int) := ⟨by decide, RX7, TX7, 34, tyX7, okC_7, by decide, tw_822, rfl, rfl, rfl⟩
theorem pF_RX7_16 : am_pF RX7 16 7 2 (.array .int) := ⟨by decide, RX7, TX7, 34, tyX7, okC_7, by decide, tw_823, rfl, rfl, rfl⟩
theorem pF_RX7_19 : am_pF RX7 19 7 4 (.array .int) := ⟨by decide, RX7, TX7, 34, tyX7, okC_7, by decide, tw_825, rfl, rfl, rfl⟩
theorem pF_RX7_22 : am_pF RX7 22 7 5 (.array .int) := ⟨by decide, RX7, TX7, 34, tyX7, okC_7, by decide, tw_826, rfl, rfl, rfl⟩
theorem pF_RX7_25 : am_pF RX7 25 7 6 (.array .int) := ⟨by decide, RX7, TX7, 34, tyX7, okC_7, by decide, tw_827, rfl, rfl, rfl⟩
theorem pF_RX7_28 : am_pF RX7 28 7 14 (.array .char) := ⟨by decide, RX7, TX7, 34, tyX7, okC_7, by decide, tw_835, rfl, rfl, rfl⟩
theorem pF_RX7_32 : am_pF RX7 32 7 15 (.array .int) := ⟨by decide, RX7, TX7, 34, tyX7, okC_7, by decide, tw_836, rfl, rfl, rfl⟩
theorem pF_RX7_35 : am_pF RX7 35 7 16 (.array .int) := ⟨by decide, RX7, TX7, 34, tyX7, okC_7, by decide, tw_837, rfl, rfl, rfl⟩
theorem pF_RX7_38 : am_pF RX7 38 7 19 (.array .int) := ⟨by decide, RX7, TX7, 34, tyX7, okC_7, by decide, tw_840, rfl, rfl, rfl⟩
theorem pF_RX7_41 : am_pF RX7 41 7 21 (.array .boolean) := ⟨by decide, RX7, TX7, 34, tyX7, okC_7, by decide, tw_842, rfl, rfl, rfl⟩
theorem pF_RX7_45 : am_pF RX7 45 7 22 (.array .int) := ⟨by decide, RX7, TX7, 34, tyX7, okC_7, by decide, tw_843, rfl, rfl, rfl⟩
theorem pF_RX7_48 : am_pF RX7 48 7 23 (.array .int) := ⟨by decide, RX7, TX7, 34, tyX7, okC_7, by decide, tw_844, rfl, rfl, rfl⟩
theorem pF_RX7_51 : am_pF RX7 51 7 24 (.array .int) := ⟨by decide, RX7, TX7, 34, tyX7, okC_7, by decide, tw_845, rfl, rfl, rfl⟩
theorem pF_RX7_54 : am_pF RX7 54 7 25 (.array .int) := ⟨by decide, RX7, TX7, 34, tyX7, okC_7, by decide, tw_846, rfl, rfl, rfl⟩
theorem pF_RX7_57 : am_pF RX7 57 7 26 (.array .int) := ⟨by decide, RX7, TX7, 34, tyX7, okC_7, by decide, tw_847, rfl, rfl, rfl⟩
theorem pF_RX7_60 : am_pF RX7 60 7 27 (.array .int) := ⟨by decide, RX7, TX7, 34, tyX7, okC_7, by decide, tw_848, rfl, rfl, rfl⟩
theorem pF_RX7_63 : am_pF RX7 63 7 28 (.array .int) := ⟨by decide, RX7, TX7, 34, tyX7, okC_7, by decide, tw_849, rfl, rfl, rfl⟩
theorem pF_RX7_66 : am_pF RX7 66 7 29 (.array .int) := ⟨by decide, RX7, TX7, 34, tyX7, okC_7, by decide, tw_850, rfl, rfl, rfl⟩
theorem pF_RX7_69 : am_pF RX7 69 7 30 (.array .int) := ⟨by decide, RX7, TX7, 34, tyX7, okC_7, by decide, tw_851, rfl, rfl, rfl⟩
theorem pF_RX7_72 : am_pF RX7 72 7 31 (.array .int) := ⟨by decide, RX7, TX7, 34, tyX7, okC_7, by decide, tw_852, rfl, rfl, rfl⟩
theorem pF_RX7_75 : am_pF RX7 75 7 32 (.array .int) := ⟨by decide, RX7, TX7, 34, tyX7, okC_7, by decide, tw_853, rfl, rfl, rfl⟩
theorem pF_RX7_9 : am_pF RX7 9 7 0 (.array .int) := ⟨by decide, RX7, TX7, 34, tyX7, okC_7, by decide, tw_821, rfl, rfl, rfl⟩
theorem pf_RX3_29 : am_pf RX3 29 3 3 (.int) := ⟨by decide, RX3, TX3, 4, tyX3, okC_3, by decide, Or.inl tw_178, rfl, rfl⟩
theorem pf_RX3_9 : am_pf RX3 9 3 0 (.int) := ⟨by decide, RX3, TX3, 4, tyX3, okC_3, by decide, Or.inl tw_172, rfl, rfl⟩
theorem hb_0 : ∀ j, j < 3 → (match rfb0 j with | none => defaultValue (tyX0 j) = .int 0 | some q => q = none ∧ defaultValue (tyX0 j) = .null) := by
  intro j hj
  rcases (show j = 0 ∨ j = 1 ∨ j = 2 by omega) with rfl | rfl | rfl <;> first | rfl | exact ⟨rfl, rfl⟩
theorem hb_1 : ∀ j, j < 9 → (match rfb1 j with | none => defaultValue (tyX1 j) = .int 0 | some q => q = none ∧ defaultValue (tyX1 j) = .null) := by
  intro j hj
  rcases (show j = 0 ∨ j = 1 ∨ j = 2 ∨ j = 3 ∨ j = 4 ∨ j = 5 ∨ j = 6 ∨ j = 7 ∨ j = 8 by omega) with rfl | rfl | rfl | rfl | rfl | rfl | rfl | rfl | rfl <;> first | rfl | exact ⟨rfl, rfl⟩
theorem hb_2 : ∀ j, j < 3 → (match rfb2 j with | none => defaultValue (tyX2 j) = .int 0 | some q => q = none ∧ defaultValue (tyX2 j) = .null) := by
  intro j hj
  rcases (show j = 0 ∨ j = 1 ∨ j = 2 by omega) with rfl | rfl | rfl <;> first | rfl | exact ⟨rfl, rfl⟩
theorem hb_3 : ∀ j, j < 4 → (match rfb3 j with | none => defaultValue (tyX3 j) = .int 0 | some q => q = none ∧ defaultValue (tyX3 j) = .null) := by
  intro j hj
  rcases (show j = 0 ∨ j = 1 ∨ j = 2 ∨ j = 3 by omega) with rfl | rfl | rfl | rfl <;> first | rfl | exact ⟨rfl, rfl⟩
theorem hb_4 : ∀ j, j < 4 → (match rfb4 j with | none => defaultValue (tyX4 j) = .int 0 | some q => q = none ∧ defaultValue (tyX4 j) = .null) := by
  intro j hj
  rcases (show j = 0 ∨ j = 1 ∨ j = 2 ∨ j = 3 by omega) with rfl | rfl | rfl | rfl <;> first | rfl | exact ⟨rfl, rfl⟩
theorem hb_5 : ∀ j, j < 6 → (match rfb5 j with | none => defaultValue (tyX5 j) = .int 0 | some q => q = none ∧ defaultValue (tyX5 j) = .null) := by
  intro j hj
  rcases (show j = 0 ∨ j = 1 ∨ j = 2 ∨ j = 3 ∨ j = 4 ∨ j = 5 by omega) with rfl | rfl | rfl | rfl | rfl | rfl <;> first | rfl | exact ⟨rfl, rfl⟩
theorem hb_6 : ∀ j, j < 14 → (match rfb6 j with | none => defaultValue (tyX6 j) = .int 0 | some q => q = none ∧ defaultValue (tyX6 j) = .null) := by
  intro j hj
  rcases (show j = 0 ∨ j = 1 ∨ j = 2 ∨ j = 3 ∨ j = 4 ∨ j = 5 ∨ j = 6 ∨ j = 7 ∨ j = 8 ∨ j = 9 ∨ j = 10 ∨ j = 11 ∨ j = 12 ∨ j = 13 by omega) with rfl | rfl | rfl | rfl | rfl | rfl | rfl | rfl | rfl | rfl | rfl | rfl | rfl | rfl <;> first | rfl | exact ⟨rfl, rfl⟩
theorem hb_7 : ∀ j, j < 34 → (match rfb7 j with | none => defaultValue (tyX7 j) = .int 0 | some q => q = none ∧ defaultValue (tyX7 j) = .null) := by
  intro j hj
  rcases (show j = 0 ∨ j = 1 ∨ j = 2 ∨ j = 3 ∨ j = 4 ∨ j = 5 ∨ j = 6 ∨ j = 7 ∨ j = 8 ∨ j = 9 ∨ j = 10 ∨ j = 11 ∨ j = 12 ∨ j = 13 ∨ j = 14 ∨ j = 15 ∨ j = 16 ∨ j = 17 ∨ j = 18 ∨ j = 19 ∨ j = 20 ∨ j = 21 ∨ j = 22 ∨ j = 23 ∨ j = 24 ∨ j = 25 ∨ j = 26 ∨ j = 27 ∨ j = 28 ∨ j = 29 ∨ j = 30 ∨ j = 31 ∨ j = 32 ∨ j = 33 by omega) with rfl | rfl | rfl | rfl | rfl | rfl | rfl | rfl | rfl | rfl | rfl | rfl | rfl | rfl | rfl | rfl | rfl | rfl | rfl | rfl | rfl | rfl | rfl | rfl | rfl | rfl | rfl | rfl | rfl | rfl | rfl | rfl | rfl | rfl <;> first | rfl | exact ⟨rfl, rfl⟩
theorem cg_max_6 {X : Nat × (Nat → Int32)} (h : am_H) : am_Cn X M_J9_max_7cf53 [.int (6 : Int32), .int (0 : Int32)] h (h, some (.int (6 : Int32))) := by
  refine am_Cn.of ok_J9_max_7cf53 (Nat.le_refl _) (Nat.le_refl _) (Nat.le_of_ble_eq_true rfl) ?_
  show am_Ev X M_J9_max_7cf53 0 [(0, .int (6 : Int32)), (1, .int (0 : Int32))] [] h _
  refine ev_iload_n dJ9_max_7cf53_0 0 rfl ?_
  refine ev_iload_n dJ9_max_7cf53_1 1 rfl ?_
  refine ev_icmp_lt 9 dJ9_max_7cf53_2 (by decide) (fun c => absurd c (by decide)) (fun _ => ?_)
  refine ev_iload_n dJ9_max_7cf53_5 0 rfl ?_
  refine ev_goto 10 dJ9_max_7cf53_6 (by decide) ?_
  exact ev_iret dJ9_max_7cf53_10 rfl rfl
theorem cg_max_1 {X : Nat × (Nat → Int32)} (h : am_H) : am_Cn X M_J9_max_7cf53 [.int (1 : Int32), .int (0 : Int32)] h (h, some (.int (1 : Int32))) := by
  refine am_Cn.of ok_J9_max_7cf53 (Nat.le_refl _) (Nat.le_refl _) (Nat.le_of_ble_eq_true rfl) ?_
  show am_Ev X M_J9_max_7cf53 0 [(0, .int (1 : Int32)), (1, .int (0 : Int32))] [] h _
  refine ev_iload_n dJ9_max_7cf53_0 0 rfl ?_
  refine ev_iload_n dJ9_max_7cf53_1 1 rfl ?_
  refine ev_icmp_lt 9 dJ9_max_7cf53_2 (by decide) (fun c => absurd c (by decide)) (fun _ => ?_)
  refine ev_iload_n dJ9_max_7cf53_5 0 rfl ?_
  refine ev_goto 10 dJ9_max_7cf53_6 (by decide) ?_
  exact ev_iret dJ9_max_7cf53_10 rfl rfl
def qs_X0_init_0 (a : Nat) : List am_K := [((0, 3, rfb0), (fun _ => 0))]
def qs_X0_init_1 (a : Nat) : List am_K := [((0, 3, rfb0), (fun _ => 0)), ((100, 24, (fun _ => none)), (fun _ => 0))]
def qs_X0_init_2 (a : Nat) : List am_K := [((0, 3, (am_rs rfb0 0 (a + 1))), (fun _ => 0)), ((100, 24, (fun _ => none)), (fun _ => 0))]
def qs_X0_init_3 (a : Nat) : List am_K := [((0, 3, (am_rs rfb0 0 (a + 1))), (upd (fun _ => 0) 1 (0 : Int32))), ((100, 24, (fun _ => none)), (fun _ => 0))]
def qs_X0_init_4 (a : Nat) : List am_K := [((0, 3, (am_rs rfb0 0 (a + 1))), (upd (upd (fun _ => 0) 1 (0 : Int32)) 2 (0 : Int32))), ((100, 24, (fun _ => none)), (fun _ => 0))]
def qX0_init (a : Nat) : List am_K := [
  ((0, 3, (am_rs rfb0 0 (a + 1))), (upd (upd (fun _ => 0) 1 (0 : Int32)) 2 (0 : Int32))),
  ((100, 24, (fun _ => none)), (fun _ => 0))]
theorem qX0_init_len (a : Nat) : (qX0_init a).length = 2 := rfl
theorem qX0_init_qs (a : Nat) : am_qs (qX0_init a) = 27 := by simp [qX0_init, am_qs]
set_option maxRecDepth 20000 in
set_option maxHeartbeats 4000000 in
theorem ec_X0_init {X : Nat × (Nat → Int32)} (P : List am_K) : am_Ev X M_X0_init 0 [(0, .ref (P.length + 0))] [] (hl (P ++ [((0, 3, rfb0), (fun _ => 0))])) (hl (P ++ qX0_init P.length), none) := by
  have hq : ([((0, 3, rfb0), (fun _ => 0))] : List am_K).length = 1 := rfl
  have hs : am_qs [((0, 3, rfb0), (fun _ => 0))] = 3 := rfl
  have hf := qX0_init_len P.length
  have hg := qX0_init_qs P.length
  refine ev_aload_n dX0_init_0 0 rfl trivial ?_
  refine ev_objInit dX0_init_1 tw_41 w_oi w_oc (by decide) (Nat.le_of_ble_eq_true rfl) ?_
  refine ev_aload_n dX0_init_4 0 rfl trivial ?_
  refine ev_bipush (v := (24 : Int32)) dX0_init_5 kB_24 ?_
  refine cx_newa0 24 dX0_init_7 w_ac0 (by decide) (by decide) (by decide) 2 27 hq hs hf hg rfl rfl (by decide) (by decide) (fun hq hs => ?_)
  refine cx_nm (Q' := qs_X0_init_1 P.length) rfl (fun hq hs => ?_) hq hs
  refine cx_putFR (a := 0) (b := P.length + 1) dX0_init_9 pF_RX0_9 rfl rfl (by decide) (fun _ => rfl) (fun _ => rfl) hq hs (fun hq hs => ?_)
  refine cx_nm (Q' := qs_X0_init_2 P.length) rfl (fun hq hs => ?_) hq hs
  refine ev_aload_n dX0_init_12 0 rfl trivial ?_
  refine ev_iconst (v := (0 : Int32)) dX0_init_13 kI_0 ?_
  refine cx_putI (a := 0) dX0_init_14 pf_RX0_15 rfl (by decide) rfl rfl rfl hq hs (fun hq hs => ?_)
  refine cx_nm (Q' := qs_X0_init_3 P.length) rfl (fun hq hs => ?_) hq hs
  refine ev_aload_n dX0_init_17 0 rfl trivial ?_
  refine ev_iconst (v := (0 : Int32)) dX0_init_18 kI_0 ?_
  refine cx_putI (a := 0) dX0_init_19 pf_RX0_19 rfl (by decide) rfl rfl rfl hq hs (fun hq hs => ?_)
  refine cx_nm (Q' := qs_X0_init_4 P.length) rfl (fun hq hs => ?_) hq hs
  exact ev_vret dX0_init_22 rfl
theorem cc_X0_init {X : Nat × (Nat → Int32)} (P : List am_K) : am_Cn X M_X0_init [.ref P.length] (hl (P ++ [((0, 3, rfb0), (fun _ => 0))])) (hl (P ++ qX0_init P.length), none) := am_Cn.of ok_X0_init (cx_le P (by rw [qX0_init_len]; decide)) (cx_le2 P (by rw [qX0_init_qs]; exact Nat.le_of_ble_eq_true rfl)) (Nat.le_of_ble_eq_true rfl) (ec_X0_init P)
def qs_X5_init_6_0 (a : Nat) : List am_K := [((5, 6, rfb5), (fun _ => 0))]
def qs_X5_init_6_1 (a : Nat) : List am_K := [((5, 6, rfb5), (upd (fun _ => 0) 1 (0 : Int32)))]
def qs_X5_init_6_2 (a : Nat) : List am_K := [((5, 6, rfb5), (upd (fun _ => 0) 1 (0 : Int32))), ((100, 4, (fun _ => none)), (fun _ => 0))]
def qs_X5_init_6_3 (a : Nat) : List am_K := [((5, 6, rfb5), (upd (fun _ => 0) 1 (0 : Int32))), ((100, 4, (fun _ => none)), (upd (fun _ => 0) 0 (3 : Int32)))]
def qs_X5_init_6_4 (a : Nat) : List am_K := [((5, 6, rfb5), (upd (fun _ => 0) 1 (0 : Int32))), ((100, 4, (fun _ => none)), (upd (upd (fun _ => 0) 0 (3 : Int32)) 1 (2 : Int32)))]
def qs_X5_init_6_5 (a : Nat) : List am_K := [((5, 6, rfb5), (upd (fun _ => 0) 1 (0 : Int32))), ((100, 4, (fun _ => none)), (upd (upd (upd (fun _ => 0) 0 (3 : Int32)) 1 (2 : Int32)) 2 (5 : Int32)))]
def qs_X5_init_6_6 (a : Nat) : List am_K := [((5, 6, rfb5), (upd (fun _ => 0) 1 (0 : Int32))), ((100, 4, (fun _ => none)), (upd (upd (upd (upd (fun _ => 0) 0 (3 : Int32)) 1 (2 : Int32)) 2 (5 : Int32)) 3 (4 : Int32)))]
def qs_X5_init_6_7 (a : Nat) : List am_K := [((5, 6, (am_rs rfb5 2 (a + 1))), (upd (fun _ => 0) 1 (0 : Int32))), ((100, 4, (fun _ => none)), (upd (upd (upd (upd (fun _ => 0) 0 (3 : Int32)) 1 (2 : Int32)) 2 (5 : Int32)) 3 (4 : Int32)))]
def qs_X5_init_6_8 (a : Nat) : List am_K := [((5, 6, (am_rs rfb5 2 (a + 1))), (upd (upd (fun _ => 0) 1 (0 : Int32)) 3 (1 : Int32))), ((100, 4, (fun _ => none)), (upd (upd (upd (upd (fun _ => 0) 0 (3 : Int32)) 1 (2 : Int32)) 2 (5 : Int32)) 3 (4 : Int32)))]
def qs_X5_init_6_9 (a : Nat) : List am_K := [((5, 6, (am_rs rfb5 2 (a + 1))), (upd (upd (upd (fun _ => 0) 1 (0 : Int32)) 3 (1 : Int32)) 4 (0 : Int32))), ((100, 4, (fun _ => none)), (upd (upd (upd (upd (fun _ => 0) 0 (3 : Int32)) 1 (2 : Int32)) 2 (5 : Int32)) 3 (4 : Int32)))]
def qs_X5_init_6_10 (a : Nat) : List am_K := [((5, 6, (am_rs rfb5 2 (a + 1))), (upd (upd (upd (fun _ => 0) 1 (0 : Int32)) 3 (1 : Int32)) 4 (0 : Int32))), ((100, 4, (fun _ => none)), (upd (upd (upd (upd (fun _ => 0) 0 (3 : Int32)) 1 (2 : Int32)) 2 (5 : Int32)) 3 (4 : Int32))), ((100, 3, (fun _ => none)), (fun _ => 0))]
def qs_X5_init_6_11 (a : Nat) : List am_K := [((5, 6, (am_rs rfb5 2 (a + 1))), (upd (upd (upd (fun _ => 0) 1 (0 : Int32)) 3 (1 : Int32)) 4 (0 : Int32))), ((100, 4, (fun _ => none)), (upd (upd (upd (upd (fun _ => 0) 0 (3 : Int32)) 1 (2 : Int32)) 2 (5 : Int32)) 3 (4 : Int32))), ((100, 3, (fun _ => none)), (upd (fun _ => 0) 0 ((-1000000005) : Int32)))]
def qs_X5_init_6_12 (a : Nat) : List am_K := [((5, 6, (am_rs rfb5 2 (a + 1))), (upd (upd (upd (fun _ => 0) 1 (0 : Int32)) 3 (1 : Int32)) 4 (0 : Int32))), ((100, 4, (fun _ => none)), (upd (upd (upd (upd (fun _ => 0) 0 (3 : Int32)) 1 (2 : Int32)) 2 (5 : Int32)) 3 (4 : Int32))), ((100, 3, (fun _ => none)), (upd (upd (fun _ => 0) 0 ((-1000000005) : Int32)) 1 ((-1000000005) : Int32)))]
def qs_X5_init_6_13 (a : Nat) : List am_K := [((5, 6, (am_rs rfb5 2 (a + 1))), (upd (upd (upd (fun _ => 0) 1 (0 : Int32)) 3 (1 : Int32)) 4 (0 : Int32))), ((100, 4, (fun _ => none)), (upd (upd (upd (upd (fun _ => 0) 0 (3 : Int32)) 1 (2 : Int32)) 2 (5 : Int32)) 3 (4 : Int32))), ((100, 3, (fun _ => none)), (upd (upd (upd (fun _ => 0) 0 ((-1000000005) : Int32)) 1 ((-1000000005) : Int32)) 2 ((-1000000005) : Int32)))]
def qs_X5_init_6_14 (a : Nat) : List am_K := [((5, 6, (am_rs (am_rs rfb5 2 (a + 1)) 5 (a + 2))), (upd (upd (upd (fun _ => 0) 1 (0 : Int32)) 3 (1 : Int32)) 4 (0 : Int32))), ((100, 4, (fun _ => none)), (upd (upd (upd (upd (fun _ => 0) 0 (3 : Int32)) 1 (2 : Int32)) 2 (5 : Int32)) 3 (4 : Int32))), ((100, 3, (fun _ => none)), (upd (upd (upd (fun _ => 0) 0 ((-1000000005) : Int32)) 1 ((-1000000005) : Int32)) 2 ((-1000000005) : Int32)))]
def qs_X5_init_6_15 (a : Nat) : List am_K := [((5, 6, (am_rs (am_rs rfb5 2 (a + 1)) 5 (a + 2))), (upd (upd (upd (fun _ => 0) 1 (0 : Int32)) 3 (1 : Int32)) 4 (0 : Int32))), ((100, 4, (fun _ => none)), (upd (upd (upd (upd (fun _ => 0) 0 (3 : Int32)) 1 (2 : Int32)) 2 (5 : Int32)) 3 (4 : Int32))), ((100, 3, (fun _ => none)), (upd (upd (upd (fun _ => 0) 0 ((-1000000005) : Int32)) 1 ((-1000000005) : Int32)) 2 ((-1000000005) : Int32))), ((103, 6, (fun _ => some none)), (fun _ => 0))]
def qs_X5_init_6_16 (a : Nat) : List am_K := [((5, 6, (am_rs (am_rs (am_rs rfb5 2 (a + 1)) 5 (a + 2)) 0 (a + 3))), (upd (upd (upd (fun _ => 0) 1 (0 : Int32)) 3 (1 : Int32)) 4 (0 : Int32))), ((100, 4, (fun _ => none)), (upd (upd (upd (upd (fun _ => 0) 0 (3 : Int32)) 1 (2 : Int32)) 2 (5 : Int32)) 3 (4 : Int32))), ((100, 3, (fun _ => none)), (upd (upd (upd (fun _ => 0) 0 ((-1000000005) : Int32)) 1 ((-1000000005) : Int32)) 2 ((-1000000005) : Int32))), ((103, 6, (fun _ => some none)), (fun _ => 0))]
def qs_X5_init_6_17 (a : Nat) : List am_K := [((5, 6, (am_rs (am_rs (am_rs rfb5 2 (a + 1)) 5 (a + 2)) 0 (a + 3))), (upd (upd (upd (fun _ => 0) 1 (0 : Int32)) 3 (1 : Int32)) 4 (0 : Int32))), ((100, 4, (fun _ => none)), (upd (upd (upd (upd (fun _ => 0) 0 (3 : Int32)) 1 (2 : Int32)) 2 (5 : Int32)) 3 (4 : Int32))), ((100, 3, (fun _ => none)), (upd (upd (upd (fun _ => 0) 0 ((-1000000005) : Int32)) 1 ((-1000000005) : Int32)) 2 ((-1000000005) : Int32))), ((103, 6, (fun _ => some none)), (fun _ => 0)), ((0, 3, rfb0), (fun _ => 0))]
def qs_X5_init_6_18 (a : Nat) : List am_K := [((5, 6, (am_rs (am_rs (am_rs rfb5 2 (a + 1)) 5 (a + 2)) 0 (a + 3))), (upd (upd (upd (fun _ => 0) 1 (0 : Int32)) 3 (1 : Int32)) 4 (0 : Int32))), ((100, 4, (fun _ => none)), (upd (upd (upd (upd (fun _ => 0) 0 (3 : Int32)) 1 (2 : Int32)) 2 (5 : Int32)) 3 (4 : Int32))), ((100, 3, (fun _ => none)), (upd (upd (upd (fun _ => 0) 0 ((-1000000005) : Int32)) 1 ((-1000000005) : Int32)) 2 ((-1000000005) : Int32))), ((103, 6, (fun _ => some none)), (fun _ => 0)), ((0, 3, (am_rs rfb0 0 (a + 5))), (upd (upd (fun _ => 0) 1 (0 : Int32)) 2 (0 : Int32))), ((100, 24, (fun _ => none)), (fun _ => 0))]
def qs_X5_init_6_19 (a : Nat) : List am_K := [((5, 6, (am_rs (am_rs (am_rs rfb5 2 (a + 1)) 5 (a + 2)) 0 (a + 3))), (upd (upd (upd (fun _ => 0) 1 (0 : Int32)) 3 (1 : Int32)) 4 (0 : Int32))), ((100, 4, (fun _ => none)), (upd (upd (upd (upd (fun _ => 0) 0 (3 : Int32)) 1 (2 : Int32)) 2 (5 : Int32)) 3 (4 : Int32))), ((100, 3, (fun _ => none)), (upd (upd (upd (fun _ => 0) 0 ((-1000000005) : Int32)) 1 ((-1000000005) : Int32)) 2 ((-1000000005) : Int32))), ((103, 6, (am_rs (fun _ => some none) 0 (a + 4))), (fun _ => 0)), ((0, 3, (am_rs rfb0 0 (a + 5))), (upd (upd (fun _ => 0) 1 (0 : Int32)) 2 (0 : Int32))), ((100, 24, (fun _ => none)), (fun _ => 0))]
def qs_X5_init_6_20 (a : Nat) : List am_K := [((5, 6, (am_rs (am_rs (am_rs rfb5 2 (a + 1)) 5 (a + 2)) 0 (a + 3))), (upd (upd (upd (fun _ => 0) 1 (0 : Int32)) 3 (1 : Int32)) 4 (0 : Int32))), ((100, 4, (fun _ => none)), (upd (upd (upd (upd (fun _ => 0) 0 (3 : Int32)) 1 (2 : Int32)) 2 (5 : Int32)) 3 (4 : Int32))), ((100, 3, (fun _ => none)), (upd (upd (upd (fun _ => 0) 0 ((-1000000005) : Int32)) 1 ((-1000000005) : Int32)) 2 ((-1000000005) : Int32))), ((103, 6, (am_rs (fun _ => some none) 0 (a + 4))), (fun _ => 0)), ((0, 3, (am_rs rfb0 0 (a + 5))), (upd (upd (fun _ => 0) 1 (0 : Int32)) 2 (0 : Int32))), ((100, 24, (fun _ => none)), (fun _ => 0)), ((0, 3, rfb0), (fun _ => 0))]
def qs_X5_init_6_21 (a : Nat) : List am_K := [((5, 6, (am_rs (am_rs (am_rs rfb5 2 (a + 1)) 5 (a + 2)) 0 (a + 3))), (upd (upd (upd (fun _ => 0) 1 (0 : Int32)) 3 (1 : Int32)) 4 (0 : Int32))), ((100, 4, (fun _ => none)), (upd (upd (upd (upd (fun _ => 0) 0 (3 : Int32)) 1 (2 : Int32)) 2 (5 : Int32)) 3 (4 : Int32))), ((100, 3, (fun _ => none)), (upd (upd (upd (fun _ => 0) 0 ((-1000000005) : Int32)) 1 ((-1000000005) : Int32)) 2 ((-1000000005) : Int32))), ((103, 6, (am_rs (fun _ => some none) 0 (a + 4))), (fun _ => 0)), ((0, 3, (am_rs rfb0 0 (a + 5))), (upd (upd (fun _ => 0) 1 (0 : Int32)) 2 (0 : Int32))), ((100, 24, (fun _ => none)), (fun _ => 0)), ((0, 3, (am_rs rfb0 0 (a + 7))), (upd (upd (fun _ => 0) 1 (0 : Int32)) 2 (0 : Int32))), ((100, 24, (fun _ => none)), (fun _ => 0))]
def qs_X5_init_6_22 (a : Nat) : List am_K := [((5, 6, (am_rs (am_rs (am_rs rfb5 2 (a + 1)) 5 (a + 2)) 0 (a + 3))), (upd (upd (upd (fun _ => 0) 1 (0 : Int32)) 3 (1 : Int32)) 4 (0 : Int32))), ((100, 4, (fun _ => none)), (upd (upd (upd (upd (fun _ => 0) 0 (3 : Int32)) 1 (2 : Int32)) 2 (5 : Int32)) 3 (4 : Int32))), ((100, 3, (fun _ => none)), (upd (upd (upd (fun _ => 0) 0 ((-1000000005) : Int32)) 1 ((-1000000005) : Int32)) 2 ((-1000000005) : Int32))), ((103, 6, (am_rs (am_rs (fun _ => some none) 0 (a + 4)) 1 (a + 6))), (fun _ => 0)), ((0, 3, (am_rs rfb0 0 (a + 5))), (upd (upd (fun _ => 0) 1 (0 : Int32)) 2 (0 : Int32))), ((100, 24, (fun _ => none)), (fun _ => 0)), ((0, 3, (am_rs rfb0 0 (a + 7))), (upd (upd (fun _ => 0) 1 (0 : Int32)) 2 (0 : Int32))), ((100, 24, (fun _ => none)), (fun _ => 0))]
def qs_X5_init_6_23 (a : Nat) : List am_K := [((5, 6, (am_rs (am_rs (am_rs rfb5 2 (a + 1)) 5 (a + 2)) 0 (a + 3))), (upd (upd (upd (fun _ => 0) 1 (0 : Int32)) 3 (1 : Int32)) 4 (0 : Int32))), ((100, 4, (fun _ => none)), (upd (upd (upd (upd (fun _ => 0) 0 (3 : Int32)) 1 (2 : Int32)) 2 (5 : Int32)) 3 (4 : Int32))), ((100, 3, (fun _ => none)), (upd (upd (upd (fun _ => 0) 0 ((-1000000005) : Int32)) 1 ((-1000000005) : Int32)) 2 ((-1000000005) : Int32))), ((103, 6, (am_rs (am_rs (fun _ => some none) 0 (a + 4)) 1 (a + 6))), (fun _ => 0)), ((0, 3, (am_rs rfb0 0 (a + 5))), (upd (upd (fun _ => 0) 1 (0 : Int32)) 2 (0 : Int32))), ((100, 24, (fun _ => none)), (fun _ => 0)), ((0, 3, (am_rs rfb0 0 (a + 7))), (upd (upd (fun _ => 0) 1 (0 : Int32)) 2 (0 : Int32))), ((100, 24, (fun _ => none)), (fun _ => 0)), ((0, 3, rfb0), (fun _ => 0))]
def qs_X5_init_6_24 (a : Nat) : List am_K := [((5, 6, (am_rs (am_rs (am_rs rfb5 2 (a + 1)) 5 (a + 2)) 0 (a + 3))), (upd (upd (upd (fun _ => 0) 1 (0 : Int32)) 3 (1 : Int32)) 4 (0 : Int32))), ((100, 4, (fun _ => none)), (upd (upd (upd (upd (fun _ => 0) 0 (3 : Int32)) 1 (2 : Int32)) 2 (5 : Int32)) 3 (4 : Int32))), ((100, 3, (fun _ => none)), (upd (upd (upd (fun _ => 0) 0 ((-1000000005) : Int32)) 1 ((-1000000005) : Int32)) 2 ((-1000000005) : Int32))), ((103, 6, (am_rs (am_rs (fun _ => some none) 0 (a + 4)) 1 (a + 6))), (fun _ => 0)), ((0, 3, (am_rs rfb0 0 (a + 5))), (upd (upd (fun _ => 0) 1 (0 : Int32)) 2 (0 : Int32))), ((100, 24, (fun _ => none)), (fun _ => 0)), ((0, 3, (am_rs rfb0 0 (a + 7))), (upd (upd (fun _ => 0) 1 (0 : Int32)) 2 (0 : Int32))), ((100, 24, (fun _ => none)), (fun _ => 0)), ((0, 3, (am_rs rfb0 0 (a + 9))), (upd (upd (fun _ => 0) 1 (0 : Int32)) 2 (0 : Int32))), ((100, 24, (fun _ => none)), (fun _ => 0))]
def qs_X5_init_6_25 (a : Nat) : List am_K := [((5, 6, (am_rs (am_rs (am_rs rfb5 2 (a + 1)) 5 (a + 2)) 0 (a + 3))), (upd (upd (upd (fun _ => 0) 1 (0 : Int32)) 3 (1 : Int32)) 4 (0 : Int32))), ((100, 4, (fun _ => none)), (upd (upd (upd (upd (fun _ => 0) 0 (3 : Int32)) 1 (2 : Int32)) 2 (5 : Int32)) 3 (4 : Int32))), ((100, 3, (fun _ => none)), (upd (upd (upd (fun _ => 0) 0 ((-1000000005) : Int32)) 1 ((-1000000005) : Int32)) 2 ((-1000000005) : Int32))), ((103, 6, (am_rs (am_rs (am_rs (fun _ => some none) 0 (a + 4)) 1 (a + 6)) 2 (a + 8))), (fun _ => 0)), ((0, 3, (am_rs rfb0 0 (a + 5))), (upd (upd (fun _ => 0) 1 (0 : Int32)) 2 (0 : Int32))), ((100, 24, (fun _ => none)), (fun _ => 0)), ((0, 3, (am_rs rfb0 0 (a + 7))), (upd (upd (fun _ => 0) 1 (0 : Int32)) 2 (0 : Int32))), ((100, 24, (fun _ => none)), (fun _ => 0)), ((0, 3, (am_rs rfb0 0 (a + 9))), (upd (upd (fun _ => 0) 1 (0 : Int32)) 2 (0 : Int32))), ((100, 24, (fun _ => none)), (fun _ => 0))]
def qs_X5_init_6_26 (a : Nat) : List am_K := [((5, 6, (am_rs (am_rs (am_rs rfb5 2 (a + 1)) 5 (a + 2)) 0 (a + 3))), (upd (upd (upd (fun _ => 0) 1 (0 : Int32)) 3 (1 : Int32)) 4 (0 : Int32))), ((100, 4, (fun _ => none)), (upd (upd (upd (upd (fun _ => 0) 0 (3 : Int32)) 1 (2 : Int32)) 2 (5 : Int32)) 3 (4 : Int32))), ((100, 3, (fun _ => none)), (upd (upd (upd (fun _ => 0) 0 ((-1000000005) : Int32)) 1 ((-1000000005) : Int32)) 2 ((-1000000005) : Int32))), ((103, 6, (am_rs (am_rs (am_rs (fun _ => some none) 0 (a + 4)) 1 (a + 6)) 2 (a + 8))), (fun _ => 0)), ((0, 3, (am_rs rfb0 0 (a + 5))), (upd (upd (fun _ => 0) 1 (0 : Int32)) 2 (0 : Int32))), ((100, 24, (fun _ => none)), (fun _ => 0)), ((0, 3, (am_rs rfb0 0 (a + 7))), (upd (upd (fun _ => 0) 1 (0 : Int32)) 2 (0 : Int32))), ((100, 24, (fun _ => none)), (fun _ => 0)), ((0, 3, (am_rs rfb0 0 (a + 9))), (upd (upd (fun _ => 0) 1 (0 : Int32)) 2 (0 : Int32))), ((100, 24, (fun _ => none)), (fun _ => 0)), ((0, 3, rfb0), (fun _ => 0))]
def qs_X5_init_6_27 (a : Nat) : List am_K := [((5, 6, (am_rs (am_rs (am_rs rfb5 2 (a + 1)) 5 (a + 2)) 0 (a + 3))), (upd (upd (upd (fun _ => 0) 1 (0 : Int32)) 3 (1 : Int32)) 4 (0 : Int32))), ((100, 4, (fun _ => none)), (upd (upd (upd (upd (fun _ => 0) 0 (3 : Int32)) 1 (2 : Int32)) 2 (5 : Int32)) 3 (4 : Int32))), ((100, 3, (fun _ => none)), (upd (upd (upd (fun _ => 0) 0 ((-1000000005) : Int32)) 1 ((-1000000005) : Int32)) 2 ((-1000000005) : Int32))), ((103, 6, (am_rs (am_rs (am_rs (fun _ => some none) 0 (a + 4)) 1 (a + 6)) 2 (a + 8))), (fun _ => 0)), ((0, 3, (am_rs rfb0 0 (a + 5))), (upd (upd (fun _ => 0) 1 (0 : Int32)) 2 (0 : Int32))), ((100, 24, (fun _ => none)), (fun _ => 0)), ((0, 3, (am_rs rfb0 0 (a + 7))), (upd (upd (fun _ => 0) 1 (0 : Int32)) 2 (0 : Int32))), ((100, 24, (fun _ => none)), (fun _ => 0)), ((0, 3, (am_rs rfb0 0 (a + 9))), (upd (upd (fun _ => 0) 1 (0 : Int32)) 2 (0 : Int32))), ((100, 24, (fun _ => none)), (fun _ => 0)), ((0, 3, (am_rs rfb0 0 (a + 11))), (upd (upd (fun _ => 0) 1 (0 : Int32)) 2 (0 : Int32))), ((100, 24, (fun _ => none)), (fun _ => 0))]
def qs_X5_init_6_28 (a : Nat) : List am_K := [((5, 6, (am_rs (am_rs (am_rs rfb5 2 (a + 1)) 5 (a + 2)) 0 (a + 3))), (upd (upd (upd (fun _ => 0) 1 (0 : Int32)) 3 (1 : Int32)) 4 (0 : Int32))), ((100, 4, (fun _ => none)), (upd (upd (upd (upd (fun _ => 0) 0 (3 : Int32)) 1 (2 : Int32)) 2 (5 : Int32)) 3 (4 : Int32))), ((100, 3, (fun _ => none)), (upd (upd (upd (fun _ => 0) 0 ((-1000000005) : Int32)) 1 ((-1000000005) : Int32)) 2 ((-1000000005) : Int32))), ((103, 6, (am_rs (am_rs (am_rs (am_rs (fun _ => some none) 0 (a + 4)) 1 (a + 6)) 2 (a + 8)) 3 (a + 10))), (fun _ => 0)), ((0, 3, (am_rs rfb0 0 (a + 5))), (upd (upd (fun _ => 0) 1 (0 : Int32)) 2 (0 : Int32))), ((100, 24, (fun _ => none)), (fun _ => 0)), ((0, 3, (am_rs rfb0 0 (a + 7))), (upd (upd (fun _ => 0) 1 (0 : Int32)) 2 (0 : Int32))), ((100, 24, (fun _ => none)), (fun _ => 0)), ((0, 3, (am_rs rfb0 0 (a + 9))), (upd (upd (fun _ => 0) 1 (0 : Int32)) 2 (0 : Int32))), ((100, 24, (fun _ => none)), (fun _ => 0)), ((0, 3, (am_rs rfb0 0 (a + 11))), (upd (upd (fun _ => 0) 1 (0 : Int32)) 2 (0 : Int32))), ((100, 24, (fun _ => none)), (fun _ => 0))]
def qs_X5_init_6_29 (a : Nat) : List am_K := [((5, 6, (am_rs (am_rs (am_rs rfb5 2 (a + 1)) 5 (a + 2)) 0 (a + 3))), (upd (upd (upd (fun _ => 0) 1 (0 : Int32)) 3 (1 : Int32)) 4 (0 : Int32))), ((100, 4, (fun _ => none)), (upd (upd (upd (upd (fun _ => 0) 0 (3 : Int32)) 1 (2 : Int32)) 2 (5 : Int32)) 3 (4 : Int32))), ((100, 3, (fun _ => none)), (upd (upd (upd (fun _ => 0) 0 ((-1000000005) : Int32)) 1 ((-1000000005) : Int32)) 2 ((-1000000005) : Int32))), ((103, 6, (am_rs (am_rs (am_rs (am_rs (fun _ => some none) 0 (a + 4)) 1 (a + 6)) 2 (a + 8)) 3 (a + 10))), (fun _ => 0)), ((0, 3, (am_rs rfb0 0 (a + 5))), (upd (upd (fun _ => 0) 1 (0 : Int32)) 2 (0 : Int32))), ((100, 24, (fun _ => none)), (fun _ => 0)), ((0, 3, (am_rs rfb0 0 (a + 7))), (upd (upd (fun _ => 0) 1 (0 : Int32)) 2 (0 : Int32))), ((100, 24, (fun _ => none)), (fun _ => 0)), ((0, 3, (am_rs rfb0 0 (a + 9))), (upd (upd (fun _ => 0) 1 (0 : Int32)) 2 (0 : Int32))), ((100, 24, (fun _ => none)), (fun _ => 0)), ((0, 3, (am_rs rfb0 0 (a + 11))), (upd (upd (fun _ => 0) 1 (0 : Int32)) 2 (0 : Int32))), ((100, 24, (fun _ => none)), (fun _ => 0)), ((0, 3, rfb0), (fun _ => 0))]
def qs_X5_init_6_30 (a : Nat) : List am_K := [((5, 6, (am_rs (am_rs (am_rs rfb5 2 (a + 1)) 5 (a + 2)) 0 (a + 3))), (upd (upd (upd (fun _ => 0) 1 (0 : Int32)) 3 (1 : Int32)) 4 (0 : Int32))), ((100, 4, (fun _ => none)), (upd (upd (upd (upd (fun _ => 0) 0 (3 : Int32)) 1 (2 : Int32)) 2 (5 : Int32)) 3 (4 : Int32))), ((100, 3, (fun _ => none)), (upd (upd (upd (fun _ => 0) 0 ((-1000000005) : Int32)) 1 ((-1000000005) : Int32)) 2 ((-1000000005) : Int32))), ((103, 6, (am_rs (am_rs (am_rs (am_rs (fun _ => some none) 0 (a + 4)) 1 (a + 6)) 2 (a + 8)) 3 (a + 10))), (fun _ => 0)), ((0, 3, (am_rs rfb0 0 (a + 5))), (upd (upd (fun _ => 0) 1 (0 : Int32)) 2 (0 : Int32))), ((100, 24, (fun _ => none)), (fun _ => 0)), ((0, 3, (am_rs rfb0 0 (a + 7))), (upd (upd (fun _ => 0) 1 (0 : Int32)) 2 (0 : Int32))), ((100, 24, (fun _ => none)), (fun _ => 0)), ((0, 3, (am_rs rfb0 0 (a + 9))), (upd (upd (fun _ => 0) 1 (0 : Int32)) 2 (0 : Int32))), ((100, 24, (fun _ => none)), (fun _ => 0)), ((0, 3, (am_rs rfb0 0 (a + 11))), (upd (upd (fun _ => 0) 1 (0 : Int32)) 2 (0 : Int32))), ((100, 24, (fun _ => none)), (fun _ => 0)), ((0, 3, (am_rs rfb0 0 (a + 13))), (upd (upd (fun _ => 0) 1 (0 : Int32)) 2 (0 : Int32))), ((100, 24, (fun _ => none)), (fun _ => 0))]
def qs_X5_init_6_31 (a : Nat) : List am_K := [((5, 6, (am_rs (am_rs (am_rs rfb5 2 (a + 1)) 5 (a + 2)) 0 (a + 3))), (upd (upd (upd (fun _ => 0) 1 (0 : Int32)) 3 (1 : Int32)) 4 (0 : Int32))), ((100, 4, (fun _ => none)), (upd (upd (upd (upd (fun _ => 0) 0 (3 : Int32)) 1 (2 : Int32)) 2 (5 : Int32)) 3 (4 : Int32))), ((100, 3, (fun _ => none)), (upd (upd (upd (fun _ => 0) 0 ((-1000000005) : Int32)) 1 ((-1000000005) : Int32)) 2 ((-1000000005) : Int32))), ((103, 6, (am_rs (am_rs (am_rs (am_rs (am_rs (fun _ => some none) 0 (a + 4)) 1 (a + 6)) 2 (a + 8)) 3 (a + 10)) 4 (a + 12))), (fun _ => 0)), ((0, 3, (am_rs rfb0 0 (a + 5))), (upd (upd (fun _ => 0) 1 (0 : Int32)) 2 (0 : Int32))), ((100, 24, (fun _ => none)), (fun _ => 0)), ((0, 3, (am_rs rfb0 0 (a + 7))), (upd (upd (fun _ => 0) 1 (0 : Int32)) 2 (0 : Int32))), ((100, 24, (fun _ => none)), (fun _ => 0)), ((0, 3, (am_rs rfb0 0 (a + 9))), (upd (upd (fun _ => 0) 1 (0 : Int32)) 2 (0 : Int32))), ((100, 24, (fun _ => none)), (fun _ => 0)), ((0, 3, (am_rs rfb0 0 (a + 11))), (upd (upd (fun _ => 0) 1 (0 : Int32)) 2 (0 : Int32))), ((100, 24, (fun _ => none)), (fun _ => 0)), ((0, 3, (am_rs rfb0 0 (a + 13))), (upd (upd (fun _ => 0) 1 (0 : Int32)) 2 (0 : Int32))), ((100, 24, (fun _ => none)), (fun _ => 0))]
def qs_X5_init_6_32 (a : Nat) : List am_K := [((5, 6, (am_rs (am_rs (am_rs rfb5 2 (a + 1)) 5 (a + 2)) 0 (a + 3))), (upd (upd (upd (fun _ => 0) 1 (0 : Int32)) 3 (1 : Int32)) 4 (0 : Int32))), ((100, 4, (fun _ => none)), (upd (upd (upd (upd (fun _ => 0) 0 (3 : Int32)) 1 (2 : Int32)) 2 (5 : Int32)) 3 (4 : Int32))), ((100, 3, (fun _ => none)), (upd (upd (upd (fun _ => 0) 0 ((-1000000005) : Int32)) 1 ((-1000000005) : Int32)) 2 ((-1000000005) : Int32))), ((103, 6, (am_rs (am_rs (am_rs (am_rs (am_rs (fun _ => some none) 0 (a + 4)) 1 (a + 6)) 2 (a + 8)) 3 (a + 10)) 4 (a + 12))), (fun _ => 0)), ((0, 3, (am_rs rfb0 0 (a + 5))), (upd (upd (fun _ => 0) 1 (0 : Int32)) 2 (0 : Int32))), ((100, 24, (fun _ => none)), (fun _ => 0)), ((0, 3, (am_rs rfb0 0 (a + 7))), (upd (upd (fun _ => 0) 1 (0 : Int32)) 2 (0 : Int32))), ((100, 24, (fun _ => none)), (fun _ => 0)), ((0, 3, (am_rs rfb0 0 (a + 9))), (upd (upd (fun _ => 0) 1 (0 : Int32)) 2 (0 : Int32))), ((100, 24, (fun _ => none)), (fun _ => 0)), ((0, 3, (am_rs rfb0 0 (a + 11))), (upd (upd (fun _ => 0) 1 (0 : Int32)) 2 (0 : Int32))), ((100, 24, (fun _ => none)), (fun _ => 0)), ((0, 3, (am_rs rfb0 0 (a + 13))), (upd (upd (fun _ => 0) 1 (0 : Int32)) 2 (0 : Int32))), ((100, 24, (fun _ => none)), (fun _ => 0)), ((0, 3, rfb0), (fun _ => 0))]
def qs_X5_init_6_33 (a : Nat) : List am_K := [((5, 6, (am_rs (am_rs (am_rs rfb5 2 (a + 1)) 5 (a + 2)) 0 (a + 3))), (upd (upd (upd (fun _ => 0) 1 (0 : Int32)) 3 (1 : Int32)) 4 (0 : Int32))), ((100, 4, (fun _ => none)), (upd (upd (upd (upd (fun _ => 0) 0 (3 : Int32)) 1 (2 : Int32)) 2 (5 : Int32)) 3 (4 : Int32))), ((100, 3, (fun _ => none)), (upd (upd (upd (fun _ => 0) 0 ((-1000000005) : Int32)) 1 ((-1000000005) : Int32)) 2 ((-1000000005) : Int32))), ((103, 6, (am_rs (am_rs (am_rs (am_rs (am_rs (fun _ => some none) 0 (a + 4)) 1 (a + 6)) 2 (a + 8)) 3 (a + 10)) 4 (a + 12))), (fun _ => 0)), ((0, 3, (am_rs rfb0 0 (a + 5))), (upd (upd (fun _ => 0) 1 (0 : Int32)) 2 (0 : Int32))), ((100, 24, (fun _ => none)), (fun _ => 0)), ((0, 3, (am_rs rfb0 0 (a + 7))), (upd (upd (fun _ => 0) 1 (0 : Int32)) 2 (0 : Int32))), ((100, 24, (fun _ => none)), (fun _ => 0)), ((0, 3, (am_rs rfb0 0 (a + 9))), (upd (upd (fun _ => 0) 1 (0 : Int32)) 2 (0 : Int32))), ((100, 24, (fun _ => none)), (fun _ => 0)), ((0, 3, (am_rs rfb0 0 (a + 11))), (upd (upd (fun _ => 0) 1 (0 : Int32)) 2 (0 : Int32))), ((100, 24, (fun _ => none)), (fun _ => 0)), ((0, 3, (am_rs rfb0 0 (a + 13))), (upd (upd (fun _ => 0) 1 (0 : Int32)) 2 (0 : Int32))), ((100, 24, (fun _ => none)), (fun _ => 0)), ((0, 3, (am_rs rfb0 0 (a + 15))), (upd (upd (fun _ => 0) 1 (0 : Int32)) 2 (0 : Int32))), ((100, 24, (fun _ => none)), (fun _ => 0))]
def qs_X5_init_6_34 (a : Nat) : List am_K := [((5, 6, (am_rs (am_rs (am_rs rfb5 2 (a + 1)) 5 (a + 2)) 0 (a + 3))), (upd (upd (upd (fun _ => 0) 1 (0 : Int32)) 3 (1 : Int32)) 4 (0 : Int32))), ((100, 4, (fun _ => none)), (upd (upd (upd (upd (fun _ => 0) 0 (3 : Int32)) 1 (2 : Int32)) 2 (5 : Int32)) 3 (4 : Int32))), ((100, 3, (fun _ => none)), (upd (upd (upd (fun _ => 0) 0 ((-1000000005) : Int32)) 1 ((-1000000005) : Int32)) 2 ((-1000000005) : Int32))), ((103, 6, (am_rs (am_rs (am_rs (am_rs (am_rs (am_rs (fun _ => some none) 0 (a + 4)) 1 (a + 6)) 2 (a + 8)) 3 (a + 10)) 4 (a + 12)) 5 (a + 14))), (fun _ => 0)), ((0, 3, (am_rs rfb0 0 (a + 5))), (upd (upd (fun _ => 0) 1 (0 : Int32)) 2 (0 : Int32))), ((100, 24, (fun _ => none)), (fun _ => 0)), ((0, 3, (am_rs rfb0 0 (a + 7))), (upd (upd (fun _ => 0) 1 (0 : Int32)) 2 (0 : Int32))), ((100, 24, (fun _ => none)), (fun _ => 0)), ((0, 3, (am_rs rfb0 0 (a + 9))), (upd (upd (fun _ => 0) 1 (0 : Int32)) 2 (0 : Int32))), ((100, 24, (fun _ => none)), (fun _ => 0)), ((0, 3, (am_rs rfb0 0 (a + 11))), (upd (upd (fun _ => 0) 1 (0 : Int32)) 2 (0 : Int32))), ((100, 24, (fun _ => none)), (fun _ => 0)), ((0, 3, (am_rs rfb0 0 (a + 13))), (upd (upd (fun _ => 0) 1 (0 : Int32)) 2 (0 : Int32))), ((100, 24, (fun _ => none)), (fun _ => 0)), ((0, 3, (am_rs rfb0 0 (a + 15))), (upd (upd (fun _ => 0) 1 (0 : Int32)) 2 (0 : Int32))), ((100, 24, (fun _ => none)), (fun _ => 0))]
def qX5_init_6 (a : Nat) : List am_K := [
  ((5, 6, (am_rs (am_rs (am_rs rfb5 2 (a + 1)) 5 (a + 2)) 0 (a + 3))), (upd (upd (upd (fun _ => 0) 1 (0 : Int32)) 3 (1 : Int32)) 4 (0 : Int32))),
  ((100, 4, (fun _ => none)), (upd (upd (upd (upd (fun _ => 0) 0 (3 : Int32)) 1 (2 : Int32)) 2 (5 : Int32)) 3 (4 : Int32))),
  ((100, 3, (fun _ => none)), (upd (upd (upd (fun _ => 0) 0 ((-1000000005) : Int32)) 1 ((-1000000005) : Int32)) 2 ((-1000000005) : Int32))),
  ((103, 6, (am_rs (am_rs (am_rs (am_rs (am_rs (am_rs (fun _ => some none) 0 (a + 4)) 1 (a + 6)) 2 (a + 8)) 3 (a + 10)) 4 (a + 12)) 5 (a + 14))), (fun _ => 0)),
  ((0, 3, (am_rs rfb0 0 (a + 5))), (upd (upd (fun _ => 0) 1 (0 : Int32)) 2 (0 : Int32))),
  ((100, 24, (fun _ => none)), (fun _ => 0)),
  ((0, 3, (am_rs rfb0 0 (a + 7))), (upd (upd (fun _ => 0) 1 (0 : Int32)) 2 (0 : Int32))),
  ((100, 24, (fun _ => none)), (fun _ => 0)),
  ((0, 3, (am_rs rfb0 0 (a + 9))), (upd (upd (fun _ => 0) 1 (0 : Int32)) 2 (0 : Int32))),
  ((100, 24, (fun _ => none)), (fun _ => 0)),
  ((0, 3, (am_rs rfb0 0 (a + 11))), (upd (upd (fun _ => 0) 1 (0 : Int32)) 2 (0 : Int32))),
  ((100, 24, (fun _ => none)), (fun _ => 0)),
  ((0, 3, (am_rs rfb0 0 (a + 13))), (upd (upd (fun _ => 0) 1 (0 : Int32)) 2 (0 : Int32))),
  ((100, 24, (fun _ => none)), (fun _ => 0)),
  ((0, 3, (am_rs rfb0 0 (a + 15))), (upd (upd (fun _ => 0) 1 (0 : Int32)) 2 (0 : Int32))),
  ((100, 24, (fun _ => none)), (fun _ => 0))]
theorem qX5_init_6_len (a : Nat) : (qX5_init_6 a).length = 16 := rfl
theorem qX5_init_6_qs (a : Nat) : am_qs (qX5_init_6 a) = 181 := by simp [qX5_init_6, am_qs]
set_option maxRecDepth 20000 in
set_option maxHeartbeats 4000000 in
theorem ec_X5_init_6 {X : Nat × (Nat → Int32)} (P : List am_K) : am_Ev X M_X5_init 0 [(0, .ref (P.length + 0)), (1, .int (6 : Int32))] [] (hl (P ++ [((5, 6, rfb5), (fun _ => 0))])) (hl (P ++ qX5_init_6 P.length), none) := by
  have hq : ([((5, 6, rfb5), (fun _ => 0))] : List am_K).length = 1 := rfl
  have hs : am_qs [((5, 6, rfb5), (fun _ => 0))] = 6 := rfl
  have hf := qX5_init_6_len P.length
  have hg := qX5_init_6_qs P.length
  refine ev_aload_n dX5_init_0 0 rfl trivial ?_
  refine ev_objInit dX5_init_1 tw_30 w_oi w_oc (by decide) (Nat.le_of_ble_eq_true rfl) ?_
  refine ev_aload_n dX5_init_4 0 rfl trivial ?_
  refine ev_iconst (v := (0 : Int32)) dX5_init_5 kI_0 ?_
  refine cx_putI (a := 0) dX5_init_6 pf_RX5_9 rfl (by decide) rfl rfl rfl hq hs (fun hq hs => ?_)
  refine cx_nm (Q' := qs_X5_init_6_1 P.length) rfl (fun hq hs => ?_) hq hs
  refine ev_aload_n dX5_init_9 0 rfl trivial ?_
  refine ev_iconst (v := (4 : Int32)) dX5_init_10 kI_4 ?_
  refine cx_newa0 4 dX5_init_11 w_ac0 (by decide) (by decide) (by decide) 2 10 hq hs hf hg rfl rfl (by decide) (by decide) (fun hq hs => ?_)
  refine cx_nm (Q' := qs_X5_init_6_2 P.length) rfl (fun hq hs => ?_) hq hs
  refine ev_dup dX5_init_13 rfl ?_
  refine ev_iconst (v := (0 : Int32)) dX5_init_14 kI_0 ?_
  refine ev_iconst (v := (3 : Int32)) dX5_init_15 kI_3 ?_
  refine cx_iast (a := 1) 0 dX5_init_16 rfl (by decide) (by decide) hq hs (fun hq hs => ?_)
  refine cx_nm (Q' := qs_X5_init_6_3 P.length) rfl (fun hq hs => ?_) hq hs
  refine ev_dup dX5_init_17 rfl ?_
  refine ev_iconst (v := (1 : Int32)) dX5_init_18 kI_1 ?_
  refine ev_iconst (v := (2 : Int32)) dX5_init_19 kI_2 ?_
  refine cx_iast (a := 1) 1 dX5_init_20 rfl (by decide) (by decide) hq hs (fun hq hs => ?_)
  refine cx_nm (Q' := qs_X5_init_6_4 P.length) rfl (fun hq hs => ?_) hq hs
  refine ev_dup dX5_init_21 rfl ?_
  refine ev_iconst (v := (2 : Int32)) dX5_init_22 kI_2 ?_
  refine ev_iconst (v := (5 : Int32)) dX5_init_23 kI_5 ?_
  refine cx_iast (a := 1) 2 dX5_init_24 rfl (by decide) (by decide) hq hs (fun hq hs => ?_)
  refine cx_nm (Q' := qs_X5_init_6_5 P.length) rfl (fun hq hs => ?_) hq hs
  refine ev_dup dX5_init_25 rfl ?_
  refine ev_iconst (v := (3 : Int32)) dX5_init_26 kI_3 ?_
  refine ev_iconst (v := (4 : Int32)) dX5_init_27 kI_4 ?_
  refine cx_iast (a := 1) 3 dX5_init_28 rfl (by decide) (by decide) hq hs (fun hq hs => ?_)
  refine cx_nm (Q' := qs_X5_init_6_6 P.length) rfl (fun hq hs => ?_) hq hs
  refine cx_putFR (a := 0) (b := P.length + 1) dX5_init_29 pF_RX5_15 rfl rfl (by decide) (fun _ => rfl) (fun _ => rfl) hq hs (fun hq hs => ?_)
  refine cx_nm (Q' := qs_X5_init_6_7 P.length) rfl (fun hq hs => ?_) hq hs
  refine ev_aload_n dX5_init_32 0 rfl trivial ?_
  refine ev_iconst (v := (1 : Int32)) dX5_init_33 kI_1 ?_
  refine cx_putI (a := 0) dX5_init_34 pf_RX5_19 rfl (by decide) rfl rfl rfl hq hs (fun hq hs => ?_)
  refine cx_nm (Q' := qs_X5_init_6_8 P.length) rfl (fun hq hs => ?_) hq hs
  refine ev_aload_n dX5_init_37 0 rfl trivial ?_
  refine ev_iconst (v := (0 : Int32)) dX5_init_38 kI_0 ?_
  refine cx_putI (a := 0) dX5_init_39 pf_RX5_22 rfl (by decide) rfl rfl rfl hq hs (fun hq hs => ?_)
  refine cx_nm (Q' := qs_X5_init_6_9 P.length) rfl (fun hq hs => ?_) hq hs
  refine ev_aload_n dX5_init_42 0 rfl trivial ?_
  refine ev_iconst (v := (3 : Int32)) dX5_init_43 kI_3 ?_
  refine cx_newa0 3 dX5_init_44 w_ac0 (by decide) (by decide) (by decide) 3 13 hq hs hf hg rfl rfl (by decide) (by decide) (fun hq hs => ?_)
  refine cx_nm (Q' := qs_X5_init_6_10 P.length) rfl (fun hq hs => ?_) hq hs
  refine ev_dup dX5_init_46 rfl ?_
  refine ev_iconst (v := (0 : Int32)) dX5_init_47 kI_0 ?_
  refine ev_ldc (v := ((-1000000005) : Int32)) dX5_init_48 tw_31 ?_
  refine cx_iast (a := 2) 0 dX5_init_50 rfl (by decide) (by decide) hq hs (fun hq hs => ?_)
  refine cx_nm (Q' := qs_X5_init_6_11 P.length) rfl (fun hq hs => ?_) hq hs
  refine ev_dup dX5_init_51 rfl ?_
  refine ev_iconst (v := (1 : Int32)) dX5_init_52 kI_1 ?_
  refine ev_ldc (v := ((-1000000005) : Int32)) dX5_init_53 tw_31 ?_
  refine cx_iast (a := 2) 1 dX5_init_55 rfl (by decide) (by decide) hq hs (fun hq hs => ?_)
  refine cx_nm (Q' := qs_X5_init_6_12 P.length) rfl (fun hq hs => ?_) hq hs
  refine ev_dup dX5_init_56 rfl ?_
  refine ev_iconst (v := (2 : Int32)) dX5_init_57 kI_2 ?_
  refine ev_ldc (v := ((-1000000005) : Int32)) dX5_init_58 tw_31 ?_
  refine cx_iast (a := 2) 2 dX5_init_60 rfl (by decide) (by decide) hq hs (fun hq hs => ?_)
  refine cx_nm (Q' := qs_X5_init_6_13 P.length) rfl (fun hq hs => ?_) hq hs
  refine cx_putFR (a := 0) (b := P.length + 2) dX5_init_61 pF_RX5_26 rfl rfl (by decide) (fun _ => rfl) (fun _ => rfl) hq hs (fun hq hs => ?_)
  refine cx_nm (Q' := qs_X5_init_6_14 P.length) rfl (fun hq hs => ?_) hq hs
  refine ev_aload_n dX5_init_64 0 rfl trivial ?_
  refine ev_iload_n dX5_init_65 1 rfl ?_
  refine ev_iconst (v := (0 : Int32)) dX5_init_66 kI_0 ?_
  refine ev_calls [.int (6 : Int32), .int (0 : Int32)] dX5_init_67 ok_J9_max_7cf53 lk_RX5_29 st_J9_max_7cf53 (by decide) rfl (cg_max_6 _) rfl (Nat.le_of_ble_eq_true rfl) (cx_le P (by omega)) (cx_le2 P (by omega)) ?_
  refine cx_anew3 6 dX5_init_70 tw_35 (by decide) (by decide) (by decide) 4 19 hq hs hf hg rfl rfl (by decide) (by decide) (fun hq hs => ?_)
  refine cx_nm (Q' := qs_X5_init_6_15 P.length) rfl (fun hq hs => ?_) hq hs
  refine cx_putFR (a := 0) (b := P.length + 3) dX5_init_73 pF_RX5_37 rfl rfl (by decide) (fun _ => rfl) (fun _ => rfl) hq hs (fun hq hs => ?_)
  refine cx_nm (Q' := qs_X5_init_6_16 P.length) rfl (fun hq hs => ?_) hq hs
  refine ev_iconst (v := (0 : Int32)) dX5_init_76 kI_0 ?_
  refine ev_istore_n (L' := [(2, .int (0 : Int32)), (0, .ref (P.length + 0)), (1, .int (6 : Int32))]) dX5_init_77 (by decide) rfl ?_
  refine ev_iload_n dX5_init_78 0 rfl ?_
  refine ev_aload_n dX5_init_79 1 rfl trivial ?_
  refine cx_getR (a := 0) (b := P.length + 3) dX5_init_80 gf_RX5_37 rfl (by decide) rfl ?_
  refine cx_alen3 (a := 3) dX5_init_83 rfl ?_
  refine ev_icmp_ge 106 dX5_init_84 (by decide) (fun c => absurd c (by decide)) (fun _ => ?_)
  refine ev_aload_n dX5_init_87 1 rfl trivial ?_
  refine cx_getR (a := 0) (b := P.length + 3) dX5_init_88 gf_RX5_37 rfl (by decide) rfl ?_
  refine ev_iload_n dX5_init_91 0 rfl ?_
  refine cx_new rfb0 dX5_init_92 (by decide) okC_0 tw_35 hb_0 5 22 hq hs hf hg rfl rfl (by decide) (by decide) (fun hq hs => ?_)
  refine cx_nm (Q' := qs_X5_init_6_17 P.length) rfl (fun hq hs => ?_) hq hs
  refine ev_dup dX5_init_95 rfl ?_
  refine cx_calli (q := 4) (Q0 := qs_X5_init_6_16 P.length) qX0_init [] dX5_init_96 ok_X0_init rfl lk_RX5_41 in_X0_init rfl (by decide) rfl (cc_X0_init _) 6 46 rfl hq hs hf hg qX0_init_len qX0_init_qs rfl rfl (by decide) (by decide) rfl (Nat.le_of_ble_eq_true rfl) (fun hq hs => ?_)
  refine cx_nm (Q' := qs_X5_init_6_18 P.length) rfl (fun hq hs => ?_) hq hs
  refine cx_aast3 (a := 3) (b := 4) 0 dX5_init_99 rfl (by decide) (by decide) rfl hq hs (fun hq hs => ?_)
  refine cx_nm (Q' := qs_X5_init_6_19 P.length) rfl (fun hq hs => ?_) hq hs
  refine ev_iinc (v := (1 : Int32)) (L' := [(2, .int (1 : Int32)), (0, .ref (P.length + 0)), (1, .int (6 : Int32))]) dX5_init_100 0 rfl (by decide) (by decide) rfl ?_
  refine ev_goto 78 dX5_init_103 (by decide) ?_
  refine ev_iload_n dX5_init_78 0 rfl ?_
  refine ev_aload_n dX5_init_79 1 rfl trivial ?_
  refine cx_getR (a := 0) (b := P.length + 3) dX5_init_80 gf_RX5_37 rfl (by decide) rfl ?_
  refine cx_alen3 (a := 3) dX5_init_83 rfl ?_
  refine ev_icmp_ge 106 dX5_init_84 (by decide) (fun c => absurd c (by decide)) (fun _ => ?_)
  refine ev_aload_n dX5_init_87 1 rfl trivial ?_
  refine cx_getR (a := 0) (b := P.length + 3) dX5_init_88 gf_RX5_37 rfl (by decide) rfl ?_
  refine ev_iload_n dX5_init_91 0 rfl ?_
  refine cx_new rfb0 dX5_init_92 (by decide) okC_0 tw_35 hb_0 7 49 hq hs hf hg rfl rfl (by decide) (by decide) (fun hq hs => ?_)
  refine cx_nm (Q' := qs_X5_init_6_20 P.length) rfl (fun hq hs => ?_) hq hs
  refine ev_dup dX5_init_95 rfl ?_
  refine cx_calli (q := 6) (Q0 := qs_X5_init_6_19 P.length) qX0_init [] dX5_init_96 ok_X0_init rfl lk_RX5_41 in_X0_init rfl (by decide) rfl (cc_X0_init _) 8 73 rfl hq hs hf hg qX0_init_len qX0_init_qs rfl rfl (by decide) (by decide) rfl (Nat.le_of_ble_eq_true rfl) (fun hq hs => ?_)
  refine cx_nm (Q' := qs_X5_init_6_21 P.length) rfl (fun hq hs => ?_) hq hs
  refine cx_aast3 (a := 3) (b := 6) 1 dX5_init_99 rfl (by decide) (by decide) rfl hq hs (fun hq hs => ?_)
  refine cx_nm (Q' := qs_X5_init_6_22 P.length) rfl (fun hq hs => ?_) hq hs
  refine ev_iinc (v := (2 : Int32)) (L' := [(2, .int (2 : Int32)), (0, .ref (P.length + 0)), (1, .int (6 : Int32))]) dX5_init_100 0 rfl (by decide) (by decide) rfl ?_
  refine ev_goto 78 dX5_init_103 (by decide) ?_
  refine ev_iload_n dX5_init_78 0 rfl ?_
  refine ev_aload_n dX5_init_79 1 rfl trivial ?_
  refine cx_getR (a := 0) (b := P.length + 3) dX5_init_80 gf_RX5_37 rfl (by decide) rfl ?_
  refine cx_alen3 (a := 3) dX5_init_83 rfl ?_
  refine ev_icmp_ge 106 dX5_init_84 (by decide) (fun c => absurd c (by decide)) (fun _ => ?_)
  refine ev_aload_n dX5_init_87 1 rfl trivial ?_
  refine cx_getR (a := 0) (b := P.length + 3) dX5_init_88 gf_RX5_37 rfl (by decide) rfl ?_
  refine ev_iload_n dX5_init_91 0 rfl ?_
  refine cx_new rfb0 dX5_init_92 (by decide) okC_0 tw_35 hb_0 9 76 hq hs hf hg rfl rfl (by decide) (by decide) (fun hq hs => ?_)
  refine cx_nm (Q' := qs_X5_init_6_23 P.length) rfl (fun hq hs => ?_) hq hs
  refine ev_dup dX5_init_95 rfl ?_
  refine cx_calli (q := 8) (Q0 := qs_X5_init_6_22 P.length) qX0_init [] dX5_init_96 ok_X0_init rfl lk_RX5_41 in_X0_init rfl (by decide) rfl (cc_X0_init _) 10 100 rfl hq hs hf hg qX0_init_len qX0_init_qs rfl rfl (by decide) (by decide) rfl (Nat.le_of_ble_eq_true rfl) (fun hq hs => ?_)
  refine cx_nm (Q' := qs_X5_init_6_24 P.length) rfl (fun hq hs => ?_) hq hs
  refine cx_aast3 (a := 3) (b := 8) 2 dX5_init_99 rfl (by decide) (by decide) rfl hq hs (fun hq hs => ?_)
  refine cx_nm (Q' := qs_X5_init_6_25 P.length) rfl (fun hq hs => ?_) hq hs
  refine ev_iinc (v := (3 : Int32)) (L' := [(2, .int (3 : Int32)), (0, .ref (P.length + 0)), (1, .int (6 : Int32))]) dX5_init_100 0 rfl (by decide) (by decide) rfl ?_
  refine ev_goto 78 dX5_init_103 (by decide) ?_
  refine ev_iload_n dX5_init_78 0 rfl ?_
  refine ev_aload_n dX5_init_79 1 rfl trivial ?_
  refine cx_getR (a := 0) (b := P.length + 3) dX5_init_80 gf_RX5_37 rfl (by decide) rfl ?_
  refine cx_alen3 (a := 3) dX5_init_83 rfl ?_
  refine ev_icmp_ge 106 dX5_init_84 (by decide) (fun c => absurd c (by decide)) (fun _ => ?_)
  refine ev_aload_n dX5_init_87 1 rfl trivial ?_
  refine cx_getR (a := 0) (b := P.length + 3) dX5_init_88 gf_RX5_37 rfl (by decide) rfl ?_
  refine ev_iload_n dX5_init_91 0 rfl ?_
  refine cx_new rfb0 dX5_init_92 (by decide) okC_0 tw_35 hb_0 11 103 hq hs hf hg rfl rfl (by decide) (by decide) (fun hq hs => ?_)
  refine cx_nm (Q' := qs_X5_init_6_26 P.length) rfl (fun hq hs => ?_) hq hs
  refine ev_dup dX5_init_95 rfl ?_
  refine cx_calli (q := 10) (Q0 := qs_X5_init_6_25 P.length) qX0_init [] dX5_init_96 ok_X0_init rfl lk_RX5_41 in_X0_init rfl (by decide) rfl (cc_X0_init _) 12 127 rfl hq hs hf hg qX0_init_len qX0_init_qs rfl rfl (by decide) (by decide) rfl (Nat.le_of_ble_eq_true rfl) (fun hq hs => ?_)
  refine cx_nm (Q' := qs_X5_init_6_27 P.length) rfl (fun hq hs => ?_) hq hs
  refine cx_aast3 (a := 3) (b := 10) 3 dX5_init_99 rfl (by decide) (by decide) rfl hq hs (fun hq hs => ?_)
  refine cx_nm (Q' := qs_X5_init_6_28 P.length) rfl (fun hq hs => ?_) hq hs
  refine ev_iinc (v := (4 : Int32)) (L' := [(2, .int (4 : Int32)), (0, .ref (P.length + 0)), (1, .int (6 : Int32))]) dX5_init_100 0 rfl (by decide) (by decide) rfl ?_
  refine ev_goto 78 dX5_init_103 (by decide) ?_
  refine ev_iload_n dX5_init_78 0 rfl ?_
  refine ev_aload_n dX5_init_79 1 rfl trivial ?_
  refine cx_getR (a := 0) (b := P.length + 3) dX5_init_80 gf_RX5_37 rfl (by decide) rfl ?_
  refine cx_alen3 (a := 3) dX5_init_83 rfl ?_
  refine ev_icmp_ge 106 dX5_init_84 (by decide) (fun c => absurd c (by decide)) (fun _ => ?_)
  refine ev_aload_n dX5_init_87 1 rfl trivial ?_
  refine cx_getR (a := 0) (b := P.length + 3) dX5_init_88 gf_RX5_37 rfl (by decide) rfl ?_
  refine ev_iload_n dX5_init_91 0 rfl ?_
  refine cx_new rfb0 dX5_init_92 (by decide) okC_0 tw_35 hb_0 13 130 hq hs hf hg rfl rfl (by decide) (by decide) (fun hq hs => ?_)
  refine cx_nm (Q' := qs_X5_init_6_29 P.length) rfl (fun hq hs => ?_) hq hs
  refine ev_dup dX5_init_95 rfl ?_
  refine cx_calli (q := 12) (Q0 := qs_X5_init_6_28 P.length) qX0_init [] dX5_init_96 ok_X0_init rfl lk_RX5_41 in_X0_init rfl (by decide) rfl (cc_X0_init _) 14 154 rfl hq hs hf hg qX0_init_len qX0_init_qs rfl rfl (by decide) (by decide) rfl (Nat.le_of_ble_eq_true rfl) (fun hq hs => ?_)
  refine cx_nm (Q' := qs_X5_init_6_30 P.length) rfl (fun hq hs => ?_) hq hs
  refine cx_aast3 (a := 3) (b := 12) 4 dX5_init_99 rfl (by decide) (by decide) rfl hq hs (fun hq hs => ?_)
  refine cx_nm (Q' := qs_X5_init_6_31 P.length) rfl (fun hq hs => ?_) hq hs
  refine ev_iinc (v := (5 : Int32)) (L' := [(2, .int (5 : Int32)), (0, .ref (P.length + 0)), (1, .int (6 : Int32))]) dX5_init_100 0 rfl (by decide) (by decide) rfl ?_
  refine ev_goto 78 dX5_init_103 (by decide) ?_
  refine ev_iload_n dX5_init_78 0 rfl ?_
  refine ev_aload_n dX5_init_79 1 rfl trivial ?_
  refine cx_getR (a := 0) (b := P.length + 3) dX5_init_80 gf_RX5_37 rfl (by decide) rfl ?_
  refine cx_alen3 (a := 3) dX5_init_83 rfl ?_
  refine ev_icmp_ge 106 dX5_init_84 (by decide) (fun c => absurd c (by decide)) (fun _ => ?_)
  refine ev_aload_n dX5_init_87 1 rfl trivial ?_
  refine cx_getR (a := 0) (b := P.length + 3) dX5_init_88 gf_RX5_37 rfl (by decide) rfl ?_
  refine ev_iload_n dX5_init_91 0 rfl ?_
  refine cx_new rfb0 dX5_init_92 (by decide) okC_0 tw_35 hb_0 15 157 hq hs hf hg rfl rfl (by decide) (by decide) (fun hq hs => ?_)
  refine cx_nm (Q' := qs_X5_init_6_32 P.length) rfl (fun hq hs => ?_) hq hs
  refine ev_dup dX5_init_95 rfl ?_
  refine cx_calli (q := 14) (Q0 := qs_X5_init_6_31 P.length) qX0_init [] dX5_init_96 ok_X0_init rfl lk_RX5_41 in_X0_init rfl (by decide) rfl (cc_X0_init _) 16 181 rfl hq hs hf hg qX0_init_len qX0_init_qs rfl rfl (by decide) (by decide) rfl (Nat.le_of_ble_eq_true rfl) (fun hq hs => ?_)
  refine cx_nm (Q' := qs_X5_init_6_33 P.length) rfl (fun hq hs => ?_) hq hs
  refine cx_aast3 (a := 3) (b := 14) 5 dX5_init_99 rfl (by decide) (by decide) rfl hq hs (fun hq hs => ?_)
  refine cx_nm (Q' := qs_X5_init_6_34 P.length) rfl (fun hq hs => ?_) hq hs
  refine ev_iinc (v := (6 : Int32)) (L' := [(2, .int (6 : Int32)), (0, .ref (P.length + 0)), (1, .int (6 : Int32))]) dX5_init_100 0 rfl (by decide) (by decide) rfl ?_
  refine ev_goto 78 dX5_init_103 (by decide) ?_
  refine ev_iload_n dX5_init_78 0 rfl ?_
  refine ev_aload_n dX5_init_79 1 rfl trivial ?_
  refine cx_getR (a := 0) (b := P.length + 3) dX5_init_80 gf_RX5_37 rfl (by decide) rfl ?_
  refine cx_alen3 (a := 3) dX5_init_83 rfl ?_
  refine ev_icmp_ge 106 dX5_init_84 (by decide) (fun _ => ?_) (fun c => absurd (by decide) c)
  exact ev_vret dX5_init_106 rfl
theorem cc_X5_init_6 {X : Nat × (Nat → Int32)} (P : List am_K) : am_Cn X M_X5_init [.ref P.length, .int (6 : Int32)] (hl (P ++ [((5, 6, rfb5), (fun _ => 0))])) (hl (P ++ qX5_init_6 P.length), none) := am_Cn.of ok_X5_init (cx_le P (by rw [qX5_init_6_len]; decide)) (cx_le2 P (by rw [qX5_init_6_qs]; exact Nat.le_of_ble_eq_true rfl)) (Nat.le_of_ble_eq_true rfl) (ec_X5_init_6 P)
def qs_X5_init_1_0 (a : Nat) : List am_K := [((5, 6, rfb5), (fun _ => 0))]
def qs_X5_init_1_1 (a : Nat) : List am_K := [((5, 6, rfb5), (upd (fun _ => 0) 1 (0 : Int32)))]
def qs_X5_init_1_2 (a : Nat) : List am_K := [((5, 6, rfb5), (upd (fun _ => 0) 1 (0 : Int32))), ((100, 4, (fun _ => none)), (fun _ => 0))]
def qs_X5_init_1_3 (a : Nat) : List am_K := [((5, 6, rfb5), (upd (fun _ => 0) 1 (0 : Int32))), ((100, 4, (fun _ => none)), (upd (fun _ => 0) 0 (3 : Int32)))]
def qs_X5_init_1_4 (a : Nat) : List am_K := [((5, 6, rfb5), (upd (fun _ => 0) 1 (0 : Int32))), ((100, 4, (fun _ => none)), (upd (upd (fun _ => 0) 0 (3 : Int32)) 1 (2 : Int32)))]
def qs_X5_init_1_5 (a : Nat) : List am_K := [((5, 6, rfb5), (upd (fun _ => 0) 1 (0 : Int32))), ((100, 4, (fun _ => none)), (upd (upd (upd (fun _ => 0) 0 (3 : Int32)) 1 (2 : Int32)) 2 (5 : Int32)))]
def qs_X5_init_1_6 (a : Nat) : List am_K := [((5, 6, rfb5), (upd (fun _ => 0) 1 (0 : Int32))), ((100, 4, (fun _ => none)), (upd (upd (upd (upd (fun _ => 0) 0 (3 : Int32)) 1 (2 : Int32)) 2 (5 : Int32)) 3 (4 : Int32)))]
def qs_X5_init_1_7 (a : Nat) : List am_K := [((5, 6, (am_rs rfb5 2 (a + 1))), (upd (fun _ => 0) 1 (0 : Int32))), ((100, 4, (fun _ => none)), (upd (upd (upd (upd (fun _ => 0) 0 (3 : Int32)) 1 (2 : Int32)) 2 (5 : Int32)) 3 (4 : Int32)))]
def qs_X5_init_1_8 (a : Nat) : List am_K := [((5, 6, (am_rs rfb5 2 (a + 1))), (upd (upd (fun _ => 0) 1 (0 : Int32)) 3 (1 : Int32))), ((100, 4, (fun _ => none)), (upd (upd (upd (upd (fun _ => 0) 0 (3 : Int32)) 1 (2 : Int32)) 2 (5 : Int32)) 3 (4 : Int32)))]
def qs_X5_init_1_9 (a : Nat) : List am_K := [((5, 6, (am_rs rfb5 2 (a + 1))), (upd (upd (upd (fun _ => 0) 1 (0 : Int32)) 3 (1 : Int32)) 4 (0 : Int32))), ((100, 4, (fun _ => none)), (upd (upd (upd (upd (fun _ => 0) 0 (3 : Int32)) 1 (2 : Int32)) 2 (5 : Int32)) 3 (4 : Int32)))]
def qs_X5_init_1_10 (a : Nat) : List am_K := [((5, 6, (am_rs rfb5 2 (a + 1))), (upd (upd (upd (fun _ => 0) 1 (0 : Int32)) 3 (1 : Int32)) 4 (0 : Int32))), ((100, 4, (fun _ => none)), (upd (upd (upd (upd (fun _ => 0) 0 (3 : Int32)) 1 (2 : Int32)) 2 (5 : Int32)) 3 (4 : Int32))), ((100, 3, (fun _ => none)), (fun _ => 0))]
def qs_X5_init_1_11 (a : Nat) : List am_K := [((5, 6, (am_rs rfb5 2 (a + 1))), (upd (upd (upd (fun _ => 0) 1 (0 : Int32)) 3 (1 : Int32)) 4 (0 : Int32))), ((100, 4, (fun _ => none)), (upd (upd (upd (upd (fun _ => 0) 0 (3 : Int32)) 1 (2 : Int32)) 2 (5 : Int32)) 3 (4 : Int32))), ((100, 3, (fun _ => none)), (upd (fun _ => 0) 0 ((-1000000005) : Int32)))]
def qs_X5_init_1_12 (a : Nat) : List am_K := [((5, 6, (am_rs rfb5 2 (a + 1))), (upd (upd (upd (fun _ => 0) 1 (0 : Int32)) 3 (1 : Int32)) 4 (0 : Int32))), ((100, 4, (fun _ => none)), (upd (upd (upd (upd (fun _ => 0) 0 (3 : Int32)) 1 (2 : Int32)) 2 (5 : Int32)) 3 (4 : Int32))), ((100, 3, (fun _ => none)), (upd (upd (fun _ => 0) 0 ((-1000000005) : Int32)) 1 ((-1000000005) : Int32)))]
def qs_X5_init_1_13 (a : Nat) : List am_K := [((5, 6, (am_rs rfb5 2 (a + 1))), (upd (upd (upd (fun _ => 0) 1 (0 : Int32)) 3 (1 : Int32)) 4 (0 : Int32))), ((100, 4, (fun _ => none)), (upd (upd (upd (upd (fun _ => 0) 0 (3 : Int32)) 1 (2 : Int32)) 2 (5 : Int32)) 3 (4 : Int32))), ((100, 3, (fun _ => none)), (upd (upd (upd (fun _ => 0) 0 ((-1000000005) : Int32)) 1 ((-1000000005) : Int32)) 2 ((-1000000005) : Int32)))]
def qs_X5_init_1_14 (a : Nat) : List am_K := [((5, 6, (am_rs (am_rs rfb5 2 (a + 1)) 5 (a + 2))), (upd (upd (upd (fun _ => 0) 1 (0 : Int32)) 3 (1 : Int32)) 4 (0 : Int32))), ((100, 4, (fun _ => none)), (upd (upd (upd (upd (fun _ => 0) 0 (3 : Int32)) 1 (2 : Int32)) 2 (5 : Int32)) 3 (4 : Int32))), ((100, 3, (fun _ => none)), (upd (upd (upd (fun _ => 0) 0 ((-1000000005) : Int32)) 1 ((-1000000005) : Int32)) 2 ((-1000000005) : Int32)))]
def qs_X5_init_1_15 (a : Nat) : List am_K := [((5, 6, (am_rs (am_rs rfb5 2 (a + 1)) 5 (a + 2))), (upd (upd (upd (fun _ => 0) 1 (0 : Int32)) 3 (1 : Int32)) 4 (0 : Int32))), ((100, 4, (fun _ => none)), (upd (upd (upd (upd (fun _ => 0) 0 (3 : Int32)) 1 (2 : Int32)) 2 (5 : Int32)) 3 (4 : Int32))), ((100, 3, (fun _ => none)), (upd (upd (upd (fun _ => 0) 0 ((-1000000005) : Int32)) 1 ((-1000000005) : Int32)) 2 ((-1000000005) : Int32))), ((103, 1, (fun _ => some none)), (fun _ => 0))]
def qs_X5_init_1_16 (a : Nat) : List am_K := [((5, 6, (am_rs (am_rs (am_rs rfb5 2 (a + 1)) 5 (a + 2)) 0 (a + 3))), (upd (upd (upd (fun _ => 0) 1 (0 : Int32)) 3 (1 : Int32)) 4 (0 : Int32))), ((100, 4, (fun _ => none)), (upd (upd (upd (upd (fun _ => 0) 0 (3 : Int32)) 1 (2 : Int32)) 2 (5 : Int32)) 3 (4 : Int32))), ((100, 3, (fun _ => none)), (upd (upd (upd (fun _ => 0) 0 ((-1000000005) : Int32)) 1 ((-1000000005) : Int32)) 2 ((-1000000005) : Int32))), ((103, 1, (fun _ => some none)), (fun _ => 0))]
def qs_X5_init_1_17 (a : Nat) : List am_K := [((5, 6, (am_rs (am_rs (am_rs rfb5 2 (a + 1)) 5 (a + 2)) 0 (a + 3))), (upd (upd (upd (fun _ => 0) 1 (0 : Int32)) 3 (1 : Int32)) 4 (0 : Int32))), ((100, 4, (fun _ => none)), (upd (upd (upd (upd (fun _ => 0) 0 (3 : Int32)) 1 (2 : Int32)) 2 (5 : Int32)) 3 (4 : Int32))), ((100, 3, (fun _ => none)), (upd (upd (upd (fun _ => 0) 0 ((-1000000005) : Int32)) 1 ((-1000000005) : Int32)) 2 ((-1000000005) : Int32))), ((103, 1, (fun _ => some none)), (fun _ => 0)), ((0, 3, rfb0), (fun _ => 0))]
def qs_X5_init_1_18 (a : Nat) : List am_K := [((5, 6, (am_rs (am_rs (am_rs rfb5 2 (a + 1)) 5 (a + 2)) 0 (a + 3))), (upd (upd (upd (fun _ => 0) 1 (0 : Int32)) 3 (1 : Int32)) 4 (0 : Int32))), ((100, 4, (fun _ => none)), (upd (upd (upd (upd (fun _ => 0) 0 (3 : Int32)) 1 (2 : Int32)) 2 (5 : Int32)) 3 (4 : Int32))), ((100, 3, (fun _ => none)), (upd (upd (upd (fun _ => 0) 0 ((-1000000005) : Int32)) 1 ((-1000000005) : Int32)) 2 ((-1000000005) : Int32))), ((103, 1, (fun _ => some none)), (fun _ => 0)), ((0, 3, (am_rs rfb0 0 (a + 5))), (upd (upd (fun _ => 0) 1 (0 : Int32)) 2 (0 : Int32))), ((100, 24, (fun _ => none)), (fun _ => 0))]
def qs_X5_init_1_19 (a : Nat) : List am_K := [((5, 6, (am_rs (am_rs (am_rs rfb5 2 (a + 1)) 5 (a + 2)) 0 (a + 3))), (upd (upd (upd (fun _ => 0) 1 (0 : Int32)) 3 (1 : Int32)) 4 (0 : Int32))), ((100, 4, (fun _ => none)), (upd (upd (upd (upd (fun _ => 0) 0 (3 : Int32)) 1 (2 : Int32)) 2 (5 : Int32)) 3 (4 : Int32))), ((100, 3, (fun _ => none)), (upd (upd (upd (fun _ => 0) 0 ((-1000000005) : Int32)) 1 ((-1000000005) : Int32)) 2 ((-1000000005) : Int32))), ((103, 1, (am_rs (fun _ => some none) 0 (a + 4))), (fun _ => 0)), ((0, 3, (am_rs rfb0 0 (a + 5))), (upd (upd (fun _ => 0) 1 (0 : Int32)) 2 (0 : Int32))), ((100, 24, (fun _ => none)), (fun _ => 0))]
def qX5_init_1 (a : Nat) : List am_K := [
  ((5, 6, (am_rs (am_rs (am_rs rfb5 2 (a + 1)) 5 (a + 2)) 0 (a + 3))), (upd (upd (upd (fun _ => 0) 1 (0 : Int32)) 3 (1 : Int32)) 4 (0 : Int32))),
  ((100, 4, (fun _ => none)), (upd (upd (upd (upd (fun _ => 0) 0 (3 : Int32)) 1 (2 : Int32)) 2 (5 : Int32)) 3 (4 : Int32))),
  ((100, 3, (fun _ => none)), (upd (upd (upd (fun _ => 0) 0 ((-1000000005) : Int32)) 1 ((-1000000005) : Int32)) 2 ((-1000000005) : Int32))),
  ((103, 1, (am_rs (fun _ => some none) 0 (a + 4))), (fun _ => 0)),
  ((0, 3, (am_rs rfb0 0 (a + 5))), (upd (upd (fun _ => 0) 1 (0 : Int32)) 2 (0 : Int32))),
  ((100, 24, (fun _ => none)), (fun _ => 0))]
theorem qX5_init_1_len (a : Nat) : (qX5_init_1 a).length = 6 := rfl
theorem qX5_init_1_qs (a : Nat) : am_qs (qX5_init_1 a) = 41 := by simp [qX5_init_1, am_qs]
set_option maxRecDepth 20000 in
set_option maxHeartbeats 4000000 in
theorem ec_X5_init_1 {X : Nat × (Nat → Int32)} (P : List am_K) : am_Ev X M_X5_init 0 [(0, .ref (P.length + 0)), (1, .int (1 : Int32))] [] (hl (P ++ [((5, 6, rfb5), (fun _ => 0))])) (hl (P ++ qX5_init_1 P.length), none) := by
  have hq : ([((5, 6, rfb5), (fun _ => 0))] : List am_K).length = 1 := rfl
  have hs : am_qs [((5, 6, rfb5), (fun _ => 0))] = 6 := rfl
  have hf := qX5_init_1_len P.length
  have hg := qX5_init_1_qs P.length
  refine ev_aload_n dX5_init_0 0 rfl trivial ?_
  refine ev_objInit dX5_init_1 tw_30 w_oi w_oc (by decide) (Nat.le_of_ble_eq_true rfl) ?_
  refine ev_aload_n dX5_init_4 0 rfl trivial ?_
  refine ev_iconst (v := (0 : Int32)) dX5_init_5 kI_0 ?_
  refine cx_putI (a := 0) dX5_init_6 pf_RX5_9 rfl (by decide) rfl rfl rfl hq hs (fun hq hs => ?_)
  refine cx_nm (Q' := qs_X5_init_1_1 P.length) rfl (fun hq hs => ?_) hq hs
  refine ev_aload_n dX5_init_9 0 rfl trivial ?_
  refine ev_iconst (v := (4 : Int32)) dX5_init_10 kI_4 ?_
  refine cx_newa0 4 dX5_init_11 w_ac0 (by decide) (by decide) (by decide) 2 10 hq hs hf hg rfl rfl (by decide) (by decide) (fun hq hs => ?_)
  refine cx_nm (Q' := qs_X5_init_1_2 P.length) rfl (fun hq hs => ?_) hq hs
  refine ev_dup dX5_init_13 rfl ?_
  refine ev_iconst (v := (0 : Int32)) dX5_init_14 kI_0 ?_
  refine ev_iconst (v := (3 : Int32)) dX5_init_15 kI_3 ?_
  refine cx_iast (a := 1) 0 dX5_init_16 rfl (by decide) (by decide) hq hs (fun hq hs => ?_)
  refine cx_nm (Q' := qs_X5_init_1_3 P.length) rfl (fun hq hs => ?_) hq hs
  refine ev_dup dX5_init_17 rfl ?_
  refine ev_iconst (v := (1 : Int32)) dX5_init_18 kI_1 ?_
  refine ev_iconst (v := (2 : Int32)) dX5_init_19 kI_2 ?_
  refine cx_iast (a := 1) 1 dX5_init_20 rfl (by decide) (by decide) hq hs (fun hq hs => ?_)
  refine cx_nm (Q' := qs_X5_init_1_4 P.length) rfl (fun hq hs => ?_) hq hs
  refine ev_dup dX5_init_21 rfl ?_
  refine ev_iconst (v := (2 : Int32)) dX5_init_22 kI_2 ?_
  refine ev_iconst (v := (5 : Int32)) dX5_init_23 kI_5 ?_
  refine cx_iast (a := 1) 2 dX5_init_24 rfl (by decide) (by decide) hq hs (fun hq hs => ?_)
  refine cx_nm (Q' := qs_X5_init_1_5 P.length) rfl (fun hq hs => ?_) hq hs
  refine ev_dup dX5_init_25 rfl ?_
  refine ev_iconst (v := (3 : Int32)) dX5_init_26 kI_3 ?_
  refine ev_iconst (v := (4 : Int32)) dX5_init_27 kI_4 ?_
  refine cx_iast (a := 1) 3 dX5_init_28 rfl (by decide) (by decide) hq hs (fun hq hs => ?_)
  refine cx_nm (Q' := qs_X5_init_1_6 P.length) rfl (fun hq hs => ?_) hq hs
  refine cx_putFR (a := 0) (b := P.length + 1) dX5_init_29 pF_RX5_15 rfl rfl (by decide) (fun _ => rfl) (fun _ => rfl) hq hs (fun hq hs => ?_)
  refine cx_nm (Q' := qs_X5_init_1_7 P.length) rfl (fun hq hs => ?_) hq hs
  refine ev_aload_n dX5_init_32 0 rfl trivial ?_
  refine ev_iconst (v := (1 : Int32)) dX5_init_33 kI_1 ?_
  refine cx_putI (a := 0) dX5_init_34 pf_RX5_19 rfl (by decide) rfl rfl rfl hq hs (fun hq hs => ?_)
  refine cx_nm (Q' := qs_X5_init_1_8 P.length) rfl (fun hq hs => ?_) hq hs
  refine ev_aload_n dX5_init_37 0 rfl trivial ?_
  refine ev_iconst (v := (0 : Int32)) dX5_init_38 kI_0 ?_
  refine cx_putI (a := 0) dX5_init_39 pf_RX5_22 rfl (by decide) rfl rfl rfl hq hs (fun hq hs => ?_)
  refine cx_nm (Q' := qs_X5_init_1_9 P.length) rfl (fun hq hs => ?_) hq hs
  refine ev_aload_n dX5_init_42 0 rfl trivial ?_
  refine ev_iconst (v := (3 : Int32)) dX5_init_43 kI_3 ?_
  refine cx_newa0 3 dX5_init_44 w_ac0 (by decide) (by decide) (by decide) 3 13 hq hs hf hg rfl rfl (by decide) (by decide) (fun hq hs => ?_)
  refine cx_nm (Q' := qs_X5_init_1_10 P.length) rfl (fun hq hs => ?_) hq hs
  refine ev_dup dX5_init_46 rfl ?_
  refine ev_iconst (v := (0 : Int32)) dX5_init_47 kI_0 ?_
  refine ev_ldc (v := ((-1000000005) : Int32)) dX5_init_48 tw_31 ?_
  refine cx_iast (a := 2) 0 dX5_init_50 rfl (by decide) (by decide) hq hs (fun hq hs => ?_)
  refine cx_nm (Q' := qs_X5_init_1_11 P.length) rfl (fun hq hs => ?_) hq hs
  refine ev_dup dX5_init_51 rfl ?_
  refine ev_iconst (v := (1 : Int32)) dX5_init_52 kI_1 ?_
  refine ev_ldc (v := ((-1000000005) : Int32)) dX5_init_53 tw_31 ?_
  refine cx_iast (a := 2) 1 dX5_init_55 rfl (by decide) (by decide) hq hs (fun hq hs => ?_)
  refine cx_nm (Q' := qs_X5_init_1_12 P.length) rfl (fun hq hs => ?_) hq hs
  refine ev_dup dX5_init_56 rfl ?_
  refine ev_iconst (v := (2 : Int32)) dX5_init_57 kI_2 ?_
  refine ev_ldc (v := ((-1000000005) : Int32)) dX5_init_58 tw_31 ?_
  refine cx_iast (a := 2) 2 dX5_init_60 rfl (by decide) (by decide) hq hs (fun hq hs => ?_)
  refine cx_nm (Q' := qs_X5_init_1_13 P.length) rfl (fun hq hs => ?_) hq hs
  refine cx_putFR (a := 0) (b := P.length + 2) dX5_init_61 pF_RX5_26 rfl rfl (by decide) (fun _ => rfl) (fun _ => rfl) hq hs (fun hq hs => ?_)
  refine cx_nm (Q' := qs_X5_init_1_14 P.length) rfl (fun hq hs => ?_) hq hs
  refine ev_aload_n dX5_init_64 0 rfl trivial ?_
  refine ev_iload_n dX5_init_65 1 rfl ?_
  refine ev_iconst (v := (0 : Int32)) dX5_init_66 kI_0 ?_
  refine ev_calls [.int (1 : Int32), .int (0 : Int32)] dX5_init_67 ok_J9_max_7cf53 lk_RX5_29 st_J9_max_7cf53 (by decide) rfl (cg_max_1 _) rfl (Nat.le_of_ble_eq_true rfl) (cx_le P (by omega)) (cx_le2 P (by omega)) ?_
  refine cx_anew3 1 dX5_init_70 tw_35 (by decide) (by decide) (by decide) 4 14 hq hs hf hg rfl rfl (by decide) (by decide) (fun hq hs => ?_)
  refine cx_nm (Q' := qs_X5_init_1_15 P.length) rfl (fun hq hs => ?_) hq hs
  refine cx_putFR (a := 0) (b := P.length + 3) dX5_init_73 pF_RX5_37 rfl rfl (by decide) (fun _ => rfl) (fun _ => rfl) hq hs (fun hq hs => ?_)
  refine cx_nm (Q' := qs_X5_init_1_16 P.length) rfl (fun hq hs => ?_) hq hs
  refine ev_iconst (v := (0 : Int32)) dX5_init_76 kI_0 ?_
  refine ev_istore_n (L' := [(2, .int (0 : Int32)), (0, .ref (P.length + 0)), (1, .int (1 : Int32))]) dX5_init_77 (by decide) rfl ?_
  refine ev_iload_n dX5_init_78 0 rfl ?_
  refine ev_aload_n dX5_init_79 1 rfl trivial ?_
  refine cx_getR (a := 0) (b := P.length + 3) dX5_init_80 gf_RX5_37 rfl (by decide) rfl ?_
  refine cx_alen3 (a := 3) dX5_init_83 rfl ?_
  refine ev_icmp_ge 106 dX5_init_84 (by decide) (fun c => absurd c (by decide)) (fun _ => ?_)
  refine ev_aload_n dX5_init_87 1 rfl trivial ?_
  refine cx_getR (a := 0) (b := P.length + 3) dX5_init_88 gf_RX5_37 rfl (by decide) rfl ?_
  refine ev_iload_n dX5_init_91 0 rfl ?_
  refine cx_new rfb0 dX5_init_92 (by decide) okC_0 tw_35 hb_0 5 17 hq hs hf hg rfl rfl (by decide) (by decide) (fun hq hs => ?_)
  refine cx_nm (Q' := qs_X5_init_1_17 P.length) rfl (fun hq hs => ?_) hq hs
  refine ev_dup dX5_init_95 rfl ?_
  refine cx_calli (q := 4) (Q0 := qs_X5_init_1_16 P.length) qX0_init [] dX5_init_96 ok_X0_init rfl lk_RX5_41 in_X0_init rfl (by decide) rfl (cc_X0_init _) 6 41 rfl hq hs hf hg qX0_init_len qX0_init_qs rfl rfl (by decide) (by decide) rfl (Nat.le_of_ble_eq_true rfl) (fun hq hs => ?_)
  refine cx_nm (Q' := qs_X5_init_1_18 P.length) rfl (fun hq hs => ?_) hq hs
  refine cx_aast3 (a := 3) (b := 4) 0 dX5_init_99 rfl (by decide) (by decide) rfl hq hs (fun hq hs => ?_)
  refine cx_nm (Q' := qs_X5_init_1_19 P.length) rfl (fun hq hs => ?_) hq hs
  refine ev_iinc (v := (1 : Int32)) (L' := [(2, .int (1 : Int32)), (0, .ref (P.length + 0)), (1, .int (1 : Int32))]) dX5_init_100 0 rfl (by decide) (by decide) rfl ?_
  refine ev_goto 78 dX5_init_103 (by decide) ?_
  refine ev_iload_n dX5_init_78 0 rfl ?_
  refine ev_aload_n dX5_init_79 1 rfl trivial ?_
  refine cx_getR (a := 0) (b := P.length + 3) dX5_init_80 gf_RX5_37 rfl (by decide) rfl ?_
  refine cx_alen3 (a := 3) dX5_init_83 rfl ?_
  refine ev_icmp_ge 106 dX5_init_84 (by decide) (fun _ => ?_) (fun c => absurd (by decide) c)
  exact ev_vret dX5_init_106 rfl
theorem cc_X5_init_1 {X : Nat × (Nat → Int32)} (P : List am_K) : am_Cn X M_X5_init [.ref P.length, .int (1 : Int32)] (hl (P ++ [((5, 6, rfb5), (fun _ => 0))])) (hl (P ++ qX5_init_1 P.length), none) := am_Cn.of ok_X5_init (cx_le P (by rw [qX5_init_1_len]; decide)) (cx_le2 P (by rw [qX5_init_1_qs]; exact Nat.le_of_ble_eq_true rfl)) (Nat.le_of_ble_eq_true rfl) (ec_X5_init_1 P)
def qs_X1_init_0 (a : Nat) : List am_K := [((1, 9, rfb1), (fun _ => 0))]
def qs_X1_init_1 (a : Nat) : List am_K := [((1, 9, rfb1), (upd (fun _ => 0) 0 (0 : Int32)))]
def qs_X1_init_2 (a : Nat) : List am_K := [((1, 9, rfb1), (upd (upd (fun _ => 0) 0 (0 : Int32)) 1 (0 : Int32)))]
def qs_X1_init_3 (a : Nat) : List am_K := [((1, 9, rfb1), (upd (upd (upd (fun _ => 0) 0 (0 : Int32)) 1 (0 : Int32)) 2 (0 : Int32)))]
def qs_X1_init_4 (a : Nat) : List am_K := [((1, 9, rfb1), (upd (upd (upd (fun _ => 0) 0 (0 : Int32)) 1 (0 : Int32)) 2 (0 : Int32))), ((100, 96, (fun _ => none)), (fun _ => 0))]
def qs_X1_init_5 (a : Nat) : List am_K := [((1, 9, (am_rs rfb1 3 (a + 1))), (upd (upd (upd (fun _ => 0) 0 (0 : Int32)) 1 (0 : Int32)) 2 (0 : Int32))), ((100, 96, (fun _ => none)), (fun _ => 0))]
def qs_X1_init_6 (a : Nat) : List am_K := [((1, 9, (am_rs rfb1 3 (a + 1))), (upd (upd (upd (fun _ => 0) 0 (0 : Int32)) 1 (0 : Int32)) 2 (0 : Int32))), ((100, 96, (fun _ => none)), (fun _ => 0)), ((100, 96, (fun _ => none)), (fun _ => 0))]
def qs_X1_init_7 (a : Nat) : List am_K := [((1, 9, (am_rs (am_rs rfb1 3 (a + 1)) 4 (a + 2))), (upd (upd (upd (fun _ => 0) 0 (0 : Int32)) 1 (0 : Int32)) 2 (0 : Int32))), ((100, 96, (fun _ => none)), (fun _ => 0)), ((100, 96, (fun _ => none)), (fun _ => 0))]
def qs_X1_init_8 (a : Nat) : List am_K := [((1, 9, (am_rs (am_rs rfb1 3 (a + 1)) 4 (a + 2))), (upd (upd (upd (upd (fun _ => 0) 0 (0 : Int32)) 1 (0 : Int32)) 2 (0 : Int32)) 5 (0 : Int32))), ((100, 96, (fun _ => none)), (fun _ => 0)), ((100, 96, (fun _ => none)), (fun _ => 0))]
def qs_X1_init_9 (a : Nat) : List am_K := [((1, 9, (am_rs (am_rs rfb1 3 (a + 1)) 4 (a + 2))), (upd (upd (upd (upd (upd (fun _ => 0) 0 (0 : Int32)) 1 (0 : Int32)) 2 (0 : Int32)) 5 (0 : Int32)) 6 (0 : Int32))), ((100, 96, (fun _ => none)), (fun _ => 0)), ((100, 96, (fun _ => none)), (fun _ => 0))]
def qs_X1_init_10 (a : Nat) : List am_K := [((1, 9, (am_rs (am_rs rfb1 3 (a + 1)) 4 (a + 2))), (upd (upd (upd (upd (upd (upd (fun _ => 0) 0 (0 : Int32)) 1 (0 : Int32)) 2 (0 : Int32)) 5 (0 : Int32)) 6 (0 : Int32)) 7 (0 : Int32))), ((100, 96, (fun _ => none)), (fun _ => 0)), ((100, 96, (fun _ => none)), (fun _ => 0))]
def qs_X1_init_11 (a : Nat) : List am_K := [((1, 9, (am_rs (am_rs rfb1 3 (a + 1)) 4 (a + 2))), (upd (upd (upd (upd (upd (upd (upd (fun _ => 0) 0 (0 : Int32)) 1 (0 : Int32)) 2 (0 : Int32)) 5 (0 : Int32)) 6 (0 : Int32)) 7 (0 : Int32)) 8 (1 : Int32))), ((100, 96, (fun _ => none)), (fun _ => 0)), ((100, 96, (fun _ => none)), (fun _ => 0))]
def qX1_init (a : Nat) : List am_K := [
  ((1, 9, (am_rs (am_rs rfb1 3 (a + 1)) 4 (a + 2))), (upd (upd (upd (upd (upd (upd (upd (fun _ => 0) 0 (0 : Int32)) 1 (0 : Int32)) 2 (0 : Int32)) 5 (0 : Int32)) 6 (0 : Int32)) 7 (0 : Int32)) 8 (1 : Int32))),
  ((100, 96, (fun _ => none)), (fun _ => 0)),
  ((100, 96, (fun _ => none)), (fun _ => 0))]
theorem qX1_init_len (a : Nat) : (qX1_init a).length = 3 := rfl
theorem qX1_init_qs (a : Nat) : am_qs (qX1_init a) = 201 := by simp [qX1_init, am_qs]
set_option maxRecDepth 20000 in
set_option maxHeartbeats 4000000 in
theorem ec_X1_init {X : Nat × (Nat → Int32)} (P : List am_K) : am_Ev X M_X1_init 0 [(0, .ref (P.length + 0))] [] (hl (P ++ [((1, 9, rfb1), (fun _ => 0))])) (hl (P ++ qX1_init P.length), none) := by
  have hq : ([((1, 9, rfb1), (fun _ => 0))] : List am_K).length = 1 := rfl
  have hs : am_qs [((1, 9, rfb1), (fun _ => 0))] = 9 := rfl
  have hf := qX1_init_len P.length
  have hg := qX1_init_qs P.length
  refine ev_aload_n dX1_init_0 0 rfl trivial ?_
  refine ev_objInit dX1_init_1 tw_89 w_oi w_oc (by decide) (Nat.le_of_ble_eq_true rfl) ?_
  refine ev_aload_n dX1_init_4 0 rfl trivial ?_
  refine ev_iconst (v := (0 : Int32)) dX1_init_5 kI_0 ?_
  refine cx_putI (a := 0) dX1_init_6 pf_RX1_9 rfl (by decide) rfl rfl rfl hq hs (fun hq hs => ?_)
  refine cx_nm (Q' := qs_X1_init_1 P.length) rfl (fun hq hs => ?_) hq hs
  refine ev_aload_n dX1_init_9 0 rfl trivial ?_
  refine ev_iconst (v := (0 : Int32)) dX1_init_10 kI_0 ?_
  refine cx_putI (a := 0) dX1_init_11 pf_RX1_15 rfl (by decide) rfl rfl rfl hq hs (fun hq hs => ?_)
  refine cx_nm (Q' := qs_X1_init_2 P.length) rfl (fun hq hs => ?_) hq hs
  refine ev_aload_n dX1_init_14 0 rfl trivial ?_
  refine ev_iconst (v := (0 : Int32)) dX1_init_15 kI_0 ?_
  refine cx_putI (a := 0) dX1_init_16 pf_RX1_18 rfl (by decide) rfl rfl rfl hq hs (fun hq hs => ?_)
  refine cx_nm (Q' := qs_X1_init_3 P.length) rfl (fun hq hs => ?_) hq hs
  refine ev_aload_n dX1_init_19 0 rfl trivial ?_
  refine ev_bipush (v := (96 : Int32)) dX1_init_20 kB_96 ?_
  refine cx_newa0 96 dX1_init_22 w_ac0 (by decide) (by decide) (by decide) 2 105 hq hs hf hg rfl rfl (by decide) (by decide) (fun hq hs => ?_)
  refine cx_nm (Q' := qs_X1_init_4 P.length) rfl (fun hq hs => ?_) hq hs
  refine cx_putFR (a := 0) (b := P.length + 1) dX1_init_24 pF_RX1_21 rfl rfl (by decide) (fun _ => rfl) (fun _ => rfl) hq hs (fun hq hs => ?_)
  refine cx_nm (Q' := qs_X1_init_5 P.length) rfl (fun hq hs => ?_) hq hs
  refine ev_aload_n dX1_init_27 0 rfl trivial ?_
  refine ev_bipush (v := (96 : Int32)) dX1_init_28 kB_96 ?_
  refine cx_newa0 96 dX1_init_30 w_ac0 (by decide) (by decide) (by decide) 3 201 hq hs hf hg rfl rfl (by decide) (by decide) (fun hq hs => ?_)
  refine cx_nm (Q' := qs_X1_init_6 P.length) rfl (fun hq hs => ?_) hq hs
  refine cx_putFR (a := 0) (b := P.length + 2) dX1_init_32 pF_RX1_25 rfl rfl (by decide) (fun _ => rfl) (fun _ => rfl) hq hs (fun hq hs => ?_)
  refine cx_nm (Q' := qs_X1_init_7 P.length) rfl (fun hq hs => ?_) hq hs
  refine ev_aload_n dX1_init_35 0 rfl trivial ?_
  refine ev_iconst (v := (0 : Int32)) dX1_init_36 kI_0 ?_
  refine cx_putI (a := 0) dX1_init_37 pf_RX1_28 rfl (by decide) rfl rfl rfl hq hs (fun hq hs => ?_)
  refine cx_nm (Q' := qs_X1_init_8 P.length) rfl (fun hq hs => ?_) hq hs
  refine ev_aload_n dX1_init_40 0 rfl trivial ?_
  refine ev_iconst (v := (0 : Int32)) dX1_init_41 kI_0 ?_
  refine cx_putI (a := 0) dX1_init_42 pf_RX1_31 rfl (by decide) rfl rfl rfl hq hs (fun hq hs => ?_)
  refine cx_nm (Q' := qs_X1_init_9 P.length) rfl (fun hq hs => ?_) hq hs
  refine ev_aload_n dX1_init_45 0 rfl trivial ?_
  refine ev_iconst (v := (0 : Int32)) dX1_init_46 kI_0 ?_
  refine cx_putI (a := 0) dX1_init_47 pf_RX1_34 rfl (by decide) rfl rfl rfl hq hs (fun hq hs => ?_)
  refine cx_nm (Q' := qs_X1_init_10 P.length) rfl (fun hq hs => ?_) hq hs
  refine ev_aload_n dX1_init_50 0 rfl trivial ?_
  refine ev_iconst (v := (1 : Int32)) dX1_init_51 kI_1 ?_
  refine cx_putI (a := 0) dX1_init_52 pf_RX1_37 rfl (by decide) rfl (am_zn (Or.inr rfl)) (am_zf (Or.inr rfl)) hq hs (fun hq hs => ?_)
  refine cx_nm (Q' := qs_X1_init_11 P.length) rfl (fun hq hs => ?_) hq hs
  exact ev_vret dX1_init_55 rfl
theorem cc_X1_init {X : Nat × (Nat → Int32)} (P : List am_K) : am_Cn X M_X1_init [.ref P.length] (hl (P ++ [((1, 9, rfb1), (fun _ => 0))])) (hl (P ++ qX1_init P.length), none) := am_Cn.of ok_X1_init (cx_le P (by rw [qX1_init_len]; decide)) (cx_le2 P (by rw [qX1_init_qs]; exact Nat.le_of_ble_eq_true rfl)) (Nat.le_of_ble_eq_true rfl) (ec_X1_init P)
def qs_X4_init_0 (a : Nat) : List am_K := [((4, 4, rfb4), (fun _ => 0))]
def qs_X4_init_1 (a : Nat) : List am_K := [((4, 4, rfb4), (upd (fun _ => 0) 0 (0 : Int32)))]
def qs_X4_init_2 (a : Nat) : List am_K := [((4, 4, rfb4), (upd (upd (fun _ => 0) 0 (0 : Int32)) 1 (0 : Int32)))]
def qs_X4_init_3 (a : Nat) : List am_K := [((4, 4, rfb4), (upd (upd (upd (fun _ => 0) 0 (0 : Int32)) 1 (0 : Int32)) 2 (0 : Int32)))]
def qs_X4_init_4 (a : Nat) : List am_K := [((4, 4, rfb4), (upd (upd (upd (fun _ => 0) 0 (0 : Int32)) 1 (0 : Int32)) 2 (0 : Int32))), ((100, 96, (fun _ => none)), (fun _ => 0))]
def qs_X4_init_5 (a : Nat) : List am_K := [((4, 4, (am_rs rfb4 3 (a + 1))), (upd (upd (upd (fun _ => 0) 0 (0 : Int32)) 1 (0 : Int32)) 2 (0 : Int32))), ((100, 96, (fun _ => none)), (fun _ => 0))]
def qX4_init (a : Nat) : List am_K := [
  ((4, 4, (am_rs rfb4 3 (a + 1))), (upd (upd (upd (fun _ => 0) 0 (0 : Int32)) 1 (0 : Int32)) 2 (0 : Int32))),
  ((100, 96, (fun _ => none)), (fun _ => 0))]
theorem qX4_init_len (a : Nat) : (qX4_init a).length = 2 := rfl
theorem qX4_init_qs (a : Nat) : am_qs (qX4_init a) = 100 := by simp [qX4_init, am_qs]
set_option maxRecDepth 20000 in
set_option maxHeartbeats 4000000 in
theorem ec_X4_init {X : Nat × (Nat → Int32)} (P : List am_K) : am_Ev X M_X4_init 0 [(0, .ref (P.length + 0))] [] (hl (P ++ [((4, 4, rfb4), (fun _ => 0))])) (hl (P ++ qX4_init P.length), none) := by
  have hq : ([((4, 4, rfb4), (fun _ => 0))] : List am_K).length = 1 := rfl
  have hs : am_qs [((4, 4, rfb4), (fun _ => 0))] = 4 := rfl
  have hf := qX4_init_len P.length
  have hg := qX4_init_qs P.length
  refine ev_aload_n dX4_init_0 0 rfl trivial ?_
  refine ev_objInit dX4_init_1 tw_130 w_oi w_oc (by decide) (Nat.le_of_ble_eq_true rfl) ?_
  refine ev_aload_n dX4_init_4 0 rfl trivial ?_
  refine ev_iconst (v := (0 : Int32)) dX4_init_5 kI_0 ?_
  refine cx_putI (a := 0) dX4_init_6 pf_RX4_9 rfl (by decide) rfl rfl rfl hq hs (fun hq hs => ?_)
  refine cx_nm (Q' := qs_X4_init_1 P.length) rfl (fun hq hs => ?_) hq hs
  refine ev_aload_n dX4_init_9 0 rfl trivial ?_
  refine ev_iconst (v := (0 : Int32)) dX4_init_10 kI_0 ?_
  refine cx_putI (a := 0) dX4_init_11 pf_RX4_15 rfl (by decide) rfl rfl rfl hq hs (fun hq hs => ?_)
  refine cx_nm (Q' := qs_X4_init_2 P.length) rfl (fun hq hs => ?_) hq hs
  refine ev_aload_n dX4_init_14 0 rfl trivial ?_
  refine ev_iconst (v := (0 : Int32)) dX4_init_15 kI_0 ?_
  refine cx_putI (a := 0) dX4_init_16 pf_RX4_18 rfl (by decide) rfl rfl rfl hq hs (fun hq hs => ?_)
  refine cx_nm (Q' := qs_X4_init_3 P.length) rfl (fun hq hs => ?_) hq hs
  refine ev_aload_n dX4_init_19 0 rfl trivial ?_
  refine ev_bipush (v := (96 : Int32)) dX4_init_20 kB_96 ?_
  refine cx_newa0 96 dX4_init_22 w_ac0 (by decide) (by decide) (by decide) 2 100 hq hs hf hg rfl rfl (by decide) (by decide) (fun hq hs => ?_)
  refine cx_nm (Q' := qs_X4_init_4 P.length) rfl (fun hq hs => ?_) hq hs
  refine cx_putFR (a := 0) (b := P.length + 1) dX4_init_24 pF_RX4_21 rfl rfl (by decide) (fun _ => rfl) (fun _ => rfl) hq hs (fun hq hs => ?_)
  refine cx_nm (Q' := qs_X4_init_5 P.length) rfl (fun hq hs => ?_) hq hs
  exact ev_vret dX4_init_27 rfl
theorem cc_X4_init {X : Nat × (Nat → Int32)} (P : List am_K) : am_Cn X M_X4_init [.ref P.length] (hl (P ++ [((4, 4, rfb4), (fun _ => 0))])) (hl (P ++ qX4_init P.length), none) := am_Cn.of ok_X4_init (cx_le P (by rw [qX4_init_len]; decide)) (cx_le2 P (by rw [qX4_init_qs]; exact Nat.le_of_ble_eq_true rfl)) (Nat.le_of_ble_eq_true rfl) (ec_X4_init P)
def qs_X2_init_0 (a : Nat) : List am_K := [((2, 3, rfb2), (fun _ => 0))]
def qs_X2_init_1 (a : Nat) : List am_K := [((2, 3, rfb2), (upd (fun _ => 0) 0 ((-1) : Int32)))]
def qs_X2_init_2 (a : Nat) : List am_K := [((2, 3, rfb2), (upd (upd (fun _ => 0) 0 ((-1) : Int32)) 1 (0 : Int32)))]
def qs_X2_init_3 (a : Nat) : List am_K := [((2, 3, rfb2), (upd (upd (fun _ => 0) 0 ((-1) : Int32)) 1 (0 : Int32))), ((100, 24, (fun _ => none)), (fun _ => 0))]
def qs_X2_init_4 (a : Nat) : List am_K := [((2, 3, (am_rs rfb2 2 (a + 1))), (upd (upd (fun _ => 0) 0 ((-1) : Int32)) 1 (0 : Int32))), ((100, 24, (fun _ => none)), (fun _ => 0))]
def qX2_init (a : Nat) : List am_K := [
  ((2, 3, (am_rs rfb2 2 (a + 1))), (upd (upd (fun _ => 0) 0 ((-1) : Int32)) 1 (0 : Int32))),
  ((100, 24, (fun _ => none)), (fun _ => 0))]
theorem qX2_init_len (a : Nat) : (qX2_init a).length = 2 := rfl
theorem qX2_init_qs (a : Nat) : am_qs (qX2_init a) = 27 := by simp [qX2_init, am_qs]
set_option maxRecDepth 20000 in
set_option maxHeartbeats 4000000 in
theorem ec_X2_init {X : Nat × (Nat → Int32)} (P : List am_K) : am_Ev X M_X2_init 0 [(0, .ref (P.length + 0))] [] (hl (P ++ [((2, 3, rfb2), (fun _ => 0))])) (hl (P ++ qX2_init P.length), none) := by
  have hq : ([((2, 3, rfb2), (fun _ => 0))] : List am_K).length = 1 := rfl
  have hs : am_qs [((2, 3, rfb2), (fun _ => 0))] = 3 := rfl
  have hf := qX2_init_len P.length
  have hg := qX2_init_qs P.length
  refine ev_aload_n dX2_init_0 0 rfl trivial ?_
  refine ev_objInit dX2_init_1 tw_150 w_oi w_oc (by decide) (Nat.le_of_ble_eq_true rfl) ?_
  refine ev_aload_n dX2_init_4 0 rfl trivial ?_
  refine ev_iconst (v := ((-1) : Int32)) dX2_init_5 kI_m1 ?_
  refine cx_putI (a := 0) dX2_init_6 pf_RX2_9 rfl (by decide) rfl rfl rfl hq hs (fun hq hs => ?_)
  refine cx_nm (Q' := qs_X2_init_1 P.length) rfl (fun hq hs => ?_) hq hs
  refine ev_aload_n dX2_init_9 0 rfl trivial ?_
  refine ev_iconst (v := (0 : Int32)) dX2_init_10 kI_0 ?_
  refine cx_putI (a := 0) dX2_init_11 pf_RX2_15 rfl (by decide) rfl rfl rfl hq hs (fun hq hs => ?_)
  refine cx_nm (Q' := qs_X2_init_2 P.length) rfl (fun hq hs => ?_) hq hs
  refine ev_aload_n dX2_init_14 0 rfl trivial ?_
  refine ev_bipush (v := (24 : Int32)) dX2_init_15 kB_24 ?_
  refine cx_newa0 24 dX2_init_17 w_ac0 (by decide) (by decide) (by decide) 2 27 hq hs hf hg rfl rfl (by decide) (by decide) (fun hq hs => ?_)
  refine cx_nm (Q' := qs_X2_init_3 P.length) rfl (fun hq hs => ?_) hq hs
  refine cx_putFR (a := 0) (b := P.length + 1) dX2_init_19 pF_RX2_18 rfl rfl (by decide) (fun _ => rfl) (fun _ => rfl) hq hs (fun hq hs => ?_)
  refine cx_nm (Q' := qs_X2_init_4 P.length) rfl (fun hq hs => ?_) hq hs
  exact ev_vret dX2_init_22 rfl
theorem cc_X2_init {X : Nat × (Nat → Int32)} (P : List am_K) : am_Cn X M_X2_init [.ref P.length] (hl (P ++ [((2, 3, rfb2), (fun _ => 0))])) (hl (P ++ qX2_init P.length), none) := am_Cn.of ok_X2_init (cx_le P (by rw [qX2_init_len]; decide)) (cx_le2 P (by rw [qX2_init_qs]; exact Nat.le_of_ble_eq_true rfl)) (Nat.le_of_ble_eq_true rfl) (ec_X2_init P)
def qs_X3_init_0 (a : Nat) : List am_K := [((3, 4, rfb3), (fun _ => 0))]
def qs_X3_init_1 (a : Nat) : List am_K := [((3, 4, rfb3), (upd (fun _ => 0) 0 (0 : Int32)))]
def qs_X3_init_2 (a : Nat) : List am_K := [((3, 4, rfb3), (upd (fun _ => 0) 0 (0 : Int32))), ((0, 3, rfb0), (fun _ => 0))]
def qs_X3_init_3 (a : Nat) : List am_K := [((3, 4, rfb3), (upd (fun _ => 0) 0 (0 : Int32))), ((0, 3, (am_rs rfb0 0 (a + 2))), (upd (upd (fun _ => 0) 1 (0 : Int32)) 2 (0 : Int32))), ((100, 24, (fun _ => none)), (fun _ => 0))]
def qs_X3_init_4 (a : Nat) : List am_K := [((3, 4, (am_rs rfb3 1 (a + 1))), (upd (fun _ => 0) 0 (0 : Int32))), ((0, 3, (am_rs rfb0 0 (a + 2))), (upd (upd (fun _ => 0) 1 (0 : Int32)) 2 (0 : Int32))), ((100, 24, (fun _ => none)), (fun _ => 0))]
def qs_X3_init_5 (a : Nat) : List am_K := [((3, 4, (am_rs rfb3 1 (a + 1))), (upd (fun _ => 0) 0 (0 : Int32))), ((0, 3, (am_rs rfb0 0 (a + 2))), (upd (upd (fun _ => 0) 1 (0 : Int32)) 2 (0 : Int32))), ((100, 24, (fun _ => none)), (fun _ => 0)), ((2, 3, rfb2), (fun _ => 0))]
def qs_X3_init_6 (a : Nat) : List am_K := [((3, 4, (am_rs rfb3 1 (a + 1))), (upd (fun _ => 0) 0 (0 : Int32))), ((0, 3, (am_rs rfb0 0 (a + 2))), (upd (upd (fun _ => 0) 1 (0 : Int32)) 2 (0 : Int32))), ((100, 24, (fun _ => none)), (fun _ => 0)), ((2, 3, (am_rs rfb2 2 (a + 4))), (upd (upd (fun _ => 0) 0 ((-1) : Int32)) 1 (0 : Int32))), ((100, 24, (fun _ => none)), (fun _ => 0))]
def qs_X3_init_7 (a : Nat) : List am_K := [((3, 4, (am_rs (am_rs rfb3 1 (a + 1)) 2 (a + 3))), (upd (fun _ => 0) 0 (0 : Int32))), ((0, 3, (am_rs rfb0 0 (a + 2))), (upd (upd (fun _ => 0) 1 (0 : Int32)) 2 (0 : Int32))), ((100, 24, (fun _ => none)), (fun _ => 0)), ((2, 3, (am_rs rfb2 2 (a + 4))), (upd (upd (fun _ => 0) 0 ((-1) : Int32)) 1 (0 : Int32))), ((100, 24, (fun _ => none)), (fun _ => 0))]
def qs_X3_init_8 (a : Nat) : List am_K := [((3, 4, (am_rs (am_rs rfb3 1 (a + 1)) 2 (a + 3))), (upd (upd (fun _ => 0) 0 (0 : Int32)) 3 (0 : Int32))), ((0, 3, (am_rs rfb0 0 (a + 2))), (upd (upd (fun _ => 0) 1 (0 : Int32)) 2 (0 : Int32))), ((100, 24, (fun _ => none)), (fun _ => 0)), ((2, 3, (am_rs rfb2 2 (a + 4))), (upd (upd (fun _ => 0) 0 ((-1) : Int32)) 1 (0 : Int32))), ((100, 24, (fun _ => none)), (fun _ => 0))]
def qX3_init (a : Nat) : List am_K := [
  ((3, 4, (am_rs (am_rs rfb3 1 (a + 1)) 2 (a + 3))), (upd (upd (fun _ => 0) 0 (0 : Int32)) 3 (0 : Int32))),
  ((0, 3, (am_rs rfb0 0 (a + 2))), (upd (upd (fun _ => 0) 1 (0 : Int32)) 2 (0 : Int32))),
  ((100, 24, (fun _ => none)), (fun _ => 0)),
  ((2, 3, (am_rs rfb2 2 (a + 4))), (upd (upd (fun _ => 0) 0 ((-1) : Int32)) 1 (0 : Int32))),
  ((100, 24, (fun _ => none)), (fun _ => 0))]
theorem qX3_init_len (a : Nat) : (qX3_init a).length = 5 := rfl
theorem qX3_init_qs (a : Nat) : am_qs (qX3_init a) = 58 := by simp [qX3_init, am_qs]
set_option maxRecDepth 20000 in
set_option maxHeartbeats 4000000 in
theorem ec_X3_init {X : Nat × (Nat → Int32)} (P : List am_K) : am_Ev X M_X3_init 0 [(0, .ref (P.length + 0))] [] (hl (P ++ [((3, 4, rfb3), (fun _ => 0))])) (hl (P ++ qX3_init P.length), none) := by
  have hq : ([((3, 4, rfb3), (fun _ => 0))] : List am_K).length = 1 := rfl
  have hs : am_qs [((3, 4, rfb3), (fun _ => 0))] = 4 := rfl
  have hf := qX3_init_len P.length
  have hg := qX3_init_qs P.length
  refine ev_aload_n dX3_init_0 0 rfl trivial ?_
  refine ev_objInit dX3_init_1 tw_167 w_oi w_oc (by decide) (Nat.le_of_ble_eq_true rfl) ?_
  refine ev_aload_n dX3_init_4 0 rfl trivial ?_
  refine ev_iconst (v := (0 : Int32)) dX3_init_5 kI_0 ?_
  refine cx_putI (a := 0) dX3_init_6 pf_RX3_9 rfl (by decide) rfl rfl rfl hq hs (fun hq hs => ?_)
  refine cx_nm (Q' := qs_X3_init_1 P.length) rfl (fun hq hs => ?_) hq hs
  refine ev_aload_n dX3_init_9 0 rfl trivial ?_
  refine cx_new rfb0 dX3_init_10 (by decide) okC_0 tw_168 hb_0 2 7 hq hs hf hg rfl rfl (by decide) (by decide) (fun hq hs => ?_)
  refine cx_nm (Q' := qs_X3_init_2 P.length) rfl (fun hq hs => ?_) hq hs
  refine ev_dup dX3_init_13 rfl ?_
  refine cx_calli (q := 1) (Q0 := qs_X3_init_1 P.length) qX0_init [] dX3_init_14 ok_X0_init rfl lk_RX3_17 in_X0_init rfl (by decide) rfl (cc_X0_init _) 3 31 rfl hq hs hf hg qX0_init_len qX0_init_qs rfl rfl (by decide) (by decide) rfl (Nat.le_of_ble_eq_true rfl) (fun hq hs => ?_)
  refine cx_nm (Q' := qs_X3_init_3 P.length) rfl (fun hq hs => ?_) hq hs
  refine cx_putFR (a := 0) (b := P.length + 1) dX3_init_17 pF_RX3_18 rfl rfl (by decide) (fun _ => rfl) (fun _ => rfl) hq hs (fun hq hs => ?_)
  refine cx_nm (Q' := qs_X3_init_4 P.length) rfl (fun hq hs => ?_) hq hs
  refine ev_aload_n dX3_init_20 0 rfl trivial ?_
  refine cx_new rfb2 dX3_init_21 (by decide) okC_2 tw_170 hb_2 4 34 hq hs hf hg rfl rfl (by decide) (by decide) (fun hq hs => ?_)
  refine cx_nm (Q' := qs_X3_init_5 P.length) rfl (fun hq hs => ?_) hq hs
  refine ev_dup dX3_init_24 rfl ?_
  refine cx_calli (q := 3) (Q0 := qs_X3_init_4 P.length) qX2_init [] dX3_init_25 ok_X2_init rfl lk_RX3_24 in_X2_init rfl (by decide) rfl (cc_X2_init _) 5 58 rfl hq hs hf hg qX2_init_len qX2_init_qs rfl rfl (by decide) (by decide) rfl (Nat.le_of_ble_eq_true rfl) (fun hq hs => ?_)
  refine cx_nm (Q' := qs_X3_init_6 P.length) rfl (fun hq hs => ?_) hq hs
  refine cx_putFR (a := 0) (b := P.length + 3) dX3_init_28 pF_RX3_25 rfl rfl (by decide) (fun _ => rfl) (fun _ => rfl) hq hs (fun hq hs => ?_)
  refine cx_nm (Q' := qs_X3_init_7 P.length) rfl (fun hq hs => ?_) hq hs
  refine ev_aload_n dX3_init_31 0 rfl trivial ?_
  refine ev_iconst (v := (0 : Int32)) dX3_init_32 kI_0 ?_
  refine cx_putI (a := 0) dX3_init_33 pf_RX3_29 rfl (by decide) rfl rfl rfl hq hs (fun hq hs => ?_)
  refine cx_nm (Q' := qs_X3_init_8 P.length) rfl (fun hq hs => ?_) hq hs
  exact ev_vret dX3_init_36 rfl
theorem cc_X3_init {X : Nat × (Nat → Int32)} (P : List am_K) : am_Cn X M_X3_init [.ref P.length] (hl (P ++ [((3, 4, rfb3), (fun _ => 0))])) (hl (P ++ qX3_init P.length), none) := am_Cn.of ok_X3_init (cx_le P (by rw [qX3_init_len]; decide)) (cx_le2 P (by rw [qX3_init_qs]; exact Nat.le_of_ble_eq_true rfl)) (Nat.le_of_ble_eq_true rfl) (ec_X3_init P)
def qs_X7_init_0 (a : Nat) : List am_K := [((7, 34, rfb7), (fun _ => 0))]
def qs_X7_init_1 (a : Nat) : List am_K := [((7, 34, rfb7), (fun _ => 0)), ((100, 1535, (fun _ => none)), (fun _ => 0))]
def qs_X7_init_2 (a : Nat) : List am_K := [((7, 34, (am_rs rfb7 0 (a + 1))), (fun _ => 0)), ((100, 1535, (fun _ => none)), (fun _ => 0))]
def qs_X7_init_3 (a : Nat) : List am_K := [((7, 34, (am_rs rfb7 0 (a + 1))), (fun _ => 0)), ((100, 1535, (fun _ => none)), (fun _ => 0)), ((100, 1535, (fun _ => none)), (fun _ => 0))]
def qs_X7_init_4 (a : Nat) : List am_K := [((7, 34, (am_rs (am_rs rfb7 0 (a + 1)) 1 (a + 2))), (fun _ => 0)), ((100, 1535, (fun _ => none)), (fun _ => 0)), ((100, 1535, (fun _ => none)), (fun _ => 0))]
def qs_X7_init_5 (a : Nat) : List am_K := [((7, 34, (am_rs (am_rs rfb7 0 (a + 1)) 1 (a + 2))), (fun _ => 0)), ((100, 1535, (fun _ => none)), (fun _ => 0)), ((100, 1535, (fun _ => none)), (fun _ => 0)), ((100, 1535, (fun _ => none)), (fun _ => 0))]
def qs_X7_init_6 (a : Nat) : List am_K := [((7, 34, (am_rs (am_rs (am_rs rfb7 0 (a + 1)) 1 (a + 2)) 2 (a + 3))), (fun _ => 0)), ((100, 1535, (fun _ => none)), (fun _ => 0)), ((100, 1535, (fun _ => none)), (fun _ => 0)), ((100, 1535, (fun _ => none)), (fun _ => 0))]
def qs_X7_init_7 (a : Nat) : List am_K := [((7, 34, (am_rs (am_rs (am_rs rfb7 0 (a + 1)) 1 (a + 2)) 2 (a + 3))), (fun _ => 0)), ((100, 1535, (fun _ => none)), (fun _ => 0)), ((100, 1535, (fun _ => none)), (fun _ => 0)), ((100, 1535, (fun _ => none)), (fun _ => 0)), ((100, 24, (fun _ => none)), (fun _ => 0))]
def qs_X7_init_8 (a : Nat) : List am_K := [((7, 34, (am_rs (am_rs (am_rs (am_rs rfb7 0 (a + 1)) 1 (a + 2)) 2 (a + 3)) 4 (a + 4))), (fun _ => 0)), ((100, 1535, (fun _ => none)), (fun _ => 0)), ((100, 1535, (fun _ => none)), (fun _ => 0)), ((100, 1535, (fun _ => none)), (fun _ => 0)), ((100, 24, (fun _ => none)), (fun _ => 0))]
def qs_X7_init_9 (a : Nat) : List am_K := [((7, 34, (am_rs (am_rs (am_rs (am_rs rfb7 0 (a + 1)) 1 (a + 2)) 2 (a + 3)) 4 (a + 4))), (fun _ => 0)), ((100, 1535, (fun _ => none)), (fun _ => 0)), ((100, 1535, (fun _ => none)), (fun _ => 0)), ((100, 1535, (fun _ => none)), (fun _ => 0)), ((100, 24, (fun _ => none)), (fun _ => 0)), ((100, 26, (fun _ => none)), (fun _ => 0))]
def qs_X7_init_10 (a : Nat) : List am_K := [((7, 34, (am_rs (am_rs (am_rs (am_rs (am_rs rfb7 0 (a + 1)) 1 (a + 2)) 2 (a + 3)) 4 (a + 4)) 5 (a + 5))), (fun _ => 0)), ((100, 1535, (fun _ => none)), (fun _ => 0)), ((100, 1535, (fun _ => none)), (fun _ => 0)), ((100, 1535, (fun _ => none)), (fun _ => 0)), ((100, 24, (fun _ => none)), (fun _ => 0)), ((100, 26, (fun _ => none)), (fun _ => 0))]
def qs_X7_init_11 (a : Nat) : List am_K := [((7, 34, (am_rs (am_rs (am_rs (am_rs (am_rs rfb7 0 (a + 1)) 1 (a + 2)) 2 (a + 3)) 4 (a + 4)) 5 (a + 5))), (fun _ => 0)), ((100, 1535, (fun _ => none)), (fun _ => 0)), ((100, 1535, (fun _ => none)), (fun _ => 0)), ((100, 1535, (fun _ => none)), (fun _ => 0)), ((100, 24, (fun _ => none)), (fun _ => 0)), ((100, 26, (fun _ => none)), (fun _ => 0)), ((100, 96, (fun _ => none)), (fun _ => 0))]
def qs_X7_init_12 (a : Nat) : List am_K := [((7, 34, (am_rs (am_rs (am_rs (am_rs (am_rs (am_rs rfb7 0 (a + 1)) 1 (a + 2)) 2 (a + 3)) 4 (a + 4)) 5 (a + 5)) 6 (a + 6))), (fun _ => 0)), ((100, 1535, (fun _ => none)), (fun _ => 0)), ((100, 1535, (fun _ => none)), (fun _ => 0)), ((100, 1535, (fun _ => none)), (fun _ => 0)), ((100, 24, (fun _ => none)), (fun _ => 0)), ((100, 26, (fun _ => none)), (fun _ => 0)), ((100, 96, (fun _ => none)), (fun _ => 0))]
def qs_X7_init_13 (a : Nat) : List am_K := [((7, 34, (am_rs (am_rs (am_rs (am_rs (am_rs (am_rs rfb7 0 (a + 1)) 1 (a + 2)) 2 (a + 3)) 4 (a + 4)) 5 (a + 5)) 6 (a + 6))), (fun _ => 0)), ((100, 1535, (fun _ => none)), (fun _ => 0)), ((100, 1535, (fun _ => none)), (fun _ => 0)), ((100, 1535, (fun _ => none)), (fun _ => 0)), ((100, 24, (fun _ => none)), (fun _ => 0)), ((100, 26, (fun _ => none)), (fun _ => 0)), ((100, 96, (fun _ => none)), (fun _ => 0)), ((102, 13, (fun _ => none)), (fun _ => 0))]
def qs_X7_init_14 (a : Nat) : List am_K := [((7, 34, (am_rs (am_rs (am_rs (am_rs (am_rs (am_rs rfb7 0 (a + 1)) 1 (a + 2)) 2 (a + 3)) 4 (a + 4)) 5 (a + 5)) 6 (a + 6))), (fun _ => 0)), ((100, 1535, (fun _ => none)), (fun _ => 0)), ((100, 1535, (fun _ => none)), (fun _ => 0)), ((100, 1535, (fun _ => none)), (fun _ => 0)), ((100, 24, (fun _ => none)), (fun _ => 0)), ((100, 26, (fun _ => none)), (fun _ => 0)), ((100, 96, (fun _ => none)), (fun _ => 0)), ((102, 13, (fun _ => none)), (upd (fun _ => 0) 0 (108 : Int32)))]
def qs_X7_init_15 (a : Nat) : List am_K := [((7, 34, (am_rs (am_rs (am_rs (am_rs (am_rs (am_rs rfb7 0 (a + 1)) 1 (a + 2)) 2 (a + 3)) 4 (a + 4)) 5 (a + 5)) 6 (a + 6))), (fun _ => 0)), ((100, 1535, (fun _ => none)), (fun _ => 0)), ((100, 1535, (fun _ => none)), (fun _ => 0)), ((100, 1535, (fun _ => none)), (fun _ => 0)), ((100, 24, (fun _ => none)), (fun _ => 0)), ((100, 26, (fun _ => none)), (fun _ => 0)), ((100, 96, (fun _ => none)), (fun _ => 0)), ((102, 13, (fun _ => none)), (upd (upd (fun _ => 0) 0 (108 : Int32)) 1 (105 : Int32)))]
def qs_X7_init_16 (a : Nat) : List am_K := [((7, 34, (am_rs (am_rs (am_rs (am_rs (am_rs (am_rs rfb7 0 (a + 1)) 1 (a + 2)) 2 (a + 3)) 4 (a + 4)) 5 (a + 5)) 6 (a + 6))), (fun _ => 0)), ((100, 1535, (fun _ => none)), (fun _ => 0)), ((100, 1535, (fun _ => none)), (fun _ => 0)), ((100, 1535, (fun _ => none)), (fun _ => 0)), ((100, 24, (fun _ => none)), (fun _ => 0)), ((100, 26, (fun _ => none)), (fun _ => 0)), ((100, 96, (fun _ => none)), (fun _ => 0)), ((102, 13, (fun _ => none)), (upd (upd (upd (fun _ => 0) 0 (108 : Int32)) 1 (105 : Int32)) 2 (102 : Int32)))]
def qs_X7_init_17 (a : Nat) : List am_K := [((7, 34, (am_rs (am_rs (am_rs (am_rs (am_rs (am_rs rfb7 0 (a + 1)) 1 (a + 2)) 2 (a + 3)) 4 (a + 4)) 5 (a + 5)) 6 (a + 6))), (fun _ => 0)), ((100, 1535, (fun _ => none)), (fun _ => 0)), ((100, 1535, (fun _ => none)), (fun _ => 0)), ((100, 1535, (fun _ => none)), (fun _ => 0)), ((100, 24, (fun _ => none)), (fun _ => 0)), ((100, 26, (fun _ => none)), (fun _ => 0)), ((100, 96, (fun _ => none)), (fun _ => 0)), ((102, 13, (fun _ => none)), (upd (upd (upd (upd (fun _ => 0) 0 (108 : Int32)) 1 (105 : Int32)) 2 (102 : Int32)) 3 (116 : Int32)))]
def qs_X7_init_18 (a : Nat) : List am_K := [((7, 34, (am_rs (am_rs (am_rs (am_rs (am_rs (am_rs rfb7 0 (a + 1)) 1 (a + 2)) 2 (a + 3)) 4 (a + 4)) 5 (a + 5)) 6 (a + 6))), (fun _ => 0)), ((100, 1535, (fun _ => none)), (fun _ => 0)), ((100, 1535, (fun _ => none)), (fun _ => 0)), ((100, 1535, (fun _ => none)), (fun _ => 0)), ((100, 24, (fun _ => none)), (fun _ => 0)), ((100, 26, (fun _ => none)), (fun _ => 0)), ((100, 96, (fun _ => none)), (fun _ => 0)), ((102, 13, (fun _ => none)), (upd (upd (upd (upd (upd (fun _ => 0) 0 (108 : Int32)) 1 (105 : Int32)) 2 (102 : Int32)) 3 (116 : Int32)) 4 (115 : Int32)))]
def qs_X7_init_19 (a : Nat) : List am_K := [((7, 34, (am_rs (am_rs (am_rs (am_rs (am_rs (am_rs rfb7 0 (a + 1)) 1 (a + 2)) 2 (a + 3)) 4 (a + 4)) 5 (a + 5)) 6 (a + 6))), (fun _ => 0)), ((100, 1535, (fun _ => none)), (fun _ => 0)), ((100, 1535, (fun _ => none)), (fun _ => 0)), ((100, 1535, (fun _ => none)), (fun _ => 0)), ((100, 24, (fun _ => none)), (fun _ => 0)), ((100, 26, (fun _ => none)), (fun _ => 0)), ((100, 96, (fun _ => none)), (fun _ => 0)), ((102, 13, (fun _ => none)), (upd (upd (upd (upd (upd (upd (fun _ => 0) 0 (108 : Int32)) 1 (105 : Int32)) 2 (102 : Int32)) 3 (116 : Int32)) 4 (115 : Int32)) 5 (108 : Int32)))]
def qs_X7_init_20 (a : Nat) : List am_K := [((7, 34, (am_rs (am_rs (am_rs (am_rs (am_rs (am_rs rfb7 0 (a + 1)) 1 (a + 2)) 2 (a + 3)) 4 (a + 4)) 5 (a + 5)) 6 (a + 6))), (fun _ => 0)), ((100, 1535, (fun _ => none)), (fun _ => 0)), ((100, 1535, (fun _ => none)), (fun _ => 0)), ((100, 1535, (fun _ => none)), (fun _ => 0)), ((100, 24, (fun _ => none)), (fun _ => 0)), ((100, 26, (fun _ => none)), (fun _ => 0)), ((100, 96, (fun _ => none)), (fun _ => 0)), ((102, 13, (fun _ => none)), (upd (upd (upd (upd (upd (upd (upd (fun _ => 0) 0 (108 : Int32)) 1 (105 : Int32)) 2 (102 : Int32)) 3 (116 : Int32)) 4 (115 : Int32)) 5 (108 : Int32)) 6 (105 : Int32)))]
def qs_X7_init_21 (a : Nat) : List am_K := [((7, 34, (am_rs (am_rs (am_rs (am_rs (am_rs (am_rs rfb7 0 (a + 1)) 1 (a + 2)) 2 (a + 3)) 4 (a + 4)) 5 (a + 5)) 6 (a + 6))), (fun _ => 0)), ((100, 1535, (fun _ => none)), (fun _ => 0)), ((100, 1535, (fun _ => none)), (fun _ => 0)), ((100, 1535, (fun _ => none)), (fun _ => 0)), ((100, 24, (fun _ => none)), (fun _ => 0)), ((100, 26, (fun _ => none)), (fun _ => 0)), ((100, 96, (fun _ => none)), (fun _ => 0)), ((102, 13, (fun _ => none)), (upd (upd (upd (upd (upd (upd (upd (upd (fun _ => 0) 0 (108 : Int32)) 1 (105 : Int32)) 2 (102 : Int32)) 3 (116 : Int32)) 4 (115 : Int32)) 5 (108 : Int32)) 6 (105 : Int32)) 7 (100 : Int32)))]
def qs_X7_init_22 (a : Nat) : List am_K := [((7, 34, (am_rs (am_rs (am_rs (am_rs (am_rs (am_rs rfb7 0 (a + 1)) 1 (a + 2)) 2 (a + 3)) 4 (a + 4)) 5 (a + 5)) 6 (a + 6))), (fun _ => 0)), ((100, 1535, (fun _ => none)), (fun _ => 0)), ((100, 1535, (fun _ => none)), (fun _ => 0)), ((100, 1535, (fun _ => none)), (fun _ => 0)), ((100, 24, (fun _ => none)), (fun _ => 0)), ((100, 26, (fun _ => none)), (fun _ => 0)), ((100, 96, (fun _ => none)), (fun _ => 0)), ((102, 13, (fun _ => none)), (upd (upd (upd (upd (upd (upd (upd (upd (upd (fun _ => 0) 0 (108 : Int32)) 1 (105 : Int32)) 2 (102 : Int32)) 3 (116 : Int32)) 4 (115 : Int32)) 5 (108 : Int32)) 6 (105 : Int32)) 7 (100 : Int32)) 8 (101 : Int32)))]
def qs_X7_init_23 (a : Nat) : List am_K := [((7, 34, (am_rs (am_rs (am_rs (am_rs (am_rs (am_rs rfb7 0 (a + 1)) 1 (a + 2)) 2 (a + 3)) 4 (a + 4)) 5 (a + 5)) 6 (a + 6))), (fun _ => 0)), ((100, 1535, (fun _ => none)), (fun _ => 0)), ((100, 1535, (fun _ => none)), (fun _ => 0)), ((100, 1535, (fun _ => none)), (fun _ => 0)), ((100, 24, (fun _ => none)), (fun _ => 0)), ((100, 26, (fun _ => none)), (fun _ => 0)), ((100, 96, (fun _ => none)), (fun _ => 0)), ((102, 13, (fun _ => none)), (upd (upd (upd (upd (upd (upd (upd (upd (upd (upd (fun _ => 0) 0 (108 : Int32)) 1 (105 : Int32)) 2 (102 : Int32)) 3 (116 : Int32)) 4 (115 : Int32)) 5 (108 : Int32)) 6 (105 : Int32)) 7 (100 : Int32)) 8 (101 : Int32)) 9 (109 : Int32)))]
def qs_X7_init_24 (a : Nat) : List am_K := [((7, 34, (am_rs (am_rs (am_rs (am_rs (am_rs (am_rs rfb7 0 (a + 1)) 1 (a + 2)) 2 (a + 3)) 4 (a + 4)) 5 (a + 5)) 6 (a + 6))), (fun _ => 0)), ((100, 1535, (fun _ => none)), (fun _ => 0)), ((100, 1535, (fun _ => none)), (fun _ => 0)), ((100, 1535, (fun _ => none)), (fun _ => 0)), ((100, 24, (fun _ => none)), (fun _ => 0)), ((100, 26, (fun _ => none)), (fun _ => 0)), ((100, 96, (fun _ => none)), (fun _ => 0)), ((102, 13, (fun _ => none)), (upd (upd (upd (upd (upd (upd (upd (upd (upd (upd (upd (fun _ => 0) 0 (108 : Int32)) 1 (105 : Int32)) 2 (102 : Int32)) 3 (116 : Int32)) 4 (115 : Int32)) 5 (108 : Int32)) 6 (105 : Int32)) 7 (100 : Int32)) 8 (101 : Int32)) 9 (109 : Int32)) 10 (97 : Int32)))]
def qs_X7_init_25 (a : Nat) : List am_K := [((7, 34, (am_rs (am_rs (am_rs (am_rs (am_rs (am_rs rfb7 0 (a + 1)) 1 (a + 2)) 2 (a + 3)) 4 (a + 4)) 5 (a + 5)) 6 (a + 6))), (fun _ => 0)), ((100, 1535, (fun _ => none)), (fun _ => 0)), ((100, 1535, (fun _ => none)), (fun _ => 0)), ((100, 1535, (fun _ => none)), (fun _ => 0)), ((100, 24, (fun _ => none)), (fun _ => 0)), ((100, 26, (fun _ => none)), (fun _ => 0)), ((100, 96, (fun _ => none)), (fun _ => 0)), ((102, 13, (fun _ => none)), (upd (upd (upd (upd (upd (upd (upd (upd (upd (upd (upd (upd (fun _ => 0) 0 (108 : Int32)) 1 (105 : Int32)) 2 (102 : Int32)) 3 (116 : Int32)) 4 (115 : Int32)) 5 (108 : Int32)) 6 (105 : Int32)) 7 (100 : Int32)) 8 (101 : Int32)) 9 (109 : Int32)) 10 (97 : Int32)) 11 (114 : Int32)))]
def qs_X7_init_26 (a : Nat) : List am_K := [((7, 34, (am_rs (am_rs (am_rs (am_rs (am_rs (am_rs rfb7 0 (a + 1)) 1 (a + 2)) 2 (a + 3)) 4 (a + 4)) 5 (a + 5)) 6 (a + 6))), (fun _ => 0)), ((100, 1535, (fun _ => none)), (fun _ => 0)), ((100, 1535, (fun _ => none)), (fun _ => 0)), ((100, 1535, (fun _ => none)), (fun _ => 0)), ((100, 24, (fun _ => none)), (fun _ => 0)), ((100, 26, (fun _ => none)), (fun _ => 0)), ((100, 96, (fun _ => none)), (fun _ => 0)), ((102, 13, (fun _ => none)), (upd (upd (upd (upd (upd (upd (upd (upd (upd (upd (upd (upd (upd (fun _ => 0) 0 (108 : Int32)) 1 (105 : Int32)) 2 (102 : Int32)) 3 (116 : Int32)) 4 (115 : Int32)) 5 (108 : Int32)) 6 (105 : Int32)) 7 (100 : Int32)) 8 (101 : Int32)) 9 (109 : Int32)) 10 (97 : Int32)) 11 (114 : Int32)) 12 (107 : Int32)))]
def qs_X7_init_27 (a : Nat) : List am_K := [((7, 34, (am_rs (am_rs (am_rs (am_rs (am_rs (am_rs (am_rs rfb7 0 (a + 1)) 1 (a + 2)) 2 (a + 3)) 4 (a + 4)) 5 (a + 5)) 6 (a + 6)) 14 (a + 7))), (fun _ => 0)), ((100, 1535, (fun _ => none)), (fun _ => 0)), ((100, 1535, (fun _ => none)), (fun _ => 0)), ((100, 1535, (fun _ => none)), (fun _ => 0)), ((100, 24, (fun _ => none)), (fun _ => 0)), ((100, 26, (fun _ => none)), (fun _ => 0)), ((100, 96, (fun _ => none)), (fun _ => 0)), ((102, 13, (fun _ => none)), (upd (upd (upd (upd (upd (upd (upd (upd (upd (upd (upd (upd (upd (fun _ => 0) 0 (108 : Int32)) 1 (105 : Int32)) 2 (102 : Int32)) 3 (116 : Int32)) 4 (115 : Int32)) 5 (108 : Int32)) 6 (105 : Int32)) 7 (100 : Int32)) 8 (101 : Int32)) 9 (109 : Int32)) 10 (97 : Int32)) 11 (114 : Int32)) 12 (107 : Int32)))]
def qs_X7_init_28 (a : Nat) : List am_K := [((7, 34, (am_rs (am_rs (am_rs (am_rs (am_rs (am_rs (am_rs rfb7 0 (a + 1)) 1 (a + 2)) 2 (a + 3)) 4 (a + 4)) 5 (a + 5)) 6 (a + 6)) 14 (a + 7))), (fun _ => 0)), ((100, 1535, (fun _ => none)), (fun _ => 0)), ((100, 1535, (fun _ => none)), (fun _ => 0)), ((100, 1535, (fun _ => none)), (fun _ => 0)), ((100, 24, (fun _ => none)), (fun _ => 0)), ((100, 26, (fun _ => none)), (fun _ => 0)), ((100, 96, (fun _ => none)), (fun _ => 0)), ((102, 13, (fun _ => none)), (upd (upd (upd (upd (upd (upd (upd (upd (upd (upd (upd (upd (upd (fun _ => 0) 0 (108 : Int32)) 1 (105 : Int32)) 2 (102 : Int32)) 3 (116 : Int32)) 4 (115 : Int32)) 5 (108 : Int32)) 6 (105 : Int32)) 7 (100 : Int32)) 8 (101 : Int32)) 9 (109 : Int32)) 10 (97 : Int32)) 11 (114 : Int32)) 12 (107 : Int32))), ((100, 4, (fun _ => none)), (fun _ => 0))]
def qs_X7_init_29 (a : Nat) : List am_K := [((7, 34, (am_rs (am_rs (am_rs (am_rs (am_rs (am_rs (am_rs rfb7 0 (a + 1)) 1 (a + 2)) 2 (a + 3)) 4 (a + 4)) 5 (a + 5)) 6 (a + 6)) 14 (a + 7))), (fun _ => 0)), ((100, 1535, (fun _ => none)), (fun _ => 0)), ((100, 1535, (fun _ => none)), (fun _ => 0)), ((100, 1535, (fun _ => none)), (fun _ => 0)), ((100, 24, (fun _ => none)), (fun _ => 0)), ((100, 26, (fun _ => none)), (fun _ => 0)), ((100, 96, (fun _ => none)), (fun _ => 0)), ((102, 13, (fun _ => none)), (upd (upd (upd (upd (upd (upd (upd (upd (upd (upd (upd (upd (upd (fun _ => 0) 0 (108 : Int32)) 1 (105 : Int32)) 2 (102 : Int32)) 3 (116 : Int32)) 4 (115 : Int32)) 5 (108 : Int32)) 6 (105 : Int32)) 7 (100 : Int32)) 8 (101 : Int32)) 9 (109 : Int32)) 10 (97 : Int32)) 11 (114 : Int32)) 12 (107 : Int32))), ((100, 4, (fun _ => none)), (upd (fun _ => 0) 0 (0 : Int32)))]
def qs_X7_init_30 (a : Nat) : List am_K := [((7, 34, (am_rs (am_rs (am_rs (am_rs (am_rs (am_rs (am_rs rfb7 0 (a + 1)) 1 (a + 2)) 2 (a + 3)) 4 (a + 4)) 5 (a + 5)) 6 (a + 6)) 14 (a + 7))), (fun _ => 0)), ((100, 1535, (fun _ => none)), (fun _ => 0)), ((100, 1535, (fun _ => none)), (fun _ => 0)), ((100, 1535, (fun _ => none)), (fun _ => 0)), ((100, 24, (fun _ => none)), (fun _ => 0)), ((100, 26, (fun _ => none)), (fun _ => 0)), ((100, 96, (fun _ => none)), (fun _ => 0)), ((102, 13, (fun _ => none)), (upd (upd (upd (upd (upd (upd (upd (upd (upd (upd (upd (upd (upd (fun _ => 0) 0 (108 : Int32)) 1 (105 : Int32)) 2 (102 : Int32)) 3 (116 : Int32)) 4 (115 : Int32)) 5 (108 : Int32)) 6 (105 : Int32)) 7 (100 : Int32)) 8 (101 : Int32)) 9 (109 : Int32)) 10 (97 : Int32)) 11 (114 : Int32)) 12 (107 : Int32))), ((100, 4, (fun _ => none)), (upd (upd (fun _ => 0) 0 (0 : Int32)) 1 (4 : Int32)))]
def qs_X7_init_31 (a : Nat) : List am_K := [((7, 34, (am_rs (am_rs (am_rs (am_rs (am_rs (am_rs (am_rs rfb7 0 (a + 1)) 1 (a + 2)) 2 (a + 3)) 4 (a + 4)) 5 (a + 5)) 6 (a + 6)) 14 (a + 7))), (fun _ => 0)), ((100, 1535, (fun _ => none)), (fun _ => 0)), ((100, 1535, (fun _ => none)), (fun _ => 0)), ((100, 1535, (fun _ => none)), (fun _ => 0)), ((100, 24, (fun _ => none)), (fun _ => 0)), ((100, 26, (fun _ => none)), (fun _ => 0)), ((100, 96, (fun _ => none)), (fun _ => 0)), ((102, 13, (fun _ => none)), (upd (upd (upd (upd (upd (upd (upd (upd (upd (upd (upd (upd (upd (fun _ => 0) 0 (108 : Int32)) 1 (105 : Int32)) 2 (102 : Int32)) 3 (116 : Int32)) 4 (115 : Int32)) 5 (108 : Int32)) 6 (105 : Int32)) 7 (100 : Int32)) 8 (101 : Int32)) 9 (109 : Int32)) 10 (97 : Int32)) 11 (114 : Int32)) 12 (107 : Int32))), ((100, 4, (fun _ => none)), (upd (upd (upd (fun _ => 0) 0 (0 : Int32)) 1 (4 : Int32)) 2 (9 : Int32)))]
def qs_X7_init_32 (a : Nat) : List am_K := [((7, 34, (am_rs (am_rs (am_rs (am_rs (am_rs (am_rs (am_rs rfb7 0 (a + 1)) 1 (a + 2)) 2 (a + 3)) 4 (a + 4)) 5 (a + 5)) 6 (a + 6)) 14 (a + 7))), (fun _ => 0)), ((100, 1535, (fun _ => none)), (fun _ => 0)), ((100, 1535, (fun _ => none)), (fun _ => 0)), ((100, 1535, (fun _ => none)), (fun _ => 0)), ((100, 24, (fun _ => none)), (fun _ => 0)), ((100, 26, (fun _ => none)), (fun _ => 0)), ((100, 96, (fun _ => none)), (fun _ => 0)), ((102, 13, (fun _ => none)), (upd (upd (upd (upd (upd (upd (upd (upd (upd (upd (upd (upd (upd (fun _ => 0) 0 (108 : Int32)) 1 (105 : Int32)) 2 (102 : Int32)) 3 (116 : Int32)) 4 (115 : Int32)) 5 (108 : Int32)) 6 (105 : Int32)) 7 (100 : Int32)) 8 (101 : Int32)) 9 (109 : Int32)) 10 (97 : Int32)) 11 (114 : Int32)) 12 (107 : Int32))), ((100, 4, (fun _ => none)), (upd (upd (upd (upd (fun _ => 0) 0 (0 : Int32)) 1 (4 : Int32)) 2 (9 : Int32)) 3 (13 : Int32)))]
def qs_X7_init_33 (a : Nat) : List am_K := [((7, 34, (am_rs (am_rs (am_rs (am_rs (am_rs (am_rs (am_rs (am_rs rfb7 0 (a + 1)) 1 (a + 2)) 2 (a + 3)) 4 (a + 4)) 5 (a + 5)) 6 (a + 6)) 14 (a + 7)) 15 (a + 8))), (fun _ => 0)), ((100, 1535, (fun _ => none)), (fun _ => 0)), ((100, 1535, (fun _ => none)), (fun _ => 0)), ((100, 1535, (fun _ => none)), (fun _ => 0)), ((100, 24, (fun _ => none)), (fun _ => 0)), ((100, 26, (fun _ => none)), (fun _ => 0)), ((100, 96, (fun _ => none)), (fun _ => 0)), ((102, 13, (fun _ => none)), (upd (upd (upd (upd (upd (upd (upd (upd (upd (upd (upd (upd (upd (fun _ => 0) 0 (108 : Int32)) 1 (105 : Int32)) 2 (102 : Int32)) 3 (116 : Int32)) 4 (115 : Int32)) 5 (108 : Int32)) 6 (105 : Int32)) 7 (100 : Int32)) 8 (101 : Int32)) 9 (109 : Int32)) 10 (97 : Int32)) 11 (114 : Int32)) 12 (107 : Int32))), ((100, 4, (fun _ => none)), (upd (upd (upd (upd (fun _ => 0) 0 (0 : Int32)) 1 (4 : Int32)) 2 (9 : Int32)) 3 (13 : Int32)))]
def qs_X7_init_34 (a : Nat) : List am_K := [((7, 34, (am_rs (am_rs (am_rs (am_rs (am_rs (am_rs (am_rs (am_rs rfb7 0 (a + 1)) 1 (a + 2)) 2 (a + 3)) 4 (a + 4)) 5 (a + 5)) 6 (a + 6)) 14 (a + 7)) 15 (a + 8))), (fun _ => 0)), ((100, 1535, (fun _ => none)), (fun _ => 0)), ((100, 1535, (fun _ => none)), (fun _ => 0)), ((100, 1535, (fun _ => none)), (fun _ => 0)), ((100, 24, (fun _ => none)), (fun _ => 0)), ((100, 26, (fun _ => none)), (fun _ => 0)), ((100, 96, (fun _ => none)), (fun _ => 0)), ((102, 13, (fun _ => none)), (upd (upd (upd (upd (upd (upd (upd (upd (upd (upd (upd (upd (upd (fun _ => 0) 0 (108 : Int32)) 1 (105 : Int32)) 2 (102 : Int32)) 3 (116 : Int32)) 4 (115 : Int32)) 5 (108 : Int32)) 6 (105 : Int32)) 7 (100 : Int32)) 8 (101 : Int32)) 9 (109 : Int32)) 10 (97 : Int32)) 11 (114 : Int32)) 12 (107 : Int32))), ((100, 4, (fun _ => none)), (upd (upd (upd (upd (fun _ => 0) 0 (0 : Int32)) 1 (4 : Int32)) 2 (9 : Int32)) 3 (13 : Int32))), ((100, 96, (fun _ => none)), (fun _ => 0))]
def qs_X7_init_35 (a : Nat) : List am_K := [((7, 34, (am_rs (am_rs (am_rs (am_rs (am_rs (am_rs (am_rs (am_rs (am_rs rfb7 0 (a + 1)) 1 (a + 2)) 2 (a + 3)) 4 (a + 4)) 5 (a + 5)) 6 (a + 6)) 14 (a + 7)) 15 (a + 8)) 16 (a + 9))), (fun _ => 0)), ((100, 1535, (fun _ => none)), (fun _ => 0)), ((100, 1535, (fun _ => none)), (fun _ => 0)), ((100, 1535, (fun _ => none)), (fun _ => 0)), ((100, 24, (fun _ => none)), (fun _ => 0)), ((100, 26, (fun _ => none)), (fun _ => 0)), ((100, 96, (fun _ => none)), (fun _ => 0)), ((102, 13, (fun _ => none)), (upd (upd (upd (upd (upd (upd (upd (upd (upd (upd (upd (upd (upd (fun _ => 0) 0 (108 : Int32)) 1 (105 : Int32)) 2 (102 : Int32)) 3 (116 : Int32)) 4 (115 : Int32)) 5 (108 : Int32)) 6 (105 : Int32)) 7 (100 : Int32)) 8 (101 : Int32)) 9 (109 : Int32)) 10 (97 : Int32)) 11 (114 : Int32)) 12 (107 : Int32))), ((100, 4, (fun _ => none)), (upd (upd (upd (upd (fun _ => 0) 0 (0 : Int32)) 1 (4 : Int32)) 2 (9 : Int32)) 3 (13 : Int32))), ((100, 96, (fun _ => none)), (fun _ => 0))]
def qs_X7_init_36 (a : Nat) : List am_K := [((7, 34, (am_rs (am_rs (am_rs (am_rs (am_rs (am_rs (am_rs (am_rs (am_rs rfb7 0 (a + 1)) 1 (a + 2)) 2 (a + 3)) 4 (a + 4)) 5 (a + 5)) 6 (a + 6)) 14 (a + 7)) 15 (a + 8)) 16 (a + 9))), (fun _ => 0)), ((100, 1535, (fun _ => none)), (fun _ => 0)), ((100, 1535, (fun _ => none)), (fun _ => 0)), ((100, 1535, (fun _ => none)), (fun _ => 0)), ((100, 24, (fun _ => none)), (fun _ => 0)), ((100, 26, (fun _ => none)), (fun _ => 0)), ((100, 96, (fun _ => none)), (fun _ => 0)), ((102, 13, (fun _ => none)), (upd (upd (upd (upd (upd (upd (upd (upd (upd (upd (upd (upd (upd (fun _ => 0) 0 (108 : Int32)) 1 (105 : Int32)) 2 (102 : Int32)) 3 (116 : Int32)) 4 (115 : Int32)) 5 (108 : Int32)) 6 (105 : Int32)) 7 (100 : Int32)) 8 (101 : Int32)) 9 (109 : Int32)) 10 (97 : Int32)) 11 (114 : Int32)) 12 (107 : Int32))), ((100, 4, (fun _ => none)), (upd (upd (upd (upd (fun _ => 0) 0 (0 : Int32)) 1 (4 : Int32)) 2 (9 : Int32)) 3 (13 : Int32))), ((100, 96, (fun _ => none)), (fun _ => 0)), ((100, 96, (fun _ => none)), (fun _ => 0))]
def qs_X7_init_37 (a : Nat) : List am_K := [((7, 34, (am_rs (am_rs (am_rs (am_rs (am_rs (am_rs (am_rs (am_rs (am_rs (am_rs rfb7 0 (a + 1)) 1 (a + 2)) 2 (a + 3)) 4 (a + 4)) 5 (a + 5)) 6 (a + 6)) 14 (a + 7)) 15 (a + 8)) 16 (a + 9)) 19 (a + 10))), (fun _ => 0)), ((100, 1535, (fun _ => none)), (fun _ => 0)), ((100, 1535, (fun _ => none)), (fun _ => 0)), ((100, 1535, (fun _ => none)), (fun _ => 0)), ((100, 24, (fun _ => none)), (fun _ => 0)), ((100, 26, (fun _ => none)), (fun _ => 0)), ((100, 96, (fun _ => none)), (fun _ => 0)), ((102, 13, (fun _ => none)), (upd (upd (upd (upd (upd (upd (upd (upd (upd (upd (upd (upd (upd (fun _ => 0) 0 (108 : Int32)) 1 (105 : Int32)) 2 (102 : Int32)) 3 (116 : Int32)) 4 (115 : Int32)) 5 (108 : Int32)) 6 (105 : Int32)) 7 (100 : Int32)) 8 (101 : Int32)) 9 (109 : Int32)) 10 (97 : Int32)) 11 (114 : Int32)) 12 (107 : Int32))), ((100, 4, (fun _ => none)), (upd (upd (upd (upd (fun _ => 0) 0 (0 : Int32)) 1 (4 : Int32)) 2 (9 : Int32)) 3 (13 : Int32))), ((100, 96, (fun _ => none)), (fun _ => 0)), ((100, 96, (fun _ => none)), (fun _ => 0))]
def qs_X7_init_38 (a : Nat) : List am_K := [((7, 34, (am_rs (am_rs (am_rs (am_rs (am_rs (am_rs (am_rs (am_rs (am_rs (am_rs rfb7 0 (a + 1)) 1 (a + 2)) 2 (a + 3)) 4 (a + 4)) 5 (a + 5)) 6 (a + 6)) 14 (a + 7)) 15 (a + 8)) 16 (a + 9)) 19 (a + 10))), (fun _ => 0)), ((100, 1535, (fun _ => none)), (fun _ => 0)), ((100, 1535, (fun _ => none)), (fun _ => 0)), ((100, 1535, (fun _ => none)), (fun _ => 0)), ((100, 24, (fun _ => none)), (fun _ => 0)), ((100, 26, (fun _ => none)), (fun _ => 0)), ((100, 96, (fun _ => none)), (fun _ => 0)), ((102, 13, (fun _ => none)), (upd (upd (upd (upd (upd (upd (upd (upd (upd (upd (upd (upd (upd (fun _ => 0) 0 (108 : Int32)) 1 (105 : Int32)) 2 (102 : Int32)) 3 (116 : Int32)) 4 (115 : Int32)) 5 (108 : Int32)) 6 (105 : Int32)) 7 (100 : Int32)) 8 (101 : Int32)) 9 (109 : Int32)) 10 (97 : Int32)) 11 (114 : Int32)) 12 (107 : Int32))), ((100, 4, (fun _ => none)), (upd (upd (upd (upd (fun _ => 0) 0 (0 : Int32)) 1 (4 : Int32)) 2 (9 : Int32)) 3 (13 : Int32))), ((100, 96, (fun _ => none)), (fun _ => 0)), ((100, 96, (fun _ => none)), (fun _ => 0)), ((101, 10, (fun _ => none)), (fun _ => 0))]
def qs_X7_init_39 (a : Nat) : List am_K := [((7, 34, (am_rs (am_rs (am_rs (am_rs (am_rs (am_rs (am_rs (am_rs (am_rs (am_rs (am_rs rfb7 0 (a + 1)) 1 (a + 2)) 2 (a + 3)) 4 (a + 4)) 5 (a + 5)) 6 (a + 6)) 14 (a + 7)) 15 (a + 8)) 16 (a + 9)) 19 (a + 10)) 21 (a + 11))), (fun _ => 0)), ((100, 1535, (fun _ => none)), (fun _ => 0)), ((100, 1535, (fun _ => none)), (fun _ => 0)), ((100, 1535, (fun _ => none)), (fun _ => 0)), ((100, 24, (fun _ => none)), (fun _ => 0)), ((100, 26, (fun _ => none)), (fun _ => 0)), ((100, 96, (fun _ => none)), (fun _ => 0)), ((102, 13, (fun _ => none)), (upd (upd (upd (upd (upd (upd (upd (upd (upd (upd (upd (upd (upd (fun _ => 0) 0 (108 : Int32)) 1 (105 : Int32)) 2 (102 : Int32)) 3 (116 : Int32)) 4 (115 : Int32)) 5 (108 : Int32)) 6 (105 : Int32)) 7 (100 : Int32)) 8 (101 : Int32)) 9 (109 : Int32)) 10 (97 : Int32)) 11 (114 : Int32)) 12 (107 : Int32))), ((100, 4, (fun _ => none)), (upd (upd (upd (upd (fun _ => 0) 0 (0 : Int32)) 1 (4 : Int32)) 2 (9 : Int32)) 3 (13 : Int32))), ((100, 96, (fun _ => none)), (fun _ => 0)), ((100, 96, (fun _ => none)), (fun _ => 0)), ((101, 10, (fun _ => none)), (fun _ => 0))]
def qs_X7_init_40 (a : Nat) : List am_K := [((7, 34, (am_rs (am_rs (am_rs (am_rs (am_rs (am_rs (am_rs (am_rs (am_rs (am_rs (am_rs rfb7 0 (a + 1)) 1 (a + 2)) 2 (a + 3)) 4 (a + 4)) 5 (a + 5)) 6 (a + 6)) 14 (a + 7)) 15 (a + 8)) 16 (a + 9)) 19 (a + 10)) 21 (a + 11))), (fun _ => 0)), ((100, 1535, (fun _ => none)), (fun _ => 0)), ((100, 1535, (fun _ => none)), (fun _ => 0)), ((100, 1535, (fun _ => none)), (fun _ => 0)), ((100, 24, (fun _ => none)), (fun _ => 0)), ((100, 26, (fun _ => none)), (fun _ => 0)), ((100, 96, (fun _ => none)), (fun _ => 0)), ((102, 13, (fun _ => none)), (upd (upd (upd (upd (upd (upd (upd (upd (upd (upd (upd (upd (upd (fun _ => 0) 0 (108 : Int32)) 1 (105 : Int32)) 2 (102 : Int32)) 3 (116 : Int32)) 4 (115 : Int32)) 5 (108 : Int32)) 6 (105 : Int32)) 7 (100 : Int32)) 8 (101 : Int32)) 9 (109 : Int32)) 10 (97 : Int32)) 11 (114 : Int32)) 12 (107 : Int32))), ((100, 4, (fun _ => none)), (upd (upd (upd (upd (fun _ => 0) 0 (0 : Int32)) 1 (4 : Int32)) 2 (9 : Int32)) 3 (13 : Int32))), ((100, 96, (fun _ => none)), (fun _ => 0)), ((100, 96, (fun _ => none)), (fun _ => 0)), ((101, 10, (fun _ => none)), (fun _ => 0)), ((100, 96, (fun _ => none)), (fun _ => 0))]
def qs_X7_init_41 (a : Nat) : List am_K := [((7, 34, (am_rs (am_rs (am_rs (am_rs (am_rs (am_rs (am_rs (am_rs (am_rs (am_rs (am_rs (am_rs rfb7 0 (a + 1)) 1 (a + 2)) 2 (a + 3)) 4 (a + 4)) 5 (a + 5)) 6 (a + 6)) 14 (a + 7)) 15 (a + 8)) 16 (a + 9)) 19 (a + 10)) 21 (a + 11)) 22 (a + 12))), (fun _ => 0)), ((100, 1535, (fun _ => none)), (fun _ => 0)), ((100, 1535, (fun _ => none)), (fun _ => 0)), ((100, 1535, (fun _ => none)), (fun _ => 0)), ((100, 24, (fun _ => none)), (fun _ => 0)), ((100, 26, (fun _ => none)), (fun _ => 0)), ((100, 96, (fun _ => none)), (fun _ => 0)), ((102, 13, (fun _ => none)), (upd (upd (upd (upd (upd (upd (upd (upd (upd (upd (upd (upd (upd (fun _ => 0) 0 (108 : Int32)) 1 (105 : Int32)) 2 (102 : Int32)) 3 (116 : Int32)) 4 (115 : Int32)) 5 (108 : Int32)) 6 (105 : Int32)) 7 (100 : Int32)) 8 (101 : Int32)) 9 (109 : Int32)) 10 (97 : Int32)) 11 (114 : Int32)) 12 (107 : Int32))), ((100, 4, (fun _ => none)), (upd (upd (upd (upd (fun _ => 0) 0 (0 : Int32)) 1 (4 : Int32)) 2 (9 : Int32)) 3 (13 : Int32))), ((100, 96, (fun _ => none)), (fun _ => 0)), ((100, 96, (fun _ => none)), (fun _ => 0)), ((101, 10, (fun _ => none)), (fun _ => 0)), ((100, 96, (fun _ => none)), (fun _ => 0))]
def qs_X7_init_42 (a : Nat) : List am_K := [((7, 34, (am_rs (am_rs (am_rs (am_rs (am_rs (am_rs (am_rs (am_rs (am_rs (am_rs (am_rs (am_rs rfb7 0 (a + 1)) 1 (a + 2)) 2 (a + 3)) 4 (a + 4)) 5 (a + 5)) 6 (a + 6)) 14 (a + 7)) 15 (a + 8)) 16 (a + 9)) 19 (a + 10)) 21 (a + 11)) 22 (a + 12))), (fun _ => 0)), ((100, 1535, (fun _ => none)), (fun _ => 0)), ((100, 1535, (fun _ => none)), (fun _ => 0)), ((100, 1535, (fun _ => none)), (fun _ => 0)), ((100, 24, (fun _ => none)), (fun _ => 0)), ((100, 26, (fun _ => none)), (fun _ => 0)), ((100, 96, (fun _ => none)), (fun _ => 0)), ((102, 13, (fun _ => none)), (upd (upd (upd (upd (upd (upd (upd (upd (upd (upd (upd (upd (upd (fun _ => 0) 0 (108 : Int32)) 1 (105 : Int32)) 2 (102 : Int32)) 3 (116 : Int32)) 4 (115 : Int32)) 5 (108 : Int32)) 6 (105 : Int32)) 7 (100 : Int32)) 8 (101 : Int32)) 9 (109 : Int32)) 10 (97 : Int32)) 11 (114 : Int32)) 12 (107 : Int32))), ((100, 4, (fun _ => none)), (upd (upd (upd (upd (fun _ => 0) 0 (0 : Int32)) 1 (4 : Int32)) 2 (9 : Int32)) 3 (13 : Int32))), ((100, 96, (fun _ => none)), (fun _ => 0)), ((100, 96, (fun _ => none)), (fun _ => 0)), ((101, 10, (fun _ => none)), (fun _ => 0)), ((100, 96, (fun _ => none)), (fun _ => 0)), ((100, 4, (fun _ => none)), (fun _ => 0))]
def qs_X7_init_43 (a : Nat) : List am_K := [((7, 34, (am_rs (am_rs (am_rs (am_rs (am_rs (am_rs (am_rs (am_rs (am_rs (am_rs (am_rs (am_rs (am_rs rfb7 0 (a + 1)) 1 (a + 2)) 2 (a + 3)) 4 (a + 4)) 5 (a + 5)) 6 (a + 6)) 14 (a + 7)) 15 (a + 8)) 16 (a + 9)) 19 (a + 10)) 21 (a + 11)) 22 (a + 12)) 23 (a + 13))), (fun _ => 0)), ((100, 1535, (fun _ => none)), (fun _ => 0)), ((100, 1535, (fun _ => none)), (fun _ => 0)), ((100, 1535, (fun _ => none)), (fun _ => 0)), ((100, 24, (fun _ => none)), (fun _ => 0)), ((100, 26, (fun _ => none)), (fun _ => 0)), ((100, 96, (fun _ => none)), (fun _ => 0)), ((102, 13, (fun _ => none)), (upd (upd (upd (upd (upd (upd (upd (upd (upd (upd (upd (upd (upd (fun _ => 0) 0 (108 : Int32)) 1 (105 : Int32)) 2 (102 : Int32)) 3 (116 : Int32)) 4 (115 : Int32)) 5 (108 : Int32)) 6 (105 : Int32)) 7 (100 : Int32)) 8 (101 : Int32)) 9 (109 : Int32)) 10 (97 : Int32)) 11 (114 : Int32)) 12 (107 : Int32))), ((100, 4, (fun _ => none)), (upd (upd (upd (upd (fun _ => 0) 0 (0 : Int32)) 1 (4 : Int32)) 2 (9 : Int32)) 3 (13 : Int32))), ((100, 96, (fun _ => none)), (fun _ => 0)), ((100, 96, (fun _ => none)), (fun _ => 0)), ((101, 10, (fun _ => none)), (fun _ => 0)), ((100, 96, (fun _ => none)), (fun _ => 0)), ((100, 4, (fun _ => none)), (fun _ => 0))]
def qs_X7_init_44 (a : Nat) : List am_K := [((7, 34, (am_rs (am_rs (am_rs (am_rs (am_rs (am_rs (am_rs (am_rs (am_rs (am_rs (am_rs (am_rs (am_rs rfb7 0 (a + 1)) 1 (a + 2)) 2 (a + 3)) 4 (a + 4)) 5 (a + 5)) 6 (a + 6)) 14 (a + 7)) 15 (a + 8)) 16 (a + 9)) 19 (a + 10)) 21 (a + 11)) 22 (a + 12)) 23 (a + 13))), (fun _ => 0)), ((100, 1535, (fun _ => none)), (fun _ => 0)), ((100, 1535, (fun _ => none)), (fun _ => 0)), ((100, 1535, (fun _ => none)), (fun _ => 0)), ((100, 24, (fun _ => none)), (fun _ => 0)), ((100, 26, (fun _ => none)), (fun _ => 0)), ((100, 96, (fun _ => none)), (fun _ => 0)), ((102, 13, (fun _ => none)), (upd (upd (upd (upd (upd (upd (upd (upd (upd (upd (upd (upd (upd (fun _ => 0) 0 (108 : Int32)) 1 (105 : Int32)) 2 (102 : Int32)) 3 (116 : Int32)) 4 (115 : Int32)) 5 (108 : Int32)) 6 (105 : Int32)) 7 (100 : Int32)) 8 (101 : Int32)) 9 (109 : Int32)) 10 (97 : Int32)) 11 (114 : Int32)) 12 (107 : Int32))), ((100, 4, (fun _ => none)), (upd (upd (upd (upd (fun _ => 0) 0 (0 : Int32)) 1 (4 : Int32)) 2 (9 : Int32)) 3 (13 : Int32))), ((100, 96, (fun _ => none)), (fun _ => 0)), ((100, 96, (fun _ => none)), (fun _ => 0)), ((101, 10, (fun _ => none)), (fun _ => 0)), ((100, 96, (fun _ => none)), (fun _ => 0)), ((100, 4, (fun _ => none)), (fun _ => 0)), ((100, 4, (fun _ => none)), (fun _ => 0))]
def qs_X7_init_45 (a : Nat) : List am_K := [((7, 34, (am_rs (am_rs (am_rs (am_rs (am_rs (am_rs (am_rs (am_rs (am_rs (am_rs (am_rs (am_rs (am_rs rfb7 0 (a + 1)) 1 (a + 2)) 2 (a + 3)) 4 (a + 4)) 5 (a + 5)) 6 (a + 6)) 14 (a + 7)) 15 (a + 8)) 16 (a + 9)) 19 (a + 10)) 21 (a + 11)) 22 (a + 12)) 23 (a + 13))), (fun _ => 0)), ((100, 1535, (fun _ => none)), (fun _ => 0)), ((100, 1535, (fun _ => none)), (fun _ => 0)), ((100, 1535, (fun _ => none)), (fun _ => 0)), ((100, 24, (fun _ => none)), (fun _ => 0)), ((100, 26, (fun _ => none)), (fun _ => 0)), ((100, 96, (fun _ => none)), (fun _ => 0)), ((102, 13, (fun _ => none)), (upd (upd (upd (upd (upd (upd (upd (upd (upd (upd (upd (upd (upd (fun _ => 0) 0 (108 : Int32)) 1 (105 : Int32)) 2 (102 : Int32)) 3 (116 : Int32)) 4 (115 : Int32)) 5 (108 : Int32)) 6 (105 : Int32)) 7 (100 : Int32)) 8 (101 : Int32)) 9 (109 : Int32)) 10 (97 : Int32)) 11 (114 : Int32)) 12 (107 : Int32))), ((100, 4, (fun _ => none)), (upd (upd (upd (upd (fun _ => 0) 0 (0 : Int32)) 1 (4 : Int32)) 2 (9 : Int32)) 3 (13 : Int32))), ((100, 96, (fun _ => none)), (fun _ => 0)), ((100, 96, (fun _ => none)), (fun _ => 0)), ((101, 10, (fun _ => none)), (fun _ => 0)), ((100, 96, (fun _ => none)), (fun _ => 0)), ((100, 4, (fun _ => none)), (fun _ => 0)), ((100, 4, (fun _ => none)), (upd (fun _ => 0) 0 ((-1) : Int32)))]
def qs_X7_init_46 (a : Nat) : List am_K := [((7, 34, (am_rs (am_rs (am_rs (am_rs (am_rs (am_rs (am_rs (am_rs (am_rs (am_rs (am_rs (am_rs (am_rs rfb7 0 (a + 1)) 1 (a + 2)) 2 (a + 3)) 4 (a + 4)) 5 (a + 5)) 6 (a + 6)) 14 (a + 7)) 15 (a + 8)) 16 (a + 9)) 19 (a + 10)) 21 (a + 11)) 22 (a + 12)) 23 (a + 13))), (fun _ => 0)), ((100, 1535, (fun _ => none)), (fun _ => 0)), ((100, 1535, (fun _ => none)), (fun _ => 0)), ((100, 1535, (fun _ => none)), (fun _ => 0)), ((100, 24, (fun _ => none)), (fun _ => 0)), ((100, 26, (fun _ => none)), (fun _ => 0)), ((100, 96, (fun _ => none)), (fun _ => 0)), ((102, 13, (fun _ => none)), (upd (upd (upd (upd (upd (upd (upd (upd (upd (upd (upd (upd (upd (fun _ => 0) 0 (108 : Int32)) 1 (105 : Int32)) 2 (102 : Int32)) 3 (116 : Int32)) 4 (115 : Int32)) 5 (108 : Int32)) 6 (105 : Int32)) 7 (100 : Int32)) 8 (101 : Int32)) 9 (109 : Int32)) 10 (97 : Int32)) 11 (114 : Int32)) 12 (107 : Int32))), ((100, 4, (fun _ => none)), (upd (upd (upd (upd (fun _ => 0) 0 (0 : Int32)) 1 (4 : Int32)) 2 (9 : Int32)) 3 (13 : Int32))), ((100, 96, (fun _ => none)), (fun _ => 0)), ((100, 96, (fun _ => none)), (fun _ => 0)), ((101, 10, (fun _ => none)), (fun _ => 0)), ((100, 96, (fun _ => none)), (fun _ => 0)), ((100, 4, (fun _ => none)), (fun _ => 0)), ((100, 4, (fun _ => none)), (upd (upd (fun _ => 0) 0 ((-1) : Int32)) 1 ((-1) : Int32)))]
def qs_X7_init_47 (a : Nat) : List am_K := [((7, 34, (am_rs (am_rs (am_rs (am_rs (am_rs (am_rs (am_rs (am_rs (am_rs (am_rs (am_rs (am_rs (am_rs rfb7 0 (a + 1)) 1 (a + 2)) 2 (a + 3)) 4 (a + 4)) 5 (a + 5)) 6 (a + 6)) 14 (a + 7)) 15 (a + 8)) 16 (a + 9)) 19 (a + 10)) 21 (a + 11)) 22 (a + 12)) 23 (a + 13))), (fun _ => 0)), ((100, 1535, (fun _ => none)), (fun _ => 0)), ((100, 1535, (fun _ => none)), (fun _ => 0)), ((100, 1535, (fun _ => none)), (fun _ => 0)), ((100, 24, (fun _ => none)), (fun _ => 0)), ((100, 26, (fun _ => none)), (fun _ => 0)), ((100, 96, (fun _ => none)), (fun _ => 0)), ((102, 13, (fun _ => none)), (upd (upd (upd (upd (upd (upd (upd (upd (upd (upd (upd (upd (upd (fun _ => 0) 0 (108 : Int32)) 1 (105 : Int32)) 2 (102 : Int32)) 3 (116 : Int32)) 4 (115 : Int32)) 5 (108 : Int32)) 6 (105 : Int32)) 7 (100 : Int32)) 8 (101 : Int32)) 9 (109 : Int32)) 10 (97 : Int32)) 11 (114 : Int32)) 12 (107 : Int32))), ((100, 4, (fun _ => none)), (upd (upd (upd (upd (fun _ => 0) 0 (0 : Int32)) 1 (4 : Int32)) 2 (9 : Int32)) 3 (13 : Int32))), ((100, 96, (fun _ => none)), (fun _ => 0)), ((100, 96, (fun _ => none)), (fun _ => 0)), ((101, 10, (fun _ => none)), (fun _ => 0)), ((100, 96, (fun _ => none)), (fun _ => 0)), ((100, 4, (fun _ => none)), (fun _ => 0)), ((100, 4, (fun _ => none)), (upd (upd (upd (fun _ => 0) 0 ((-1) : Int32)) 1 ((-1) : Int32)) 2 ((-1) : Int32)))]
def qs_X7_init_48 (a : Nat) : List am_K := [((7, 34, (am_rs (am_rs (am_rs (am_rs (am_rs (am_rs (am_rs (am_rs (am_rs (am_rs (am_rs (am_rs (am_rs rfb7 0 (a + 1)) 1 (a + 2)) 2 (a + 3)) 4 (a + 4)) 5 (a + 5)) 6 (a + 6)) 14 (a + 7)) 15 (a + 8)) 16 (a + 9)) 19 (a + 10)) 21 (a + 11)) 22 (a + 12)) 23 (a + 13))), (fun _ => 0)), ((100, 1535, (fun _ => none)), (fun _ => 0)), ((100, 1535, (fun _ => none)), (fun _ => 0)), ((100, 1535, (fun _ => none)), (fun _ => 0)), ((100, 24, (fun _ => none)), (fun _ => 0)), ((100, 26, (fun _ => none)), (fun _ => 0)), ((100, 96, (fun _ => none)), (fun _ => 0)), ((102, 13, (fun _ => none)), (upd (upd (upd (upd (upd (upd (upd (upd (upd (upd (upd (upd (upd (fun _ => 0) 0 (108 : Int32)) 1 (105 : Int32)) 2 (102 : Int32)) 3 (116 : Int32)) 4 (115 : Int32)) 5 (108 : Int32)) 6 (105 : Int32)) 7 (100 : Int32)) 8 (101 : Int32)) 9 (109 : Int32)) 10 (97 : Int32)) 11 (114 : Int32)) 12 (107 : Int32))), ((100, 4, (fun _ => none)), (upd (upd (upd (upd (fun _ => 0) 0 (0 : Int32)) 1 (4 : Int32)) 2 (9 : Int32)) 3 (13 : Int32))), ((100, 96, (fun _ => none)), (fun _ => 0)), ((100, 96, (fun _ => none)), (fun _ => 0)), ((101, 10, (fun _ => none)), (fun _ => 0)), ((100, 96, (fun _ => none)), (fun _ => 0)), ((100, 4, (fun _ => none)), (fun _ => 0)), ((100, 4, (fun _ => none)), (upd (upd (upd (upd (fun _ => 0) 0 ((-1) : Int32)) 1 ((-1) : Int32)) 2 ((-1) : Int32)) 3 ((-1) : Int32)))]
def qs_X7_init_49 (a : Nat) : List am_K := [((7, 34, (am_rs (am_rs (am_rs (am_rs (am_rs (am_rs (am_rs (am_rs (am_rs (am_rs (am_rs (am_rs (am_rs (am_rs rfb7 0 (a + 1)) 1 (a + 2)) 2 (a + 3)) 4 (a + 4)) 5 (a + 5)) 6 (a + 6)) 14 (a + 7)) 15 (a + 8)) 16 (a + 9)) 19 (a + 10)) 21 (a + 11)) 22 (a + 12)) 23 (a + 13)) 24 (a + 14))), (fun _ => 0)), ((100, 1535, (fun _ => none)), (fun _ => 0)), ((100, 1535, (fun _ => none)), (fun _ => 0)), ((100, 1535, (fun _ => none)), (fun _ => 0)), ((100, 24, (fun _ => none)), (fun _ => 0)), ((100, 26, (fun _ => none)), (fun _ => 0)), ((100, 96, (fun _ => none)), (fun _ => 0)), ((102, 13, (fun _ => none)), (upd (upd (upd (upd (upd (upd (upd (upd (upd (upd (upd (upd (upd (fun _ => 0) 0 (108 : Int32)) 1 (105 : Int32)) 2 (102 : Int32)) 3 (116 : Int32)) 4 (115 : Int32)) 5 (108 : Int32)) 6 (105 : Int32)) 7 (100 : Int32)) 8 (101 : Int32)) 9 (109 : Int32)) 10 (97 : Int32)) 11 (114 : Int32)) 12 (107 : Int32))), ((100, 4, (fun _ => none)), (upd (upd (upd (upd (fun _ => 0) 0 (0 : Int32)) 1 (4 : Int32)) 2 (9 : Int32)) 3 (13 : Int32))), ((100, 96, (fun _ => none)), (fun _ => 0)), ((100, 96, (fun _ => none)), (fun _ => 0)), ((101, 10, (fun _ => none)), (fun _ => 0)), ((100, 96, (fun _ => none)), (fun _ => 0)), ((100, 4, (fun _ => none)), (fun _ => 0)), ((100, 4, (fun _ => none)), (upd (upd (upd (upd (fun _ => 0) 0 ((-1) : Int32)) 1 ((-1) : Int32)) 2 ((-1) : Int32)) 3 ((-1) : Int32)))]
def qs_X7_init_50 (a : Nat) : List am_K := [((7, 34, (am_rs (am_rs (am_rs (am_rs (am_rs (am_rs (am_rs (am_rs (am_rs (am_rs (am_rs (am_rs (am_rs (am_rs rfb7 0 (a + 1)) 1 (a + 2)) 2 (a + 3)) 4 (a + 4)) 5 (a + 5)) 6 (a + 6)) 14 (a + 7)) 15 (a + 8)) 16 (a + 9)) 19 (a + 10)) 21 (a + 11)) 22 (a + 12)) 23 (a + 13)) 24 (a + 14))), (fun _ => 0)), ((100, 1535, (fun _ => none)), (fun _ => 0)), ((100, 1535, (fun _ => none)), (fun _ => 0)), ((100, 1535, (fun _ => none)), (fun _ => 0)), ((100, 24, (fun _ => none)), (fun _ => 0)), ((100, 26, (fun _ => none)), (fun _ => 0)), ((100, 96, (fun _ => none)), (fun _ => 0)), ((102, 13, (fun _ => none)), (upd (upd (upd (upd (upd (upd (upd (upd (upd (upd (upd (upd (upd (fun _ => 0) 0 (108 : Int32)) 1 (105 : Int32)) 2 (102 : Int32)) 3 (116 : Int32)) 4 (115 : Int32)) 5 (108 : Int32)) 6 (105 : Int32)) 7 (100 : Int32)) 8 (101 : Int32)) 9 (109 : Int32)) 10 (97 : Int32)) 11 (114 : Int32)) 12 (107 : Int32))), ((100, 4, (fun _ => none)), (upd (upd (upd (upd (fun _ => 0) 0 (0 : Int32)) 1 (4 : Int32)) 2 (9 : Int32)) 3 (13 : Int32))), ((100, 96, (fun _ => none)), (fun _ => 0)), ((100, 96, (fun _ => none)), (fun _ => 0)), ((101, 10, (fun _ => none)), (fun _ => 0)), ((100, 96, (fun _ => none)), (fun _ => 0)), ((100, 4, (fun _ => none)), (fun _ => 0)), ((100, 4, (fun _ => none)), (upd (upd (upd (upd (fun _ => 0) 0 ((-1) : Int32)) 1 ((-1) : Int32)) 2 ((-1) : Int32)) 3 ((-1) : Int32))), ((100, 4, (fun _ => none)), (fun _ => 0))]
def qs_X7_init_51 (a : Nat) : List am_K := [((7, 34, (am_rs (am_rs (am_rs (am_rs (am_rs (am_rs (am_rs (am_rs (am_rs (am_rs (am_rs (am_rs (am_rs (am_rs (am_rs rfb7 0 (a + 1)) 1 (a + 2)) 2 (a + 3)) 4 (a + 4)) 5 (a + 5)) 6 (a + 6)) 14 (a + 7)) 15 (a + 8)) 16 (a + 9)) 19 (a + 10)) 21 (a + 11)) 22 (a + 12)) 23 (a + 13)) 24 (a + 14)) 25 (a + 15))), (fun _ => 0)), ((100, 1535, (fun _ => none)), (fun _ => 0)), ((100, 1535, (fun _ => none)), (fun _ => 0)), ((100, 1535, (fun _ => none)), (fun _ => 0)), ((100, 24, (fun _ => none)), (fun _ => 0)), ((100, 26, (fun _ => none)), (fun _ => 0)), ((100, 96, (fun _ => none)), (fun _ => 0)), ((102, 13, (fun _ => none)), (upd (upd (upd (upd (upd (upd (upd (upd (upd (upd (upd (upd (upd (fun _ => 0) 0 (108 : Int32)) 1 (105 : Int32)) 2 (102 : Int32)) 3 (116 : Int32)) 4 (115 : Int32)) 5 (108 : Int32)) 6 (105 : Int32)) 7 (100 : Int32)) 8 (101 : Int32)) 9 (109 : Int32)) 10 (97 : Int32)) 11 (114 : Int32)) 12 (107 : Int32))), ((100, 4, (fun _ => none)), (upd (upd (upd (upd (fun _ => 0) 0 (0 : Int32)) 1 (4 : Int32)) 2 (9 : Int32)) 3 (13 : Int32))), ((100, 96, (fun _ => none)), (fun _ => 0)), ((100, 96, (fun _ => none)), (fun _ => 0)), ((101, 10, (fun _ => none)), (fun _ => 0)), ((100, 96, (fun _ => none)), (fun _ => 0)), ((100, 4, (fun _ => none)), (fun _ => 0)), ((100, 4, (fun _ => none)), (upd (upd (upd (upd (fun _ => 0) 0 ((-1) : Int32)) 1 ((-1) : Int32)) 2 ((-1) : Int32)) 3 ((-1) : Int32))), ((100, 4, (fun _ => none)), (fun _ => 0))]
def qs_X7_init_52 (a : Nat) : List am_K := [((7, 34, (am_rs (am_rs (am_rs (am_rs (am_rs (am_rs (am_rs (am_rs (am_rs (am_rs (am_rs (am_rs (am_rs (am_rs (am_rs rfb7 0 (a + 1)) 1 (a + 2)) 2 (a + 3)) 4 (a + 4)) 5 (a + 5)) 6 (a + 6)) 14 (a + 7)) 15 (a + 8)) 16 (a + 9)) 19 (a + 10)) 21 (a + 11)) 22 (a + 12)) 23 (a + 13)) 24 (a + 14)) 25 (a + 15))), (fun _ => 0)), ((100, 1535, (fun _ => none)), (fun _ => 0)), ((100, 1535, (fun _ => none)), (fun _ => 0)), ((100, 1535, (fun _ => none)), (fun _ => 0)), ((100, 24, (fun _ => none)), (fun _ => 0)), ((100, 26, (fun _ => none)), (fun _ => 0)), ((100, 96, (fun _ => none)), (fun _ => 0)), ((102, 13, (fun _ => none)), (upd (upd (upd (upd (upd (upd (upd (upd (upd (upd (upd (upd (upd (fun _ => 0) 0 (108 : Int32)) 1 (105 : Int32)) 2 (102 : Int32)) 3 (116 : Int32)) 4 (115 : Int32)) 5 (108 : Int32)) 6 (105 : Int32)) 7 (100 : Int32)) 8 (101 : Int32)) 9 (109 : Int32)) 10 (97 : Int32)) 11 (114 : Int32)) 12 (107 : Int32))), ((100, 4, (fun _ => none)), (upd (upd (upd (upd (fun _ => 0) 0 (0 : Int32)) 1 (4 : Int32)) 2 (9 : Int32)) 3 (13 : Int32))), ((100, 96, (fun _ => none)), (fun _ => 0)), ((100, 96, (fun _ => none)), (fun _ => 0)), ((101, 10, (fun _ => none)), (fun _ => 0)), ((100, 96, (fun _ => none)), (fun _ => 0)), ((100, 4, (fun _ => none)), (fun _ => 0)), ((100, 4, (fun _ => none)), (upd (upd (upd (upd (fun _ => 0) 0 ((-1) : Int32)) 1 ((-1) : Int32)) 2 ((-1) : Int32)) 3 ((-1) : Int32))), ((100, 4, (fun _ => none)), (fun _ => 0)), ((100, 96, (fun _ => none)), (fun _ => 0))]
def qs_X7_init_53 (a : Nat) : List am_K := [((7, 34, (am_rs (am_rs (am_rs (am_rs (am_rs (am_rs (am_rs (am_rs (am_rs (am_rs (am_rs (am_rs (am_rs (am_rs (am_rs (am_rs rfb7 0 (a + 1)) 1 (a + 2)) 2 (a + 3)) 4 (a + 4)) 5 (a + 5)) 6 (a + 6)) 14 (a + 7)) 15 (a + 8)) 16 (a + 9)) 19 (a + 10)) 21 (a + 11)) 22 (a + 12)) 23 (a + 13)) 24 (a + 14)) 25 (a + 15)) 26 (a + 16))), (fun _ => 0)), ((100, 1535, (fun _ => none)), (fun _ => 0)), ((100, 1535, (fun _ => none)), (fun _ => 0)), ((100, 1535, (fun _ => none)), (fun _ => 0)), ((100, 24, (fun _ => none)), (fun _ => 0)), ((100, 26, (fun _ => none)), (fun _ => 0)), ((100, 96, (fun _ => none)), (fun _ => 0)), ((102, 13, (fun _ => none)), (upd (upd (upd (upd (upd (upd (upd (upd (upd (upd (upd (upd (upd (fun _ => 0) 0 (108 : Int32)) 1 (105 : Int32)) 2 (102 : Int32)) 3 (116 : Int32)) 4 (115 : Int32)) 5 (108 : Int32)) 6 (105 : Int32)) 7 (100 : Int32)) 8 (101 : Int32)) 9 (109 : Int32)) 10 (97 : Int32)) 11 (114 : Int32)) 12 (107 : Int32))), ((100, 4, (fun _ => none)), (upd (upd (upd (upd (fun _ => 0) 0 (0 : Int32)) 1 (4 : Int32)) 2 (9 : Int32)) 3 (13 : Int32))), ((100, 96, (fun _ => none)), (fun _ => 0)), ((100, 96, (fun _ => none)), (fun _ => 0)), ((101, 10, (fun _ => none)), (fun _ => 0)), ((100, 96, (fun _ => none)), (fun _ => 0)), ((100, 4, (fun _ => none)), (fun _ => 0)), ((100, 4, (fun _ => none)), (upd (upd (upd (upd (fun _ => 0) 0 ((-1) : Int32)) 1 ((-1) : Int32)) 2 ((-1) : Int32)) 3 ((-1) : Int32))), ((100, 4, (fun _ => none)), (fun _ => 0)), ((100, 96, (fun _ => none)), (fun _ => 0))]
def qs_X7_init_54 (a : Nat) : List am_K := [((7, 34, (am_rs (am_rs (am_rs (am_rs (am_rs (am_rs (am_rs (am_rs (am_rs (am_rs (am_rs (am_rs (am_rs (am_rs (am_rs (am_rs rfb7 0 (a + 1)) 1 (a + 2)) 2 (a + 3)) 4 (a + 4)) 5 (a + 5)) 6 (a + 6)) 14 (a + 7)) 15 (a + 8)) 16 (a + 9)) 19 (a + 10)) 21 (a + 11)) 22 (a + 12)) 23 (a + 13)) 24 (a + 14)) 25 (a + 15)) 26 (a + 16))), (fun _ => 0)), ((100, 1535, (fun _ => none)), (fun _ => 0)), ((100, 1535, (fun _ => none)), (fun _ => 0)), ((100, 1535, (fun _ => none)), (fun _ => 0)), ((100, 24, (fun _ => none)), (fun _ => 0)), ((100, 26, (fun _ => none)), (fun _ => 0)), ((100, 96, (fun _ => none)), (fun _ => 0)), ((102, 13, (fun _ => none)), (upd (upd (upd (upd (upd (upd (upd (upd (upd (upd (upd (upd (upd (fun _ => 0) 0 (108 : Int32)) 1 (105 : Int32)) 2 (102 : Int32)) 3 (116 : Int32)) 4 (115 : Int32)) 5 (108 : Int32)) 6 (105 : Int32)) 7 (100 : Int32)) 8 (101 : Int32)) 9 (109 : Int32)) 10 (97 : Int32)) 11 (114 : Int32)) 12 (107 : Int32))), ((100, 4, (fun _ => none)), (upd (upd (upd (upd (fun _ => 0) 0 (0 : Int32)) 1 (4 : Int32)) 2 (9 : Int32)) 3 (13 : Int32))), ((100, 96, (fun _ => none)), (fun _ => 0)), ((100, 96, (fun _ => none)), (fun _ => 0)), ((101, 10, (fun _ => none)), (fun _ => 0)), ((100, 96, (fun _ => none)), (fun _ => 0)), ((100, 4, (fun _ => none)), (fun _ => 0)), ((100, 4, (fun _ => none)), (upd (upd (upd (upd (fun _ => 0) 0 ((-1) : Int32)) 1 ((-1) : Int32)) 2 ((-1) : Int32)) 3 ((-1) : Int32))), ((100, 4, (fun _ => none)), (fun _ => 0)), ((100, 96, (fun _ => none)), (fun _ => 0)), ((100, 5, (fun _ => none)), (fun _ => 0))]
def qs_X7_init_55 (a : Nat) : List am_K := [((7, 34, (am_rs (am_rs (am_rs (am_rs (am_rs (am_rs (am_rs (am_rs (am_rs (am_rs (am_rs (am_rs (am_rs (am_rs (am_rs (am_rs (am_rs rfb7 0 (a + 1)) 1 (a + 2)) 2 (a + 3)) 4 (a + 4)) 5 (a + 5)) 6 (a + 6)) 14 (a + 7)) 15 (a + 8)) 16 (a + 9)) 19 (a + 10)) 21 (a + 11)) 22 (a + 12)) 23 (a + 13)) 24 (a + 14)) 25 (a + 15)) 26 (a + 16)) 27 (a + 17))), (fun _ => 0)), ((100, 1535, (fun _ => none)), (fun _ => 0)), ((100, 1535, (fun _ => none)), (fun _ => 0)), ((100, 1535, (fun _ => none)), (fun _ => 0)), ((100, 24, (fun _ => none)), (fun _ => 0)), ((100, 26, (fun _ => none)), (fun _ => 0)), ((100, 96, (fun _ => none)), (fun _ => 0)), ((102, 13, (fun _ => none)), (upd (upd (upd (upd (upd (upd (upd (upd (upd (upd (upd (upd (upd (fun _ => 0) 0 (108 : Int32)) 1 (105 : Int32)) 2 (102 : Int32)) 3 (116 : Int32)) 4 (115 : Int32)) 5 (108 : Int32)) 6 (105 : Int32)) 7 (100 : Int32)) 8 (101 : Int32)) 9 (109 : Int32)) 10 (97 : Int32)) 11 (114 : Int32)) 12 (107 : Int32))), ((100, 4, (fun _ => none)), (upd (upd (upd (upd (fun _ => 0) 0 (0 : Int32)) 1 (4 : Int32)) 2 (9 : Int32)) 3 (13 : Int32))), ((100, 96, (fun _ => none)), (fun _ => 0)), ((100, 96, (fun _ => none)), (fun _ => 0)), ((101, 10, (fun _ => none)), (fun _ => 0)), ((100, 96, (fun _ => none)), (fun _ => 0)), ((100, 4, (fun _ => none)), (fun _ => 0)), ((100, 4, (fun _ => none)), (upd (upd (upd (upd (fun _ => 0) 0 ((-1) : Int32)) 1 ((-1) : Int32)) 2 ((-1) : Int32)) 3 ((-1) : Int32))), ((100, 4, (fun _ => none)), (fun _ => 0)), ((100, 96, (fun _ => none)), (fun _ => 0)), ((100, 5, (fun _ => none)), (fun _ => 0))]
def qs_X7_init_56 (a : Nat) : List am_K := [((7, 34, (am_rs (am_rs (am_rs (am_rs (am_rs (am_rs (am_rs (am_rs (am_rs (am_rs (am_rs (am_rs (am_rs (am_rs (am_rs (am_rs (am_rs rfb7 0 (a + 1)) 1 (a + 2)) 2 (a + 3)) 4 (a + 4)) 5 (a + 5)) 6 (a + 6)) 14 (a + 7)) 15 (a + 8)) 16 (a + 9)) 19 (a + 10)) 21 (a + 11)) 22 (a + 12)) 23 (a + 13)) 24 (a + 14)) 25 (a + 15)) 26 (a + 16)) 27 (a + 17))), (fun _ => 0)), ((100, 1535, (fun _ => none)), (fun _ => 0)), ((100, 1535, (fun _ => none)), (fun _ => 0)), ((100, 1535, (fun _ => none)), (fun _ => 0)), ((100, 24, (fun _ => none)), (fun _ => 0)), ((100, 26, (fun _ => none)), (fun _ => 0)), ((100, 96, (fun _ => none)), (fun _ => 0)), ((102, 13, (fun _ => none)), (upd (upd (upd (upd (upd (upd (upd (upd (upd (upd (upd (upd (upd (fun _ => 0) 0 (108 : Int32)) 1 (105 : Int32)) 2 (102 : Int32)) 3 (116 : Int32)) 4 (115 : Int32)) 5 (108 : Int32)) 6 (105 : Int32)) 7 (100 : Int32)) 8 (101 : Int32)) 9 (109 : Int32)) 10 (97 : Int32)) 11 (114 : Int32)) 12 (107 : Int32))), ((100, 4, (fun _ => none)), (upd (upd (upd (upd (fun _ => 0) 0 (0 : Int32)) 1 (4 : Int32)) 2 (9 : Int32)) 3 (13 : Int32))), ((100, 96, (fun _ => none)), (fun _ => 0)), ((100, 96, (fun _ => none)), (fun _ => 0)), ((101, 10, (fun _ => none)), (fun _ => 0)), ((100, 96, (fun _ => none)), (fun _ => 0)), ((100, 4, (fun _ => none)), (fun _ => 0)), ((100, 4, (fun _ => none)), (upd (upd (upd (upd (fun _ => 0) 0 ((-1) : Int32)) 1 ((-1) : Int32)) 2 ((-1) : Int32)) 3 ((-1) : Int32))), ((100, 4, (fun _ => none)), (fun _ => 0)), ((100, 96, (fun _ => none)), (fun _ => 0)), ((100, 5, (fun _ => none)), (fun _ => 0)), ((100, 5, (fun _ => none)), (fun _ => 0))]
def qs_X7_init_57 (a : Nat) : List am_K := [((7, 34, (am_rs (am_rs (am_rs (am_rs (am_rs (am_rs (am_rs (am_rs (am_rs (am_rs (am_rs (am_rs (am_rs (am_rs (am_rs (am_rs (am_rs (am_rs rfb7 0 (a + 1)) 1 (a + 2)) 2 (a + 3)) 4 (a + 4)) 5 (a + 5)) 6 (a + 6)) 14 (a + 7)) 15 (a + 8)) 16 (a + 9)) 19 (a + 10)) 21 (a + 11)) 22 (a + 12)) 23 (a + 13)) 24 (a + 14)) 25 (a + 15)) 26 (a + 16)) 27 (a + 17)) 28 (a + 18))), (fun _ => 0)), ((100, 1535, (fun _ => none)), (fun _ => 0)), ((100, 1535, (fun _ => none)), (fun _ => 0)), ((100, 1535, (fun _ => none)), (fun _ => 0)), ((100, 24, (fun _ => none)), (fun _ => 0)), ((100, 26, (fun _ => none)), (fun _ => 0)), ((100, 96, (fun _ => none)), (fun _ => 0)), ((102, 13, (fun _ => none)), (upd (upd (upd (upd (upd (upd (upd (upd (upd (upd (upd (upd (upd (fun _ => 0) 0 (108 : Int32)) 1 (105 : Int32)) 2 (102 : Int32)) 3 (116 : Int32)) 4 (115 : Int32)) 5 (108 : Int32)) 6 (105 : Int32)) 7 (100 : Int32)) 8 (101 : Int32)) 9 (109 : Int32)) 10 (97 : Int32)) 11 (114 : Int32)) 12 (107 : Int32))), ((100, 4, (fun _ => none)), (upd (upd (upd (upd (fun _ => 0) 0 (0 : Int32)) 1 (4 : Int32)) 2 (9 : Int32)) 3 (13 : Int32))), ((100, 96, (fun _ => none)), (fun _ => 0)), ((100, 96, (fun _ => none)), (fun _ => 0)), ((101, 10, (fun _ => none)), (fun _ => 0)), ((100, 96, (fun _ => none)), (fun _ => 0)), ((100, 4, (fun _ => none)), (fun _ => 0)), ((100, 4, (fun _ => none)), (upd (upd (upd (upd (fun _ => 0) 0 ((-1) : Int32)) 1 ((-1) : Int32)) 2 ((-1) : Int32)) 3 ((-1) : Int32))), ((100, 4, (fun _ => none)), (fun _ => 0)), ((100, 96, (fun _ => none)), (fun _ => 0)), ((100, 5, (fun _ => none)), (fun _ => 0)), ((100, 5, (fun _ => none)), (fun _ => 0))]
def qs_X7_init_58 (a : Nat) : List am_K := [((7, 34, (am_rs (am_rs (am_rs (am_rs (am_rs (am_rs (am_rs (am_rs (am_rs (am_rs (am_rs (am_rs (am_rs (am_rs (am_rs (am_rs (am_rs (am_rs rfb7 0 (a + 1)) 1 (a + 2)) 2 (a + 3)) 4 (a + 4)) 5 (a + 5)) 6 (a + 6)) 14 (a + 7)) 15 (a + 8)) 16 (a + 9)) 19 (a + 10)) 21 (a + 11)) 22 (a + 12)) 23 (a + 13)) 24 (a + 14)) 25 (a + 15)) 26 (a + 16)) 27 (a + 17)) 28 (a + 18))), (fun _ => 0)), ((100, 1535, (fun _ => none)), (fun _ => 0)), ((100, 1535, (fun _ => none)), (fun _ => 0)), ((100, 1535, (fun _ => none)), (fun _ => 0)), ((100, 24, (fun _ => none)), (fun _ => 0)), ((100, 26, (fun _ => none)), (fun _ => 0)), ((100, 96, (fun _ => none)), (fun _ => 0)), ((102, 13, (fun _ => none)), (upd (upd (upd (upd (upd (upd (upd (upd (upd (upd (upd (upd (upd (fun _ => 0) 0 (108 : Int32)) 1 (105 : Int32)) 2 (102 : Int32)) 3 (116 : Int32)) 4 (115 : Int32)) 5 (108 : Int32)) 6 (105 : Int32)) 7 (100 : Int32)) 8 (101 : Int32)) 9 (109 : Int32)) 10 (97 : Int32)) 11 (114 : Int32)) 12 (107 : Int32))), ((100, 4, (fun _ => none)), (upd (upd (upd (upd (fun _ => 0) 0 (0 : Int32)) 1 (4 : Int32)) 2 (9 : Int32)) 3 (13 : Int32))), ((100, 96, (fun _ => none)), (fun _ => 0)), ((100, 96, (fun _ => none)), (fun _ => 0)), ((101, 10, (fun _ => none)), (fun _ => 0)), ((100, 96, (fun _ => none)), (fun _ => 0)), ((100, 4, (fun _ => none)), (fun _ => 0)), ((100, 4, (fun _ => none)), (upd (upd (upd (upd (fun _ => 0) 0 ((-1) : Int32)) 1 ((-1) : Int32)) 2 ((-1) : Int32)) 3 ((-1) : Int32))), ((100, 4, (fun _ => none)), (fun _ => 0)), ((100, 96, (fun _ => none)), (fun _ => 0)), ((100, 5, (fun _ => none)), (fun _ => 0)), ((100, 5, (fun _ => none)), (fun _ => 0)), ((100, 5, (fun _ => none)), (fun _ => 0))]
def qs_X7_init_59 (a : Nat) : List am_K := [((7, 34, (am_rs (am_rs (am_rs (am_rs (am_rs (am_rs (am_rs (am_rs (am_rs (am_rs (am_rs (am_rs (am_rs (am_rs (am_rs (am_rs (am_rs (am_rs (am_rs rfb7 0 (a + 1)) 1 (a + 2)) 2 (a + 3)) 4 (a + 4)) 5 (a + 5)) 6 (a + 6)) 14 (a + 7)) 15 (a + 8)) 16 (a + 9)) 19 (a + 10)) 21 (a + 11)) 22 (a + 12)) 23 (a + 13)) 24 (a + 14)) 25 (a + 15)) 26 (a + 16)) 27 (a + 17)) 28 (a + 18)) 29 (a + 19))), (fun _ => 0)), ((100, 1535, (fun _ => none)), (fun _ => 0)), ((100, 1535, (fun _ => none)), (fun _ => 0)), ((100, 1535, (fun _ => none)), (fun _ => 0)), ((100, 24, (fun _ => none)), (fun _ => 0)), ((100, 26, (fun _ => none)), (fun _ => 0)), ((100, 96, (fun _ => none)), (fun _ => 0)), ((102, 13, (fun _ => none)), (upd (upd (upd (upd (upd (upd (upd (upd (upd (upd (upd (upd (upd (fun _ => 0) 0 (108 : Int32)) 1 (105 : Int32)) 2 (102 : Int32)) 3 (116 : Int32)) 4 (115 : Int32)) 5 (108 : Int32)) 6 (105 : Int32)) 7 (100 : Int32)) 8 (101 : Int32)) 9 (109 : Int32)) 10 (97 : Int32)) 11 (114 : Int32)) 12 (107 : Int32))), ((100, 4, (fun _ => none)), (upd (upd (upd (upd (fun _ => 0) 0 (0 : Int32)) 1 (4 : Int32)) 2 (9 : Int32)) 3 (13 : Int32))), ((100, 96, (fun _ => none)), (fun _ => 0)), ((100, 96, (fun _ => none)), (fun _ => 0)), ((101, 10, (fun _ => none)), (fun _ => 0)), ((100, 96, (fun _ => none)), (fun _ => 0)), ((100, 4, (fun _ => none)), (fun _ => 0)), ((100, 4, (fun _ => none)), (upd (upd (upd (upd (fun _ => 0) 0 ((-1) : Int32)) 1 ((-1) : Int32)) 2 ((-1) : Int32)) 3 ((-1) : Int32))), ((100, 4, (fun _ => none)), (fun _ => 0)), ((100, 96, (fun _ => none)), (fun _ => 0)), ((100, 5, (fun _ => none)), (fun _ => 0)), ((100, 5, (fun _ => none)), (fun _ => 0)), ((100, 5, (fun _ => none)), (fun _ => 0))]
def qs_X7_init_60 (a : Nat) : List am_K := [((7, 34, (am_rs (am_rs (am_rs (am_rs (am_rs (am_rs (am_rs (am_rs (am_rs (am_rs (am_rs (am_rs (am_rs (am_rs (am_rs (am_rs (am_rs (am_rs (am_rs rfb7 0 (a + 1)) 1 (a + 2)) 2 (a + 3)) 4 (a + 4)) 5 (a + 5)) 6 (a + 6)) 14 (a + 7)) 15 (a + 8)) 16 (a + 9)) 19 (a + 10)) 21 (a + 11)) 22 (a + 12)) 23 (a + 13)) 24 (a + 14)) 25 (a + 15)) 26 (a + 16)) 27 (a + 17)) 28 (a + 18)) 29 (a + 19))), (fun _ => 0)), ((100, 1535, (fun _ => none)), (fun _ => 0)), ((100, 1535, (fun _ => none)), (fun _ => 0)), ((100, 1535, (fun _ => none)), (fun _ => 0)), ((100, 24, (fun _ => none)), (fun _ => 0)), ((100, 26, (fun _ => none)), (fun _ => 0)), ((100, 96, (fun _ => none)), (fun _ => 0)), ((102, 13, (fun _ => none)), (upd (upd (upd (upd (upd (upd (upd (upd (upd (upd (upd (upd (upd (fun _ => 0) 0 (108 : Int32)) 1 (105 : Int32)) 2 (102 : Int32)) 3 (116 : Int32)) 4 (115 : Int32)) 5 (108 : Int32)) 6 (105 : Int32)) 7 (100 : Int32)) 8 (101 : Int32)) 9 (109 : Int32)) 10 (97 : Int32)) 11 (114 : Int32)) 12 (107 : Int32))), ((100, 4, (fun _ => none)), (upd (upd (upd (upd (fun _ => 0) 0 (0 : Int32)) 1 (4 : Int32)) 2 (9 : Int32)) 3 (13 : Int32))), ((100, 96, (fun _ => none)), (fun _ => 0)), ((100, 96, (fun _ => none)), (fun _ => 0)), ((101, 10, (fun _ => none)), (fun _ => 0)), ((100, 96, (fun _ => none)), (fun _ => 0)), ((100, 4, (fun _ => none)), (fun _ => 0)), ((100, 4, (fun _ => none)), (upd (upd (upd (upd (fun _ => 0) 0 ((-1) : Int32)) 1 ((-1) : Int32)) 2 ((-1) : Int32)) 3 ((-1) : Int32))), ((100, 4, (fun _ => none)), (fun _ => 0)), ((100, 96, (fun _ => none)), (fun _ => 0)), ((100, 5, (fun _ => none)), (fun _ => 0)), ((100, 5, (fun _ => none)), (fun _ => 0)), ((100, 5, (fun _ => none)), (fun _ => 0)), ((100, 120, (fun _ => none)), (fun _ => 0))]
def qs_X7_init_61 (a : Nat) : List am_K := [((7, 34, (am_rs (am_rs (am_rs (am_rs (am_rs (am_rs (am_rs (am_rs (am_rs (am_rs (am_rs (am_rs (am_rs (am_rs (am_rs (am_rs (am_rs (am_rs (am_rs (am_rs rfb7 0 (a + 1)) 1 (a + 2)) 2 (a + 3)) 4 (a + 4)) 5 (a + 5)) 6 (a + 6)) 14 (a + 7)) 15 (a + 8)) 16 (a + 9)) 19 (a + 10)) 21 (a + 11)) 22 (a + 12)) 23 (a + 13)) 24 (a + 14)) 25 (a + 15)) 26 (a + 16)) 27 (a + 17)) 28 (a + 18)) 29 (a + 19)) 30 (a + 20))), (fun _ => 0)), ((100, 1535, (fun _ => none)), (fun _ => 0)), ((100, 1535, (fun _ => none)), (fun _ => 0)), ((100, 1535, (fun _ => none)), (fun _ => 0)), ((100, 24, (fun _ => none)), (fun _ => 0)), ((100, 26, (fun _ => none)), (fun _ => 0)), ((100, 96, (fun _ => none)), (fun _ => 0)), ((102, 13, (fun _ => none)), (upd (upd (upd (upd (upd (upd (upd (upd (upd (upd (upd (upd (upd (fun _ => 0) 0 (108 : Int32)) 1 (105 : Int32)) 2 (102 : Int32)) 3 (116 : Int32)) 4 (115 : Int32)) 5 (108 : Int32)) 6 (105 : Int32)) 7 (100 : Int32)) 8 (101 : Int32)) 9 (109 : Int32)) 10 (97 : Int32)) 11 (114 : Int32)) 12 (107 : Int32))), ((100, 4, (fun _ => none)), (upd (upd (upd (upd (fun _ => 0) 0 (0 : Int32)) 1 (4 : Int32)) 2 (9 : Int32)) 3 (13 : Int32))), ((100, 96, (fun _ => none)), (fun _ => 0)), ((100, 96, (fun _ => none)), (fun _ => 0)), ((101, 10, (fun _ => none)), (fun _ => 0)), ((100, 96, (fun _ => none)), (fun _ => 0)), ((100, 4, (fun _ => none)), (fun _ => 0)), ((100, 4, (fun _ => none)), (upd (upd (upd (upd (fun _ => 0) 0 ((-1) : Int32)) 1 ((-1) : Int32)) 2 ((-1) : Int32)) 3 ((-1) : Int32))), ((100, 4, (fun _ => none)), (fun _ => 0)), ((100, 96, (fun _ => none)), (fun _ => 0)), ((100, 5, (fun _ => none)), (fun _ => 0)), ((100, 5, (fun _ => none)), (fun _ => 0)), ((100, 5, (fun _ => none)), (fun _ => 0)), ((100, 120, (fun _ => none)), (fun _ => 0))]
def qs_X7_init_62 (a : Nat) : List am_K := [((7, 34, (am_rs (am_rs (am_rs (am_rs (am_rs (am_rs (am_rs (am_rs (am_rs (am_rs (am_rs (am_rs (am_rs (am_rs (am_rs (am_rs (am_rs (am_rs (am_rs (am_rs rfb7 0 (a + 1)) 1 (a + 2)) 2 (a + 3)) 4 (a + 4)) 5 (a + 5)) 6 (a + 6)) 14 (a + 7)) 15 (a + 8)) 16 (a + 9)) 19 (a + 10)) 21 (a + 11)) 22 (a + 12)) 23 (a + 13)) 24 (a + 14)) 25 (a + 15)) 26 (a + 16)) 27 (a + 17)) 28 (a + 18)) 29 (a + 19)) 30 (a + 20))), (fun _ => 0)), ((100, 1535, (fun _ => none)), (fun _ => 0)), ((100, 1535, (fun _ => none)), (fun _ => 0)), ((100, 1535, (fun _ => none)), (fun _ => 0)), ((100, 24, (fun _ => none)), (fun _ => 0)), ((100, 26, (fun _ => none)), (fun _ => 0)), ((100, 96, (fun _ => none)), (fun _ => 0)), ((102, 13, (fun _ => none)), (upd (upd (upd (upd (upd (upd (upd (upd (upd (upd (upd (upd (upd (fun _ => 0) 0 (108 : Int32)) 1 (105 : Int32)) 2 (102 : Int32)) 3 (116 : Int32)) 4 (115 : Int32)) 5 (108 : Int32)) 6 (105 : Int32)) 7 (100 : Int32)) 8 (101 : Int32)) 9 (109 : Int32)) 10 (97 : Int32)) 11 (114 : Int32)) 12 (107 : Int32))), ((100, 4, (fun _ => none)), (upd (upd (upd (upd (fun _ => 0) 0 (0 : Int32)) 1 (4 : Int32)) 2 (9 : Int32)) 3 (13 : Int32))), ((100, 96, (fun _ => none)), (fun _ => 0)), ((100, 96, (fun _ => none)), (fun _ => 0)), ((101, 10, (fun _ => none)), (fun _ => 0)), ((100, 96, (fun _ => none)), (fun _ => 0)), ((100, 4, (fun _ => none)), (fun _ => 0)), ((100, 4, (fun _ => none)), (upd (upd (upd (upd (fun _ => 0) 0 ((-1) : Int32)) 1 ((-1) : Int32)) 2 ((-1) : Int32)) 3 ((-1) : Int32))), ((100, 4, (fun _ => none)), (fun _ => 0)), ((100, 96, (fun _ => none)), (fun _ => 0)), ((100, 5, (fun _ => none)), (fun _ => 0)), ((100, 5, (fun _ => none)), (fun _ => 0)), ((100, 5, (fun _ => none)), (fun _ => 0)), ((100, 120, (fun _ => none)), (fun _ => 0)), ((100, 24, (fun _ => none)), (fun _ => 0))]
def qs_X7_init_63 (a : Nat) : List am_K := [((7, 34, (am_rs (am_rs (am_rs (am_rs (am_rs (am_rs (am_rs (am_rs (am_rs (am_rs (am_rs (am_rs (am_rs (am_rs (am_rs (am_rs (am_rs (am_rs (am_rs (am_rs (am_rs rfb7 0 (a + 1)) 1 (a + 2)) 2 (a + 3)) 4 (a + 4)) 5 (a + 5)) 6 (a + 6)) 14 (a + 7)) 15 (a + 8)) 16 (a + 9)) 19 (a + 10)) 21 (a + 11)) 22 (a + 12)) 23 (a + 13)) 24 (a + 14)) 25 (a + 15)) 26 (a + 16)) 27 (a + 17)) 28 (a + 18)) 29 (a + 19)) 30 (a + 20)) 31 (a + 21))), (fun _ => 0)), ((100, 1535, (fun _ => none)), (fun _ => 0)), ((100, 1535, (fun _ => none)), (fun _ => 0)), ((100, 1535, (fun _ => none)), (fun _ => 0)), ((100, 24, (fun _ => none)), (fun _ => 0)), ((100, 26, (fun _ => none)), (fun _ => 0)), ((100, 96, (fun _ => none)), (fun _ => 0)), ((102, 13, (fun _ => none)), (upd (upd (upd (upd (upd (upd (upd (upd (upd (upd (upd (upd (upd (fun _ => 0) 0 (108 : Int32)) 1 (105 : Int32)) 2 (102 : Int32)) 3 (116 : Int32)) 4 (115 : Int32)) 5 (108 : Int32)) 6 (105 : Int32)) 7 (100 : Int32)) 8 (101 : Int32)) 9 (109 : Int32)) 10 (97 : Int32)) 11 (114 : Int32)) 12 (107 : Int32))), ((100, 4, (fun _ => none)), (upd (upd (upd (upd (fun _ => 0) 0 (0 : Int32)) 1 (4 : Int32)) 2 (9 : Int32)) 3 (13 : Int32))), ((100, 96, (fun _ => none)), (fun _ => 0)), ((100, 96, (fun _ => none)), (fun _ => 0)), ((101, 10, (fun _ => none)), (fun _ => 0)), ((100, 96, (fun _ => none)), (fun _ => 0)), ((100, 4, (fun _ => none)), (fun _ => 0)), ((100, 4, (fun _ => none)), (upd (upd (upd (upd (fun _ => 0) 0 ((-1) : Int32)) 1 ((-1) : Int32)) 2 ((-1) : Int32)) 3 ((-1) : Int32))), ((100, 4, (fun _ => none)), (fun _ => 0)), ((100, 96, (fun _ => none)), (fun _ => 0)), ((100, 5, (fun _ => none)), (fun _ => 0)), ((100, 5, (fun _ => none)), (fun _ => 0)), ((100, 5, (fun _ => none)), (fun _ => 0)), ((100, 120, (fun _ => none)), (fun _ => 0)), ((100, 24, (fun _ => none)), (fun _ => 0))]
def qs_X7_init_64 (a : Nat) : List am_K := [((7, 34, (am_rs (am_rs (am_rs (am_rs (am_rs (am_rs (am_rs (am_rs (am_rs (am_rs (am_rs (am_rs (am_rs (am_rs (am_rs (am_rs (am_rs (am_rs (am_rs (am_rs (am_rs rfb7 0 (a + 1)) 1 (a + 2)) 2 (a + 3)) 4 (a + 4)) 5 (a + 5)) 6 (a + 6)) 14 (a + 7)) 15 (a + 8)) 16 (a + 9)) 19 (a + 10)) 21 (a + 11)) 22 (a + 12)) 23 (a + 13)) 24 (a + 14)) 25 (a + 15)) 26 (a + 16)) 27 (a + 17)) 28 (a + 18)) 29 (a + 19)) 30 (a + 20)) 31 (a + 21))), (fun _ => 0)), ((100, 1535, (fun _ => none)), (fun _ => 0)), ((100, 1535, (fun _ => none)), (fun _ => 0)), ((100, 1535, (fun _ => none)), (fun _ => 0)), ((100, 24, (fun _ => none)), (fun _ => 0)), ((100, 26, (fun _ => none)), (fun _ => 0)), ((100, 96, (fun _ => none)), (fun _ => 0)), ((102, 13, (fun _ => none)), (upd (upd (upd (upd (upd (upd (upd (upd (upd (upd (upd (upd (upd (fun _ => 0) 0 (108 : Int32)) 1 (105 : Int32)) 2 (102 : Int32)) 3 (116 : Int32)) 4 (115 : Int32)) 5 (108 : Int32)) 6 (105 : Int32)) 7 (100 : Int32)) 8 (101 : Int32)) 9 (109 : Int32)) 10 (97 : Int32)) 11 (114 : Int32)) 12 (107 : Int32))), ((100, 4, (fun _ => none)), (upd (upd (upd (upd (fun _ => 0) 0 (0 : Int32)) 1 (4 : Int32)) 2 (9 : Int32)) 3 (13 : Int32))), ((100, 96, (fun _ => none)), (fun _ => 0)), ((100, 96, (fun _ => none)), (fun _ => 0)), ((101, 10, (fun _ => none)), (fun _ => 0)), ((100, 96, (fun _ => none)), (fun _ => 0)), ((100, 4, (fun _ => none)), (fun _ => 0)), ((100, 4, (fun _ => none)), (upd (upd (upd (upd (fun _ => 0) 0 ((-1) : Int32)) 1 ((-1) : Int32)) 2 ((-1) : Int32)) 3 ((-1) : Int32))), ((100, 4, (fun _ => none)), (fun _ => 0)), ((100, 96, (fun _ => none)), (fun _ => 0)), ((100, 5, (fun _ => none)), (fun _ => 0)), ((100, 5, (fun _ => none)), (fun _ => 0)), ((100, 5, (fun _ => none)), (fun _ => 0)), ((100, 120, (fun _ => none)), (fun _ => 0)), ((100, 24, (fun _ => none)), (fun _ => 0)), ((100, 60, (fun _ => none)), (fun _ => 0))]
def qs_X7_init_65 (a : Nat) : List am_K := [((7, 34, (am_rs (am_rs (am_rs (am_rs (am_rs (am_rs (am_rs (am_rs (am_rs (am_rs (am_rs (am_rs (am_rs (am_rs (am_rs (am_rs (am_rs (am_rs (am_rs (am_rs (am_rs (am_rs rfb7 0 (a + 1)) 1 (a + 2)) 2 (a + 3)) 4 (a + 4)) 5 (a + 5)) 6 (a + 6)) 14 (a + 7)) 15 (a + 8)) 16 (a + 9)) 19 (a + 10)) 21 (a + 11)) 22 (a + 12)) 23 (a + 13)) 24 (a + 14)) 25 (a + 15)) 26 (a + 16)) 27 (a + 17)) 28 (a + 18)) 29 (a + 19)) 30 (a + 20)) 31 (a + 21)) 32 (a + 22))), (fun _ => 0)), ((100, 1535, (fun _ => none)), (fun _ => 0)), ((100, 1535, (fun _ => none)), (fun _ => 0)), ((100, 1535, (fun _ => none)), (fun _ => 0)), ((100, 24, (fun _ => none)), (fun _ => 0)), ((100, 26, (fun _ => none)), (fun _ => 0)), ((100, 96, (fun _ => none)), (fun _ => 0)), ((102, 13, (fun _ => none)), (upd (upd (upd (upd (upd (upd (upd (upd (upd (upd (upd (upd (upd (fun _ => 0) 0 (108 : Int32)) 1 (105 : Int32)) 2 (102 : Int32)) 3 (116 : Int32)) 4 (115 : Int32)) 5 (108 : Int32)) 6 (105 : Int32)) 7 (100 : Int32)) 8 (101 : Int32)) 9 (109 : Int32)) 10 (97 : Int32)) 11 (114 : Int32)) 12 (107 : Int32))), ((100, 4, (fun _ => none)), (upd (upd (upd (upd (fun _ => 0) 0 (0 : Int32)) 1 (4 : Int32)) 2 (9 : Int32)) 3 (13 : Int32))), ((100, 96, (fun _ => none)), (fun _ => 0)), ((100, 96, (fun _ => none)), (fun _ => 0)), ((101, 10, (fun _ => none)), (fun _ => 0)), ((100, 96, (fun _ => none)), (fun _ => 0)), ((100, 4, (fun _ => none)), (fun _ => 0)), ((100, 4, (fun _ => none)), (upd (upd (upd (upd (fun _ => 0) 0 ((-1) : Int32)) 1 ((-1) : Int32)) 2 ((-1) : Int32)) 3 ((-1) : Int32))), ((100, 4, (fun _ => none)), (fun _ => 0)), ((100, 96, (fun _ => none)), (fun _ => 0)), ((100, 5, (fun _ => none)), (fun _ => 0)), ((100, 5, (fun _ => none)), (fun _ => 0)), ((100, 5, (fun _ => none)), (fun _ => 0)), ((100, 120, (fun _ => none)), (fun _ => 0)), ((100, 24, (fun _ => none)), (fun _ => 0)), ((100, 60, (fun _ => none)), (fun _ => 0))]
def qs_X7_init_66 (a : Nat) : List am_K := [((7, 34, (am_rs (am_rs (am_rs (am_rs (am_rs (am_rs (am_rs (am_rs (am_rs (am_rs (am_rs (am_rs (am_rs (am_rs (am_rs (am_rs (am_rs (am_rs (am_rs (am_rs (am_rs (am_rs rfb7 0 (a + 1)) 1 (a + 2)) 2 (a + 3)) 4 (a + 4)) 5 (a + 5)) 6 (a + 6)) 14 (a + 7)) 15 (a + 8)) 16 (a + 9)) 19 (a + 10)) 21 (a + 11)) 22 (a + 12)) 23 (a + 13)) 24 (a + 14)) 25 (a + 15)) 26 (a + 16)) 27 (a + 17)) 28 (a + 18)) 29 (a + 19)) 30 (a + 20)) 31 (a + 21)) 32 (a + 22))), (fun _ => 0)), ((100, 1535, (fun _ => none)), (upd (fun _ => 0) 0 (1 : Int32))), ((100, 1535, (fun _ => none)), (fun _ => 0)), ((100, 1535, (fun _ => none)), (fun _ => 0)), ((100, 24, (fun _ => none)), (fun _ => 0)), ((100, 26, (fun _ => none)), (fun _ => 0)), ((100, 96, (fun _ => none)), (fun _ => 0)), ((102, 13, (fun _ => none)), (upd (upd (upd (upd (upd (upd (upd (upd (upd (upd (upd (upd (upd (fun _ => 0) 0 (108 : Int32)) 1 (105 : Int32)) 2 (102 : Int32)) 3 (116 : Int32)) 4 (115 : Int32)) 5 (108 : Int32)) 6 (105 : Int32)) 7 (100 : Int32)) 8 (101 : Int32)) 9 (109 : Int32)) 10 (97 : Int32)) 11 (114 : Int32)) 12 (107 : Int32))), ((100, 4, (fun _ => none)), (upd (upd (upd (upd (fun _ => 0) 0 (0 : Int32)) 1 (4 : Int32)) 2 (9 : Int32)) 3 (13 : Int32))), ((100, 96, (fun _ => none)), (fun _ => 0)), ((100, 96, (fun _ => none)), (fun _ => 0)), ((101, 10, (fun _ => none)), (fun _ => 0)), ((100, 96, (fun _ => none)), (fun _ => 0)), ((100, 4, (fun _ => none)), (fun _ => 0)), ((100, 4, (fun _ => none)), (upd (upd (upd (upd (fun _ => 0) 0 ((-1) : Int32)) 1 ((-1) : Int32)) 2 ((-1) : Int32)) 3 ((-1) : Int32))), ((100, 4, (fun _ => none)), (fun _ => 0)), ((100, 96, (fun _ => none)), (fun _ => 0)), ((100, 5, (fun _ => none)), (fun _ => 0)), ((100, 5, (fun _ => none)), (fun _ => 0)), ((100, 5, (fun _ => none)), (fun _ => 0)), ((100, 120, (fun _ => none)), (fun _ => 0)), ((100, 24, (fun _ => none)), (fun _ => 0)), ((100, 60, (fun _ => none)), (fun _ => 0))]
def qs_X7_init_67 (a : Nat) : List am_K := [((7, 34, (am_rs (am_rs (am_rs (am_rs (am_rs (am_rs (am_rs (am_rs (am_rs (am_rs (am_rs (am_rs (am_rs (am_rs (am_rs (am_rs (am_rs (am_rs (am_rs (am_rs (am_rs (am_rs rfb7 0 (a + 1)) 1 (a + 2)) 2 (a + 3)) 4 (a + 4)) 5 (a + 5)) 6 (a + 6)) 14 (a + 7)) 15 (a + 8)) 16 (a + 9)) 19 (a + 10)) 21 (a + 11)) 22 (a + 12)) 23 (a + 13)) 24 (a + 14)) 25 (a + 15)) 26 (a + 16)) 27 (a + 17)) 28 (a + 18)) 29 (a + 19)) 30 (a + 20)) 31 (a + 21)) 32 (a + 22))), (fun _ => 0)), ((100, 1535, (fun _ => none)), (upd (upd (fun _ => 0) 0 (1 : Int32)) 2 (3 : Int32))), ((100, 1535, (fun _ => none)), (fun _ => 0)), ((100, 1535, (fun _ => none)), (fun _ => 0)), ((100, 24, (fun _ => none)), (fun _ => 0)), ((100, 26, (fun _ => none)), (fun _ => 0)), ((100, 96, (fun _ => none)), (fun _ => 0)), ((102, 13, (fun _ => none)), (upd (upd (upd (upd (upd (upd (upd (upd (upd (upd (upd (upd (upd (fun _ => 0) 0 (108 : Int32)) 1 (105 : Int32)) 2 (102 : Int32)) 3 (116 : Int32)) 4 (115 : Int32)) 5 (108 : Int32)) 6 (105 : Int32)) 7 (100 : Int32)) 8 (101 : Int32)) 9 (109 : Int32)) 10 (97 : Int32)) 11 (114 : Int32)) 12 (107 : Int32))), ((100, 4, (fun _ => none)), (upd (upd (upd (upd (fun _ => 0) 0 (0 : Int32)) 1 (4 : Int32)) 2 (9 : Int32)) 3 (13 : Int32))), ((100, 96, (fun _ => none)), (fun _ => 0)), ((100, 96, (fun _ => none)), (fun _ => 0)), ((101, 10, (fun _ => none)), (fun _ => 0)), ((100, 96, (fun _ => none)), (fun _ => 0)), ((100, 4, (fun _ => none)), (fun _ => 0)), ((100, 4, (fun _ => none)), (upd (upd (upd (upd (fun _ => 0) 0 ((-1) : Int32)) 1 ((-1) : Int32)) 2 ((-1) : Int32)) 3 ((-1) : Int32))), ((100, 4, (fun _ => none)), (fun _ => 0)), ((100, 96, (fun _ => none)), (fun _ => 0)), ((100, 5, (fun _ => none)), (fun _ => 0)), ((100, 5, (fun _ => none)), (fun _ => 0)), ((100, 5, (fun _ => none)), (fun _ => 0)), ((100, 120, (fun _ => none)), (fun _ => 0)), ((100, 24, (fun _ => none)), (fun _ => 0)), ((100, 60, (fun _ => none)), (fun _ => 0))]
def qs_X7_init_68 (a : Nat) : List am_K := [((7, 34, (am_rs (am_rs (am_rs (am_rs (am_rs (am_rs (am_rs (am_rs (am_rs (am_rs (am_rs (am_rs (am_rs (am_rs (am_rs (am_rs (am_rs (am_rs (am_rs (am_rs (am_rs (am_rs rfb7 0 (a + 1)) 1 (a + 2)) 2 (a + 3)) 4 (a + 4)) 5 (a + 5)) 6 (a + 6)) 14 (a + 7)) 15 (a + 8)) 16 (a + 9)) 19 (a + 10)) 21 (a + 11)) 22 (a + 12)) 23 (a + 13)) 24 (a + 14)) 25 (a + 15)) 26 (a + 16)) 27 (a + 17)) 28 (a + 18)) 29 (a + 19)) 30 (a + 20)) 31 (a + 21)) 32 (a + 22))), (fun _ => 0)), ((100, 1535, (fun _ => none)), (upd (upd (upd (fun _ => 0) 0 (1 : Int32)) 2 (3 : Int32)) 3 (2 : Int32))), ((100, 1535, (fun _ => none)), (fun _ => 0)), ((100, 1535, (fun _ => none)), (fun _ => 0)), ((100, 24, (fun _ => none)), (fun _ => 0)), ((100, 26, (fun _ => none)), (fun _ => 0)), ((100, 96, (fun _ => none)), (fun _ => 0)), ((102, 13, (fun _ => none)), (upd (upd (upd (upd (upd (upd (upd (upd (upd (upd (upd (upd (upd (fun _ => 0) 0 (108 : Int32)) 1 (105 : Int32)) 2 (102 : Int32)) 3 (116 : Int32)) 4 (115 : Int32)) 5 (108 : Int32)) 6 (105 : Int32)) 7 (100 : Int32)) 8 (101 : Int32)) 9 (109 : Int32)) 10 (97 : Int32)) 11 (114 : Int32)) 12 (107 : Int32))), ((100, 4, (fun _ => none)), (upd (upd (upd (upd (fun _ => 0) 0 (0 : Int32)) 1 (4 : Int32)) 2 (9 : Int32)) 3 (13 : Int32))), ((100, 96, (fun _ => none)), (fun _ => 0)), ((100, 96, (fun _ => none)), (fun _ => 0)), ((101, 10, (fun _ => none)), (fun _ => 0)), ((100, 96, (fun _ => none)), (fun _ => 0)), ((100, 4, (fun _ => none)), (fun _ => 0)), ((100, 4, (fun _ => none)), (upd (upd (upd (upd (fun _ => 0) 0 ((-1) : Int32)) 1 ((-1) : Int32)) 2 ((-1) : Int32)) 3 ((-1) : Int32))), ((100, 4, (fun _ => none)), (fun _ => 0)), ((100, 96, (fun _ => none)), (fun _ => 0)), ((100, 5, (fun _ => none)), (fun _ => 0)), ((100, 5, (fun _ => none)), (fun _ => 0)), ((100, 5, (fun _ => none)), (fun _ => 0)), ((100, 120, (fun _ => none)), (fun _ => 0)), ((100, 24, (fun _ => none)), (fun _ => 0)), ((100, 60, (fun _ => none)), (fun _ => 0))]
def qs_X7_init_69 (a : Nat) : List am_K := [((7, 34, (am_rs (am_rs (am_rs (am_rs (am_rs (am_rs (am_rs (am_rs (am_rs (am_rs (am_rs (am_rs (am_rs (am_rs (am_rs (am_rs (am_rs (am_rs (am_rs (am_rs (am_rs (am_rs rfb7 0 (a + 1)) 1 (a + 2)) 2 (a + 3)) 4 (a + 4)) 5 (a + 5)) 6 (a + 6)) 14 (a + 7)) 15 (a + 8)) 16 (a + 9)) 19 (a + 10)) 21 (a + 11)) 22 (a + 12)) 23 (a + 13)) 24 (a + 14)) 25 (a + 15)) 26 (a + 16)) 27 (a + 17)) 28 (a + 18)) 29 (a + 19)) 30 (a + 20)) 31 (a + 21)) 32 (a + 22))), (fun _ => 0)), ((100, 1535, (fun _ => none)), (upd (upd (upd (upd (fun _ => 0) 0 (1 : Int32)) 2 (3 : Int32)) 3 (2 : Int32)) 4 (5 : Int32))), ((100, 1535, (fun _ => none)), (fun _ => 0)), ((100, 1535, (fun _ => none)), (fun _ => 0)), ((100, 24, (fun _ => none)), (fun _ => 0)), ((100, 26, (fun _ => none)), (fun _ => 0)), ((100, 96, (fun _ => none)), (fun _ => 0)), ((102, 13, (fun _ => none)), (upd (upd (upd (upd (upd (upd (upd (upd (upd (upd (upd (upd (upd (fun _ => 0) 0 (108 : Int32)) 1 (105 : Int32)) 2 (102 : Int32)) 3 (116 : Int32)) 4 (115 : Int32)) 5 (108 : Int32)) 6 (105 : Int32)) 7 (100 : Int32)) 8 (101 : Int32)) 9 (109 : Int32)) 10 (97 : Int32)) 11 (114 : Int32)) 12 (107 : Int32))), ((100, 4, (fun _ => none)), (upd (upd (upd (upd (fun _ => 0) 0 (0 : Int32)) 1 (4 : Int32)) 2 (9 : Int32)) 3 (13 : Int32))), ((100, 96, (fun _ => none)), (fun _ => 0)), ((100, 96, (fun _ => none)), (fun _ => 0)), ((101, 10, (fun _ => none)), (fun _ => 0)), ((100, 96, (fun _ => none)), (fun _ => 0)), ((100, 4, (fun _ => none)), (fun _ => 0)), ((100, 4, (fun _ => none)), (upd (upd (upd (upd (fun _ => 0) 0 ((-1) : Int32)) 1 ((-1) : Int32)) 2 ((-1) : Int32)) 3 ((-1) : Int32))), ((100, 4, (fun _ => none)), (fun _ => 0)), ((100, 96, (fun _ => none)), (fun _ => 0)), ((100, 5, (fun _ => none)), (fun _ => 0)), ((100, 5, (fun _ => none)), (fun _ => 0)), ((100, 5, (fun _ => none)), (fun _ => 0)), ((100, 120, (fun _ => none)), (fun _ => 0)), ((100, 24, (fun _ => none)), (fun _ => 0)), ((100, 60, (fun _ => none)), (fun _ => 0))]
def qs_X7_init_70 (a : Nat) : List am_K := [((7, 34, (am_rs (am_rs (am_rs (am_rs (am_rs (am_rs (am_rs (am_rs (am_rs (am_rs (am_rs (am_rs (am_rs (am_rs (am_rs (am_rs (am_rs (am_rs (am_rs (am_rs (am_rs (am_rs rfb7 0 (a + 1)) 1 (a + 2)) 2 (a + 3)) 4 (a + 4)) 5 (a + 5)) 6 (a + 6)) 14 (a + 7)) 15 (a + 8)) 16 (a + 9)) 19 (a + 10)) 21 (a + 11)) 22 (a + 12)) 23 (a + 13)) 24 (a + 14)) 25 (a + 15)) 26 (a + 16)) 27 (a + 17)) 28 (a + 18)) 29 (a + 19)) 30 (a + 20)) 31 (a + 21)) 32 (a + 22))), (fun _ => 0)), ((100, 1535, (fun _ => none)), (upd (upd (upd (upd (upd (fun _ => 0) 0 (1 : Int32)) 2 (3 : Int32)) 3 (2 : Int32)) 4 (5 : Int32)) 5 (4 : Int32))), ((100, 1535, (fun _ => none)), (fun _ => 0)), ((100, 1535, (fun _ => none)), (fun _ => 0)), ((100, 24, (fun _ => none)), (fun _ => 0)), ((100, 26, (fun _ => none)), (fun _ => 0)), ((100, 96, (fun _ => none)), (fun _ => 0)), ((102, 13, (fun _ => none)), (upd (upd (upd (upd (upd (upd (upd (upd (upd (upd (upd (upd (upd (fun _ => 0) 0 (108 : Int32)) 1 (105 : Int32)) 2 (102 : Int32)) 3 (116 : Int32)) 4 (115 : Int32)) 5 (108 : Int32)) 6 (105 : Int32)) 7 (100 : Int32)) 8 (101 : Int32)) 9 (109 : Int32)) 10 (97 : Int32)) 11 (114 : Int32)) 12 (107 : Int32))), ((100, 4, (fun _ => none)), (upd (upd (upd (upd (fun _ => 0) 0 (0 : Int32)) 1 (4 : Int32)) 2 (9 : Int32)) 3 (13 : Int32))), ((100, 96, (fun _ => none)), (fun _ => 0)), ((100, 96, (fun _ => none)), (fun _ => 0)), ((101, 10, (fun _ => none)), (fun _ => 0)), ((100, 96, (fun _ => none)), (fun _ => 0)), ((100, 4, (fun _ => none)), (fun _ => 0)), ((100, 4, (fun _ => none)), (upd (upd (upd (upd (fun _ => 0) 0 ((-1) : Int32)) 1 ((-1) : Int32)) 2 ((-1) : Int32)) 3 ((-1) : Int32))), ((100, 4, (fun _ => none)), (fun _ => 0)), ((100, 96, (fun _ => none)), (fun _ => 0)), ((100, 5, (fun _ => none)), (fun _ => 0)), ((100, 5, (fun _ => none)), (fun _ => 0)), ((100, 5, (fun _ => none)), (fun _ => 0)), ((100, 120, (fun _ => none)), (fun _ => 0)), ((100, 24, (fun _ => none)), (fun _ => 0)), ((100, 60, (fun _ => none)), (fun _ => 0))]
def qX7_init (a : Nat) : List am_K := [
  ((7, 34, (am_rs (am_rs (am_rs (am_rs (am_rs (am_rs (am_rs (am_rs (am_rs (am_rs (am_rs (am_rs (am_rs (am_rs (am_rs (am_rs (am_rs (am_rs (am_rs (am_rs (am_rs (am_rs rfb7 0 (a + 1)) 1 (a + 2)) 2 (a + 3)) 4 (a + 4)) 5 (a + 5)) 6 (a + 6)) 14 (a + 7)) 15 (a + 8)) 16 (a + 9)) 19 (a + 10)) 21 (a + 11)) 22 (a + 12)) 23 (a + 13)) 24 (a + 14)) 25 (a + 15)) 26 (a + 16)) 27 (a + 17)) 28 (a + 18)) 29 (a + 19)) 30 (a + 20)) 31 (a + 21)) 32 (a + 22))), (fun _ => 0)),
  ((100, 1535, (fun _ => none)), (upd (upd (upd (upd (upd (fun _ => 0) 0 (1 : Int32)) 2 (3 : Int32)) 3 (2 : Int32)) 4 (5 : Int32)) 5 (4 : Int32))),
  ((100, 1535, (fun _ => none)), (fun _ => 0)),
  ((100, 1535, (fun _ => none)), (fun _ => 0)),
  ((100, 24, (fun _ => none)), (fun _ => 0)),
  ((100, 26, (fun _ => none)), (fun _ => 0)),
  ((100, 96, (fun _ => none)), (fun _ => 0)),
  ((102, 13, (fun _ => none)), (upd (upd (upd (upd (upd (upd (upd (upd (upd (upd (upd (upd (upd (fun _ => 0) 0 (108 : Int32)) 1 (105 : Int32)) 2 (102 : Int32)) 3 (116 : Int32)) 4 (115 : Int32)) 5 (108 : Int32)) 6 (105 : Int32)) 7 (100 : Int32)) 8 (101 : Int32)) 9 (109 : Int32)) 10 (97 : Int32)) 11 (114 : Int32)) 12 (107 : Int32))),
  ((100, 4, (fun _ => none)), (upd (upd (upd (upd (fun _ => 0) 0 (0 : Int32)) 1 (4 : Int32)) 2 (9 : Int32)) 3 (13 : Int32))),
  ((100, 96, (fun _ => none)), (fun _ => 0)),
  ((100, 96, (fun _ => none)), (fun _ => 0)),
  ((101, 10, (fun _ => none)), (fun _ => 0)),
  ((100, 96, (fun _ => none)), (fun _ => 0)),
  ((100, 4, (fun _ => none)), (fun _ => 0)),
  ((100, 4, (fun _ => none)), (upd (upd (upd (upd (fun _ => 0) 0 ((-1) : Int32)) 1 ((-1) : Int32)) 2 ((-1) : Int32)) 3 ((-1) : Int32))),
  ((100, 4, (fun _ => none)), (fun _ => 0)),
  ((100, 96, (fun _ => none)), (fun _ => 0)),
  ((100, 5, (fun _ => none)), (fun _ => 0)),
  ((100, 5, (fun _ => none)), (fun _ => 0)),
  ((100, 5, (fun _ => none)), (fun _ => 0)),
  ((100, 120, (fun _ => none)), (fun _ => 0)),
  ((100, 24, (fun _ => none)), (fun _ => 0)),
  ((100, 60, (fun _ => none)), (fun _ => 0))]
theorem qX7_init_len (a : Nat) : (qX7_init a).length = 23 := rfl
theorem qX7_init_qs (a : Nat) : am_qs (qX7_init a) = 5427 := by simp [qX7_init, am_qs]
set_option maxRecDepth 20000 in
set_option maxHeartbeats 4000000 in
theorem ec_X7_init {X : Nat × (Nat → Int32)} (P : List am_K) : am_Ev X M_X7_init 0 [(0, .ref (P.length + 0))] [] (hl (P ++ [((7, 34, rfb7), (fun _ => 0))])) (hl (P ++ qX7_init P.length), none) := by
  have hq : ([((7, 34, rfb7), (fun _ => 0))] : List am_K).length = 1 := rfl
  have hs : am_qs [((7, 34, rfb7), (fun _ => 0))] = 34 := rfl
  have hf := qX7_init_len P.length
  have hg := qX7_init_qs P.length
  refine ev_aload_n dX7_init_0 0 rfl trivial ?_
  refine ev_objInit dX7_init_1 tw_820 w_oi w_oc (by decide) (Nat.le_of_ble_eq_true rfl) ?_
  refine ev_aload_n dX7_init_4 0 rfl trivial ?_
  refine ev_sipush (v := (1535 : Int32)) dX7_init_5 kS_1535 ?_
  refine cx_newa0 1535 dX7_init_8 w_ac0 (by decide) (by decide) (by decide) 2 1569 hq hs hf hg rfl rfl (by decide) (by decide) (fun hq hs => ?_)
  refine cx_nm (Q' := qs_X7_init_1 P.length) rfl (fun hq hs => ?_) hq hs
  refine cx_putFR (a := 0) (b := P.length + 1) dX7_init_10 pF_RX7_9 rfl rfl (by decide) (fun _ => rfl) (fun _ => rfl) hq hs (fun hq hs => ?_)
  refine cx_nm (Q' := qs_X7_init_2 P.length) rfl (fun hq hs => ?_) hq hs
  refine ev_aload_n dX7_init_13 0 rfl trivial ?_
  refine ev_sipush (v := (1535 : Int32)) dX7_init_14 kS_1535 ?_
  refine cx_newa0 1535 dX7_init_17 w_ac0 (by decide) (by decide) (by decide) 3 3104 hq hs hf hg rfl rfl (by decide) (by decide) (fun hq hs => ?_)
  refine cx_nm (Q' := qs_X7_init_3 P.length) rfl (fun hq hs => ?_) hq hs
  refine cx_putFR (a := 0) (b := P.length + 2) dX7_init_19 pF_RX7_13 rfl rfl (by decide) (fun _ => rfl) (fun _ => rfl) hq hs (fun hq hs => ?_)
  refine cx_nm (Q' := qs_X7_init_4 P.length) rfl (fun hq hs => ?_) hq hs
  refine ev_aload_n dX7_init_22 0 rfl trivial ?_
  refine ev_sipush (v := (1535 : Int32)) dX7_init_23 kS_1535 ?_
  refine cx_newa0 1535 dX7_init_26 w_ac0 (by decide) (by decide) (by decide) 4 4639 hq hs hf hg rfl rfl (by decide) (by decide) (fun hq hs => ?_)
  refine cx_nm (Q' := qs_X7_init_5 P.length) rfl (fun hq hs => ?_) hq hs
  refine cx_putFR (a := 0) (b := P.length + 3) dX7_init_28 pF_RX7_16 rfl rfl (by decide) (fun _ => rfl) (fun _ => rfl) hq hs (fun hq hs => ?_)
  refine cx_nm (Q' := qs_X7_init_6 P.length) rfl (fun hq hs => ?_) hq hs
  refine ev_aload_n dX7_init_31 0 rfl trivial ?_
  refine ev_bipush (v := (24 : Int32)) dX7_init_32 kB_24 ?_
  refine cx_newa0 24 dX7_init_34 w_ac0 (by decide) (by decide) (by decide) 5 4663 hq hs hf hg rfl rfl (by decide) (by decide) (fun hq hs => ?_)
  refine cx_nm (Q' := qs_X7_init_7 P.length) rfl (fun hq hs => ?_) hq hs
  refine cx_putFR (a := 0) (b := P.length + 4) dX7_init_36 pF_RX7_19 rfl rfl (by decide) (fun _ => rfl) (fun _ => rfl) hq hs (fun hq hs => ?_)
  refine cx_nm (Q' := qs_X7_init_8 P.length) rfl (fun hq hs => ?_) hq hs
  refine ev_aload_n dX7_init_39 0 rfl trivial ?_
  refine ev_bipush (v := (26 : Int32)) dX7_init_40 kB_26 ?_
  refine cx_newa0 26 dX7_init_42 w_ac0 (by decide) (by decide) (by decide) 6 4689 hq hs hf hg rfl rfl (by decide) (by decide) (fun hq hs => ?_)
  refine cx_nm (Q' := qs_X7_init_9 P.length) rfl (fun hq hs => ?_) hq hs
  refine cx_putFR (a := 0) (b := P.length + 5) dX7_init_44 pF_RX7_22 rfl rfl (by decide) (fun _ => rfl) (fun _ => rfl) hq hs (fun hq hs => ?_)
  refine cx_nm (Q' := qs_X7_init_10 P.length) rfl (fun hq hs => ?_) hq hs
  refine ev_aload_n dX7_init_47 0 rfl trivial ?_
  refine ev_bipush (v := (96 : Int32)) dX7_init_48 kB_96 ?_
  refine cx_newa0 96 dX7_init_50 w_ac0 (by decide) (by decide) (by decide) 7 4785 hq hs hf hg rfl rfl (by decide) (by decide) (fun hq hs => ?_)
  refine cx_nm (Q' := qs_X7_init_11 P.length) rfl (fun hq hs => ?_) hq hs
  refine cx_putFR (a := 0) (b := P.length + 6) dX7_init_52 pF_RX7_25 rfl rfl (by decide) (fun _ => rfl) (fun _ => rfl) hq hs (fun hq hs => ?_)
  refine cx_nm (Q' := qs_X7_init_12 P.length) rfl (fun hq hs => ?_) hq hs
  refine ev_aload_n dX7_init_55 0 rfl trivial ?_
  refine ev_bipush (v := (13 : Int32)) dX7_init_56 kB_13 ?_
  refine cx_newa2 13 dX7_init_58 w_ac2 (by decide) (by decide) (by decide) 8 4798 hq hs hf hg rfl rfl (by decide) (by decide) (fun hq hs => ?_)
  refine cx_nm (Q' := qs_X7_init_13 P.length) rfl (fun hq hs => ?_) hq hs
  refine ev_dup dX7_init_60 rfl ?_
  refine ev_iconst (v := (0 : Int32)) dX7_init_61 kI_0 ?_
  refine ev_bipush (v := (108 : Int32)) dX7_init_62 kB_108 ?_
  refine cx_cast (a := 7) 0 dX7_init_64 rfl (by decide) (by decide) (by decide +kernel) hq hs (fun hq hs => ?_)
  refine cx_nm (Q' := qs_X7_init_14 P.length) rfl (fun hq hs => ?_) hq hs
  refine ev_dup dX7_init_65 rfl ?_
  refine ev_iconst (v := (1 : Int32)) dX7_init_66 kI_1 ?_
  refine ev_bipush (v := (105 : Int32)) dX7_init_67 kB_105 ?_
  refine cx_cast (a := 7) 1 dX7_init_69 rfl (by decide) (by decide) (by decide +kernel) hq hs (fun hq hs => ?_)
  refine cx_nm (Q' := qs_X7_init_15 P.length) rfl (fun hq hs => ?_) hq hs
  refine ev_dup dX7_init_70 rfl ?_
  refine ev_iconst (v := (2 : Int32)) dX7_init_71 kI_2 ?_
  refine ev_bipush (v := (102 : Int32)) dX7_init_72 kB_102 ?_
  refine cx_cast (a := 7) 2 dX7_init_74 rfl (by decide) (by decide) (by decide +kernel) hq hs (fun hq hs => ?_)
  refine cx_nm (Q' := qs_X7_init_16 P.length) rfl (fun hq hs => ?_) hq hs
  refine ev_dup dX7_init_75 rfl ?_
  refine ev_iconst (v := (3 : Int32)) dX7_init_76 kI_3 ?_
  refine ev_bipush (v := (116 : Int32)) dX7_init_77 kB_116 ?_
  refine cx_cast (a := 7) 3 dX7_init_79 rfl (by decide) (by decide) (by decide +kernel) hq hs (fun hq hs => ?_)
  refine cx_nm (Q' := qs_X7_init_17 P.length) rfl (fun hq hs => ?_) hq hs
  refine ev_dup dX7_init_80 rfl ?_
  refine ev_iconst (v := (4 : Int32)) dX7_init_81 kI_4 ?_
  refine ev_bipush (v := (115 : Int32)) dX7_init_82 kB_115 ?_
  refine cx_cast (a := 7) 4 dX7_init_84 rfl (by decide) (by decide) (by decide +kernel) hq hs (fun hq hs => ?_)
  refine cx_nm (Q' := qs_X7_init_18 P.length) rfl (fun hq hs => ?_) hq hs
  refine ev_dup dX7_init_85 rfl ?_
  refine ev_iconst (v := (5 : Int32)) dX7_init_86 kI_5 ?_
  refine ev_bipush (v := (108 : Int32)) dX7_init_87 kB_108 ?_
  refine cx_cast (a := 7) 5 dX7_init_89 rfl (by decide) (by decide) (by decide +kernel) hq hs (fun hq hs => ?_)
  refine cx_nm (Q' := qs_X7_init_19 P.length) rfl (fun hq hs => ?_) hq hs
  refine ev_dup dX7_init_90 rfl ?_
  refine ev_bipush (v := (6 : Int32)) dX7_init_91 kB_6 ?_
  refine ev_bipush (v := (105 : Int32)) dX7_init_93 kB_105 ?_
  refine cx_cast (a := 7) 6 dX7_init_95 rfl (by decide) (by decide) (by decide +kernel) hq hs (fun hq hs => ?_)
  refine cx_nm (Q' := qs_X7_init_20 P.length) rfl (fun hq hs => ?_) hq hs
  refine ev_dup dX7_init_96 rfl ?_
  refine ev_bipush (v := (7 : Int32)) dX7_init_97 kB_7 ?_
  refine ev_bipush (v := (100 : Int32)) dX7_init_99 kB_100 ?_
  refine cx_cast (a := 7) 7 dX7_init_101 rfl (by decide) (by decide) (by decide +kernel) hq hs (fun hq hs => ?_)
  refine cx_nm (Q' := qs_X7_init_21 P.length) rfl (fun hq hs => ?_) hq hs
  refine ev_dup dX7_init_102 rfl ?_
  refine ev_bipush (v := (8 : Int32)) dX7_init_103 kB_8 ?_
  refine ev_bipush (v := (101 : Int32)) dX7_init_105 kB_101 ?_
  refine cx_cast (a := 7) 8 dX7_init_107 rfl (by decide) (by decide) (by decide +kernel) hq hs (fun hq hs => ?_)
  refine cx_nm (Q' := qs_X7_init_22 P.length) rfl (fun hq hs => ?_) hq hs
  refine ev_dup dX7_init_108 rfl ?_
  refine ev_bipush (v := (9 : Int32)) dX7_init_109 kB_9 ?_
  refine ev_bipush (v := (109 : Int32)) dX7_init_111 kB_109 ?_
  refine cx_cast (a := 7) 9 dX7_init_113 rfl (by decide) (by decide) (by decide +kernel) hq hs (fun hq hs => ?_)
  refine cx_nm (Q' := qs_X7_init_23 P.length) rfl (fun hq hs => ?_) hq hs
  refine ev_dup dX7_init_114 rfl ?_
  refine ev_bipush (v := (10 : Int32)) dX7_init_115 kB_10 ?_
  refine ev_bipush (v := (97 : Int32)) dX7_init_117 kB_97 ?_
  refine cx_cast (a := 7) 10 dX7_init_119 rfl (by decide) (by decide) (by decide +kernel) hq hs (fun hq hs => ?_)
  refine cx_nm (Q' := qs_X7_init_24 P.length) rfl (fun hq hs => ?_) hq hs
  refine ev_dup dX7_init_120 rfl ?_
  refine ev_bipush (v := (11 : Int32)) dX7_init_121 kB_11 ?_
  refine ev_bipush (v := (114 : Int32)) dX7_init_123 kB_114 ?_
  refine cx_cast (a := 7) 11 dX7_init_125 rfl (by decide) (by decide) (by decide +kernel) hq hs (fun hq hs => ?_)
  refine cx_nm (Q' := qs_X7_init_25 P.length) rfl (fun hq hs => ?_) hq hs
  refine ev_dup dX7_init_126 rfl ?_
  refine ev_bipush (v := (12 : Int32)) dX7_init_127 kB_12 ?_
  refine ev_bipush (v := (107 : Int32)) dX7_init_129 kB_107 ?_
  refine cx_cast (a := 7) 12 dX7_init_131 rfl (by decide) (by decide) (by decide +kernel) hq hs (fun hq hs => ?_)
  refine cx_nm (Q' := qs_X7_init_26 P.length) rfl (fun hq hs => ?_) hq hs
  refine cx_putFR (a := 0) (b := P.length + 7) dX7_init_132 pF_RX7_28 rfl rfl (by decide) (fun _ => rfl) (fun _ => rfl) hq hs (fun hq hs => ?_)
  refine cx_nm (Q' := qs_X7_init_27 P.length) rfl (fun hq hs => ?_) hq hs
  refine ev_aload_n dX7_init_135 0 rfl trivial ?_
  refine ev_iconst (v := (4 : Int32)) dX7_init_136 kI_4 ?_
  refine cx_newa0 4 dX7_init_137 w_ac0 (by decide) (by decide) (by decide) 9 4802 hq hs hf hg rfl rfl (by decide) (by decide) (fun hq hs => ?_)
  refine cx_nm (Q' := qs_X7_init_28 P.length) rfl (fun hq hs => ?_) hq hs
  refine ev_dup dX7_init_139 rfl ?_
  refine ev_iconst (v := (0 : Int32)) dX7_init_140 kI_0 ?_
  refine ev_iconst (v := (0 : Int32)) dX7_init_141 kI_0 ?_
  refine cx_iast (a := 8) 0 dX7_init_142 rfl (by decide) (by decide) hq hs (fun hq hs => ?_)
  refine cx_nm (Q' := qs_X7_init_29 P.length) rfl (fun hq hs => ?_) hq hs
  refine ev_dup dX7_init_143 rfl ?_
  refine ev_iconst (v := (1 : Int32)) dX7_init_144 kI_1 ?_
  refine ev_iconst (v := (4 : Int32)) dX7_init_145 kI_4 ?_
  refine cx_iast (a := 8) 1 dX7_init_146 rfl (by decide) (by decide) hq hs (fun hq hs => ?_)
  refine cx_nm (Q' := qs_X7_init_30 P.length) rfl (fun hq hs => ?_) hq hs
  refine ev_dup dX7_init_147 rfl ?_
  refine ev_iconst (v := (2 : Int32)) dX7_init_148 kI_2 ?_
  refine ev_bipush (v := (9 : Int32)) dX7_init_149 kB_9 ?_
  refine cx_iast (a := 8) 2 dX7_init_151 rfl (by decide) (by decide) hq hs (fun hq hs => ?_)
  refine cx_nm (Q' := qs_X7_init_31 P.length) rfl (fun hq hs => ?_) hq hs
  refine ev_dup dX7_init_152 rfl ?_
  refine ev_iconst (v := (3 : Int32)) dX7_init_153 kI_3 ?_
  refine ev_bipush (v := (13 : Int32)) dX7_init_154 kB_13 ?_
  refine cx_iast (a := 8) 3 dX7_init_156 rfl (by decide) (by decide) hq hs (fun hq hs => ?_)
  refine cx_nm (Q' := qs_X7_init_32 P.length) rfl (fun hq hs => ?_) hq hs
  refine cx_putFR (a := 0) (b := P.length + 8) dX7_init_157 pF_RX7_32 rfl rfl (by decide) (fun _ => rfl) (fun _ => rfl) hq hs (fun hq hs => ?_)
  refine cx_nm (Q' := qs_X7_init_33 P.length) rfl (fun hq hs => ?_) hq hs
  refine ev_aload_n dX7_init_160 0 rfl trivial ?_
  refine ev_bipush (v := (96 : Int32)) dX7_init_161 kB_96 ?_
  refine cx_newa0 96 dX7_init_163 w_ac0 (by decide) (by decide) (by decide) 10 4898 hq hs hf hg rfl rfl (by decide) (by decide) (fun hq hs => ?_)
  refine cx_nm (Q' := qs_X7_init_34 P.length) rfl (fun hq hs => ?_) hq hs
  refine cx_putFR (a := 0) (b := P.length + 9) dX7_init_165 pF_RX7_35 rfl rfl (by decide) (fun _ => rfl) (fun _ => rfl) hq hs (fun hq hs => ?_)
  refine cx_nm (Q' := qs_X7_init_35 P.length) rfl (fun hq hs => ?_) hq hs
  refine ev_aload_n dX7_init_168 0 rfl trivial ?_
  refine ev_bipush (v := (96 : Int32)) dX7_init_169 kB_96 ?_
  refine cx_newa0 96 dX7_init_171 w_ac0 (by decide) (by decide) (by decide) 11 4994 hq hs hf hg rfl rfl (by decide) (by decide) (fun hq hs => ?_)
  refine cx_nm (Q' := qs_X7_init_36 P.length) rfl (fun hq hs => ?_) hq hs
  refine cx_putFR (a := 0) (b := P.length + 10) dX7_init_173 pF_RX7_38 rfl rfl (by decide) (fun _ => rfl) (fun _ => rfl) hq hs (fun hq hs => ?_)
  refine cx_nm (Q' := qs_X7_init_37 P.length) rfl (fun hq hs => ?_) hq hs
  refine ev_aload_n dX7_init_176 0 rfl trivial ?_
  refine ev_bipush (v := (10 : Int32)) dX7_init_177 kB_10 ?_
  refine cx_newa1 10 dX7_init_179 w_ac1 (by decide) (by decide) (by decide) 12 5004 hq hs hf hg rfl rfl (by decide) (by decide) (fun hq hs => ?_)
  refine cx_nm (Q' := qs_X7_init_38 P.length) rfl (fun hq hs => ?_) hq hs
  refine cx_putFR (a := 0) (b := P.length + 11) dX7_init_181 pF_RX7_41 rfl rfl (by decide) (fun _ => rfl) (fun _ => rfl) hq hs (fun hq hs => ?_)
  refine cx_nm (Q' := qs_X7_init_39 P.length) rfl (fun hq hs => ?_) hq hs
  refine ev_aload_n dX7_init_184 0 rfl trivial ?_
  refine ev_bipush (v := (96 : Int32)) dX7_init_185 kB_96 ?_
  refine cx_newa0 96 dX7_init_187 w_ac0 (by decide) (by decide) (by decide) 13 5100 hq hs hf hg rfl rfl (by decide) (by decide) (fun hq hs => ?_)
  refine cx_nm (Q' := qs_X7_init_40 P.length) rfl (fun hq hs => ?_) hq hs
  refine cx_putFR (a := 0) (b := P.length + 12) dX7_init_189 pF_RX7_45 rfl rfl (by decide) (fun _ => rfl) (fun _ => rfl) hq hs (fun hq hs => ?_)
  refine cx_nm (Q' := qs_X7_init_41 P.length) rfl (fun hq hs => ?_) hq hs
  refine ev_aload_n dX7_init_192 0 rfl trivial ?_
  refine ev_iconst (v := (4 : Int32)) dX7_init_193 kI_4 ?_
  refine cx_newa0 4 dX7_init_194 w_ac0 (by decide) (by decide) (by decide) 14 5104 hq hs hf hg rfl rfl (by decide) (by decide) (fun hq hs => ?_)
  refine cx_nm (Q' := qs_X7_init_42 P.length) rfl (fun hq hs => ?_) hq hs
  refine cx_putFR (a := 0) (b := P.length + 13) dX7_init_196 pF_RX7_48 rfl rfl (by decide) (fun _ => rfl) (fun _ => rfl) hq hs (fun hq hs => ?_)
  refine cx_nm (Q' := qs_X7_init_43 P.length) rfl (fun hq hs => ?_) hq hs
  refine ev_aload_n dX7_init_199 0 rfl trivial ?_
  refine ev_iconst (v := (4 : Int32)) dX7_init_200 kI_4 ?_
  refine cx_newa0 4 dX7_init_201 w_ac0 (by decide) (by decide) (by decide) 15 5108 hq hs hf hg rfl rfl (by decide) (by decide) (fun hq hs => ?_)
  refine cx_nm (Q' := qs_X7_init_44 P.length) rfl (fun hq hs => ?_) hq hs
  refine ev_dup dX7_init_203 rfl ?_
  refine ev_iconst (v := (0 : Int32)) dX7_init_204 kI_0 ?_
  refine ev_iconst (v := ((-1) : Int32)) dX7_init_205 kI_m1 ?_
  refine cx_iast (a := 14) 0 dX7_init_206 rfl (by decide) (by decide) hq hs (fun hq hs => ?_)
  refine cx_nm (Q' := qs_X7_init_45 P.length) rfl (fun hq hs => ?_) hq hs
  refine ev_dup dX7_init_207 rfl ?_
  refine ev_iconst (v := (1 : Int32)) dX7_init_208 kI_1 ?_
  refine ev_iconst (v := ((-1) : Int32)) dX7_init_209 kI_m1 ?_
  refine cx_iast (a := 14) 1 dX7_init_210 rfl (by decide) (by decide) hq hs (fun hq hs => ?_)
  refine cx_nm (Q' := qs_X7_init_46 P.length) rfl (fun hq hs => ?_) hq hs
  refine ev_dup dX7_init_211 rfl ?_
  refine ev_iconst (v := (2 : Int32)) dX7_init_212 kI_2 ?_
  refine ev_iconst (v := ((-1) : Int32)) dX7_init_213 kI_m1 ?_
  refine cx_iast (a := 14) 2 dX7_init_214 rfl (by decide) (by decide) hq hs (fun hq hs => ?_)
  refine cx_nm (Q' := qs_X7_init_47 P.length) rfl (fun hq hs => ?_) hq hs
  refine ev_dup dX7_init_215 rfl ?_
  refine ev_iconst (v := (3 : Int32)) dX7_init_216 kI_3 ?_
  refine ev_iconst (v := ((-1) : Int32)) dX7_init_217 kI_m1 ?_
  refine cx_iast (a := 14) 3 dX7_init_218 rfl (by decide) (by decide) hq hs (fun hq hs => ?_)
  refine cx_nm (Q' := qs_X7_init_48 P.length) rfl (fun hq hs => ?_) hq hs
  refine cx_putFR (a := 0) (b := P.length + 14) dX7_init_219 pF_RX7_51 rfl rfl (by decide) (fun _ => rfl) (fun _ => rfl) hq hs (fun hq hs => ?_)
  refine cx_nm (Q' := qs_X7_init_49 P.length) rfl (fun hq hs => ?_) hq hs
  refine ev_aload_n dX7_init_222 0 rfl trivial ?_
  refine ev_iconst (v := (4 : Int32)) dX7_init_223 kI_4 ?_
  refine cx_newa0 4 dX7_init_224 w_ac0 (by decide) (by decide) (by decide) 16 5112 hq hs hf hg rfl rfl (by decide) (by decide) (fun hq hs => ?_)
  refine cx_nm (Q' := qs_X7_init_50 P.length) rfl (fun hq hs => ?_) hq hs
  refine cx_putFR (a := 0) (b := P.length + 15) dX7_init_226 pF_RX7_54 rfl rfl (by decide) (fun _ => rfl) (fun _ => rfl) hq hs (fun hq hs => ?_)
  refine cx_nm (Q' := qs_X7_init_51 P.length) rfl (fun hq hs => ?_) hq hs
  refine ev_aload_n dX7_init_229 0 rfl trivial ?_
  refine ev_bipush (v := (96 : Int32)) dX7_init_230 kB_96 ?_
  refine cx_newa0 96 dX7_init_232 w_ac0 (by decide) (by decide) (by decide) 17 5208 hq hs hf hg rfl rfl (by decide) (by decide) (fun hq hs => ?_)
  refine cx_nm (Q' := qs_X7_init_52 P.length) rfl (fun hq hs => ?_) hq hs
  refine cx_putFR (a := 0) (b := P.length + 16) dX7_init_234 pF_RX7_57 rfl rfl (by decide) (fun _ => rfl) (fun _ => rfl) hq hs (fun hq hs => ?_)
  refine cx_nm (Q' := qs_X7_init_53 P.length) rfl (fun hq hs => ?_) hq hs
  refine ev_aload_n dX7_init_237 0 rfl trivial ?_
  refine ev_iconst (v := (5 : Int32)) dX7_init_238 kI_5 ?_
  refine cx_newa0 5 dX7_init_239 w_ac0 (by decide) (by decide) (by decide) 18 5213 hq hs hf hg rfl rfl (by decide) (by decide) (fun hq hs => ?_)
  refine cx_nm (Q' := qs_X7_init_54 P.length) rfl (fun hq hs => ?_) hq hs
  refine cx_putFR (a := 0) (b := P.length + 17) dX7_init_241 pF_RX7_60 rfl rfl (by decide) (fun _ => rfl) (fun _ => rfl) hq hs (fun hq hs => ?_)
  refine cx_nm (Q' := qs_X7_init_55 P.length) rfl (fun hq hs => ?_) hq hs
  refine ev_aload_n dX7_init_244 0 rfl trivial ?_
  refine ev_iconst (v := (5 : Int32)) dX7_init_245 kI_5 ?_
  refine cx_newa0 5 dX7_init_246 w_ac0 (by decide) (by decide) (by decide) 19 5218 hq hs hf hg rfl rfl (by decide) (by decide) (fun hq hs => ?_)
  refine cx_nm (Q' := qs_X7_init_56 P.length) rfl (fun hq hs => ?_) hq hs
  refine cx_putFR (a := 0) (b := P.length + 18) dX7_init_248 pF_RX7_63 rfl rfl (by decide) (fun _ => rfl) (fun _ => rfl) hq hs (fun hq hs => ?_)
  refine cx_nm (Q' := qs_X7_init_57 P.length) rfl (fun hq hs => ?_) hq hs
  refine ev_aload_n dX7_init_251 0 rfl trivial ?_
  refine ev_iconst (v := (5 : Int32)) dX7_init_252 kI_5 ?_
  refine cx_newa0 5 dX7_init_253 w_ac0 (by decide) (by decide) (by decide) 20 5223 hq hs hf hg rfl rfl (by decide) (by decide) (fun hq hs => ?_)
  refine cx_nm (Q' := qs_X7_init_58 P.length) rfl (fun hq hs => ?_) hq hs
  refine cx_putFR (a := 0) (b := P.length + 19) dX7_init_255 pF_RX7_66 rfl rfl (by decide) (fun _ => rfl) (fun _ => rfl) hq hs (fun hq hs => ?_)
  refine cx_nm (Q' := qs_X7_init_59 P.length) rfl (fun hq hs => ?_) hq hs
  refine ev_aload_n dX7_init_258 0 rfl trivial ?_
  refine ev_bipush (v := (120 : Int32)) dX7_init_259 kB_120 ?_
  refine cx_newa0 120 dX7_init_261 w_ac0 (by decide) (by decide) (by decide) 21 5343 hq hs hf hg rfl rfl (by decide) (by decide) (fun hq hs => ?_)
  refine cx_nm (Q' := qs_X7_init_60 P.length) rfl (fun hq hs => ?_) hq hs
  refine cx_putFR (a := 0) (b := P.length + 20) dX7_init_263 pF_RX7_69 rfl rfl (by decide) (fun _ => rfl) (fun _ => rfl) hq hs (fun hq hs => ?_)
  refine cx_nm (Q' := qs_X7_init_61 P.length) rfl (fun hq hs => ?_) hq hs
  refine ev_aload_n dX7_init_266 0 rfl trivial ?_
  refine ev_bipush (v := (24 : Int32)) dX7_init_267 kB_24 ?_
  refine cx_newa0 24 dX7_init_269 w_ac0 (by decide) (by decide) (by decide) 22 5367 hq hs hf hg rfl rfl (by decide) (by decide) (fun hq hs => ?_)
  refine cx_nm (Q' := qs_X7_init_62 P.length) rfl (fun hq hs => ?_) hq hs
  refine cx_putFR (a := 0) (b := P.length + 21) dX7_init_271 pF_RX7_72 rfl rfl (by decide) (fun _ => rfl) (fun _ => rfl) hq hs (fun hq hs => ?_)
  refine cx_nm (Q' := qs_X7_init_63 P.length) rfl (fun hq hs => ?_) hq hs
  refine ev_aload_n dX7_init_274 0 rfl trivial ?_
  refine ev_bipush (v := (60 : Int32)) dX7_init_275 kB_60 ?_
  refine cx_newa0 60 dX7_init_277 w_ac0 (by decide) (by decide) (by decide) 23 5427 hq hs hf hg rfl rfl (by decide) (by decide) (fun hq hs => ?_)
  refine cx_nm (Q' := qs_X7_init_64 P.length) rfl (fun hq hs => ?_) hq hs
  refine cx_putFR (a := 0) (b := P.length + 22) dX7_init_279 pF_RX7_75 rfl rfl (by decide) (fun _ => rfl) (fun _ => rfl) hq hs (fun hq hs => ?_)
  refine cx_nm (Q' := qs_X7_init_65 P.length) rfl (fun hq hs => ?_) hq hs
  refine ev_aload_n dX7_init_282 0 rfl trivial ?_
  refine cx_getR (a := 0) (b := P.length + 1) dX7_init_283 gf_RX7_9 rfl (by decide) rfl ?_
  refine ev_iconst (v := (0 : Int32)) dX7_init_286 kI_0 ?_
  refine ev_iconst (v := (1 : Int32)) dX7_init_287 kI_1 ?_
  refine cx_iast (a := 1) 0 dX7_init_288 rfl (by decide) (by decide) hq hs (fun hq hs => ?_)
  refine cx_nm (Q' := qs_X7_init_66 P.length) rfl (fun hq hs => ?_) hq hs
  refine ev_aload_n dX7_init_289 0 rfl trivial ?_
  refine cx_getR (a := 0) (b := P.length + 1) dX7_init_290 gf_RX7_9 rfl (by decide) rfl ?_
  refine ev_iconst (v := (2 : Int32)) dX7_init_293 kI_2 ?_
  refine ev_iconst (v := (3 : Int32)) dX7_init_294 kI_3 ?_
  refine cx_iast (a := 1) 2 dX7_init_295 rfl (by decide) (by decide) hq hs (fun hq hs => ?_)
  refine cx_nm (Q' := qs_X7_init_67 P.length) rfl (fun hq hs => ?_) hq hs
  refine ev_aload_n dX7_init_296 0 rfl trivial ?_
  refine cx_getR (a := 0) (b := P.length + 1) dX7_init_297 gf_RX7_9 rfl (by decide) rfl ?_
  refine ev_iconst (v := (3 : Int32)) dX7_init_300 kI_3 ?_
  refine ev_iconst (v := (2 : Int32)) dX7_init_301 kI_2 ?_
  refine cx_iast (a := 1) 3 dX7_init_302 rfl (by decide) (by decide) hq hs (fun hq hs => ?_)
  refine cx_nm (Q' := qs_X7_init_68 P.length) rfl (fun hq hs => ?_) hq hs
  refine ev_aload_n dX7_init_303 0 rfl trivial ?_
  refine cx_getR (a := 0) (b := P.length + 1) dX7_init_304 gf_RX7_9 rfl (by decide) rfl ?_
  refine ev_iconst (v := (4 : Int32)) dX7_init_307 kI_4 ?_
  refine ev_iconst (v := (5 : Int32)) dX7_init_308 kI_5 ?_
  refine cx_iast (a := 1) 4 dX7_init_309 rfl (by decide) (by decide) hq hs (fun hq hs => ?_)
  refine cx_nm (Q' := qs_X7_init_69 P.length) rfl (fun hq hs => ?_) hq hs
  refine ev_aload_n dX7_init_310 0 rfl trivial ?_
  refine cx_getR (a := 0) (b := P.length + 1) dX7_init_311 gf_RX7_9 rfl (by decide) rfl ?_
  refine ev_iconst (v := (5 : Int32)) dX7_init_314 kI_5 ?_
  refine ev_iconst (v := (4 : Int32)) dX7_init_315 kI_4 ?_
  refine cx_iast (a := 1) 5 dX7_init_316 rfl (by decide) (by decide) hq hs (fun hq hs => ?_)
  refine cx_nm (Q' := qs_X7_init_70 P.length) rfl (fun hq hs => ?_) hq hs
  exact ev_vret dX7_init_317 rfl
theorem cc_X7_init {X : Nat × (Nat → Int32)} (P : List am_K) : am_Cn X M_X7_init [.ref P.length] (hl (P ++ [((7, 34, rfb7), (fun _ => 0))])) (hl (P ++ qX7_init P.length), none) := am_Cn.of ok_X7_init (cx_le P (by rw [qX7_init_len]; decide)) (cx_le2 P (by rw [qX7_init_qs]; exact Nat.le_of_ble_eq_true rfl)) (Nat.le_of_ble_eq_true rfl) (ec_X7_init P)
