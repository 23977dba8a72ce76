theorem gw_0 : (Jvm.Cond.initialized "StackCoderLaw") ∈ gt := mem_gt 61 (by decide +kernel) rfl
theorem gw_1 : (Jvm.Cond.initialized "StackCoder") ∈ gt := mem_gt 62 (by decide +kernel) rfl
theorem gw_2 : (Jvm.Cond.initialized "StackCoder$RegisterCode") ∈ gt := mem_gt 63 (by decide +kernel) rfl
theorem gw_3 : (Jvm.Cond.initialized "StackCoder$Flow") ∈ gt := mem_gt 64 (by decide +kernel) rfl
theorem gw_4 : (Jvm.Cond.initialized "StackCoder$Carrying") ∈ gt := mem_gt 65 (by decide +kernel) rfl
theorem gw_5 : (Jvm.Cond.initialized "StackCoder$StackCode") ∈ gt := mem_gt 66 (by decide +kernel) rfl
theorem gw_6 : (Jvm.Cond.initialized "StackCoder$Machine") ∈ gt := mem_gt 67 (by decide +kernel) rfl
theorem gw_7 : (Jvm.Cond.initialized "StackCoderModel") ∈ gt := mem_gt 68 (by decide +kernel) rfl
theorem gw_8 : (Jvm.Cond.initialized "java/lang/Math") ∈ gt := mem_gt 69 (by decide +kernel) rfl
theorem gw_9 : (Jvm.Cond.classLink "StackCoderLaw" (7 : Nat) "StackCoder") ∈ gt := mem_gt 70 (by decide +kernel) rfl
theorem gw_10 : (Jvm.Cond.instantiable "StackCoder" (6 : Nat)) ∈ gt := mem_gt 71 (by decide +kernel) rfl
theorem gw_11 : (Jvm.Cond.methodLink "StackCoderLaw" (15 : Nat) ({ cls := "StackCoder", name := "<init>", desc := "(I)V" } : Jvm.MethodName)) ∈ gt := mem_gt 72 (by decide +kernel) rfl
theorem gw_12 : (Jvm.Cond.instanceMethod ({ cls := "StackCoder", name := "<init>", desc := "(I)V" } : Jvm.MethodName)) ∈ gt := mem_gt 73 (by decide +kernel) rfl
theorem gw_13 : (Jvm.Cond.code ({ cls := "StackCoder", name := "<init>", desc := "(I)V" } : Jvm.MethodName) prog_1_method_1_code (3 : Nat) (Option.none : Option Jvm.ClassFile.FieldType)) ∈ gt := mem_gt 74 (by rfl) rfl
theorem gw_14 : (Jvm.Cond.methodLink "StackCoder" (1 : Nat) ({ cls := "java/lang/Object", name := "<init>", desc := "()V" } : Jvm.MethodName)) ∈ gt := mem_gt 75 (by decide +kernel) rfl
theorem gw_15 : (Jvm.Cond.instanceMethod ({ cls := "java/lang/Object", name := "<init>", desc := "()V" } : Jvm.MethodName)) ∈ gt := mem_gt 76 (by decide +kernel) rfl
theorem gw_16 : (Jvm.Cond.code ({ cls := "java/lang/Object", name := "<init>", desc := "()V" } : Jvm.MethodName) object_method_1_code (1 : Nat) (Option.none : Option Jvm.ClassFile.FieldType)) ∈ gt := mem_gt 77 (by rfl) rfl
theorem gw_17 : (Jvm.Cond.classLink "StackCoder" (9 : Nat) "StackCoder$RegisterCode") ∈ gt := mem_gt 78 (by decide +kernel) rfl
theorem gw_18 : (Jvm.Cond.instantiable "StackCoder$RegisterCode" (8 : Nat)) ∈ gt := mem_gt 79 (by decide +kernel) rfl
theorem gw_20 : (Jvm.Cond.instanceMethod ({ cls := "StackCoder$RegisterCode", name := "<init>", desc := "()V" } : Jvm.MethodName)) ∈ gt := mem_gt 81 (by decide +kernel) rfl
theorem gw_21 : (Jvm.Cond.code ({ cls := "StackCoder$RegisterCode", name := "<init>", desc := "()V" } : Jvm.MethodName) prog_5_method_1_code (1 : Nat) (Option.none : Option Jvm.ClassFile.FieldType)) ∈ gt := mem_gt 82 (by rfl) rfl
theorem gw_22 : (Jvm.Cond.methodLink "StackCoder$RegisterCode" (3 : Nat) ({ cls := "java/lang/Object", name := "<init>", desc := "()V" } : Jvm.MethodName)) ∈ gt := mem_gt 83 (by decide +kernel) rfl
theorem gw_23 : (Jvm.Cond.fieldLink "StackCoder$RegisterCode" (9 : Nat) "StackCoder$RegisterCode" "operations" "[I") ∈ gt := mem_gt 84 (by decide +kernel) rfl
theorem gw_24 : (Jvm.Cond.fieldLink "StackCoder$RegisterCode" (15 : Nat) "StackCoder$RegisterCode" "ds" "[I") ∈ gt := mem_gt 85 (by decide +kernel) rfl
theorem gw_25 : (Jvm.Cond.fieldLink "StackCoder$RegisterCode" (18 : Nat) "StackCoder$RegisterCode" "as" "[I") ∈ gt := mem_gt 86 (by decide +kernel) rfl
theorem gw_26 : (Jvm.Cond.fieldLink "StackCoder$RegisterCode" (21 : Nat) "StackCoder$RegisterCode" "bs" "[I") ∈ gt := mem_gt 87 (by decide +kernel) rfl
theorem gw_27 : (Jvm.Cond.fieldLink "StackCoder$RegisterCode" (24 : Nat) "StackCoder$RegisterCode" "written" "[I") ∈ gt := mem_gt 88 (by decide +kernel) rfl
theorem gw_28 : (Jvm.Cond.fieldLink "StackCoder$RegisterCode" (27 : Nat) "StackCoder$RegisterCode" "readA" "[I") ∈ gt := mem_gt 89 (by decide +kernel) rfl
theorem gw_29 : (Jvm.Cond.fieldLink "StackCoder$RegisterCode" (30 : Nat) "StackCoder$RegisterCode" "readB" "[I") ∈ gt := mem_gt 90 (by decide +kernel) rfl
theorem gw_30 : (Jvm.Cond.fieldLink "StackCoder$RegisterCode" (46 : Nat) "StackCoder$RegisterCode" "count" "I") ∈ gt := mem_gt 91 (by decide +kernel) rfl
theorem gw_31 : (Jvm.Cond.laysFinal "StackCoder$RegisterCode" "StackCoder$RegisterCode" "operations" "[I") ∈ gt := mem_gt 92 (by decide +kernel) rfl
theorem gw_33 : (Jvm.Cond.laysFinal "StackCoder$RegisterCode" "StackCoder$RegisterCode" "ds" "[I") ∈ gt := mem_gt 94 (by decide +kernel) rfl
theorem gw_35 : (Jvm.Cond.laysFinal "StackCoder$RegisterCode" "StackCoder$RegisterCode" "as" "[I") ∈ gt := mem_gt 96 (by decide +kernel) rfl
theorem gw_37 : (Jvm.Cond.laysFinal "StackCoder$RegisterCode" "StackCoder$RegisterCode" "bs" "[I") ∈ gt := mem_gt 98 (by decide +kernel) rfl
theorem gw_39 : (Jvm.Cond.laysFinal "StackCoder$RegisterCode" "StackCoder$RegisterCode" "written" "[I") ∈ gt := mem_gt 100 (by decide +kernel) rfl
theorem gw_41 : (Jvm.Cond.laysFinal "StackCoder$RegisterCode" "StackCoder$RegisterCode" "readA" "[I") ∈ gt := mem_gt 102 (by decide +kernel) rfl
theorem gw_43 : (Jvm.Cond.laysFinal "StackCoder$RegisterCode" "StackCoder$RegisterCode" "readB" "[I") ∈ gt := mem_gt 104 (by decide +kernel) rfl
theorem gw_45 : (Jvm.Cond.lays "StackCoder$RegisterCode" "StackCoder$RegisterCode" "count" "I") ∈ gt := mem_gt 106 (by decide +kernel) rfl
theorem gw_48 : (Jvm.Cond.arrayClass Jvm.ClassFile.FieldType.int) ∈ gt := mem_gt 109 (by decide +kernel) rfl
theorem gw_49 : (Jvm.Cond.classLink "StackCoder" (16 : Nat) "StackCoder$Flow") ∈ gt := mem_gt 110 (by decide +kernel) rfl
theorem gw_50 : (Jvm.Cond.instantiable "StackCoder$Flow" (4 : Nat)) ∈ gt := mem_gt 111 (by decide +kernel) rfl
theorem gw_51 : (Jvm.Cond.methodLink "StackCoder" (18 : Nat) ({ cls := "StackCoder$Flow", name := "<init>", desc := "(LStackCoder$RegisterCode;)V" } : Jvm.MethodName)) ∈ gt := mem_gt 112 (by decide +kernel) rfl
theorem gw_52 : (Jvm.Cond.instanceMethod ({ cls := "StackCoder$Flow", name := "<init>", desc := "(LStackCoder$RegisterCode;)V" } : Jvm.MethodName)) ∈ gt := mem_gt 113 (by decide +kernel) rfl
theorem gw_53 : (Jvm.Cond.code ({ cls := "StackCoder$Flow", name := "<init>", desc := "(LStackCoder$RegisterCode;)V" } : Jvm.MethodName) prog_3_method_1_code (2 : Nat) (Option.none : Option Jvm.ClassFile.FieldType)) ∈ gt := mem_gt 114 (by rfl) rfl
theorem gw_54 : (Jvm.Cond.methodLink "StackCoder$Flow" (3 : Nat) ({ cls := "java/lang/Object", name := "<init>", desc := "()V" } : Jvm.MethodName)) ∈ gt := mem_gt 115 (by decide +kernel) rfl
theorem gw_55 : (Jvm.Cond.fieldLink "StackCoder$Flow" (22 : Nat) "StackCoder$Flow" "code" "LStackCoder$RegisterCode;") ∈ gt := mem_gt 116 (by decide +kernel) rfl
theorem gw_56 : (Jvm.Cond.fieldLink "StackCoder$Flow" (9 : Nat) "StackCoder$Flow" "begins" "[Z") ∈ gt := mem_gt 117 (by decide +kernel) rfl
theorem gw_57 : (Jvm.Cond.fieldLink "StackCoder$Flow" (15 : Nat) "StackCoder$Flow" "before" "[I") ∈ gt := mem_gt 118 (by decide +kernel) rfl
theorem gw_58 : (Jvm.Cond.fieldLink "StackCoder$Flow" (19 : Nat) "StackCoder$Flow" "after" "[I") ∈ gt := mem_gt 119 (by decide +kernel) rfl
theorem gw_59 : (Jvm.Cond.laysFinal "StackCoder$Flow" "StackCoder$Flow" "code" "LStackCoder$RegisterCode;") ∈ gt := mem_gt 120 (by decide +kernel) rfl
theorem gw_61 : (Jvm.Cond.laysFinal "StackCoder$Flow" "StackCoder$Flow" "begins" "[Z") ∈ gt := mem_gt 122 (by decide +kernel) rfl
theorem gw_63 : (Jvm.Cond.laysFinal "StackCoder$Flow" "StackCoder$Flow" "before" "[I") ∈ gt := mem_gt 124 (by decide +kernel) rfl
theorem gw_65 : (Jvm.Cond.laysFinal "StackCoder$Flow" "StackCoder$Flow" "after" "[I") ∈ gt := mem_gt 126 (by decide +kernel) rfl
theorem gw_68 : (Jvm.Cond.arrayClass Jvm.ClassFile.FieldType.boolean) ∈ gt := mem_gt 129 (by decide +kernel) rfl
theorem gw_69 : (Jvm.Cond.classLink "StackCoder" (25 : Nat) "StackCoder$Carrying") ∈ gt := mem_gt 130 (by decide +kernel) rfl
theorem gw_70 : (Jvm.Cond.instantiable "StackCoder$Carrying" (9 : Nat)) ∈ gt := mem_gt 131 (by decide +kernel) rfl
theorem gw_71 : (Jvm.Cond.methodLink "StackCoder" (27 : Nat) ({ cls := "StackCoder$Carrying", name := "<init>", desc := "(LStackCoder$RegisterCode;LStackCoder$Flow;I)V" } : Jvm.MethodName)) ∈ gt := mem_gt 132 (by decide +kernel) rfl
theorem gw_72 : (Jvm.Cond.instanceMethod ({ cls := "StackCoder$Carrying", name := "<init>", desc := "(LStackCoder$RegisterCode;LStackCoder$Flow;I)V" } : Jvm.MethodName)) ∈ gt := mem_gt 133 (by decide +kernel) rfl
theorem gw_73 : (Jvm.Cond.code ({ cls := "StackCoder$Carrying", name := "<init>", desc := "(LStackCoder$RegisterCode;LStackCoder$Flow;I)V" } : Jvm.MethodName) prog_2_method_1_code (4 : Nat) (Option.none : Option Jvm.ClassFile.FieldType)) ∈ gt := mem_gt 134 (by rfl) rfl
theorem gw_74 : (Jvm.Cond.methodLink "StackCoder$Carrying" (3 : Nat) ({ cls := "java/lang/Object", name := "<init>", desc := "()V" } : Jvm.MethodName)) ∈ gt := mem_gt 135 (by decide +kernel) rfl
theorem gw_75 : (Jvm.Cond.fieldLink "StackCoder$Carrying" (31 : Nat) "StackCoder$Carrying" "code" "LStackCoder$RegisterCode;") ∈ gt := mem_gt 136 (by decide +kernel) rfl
theorem gw_76 : (Jvm.Cond.fieldLink "StackCoder$Carrying" (35 : Nat) "StackCoder$Carrying" "flow" "LStackCoder$Flow;") ∈ gt := mem_gt 137 (by decide +kernel) rfl
theorem gw_77 : (Jvm.Cond.fieldLink "StackCoder$Carrying" (39 : Nat) "StackCoder$Carrying" "mostNeed" "I") ∈ gt := mem_gt 138 (by decide +kernel) rfl
theorem gw_78 : (Jvm.Cond.fieldLink "StackCoder$Carrying" (9 : Nat) "StackCoder$Carrying" "goals" "[I") ∈ gt := mem_gt 139 (by decide +kernel) rfl
theorem gw_79 : (Jvm.Cond.fieldLink "StackCoder$Carrying" (15 : Nat) "StackCoder$Carrying" "carriedAsA" "[I") ∈ gt := mem_gt 140 (by decide +kernel) rfl
theorem gw_80 : (Jvm.Cond.fieldLink "StackCoder$Carrying" (18 : Nat) "StackCoder$Carrying" "carriedAsB" "[I") ∈ gt := mem_gt 141 (by decide +kernel) rfl
theorem gw_81 : (Jvm.Cond.fieldLink "StackCoder$Carrying" (21 : Nat) "StackCoder$Carrying" "needs" "[I") ∈ gt := mem_gt 142 (by decide +kernel) rfl
theorem gw_82 : (Jvm.Cond.fieldLink "StackCoder$Carrying" (24 : Nat) "StackCoder$Carrying" "treeReads" "[I") ∈ gt := mem_gt 143 (by decide +kernel) rfl
theorem gw_83 : (Jvm.Cond.fieldLink "StackCoder$Carrying" (27 : Nat) "StackCoder$Carrying" "treeLoads" "[Z") ∈ gt := mem_gt 144 (by decide +kernel) rfl
theorem gw_84 : (Jvm.Cond.laysFinal "StackCoder$Carrying" "StackCoder$Carrying" "code" "LStackCoder$RegisterCode;") ∈ gt := mem_gt 145 (by decide +kernel) rfl
theorem gw_86 : (Jvm.Cond.laysFinal "StackCoder$Carrying" "StackCoder$Carrying" "flow" "LStackCoder$Flow;") ∈ gt := mem_gt 147 (by decide +kernel) rfl
theorem gw_88 : (Jvm.Cond.laysFinal "StackCoder$Carrying" "StackCoder$Carrying" "mostNeed" "I") ∈ gt := mem_gt 149 (by decide +kernel) rfl
theorem gw_90 : (Jvm.Cond.laysFinal "StackCoder$Carrying" "StackCoder$Carrying" "goals" "[I") ∈ gt := mem_gt 151 (by decide +kernel) rfl
theorem gw_92 : (Jvm.Cond.laysFinal "StackCoder$Carrying" "StackCoder$Carrying" "carriedAsA" "[I") ∈ gt := mem_gt 153 (by decide +kernel) rfl
theorem gw_94 : (Jvm.Cond.laysFinal "StackCoder$Carrying" "StackCoder$Carrying" "carriedAsB" "[I") ∈ gt := mem_gt 155 (by decide +kernel) rfl
theorem gw_96 : (Jvm.Cond.laysFinal "StackCoder$Carrying" "StackCoder$Carrying" "needs" "[I") ∈ gt := mem_gt 157 (by decide +kernel) rfl
theorem gw_98 : (Jvm.Cond.laysFinal "StackCoder$Carrying" "StackCoder$Carrying" "treeReads" "[I") ∈ gt := mem_gt 159 (by decide +kernel) rfl
theorem gw_100 : (Jvm.Cond.laysFinal "StackCoder$Carrying" "StackCoder$Carrying" "treeLoads" "[Z") ∈ gt := mem_gt 161 (by decide +kernel) rfl
theorem gw_103 : (Jvm.Cond.classLink "StackCoder" (34 : Nat) "StackCoder$StackCode") ∈ gt := mem_gt 164 (by decide +kernel) rfl
theorem gw_104 : (Jvm.Cond.instantiable "StackCoder$StackCode" (9 : Nat)) ∈ gt := mem_gt 165 (by decide +kernel) rfl
theorem gw_105 : (Jvm.Cond.methodLink "StackCoder" (36 : Nat) ({ cls := "StackCoder$StackCode", name := "<init>", desc := "(LStackCoder$RegisterCode;LStackCoder$Flow;LStackCoder$Carrying;)V" } : Jvm.MethodName)) ∈ gt := mem_gt 166 (by decide +kernel) rfl
theorem gw_106 : (Jvm.Cond.instanceMethod ({ cls := "StackCoder$StackCode", name := "<init>", desc := "(LStackCoder$RegisterCode;LStackCoder$Flow;LStackCoder$Carrying;)V" } : Jvm.MethodName)) ∈ gt := mem_gt 167 (by decide +kernel) rfl
theorem gw_107 : (Jvm.Cond.code ({ cls := "StackCoder$StackCode", name := "<init>", desc := "(LStackCoder$RegisterCode;LStackCoder$Flow;LStackCoder$Carrying;)V" } : Jvm.MethodName) prog_6_method_1_code (4 : Nat) (Option.none : Option Jvm.ClassFile.FieldType)) ∈ gt := mem_gt 168 (by rfl) rfl
theorem gw_108 : (Jvm.Cond.methodLink "StackCoder$StackCode" (3 : Nat) ({ cls := "java/lang/Object", name := "<init>", desc := "()V" } : Jvm.MethodName)) ∈ gt := mem_gt 169 (by decide +kernel) rfl
theorem gw_109 : (Jvm.Cond.fieldLink "StackCoder$StackCode" (24 : Nat) "StackCoder$StackCode" "code" "LStackCoder$RegisterCode;") ∈ gt := mem_gt 170 (by decide +kernel) rfl
theorem gw_110 : (Jvm.Cond.fieldLink "StackCoder$StackCode" (28 : Nat) "StackCoder$StackCode" "flow" "LStackCoder$Flow;") ∈ gt := mem_gt 171 (by decide +kernel) rfl
theorem gw_111 : (Jvm.Cond.fieldLink "StackCoder$StackCode" (32 : Nat) "StackCoder$StackCode" "carrying" "LStackCoder$Carrying;") ∈ gt := mem_gt 172 (by decide +kernel) rfl
theorem gw_112 : (Jvm.Cond.fieldLink "StackCoder$StackCode" (11 : Nat) "StackCoder$StackCode" "operations" "[I") ∈ gt := mem_gt 173 (by decide +kernel) rfl
theorem gw_113 : (Jvm.Cond.fieldLink "StackCoder$StackCode" (15 : Nat) "StackCoder$StackCode" "numbers" "[I") ∈ gt := mem_gt 174 (by decide +kernel) rfl
theorem gw_114 : (Jvm.Cond.fieldLink "StackCoder$StackCode" (18 : Nat) "StackCoder$StackCode" "widths" "[I") ∈ gt := mem_gt 175 (by decide +kernel) rfl
theorem gw_115 : (Jvm.Cond.fieldLink "StackCoder$StackCode" (21 : Nat) "StackCoder$StackCode" "starts" "[I") ∈ gt := mem_gt 176 (by decide +kernel) rfl
theorem gw_116 : (Jvm.Cond.fieldLink "StackCoder$StackCode" (36 : Nat) "StackCoder$StackCode" "endPlace" "I") ∈ gt := mem_gt 177 (by decide +kernel) rfl
theorem gw_117 : (Jvm.Cond.fieldLink "StackCoder$StackCode" (40 : Nat) "StackCoder$StackCode" "puts" "I") ∈ gt := mem_gt 178 (by decide +kernel) rfl
theorem gw_118 : (Jvm.Cond.laysFinal "StackCoder$StackCode" "StackCoder$StackCode" "code" "LStackCoder$RegisterCode;") ∈ gt := mem_gt 179 (by decide +kernel) rfl
theorem gw_120 : (Jvm.Cond.laysFinal "StackCoder$StackCode" "StackCoder$StackCode" "flow" "LStackCoder$Flow;") ∈ gt := mem_gt 181 (by decide +kernel) rfl
theorem gw_122 : (Jvm.Cond.laysFinal "StackCoder$StackCode" "StackCoder$StackCode" "carrying" "LStackCoder$Carrying;") ∈ gt := mem_gt 183 (by decide +kernel) rfl
theorem gw_124 : (Jvm.Cond.laysFinal "StackCoder$StackCode" "StackCoder$StackCode" "operations" "[I") ∈ gt := mem_gt 185 (by decide +kernel) rfl
theorem gw_126 : (Jvm.Cond.laysFinal "StackCoder$StackCode" "StackCoder$StackCode" "numbers" "[I") ∈ gt := mem_gt 187 (by decide +kernel) rfl
theorem gw_128 : (Jvm.Cond.laysFinal "StackCoder$StackCode" "StackCoder$StackCode" "widths" "[I") ∈ gt := mem_gt 189 (by decide +kernel) rfl
theorem gw_130 : (Jvm.Cond.laysFinal "StackCoder$StackCode" "StackCoder$StackCode" "starts" "[I") ∈ gt := mem_gt 191 (by decide +kernel) rfl
theorem gw_132 : (Jvm.Cond.lays "StackCoder$StackCode" "StackCoder$StackCode" "endPlace" "I") ∈ gt := mem_gt 193 (by decide +kernel) rfl
theorem gw_134 : (Jvm.Cond.lays "StackCoder$StackCode" "StackCoder$StackCode" "puts" "I") ∈ gt := mem_gt 195 (by decide +kernel) rfl
theorem gw_137 : (Jvm.Cond.classLink "StackCoder" (43 : Nat) "StackCoder$Machine") ∈ gt := mem_gt 198 (by decide +kernel) rfl
theorem gw_138 : (Jvm.Cond.instantiable "StackCoder$Machine" (7 : Nat)) ∈ gt := mem_gt 199 (by decide +kernel) rfl
theorem gw_140 : (Jvm.Cond.instanceMethod ({ cls := "StackCoder$Machine", name := "<init>", desc := "()V" } : Jvm.MethodName)) ∈ gt := mem_gt 201 (by decide +kernel) rfl
theorem gw_141 : (Jvm.Cond.code ({ cls := "StackCoder$Machine", name := "<init>", desc := "()V" } : Jvm.MethodName) prog_4_method_1_code (1 : Nat) (Option.none : Option Jvm.ClassFile.FieldType)) ∈ gt := mem_gt 202 (by rfl) rfl
theorem gw_142 : (Jvm.Cond.methodLink "StackCoder$Machine" (3 : Nat) ({ cls := "java/lang/Object", name := "<init>", desc := "()V" } : Jvm.MethodName)) ∈ gt := mem_gt 203 (by decide +kernel) rfl
theorem gw_143 : (Jvm.Cond.fieldLink "StackCoder$Machine" (9 : Nat) "StackCoder$Machine" "registers" "[I") ∈ gt := mem_gt 204 (by decide +kernel) rfl
theorem gw_144 : (Jvm.Cond.fieldLink "StackCoder$Machine" (15 : Nat) "StackCoder$Machine" "cells" "[I") ∈ gt := mem_gt 205 (by decide +kernel) rfl
theorem gw_145 : (Jvm.Cond.fieldLink "StackCoder$Machine" (18 : Nat) "StackCoder$Machine" "kept" "[I") ∈ gt := mem_gt 206 (by decide +kernel) rfl
theorem gw_146 : (Jvm.Cond.fieldLink "StackCoder$Machine" (21 : Nat) "StackCoder$Machine" "stack" "[I") ∈ gt := mem_gt 207 (by decide +kernel) rfl
theorem gw_147 : (Jvm.Cond.fieldLink "StackCoder$Machine" (58 : Nat) "StackCoder$Machine" "height" "I") ∈ gt := mem_gt 208 (by decide +kernel) rfl
theorem gw_148 : (Jvm.Cond.fieldLink "StackCoder$Machine" (41 : Nat) "StackCoder$Machine" "printed" "I") ∈ gt := mem_gt 209 (by decide +kernel) rfl
theorem gw_149 : (Jvm.Cond.fieldLink "StackCoder$Machine" (37 : Nat) "StackCoder$Machine" "steps" "I") ∈ gt := mem_gt 210 (by decide +kernel) rfl
theorem gw_150 : (Jvm.Cond.laysFinal "StackCoder$Machine" "StackCoder$Machine" "registers" "[I") ∈ gt := mem_gt 211 (by decide +kernel) rfl
theorem gw_152 : (Jvm.Cond.laysFinal "StackCoder$Machine" "StackCoder$Machine" "cells" "[I") ∈ gt := mem_gt 213 (by decide +kernel) rfl
theorem gw_154 : (Jvm.Cond.laysFinal "StackCoder$Machine" "StackCoder$Machine" "kept" "[I") ∈ gt := mem_gt 215 (by decide +kernel) rfl
theorem gw_156 : (Jvm.Cond.laysFinal "StackCoder$Machine" "StackCoder$Machine" "stack" "[I") ∈ gt := mem_gt 217 (by decide +kernel) rfl
theorem gw_158 : (Jvm.Cond.lays "StackCoder$Machine" "StackCoder$Machine" "height" "I") ∈ gt := mem_gt 219 (by decide +kernel) rfl
theorem gw_160 : (Jvm.Cond.lays "StackCoder$Machine" "StackCoder$Machine" "printed" "I") ∈ gt := mem_gt 221 (by decide +kernel) rfl
theorem gw_162 : (Jvm.Cond.lays "StackCoder$Machine" "StackCoder$Machine" "steps" "I") ∈ gt := mem_gt 223 (by decide +kernel) rfl
theorem gw_165 : (Jvm.Cond.fieldLink "StackCoder" (12 : Nat) "StackCoder" "source" "LStackCoder$RegisterCode;") ∈ gt := mem_gt 226 (by decide +kernel) rfl
theorem gw_166 : (Jvm.Cond.fieldLink "StackCoder" (21 : Nat) "StackCoder" "flow" "LStackCoder$Flow;") ∈ gt := mem_gt 227 (by decide +kernel) rfl
theorem gw_167 : (Jvm.Cond.fieldLink "StackCoder" (30 : Nat) "StackCoder" "carrying" "LStackCoder$Carrying;") ∈ gt := mem_gt 228 (by decide +kernel) rfl
theorem gw_168 : (Jvm.Cond.fieldLink "StackCoder" (39 : Nat) "StackCoder" "target" "LStackCoder$StackCode;") ∈ gt := mem_gt 229 (by decide +kernel) rfl
theorem gw_169 : (Jvm.Cond.fieldLink "StackCoder" (46 : Nat) "StackCoder" "machine" "LStackCoder$Machine;") ∈ gt := mem_gt 230 (by decide +kernel) rfl
theorem gw_170 : (Jvm.Cond.fieldLink "StackCoder" (50 : Nat) "StackCoder" "stale" "Z") ∈ gt := mem_gt 231 (by decide +kernel) rfl
theorem gw_171 : (Jvm.Cond.laysFinal "StackCoder" "StackCoder" "source" "LStackCoder$RegisterCode;") ∈ gt := mem_gt 232 (by decide +kernel) rfl
theorem gw_173 : (Jvm.Cond.laysFinal "StackCoder" "StackCoder" "flow" "LStackCoder$Flow;") ∈ gt := mem_gt 234 (by decide +kernel) rfl
theorem gw_175 : (Jvm.Cond.laysFinal "StackCoder" "StackCoder" "carrying" "LStackCoder$Carrying;") ∈ gt := mem_gt 236 (by decide +kernel) rfl
theorem gw_177 : (Jvm.Cond.laysFinal "StackCoder" "StackCoder" "target" "LStackCoder$StackCode;") ∈ gt := mem_gt 238 (by decide +kernel) rfl
theorem gw_179 : (Jvm.Cond.laysFinal "StackCoder" "StackCoder" "machine" "LStackCoder$Machine;") ∈ gt := mem_gt 240 (by decide +kernel) rfl
theorem gw_181 : (Jvm.Cond.lays "StackCoder" "StackCoder" "stale" "Z") ∈ gt := mem_gt 242 (by decide +kernel) rfl
theorem gw_184 : (Jvm.Cond.methodLink "StackCoderLaw" (21 : Nat) ({ cls := "StackCoder", name := "add", desc := "(IIII)I" } : Jvm.MethodName)) ∈ gt := mem_gt 245 (by decide +kernel) rfl
theorem gw_185 : (Jvm.Cond.instanceMethod ({ cls := "StackCoder", name := "add", desc := "(IIII)I" } : Jvm.MethodName)) ∈ gt := mem_gt 246 (by decide +kernel) rfl
theorem gw_186 : (Jvm.Cond.selects "StackCoder" ({ cls := "StackCoder", name := "add", desc := "(IIII)I" } : Jvm.MethodName) ({ cls := "StackCoder", name := "add", desc := "(IIII)I" } : Jvm.MethodName)) ∈ gt := mem_gt 247 (by decide +kernel) rfl
theorem gw_187 : (Jvm.Cond.code ({ cls := "StackCoder", name := "add", desc := "(IIII)I" } : Jvm.MethodName) prog_1_method_2_code (6 : Nat) (Option.some Jvm.ClassFile.FieldType.int)) ∈ gt := mem_gt 248 (by rfl) rfl
theorem gw_188 : (Jvm.Cond.methodLink "StackCoder" (54 : Nat) ({ cls := "StackCoder$RegisterCode", name := "count", desc := "()I" } : Jvm.MethodName)) ∈ gt := mem_gt 249 (by decide +kernel) rfl
theorem gw_189 : (Jvm.Cond.instanceMethod ({ cls := "StackCoder$RegisterCode", name := "count", desc := "()I" } : Jvm.MethodName)) ∈ gt := mem_gt 250 (by decide +kernel) rfl
theorem gw_190 : (Jvm.Cond.selects "StackCoder$RegisterCode" ({ cls := "StackCoder$RegisterCode", name := "count", desc := "()I" } : Jvm.MethodName) ({ cls := "StackCoder$RegisterCode", name := "count", desc := "()I" } : Jvm.MethodName)) ∈ gt := mem_gt 251 (by decide +kernel) rfl
theorem gw_191 : (Jvm.Cond.code ({ cls := "StackCoder$RegisterCode", name := "count", desc := "()I" } : Jvm.MethodName) prog_5_method_4_code (1 : Nat) (Option.some Jvm.ClassFile.FieldType.int)) ∈ gt := mem_gt 252 (by rfl) rfl
theorem gw_192 : (Jvm.Cond.methodLink "StackCoder" (58 : Nat) ({ cls := "StackCoder$RegisterCode", name := "fits", desc := "(IIII)Z" } : Jvm.MethodName)) ∈ gt := mem_gt 253 (by decide +kernel) rfl
theorem gw_193 : (Jvm.Cond.static ({ cls := "StackCoder$RegisterCode", name := "fits", desc := "(IIII)Z" } : Jvm.MethodName)) ∈ gt := mem_gt 254 (by decide +kernel) rfl
theorem gw_194 : (Jvm.Cond.code ({ cls := "StackCoder$RegisterCode", name := "fits", desc := "(IIII)Z" } : Jvm.MethodName) prog_5_method_2_code (4 : Nat) (Option.some Jvm.ClassFile.FieldType.boolean)) ∈ gt := mem_gt 255 (by rfl) rfl
theorem gw_195 : (Jvm.Cond.fieldLink "StackCoder$RegisterCode" (33 : Nat) "StackCoder$RegisterCode" "D_KINDS" "[I") ∈ gt := mem_gt 256 (by decide +kernel) rfl
theorem gw_197 : (Jvm.Cond.methodLink "StackCoder$RegisterCode" (36 : Nat) ({ cls := "StackCoder$RegisterCode", name := "isOfKind", desc := "(II)Z" } : Jvm.MethodName)) ∈ gt := mem_gt 258 (by decide +kernel) rfl
theorem gw_198 : (Jvm.Cond.static ({ cls := "StackCoder$RegisterCode", name := "isOfKind", desc := "(II)Z" } : Jvm.MethodName)) ∈ gt := mem_gt 259 (by decide +kernel) rfl
theorem gw_199 : (Jvm.Cond.code ({ cls := "StackCoder$RegisterCode", name := "isOfKind", desc := "(II)Z" } : Jvm.MethodName) prog_5_method_3_code (2 : Nat) (Option.some Jvm.ClassFile.FieldType.boolean)) ∈ gt := mem_gt 260 (by rfl) rfl
theorem gw_200 : (Jvm.Cond.fieldLink "StackCoder$RegisterCode" (40 : Nat) "StackCoder$RegisterCode" "A_KINDS" "[I") ∈ gt := mem_gt 261 (by decide +kernel) rfl
theorem gw_202 : (Jvm.Cond.fieldLink "StackCoder$RegisterCode" (43 : Nat) "StackCoder$RegisterCode" "B_KINDS" "[I") ∈ gt := mem_gt 263 (by decide +kernel) rfl
theorem gw_204 : (Jvm.Cond.methodLink "StackCoder" (62 : Nat) ({ cls := "StackCoder$RegisterCode", name := "resize", desc := "(I)V" } : Jvm.MethodName)) ∈ gt := mem_gt 265 (by decide +kernel) rfl
theorem gw_205 : (Jvm.Cond.instanceMethod ({ cls := "StackCoder$RegisterCode", name := "resize", desc := "(I)V" } : Jvm.MethodName)) ∈ gt := mem_gt 266 (by decide +kernel) rfl
theorem gw_206 : (Jvm.Cond.selects "StackCoder$RegisterCode" ({ cls := "StackCoder$RegisterCode", name := "resize", desc := "(I)V" } : Jvm.MethodName) ({ cls := "StackCoder$RegisterCode", name := "resize", desc := "(I)V" } : Jvm.MethodName)) ∈ gt := mem_gt 267 (by decide +kernel) rfl
theorem gw_207 : (Jvm.Cond.code ({ cls := "StackCoder$RegisterCode", name := "resize", desc := "(I)V" } : Jvm.MethodName) prog_5_method_6_code (2 : Nat) (Option.none : Option Jvm.ClassFile.FieldType)) ∈ gt := mem_gt 268 (by rfl) rfl
theorem gw_208 : (Jvm.Cond.methodLink "StackCoder" (66 : Nat) ({ cls := "StackCoder$RegisterCode", name := "write", desc := "(IIIII)V" } : Jvm.MethodName)) ∈ gt := mem_gt 269 (by decide +kernel) rfl
theorem gw_209 : (Jvm.Cond.instanceMethod ({ cls := "StackCoder$RegisterCode", name := "write", desc := "(IIIII)V" } : Jvm.MethodName)) ∈ gt := mem_gt 270 (by decide +kernel) rfl
theorem gw_210 : (Jvm.Cond.selects "StackCoder$RegisterCode" ({ cls := "StackCoder$RegisterCode", name := "write", desc := "(IIIII)V" } : Jvm.MethodName) ({ cls := "StackCoder$RegisterCode", name := "write", desc := "(IIIII)V" } : Jvm.MethodName)) ∈ gt := mem_gt 271 (by decide +kernel) rfl
theorem gw_211 : (Jvm.Cond.code ({ cls := "StackCoder$RegisterCode", name := "write", desc := "(IIIII)V" } : Jvm.MethodName) prog_5_method_7_code (6 : Nat) (Option.none : Option Jvm.ClassFile.FieldType)) ∈ gt := mem_gt 272 (by rfl) rfl
theorem gw_212 : (Jvm.Cond.methodLink "StackCoderLaw" (26 : Nat) ({ cls := "StackCoder", name := "set", desc := "(IIIII)Z" } : Jvm.MethodName)) ∈ gt := mem_gt 273 (by decide +kernel) rfl
theorem gw_213 : (Jvm.Cond.instanceMethod ({ cls := "StackCoder", name := "set", desc := "(IIIII)Z" } : Jvm.MethodName)) ∈ gt := mem_gt 274 (by decide +kernel) rfl
theorem gw_214 : (Jvm.Cond.selects "StackCoder" ({ cls := "StackCoder", name := "set", desc := "(IIIII)Z" } : Jvm.MethodName) ({ cls := "StackCoder", name := "set", desc := "(IIIII)Z" } : Jvm.MethodName)) ∈ gt := mem_gt 275 (by decide +kernel) rfl
theorem gw_215 : (Jvm.Cond.code ({ cls := "StackCoder", name := "set", desc := "(IIIII)Z" } : Jvm.MethodName) prog_1_method_3_code (6 : Nat) (Option.some Jvm.ClassFile.FieldType.boolean)) ∈ gt := mem_gt 276 (by rfl) rfl
theorem gw_216 : (Jvm.Cond.methodLink "StackCoder" (70 : Nat) ({ cls := "StackCoder$RegisterCode", name := "holds", desc := "(I)Z" } : Jvm.MethodName)) ∈ gt := mem_gt 277 (by decide +kernel) rfl
theorem gw_217 : (Jvm.Cond.instanceMethod ({ cls := "StackCoder$RegisterCode", name := "holds", desc := "(I)Z" } : Jvm.MethodName)) ∈ gt := mem_gt 278 (by decide +kernel) rfl
theorem gw_218 : (Jvm.Cond.selects "StackCoder$RegisterCode" ({ cls := "StackCoder$RegisterCode", name := "holds", desc := "(I)Z" } : Jvm.MethodName) ({ cls := "StackCoder$RegisterCode", name := "holds", desc := "(I)Z" } : Jvm.MethodName)) ∈ gt := mem_gt 279 (by decide +kernel) rfl
theorem gw_219 : (Jvm.Cond.code ({ cls := "StackCoder$RegisterCode", name := "holds", desc := "(I)Z" } : Jvm.MethodName) prog_5_method_5_code (2 : Nat) (Option.some Jvm.ClassFile.FieldType.boolean)) ∈ gt := mem_gt 280 (by rfl) rfl
theorem gw_220 : (Jvm.Cond.methodLink "StackCoderLaw" (31 : Nat) ({ cls := "StackCoder", name := "cut", desc := "(I)Z" } : Jvm.MethodName)) ∈ gt := mem_gt 281 (by decide +kernel) rfl
theorem gw_221 : (Jvm.Cond.instanceMethod ({ cls := "StackCoder", name := "cut", desc := "(I)Z" } : Jvm.MethodName)) ∈ gt := mem_gt 282 (by decide +kernel) rfl
theorem gw_222 : (Jvm.Cond.selects "StackCoder" ({ cls := "StackCoder", name := "cut", desc := "(I)Z" } : Jvm.MethodName) ({ cls := "StackCoder", name := "cut", desc := "(I)Z" } : Jvm.MethodName)) ∈ gt := mem_gt 283 (by decide +kernel) rfl
theorem gw_223 : (Jvm.Cond.code ({ cls := "StackCoder", name := "cut", desc := "(I)Z" } : Jvm.MethodName) prog_1_method_4_code (2 : Nat) (Option.some Jvm.ClassFile.FieldType.boolean)) ∈ gt := mem_gt 284 (by rfl) rfl
theorem gw_224 : (Jvm.Cond.methodLink "StackCoderLaw" (36 : Nat) ({ cls := "StackCoder", name := "size", desc := "()I" } : Jvm.MethodName)) ∈ gt := mem_gt 285 (by decide +kernel) rfl
theorem gw_225 : (Jvm.Cond.instanceMethod ({ cls := "StackCoder", name := "size", desc := "()I" } : Jvm.MethodName)) ∈ gt := mem_gt 286 (by decide +kernel) rfl
theorem gw_226 : (Jvm.Cond.selects "StackCoder" ({ cls := "StackCoder", name := "size", desc := "()I" } : Jvm.MethodName) ({ cls := "StackCoder", name := "size", desc := "()I" } : Jvm.MethodName)) ∈ gt := mem_gt 287 (by decide +kernel) rfl
theorem gw_227 : (Jvm.Cond.code ({ cls := "StackCoder", name := "size", desc := "()I" } : Jvm.MethodName) prog_1_method_5_code (1 : Nat) (Option.some Jvm.ClassFile.FieldType.int)) ∈ gt := mem_gt 288 (by rfl) rfl
theorem gw_228 : (Jvm.Cond.methodLink "StackCoderLaw" (41 : Nat) ({ cls := "StackCoder", name := "length", desc := "()I" } : Jvm.MethodName)) ∈ gt := mem_gt 289 (by decide +kernel) rfl
theorem gw_229 : (Jvm.Cond.instanceMethod ({ cls := "StackCoder", name := "length", desc := "()I" } : Jvm.MethodName)) ∈ gt := mem_gt 290 (by decide +kernel) rfl
theorem gw_230 : (Jvm.Cond.selects "StackCoder" ({ cls := "StackCoder", name := "length", desc := "()I" } : Jvm.MethodName) ({ cls := "StackCoder", name := "length", desc := "()I" } : Jvm.MethodName)) ∈ gt := mem_gt 291 (by decide +kernel) rfl
theorem gw_231 : (Jvm.Cond.code ({ cls := "StackCoder", name := "length", desc := "()I" } : Jvm.MethodName) prog_1_method_6_code (1 : Nat) (Option.some Jvm.ClassFile.FieldType.int)) ∈ gt := mem_gt 292 (by rfl) rfl
theorem gw_232 : (Jvm.Cond.methodLink "StackCoder" (74 : Nat) ({ cls := "StackCoder", name := "translate", desc := "()V" } : Jvm.MethodName)) ∈ gt := mem_gt 293 (by decide +kernel) rfl
theorem gw_234 : (Jvm.Cond.instanceMethod ({ cls := "StackCoder", name := "translate", desc := "()V" } : Jvm.MethodName)) ∈ gt := mem_gt 295 (by decide +kernel) rfl
theorem gw_235 : (Jvm.Cond.code ({ cls := "StackCoder", name := "translate", desc := "()V" } : Jvm.MethodName) prog_1_method_17_code (1 : Nat) (Option.none : Option Jvm.ClassFile.FieldType)) ∈ gt := mem_gt 296 (by rfl) rfl
theorem gw_236 : (Jvm.Cond.methodLink "StackCoder" (117 : Nat) ({ cls := "StackCoder$Flow", name := "trace", desc := "()V" } : Jvm.MethodName)) ∈ gt := mem_gt 297 (by decide +kernel) rfl
theorem gw_237 : (Jvm.Cond.instanceMethod ({ cls := "StackCoder$Flow", name := "trace", desc := "()V" } : Jvm.MethodName)) ∈ gt := mem_gt 298 (by decide +kernel) rfl
theorem gw_238 : (Jvm.Cond.selects "StackCoder$Flow" ({ cls := "StackCoder$Flow", name := "trace", desc := "()V" } : Jvm.MethodName) ({ cls := "StackCoder$Flow", name := "trace", desc := "()V" } : Jvm.MethodName)) ∈ gt := mem_gt 299 (by decide +kernel) rfl
theorem gw_239 : (Jvm.Cond.code ({ cls := "StackCoder$Flow", name := "trace", desc := "()V" } : Jvm.MethodName) prog_3_method_3_code (3 : Nat) (Option.none : Option Jvm.ClassFile.FieldType)) ∈ gt := mem_gt 300 (by rfl) rfl
theorem gw_240 : (Jvm.Cond.methodLink "StackCoder$Flow" (26 : Nat) ({ cls := "StackCoder$Flow", name := "markBlocks", desc := "()V" } : Jvm.MethodName)) ∈ gt := mem_gt 301 (by decide +kernel) rfl
theorem gw_242 : (Jvm.Cond.instanceMethod ({ cls := "StackCoder$Flow", name := "markBlocks", desc := "()V" } : Jvm.MethodName)) ∈ gt := mem_gt 303 (by decide +kernel) rfl
theorem gw_243 : (Jvm.Cond.code ({ cls := "StackCoder$Flow", name := "markBlocks", desc := "()V" } : Jvm.MethodName) prog_3_method_4_code (2 : Nat) (Option.none : Option Jvm.ClassFile.FieldType)) ∈ gt := mem_gt 304 (by rfl) rfl
theorem gw_244 : (Jvm.Cond.methodLink "StackCoder$Flow" (29 : Nat) ({ cls := "StackCoder$RegisterCode", name := "count", desc := "()I" } : Jvm.MethodName)) ∈ gt := mem_gt 305 (by decide +kernel) rfl
theorem gw_245 : (Jvm.Cond.methodLink "StackCoder$Flow" (39 : Nat) ({ cls := "StackCoder$RegisterCode", name := "operationOf", desc := "(I)I" } : Jvm.MethodName)) ∈ gt := mem_gt 306 (by decide +kernel) rfl
theorem gw_246 : (Jvm.Cond.instanceMethod ({ cls := "StackCoder$RegisterCode", name := "operationOf", desc := "(I)I" } : Jvm.MethodName)) ∈ gt := mem_gt 307 (by decide +kernel) rfl
theorem gw_247 : (Jvm.Cond.selects "StackCoder$RegisterCode" ({ cls := "StackCoder$RegisterCode", name := "operationOf", desc := "(I)I" } : Jvm.MethodName) ({ cls := "StackCoder$RegisterCode", name := "operationOf", desc := "(I)I" } : Jvm.MethodName)) ∈ gt := mem_gt 308 (by decide +kernel) rfl
theorem gw_248 : (Jvm.Cond.code ({ cls := "StackCoder$RegisterCode", name := "operationOf", desc := "(I)I" } : Jvm.MethodName) prog_5_method_8_code (2 : Nat) (Option.some Jvm.ClassFile.FieldType.int)) ∈ gt := mem_gt 309 (by rfl) rfl
theorem gw_249 : (Jvm.Cond.methodLink "StackCoder$Flow" (43 : Nat) ({ cls := "StackCoder$RegisterCode", name := "aOf", desc := "(I)I" } : Jvm.MethodName)) ∈ gt := mem_gt 310 (by decide +kernel) rfl
theorem gw_250 : (Jvm.Cond.instanceMethod ({ cls := "StackCoder$RegisterCode", name := "aOf", desc := "(I)I" } : Jvm.MethodName)) ∈ gt := mem_gt 311 (by decide +kernel) rfl
theorem gw_251 : (Jvm.Cond.selects "StackCoder$RegisterCode" ({ cls := "StackCoder$RegisterCode", name := "aOf", desc := "(I)I" } : Jvm.MethodName) ({ cls := "StackCoder$RegisterCode", name := "aOf", desc := "(I)I" } : Jvm.MethodName)) ∈ gt := mem_gt 312 (by decide +kernel) rfl
theorem gw_252 : (Jvm.Cond.code ({ cls := "StackCoder$RegisterCode", name := "aOf", desc := "(I)I" } : Jvm.MethodName) prog_5_method_10_code (2 : Nat) (Option.some Jvm.ClassFile.FieldType.int)) ∈ gt := mem_gt 313 (by rfl) rfl
theorem gw_253 : (Jvm.Cond.methodLink "StackCoder$Flow" (46 : Nat) ({ cls := "StackCoder$Flow", name := "markBegin", desc := "(I)V" } : Jvm.MethodName)) ∈ gt := mem_gt 314 (by decide +kernel) rfl
theorem gw_255 : (Jvm.Cond.instanceMethod ({ cls := "StackCoder$Flow", name := "markBegin", desc := "(I)V" } : Jvm.MethodName)) ∈ gt := mem_gt 316 (by decide +kernel) rfl
theorem gw_256 : (Jvm.Cond.code ({ cls := "StackCoder$Flow", name := "markBegin", desc := "(I)V" } : Jvm.MethodName) prog_3_method_5_code (2 : Nat) (Option.none : Option Jvm.ClassFile.FieldType)) ∈ gt := mem_gt 317 (by rfl) rfl
theorem gw_257 : (Jvm.Cond.methodLink "StackCoder$Flow" (53 : Nat) ({ cls := "StackCoder$RegisterCode", name := "holds", desc := "(I)Z" } : Jvm.MethodName)) ∈ gt := mem_gt 318 (by decide +kernel) rfl
theorem gw_258 : (Jvm.Cond.methodLink "StackCoder$Flow" (50 : Nat) ({ cls := "StackCoder$RegisterCode", name := "bOf", desc := "(I)I" } : Jvm.MethodName)) ∈ gt := mem_gt 319 (by decide +kernel) rfl
theorem gw_259 : (Jvm.Cond.instanceMethod ({ cls := "StackCoder$RegisterCode", name := "bOf", desc := "(I)I" } : Jvm.MethodName)) ∈ gt := mem_gt 320 (by decide +kernel) rfl
theorem gw_260 : (Jvm.Cond.selects "StackCoder$RegisterCode" ({ cls := "StackCoder$RegisterCode", name := "bOf", desc := "(I)I" } : Jvm.MethodName) ({ cls := "StackCoder$RegisterCode", name := "bOf", desc := "(I)I" } : Jvm.MethodName)) ∈ gt := mem_gt 321 (by decide +kernel) rfl
theorem gw_261 : (Jvm.Cond.code ({ cls := "StackCoder$RegisterCode", name := "bOf", desc := "(I)I" } : Jvm.MethodName) prog_5_method_11_code (2 : Nat) (Option.some Jvm.ClassFile.FieldType.int)) ∈ gt := mem_gt 322 (by rfl) rfl
theorem gw_262 : (Jvm.Cond.methodLink "StackCoder$Flow" (35 : Nat) ({ cls := "StackCoder$Flow", name := "flowBack", desc := "()Z" } : Jvm.MethodName)) ∈ gt := mem_gt 323 (by decide +kernel) rfl
theorem gw_264 : (Jvm.Cond.instanceMethod ({ cls := "StackCoder$Flow", name := "flowBack", desc := "()Z" } : Jvm.MethodName)) ∈ gt := mem_gt 325 (by decide +kernel) rfl
theorem gw_265 : (Jvm.Cond.code ({ cls := "StackCoder$Flow", name := "flowBack", desc := "()Z" } : Jvm.MethodName) prog_3_method_6_code (5 : Nat) (Option.some Jvm.ClassFile.FieldType.boolean)) ∈ gt := mem_gt 326 (by rfl) rfl
theorem gw_266 : (Jvm.Cond.methodLink "StackCoder$Flow" (57 : Nat) ({ cls := "StackCoder$Flow", name := "gatherAfter", desc := "(I)I" } : Jvm.MethodName)) ∈ gt := mem_gt 327 (by decide +kernel) rfl
theorem gw_268 : (Jvm.Cond.instanceMethod ({ cls := "StackCoder$Flow", name := "gatherAfter", desc := "(I)I" } : Jvm.MethodName)) ∈ gt := mem_gt 329 (by decide +kernel) rfl
theorem gw_269 : (Jvm.Cond.code ({ cls := "StackCoder$Flow", name := "gatherAfter", desc := "(I)I" } : Jvm.MethodName) prog_3_method_7_code (2 : Nat) (Option.some Jvm.ClassFile.FieldType.int)) ∈ gt := mem_gt 330 (by rfl) rfl
theorem gw_270 : (Jvm.Cond.methodLink "StackCoder$Flow" (72 : Nat) ({ cls := "StackCoder$Flow", name := "liveBefore", desc := "(I)I" } : Jvm.MethodName)) ∈ gt := mem_gt 331 (by decide +kernel) rfl
theorem gw_271 : (Jvm.Cond.instanceMethod ({ cls := "StackCoder$Flow", name := "liveBefore", desc := "(I)I" } : Jvm.MethodName)) ∈ gt := mem_gt 332 (by decide +kernel) rfl
theorem gw_272 : (Jvm.Cond.selects "StackCoder$Flow" ({ cls := "StackCoder$Flow", name := "liveBefore", desc := "(I)I" } : Jvm.MethodName) ({ cls := "StackCoder$Flow", name := "liveBefore", desc := "(I)I" } : Jvm.MethodName)) ∈ gt := mem_gt 333 (by decide +kernel) rfl
theorem gw_273 : (Jvm.Cond.code ({ cls := "StackCoder$Flow", name := "liveBefore", desc := "(I)I" } : Jvm.MethodName) prog_3_method_9_code (2 : Nat) (Option.some Jvm.ClassFile.FieldType.int)) ∈ gt := mem_gt 334 (by rfl) rfl
theorem gw_274 : (Jvm.Cond.methodLink "StackCoder$Flow" (60 : Nat) ({ cls := "StackCoder$RegisterCode", name := "readAsA", desc := "(I)I" } : Jvm.MethodName)) ∈ gt := mem_gt 335 (by decide +kernel) rfl
theorem gw_275 : (Jvm.Cond.instanceMethod ({ cls := "StackCoder$RegisterCode", name := "readAsA", desc := "(I)I" } : Jvm.MethodName)) ∈ gt := mem_gt 336 (by decide +kernel) rfl
theorem gw_276 : (Jvm.Cond.selects "StackCoder$RegisterCode" ({ cls := "StackCoder$RegisterCode", name := "readAsA", desc := "(I)I" } : Jvm.MethodName) ({ cls := "StackCoder$RegisterCode", name := "readAsA", desc := "(I)I" } : Jvm.MethodName)) ∈ gt := mem_gt 337 (by decide +kernel) rfl
theorem gw_277 : (Jvm.Cond.code ({ cls := "StackCoder$RegisterCode", name := "readAsA", desc := "(I)I" } : Jvm.MethodName) prog_5_method_13_code (2 : Nat) (Option.some Jvm.ClassFile.FieldType.int)) ∈ gt := mem_gt 338 (by rfl) rfl
theorem gw_278 : (Jvm.Cond.methodLink "StackCoder$Flow" (63 : Nat) ({ cls := "StackCoder$Flow", name := "setOf", desc := "(I)I" } : Jvm.MethodName)) ∈ gt := mem_gt 339 (by decide +kernel) rfl
theorem gw_279 : (Jvm.Cond.static ({ cls := "StackCoder$Flow", name := "setOf", desc := "(I)I" } : Jvm.MethodName)) ∈ gt := mem_gt 340 (by decide +kernel) rfl
theorem gw_280 : (Jvm.Cond.code ({ cls := "StackCoder$Flow", name := "setOf", desc := "(I)I" } : Jvm.MethodName) prog_3_method_2_code (1 : Nat) (Option.some Jvm.ClassFile.FieldType.int)) ∈ gt := mem_gt 341 (by rfl) rfl
theorem gw_281 : (Jvm.Cond.methodLink "StackCoder$Flow" (66 : Nat) ({ cls := "StackCoder$RegisterCode", name := "readAsB", desc := "(I)I" } : Jvm.MethodName)) ∈ gt := mem_gt 342 (by decide +kernel) rfl
theorem gw_282 : (Jvm.Cond.instanceMethod ({ cls := "StackCoder$RegisterCode", name := "readAsB", desc := "(I)I" } : Jvm.MethodName)) ∈ gt := mem_gt 343 (by decide +kernel) rfl
theorem gw_283 : (Jvm.Cond.selects "StackCoder$RegisterCode" ({ cls := "StackCoder$RegisterCode", name := "readAsB", desc := "(I)I" } : Jvm.MethodName) ({ cls := "StackCoder$RegisterCode", name := "readAsB", desc := "(I)I" } : Jvm.MethodName)) ∈ gt := mem_gt 344 (by decide +kernel) rfl
theorem gw_284 : (Jvm.Cond.code ({ cls := "StackCoder$RegisterCode", name := "readAsB", desc := "(I)I" } : Jvm.MethodName) prog_5_method_14_code (2 : Nat) (Option.some Jvm.ClassFile.FieldType.int)) ∈ gt := mem_gt 345 (by rfl) rfl
theorem gw_285 : (Jvm.Cond.methodLink "StackCoder$Flow" (69 : Nat) ({ cls := "StackCoder$RegisterCode", name := "writtenBy", desc := "(I)I" } : Jvm.MethodName)) ∈ gt := mem_gt 346 (by decide +kernel) rfl
theorem gw_286 : (Jvm.Cond.instanceMethod ({ cls := "StackCoder$RegisterCode", name := "writtenBy", desc := "(I)I" } : Jvm.MethodName)) ∈ gt := mem_gt 347 (by decide +kernel) rfl
theorem gw_287 : (Jvm.Cond.selects "StackCoder$RegisterCode" ({ cls := "StackCoder$RegisterCode", name := "writtenBy", desc := "(I)I" } : Jvm.MethodName) ({ cls := "StackCoder$RegisterCode", name := "writtenBy", desc := "(I)I" } : Jvm.MethodName)) ∈ gt := mem_gt 348 (by decide +kernel) rfl
theorem gw_288 : (Jvm.Cond.code ({ cls := "StackCoder$RegisterCode", name := "writtenBy", desc := "(I)I" } : Jvm.MethodName) prog_5_method_12_code (2 : Nat) (Option.some Jvm.ClassFile.FieldType.int)) ∈ gt := mem_gt 349 (by rfl) rfl
theorem gw_289 : (Jvm.Cond.methodLink "StackCoder" (120 : Nat) ({ cls := "StackCoder$Carrying", name := "settle", desc := "()V" } : Jvm.MethodName)) ∈ gt := mem_gt 350 (by decide +kernel) rfl
theorem gw_290 : (Jvm.Cond.instanceMethod ({ cls := "StackCoder$Carrying", name := "settle", desc := "()V" } : Jvm.MethodName)) ∈ gt := mem_gt 351 (by decide +kernel) rfl
theorem gw_291 : (Jvm.Cond.selects "StackCoder$Carrying" ({ cls := "StackCoder$Carrying", name := "settle", desc := "()V" } : Jvm.MethodName) ({ cls := "StackCoder$Carrying", name := "settle", desc := "()V" } : Jvm.MethodName)) ∈ gt := mem_gt 352 (by decide +kernel) rfl
theorem gw_292 : (Jvm.Cond.code ({ cls := "StackCoder$Carrying", name := "settle", desc := "()V" } : Jvm.MethodName) prog_2_method_2_code (2 : Nat) (Option.none : Option Jvm.ClassFile.FieldType)) ∈ gt := mem_gt 353 (by rfl) rfl
theorem gw_293 : (Jvm.Cond.methodLink "StackCoder$Carrying" (43 : Nat) ({ cls := "StackCoder$RegisterCode", name := "count", desc := "()I" } : Jvm.MethodName)) ∈ gt := mem_gt 354 (by decide +kernel) rfl
theorem gw_294 : (Jvm.Cond.methodLink "StackCoder$Carrying" (49 : Nat) ({ cls := "StackCoder$Carrying", name := "carryInto", desc := "(I)V" } : Jvm.MethodName)) ∈ gt := mem_gt 355 (by decide +kernel) rfl
theorem gw_296 : (Jvm.Cond.instanceMethod ({ cls := "StackCoder$Carrying", name := "carryInto", desc := "(I)V" } : Jvm.MethodName)) ∈ gt := mem_gt 357 (by decide +kernel) rfl
theorem gw_297 : (Jvm.Cond.code ({ cls := "StackCoder$Carrying", name := "carryInto", desc := "(I)V" } : Jvm.MethodName) prog_2_method_3_code (4 : Nat) (Option.none : Option Jvm.ClassFile.FieldType)) ∈ gt := mem_gt 358 (by rfl) rfl
theorem gw_298 : (Jvm.Cond.methodLink "StackCoder$Carrying" (56 : Nat) ({ cls := "StackCoder$RegisterCode", name := "readAsA", desc := "(I)I" } : Jvm.MethodName)) ∈ gt := mem_gt 359 (by decide +kernel) rfl
theorem gw_299 : (Jvm.Cond.methodLink "StackCoder$Carrying" (60 : Nat) ({ cls := "StackCoder$Carrying", name := "carriable", desc := "(II)I" } : Jvm.MethodName)) ∈ gt := mem_gt 360 (by decide +kernel) rfl
theorem gw_301 : (Jvm.Cond.instanceMethod ({ cls := "StackCoder$Carrying", name := "carriable", desc := "(II)I" } : Jvm.MethodName)) ∈ gt := mem_gt 362 (by decide +kernel) rfl
theorem gw_302 : (Jvm.Cond.code ({ cls := "StackCoder$Carrying", name := "carriable", desc := "(II)I" } : Jvm.MethodName) prog_2_method_5_code (5 : Nat) (Option.some Jvm.ClassFile.FieldType.int)) ∈ gt := mem_gt 363 (by rfl) rfl
theorem gw_303 : (Jvm.Cond.methodLink "StackCoder$Carrying" (81 : Nat) ({ cls := "StackCoder$Carrying", name := "lastWriter", desc := "(II)I" } : Jvm.MethodName)) ∈ gt := mem_gt 364 (by decide +kernel) rfl
theorem gw_305 : (Jvm.Cond.instanceMethod ({ cls := "StackCoder$Carrying", name := "lastWriter", desc := "(II)I" } : Jvm.MethodName)) ∈ gt := mem_gt 366 (by decide +kernel) rfl
theorem gw_306 : (Jvm.Cond.code ({ cls := "StackCoder$Carrying", name := "lastWriter", desc := "(II)I" } : Jvm.MethodName) prog_2_method_6_code (4 : Nat) (Option.some Jvm.ClassFile.FieldType.int)) ∈ gt := mem_gt 367 (by rfl) rfl
theorem gw_307 : (Jvm.Cond.methodLink "StackCoder$Carrying" (94 : Nat) ({ cls := "StackCoder$Flow", name := "beginsBlock", desc := "(I)Z" } : Jvm.MethodName)) ∈ gt := mem_gt 368 (by decide +kernel) rfl
theorem gw_308 : (Jvm.Cond.instanceMethod ({ cls := "StackCoder$Flow", name := "beginsBlock", desc := "(I)Z" } : Jvm.MethodName)) ∈ gt := mem_gt 369 (by decide +kernel) rfl
theorem gw_309 : (Jvm.Cond.selects "StackCoder$Flow" ({ cls := "StackCoder$Flow", name := "beginsBlock", desc := "(I)Z" } : Jvm.MethodName) ({ cls := "StackCoder$Flow", name := "beginsBlock", desc := "(I)Z" } : Jvm.MethodName)) ∈ gt := mem_gt 370 (by decide +kernel) rfl
theorem gw_310 : (Jvm.Cond.code ({ cls := "StackCoder$Flow", name := "beginsBlock", desc := "(I)Z" } : Jvm.MethodName) prog_3_method_8_code (2 : Nat) (Option.some Jvm.ClassFile.FieldType.boolean)) ∈ gt := mem_gt 371 (by rfl) rfl
theorem gw_311 : (Jvm.Cond.methodLink "StackCoder$Carrying" (99 : Nat) ({ cls := "StackCoder$RegisterCode", name := "writtenBy", desc := "(I)I" } : Jvm.MethodName)) ∈ gt := mem_gt 372 (by decide +kernel) rfl
theorem gw_312 : (Jvm.Cond.methodLink "StackCoder$Carrying" (84 : Nat) ({ cls := "StackCoder$RegisterCode", name := "readsOnce", desc := "(II)Z" } : Jvm.MethodName)) ∈ gt := mem_gt 373 (by decide +kernel) rfl
theorem gw_313 : (Jvm.Cond.instanceMethod ({ cls := "StackCoder$RegisterCode", name := "readsOnce", desc := "(II)Z" } : Jvm.MethodName)) ∈ gt := mem_gt 374 (by decide +kernel) rfl
theorem gw_314 : (Jvm.Cond.selects "StackCoder$RegisterCode" ({ cls := "StackCoder$RegisterCode", name := "readsOnce", desc := "(II)Z" } : Jvm.MethodName) ({ cls := "StackCoder$RegisterCode", name := "readsOnce", desc := "(II)Z" } : Jvm.MethodName)) ∈ gt := mem_gt 375 (by decide +kernel) rfl
theorem gw_315 : (Jvm.Cond.code ({ cls := "StackCoder$RegisterCode", name := "readsOnce", desc := "(II)Z" } : Jvm.MethodName) prog_5_method_16_code (3 : Nat) (Option.some Jvm.ClassFile.FieldType.boolean)) ∈ gt := mem_gt 376 (by rfl) rfl
theorem gw_316 : (Jvm.Cond.methodLink "StackCoder$Carrying" (88 : Nat) ({ cls := "StackCoder$Carrying", name := "isReadByNoneBut", desc := "(II)Z" } : Jvm.MethodName)) ∈ gt := mem_gt 377 (by decide +kernel) rfl
theorem gw_318 : (Jvm.Cond.instanceMethod ({ cls := "StackCoder$Carrying", name := "isReadByNoneBut", desc := "(II)Z" } : Jvm.MethodName)) ∈ gt := mem_gt 379 (by decide +kernel) rfl
theorem gw_319 : (Jvm.Cond.code ({ cls := "StackCoder$Carrying", name := "isReadByNoneBut", desc := "(II)Z" } : Jvm.MethodName) prog_2_method_7_code (6 : Nat) (Option.some Jvm.ClassFile.FieldType.boolean)) ∈ gt := mem_gt 380 (by rfl) rfl
theorem gw_320 : (Jvm.Cond.methodLink "StackCoder$Carrying" (102 : Nat) ({ cls := "StackCoder$RegisterCode", name := "reads", desc := "(II)Z" } : Jvm.MethodName)) ∈ gt := mem_gt 381 (by decide +kernel) rfl
theorem gw_321 : (Jvm.Cond.instanceMethod ({ cls := "StackCoder$RegisterCode", name := "reads", desc := "(II)Z" } : Jvm.MethodName)) ∈ gt := mem_gt 382 (by decide +kernel) rfl
theorem gw_322 : (Jvm.Cond.selects "StackCoder$RegisterCode" ({ cls := "StackCoder$RegisterCode", name := "reads", desc := "(II)Z" } : Jvm.MethodName) ({ cls := "StackCoder$RegisterCode", name := "reads", desc := "(II)Z" } : Jvm.MethodName)) ∈ gt := mem_gt 383 (by decide +kernel) rfl
theorem gw_323 : (Jvm.Cond.code ({ cls := "StackCoder$RegisterCode", name := "reads", desc := "(II)Z" } : Jvm.MethodName) prog_5_method_15_code (3 : Nat) (Option.some Jvm.ClassFile.FieldType.boolean)) ∈ gt := mem_gt 384 (by rfl) rfl
theorem gw_324 : (Jvm.Cond.methodLink "StackCoder$Carrying" (105 : Nat) ({ cls := "StackCoder$Flow", name := "liveAfter", desc := "(I)I" } : Jvm.MethodName)) ∈ gt := mem_gt 385 (by decide +kernel) rfl
theorem gw_325 : (Jvm.Cond.instanceMethod ({ cls := "StackCoder$Flow", name := "liveAfter", desc := "(I)I" } : Jvm.MethodName)) ∈ gt := mem_gt 386 (by decide +kernel) rfl
theorem gw_326 : (Jvm.Cond.selects "StackCoder$Flow" ({ cls := "StackCoder$Flow", name := "liveAfter", desc := "(I)I" } : Jvm.MethodName) ({ cls := "StackCoder$Flow", name := "liveAfter", desc := "(I)I" } : Jvm.MethodName)) ∈ gt := mem_gt 387 (by decide +kernel) rfl
theorem gw_327 : (Jvm.Cond.code ({ cls := "StackCoder$Flow", name := "liveAfter", desc := "(I)I" } : Jvm.MethodName) prog_3_method_10_code (2 : Nat) (Option.some Jvm.ClassFile.FieldType.int)) ∈ gt := mem_gt 388 (by rfl) rfl
theorem gw_328 : (Jvm.Cond.methodLink "StackCoder$Carrying" (108 : Nat) ({ cls := "StackCoder$Flow", name := "setOf", desc := "(I)I" } : Jvm.MethodName)) ∈ gt := mem_gt 389 (by decide +kernel) rfl
theorem gw_329 : (Jvm.Cond.methodLink "StackCoder$Carrying" (91 : Nat) ({ cls := "StackCoder$Carrying", name := "canWait", desc := "(II)Z" } : Jvm.MethodName)) ∈ gt := mem_gt 390 (by decide +kernel) rfl
theorem gw_331 : (Jvm.Cond.instanceMethod ({ cls := "StackCoder$Carrying", name := "canWait", desc := "(II)Z" } : Jvm.MethodName)) ∈ gt := mem_gt 392 (by decide +kernel) rfl
theorem gw_332 : (Jvm.Cond.code ({ cls := "StackCoder$Carrying", name := "canWait", desc := "(II)Z" } : Jvm.MethodName) prog_2_method_8_code (4 : Nat) (Option.some Jvm.ClassFile.FieldType.boolean)) ∈ gt := mem_gt 393 (by rfl) rfl
theorem gw_333 : (Jvm.Cond.methodLink "StackCoder$Carrying" (74 : Nat) ({ cls := "StackCoder$RegisterCode", name := "operationOf", desc := "(I)I" } : Jvm.MethodName)) ∈ gt := mem_gt 394 (by decide +kernel) rfl
theorem gw_334 : (Jvm.Cond.methodLink "StackCoder$Carrying" (64 : Nat) ({ cls := "StackCoder$Carrying", name := "needWith", desc := "(III)I" } : Jvm.MethodName)) ∈ gt := mem_gt 395 (by decide +kernel) rfl
theorem gw_336 : (Jvm.Cond.instanceMethod ({ cls := "StackCoder$Carrying", name := "needWith", desc := "(III)I" } : Jvm.MethodName)) ∈ gt := mem_gt 397 (by decide +kernel) rfl
theorem gw_337 : (Jvm.Cond.code ({ cls := "StackCoder$Carrying", name := "needWith", desc := "(III)I" } : Jvm.MethodName) prog_2_method_9_code (6 : Nat) (Option.some Jvm.ClassFile.FieldType.int)) ∈ gt := mem_gt 398 (by rfl) rfl
theorem gw_338 : (Jvm.Cond.methodLink "StackCoder$Carrying" (111 : Nat) ({ cls := "StackCoder$Carrying", name := "thingNeed", desc := "(I)I" } : Jvm.MethodName)) ∈ gt := mem_gt 399 (by decide +kernel) rfl
theorem gw_340 : (Jvm.Cond.instanceMethod ({ cls := "StackCoder$Carrying", name := "thingNeed", desc := "(I)I" } : Jvm.MethodName)) ∈ gt := mem_gt 401 (by decide +kernel) rfl
theorem gw_341 : (Jvm.Cond.code ({ cls := "StackCoder$Carrying", name := "thingNeed", desc := "(I)I" } : Jvm.MethodName) prog_2_method_10_code (2 : Nat) (Option.some Jvm.ClassFile.FieldType.int)) ∈ gt := mem_gt 402 (by rfl) rfl
theorem gw_342 : (Jvm.Cond.methodLink "StackCoder$Carrying" (68 : Nat) ({ cls := "StackCoder$RegisterCode", name := "readAsB", desc := "(I)I" } : Jvm.MethodName)) ∈ gt := mem_gt 403 (by decide +kernel) rfl
theorem gw_343 : (Jvm.Cond.methodLink "StackCoder$Carrying" (114 : Nat) ({ cls := "java/lang/Math", name := "max", desc := "(II)I" } : Jvm.MethodName)) ∈ gt := mem_gt 404 (by decide +kernel) rfl
theorem gw_344 : (Jvm.Cond.static ({ cls := "java/lang/Math", name := "max", desc := "(II)I" } : Jvm.MethodName)) ∈ gt := mem_gt 405 (by decide +kernel) rfl
theorem gw_345 : (Jvm.Cond.code ({ cls := "java/lang/Math", name := "max", desc := "(II)I" } : Jvm.MethodName) prog_9_method_65_code (2 : Nat) (Option.some Jvm.ClassFile.FieldType.int)) ∈ gt := mem_gt 406 (by rfl) rfl
theorem gw_346 : (Jvm.Cond.methodLink "StackCoder$Carrying" (53 : Nat) ({ cls := "StackCoder$Carrying", name := "noteTree", desc := "(I)V" } : Jvm.MethodName)) ∈ gt := mem_gt 407 (by decide +kernel) rfl
theorem gw_348 : (Jvm.Cond.instanceMethod ({ cls := "StackCoder$Carrying", name := "noteTree", desc := "(I)V" } : Jvm.MethodName)) ∈ gt := mem_gt 409 (by decide +kernel) rfl
theorem gw_349 : (Jvm.Cond.code ({ cls := "StackCoder$Carrying", name := "noteTree", desc := "(I)V" } : Jvm.MethodName) prog_2_method_4_code (4 : Nat) (Option.none : Option Jvm.ClassFile.FieldType)) ∈ gt := mem_gt 410 (by rfl) rfl
theorem gw_350 : (Jvm.Cond.methodLink "StackCoder$Carrying" (71 : Nat) ({ cls := "StackCoder$Carrying", name := "thingReads", desc := "(II)I" } : Jvm.MethodName)) ∈ gt := mem_gt 411 (by decide +kernel) rfl
theorem gw_352 : (Jvm.Cond.instanceMethod ({ cls := "StackCoder$Carrying", name := "thingReads", desc := "(II)I" } : Jvm.MethodName)) ∈ gt := mem_gt 413 (by decide +kernel) rfl
theorem gw_353 : (Jvm.Cond.code ({ cls := "StackCoder$Carrying", name := "thingReads", desc := "(II)I" } : Jvm.MethodName) prog_2_method_11_code (3 : Nat) (Option.some Jvm.ClassFile.FieldType.int)) ∈ gt := mem_gt 414 (by rfl) rfl
theorem gw_354 : (Jvm.Cond.methodLink "StackCoder$Carrying" (77 : Nat) ({ cls := "StackCoder$Carrying", name := "thingLoads", desc := "(I)Z" } : Jvm.MethodName)) ∈ gt := mem_gt 415 (by decide +kernel) rfl
theorem gw_356 : (Jvm.Cond.instanceMethod ({ cls := "StackCoder$Carrying", name := "thingLoads", desc := "(I)Z" } : Jvm.MethodName)) ∈ gt := mem_gt 417 (by decide +kernel) rfl
theorem gw_357 : (Jvm.Cond.code ({ cls := "StackCoder$Carrying", name := "thingLoads", desc := "(I)Z" } : Jvm.MethodName) prog_2_method_12_code (2 : Nat) (Option.some Jvm.ClassFile.FieldType.boolean)) ∈ gt := mem_gt 418 (by rfl) rfl
theorem gw_358 : (Jvm.Cond.methodLink "StackCoder" (123 : Nat) ({ cls := "StackCoder$StackCode", name := "layOut", desc := "()V" } : Jvm.MethodName)) ∈ gt := mem_gt 419 (by decide +kernel) rfl
theorem gw_359 : (Jvm.Cond.instanceMethod ({ cls := "StackCoder$StackCode", name := "layOut", desc := "()V" } : Jvm.MethodName)) ∈ gt := mem_gt 420 (by decide +kernel) rfl
theorem gw_360 : (Jvm.Cond.selects "StackCoder$StackCode" ({ cls := "StackCoder$StackCode", name := "layOut", desc := "()V" } : Jvm.MethodName) ({ cls := "StackCoder$StackCode", name := "layOut", desc := "()V" } : Jvm.MethodName)) ∈ gt := mem_gt 421 (by decide +kernel) rfl
theorem gw_361 : (Jvm.Cond.code ({ cls := "StackCoder$StackCode", name := "layOut", desc := "()V" } : Jvm.MethodName) prog_6_method_2_code (2 : Nat) (Option.none : Option Jvm.ClassFile.FieldType)) ∈ gt := mem_gt 422 (by rfl) rfl
theorem gw_362 : (Jvm.Cond.methodLink "StackCoder$StackCode" (43 : Nat) ({ cls := "StackCoder$RegisterCode", name := "count", desc := "()I" } : Jvm.MethodName)) ∈ gt := mem_gt 423 (by decide +kernel) rfl
theorem gw_363 : (Jvm.Cond.methodLink "StackCoder$StackCode" (49 : Nat) ({ cls := "StackCoder$StackCode", name := "widthOf", desc := "(I)I" } : Jvm.MethodName)) ∈ gt := mem_gt 424 (by decide +kernel) rfl
theorem gw_365 : (Jvm.Cond.instanceMethod ({ cls := "StackCoder$StackCode", name := "widthOf", desc := "(I)I" } : Jvm.MethodName)) ∈ gt := mem_gt 426 (by decide +kernel) rfl
theorem gw_366 : (Jvm.Cond.code ({ cls := "StackCoder$StackCode", name := "widthOf", desc := "(I)I" } : Jvm.MethodName) prog_6_method_3_code (3 : Nat) (Option.some Jvm.ClassFile.FieldType.int)) ∈ gt := mem_gt 427 (by rfl) rfl
theorem gw_367 : (Jvm.Cond.methodLink "StackCoder$StackCode" (67 : Nat) ({ cls := "StackCoder$RegisterCode", name := "readAsA", desc := "(I)I" } : Jvm.MethodName)) ∈ gt := mem_gt 428 (by decide +kernel) rfl
theorem gw_368 : (Jvm.Cond.methodLink "StackCoder$StackCode" (70 : Nat) ({ cls := "StackCoder$Carrying", name := "inForA", desc := "(I)I" } : Jvm.MethodName)) ∈ gt := mem_gt 429 (by decide +kernel) rfl
theorem gw_369 : (Jvm.Cond.instanceMethod ({ cls := "StackCoder$Carrying", name := "inForA", desc := "(I)I" } : Jvm.MethodName)) ∈ gt := mem_gt 430 (by decide +kernel) rfl
theorem gw_370 : (Jvm.Cond.selects "StackCoder$Carrying" ({ cls := "StackCoder$Carrying", name := "inForA", desc := "(I)I" } : Jvm.MethodName) ({ cls := "StackCoder$Carrying", name := "inForA", desc := "(I)I" } : Jvm.MethodName)) ∈ gt := mem_gt 431 (by decide +kernel) rfl
theorem gw_371 : (Jvm.Cond.code ({ cls := "StackCoder$Carrying", name := "inForA", desc := "(I)I" } : Jvm.MethodName) prog_2_method_15_code (2 : Nat) (Option.some Jvm.ClassFile.FieldType.int)) ∈ gt := mem_gt 432 (by rfl) rfl
theorem gw_372 : (Jvm.Cond.methodLink "StackCoder$StackCode" (73 : Nat) ({ cls := "StackCoder$StackCode", name := "thingWidth", desc := "(II)I" } : Jvm.MethodName)) ∈ gt := mem_gt 433 (by decide +kernel) rfl
theorem gw_374 : (Jvm.Cond.instanceMethod ({ cls := "StackCoder$StackCode", name := "thingWidth", desc := "(II)I" } : Jvm.MethodName)) ∈ gt := mem_gt 435 (by decide +kernel) rfl
theorem gw_375 : (Jvm.Cond.code ({ cls := "StackCoder$StackCode", name := "thingWidth", desc := "(II)I" } : Jvm.MethodName) prog_6_method_4_code (3 : Nat) (Option.some Jvm.ClassFile.FieldType.int)) ∈ gt := mem_gt 436 (by rfl) rfl
theorem gw_376 : (Jvm.Cond.methodLink "StackCoder$StackCode" (77 : Nat) ({ cls := "StackCoder$RegisterCode", name := "readAsB", desc := "(I)I" } : Jvm.MethodName)) ∈ gt := mem_gt 437 (by decide +kernel) rfl
theorem gw_377 : (Jvm.Cond.methodLink "StackCoder$StackCode" (80 : Nat) ({ cls := "StackCoder$Carrying", name := "inForB", desc := "(I)I" } : Jvm.MethodName)) ∈ gt := mem_gt 438 (by decide +kernel) rfl
theorem gw_378 : (Jvm.Cond.instanceMethod ({ cls := "StackCoder$Carrying", name := "inForB", desc := "(I)I" } : Jvm.MethodName)) ∈ gt := mem_gt 439 (by decide +kernel) rfl
theorem gw_379 : (Jvm.Cond.selects "StackCoder$Carrying" ({ cls := "StackCoder$Carrying", name := "inForB", desc := "(I)I" } : Jvm.MethodName) ({ cls := "StackCoder$Carrying", name := "inForB", desc := "(I)I" } : Jvm.MethodName)) ∈ gt := mem_gt 440 (by decide +kernel) rfl
theorem gw_380 : (Jvm.Cond.code ({ cls := "StackCoder$Carrying", name := "inForB", desc := "(I)I" } : Jvm.MethodName) prog_2_method_16_code (2 : Nat) (Option.some Jvm.ClassFile.FieldType.int)) ∈ gt := mem_gt 441 (by rfl) rfl
theorem gw_381 : (Jvm.Cond.methodLink "StackCoder$StackCode" (83 : Nat) ({ cls := "StackCoder$StackCode", name := "needsSwap", desc := "(I)Z" } : Jvm.MethodName)) ∈ gt := mem_gt 442 (by decide +kernel) rfl
theorem gw_383 : (Jvm.Cond.instanceMethod ({ cls := "StackCoder$StackCode", name := "needsSwap", desc := "(I)Z" } : Jvm.MethodName)) ∈ gt := mem_gt 444 (by decide +kernel) rfl
theorem gw_384 : (Jvm.Cond.code ({ cls := "StackCoder$StackCode", name := "needsSwap", desc := "(I)Z" } : Jvm.MethodName) prog_6_method_5_code (3 : Nat) (Option.some Jvm.ClassFile.FieldType.boolean)) ∈ gt := mem_gt 445 (by rfl) rfl
theorem gw_385 : (Jvm.Cond.methodLink "StackCoder$StackCode" (89 : Nat) ({ cls := "StackCoder$RegisterCode", name := "operationOf", desc := "(I)I" } : Jvm.MethodName)) ∈ gt := mem_gt 446 (by decide +kernel) rfl
theorem gw_386 : (Jvm.Cond.methodLink "StackCoder$StackCode" (95 : Nat) ({ cls := "StackCoder$Carrying", name := "takesBFirst", desc := "(I)Z" } : Jvm.MethodName)) ∈ gt := mem_gt 447 (by decide +kernel) rfl
theorem gw_387 : (Jvm.Cond.instanceMethod ({ cls := "StackCoder$Carrying", name := "takesBFirst", desc := "(I)Z" } : Jvm.MethodName)) ∈ gt := mem_gt 448 (by decide +kernel) rfl
theorem gw_388 : (Jvm.Cond.selects "StackCoder$Carrying" ({ cls := "StackCoder$Carrying", name := "takesBFirst", desc := "(I)Z" } : Jvm.MethodName) ({ cls := "StackCoder$Carrying", name := "takesBFirst", desc := "(I)Z" } : Jvm.MethodName)) ∈ gt := mem_gt 449 (by decide +kernel) rfl
theorem gw_389 : (Jvm.Cond.code ({ cls := "StackCoder$Carrying", name := "takesBFirst", desc := "(I)Z" } : Jvm.MethodName) prog_2_method_17_code (2 : Nat) (Option.some Jvm.ClassFile.FieldType.boolean)) ∈ gt := mem_gt 450 (by rfl) rfl
theorem gw_390 : (Jvm.Cond.fieldLink "StackCoder$StackCode" (86 : Nat) "StackCoder$StackCode" "OWN" "[I") ∈ gt := mem_gt 451 (by decide +kernel) rfl
theorem gw_392 : (Jvm.Cond.methodLink "StackCoder$StackCode" (92 : Nat) ({ cls := "StackCoder$StackCode", name := "leavesValue", desc := "(I)Z" } : Jvm.MethodName)) ∈ gt := mem_gt 453 (by decide +kernel) rfl
theorem gw_394 : (Jvm.Cond.instanceMethod ({ cls := "StackCoder$StackCode", name := "leavesValue", desc := "(I)Z" } : Jvm.MethodName)) ∈ gt := mem_gt 455 (by decide +kernel) rfl
theorem gw_395 : (Jvm.Cond.code ({ cls := "StackCoder$StackCode", name := "leavesValue", desc := "(I)Z" } : Jvm.MethodName) prog_6_method_6_code (2 : Nat) (Option.some Jvm.ClassFile.FieldType.boolean)) ∈ gt := mem_gt 456 (by rfl) rfl
theorem gw_396 : (Jvm.Cond.methodLink "StackCoder$StackCode" (98 : Nat) ({ cls := "StackCoder$RegisterCode", name := "writtenBy", desc := "(I)I" } : Jvm.MethodName)) ∈ gt := mem_gt 457 (by decide +kernel) rfl
theorem gw_397 : (Jvm.Cond.methodLink "StackCoder$StackCode" (53 : Nat) ({ cls := "StackCoder$Carrying", name := "isCarried", desc := "(I)Z" } : Jvm.MethodName)) ∈ gt := mem_gt 458 (by decide +kernel) rfl
theorem gw_398 : (Jvm.Cond.instanceMethod ({ cls := "StackCoder$Carrying", name := "isCarried", desc := "(I)Z" } : Jvm.MethodName)) ∈ gt := mem_gt 459 (by decide +kernel) rfl
theorem gw_399 : (Jvm.Cond.selects "StackCoder$Carrying" ({ cls := "StackCoder$Carrying", name := "isCarried", desc := "(I)Z" } : Jvm.MethodName) ({ cls := "StackCoder$Carrying", name := "isCarried", desc := "(I)Z" } : Jvm.MethodName)) ∈ gt := mem_gt 460 (by decide +kernel) rfl
theorem gw_400 : (Jvm.Cond.code ({ cls := "StackCoder$Carrying", name := "isCarried", desc := "(I)Z" } : Jvm.MethodName) prog_2_method_13_code (2 : Nat) (Option.some Jvm.ClassFile.FieldType.boolean)) ∈ gt := mem_gt 461 (by rfl) rfl
theorem gw_401 : (Jvm.Cond.methodLink "StackCoder$StackCode" (59 : Nat) ({ cls := "StackCoder$StackCode", name := "writeInstruction", desc := "(I)V" } : Jvm.MethodName)) ∈ gt := mem_gt 462 (by decide +kernel) rfl
theorem gw_403 : (Jvm.Cond.instanceMethod ({ cls := "StackCoder$StackCode", name := "writeInstruction", desc := "(I)V" } : Jvm.MethodName)) ∈ gt := mem_gt 464 (by decide +kernel) rfl
theorem gw_404 : (Jvm.Cond.code ({ cls := "StackCoder$StackCode", name := "writeInstruction", desc := "(I)V" } : Jvm.MethodName) prog_6_method_7_code (4 : Nat) (Option.none : Option Jvm.ClassFile.FieldType)) ∈ gt := mem_gt 465 (by rfl) rfl
theorem gw_405 : (Jvm.Cond.methodLink "StackCoder$StackCode" (101 : Nat) ({ cls := "StackCoder$StackCode", name := "writeThings", desc := "(II)I" } : Jvm.MethodName)) ∈ gt := mem_gt 466 (by decide +kernel) rfl
theorem gw_407 : (Jvm.Cond.instanceMethod ({ cls := "StackCoder$StackCode", name := "writeThings", desc := "(II)I" } : Jvm.MethodName)) ∈ gt := mem_gt 468 (by decide +kernel) rfl
theorem gw_408 : (Jvm.Cond.code ({ cls := "StackCoder$StackCode", name := "writeThings", desc := "(II)I" } : Jvm.MethodName) prog_6_method_8_code (7 : Nat) (Option.some Jvm.ClassFile.FieldType.int)) ∈ gt := mem_gt 469 (by rfl) rfl
theorem gw_409 : (Jvm.Cond.methodLink "StackCoder$StackCode" (111 : Nat) ({ cls := "StackCoder$StackCode", name := "writeThing", desc := "(III)I" } : Jvm.MethodName)) ∈ gt := mem_gt 470 (by decide +kernel) rfl
theorem gw_411 : (Jvm.Cond.instanceMethod ({ cls := "StackCoder$StackCode", name := "writeThing", desc := "(III)I" } : Jvm.MethodName)) ∈ gt := mem_gt 472 (by decide +kernel) rfl
theorem gw_412 : (Jvm.Cond.code ({ cls := "StackCoder$StackCode", name := "writeThing", desc := "(III)I" } : Jvm.MethodName) prog_6_method_9_code (4 : Nat) (Option.some Jvm.ClassFile.FieldType.int)) ∈ gt := mem_gt 473 (by rfl) rfl
theorem gw_413 : (Jvm.Cond.methodLink "StackCoder$StackCode" (63 : Nat) ({ cls := "StackCoder$StackCode", name := "write", desc := "(III)I" } : Jvm.MethodName)) ∈ gt := mem_gt 474 (by decide +kernel) rfl
theorem gw_415 : (Jvm.Cond.instanceMethod ({ cls := "StackCoder$StackCode", name := "write", desc := "(III)I" } : Jvm.MethodName)) ∈ gt := mem_gt 476 (by decide +kernel) rfl
theorem gw_416 : (Jvm.Cond.code ({ cls := "StackCoder$StackCode", name := "write", desc := "(III)I" } : Jvm.MethodName) prog_6_method_13_code (4 : Nat) (Option.some Jvm.ClassFile.FieldType.int)) ∈ gt := mem_gt 477 (by rfl) rfl
theorem gw_417 : (Jvm.Cond.methodLink "StackCoder$StackCode" (104 : Nat) ({ cls := "StackCoder$StackCode", name := "ownNumber", desc := "(I)I" } : Jvm.MethodName)) ∈ gt := mem_gt 478 (by decide +kernel) rfl
theorem gw_419 : (Jvm.Cond.instanceMethod ({ cls := "StackCoder$StackCode", name := "ownNumber", desc := "(I)I" } : Jvm.MethodName)) ∈ gt := mem_gt 480 (by decide +kernel) rfl
theorem gw_420 : (Jvm.Cond.code ({ cls := "StackCoder$StackCode", name := "ownNumber", desc := "(I)I" } : Jvm.MethodName) prog_6_method_10_code (2 : Nat) (Option.some Jvm.ClassFile.FieldType.int)) ∈ gt := mem_gt 481 (by rfl) rfl
