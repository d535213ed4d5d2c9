/-! what the constructors stand on: words of the tables, decoded rows, default values -/
theorem ju_0 : ∀ x ∈ u_ws RX0 TX0 3, x ∈ jTs := by
  obtain ⟨C, T, N, ty, h1, -, h3, -⟩ := jcl_0
  have h1 : some (RX0, TX0, 3) = some (C, T, N) := h1
  cases h1
  exact h3
theorem dv_0 : ∀ j, j < 3 → defaultValue (tyX0 j) = vp_V [.null, .int 0, .int 0] j := by decide +kernel
theorem ju_1 : ∀ x ∈ u_ws RX1 TX1 9, x ∈ jTs := by
  obtain ⟨C, T, N, ty, h1, -, h3, -⟩ := jcl_1
  have h1 : some (RX1, TX1, 9) = some (C, T, N) := h1
  cases h1
  exact h3
theorem dv_1 : ∀ j, j < 9 → defaultValue (tyX1 j) = vp_V [.null, .null, .null, .null, .null, .null, .null, .int 0, .int 0] j := by decide +kernel
theorem ju_2 : ∀ x ∈ u_ws RX2 TX2 4, x ∈ jTs := by
  obtain ⟨C, T, N, ty, h1, -, h3, -⟩ := jcl_2
  have h1 : some (RX2, TX2, 4) = some (C, T, N) := h1
  cases h1
  exact h3
theorem dv_2 : ∀ j, j < 4 → defaultValue (tyX2 j) = vp_V [.null, .int 0, .int 0, .int 0] j := by decide +kernel
theorem ju_3 : ∀ x ∈ u_ws RX3 TX3 2, x ∈ jTs := by
  obtain ⟨C, T, N, ty, h1, -, h3, -⟩ := jcl_3
  have h1 : some (RX3, TX3, 2) = some (C, T, N) := h1
  cases h1
  exact h3
theorem dv_3 : ∀ j, j < 2 → defaultValue (tyX3 j) = vp_V [.null, .null] j := by decide +kernel
theorem ju_4 : ∀ x ∈ u_ws RX4 TX4 3, x ∈ jTs := by
  obtain ⟨C, T, N, ty, h1, -, h3, -⟩ := jcl_4
  have h1 : some (RX4, TX4, 3) = some (C, T, N) := h1
  cases h1
  exact h3
theorem dv_4 : ∀ j, j < 3 → defaultValue (tyX4 j) = vp_V [.null, .null, .int 0] j := by decide +kernel
theorem ju_5 : ∀ x ∈ u_ws RX5 TX5 8, x ∈ jTs := by
  obtain ⟨C, T, N, ty, h1, -, h3, -⟩ := jcl_5
  have h1 : some (RX5, TX5, 8) = some (C, T, N) := h1
  cases h1
  exact h3
theorem dv_5 : ∀ j, j < 8 → defaultValue (tyX5 j) = vp_V [.null, .null, .null, .null, .int 0, .int 0, .int 0, .int 0] j := by decide +kernel
theorem ju_6 : ∀ x ∈ u_ws RX6 TX6 3, x ∈ jTs := by
  obtain ⟨C, T, N, ty, h1, -, h3, -⟩ := jcl_6
  have h1 : some (RX6, TX6, 3) = some (C, T, N) := h1
  cases h1
  exact h3
theorem dv_6 : ∀ j, j < 3 → defaultValue (tyX6 j) = vp_V [.int 0, .int 0, .int 0] j := by decide +kernel
theorem ju_7 : ∀ x ∈ u_ws RX7 TX7 2, x ∈ jTs := by
  obtain ⟨C, T, N, ty, h1, -, h3, -⟩ := jcl_7
  have h1 : some (RX7, TX7, 2) = some (C, T, N) := h1
  cases h1
  exact h3
theorem dv_7 : ∀ j, j < 2 → defaultValue (tyX7 j) = vp_V [.null, .int 0] j := by decide +kernel
theorem ju_8 : ∀ x ∈ u_ws RX8 TX8 11, x ∈ jTs := by
  obtain ⟨C, T, N, ty, h1, -, h3, -⟩ := jcl_8
  have h1 : some (RX8, TX8, 11) = some (C, T, N) := h1
  cases h1
  exact h3
theorem dv_8 : ∀ j, j < 11 → defaultValue (tyX8 j) = vp_V [.null, .null, .null, .null, .null, .null, .int 0, .int 0, .int 0, .int 0, .int 0] j := by decide +kernel
theorem ju_9 : ∀ x ∈ u_ws RX9 TX9 7, x ∈ jTs := by
  obtain ⟨C, T, N, ty, h1, -, h3, -⟩ := jcl_9
  have h1 : some (RX9, TX9, 7) = some (C, T, N) := h1
  cases h1
  exact h3
theorem dv_9 : ∀ j, j < 7 → defaultValue (tyX9 j) = vp_V [.null, .null, .null, .int 0, .int 0, .int 0, .int 0] j := by decide +kernel
theorem ju_10 : ∀ x ∈ u_ws RX10 TX10 2, x ∈ jTs := by
  obtain ⟨C, T, N, ty, h1, -, h3, -⟩ := jcl_10
  have h1 : some (RX10, TX10, 2) = some (C, T, N) := h1
  cases h1
  exact h3
theorem dv_10 : ∀ j, j < 2 → defaultValue (tyX10 j) = vp_V [.null, .int 0] j := by decide +kernel
theorem ju_11 : ∀ x ∈ u_ws RX11 TX11 16, x ∈ jTs := by
  obtain ⟨C, T, N, ty, h1, -, h3, -⟩ := jcl_11
  have h1 : some (RX11, TX11, 16) = some (C, T, N) := h1
  cases h1
  exact h3
theorem dv_11 : ∀ j, j < 16 → defaultValue (tyX11 j) = vp_V [.null, .null, .null, .null, .null, .null, .null, .null, .null, .null, .null, .null, .null, .null, .null, .null] j := by decide +kernel
theorem ju_12 : ∀ x ∈ u_ws RX12 TX12 53, x ∈ jTs := by
  obtain ⟨C, T, N, ty, h1, -, h3, -⟩ := jcl_12
  have h1 : some (RX12, TX12, 53) = some (C, T, N) := h1
  cases h1
  exact h3
theorem dv_12 : ∀ j, j < 53 → defaultValue (tyX12 j) = vp_V [.null, .int 0, .null, .null, .null, .null, .int 0, .null, .null, .int 0, .int 0, .int 0, .null, .int 0, .null, .null, .null, .int 0, .null, .int 0, .int 0, .null, .int 0, .int 0, .int 0, .int 0, .null, .int 0, .int 0, .int 0, .int 0, .int 0, .int 0, .int 0, .int 0, .null, .null, .null, .null, .int 0, .null, .null, .null, .null, .null, .null, .null, .null, .null, .int 0, .null, .null, .null] j := by decide +kernel
theorem kw_106 : ((Jvm.Cond.initialized "NextMustShare$Text") : Jvm.Cond) ∈ jTs := jTs_ix 106 (by decide +kernel) rfl
theorem kw_107 : ((Jvm.Cond.initialized "NextMustShare$Larder") : Jvm.Cond) ∈ jTs := jTs_ix 107 (by decide +kernel) rfl
theorem kw_108 : ((Jvm.Cond.initialized "NextMustShare$Reader") : Jvm.Cond) ∈ jTs := jTs_ix 108 (by decide +kernel) rfl
theorem kw_109 : ((Jvm.Cond.initialized "NextMustShare$Taste") : Jvm.Cond) ∈ jTs := jTs_ix 109 (by decide +kernel) rfl
theorem kw_110 : ((Jvm.Cond.initialized "NextMustShare$Law") : Jvm.Cond) ∈ jTs := jTs_ix 110 (by decide +kernel) rfl
theorem kw_111 : ((Jvm.Cond.initialized "java/util/Arrays") : Jvm.Cond) ∈ jTs := jTs_ix 111 (by decide +kernel) rfl
theorem kw_112 : ((Jvm.Cond.initialized "NextMustShare$Banquet") : Jvm.Cond) ∈ jTs := jTs_ix 112 (by decide +kernel) rfl
theorem kw_113 : ((Jvm.Cond.initialized "NextMustShare$Menu") : Jvm.Cond) ∈ jTs := jTs_ix 113 (by decide +kernel) rfl
theorem kw_114 : ((Jvm.Cond.initialized "NextMustShare$Steps") : Jvm.Cond) ∈ jTs := jTs_ix 114 (by decide +kernel) rfl
theorem kw_115 : ((Jvm.Cond.initialized "NextMustShare$Plan") : Jvm.Cond) ∈ jTs := jTs_ix 115 (by decide +kernel) rfl
theorem kw_116 : ((Jvm.Cond.initialized "NextMustShare$Match") : Jvm.Cond) ∈ jTs := jTs_ix 116 (by decide +kernel) rfl
theorem kw_117 : ((Jvm.Cond.initialized "NextMustShare$Row") : Jvm.Cond) ∈ jTs := jTs_ix 117 (by decide +kernel) rfl
theorem kw_131 : ((Jvm.Cond.methodLink "NextMustShare" (3 : Nat) ({ cls := "java/lang/Object", name := "<init>", desc := "()V" } : Jvm.MethodName)) : Jvm.Cond) ∈ jTs := jTs_ix 131 (by decide +kernel) rfl
theorem kw_132 : ((Jvm.Cond.instanceMethod ({ cls := "java/lang/Object", name := "<init>", desc := "()V" } : Jvm.MethodName)) : Jvm.Cond) ∈ jTs := jTs_ix 132 (by decide +kernel) rfl
theorem kw_133 : ((Jvm.Cond.code ({ cls := "java/lang/Object", name := "<init>", desc := "()V" } : Jvm.MethodName) object_method_1_code (1 : Nat) (Option.none : Option Jvm.ClassFile.FieldType)) : Jvm.Cond) ∈ jTs := jTs_ix 133 (by decide +kernel) rfl
theorem kw_134 : ((Jvm.Cond.classLink "NextMustShare" (9 : Nat) "NextMustShare$Text") : Jvm.Cond) ∈ jTs := jTs_ix 134 (by decide +kernel) rfl
theorem kw_135 : ((Jvm.Cond.instantiable "NextMustShare$Text" (2 : Nat)) : Jvm.Cond) ∈ jTs := jTs_ix 135 (by decide +kernel) rfl
theorem kw_137 : ((Jvm.Cond.instanceMethod ({ cls := "NextMustShare$Text", name := "<init>", desc := "()V" } : Jvm.MethodName)) : Jvm.Cond) ∈ jTs := jTs_ix 137 (by decide +kernel) rfl
theorem kw_138 : ((Jvm.Cond.code ({ cls := "NextMustShare$Text", name := "<init>", desc := "()V" } : Jvm.MethodName) prog_12_method_1_code (1 : Nat) (Option.none : Option Jvm.ClassFile.FieldType)) : Jvm.Cond) ∈ jTs := jTs_ix 138 (by decide +kernel) rfl
theorem kw_139 : ((Jvm.Cond.methodLink "NextMustShare$Text" (3 : Nat) ({ cls := "java/lang/Object", name := "<init>", desc := "()V" } : Jvm.MethodName)) : Jvm.Cond) ∈ jTs := jTs_ix 139 (by decide +kernel) rfl
theorem kw_140 : ((Jvm.Cond.fieldLink "NextMustShare$Text" (9 : Nat) "NextMustShare$Text" "signs" "[I") : Jvm.Cond) ∈ jTs := jTs_ix 140 (by decide +kernel) rfl
theorem kw_147 : ((Jvm.Cond.arrayClass Jvm.ClassFile.FieldType.int) : Jvm.Cond) ∈ jTs := jTs_ix 147 (by decide +kernel) rfl
theorem kw_148 : ((Jvm.Cond.classLink "NextMustShare" (16 : Nat) "NextMustShare$Larder") : Jvm.Cond) ∈ jTs := jTs_ix 148 (by decide +kernel) rfl
theorem kw_149 : ((Jvm.Cond.instantiable "NextMustShare$Larder" (9 : Nat)) : Jvm.Cond) ∈ jTs := jTs_ix 149 (by decide +kernel) rfl
theorem kw_151 : ((Jvm.Cond.instanceMethod ({ cls := "NextMustShare$Larder", name := "<init>", desc := "()V" } : Jvm.MethodName)) : Jvm.Cond) ∈ jTs := jTs_ix 151 (by decide +kernel) rfl
theorem kw_152 : ((Jvm.Cond.code ({ cls := "NextMustShare$Larder", name := "<init>", desc := "()V" } : Jvm.MethodName) prog_3_method_1_code (1 : Nat) (Option.none : Option Jvm.ClassFile.FieldType)) : Jvm.Cond) ∈ jTs := jTs_ix 152 (by decide +kernel) rfl
theorem kw_153 : ((Jvm.Cond.methodLink "NextMustShare$Larder" (3 : Nat) ({ cls := "java/lang/Object", name := "<init>", desc := "()V" } : Jvm.MethodName)) : Jvm.Cond) ∈ jTs := jTs_ix 153 (by decide +kernel) rfl
theorem kw_154 : ((Jvm.Cond.fieldLink "NextMustShare$Larder" (9 : Nat) "NextMustShare$Larder" "stuffs" "[I") : Jvm.Cond) ∈ jTs := jTs_ix 154 (by decide +kernel) rfl
theorem kw_155 : ((Jvm.Cond.fieldLink "NextMustShare$Larder" (15 : Nat) "NextMustShare$Larder" "costs" "[I") : Jvm.Cond) ∈ jTs := jTs_ix 155 (by decide +kernel) rfl
theorem kw_156 : ((Jvm.Cond.fieldLink "NextMustShare$Larder" (18 : Nat) "NextMustShare$Larder" "heats" "[I") : Jvm.Cond) ∈ jTs := jTs_ix 156 (by decide +kernel) rfl
theorem kw_157 : ((Jvm.Cond.fieldLink "NextMustShare$Larder" (21 : Nat) "NextMustShare$Larder" "hours" "[I") : Jvm.Cond) ∈ jTs := jTs_ix 157 (by decide +kernel) rfl
theorem kw_158 : ((Jvm.Cond.fieldLink "NextMustShare$Larder" (24 : Nat) "NextMustShare$Larder" "loves" "[I") : Jvm.Cond) ∈ jTs := jTs_ix 158 (by decide +kernel) rfl
theorem kw_159 : ((Jvm.Cond.fieldLink "NextMustShare$Larder" (27 : Nat) "NextMustShare$Larder" "bars" "[I") : Jvm.Cond) ∈ jTs := jTs_ix 159 (by decide +kernel) rfl
theorem kw_160 : ((Jvm.Cond.fieldLink "NextMustShare$Larder" (30 : Nat) "NextMustShare$Larder" "holders" "[I") : Jvm.Cond) ∈ jTs := jTs_ix 160 (by decide +kernel) rfl
theorem kw_182 : ((Jvm.Cond.classLink "NextMustShare" (23 : Nat) "NextMustShare$Reader") : Jvm.Cond) ∈ jTs := jTs_ix 182 (by decide +kernel) rfl
theorem kw_183 : ((Jvm.Cond.instantiable "NextMustShare$Reader" (3 : Nat)) : Jvm.Cond) ∈ jTs := jTs_ix 183 (by decide +kernel) rfl
theorem kw_185 : ((Jvm.Cond.instanceMethod ({ cls := "NextMustShare$Reader", name := "<init>", desc := "()V" } : Jvm.MethodName)) : Jvm.Cond) ∈ jTs := jTs_ix 185 (by decide +kernel) rfl
theorem kw_186 : ((Jvm.Cond.code ({ cls := "NextMustShare$Reader", name := "<init>", desc := "()V" } : Jvm.MethodName) prog_8_method_1_code (1 : Nat) (Option.none : Option Jvm.ClassFile.FieldType)) : Jvm.Cond) ∈ jTs := jTs_ix 186 (by decide +kernel) rfl
theorem kw_187 : ((Jvm.Cond.methodLink "NextMustShare$Reader" (3 : Nat) ({ cls := "java/lang/Object", name := "<init>", desc := "()V" } : Jvm.MethodName)) : Jvm.Cond) ∈ jTs := jTs_ix 187 (by decide +kernel) rfl
theorem kw_198 : ((Jvm.Cond.classLink "NextMustShare" (30 : Nat) "NextMustShare$Taste") : Jvm.Cond) ∈ jTs := jTs_ix 198 (by decide +kernel) rfl
theorem kw_199 : ((Jvm.Cond.instantiable "NextMustShare$Taste" (7 : Nat)) : Jvm.Cond) ∈ jTs := jTs_ix 199 (by decide +kernel) rfl
theorem kw_201 : ((Jvm.Cond.instanceMethod ({ cls := "NextMustShare$Taste", name := "<init>", desc := "()V" } : Jvm.MethodName)) : Jvm.Cond) ∈ jTs := jTs_ix 201 (by decide +kernel) rfl
theorem kw_202 : ((Jvm.Cond.code ({ cls := "NextMustShare$Taste", name := "<init>", desc := "()V" } : Jvm.MethodName) prog_11_method_1_code (1 : Nat) (Option.none : Option Jvm.ClassFile.FieldType)) : Jvm.Cond) ∈ jTs := jTs_ix 202 (by decide +kernel) rfl
theorem kw_203 : ((Jvm.Cond.methodLink "NextMustShare$Taste" (3 : Nat) ({ cls := "java/lang/Object", name := "<init>", desc := "()V" } : Jvm.MethodName)) : Jvm.Cond) ∈ jTs := jTs_ix 203 (by decide +kernel) rfl
theorem kw_204 : ((Jvm.Cond.fieldLink "NextMustShare$Taste" (9 : Nat) "NextMustShare$Taste" "codes" "[I") : Jvm.Cond) ∈ jTs := jTs_ix 204 (by decide +kernel) rfl
theorem kw_205 : ((Jvm.Cond.fieldLink "NextMustShare$Taste" (13 : Nat) "NextMustShare$Taste" "draft" "[I") : Jvm.Cond) ∈ jTs := jTs_ix 205 (by decide +kernel) rfl
theorem kw_206 : ((Jvm.Cond.fieldLink "NextMustShare$Taste" (16 : Nat) "NextMustShare$Taste" "stack" "[I") : Jvm.Cond) ∈ jTs := jTs_ix 206 (by decide +kernel) rfl
theorem kw_226 : ((Jvm.Cond.classLink "NextMustShare" (37 : Nat) "NextMustShare$Law") : Jvm.Cond) ∈ jTs := jTs_ix 226 (by decide +kernel) rfl
theorem kw_227 : ((Jvm.Cond.instantiable "NextMustShare$Law" (4 : Nat)) : Jvm.Cond) ∈ jTs := jTs_ix 227 (by decide +kernel) rfl
theorem kw_228 : ((Jvm.Cond.methodLink "NextMustShare" (39 : Nat) ({ cls := "NextMustShare$Law", name := "<init>", desc := "()V" } : Jvm.MethodName)) : Jvm.Cond) ∈ jTs := jTs_ix 228 (by decide +kernel) rfl
theorem kw_229 : ((Jvm.Cond.instanceMethod ({ cls := "NextMustShare$Law", name := "<init>", desc := "()V" } : Jvm.MethodName)) : Jvm.Cond) ∈ jTs := jTs_ix 229 (by decide +kernel) rfl
theorem kw_230 : ((Jvm.Cond.code ({ cls := "NextMustShare$Law", name := "<init>", desc := "()V" } : Jvm.MethodName) prog_4_method_1_code (1 : Nat) (Option.none : Option Jvm.ClassFile.FieldType)) : Jvm.Cond) ∈ jTs := jTs_ix 230 (by decide +kernel) rfl
theorem kw_231 : ((Jvm.Cond.methodLink "NextMustShare$Law" (3 : Nat) ({ cls := "java/lang/Object", name := "<init>", desc := "()V" } : Jvm.MethodName)) : Jvm.Cond) ∈ jTs := jTs_ix 231 (by decide +kernel) rfl
theorem kw_232 : ((Jvm.Cond.methodLink "NextMustShare$Law" (22 : Nat) ({ cls := "java/util/Arrays", name := "fill", desc := "([II)V" } : Jvm.MethodName)) : Jvm.Cond) ∈ jTs := jTs_ix 232 (by decide +kernel) rfl
theorem kw_233 : ((Jvm.Cond.static ({ cls := "java/util/Arrays", name := "fill", desc := "([II)V" } : Jvm.MethodName)) : Jvm.Cond) ∈ jTs := jTs_ix 233 (by decide +kernel) rfl
theorem kw_234 : ((Jvm.Cond.code ({ cls := "java/util/Arrays", name := "fill", desc := "([II)V" } : Jvm.MethodName) prog_22_method_103_code (4 : Nat) (Option.none : Option Jvm.ClassFile.FieldType)) : Jvm.Cond) ∈ jTs := jTs_ix 234 (by decide +kernel) rfl
theorem kw_235 : ((Jvm.Cond.fieldLink "NextMustShare$Law" (9 : Nat) "NextMustShare$Law" "stores" "[I") : Jvm.Cond) ∈ jTs := jTs_ix 235 (by decide +kernel) rfl
theorem kw_236 : ((Jvm.Cond.fieldLink "NextMustShare$Law" (15 : Nat) "NextMustShare$Law" "share" "I") : Jvm.Cond) ∈ jTs := jTs_ix 236 (by decide +kernel) rfl
theorem kw_237 : ((Jvm.Cond.fieldLink "NextMustShare$Law" (19 : Nat) "NextMustShare$Law" "times" "I") : Jvm.Cond) ∈ jTs := jTs_ix 237 (by decide +kernel) rfl
theorem kw_248 : ((Jvm.Cond.classLink "NextMustShare" (47 : Nat) "NextMustShare$Banquet") : Jvm.Cond) ∈ jTs := jTs_ix 248 (by decide +kernel) rfl
theorem kw_249 : ((Jvm.Cond.instantiable "NextMustShare$Banquet" (3 : Nat)) : Jvm.Cond) ∈ jTs := jTs_ix 249 (by decide +kernel) rfl
theorem kw_251 : ((Jvm.Cond.instanceMethod ({ cls := "NextMustShare$Banquet", name := "<init>", desc := "()V" } : Jvm.MethodName)) : Jvm.Cond) ∈ jTs := jTs_ix 251 (by decide +kernel) rfl
theorem kw_252 : ((Jvm.Cond.code ({ cls := "NextMustShare$Banquet", name := "<init>", desc := "()V" } : Jvm.MethodName) prog_2_method_1_code (1 : Nat) (Option.none : Option Jvm.ClassFile.FieldType)) : Jvm.Cond) ∈ jTs := jTs_ix 252 (by decide +kernel) rfl
theorem kw_253 : ((Jvm.Cond.methodLink "NextMustShare$Banquet" (3 : Nat) ({ cls := "java/lang/Object", name := "<init>", desc := "()V" } : Jvm.MethodName)) : Jvm.Cond) ∈ jTs := jTs_ix 253 (by decide +kernel) rfl
theorem kw_254 : ((Jvm.Cond.fieldLink "NextMustShare$Banquet" (9 : Nat) "NextMustShare$Banquet" "row" "[I") : Jvm.Cond) ∈ jTs := jTs_ix 254 (by decide +kernel) rfl
theorem kw_264 : ((Jvm.Cond.classLink "NextMustShare" (54 : Nat) "NextMustShare$Menu") : Jvm.Cond) ∈ jTs := jTs_ix 264 (by decide +kernel) rfl
theorem kw_266 : ((Jvm.Cond.instantiable "NextMustShare$Menu" (3 : Nat)) : Jvm.Cond) ∈ jTs := jTs_ix 266 (by decide +kernel) rfl
theorem kw_267 : ((Jvm.Cond.methodLink "NextMustShare" (60 : Nat) ({ cls := "NextMustShare$Menu", name := "<init>", desc := "(I)V" } : Jvm.MethodName)) : Jvm.Cond) ∈ jTs := jTs_ix 267 (by decide +kernel) rfl
theorem kw_268 : ((Jvm.Cond.instanceMethod ({ cls := "NextMustShare$Menu", name := "<init>", desc := "(I)V" } : Jvm.MethodName)) : Jvm.Cond) ∈ jTs := jTs_ix 268 (by decide +kernel) rfl
theorem kw_269 : ((Jvm.Cond.code ({ cls := "NextMustShare$Menu", name := "<init>", desc := "(I)V" } : Jvm.MethodName) prog_6_method_1_code (2 : Nat) (Option.none : Option Jvm.ClassFile.FieldType)) : Jvm.Cond) ∈ jTs := jTs_ix 269 (by decide +kernel) rfl
theorem kw_270 : ((Jvm.Cond.methodLink "NextMustShare$Menu" (3 : Nat) ({ cls := "java/lang/Object", name := "<init>", desc := "()V" } : Jvm.MethodName)) : Jvm.Cond) ∈ jTs := jTs_ix 270 (by decide +kernel) rfl
theorem kw_271 : ((Jvm.Cond.fieldLink "NextMustShare$Menu" (15 : Nat) "NextMustShare$Menu" "places" "[I") : Jvm.Cond) ∈ jTs := jTs_ix 271 (by decide +kernel) rfl
theorem kw_272 : ((Jvm.Cond.fieldLink "NextMustShare$Menu" (9 : Nat) "NextMustShare$Menu" "free" "[I") : Jvm.Cond) ∈ jTs := jTs_ix 272 (by decide +kernel) rfl
theorem kw_283 : ((Jvm.Cond.classLink "NextMustShare" (79 : Nat) "NextMustShare$Steps") : Jvm.Cond) ∈ jTs := jTs_ix 283 (by decide +kernel) rfl
theorem kw_284 : ((Jvm.Cond.instantiable "NextMustShare$Steps" (11 : Nat)) : Jvm.Cond) ∈ jTs := jTs_ix 284 (by decide +kernel) rfl
theorem kw_286 : ((Jvm.Cond.instanceMethod ({ cls := "NextMustShare$Steps", name := "<init>", desc := "()V" } : Jvm.MethodName)) : Jvm.Cond) ∈ jTs := jTs_ix 286 (by decide +kernel) rfl
theorem kw_287 : ((Jvm.Cond.code ({ cls := "NextMustShare$Steps", name := "<init>", desc := "()V" } : Jvm.MethodName) prog_10_method_1_code (1 : Nat) (Option.none : Option Jvm.ClassFile.FieldType)) : Jvm.Cond) ∈ jTs := jTs_ix 287 (by decide +kernel) rfl
theorem kw_288 : ((Jvm.Cond.methodLink "NextMustShare$Steps" (3 : Nat) ({ cls := "java/lang/Object", name := "<init>", desc := "()V" } : Jvm.MethodName)) : Jvm.Cond) ∈ jTs := jTs_ix 288 (by decide +kernel) rfl
theorem kw_289 : ((Jvm.Cond.fieldLink "NextMustShare$Steps" (9 : Nat) "NextMustShare$Steps" "fits" "[Z") : Jvm.Cond) ∈ jTs := jTs_ix 289 (by decide +kernel) rfl
theorem kw_290 : ((Jvm.Cond.fieldLink "NextMustShare$Steps" (15 : Nat) "NextMustShare$Steps" "ends" "[I") : Jvm.Cond) ∈ jTs := jTs_ix 290 (by decide +kernel) rfl
theorem kw_291 : ((Jvm.Cond.fieldLink "NextMustShare$Steps" (19 : Nat) "NextMustShare$Steps" "near" "[I") : Jvm.Cond) ∈ jTs := jTs_ix 291 (by decide +kernel) rfl
theorem kw_292 : ((Jvm.Cond.fieldLink "NextMustShare$Steps" (22 : Nat) "NextMustShare$Steps" "allowed" "[I") : Jvm.Cond) ∈ jTs := jTs_ix 292 (by decide +kernel) rfl
theorem kw_293 : ((Jvm.Cond.fieldLink "NextMustShare$Steps" (25 : Nat) "NextMustShare$Steps" "holders" "[I") : Jvm.Cond) ∈ jTs := jTs_ix 293 (by decide +kernel) rfl
theorem kw_294 : ((Jvm.Cond.fieldLink "NextMustShare$Steps" (28 : Nat) "NextMustShare$Steps" "most" "[I") : Jvm.Cond) ∈ jTs := jTs_ix 294 (by decide +kernel) rfl
theorem kw_323 : ((Jvm.Cond.arrayClass Jvm.ClassFile.FieldType.boolean) : Jvm.Cond) ∈ jTs := jTs_ix 323 (by decide +kernel) rfl
theorem kw_324 : ((Jvm.Cond.classLink "NextMustShare" (86 : Nat) "NextMustShare$Plan") : Jvm.Cond) ∈ jTs := jTs_ix 324 (by decide +kernel) rfl
theorem kw_325 : ((Jvm.Cond.instantiable "NextMustShare$Plan" (8 : Nat)) : Jvm.Cond) ∈ jTs := jTs_ix 325 (by decide +kernel) rfl
theorem kw_327 : ((Jvm.Cond.instanceMethod ({ cls := "NextMustShare$Plan", name := "<init>", desc := "()V" } : Jvm.MethodName)) : Jvm.Cond) ∈ jTs := jTs_ix 327 (by decide +kernel) rfl
theorem kw_328 : ((Jvm.Cond.code ({ cls := "NextMustShare$Plan", name := "<init>", desc := "()V" } : Jvm.MethodName) prog_7_method_1_code (1 : Nat) (Option.none : Option Jvm.ClassFile.FieldType)) : Jvm.Cond) ∈ jTs := jTs_ix 328 (by decide +kernel) rfl
theorem kw_329 : ((Jvm.Cond.methodLink "NextMustShare$Plan" (3 : Nat) ({ cls := "java/lang/Object", name := "<init>", desc := "()V" } : Jvm.MethodName)) : Jvm.Cond) ∈ jTs := jTs_ix 329 (by decide +kernel) rfl
theorem kw_330 : ((Jvm.Cond.classLink "NextMustShare$Plan" (9 : Nat) "[[I") : Jvm.Cond) ∈ jTs := jTs_ix 330 (by decide +kernel) rfl
theorem kw_332 : ((Jvm.Cond.fieldLink "NextMustShare$Plan" (11 : Nat) "NextMustShare$Plan" "weights" "[[I") : Jvm.Cond) ∈ jTs := jTs_ix 332 (by decide +kernel) rfl
theorem kw_333 : ((Jvm.Cond.fieldLink "NextMustShare$Plan" (16 : Nat) "NextMustShare$Plan" "goals" "[I") : Jvm.Cond) ∈ jTs := jTs_ix 333 (by decide +kernel) rfl
theorem kw_334 : ((Jvm.Cond.fieldLink "NextMustShare$Plan" (20 : Nat) "NextMustShare$Plan" "costs" "[I") : Jvm.Cond) ∈ jTs := jTs_ix 334 (by decide +kernel) rfl
theorem kw_335 : ((Jvm.Cond.fieldLink "NextMustShare$Plan" (23 : Nat) "NextMustShare$Plan" "follow" "[I") : Jvm.Cond) ∈ jTs := jTs_ix 335 (by decide +kernel) rfl
theorem kw_357 : ((Jvm.Cond.classLink "NextMustShare" (93 : Nat) "NextMustShare$Match") : Jvm.Cond) ∈ jTs := jTs_ix 357 (by decide +kernel) rfl
theorem kw_358 : ((Jvm.Cond.instantiable "NextMustShare$Match" (2 : Nat)) : Jvm.Cond) ∈ jTs := jTs_ix 358 (by decide +kernel) rfl
theorem kw_360 : ((Jvm.Cond.instanceMethod ({ cls := "NextMustShare$Match", name := "<init>", desc := "()V" } : Jvm.MethodName)) : Jvm.Cond) ∈ jTs := jTs_ix 360 (by decide +kernel) rfl
theorem kw_361 : ((Jvm.Cond.code ({ cls := "NextMustShare$Match", name := "<init>", desc := "()V" } : Jvm.MethodName) prog_5_method_1_code (1 : Nat) (Option.none : Option Jvm.ClassFile.FieldType)) : Jvm.Cond) ∈ jTs := jTs_ix 361 (by decide +kernel) rfl
theorem kw_362 : ((Jvm.Cond.methodLink "NextMustShare$Match" (3 : Nat) ({ cls := "java/lang/Object", name := "<init>", desc := "()V" } : Jvm.MethodName)) : Jvm.Cond) ∈ jTs := jTs_ix 362 (by decide +kernel) rfl
theorem kw_363 : ((Jvm.Cond.fieldLink "NextMustShare$Match" (9 : Nat) "NextMustShare$Match" "values" "[I") : Jvm.Cond) ∈ jTs := jTs_ix 363 (by decide +kernel) rfl
theorem kw_364 : ((Jvm.Cond.fieldLink "NextMustShare$Match" (15 : Nat) "NextMustShare$Match" "joys" "[I") : Jvm.Cond) ∈ jTs := jTs_ix 364 (by decide +kernel) rfl
theorem kw_370 : ((Jvm.Cond.classLink "NextMustShare" (100 : Nat) "NextMustShare$Row") : Jvm.Cond) ∈ jTs := jTs_ix 370 (by decide +kernel) rfl
theorem kw_371 : ((Jvm.Cond.instantiable "NextMustShare$Row" (2 : Nat)) : Jvm.Cond) ∈ jTs := jTs_ix 371 (by decide +kernel) rfl
theorem kw_373 : ((Jvm.Cond.instanceMethod ({ cls := "NextMustShare$Row", name := "<init>", desc := "()V" } : Jvm.MethodName)) : Jvm.Cond) ∈ jTs := jTs_ix 373 (by decide +kernel) rfl
theorem kw_374 : ((Jvm.Cond.code ({ cls := "NextMustShare$Row", name := "<init>", desc := "()V" } : Jvm.MethodName) prog_9_method_1_code (1 : Nat) (Option.none : Option Jvm.ClassFile.FieldType)) : Jvm.Cond) ∈ jTs := jTs_ix 374 (by decide +kernel) rfl
theorem kw_375 : ((Jvm.Cond.methodLink "NextMustShare$Row" (3 : Nat) ({ cls := "java/lang/Object", name := "<init>", desc := "()V" } : Jvm.MethodName)) : Jvm.Cond) ∈ jTs := jTs_ix 375 (by decide +kernel) rfl
theorem kw_376 : ((Jvm.Cond.fieldLink "NextMustShare$Row" (9 : Nat) "NextMustShare$Row" "numbers" "[I") : Jvm.Cond) ∈ jTs := jTs_ix 376 (by decide +kernel) rfl
theorem kw_383 : ((Jvm.Cond.fieldLink "NextMustShare" (12 : Nat) "NextMustShare" "text" "LNextMustShare$Text;") : Jvm.Cond) ∈ jTs := jTs_ix 383 (by decide +kernel) rfl
theorem kw_384 : ((Jvm.Cond.fieldLink "NextMustShare" (19 : Nat) "NextMustShare" "larder" "LNextMustShare$Larder;") : Jvm.Cond) ∈ jTs := jTs_ix 384 (by decide +kernel) rfl
theorem kw_385 : ((Jvm.Cond.fieldLink "NextMustShare" (26 : Nat) "NextMustShare" "reader" "LNextMustShare$Reader;") : Jvm.Cond) ∈ jTs := jTs_ix 385 (by decide +kernel) rfl
theorem kw_386 : ((Jvm.Cond.fieldLink "NextMustShare" (33 : Nat) "NextMustShare" "taste" "LNextMustShare$Taste;") : Jvm.Cond) ∈ jTs := jTs_ix 386 (by decide +kernel) rfl
theorem kw_387 : ((Jvm.Cond.fieldLink "NextMustShare" (40 : Nat) "NextMustShare" "rules" "LNextMustShare$Law;") : Jvm.Cond) ∈ jTs := jTs_ix 387 (by decide +kernel) rfl
theorem kw_388 : ((Jvm.Cond.fieldLink "NextMustShare" (44 : Nat) "NextMustShare" "otherRules" "LNextMustShare$Law;") : Jvm.Cond) ∈ jTs := jTs_ix 388 (by decide +kernel) rfl
theorem kw_389 : ((Jvm.Cond.fieldLink "NextMustShare" (50 : Nat) "NextMustShare" "table" "LNextMustShare$Banquet;") : Jvm.Cond) ∈ jTs := jTs_ix 389 (by decide +kernel) rfl
theorem kw_390 : ((Jvm.Cond.fieldLink "NextMustShare" (56 : Nat) "NextMustShare" "menus" "[LNextMustShare$Menu;") : Jvm.Cond) ∈ jTs := jTs_ix 390 (by decide +kernel) rfl
theorem kw_391 : ((Jvm.Cond.fieldLink "NextMustShare" (63 : Nat) "NextMustShare" "bothMenus" "LNextMustShare$Menu;") : Jvm.Cond) ∈ jTs := jTs_ix 391 (by decide +kernel) rfl
theorem kw_392 : ((Jvm.Cond.fieldLink "NextMustShare" (67 : Nat) "NextMustShare" "keptRules" "[LNextMustShare$Law;") : Jvm.Cond) ∈ jTs := jTs_ix 392 (by decide +kernel) rfl
theorem kw_393 : ((Jvm.Cond.fieldLink "NextMustShare" (71 : Nat) "NextMustShare" "keptTables" "[LNextMustShare$Banquet;") : Jvm.Cond) ∈ jTs := jTs_ix 393 (by decide +kernel) rfl
theorem kw_394 : ((Jvm.Cond.fieldLink "NextMustShare" (75 : Nat) "NextMustShare" "keptDishes" "[I") : Jvm.Cond) ∈ jTs := jTs_ix 394 (by decide +kernel) rfl
theorem kw_395 : ((Jvm.Cond.fieldLink "NextMustShare" (82 : Nat) "NextMustShare" "steps" "LNextMustShare$Steps;") : Jvm.Cond) ∈ jTs := jTs_ix 395 (by decide +kernel) rfl
theorem kw_396 : ((Jvm.Cond.fieldLink "NextMustShare" (89 : Nat) "NextMustShare" "plan" "LNextMustShare$Plan;") : Jvm.Cond) ∈ jTs := jTs_ix 396 (by decide +kernel) rfl
theorem kw_397 : ((Jvm.Cond.fieldLink "NextMustShare" (96 : Nat) "NextMustShare" "match" "LNextMustShare$Match;") : Jvm.Cond) ∈ jTs := jTs_ix 397 (by decide +kernel) rfl
theorem kw_398 : ((Jvm.Cond.fieldLink "NextMustShare" (103 : Nat) "NextMustShare" "told" "LNextMustShare$Row;") : Jvm.Cond) ∈ jTs := jTs_ix 398 (by decide +kernel) rfl
theorem kw_1430 : ((Jvm.Cond.methodLink "NextMustShareModel" (3 : Nat) ({ cls := "java/lang/Object", name := "<init>", desc := "()V" } : Jvm.MethodName)) : Jvm.Cond) ∈ jTs := jTs_ix 1430 (by decide +kernel) rfl
theorem kw_1431 : ((Jvm.Cond.fieldLink "NextMustShareModel" (9 : Nat) "NextMustShareModel" "store" "[I") : Jvm.Cond) ∈ jTs := jTs_ix 1431 (by decide +kernel) rfl
theorem kw_1433 : ((Jvm.Cond.fieldLink "NextMustShareModel" (13 : Nat) "NextMustShareModel" "stuffs" "[I") : Jvm.Cond) ∈ jTs := jTs_ix 1433 (by decide +kernel) rfl
theorem kw_1434 : ((Jvm.Cond.fieldLink "NextMustShareModel" (16 : Nat) "NextMustShareModel" "cost" "[I") : Jvm.Cond) ∈ jTs := jTs_ix 1434 (by decide +kernel) rfl
theorem kw_1435 : ((Jvm.Cond.fieldLink "NextMustShareModel" (19 : Nat) "NextMustShareModel" "isHot" "[Z") : Jvm.Cond) ∈ jTs := jTs_ix 1435 (by decide +kernel) rfl
theorem kw_1436 : ((Jvm.Cond.fieldLink "NextMustShareModel" (23 : Nat) "NextMustShareModel" "hours" "[I") : Jvm.Cond) ∈ jTs := jTs_ix 1436 (by decide +kernel) rfl
theorem kw_1438 : ((Jvm.Cond.fieldLink "NextMustShareModel" (26 : Nat) "NextMustShareModel" "loves" "[I") : Jvm.Cond) ∈ jTs := jTs_ix 1438 (by decide +kernel) rfl
theorem kw_1439 : ((Jvm.Cond.fieldLink "NextMustShareModel" (29 : Nat) "NextMustShareModel" "bars" "[I") : Jvm.Cond) ∈ jTs := jTs_ix 1439 (by decide +kernel) rfl
theorem kw_1440 : ((Jvm.Cond.fieldLink "NextMustShareModel" (32 : Nat) "NextMustShareModel" "share" "I") : Jvm.Cond) ∈ jTs := jTs_ix 1440 (by decide +kernel) rfl
theorem kw_1441 : ((Jvm.Cond.fieldLink "NextMustShareModel" (36 : Nat) "NextMustShareModel" "times" "I") : Jvm.Cond) ∈ jTs := jTs_ix 1441 (by decide +kernel) rfl
theorem kw_1443 : ((Jvm.Cond.fieldLink "NextMustShareModel" (39 : Nat) "NextMustShareModel" "served" "[I") : Jvm.Cond) ∈ jTs := jTs_ix 1443 (by decide +kernel) rfl
theorem kw_1445 : ((Jvm.Cond.fieldLink "NextMustShareModel" (42 : Nat) "NextMustShareModel" "menus" "[I") : Jvm.Cond) ∈ jTs := jTs_ix 1445 (by decide +kernel) rfl
theorem kw_1446 : ((Jvm.Cond.fieldLink "NextMustShareModel" (45 : Nat) "NextMustShareModel" "menuLong" "[I") : Jvm.Cond) ∈ jTs := jTs_ix 1446 (by decide +kernel) rfl
theorem kw_1447 : ((Jvm.Cond.fieldLink "NextMustShareModel" (48 : Nat) "NextMustShareModel" "text" "[B") : Jvm.Cond) ∈ jTs := jTs_ix 1447 (by decide +kernel) rfl
theorem kw_1449 : ((Jvm.Cond.fieldLink "NextMustShareModel" (52 : Nat) "NextMustShareModel" "row" "[I") : Jvm.Cond) ∈ jTs := jTs_ix 1449 (by decide +kernel) rfl
theorem kw_1457 : ((Jvm.Cond.fieldLink "NextMustShareModel" (55 : Nat) "NextMustShareModel" "rule" "[B") : Jvm.Cond) ∈ jTs := jTs_ix 1457 (by decide +kernel) rfl
theorem kw_1459 : ((Jvm.Cond.fieldLink "NextMustShareModel" (58 : Nat) "NextMustShareModel" "askedGuest" "I") : Jvm.Cond) ∈ jTs := jTs_ix 1459 (by decide +kernel) rfl
theorem kw_1466 : ((Jvm.Cond.fieldLink "NextMustShareModel" (61 : Nat) "NextMustShareModel" "isEnd" "[Z") : Jvm.Cond) ∈ jTs := jTs_ix 1466 (by decide +kernel) rfl
theorem kw_1467 : ((Jvm.Cond.fieldLink "NextMustShareModel" (64 : Nat) "NextMustShareModel" "canEnd" "[Z") : Jvm.Cond) ∈ jTs := jTs_ix 1467 (by decide +kernel) rfl
theorem kw_1468 : ((Jvm.Cond.fieldLink "NextMustShareModel" (67 : Nat) "NextMustShareModel" "rows" "[J") : Jvm.Cond) ∈ jTs := jTs_ix 1468 (by decide +kernel) rfl
theorem kw_1469 : ((Jvm.Cond.fieldLink "NextMustShareModel" (71 : Nat) "NextMustShareModel" "scores" "[I") : Jvm.Cond) ∈ jTs := jTs_ix 1469 (by decide +kernel) rfl
theorem kw_1471 : ((Jvm.Cond.fieldLink "NextMustShareModel" (74 : Nat) "NextMustShareModel" "shames" "[Z") : Jvm.Cond) ∈ jTs := jTs_ix 1471 (by decide +kernel) rfl
theorem kw_1472 : ((Jvm.Cond.fieldLink "NextMustShareModel" (77 : Nat) "NextMustShareModel" "moreThen" "[I") : Jvm.Cond) ∈ jTs := jTs_ix 1472 (by decide +kernel) rfl
theorem kw_1473 : ((Jvm.Cond.fieldLink "NextMustShareModel" (80 : Nat) "NextMustShareModel" "firstThen" "[I") : Jvm.Cond) ∈ jTs := jTs_ix 1473 (by decide +kernel) rfl
theorem kw_1474 : ((Jvm.Cond.fieldLink "NextMustShareModel" (83 : Nat) "NextMustShareModel" "isShamed" "[Z") : Jvm.Cond) ∈ jTs := jTs_ix 1474 (by decide +kernel) rfl
theorem kw_1475 : ((Jvm.Cond.fieldLink "NextMustShareModel" (86 : Nat) "NextMustShareModel" "moreOf" "[I") : Jvm.Cond) ∈ jTs := jTs_ix 1475 (by decide +kernel) rfl
theorem kw_1476 : ((Jvm.Cond.fieldLink "NextMustShareModel" (89 : Nat) "NextMustShareModel" "changesFrom" "[I") : Jvm.Cond) ∈ jTs := jTs_ix 1476 (by decide +kernel) rfl
theorem kw_1477 : ((Jvm.Cond.fieldLink "NextMustShareModel" (92 : Nat) "NextMustShareModel" "fillsFrom" "[J") : Jvm.Cond) ∈ jTs := jTs_ix 1477 (by decide +kernel) rfl
theorem kw_1478 : ((Jvm.Cond.fieldLink "NextMustShareModel" (95 : Nat) "NextMustShareModel" "freeAt" "[I") : Jvm.Cond) ∈ jTs := jTs_ix 1478 (by decide +kernel) rfl
theorem kw_1479 : ((Jvm.Cond.fieldLink "NextMustShareModel" (98 : Nat) "NextMustShareModel" "lastsOf" "[I") : Jvm.Cond) ∈ jTs := jTs_ix 1479 (by decide +kernel) rfl
theorem kw_1481 : ((Jvm.Cond.fieldLink "NextMustShareModel" (101 : Nat) "NextMustShareModel" "kept" "[I") : Jvm.Cond) ∈ jTs := jTs_ix 1481 (by decide +kernel) rfl
theorem kw_1482 : ((Jvm.Cond.fieldLink "NextMustShareModel" (104 : Nat) "NextMustShareModel" "isKept" "[Z") : Jvm.Cond) ∈ jTs := jTs_ix 1482 (by decide +kernel) rfl
theorem kw_1483 : ((Jvm.Cond.fieldLink "NextMustShareModel" (107 : Nat) "NextMustShareModel" "keptCame" "[I") : Jvm.Cond) ∈ jTs := jTs_ix 1483 (by decide +kernel) rfl
theorem kw_1591 : ((Jvm.Cond.arrayClass Jvm.ClassFile.FieldType.byte) : Jvm.Cond) ∈ jTs := jTs_ix 1591 (by decide +kernel) rfl
theorem kw_1592 : ((Jvm.Cond.arrayClass Jvm.ClassFile.FieldType.long) : Jvm.Cond) ∈ jTs := jTs_ix 1592 (by decide +kernel) rfl
