theorem sp_601 : (Int16.ofInt (601)).toInt32 = 601 := by decide
theorem sp_6650 : (Int16.ofInt (6650)).toInt32 = 6650 := by decide
theorem sp_12800 : (Int16.ofInt (12800)).toInt32 = 12800 := by decide
theorem sp_16000 : (Int16.ofInt (16000)).toInt32 = 16000 := by decide
set_option maxRecDepth 20000 in
theorem wM_X0_1 : (Cond.methodLink "ImpactShelf$Bytes" (1 : Nat) ({ cls := "java/lang/Object", name := "<init>", desc := "()V" } : MethodName)) ∈ LW := lw_in 33 (by decide +kernel) rfl
set_option maxRecDepth 20000 in
theorem wb_obj : ∀ w ∈ ([.instanceMethod Lib.objectInit, .code Lib.objectInit ⟨#[0xb1]⟩ 1 none] : List Cond), w ∈ LW := List.forall_mem_cons.mpr ⟨lw_in 26 (by decide +kernel) rfl, List.forall_mem_cons.mpr ⟨lw_in 27 (by decide +kernel) rfl, fun _ h => absurd h List.not_mem_nil⟩⟩
set_option maxRecDepth 20000 in
theorem wA_byte : (Cond.arrayClass FieldType.byte) ∈ LW := lw_in 44 (by decide +kernel) rfl
set_option maxRecDepth 20000 in
theorem wM_X1_3 : (Cond.methodLink "ImpactShelf$Collection" (3 : Nat) ({ cls := "java/lang/Object", name := "<init>", desc := "()V" } : MethodName)) ∈ LW := lw_in 77 (by decide +kernel) rfl
set_option maxRecDepth 20000 in
theorem wA_long : (Cond.arrayClass FieldType.long) ∈ LW := lw_in 70 (by decide +kernel) rfl
set_option maxRecDepth 20000 in
theorem wA_int : (Cond.arrayClass FieldType.int) ∈ LW := lw_in 71 (by decide +kernel) rfl
set_option maxRecDepth 20000 in
theorem wA_double : (Cond.arrayClass FieldType.double) ∈ LW := lw_in 113 (by decide +kernel) rfl
set_option maxRecDepth 20000 in
theorem wM_X2_3 : (Cond.methodLink "ImpactShelf$Gaps" (3 : Nat) ({ cls := "java/lang/Object", name := "<init>", desc := "()V" } : MethodName)) ∈ LW := lw_in 125 (by decide +kernel) rfl
set_option maxRecDepth 20000 in
theorem wM_X4_3 : (Cond.methodLink "ImpactShelf$Index" (3 : Nat) ({ cls := "java/lang/Object", name := "<init>", desc := "()V" } : MethodName)) ∈ LW := lw_in 156 (by decide +kernel) rfl
set_option maxRecDepth 20000 in
theorem wM_X7_3 : (Cond.methodLink "ImpactShelf$Words" (3 : Nat) ({ cls := "java/lang/Object", name := "<init>", desc := "()V" } : MethodName)) ∈ LW := lw_in 50 (by decide +kernel) rfl
set_option maxRecDepth 20000 in
theorem wM_X6_3 : (Cond.methodLink "ImpactShelf$Search" (3 : Nat) ({ cls := "java/lang/Object", name := "<init>", desc := "()V" } : MethodName)) ∈ LW := lw_in 229 (by decide +kernel) rfl
set_option maxRecDepth 20000 in
theorem wM_X3_3 : (Cond.methodLink "ImpactShelf$Generations" (3 : Nat) ({ cls := "java/lang/Object", name := "<init>", desc := "()V" } : MethodName)) ∈ LW := lw_in 149 (by decide +kernel) rfl
set_option maxRecDepth 20000 in
theorem wK_X3_9 : (Cond.classLink "ImpactShelf$Generations" (9 : Nat) "ImpactShelf$Index") ∈ LW := lw_in 150 (by decide +kernel) rfl
set_option maxRecDepth 20000 in
theorem wN_X4 : (Cond.instantiable "ImpactShelf$Index" (10 : Nat)) ∈ LW := lw_in 152 (by decide +kernel) rfl
set_option maxRecDepth 20000 in
theorem wI_X4 : (Cond.initialized "ImpactShelf$Index") ∈ LW := lw_in 8 (by decide +kernel) rfl
set_option maxRecDepth 20000 in
theorem wM_X3_21 : (Cond.methodLinkNest "ImpactShelf$Generations" (21 : Nat) ({ cls := "ImpactShelf$Index", name := "<init>", desc := "()V" } : MethodName) "ImpactShelf") ∈ NW := nw_in 153 (by decide +kernel) rfl
set_option maxRecDepth 20000 in
theorem wb_X4_init : ∀ w ∈ ([.instanceMethod yX4_init, .initialized yX4_init.cls, .code yX4_init cX4_init 1 none] : List Cond), w ∈ LW := List.forall_mem_cons.mpr ⟨lw_in 154 (by decide +kernel) rfl, List.forall_mem_cons.mpr ⟨lw_in 8 (by decide +kernel) rfl, List.forall_mem_cons.mpr ⟨lw_in 155 (by decide +kernel) rfl, fun _ h => absurd h List.not_mem_nil⟩⟩⟩
set_option maxRecDepth 20000 in
theorem hy_X4_init : yX4_init.cls ≠ "java/lang/invoke/MethodHandle" ∧ yX4_init.cls ≠ "java/lang/invoke/VarHandle" ∧ (parseMethodDescriptor yX4_init.desc).map (fun d => d.parameters.length) = some 0 := by decide +kernel
set_option maxRecDepth 20000 in
theorem wM_X5_3 : (Cond.methodLink "ImpactShelf$IndexFile" (3 : Nat) ({ cls := "java/lang/Object", name := "<init>", desc := "()V" } : MethodName)) ∈ LW := lw_in 119 (by decide +kernel) rfl
set_option maxRecDepth 20000 in
theorem wK_X5_9 : (Cond.classLink "ImpactShelf$IndexFile" (9 : Nat) "ImpactShelf$Gaps") ∈ LW := lw_in 120 (by decide +kernel) rfl
set_option maxRecDepth 20000 in
theorem wN_X2 : (Cond.instantiable "ImpactShelf$Gaps" (2 : Nat)) ∈ LW := lw_in 121 (by decide +kernel) rfl
set_option maxRecDepth 20000 in
theorem wI_X2 : (Cond.initialized "ImpactShelf$Gaps") ∈ LW := lw_in 6 (by decide +kernel) rfl
set_option maxRecDepth 20000 in
theorem wM_X5_11 : (Cond.methodLinkNest "ImpactShelf$IndexFile" (11 : Nat) ({ cls := "ImpactShelf$Gaps", name := "<init>", desc := "()V" } : MethodName) "ImpactShelf") ∈ NW := nw_in 122 (by decide +kernel) rfl
set_option maxRecDepth 20000 in
theorem wb_X2_init : ∀ w ∈ ([.instanceMethod yX2_init, .initialized yX2_init.cls, .code yX2_init cX2_init 1 none] : List Cond), w ∈ LW := List.forall_mem_cons.mpr ⟨lw_in 123 (by decide +kernel) rfl, List.forall_mem_cons.mpr ⟨lw_in 6 (by decide +kernel) rfl, List.forall_mem_cons.mpr ⟨lw_in 124 (by decide +kernel) rfl, fun _ h => absurd h List.not_mem_nil⟩⟩⟩
set_option maxRecDepth 20000 in
theorem hy_X2_init : yX2_init.cls ≠ "java/lang/invoke/MethodHandle" ∧ yX2_init.cls ≠ "java/lang/invoke/VarHandle" ∧ (parseMethodDescriptor yX2_init.desc).map (fun d => d.parameters.length) = some 0 := by decide +kernel
set_option maxRecDepth 20000 in
theorem wK_X5_18 : (Cond.classLink "ImpactShelf$IndexFile" (18 : Nat) "ImpactShelf$Bytes") ∈ LW := lw_in 135 (by decide +kernel) rfl
set_option maxRecDepth 20000 in
theorem wN_X0 : (Cond.instantiable "ImpactShelf$Bytes" (3 : Nat)) ∈ LW := lw_in 29 (by decide +kernel) rfl
set_option maxRecDepth 20000 in
theorem wI_X0 : (Cond.initialized "ImpactShelf$Bytes") ∈ LW := lw_in 2 (by decide +kernel) rfl
set_option maxRecDepth 20000 in
theorem wM_X5_20 : (Cond.methodLink "ImpactShelf$IndexFile" (20 : Nat) ({ cls := "ImpactShelf$Bytes", name := "<init>", desc := "(I)V" } : MethodName)) ∈ LW := lw_in 136 (by decide +kernel) rfl
set_option maxRecDepth 20000 in
theorem wb_X0_init : ∀ w ∈ ([.instanceMethod yX0_init, .initialized yX0_init.cls, .code yX0_init cX0_init 2 none] : List Cond), w ∈ LW := List.forall_mem_cons.mpr ⟨lw_in 31 (by decide +kernel) rfl, List.forall_mem_cons.mpr ⟨lw_in 2 (by decide +kernel) rfl, List.forall_mem_cons.mpr ⟨lw_in 32 (by decide +kernel) rfl, fun _ h => absurd h List.not_mem_nil⟩⟩⟩
set_option maxRecDepth 20000 in
theorem hy_X0_init : yX0_init.cls ≠ "java/lang/invoke/MethodHandle" ∧ yX0_init.cls ≠ "java/lang/invoke/VarHandle" ∧ (parseMethodDescriptor yX0_init.desc).map (fun d => d.parameters.length) = some 1 := by decide +kernel
set_option maxRecDepth 20000 in
theorem wM_X8_3 : (Cond.methodLink "ImpactShelf" (3 : Nat) ({ cls := "java/lang/Object", name := "<init>", desc := "()V" } : MethodName)) ∈ LW := lw_in 25 (by decide +kernel) rfl
set_option maxRecDepth 20000 in
theorem wK_X8_9 : (Cond.classLink "ImpactShelf" (9 : Nat) "ImpactShelf$Bytes") ∈ LW := lw_in 28 (by decide +kernel) rfl
set_option maxRecDepth 20000 in
theorem wM_X8_11 : (Cond.methodLink "ImpactShelf" (11 : Nat) ({ cls := "ImpactShelf$Bytes", name := "<init>", desc := "(I)V" } : MethodName)) ∈ LW := lw_in 30 (by decide +kernel) rfl
set_option maxRecDepth 20000 in
theorem wK_X8_18 : (Cond.classLink "ImpactShelf" (18 : Nat) "ImpactShelf$Words") ∈ LW := lw_in 45 (by decide +kernel) rfl
set_option maxRecDepth 20000 in
theorem wN_X7 : (Cond.instantiable "ImpactShelf$Words" (4 : Nat)) ∈ LW := lw_in 46 (by decide +kernel) rfl
set_option maxRecDepth 20000 in
theorem wI_X7 : (Cond.initialized "ImpactShelf$Words") ∈ LW := lw_in 3 (by decide +kernel) rfl
set_option maxRecDepth 20000 in
theorem wM_X8_20 : (Cond.methodLinkNest "ImpactShelf" (20 : Nat) ({ cls := "ImpactShelf$Words", name := "<init>", desc := "()V" } : MethodName) "ImpactShelf") ∈ NW := nw_in 47 (by decide +kernel) rfl
set_option maxRecDepth 20000 in
theorem wb_X7_init : ∀ w ∈ ([.instanceMethod yX7_init, .initialized yX7_init.cls, .code yX7_init cX7_init 1 none] : List Cond), w ∈ LW := List.forall_mem_cons.mpr ⟨lw_in 48 (by decide +kernel) rfl, List.forall_mem_cons.mpr ⟨lw_in 3 (by decide +kernel) rfl, List.forall_mem_cons.mpr ⟨lw_in 49 (by decide +kernel) rfl, fun _ h => absurd h List.not_mem_nil⟩⟩⟩
set_option maxRecDepth 20000 in
theorem hy_X7_init : yX7_init.cls ≠ "java/lang/invoke/MethodHandle" ∧ yX7_init.cls ≠ "java/lang/invoke/VarHandle" ∧ (parseMethodDescriptor yX7_init.desc).map (fun d => d.parameters.length) = some 0 := by decide +kernel
set_option maxRecDepth 20000 in
theorem wK_X8_25 : (Cond.classLink "ImpactShelf" (25 : Nat) "ImpactShelf$Collection") ∈ LW := lw_in 72 (by decide +kernel) rfl
set_option maxRecDepth 20000 in
theorem wN_X1 : (Cond.instantiable "ImpactShelf$Collection" (10 : Nat)) ∈ LW := lw_in 73 (by decide +kernel) rfl
set_option maxRecDepth 20000 in
theorem wI_X1 : (Cond.initialized "ImpactShelf$Collection") ∈ LW := lw_in 4 (by decide +kernel) rfl
set_option maxRecDepth 20000 in
theorem wM_X8_27 : (Cond.methodLinkNest "ImpactShelf" (27 : Nat) ({ cls := "ImpactShelf$Collection", name := "<init>", desc := "()V" } : MethodName) "ImpactShelf") ∈ NW := nw_in 74 (by decide +kernel) rfl
set_option maxRecDepth 20000 in
theorem wb_X1_init : ∀ w ∈ ([.instanceMethod yX1_init, .initialized yX1_init.cls, .code yX1_init cX1_init 1 none] : List Cond), w ∈ LW := List.forall_mem_cons.mpr ⟨lw_in 75 (by decide +kernel) rfl, List.forall_mem_cons.mpr ⟨lw_in 4 (by decide +kernel) rfl, List.forall_mem_cons.mpr ⟨lw_in 76 (by decide +kernel) rfl, fun _ h => absurd h List.not_mem_nil⟩⟩⟩
set_option maxRecDepth 20000 in
theorem hy_X1_init : yX1_init.cls ≠ "java/lang/invoke/MethodHandle" ∧ yX1_init.cls ≠ "java/lang/invoke/VarHandle" ∧ (parseMethodDescriptor yX1_init.desc).map (fun d => d.parameters.length) = some 0 := by decide +kernel
set_option maxRecDepth 20000 in
theorem wK_X8_35 : (Cond.classLink "ImpactShelf" (35 : Nat) "ImpactShelf$IndexFile") ∈ LW := lw_in 114 (by decide +kernel) rfl
set_option maxRecDepth 20000 in
theorem wN_X5 : (Cond.instantiable "ImpactShelf$IndexFile" (2 : Nat)) ∈ LW := lw_in 115 (by decide +kernel) rfl
set_option maxRecDepth 20000 in
theorem wI_X5 : (Cond.initialized "ImpactShelf$IndexFile") ∈ LW := lw_in 5 (by decide +kernel) rfl
set_option maxRecDepth 20000 in
theorem wM_X8_37 : (Cond.methodLinkNest "ImpactShelf" (37 : Nat) ({ cls := "ImpactShelf$IndexFile", name := "<init>", desc := "()V" } : MethodName) "ImpactShelf") ∈ NW := nw_in 116 (by decide +kernel) rfl
set_option maxRecDepth 20000 in
theorem wb_X5_init : ∀ w ∈ ([.instanceMethod yX5_init, .initialized yX5_init.cls, .code yX5_init cX5_init 1 none] : List Cond), w ∈ LW := List.forall_mem_cons.mpr ⟨lw_in 117 (by decide +kernel) rfl, List.forall_mem_cons.mpr ⟨lw_in 5 (by decide +kernel) rfl, List.forall_mem_cons.mpr ⟨lw_in 118 (by decide +kernel) rfl, fun _ h => absurd h List.not_mem_nil⟩⟩⟩
set_option maxRecDepth 20000 in
theorem hy_X5_init : yX5_init.cls ≠ "java/lang/invoke/MethodHandle" ∧ yX5_init.cls ≠ "java/lang/invoke/VarHandle" ∧ (parseMethodDescriptor yX5_init.desc).map (fun d => d.parameters.length) = some 0 := by decide +kernel
set_option maxRecDepth 20000 in
theorem wK_X8_42 : (Cond.classLink "ImpactShelf" (42 : Nat) "ImpactShelf$Generations") ∈ LW := lw_in 144 (by decide +kernel) rfl
set_option maxRecDepth 20000 in
theorem wN_X3 : (Cond.instantiable "ImpactShelf$Generations" (5 : Nat)) ∈ LW := lw_in 145 (by decide +kernel) rfl
set_option maxRecDepth 20000 in
theorem wI_X3 : (Cond.initialized "ImpactShelf$Generations") ∈ LW := lw_in 7 (by decide +kernel) rfl
set_option maxRecDepth 20000 in
theorem wM_X8_44 : (Cond.methodLink "ImpactShelf" (44 : Nat) ({ cls := "ImpactShelf$Generations", name := "<init>", desc := "()V" } : MethodName)) ∈ LW := lw_in 146 (by decide +kernel) rfl
set_option maxRecDepth 20000 in
theorem wb_X3_init : ∀ w ∈ ([.instanceMethod yX3_init, .initialized yX3_init.cls, .code yX3_init cX3_init 2 none] : List Cond), w ∈ LW := List.forall_mem_cons.mpr ⟨lw_in 147 (by decide +kernel) rfl, List.forall_mem_cons.mpr ⟨lw_in 7 (by decide +kernel) rfl, List.forall_mem_cons.mpr ⟨lw_in 148 (by decide +kernel) rfl, fun _ h => absurd h List.not_mem_nil⟩⟩⟩
set_option maxRecDepth 20000 in
theorem hy_X3_init : yX3_init.cls ≠ "java/lang/invoke/MethodHandle" ∧ yX3_init.cls ≠ "java/lang/invoke/VarHandle" ∧ (parseMethodDescriptor yX3_init.desc).map (fun d => d.parameters.length) = some 0 := by decide +kernel
set_option maxRecDepth 20000 in
theorem wK_X8_49 : (Cond.classLink "ImpactShelf" (49 : Nat) "ImpactShelf$Search") ∈ LW := lw_in 224 (by decide +kernel) rfl
set_option maxRecDepth 20000 in
theorem wN_X6 : (Cond.instantiable "ImpactShelf$Search" (16 : Nat)) ∈ LW := lw_in 225 (by decide +kernel) rfl
set_option maxRecDepth 20000 in
theorem wI_X6 : (Cond.initialized "ImpactShelf$Search") ∈ LW := lw_in 9 (by decide +kernel) rfl
set_option maxRecDepth 20000 in
theorem wM_X8_51 : (Cond.methodLinkNest "ImpactShelf" (51 : Nat) ({ cls := "ImpactShelf$Search", name := "<init>", desc := "()V" } : MethodName) "ImpactShelf") ∈ NW := nw_in 226 (by decide +kernel) rfl
set_option maxRecDepth 20000 in
theorem wb_X6_init : ∀ w ∈ ([.instanceMethod yX6_init, .initialized yX6_init.cls, .code yX6_init cX6_init 1 none] : List Cond), w ∈ LW := List.forall_mem_cons.mpr ⟨lw_in 227 (by decide +kernel) rfl, List.forall_mem_cons.mpr ⟨lw_in 9 (by decide +kernel) rfl, List.forall_mem_cons.mpr ⟨lw_in 228 (by decide +kernel) rfl, fun _ h => absurd h List.not_mem_nil⟩⟩⟩
set_option maxRecDepth 20000 in
theorem hy_X6_init : yX6_init.cls ≠ "java/lang/invoke/MethodHandle" ∧ yX6_init.cls ≠ "java/lang/invoke/VarHandle" ∧ (parseMethodDescriptor yX6_init.desc).map (fun d => d.parameters.length) = some 0 := by decide +kernel
set_option maxRecDepth 20000 in
theorem wK_X8_56 : (Cond.classLink "ImpactShelf" (56 : Nat) "ImpactShelf$Index") ∈ LW := lw_in 291 (by decide +kernel) rfl
set_option maxRecDepth 20000 in
theorem wM_X8_58 : (Cond.methodLinkNest "ImpactShelf" (58 : Nat) ({ cls := "ImpactShelf$Index", name := "<init>", desc := "()V" } : MethodName) "ImpactShelf") ∈ NW := nw_in 292 (by decide +kernel) rfl
set_option maxRecDepth 20000 in
theorem wM_X9_1 : (Cond.methodLink "ImpactShelfModel" (1 : Nat) ({ cls := "java/lang/Object", name := "<init>", desc := "()V" } : MethodName)) ∈ LW := lw_in 938 (by decide +kernel) rfl
set_option maxRecDepth 20000 in
theorem wA_boolean : (Cond.arrayClass FieldType.boolean) ∈ LW := lw_in 1066 (by decide +kernel) rfl
