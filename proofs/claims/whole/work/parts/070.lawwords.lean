theorem ic_6 : Int32.ofInt (6) = 6 := by decide
theorem swo_22 {x : Int32} (h0 : ¬ x = 0) (h1 : ¬ x = 1) (h2 : ¬ x = 2) (h3 : ¬ x = 3) (h4 : ¬ x = 4) (h5 : ¬ x = 5) (h6 : ¬ x = 6) (h7 : ¬ x = 7) (h8 : ¬ x = 8) (h9 : ¬ x = 9) (h10 : ¬ x = 10) (h11 : ¬ x = 11) (h12 : ¬ x = 12) (h13 : ¬ x = 13) (h14 : ¬ x = 14) (h15 : ¬ x = 15) (h16 : ¬ x = 16) (h17 : ¬ x = 17) (h18 : ¬ x = 18) (h19 : ¬ x = 19) (h20 : ¬ x = 20) (h21 : ¬ x = 21) (h22 : ¬ x = 22) : x.toInt < 0 ∨ 22 < x.toInt := by
  apply Classical.byContradiction
  intro q
  have q1 : 0 ≤ x.toInt := by omega
  have q2 : x.toInt ≤ 22 := by omega
  have e0 : x.toInt ≠ 0 := fun e => h0 (Int32.toInt_inj.mp (e.trans (by decide)))
  have e1 : x.toInt ≠ 1 := fun e => h1 (Int32.toInt_inj.mp (e.trans (by decide)))
  have e2 : x.toInt ≠ 2 := fun e => h2 (Int32.toInt_inj.mp (e.trans (by decide)))
  have e3 : x.toInt ≠ 3 := fun e => h3 (Int32.toInt_inj.mp (e.trans (by decide)))
  have e4 : x.toInt ≠ 4 := fun e => h4 (Int32.toInt_inj.mp (e.trans (by decide)))
  have e5 : x.toInt ≠ 5 := fun e => h5 (Int32.toInt_inj.mp (e.trans (by decide)))
  have e6 : x.toInt ≠ 6 := fun e => h6 (Int32.toInt_inj.mp (e.trans (by decide)))
  have e7 : x.toInt ≠ 7 := fun e => h7 (Int32.toInt_inj.mp (e.trans (by decide)))
  have e8 : x.toInt ≠ 8 := fun e => h8 (Int32.toInt_inj.mp (e.trans (by decide)))
  have e9 : x.toInt ≠ 9 := fun e => h9 (Int32.toInt_inj.mp (e.trans (by decide)))
  have e10 : x.toInt ≠ 10 := fun e => h10 (Int32.toInt_inj.mp (e.trans (by decide)))
  have e11 : x.toInt ≠ 11 := fun e => h11 (Int32.toInt_inj.mp (e.trans (by decide)))
  have e12 : x.toInt ≠ 12 := fun e => h12 (Int32.toInt_inj.mp (e.trans (by decide)))
  have e13 : x.toInt ≠ 13 := fun e => h13 (Int32.toInt_inj.mp (e.trans (by decide)))
  have e14 : x.toInt ≠ 14 := fun e => h14 (Int32.toInt_inj.mp (e.trans (by decide)))
  have e15 : x.toInt ≠ 15 := fun e => h15 (Int32.toInt_inj.mp (e.trans (by decide)))
  have e16 : x.toInt ≠ 16 := fun e => h16 (Int32.toInt_inj.mp (e.trans (by decide)))
  have e17 : x.toInt ≠ 17 := fun e => h17 (Int32.toInt_inj.mp (e.trans (by decide)))
  have e18 : x.toInt ≠ 18 := fun e => h18 (Int32.toInt_inj.mp (e.trans (by decide)))
  have e19 : x.toInt ≠ 19 := fun e => h19 (Int32.toInt_inj.mp (e.trans (by decide)))
  have e20 : x.toInt ≠ 20 := fun e => h20 (Int32.toInt_inj.mp (e.trans (by decide)))
  have e21 : x.toInt ≠ 21 := fun e => h21 (Int32.toInt_inj.mp (e.trans (by decide)))
  have e22 : x.toInt ≠ 22 := fun e => h22 (Int32.toInt_inj.mp (e.trans (by decide)))
  omega
set_option maxRecDepth 20000 in
theorem wC_L_81 : (Cond.constantLong "ImpactShelfLaw" (81 : Nat) (4294967295 : Int64)) ∈ LW := lw_in 1343 (by decide +kernel) rfl
set_option maxRecDepth 20000 in
theorem wb_X9_thrown : ∀ w ∈ ([.instanceMethod yX9_thrown, .selects RX9 yX9_thrown yX9_thrown, .initialized RX9, .code yX9_thrown cX9_thrown 1 (some .int)] : List Cond), w ∈ LW := List.forall_mem_cons.mpr ⟨lw_in 1068 (by decide +kernel) rfl, List.forall_mem_cons.mpr ⟨lw_in 1069 (by decide +kernel) rfl, List.forall_mem_cons.mpr ⟨lw_in 10 (by decide +kernel) rfl, List.forall_mem_cons.mpr ⟨lw_in 1070 (by decide +kernel) rfl, fun _ h => absurd h List.not_mem_nil⟩⟩⟩⟩
set_option maxRecDepth 20000 in
theorem hy_X9_thrown : yX9_thrown.cls = RX9 ∧ yX9_thrown.cls ≠ "java/lang/invoke/MethodHandle" ∧ yX9_thrown.cls ≠ "java/lang/invoke/VarHandle" ∧ (parseMethodDescriptor yX9_thrown.desc).map (fun d => d.parameters.length) = some 0 := by decide +kernel
set_option maxRecDepth 20000 in
theorem wM_L_89 : (Cond.methodLink "ImpactShelfLaw" (89 : Nat) ({ cls := "ImpactShelfModel", name := "thrown", desc := "()I" } : MethodName)) ∈ LW := lw_in 1067 (by decide +kernel) rfl
set_option maxRecDepth 20000 in
theorem wb_X9_feed : ∀ w ∈ ([.instanceMethod yX9_feed, .selects RX9 yX9_feed yX9_feed, .initialized RX9, .code yX9_feed cX9_feed 5 (some .int)] : List Cond), w ∈ LW := List.forall_mem_cons.mpr ⟨lw_in 1072 (by decide +kernel) rfl, List.forall_mem_cons.mpr ⟨lw_in 1073 (by decide +kernel) rfl, List.forall_mem_cons.mpr ⟨lw_in 10 (by decide +kernel) rfl, List.forall_mem_cons.mpr ⟨lw_in 1074 (by decide +kernel) rfl, fun _ h => absurd h List.not_mem_nil⟩⟩⟩⟩
set_option maxRecDepth 20000 in
theorem hy_X9_feed : yX9_feed.cls = RX9 ∧ yX9_feed.cls ≠ "java/lang/invoke/MethodHandle" ∧ yX9_feed.cls ≠ "java/lang/invoke/VarHandle" ∧ (parseMethodDescriptor yX9_feed.desc).map (fun d => d.parameters.length) = some 2 := by decide +kernel
set_option maxRecDepth 20000 in
theorem wM_L_88 : (Cond.methodLink "ImpactShelfLaw" (88 : Nat) ({ cls := "ImpactShelfModel", name := "feed", desc := "(IJ)I" } : MethodName)) ∈ LW := lw_in 1071 (by decide +kernel) rfl
set_option maxRecDepth 20000 in
theorem wb_L_feed : ∀ w ∈ ([.static yL_feed, .initialized yL_feed.cls, .codeWith yL_feed cL_feed 6 (some .int) [(0, 11, 14, 13), (0, 11, 18, 15)]] : List Cond), w ∈ LW := List.forall_mem_cons.mpr ⟨lw_in 375 (by decide +kernel) rfl, List.forall_mem_cons.mpr ⟨lw_in 0 (by decide +kernel) rfl, List.forall_mem_cons.mpr ⟨lw_in 376 (by decide +kernel) rfl, fun _ h => absurd h List.not_mem_nil⟩⟩⟩
set_option maxRecDepth 20000 in
theorem hy_L_feed : yL_feed.cls ≠ "java/lang/invoke/MethodHandle" ∧ yL_feed.cls ≠ "java/lang/invoke/VarHandle" ∧ (parseMethodDescriptor yL_feed.desc).map (fun d => d.parameters.length) = some 4 := by decide +kernel
set_option maxRecDepth 20000 in
theorem wM_L_83 : (Cond.methodLink "ImpactShelfLaw" (83 : Nat) ({ cls := "ImpactShelfLaw", name := "feed", desc := "(LImpactShelf;IJ[J)I" } : MethodName)) ∈ LW := lw_in 374 (by decide +kernel) rfl
set_option maxRecDepth 20000 in
theorem wb_X9_add : ∀ w ∈ ([.instanceMethod yX9_add, .selects RX9 yX9_add yX9_add, .initialized RX9, .code yX9_add cX9_add 8 (some .int)] : List Cond), w ∈ LW := List.forall_mem_cons.mpr ⟨lw_in 1085 (by decide +kernel) rfl, List.forall_mem_cons.mpr ⟨lw_in 1086 (by decide +kernel) rfl, List.forall_mem_cons.mpr ⟨lw_in 10 (by decide +kernel) rfl, List.forall_mem_cons.mpr ⟨lw_in 1087 (by decide +kernel) rfl, fun _ h => absurd h List.not_mem_nil⟩⟩⟩⟩
set_option maxRecDepth 20000 in
theorem hy_X9_add : yX9_add.cls = RX9 ∧ yX9_add.cls ≠ "java/lang/invoke/MethodHandle" ∧ yX9_add.cls ≠ "java/lang/invoke/VarHandle" ∧ (parseMethodDescriptor yX9_add.desc).map (fun d => d.parameters.length) = some 0 := by decide +kernel
set_option maxRecDepth 20000 in
theorem wM_L_95 : (Cond.methodLink "ImpactShelfLaw" (95 : Nat) ({ cls := "ImpactShelfModel", name := "add", desc := "()I" } : MethodName)) ∈ LW := lw_in 1084 (by decide +kernel) rfl
set_option maxRecDepth 20000 in
theorem wb_L_add : ∀ w ∈ ([.static yL_add, .initialized yL_add.cls, .codeWith yL_add cL_add 3 (some .int) [(0, 8, 11, 13), (0, 8, 14, 15)]] : List Cond), w ∈ LW := List.forall_mem_cons.mpr ⟨lw_in 463 (by decide +kernel) rfl, List.forall_mem_cons.mpr ⟨lw_in 0 (by decide +kernel) rfl, List.forall_mem_cons.mpr ⟨lw_in 464 (by decide +kernel) rfl, fun _ h => absurd h List.not_mem_nil⟩⟩⟩
set_option maxRecDepth 20000 in
theorem hy_L_add : yL_add.cls ≠ "java/lang/invoke/MethodHandle" ∧ yL_add.cls ≠ "java/lang/invoke/VarHandle" ∧ (parseMethodDescriptor yL_add.desc).map (fun d => d.parameters.length) = some 2 := by decide +kernel
set_option maxRecDepth 20000 in
theorem wM_L_92 : (Cond.methodLink "ImpactShelfLaw" (92 : Nat) ({ cls := "ImpactShelfLaw", name := "add", desc := "(LImpactShelf;[J)I" } : MethodName)) ∈ LW := lw_in 462 (by decide +kernel) rfl
set_option maxRecDepth 20000 in
theorem wb_X9_clear : ∀ w ∈ ([.instanceMethod yX9_clear, .selects RX9 yX9_clear yX9_clear, .initialized RX9, .code yX9_clear cX9_clear 2 (some .int)] : List Cond), w ∈ LW := List.forall_mem_cons.mpr ⟨lw_in 1112 (by decide +kernel) rfl, List.forall_mem_cons.mpr ⟨lw_in 1113 (by decide +kernel) rfl, List.forall_mem_cons.mpr ⟨lw_in 10 (by decide +kernel) rfl, List.forall_mem_cons.mpr ⟨lw_in 1114 (by decide +kernel) rfl, fun _ h => absurd h List.not_mem_nil⟩⟩⟩⟩
set_option maxRecDepth 20000 in
theorem hy_X9_clear : yX9_clear.cls = RX9 ∧ yX9_clear.cls ≠ "java/lang/invoke/MethodHandle" ∧ yX9_clear.cls ≠ "java/lang/invoke/VarHandle" ∧ (parseMethodDescriptor yX9_clear.desc).map (fun d => d.parameters.length) = some 0 := by decide +kernel
set_option maxRecDepth 20000 in
theorem wM_L_99 : (Cond.methodLink "ImpactShelfLaw" (99 : Nat) ({ cls := "ImpactShelfModel", name := "clear", desc := "()I" } : MethodName)) ∈ LW := lw_in 1111 (by decide +kernel) rfl
set_option maxRecDepth 20000 in
theorem wb_X8_clear : ∀ w ∈ ([.instanceMethod yX8_clear, .selects RX8 yX8_clear yX8_clear, .initialized RX8, .code yX8_clear cX8_clear 1 (some .int)] : List Cond), w ∈ LW := List.forall_mem_cons.mpr ⟨lw_in 322 (by decide +kernel) rfl, List.forall_mem_cons.mpr ⟨lw_in 323 (by decide +kernel) rfl, List.forall_mem_cons.mpr ⟨lw_in 1 (by decide +kernel) rfl, List.forall_mem_cons.mpr ⟨lw_in 324 (by decide +kernel) rfl, fun _ h => absurd h List.not_mem_nil⟩⟩⟩⟩
set_option maxRecDepth 20000 in
theorem hy_X8_clear : yX8_clear.cls = RX8 ∧ yX8_clear.cls ≠ "java/lang/invoke/MethodHandle" ∧ yX8_clear.cls ≠ "java/lang/invoke/VarHandle" ∧ (parseMethodDescriptor yX8_clear.desc).map (fun d => d.parameters.length) = some 0 := by decide +kernel
set_option maxRecDepth 20000 in
theorem wM_L_96 : (Cond.methodLink "ImpactShelfLaw" (96 : Nat) ({ cls := "ImpactShelf", name := "clear", desc := "()I" } : MethodName)) ∈ LW := lw_in 321 (by decide +kernel) rfl
set_option maxRecDepth 20000 in
theorem wb_X9_count : ∀ w ∈ ([.instanceMethod yX9_count, .selects RX9 yX9_count yX9_count, .initialized RX9, .code yX9_count cX9_count 2 (some .int)] : List Cond), w ∈ LW := List.forall_mem_cons.mpr ⟨lw_in 1116 (by decide +kernel) rfl, List.forall_mem_cons.mpr ⟨lw_in 1117 (by decide +kernel) rfl, List.forall_mem_cons.mpr ⟨lw_in 10 (by decide +kernel) rfl, List.forall_mem_cons.mpr ⟨lw_in 1118 (by decide +kernel) rfl, fun _ h => absurd h List.not_mem_nil⟩⟩⟩⟩
set_option maxRecDepth 20000 in
theorem hy_X9_count : yX9_count.cls = RX9 ∧ yX9_count.cls ≠ "java/lang/invoke/MethodHandle" ∧ yX9_count.cls ≠ "java/lang/invoke/VarHandle" ∧ (parseMethodDescriptor yX9_count.desc).map (fun d => d.parameters.length) = some 1 := by decide +kernel
set_option maxRecDepth 20000 in
theorem wM_L_103 : (Cond.methodLink "ImpactShelfLaw" (103 : Nat) ({ cls := "ImpactShelfModel", name := "count", desc := "(I)I" } : MethodName)) ∈ LW := lw_in 1115 (by decide +kernel) rfl
set_option maxRecDepth 20000 in
theorem wb_L_count : ∀ w ∈ ([.static yL_count, .initialized yL_count.cls, .codeWith yL_count cL_count 4 (some .int) [(0, 9, 12, 25)]] : List Cond), w ∈ LW := List.forall_mem_cons.mpr ⟨lw_in 524 (by decide +kernel) rfl, List.forall_mem_cons.mpr ⟨lw_in 0 (by decide +kernel) rfl, List.forall_mem_cons.mpr ⟨lw_in 525 (by decide +kernel) rfl, fun _ h => absurd h List.not_mem_nil⟩⟩⟩
set_option maxRecDepth 20000 in
theorem hy_L_count : yL_count.cls ≠ "java/lang/invoke/MethodHandle" ∧ yL_count.cls ≠ "java/lang/invoke/VarHandle" ∧ (parseMethodDescriptor yL_count.desc).map (fun d => d.parameters.length) = some 3 := by decide +kernel
set_option maxRecDepth 20000 in
theorem wM_L_100 : (Cond.methodLink "ImpactShelfLaw" (100 : Nat) ({ cls := "ImpactShelfLaw", name := "count", desc := "(LImpactShelf;I[J)I" } : MethodName)) ∈ LW := lw_in 523 (by decide +kernel) rfl
set_option maxRecDepth 20000 in
theorem wb_X9_score : ∀ w ∈ ([.instanceMethod yX9_score, .selects RX9 yX9_score yX9_score, .initialized RX9, .code yX9_score cX9_score 5 (some .double)] : List Cond), w ∈ LW := List.forall_mem_cons.mpr ⟨lw_in 1125 (by decide +kernel) rfl, List.forall_mem_cons.mpr ⟨lw_in 1126 (by decide +kernel) rfl, List.forall_mem_cons.mpr ⟨lw_in 10 (by decide +kernel) rfl, List.forall_mem_cons.mpr ⟨lw_in 1127 (by decide +kernel) rfl, fun _ h => absurd h List.not_mem_nil⟩⟩⟩⟩
set_option maxRecDepth 20000 in
theorem hy_X9_score : yX9_score.cls = RX9 ∧ yX9_score.cls ≠ "java/lang/invoke/MethodHandle" ∧ yX9_score.cls ≠ "java/lang/invoke/VarHandle" ∧ (parseMethodDescriptor yX9_score.desc).map (fun d => d.parameters.length) = some 1 := by decide +kernel
set_option maxRecDepth 20000 in
theorem wM_L_107 : (Cond.methodLink "ImpactShelfLaw" (107 : Nat) ({ cls := "ImpactShelfModel", name := "score", desc := "(I)D" } : MethodName)) ∈ LW := lw_in 1124 (by decide +kernel) rfl
set_option maxRecDepth 20000 in
theorem wb_L_score : ∀ w ∈ ([.static yL_score, .initialized yL_score.cls, .codeWith yL_score cL_score 4 (some .int) [(0, 8, 11, 13), (0, 8, 14, 25)]] : List Cond), w ∈ LW := List.forall_mem_cons.mpr ⟨lw_in 547 (by decide +kernel) rfl, List.forall_mem_cons.mpr ⟨lw_in 0 (by decide +kernel) rfl, List.forall_mem_cons.mpr ⟨lw_in 548 (by decide +kernel) rfl, fun _ h => absurd h List.not_mem_nil⟩⟩⟩
set_option maxRecDepth 20000 in
theorem hy_L_score : yL_score.cls ≠ "java/lang/invoke/MethodHandle" ∧ yL_score.cls ≠ "java/lang/invoke/VarHandle" ∧ (parseMethodDescriptor yL_score.desc).map (fun d => d.parameters.length) = some 3 := by decide +kernel
set_option maxRecDepth 20000 in
theorem wM_L_104 : (Cond.methodLink "ImpactShelfLaw" (104 : Nat) ({ cls := "ImpactShelfLaw", name := "score", desc := "(LImpactShelf;I[D)I" } : MethodName)) ∈ LW := lw_in 546 (by decide +kernel) rfl
set_option maxRecDepth 20000 in
theorem wb_X9_build : ∀ w ∈ ([.instanceMethod yX9_build, .selects RX9 yX9_build yX9_build, .initialized RX9, .code yX9_build cX9_build 4 (some .int)] : List Cond), w ∈ LW := List.forall_mem_cons.mpr ⟨lw_in 1142 (by decide +kernel) rfl, List.forall_mem_cons.mpr ⟨lw_in 1143 (by decide +kernel) rfl, List.forall_mem_cons.mpr ⟨lw_in 10 (by decide +kernel) rfl, List.forall_mem_cons.mpr ⟨lw_in 1144 (by decide +kernel) rfl, fun _ h => absurd h List.not_mem_nil⟩⟩⟩⟩
set_option maxRecDepth 20000 in
theorem hy_X9_build : yX9_build.cls = RX9 ∧ yX9_build.cls ≠ "java/lang/invoke/MethodHandle" ∧ yX9_build.cls ≠ "java/lang/invoke/VarHandle" ∧ (parseMethodDescriptor yX9_build.desc).map (fun d => d.parameters.length) = some 2 := by decide +kernel
set_option maxRecDepth 20000 in
theorem wM_L_111 : (Cond.methodLink "ImpactShelfLaw" (111 : Nat) ({ cls := "ImpactShelfModel", name := "build", desc := "(II)I" } : MethodName)) ∈ LW := lw_in 1141 (by decide +kernel) rfl
set_option maxRecDepth 20000 in
theorem wb_L_build : ∀ w ∈ ([.static yL_build, .initialized yL_build.cls, .codeWith yL_build cL_build 5 (some .int) [(0, 10, 13, 13), (0, 10, 17, 15)]] : List Cond), w ∈ LW := List.forall_mem_cons.mpr ⟨lw_in 571 (by decide +kernel) rfl, List.forall_mem_cons.mpr ⟨lw_in 0 (by decide +kernel) rfl, List.forall_mem_cons.mpr ⟨lw_in 572 (by decide +kernel) rfl, fun _ h => absurd h List.not_mem_nil⟩⟩⟩
set_option maxRecDepth 20000 in
theorem hy_L_build : yL_build.cls ≠ "java/lang/invoke/MethodHandle" ∧ yL_build.cls ≠ "java/lang/invoke/VarHandle" ∧ (parseMethodDescriptor yL_build.desc).map (fun d => d.parameters.length) = some 4 := by decide +kernel
set_option maxRecDepth 20000 in
theorem wM_L_108 : (Cond.methodLink "ImpactShelfLaw" (108 : Nat) ({ cls := "ImpactShelfLaw", name := "build", desc := "(LImpactShelf;II[J)I" } : MethodName)) ∈ LW := lw_in 570 (by decide +kernel) rfl
set_option maxRecDepth 20000 in
theorem wb_X9_file : ∀ w ∈ ([.instanceMethod yX9_file, .selects RX9 yX9_file yX9_file, .initialized RX9, .code yX9_file cX9_file 5 (some .long)] : List Cond), w ∈ LW := List.forall_mem_cons.mpr ⟨lw_in 1204 (by decide +kernel) rfl, List.forall_mem_cons.mpr ⟨lw_in 1205 (by decide +kernel) rfl, List.forall_mem_cons.mpr ⟨lw_in 10 (by decide +kernel) rfl, List.forall_mem_cons.mpr ⟨lw_in 1206 (by decide +kernel) rfl, fun _ h => absurd h List.not_mem_nil⟩⟩⟩⟩
set_option maxRecDepth 20000 in
theorem hy_X9_file : yX9_file.cls = RX9 ∧ yX9_file.cls ≠ "java/lang/invoke/MethodHandle" ∧ yX9_file.cls ≠ "java/lang/invoke/VarHandle" ∧ (parseMethodDescriptor yX9_file.desc).map (fun d => d.parameters.length) = some 1 := by decide +kernel
set_option maxRecDepth 20000 in
theorem wM_L_114 : (Cond.methodLink "ImpactShelfLaw" (114 : Nat) ({ cls := "ImpactShelfModel", name := "file", desc := "(I)J" } : MethodName)) ∈ LW := lw_in 1203 (by decide +kernel) rfl
set_option maxRecDepth 20000 in
theorem wb_L_file : ∀ w ∈ ([.static yL_file, .initialized yL_file.cls, .codeWith yL_file cL_file 4 (some .int) [(0, 8, 11, 25)]] : List Cond), w ∈ LW := List.forall_mem_cons.mpr ⟨lw_in 687 (by decide +kernel) rfl, List.forall_mem_cons.mpr ⟨lw_in 0 (by decide +kernel) rfl, List.forall_mem_cons.mpr ⟨lw_in 688 (by decide +kernel) rfl, fun _ h => absurd h List.not_mem_nil⟩⟩⟩
set_option maxRecDepth 20000 in
theorem hy_L_file : yL_file.cls ≠ "java/lang/invoke/MethodHandle" ∧ yL_file.cls ≠ "java/lang/invoke/VarHandle" ∧ (parseMethodDescriptor yL_file.desc).map (fun d => d.parameters.length) = some 3 := by decide +kernel
set_option maxRecDepth 20000 in
theorem wM_L_112 : (Cond.methodLink "ImpactShelfLaw" (112 : Nat) ({ cls := "ImpactShelfLaw", name := "file", desc := "(LImpactShelf;I[J)I" } : MethodName)) ∈ LW := lw_in 686 (by decide +kernel) rfl
set_option maxRecDepth 20000 in
theorem wb_X9_spoil : ∀ w ∈ ([.instanceMethod yX9_spoil, .selects RX9 yX9_spoil yX9_spoil, .initialized RX9, .code yX9_spoil cX9_spoil 4 (some .int)] : List Cond), w ∈ LW := List.forall_mem_cons.mpr ⟨lw_in 1208 (by decide +kernel) rfl, List.forall_mem_cons.mpr ⟨lw_in 1209 (by decide +kernel) rfl, List.forall_mem_cons.mpr ⟨lw_in 10 (by decide +kernel) rfl, List.forall_mem_cons.mpr ⟨lw_in 1210 (by decide +kernel) rfl, fun _ h => absurd h List.not_mem_nil⟩⟩⟩⟩
set_option maxRecDepth 20000 in
theorem hy_X9_spoil : yX9_spoil.cls = RX9 ∧ yX9_spoil.cls ≠ "java/lang/invoke/MethodHandle" ∧ yX9_spoil.cls ≠ "java/lang/invoke/VarHandle" ∧ (parseMethodDescriptor yX9_spoil.desc).map (fun d => d.parameters.length) = some 2 := by decide +kernel
set_option maxRecDepth 20000 in
theorem wM_L_117 : (Cond.methodLink "ImpactShelfLaw" (117 : Nat) ({ cls := "ImpactShelfModel", name := "spoil", desc := "(II)I" } : MethodName)) ∈ LW := lw_in 1207 (by decide +kernel) rfl
set_option maxRecDepth 20000 in
theorem wb_L_spoil : ∀ w ∈ ([.static yL_spoil, .initialized yL_spoil.cls, .codeWith yL_spoil cL_spoil 5 (some .int) [(0, 10, 13, 25)]] : List Cond), w ∈ LW := List.forall_mem_cons.mpr ⟨lw_in 703 (by decide +kernel) rfl, List.forall_mem_cons.mpr ⟨lw_in 0 (by decide +kernel) rfl, List.forall_mem_cons.mpr ⟨lw_in 704 (by decide +kernel) rfl, fun _ h => absurd h List.not_mem_nil⟩⟩⟩
set_option maxRecDepth 20000 in
theorem hy_L_spoil : yL_spoil.cls ≠ "java/lang/invoke/MethodHandle" ∧ yL_spoil.cls ≠ "java/lang/invoke/VarHandle" ∧ (parseMethodDescriptor yL_spoil.desc).map (fun d => d.parameters.length) = some 4 := by decide +kernel
set_option maxRecDepth 20000 in
theorem wM_L_115 : (Cond.methodLink "ImpactShelfLaw" (115 : Nat) ({ cls := "ImpactShelfLaw", name := "spoil", desc := "(LImpactShelf;II[J)I" } : MethodName)) ∈ LW := lw_in 702 (by decide +kernel) rfl
set_option maxRecDepth 20000 in
theorem wb_X9_cut : ∀ w ∈ ([.instanceMethod yX9_cut, .selects RX9 yX9_cut yX9_cut, .initialized RX9, .code yX9_cut cX9_cut 2 (some .boolean)] : List Cond), w ∈ LW := List.forall_mem_cons.mpr ⟨lw_in 1212 (by decide +kernel) rfl, List.forall_mem_cons.mpr ⟨lw_in 1213 (by decide +kernel) rfl, List.forall_mem_cons.mpr ⟨lw_in 10 (by decide +kernel) rfl, List.forall_mem_cons.mpr ⟨lw_in 1214 (by decide +kernel) rfl, fun _ h => absurd h List.not_mem_nil⟩⟩⟩⟩
set_option maxRecDepth 20000 in
theorem hy_X9_cut : yX9_cut.cls = RX9 ∧ yX9_cut.cls ≠ "java/lang/invoke/MethodHandle" ∧ yX9_cut.cls ≠ "java/lang/invoke/VarHandle" ∧ (parseMethodDescriptor yX9_cut.desc).map (fun d => d.parameters.length) = some 1 := by decide +kernel
set_option maxRecDepth 20000 in
theorem wM_L_121 : (Cond.methodLink "ImpactShelfLaw" (121 : Nat) ({ cls := "ImpactShelfModel", name := "cut", desc := "(I)Z" } : MethodName)) ∈ LW := lw_in 1211 (by decide +kernel) rfl
set_option maxRecDepth 20000 in
theorem wb_X8_cut : ∀ w ∈ ([.instanceMethod yX8_cut, .selects RX8 yX8_cut yX8_cut, .initialized RX8, .code yX8_cut cX8_cut 2 (some .boolean)] : List Cond), w ∈ LW := List.forall_mem_cons.mpr ⟨lw_in 330 (by decide +kernel) rfl, List.forall_mem_cons.mpr ⟨lw_in 331 (by decide +kernel) rfl, List.forall_mem_cons.mpr ⟨lw_in 1 (by decide +kernel) rfl, List.forall_mem_cons.mpr ⟨lw_in 332 (by decide +kernel) rfl, fun _ h => absurd h List.not_mem_nil⟩⟩⟩⟩
set_option maxRecDepth 20000 in
theorem hy_X8_cut : yX8_cut.cls = RX8 ∧ yX8_cut.cls ≠ "java/lang/invoke/MethodHandle" ∧ yX8_cut.cls ≠ "java/lang/invoke/VarHandle" ∧ (parseMethodDescriptor yX8_cut.desc).map (fun d => d.parameters.length) = some 1 := by decide +kernel
set_option maxRecDepth 20000 in
theorem wM_L_118 : (Cond.methodLink "ImpactShelfLaw" (118 : Nat) ({ cls := "ImpactShelf", name := "cut", desc := "(I)Z" } : MethodName)) ∈ LW := lw_in 329 (by decide +kernel) rfl
set_option maxRecDepth 20000 in
theorem wb_X9_mend : ∀ w ∈ ([.instanceMethod yX9_mend, .selects RX9 yX9_mend yX9_mend, .initialized RX9, .code yX9_mend cX9_mend 4 (some .boolean)] : List Cond), w ∈ LW := List.forall_mem_cons.mpr ⟨lw_in 1216 (by decide +kernel) rfl, List.forall_mem_cons.mpr ⟨lw_in 1217 (by decide +kernel) rfl, List.forall_mem_cons.mpr ⟨lw_in 10 (by decide +kernel) rfl, List.forall_mem_cons.mpr ⟨lw_in 1218 (by decide +kernel) rfl, fun _ h => absurd h List.not_mem_nil⟩⟩⟩⟩
set_option maxRecDepth 20000 in
theorem hy_X9_mend : yX9_mend.cls = RX9 ∧ yX9_mend.cls ≠ "java/lang/invoke/MethodHandle" ∧ yX9_mend.cls ≠ "java/lang/invoke/VarHandle" ∧ (parseMethodDescriptor yX9_mend.desc).map (fun d => d.parameters.length) = some 0 := by decide +kernel
set_option maxRecDepth 20000 in
theorem wM_L_126 : (Cond.methodLink "ImpactShelfLaw" (126 : Nat) ({ cls := "ImpactShelfModel", name := "mend", desc := "()Z" } : MethodName)) ∈ LW := lw_in 1215 (by decide +kernel) rfl
set_option maxRecDepth 20000 in
theorem wb_X8_mend : ∀ w ∈ ([.instanceMethod yX8_mend, .selects RX8 yX8_mend yX8_mend, .initialized RX8, .code yX8_mend cX8_mend 1 (some .boolean)] : List Cond), w ∈ LW := List.forall_mem_cons.mpr ⟨lw_in 338 (by decide +kernel) rfl, List.forall_mem_cons.mpr ⟨lw_in 339 (by decide +kernel) rfl, List.forall_mem_cons.mpr ⟨lw_in 1 (by decide +kernel) rfl, List.forall_mem_cons.mpr ⟨lw_in 340 (by decide +kernel) rfl, fun _ h => absurd h List.not_mem_nil⟩⟩⟩⟩
set_option maxRecDepth 20000 in
theorem hy_X8_mend : yX8_mend.cls = RX8 ∧ yX8_mend.cls ≠ "java/lang/invoke/MethodHandle" ∧ yX8_mend.cls ≠ "java/lang/invoke/VarHandle" ∧ (parseMethodDescriptor yX8_mend.desc).map (fun d => d.parameters.length) = some 0 := by decide +kernel
set_option maxRecDepth 20000 in
theorem wM_L_122 : (Cond.methodLink "ImpactShelfLaw" (122 : Nat) ({ cls := "ImpactShelf", name := "mend", desc := "()Z" } : MethodName)) ∈ LW := lw_in 337 (by decide +kernel) rfl
set_option maxRecDepth 20000 in
theorem wb_X9_publish : ∀ w ∈ ([.instanceMethod yX9_publish, .selects RX9 yX9_publish yX9_publish, .initialized RX9, .code yX9_publish cX9_publish 4 (some .int)] : List Cond), w ∈ LW := List.forall_mem_cons.mpr ⟨lw_in 1220 (by decide +kernel) rfl, List.forall_mem_cons.mpr ⟨lw_in 1221 (by decide +kernel) rfl, List.forall_mem_cons.mpr ⟨lw_in 10 (by decide +kernel) rfl, List.forall_mem_cons.mpr ⟨lw_in 1222 (by decide +kernel) rfl, fun _ h => absurd h List.not_mem_nil⟩⟩⟩⟩
set_option maxRecDepth 20000 in
theorem hy_X9_publish : yX9_publish.cls = RX9 ∧ yX9_publish.cls ≠ "java/lang/invoke/MethodHandle" ∧ yX9_publish.cls ≠ "java/lang/invoke/VarHandle" ∧ (parseMethodDescriptor yX9_publish.desc).map (fun d => d.parameters.length) = some 0 := by decide +kernel
set_option maxRecDepth 20000 in
theorem wM_L_129 : (Cond.methodLink "ImpactShelfLaw" (129 : Nat) ({ cls := "ImpactShelfModel", name := "publish", desc := "()I" } : MethodName)) ∈ LW := lw_in 1219 (by decide +kernel) rfl
set_option maxRecDepth 20000 in
theorem wb_L_publish : ∀ w ∈ ([.static yL_publish, .initialized yL_publish.cls, .codeWith yL_publish cL_publish 3 (some .int) [(0, 8, 11, 13), (0, 8, 14, 15)]] : List Cond), w ∈ LW := List.forall_mem_cons.mpr ⟨lw_in 715 (by decide +kernel) rfl, List.forall_mem_cons.mpr ⟨lw_in 0 (by decide +kernel) rfl, List.forall_mem_cons.mpr ⟨lw_in 716 (by decide +kernel) rfl, fun _ h => absurd h List.not_mem_nil⟩⟩⟩
set_option maxRecDepth 20000 in
theorem hy_L_publish : yL_publish.cls ≠ "java/lang/invoke/MethodHandle" ∧ yL_publish.cls ≠ "java/lang/invoke/VarHandle" ∧ (parseMethodDescriptor yL_publish.desc).map (fun d => d.parameters.length) = some 2 := by decide +kernel
set_option maxRecDepth 20000 in
theorem wM_L_127 : (Cond.methodLink "ImpactShelfLaw" (127 : Nat) ({ cls := "ImpactShelfLaw", name := "publish", desc := "(LImpactShelf;[J)I" } : MethodName)) ∈ LW := lw_in 714 (by decide +kernel) rfl
set_option maxRecDepth 20000 in
theorem wb_X9_open : ∀ w ∈ ([.instanceMethod yX9_open, .selects RX9 yX9_open yX9_open, .initialized RX9, .code yX9_open cX9_open 2 (some .int)] : List Cond), w ∈ LW := List.forall_mem_cons.mpr ⟨lw_in 1266 (by decide +kernel) rfl, List.forall_mem_cons.mpr ⟨lw_in 1267 (by decide +kernel) rfl, List.forall_mem_cons.mpr ⟨lw_in 10 (by decide +kernel) rfl, List.forall_mem_cons.mpr ⟨lw_in 1268 (by decide +kernel) rfl, fun _ h => absurd h List.not_mem_nil⟩⟩⟩⟩
set_option maxRecDepth 20000 in
theorem hy_X9_open : yX9_open.cls = RX9 ∧ yX9_open.cls ≠ "java/lang/invoke/MethodHandle" ∧ yX9_open.cls ≠ "java/lang/invoke/VarHandle" ∧ (parseMethodDescriptor yX9_open.desc).map (fun d => d.parameters.length) = some 1 := by decide +kernel
set_option maxRecDepth 20000 in
theorem wM_L_132 : (Cond.methodLink "ImpactShelfLaw" (132 : Nat) ({ cls := "ImpactShelfModel", name := "open", desc := "(I)I" } : MethodName)) ∈ LW := lw_in 1265 (by decide +kernel) rfl
set_option maxRecDepth 20000 in
theorem wb_L_open : ∀ w ∈ ([.static yL_open, .initialized yL_open.cls, .codeWith yL_open cL_open 4 (some .int) [(0, 9, 12, 13), (0, 9, 15, 15)]] : List Cond), w ∈ LW := List.forall_mem_cons.mpr ⟨lw_in 803 (by decide +kernel) rfl, List.forall_mem_cons.mpr ⟨lw_in 0 (by decide +kernel) rfl, List.forall_mem_cons.mpr ⟨lw_in 804 (by decide +kernel) rfl, fun _ h => absurd h List.not_mem_nil⟩⟩⟩
set_option maxRecDepth 20000 in
theorem hy_L_open : yL_open.cls ≠ "java/lang/invoke/MethodHandle" ∧ yL_open.cls ≠ "java/lang/invoke/VarHandle" ∧ (parseMethodDescriptor yL_open.desc).map (fun d => d.parameters.length) = some 3 := by decide +kernel
set_option maxRecDepth 20000 in
theorem wM_L_130 : (Cond.methodLink "ImpactShelfLaw" (130 : Nat) ({ cls := "ImpactShelfLaw", name := "open", desc := "(LImpactShelf;I[J)I" } : MethodName)) ∈ LW := lw_in 802 (by decide +kernel) rfl
set_option maxRecDepth 20000 in
theorem wb_X9_close : ∀ w ∈ ([.instanceMethod yX9_close, .selects RX9 yX9_close yX9_close, .initialized RX9, .code yX9_close cX9_close 4 (some .boolean)] : List Cond), w ∈ LW := List.forall_mem_cons.mpr ⟨lw_in 1273 (by decide +kernel) rfl, List.forall_mem_cons.mpr ⟨lw_in 1274 (by decide +kernel) rfl, List.forall_mem_cons.mpr ⟨lw_in 10 (by decide +kernel) rfl, List.forall_mem_cons.mpr ⟨lw_in 1275 (by decide +kernel) rfl, fun _ h => absurd h List.not_mem_nil⟩⟩⟩⟩
set_option maxRecDepth 20000 in
theorem hy_X9_close : yX9_close.cls = RX9 ∧ yX9_close.cls ≠ "java/lang/invoke/MethodHandle" ∧ yX9_close.cls ≠ "java/lang/invoke/VarHandle" ∧ (parseMethodDescriptor yX9_close.desc).map (fun d => d.parameters.length) = some 1 := by decide +kernel
set_option maxRecDepth 20000 in
theorem wM_L_135 : (Cond.methodLink "ImpactShelfLaw" (135 : Nat) ({ cls := "ImpactShelfModel", name := "close", desc := "(I)Z" } : MethodName)) ∈ LW := lw_in 1272 (by decide +kernel) rfl
set_option maxRecDepth 20000 in
theorem wb_L_close : ∀ w ∈ ([.static yL_close, .initialized yL_close.cls, .codeWith yL_close cL_close 4 (some .int) [(0, 16, 19, 13)]] : List Cond), w ∈ LW := List.forall_mem_cons.mpr ⟨lw_in 814 (by decide +kernel) rfl, List.forall_mem_cons.mpr ⟨lw_in 0 (by decide +kernel) rfl, List.forall_mem_cons.mpr ⟨lw_in 815 (by decide +kernel) rfl, fun _ h => absurd h List.not_mem_nil⟩⟩⟩
set_option maxRecDepth 20000 in
theorem hy_L_close : yL_close.cls ≠ "java/lang/invoke/MethodHandle" ∧ yL_close.cls ≠ "java/lang/invoke/VarHandle" ∧ (parseMethodDescriptor yL_close.desc).map (fun d => d.parameters.length) = some 3 := by decide +kernel
set_option maxRecDepth 20000 in
theorem wM_L_133 : (Cond.methodLink "ImpactShelfLaw" (133 : Nat) ({ cls := "ImpactShelfLaw", name := "close", desc := "(LImpactShelf;I[J)I" } : MethodName)) ∈ LW := lw_in 813 (by decide +kernel) rfl
set_option maxRecDepth 20000 in
theorem wb_X9_query : ∀ w ∈ ([.instanceMethod yX9_query, .selects RX9 yX9_query yX9_query, .initialized RX9, .code yX9_query cX9_query 9 (some .int)] : List Cond), w ∈ LW := List.forall_mem_cons.mpr ⟨lw_in 1277 (by decide +kernel) rfl, List.forall_mem_cons.mpr ⟨lw_in 1278 (by decide +kernel) rfl, List.forall_mem_cons.mpr ⟨lw_in 10 (by decide +kernel) rfl, List.forall_mem_cons.mpr ⟨lw_in 1279 (by decide +kernel) rfl, fun _ h => absurd h List.not_mem_nil⟩⟩⟩⟩
set_option maxRecDepth 20000 in
theorem hy_X9_query : yX9_query.cls = RX9 ∧ yX9_query.cls ≠ "java/lang/invoke/MethodHandle" ∧ yX9_query.cls ≠ "java/lang/invoke/VarHandle" ∧ (parseMethodDescriptor yX9_query.desc).map (fun d => d.parameters.length) = some 4 := by decide +kernel
set_option maxRecDepth 20000 in
theorem wM_L_139 : (Cond.methodLink "ImpactShelfLaw" (139 : Nat) ({ cls := "ImpactShelfModel", name := "query", desc := "(IIIJ)I" } : MethodName)) ∈ LW := lw_in 1276 (by decide +kernel) rfl
set_option maxRecDepth 20000 in
theorem wb_L_query : ∀ w ∈ ([.static yL_query, .initialized yL_query.cls, .codeWith yL_query cL_query 8 (some .int) [(0, 14, 17, 13), (0, 14, 21, 15)]] : List Cond), w ∈ LW := List.forall_mem_cons.mpr ⟨lw_in 829 (by decide +kernel) rfl, List.forall_mem_cons.mpr ⟨lw_in 0 (by decide +kernel) rfl, List.forall_mem_cons.mpr ⟨lw_in 830 (by decide +kernel) rfl, fun _ h => absurd h List.not_mem_nil⟩⟩⟩
set_option maxRecDepth 20000 in
theorem hy_L_query : yL_query.cls ≠ "java/lang/invoke/MethodHandle" ∧ yL_query.cls ≠ "java/lang/invoke/VarHandle" ∧ (parseMethodDescriptor yL_query.desc).map (fun d => d.parameters.length) = some 6 := by decide +kernel
set_option maxRecDepth 20000 in
theorem wM_L_136 : (Cond.methodLink "ImpactShelfLaw" (136 : Nat) ({ cls := "ImpactShelfLaw", name := "query", desc := "(LImpactShelf;IIIJ[J)I" } : MethodName)) ∈ LW := lw_in 828 (by decide +kernel) rfl
set_option maxRecDepth 20000 in
theorem wb_X9_hit : ∀ w ∈ ([.instanceMethod yX9_hit, .selects RX9 yX9_hit yX9_hit, .initialized RX9, .code yX9_hit cX9_hit 3 (some .int)] : List Cond), w ∈ LW := List.forall_mem_cons.mpr ⟨lw_in 1301 (by decide +kernel) rfl, List.forall_mem_cons.mpr ⟨lw_in 1302 (by decide +kernel) rfl, List.forall_mem_cons.mpr ⟨lw_in 10 (by decide +kernel) rfl, List.forall_mem_cons.mpr ⟨lw_in 1303 (by decide +kernel) rfl, fun _ h => absurd h List.not_mem_nil⟩⟩⟩⟩
set_option maxRecDepth 20000 in
theorem hy_X9_hit : yX9_hit.cls = RX9 ∧ yX9_hit.cls ≠ "java/lang/invoke/MethodHandle" ∧ yX9_hit.cls ≠ "java/lang/invoke/VarHandle" ∧ (parseMethodDescriptor yX9_hit.desc).map (fun d => d.parameters.length) = some 2 := by decide +kernel
set_option maxRecDepth 20000 in
theorem wM_L_142 : (Cond.methodLink "ImpactShelfLaw" (142 : Nat) ({ cls := "ImpactShelfModel", name := "hit", desc := "(II)I" } : MethodName)) ∈ LW := lw_in 1300 (by decide +kernel) rfl
set_option maxRecDepth 20000 in
theorem wb_L_hit : ∀ w ∈ ([.static yL_hit, .initialized yL_hit.cls, .codeWith yL_hit cL_hit 5 (some .int) [(0, 10, 13, 25)]] : List Cond), w ∈ LW := List.forall_mem_cons.mpr ⟨lw_in 881 (by decide +kernel) rfl, List.forall_mem_cons.mpr ⟨lw_in 0 (by decide +kernel) rfl, List.forall_mem_cons.mpr ⟨lw_in 882 (by decide +kernel) rfl, fun _ h => absurd h List.not_mem_nil⟩⟩⟩
set_option maxRecDepth 20000 in
theorem hy_L_hit : yL_hit.cls ≠ "java/lang/invoke/MethodHandle" ∧ yL_hit.cls ≠ "java/lang/invoke/VarHandle" ∧ (parseMethodDescriptor yL_hit.desc).map (fun d => d.parameters.length) = some 4 := by decide +kernel
set_option maxRecDepth 20000 in
theorem wM_L_140 : (Cond.methodLink "ImpactShelfLaw" (140 : Nat) ({ cls := "ImpactShelfLaw", name := "hit", desc := "(LImpactShelf;II[J)I" } : MethodName)) ∈ LW := lw_in 880 (by decide +kernel) rfl
set_option maxRecDepth 20000 in
theorem wb_X9_sum : ∀ w ∈ ([.instanceMethod yX9_sum, .selects RX9 yX9_sum yX9_sum, .initialized RX9, .code yX9_sum cX9_sum 2 (some .int)] : List Cond), w ∈ LW := List.forall_mem_cons.mpr ⟨lw_in 1305 (by decide +kernel) rfl, List.forall_mem_cons.mpr ⟨lw_in 1306 (by decide +kernel) rfl, List.forall_mem_cons.mpr ⟨lw_in 10 (by decide +kernel) rfl, List.forall_mem_cons.mpr ⟨lw_in 1307 (by decide +kernel) rfl, fun _ h => absurd h List.not_mem_nil⟩⟩⟩⟩
set_option maxRecDepth 20000 in
theorem hy_X9_sum : yX9_sum.cls = RX9 ∧ yX9_sum.cls ≠ "java/lang/invoke/MethodHandle" ∧ yX9_sum.cls ≠ "java/lang/invoke/VarHandle" ∧ (parseMethodDescriptor yX9_sum.desc).map (fun d => d.parameters.length) = some 1 := by decide +kernel
set_option maxRecDepth 20000 in
theorem wM_L_145 : (Cond.methodLink "ImpactShelfLaw" (145 : Nat) ({ cls := "ImpactShelfModel", name := "sum", desc := "(I)I" } : MethodName)) ∈ LW := lw_in 1304 (by decide +kernel) rfl
set_option maxRecDepth 20000 in
theorem wb_L_sum : ∀ w ∈ ([.static yL_sum, .initialized yL_sum.cls, .codeWith yL_sum cL_sum 4 (some .int) [(0, 9, 12, 13)]] : List Cond), w ∈ LW := List.forall_mem_cons.mpr ⟨lw_in 888 (by decide +kernel) rfl, List.forall_mem_cons.mpr ⟨lw_in 0 (by decide +kernel) rfl, List.forall_mem_cons.mpr ⟨lw_in 889 (by decide +kernel) rfl, fun _ h => absurd h List.not_mem_nil⟩⟩⟩
set_option maxRecDepth 20000 in
theorem hy_L_sum : yL_sum.cls ≠ "java/lang/invoke/MethodHandle" ∧ yL_sum.cls ≠ "java/lang/invoke/VarHandle" ∧ (parseMethodDescriptor yL_sum.desc).map (fun d => d.parameters.length) = some 3 := by decide +kernel
set_option maxRecDepth 20000 in
theorem wM_L_143 : (Cond.methodLink "ImpactShelfLaw" (143 : Nat) ({ cls := "ImpactShelfLaw", name := "sum", desc := "(LImpactShelf;I[J)I" } : MethodName)) ∈ LW := lw_in 887 (by decide +kernel) rfl
set_option maxRecDepth 20000 in
theorem wb_X9_last : ∀ w ∈ ([.instanceMethod yX9_last, .selects RX9 yX9_last yX9_last, .initialized RX9, .code yX9_last cX9_last 2 (some .int)] : List Cond), w ∈ LW := List.forall_mem_cons.mpr ⟨lw_in 1310 (by decide +kernel) rfl, List.forall_mem_cons.mpr ⟨lw_in 1311 (by decide +kernel) rfl, List.forall_mem_cons.mpr ⟨lw_in 10 (by decide +kernel) rfl, List.forall_mem_cons.mpr ⟨lw_in 1312 (by decide +kernel) rfl, fun _ h => absurd h List.not_mem_nil⟩⟩⟩⟩
set_option maxRecDepth 20000 in
theorem hy_X9_last : yX9_last.cls = RX9 ∧ yX9_last.cls ≠ "java/lang/invoke/MethodHandle" ∧ yX9_last.cls ≠ "java/lang/invoke/VarHandle" ∧ (parseMethodDescriptor yX9_last.desc).map (fun d => d.parameters.length) = some 1 := by decide +kernel
set_option maxRecDepth 20000 in
theorem wM_L_148 : (Cond.methodLink "ImpactShelfLaw" (148 : Nat) ({ cls := "ImpactShelfModel", name := "last", desc := "(I)I" } : MethodName)) ∈ LW := lw_in 1309 (by decide +kernel) rfl
set_option maxRecDepth 20000 in
theorem wb_L_last : ∀ w ∈ ([.static yL_last, .initialized yL_last.cls, .codeWith yL_last cL_last 4 (some .int) [(0, 9, 12, 25)]] : List Cond), w ∈ LW := List.forall_mem_cons.mpr ⟨lw_in 895 (by decide +kernel) rfl, List.forall_mem_cons.mpr ⟨lw_in 0 (by decide +kernel) rfl, List.forall_mem_cons.mpr ⟨lw_in 896 (by decide +kernel) rfl, fun _ h => absurd h List.not_mem_nil⟩⟩⟩
set_option maxRecDepth 20000 in
theorem hy_L_last : yL_last.cls ≠ "java/lang/invoke/MethodHandle" ∧ yL_last.cls ≠ "java/lang/invoke/VarHandle" ∧ (parseMethodDescriptor yL_last.desc).map (fun d => d.parameters.length) = some 3 := by decide +kernel
set_option maxRecDepth 20000 in
theorem wM_L_146 : (Cond.methodLink "ImpactShelfLaw" (146 : Nat) ({ cls := "ImpactShelfLaw", name := "last", desc := "(LImpactShelf;I[J)I" } : MethodName)) ∈ LW := lw_in 894 (by decide +kernel) rfl
set_option maxRecDepth 20000 in
theorem wb_X9_plan : ∀ w ∈ ([.instanceMethod yX9_plan, .selects RX9 yX9_plan yX9_plan, .initialized RX9, .code yX9_plan cX9_plan 3 (some .int)] : List Cond), w ∈ LW := List.forall_mem_cons.mpr ⟨lw_in 1315 (by decide +kernel) rfl, List.forall_mem_cons.mpr ⟨lw_in 1316 (by decide +kernel) rfl, List.forall_mem_cons.mpr ⟨lw_in 10 (by decide +kernel) rfl, List.forall_mem_cons.mpr ⟨lw_in 1317 (by decide +kernel) rfl, fun _ h => absurd h List.not_mem_nil⟩⟩⟩⟩
set_option maxRecDepth 20000 in
theorem hy_X9_plan : yX9_plan.cls = RX9 ∧ yX9_plan.cls ≠ "java/lang/invoke/MethodHandle" ∧ yX9_plan.cls ≠ "java/lang/invoke/VarHandle" ∧ (parseMethodDescriptor yX9_plan.desc).map (fun d => d.parameters.length) = some 2 := by decide +kernel
set_option maxRecDepth 20000 in
theorem wM_L_151 : (Cond.methodLink "ImpactShelfLaw" (151 : Nat) ({ cls := "ImpactShelfModel", name := "plan", desc := "(II)I" } : MethodName)) ∈ LW := lw_in 1314 (by decide +kernel) rfl
set_option maxRecDepth 20000 in
theorem wb_L_plan : ∀ w ∈ ([.static yL_plan, .initialized yL_plan.cls, .codeWith yL_plan cL_plan 5 (some .int) [(0, 10, 13, 25)]] : List Cond), w ∈ LW := List.forall_mem_cons.mpr ⟨lw_in 902 (by decide +kernel) rfl, List.forall_mem_cons.mpr ⟨lw_in 0 (by decide +kernel) rfl, List.forall_mem_cons.mpr ⟨lw_in 903 (by decide +kernel) rfl, fun _ h => absurd h List.not_mem_nil⟩⟩⟩
set_option maxRecDepth 20000 in
theorem hy_L_plan : yL_plan.cls ≠ "java/lang/invoke/MethodHandle" ∧ yL_plan.cls ≠ "java/lang/invoke/VarHandle" ∧ (parseMethodDescriptor yL_plan.desc).map (fun d => d.parameters.length) = some 4 := by decide +kernel
set_option maxRecDepth 20000 in
theorem wM_L_149 : (Cond.methodLink "ImpactShelfLaw" (149 : Nat) ({ cls := "ImpactShelfLaw", name := "plan", desc := "(LImpactShelf;II[J)I" } : MethodName)) ∈ LW := lw_in 901 (by decide +kernel) rfl
set_option maxRecDepth 20000 in
theorem wb_X9_exhaustive : ∀ w ∈ ([.instanceMethod yX9_exhaustive, .selects RX9 yX9_exhaustive yX9_exhaustive, .initialized RX9, .code yX9_exhaustive cX9_exhaustive 1 (some .boolean)] : List Cond), w ∈ LW := List.forall_mem_cons.mpr ⟨lw_in 1319 (by decide +kernel) rfl, List.forall_mem_cons.mpr ⟨lw_in 1320 (by decide +kernel) rfl, List.forall_mem_cons.mpr ⟨lw_in 10 (by decide +kernel) rfl, List.forall_mem_cons.mpr ⟨lw_in 1321 (by decide +kernel) rfl, fun _ h => absurd h List.not_mem_nil⟩⟩⟩⟩
set_option maxRecDepth 20000 in
theorem hy_X9_exhaustive : yX9_exhaustive.cls = RX9 ∧ yX9_exhaustive.cls ≠ "java/lang/invoke/MethodHandle" ∧ yX9_exhaustive.cls ≠ "java/lang/invoke/VarHandle" ∧ (parseMethodDescriptor yX9_exhaustive.desc).map (fun d => d.parameters.length) = some 0 := by decide +kernel
set_option maxRecDepth 20000 in
theorem wM_L_155 : (Cond.methodLink "ImpactShelfLaw" (155 : Nat) ({ cls := "ImpactShelfModel", name := "exhaustive", desc := "()Z" } : MethodName)) ∈ LW := lw_in 1318 (by decide +kernel) rfl
set_option maxRecDepth 20000 in
theorem wb_X8_exhaustive : ∀ w ∈ ([.instanceMethod yX8_exhaustive, .selects RX8 yX8_exhaustive yX8_exhaustive, .initialized RX8, .code yX8_exhaustive cX8_exhaustive 1 (some .boolean)] : List Cond), w ∈ LW := List.forall_mem_cons.mpr ⟨lw_in 359 (by decide +kernel) rfl, List.forall_mem_cons.mpr ⟨lw_in 360 (by decide +kernel) rfl, List.forall_mem_cons.mpr ⟨lw_in 1 (by decide +kernel) rfl, List.forall_mem_cons.mpr ⟨lw_in 361 (by decide +kernel) rfl, fun _ h => absurd h List.not_mem_nil⟩⟩⟩⟩
set_option maxRecDepth 20000 in
theorem hy_X8_exhaustive : yX8_exhaustive.cls = RX8 ∧ yX8_exhaustive.cls ≠ "java/lang/invoke/MethodHandle" ∧ yX8_exhaustive.cls ≠ "java/lang/invoke/VarHandle" ∧ (parseMethodDescriptor yX8_exhaustive.desc).map (fun d => d.parameters.length) = some 0 := by decide +kernel
set_option maxRecDepth 20000 in
theorem wM_L_152 : (Cond.methodLink "ImpactShelfLaw" (152 : Nat) ({ cls := "ImpactShelf", name := "exhaustive", desc := "()Z" } : MethodName)) ∈ LW := lw_in 358 (by decide +kernel) rfl
set_option maxRecDepth 20000 in
theorem wb_X9_look : ∀ w ∈ ([.instanceMethod yX9_look, .selects RX9 yX9_look yX9_look, .initialized RX9, .code yX9_look cX9_look 2 (some .int)] : List Cond), w ∈ LW := List.forall_mem_cons.mpr ⟨lw_in 1323 (by decide +kernel) rfl, List.forall_mem_cons.mpr ⟨lw_in 1324 (by decide +kernel) rfl, List.forall_mem_cons.mpr ⟨lw_in 10 (by decide +kernel) rfl, List.forall_mem_cons.mpr ⟨lw_in 1325 (by decide +kernel) rfl, fun _ h => absurd h List.not_mem_nil⟩⟩⟩⟩
set_option maxRecDepth 20000 in
theorem hy_X9_look : yX9_look.cls = RX9 ∧ yX9_look.cls ≠ "java/lang/invoke/MethodHandle" ∧ yX9_look.cls ≠ "java/lang/invoke/VarHandle" ∧ (parseMethodDescriptor yX9_look.desc).map (fun d => d.parameters.length) = some 1 := by decide +kernel
set_option maxRecDepth 20000 in
theorem wM_L_158 : (Cond.methodLink "ImpactShelfLaw" (158 : Nat) ({ cls := "ImpactShelfModel", name := "look", desc := "(I)I" } : MethodName)) ∈ LW := lw_in 1322 (by decide +kernel) rfl
set_option maxRecDepth 20000 in
theorem wb_L_look : ∀ w ∈ ([.static yL_look, .initialized yL_look.cls, .codeWith yL_look cL_look 4 (some .int) [(0, 9, 12, 25)]] : List Cond), w ∈ LW := List.forall_mem_cons.mpr ⟨lw_in 909 (by decide +kernel) rfl, List.forall_mem_cons.mpr ⟨lw_in 0 (by decide +kernel) rfl, List.forall_mem_cons.mpr ⟨lw_in 910 (by decide +kernel) rfl, fun _ h => absurd h List.not_mem_nil⟩⟩⟩
set_option maxRecDepth 20000 in
theorem hy_L_look : yL_look.cls ≠ "java/lang/invoke/MethodHandle" ∧ yL_look.cls ≠ "java/lang/invoke/VarHandle" ∧ (parseMethodDescriptor yL_look.desc).map (fun d => d.parameters.length) = some 3 := by decide +kernel
set_option maxRecDepth 20000 in
theorem wM_L_156 : (Cond.methodLink "ImpactShelfLaw" (156 : Nat) ({ cls := "ImpactShelfLaw", name := "look", desc := "(LImpactShelf;I[J)I" } : MethodName)) ∈ LW := lw_in 908 (by decide +kernel) rfl
set_option maxRecDepth 20000 in
theorem wb_X9_holds : ∀ w ∈ ([.instanceMethod yX9_holds, .selects RX9 yX9_holds yX9_holds, .initialized RX9, .code yX9_holds cX9_holds 2 (some .int)] : List Cond), w ∈ LW := List.forall_mem_cons.mpr ⟨lw_in 1328 (by decide +kernel) rfl, List.forall_mem_cons.mpr ⟨lw_in 1329 (by decide +kernel) rfl, List.forall_mem_cons.mpr ⟨lw_in 10 (by decide +kernel) rfl, List.forall_mem_cons.mpr ⟨lw_in 1330 (by decide +kernel) rfl, fun _ h => absurd h List.not_mem_nil⟩⟩⟩⟩
set_option maxRecDepth 20000 in
theorem hy_X9_holds : yX9_holds.cls = RX9 ∧ yX9_holds.cls ≠ "java/lang/invoke/MethodHandle" ∧ yX9_holds.cls ≠ "java/lang/invoke/VarHandle" ∧ (parseMethodDescriptor yX9_holds.desc).map (fun d => d.parameters.length) = some 1 := by decide +kernel
set_option maxRecDepth 20000 in
theorem wM_L_161 : (Cond.methodLink "ImpactShelfLaw" (161 : Nat) ({ cls := "ImpactShelfModel", name := "holds", desc := "(I)I" } : MethodName)) ∈ LW := lw_in 1327 (by decide +kernel) rfl
set_option maxRecDepth 20000 in
theorem wb_L_holds : ∀ w ∈ ([.static yL_holds, .initialized yL_holds.cls, .codeWith yL_holds cL_holds 4 (some .int) [(0, 9, 12, 13)]] : List Cond), w ∈ LW := List.forall_mem_cons.mpr ⟨lw_in 920 (by decide +kernel) rfl, List.forall_mem_cons.mpr ⟨lw_in 0 (by decide +kernel) rfl, List.forall_mem_cons.mpr ⟨lw_in 921 (by decide +kernel) rfl, fun _ h => absurd h List.not_mem_nil⟩⟩⟩
set_option maxRecDepth 20000 in
theorem hy_L_holds : yL_holds.cls ≠ "java/lang/invoke/MethodHandle" ∧ yL_holds.cls ≠ "java/lang/invoke/VarHandle" ∧ (parseMethodDescriptor yL_holds.desc).map (fun d => d.parameters.length) = some 3 := by decide +kernel
set_option maxRecDepth 20000 in
theorem wM_L_159 : (Cond.methodLink "ImpactShelfLaw" (159 : Nat) ({ cls := "ImpactShelfLaw", name := "holds", desc := "(LImpactShelf;I[J)I" } : MethodName)) ∈ LW := lw_in 919 (by decide +kernel) rfl
set_option maxRecDepth 20000 in
theorem wb_X9_index : ∀ w ∈ ([.instanceMethod yX9_index, .selects RX9 yX9_index yX9_index, .initialized RX9, .code yX9_index cX9_index 6 (some .int)] : List Cond), w ∈ LW := List.forall_mem_cons.mpr ⟨lw_in 1332 (by decide +kernel) rfl, List.forall_mem_cons.mpr ⟨lw_in 1333 (by decide +kernel) rfl, List.forall_mem_cons.mpr ⟨lw_in 10 (by decide +kernel) rfl, List.forall_mem_cons.mpr ⟨lw_in 1334 (by decide +kernel) rfl, fun _ h => absurd h List.not_mem_nil⟩⟩⟩⟩
set_option maxRecDepth 20000 in
theorem hy_X9_index : yX9_index.cls = RX9 ∧ yX9_index.cls ≠ "java/lang/invoke/MethodHandle" ∧ yX9_index.cls ≠ "java/lang/invoke/VarHandle" ∧ (parseMethodDescriptor yX9_index.desc).map (fun d => d.parameters.length) = some 2 := by decide +kernel
set_option maxRecDepth 20000 in
theorem wM_L_164 : (Cond.methodLink "ImpactShelfLaw" (164 : Nat) ({ cls := "ImpactShelfModel", name := "index", desc := "(II)I" } : MethodName)) ∈ LW := lw_in 1331 (by decide +kernel) rfl
set_option maxRecDepth 20000 in
theorem wb_L_index : ∀ w ∈ ([.static yL_index, .initialized yL_index.cls, .codeWith yL_index cL_index 5 (some .int) [(0, 10, 13, 13), (0, 10, 17, 15)]] : List Cond), w ∈ LW := List.forall_mem_cons.mpr ⟨lw_in 927 (by decide +kernel) rfl, List.forall_mem_cons.mpr ⟨lw_in 0 (by decide +kernel) rfl, List.forall_mem_cons.mpr ⟨lw_in 928 (by decide +kernel) rfl, fun _ h => absurd h List.not_mem_nil⟩⟩⟩
set_option maxRecDepth 20000 in
theorem hy_L_index : yL_index.cls ≠ "java/lang/invoke/MethodHandle" ∧ yL_index.cls ≠ "java/lang/invoke/VarHandle" ∧ (parseMethodDescriptor yL_index.desc).map (fun d => d.parameters.length) = some 4 := by decide +kernel
set_option maxRecDepth 20000 in
theorem wM_L_162 : (Cond.methodLink "ImpactShelfLaw" (162 : Nat) ({ cls := "ImpactShelfLaw", name := "index", desc := "(LImpactShelf;II[J)I" } : MethodName)) ∈ LW := lw_in 926 (by decide +kernel) rfl
set_option maxRecDepth 20000 in
theorem wb_X9_clock : ∀ w ∈ ([.instanceMethod yX9_clock, .selects RX9 yX9_clock yX9_clock, .initialized RX9, .code yX9_clock cX9_clock 1 (some .long)] : List Cond), w ∈ LW := List.forall_mem_cons.mpr ⟨lw_in 1340 (by decide +kernel) rfl, List.forall_mem_cons.mpr ⟨lw_in 1341 (by decide +kernel) rfl, List.forall_mem_cons.mpr ⟨lw_in 10 (by decide +kernel) rfl, List.forall_mem_cons.mpr ⟨lw_in 1342 (by decide +kernel) rfl, fun _ h => absurd h List.not_mem_nil⟩⟩⟩⟩
set_option maxRecDepth 20000 in
theorem hy_X9_clock : yX9_clock.cls = RX9 ∧ yX9_clock.cls ≠ "java/lang/invoke/MethodHandle" ∧ yX9_clock.cls ≠ "java/lang/invoke/VarHandle" ∧ (parseMethodDescriptor yX9_clock.desc).map (fun d => d.parameters.length) = some 0 := by decide +kernel
set_option maxRecDepth 20000 in
theorem wM_L_169 : (Cond.methodLink "ImpactShelfLaw" (169 : Nat) ({ cls := "ImpactShelfModel", name := "clock", desc := "()J" } : MethodName)) ∈ LW := lw_in 1339 (by decide +kernel) rfl
set_option maxRecDepth 20000 in
theorem wb_X8_clock : ∀ w ∈ ([.instanceMethod yX8_clock, .selects RX8 yX8_clock yX8_clock, .initialized RX8, .code yX8_clock cX8_clock 1 (some .long)] : List Cond), w ∈ LW := List.forall_mem_cons.mpr ⟨lw_in 371 (by decide +kernel) rfl, List.forall_mem_cons.mpr ⟨lw_in 372 (by decide +kernel) rfl, List.forall_mem_cons.mpr ⟨lw_in 1 (by decide +kernel) rfl, List.forall_mem_cons.mpr ⟨lw_in 373 (by decide +kernel) rfl, fun _ h => absurd h List.not_mem_nil⟩⟩⟩⟩
set_option maxRecDepth 20000 in
theorem hy_X8_clock : yX8_clock.cls = RX8 ∧ yX8_clock.cls ≠ "java/lang/invoke/MethodHandle" ∧ yX8_clock.cls ≠ "java/lang/invoke/VarHandle" ∧ (parseMethodDescriptor yX8_clock.desc).map (fun d => d.parameters.length) = some 0 := by decide +kernel
set_option maxRecDepth 20000 in
theorem wM_L_165 : (Cond.methodLink "ImpactShelfLaw" (165 : Nat) ({ cls := "ImpactShelf", name := "clock", desc := "()J" } : MethodName)) ∈ LW := lw_in 370 (by decide +kernel) rfl
