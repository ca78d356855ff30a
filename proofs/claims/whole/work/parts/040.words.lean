theorem ic_1 : Int32.ofInt (1) = 1 := by decide
theorem bp_8 : (Int8.ofInt (8)).toInt32 = 8 := by decide
theorem sp_3000 : (Int16.ofInt (3000)).toInt32 = 3000 := by decide
theorem ic_0 : Int32.ofInt (0) = 0 := by decide
theorem sp_255 : (Int16.ofInt (255)).toInt32 = 255 := by decide
theorem bp_65 : (Int8.ofInt (65)).toInt32 = 65 := by decide
theorem bp_97 : (Int8.ofInt (97)).toInt32 = 97 := by decide
theorem bp_122 : (Int8.ofInt (122)).toInt32 = 122 := by decide
theorem bp_90 : (Int8.ofInt (90)).toInt32 = 90 := by decide
theorem bp_7 : (Int8.ofInt (7)).toInt32 = 7 := by decide
theorem ic_3 : Int32.ofInt (3) = 3 := by decide
theorem bp_115 : (Int8.ofInt (115)).toInt32 = 115 := by decide
theorem ic_2 : Int32.ofInt (2) = 2 := by decide
theorem sp_1500 : (Int16.ofInt (1500)).toInt32 = 1500 := by decide
theorem bp_40 : (Int8.ofInt (40)).toInt32 = 40 := by decide
theorem bp_64 : (Int8.ofInt (64)).toInt32 = 64 := by decide
theorem sp_600 : (Int16.ofInt (600)).toInt32 = 600 := by decide
theorem ic_m1 : Int32.ofInt (-1) = (-1) := by decide
theorem swo_3 {x : Int32} (h0 : ¬ x = 0) (h1 : ¬ x = 1) (h2 : ¬ x = 2) (h3 : ¬ x = 3) : x.toInt < 0 ∨ 3 < x.toInt := by
  apply Classical.byContradiction
  intro q
  have q1 : 0 ≤ x.toInt := by omega
  have q2 : x.toInt ≤ 3 := by omega
  have e0 : x.toInt ≠ 0 := fun e => h0 (Int32.toInt_inj.mp (e.trans (by decide)))
  have e1 : x.toInt ≠ 1 := fun e => h1 (Int32.toInt_inj.mp (e.trans (by decide)))
  have e2 : x.toInt ≠ 2 := fun e => h2 (Int32.toInt_inj.mp (e.trans (by decide)))
  have e3 : x.toInt ≠ 3 := fun e => h3 (Int32.toInt_inj.mp (e.trans (by decide)))
  omega
theorem sp_1100 : (Int16.ofInt (1100)).toInt32 = 1100 := by decide
theorem bp_23 : (Int8.ofInt (23)).toInt32 = 23 := by decide
theorem sp_128 : (Int16.ofInt (128)).toInt32 = 128 := by decide
theorem ic_4 : Int32.ofInt (4) = 4 := by decide
theorem bp_31 : (Int8.ofInt (31)).toInt32 = 31 := by decide
theorem ic_m8 : Int32.ofInt (-8) = (-8) := by decide
theorem bp_73 : (Int8.ofInt (73)).toInt32 = 73 := by decide
theorem bp_109 : (Int8.ofInt (109)).toInt32 = 109 := by decide
theorem bp_6 : (Int8.ofInt (6)).toInt32 = 6 := by decide
theorem ic_8 : Int32.ofInt (8) = 8 := by decide
theorem sp_320 : (Int16.ofInt (320)).toInt32 = 320 := by decide
theorem swo_5 {x : Int32} (h0 : ¬ x = 0) (h1 : ¬ x = 1) (h2 : ¬ x = 2) (h3 : ¬ x = 3) (h4 : ¬ x = 4) (h5 : ¬ x = 5) : x.toInt < 0 ∨ 5 < x.toInt := by
  apply Classical.byContradiction
  intro q
  have q1 : 0 ≤ x.toInt := by omega
  have q2 : x.toInt ≤ 5 := by omega
  have e0 : x.toInt ≠ 0 := fun e => h0 (Int32.toInt_inj.mp (e.trans (by decide)))
  have e1 : x.toInt ≠ 1 := fun e => h1 (Int32.toInt_inj.mp (e.trans (by decide)))
  have e2 : x.toInt ≠ 2 := fun e => h2 (Int32.toInt_inj.mp (e.trans (by decide)))
  have e3 : x.toInt ≠ 3 := fun e => h3 (Int32.toInt_inj.mp (e.trans (by decide)))
  have e4 : x.toInt ≠ 4 := fun e => h4 (Int32.toInt_inj.mp (e.trans (by decide)))
  have e5 : x.toInt ≠ 5 := fun e => h5 (Int32.toInt_inj.mp (e.trans (by decide)))
  omega
theorem swo_2 {x : Int32} (h0 : ¬ x = 0) (h1 : ¬ x = 1) (h2 : ¬ x = 2) : x.toInt < 0 ∨ 2 < x.toInt := by
  apply Classical.byContradiction
  intro q
  have q1 : 0 ≤ x.toInt := by omega
  have q2 : x.toInt ≤ 2 := by omega
  have e0 : x.toInt ≠ 0 := fun e => h0 (Int32.toInt_inj.mp (e.trans (by decide)))
  have e1 : x.toInt ≠ 1 := fun e => h1 (Int32.toInt_inj.mp (e.trans (by decide)))
  have e2 : x.toInt ≠ 2 := fun e => h2 (Int32.toInt_inj.mp (e.trans (by decide)))
  omega
theorem swo_4 {x : Int32} (h0 : ¬ x = 0) (h1 : ¬ x = 1) (h2 : ¬ x = 2) (h3 : ¬ x = 3) (h4 : ¬ x = 4) : x.toInt < 0 ∨ 4 < x.toInt := by
  apply Classical.byContradiction
  intro q
  have q1 : 0 ≤ x.toInt := by omega
  have q2 : x.toInt ≤ 4 := by omega
  have e0 : x.toInt ≠ 0 := fun e => h0 (Int32.toInt_inj.mp (e.trans (by decide)))
  have e1 : x.toInt ≠ 1 := fun e => h1 (Int32.toInt_inj.mp (e.trans (by decide)))
  have e2 : x.toInt ≠ 2 := fun e => h2 (Int32.toInt_inj.mp (e.trans (by decide)))
  have e3 : x.toInt ≠ 3 := fun e => h3 (Int32.toInt_inj.mp (e.trans (by decide)))
  have e4 : x.toInt ≠ 4 := fun e => h4 (Int32.toInt_inj.mp (e.trans (by decide)))
  omega
theorem bp_32 : (Int8.ofInt (32)).toInt32 = 32 := by decide
theorem bp_24 : (Int8.ofInt (24)).toInt32 = 24 := by decide
theorem sp_2560 : (Int16.ofInt (2560)).toInt32 = 2560 := by decide
theorem sp_512 : (Int16.ofInt (512)).toInt32 = 512 := by decide
theorem ic_5 : Int32.ofInt (5) = 5 := by decide
theorem bp_10 : (Int8.ofInt (10)).toInt32 = 10 := by decide
theorem bp_15 : (Int8.ofInt (15)).toInt32 = 15 := by decide
theorem bp_20 : (Int8.ofInt (20)).toInt32 = 20 := by decide
theorem bp_30 : (Int8.ofInt (30)).toInt32 = 30 := by decide
theorem bp_60 : (Int8.ofInt (60)).toInt32 = 60 := by decide
theorem swo_9 {x : Int32} (h0 : ¬ x = 0) (h1 : ¬ x = 1) (h2 : ¬ x = 2) (h3 : ¬ x = 3) (h4 : ¬ x = 4) (h5 : ¬ x = 5) (h6 : ¬ x = 6) (h7 : ¬ x = 7) (h8 : ¬ x = 8) (h9 : ¬ x = 9) : x.toInt < 0 ∨ 9 < x.toInt := by
  apply Classical.byContradiction
  intro q
  have q1 : 0 ≤ x.toInt := by omega
  have q2 : x.toInt ≤ 9 := by omega
  have e0 : x.toInt ≠ 0 := fun e => h0 (Int32.toInt_inj.mp (e.trans (by decide)))
  have e1 : x.toInt ≠ 1 := fun e => h1 (Int32.toInt_inj.mp (e.trans (by decide)))
  have e2 : x.toInt ≠ 2 := fun e => h2 (Int32.toInt_inj.mp (e.trans (by decide)))
  have e3 : x.toInt ≠ 3 := fun e => h3 (Int32.toInt_inj.mp (e.trans (by decide)))
  have e4 : x.toInt ≠ 4 := fun e => h4 (Int32.toInt_inj.mp (e.trans (by decide)))
  have e5 : x.toInt ≠ 5 := fun e => h5 (Int32.toInt_inj.mp (e.trans (by decide)))
  have e6 : x.toInt ≠ 6 := fun e => h6 (Int32.toInt_inj.mp (e.trans (by decide)))
  have e7 : x.toInt ≠ 7 := fun e => h7 (Int32.toInt_inj.mp (e.trans (by decide)))
  have e8 : x.toInt ≠ 8 := fun e => h8 (Int32.toInt_inj.mp (e.trans (by decide)))
  have e9 : x.toInt ≠ 9 := fun e => h9 (Int32.toInt_inj.mp (e.trans (by decide)))
  omega
theorem bp_100 : (Int8.ofInt (100)).toInt32 = 100 := by decide
theorem bp_127 : (Int8.ofInt (127)).toInt32 = 127 := by decide
set_option maxRecDepth 20000 in
theorem inW_X0 : ∀ w ∈ u_ws RX0 TX0 3, w ∈ LW := inW_of [37, 39, 41] (by decide +kernel) (by decide +kernel)
set_option maxRecDepth 20000 in
theorem wF_X0_7 : (Cond.fieldLink "ImpactShelf$Bytes" (7 : Nat) "ImpactShelf$Bytes" "size" "I") ∈ LW := lw_in 35 (by decide +kernel) rfl
set_option maxRecDepth 20000 in
theorem wF_X0_16 : (Cond.fieldLink "ImpactShelf$Bytes" (16 : Nat) "ImpactShelf$Bytes" "row" "[B") ∈ LW := lw_in 34 (by decide +kernel) rfl
set_option maxRecDepth 20000 in
theorem atg_X8_69 : ∀ w ∈ (vx_at0 RX8 69 "java/lang/IllegalArgumentException" ["java/lang/RuntimeException", "java/lang/Exception"]).filter goodWord, w ∈ LW := by decide +kernel
set_option maxRecDepth 20000 in
theorem atn_X8_69 : ∀ w ∈ (vx_at0 RX8 69 "java/lang/IllegalArgumentException" ["java/lang/RuntimeException", "java/lang/Exception"]).filter (fun w => !goodWord w), w ∈ NW := by decide +kernel
set_option maxRecDepth 20000 in
theorem wK_X8_67 : (Cond.classLink "ImpactShelf" (67 : Nat) "java/lang/IllegalArgumentException") ∈ LW := lw_in 383 (by decide +kernel) rfl
set_option maxRecDepth 20000 in
theorem wI_IllegalArgumentException : (Cond.initialized "java/lang/IllegalArgumentException") ∈ LW := lw_in 14 (by decide +kernel) rfl
set_option maxRecDepth 20000 in
theorem inW_X8 : ∀ w ∈ u_ws RX8 TX8 9, w ∈ LW := inW_of [302, 304, 306, 308, 310, 312, 314, 316, 318] (by decide +kernel) (by decide +kernel)
set_option maxRecDepth 20000 in
theorem wF_X8_14 : (Cond.fieldLink "ImpactShelf" (14 : Nat) "ImpactShelf" "tape" "LImpactShelf$Bytes;") ∈ LW := lw_in 293 (by decide +kernel) rfl
set_option maxRecDepth 20000 in
theorem wb_X0_put : ∀ w ∈ ([.instanceMethod yX0_put, .selects RX0 yX0_put yX0_put, .initialized RX0, .code yX0_put cX0_put 2 none] : List Cond), w ∈ LW := List.forall_mem_cons.mpr ⟨lw_in 355 (by decide +kernel) rfl, List.forall_mem_cons.mpr ⟨lw_in 356 (by decide +kernel) rfl, List.forall_mem_cons.mpr ⟨lw_in 2 (by decide +kernel) rfl, List.forall_mem_cons.mpr ⟨lw_in 357 (by decide +kernel) rfl, fun _ h => absurd h List.not_mem_nil⟩⟩⟩⟩
set_option maxRecDepth 20000 in
theorem hy_X0_put : yX0_put.cls = RX0 ∧ yX0_put.cls ≠ "java/lang/invoke/MethodHandle" ∧ yX0_put.cls ≠ "java/lang/invoke/VarHandle" ∧ (parseMethodDescriptor yX0_put.desc).map (fun d => d.parameters.length) = some 1 := by decide +kernel
set_option maxRecDepth 20000 in
theorem wM_X8_77 : (Cond.methodLink "ImpactShelf" (77 : Nat) ({ cls := "ImpactShelf$Bytes", name := "put", desc := "(I)V" } : MethodName)) ∈ LW := lw_in 461 (by decide +kernel) rfl
set_option maxRecDepth 20000 in
theorem wb_X0_size : ∀ w ∈ ([.instanceMethod yX0_size, .selects RX0 yX0_size yX0_size, .initialized RX0, .code yX0_size cX0_size 1 (some .int)] : List Cond), w ∈ LW := List.forall_mem_cons.mpr ⟨lw_in 342 (by decide +kernel) rfl, List.forall_mem_cons.mpr ⟨lw_in 343 (by decide +kernel) rfl, List.forall_mem_cons.mpr ⟨lw_in 2 (by decide +kernel) rfl, List.forall_mem_cons.mpr ⟨lw_in 344 (by decide +kernel) rfl, fun _ h => absurd h List.not_mem_nil⟩⟩⟩⟩
set_option maxRecDepth 20000 in
theorem hy_X0_size : yX0_size.cls = RX0 ∧ yX0_size.cls ≠ "java/lang/invoke/MethodHandle" ∧ yX0_size.cls ≠ "java/lang/invoke/VarHandle" ∧ (parseMethodDescriptor yX0_size.desc).map (fun d => d.parameters.length) = some 0 := by decide +kernel
set_option maxRecDepth 20000 in
theorem wM_X8_70 : (Cond.methodLink "ImpactShelf" (70 : Nat) ({ cls := "ImpactShelf$Bytes", name := "size", desc := "()I" } : MethodName)) ∈ LW := lw_in 341 (by decide +kernel) rfl
set_option maxRecDepth 20000 in
theorem atg_X8_76 : ∀ w ∈ (vx_at0 RX8 76 "java/lang/IllegalStateException" ["java/lang/RuntimeException", "java/lang/Exception"]).filter goodWord, w ∈ LW := by decide +kernel
set_option maxRecDepth 20000 in
theorem atn_X8_76 : ∀ w ∈ (vx_at0 RX8 76 "java/lang/IllegalStateException" ["java/lang/RuntimeException", "java/lang/Exception"]).filter (fun w => !goodWord w), w ∈ NW := by decide +kernel
set_option maxRecDepth 20000 in
theorem wK_X8_74 : (Cond.classLink "ImpactShelf" (74 : Nat) "java/lang/IllegalStateException") ∈ LW := lw_in 446 (by decide +kernel) rfl
set_option maxRecDepth 20000 in
theorem wI_IllegalStateException : (Cond.initialized "java/lang/IllegalStateException") ∈ LW := lw_in 15 (by decide +kernel) rfl
set_option maxRecDepth 20000 in
theorem wC_X7_59 : (Cond.constantLong "ImpactShelf$Words" (59 : Nat) (-1 : Int64)) ∈ LW := lw_in 495 (by decide +kernel) rfl
set_option maxRecDepth 20000 in
theorem wb_X7_place : ∀ w ∈ ([.static yX7_place, .initialized yX7_place.cls, .code yX7_place cX7_place 2 (some .long)] : List Cond), w ∈ LW := List.forall_mem_cons.mpr ⟨lw_in 493 (by decide +kernel) rfl, List.forall_mem_cons.mpr ⟨lw_in 3 (by decide +kernel) rfl, List.forall_mem_cons.mpr ⟨lw_in 494 (by decide +kernel) rfl, fun _ h => absurd h List.not_mem_nil⟩⟩⟩
set_option maxRecDepth 20000 in
theorem hy_X7_place : yX7_place.cls ≠ "java/lang/invoke/MethodHandle" ∧ yX7_place.cls ≠ "java/lang/invoke/VarHandle" ∧ (parseMethodDescriptor yX7_place.desc).map (fun d => d.parameters.length) = some 2 := by decide +kernel
set_option maxRecDepth 20000 in
theorem wM_X7_43 : (Cond.methodLink "ImpactShelf$Words" (43 : Nat) ({ cls := "ImpactShelf$Words", name := "place", desc := "(II)J" } : MethodName)) ∈ LW := lw_in 492 (by decide +kernel) rfl
set_option maxRecDepth 20000 in
theorem wb_X7_letterAt : ∀ w ∈ ([.static yX7_letterAt, .initialized yX7_letterAt.cls, .code yX7_letterAt cX7_letterAt 3 (some .int)] : List Cond), w ∈ LW := List.forall_mem_cons.mpr ⟨lw_in 490 (by decide +kernel) rfl, List.forall_mem_cons.mpr ⟨lw_in 3 (by decide +kernel) rfl, List.forall_mem_cons.mpr ⟨lw_in 491 (by decide +kernel) rfl, fun _ h => absurd h List.not_mem_nil⟩⟩⟩
set_option maxRecDepth 20000 in
theorem hy_X7_letterAt : yX7_letterAt.cls ≠ "java/lang/invoke/MethodHandle" ∧ yX7_letterAt.cls ≠ "java/lang/invoke/VarHandle" ∧ (parseMethodDescriptor yX7_letterAt.desc).map (fun d => d.parameters.length) = some 2 := by decide +kernel
set_option maxRecDepth 20000 in
theorem wM_X7_55 : (Cond.methodLink "ImpactShelf$Words" (55 : Nat) ({ cls := "ImpactShelf$Words", name := "letterAt", desc := "(JI)I" } : MethodName)) ∈ LW := lw_in 489 (by decide +kernel) rfl
set_option maxRecDepth 20000 in
theorem inW_X7 : ∀ w ∈ u_ws RX7 TX7 4, w ∈ LW := inW_of [61, 63, 65, 67] (by decide +kernel) (by decide +kernel)
set_option maxRecDepth 20000 in
theorem wF_X7_19 : (Cond.fieldLink "ImpactShelf$Words" (19 : Nat) "ImpactShelf$Words" "distinct" "I") ∈ LW := lw_in 56 (by decide +kernel) rfl
set_option maxRecDepth 20000 in
theorem wF_X7_11 : (Cond.fieldLink "ImpactShelf$Words" (11 : Nat) "ImpactShelf$Words" "term" "[J") ∈ LW := lw_in 51 (by decide +kernel) rfl
set_option maxRecDepth 20000 in
theorem wF_X7_15 : (Cond.fieldLink "ImpactShelf$Words" (15 : Nat) "ImpactShelf$Words" "times" "[I") ∈ LW := lw_in 54 (by decide +kernel) rfl
set_option maxRecDepth 20000 in
theorem wF_X7_23 : (Cond.fieldLink "ImpactShelf$Words" (23 : Nat) "ImpactShelf$Words" "total" "I") ∈ LW := lw_in 58 (by decide +kernel) rfl
set_option maxRecDepth 20000 in
theorem wb_X7_find : ∀ w ∈ ([.instanceMethod yX7_find, .selects RX7 yX7_find yX7_find, .initialized RX7, .code yX7_find cX7_find 4 (some .int)] : List Cond), w ∈ LW := List.forall_mem_cons.mpr ⟨lw_in 498 (by decide +kernel) rfl, List.forall_mem_cons.mpr ⟨lw_inS 4 (by decide +kernel) rfl, List.forall_mem_cons.mpr ⟨lw_in 3 (by decide +kernel) rfl, List.forall_mem_cons.mpr ⟨lw_in 499 (by decide +kernel) rfl, fun _ h => absurd h List.not_mem_nil⟩⟩⟩⟩
set_option maxRecDepth 20000 in
theorem hy_X7_find : yX7_find.cls = RX7 ∧ yX7_find.cls ≠ "java/lang/invoke/MethodHandle" ∧ yX7_find.cls ≠ "java/lang/invoke/VarHandle" ∧ (parseMethodDescriptor yX7_find.desc).map (fun d => d.parameters.length) = some 1 := by decide +kernel
set_option maxRecDepth 20000 in
theorem wM_X7_47 : (Cond.methodLink "ImpactShelf$Words" (47 : Nat) ({ cls := "ImpactShelf$Words", name := "find", desc := "(J)I" } : MethodName)) ∈ LW := lw_in 496 (by decide +kernel) rfl
set_option maxRecDepth 20000 in
theorem wb_X7_withoutPluralS : ∀ w ∈ ([.static yX7_withoutPluralS, .initialized yX7_withoutPluralS.cls, .code yX7_withoutPluralS cX7_withoutPluralS 4 (some .long)] : List Cond), w ∈ LW := List.forall_mem_cons.mpr ⟨lw_in 487 (by decide +kernel) rfl, List.forall_mem_cons.mpr ⟨lw_in 3 (by decide +kernel) rfl, List.forall_mem_cons.mpr ⟨lw_in 488 (by decide +kernel) rfl, fun _ h => absurd h List.not_mem_nil⟩⟩⟩
set_option maxRecDepth 20000 in
theorem hy_X7_withoutPluralS : yX7_withoutPluralS.cls ≠ "java/lang/invoke/MethodHandle" ∧ yX7_withoutPluralS.cls ≠ "java/lang/invoke/VarHandle" ∧ (parseMethodDescriptor yX7_withoutPluralS.desc).map (fun d => d.parameters.length) = some 2 := by decide +kernel
set_option maxRecDepth 20000 in
theorem wM_X7_51 : (Cond.methodLink "ImpactShelf$Words" (51 : Nat) ({ cls := "ImpactShelf$Words", name := "withoutPluralS", desc := "(JI)J" } : MethodName)) ∈ LW := lw_in 486 (by decide +kernel) rfl
set_option maxRecDepth 20000 in
theorem wb_X7_take : ∀ w ∈ ([.instanceMethod yX7_take, .selects RX7 yX7_take yX7_take, .initialized RX7, .code yX7_take cX7_take 7 none] : List Cond), w ∈ LW := List.forall_mem_cons.mpr ⟨lw_in 484 (by decide +kernel) rfl, List.forall_mem_cons.mpr ⟨lw_inS 3 (by decide +kernel) rfl, List.forall_mem_cons.mpr ⟨lw_in 3 (by decide +kernel) rfl, List.forall_mem_cons.mpr ⟨lw_in 485 (by decide +kernel) rfl, fun _ h => absurd h List.not_mem_nil⟩⟩⟩⟩
set_option maxRecDepth 20000 in
theorem hy_X7_take : yX7_take.cls = RX7 ∧ yX7_take.cls ≠ "java/lang/invoke/MethodHandle" ∧ yX7_take.cls ≠ "java/lang/invoke/VarHandle" ∧ (parseMethodDescriptor yX7_take.desc).map (fun d => d.parameters.length) = some 2 := by decide +kernel
set_option maxRecDepth 20000 in
theorem wM_X7_39 : (Cond.methodLink "ImpactShelf$Words" (39 : Nat) ({ cls := "ImpactShelf$Words", name := "take", desc := "(JI)V" } : MethodName)) ∈ LW := lw_in 482 (by decide +kernel) rfl
set_option maxRecDepth 20000 in
theorem wb_X7_letterOf : ∀ w ∈ ([.static yX7_letterOf, .initialized yX7_letterOf.cls, .code yX7_letterOf cX7_letterOf 1 (some .int)] : List Cond), w ∈ LW := List.forall_mem_cons.mpr ⟨lw_in 480 (by decide +kernel) rfl, List.forall_mem_cons.mpr ⟨lw_in 3 (by decide +kernel) rfl, List.forall_mem_cons.mpr ⟨lw_in 481 (by decide +kernel) rfl, fun _ h => absurd h List.not_mem_nil⟩⟩⟩
set_option maxRecDepth 20000 in
theorem hy_X7_letterOf : yX7_letterOf.cls ≠ "java/lang/invoke/MethodHandle" ∧ yX7_letterOf.cls ≠ "java/lang/invoke/VarHandle" ∧ (parseMethodDescriptor yX7_letterOf.desc).map (fun d => d.parameters.length) = some 1 := by decide +kernel
set_option maxRecDepth 20000 in
theorem wM_X7_36 : (Cond.methodLink "ImpactShelf$Words" (36 : Nat) ({ cls := "ImpactShelf$Words", name := "letterOf", desc := "(I)I" } : MethodName)) ∈ LW := lw_in 479 (by decide +kernel) rfl
set_option maxRecDepth 20000 in
theorem wb_X0_at : ∀ w ∈ ([.instanceMethod yX0_at, .selects RX0 yX0_at yX0_at, .initialized RX0, .code yX0_at cX0_at 2 (some .int)] : List Cond), w ∈ LW := List.forall_mem_cons.mpr ⟨lw_in 350 (by decide +kernel) rfl, List.forall_mem_cons.mpr ⟨lw_in 351 (by decide +kernel) rfl, List.forall_mem_cons.mpr ⟨lw_in 2 (by decide +kernel) rfl, List.forall_mem_cons.mpr ⟨lw_in 352 (by decide +kernel) rfl, fun _ h => absurd h List.not_mem_nil⟩⟩⟩⟩
set_option maxRecDepth 20000 in
theorem hy_X0_at : yX0_at.cls = RX0 ∧ yX0_at.cls ≠ "java/lang/invoke/MethodHandle" ∧ yX0_at.cls ≠ "java/lang/invoke/VarHandle" ∧ (parseMethodDescriptor yX0_at.desc).map (fun d => d.parameters.length) = some 1 := by decide +kernel
set_option maxRecDepth 20000 in
theorem wM_X7_32 : (Cond.methodLink "ImpactShelf$Words" (32 : Nat) ({ cls := "ImpactShelf$Bytes", name := "at", desc := "(I)I" } : MethodName)) ∈ LW := lw_in 478 (by decide +kernel) rfl
set_option maxRecDepth 20000 in
theorem wM_X7_26 : (Cond.methodLink "ImpactShelf$Words" (26 : Nat) ({ cls := "ImpactShelf$Bytes", name := "size", desc := "()I" } : MethodName)) ∈ LW := lw_in 477 (by decide +kernel) rfl
set_option maxRecDepth 20000 in
theorem wF_X8_21 : (Cond.fieldLink "ImpactShelf" (21 : Nat) "ImpactShelf" "words" "LImpactShelf$Words;") ∈ LW := lw_in 294 (by decide +kernel) rfl
set_option maxRecDepth 20000 in
theorem wb_X0_shorten : ∀ w ∈ ([.instanceMethod yX0_shorten, .selects RX0 yX0_shorten yX0_shorten, .initialized RX0, .code yX0_shorten cX0_shorten 2 (some .boolean)] : List Cond), w ∈ LW := List.forall_mem_cons.mpr ⟨lw_in 334 (by decide +kernel) rfl, List.forall_mem_cons.mpr ⟨lw_in 335 (by decide +kernel) rfl, List.forall_mem_cons.mpr ⟨lw_in 2 (by decide +kernel) rfl, List.forall_mem_cons.mpr ⟨lw_in 336 (by decide +kernel) rfl, fun _ h => absurd h List.not_mem_nil⟩⟩⟩⟩
set_option maxRecDepth 20000 in
theorem hy_X0_shorten : yX0_shorten.cls = RX0 ∧ yX0_shorten.cls ≠ "java/lang/invoke/MethodHandle" ∧ yX0_shorten.cls ≠ "java/lang/invoke/VarHandle" ∧ (parseMethodDescriptor yX0_shorten.desc).map (fun d => d.parameters.length) = some 1 := by decide +kernel
set_option maxRecDepth 20000 in
theorem wM_X8_144 : (Cond.methodLink "ImpactShelf" (144 : Nat) ({ cls := "ImpactShelf$Bytes", name := "shorten", desc := "(I)Z" } : MethodName)) ∈ LW := lw_in 333 (by decide +kernel) rfl
set_option maxRecDepth 20000 in
theorem wb_X7_read : ∀ w ∈ ([.instanceMethod yX7_read, .selects RX7 yX7_read yX7_read, .initialized RX7, .code yX7_read cX7_read 7 none] : List Cond), w ∈ LW := List.forall_mem_cons.mpr ⟨lw_in 474 (by decide +kernel) rfl, List.forall_mem_cons.mpr ⟨lw_in 475 (by decide +kernel) rfl, List.forall_mem_cons.mpr ⟨lw_in 3 (by decide +kernel) rfl, List.forall_mem_cons.mpr ⟨lw_in 476 (by decide +kernel) rfl, fun _ h => absurd h List.not_mem_nil⟩⟩⟩⟩
set_option maxRecDepth 20000 in
theorem hy_X7_read : yX7_read.cls = RX7 ∧ yX7_read.cls ≠ "java/lang/invoke/MethodHandle" ∧ yX7_read.cls ≠ "java/lang/invoke/VarHandle" ∧ (parseMethodDescriptor yX7_read.desc).map (fun d => d.parameters.length) = some 1 := by decide +kernel
set_option maxRecDepth 20000 in
theorem wM_X8_233 : (Cond.methodLink "ImpactShelf" (233 : Nat) ({ cls := "ImpactShelf$Words", name := "read", desc := "(LImpactShelf$Bytes;)V" } : MethodName)) ∈ LW := lw_in 473 (by decide +kernel) rfl
set_option maxRecDepth 20000 in
theorem inW_X1 : ∀ w ∈ u_ws RX1 TX1 10, w ∈ LW := inW_of [92, 94, 96, 98, 100, 102, 104, 106, 108, 110] (by decide +kernel) (by decide +kernel)
set_option maxRecDepth 20000 in
theorem wF_X1_36 : (Cond.fieldLink "ImpactShelf$Collection" (36 : Nat) "ImpactShelf$Collection" "terms" "I") ∈ LW := lw_in 86 (by decide +kernel) rfl
set_option maxRecDepth 20000 in
theorem wF_X1_9 : (Cond.fieldLink "ImpactShelf$Collection" (9 : Nat) "ImpactShelf$Collection" "term" "[J") ∈ LW := lw_in 78 (by decide +kernel) rfl
set_option maxRecDepth 20000 in
theorem wF_X1_45 : (Cond.fieldLink "ImpactShelf$Collection" (45 : Nat) "ImpactShelf$Words" "distinct" "I") ∈ LW := lw_in 57 (by decide +kernel) rfl
set_option maxRecDepth 20000 in
theorem wF_X1_50 : (Cond.fieldLink "ImpactShelf$Collection" (50 : Nat) "ImpactShelf$Words" "term" "[J") ∈ LW := lw_in 52 (by decide +kernel) rfl
set_option maxRecDepth 20000 in
theorem wb_X1_hasTermAt : ∀ w ∈ ([.instanceMethod yX1_hasTermAt, .selects RX1 yX1_hasTermAt yX1_hasTermAt, .initialized RX1, .code yX1_hasTermAt cX1_hasTermAt 4 (some .boolean)] : List Cond), w ∈ LW := List.forall_mem_cons.mpr ⟨lw_in 510 (by decide +kernel) rfl, List.forall_mem_cons.mpr ⟨lw_inS 6 (by decide +kernel) rfl, List.forall_mem_cons.mpr ⟨lw_in 4 (by decide +kernel) rfl, List.forall_mem_cons.mpr ⟨lw_in 511 (by decide +kernel) rfl, fun _ h => absurd h List.not_mem_nil⟩⟩⟩⟩
set_option maxRecDepth 20000 in
theorem hy_X1_hasTermAt : yX1_hasTermAt.cls = RX1 ∧ yX1_hasTermAt.cls ≠ "java/lang/invoke/MethodHandle" ∧ yX1_hasTermAt.cls ≠ "java/lang/invoke/VarHandle" ∧ (parseMethodDescriptor yX1_hasTermAt.desc).map (fun d => d.parameters.length) = some 2 := by decide +kernel
set_option maxRecDepth 20000 in
theorem wM_X1_55 : (Cond.methodLink "ImpactShelf$Collection" (55 : Nat) ({ cls := "ImpactShelf$Collection", name := "hasTermAt", desc := "(IJ)Z" } : MethodName)) ∈ LW := lw_in 508 (by decide +kernel) rfl
set_option maxRecDepth 20000 in
theorem wb_X1_placeOf : ∀ w ∈ ([.instanceMethod yX1_placeOf, .selects RX1 yX1_placeOf yX1_placeOf, .initialized RX1, .code yX1_placeOf cX1_placeOf 4 (some .int)] : List Cond), w ∈ LW := List.forall_mem_cons.mpr ⟨lw_in 506 (by decide +kernel) rfl, List.forall_mem_cons.mpr ⟨lw_inS 5 (by decide +kernel) rfl, List.forall_mem_cons.mpr ⟨lw_in 4 (by decide +kernel) rfl, List.forall_mem_cons.mpr ⟨lw_in 507 (by decide +kernel) rfl, fun _ h => absurd h List.not_mem_nil⟩⟩⟩⟩
set_option maxRecDepth 20000 in
theorem hy_X1_placeOf : yX1_placeOf.cls = RX1 ∧ yX1_placeOf.cls ≠ "java/lang/invoke/MethodHandle" ∧ yX1_placeOf.cls ≠ "java/lang/invoke/VarHandle" ∧ (parseMethodDescriptor yX1_placeOf.desc).map (fun d => d.parameters.length) = some 1 := by decide +kernel
set_option maxRecDepth 20000 in
theorem wM_X1_51 : (Cond.methodLink "ImpactShelf$Collection" (51 : Nat) ({ cls := "ImpactShelf$Collection", name := "placeOf", desc := "(J)I" } : MethodName)) ∈ LW := lw_in 504 (by decide +kernel) rfl
set_option maxRecDepth 20000 in
theorem wF_X1_32 : (Cond.fieldLink "ImpactShelf$Collection" (32 : Nat) "ImpactShelf$Collection" "documents" "I") ∈ LW := lw_in 84 (by decide +kernel) rfl
set_option maxRecDepth 20000 in
theorem wF_X1_39 : (Cond.fieldLink "ImpactShelf$Collection" (39 : Nat) "ImpactShelf$Collection" "postings" "I") ∈ LW := lw_in 88 (by decide +kernel) rfl
set_option maxRecDepth 20000 in
theorem wF_X1_15 : (Cond.fieldLink "ImpactShelf$Collection" (15 : Nat) "ImpactShelf$Collection" "inDocuments" "[I") ∈ LW := lw_in 79 (by decide +kernel) rfl
set_option maxRecDepth 20000 in
theorem wF_X1_19 : (Cond.fieldLink "ImpactShelf$Collection" (19 : Nat) "ImpactShelf$Collection" "times" "[I") ∈ LW := lw_in 80 (by decide +kernel) rfl
set_option maxRecDepth 20000 in
theorem wM_X1_99 : (Cond.methodLink "ImpactShelf$Collection" (99 : Nat) ({ cls := "java/lang/System", name := "arraycopy", desc := "(Ljava/lang/Object;ILjava/lang/Object;II)V" } : MethodName)) ∈ LW := lw_in 520 (by decide +kernel) rfl
set_option maxRecDepth 20000 in
theorem wX_nat : (Cond.native ({ cls := "java/lang/System", name := "arraycopy", desc := "(Ljava/lang/Object;ILjava/lang/Object;II)V" } : MethodName)) ∈ LW := lw_in 522 (by decide +kernel) rfl
set_option maxRecDepth 20000 in
theorem wX_sta : (Cond.static ({ cls := "java/lang/System", name := "arraycopy", desc := "(Ljava/lang/Object;ILjava/lang/Object;II)V" } : MethodName)) ∈ LW := lw_in 521 (by decide +kernel) rfl
set_option maxRecDepth 20000 in
theorem wI_System : (Cond.initialized "java/lang/System") ∈ LW := lw_in 16 (by decide +kernel) rfl
set_option maxRecDepth 20000 in
theorem wF_X1_63 : (Cond.fieldLink "ImpactShelf$Collection" (63 : Nat) "ImpactShelf$Words" "times" "[I") ∈ LW := lw_in 55 (by decide +kernel) rfl
set_option maxRecDepth 20000 in
theorem wb_X1_insertTerm : ∀ w ∈ ([.instanceMethod yX1_insertTerm, .selects RX1 yX1_insertTerm yX1_insertTerm, .initialized RX1, .code yX1_insertTerm cX1_insertTerm 5 none] : List Cond), w ∈ LW := List.forall_mem_cons.mpr ⟨lw_in 518 (by decide +kernel) rfl, List.forall_mem_cons.mpr ⟨lw_inS 7 (by decide +kernel) rfl, List.forall_mem_cons.mpr ⟨lw_in 4 (by decide +kernel) rfl, List.forall_mem_cons.mpr ⟨lw_in 519 (by decide +kernel) rfl, fun _ h => absurd h List.not_mem_nil⟩⟩⟩⟩
set_option maxRecDepth 20000 in
theorem hy_X1_insertTerm : yX1_insertTerm.cls = RX1 ∧ yX1_insertTerm.cls ≠ "java/lang/invoke/MethodHandle" ∧ yX1_insertTerm.cls ≠ "java/lang/invoke/VarHandle" ∧ (parseMethodDescriptor yX1_insertTerm.desc).map (fun d => d.parameters.length) = some 2 := by decide +kernel
set_option maxRecDepth 20000 in
theorem wM_X1_59 : (Cond.methodLink "ImpactShelf$Collection" (59 : Nat) ({ cls := "ImpactShelf$Collection", name := "insertTerm", desc := "(IJ)V" } : MethodName)) ∈ LW := lw_in 516 (by decide +kernel) rfl
set_option maxRecDepth 20000 in
theorem wF_X1_29 : (Cond.fieldLink "ImpactShelf$Collection" (29 : Nat) "ImpactShelf$Collection" "length" "[I") ∈ LW := lw_in 83 (by decide +kernel) rfl
set_option maxRecDepth 20000 in
theorem wF_X1_64 : (Cond.fieldLink "ImpactShelf$Collection" (64 : Nat) "ImpactShelf$Words" "total" "I") ∈ LW := lw_in 60 (by decide +kernel) rfl
set_option maxRecDepth 20000 in
theorem wF_X1_42 : (Cond.fieldLink "ImpactShelf$Collection" (42 : Nat) "ImpactShelf$Collection" "lengthOfAll" "I") ∈ LW := lw_in 90 (by decide +kernel) rfl
set_option maxRecDepth 20000 in
theorem wF_X8_83 : (Cond.fieldLink "ImpactShelf" (83 : Nat) "ImpactShelf$Words" "total" "I") ∈ LW := lw_in 59 (by decide +kernel) rfl
set_option maxRecDepth 20000 in
theorem wF_X8_28 : (Cond.fieldLink "ImpactShelf" (28 : Nat) "ImpactShelf" "collection" "LImpactShelf$Collection;") ∈ LW := lw_in 295 (by decide +kernel) rfl
set_option maxRecDepth 20000 in
theorem wb_X1_append : ∀ w ∈ ([.instanceMethod yX1_append, .selects RX1 yX1_append yX1_append, .initialized RX1, .code yX1_append cX1_append 4 (some .int)] : List Cond), w ∈ LW := List.forall_mem_cons.mpr ⟨lw_in 513 (by decide +kernel) rfl, List.forall_mem_cons.mpr ⟨lw_in 514 (by decide +kernel) rfl, List.forall_mem_cons.mpr ⟨lw_in 4 (by decide +kernel) rfl, List.forall_mem_cons.mpr ⟨lw_in 515 (by decide +kernel) rfl, fun _ h => absurd h List.not_mem_nil⟩⟩⟩⟩
set_option maxRecDepth 20000 in
theorem hy_X1_append : yX1_append.cls = RX1 ∧ yX1_append.cls ≠ "java/lang/invoke/MethodHandle" ∧ yX1_append.cls ≠ "java/lang/invoke/VarHandle" ∧ (parseMethodDescriptor yX1_append.desc).map (fun d => d.parameters.length) = some 1 := by decide +kernel
set_option maxRecDepth 20000 in
theorem wM_X8_91 : (Cond.methodLink "ImpactShelf" (91 : Nat) ({ cls := "ImpactShelf$Collection", name := "append", desc := "(LImpactShelf$Words;)I" } : MethodName)) ∈ LW := lw_in 512 (by decide +kernel) rfl
set_option maxRecDepth 20000 in
theorem wb_X1_hasRoomFor : ∀ w ∈ ([.instanceMethod yX1_hasRoomFor, .selects RX1 yX1_hasRoomFor yX1_hasRoomFor, .initialized RX1, .code yX1_hasRoomFor cX1_hasRoomFor 4 (some .boolean)] : List Cond), w ∈ LW := List.forall_mem_cons.mpr ⟨lw_in 501 (by decide +kernel) rfl, List.forall_mem_cons.mpr ⟨lw_in 502 (by decide +kernel) rfl, List.forall_mem_cons.mpr ⟨lw_in 4 (by decide +kernel) rfl, List.forall_mem_cons.mpr ⟨lw_in 503 (by decide +kernel) rfl, fun _ h => absurd h List.not_mem_nil⟩⟩⟩⟩
set_option maxRecDepth 20000 in
theorem hy_X1_hasRoomFor : yX1_hasRoomFor.cls = RX1 ∧ yX1_hasRoomFor.cls ≠ "java/lang/invoke/MethodHandle" ∧ yX1_hasRoomFor.cls ≠ "java/lang/invoke/VarHandle" ∧ (parseMethodDescriptor yX1_hasRoomFor.desc).map (fun d => d.parameters.length) = some 1 := by decide +kernel
set_option maxRecDepth 20000 in
theorem wM_X8_87 : (Cond.methodLink "ImpactShelf" (87 : Nat) ({ cls := "ImpactShelf$Collection", name := "hasRoomFor", desc := "(LImpactShelf$Words;)Z" } : MethodName)) ∈ LW := lw_in 500 (by decide +kernel) rfl
set_option maxRecDepth 20000 in
theorem wb_X8_readTape : ∀ w ∈ ([.instanceMethod yX8_readTape, .selects RX8 yX8_readTape yX8_readTape, .initialized RX8, .code yX8_readTape cX8_readTape 1 none] : List Cond), w ∈ LW := List.forall_mem_cons.mpr ⟨lw_in 471 (by decide +kernel) rfl, List.forall_mem_cons.mpr ⟨lw_inS 2 (by decide +kernel) rfl, List.forall_mem_cons.mpr ⟨lw_in 1 (by decide +kernel) rfl, List.forall_mem_cons.mpr ⟨lw_in 472 (by decide +kernel) rfl, fun _ h => absurd h List.not_mem_nil⟩⟩⟩⟩
set_option maxRecDepth 20000 in
theorem hy_X8_readTape : yX8_readTape.cls = RX8 ∧ yX8_readTape.cls ≠ "java/lang/invoke/MethodHandle" ∧ yX8_readTape.cls ≠ "java/lang/invoke/VarHandle" ∧ (parseMethodDescriptor yX8_readTape.desc).map (fun d => d.parameters.length) = some 0 := by decide +kernel
set_option maxRecDepth 20000 in
theorem wM_X8_80 : (Cond.methodLink "ImpactShelf" (80 : Nat) ({ cls := "ImpactShelf", name := "readTape", desc := "()V" } : MethodName)) ∈ LW := lw_in 469 (by decide +kernel) rfl
set_option maxRecDepth 20000 in
theorem wb_X1_becomeEmpty : ∀ w ∈ ([.instanceMethod yX1_becomeEmpty, .selects RX1 yX1_becomeEmpty yX1_becomeEmpty, .initialized RX1, .code yX1_becomeEmpty cX1_becomeEmpty 2 (some .int)] : List Cond), w ∈ LW := List.forall_mem_cons.mpr ⟨lw_in 326 (by decide +kernel) rfl, List.forall_mem_cons.mpr ⟨lw_in 327 (by decide +kernel) rfl, List.forall_mem_cons.mpr ⟨lw_in 4 (by decide +kernel) rfl, List.forall_mem_cons.mpr ⟨lw_in 328 (by decide +kernel) rfl, fun _ h => absurd h List.not_mem_nil⟩⟩⟩⟩
set_option maxRecDepth 20000 in
theorem hy_X1_becomeEmpty : yX1_becomeEmpty.cls = RX1 ∧ yX1_becomeEmpty.cls ≠ "java/lang/invoke/MethodHandle" ∧ yX1_becomeEmpty.cls ≠ "java/lang/invoke/VarHandle" ∧ (parseMethodDescriptor yX1_becomeEmpty.desc).map (fun d => d.parameters.length) = some 0 := by decide +kernel
set_option maxRecDepth 20000 in
theorem wM_X8_95 : (Cond.methodLink "ImpactShelf" (95 : Nat) ({ cls := "ImpactShelf$Collection", name := "becomeEmpty", desc := "()I" } : MethodName)) ∈ LW := lw_in 325 (by decide +kernel) rfl
set_option maxRecDepth 20000 in
theorem wF_X8_98 : (Cond.fieldLink "ImpactShelf" (98 : Nat) "ImpactShelf$Collection" "documents" "I") ∈ LW := lw_in 85 (by decide +kernel) rfl
set_option maxRecDepth 20000 in
theorem wF_X8_101 : (Cond.fieldLink "ImpactShelf" (101 : Nat) "ImpactShelf$Collection" "terms" "I") ∈ LW := lw_in 87 (by decide +kernel) rfl
set_option maxRecDepth 20000 in
theorem wF_X8_104 : (Cond.fieldLink "ImpactShelf" (104 : Nat) "ImpactShelf$Collection" "postings" "I") ∈ LW := lw_in 89 (by decide +kernel) rfl
set_option maxRecDepth 20000 in
theorem wF_X8_107 : (Cond.fieldLink "ImpactShelf" (107 : Nat) "ImpactShelf$Collection" "lengthOfAll" "I") ∈ LW := lw_in 91 (by decide +kernel) rfl
set_option maxRecDepth 20000 in
theorem atg_X8_112 : ∀ w ∈ (vx_at0 RX8 112 "java/util/NoSuchElementException" ["java/lang/RuntimeException", "java/lang/Exception"]).filter goodWord, w ∈ LW := by decide +kernel
set_option maxRecDepth 20000 in
theorem atn_X8_112 : ∀ w ∈ (vx_at0 RX8 112 "java/util/NoSuchElementException" ["java/lang/RuntimeException", "java/lang/Exception"]).filter (fun w => !goodWord w), w ∈ NW := by decide +kernel
set_option maxRecDepth 20000 in
theorem wK_X8_110 : (Cond.classLink "ImpactShelf" (110 : Nat) "java/util/NoSuchElementException") ∈ LW := lw_in 531 (by decide +kernel) rfl
set_option maxRecDepth 20000 in
theorem wI_NoSuchElementException : (Cond.initialized "java/util/NoSuchElementException") ∈ LW := lw_in 17 (by decide +kernel) rfl
set_option maxRecDepth 20000 in
theorem wC_X1_121 : (Cond.constantDouble "ImpactShelf$Collection" (121 : Nat) (4611686018427387904 : UInt64)) ∈ LW := lw_in 568 (by decide +kernel) rfl
set_option maxRecDepth 20000 in
theorem wC_X1_123 : (Cond.constantDouble "ImpactShelf$Collection" (123 : Nat) (4604418534313441775 : UInt64)) ∈ LW := lw_in 569 (by decide +kernel) rfl
set_option maxRecDepth 20000 in
theorem wC_X1_105 : (Cond.constantDouble "ImpactShelf$Collection" (105 : Nat) (4611235658464650854 : UInt64)) ∈ LW := lw_in 561 (by decide +kernel) rfl
set_option maxRecDepth 20000 in
theorem wC_X1_107 : (Cond.constantDouble "ImpactShelf$Collection" (107 : Nat) (4606281698874543309 : UInt64)) ∈ LW := lw_in 562 (by decide +kernel) rfl
set_option maxRecDepth 20000 in
theorem wC_X1_109 : (Cond.constantDouble "ImpactShelf$Collection" (109 : Nat) (4603579539098121011 : UInt64)) ∈ LW := lw_in 563 (by decide +kernel) rfl
set_option maxRecDepth 20000 in
theorem wC_X1_111 : (Cond.constantDouble "ImpactShelf$Collection" (111 : Nat) (4600877379321698714 : UInt64)) ∈ LW := lw_in 564 (by decide +kernel) rfl
set_option maxRecDepth 20000 in
theorem wb_X1_logarithm : ∀ w ∈ ([.static yX1_logarithm, .initialized yX1_logarithm.cls, .code yX1_logarithm cX1_logarithm 12 (some .double)] : List Cond), w ∈ LW := List.forall_mem_cons.mpr ⟨lw_in 566 (by decide +kernel) rfl, List.forall_mem_cons.mpr ⟨lw_in 4 (by decide +kernel) rfl, List.forall_mem_cons.mpr ⟨lw_in 567 (by decide +kernel) rfl, fun _ h => absurd h List.not_mem_nil⟩⟩⟩
set_option maxRecDepth 20000 in
theorem hy_X1_logarithm : yX1_logarithm.cls ≠ "java/lang/invoke/MethodHandle" ∧ yX1_logarithm.cls ≠ "java/lang/invoke/VarHandle" ∧ (parseMethodDescriptor yX1_logarithm.desc).map (fun d => d.parameters.length) = some 1 := by decide +kernel
set_option maxRecDepth 20000 in
theorem wM_X1_113 : (Cond.methodLink "ImpactShelf$Collection" (113 : Nat) ({ cls := "ImpactShelf$Collection", name := "logarithm", desc := "(D)D" } : MethodName)) ∈ LW := lw_in 565 (by decide +kernel) rfl
set_option maxRecDepth 20000 in
theorem wb_X1_scoreOf : ∀ w ∈ ([.instanceMethod yX1_scoreOf, .selects RX1 yX1_scoreOf yX1_scoreOf, .initialized RX1, .code yX1_scoreOf cX1_scoreOf 8 (some .double)] : List Cond), w ∈ LW := List.forall_mem_cons.mpr ⟨lw_in 559 (by decide +kernel) rfl, List.forall_mem_cons.mpr ⟨lw_inS 8 (by decide +kernel) rfl, List.forall_mem_cons.mpr ⟨lw_in 4 (by decide +kernel) rfl, List.forall_mem_cons.mpr ⟨lw_in 560 (by decide +kernel) rfl, fun _ h => absurd h List.not_mem_nil⟩⟩⟩⟩
set_option maxRecDepth 20000 in
theorem hy_X1_scoreOf : yX1_scoreOf.cls = RX1 ∧ yX1_scoreOf.cls ≠ "java/lang/invoke/MethodHandle" ∧ yX1_scoreOf.cls ≠ "java/lang/invoke/VarHandle" ∧ (parseMethodDescriptor yX1_scoreOf.desc).map (fun d => d.parameters.length) = some 2 := by decide +kernel
set_option maxRecDepth 20000 in
theorem wM_X1_67 : (Cond.methodLink "ImpactShelf$Collection" (67 : Nat) ({ cls := "ImpactShelf$Collection", name := "scoreOf", desc := "(II)D" } : MethodName)) ∈ LW := lw_in 557 (by decide +kernel) rfl
set_option maxRecDepth 20000 in
theorem wF_X8_113 : (Cond.fieldLink "ImpactShelf" (113 : Nat) "ImpactShelf$Words" "term" "[J") ∈ LW := lw_in 53 (by decide +kernel) rfl
set_option maxRecDepth 20000 in
theorem wb_X1_scoreOfTerm : ∀ w ∈ ([.instanceMethod yX1_scoreOfTerm, .selects RX1 yX1_scoreOfTerm yX1_scoreOfTerm, .initialized RX1, .code yX1_scoreOfTerm cX1_scoreOfTerm 5 (some .double)] : List Cond), w ∈ LW := List.forall_mem_cons.mpr ⟨lw_in 554 (by decide +kernel) rfl, List.forall_mem_cons.mpr ⟨lw_in 555 (by decide +kernel) rfl, List.forall_mem_cons.mpr ⟨lw_in 4 (by decide +kernel) rfl, List.forall_mem_cons.mpr ⟨lw_in 556 (by decide +kernel) rfl, fun _ h => absurd h List.not_mem_nil⟩⟩⟩⟩
set_option maxRecDepth 20000 in
theorem hy_X1_scoreOfTerm : yX1_scoreOfTerm.cls = RX1 ∧ yX1_scoreOfTerm.cls ≠ "java/lang/invoke/MethodHandle" ∧ yX1_scoreOfTerm.cls ≠ "java/lang/invoke/VarHandle" ∧ (parseMethodDescriptor yX1_scoreOfTerm.desc).map (fun d => d.parameters.length) = some 2 := by decide +kernel
set_option maxRecDepth 20000 in
theorem wM_X8_117 : (Cond.methodLink "ImpactShelf" (117 : Nat) ({ cls := "ImpactShelf$Collection", name := "scoreOfTerm", desc := "(JI)D" } : MethodName)) ∈ LW := lw_in 553 (by decide +kernel) rfl
set_option maxRecDepth 20000 in
theorem wF_X1_22 : (Cond.fieldLink "ImpactShelf$Collection" (22 : Nat) "ImpactShelf$Collection" "scores" "[D") ∈ LW := lw_in 81 (by decide +kernel) rfl
set_option maxRecDepth 20000 in
theorem inW_X4 : ∀ w ∈ u_ws RX4 TX4 10, w ∈ LW := inW_of [185, 187, 189, 191, 193, 195, 197, 199, 201, 203] (by decide +kernel) (by decide +kernel)
set_option maxRecDepth 20000 in
theorem wF_X4_28 : (Cond.fieldLink "ImpactShelf$Index" (28 : Nat) "ImpactShelf$Index" "bits" "I") ∈ LW := lw_in 172 (by decide +kernel) rfl
set_option maxRecDepth 20000 in
theorem wF_X4_32 : (Cond.fieldLink "ImpactShelf$Index" (32 : Nat) "ImpactShelf$Index" "documents" "I") ∈ LW := lw_in 174 (by decide +kernel) rfl
set_option maxRecDepth 20000 in
theorem wF_X4_35 : (Cond.fieldLink "ImpactShelf$Index" (35 : Nat) "ImpactShelf$Index" "terms" "I") ∈ LW := lw_in 177 (by decide +kernel) rfl
set_option maxRecDepth 20000 in
theorem wF_X4_38 : (Cond.fieldLink "ImpactShelf$Index" (38 : Nat) "ImpactShelf$Index" "segments" "I") ∈ LW := lw_in 181 (by decide +kernel) rfl
set_option maxRecDepth 20000 in
theorem wF_X4_41 : (Cond.fieldLink "ImpactShelf$Index" (41 : Nat) "ImpactShelf$Index" "postings" "I") ∈ LW := lw_in 183 (by decide +kernel) rfl
set_option maxRecDepth 20000 in
theorem wC_X1_117 : (Cond.constantDouble "ImpactShelf$Collection" (117 : Nat) (13830554455654793216 : UInt64)) ∈ LW := lw_in 593 (by decide +kernel) rfl
set_option maxRecDepth 20000 in
theorem wb_X1_isPosting : ∀ w ∈ ([.instanceMethod yX1_isPosting, .selects RX1 yX1_isPosting yX1_isPosting, .initialized RX1, .code yX1_isPosting cX1_isPosting 2 (some .boolean)] : List Cond), w ∈ LW := List.forall_mem_cons.mpr ⟨lw_in 596 (by decide +kernel) rfl, List.forall_mem_cons.mpr ⟨lw_inS 11 (by decide +kernel) rfl, List.forall_mem_cons.mpr ⟨lw_in 4 (by decide +kernel) rfl, List.forall_mem_cons.mpr ⟨lw_in 597 (by decide +kernel) rfl, fun _ h => absurd h List.not_mem_nil⟩⟩⟩⟩
set_option maxRecDepth 20000 in
theorem hy_X1_isPosting : yX1_isPosting.cls = RX1 ∧ yX1_isPosting.cls ≠ "java/lang/invoke/MethodHandle" ∧ yX1_isPosting.cls ≠ "java/lang/invoke/VarHandle" ∧ (parseMethodDescriptor yX1_isPosting.desc).map (fun d => d.parameters.length) = some 1 := by decide +kernel
set_option maxRecDepth 20000 in
theorem wM_X1_87 : (Cond.methodLink "ImpactShelf$Collection" (87 : Nat) ({ cls := "ImpactShelf$Collection", name := "isPosting", desc := "(I)Z" } : MethodName)) ∈ LW := lw_in 594 (by decide +kernel) rfl
set_option maxRecDepth 20000 in
theorem wC_X1_119 : (Cond.constantDouble "ImpactShelf$Collection" (119 : Nat) (4602678819172646912 : UInt64)) ∈ LW := lw_in 605 (by decide +kernel) rfl
set_option maxRecDepth 20000 in
theorem wF_X4_9 : (Cond.fieldLink "ImpactShelf$Index" (9 : Nat) "ImpactShelf$Index" "term" "[J") ∈ LW := lw_in 157 (by decide +kernel) rfl
set_option maxRecDepth 20000 in
theorem wF_X4_15 : (Cond.fieldLink "ImpactShelf$Index" (15 : Nat) "ImpactShelf$Index" "firstSegment" "[I") ∈ LW := lw_in 160 (by decide +kernel) rfl
set_option maxRecDepth 20000 in
theorem wF_X4_19 : (Cond.fieldLink "ImpactShelf$Index" (19 : Nat) "ImpactShelf$Index" "impact" "[I") ∈ LW := lw_in 163 (by decide +kernel) rfl
set_option maxRecDepth 20000 in
theorem wF_X4_22 : (Cond.fieldLink "ImpactShelf$Index" (22 : Nat) "ImpactShelf$Index" "firstPosting" "[I") ∈ LW := lw_in 166 (by decide +kernel) rfl
set_option maxRecDepth 20000 in
theorem wF_X4_25 : (Cond.fieldLink "ImpactShelf$Index" (25 : Nat) "ImpactShelf$Index" "document" "[I") ∈ LW := lw_in 169 (by decide +kernel) rfl
set_option maxRecDepth 20000 in
theorem wb_X4_appendPosting : ∀ w ∈ ([.instanceMethod yX4_appendPosting, .selects RX4 yX4_appendPosting yX4_appendPosting, .initialized RX4, .code yX4_appendPosting cX4_appendPosting 2 (some .boolean)] : List Cond), w ∈ LW := List.forall_mem_cons.mpr ⟨lw_in 623 (by decide +kernel) rfl, List.forall_mem_cons.mpr ⟨lw_in 624 (by decide +kernel) rfl, List.forall_mem_cons.mpr ⟨lw_in 8 (by decide +kernel) rfl, List.forall_mem_cons.mpr ⟨lw_in 625 (by decide +kernel) rfl, fun _ h => absurd h List.not_mem_nil⟩⟩⟩⟩
set_option maxRecDepth 20000 in
theorem hy_X4_appendPosting : yX4_appendPosting.cls = RX4 ∧ yX4_appendPosting.cls ≠ "java/lang/invoke/MethodHandle" ∧ yX4_appendPosting.cls ≠ "java/lang/invoke/VarHandle" ∧ (parseMethodDescriptor yX4_appendPosting.desc).map (fun d => d.parameters.length) = some 1 := by decide +kernel
set_option maxRecDepth 20000 in
theorem wM_X4_56 : (Cond.methodLink "ImpactShelf$Index" (56 : Nat) ({ cls := "ImpactShelf$Index", name := "appendPosting", desc := "(I)Z" } : MethodName)) ∈ LW := lw_in 622 (by decide +kernel) rfl
set_option maxRecDepth 20000 in
theorem wb_X4_greatestBelow : ∀ w ∈ ([.instanceMethod yX4_greatestBelow, .selects RX4 yX4_greatestBelow yX4_greatestBelow, .initialized RX4, .code yX4_greatestBelow cX4_greatestBelow 5 (some .int)] : List Cond), w ∈ LW := List.forall_mem_cons.mpr ⟨lw_in 616 (by decide +kernel) rfl, List.forall_mem_cons.mpr ⟨lw_inS 13 (by decide +kernel) rfl, List.forall_mem_cons.mpr ⟨lw_in 8 (by decide +kernel) rfl, List.forall_mem_cons.mpr ⟨lw_in 617 (by decide +kernel) rfl, fun _ h => absurd h List.not_mem_nil⟩⟩⟩⟩
set_option maxRecDepth 20000 in
theorem hy_X4_greatestBelow : yX4_greatestBelow.cls = RX4 ∧ yX4_greatestBelow.cls ≠ "java/lang/invoke/MethodHandle" ∧ yX4_greatestBelow.cls ≠ "java/lang/invoke/VarHandle" ∧ (parseMethodDescriptor yX4_greatestBelow.desc).map (fun d => d.parameters.length) = some 2 := by decide +kernel
set_option maxRecDepth 20000 in
theorem wM_X4_48 : (Cond.methodLink "ImpactShelf$Index" (48 : Nat) ({ cls := "ImpactShelf$Index", name := "greatestBelow", desc := "(I[I)I" } : MethodName)) ∈ LW := lw_in 614 (by decide +kernel) rfl
set_option maxRecDepth 20000 in
theorem wb_X4_startSegment : ∀ w ∈ ([.instanceMethod yX4_startSegment, .selects RX4 yX4_startSegment yX4_startSegment, .initialized RX4, .code yX4_startSegment cX4_startSegment 2 (some .boolean)] : List Cond), w ∈ LW := List.forall_mem_cons.mpr ⟨lw_in 619 (by decide +kernel) rfl, List.forall_mem_cons.mpr ⟨lw_in 620 (by decide +kernel) rfl, List.forall_mem_cons.mpr ⟨lw_in 8 (by decide +kernel) rfl, List.forall_mem_cons.mpr ⟨lw_in 621 (by decide +kernel) rfl, fun _ h => absurd h List.not_mem_nil⟩⟩⟩⟩
set_option maxRecDepth 20000 in
theorem hy_X4_startSegment : yX4_startSegment.cls = RX4 ∧ yX4_startSegment.cls ≠ "java/lang/invoke/MethodHandle" ∧ yX4_startSegment.cls ≠ "java/lang/invoke/VarHandle" ∧ (parseMethodDescriptor yX4_startSegment.desc).map (fun d => d.parameters.length) = some 1 := by decide +kernel
set_option maxRecDepth 20000 in
theorem wM_X4_52 : (Cond.methodLink "ImpactShelf$Index" (52 : Nat) ({ cls := "ImpactShelf$Index", name := "startSegment", desc := "(I)Z" } : MethodName)) ∈ LW := lw_in 618 (by decide +kernel) rfl
set_option maxRecDepth 20000 in
theorem wb_X4_startTerm : ∀ w ∈ ([.instanceMethod yX4_startTerm, .selects RX4 yX4_startTerm yX4_startTerm, .initialized RX4, .code yX4_startTerm cX4_startTerm 3 (some .boolean)] : List Cond), w ∈ LW := List.forall_mem_cons.mpr ⟨lw_in 611 (by decide +kernel) rfl, List.forall_mem_cons.mpr ⟨lw_in 612 (by decide +kernel) rfl, List.forall_mem_cons.mpr ⟨lw_in 8 (by decide +kernel) rfl, List.forall_mem_cons.mpr ⟨lw_in 613 (by decide +kernel) rfl, fun _ h => absurd h List.not_mem_nil⟩⟩⟩⟩
set_option maxRecDepth 20000 in
theorem hy_X4_startTerm : yX4_startTerm.cls = RX4 ∧ yX4_startTerm.cls ≠ "java/lang/invoke/MethodHandle" ∧ yX4_startTerm.cls ≠ "java/lang/invoke/VarHandle" ∧ (parseMethodDescriptor yX4_startTerm.desc).map (fun d => d.parameters.length) = some 1 := by decide +kernel
set_option maxRecDepth 20000 in
theorem wM_X4_44 : (Cond.methodLink "ImpactShelf$Index" (44 : Nat) ({ cls := "ImpactShelf$Index", name := "startTerm", desc := "(J)Z" } : MethodName)) ∈ LW := lw_in 610 (by decide +kernel) rfl
set_option maxRecDepth 20000 in
theorem wF_X1_26 : (Cond.fieldLink "ImpactShelf$Collection" (26 : Nat) "ImpactShelf$Collection" "impacts" "[I") ∈ LW := lw_in 82 (by decide +kernel) rfl
set_option maxRecDepth 20000 in
theorem wb_X1_impactOf : ∀ w ∈ ([.static yX1_impactOf, .initialized yX1_impactOf.cls, .code yX1_impactOf cX1_impactOf 7 (some .int)] : List Cond), w ∈ LW := List.forall_mem_cons.mpr ⟨lw_in 603 (by decide +kernel) rfl, List.forall_mem_cons.mpr ⟨lw_in 4 (by decide +kernel) rfl, List.forall_mem_cons.mpr ⟨lw_in 604 (by decide +kernel) rfl, fun _ h => absurd h List.not_mem_nil⟩⟩⟩
set_option maxRecDepth 20000 in
theorem hy_X1_impactOf : yX1_impactOf.cls ≠ "java/lang/invoke/MethodHandle" ∧ yX1_impactOf.cls ≠ "java/lang/invoke/VarHandle" ∧ (parseMethodDescriptor yX1_impactOf.desc).map (fun d => d.parameters.length) = some 4 := by decide +kernel
set_option maxRecDepth 20000 in
theorem wM_X1_91 : (Cond.methodLink "ImpactShelf$Collection" (91 : Nat) ({ cls := "ImpactShelf$Collection", name := "impactOf", desc := "(DDDI)I" } : MethodName)) ∈ LW := lw_in 602 (by decide +kernel) rfl
set_option maxRecDepth 20000 in
theorem wb_X4_appendTerm : ∀ w ∈ ([.instanceMethod yX4_appendTerm, .selects RX4 yX4_appendTerm yX4_appendTerm, .initialized RX4, .code yX4_appendTerm cX4_appendTerm 7 none] : List Cond), w ∈ LW := List.forall_mem_cons.mpr ⟨lw_in 607 (by decide +kernel) rfl, List.forall_mem_cons.mpr ⟨lw_in 608 (by decide +kernel) rfl, List.forall_mem_cons.mpr ⟨lw_in 8 (by decide +kernel) rfl, List.forall_mem_cons.mpr ⟨lw_in 609 (by decide +kernel) rfl, fun _ h => absurd h List.not_mem_nil⟩⟩⟩⟩
set_option maxRecDepth 20000 in
theorem hy_X4_appendTerm : yX4_appendTerm.cls = RX4 ∧ yX4_appendTerm.cls ≠ "java/lang/invoke/MethodHandle" ∧ yX4_appendTerm.cls ≠ "java/lang/invoke/VarHandle" ∧ (parseMethodDescriptor yX4_appendTerm.desc).map (fun d => d.parameters.length) = some 2 := by decide +kernel
set_option maxRecDepth 20000 in
theorem wM_X1_95 : (Cond.methodLink "ImpactShelf$Collection" (95 : Nat) ({ cls := "ImpactShelf$Index", name := "appendTerm", desc := "(J[I)V" } : MethodName)) ∈ LW := lw_in 606 (by decide +kernel) rfl
set_option maxRecDepth 20000 in
theorem wb_X1_greatestScore : ∀ w ∈ ([.instanceMethod yX1_greatestScore, .selects RX1 yX1_greatestScore yX1_greatestScore, .initialized RX1, .code yX1_greatestScore cX1_greatestScore 4 (some .double)] : List Cond), w ∈ LW := List.forall_mem_cons.mpr ⟨lw_in 600 (by decide +kernel) rfl, List.forall_mem_cons.mpr ⟨lw_inS 12 (by decide +kernel) rfl, List.forall_mem_cons.mpr ⟨lw_in 4 (by decide +kernel) rfl, List.forall_mem_cons.mpr ⟨lw_in 601 (by decide +kernel) rfl, fun _ h => absurd h List.not_mem_nil⟩⟩⟩⟩
set_option maxRecDepth 20000 in
theorem hy_X1_greatestScore : yX1_greatestScore.cls = RX1 ∧ yX1_greatestScore.cls ≠ "java/lang/invoke/MethodHandle" ∧ yX1_greatestScore.cls ≠ "java/lang/invoke/VarHandle" ∧ (parseMethodDescriptor yX1_greatestScore.desc).map (fun d => d.parameters.length) = some 0 := by decide +kernel
set_option maxRecDepth 20000 in
theorem wM_X1_84 : (Cond.methodLink "ImpactShelf$Collection" (84 : Nat) ({ cls := "ImpactShelf$Collection", name := "greatestScore", desc := "()D" } : MethodName)) ∈ LW := lw_in 598 (by decide +kernel) rfl
set_option maxRecDepth 20000 in
theorem wb_X1_leastScore : ∀ w ∈ ([.instanceMethod yX1_leastScore, .selects RX1 yX1_leastScore yX1_leastScore, .initialized RX1, .code yX1_leastScore cX1_leastScore 4 (some .double)] : List Cond), w ∈ LW := List.forall_mem_cons.mpr ⟨lw_in 591 (by decide +kernel) rfl, List.forall_mem_cons.mpr ⟨lw_inS 10 (by decide +kernel) rfl, List.forall_mem_cons.mpr ⟨lw_in 4 (by decide +kernel) rfl, List.forall_mem_cons.mpr ⟨lw_in 592 (by decide +kernel) rfl, fun _ h => absurd h List.not_mem_nil⟩⟩⟩⟩
set_option maxRecDepth 20000 in
theorem hy_X1_leastScore : yX1_leastScore.cls = RX1 ∧ yX1_leastScore.cls ≠ "java/lang/invoke/MethodHandle" ∧ yX1_leastScore.cls ≠ "java/lang/invoke/VarHandle" ∧ (parseMethodDescriptor yX1_leastScore.desc).map (fun d => d.parameters.length) = some 0 := by decide +kernel
set_option maxRecDepth 20000 in
theorem wM_X1_80 : (Cond.methodLink "ImpactShelf$Collection" (80 : Nat) ({ cls := "ImpactShelf$Collection", name := "leastScore", desc := "()D" } : MethodName)) ∈ LW := lw_in 589 (by decide +kernel) rfl
set_option maxRecDepth 20000 in
theorem wb_X4_start : ∀ w ∈ ([.instanceMethod yX4_start, .selects RX4 yX4_start yX4_start, .initialized RX4, .code yX4_start cX4_start 3 none] : List Cond), w ∈ LW := List.forall_mem_cons.mpr ⟨lw_in 586 (by decide +kernel) rfl, List.forall_mem_cons.mpr ⟨lw_in 587 (by decide +kernel) rfl, List.forall_mem_cons.mpr ⟨lw_in 8 (by decide +kernel) rfl, List.forall_mem_cons.mpr ⟨lw_in 588 (by decide +kernel) rfl, fun _ h => absurd h List.not_mem_nil⟩⟩⟩⟩
set_option maxRecDepth 20000 in
theorem hy_X4_start : yX4_start.cls = RX4 ∧ yX4_start.cls ≠ "java/lang/invoke/MethodHandle" ∧ yX4_start.cls ≠ "java/lang/invoke/VarHandle" ∧ (parseMethodDescriptor yX4_start.desc).map (fun d => d.parameters.length) = some 2 := by decide +kernel
set_option maxRecDepth 20000 in
theorem wM_X1_74 : (Cond.methodLink "ImpactShelf$Collection" (74 : Nat) ({ cls := "ImpactShelf$Index", name := "start", desc := "(II)V" } : MethodName)) ∈ LW := lw_in 585 (by decide +kernel) rfl
set_option maxRecDepth 20000 in
theorem wb_X1_scoreAll : ∀ w ∈ ([.instanceMethod yX1_scoreAll, .selects RX1 yX1_scoreAll yX1_scoreAll, .initialized RX1, .code yX1_scoreAll cX1_scoreAll 3 none] : List Cond), w ∈ LW := List.forall_mem_cons.mpr ⟨lw_in 583 (by decide +kernel) rfl, List.forall_mem_cons.mpr ⟨lw_inS 9 (by decide +kernel) rfl, List.forall_mem_cons.mpr ⟨lw_in 4 (by decide +kernel) rfl, List.forall_mem_cons.mpr ⟨lw_in 584 (by decide +kernel) rfl, fun _ h => absurd h List.not_mem_nil⟩⟩⟩⟩
set_option maxRecDepth 20000 in
theorem hy_X1_scoreAll : yX1_scoreAll.cls = RX1 ∧ yX1_scoreAll.cls ≠ "java/lang/invoke/MethodHandle" ∧ yX1_scoreAll.cls ≠ "java/lang/invoke/VarHandle" ∧ (parseMethodDescriptor yX1_scoreAll.desc).map (fun d => d.parameters.length) = some 0 := by decide +kernel
set_option maxRecDepth 20000 in
theorem wM_X1_71 : (Cond.methodLink "ImpactShelf$Collection" (71 : Nat) ({ cls := "ImpactShelf$Collection", name := "scoreAll", desc := "()V" } : MethodName)) ∈ LW := lw_in 581 (by decide +kernel) rfl
set_option maxRecDepth 20000 in
theorem wF_X2_19 : (Cond.fieldLink "ImpactShelf$Gaps" (19 : Nat) "ImpactShelf$Index" "firstPosting" "[I") ∈ LW := lw_in 167 (by decide +kernel) rfl
set_option maxRecDepth 20000 in
theorem wM_X2_28 : (Cond.methodLink "ImpactShelf$Gaps" (28 : Nat) ({ cls := "java/lang/Math", name := "min", desc := "(II)I" } : MethodName)) ∈ LW := lw_in 649 (by decide +kernel) rfl
set_option maxRecDepth 20000 in
theorem wX_min : ∀ w ∈ ([.static Lib.Math.min.name, .initialized "java/lang/Math", .code Lib.Math.min.name Lib.Math.min.code 2 (some .int)] : List Cond), w ∈ LW := List.forall_mem_cons.mpr ⟨lw_in 650 rfl rfl, List.forall_mem_cons.mpr ⟨lw_in 18 rfl rfl, List.forall_mem_cons.mpr ⟨lw_in 651 rfl rfl, fun _ h => absurd h List.not_mem_nil⟩⟩⟩
set_option maxRecDepth 20000 in
theorem inW_X2 : ∀ w ∈ u_ws RX2 TX2 2, w ∈ LW := inW_of [130, 132] (by decide +kernel) (by decide +kernel)
set_option maxRecDepth 20000 in
theorem wF_X2_15 : (Cond.fieldLink "ImpactShelf$Gaps" (15 : Nat) "ImpactShelf$Gaps" "many" "I") ∈ LW := lw_in 128 (by decide +kernel) rfl
set_option maxRecDepth 20000 in
theorem wF_X2_9 : (Cond.fieldLink "ImpactShelf$Gaps" (9 : Nat) "ImpactShelf$Gaps" "gap" "[I") ∈ LW := lw_in 126 (by decide +kernel) rfl
set_option maxRecDepth 20000 in
theorem wF_X2_34 : (Cond.fieldLink "ImpactShelf$Gaps" (34 : Nat) "ImpactShelf$Index" "document" "[I") ∈ LW := lw_in 170 (by decide +kernel) rfl
set_option maxRecDepth 20000 in
theorem wb_X4_size : ∀ w ∈ ([.instanceMethod yX4_size, .selects RX4 yX4_size yX4_size, .initialized RX4, .code yX4_size cX4_size 2 (some .int)] : List Cond), w ∈ LW := List.forall_mem_cons.mpr ⟨lw_in 641 (by decide +kernel) rfl, List.forall_mem_cons.mpr ⟨lw_in 642 (by decide +kernel) rfl, List.forall_mem_cons.mpr ⟨lw_in 8 (by decide +kernel) rfl, List.forall_mem_cons.mpr ⟨lw_in 643 (by decide +kernel) rfl, fun _ h => absurd h List.not_mem_nil⟩⟩⟩⟩
set_option maxRecDepth 20000 in
theorem hy_X4_size : yX4_size.cls = RX4 ∧ yX4_size.cls ≠ "java/lang/invoke/MethodHandle" ∧ yX4_size.cls ≠ "java/lang/invoke/VarHandle" ∧ (parseMethodDescriptor yX4_size.desc).map (fun d => d.parameters.length) = some 1 := by decide +kernel
set_option maxRecDepth 20000 in
theorem wM_X2_24 : (Cond.methodLink "ImpactShelf$Gaps" (24 : Nat) ({ cls := "ImpactShelf$Index", name := "size", desc := "(I)I" } : MethodName)) ∈ LW := lw_in 648 (by decide +kernel) rfl
set_option maxRecDepth 20000 in
theorem wM_X2_57 : (Cond.methodLink "ImpactShelf$Gaps" (57 : Nat) ({ cls := "ImpactShelf$Bytes", name := "put", desc := "(I)V" } : MethodName)) ∈ LW := lw_in 660 (by decide +kernel) rfl
set_option maxRecDepth 20000 in
theorem wFn_X2_70 : (Cond.fieldLinkNest "ImpactShelf$Gaps" (70 : Nat) "ImpactShelf" "WAY_GAPS" "[I" "ImpactShelf") ∈ NW := nw_in 669 (by decide +kernel) rfl
set_option maxRecDepth 20000 in
theorem wFn_X2_73 : (Cond.fieldLinkNest "ImpactShelf$Gaps" (73 : Nat) "ImpactShelf" "WAY_BITS" "[I" "ImpactShelf") ∈ NW := nw_in 671 (by decide +kernel) rfl
set_option maxRecDepth 20000 in
theorem wM_X0_20 : (Cond.methodLink "ImpactShelf$Bytes" (20 : Nat) ({ cls := "ImpactShelf$Bytes", name := "put", desc := "(I)V" } : MethodName)) ∈ LW := lw_in 354 (by decide +kernel) rfl
set_option maxRecDepth 20000 in
theorem wb_X0_putEight : ∀ w ∈ ([.instanceMethod yX0_putEight, .selects RX0 yX0_putEight yX0_putEight, .initialized RX0, .code yX0_putEight cX0_putEight 4 none] : List Cond), w ∈ LW := List.forall_mem_cons.mpr ⟨lw_in 674 (by decide +kernel) rfl, List.forall_mem_cons.mpr ⟨lw_in 675 (by decide +kernel) rfl, List.forall_mem_cons.mpr ⟨lw_in 2 (by decide +kernel) rfl, List.forall_mem_cons.mpr ⟨lw_in 676 (by decide +kernel) rfl, fun _ h => absurd h List.not_mem_nil⟩⟩⟩⟩
set_option maxRecDepth 20000 in
theorem hy_X0_putEight : yX0_putEight.cls = RX0 ∧ yX0_putEight.cls ≠ "java/lang/invoke/MethodHandle" ∧ yX0_putEight.cls ≠ "java/lang/invoke/VarHandle" ∧ (parseMethodDescriptor yX0_putEight.desc).map (fun d => d.parameters.length) = some 1 := by decide +kernel
set_option maxRecDepth 20000 in
theorem wM_X2_76 : (Cond.methodLink "ImpactShelf$Gaps" (76 : Nat) ({ cls := "ImpactShelf$Bytes", name := "putEight", desc := "(J)V" } : MethodName)) ∈ LW := lw_in 673 (by decide +kernel) rfl
set_option maxRecDepth 20000 in
theorem wb_X2_leastWay : ∀ w ∈ ([.instanceMethod yX2_leastWay, .selects RX2 yX2_leastWay yX2_leastWay, .initialized RX2, .code yX2_leastWay cX2_leastWay 6 (some .int)] : List Cond), w ∈ LW := List.forall_mem_cons.mpr ⟨lw_in 667 (by decide +kernel) rfl, List.forall_mem_cons.mpr ⟨lw_inS 17 (by decide +kernel) rfl, List.forall_mem_cons.mpr ⟨lw_in 6 (by decide +kernel) rfl, List.forall_mem_cons.mpr ⟨lw_in 668 (by decide +kernel) rfl, fun _ h => absurd h List.not_mem_nil⟩⟩⟩⟩
set_option maxRecDepth 20000 in
theorem hy_X2_leastWay : yX2_leastWay.cls = RX2 ∧ yX2_leastWay.cls ≠ "java/lang/invoke/MethodHandle" ∧ yX2_leastWay.cls ≠ "java/lang/invoke/VarHandle" ∧ (parseMethodDescriptor yX2_leastWay.desc).map (fun d => d.parameters.length) = some 1 := by decide +kernel
set_option maxRecDepth 20000 in
theorem wM_X2_67 : (Cond.methodLink "ImpactShelf$Gaps" (67 : Nat) ({ cls := "ImpactShelf$Gaps", name := "leastWay", desc := "(I)I" } : MethodName)) ∈ LW := lw_in 665 (by decide +kernel) rfl
set_option maxRecDepth 20000 in
theorem wb_X2_bitsOfGreatest : ∀ w ∈ ([.instanceMethod yX2_bitsOfGreatest, .selects RX2 yX2_bitsOfGreatest yX2_bitsOfGreatest, .initialized RX2, .code yX2_bitsOfGreatest cX2_bitsOfGreatest 3 (some .int)] : List Cond), w ∈ LW := List.forall_mem_cons.mpr ⟨lw_in 683 (by decide +kernel) rfl, List.forall_mem_cons.mpr ⟨lw_inS 19 (by decide +kernel) rfl, List.forall_mem_cons.mpr ⟨lw_in 6 (by decide +kernel) rfl, List.forall_mem_cons.mpr ⟨lw_in 684 (by decide +kernel) rfl, fun _ h => absurd h List.not_mem_nil⟩⟩⟩⟩
set_option maxRecDepth 20000 in
theorem hy_X2_bitsOfGreatest : yX2_bitsOfGreatest.cls = RX2 ∧ yX2_bitsOfGreatest.cls ≠ "java/lang/invoke/MethodHandle" ∧ yX2_bitsOfGreatest.cls ≠ "java/lang/invoke/VarHandle" ∧ (parseMethodDescriptor yX2_bitsOfGreatest.desc).map (fun d => d.parameters.length) = some 0 := by decide +kernel
set_option maxRecDepth 20000 in
theorem wM_X2_91 : (Cond.methodLink "ImpactShelf$Gaps" (91 : Nat) ({ cls := "ImpactShelf$Gaps", name := "bitsOfGreatest", desc := "()I" } : MethodName)) ∈ LW := lw_in 681 (by decide +kernel) rfl
set_option maxRecDepth 20000 in
theorem wb_X2_writeSevens : ∀ w ∈ ([.instanceMethod yX2_writeSevens, .selects RX2 yX2_writeSevens yX2_writeSevens, .initialized RX2, .code yX2_writeSevens cX2_writeSevens 3 none] : List Cond), w ∈ LW := List.forall_mem_cons.mpr ⟨lw_in 658 (by decide +kernel) rfl, List.forall_mem_cons.mpr ⟨lw_inS 15 (by decide +kernel) rfl, List.forall_mem_cons.mpr ⟨lw_in 6 (by decide +kernel) rfl, List.forall_mem_cons.mpr ⟨lw_in 659 (by decide +kernel) rfl, fun _ h => absurd h List.not_mem_nil⟩⟩⟩⟩
set_option maxRecDepth 20000 in
theorem hy_X2_writeSevens : yX2_writeSevens.cls = RX2 ∧ yX2_writeSevens.cls ≠ "java/lang/invoke/MethodHandle" ∧ yX2_writeSevens.cls ≠ "java/lang/invoke/VarHandle" ∧ (parseMethodDescriptor yX2_writeSevens.desc).map (fun d => d.parameters.length) = some 1 := by decide +kernel
set_option maxRecDepth 20000 in
theorem wM_X2_37 : (Cond.methodLink "ImpactShelf$Gaps" (37 : Nat) ({ cls := "ImpactShelf$Gaps", name := "writeSevens", desc := "(LImpactShelf$Bytes;)V" } : MethodName)) ∈ LW := lw_in 656 (by decide +kernel) rfl
set_option maxRecDepth 20000 in
theorem wb_X2_writeWords : ∀ w ∈ ([.instanceMethod yX2_writeWords, .selects RX2 yX2_writeWords yX2_writeWords, .initialized RX2, .code yX2_writeWords cX2_writeWords 9 none] : List Cond), w ∈ LW := List.forall_mem_cons.mpr ⟨lw_in 663 (by decide +kernel) rfl, List.forall_mem_cons.mpr ⟨lw_inS 16 (by decide +kernel) rfl, List.forall_mem_cons.mpr ⟨lw_in 6 (by decide +kernel) rfl, List.forall_mem_cons.mpr ⟨lw_in 664 (by decide +kernel) rfl, fun _ h => absurd h List.not_mem_nil⟩⟩⟩⟩
set_option maxRecDepth 20000 in
theorem hy_X2_writeWords : yX2_writeWords.cls = RX2 ∧ yX2_writeWords.cls ≠ "java/lang/invoke/MethodHandle" ∧ yX2_writeWords.cls ≠ "java/lang/invoke/VarHandle" ∧ (parseMethodDescriptor yX2_writeWords.desc).map (fun d => d.parameters.length) = some 1 := by decide +kernel
set_option maxRecDepth 20000 in
theorem wM_X2_41 : (Cond.methodLink "ImpactShelf$Gaps" (41 : Nat) ({ cls := "ImpactShelf$Gaps", name := "writeWords", desc := "(LImpactShelf$Bytes;)V" } : MethodName)) ∈ LW := lw_in 661 (by decide +kernel) rfl
set_option maxRecDepth 20000 in
theorem wb_X2_writeEven : ∀ w ∈ ([.instanceMethod yX2_writeEven, .selects RX2 yX2_writeEven yX2_writeEven, .initialized RX2, .code yX2_writeEven cX2_writeEven 6 none] : List Cond), w ∈ LW := List.forall_mem_cons.mpr ⟨lw_in 679 (by decide +kernel) rfl, List.forall_mem_cons.mpr ⟨lw_inS 18 (by decide +kernel) rfl, List.forall_mem_cons.mpr ⟨lw_in 6 (by decide +kernel) rfl, List.forall_mem_cons.mpr ⟨lw_in 680 (by decide +kernel) rfl, fun _ h => absurd h List.not_mem_nil⟩⟩⟩⟩
set_option maxRecDepth 20000 in
theorem hy_X2_writeEven : yX2_writeEven.cls = RX2 ∧ yX2_writeEven.cls ≠ "java/lang/invoke/MethodHandle" ∧ yX2_writeEven.cls ≠ "java/lang/invoke/VarHandle" ∧ (parseMethodDescriptor yX2_writeEven.desc).map (fun d => d.parameters.length) = some 1 := by decide +kernel
set_option maxRecDepth 20000 in
theorem wM_X2_44 : (Cond.methodLink "ImpactShelf$Gaps" (44 : Nat) ({ cls := "ImpactShelf$Gaps", name := "writeEven", desc := "(LImpactShelf$Bytes;)V" } : MethodName)) ∈ LW := lw_in 677 (by decide +kernel) rfl
set_option maxRecDepth 20000 in
theorem wF_X5_80 : (Cond.fieldLink "ImpactShelf$IndexFile" (80 : Nat) "ImpactShelf$Index" "term" "[J") ∈ LW := lw_in 159 (by decide +kernel) rfl
set_option maxRecDepth 20000 in
theorem wM_X5_31 : (Cond.methodLink "ImpactShelf$IndexFile" (31 : Nat) ({ cls := "ImpactShelf$Bytes", name := "put", desc := "(I)V" } : MethodName)) ∈ LW := lw_in 631 (by decide +kernel) rfl
set_option maxRecDepth 20000 in
theorem wM_X5_90 : (Cond.methodLink "ImpactShelf$IndexFile" (90 : Nat) ({ cls := "ImpactShelf$Words", name := "letterAt", desc := "(JI)I" } : MethodName)) ∈ LW := lw_in 639 (by decide +kernel) rfl
set_option maxRecDepth 20000 in
theorem wF_X5_94 : (Cond.fieldLink "ImpactShelf$IndexFile" (94 : Nat) "ImpactShelf$Index" "firstSegment" "[I") ∈ LW := lw_in 161 (by decide +kernel) rfl
set_option maxRecDepth 20000 in
theorem wF_X5_98 : (Cond.fieldLink "ImpactShelf$IndexFile" (98 : Nat) "ImpactShelf$Index" "impact" "[I") ∈ LW := lw_in 164 (by decide +kernel) rfl
set_option maxRecDepth 20000 in
theorem inW_X5 : ∀ w ∈ u_ws RX5 TX5 2, w ∈ LW := inW_of [139, 141] (by decide +kernel) (by decide +kernel)
set_option maxRecDepth 20000 in
theorem wF_X5_12 : (Cond.fieldLink "ImpactShelf$IndexFile" (12 : Nat) "ImpactShelf$IndexFile" "gaps" "LImpactShelf$Gaps;") ∈ LW := lw_in 137 (by decide +kernel) rfl
set_option maxRecDepth 20000 in
theorem wb_X2_write : ∀ w ∈ ([.instanceMethod yX2_write, .selects RX2 yX2_write yX2_write, .initialized RX2, .code yX2_write cX2_write 3 none] : List Cond), w ∈ LW := List.forall_mem_cons.mpr ⟨lw_in 653 (by decide +kernel) rfl, List.forall_mem_cons.mpr ⟨lw_in 654 (by decide +kernel) rfl, List.forall_mem_cons.mpr ⟨lw_in 6 (by decide +kernel) rfl, List.forall_mem_cons.mpr ⟨lw_in 655 (by decide +kernel) rfl, fun _ h => absurd h List.not_mem_nil⟩⟩⟩⟩
set_option maxRecDepth 20000 in
theorem hy_X2_write : yX2_write.cls = RX2 ∧ yX2_write.cls ≠ "java/lang/invoke/MethodHandle" ∧ yX2_write.cls ≠ "java/lang/invoke/VarHandle" ∧ (parseMethodDescriptor yX2_write.desc).map (fun d => d.parameters.length) = some 2 := by decide +kernel
set_option maxRecDepth 20000 in
theorem wM_X5_109 : (Cond.methodLink "ImpactShelf$IndexFile" (109 : Nat) ({ cls := "ImpactShelf$Gaps", name := "write", desc := "(ILImpactShelf$Bytes;)V" } : MethodName)) ∈ LW := lw_in 652 (by decide +kernel) rfl
set_option maxRecDepth 20000 in
theorem wb_X2_take : ∀ w ∈ ([.instanceMethod yX2_take, .selects RX2 yX2_take yX2_take, .initialized RX2, .code yX2_take cX2_take 6 none] : List Cond), w ∈ LW := List.forall_mem_cons.mpr ⟨lw_in 645 (by decide +kernel) rfl, List.forall_mem_cons.mpr ⟨lw_in 646 (by decide +kernel) rfl, List.forall_mem_cons.mpr ⟨lw_in 6 (by decide +kernel) rfl, List.forall_mem_cons.mpr ⟨lw_in 647 (by decide +kernel) rfl, fun _ h => absurd h List.not_mem_nil⟩⟩⟩⟩
set_option maxRecDepth 20000 in
theorem hy_X2_take : yX2_take.cls = RX2 ∧ yX2_take.cls ≠ "java/lang/invoke/MethodHandle" ∧ yX2_take.cls ≠ "java/lang/invoke/VarHandle" ∧ (parseMethodDescriptor yX2_take.desc).map (fun d => d.parameters.length) = some 2 := by decide +kernel
set_option maxRecDepth 20000 in
theorem wM_X5_105 : (Cond.methodLink "ImpactShelf$IndexFile" (105 : Nat) ({ cls := "ImpactShelf$Gaps", name := "take", desc := "(LImpactShelf$Index;I)V" } : MethodName)) ∈ LW := lw_in 644 (by decide +kernel) rfl
set_option maxRecDepth 20000 in
theorem wM_X5_101 : (Cond.methodLink "ImpactShelf$IndexFile" (101 : Nat) ({ cls := "ImpactShelf$Index", name := "size", desc := "(I)I" } : MethodName)) ∈ LW := lw_in 640 (by decide +kernel) rfl
set_option maxRecDepth 20000 in
theorem wb_X7_lettersOf : ∀ w ∈ ([.static yX7_lettersOf, .initialized yX7_lettersOf.cls, .code yX7_lettersOf cX7_lettersOf 3 (some .int)] : List Cond), w ∈ LW := List.forall_mem_cons.mpr ⟨lw_in 637 (by decide +kernel) rfl, List.forall_mem_cons.mpr ⟨lw_in 3 (by decide +kernel) rfl, List.forall_mem_cons.mpr ⟨lw_in 638 (by decide +kernel) rfl, fun _ h => absurd h List.not_mem_nil⟩⟩⟩
set_option maxRecDepth 20000 in
theorem hy_X7_lettersOf : yX7_lettersOf.cls ≠ "java/lang/invoke/MethodHandle" ∧ yX7_lettersOf.cls ≠ "java/lang/invoke/VarHandle" ∧ (parseMethodDescriptor yX7_lettersOf.desc).map (fun d => d.parameters.length) = some 1 := by decide +kernel
set_option maxRecDepth 20000 in
theorem wM_X5_84 : (Cond.methodLink "ImpactShelf$IndexFile" (84 : Nat) ({ cls := "ImpactShelf$Words", name := "lettersOf", desc := "(J)I" } : MethodName)) ∈ LW := lw_in 636 (by decide +kernel) rfl
set_option maxRecDepth 20000 in
theorem wC_X0_40 : (Cond.constant "ImpactShelf$Bytes" (40 : Nat) (65521 : Int32)) ∈ LW := lw_in 353 (by decide +kernel) rfl
set_option maxRecDepth 20000 in
theorem wM_X0_26 : (Cond.methodLink "ImpactShelf$Bytes" (26 : Nat) ({ cls := "ImpactShelf$Bytes", name := "at", desc := "(I)I" } : MethodName)) ∈ LW := lw_in 349 (by decide +kernel) rfl
set_option maxRecDepth 20000 in
theorem wF_X5_34 : (Cond.fieldLink "ImpactShelf$IndexFile" (34 : Nat) "ImpactShelf$Index" "bits" "I") ∈ LW := lw_in 173 (by decide +kernel) rfl
set_option maxRecDepth 20000 in
theorem wF_X5_40 : (Cond.fieldLink "ImpactShelf$IndexFile" (40 : Nat) "ImpactShelf$Index" "documents" "I") ∈ LW := lw_in 175 (by decide +kernel) rfl
set_option maxRecDepth 20000 in
theorem wF_X5_43 : (Cond.fieldLink "ImpactShelf$IndexFile" (43 : Nat) "ImpactShelf$Index" "terms" "I") ∈ LW := lw_in 179 (by decide +kernel) rfl
set_option maxRecDepth 20000 in
theorem wb_X5_writeTerm : ∀ w ∈ ([.instanceMethod yX5_writeTerm, .selects RX5 yX5_writeTerm yX5_writeTerm, .initialized RX5, .code yX5_writeTerm cX5_writeTerm 7 none] : List Cond), w ∈ LW := List.forall_mem_cons.mpr ⟨lw_in 634 (by decide +kernel) rfl, List.forall_mem_cons.mpr ⟨lw_inS 14 (by decide +kernel) rfl, List.forall_mem_cons.mpr ⟨lw_in 5 (by decide +kernel) rfl, List.forall_mem_cons.mpr ⟨lw_in 635 (by decide +kernel) rfl, fun _ h => absurd h List.not_mem_nil⟩⟩⟩⟩
set_option maxRecDepth 20000 in
theorem hy_X5_writeTerm : yX5_writeTerm.cls = RX5 ∧ yX5_writeTerm.cls ≠ "java/lang/invoke/MethodHandle" ∧ yX5_writeTerm.cls ≠ "java/lang/invoke/VarHandle" ∧ (parseMethodDescriptor yX5_writeTerm.desc).map (fun d => d.parameters.length) = some 4 := by decide +kernel
set_option maxRecDepth 20000 in
theorem wM_X5_46 : (Cond.methodLink "ImpactShelf$IndexFile" (46 : Nat) ({ cls := "ImpactShelf$IndexFile", name := "writeTerm", desc := "(LImpactShelf$Index;IILImpactShelf$Bytes;)V" } : MethodName)) ∈ LW := lw_in 632 (by decide +kernel) rfl
set_option maxRecDepth 20000 in
theorem wb_X0_putSum : ∀ w ∈ ([.instanceMethod yX0_putSum, .selects RX0 yX0_putSum yX0_putSum, .initialized RX0, .code yX0_putSum cX0_putSum 4 none] : List Cond), w ∈ LW := List.forall_mem_cons.mpr ⟨lw_in 346 (by decide +kernel) rfl, List.forall_mem_cons.mpr ⟨lw_in 347 (by decide +kernel) rfl, List.forall_mem_cons.mpr ⟨lw_in 2 (by decide +kernel) rfl, List.forall_mem_cons.mpr ⟨lw_in 348 (by decide +kernel) rfl, fun _ h => absurd h List.not_mem_nil⟩⟩⟩⟩
set_option maxRecDepth 20000 in
theorem hy_X0_putSum : yX0_putSum.cls = RX0 ∧ yX0_putSum.cls ≠ "java/lang/invoke/MethodHandle" ∧ yX0_putSum.cls ≠ "java/lang/invoke/VarHandle" ∧ (parseMethodDescriptor yX0_putSum.desc).map (fun d => d.parameters.length) = some 0 := by decide +kernel
set_option maxRecDepth 20000 in
theorem wM_X5_50 : (Cond.methodLink "ImpactShelf$IndexFile" (50 : Nat) ({ cls := "ImpactShelf$Bytes", name := "putSum", desc := "()V" } : MethodName)) ∈ LW := lw_in 685 (by decide +kernel) rfl
set_option maxRecDepth 20000 in
theorem wM_X5_27 : (Cond.methodLink "ImpactShelf$IndexFile" (27 : Nat) ({ cls := "ImpactShelf$Bytes", name := "shorten", desc := "(I)Z" } : MethodName)) ∈ LW := lw_in 630 (by decide +kernel) rfl
set_option maxRecDepth 20000 in
theorem wF_X8_59 : (Cond.fieldLink "ImpactShelf" (59 : Nat) "ImpactShelf" "draft" "LImpactShelf$Index;") ∈ LW := lw_in 300 (by decide +kernel) rfl
set_option maxRecDepth 20000 in
theorem wF_X8_38 : (Cond.fieldLink "ImpactShelf" (38 : Nat) "ImpactShelf" "indexFile" "LImpactShelf$IndexFile;") ∈ LW := lw_in 297 (by decide +kernel) rfl
set_option maxRecDepth 20000 in
theorem wF_X8_32 : (Cond.fieldLink "ImpactShelf" (32 : Nat) "ImpactShelf" "file" "LImpactShelf$Bytes;") ∈ LW := lw_in 296 (by decide +kernel) rfl
set_option maxRecDepth 20000 in
theorem wb_X5_write : ∀ w ∈ ([.instanceMethod yX5_write, .selects RX5 yX5_write yX5_write, .initialized RX5, .code yX5_write cX5_write 5 none] : List Cond), w ∈ LW := List.forall_mem_cons.mpr ⟨lw_in 627 (by decide +kernel) rfl, List.forall_mem_cons.mpr ⟨lw_in 628 (by decide +kernel) rfl, List.forall_mem_cons.mpr ⟨lw_in 5 (by decide +kernel) rfl, List.forall_mem_cons.mpr ⟨lw_in 629 (by decide +kernel) rfl, fun _ h => absurd h List.not_mem_nil⟩⟩⟩⟩
set_option maxRecDepth 20000 in
theorem hy_X5_write : yX5_write.cls = RX5 ∧ yX5_write.cls ≠ "java/lang/invoke/MethodHandle" ∧ yX5_write.cls ≠ "java/lang/invoke/VarHandle" ∧ (parseMethodDescriptor yX5_write.desc).map (fun d => d.parameters.length) = some 3 := by decide +kernel
set_option maxRecDepth 20000 in
theorem wM_X8_125 : (Cond.methodLink "ImpactShelf" (125 : Nat) ({ cls := "ImpactShelf$IndexFile", name := "write", desc := "(LImpactShelf$Index;ILImpactShelf$Bytes;)V" } : MethodName)) ∈ LW := lw_in 626 (by decide +kernel) rfl
set_option maxRecDepth 20000 in
theorem wb_X1_makeIndex : ∀ w ∈ ([.instanceMethod yX1_makeIndex, .selects RX1 yX1_makeIndex yX1_makeIndex, .initialized RX1, .code yX1_makeIndex cX1_makeIndex 10 none] : List Cond), w ∈ LW := List.forall_mem_cons.mpr ⟨lw_in 578 (by decide +kernel) rfl, List.forall_mem_cons.mpr ⟨lw_in 579 (by decide +kernel) rfl, List.forall_mem_cons.mpr ⟨lw_in 4 (by decide +kernel) rfl, List.forall_mem_cons.mpr ⟨lw_in 580 (by decide +kernel) rfl, fun _ h => absurd h List.not_mem_nil⟩⟩⟩⟩
set_option maxRecDepth 20000 in
theorem hy_X1_makeIndex : yX1_makeIndex.cls = RX1 ∧ yX1_makeIndex.cls ≠ "java/lang/invoke/MethodHandle" ∧ yX1_makeIndex.cls ≠ "java/lang/invoke/VarHandle" ∧ (parseMethodDescriptor yX1_makeIndex.desc).map (fun d => d.parameters.length) = some 2 := by decide +kernel
set_option maxRecDepth 20000 in
theorem wM_X8_121 : (Cond.methodLink "ImpactShelf" (121 : Nat) ({ cls := "ImpactShelf$Collection", name := "makeIndex", desc := "(ILImpactShelf$Index;)V" } : MethodName)) ∈ LW := lw_in 577 (by decide +kernel) rfl
set_option maxRecDepth 20000 in
theorem wC_X0_24 : (Cond.constantLong "ImpactShelf$Bytes" (24 : Nat) (255 : Int64)) ∈ LW := lw_in 701 (by decide +kernel) rfl
set_option maxRecDepth 20000 in
theorem wb_X0_eightFrom : ∀ w ∈ ([.instanceMethod yX0_eightFrom, .selects RX0 yX0_eightFrom yX0_eightFrom, .initialized RX0, .code yX0_eightFrom cX0_eightFrom 5 (some .long)] : List Cond), w ∈ LW := List.forall_mem_cons.mpr ⟨lw_in 698 (by decide +kernel) rfl, List.forall_mem_cons.mpr ⟨lw_in 699 (by decide +kernel) rfl, List.forall_mem_cons.mpr ⟨lw_in 2 (by decide +kernel) rfl, List.forall_mem_cons.mpr ⟨lw_in 700 (by decide +kernel) rfl, fun _ h => absurd h List.not_mem_nil⟩⟩⟩⟩
set_option maxRecDepth 20000 in
theorem hy_X0_eightFrom : yX0_eightFrom.cls = RX0 ∧ yX0_eightFrom.cls ≠ "java/lang/invoke/MethodHandle" ∧ yX0_eightFrom.cls ≠ "java/lang/invoke/VarHandle" ∧ (parseMethodDescriptor yX0_eightFrom.desc).map (fun d => d.parameters.length) = some 1 := by decide +kernel
set_option maxRecDepth 20000 in
theorem wM_X8_132 : (Cond.methodLink "ImpactShelf" (132 : Nat) ({ cls := "ImpactShelf$Bytes", name := "eightFrom", desc := "(I)J" } : MethodName)) ∈ LW := lw_in 697 (by decide +kernel) rfl
set_option maxRecDepth 20000 in
theorem wb_X8_requireByte : ∀ w ∈ ([.instanceMethod yX8_requireByte, .selects RX8 yX8_requireByte yX8_requireByte, .initialized RX8, .code yX8_requireByte cX8_requireByte 2 none] : List Cond), w ∈ LW := List.forall_mem_cons.mpr ⟨lw_in 695 (by decide +kernel) rfl, List.forall_mem_cons.mpr ⟨lw_inS 20 (by decide +kernel) rfl, List.forall_mem_cons.mpr ⟨lw_in 1 (by decide +kernel) rfl, List.forall_mem_cons.mpr ⟨lw_in 696 (by decide +kernel) rfl, fun _ h => absurd h List.not_mem_nil⟩⟩⟩⟩
set_option maxRecDepth 20000 in
theorem hy_X8_requireByte : yX8_requireByte.cls = RX8 ∧ yX8_requireByte.cls ≠ "java/lang/invoke/MethodHandle" ∧ yX8_requireByte.cls ≠ "java/lang/invoke/VarHandle" ∧ (parseMethodDescriptor yX8_requireByte.desc).map (fun d => d.parameters.length) = some 1 := by decide +kernel
set_option maxRecDepth 20000 in
theorem wM_X8_129 : (Cond.methodLink "ImpactShelf" (129 : Nat) ({ cls := "ImpactShelf", name := "requireByte", desc := "(I)V" } : MethodName)) ∈ LW := lw_in 693 (by decide +kernel) rfl
set_option maxRecDepth 20000 in
theorem wb_X0_set : ∀ w ∈ ([.instanceMethod yX0_set, .selects RX0 yX0_set yX0_set, .initialized RX0, .code yX0_set cX0_set 3 none] : List Cond), w ∈ LW := List.forall_mem_cons.mpr ⟨lw_in 711 (by decide +kernel) rfl, List.forall_mem_cons.mpr ⟨lw_in 712 (by decide +kernel) rfl, List.forall_mem_cons.mpr ⟨lw_in 2 (by decide +kernel) rfl, List.forall_mem_cons.mpr ⟨lw_in 713 (by decide +kernel) rfl, fun _ h => absurd h List.not_mem_nil⟩⟩⟩⟩
set_option maxRecDepth 20000 in
theorem hy_X0_set : yX0_set.cls = RX0 ∧ yX0_set.cls ≠ "java/lang/invoke/MethodHandle" ∧ yX0_set.cls ≠ "java/lang/invoke/VarHandle" ∧ (parseMethodDescriptor yX0_set.desc).map (fun d => d.parameters.length) = some 2 := by decide +kernel
set_option maxRecDepth 20000 in
theorem wM_X8_140 : (Cond.methodLink "ImpactShelf" (140 : Nat) ({ cls := "ImpactShelf$Bytes", name := "set", desc := "(II)V" } : MethodName)) ∈ LW := lw_in 710 (by decide +kernel) rfl
set_option maxRecDepth 20000 in
theorem wM_X8_136 : (Cond.methodLink "ImpactShelf" (136 : Nat) ({ cls := "ImpactShelf$Bytes", name := "at", desc := "(I)I" } : MethodName)) ∈ LW := lw_in 709 (by decide +kernel) rfl
set_option maxRecDepth 20000 in
theorem wM_X8_148 : (Cond.methodLink "ImpactShelf" (148 : Nat) ({ cls := "ImpactShelf$Bytes", name := "putSum", desc := "()V" } : MethodName)) ∈ LW := lw_in 345 (by decide +kernel) rfl
set_option maxRecDepth 20000 in
theorem wF_X0_13 : (Cond.fieldLink "ImpactShelf$Bytes" (13 : Nat) "ImpactShelf$Bytes" "place" "I") ∈ LW := lw_in 36 (by decide +kernel) rfl
set_option maxRecDepth 20000 in
theorem wM_X5_135 : (Cond.methodLink "ImpactShelf$IndexFile" (135 : Nat) ({ cls := "ImpactShelf$Words", name := "place", desc := "(II)J" } : MethodName)) ∈ LW := lw_in 744 (by decide +kernel) rfl
set_option maxRecDepth 20000 in
theorem wb_X5_isWithin : ∀ w ∈ ([.static yX5_isWithin, .initialized yX5_isWithin.cls, .code yX5_isWithin cX5_isWithin 3 (some .boolean)] : List Cond), w ∈ LW := List.forall_mem_cons.mpr ⟨lw_in 734 (by decide +kernel) rfl, List.forall_mem_cons.mpr ⟨lw_in 5 (by decide +kernel) rfl, List.forall_mem_cons.mpr ⟨lw_in 735 (by decide +kernel) rfl, fun _ h => absurd h List.not_mem_nil⟩⟩⟩
set_option maxRecDepth 20000 in
theorem hy_X5_isWithin : yX5_isWithin.cls ≠ "java/lang/invoke/MethodHandle" ∧ yX5_isWithin.cls ≠ "java/lang/invoke/VarHandle" ∧ (parseMethodDescriptor yX5_isWithin.desc).map (fun d => d.parameters.length) = some 3 := by decide +kernel
set_option maxRecDepth 20000 in
theorem wM_X5_60 : (Cond.methodLink "ImpactShelf$IndexFile" (60 : Nat) ({ cls := "ImpactShelf$IndexFile", name := "isWithin", desc := "(III)Z" } : MethodName)) ∈ LW := lw_in 733 (by decide +kernel) rfl
set_option maxRecDepth 20000 in
theorem wb_X0_next : ∀ w ∈ ([.instanceMethod yX0_next, .selects RX0 yX0_next yX0_next, .initialized RX0, .code yX0_next cX0_next 1 (some .int)] : List Cond), w ∈ LW := List.forall_mem_cons.mpr ⟨lw_in 730 (by decide +kernel) rfl, List.forall_mem_cons.mpr ⟨lw_in 731 (by decide +kernel) rfl, List.forall_mem_cons.mpr ⟨lw_in 2 (by decide +kernel) rfl, List.forall_mem_cons.mpr ⟨lw_in 732 (by decide +kernel) rfl, fun _ h => absurd h List.not_mem_nil⟩⟩⟩⟩
set_option maxRecDepth 20000 in
theorem hy_X0_next : yX0_next.cls = RX0 ∧ yX0_next.cls ≠ "java/lang/invoke/MethodHandle" ∧ yX0_next.cls ≠ "java/lang/invoke/VarHandle" ∧ (parseMethodDescriptor yX0_next.desc).map (fun d => d.parameters.length) = some 0 := by decide +kernel
set_option maxRecDepth 20000 in
theorem wM_X5_56 : (Cond.methodLink "ImpactShelf$IndexFile" (56 : Nat) ({ cls := "ImpactShelf$Bytes", name := "next", desc := "()I" } : MethodName)) ∈ LW := lw_in 729 (by decide +kernel) rfl
set_option maxRecDepth 20000 in
theorem wM_X2_63 : (Cond.methodLink "ImpactShelf$Gaps" (63 : Nat) ({ cls := "ImpactShelf$Bytes", name := "next", desc := "()I" } : MethodName)) ∈ LW := lw_in 758 (by decide +kernel) rfl
set_option maxRecDepth 20000 in
theorem wM_X0_34 : (Cond.methodLink "ImpactShelf$Bytes" (34 : Nat) ({ cls := "java/lang/Math", name := "min", desc := "(II)I" } : MethodName)) ∈ LW := lw_in 772 (by decide +kernel) rfl
set_option maxRecDepth 20000 in
theorem wM_X0_30 : (Cond.methodLink "ImpactShelf$Bytes" (30 : Nat) ({ cls := "ImpactShelf$Bytes", name := "eightFrom", desc := "(I)J" } : MethodName)) ∈ LW := lw_in 771 (by decide +kernel) rfl
set_option maxRecDepth 20000 in
theorem wC_X2_87 : (Cond.constantLong "ImpactShelf$Gaps" (87 : Nat) (15 : Int64)) ∈ LW := lw_in 773 (by decide +kernel) rfl
set_option maxRecDepth 20000 in
theorem wC_X2_89 : (Cond.constantLong "ImpactShelf$Gaps" (89 : Nat) (40 : Int64)) ∈ LW := lw_in 774 (by decide +kernel) rfl
set_option maxRecDepth 20000 in
theorem wb_X0_nextEight : ∀ w ∈ ([.instanceMethod yX0_nextEight, .selects RX0 yX0_nextEight yX0_nextEight, .initialized RX0, .code yX0_nextEight cX0_nextEight 3 (some .long)] : List Cond), w ∈ LW := List.forall_mem_cons.mpr ⟨lw_in 768 (by decide +kernel) rfl, List.forall_mem_cons.mpr ⟨lw_in 769 (by decide +kernel) rfl, List.forall_mem_cons.mpr ⟨lw_in 2 (by decide +kernel) rfl, List.forall_mem_cons.mpr ⟨lw_in 770 (by decide +kernel) rfl, fun _ h => absurd h List.not_mem_nil⟩⟩⟩⟩
set_option maxRecDepth 20000 in
theorem hy_X0_nextEight : yX0_nextEight.cls = RX0 ∧ yX0_nextEight.cls ≠ "java/lang/invoke/MethodHandle" ∧ yX0_nextEight.cls ≠ "java/lang/invoke/VarHandle" ∧ (parseMethodDescriptor yX0_nextEight.desc).map (fun d => d.parameters.length) = some 0 := by decide +kernel
set_option maxRecDepth 20000 in
theorem wM_X2_83 : (Cond.methodLink "ImpactShelf$Gaps" (83 : Nat) ({ cls := "ImpactShelf$Bytes", name := "nextEight", desc := "()J" } : MethodName)) ∈ LW := lw_in 767 (by decide +kernel) rfl
set_option maxRecDepth 20000 in
theorem wb_X0_left : ∀ w ∈ ([.instanceMethod yX0_left, .selects RX0 yX0_left yX0_left, .initialized RX0, .code yX0_left cX0_left 1 (some .int)] : List Cond), w ∈ LW := List.forall_mem_cons.mpr ⟨lw_in 764 (by decide +kernel) rfl, List.forall_mem_cons.mpr ⟨lw_in 765 (by decide +kernel) rfl, List.forall_mem_cons.mpr ⟨lw_in 2 (by decide +kernel) rfl, List.forall_mem_cons.mpr ⟨lw_in 766 (by decide +kernel) rfl, fun _ h => absurd h List.not_mem_nil⟩⟩⟩⟩
set_option maxRecDepth 20000 in
theorem hy_X0_left : yX0_left.cls = RX0 ∧ yX0_left.cls ≠ "java/lang/invoke/MethodHandle" ∧ yX0_left.cls ≠ "java/lang/invoke/VarHandle" ∧ (parseMethodDescriptor yX0_left.desc).map (fun d => d.parameters.length) = some 0 := by decide +kernel
set_option maxRecDepth 20000 in
theorem wM_X2_80 : (Cond.methodLink "ImpactShelf$Gaps" (80 : Nat) ({ cls := "ImpactShelf$Bytes", name := "left", desc := "()I" } : MethodName)) ∈ LW := lw_in 763 (by decide +kernel) rfl
set_option maxRecDepth 20000 in
theorem wb_X2_readSevens : ∀ w ∈ ([.instanceMethod yX2_readSevens, .selects RX2 yX2_readSevens yX2_readSevens, .initialized RX2, .code yX2_readSevens cX2_readSevens 4 (some .boolean)] : List Cond), w ∈ LW := List.forall_mem_cons.mpr ⟨lw_in 756 (by decide +kernel) rfl, List.forall_mem_cons.mpr ⟨lw_inS 22 (by decide +kernel) rfl, List.forall_mem_cons.mpr ⟨lw_in 6 (by decide +kernel) rfl, List.forall_mem_cons.mpr ⟨lw_in 757 (by decide +kernel) rfl, fun _ h => absurd h List.not_mem_nil⟩⟩⟩⟩
set_option maxRecDepth 20000 in
theorem hy_X2_readSevens : yX2_readSevens.cls = RX2 ∧ yX2_readSevens.cls ≠ "java/lang/invoke/MethodHandle" ∧ yX2_readSevens.cls ≠ "java/lang/invoke/VarHandle" ∧ (parseMethodDescriptor yX2_readSevens.desc).map (fun d => d.parameters.length) = some 1 := by decide +kernel
set_option maxRecDepth 20000 in
theorem wM_X2_47 : (Cond.methodLink "ImpactShelf$Gaps" (47 : Nat) ({ cls := "ImpactShelf$Gaps", name := "readSevens", desc := "(LImpactShelf$Bytes;)Z" } : MethodName)) ∈ LW := lw_in 754 (by decide +kernel) rfl
set_option maxRecDepth 20000 in
theorem wb_X2_readWords : ∀ w ∈ ([.instanceMethod yX2_readWords, .selects RX2 yX2_readWords yX2_readWords, .initialized RX2, .code yX2_readWords cX2_readWords 11 (some .boolean)] : List Cond), w ∈ LW := List.forall_mem_cons.mpr ⟨lw_in 761 (by decide +kernel) rfl, List.forall_mem_cons.mpr ⟨lw_inS 23 (by decide +kernel) rfl, List.forall_mem_cons.mpr ⟨lw_in 6 (by decide +kernel) rfl, List.forall_mem_cons.mpr ⟨lw_in 762 (by decide +kernel) rfl, fun _ h => absurd h List.not_mem_nil⟩⟩⟩⟩
set_option maxRecDepth 20000 in
theorem hy_X2_readWords : yX2_readWords.cls = RX2 ∧ yX2_readWords.cls ≠ "java/lang/invoke/MethodHandle" ∧ yX2_readWords.cls ≠ "java/lang/invoke/VarHandle" ∧ (parseMethodDescriptor yX2_readWords.desc).map (fun d => d.parameters.length) = some 1 := by decide +kernel
set_option maxRecDepth 20000 in
theorem wM_X2_51 : (Cond.methodLink "ImpactShelf$Gaps" (51 : Nat) ({ cls := "ImpactShelf$Gaps", name := "readWords", desc := "(LImpactShelf$Bytes;)Z" } : MethodName)) ∈ LW := lw_in 759 (by decide +kernel) rfl
set_option maxRecDepth 20000 in
theorem wb_X2_readEven : ∀ w ∈ ([.instanceMethod yX2_readEven, .selects RX2 yX2_readEven yX2_readEven, .initialized RX2, .code yX2_readEven cX2_readEven 7 (some .boolean)] : List Cond), w ∈ LW := List.forall_mem_cons.mpr ⟨lw_in 777 (by decide +kernel) rfl, List.forall_mem_cons.mpr ⟨lw_inS 24 (by decide +kernel) rfl, List.forall_mem_cons.mpr ⟨lw_in 6 (by decide +kernel) rfl, List.forall_mem_cons.mpr ⟨lw_in 778 (by decide +kernel) rfl, fun _ h => absurd h List.not_mem_nil⟩⟩⟩⟩
set_option maxRecDepth 20000 in
theorem hy_X2_readEven : yX2_readEven.cls = RX2 ∧ yX2_readEven.cls ≠ "java/lang/invoke/MethodHandle" ∧ yX2_readEven.cls ≠ "java/lang/invoke/VarHandle" ∧ (parseMethodDescriptor yX2_readEven.desc).map (fun d => d.parameters.length) = some 1 := by decide +kernel
set_option maxRecDepth 20000 in
theorem wM_X2_54 : (Cond.methodLink "ImpactShelf$Gaps" (54 : Nat) ({ cls := "ImpactShelf$Gaps", name := "readEven", desc := "(LImpactShelf$Bytes;)Z" } : MethodName)) ∈ LW := lw_in 775 (by decide +kernel) rfl
set_option maxRecDepth 20000 in
theorem wF_X5_139 : (Cond.fieldLink "ImpactShelf$IndexFile" (139 : Nat) "ImpactShelf$Gaps" "many" "I") ∈ LW := lw_in 129 (by decide +kernel) rfl
set_option maxRecDepth 20000 in
theorem wF_X5_142 : (Cond.fieldLink "ImpactShelf$IndexFile" (142 : Nat) "ImpactShelf$Gaps" "gap" "[I") ∈ LW := lw_in 127 (by decide +kernel) rfl
set_option maxRecDepth 20000 in
theorem wM_X5_145 : (Cond.methodLink "ImpactShelf$IndexFile" (145 : Nat) ({ cls := "ImpactShelf$Index", name := "appendPosting", desc := "(I)Z" } : MethodName)) ∈ LW := lw_in 784 (by decide +kernel) rfl
set_option maxRecDepth 20000 in
theorem wb_X5_appendDocuments : ∀ w ∈ ([.instanceMethod yX5_appendDocuments, .selects RX5 yX5_appendDocuments yX5_appendDocuments, .initialized RX5, .code yX5_appendDocuments cX5_appendDocuments 6 (some .long)] : List Cond), w ∈ LW := List.forall_mem_cons.mpr ⟨lw_in 782 (by decide +kernel) rfl, List.forall_mem_cons.mpr ⟨lw_inS 25 (by decide +kernel) rfl, List.forall_mem_cons.mpr ⟨lw_in 5 (by decide +kernel) rfl, List.forall_mem_cons.mpr ⟨lw_in 783 (by decide +kernel) rfl, fun _ h => absurd h List.not_mem_nil⟩⟩⟩⟩
set_option maxRecDepth 20000 in
theorem hy_X5_appendDocuments : yX5_appendDocuments.cls = RX5 ∧ yX5_appendDocuments.cls ≠ "java/lang/invoke/MethodHandle" ∧ yX5_appendDocuments.cls ≠ "java/lang/invoke/VarHandle" ∧ (parseMethodDescriptor yX5_appendDocuments.desc).map (fun d => d.parameters.length) = some 1 := by decide +kernel
set_option maxRecDepth 20000 in
theorem wM_X5_131 : (Cond.methodLink "ImpactShelf$IndexFile" (131 : Nat) ({ cls := "ImpactShelf$IndexFile", name := "appendDocuments", desc := "(LImpactShelf$Index;)J" } : MethodName)) ∈ LW := lw_in 780 (by decide +kernel) rfl
set_option maxRecDepth 20000 in
theorem wM_X5_128 : (Cond.methodLink "ImpactShelf$IndexFile" (128 : Nat) ({ cls := "ImpactShelf$Index", name := "startSegment", desc := "(I)Z" } : MethodName)) ∈ LW := lw_in 779 (by decide +kernel) rfl
set_option maxRecDepth 20000 in
theorem wb_X2_read : ∀ w ∈ ([.instanceMethod yX2_read, .selects RX2 yX2_read yX2_read, .initialized RX2, .code yX2_read cX2_read 4 (some .boolean)] : List Cond), w ∈ LW := List.forall_mem_cons.mpr ⟨lw_in 751 (by decide +kernel) rfl, List.forall_mem_cons.mpr ⟨lw_in 752 (by decide +kernel) rfl, List.forall_mem_cons.mpr ⟨lw_in 6 (by decide +kernel) rfl, List.forall_mem_cons.mpr ⟨lw_in 753 (by decide +kernel) rfl, fun _ h => absurd h List.not_mem_nil⟩⟩⟩⟩
set_option maxRecDepth 20000 in
theorem hy_X2_read : yX2_read.cls = RX2 ∧ yX2_read.cls ≠ "java/lang/invoke/MethodHandle" ∧ yX2_read.cls ≠ "java/lang/invoke/VarHandle" ∧ (parseMethodDescriptor yX2_read.desc).map (fun d => d.parameters.length) = some 3 := by decide +kernel
set_option maxRecDepth 20000 in
theorem wM_X5_124 : (Cond.methodLink "ImpactShelf$IndexFile" (124 : Nat) ({ cls := "ImpactShelf$Gaps", name := "read", desc := "(IILImpactShelf$Bytes;)Z" } : MethodName)) ∈ LW := lw_in 750 (by decide +kernel) rfl
set_option maxRecDepth 20000 in
theorem wM_X5_120 : (Cond.methodLink "ImpactShelf$IndexFile" (120 : Nat) ({ cls := "ImpactShelf$Index", name := "startTerm", desc := "(J)Z" } : MethodName)) ∈ LW := lw_in 749 (by decide +kernel) rfl
set_option maxRecDepth 20000 in
theorem wb_X4_greatestTerm : ∀ w ∈ ([.instanceMethod yX4_greatestTerm, .selects RX4 yX4_greatestTerm yX4_greatestTerm, .initialized RX4, .code yX4_greatestTerm cX4_greatestTerm 1 (some .long)] : List Cond), w ∈ LW := List.forall_mem_cons.mpr ⟨lw_in 746 (by decide +kernel) rfl, List.forall_mem_cons.mpr ⟨lw_in 747 (by decide +kernel) rfl, List.forall_mem_cons.mpr ⟨lw_in 8 (by decide +kernel) rfl, List.forall_mem_cons.mpr ⟨lw_in 748 (by decide +kernel) rfl, fun _ h => absurd h List.not_mem_nil⟩⟩⟩⟩
set_option maxRecDepth 20000 in
theorem hy_X4_greatestTerm : yX4_greatestTerm.cls = RX4 ∧ yX4_greatestTerm.cls ≠ "java/lang/invoke/MethodHandle" ∧ yX4_greatestTerm.cls ≠ "java/lang/invoke/VarHandle" ∧ (parseMethodDescriptor yX4_greatestTerm.desc).map (fun d => d.parameters.length) = some 0 := by decide +kernel
set_option maxRecDepth 20000 in
theorem wM_X5_116 : (Cond.methodLink "ImpactShelf$IndexFile" (116 : Nat) ({ cls := "ImpactShelf$Index", name := "greatestTerm", desc := "()J" } : MethodName)) ∈ LW := lw_in 745 (by decide +kernel) rfl
set_option maxRecDepth 20000 in
theorem wb_X5_readWord : ∀ w ∈ ([.static yX5_readWord, .initialized yX5_readWord.cls, .code yX5_readWord cX5_readWord 6 (some .long)] : List Cond), w ∈ LW := List.forall_mem_cons.mpr ⟨lw_in 742 (by decide +kernel) rfl, List.forall_mem_cons.mpr ⟨lw_in 5 (by decide +kernel) rfl, List.forall_mem_cons.mpr ⟨lw_in 743 (by decide +kernel) rfl, fun _ h => absurd h List.not_mem_nil⟩⟩⟩
set_option maxRecDepth 20000 in
theorem hy_X5_readWord : yX5_readWord.cls ≠ "java/lang/invoke/MethodHandle" ∧ yX5_readWord.cls ≠ "java/lang/invoke/VarHandle" ∧ (parseMethodDescriptor yX5_readWord.desc).map (fun d => d.parameters.length) = some 1 := by decide +kernel
set_option maxRecDepth 20000 in
theorem wM_X5_112 : (Cond.methodLink "ImpactShelf$IndexFile" (112 : Nat) ({ cls := "ImpactShelf$IndexFile", name := "readWord", desc := "(LImpactShelf$Bytes;)J" } : MethodName)) ∈ LW := lw_in 741 (by decide +kernel) rfl
set_option maxRecDepth 20000 in
theorem wb_X5_readTerm : ∀ w ∈ ([.instanceMethod yX5_readTerm, .selects RX5 yX5_readTerm yX5_readTerm, .initialized RX5, .code yX5_readTerm cX5_readTerm 15 (some .boolean)] : List Cond), w ∈ LW := List.forall_mem_cons.mpr ⟨lw_in 739 (by decide +kernel) rfl, List.forall_mem_cons.mpr ⟨lw_inS 21 (by decide +kernel) rfl, List.forall_mem_cons.mpr ⟨lw_in 5 (by decide +kernel) rfl, List.forall_mem_cons.mpr ⟨lw_in 740 (by decide +kernel) rfl, fun _ h => absurd h List.not_mem_nil⟩⟩⟩⟩
set_option maxRecDepth 20000 in
theorem hy_X5_readTerm : yX5_readTerm.cls = RX5 ∧ yX5_readTerm.cls ≠ "java/lang/invoke/MethodHandle" ∧ yX5_readTerm.cls ≠ "java/lang/invoke/VarHandle" ∧ (parseMethodDescriptor yX5_readTerm.desc).map (fun d => d.parameters.length) = some 3 := by decide +kernel
set_option maxRecDepth 20000 in
theorem wM_X5_68 : (Cond.methodLink "ImpactShelf$IndexFile" (68 : Nat) ({ cls := "ImpactShelf$IndexFile", name := "readTerm", desc := "(LImpactShelf$Bytes;ILImpactShelf$Index;)Z" } : MethodName)) ∈ LW := lw_in 737 (by decide +kernel) rfl
set_option maxRecDepth 20000 in
theorem wF_X5_23 : (Cond.fieldLink "ImpactShelf$IndexFile" (23 : Nat) "ImpactShelf$IndexFile" "proof" "LImpactShelf$Bytes;") ∈ LW := lw_in 138 (by decide +kernel) rfl
set_option maxRecDepth 20000 in
theorem wb_X0_isSameAs : ∀ w ∈ ([.instanceMethod yX0_isSameAs, .selects RX0 yX0_isSameAs yX0_isSameAs, .initialized RX0, .code yX0_isSameAs cX0_isSameAs 3 (some .boolean)] : List Cond), w ∈ LW := List.forall_mem_cons.mpr ⟨lw_in 787 (by decide +kernel) rfl, List.forall_mem_cons.mpr ⟨lw_in 788 (by decide +kernel) rfl, List.forall_mem_cons.mpr ⟨lw_in 2 (by decide +kernel) rfl, List.forall_mem_cons.mpr ⟨lw_in 789 (by decide +kernel) rfl, fun _ h => absurd h List.not_mem_nil⟩⟩⟩⟩
set_option maxRecDepth 20000 in
theorem hy_X0_isSameAs : yX0_isSameAs.cls = RX0 ∧ yX0_isSameAs.cls ≠ "java/lang/invoke/MethodHandle" ∧ yX0_isSameAs.cls ≠ "java/lang/invoke/VarHandle" ∧ (parseMethodDescriptor yX0_isSameAs.desc).map (fun d => d.parameters.length) = some 1 := by decide +kernel
set_option maxRecDepth 20000 in
theorem wM_X5_76 : (Cond.methodLink "ImpactShelf$IndexFile" (76 : Nat) ({ cls := "ImpactShelf$Bytes", name := "isSameAs", desc := "(LImpactShelf$Bytes;)Z" } : MethodName)) ∈ LW := lw_in 786 (by decide +kernel) rfl
set_option maxRecDepth 20000 in
theorem wM_X5_72 : (Cond.methodLink "ImpactShelf$IndexFile" (72 : Nat) ({ cls := "ImpactShelf$IndexFile", name := "write", desc := "(LImpactShelf$Index;ILImpactShelf$Bytes;)V" } : MethodName)) ∈ LW := lw_in 785 (by decide +kernel) rfl
set_option maxRecDepth 20000 in
theorem wM_X5_64 : (Cond.methodLink "ImpactShelf$IndexFile" (64 : Nat) ({ cls := "ImpactShelf$Index", name := "start", desc := "(II)V" } : MethodName)) ∈ LW := lw_in 736 (by decide +kernel) rfl
set_option maxRecDepth 20000 in
theorem wb_X0_rewind : ∀ w ∈ ([.instanceMethod yX0_rewind, .selects RX0 yX0_rewind yX0_rewind, .initialized RX0, .code yX0_rewind cX0_rewind 1 none] : List Cond), w ∈ LW := List.forall_mem_cons.mpr ⟨lw_in 726 (by decide +kernel) rfl, List.forall_mem_cons.mpr ⟨lw_in 727 (by decide +kernel) rfl, List.forall_mem_cons.mpr ⟨lw_in 2 (by decide +kernel) rfl, List.forall_mem_cons.mpr ⟨lw_in 728 (by decide +kernel) rfl, fun _ h => absurd h List.not_mem_nil⟩⟩⟩⟩
set_option maxRecDepth 20000 in
theorem hy_X0_rewind : yX0_rewind.cls = RX0 ∧ yX0_rewind.cls ≠ "java/lang/invoke/MethodHandle" ∧ yX0_rewind.cls ≠ "java/lang/invoke/VarHandle" ∧ (parseMethodDescriptor yX0_rewind.desc).map (fun d => d.parameters.length) = some 0 := by decide +kernel
set_option maxRecDepth 20000 in
theorem wM_X5_53 : (Cond.methodLink "ImpactShelf$IndexFile" (53 : Nat) ({ cls := "ImpactShelf$Bytes", name := "rewind", desc := "()V" } : MethodName)) ∈ LW := lw_in 725 (by decide +kernel) rfl
set_option maxRecDepth 20000 in
theorem inW_X3 : ∀ w ∈ u_ws RX3 TX3 5, w ∈ LW := inW_of [213, 215, 217, 219, 221] (by decide +kernel) (by decide +kernel)
set_option maxRecDepth 20000 in
theorem wF_X3_26 : (Cond.fieldLink "ImpactShelf$Generations" (26 : Nat) "ImpactShelf$Generations" "held" "[I") ∈ LW := lw_in 209 (by decide +kernel) rfl
set_option maxRecDepth 20000 in
theorem wF_X3_17 : (Cond.fieldLink "ImpactShelf$Generations" (17 : Nat) "ImpactShelf$Generations" "number" "[I") ∈ LW := lw_in 207 (by decide +kernel) rfl
set_option maxRecDepth 20000 in
theorem wb_X3_isHeld : ∀ w ∈ ([.instanceMethod yX3_isHeld, .selects RX3 yX3_isHeld yX3_isHeld, .initialized RX3, .code yX3_isHeld cX3_isHeld 3 (some .boolean)] : List Cond), w ∈ LW := List.forall_mem_cons.mpr ⟨lw_in 796 (by decide +kernel) rfl, List.forall_mem_cons.mpr ⟨lw_inS 26 (by decide +kernel) rfl, List.forall_mem_cons.mpr ⟨lw_in 7 (by decide +kernel) rfl, List.forall_mem_cons.mpr ⟨lw_in 797 (by decide +kernel) rfl, fun _ h => absurd h List.not_mem_nil⟩⟩⟩⟩
set_option maxRecDepth 20000 in
theorem hy_X3_isHeld : yX3_isHeld.cls = RX3 ∧ yX3_isHeld.cls ≠ "java/lang/invoke/MethodHandle" ∧ yX3_isHeld.cls ≠ "java/lang/invoke/VarHandle" ∧ (parseMethodDescriptor yX3_isHeld.desc).map (fun d => d.parameters.length) = some 1 := by decide +kernel
set_option maxRecDepth 20000 in
theorem wM_X3_33 : (Cond.methodLink "ImpactShelf$Generations" (33 : Nat) ({ cls := "ImpactShelf$Generations", name := "isHeld", desc := "(I)Z" } : MethodName)) ∈ LW := lw_in 794 (by decide +kernel) rfl
set_option maxRecDepth 20000 in
theorem wF_X3_11 : (Cond.fieldLink "ImpactShelf$Generations" (11 : Nat) "ImpactShelf$Generations" "kept" "[LImpactShelf$Index;") ∈ LW := lw_in 206 (by decide +kernel) rfl
set_option maxRecDepth 20000 in
theorem wF_X3_29 : (Cond.fieldLink "ImpactShelf$Generations" (29 : Nat) "ImpactShelf$Generations" "latest" "I") ∈ LW := lw_in 211 (by decide +kernel) rfl
set_option maxRecDepth 20000 in
theorem wF_X8_45 : (Cond.fieldLink "ImpactShelf" (45 : Nat) "ImpactShelf" "generations" "LImpactShelf$Generations;") ∈ LW := lw_in 298 (by decide +kernel) rfl
set_option maxRecDepth 20000 in
theorem wF_X8_162 : (Cond.fieldLink "ImpactShelf" (162 : Nat) "ImpactShelf$Generations" "latest" "I") ∈ LW := lw_in 212 (by decide +kernel) rfl
set_option maxRecDepth 20000 in
theorem wb_X3_install : ∀ w ∈ ([.instanceMethod yX3_install, .selects RX3 yX3_install yX3_install, .initialized RX3, .code yX3_install cX3_install 4 (some (.object "ImpactShelf$Index"))] : List Cond), w ∈ LW := List.forall_mem_cons.mpr ⟨lw_in 799 (by decide +kernel) rfl, List.forall_mem_cons.mpr ⟨lw_in 800 (by decide +kernel) rfl, List.forall_mem_cons.mpr ⟨lw_in 7 (by decide +kernel) rfl, List.forall_mem_cons.mpr ⟨lw_in 801 (by decide +kernel) rfl, fun _ h => absurd h List.not_mem_nil⟩⟩⟩⟩
set_option maxRecDepth 20000 in
theorem hy_X3_install : yX3_install.cls = RX3 ∧ yX3_install.cls ≠ "java/lang/invoke/MethodHandle" ∧ yX3_install.cls ≠ "java/lang/invoke/VarHandle" ∧ (parseMethodDescriptor yX3_install.desc).map (fun d => d.parameters.length) = some 2 := by decide +kernel
set_option maxRecDepth 20000 in
theorem wM_X8_158 : (Cond.methodLink "ImpactShelf" (158 : Nat) ({ cls := "ImpactShelf$Generations", name := "install", desc := "(ILImpactShelf$Index;)LImpactShelf$Index;" } : MethodName)) ∈ LW := lw_in 798 (by decide +kernel) rfl
set_option maxRecDepth 20000 in
theorem wb_X3_placeForNext : ∀ w ∈ ([.instanceMethod yX3_placeForNext, .selects RX3 yX3_placeForNext yX3_placeForNext, .initialized RX3, .code yX3_placeForNext cX3_placeForNext 2 (some .int)] : List Cond), w ∈ LW := List.forall_mem_cons.mpr ⟨lw_in 791 (by decide +kernel) rfl, List.forall_mem_cons.mpr ⟨lw_in 792 (by decide +kernel) rfl, List.forall_mem_cons.mpr ⟨lw_in 7 (by decide +kernel) rfl, List.forall_mem_cons.mpr ⟨lw_in 793 (by decide +kernel) rfl, fun _ h => absurd h List.not_mem_nil⟩⟩⟩⟩
set_option maxRecDepth 20000 in
theorem hy_X3_placeForNext : yX3_placeForNext.cls = RX3 ∧ yX3_placeForNext.cls ≠ "java/lang/invoke/MethodHandle" ∧ yX3_placeForNext.cls ≠ "java/lang/invoke/VarHandle" ∧ (parseMethodDescriptor yX3_placeForNext.desc).map (fun d => d.parameters.length) = some 0 := by decide +kernel
set_option maxRecDepth 20000 in
theorem wM_X8_155 : (Cond.methodLink "ImpactShelf" (155 : Nat) ({ cls := "ImpactShelf$Generations", name := "placeForNext", desc := "()I" } : MethodName)) ∈ LW := lw_in 790 (by decide +kernel) rfl
set_option maxRecDepth 20000 in
theorem wb_X5_read : ∀ w ∈ ([.instanceMethod yX5_read, .selects RX5 yX5_read yX5_read, .initialized RX5, .code yX5_read cX5_read 8 (some .boolean)] : List Cond), w ∈ LW := List.forall_mem_cons.mpr ⟨lw_in 722 (by decide +kernel) rfl, List.forall_mem_cons.mpr ⟨lw_in 723 (by decide +kernel) rfl, List.forall_mem_cons.mpr ⟨lw_in 5 (by decide +kernel) rfl, List.forall_mem_cons.mpr ⟨lw_in 724 (by decide +kernel) rfl, fun _ h => absurd h List.not_mem_nil⟩⟩⟩⟩
set_option maxRecDepth 20000 in
theorem hy_X5_read : yX5_read.cls = RX5 ∧ yX5_read.cls ≠ "java/lang/invoke/MethodHandle" ∧ yX5_read.cls ≠ "java/lang/invoke/VarHandle" ∧ (parseMethodDescriptor yX5_read.desc).map (fun d => d.parameters.length) = some 2 := by decide +kernel
set_option maxRecDepth 20000 in
theorem wM_X8_151 : (Cond.methodLink "ImpactShelf" (151 : Nat) ({ cls := "ImpactShelf$IndexFile", name := "read", desc := "(LImpactShelf$Bytes;LImpactShelf$Index;)Z" } : MethodName)) ∈ LW := lw_in 721 (by decide +kernel) rfl
set_option maxRecDepth 20000 in
theorem wF_X8_168 : (Cond.fieldLink "ImpactShelf" (168 : Nat) "ImpactShelf$Generations" "held" "[I") ∈ LW := lw_in 210 (by decide +kernel) rfl
set_option maxRecDepth 20000 in
theorem wb_X8_requireReader : ∀ w ∈ ([.instanceMethod yX8_requireReader, .selects RX8 yX8_requireReader yX8_requireReader, .initialized RX8, .code yX8_requireReader cX8_requireReader 2 none] : List Cond), w ∈ LW := List.forall_mem_cons.mpr ⟨lw_in 811 (by decide +kernel) rfl, List.forall_mem_cons.mpr ⟨lw_inS 27 (by decide +kernel) rfl, List.forall_mem_cons.mpr ⟨lw_in 1 (by decide +kernel) rfl, List.forall_mem_cons.mpr ⟨lw_in 812 (by decide +kernel) rfl, fun _ h => absurd h List.not_mem_nil⟩⟩⟩⟩
set_option maxRecDepth 20000 in
theorem hy_X8_requireReader : yX8_requireReader.cls = RX8 ∧ yX8_requireReader.cls ≠ "java/lang/invoke/MethodHandle" ∧ yX8_requireReader.cls ≠ "java/lang/invoke/VarHandle" ∧ (parseMethodDescriptor yX8_requireReader.desc).map (fun d => d.parameters.length) = some 1 := by decide +kernel
set_option maxRecDepth 20000 in
theorem wM_X8_165 : (Cond.methodLink "ImpactShelf" (165 : Nat) ({ cls := "ImpactShelf", name := "requireReader", desc := "(I)V" } : MethodName)) ∈ LW := lw_in 809 (by decide +kernel) rfl
set_option maxRecDepth 20000 in
theorem wb_X3_forget : ∀ w ∈ ([.instanceMethod yX3_forget, .selects RX3 yX3_forget yX3_forget, .initialized RX3, .code yX3_forget cX3_forget 3 none] : List Cond), w ∈ LW := List.forall_mem_cons.mpr ⟨lw_in 826 (by decide +kernel) rfl, List.forall_mem_cons.mpr ⟨lw_inS 28 (by decide +kernel) rfl, List.forall_mem_cons.mpr ⟨lw_in 7 (by decide +kernel) rfl, List.forall_mem_cons.mpr ⟨lw_in 827 (by decide +kernel) rfl, fun _ h => absurd h List.not_mem_nil⟩⟩⟩⟩
set_option maxRecDepth 20000 in
theorem hy_X3_forget : yX3_forget.cls = RX3 ∧ yX3_forget.cls ≠ "java/lang/invoke/MethodHandle" ∧ yX3_forget.cls ≠ "java/lang/invoke/VarHandle" ∧ (parseMethodDescriptor yX3_forget.desc).map (fun d => d.parameters.length) = some 1 := by decide +kernel
set_option maxRecDepth 20000 in
theorem wM_X3_37 : (Cond.methodLink "ImpactShelf$Generations" (37 : Nat) ({ cls := "ImpactShelf$Generations", name := "forget", desc := "(I)V" } : MethodName)) ∈ LW := lw_in 824 (by decide +kernel) rfl
set_option maxRecDepth 20000 in
theorem wb_X3_release : ∀ w ∈ ([.instanceMethod yX3_release, .selects RX3 yX3_release yX3_release, .initialized RX3, .code yX3_release cX3_release 3 (some .boolean)] : List Cond), w ∈ LW := List.forall_mem_cons.mpr ⟨lw_in 821 (by decide +kernel) rfl, List.forall_mem_cons.mpr ⟨lw_in 822 (by decide +kernel) rfl, List.forall_mem_cons.mpr ⟨lw_in 7 (by decide +kernel) rfl, List.forall_mem_cons.mpr ⟨lw_in 823 (by decide +kernel) rfl, fun _ h => absurd h List.not_mem_nil⟩⟩⟩⟩
set_option maxRecDepth 20000 in
theorem hy_X3_release : yX3_release.cls = RX3 ∧ yX3_release.cls ≠ "java/lang/invoke/MethodHandle" ∧ yX3_release.cls ≠ "java/lang/invoke/VarHandle" ∧ (parseMethodDescriptor yX3_release.desc).map (fun d => d.parameters.length) = some 1 := by decide +kernel
set_option maxRecDepth 20000 in
theorem wM_X8_172 : (Cond.methodLink "ImpactShelf" (172 : Nat) ({ cls := "ImpactShelf$Generations", name := "release", desc := "(I)Z" } : MethodName)) ∈ LW := lw_in 820 (by decide +kernel) rfl
set_option maxRecDepth 20000 in
theorem wF_X3_22 : (Cond.fieldLink "ImpactShelf$Generations" (22 : Nat) "ImpactShelf$Generations" "empty" "LImpactShelf$Index;") ∈ LW := lw_in 208 (by decide +kernel) rfl
set_option maxRecDepth 20000 in
theorem wF_X6_61 : (Cond.fieldLink "ImpactShelf$Search" (61 : Nat) "ImpactShelf$Index" "terms" "I") ∈ LW := lw_in 178 (by decide +kernel) rfl
set_option maxRecDepth 20000 in
theorem wF_X6_64 : (Cond.fieldLink "ImpactShelf$Search" (64 : Nat) "ImpactShelf$Index" "term" "[J") ∈ LW := lw_in 158 (by decide +kernel) rfl
set_option maxRecDepth 20000 in
theorem inW_X6 : ∀ w ∈ u_ws RX6 TX6 16, w ∈ LW := inW_of [258, 260, 262, 264, 266, 268, 270, 272, 274, 276, 278, 280, 282, 284, 286, 288] (by decide +kernel) (by decide +kernel)
set_option maxRecDepth 20000 in
theorem wF_X6_9 : (Cond.fieldLink "ImpactShelf$Search" (9 : Nat) "ImpactShelf$Search" "picked" "[I") ∈ LW := lw_in 230 (by decide +kernel) rfl
set_option maxRecDepth 20000 in
theorem wb_X7_has : ∀ w ∈ ([.instanceMethod yX7_has, .selects RX7 yX7_has yX7_has, .initialized RX7, .code yX7_has cX7_has 3 (some .boolean)] : List Cond), w ∈ LW := List.forall_mem_cons.mpr ⟨lw_in 848 (by decide +kernel) rfl, List.forall_mem_cons.mpr ⟨lw_in 849 (by decide +kernel) rfl, List.forall_mem_cons.mpr ⟨lw_in 3 (by decide +kernel) rfl, List.forall_mem_cons.mpr ⟨lw_in 850 (by decide +kernel) rfl, fun _ h => absurd h List.not_mem_nil⟩⟩⟩⟩
set_option maxRecDepth 20000 in
theorem hy_X7_has : yX7_has.cls = RX7 ∧ yX7_has.cls ≠ "java/lang/invoke/MethodHandle" ∧ yX7_has.cls ≠ "java/lang/invoke/VarHandle" ∧ (parseMethodDescriptor yX7_has.desc).map (fun d => d.parameters.length) = some 1 := by decide +kernel
set_option maxRecDepth 20000 in
theorem wM_X6_68 : (Cond.methodLink "ImpactShelf$Search" (68 : Nat) ({ cls := "ImpactShelf$Words", name := "has", desc := "(J)Z" } : MethodName)) ∈ LW := lw_in 847 (by decide +kernel) rfl
set_option maxRecDepth 20000 in
theorem wM_X6_74 : (Cond.methodLink "ImpactShelf$Search" (74 : Nat) ({ cls := "java/lang/Math", name := "min", desc := "(II)I" } : MethodName)) ∈ LW := lw_in 851 (by decide +kernel) rfl
set_option maxRecDepth 20000 in
theorem wF_X6_36 : (Cond.fieldLink "ImpactShelf$Search" (36 : Nat) "ImpactShelf$Search" "pickedTerms" "I") ∈ LW := lw_in 243 (by decide +kernel) rfl
set_option maxRecDepth 20000 in
theorem wF_X6_24 : (Cond.fieldLink "ImpactShelf$Search" (24 : Nat) "ImpactShelf$Search" "planImpact" "[I") ∈ LW := lw_in 235 (by decide +kernel) rfl
set_option maxRecDepth 20000 in
theorem wF_X6_27 : (Cond.fieldLink "ImpactShelf$Search" (27 : Nat) "ImpactShelf$Search" "planSize" "[I") ∈ LW := lw_in 237 (by decide +kernel) rfl
set_option maxRecDepth 20000 in
theorem wF_X6_43 : (Cond.fieldLink "ImpactShelf$Search" (43 : Nat) "ImpactShelf$Search" "segments" "I") ∈ LW := lw_in 246 (by decide +kernel) rfl
set_option maxRecDepth 20000 in
theorem wF_X6_109 : (Cond.fieldLink "ImpactShelf$Search" (109 : Nat) "ImpactShelf$Index" "impact" "[I") ∈ LW := lw_in 165 (by decide +kernel) rfl
set_option maxRecDepth 20000 in
theorem wF_X6_21 : (Cond.fieldLink "ImpactShelf$Search" (21 : Nat) "ImpactShelf$Search" "planTerm" "[I") ∈ LW := lw_in 233 (by decide +kernel) rfl
set_option maxRecDepth 20000 in
theorem wF_X6_15 : (Cond.fieldLink "ImpactShelf$Search" (15 : Nat) "ImpactShelf$Search" "planSegment" "[I") ∈ LW := lw_in 231 (by decide +kernel) rfl
set_option maxRecDepth 20000 in
theorem wb_X6_comesAhead : ∀ w ∈ ([.instanceMethod yX6_comesAhead, .selects RX6 yX6_comesAhead yX6_comesAhead, .initialized RX6, .code yX6_comesAhead cX6_comesAhead 4 (some .boolean)] : List Cond), w ∈ LW := List.forall_mem_cons.mpr ⟨lw_in 870 (by decide +kernel) rfl, List.forall_mem_cons.mpr ⟨lw_inS 32 (by decide +kernel) rfl, List.forall_mem_cons.mpr ⟨lw_in 9 (by decide +kernel) rfl, List.forall_mem_cons.mpr ⟨lw_in 871 (by decide +kernel) rfl, fun _ h => absurd h List.not_mem_nil⟩⟩⟩⟩
set_option maxRecDepth 20000 in
theorem hy_X6_comesAhead : yX6_comesAhead.cls = RX6 ∧ yX6_comesAhead.cls ≠ "java/lang/invoke/MethodHandle" ∧ yX6_comesAhead.cls ≠ "java/lang/invoke/VarHandle" ∧ (parseMethodDescriptor yX6_comesAhead.desc).map (fun d => d.parameters.length) = some 3 := by decide +kernel
set_option maxRecDepth 20000 in
theorem wM_X6_116 : (Cond.methodLink "ImpactShelf$Search" (116 : Nat) ({ cls := "ImpactShelf$Search", name := "comesAhead", desc := "(III)Z" } : MethodName)) ∈ LW := lw_in 868 (by decide +kernel) rfl
set_option maxRecDepth 20000 in
theorem wF_X6_52 : (Cond.fieldLink "ImpactShelf$Search" (52 : Nat) "ImpactShelf$Search" "postings" "I") ∈ LW := lw_in 252 (by decide +kernel) rfl
set_option maxRecDepth 20000 in
theorem wF_X6_120 : (Cond.fieldLink "ImpactShelf$Search" (120 : Nat) "ImpactShelf$Index" "firstPosting" "[I") ∈ LW := lw_in 168 (by decide +kernel) rfl
set_option maxRecDepth 20000 in
theorem wF_X6_18 : (Cond.fieldLink "ImpactShelf$Search" (18 : Nat) "ImpactShelf$Search" "impactOf" "[I") ∈ LW := lw_in 232 (by decide +kernel) rfl
set_option maxRecDepth 20000 in
theorem wF_X6_123 : (Cond.fieldLink "ImpactShelf$Search" (123 : Nat) "ImpactShelf$Index" "document" "[I") ∈ LW := lw_in 171 (by decide +kernel) rfl
set_option maxRecDepth 20000 in
theorem wM_X6_112 : (Cond.methodLink "ImpactShelf$Search" (112 : Nat) ({ cls := "ImpactShelf$Index", name := "size", desc := "(I)I" } : MethodName)) ∈ LW := lw_in 867 (by decide +kernel) rfl
set_option maxRecDepth 20000 in
theorem wF_X6_40 : (Cond.fieldLink "ImpactShelf$Search" (40 : Nat) "ImpactShelf$Search" "terms" "I") ∈ LW := lw_in 244 (by decide +kernel) rfl
set_option maxRecDepth 20000 in
theorem wF_X6_102 : (Cond.fieldLink "ImpactShelf$Search" (102 : Nat) "ImpactShelf$Index" "firstSegment" "[I") ∈ LW := lw_in 162 (by decide +kernel) rfl
set_option maxRecDepth 20000 in
theorem wb_X6_planOne : ∀ w ∈ ([.instanceMethod yX6_planOne, .selects RX6 yX6_planOne yX6_planOne, .initialized RX6, .code yX6_planOne cX6_planOne 8 none] : List Cond), w ∈ LW := List.forall_mem_cons.mpr ⟨lw_in 865 (by decide +kernel) rfl, List.forall_mem_cons.mpr ⟨lw_inS 31 (by decide +kernel) rfl, List.forall_mem_cons.mpr ⟨lw_in 9 (by decide +kernel) rfl, List.forall_mem_cons.mpr ⟨lw_in 866 (by decide +kernel) rfl, fun _ h => absurd h List.not_mem_nil⟩⟩⟩⟩
set_option maxRecDepth 20000 in
theorem hy_X6_planOne : yX6_planOne.cls = RX6 ∧ yX6_planOne.cls ≠ "java/lang/invoke/MethodHandle" ∧ yX6_planOne.cls ≠ "java/lang/invoke/VarHandle" ∧ (parseMethodDescriptor yX6_planOne.desc).map (fun d => d.parameters.length) = some 3 := by decide +kernel
set_option maxRecDepth 20000 in
theorem wM_X6_105 : (Cond.methodLink "ImpactShelf$Search" (105 : Nat) ({ cls := "ImpactShelf$Search", name := "planOne", desc := "(LImpactShelf$Index;II)V" } : MethodName)) ∈ LW := lw_in 863 (by decide +kernel) rfl
set_option maxRecDepth 20000 in
theorem wb_J7_fill_53178 : ∀ w ∈ ([.static yJ7_fill_53178, .initialized yJ7_fill_53178.cls, .code yJ7_fill_53178 cJ7_fill_53178 4 none] : List Cond), w ∈ LW := List.forall_mem_cons.mpr ⟨lw_in 861 (by decide +kernel) rfl, List.forall_mem_cons.mpr ⟨lw_in 19 (by decide +kernel) rfl, List.forall_mem_cons.mpr ⟨lw_in 862 (by decide +kernel) rfl, fun _ h => absurd h List.not_mem_nil⟩⟩⟩
set_option maxRecDepth 20000 in
theorem hy_J7_fill_53178 : yJ7_fill_53178.cls ≠ "java/lang/invoke/MethodHandle" ∧ yJ7_fill_53178.cls ≠ "java/lang/invoke/VarHandle" ∧ (parseMethodDescriptor yJ7_fill_53178.desc).map (fun d => d.parameters.length) = some 2 := by decide +kernel
set_option maxRecDepth 20000 in
theorem wM_X6_96 : (Cond.methodLink "ImpactShelf$Search" (96 : Nat) ({ cls := "java/util/Arrays", name := "fill", desc := "([II)V" } : MethodName)) ∈ LW := lw_in 860 (by decide +kernel) rfl
set_option maxRecDepth 20000 in
theorem wF_X6_46 : (Cond.fieldLink "ImpactShelf$Search" (46 : Nat) "ImpactShelf$Search" "doneSegments" "I") ∈ LW := lw_in 248 (by decide +kernel) rfl
set_option maxRecDepth 20000 in
theorem wF_X6_49 : (Cond.fieldLink "ImpactShelf$Search" (49 : Nat) "ImpactShelf$Search" "donePostings" "I") ∈ LW := lw_in 250 (by decide +kernel) rfl
set_option maxRecDepth 20000 in
theorem wF_X6_30 : (Cond.fieldLink "ImpactShelf$Search" (30 : Nat) "ImpactShelf$Search" "sums" "[I") ∈ LW := lw_in 239 (by decide +kernel) rfl
set_option maxRecDepth 20000 in
theorem wF_X6_55 : (Cond.fieldLink "ImpactShelf$Search" (55 : Nat) "ImpactShelf$Search" "why" "I") ∈ LW := lw_in 254 (by decide +kernel) rfl
set_option maxRecDepth 20000 in
theorem wF_X6_33 : (Cond.fieldLink "ImpactShelf$Search" (33 : Nat) "ImpactShelf$Search" "hitDocument" "[I") ∈ LW := lw_in 241 (by decide +kernel) rfl
set_option maxRecDepth 20000 in
theorem wF_X6_58 : (Cond.fieldLink "ImpactShelf$Search" (58 : Nat) "ImpactShelf$Search" "hits" "I") ∈ LW := lw_in 256 (by decide +kernel) rfl
set_option maxRecDepth 20000 in
theorem wb_X6_rank : ∀ w ∈ ([.instanceMethod yX6_rank, .selects RX6 yX6_rank yX6_rank, .initialized RX6, .code yX6_rank cX6_rank 5 none] : List Cond), w ∈ LW := List.forall_mem_cons.mpr ⟨lw_in 878 (by decide +kernel) rfl, List.forall_mem_cons.mpr ⟨lw_inS 34 (by decide +kernel) rfl, List.forall_mem_cons.mpr ⟨lw_in 9 (by decide +kernel) rfl, List.forall_mem_cons.mpr ⟨lw_in 879 (by decide +kernel) rfl, fun _ h => absurd h List.not_mem_nil⟩⟩⟩⟩
set_option maxRecDepth 20000 in
theorem hy_X6_rank : yX6_rank.cls = RX6 ∧ yX6_rank.cls ≠ "java/lang/invoke/MethodHandle" ∧ yX6_rank.cls ≠ "java/lang/invoke/VarHandle" ∧ (parseMethodDescriptor yX6_rank.desc).map (fun d => d.parameters.length) = some 1 := by decide +kernel
set_option maxRecDepth 20000 in
theorem wM_X6_88 : (Cond.methodLink "ImpactShelf$Search" (88 : Nat) ({ cls := "ImpactShelf$Search", name := "rank", desc := "(I)V" } : MethodName)) ∈ LW := lw_in 876 (by decide +kernel) rfl
set_option maxRecDepth 20000 in
theorem wb_X6_workThrough : ∀ w ∈ ([.instanceMethod yX6_workThrough, .selects RX6 yX6_workThrough yX6_workThrough, .initialized RX6, .code yX6_workThrough cX6_workThrough 9 none] : List Cond), w ∈ LW := List.forall_mem_cons.mpr ⟨lw_in 874 (by decide +kernel) rfl, List.forall_mem_cons.mpr ⟨lw_inS 33 (by decide +kernel) rfl, List.forall_mem_cons.mpr ⟨lw_in 9 (by decide +kernel) rfl, List.forall_mem_cons.mpr ⟨lw_in 875 (by decide +kernel) rfl, fun _ h => absurd h List.not_mem_nil⟩⟩⟩⟩
set_option maxRecDepth 20000 in
theorem hy_X6_workThrough : yX6_workThrough.cls = RX6 ∧ yX6_workThrough.cls ≠ "java/lang/invoke/MethodHandle" ∧ yX6_workThrough.cls ≠ "java/lang/invoke/VarHandle" ∧ (parseMethodDescriptor yX6_workThrough.desc).map (fun d => d.parameters.length) = some 4 := by decide +kernel
set_option maxRecDepth 20000 in
theorem wM_X6_84 : (Cond.methodLink "ImpactShelf$Search" (84 : Nat) ({ cls := "ImpactShelf$Search", name := "workThrough", desc := "(LImpactShelf$Index;IJJ)V" } : MethodName)) ∈ LW := lw_in 872 (by decide +kernel) rfl
set_option maxRecDepth 20000 in
theorem wb_X6_makePlan : ∀ w ∈ ([.instanceMethod yX6_makePlan, .selects RX6 yX6_makePlan yX6_makePlan, .initialized RX6, .code yX6_makePlan cX6_makePlan 4 none] : List Cond), w ∈ LW := List.forall_mem_cons.mpr ⟨lw_in 858 (by decide +kernel) rfl, List.forall_mem_cons.mpr ⟨lw_inS 30 (by decide +kernel) rfl, List.forall_mem_cons.mpr ⟨lw_in 9 (by decide +kernel) rfl, List.forall_mem_cons.mpr ⟨lw_in 859 (by decide +kernel) rfl, fun _ h => absurd h List.not_mem_nil⟩⟩⟩⟩
set_option maxRecDepth 20000 in
theorem hy_X6_makePlan : yX6_makePlan.cls = RX6 ∧ yX6_makePlan.cls ≠ "java/lang/invoke/MethodHandle" ∧ yX6_makePlan.cls ≠ "java/lang/invoke/VarHandle" ∧ (parseMethodDescriptor yX6_makePlan.desc).map (fun d => d.parameters.length) = some 1 := by decide +kernel
set_option maxRecDepth 20000 in
theorem wM_X6_80 : (Cond.methodLink "ImpactShelf$Search" (80 : Nat) ({ cls := "ImpactShelf$Search", name := "makePlan", desc := "(LImpactShelf$Index;)V" } : MethodName)) ∈ LW := lw_in 856 (by decide +kernel) rfl
set_option maxRecDepth 20000 in
theorem wF_X8_52 : (Cond.fieldLink "ImpactShelf" (52 : Nat) "ImpactShelf" "search" "LImpactShelf$Search;") ∈ LW := lw_in 299 (by decide +kernel) rfl
set_option maxRecDepth 20000 in
theorem wF_X8_63 : (Cond.fieldLink "ImpactShelf" (63 : Nat) "ImpactShelf" "ticks" "J") ∈ LW := lw_in 301 (by decide +kernel) rfl
set_option maxRecDepth 20000 in
theorem wF_X8_190 : (Cond.fieldLink "ImpactShelf" (190 : Nat) "ImpactShelf$Search" "donePostings" "I") ∈ LW := lw_in 251 (by decide +kernel) rfl
set_option maxRecDepth 20000 in
theorem wF_X8_193 : (Cond.fieldLink "ImpactShelf" (193 : Nat) "ImpactShelf$Search" "hits" "I") ∈ LW := lw_in 257 (by decide +kernel) rfl
set_option maxRecDepth 20000 in
theorem wb_X6_run : ∀ w ∈ ([.instanceMethod yX6_run, .selects RX6 yX6_run yX6_run, .initialized RX6, .code yX6_run cX6_run 8 none] : List Cond), w ∈ LW := List.forall_mem_cons.mpr ⟨lw_in 853 (by decide +kernel) rfl, List.forall_mem_cons.mpr ⟨lw_in 854 (by decide +kernel) rfl, List.forall_mem_cons.mpr ⟨lw_in 9 (by decide +kernel) rfl, List.forall_mem_cons.mpr ⟨lw_in 855 (by decide +kernel) rfl, fun _ h => absurd h List.not_mem_nil⟩⟩⟩⟩
set_option maxRecDepth 20000 in
theorem hy_X6_run : yX6_run.cls = RX6 ∧ yX6_run.cls ≠ "java/lang/invoke/MethodHandle" ∧ yX6_run.cls ≠ "java/lang/invoke/VarHandle" ∧ (parseMethodDescriptor yX6_run.desc).map (fun d => d.parameters.length) = some 5 := by decide +kernel
set_option maxRecDepth 20000 in
theorem wM_X8_186 : (Cond.methodLink "ImpactShelf" (186 : Nat) ({ cls := "ImpactShelf$Search", name := "run", desc := "(LImpactShelf$Index;IIJJ)V" } : MethodName)) ∈ LW := lw_in 852 (by decide +kernel) rfl
set_option maxRecDepth 20000 in
theorem wb_X6_pick : ∀ w ∈ ([.instanceMethod yX6_pick, .selects RX6 yX6_pick yX6_pick, .initialized RX6, .code yX6_pick cX6_pick 5 (some .int)] : List Cond), w ∈ LW := List.forall_mem_cons.mpr ⟨lw_in 844 (by decide +kernel) rfl, List.forall_mem_cons.mpr ⟨lw_in 845 (by decide +kernel) rfl, List.forall_mem_cons.mpr ⟨lw_in 9 (by decide +kernel) rfl, List.forall_mem_cons.mpr ⟨lw_in 846 (by decide +kernel) rfl, fun _ h => absurd h List.not_mem_nil⟩⟩⟩⟩
set_option maxRecDepth 20000 in
theorem hy_X6_pick : yX6_pick.cls = RX6 ∧ yX6_pick.cls ≠ "java/lang/invoke/MethodHandle" ∧ yX6_pick.cls ≠ "java/lang/invoke/VarHandle" ∧ (parseMethodDescriptor yX6_pick.desc).map (fun d => d.parameters.length) = some 2 := by decide +kernel
set_option maxRecDepth 20000 in
theorem wM_X8_182 : (Cond.methodLink "ImpactShelf" (182 : Nat) ({ cls := "ImpactShelf$Search", name := "pick", desc := "(LImpactShelf$Index;LImpactShelf$Words;)I" } : MethodName)) ∈ LW := lw_in 843 (by decide +kernel) rfl
set_option maxRecDepth 20000 in
theorem wb_X3_heldBy : ∀ w ∈ ([.instanceMethod yX3_heldBy, .selects RX3 yX3_heldBy yX3_heldBy, .initialized RX3, .code yX3_heldBy cX3_heldBy 3 (some (.object "ImpactShelf$Index"))] : List Cond), w ∈ LW := List.forall_mem_cons.mpr ⟨lw_in 840 (by decide +kernel) rfl, List.forall_mem_cons.mpr ⟨lw_in 841 (by decide +kernel) rfl, List.forall_mem_cons.mpr ⟨lw_in 7 (by decide +kernel) rfl, List.forall_mem_cons.mpr ⟨lw_in 842 (by decide +kernel) rfl, fun _ h => absurd h List.not_mem_nil⟩⟩⟩⟩
set_option maxRecDepth 20000 in
theorem hy_X3_heldBy : yX3_heldBy.cls = RX3 ∧ yX3_heldBy.cls ≠ "java/lang/invoke/MethodHandle" ∧ yX3_heldBy.cls ≠ "java/lang/invoke/VarHandle" ∧ (parseMethodDescriptor yX3_heldBy.desc).map (fun d => d.parameters.length) = some 1 := by decide +kernel
set_option maxRecDepth 20000 in
theorem wM_X8_178 : (Cond.methodLink "ImpactShelf" (178 : Nat) ({ cls := "ImpactShelf$Generations", name := "heldBy", desc := "(I)LImpactShelf$Index;" } : MethodName)) ∈ LW := lw_in 839 (by decide +kernel) rfl
set_option maxRecDepth 20000 in
theorem wb_X8_requireOpen : ∀ w ∈ ([.instanceMethod yX8_requireOpen, .selects RX8 yX8_requireOpen yX8_requireOpen, .initialized RX8, .code yX8_requireOpen cX8_requireOpen 2 none] : List Cond), w ∈ LW := List.forall_mem_cons.mpr ⟨lw_in 837 (by decide +kernel) rfl, List.forall_mem_cons.mpr ⟨lw_inS 29 (by decide +kernel) rfl, List.forall_mem_cons.mpr ⟨lw_in 1 (by decide +kernel) rfl, List.forall_mem_cons.mpr ⟨lw_in 838 (by decide +kernel) rfl, fun _ h => absurd h List.not_mem_nil⟩⟩⟩⟩
set_option maxRecDepth 20000 in
theorem hy_X8_requireOpen : yX8_requireOpen.cls = RX8 ∧ yX8_requireOpen.cls ≠ "java/lang/invoke/MethodHandle" ∧ yX8_requireOpen.cls ≠ "java/lang/invoke/VarHandle" ∧ (parseMethodDescriptor yX8_requireOpen.desc).map (fun d => d.parameters.length) = some 1 := by decide +kernel
set_option maxRecDepth 20000 in
theorem wM_X8_175 : (Cond.methodLink "ImpactShelf" (175 : Nat) ({ cls := "ImpactShelf", name := "requireOpen", desc := "(I)V" } : MethodName)) ∈ LW := lw_in 835 (by decide +kernel) rfl
set_option maxRecDepth 20000 in
theorem wF_X8_196 : (Cond.fieldLink "ImpactShelf" (196 : Nat) "ImpactShelf$Search" "hitDocument" "[I") ∈ LW := lw_in 242 (by decide +kernel) rfl
set_option maxRecDepth 20000 in
theorem wF_X8_199 : (Cond.fieldLink "ImpactShelf" (199 : Nat) "ImpactShelf$Search" "sums" "[I") ∈ LW := lw_in 240 (by decide +kernel) rfl
set_option maxRecDepth 20000 in
theorem wF_X8_202 : (Cond.fieldLink "ImpactShelf" (202 : Nat) "ImpactShelf$Search" "terms" "I") ∈ LW := lw_in 245 (by decide +kernel) rfl
set_option maxRecDepth 20000 in
theorem wF_X8_203 : (Cond.fieldLink "ImpactShelf" (203 : Nat) "ImpactShelf$Search" "segments" "I") ∈ LW := lw_in 247 (by decide +kernel) rfl
set_option maxRecDepth 20000 in
theorem wF_X8_206 : (Cond.fieldLink "ImpactShelf" (206 : Nat) "ImpactShelf$Search" "doneSegments" "I") ∈ LW := lw_in 249 (by decide +kernel) rfl
set_option maxRecDepth 20000 in
theorem wF_X8_209 : (Cond.fieldLink "ImpactShelf" (209 : Nat) "ImpactShelf$Search" "postings" "I") ∈ LW := lw_in 253 (by decide +kernel) rfl
set_option maxRecDepth 20000 in
theorem wF_X8_210 : (Cond.fieldLink "ImpactShelf" (210 : Nat) "ImpactShelf$Search" "why" "I") ∈ LW := lw_in 255 (by decide +kernel) rfl
set_option maxRecDepth 20000 in
theorem wF_X8_213 : (Cond.fieldLink "ImpactShelf" (213 : Nat) "ImpactShelf$Search" "planTerm" "[I") ∈ LW := lw_in 234 (by decide +kernel) rfl
set_option maxRecDepth 20000 in
theorem wF_X8_216 : (Cond.fieldLink "ImpactShelf" (216 : Nat) "ImpactShelf$Search" "planImpact" "[I") ∈ LW := lw_in 236 (by decide +kernel) rfl
set_option maxRecDepth 20000 in
theorem wF_X8_219 : (Cond.fieldLink "ImpactShelf" (219 : Nat) "ImpactShelf$Search" "planSize" "[I") ∈ LW := lw_in 238 (by decide +kernel) rfl
set_option maxRecDepth 20000 in
theorem wb_X6_isDone : ∀ w ∈ ([.instanceMethod yX6_isDone, .selects RX6 yX6_isDone yX6_isDone, .initialized RX6, .code yX6_isDone cX6_isDone 4 (some .boolean)] : List Cond), w ∈ LW := List.forall_mem_cons.mpr ⟨lw_in 368 (by decide +kernel) rfl, List.forall_mem_cons.mpr ⟨lw_inS 0 (by decide +kernel) rfl, List.forall_mem_cons.mpr ⟨lw_in 9 (by decide +kernel) rfl, List.forall_mem_cons.mpr ⟨lw_in 369 (by decide +kernel) rfl, fun _ h => absurd h List.not_mem_nil⟩⟩⟩⟩
set_option maxRecDepth 20000 in
theorem hy_X6_isDone : yX6_isDone.cls = RX6 ∧ yX6_isDone.cls ≠ "java/lang/invoke/MethodHandle" ∧ yX6_isDone.cls ≠ "java/lang/invoke/VarHandle" ∧ (parseMethodDescriptor yX6_isDone.desc).map (fun d => d.parameters.length) = some 2 := by decide +kernel
set_option maxRecDepth 20000 in
theorem wM_X6_92 : (Cond.methodLink "ImpactShelf$Search" (92 : Nat) ({ cls := "ImpactShelf$Search", name := "isDone", desc := "(II)Z" } : MethodName)) ∈ LW := lw_in 366 (by decide +kernel) rfl
set_option maxRecDepth 20000 in
theorem wb_X6_agreesByDocument : ∀ w ∈ ([.instanceMethod yX6_agreesByDocument, .selects RX6 yX6_agreesByDocument yX6_agreesByDocument, .initialized RX6, .code yX6_agreesByDocument cX6_agreesByDocument 5 (some .boolean)] : List Cond), w ∈ LW := List.forall_mem_cons.mpr ⟨lw_in 363 (by decide +kernel) rfl, List.forall_mem_cons.mpr ⟨lw_in 364 (by decide +kernel) rfl, List.forall_mem_cons.mpr ⟨lw_in 9 (by decide +kernel) rfl, List.forall_mem_cons.mpr ⟨lw_in 365 (by decide +kernel) rfl, fun _ h => absurd h List.not_mem_nil⟩⟩⟩⟩
set_option maxRecDepth 20000 in
theorem hy_X6_agreesByDocument : yX6_agreesByDocument.cls = RX6 ∧ yX6_agreesByDocument.cls ≠ "java/lang/invoke/MethodHandle" ∧ yX6_agreesByDocument.cls ≠ "java/lang/invoke/VarHandle" ∧ (parseMethodDescriptor yX6_agreesByDocument.desc).map (fun d => d.parameters.length) = some 0 := by decide +kernel
set_option maxRecDepth 20000 in
theorem wM_X8_222 : (Cond.methodLink "ImpactShelf" (222 : Nat) ({ cls := "ImpactShelf$Search", name := "agreesByDocument", desc := "()Z" } : MethodName)) ∈ LW := lw_in 362 (by decide +kernel) rfl
set_option maxRecDepth 20000 in
theorem wb_X3_howManyKept : ∀ w ∈ ([.instanceMethod yX3_howManyKept, .selects RX3 yX3_howManyKept yX3_howManyKept, .initialized RX3, .code yX3_howManyKept cX3_howManyKept 3 (some .int)] : List Cond), w ∈ LW := List.forall_mem_cons.mpr ⟨lw_in 916 (by decide +kernel) rfl, List.forall_mem_cons.mpr ⟨lw_in 917 (by decide +kernel) rfl, List.forall_mem_cons.mpr ⟨lw_in 7 (by decide +kernel) rfl, List.forall_mem_cons.mpr ⟨lw_in 918 (by decide +kernel) rfl, fun _ h => absurd h List.not_mem_nil⟩⟩⟩⟩
set_option maxRecDepth 20000 in
theorem hy_X3_howManyKept : yX3_howManyKept.cls = RX3 ∧ yX3_howManyKept.cls ≠ "java/lang/invoke/MethodHandle" ∧ yX3_howManyKept.cls ≠ "java/lang/invoke/VarHandle" ∧ (parseMethodDescriptor yX3_howManyKept.desc).map (fun d => d.parameters.length) = some 0 := by decide +kernel
set_option maxRecDepth 20000 in
theorem wM_X8_226 : (Cond.methodLink "ImpactShelf" (226 : Nat) ({ cls := "ImpactShelf$Generations", name := "howManyKept", desc := "()I" } : MethodName)) ∈ LW := lw_in 915 (by decide +kernel) rfl
set_option maxRecDepth 20000 in
theorem wF_X8_229 : (Cond.fieldLink "ImpactShelf" (229 : Nat) "ImpactShelf$Index" "documents" "I") ∈ LW := lw_in 176 (by decide +kernel) rfl
set_option maxRecDepth 20000 in
theorem wF_X8_230 : (Cond.fieldLink "ImpactShelf" (230 : Nat) "ImpactShelf$Index" "terms" "I") ∈ LW := lw_in 180 (by decide +kernel) rfl
set_option maxRecDepth 20000 in
theorem wF_X8_231 : (Cond.fieldLink "ImpactShelf" (231 : Nat) "ImpactShelf$Index" "postings" "I") ∈ LW := lw_in 184 (by decide +kernel) rfl
set_option maxRecDepth 20000 in
theorem wF_X8_232 : (Cond.fieldLink "ImpactShelf" (232 : Nat) "ImpactShelf$Index" "segments" "I") ∈ LW := lw_in 182 (by decide +kernel) rfl
set_option maxRecDepth 20000 in
theorem inW_X9 : ∀ w ∈ u_ws RX9 TX9 42, w ∈ LW := inW_of [981, 983, 985, 987, 989, 991, 993, 995, 997, 999, 1001, 1003, 1005, 1007, 1009, 1011, 1013, 1015, 1017, 1019, 1021, 1023, 1025, 1027, 1029, 1031, 1033, 1035, 1037, 1039, 1041, 1043, 1045, 1047, 1049, 1051, 1053, 1055, 1057, 1059, 1061, 1063] (by decide +kernel) (by decide +kernel)
set_option maxRecDepth 20000 in
theorem wF_X9_83 : (Cond.fieldLink "ImpactShelfModel" (83 : Nat) "ImpactShelfModel" "thrown" "I") ∈ LW := lw_in 939 (by decide +kernel) rfl
set_option maxRecDepth 20000 in
theorem wC_X9_87 : (Cond.constantLong "ImpactShelfModel" (87 : Nat) (8 : Int64)) ∈ LW := lw_in 1075 (by decide +kernel) rfl
set_option maxRecDepth 20000 in
theorem wF_X9_97 : (Cond.fieldLink "ImpactShelfModel" (97 : Nat) "ImpactShelfModel" "taped" "I") ∈ LW := lw_in 941 (by decide +kernel) rfl
set_option maxRecDepth 20000 in
theorem wF_X9_7 : (Cond.fieldLink "ImpactShelfModel" (7 : Nat) "ImpactShelfModel" "tape" "[I") ∈ LW := lw_in 940 (by decide +kernel) rfl
set_option maxRecDepth 20000 in
theorem wC_X9_100 : (Cond.constantLong "ImpactShelfModel" (100 : Nat) (255 : Int64)) ∈ LW := lw_in 1083 (by decide +kernel) rfl
set_option maxRecDepth 20000 in
theorem wb_X9_fails : ∀ w ∈ ([.instanceMethod yX9_fails, .selects RX9 yX9_fails yX9_fails, .initialized RX9, .code yX9_fails cX9_fails 3 (some .boolean)] : List Cond), w ∈ LW := List.forall_mem_cons.mpr ⟨lw_in 1081 (by decide +kernel) rfl, List.forall_mem_cons.mpr ⟨lw_inS 35 (by decide +kernel) rfl, List.forall_mem_cons.mpr ⟨lw_in 10 (by decide +kernel) rfl, List.forall_mem_cons.mpr ⟨lw_in 1082 (by decide +kernel) rfl, fun _ h => absurd h List.not_mem_nil⟩⟩⟩⟩
set_option maxRecDepth 20000 in
theorem hy_X9_fails : yX9_fails.cls = RX9 ∧ yX9_fails.cls ≠ "java/lang/invoke/MethodHandle" ∧ yX9_fails.cls ≠ "java/lang/invoke/VarHandle" ∧ (parseMethodDescriptor yX9_fails.desc).map (fun d => d.parameters.length) = some 2 := by decide +kernel
set_option maxRecDepth 20000 in
theorem wM_X9_93 : (Cond.methodLink "ImpactShelfModel" (93 : Nat) ({ cls := "ImpactShelfModel", name := "fails", desc := "(ZI)Z" } : MethodName)) ∈ LW := lw_in 1079 (by decide +kernel) rfl
set_option maxRecDepth 20000 in
theorem wb_X9_within : ∀ w ∈ ([.static yX9_within, .initialized yX9_within.cls, .code yX9_within cX9_within 6 (some .boolean)] : List Cond), w ∈ LW := List.forall_mem_cons.mpr ⟨lw_in 1077 (by decide +kernel) rfl, List.forall_mem_cons.mpr ⟨lw_in 10 (by decide +kernel) rfl, List.forall_mem_cons.mpr ⟨lw_in 1078 (by decide +kernel) rfl, fun _ h => absurd h List.not_mem_nil⟩⟩⟩
set_option maxRecDepth 20000 in
theorem hy_X9_within : yX9_within.cls ≠ "java/lang/invoke/MethodHandle" ∧ yX9_within.cls ≠ "java/lang/invoke/VarHandle" ∧ (parseMethodDescriptor yX9_within.desc).map (fun d => d.parameters.length) = some 3 := by decide +kernel
set_option maxRecDepth 20000 in
theorem wM_X9_89 : (Cond.methodLink "ImpactShelfModel" (89 : Nat) ({ cls := "ImpactShelfModel", name := "within", desc := "(JJJ)Z" } : MethodName)) ∈ LW := lw_in 1076 (by decide +kernel) rfl
set_option maxRecDepth 20000 in
theorem wF_X9_102 : (Cond.fieldLink "ImpactShelfModel" (102 : Nat) "ImpactShelfModel" "at" "I") ∈ LW := lw_in 943 (by decide +kernel) rfl
set_option maxRecDepth 20000 in
theorem wb_X9_small : ∀ w ∈ ([.static yX9_small, .initialized yX9_small.cls, .code yX9_small cX9_small 1 (some .int)] : List Cond), w ∈ LW := List.forall_mem_cons.mpr ⟨lw_in 1101 (by decide +kernel) rfl, List.forall_mem_cons.mpr ⟨lw_in 10 (by decide +kernel) rfl, List.forall_mem_cons.mpr ⟨lw_in 1102 (by decide +kernel) rfl, fun _ h => absurd h List.not_mem_nil⟩⟩⟩
set_option maxRecDepth 20000 in
theorem hy_X9_small : yX9_small.cls ≠ "java/lang/invoke/MethodHandle" ∧ yX9_small.cls ≠ "java/lang/invoke/VarHandle" ∧ (parseMethodDescriptor yX9_small.desc).map (fun d => d.parameters.length) = some 1 := by decide +kernel
set_option maxRecDepth 20000 in
theorem wM_X9_105 : (Cond.methodLink "ImpactShelfModel" (105 : Nat) ({ cls := "ImpactShelfModel", name := "small", desc := "(I)I" } : MethodName)) ∈ LW := lw_in 1100 (by decide +kernel) rfl
set_option maxRecDepth 20000 in
theorem wF_X9_13 : (Cond.fieldLink "ImpactShelfModel" (13 : Nat) "ImpactShelfModel" "word" "[I") ∈ LW := lw_in 942 (by decide +kernel) rfl
set_option maxRecDepth 20000 in
theorem wb_X9_compared : ∀ w ∈ ([.instanceMethod yX9_compared, .selects RX9 yX9_compared yX9_compared, .initialized RX9, .code yX9_compared cX9_compared 4 (some .int)] : List Cond), w ∈ LW := List.forall_mem_cons.mpr ⟨lw_in 1109 (by decide +kernel) rfl, List.forall_mem_cons.mpr ⟨lw_inS 40 (by decide +kernel) rfl, List.forall_mem_cons.mpr ⟨lw_in 10 (by decide +kernel) rfl, List.forall_mem_cons.mpr ⟨lw_in 1110 (by decide +kernel) rfl, fun _ h => absurd h List.not_mem_nil⟩⟩⟩⟩
set_option maxRecDepth 20000 in
theorem hy_X9_compared : yX9_compared.cls = RX9 ∧ yX9_compared.cls ≠ "java/lang/invoke/MethodHandle" ∧ yX9_compared.cls ≠ "java/lang/invoke/VarHandle" ∧ (parseMethodDescriptor yX9_compared.desc).map (fun d => d.parameters.length) = some 2 := by decide +kernel
set_option maxRecDepth 20000 in
theorem wM_X9_109 : (Cond.methodLink "ImpactShelfModel" (109 : Nat) ({ cls := "ImpactShelfModel", name := "compared", desc := "([II)I" } : MethodName)) ∈ LW := lw_in 1107 (by decide +kernel) rfl
set_option maxRecDepth 20000 in
theorem wF_X9_120 : (Cond.fieldLink "ImpactShelfModel" (120 : Nat) "ImpactShelfModel" "documents" "I") ∈ LW := lw_in 944 (by decide +kernel) rfl
set_option maxRecDepth 20000 in
theorem wF_X9_19 : (Cond.fieldLink "ImpactShelfModel" (19 : Nat) "ImpactShelfModel" "often" "[I") ∈ LW := lw_in 947 (by decide +kernel) rfl
set_option maxRecDepth 20000 in
theorem wF_X9_113 : (Cond.fieldLink "ImpactShelfModel" (113 : Nat) "ImpactShelfModel" "terms" "I") ∈ LW := lw_in 945 (by decide +kernel) rfl
set_option maxRecDepth 20000 in
theorem wb_X9_frequency : ∀ w ∈ ([.instanceMethod yX9_frequency, .selects RX9 yX9_frequency yX9_frequency, .initialized RX9, .code yX9_frequency cX9_frequency 4 (some .int)] : List Cond), w ∈ LW := List.forall_mem_cons.mpr ⟨lw_in 1094 (by decide +kernel) rfl, List.forall_mem_cons.mpr ⟨lw_inS 37 (by decide +kernel) rfl, List.forall_mem_cons.mpr ⟨lw_in 10 (by decide +kernel) rfl, List.forall_mem_cons.mpr ⟨lw_in 1095 (by decide +kernel) rfl, fun _ h => absurd h List.not_mem_nil⟩⟩⟩⟩
set_option maxRecDepth 20000 in
theorem hy_X9_frequency : yX9_frequency.cls = RX9 ∧ yX9_frequency.cls ≠ "java/lang/invoke/MethodHandle" ∧ yX9_frequency.cls ≠ "java/lang/invoke/VarHandle" ∧ (parseMethodDescriptor yX9_frequency.desc).map (fun d => d.parameters.length) = some 1 := by decide +kernel
set_option maxRecDepth 20000 in
theorem wM_X9_131 : (Cond.methodLink "ImpactShelfModel" (131 : Nat) ({ cls := "ImpactShelfModel", name := "frequency", desc := "(I)I" } : MethodName)) ∈ LW := lw_in 1092 (by decide +kernel) rfl
set_option maxRecDepth 20000 in
theorem wF_X9_25 : (Cond.fieldLink "ImpactShelfModel" (25 : Nat) "ImpactShelfModel" "fresh" "[I") ∈ LW := lw_in 949 (by decide +kernel) rfl
set_option maxRecDepth 20000 in
theorem wF_X9_16 : (Cond.fieldLink "ImpactShelfModel" (16 : Nat) "ImpactShelfModel" "term" "[I") ∈ LW := lw_in 946 (by decide +kernel) rfl
set_option maxRecDepth 20000 in
theorem wb_X9_finds : ∀ w ∈ ([.instanceMethod yX9_finds, .selects RX9 yX9_finds yX9_finds, .initialized RX9, .code yX9_finds cX9_finds 5 (some .int)] : List Cond), w ∈ LW := List.forall_mem_cons.mpr ⟨lw_in 1105 (by decide +kernel) rfl, List.forall_mem_cons.mpr ⟨lw_inS 39 (by decide +kernel) rfl, List.forall_mem_cons.mpr ⟨lw_in 10 (by decide +kernel) rfl, List.forall_mem_cons.mpr ⟨lw_in 1106 (by decide +kernel) rfl, fun _ h => absurd h List.not_mem_nil⟩⟩⟩⟩
set_option maxRecDepth 20000 in
theorem hy_X9_finds : yX9_finds.cls = RX9 ∧ yX9_finds.cls ≠ "java/lang/invoke/MethodHandle" ∧ yX9_finds.cls ≠ "java/lang/invoke/VarHandle" ∧ (parseMethodDescriptor yX9_finds.desc).map (fun d => d.parameters.length) = some 3 := by decide +kernel
set_option maxRecDepth 20000 in
theorem wM_X9_127 : (Cond.methodLink "ImpactShelfModel" (127 : Nat) ({ cls := "ImpactShelfModel", name := "finds", desc := "([III)I" } : MethodName)) ∈ LW := lw_in 1103 (by decide +kernel) rfl
set_option maxRecDepth 20000 in
theorem wb_X9_takesWord : ∀ w ∈ ([.instanceMethod yX9_takesWord, .selects RX9 yX9_takesWord yX9_takesWord, .initialized RX9, .code yX9_takesWord cX9_takesWord 4 (some .boolean)] : List Cond), w ∈ LW := List.forall_mem_cons.mpr ⟨lw_in 1098 (by decide +kernel) rfl, List.forall_mem_cons.mpr ⟨lw_inS 38 (by decide +kernel) rfl, List.forall_mem_cons.mpr ⟨lw_in 10 (by decide +kernel) rfl, List.forall_mem_cons.mpr ⟨lw_in 1099 (by decide +kernel) rfl, fun _ h => absurd h List.not_mem_nil⟩⟩⟩⟩
set_option maxRecDepth 20000 in
theorem hy_X9_takesWord : yX9_takesWord.cls = RX9 ∧ yX9_takesWord.cls ≠ "java/lang/invoke/MethodHandle" ∧ yX9_takesWord.cls ≠ "java/lang/invoke/VarHandle" ∧ (parseMethodDescriptor yX9_takesWord.desc).map (fun d => d.parameters.length) = some 1 := by decide +kernel
set_option maxRecDepth 20000 in
theorem wM_X9_123 : (Cond.methodLink "ImpactShelfModel" (123 : Nat) ({ cls := "ImpactShelfModel", name := "takesWord", desc := "(I)Z" } : MethodName)) ∈ LW := lw_in 1096 (by decide +kernel) rfl
set_option maxRecDepth 20000 in
theorem wF_X9_22 : (Cond.fieldLink "ImpactShelfModel" (22 : Nat) "ImpactShelfModel" "length" "[I") ∈ LW := lw_in 948 (by decide +kernel) rfl
set_option maxRecDepth 20000 in
theorem wb_X9_countPostings : ∀ w ∈ ([.instanceMethod yX9_countPostings, .selects RX9 yX9_countPostings yX9_countPostings, .initialized RX9, .code yX9_countPostings cX9_countPostings 3 (some .int)] : List Cond), w ∈ LW := List.forall_mem_cons.mpr ⟨lw_in 1090 (by decide +kernel) rfl, List.forall_mem_cons.mpr ⟨lw_inS 36 (by decide +kernel) rfl, List.forall_mem_cons.mpr ⟨lw_in 10 (by decide +kernel) rfl, List.forall_mem_cons.mpr ⟨lw_in 1091 (by decide +kernel) rfl, fun _ h => absurd h List.not_mem_nil⟩⟩⟩⟩
set_option maxRecDepth 20000 in
theorem hy_X9_countPostings : yX9_countPostings.cls = RX9 ∧ yX9_countPostings.cls ≠ "java/lang/invoke/MethodHandle" ∧ yX9_countPostings.cls ≠ "java/lang/invoke/VarHandle" ∧ (parseMethodDescriptor yX9_countPostings.desc).map (fun d => d.parameters.length) = some 0 := by decide +kernel
set_option maxRecDepth 20000 in
theorem wM_X9_116 : (Cond.methodLink "ImpactShelfModel" (116 : Nat) ({ cls := "ImpactShelfModel", name := "countPostings", desc := "()I" } : MethodName)) ∈ LW := lw_in 1088 (by decide +kernel) rfl
set_option maxRecDepth 20000 in
theorem wC_X9_134 : (Cond.constantLong "ImpactShelfModel" (134 : Nat) (3 : Int64)) ∈ LW := lw_in 1119 (by decide +kernel) rfl
set_option maxRecDepth 20000 in
theorem wb_X9_lengths : ∀ w ∈ ([.instanceMethod yX9_lengths, .selects RX9 yX9_lengths yX9_lengths, .initialized RX9, .code yX9_lengths cX9_lengths 3 (some .int)] : List Cond), w ∈ LW := List.forall_mem_cons.mpr ⟨lw_in 1122 (by decide +kernel) rfl, List.forall_mem_cons.mpr ⟨lw_inS 41 (by decide +kernel) rfl, List.forall_mem_cons.mpr ⟨lw_in 10 (by decide +kernel) rfl, List.forall_mem_cons.mpr ⟨lw_in 1123 (by decide +kernel) rfl, fun _ h => absurd h List.not_mem_nil⟩⟩⟩⟩
set_option maxRecDepth 20000 in
theorem hy_X9_lengths : yX9_lengths.cls = RX9 ∧ yX9_lengths.cls ≠ "java/lang/invoke/MethodHandle" ∧ yX9_lengths.cls ≠ "java/lang/invoke/VarHandle" ∧ (parseMethodDescriptor yX9_lengths.desc).map (fun d => d.parameters.length) = some 0 := by decide +kernel
set_option maxRecDepth 20000 in
theorem wM_X9_136 : (Cond.methodLink "ImpactShelfModel" (136 : Nat) ({ cls := "ImpactShelfModel", name := "lengths", desc := "()I" } : MethodName)) ∈ LW := lw_in 1120 (by decide +kernel) rfl
set_option maxRecDepth 20000 in
theorem wC_X9_139 : (Cond.constantDouble "ImpactShelfModel" (139 : Nat) (4611686018427387904 : UInt64)) ∈ LW := lw_in 1135 (by decide +kernel) rfl
set_option maxRecDepth 20000 in
theorem wC_X9_141 : (Cond.constantDouble "ImpactShelfModel" (141 : Nat) (4604418534313441775 : UInt64)) ∈ LW := lw_in 1136 (by decide +kernel) rfl
set_option maxRecDepth 20000 in
theorem wC_X9_147 : (Cond.constantDouble "ImpactShelfModel" (147 : Nat) (4611235658464650854 : UInt64)) ∈ LW := lw_in 1137 (by decide +kernel) rfl
set_option maxRecDepth 20000 in
theorem wC_X9_149 : (Cond.constantDouble "ImpactShelfModel" (149 : Nat) (4606281698874543309 : UInt64)) ∈ LW := lw_in 1138 (by decide +kernel) rfl
set_option maxRecDepth 20000 in
theorem wC_X9_151 : (Cond.constantDouble "ImpactShelfModel" (151 : Nat) (4603579539098121011 : UInt64)) ∈ LW := lw_in 1139 (by decide +kernel) rfl
set_option maxRecDepth 20000 in
theorem wC_X9_153 : (Cond.constantDouble "ImpactShelfModel" (153 : Nat) (4600877379321698714 : UInt64)) ∈ LW := lw_in 1140 (by decide +kernel) rfl
set_option maxRecDepth 20000 in
theorem wb_X9_ln : ∀ w ∈ ([.static yX9_ln, .initialized yX9_ln.cls, .code yX9_ln cX9_ln 12 (some .double)] : List Cond), w ∈ LW := List.forall_mem_cons.mpr ⟨lw_in 1133 (by decide +kernel) rfl, List.forall_mem_cons.mpr ⟨lw_in 10 (by decide +kernel) rfl, List.forall_mem_cons.mpr ⟨lw_in 1134 (by decide +kernel) rfl, fun _ h => absurd h List.not_mem_nil⟩⟩⟩
set_option maxRecDepth 20000 in
theorem hy_X9_ln : yX9_ln.cls ≠ "java/lang/invoke/MethodHandle" ∧ yX9_ln.cls ≠ "java/lang/invoke/VarHandle" ∧ (parseMethodDescriptor yX9_ln.desc).map (fun d => d.parameters.length) = some 1 := by decide +kernel
set_option maxRecDepth 20000 in
theorem wM_X9_143 : (Cond.methodLink "ImpactShelfModel" (143 : Nat) ({ cls := "ImpactShelfModel", name := "ln", desc := "(D)D" } : MethodName)) ∈ LW := lw_in 1132 (by decide +kernel) rfl
set_option maxRecDepth 20000 in
theorem wb_X9_scoreOf : ∀ w ∈ ([.instanceMethod yX9_scoreOf, .selects RX9 yX9_scoreOf yX9_scoreOf, .initialized RX9, .code yX9_scoreOf cX9_scoreOf 9 (some .double)] : List Cond), w ∈ LW := List.forall_mem_cons.mpr ⟨lw_in 1130 (by decide +kernel) rfl, List.forall_mem_cons.mpr ⟨lw_inS 42 (by decide +kernel) rfl, List.forall_mem_cons.mpr ⟨lw_in 10 (by decide +kernel) rfl, List.forall_mem_cons.mpr ⟨lw_in 1131 (by decide +kernel) rfl, fun _ h => absurd h List.not_mem_nil⟩⟩⟩⟩
set_option maxRecDepth 20000 in
theorem hy_X9_scoreOf : yX9_scoreOf.cls = RX9 ∧ yX9_scoreOf.cls ≠ "java/lang/invoke/MethodHandle" ∧ yX9_scoreOf.cls ≠ "java/lang/invoke/VarHandle" ∧ (parseMethodDescriptor yX9_scoreOf.desc).map (fun d => d.parameters.length) = some 2 := by decide +kernel
set_option maxRecDepth 20000 in
theorem wM_X9_155 : (Cond.methodLink "ImpactShelfModel" (155 : Nat) ({ cls := "ImpactShelfModel", name := "scoreOf", desc := "(II)D" } : MethodName)) ∈ LW := lw_in 1128 (by decide +kernel) rfl
set_option maxRecDepth 20000 in
theorem wF_X9_28 : (Cond.fieldLink "ImpactShelfModel" (28 : Nat) "ImpactShelfModel" "bits" "[I") ∈ LW := lw_in 950 (by decide +kernel) rfl
set_option maxRecDepth 20000 in
theorem wF_X9_31 : (Cond.fieldLink "ImpactShelfModel" (31 : Nat) "ImpactShelfModel" "codec" "[I") ∈ LW := lw_in 951 (by decide +kernel) rfl
set_option maxRecDepth 20000 in
theorem wF_X9_34 : (Cond.fieldLink "ImpactShelfModel" (34 : Nat) "ImpactShelfModel" "size" "[I") ∈ LW := lw_in 952 (by decide +kernel) rfl
set_option maxRecDepth 20000 in
theorem wF_X9_37 : (Cond.fieldLink "ImpactShelfModel" (37 : Nat) "ImpactShelfModel" "words" "[I") ∈ LW := lw_in 953 (by decide +kernel) rfl
set_option maxRecDepth 20000 in
theorem wF_X9_40 : (Cond.fieldLink "ImpactShelfModel" (40 : Nat) "ImpactShelfModel" "letter" "[I") ∈ LW := lw_in 954 (by decide +kernel) rfl
set_option maxRecDepth 20000 in
theorem wF_X9_43 : (Cond.fieldLink "ImpactShelfModel" (43 : Nat) "ImpactShelfModel" "impact" "[I") ∈ LW := lw_in 955 (by decide +kernel) rfl
set_option maxRecDepth 20000 in
theorem wC_X9_166 : (Cond.constantDouble "ImpactShelfModel" (166 : Nat) (4602678819172646912 : UInt64)) ∈ LW := lw_in 1158 (by decide +kernel) rfl
set_option maxRecDepth 20000 in
theorem wb_X9_cell : ∀ w ∈ ([.instanceMethod yX9_cell, .selects RX9 yX9_cell yX9_cell, .initialized RX9, .code yX9_cell cX9_cell 4 (some .int)] : List Cond), w ∈ LW := List.forall_mem_cons.mpr ⟨lw_in 1156 (by decide +kernel) rfl, List.forall_mem_cons.mpr ⟨lw_inS 45 (by decide +kernel) rfl, List.forall_mem_cons.mpr ⟨lw_in 10 (by decide +kernel) rfl, List.forall_mem_cons.mpr ⟨lw_in 1157 (by decide +kernel) rfl, fun _ h => absurd h List.not_mem_nil⟩⟩⟩⟩
set_option maxRecDepth 20000 in
theorem hy_X9_cell : yX9_cell.cls = RX9 ∧ yX9_cell.cls ≠ "java/lang/invoke/MethodHandle" ∧ yX9_cell.cls ≠ "java/lang/invoke/VarHandle" ∧ (parseMethodDescriptor yX9_cell.desc).map (fun d => d.parameters.length) = some 3 := by decide +kernel
set_option maxRecDepth 20000 in
theorem wM_X9_162 : (Cond.methodLink "ImpactShelfModel" (162 : Nat) ({ cls := "ImpactShelfModel", name := "cell", desc := "(III)I" } : MethodName)) ∈ LW := lw_in 1154 (by decide +kernel) rfl
set_option maxRecDepth 20000 in
theorem wb_X9_rank : ∀ w ∈ ([.instanceMethod yX9_rank, .selects RX9 yX9_rank yX9_rank, .initialized RX9, .code yX9_rank cX9_rank 4 (some .int)] : List Cond), w ∈ LW := List.forall_mem_cons.mpr ⟨lw_in 1152 (by decide +kernel) rfl, List.forall_mem_cons.mpr ⟨lw_inS 44 (by decide +kernel) rfl, List.forall_mem_cons.mpr ⟨lw_in 10 (by decide +kernel) rfl, List.forall_mem_cons.mpr ⟨lw_in 1153 (by decide +kernel) rfl, fun _ h => absurd h List.not_mem_nil⟩⟩⟩⟩
set_option maxRecDepth 20000 in
theorem hy_X9_rank : yX9_rank.cls = RX9 ∧ yX9_rank.cls ≠ "java/lang/invoke/MethodHandle" ∧ yX9_rank.cls ≠ "java/lang/invoke/VarHandle" ∧ (parseMethodDescriptor yX9_rank.desc).map (fun d => d.parameters.length) = some 1 := by decide +kernel
set_option maxRecDepth 20000 in
theorem wM_X9_159 : (Cond.methodLink "ImpactShelfModel" (159 : Nat) ({ cls := "ImpactShelfModel", name := "rank", desc := "(I)I" } : MethodName)) ∈ LW := lw_in 1150 (by decide +kernel) rfl
set_option maxRecDepth 20000 in
theorem wF_X9_59 : (Cond.fieldLink "ImpactShelfModel" (59 : Nat) "ImpactShelfModel" "draft" "[I") ∈ LW := lw_in 961 (by decide +kernel) rfl
set_option maxRecDepth 20000 in
theorem wF_X9_168 : (Cond.fieldLink "ImpactShelfModel" (168 : Nat) "ImpactShelfModel" "drafted" "I") ∈ LW := lw_in 963 (by decide +kernel) rfl
set_option maxRecDepth 20000 in
theorem wF_X9_62 : (Cond.fieldLink "ImpactShelfModel" (62 : Nat) "ImpactShelfModel" "gap" "[I") ∈ LW := lw_in 966 (by decide +kernel) rfl
set_option maxRecDepth 20000 in
theorem wb_X9_waySize : ∀ w ∈ ([.static yX9_waySize, .initialized yX9_waySize.cls, .code yX9_waySize cX9_waySize 1 (some .int)] : List Cond), w ∈ LW := List.forall_mem_cons.mpr ⟨lw_in 1188 (by decide +kernel) rfl, List.forall_mem_cons.mpr ⟨lw_in 10 (by decide +kernel) rfl, List.forall_mem_cons.mpr ⟨lw_in 1189 (by decide +kernel) rfl, fun _ h => absurd h List.not_mem_nil⟩⟩⟩
set_option maxRecDepth 20000 in
theorem hy_X9_waySize : yX9_waySize.cls ≠ "java/lang/invoke/MethodHandle" ∧ yX9_waySize.cls ≠ "java/lang/invoke/VarHandle" ∧ (parseMethodDescriptor yX9_waySize.desc).map (fun d => d.parameters.length) = some 1 := by decide +kernel
set_option maxRecDepth 20000 in
theorem wM_X9_181 : (Cond.methodLink "ImpactShelfModel" (181 : Nat) ({ cls := "ImpactShelfModel", name := "waySize", desc := "(I)I" } : MethodName)) ∈ LW := lw_in 1187 (by decide +kernel) rfl
set_option maxRecDepth 20000 in
theorem wb_X9_bitsOf : ∀ w ∈ ([.static yX9_bitsOf, .initialized yX9_bitsOf.cls, .code yX9_bitsOf cX9_bitsOf 2 (some .int)] : List Cond), w ∈ LW := List.forall_mem_cons.mpr ⟨lw_in 1191 (by decide +kernel) rfl, List.forall_mem_cons.mpr ⟨lw_in 10 (by decide +kernel) rfl, List.forall_mem_cons.mpr ⟨lw_in 1192 (by decide +kernel) rfl, fun _ h => absurd h List.not_mem_nil⟩⟩⟩
set_option maxRecDepth 20000 in
theorem hy_X9_bitsOf : yX9_bitsOf.cls ≠ "java/lang/invoke/MethodHandle" ∧ yX9_bitsOf.cls ≠ "java/lang/invoke/VarHandle" ∧ (parseMethodDescriptor yX9_bitsOf.desc).map (fun d => d.parameters.length) = some 1 := by decide +kernel
set_option maxRecDepth 20000 in
theorem wM_X9_184 : (Cond.methodLink "ImpactShelfModel" (184 : Nat) ({ cls := "ImpactShelfModel", name := "bitsOf", desc := "(I)I" } : MethodName)) ∈ LW := lw_in 1190 (by decide +kernel) rfl
set_option maxRecDepth 20000 in
theorem wb_X9_put : ∀ w ∈ ([.instanceMethod yX9_put, .selects RX9 yX9_put yX9_put, .initialized RX9, .code yX9_put cX9_put 2 none] : List Cond), w ∈ LW := List.forall_mem_cons.mpr ⟨lw_in 1165 (by decide +kernel) rfl, List.forall_mem_cons.mpr ⟨lw_inS 47 (by decide +kernel) rfl, List.forall_mem_cons.mpr ⟨lw_in 10 (by decide +kernel) rfl, List.forall_mem_cons.mpr ⟨lw_in 1166 (by decide +kernel) rfl, fun _ h => absurd h List.not_mem_nil⟩⟩⟩⟩
set_option maxRecDepth 20000 in
theorem hy_X9_put : yX9_put.cls = RX9 ∧ yX9_put.cls ≠ "java/lang/invoke/MethodHandle" ∧ yX9_put.cls ≠ "java/lang/invoke/VarHandle" ∧ (parseMethodDescriptor yX9_put.desc).map (fun d => d.parameters.length) = some 1 := by decide +kernel
set_option maxRecDepth 20000 in
theorem wM_X9_171 : (Cond.methodLink "ImpactShelfModel" (171 : Nat) ({ cls := "ImpactShelfModel", name := "put", desc := "(I)V" } : MethodName)) ∈ LW := lw_in 1163 (by decide +kernel) rfl
set_option maxRecDepth 20000 in
theorem wb_X9_putBits : ∀ w ∈ ([.instanceMethod yX9_putBits, .selects RX9 yX9_putBits yX9_putBits, .initialized RX9, .code yX9_putBits cX9_putBits 6 none] : List Cond), w ∈ LW := List.forall_mem_cons.mpr ⟨lw_in 1195 (by decide +kernel) rfl, List.forall_mem_cons.mpr ⟨lw_inS 53 (by decide +kernel) rfl, List.forall_mem_cons.mpr ⟨lw_in 10 (by decide +kernel) rfl, List.forall_mem_cons.mpr ⟨lw_in 1196 (by decide +kernel) rfl, fun _ h => absurd h List.not_mem_nil⟩⟩⟩⟩
set_option maxRecDepth 20000 in
theorem hy_X9_putBits : yX9_putBits.cls = RX9 ∧ yX9_putBits.cls ≠ "java/lang/invoke/MethodHandle" ∧ yX9_putBits.cls ≠ "java/lang/invoke/VarHandle" ∧ (parseMethodDescriptor yX9_putBits.desc).map (fun d => d.parameters.length) = some 1 := by decide +kernel
set_option maxRecDepth 20000 in
theorem wM_X9_178 : (Cond.methodLink "ImpactShelfModel" (178 : Nat) ({ cls := "ImpactShelfModel", name := "putBits", desc := "(I)V" } : MethodName)) ∈ LW := lw_in 1193 (by decide +kernel) rfl
set_option maxRecDepth 20000 in
theorem wb_X9_putWords : ∀ w ∈ ([.instanceMethod yX9_putWords, .selects RX9 yX9_putWords yX9_putWords, .initialized RX9, .code yX9_putWords cX9_putWords 8 none] : List Cond), w ∈ LW := List.forall_mem_cons.mpr ⟨lw_in 1185 (by decide +kernel) rfl, List.forall_mem_cons.mpr ⟨lw_inS 52 (by decide +kernel) rfl, List.forall_mem_cons.mpr ⟨lw_in 10 (by decide +kernel) rfl, List.forall_mem_cons.mpr ⟨lw_in 1186 (by decide +kernel) rfl, fun _ h => absurd h List.not_mem_nil⟩⟩⟩⟩
set_option maxRecDepth 20000 in
theorem hy_X9_putWords : yX9_putWords.cls = RX9 ∧ yX9_putWords.cls ≠ "java/lang/invoke/MethodHandle" ∧ yX9_putWords.cls ≠ "java/lang/invoke/VarHandle" ∧ (parseMethodDescriptor yX9_putWords.desc).map (fun d => d.parameters.length) = some 1 := by decide +kernel
set_option maxRecDepth 20000 in
theorem wM_X9_175 : (Cond.methodLink "ImpactShelfModel" (175 : Nat) ({ cls := "ImpactShelfModel", name := "putWords", desc := "(I)V" } : MethodName)) ∈ LW := lw_in 1183 (by decide +kernel) rfl
set_option maxRecDepth 20000 in
theorem wb_X9_gaps : ∀ w ∈ ([.instanceMethod yX9_gaps, .selects RX9 yX9_gaps yX9_gaps, .initialized RX9, .code yX9_gaps cX9_gaps 7 (some .int)] : List Cond), w ∈ LW := List.forall_mem_cons.mpr ⟨lw_in 1177 (by decide +kernel) rfl, List.forall_mem_cons.mpr ⟨lw_inS 50 (by decide +kernel) rfl, List.forall_mem_cons.mpr ⟨lw_in 10 (by decide +kernel) rfl, List.forall_mem_cons.mpr ⟨lw_in 1178 (by decide +kernel) rfl, fun _ h => absurd h List.not_mem_nil⟩⟩⟩⟩
set_option maxRecDepth 20000 in
theorem hy_X9_gaps : yX9_gaps.cls = RX9 ∧ yX9_gaps.cls ≠ "java/lang/invoke/MethodHandle" ∧ yX9_gaps.cls ≠ "java/lang/invoke/VarHandle" ∧ (parseMethodDescriptor yX9_gaps.desc).map (fun d => d.parameters.length) = some 3 := by decide +kernel
set_option maxRecDepth 20000 in
theorem wM_X9_187 : (Cond.methodLink "ImpactShelfModel" (187 : Nat) ({ cls := "ImpactShelfModel", name := "gaps", desc := "(III)I" } : MethodName)) ∈ LW := lw_in 1175 (by decide +kernel) rfl
set_option maxRecDepth 20000 in
theorem wC_X9_205 : (Cond.constantLong "ImpactShelfModel" (205 : Nat) (65521 : Int64)) ∈ LW := lw_in 1200 (by decide +kernel) rfl
set_option maxRecDepth 20000 in
theorem wC_X9_207 : (Cond.constantLong "ImpactShelfModel" (207 : Nat) (65536 : Int64)) ∈ LW := lw_in 1201 (by decide +kernel) rfl
set_option maxRecDepth 20000 in
theorem wC_X9_209 : (Cond.constantLong "ImpactShelfModel" (209 : Nat) (4294967295 : Int64)) ∈ LW := lw_in 1202 (by decide +kernel) rfl
set_option maxRecDepth 20000 in
theorem wb_X9_lettersOf : ∀ w ∈ ([.instanceMethod yX9_lettersOf, .selects RX9 yX9_lettersOf yX9_lettersOf, .initialized RX9, .code yX9_lettersOf cX9_lettersOf 4 (some .int)] : List Cond), w ∈ LW := List.forall_mem_cons.mpr ⟨lw_in 1169 (by decide +kernel) rfl, List.forall_mem_cons.mpr ⟨lw_inS 48 (by decide +kernel) rfl, List.forall_mem_cons.mpr ⟨lw_in 10 (by decide +kernel) rfl, List.forall_mem_cons.mpr ⟨lw_in 1170 (by decide +kernel) rfl, fun _ h => absurd h List.not_mem_nil⟩⟩⟩⟩
set_option maxRecDepth 20000 in
theorem hy_X9_lettersOf : yX9_lettersOf.cls = RX9 ∧ yX9_lettersOf.cls ≠ "java/lang/invoke/MethodHandle" ∧ yX9_lettersOf.cls ≠ "java/lang/invoke/VarHandle" ∧ (parseMethodDescriptor yX9_lettersOf.desc).map (fun d => d.parameters.length) = some 2 := by decide +kernel
set_option maxRecDepth 20000 in
theorem wM_X9_190 : (Cond.methodLink "ImpactShelfModel" (190 : Nat) ({ cls := "ImpactShelfModel", name := "lettersOf", desc := "(II)I" } : MethodName)) ∈ LW := lw_in 1167 (by decide +kernel) rfl
set_option maxRecDepth 20000 in
theorem wb_X9_putGaps : ∀ w ∈ ([.instanceMethod yX9_putGaps, .selects RX9 yX9_putGaps yX9_putGaps, .initialized RX9, .code yX9_putGaps cX9_putGaps 4 none] : List Cond), w ∈ LW := List.forall_mem_cons.mpr ⟨lw_in 1181 (by decide +kernel) rfl, List.forall_mem_cons.mpr ⟨lw_inS 51 (by decide +kernel) rfl, List.forall_mem_cons.mpr ⟨lw_in 10 (by decide +kernel) rfl, List.forall_mem_cons.mpr ⟨lw_in 1182 (by decide +kernel) rfl, fun _ h => absurd h List.not_mem_nil⟩⟩⟩⟩
set_option maxRecDepth 20000 in
theorem hy_X9_putGaps : yX9_putGaps.cls = RX9 ∧ yX9_putGaps.cls ≠ "java/lang/invoke/MethodHandle" ∧ yX9_putGaps.cls ≠ "java/lang/invoke/VarHandle" ∧ (parseMethodDescriptor yX9_putGaps.desc).map (fun d => d.parameters.length) = some 2 := by decide +kernel
set_option maxRecDepth 20000 in
theorem wM_X9_197 : (Cond.methodLink "ImpactShelfModel" (197 : Nat) ({ cls := "ImpactShelfModel", name := "putGaps", desc := "(II)V" } : MethodName)) ∈ LW := lw_in 1179 (by decide +kernel) rfl
set_option maxRecDepth 20000 in
theorem wb_X9_segmentsOf : ∀ w ∈ ([.instanceMethod yX9_segmentsOf, .selects RX9 yX9_segmentsOf yX9_segmentsOf, .initialized RX9, .code yX9_segmentsOf cX9_segmentsOf 5 (some .int)] : List Cond), w ∈ LW := List.forall_mem_cons.mpr ⟨lw_in 1173 (by decide +kernel) rfl, List.forall_mem_cons.mpr ⟨lw_inS 49 (by decide +kernel) rfl, List.forall_mem_cons.mpr ⟨lw_in 10 (by decide +kernel) rfl, List.forall_mem_cons.mpr ⟨lw_in 1174 (by decide +kernel) rfl, fun _ h => absurd h List.not_mem_nil⟩⟩⟩⟩
set_option maxRecDepth 20000 in
theorem hy_X9_segmentsOf : yX9_segmentsOf.cls = RX9 ∧ yX9_segmentsOf.cls ≠ "java/lang/invoke/MethodHandle" ∧ yX9_segmentsOf.cls ≠ "java/lang/invoke/VarHandle" ∧ (parseMethodDescriptor yX9_segmentsOf.desc).map (fun d => d.parameters.length) = some 2 := by decide +kernel
set_option maxRecDepth 20000 in
theorem wM_X9_194 : (Cond.methodLink "ImpactShelfModel" (194 : Nat) ({ cls := "ImpactShelfModel", name := "segmentsOf", desc := "(II)I" } : MethodName)) ∈ LW := lw_in 1171 (by decide +kernel) rfl
set_option maxRecDepth 20000 in
theorem wb_X9_check : ∀ w ∈ ([.static yX9_check, .initialized yX9_check.cls, .code yX9_check cX9_check 7 (some .long)] : List Cond), w ∈ LW := List.forall_mem_cons.mpr ⟨lw_in 1198 (by decide +kernel) rfl, List.forall_mem_cons.mpr ⟨lw_in 10 (by decide +kernel) rfl, List.forall_mem_cons.mpr ⟨lw_in 1199 (by decide +kernel) rfl, fun _ h => absurd h List.not_mem_nil⟩⟩⟩
set_option maxRecDepth 20000 in
theorem hy_X9_check : yX9_check.cls ≠ "java/lang/invoke/MethodHandle" ∧ yX9_check.cls ≠ "java/lang/invoke/VarHandle" ∧ (parseMethodDescriptor yX9_check.desc).map (fun d => d.parameters.length) = some 2 := by decide +kernel
set_option maxRecDepth 20000 in
theorem wM_X9_201 : (Cond.methodLink "ImpactShelfModel" (201 : Nat) ({ cls := "ImpactShelfModel", name := "check", desc := "([II)J" } : MethodName)) ∈ LW := lw_in 1197 (by decide +kernel) rfl
set_option maxRecDepth 20000 in
theorem wC_X9_211 : (Cond.constantLong "ImpactShelfModel" (211 : Nat) (2 : Int64)) ∈ LW := lw_in 1145 (by decide +kernel) rfl
set_option maxRecDepth 20000 in
theorem wF_X9_56 : (Cond.fieldLink "ImpactShelfModel" (56 : Nat) "ImpactShelfModel" "file" "[I") ∈ LW := lw_in 960 (by decide +kernel) rfl
set_option maxRecDepth 20000 in
theorem wF_X9_219 : (Cond.fieldLink "ImpactShelfModel" (219 : Nat) "ImpactShelfModel" "filed" "I") ∈ LW := lw_in 962 (by decide +kernel) rfl
set_option maxRecDepth 20000 in
theorem wb_X9_writes : ∀ w ∈ ([.instanceMethod yX9_writes, .selects RX9 yX9_writes yX9_writes, .initialized RX9, .code yX9_writes cX9_writes 5 none] : List Cond), w ∈ LW := List.forall_mem_cons.mpr ⟨lw_in 1161 (by decide +kernel) rfl, List.forall_mem_cons.mpr ⟨lw_inS 46 (by decide +kernel) rfl, List.forall_mem_cons.mpr ⟨lw_in 10 (by decide +kernel) rfl, List.forall_mem_cons.mpr ⟨lw_in 1162 (by decide +kernel) rfl, fun _ h => absurd h List.not_mem_nil⟩⟩⟩⟩
set_option maxRecDepth 20000 in
theorem hy_X9_writes : yX9_writes.cls = RX9 ∧ yX9_writes.cls ≠ "java/lang/invoke/MethodHandle" ∧ yX9_writes.cls ≠ "java/lang/invoke/VarHandle" ∧ (parseMethodDescriptor yX9_writes.desc).map (fun d => d.parameters.length) = some 1 := by decide +kernel
set_option maxRecDepth 20000 in
theorem wM_X9_216 : (Cond.methodLink "ImpactShelfModel" (216 : Nat) ({ cls := "ImpactShelfModel", name := "writes", desc := "(I)V" } : MethodName)) ∈ LW := lw_in 1159 (by decide +kernel) rfl
set_option maxRecDepth 20000 in
theorem wb_X9_makes : ∀ w ∈ ([.instanceMethod yX9_makes, .selects RX9 yX9_makes yX9_makes, .initialized RX9, .code yX9_makes cX9_makes 16 none] : List Cond), w ∈ LW := List.forall_mem_cons.mpr ⟨lw_in 1148 (by decide +kernel) rfl, List.forall_mem_cons.mpr ⟨lw_inS 43 (by decide +kernel) rfl, List.forall_mem_cons.mpr ⟨lw_in 10 (by decide +kernel) rfl, List.forall_mem_cons.mpr ⟨lw_in 1149 (by decide +kernel) rfl, fun _ h => absurd h List.not_mem_nil⟩⟩⟩⟩
set_option maxRecDepth 20000 in
theorem hy_X9_makes : yX9_makes.cls = RX9 ∧ yX9_makes.cls ≠ "java/lang/invoke/MethodHandle" ∧ yX9_makes.cls ≠ "java/lang/invoke/VarHandle" ∧ (parseMethodDescriptor yX9_makes.desc).map (fun d => d.parameters.length) = some 2 := by decide +kernel
set_option maxRecDepth 20000 in
theorem wM_X9_213 : (Cond.methodLink "ImpactShelfModel" (213 : Nat) ({ cls := "ImpactShelfModel", name := "makes", desc := "(II)V" } : MethodName)) ∈ LW := lw_in 1146 (by decide +kernel) rfl
set_option maxRecDepth 20000 in
theorem wF_X9_222 : (Cond.fieldLink "ImpactShelfModel" (222 : Nat) "ImpactShelfModel" "place" "I") ∈ LW := lw_in 964 (by decide +kernel) rfl
set_option maxRecDepth 20000 in
theorem wF_X9_225 : (Cond.fieldLink "ImpactShelfModel" (225 : Nat) "ImpactShelfModel" "over" "Z") ∈ LW := lw_in 965 (by decide +kernel) rfl
set_option maxRecDepth 20000 in
theorem wb_X9_take : ∀ w ∈ ([.instanceMethod yX9_take, .selects RX9 yX9_take yX9_take, .initialized RX9, .code yX9_take cX9_take 1 (some .int)] : List Cond), w ∈ LW := List.forall_mem_cons.mpr ⟨lw_in 1229 (by decide +kernel) rfl, List.forall_mem_cons.mpr ⟨lw_inS 55 (by decide +kernel) rfl, List.forall_mem_cons.mpr ⟨lw_in 10 (by decide +kernel) rfl, List.forall_mem_cons.mpr ⟨lw_in 1230 (by decide +kernel) rfl, fun _ h => absurd h List.not_mem_nil⟩⟩⟩⟩
set_option maxRecDepth 20000 in
theorem hy_X9_take : yX9_take.cls = RX9 ∧ yX9_take.cls ≠ "java/lang/invoke/MethodHandle" ∧ yX9_take.cls ≠ "java/lang/invoke/VarHandle" ∧ (parseMethodDescriptor yX9_take.desc).map (fun d => d.parameters.length) = some 0 := by decide +kernel
set_option maxRecDepth 20000 in
theorem wM_X9_229 : (Cond.methodLink "ImpactShelfModel" (229 : Nat) ({ cls := "ImpactShelfModel", name := "take", desc := "()I" } : MethodName)) ∈ LW := lw_in 1227 (by decide +kernel) rfl
set_option maxRecDepth 20000 in
theorem wb_X9_takeBits : ∀ w ∈ ([.instanceMethod yX9_takeBits, .selects RX9 yX9_takeBits yX9_takeBits, .initialized RX9, .code yX9_takeBits cX9_takeBits 5 none] : List Cond), w ∈ LW := List.forall_mem_cons.mpr ⟨lw_in 1247 (by decide +kernel) rfl, List.forall_mem_cons.mpr ⟨lw_inS 58 (by decide +kernel) rfl, List.forall_mem_cons.mpr ⟨lw_in 10 (by decide +kernel) rfl, List.forall_mem_cons.mpr ⟨lw_in 1248 (by decide +kernel) rfl, fun _ h => absurd h List.not_mem_nil⟩⟩⟩⟩
set_option maxRecDepth 20000 in
theorem hy_X9_takeBits : yX9_takeBits.cls = RX9 ∧ yX9_takeBits.cls ≠ "java/lang/invoke/MethodHandle" ∧ yX9_takeBits.cls ≠ "java/lang/invoke/VarHandle" ∧ (parseMethodDescriptor yX9_takeBits.desc).map (fun d => d.parameters.length) = some 1 := by decide +kernel
set_option maxRecDepth 20000 in
theorem wM_X9_236 : (Cond.methodLink "ImpactShelfModel" (236 : Nat) ({ cls := "ImpactShelfModel", name := "takeBits", desc := "(I)V" } : MethodName)) ∈ LW := lw_in 1245 (by decide +kernel) rfl
set_option maxRecDepth 20000 in
theorem wC_X9_232 : (Cond.constantLong "ImpactShelfModel" (232 : Nat) (15 : Int64)) ∈ LW := lw_in 1243 (by decide +kernel) rfl
set_option maxRecDepth 20000 in
theorem wC_X9_234 : (Cond.constantLong "ImpactShelfModel" (234 : Nat) (100 : Int64)) ∈ LW := lw_in 1244 (by decide +kernel) rfl
set_option maxRecDepth 20000 in
theorem wC_X9_246 : (Cond.constantLong "ImpactShelfModel" (246 : Nat) (97 : Int64)) ∈ LW := lw_in 1237 (by decide +kernel) rfl
set_option maxRecDepth 20000 in
theorem wC_X9_248 : (Cond.constantLong "ImpactShelfModel" (248 : Nat) (122 : Int64)) ∈ LW := lw_in 1238 (by decide +kernel) rfl
set_option maxRecDepth 20000 in
theorem wb_X9_takeGaps : ∀ w ∈ ([.instanceMethod yX9_takeGaps, .selects RX9 yX9_takeGaps yX9_takeGaps, .initialized RX9, .code yX9_takeGaps cX9_takeGaps 10 none] : List Cond), w ∈ LW := List.forall_mem_cons.mpr ⟨lw_in 1241 (by decide +kernel) rfl, List.forall_mem_cons.mpr ⟨lw_inS 57 (by decide +kernel) rfl, List.forall_mem_cons.mpr ⟨lw_in 10 (by decide +kernel) rfl, List.forall_mem_cons.mpr ⟨lw_in 1242 (by decide +kernel) rfl, fun _ h => absurd h List.not_mem_nil⟩⟩⟩⟩
set_option maxRecDepth 20000 in
theorem hy_X9_takeGaps : yX9_takeGaps.cls = RX9 ∧ yX9_takeGaps.cls ≠ "java/lang/invoke/MethodHandle" ∧ yX9_takeGaps.cls ≠ "java/lang/invoke/VarHandle" ∧ (parseMethodDescriptor yX9_takeGaps.desc).map (fun d => d.parameters.length) = some 2 := by decide +kernel
set_option maxRecDepth 20000 in
theorem wM_X9_250 : (Cond.methodLink "ImpactShelfModel" (250 : Nat) ({ cls := "ImpactShelfModel", name := "takeGaps", desc := "(II)V" } : MethodName)) ∈ LW := lw_in 1239 (by decide +kernel) rfl
set_option maxRecDepth 20000 in
theorem wC_X9_239 : (Cond.constantLong "ImpactShelfModel" (239 : Nat) (40 : Int64)) ∈ LW := lw_in 1231 (by decide +kernel) rfl
set_option maxRecDepth 20000 in
theorem wC_X9_241 : (Cond.constantLong "ImpactShelfModel" (241 : Nat) (64 : Int64)) ∈ LW := lw_in 1232 (by decide +kernel) rfl
set_option maxRecDepth 20000 in
theorem wb_X9_readsTerm : ∀ w ∈ ([.instanceMethod yX9_readsTerm, .selects RX9 yX9_readsTerm yX9_readsTerm, .initialized RX9, .code yX9_readsTerm cX9_readsTerm 11 (some .int)] : List Cond), w ∈ LW := List.forall_mem_cons.mpr ⟨lw_in 1235 (by decide +kernel) rfl, List.forall_mem_cons.mpr ⟨lw_inS 56 (by decide +kernel) rfl, List.forall_mem_cons.mpr ⟨lw_in 10 (by decide +kernel) rfl, List.forall_mem_cons.mpr ⟨lw_in 1236 (by decide +kernel) rfl, fun _ h => absurd h List.not_mem_nil⟩⟩⟩⟩
set_option maxRecDepth 20000 in
theorem hy_X9_readsTerm : yX9_readsTerm.cls = RX9 ∧ yX9_readsTerm.cls ≠ "java/lang/invoke/MethodHandle" ∧ yX9_readsTerm.cls ≠ "java/lang/invoke/VarHandle" ∧ (parseMethodDescriptor yX9_readsTerm.desc).map (fun d => d.parameters.length) = some 2 := by decide +kernel
set_option maxRecDepth 20000 in
theorem wM_X9_243 : (Cond.methodLink "ImpactShelfModel" (243 : Nat) ({ cls := "ImpactShelfModel", name := "readsTerm", desc := "(II)I" } : MethodName)) ∈ LW := lw_in 1233 (by decide +kernel) rfl
set_option maxRecDepth 20000 in
theorem wF_X9_49 : (Cond.fieldLink "ImpactShelfModel" (49 : Nat) "ImpactShelfModel" "kept" "[Z") ∈ LW := lw_in 957 (by decide +kernel) rfl
set_option maxRecDepth 20000 in
theorem wF_X9_46 : (Cond.fieldLink "ImpactShelfModel" (46 : Nat) "ImpactShelfModel" "generation" "[I") ∈ LW := lw_in 956 (by decide +kernel) rfl
set_option maxRecDepth 20000 in
theorem wF_X9_53 : (Cond.fieldLink "ImpactShelfModel" (53 : Nat) "ImpactShelfModel" "holds" "[I") ∈ LW := lw_in 959 (by decide +kernel) rfl
set_option maxRecDepth 20000 in
theorem wF_X9_257 : (Cond.fieldLink "ImpactShelfModel" (257 : Nat) "ImpactShelfModel" "latest" "I") ∈ LW := lw_in 958 (by decide +kernel) rfl
set_option maxRecDepth 20000 in
theorem wb_X9_copies : ∀ w ∈ ([.instanceMethod yX9_copies, .selects RX9 yX9_copies yX9_copies, .initialized RX9, .code yX9_copies cX9_copies 4 none] : List Cond), w ∈ LW := List.forall_mem_cons.mpr ⟨lw_in 1263 (by decide +kernel) rfl, List.forall_mem_cons.mpr ⟨lw_inS 62 (by decide +kernel) rfl, List.forall_mem_cons.mpr ⟨lw_in 10 (by decide +kernel) rfl, List.forall_mem_cons.mpr ⟨lw_in 1264 (by decide +kernel) rfl, fun _ h => absurd h List.not_mem_nil⟩⟩⟩⟩
set_option maxRecDepth 20000 in
theorem hy_X9_copies : yX9_copies.cls = RX9 ∧ yX9_copies.cls ≠ "java/lang/invoke/MethodHandle" ∧ yX9_copies.cls ≠ "java/lang/invoke/VarHandle" ∧ (parseMethodDescriptor yX9_copies.desc).map (fun d => d.parameters.length) = some 2 := by decide +kernel
set_option maxRecDepth 20000 in
theorem wM_X9_269 : (Cond.methodLink "ImpactShelfModel" (269 : Nat) ({ cls := "ImpactShelfModel", name := "copies", desc := "(II)V" } : MethodName)) ∈ LW := lw_in 1261 (by decide +kernel) rfl
set_option maxRecDepth 20000 in
theorem wb_X9_keptMany : ∀ w ∈ ([.instanceMethod yX9_keptMany, .selects RX9 yX9_keptMany yX9_keptMany, .initialized RX9, .code yX9_keptMany cX9_keptMany 3 (some .int)] : List Cond), w ∈ LW := List.forall_mem_cons.mpr ⟨lw_in 1259 (by decide +kernel) rfl, List.forall_mem_cons.mpr ⟨lw_inS 61 (by decide +kernel) rfl, List.forall_mem_cons.mpr ⟨lw_in 10 (by decide +kernel) rfl, List.forall_mem_cons.mpr ⟨lw_in 1260 (by decide +kernel) rfl, fun _ h => absurd h List.not_mem_nil⟩⟩⟩⟩
set_option maxRecDepth 20000 in
theorem hy_X9_keptMany : yX9_keptMany.cls = RX9 ∧ yX9_keptMany.cls ≠ "java/lang/invoke/MethodHandle" ∧ yX9_keptMany.cls ≠ "java/lang/invoke/VarHandle" ∧ (parseMethodDescriptor yX9_keptMany.desc).map (fun d => d.parameters.length) = some 0 := by decide +kernel
set_option maxRecDepth 20000 in
theorem wM_X9_266 : (Cond.methodLink "ImpactShelfModel" (266 : Nat) ({ cls := "ImpactShelfModel", name := "keptMany", desc := "()I" } : MethodName)) ∈ LW := lw_in 1257 (by decide +kernel) rfl
set_option maxRecDepth 20000 in
theorem wb_X9_isHeld : ∀ w ∈ ([.instanceMethod yX9_isHeld, .selects RX9 yX9_isHeld yX9_isHeld, .initialized RX9, .code yX9_isHeld cX9_isHeld 4 (some .boolean)] : List Cond), w ∈ LW := List.forall_mem_cons.mpr ⟨lw_in 1255 (by decide +kernel) rfl, List.forall_mem_cons.mpr ⟨lw_inS 60 (by decide +kernel) rfl, List.forall_mem_cons.mpr ⟨lw_in 10 (by decide +kernel) rfl, List.forall_mem_cons.mpr ⟨lw_in 1256 (by decide +kernel) rfl, fun _ h => absurd h List.not_mem_nil⟩⟩⟩⟩
set_option maxRecDepth 20000 in
theorem hy_X9_isHeld : yX9_isHeld.cls = RX9 ∧ yX9_isHeld.cls ≠ "java/lang/invoke/MethodHandle" ∧ yX9_isHeld.cls ≠ "java/lang/invoke/VarHandle" ∧ (parseMethodDescriptor yX9_isHeld.desc).map (fun d => d.parameters.length) = some 1 := by decide +kernel
set_option maxRecDepth 20000 in
theorem wM_X9_263 : (Cond.methodLink "ImpactShelfModel" (263 : Nat) ({ cls := "ImpactShelfModel", name := "isHeld", desc := "(I)Z" } : MethodName)) ∈ LW := lw_in 1253 (by decide +kernel) rfl
set_option maxRecDepth 20000 in
theorem wb_X9_slotOf : ∀ w ∈ ([.instanceMethod yX9_slotOf, .selects RX9 yX9_slotOf yX9_slotOf, .initialized RX9, .code yX9_slotOf cX9_slotOf 3 (some .int)] : List Cond), w ∈ LW := List.forall_mem_cons.mpr ⟨lw_in 1251 (by decide +kernel) rfl, List.forall_mem_cons.mpr ⟨lw_inS 59 (by decide +kernel) rfl, List.forall_mem_cons.mpr ⟨lw_in 10 (by decide +kernel) rfl, List.forall_mem_cons.mpr ⟨lw_in 1252 (by decide +kernel) rfl, fun _ h => absurd h List.not_mem_nil⟩⟩⟩⟩
set_option maxRecDepth 20000 in
theorem hy_X9_slotOf : yX9_slotOf.cls = RX9 ∧ yX9_slotOf.cls ≠ "java/lang/invoke/MethodHandle" ∧ yX9_slotOf.cls ≠ "java/lang/invoke/VarHandle" ∧ (parseMethodDescriptor yX9_slotOf.desc).map (fun d => d.parameters.length) = some 1 := by decide +kernel
set_option maxRecDepth 20000 in
theorem wM_X9_260 : (Cond.methodLink "ImpactShelfModel" (260 : Nat) ({ cls := "ImpactShelfModel", name := "slotOf", desc := "(I)I" } : MethodName)) ∈ LW := lw_in 1249 (by decide +kernel) rfl
set_option maxRecDepth 20000 in
theorem wb_X9_reads : ∀ w ∈ ([.instanceMethod yX9_reads, .selects RX9 yX9_reads yX9_reads, .initialized RX9, .code yX9_reads cX9_reads 5 (some .boolean)] : List Cond), w ∈ LW := List.forall_mem_cons.mpr ⟨lw_in 1225 (by decide +kernel) rfl, List.forall_mem_cons.mpr ⟨lw_inS 54 (by decide +kernel) rfl, List.forall_mem_cons.mpr ⟨lw_in 10 (by decide +kernel) rfl, List.forall_mem_cons.mpr ⟨lw_in 1226 (by decide +kernel) rfl, fun _ h => absurd h List.not_mem_nil⟩⟩⟩⟩
set_option maxRecDepth 20000 in
theorem hy_X9_reads : yX9_reads.cls = RX9 ∧ yX9_reads.cls ≠ "java/lang/invoke/MethodHandle" ∧ yX9_reads.cls ≠ "java/lang/invoke/VarHandle" ∧ (parseMethodDescriptor yX9_reads.desc).map (fun d => d.parameters.length) = some 0 := by decide +kernel
set_option maxRecDepth 20000 in
theorem wM_X9_253 : (Cond.methodLink "ImpactShelfModel" (253 : Nat) ({ cls := "ImpactShelfModel", name := "reads", desc := "()Z" } : MethodName)) ∈ LW := lw_in 1223 (by decide +kernel) rfl
set_option maxRecDepth 20000 in
theorem wb_X9_noReader : ∀ w ∈ ([.static yX9_noReader, .initialized yX9_noReader.cls, .code yX9_noReader cX9_noReader 1 (some .boolean)] : List Cond), w ∈ LW := List.forall_mem_cons.mpr ⟨lw_in 1270 (by decide +kernel) rfl, List.forall_mem_cons.mpr ⟨lw_in 10 (by decide +kernel) rfl, List.forall_mem_cons.mpr ⟨lw_in 1271 (by decide +kernel) rfl, fun _ h => absurd h List.not_mem_nil⟩⟩⟩
set_option maxRecDepth 20000 in
theorem hy_X9_noReader : yX9_noReader.cls ≠ "java/lang/invoke/MethodHandle" ∧ yX9_noReader.cls ≠ "java/lang/invoke/VarHandle" ∧ (parseMethodDescriptor yX9_noReader.desc).map (fun d => d.parameters.length) = some 1 := by decide +kernel
set_option maxRecDepth 20000 in
theorem wM_X9_272 : (Cond.methodLink "ImpactShelfModel" (272 : Nat) ({ cls := "ImpactShelfModel", name := "noReader", desc := "(I)Z" } : MethodName)) ∈ LW := lw_in 1269 (by decide +kernel) rfl
set_option maxRecDepth 20000 in
theorem wF_X9_65 : (Cond.fieldLink "ImpactShelfModel" (65 : Nat) "ImpactShelfModel" "asked" "[I") ∈ LW := lw_in 968 (by decide +kernel) rfl
set_option maxRecDepth 20000 in
theorem wF_X9_296 : (Cond.fieldLink "ImpactShelfModel" (296 : Nat) "ImpactShelfModel" "segments" "I") ∈ LW := lw_in 970 (by decide +kernel) rfl
set_option maxRecDepth 20000 in
theorem wF_X9_312 : (Cond.fieldLink "ImpactShelfModel" (312 : Nat) "ImpactShelfModel" "postingsAll" "I") ∈ LW := lw_in 973 (by decide +kernel) rfl
set_option maxRecDepth 20000 in
theorem wF_X9_281 : (Cond.fieldLink "ImpactShelfModel" (281 : Nat) "ImpactShelfModel" "askedTerms" "I") ∈ LW := lw_in 969 (by decide +kernel) rfl
set_option maxRecDepth 20000 in
theorem wF_X9_68 : (Cond.fieldLink "ImpactShelfModel" (68 : Nat) "ImpactShelfModel" "planTerm" "[I") ∈ LW := lw_in 976 (by decide +kernel) rfl
set_option maxRecDepth 20000 in
theorem wF_X9_71 : (Cond.fieldLink "ImpactShelfModel" (71 : Nat) "ImpactShelfModel" "planImpact" "[I") ∈ LW := lw_in 977 (by decide +kernel) rfl
set_option maxRecDepth 20000 in
theorem wF_X9_74 : (Cond.fieldLink "ImpactShelfModel" (74 : Nat) "ImpactShelfModel" "planSize" "[I") ∈ LW := lw_in 978 (by decide +kernel) rfl
set_option maxRecDepth 20000 in
theorem wF_X9_287 : (Cond.fieldLink "ImpactShelfModel" (287 : Nat) "ImpactShelfModel" "done" "I") ∈ LW := lw_in 971 (by decide +kernel) rfl
set_option maxRecDepth 20000 in
theorem wF_X9_77 : (Cond.fieldLink "ImpactShelfModel" (77 : Nat) "ImpactShelfModel" "sums" "[I") ∈ LW := lw_in 979 (by decide +kernel) rfl
set_option maxRecDepth 20000 in
theorem wF_X9_299 : (Cond.fieldLink "ImpactShelfModel" (299 : Nat) "ImpactShelfModel" "clock" "J") ∈ LW := lw_in 967 (by decide +kernel) rfl
set_option maxRecDepth 20000 in
theorem wF_X9_290 : (Cond.fieldLink "ImpactShelfModel" (290 : Nat) "ImpactShelfModel" "postingsDone" "I") ∈ LW := lw_in 972 (by decide +kernel) rfl
set_option maxRecDepth 20000 in
theorem wF_X9_309 : (Cond.fieldLink "ImpactShelfModel" (309 : Nat) "ImpactShelfModel" "hits" "I") ∈ LW := lw_in 975 (by decide +kernel) rfl
set_option maxRecDepth 20000 in
theorem wF_X9_80 : (Cond.fieldLink "ImpactShelfModel" (80 : Nat) "ImpactShelfModel" "hit" "[I") ∈ LW := lw_in 980 (by decide +kernel) rfl
set_option maxRecDepth 20000 in
theorem wF_X9_293 : (Cond.fieldLink "ImpactShelfModel" (293 : Nat) "ImpactShelfModel" "why" "I") ∈ LW := lw_in 974 (by decide +kernel) rfl
set_option maxRecDepth 20000 in
theorem wb_X9_works : ∀ w ∈ ([.instanceMethod yX9_works, .selects RX9 yX9_works yX9_works, .initialized RX9, .code yX9_works cX9_works 5 none] : List Cond), w ∈ LW := List.forall_mem_cons.mpr ⟨lw_in 1294 (by decide +kernel) rfl, List.forall_mem_cons.mpr ⟨lw_inS 66 (by decide +kernel) rfl, List.forall_mem_cons.mpr ⟨lw_in 10 (by decide +kernel) rfl, List.forall_mem_cons.mpr ⟨lw_in 1295 (by decide +kernel) rfl, fun _ h => absurd h List.not_mem_nil⟩⟩⟩⟩
set_option maxRecDepth 20000 in
theorem hy_X9_works : yX9_works.cls = RX9 ∧ yX9_works.cls ≠ "java/lang/invoke/MethodHandle" ∧ yX9_works.cls ≠ "java/lang/invoke/VarHandle" ∧ (parseMethodDescriptor yX9_works.desc).map (fun d => d.parameters.length) = some 1 := by decide +kernel
set_option maxRecDepth 20000 in
theorem wM_X9_303 : (Cond.methodLink "ImpactShelfModel" (303 : Nat) ({ cls := "ImpactShelfModel", name := "works", desc := "(I)V" } : MethodName)) ∈ LW := lw_in 1292 (by decide +kernel) rfl
set_option maxRecDepth 20000 in
theorem wb_X9_ranks : ∀ w ∈ ([.instanceMethod yX9_ranks, .selects RX9 yX9_ranks yX9_ranks, .initialized RX9, .code yX9_ranks cX9_ranks 5 none] : List Cond), w ∈ LW := List.forall_mem_cons.mpr ⟨lw_in 1298 (by decide +kernel) rfl, List.forall_mem_cons.mpr ⟨lw_inS 67 (by decide +kernel) rfl, List.forall_mem_cons.mpr ⟨lw_in 10 (by decide +kernel) rfl, List.forall_mem_cons.mpr ⟨lw_in 1299 (by decide +kernel) rfl, fun _ h => absurd h List.not_mem_nil⟩⟩⟩⟩
set_option maxRecDepth 20000 in
theorem hy_X9_ranks : yX9_ranks.cls = RX9 ∧ yX9_ranks.cls ≠ "java/lang/invoke/MethodHandle" ∧ yX9_ranks.cls ≠ "java/lang/invoke/VarHandle" ∧ (parseMethodDescriptor yX9_ranks.desc).map (fun d => d.parameters.length) = some 1 := by decide +kernel
set_option maxRecDepth 20000 in
theorem wM_X9_306 : (Cond.methodLink "ImpactShelfModel" (306 : Nat) ({ cls := "ImpactShelfModel", name := "ranks", desc := "(I)V" } : MethodName)) ∈ LW := lw_in 1296 (by decide +kernel) rfl
set_option maxRecDepth 20000 in
theorem wb_X9_plans : ∀ w ∈ ([.instanceMethod yX9_plans, .selects RX9 yX9_plans yX9_plans, .initialized RX9, .code yX9_plans cX9_plans 7 none] : List Cond), w ∈ LW := List.forall_mem_cons.mpr ⟨lw_in 1290 (by decide +kernel) rfl, List.forall_mem_cons.mpr ⟨lw_inS 65 (by decide +kernel) rfl, List.forall_mem_cons.mpr ⟨lw_in 10 (by decide +kernel) rfl, List.forall_mem_cons.mpr ⟨lw_in 1291 (by decide +kernel) rfl, fun _ h => absurd h List.not_mem_nil⟩⟩⟩⟩
set_option maxRecDepth 20000 in
theorem hy_X9_plans : yX9_plans.cls = RX9 ∧ yX9_plans.cls ≠ "java/lang/invoke/MethodHandle" ∧ yX9_plans.cls ≠ "java/lang/invoke/VarHandle" ∧ (parseMethodDescriptor yX9_plans.desc).map (fun d => d.parameters.length) = some 1 := by decide +kernel
set_option maxRecDepth 20000 in
theorem wM_X9_284 : (Cond.methodLink "ImpactShelfModel" (284 : Nat) ({ cls := "ImpactShelfModel", name := "plans", desc := "(I)V" } : MethodName)) ∈ LW := lw_in 1288 (by decide +kernel) rfl
set_option maxRecDepth 20000 in
theorem wb_X9_asks : ∀ w ∈ ([.instanceMethod yX9_asks, .selects RX9 yX9_asks yX9_asks, .initialized RX9, .code yX9_asks cX9_asks 5 (some .int)] : List Cond), w ∈ LW := List.forall_mem_cons.mpr ⟨lw_in 1286 (by decide +kernel) rfl, List.forall_mem_cons.mpr ⟨lw_inS 64 (by decide +kernel) rfl, List.forall_mem_cons.mpr ⟨lw_in 10 (by decide +kernel) rfl, List.forall_mem_cons.mpr ⟨lw_in 1287 (by decide +kernel) rfl, fun _ h => absurd h List.not_mem_nil⟩⟩⟩⟩
set_option maxRecDepth 20000 in
theorem hy_X9_asks : yX9_asks.cls = RX9 ∧ yX9_asks.cls ≠ "java/lang/invoke/MethodHandle" ∧ yX9_asks.cls ≠ "java/lang/invoke/VarHandle" ∧ (parseMethodDescriptor yX9_asks.desc).map (fun d => d.parameters.length) = some 2 := by decide +kernel
set_option maxRecDepth 20000 in
theorem wM_X9_278 : (Cond.methodLink "ImpactShelfModel" (278 : Nat) ({ cls := "ImpactShelfModel", name := "asks", desc := "(II)I" } : MethodName)) ∈ LW := lw_in 1284 (by decide +kernel) rfl
set_option maxRecDepth 20000 in
theorem wb_X9_countAsked : ∀ w ∈ ([.instanceMethod yX9_countAsked, .selects RX9 yX9_countAsked yX9_countAsked, .initialized RX9, .code yX9_countAsked cX9_countAsked 5 (some .int)] : List Cond), w ∈ LW := List.forall_mem_cons.mpr ⟨lw_in 1282 (by decide +kernel) rfl, List.forall_mem_cons.mpr ⟨lw_inS 63 (by decide +kernel) rfl, List.forall_mem_cons.mpr ⟨lw_in 10 (by decide +kernel) rfl, List.forall_mem_cons.mpr ⟨lw_in 1283 (by decide +kernel) rfl, fun _ h => absurd h List.not_mem_nil⟩⟩⟩⟩
set_option maxRecDepth 20000 in
theorem hy_X9_countAsked : yX9_countAsked.cls = RX9 ∧ yX9_countAsked.cls ≠ "java/lang/invoke/MethodHandle" ∧ yX9_countAsked.cls ≠ "java/lang/invoke/VarHandle" ∧ (parseMethodDescriptor yX9_countAsked.desc).map (fun d => d.parameters.length) = some 2 := by decide +kernel
set_option maxRecDepth 20000 in
theorem wM_X9_275 : (Cond.methodLink "ImpactShelfModel" (275 : Nat) ({ cls := "ImpactShelfModel", name := "countAsked", desc := "(II)I" } : MethodName)) ∈ LW := lw_in 1280 (by decide +kernel) rfl
set_option maxRecDepth 20000 in
theorem wC_X9_315 : (Cond.constantLong "ImpactShelfModel" (315 : Nat) (39 : Int64)) ∈ LW := lw_in 1308 (by decide +kernel) rfl
set_option maxRecDepth 20000 in
theorem wC_X9_317 : (Cond.constantLong "ImpactShelfModel" (317 : Nat) (5 : Int64)) ∈ LW := lw_in 1313 (by decide +kernel) rfl
set_option maxRecDepth 20000 in
theorem wC_X9_319 : (Cond.constantLong "ImpactShelfModel" (319 : Nat) (4 : Int64)) ∈ LW := lw_in 1326 (by decide +kernel) rfl
set_option maxRecDepth 20000 in
theorem wb_X9_postingsOf : ∀ w ∈ ([.instanceMethod yX9_postingsOf, .selects RX9 yX9_postingsOf yX9_postingsOf, .initialized RX9, .code yX9_postingsOf cX9_postingsOf 4 (some .int)] : List Cond), w ∈ LW := List.forall_mem_cons.mpr ⟨lw_in 1337 (by decide +kernel) rfl, List.forall_mem_cons.mpr ⟨lw_inS 68 (by decide +kernel) rfl, List.forall_mem_cons.mpr ⟨lw_in 10 (by decide +kernel) rfl, List.forall_mem_cons.mpr ⟨lw_in 1338 (by decide +kernel) rfl, fun _ h => absurd h List.not_mem_nil⟩⟩⟩⟩
set_option maxRecDepth 20000 in
theorem hy_X9_postingsOf : yX9_postingsOf.cls = RX9 ∧ yX9_postingsOf.cls ≠ "java/lang/invoke/MethodHandle" ∧ yX9_postingsOf.cls ≠ "java/lang/invoke/VarHandle" ∧ (parseMethodDescriptor yX9_postingsOf.desc).map (fun d => d.parameters.length) = some 1 := by decide +kernel
set_option maxRecDepth 20000 in
theorem wM_X9_321 : (Cond.methodLink "ImpactShelfModel" (321 : Nat) ({ cls := "ImpactShelfModel", name := "postingsOf", desc := "(I)I" } : MethodName)) ∈ LW := lw_in 1335 (by decide +kernel) rfl
set_option maxRecDepth 20000 in
theorem wb_X8_feed : ∀ w ∈ ([.instanceMethod yX8_feed, .selects RX8 yX8_feed yX8_feed, .initialized RX8, .code yX8_feed cX8_feed 5 (some .int)] : List Cond), w ∈ LW := List.forall_mem_cons.mpr ⟨lw_in 380 (by decide +kernel) rfl, List.forall_mem_cons.mpr ⟨lw_in 381 (by decide +kernel) rfl, List.forall_mem_cons.mpr ⟨lw_in 1 (by decide +kernel) rfl, List.forall_mem_cons.mpr ⟨lw_in 382 (by decide +kernel) rfl, fun _ h => absurd h List.not_mem_nil⟩⟩⟩⟩
set_option maxRecDepth 20000 in
theorem hy_X8_feed : yX8_feed.cls = RX8 ∧ yX8_feed.cls ≠ "java/lang/invoke/MethodHandle" ∧ yX8_feed.cls ≠ "java/lang/invoke/VarHandle" ∧ (parseMethodDescriptor yX8_feed.desc).map (fun d => d.parameters.length) = some 2 := by decide +kernel
set_option maxRecDepth 20000 in
theorem wM_L_7 : (Cond.methodLink "ImpactShelfLaw" (7 : Nat) ({ cls := "ImpactShelf", name := "feed", desc := "(IJ)I" } : MethodName)) ∈ LW := lw_in 379 (by decide +kernel) rfl
set_option maxRecDepth 20000 in
theorem wK_L_13 : (Cond.classLink "ImpactShelfLaw" (13 : Nat) "java/lang/IllegalArgumentException") ∈ LW := lw_in 377 (by decide +kernel) rfl
set_option maxRecDepth 20000 in
theorem wT_IllegalArgumentException : (Cond.castable "java/lang/IllegalArgumentException" "java/lang/IllegalArgumentException") ∈ NW := nw_in 385 (by decide +kernel) rfl
set_option maxRecDepth 20000 in
theorem wK_L_15 : (Cond.classLink "ImpactShelfLaw" (15 : Nat) "java/lang/IllegalStateException") ∈ LW := lw_in 378 (by decide +kernel) rfl
set_option maxRecDepth 20000 in
theorem wT_IllegalStateException : (Cond.castable "java/lang/IllegalStateException" "java/lang/IllegalStateException") ∈ NW := nw_in 448 (by decide +kernel) rfl
set_option maxRecDepth 20000 in
theorem wb_X8_add : ∀ w ∈ ([.instanceMethod yX8_add, .selects RX8 yX8_add yX8_add, .initialized RX8, .code yX8_add cX8_add 1 (some .int)] : List Cond), w ∈ LW := List.forall_mem_cons.mpr ⟨lw_in 466 (by decide +kernel) rfl, List.forall_mem_cons.mpr ⟨lw_in 467 (by decide +kernel) rfl, List.forall_mem_cons.mpr ⟨lw_in 1 (by decide +kernel) rfl, List.forall_mem_cons.mpr ⟨lw_in 468 (by decide +kernel) rfl, fun _ h => absurd h List.not_mem_nil⟩⟩⟩⟩
set_option maxRecDepth 20000 in
theorem hy_X8_add : yX8_add.cls = RX8 ∧ yX8_add.cls ≠ "java/lang/invoke/MethodHandle" ∧ yX8_add.cls ≠ "java/lang/invoke/VarHandle" ∧ (parseMethodDescriptor yX8_add.desc).map (fun d => d.parameters.length) = some 0 := by decide +kernel
set_option maxRecDepth 20000 in
theorem wM_L_17 : (Cond.methodLink "ImpactShelfLaw" (17 : Nat) ({ cls := "ImpactShelf", name := "add", desc := "()I" } : MethodName)) ∈ LW := lw_in 465 (by decide +kernel) rfl
set_option maxRecDepth 20000 in
theorem wb_X8_count : ∀ w ∈ ([.instanceMethod yX8_count, .selects RX8 yX8_count yX8_count, .initialized RX8, .code yX8_count cX8_count 2 (some .int)] : List Cond), w ∈ LW := List.forall_mem_cons.mpr ⟨lw_in 528 (by decide +kernel) rfl, List.forall_mem_cons.mpr ⟨lw_in 529 (by decide +kernel) rfl, List.forall_mem_cons.mpr ⟨lw_in 1 (by decide +kernel) rfl, List.forall_mem_cons.mpr ⟨lw_in 530 (by decide +kernel) rfl, fun _ h => absurd h List.not_mem_nil⟩⟩⟩⟩
set_option maxRecDepth 20000 in
theorem hy_X8_count : yX8_count.cls = RX8 ∧ yX8_count.cls ≠ "java/lang/invoke/MethodHandle" ∧ yX8_count.cls ≠ "java/lang/invoke/VarHandle" ∧ (parseMethodDescriptor yX8_count.desc).map (fun d => d.parameters.length) = some 1 := by decide +kernel
set_option maxRecDepth 20000 in
theorem wM_L_21 : (Cond.methodLink "ImpactShelfLaw" (21 : Nat) ({ cls := "ImpactShelf", name := "count", desc := "(I)I" } : MethodName)) ∈ LW := lw_in 527 (by decide +kernel) rfl
set_option maxRecDepth 20000 in
theorem wK_L_25 : (Cond.classLink "ImpactShelfLaw" (25 : Nat) "java/util/NoSuchElementException") ∈ LW := lw_in 526 (by decide +kernel) rfl
set_option maxRecDepth 20000 in
theorem wT_NoSuchElementException : (Cond.castable "java/util/NoSuchElementException" "java/util/NoSuchElementException") ∈ NW := nw_in 533 (by decide +kernel) rfl
set_option maxRecDepth 20000 in
theorem wb_X8_score : ∀ w ∈ ([.instanceMethod yX8_score, .selects RX8 yX8_score yX8_score, .initialized RX8, .code yX8_score cX8_score 2 (some .double)] : List Cond), w ∈ LW := List.forall_mem_cons.mpr ⟨lw_in 550 (by decide +kernel) rfl, List.forall_mem_cons.mpr ⟨lw_in 551 (by decide +kernel) rfl, List.forall_mem_cons.mpr ⟨lw_in 1 (by decide +kernel) rfl, List.forall_mem_cons.mpr ⟨lw_in 552 (by decide +kernel) rfl, fun _ h => absurd h List.not_mem_nil⟩⟩⟩⟩
set_option maxRecDepth 20000 in
theorem hy_X8_score : yX8_score.cls = RX8 ∧ yX8_score.cls ≠ "java/lang/invoke/MethodHandle" ∧ yX8_score.cls ≠ "java/lang/invoke/VarHandle" ∧ (parseMethodDescriptor yX8_score.desc).map (fun d => d.parameters.length) = some 1 := by decide +kernel
set_option maxRecDepth 20000 in
theorem wM_L_27 : (Cond.methodLink "ImpactShelfLaw" (27 : Nat) ({ cls := "ImpactShelf", name := "score", desc := "(I)D" } : MethodName)) ∈ LW := lw_in 549 (by decide +kernel) rfl
set_option maxRecDepth 20000 in
theorem wb_X8_build : ∀ w ∈ ([.instanceMethod yX8_build, .selects RX8 yX8_build yX8_build, .initialized RX8, .code yX8_build cX8_build 3 (some .int)] : List Cond), w ∈ LW := List.forall_mem_cons.mpr ⟨lw_in 574 (by decide +kernel) rfl, List.forall_mem_cons.mpr ⟨lw_in 575 (by decide +kernel) rfl, List.forall_mem_cons.mpr ⟨lw_in 1 (by decide +kernel) rfl, List.forall_mem_cons.mpr ⟨lw_in 576 (by decide +kernel) rfl, fun _ h => absurd h List.not_mem_nil⟩⟩⟩⟩
set_option maxRecDepth 20000 in
theorem hy_X8_build : yX8_build.cls = RX8 ∧ yX8_build.cls ≠ "java/lang/invoke/MethodHandle" ∧ yX8_build.cls ≠ "java/lang/invoke/VarHandle" ∧ (parseMethodDescriptor yX8_build.desc).map (fun d => d.parameters.length) = some 2 := by decide +kernel
set_option maxRecDepth 20000 in
theorem wM_L_31 : (Cond.methodLink "ImpactShelfLaw" (31 : Nat) ({ cls := "ImpactShelf", name := "build", desc := "(II)I" } : MethodName)) ∈ LW := lw_in 573 (by decide +kernel) rfl
set_option maxRecDepth 20000 in
theorem wb_X8_file : ∀ w ∈ ([.instanceMethod yX8_file, .selects RX8 yX8_file yX8_file, .initialized RX8, .code yX8_file cX8_file 2 (some .long)] : List Cond), w ∈ LW := List.forall_mem_cons.mpr ⟨lw_in 690 (by decide +kernel) rfl, List.forall_mem_cons.mpr ⟨lw_in 691 (by decide +kernel) rfl, List.forall_mem_cons.mpr ⟨lw_in 1 (by decide +kernel) rfl, List.forall_mem_cons.mpr ⟨lw_in 692 (by decide +kernel) rfl, fun _ h => absurd h List.not_mem_nil⟩⟩⟩⟩
set_option maxRecDepth 20000 in
theorem hy_X8_file : yX8_file.cls = RX8 ∧ yX8_file.cls ≠ "java/lang/invoke/MethodHandle" ∧ yX8_file.cls ≠ "java/lang/invoke/VarHandle" ∧ (parseMethodDescriptor yX8_file.desc).map (fun d => d.parameters.length) = some 1 := by decide +kernel
set_option maxRecDepth 20000 in
theorem wM_L_35 : (Cond.methodLink "ImpactShelfLaw" (35 : Nat) ({ cls := "ImpactShelf", name := "file", desc := "(I)J" } : MethodName)) ∈ LW := lw_in 689 (by decide +kernel) rfl
set_option maxRecDepth 20000 in
theorem wb_X8_spoil : ∀ w ∈ ([.instanceMethod yX8_spoil, .selects RX8 yX8_spoil yX8_spoil, .initialized RX8, .code yX8_spoil cX8_spoil 4 (some .int)] : List Cond), w ∈ LW := List.forall_mem_cons.mpr ⟨lw_in 706 (by decide +kernel) rfl, List.forall_mem_cons.mpr ⟨lw_in 707 (by decide +kernel) rfl, List.forall_mem_cons.mpr ⟨lw_in 1 (by decide +kernel) rfl, List.forall_mem_cons.mpr ⟨lw_in 708 (by decide +kernel) rfl, fun _ h => absurd h List.not_mem_nil⟩⟩⟩⟩
set_option maxRecDepth 20000 in
theorem hy_X8_spoil : yX8_spoil.cls = RX8 ∧ yX8_spoil.cls ≠ "java/lang/invoke/MethodHandle" ∧ yX8_spoil.cls ≠ "java/lang/invoke/VarHandle" ∧ (parseMethodDescriptor yX8_spoil.desc).map (fun d => d.parameters.length) = some 2 := by decide +kernel
set_option maxRecDepth 20000 in
theorem wM_L_39 : (Cond.methodLink "ImpactShelfLaw" (39 : Nat) ({ cls := "ImpactShelf", name := "spoil", desc := "(II)I" } : MethodName)) ∈ LW := lw_in 705 (by decide +kernel) rfl
set_option maxRecDepth 20000 in
theorem wb_X8_publish : ∀ w ∈ ([.instanceMethod yX8_publish, .selects RX8 yX8_publish yX8_publish, .initialized RX8, .code yX8_publish cX8_publish 2 (some .int)] : List Cond), w ∈ LW := List.forall_mem_cons.mpr ⟨lw_in 718 (by decide +kernel) rfl, List.forall_mem_cons.mpr ⟨lw_in 719 (by decide +kernel) rfl, List.forall_mem_cons.mpr ⟨lw_in 1 (by decide +kernel) rfl, List.forall_mem_cons.mpr ⟨lw_in 720 (by decide +kernel) rfl, fun _ h => absurd h List.not_mem_nil⟩⟩⟩⟩
set_option maxRecDepth 20000 in
theorem hy_X8_publish : yX8_publish.cls = RX8 ∧ yX8_publish.cls ≠ "java/lang/invoke/MethodHandle" ∧ yX8_publish.cls ≠ "java/lang/invoke/VarHandle" ∧ (parseMethodDescriptor yX8_publish.desc).map (fun d => d.parameters.length) = some 0 := by decide +kernel
set_option maxRecDepth 20000 in
theorem wM_L_42 : (Cond.methodLink "ImpactShelfLaw" (42 : Nat) ({ cls := "ImpactShelf", name := "publish", desc := "()I" } : MethodName)) ∈ LW := lw_in 717 (by decide +kernel) rfl
set_option maxRecDepth 20000 in
theorem wb_X8_open : ∀ w ∈ ([.instanceMethod yX8_open, .selects RX8 yX8_open yX8_open, .initialized RX8, .code yX8_open cX8_open 2 (some .int)] : List Cond), w ∈ LW := List.forall_mem_cons.mpr ⟨lw_in 806 (by decide +kernel) rfl, List.forall_mem_cons.mpr ⟨lw_in 807 (by decide +kernel) rfl, List.forall_mem_cons.mpr ⟨lw_in 1 (by decide +kernel) rfl, List.forall_mem_cons.mpr ⟨lw_in 808 (by decide +kernel) rfl, fun _ h => absurd h List.not_mem_nil⟩⟩⟩⟩
set_option maxRecDepth 20000 in
theorem hy_X8_open : yX8_open.cls = RX8 ∧ yX8_open.cls ≠ "java/lang/invoke/MethodHandle" ∧ yX8_open.cls ≠ "java/lang/invoke/VarHandle" ∧ (parseMethodDescriptor yX8_open.desc).map (fun d => d.parameters.length) = some 1 := by decide +kernel
set_option maxRecDepth 20000 in
theorem wM_L_45 : (Cond.methodLink "ImpactShelfLaw" (45 : Nat) ({ cls := "ImpactShelf", name := "open", desc := "(I)I" } : MethodName)) ∈ LW := lw_in 805 (by decide +kernel) rfl
set_option maxRecDepth 20000 in
theorem wb_X8_close : ∀ w ∈ ([.instanceMethod yX8_close, .selects RX8 yX8_close yX8_close, .initialized RX8, .code yX8_close cX8_close 2 (some .boolean)] : List Cond), w ∈ LW := List.forall_mem_cons.mpr ⟨lw_in 817 (by decide +kernel) rfl, List.forall_mem_cons.mpr ⟨lw_in 818 (by decide +kernel) rfl, List.forall_mem_cons.mpr ⟨lw_in 1 (by decide +kernel) rfl, List.forall_mem_cons.mpr ⟨lw_in 819 (by decide +kernel) rfl, fun _ h => absurd h List.not_mem_nil⟩⟩⟩⟩
set_option maxRecDepth 20000 in
theorem hy_X8_close : yX8_close.cls = RX8 ∧ yX8_close.cls ≠ "java/lang/invoke/MethodHandle" ∧ yX8_close.cls ≠ "java/lang/invoke/VarHandle" ∧ (parseMethodDescriptor yX8_close.desc).map (fun d => d.parameters.length) = some 1 := by decide +kernel
set_option maxRecDepth 20000 in
theorem wM_L_48 : (Cond.methodLink "ImpactShelfLaw" (48 : Nat) ({ cls := "ImpactShelf", name := "close", desc := "(I)Z" } : MethodName)) ∈ LW := lw_in 816 (by decide +kernel) rfl
set_option maxRecDepth 20000 in
theorem wb_X8_query : ∀ w ∈ ([.instanceMethod yX8_query, .selects RX8 yX8_query yX8_query, .initialized RX8, .code yX8_query cX8_query 7 (some .int)] : List Cond), w ∈ LW := List.forall_mem_cons.mpr ⟨lw_in 832 (by decide +kernel) rfl, List.forall_mem_cons.mpr ⟨lw_in 833 (by decide +kernel) rfl, List.forall_mem_cons.mpr ⟨lw_in 1 (by decide +kernel) rfl, List.forall_mem_cons.mpr ⟨lw_in 834 (by decide +kernel) rfl, fun _ h => absurd h List.not_mem_nil⟩⟩⟩⟩
set_option maxRecDepth 20000 in
theorem hy_X8_query : yX8_query.cls = RX8 ∧ yX8_query.cls ≠ "java/lang/invoke/MethodHandle" ∧ yX8_query.cls ≠ "java/lang/invoke/VarHandle" ∧ (parseMethodDescriptor yX8_query.desc).map (fun d => d.parameters.length) = some 4 := by decide +kernel
set_option maxRecDepth 20000 in
theorem wM_L_52 : (Cond.methodLink "ImpactShelfLaw" (52 : Nat) ({ cls := "ImpactShelf", name := "query", desc := "(IIIJ)I" } : MethodName)) ∈ LW := lw_in 831 (by decide +kernel) rfl
set_option maxRecDepth 20000 in
theorem wb_X8_hit : ∀ w ∈ ([.instanceMethod yX8_hit, .selects RX8 yX8_hit yX8_hit, .initialized RX8, .code yX8_hit cX8_hit 4 (some .int)] : List Cond), w ∈ LW := List.forall_mem_cons.mpr ⟨lw_in 884 (by decide +kernel) rfl, List.forall_mem_cons.mpr ⟨lw_in 885 (by decide +kernel) rfl, List.forall_mem_cons.mpr ⟨lw_in 1 (by decide +kernel) rfl, List.forall_mem_cons.mpr ⟨lw_in 886 (by decide +kernel) rfl, fun _ h => absurd h List.not_mem_nil⟩⟩⟩⟩
set_option maxRecDepth 20000 in
theorem hy_X8_hit : yX8_hit.cls = RX8 ∧ yX8_hit.cls ≠ "java/lang/invoke/MethodHandle" ∧ yX8_hit.cls ≠ "java/lang/invoke/VarHandle" ∧ (parseMethodDescriptor yX8_hit.desc).map (fun d => d.parameters.length) = some 2 := by decide +kernel
set_option maxRecDepth 20000 in
theorem wM_L_56 : (Cond.methodLink "ImpactShelfLaw" (56 : Nat) ({ cls := "ImpactShelf", name := "hit", desc := "(II)I" } : MethodName)) ∈ LW := lw_in 883 (by decide +kernel) rfl
set_option maxRecDepth 20000 in
theorem wb_X8_sum : ∀ w ∈ ([.instanceMethod yX8_sum, .selects RX8 yX8_sum yX8_sum, .initialized RX8, .code yX8_sum cX8_sum 2 (some .int)] : List Cond), w ∈ LW := List.forall_mem_cons.mpr ⟨lw_in 891 (by decide +kernel) rfl, List.forall_mem_cons.mpr ⟨lw_in 892 (by decide +kernel) rfl, List.forall_mem_cons.mpr ⟨lw_in 1 (by decide +kernel) rfl, List.forall_mem_cons.mpr ⟨lw_in 893 (by decide +kernel) rfl, fun _ h => absurd h List.not_mem_nil⟩⟩⟩⟩
set_option maxRecDepth 20000 in
theorem hy_X8_sum : yX8_sum.cls = RX8 ∧ yX8_sum.cls ≠ "java/lang/invoke/MethodHandle" ∧ yX8_sum.cls ≠ "java/lang/invoke/VarHandle" ∧ (parseMethodDescriptor yX8_sum.desc).map (fun d => d.parameters.length) = some 1 := by decide +kernel
set_option maxRecDepth 20000 in
theorem wM_L_59 : (Cond.methodLink "ImpactShelfLaw" (59 : Nat) ({ cls := "ImpactShelf", name := "sum", desc := "(I)I" } : MethodName)) ∈ LW := lw_in 890 (by decide +kernel) rfl
set_option maxRecDepth 20000 in
theorem wb_X8_last : ∀ w ∈ ([.instanceMethod yX8_last, .selects RX8 yX8_last yX8_last, .initialized RX8, .code yX8_last cX8_last 2 (some .int)] : List Cond), w ∈ LW := List.forall_mem_cons.mpr ⟨lw_in 898 (by decide +kernel) rfl, List.forall_mem_cons.mpr ⟨lw_in 899 (by decide +kernel) rfl, List.forall_mem_cons.mpr ⟨lw_in 1 (by decide +kernel) rfl, List.forall_mem_cons.mpr ⟨lw_in 900 (by decide +kernel) rfl, fun _ h => absurd h List.not_mem_nil⟩⟩⟩⟩
set_option maxRecDepth 20000 in
theorem hy_X8_last : yX8_last.cls = RX8 ∧ yX8_last.cls ≠ "java/lang/invoke/MethodHandle" ∧ yX8_last.cls ≠ "java/lang/invoke/VarHandle" ∧ (parseMethodDescriptor yX8_last.desc).map (fun d => d.parameters.length) = some 1 := by decide +kernel
set_option maxRecDepth 20000 in
theorem wM_L_62 : (Cond.methodLink "ImpactShelfLaw" (62 : Nat) ({ cls := "ImpactShelf", name := "last", desc := "(I)I" } : MethodName)) ∈ LW := lw_in 897 (by decide +kernel) rfl
set_option maxRecDepth 20000 in
theorem wb_X8_plan : ∀ w ∈ ([.instanceMethod yX8_plan, .selects RX8 yX8_plan yX8_plan, .initialized RX8, .code yX8_plan cX8_plan 3 (some .int)] : List Cond), w ∈ LW := List.forall_mem_cons.mpr ⟨lw_in 905 (by decide +kernel) rfl, List.forall_mem_cons.mpr ⟨lw_in 906 (by decide +kernel) rfl, List.forall_mem_cons.mpr ⟨lw_in 1 (by decide +kernel) rfl, List.forall_mem_cons.mpr ⟨lw_in 907 (by decide +kernel) rfl, fun _ h => absurd h List.not_mem_nil⟩⟩⟩⟩
set_option maxRecDepth 20000 in
theorem hy_X8_plan : yX8_plan.cls = RX8 ∧ yX8_plan.cls ≠ "java/lang/invoke/MethodHandle" ∧ yX8_plan.cls ≠ "java/lang/invoke/VarHandle" ∧ (parseMethodDescriptor yX8_plan.desc).map (fun d => d.parameters.length) = some 2 := by decide +kernel
set_option maxRecDepth 20000 in
theorem wM_L_65 : (Cond.methodLink "ImpactShelfLaw" (65 : Nat) ({ cls := "ImpactShelf", name := "plan", desc := "(II)I" } : MethodName)) ∈ LW := lw_in 904 (by decide +kernel) rfl
set_option maxRecDepth 20000 in
theorem wb_X8_look : ∀ w ∈ ([.instanceMethod yX8_look, .selects RX8 yX8_look yX8_look, .initialized RX8, .code yX8_look cX8_look 2 (some .int)] : List Cond), w ∈ LW := List.forall_mem_cons.mpr ⟨lw_in 912 (by decide +kernel) rfl, List.forall_mem_cons.mpr ⟨lw_in 913 (by decide +kernel) rfl, List.forall_mem_cons.mpr ⟨lw_in 1 (by decide +kernel) rfl, List.forall_mem_cons.mpr ⟨lw_in 914 (by decide +kernel) rfl, fun _ h => absurd h List.not_mem_nil⟩⟩⟩⟩
set_option maxRecDepth 20000 in
theorem hy_X8_look : yX8_look.cls = RX8 ∧ yX8_look.cls ≠ "java/lang/invoke/MethodHandle" ∧ yX8_look.cls ≠ "java/lang/invoke/VarHandle" ∧ (parseMethodDescriptor yX8_look.desc).map (fun d => d.parameters.length) = some 1 := by decide +kernel
set_option maxRecDepth 20000 in
theorem wM_L_68 : (Cond.methodLink "ImpactShelfLaw" (68 : Nat) ({ cls := "ImpactShelf", name := "look", desc := "(I)I" } : MethodName)) ∈ LW := lw_in 911 (by decide +kernel) rfl
set_option maxRecDepth 20000 in
theorem wb_X8_holds : ∀ w ∈ ([.instanceMethod yX8_holds, .selects RX8 yX8_holds yX8_holds, .initialized RX8, .code yX8_holds cX8_holds 2 (some .int)] : List Cond), w ∈ LW := List.forall_mem_cons.mpr ⟨lw_in 923 (by decide +kernel) rfl, List.forall_mem_cons.mpr ⟨lw_in 924 (by decide +kernel) rfl, List.forall_mem_cons.mpr ⟨lw_in 1 (by decide +kernel) rfl, List.forall_mem_cons.mpr ⟨lw_in 925 (by decide +kernel) rfl, fun _ h => absurd h List.not_mem_nil⟩⟩⟩⟩
set_option maxRecDepth 20000 in
theorem hy_X8_holds : yX8_holds.cls = RX8 ∧ yX8_holds.cls ≠ "java/lang/invoke/MethodHandle" ∧ yX8_holds.cls ≠ "java/lang/invoke/VarHandle" ∧ (parseMethodDescriptor yX8_holds.desc).map (fun d => d.parameters.length) = some 1 := by decide +kernel
set_option maxRecDepth 20000 in
theorem wM_L_71 : (Cond.methodLink "ImpactShelfLaw" (71 : Nat) ({ cls := "ImpactShelf", name := "holds", desc := "(I)I" } : MethodName)) ∈ LW := lw_in 922 (by decide +kernel) rfl
set_option maxRecDepth 20000 in
theorem wb_X8_index : ∀ w ∈ ([.instanceMethod yX8_index, .selects RX8 yX8_index yX8_index, .initialized RX8, .code yX8_index cX8_index 4 (some .int)] : List Cond), w ∈ LW := List.forall_mem_cons.mpr ⟨lw_in 930 (by decide +kernel) rfl, List.forall_mem_cons.mpr ⟨lw_in 931 (by decide +kernel) rfl, List.forall_mem_cons.mpr ⟨lw_in 1 (by decide +kernel) rfl, List.forall_mem_cons.mpr ⟨lw_in 932 (by decide +kernel) rfl, fun _ h => absurd h List.not_mem_nil⟩⟩⟩⟩
set_option maxRecDepth 20000 in
theorem hy_X8_index : yX8_index.cls = RX8 ∧ yX8_index.cls ≠ "java/lang/invoke/MethodHandle" ∧ yX8_index.cls ≠ "java/lang/invoke/VarHandle" ∧ (parseMethodDescriptor yX8_index.desc).map (fun d => d.parameters.length) = some 2 := by decide +kernel
set_option maxRecDepth 20000 in
theorem wM_L_74 : (Cond.methodLink "ImpactShelfLaw" (74 : Nat) ({ cls := "ImpactShelf", name := "index", desc := "(II)I" } : MethodName)) ∈ LW := lw_in 929 (by decide +kernel) rfl
