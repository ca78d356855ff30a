
/-! the law's frame: its words, its classes -/
set_option maxRecDepth 20000 in
theorem wK_L_8 : (Cond.classLink "ImpactShelfLaw" (8 : Nat) "ImpactShelf") ∈ LW := lw_in 20 (by decide +kernel) rfl
set_option maxRecDepth 20000 in
theorem wK_L_78 : (Cond.classLink "ImpactShelfLaw" (78 : Nat) "ImpactShelfModel") ∈ LW := lw_in 933 (by decide +kernel) rfl
set_option maxRecDepth 20000 in
theorem wN_X8 : (Cond.instantiable "ImpactShelf" (9 : Nat)) ∈ LW := lw_in 21 (by decide +kernel) rfl
set_option maxRecDepth 20000 in
theorem wN_X9 : (Cond.instantiable "ImpactShelfModel" (42 : Nat)) ∈ LW := lw_in 934 (by decide +kernel) rfl
set_option maxRecDepth 20000 in
theorem wI_X8 : (Cond.initialized "ImpactShelf") ∈ LW := lw_in 1 (by decide +kernel) rfl
set_option maxRecDepth 20000 in
theorem wI_X9 : (Cond.initialized "ImpactShelfModel") ∈ LW := lw_in 10 (by decide +kernel) rfl
set_option maxRecDepth 20000 in
theorem wM_L_77 : (Cond.methodLink "ImpactShelfLaw" (77 : Nat) ({ cls := "ImpactShelf", name := "<init>", desc := "()V" } : MethodName)) ∈ LW := lw_in 22 (by decide +kernel) rfl
set_option maxRecDepth 20000 in
theorem wM_L_80 : (Cond.methodLink "ImpactShelfLaw" (80 : Nat) ({ cls := "ImpactShelfModel", name := "<init>", desc := "()V" } : MethodName)) ∈ LW := lw_in 935 (by decide +kernel) rfl
set_option maxRecDepth 20000 in
theorem wb_X8_init : ∀ w ∈ ([.instanceMethod yX8_init, .initialized yX8_init.cls, .code yX8_init cX8_init 1 none] : List Cond), w ∈ LW := List.forall_mem_cons.mpr ⟨lw_in 23 (by decide +kernel) rfl, List.forall_mem_cons.mpr ⟨lw_in 1 (by decide +kernel) rfl, List.forall_mem_cons.mpr ⟨lw_in 24 (by decide +kernel) rfl, fun _ h => absurd h List.not_mem_nil⟩⟩⟩
set_option maxRecDepth 20000 in
theorem hy_X8_init : yX8_init.cls ≠ "java/lang/invoke/MethodHandle" ∧ yX8_init.cls ≠ "java/lang/invoke/VarHandle" ∧ (parseMethodDescriptor yX8_init.desc).map (fun d => d.parameters.length) = some 0 := by decide +kernel
set_option maxRecDepth 20000 in
theorem wb_X9_init : ∀ w ∈ ([.instanceMethod yX9_init, .initialized yX9_init.cls, .code yX9_init cX9_init 2 none] : List Cond), w ∈ LW := List.forall_mem_cons.mpr ⟨lw_in 936 (by decide +kernel) rfl, List.forall_mem_cons.mpr ⟨lw_in 10 (by decide +kernel) rfl, List.forall_mem_cons.mpr ⟨lw_in 937 (by decide +kernel) rfl, fun _ h => absurd h List.not_mem_nil⟩⟩⟩
set_option maxRecDepth 20000 in
theorem hy_X9_init : yX9_init.cls ≠ "java/lang/invoke/MethodHandle" ∧ yX9_init.cls ≠ "java/lang/invoke/VarHandle" ∧ (parseMethodDescriptor yX9_init.desc).map (fun d => d.parameters.length) = some 0 := by decide +kernel
theorem cx_K {args : Array Value} {s : State} (hts : ∀ w ∈ LW, w.before args s = true) (hAO : va_AO "ImpactShelf$Index" s) : ∃ (D : va_G) (cs : Nat → ClassId), va_K D vwCl (axT cs) s := by
  obtain ⟨c0, i0, k0⟩ := u_known (C := RX0) (T := TX0) (N := 3) (n := 3) hts inW_X0 (hts _ wN_X0)
  obtain ⟨c1, i1, k1⟩ := u_known (C := RX1) (T := TX1) (N := 10) (n := 10) hts inW_X1 (hts _ wN_X1)
  obtain ⟨c2, i2, k2⟩ := u_known (C := RX2) (T := TX2) (N := 2) (n := 2) hts inW_X2 (hts _ wN_X2)
  obtain ⟨c3, i3, k3⟩ := u_known (C := RX3) (T := TX3) (N := 5) (n := 5) hts inW_X3 (hts _ wN_X3)
  obtain ⟨c4, i4, k4⟩ := u_known (C := RX4) (T := TX4) (N := 10) (n := 10) hts inW_X4 (hts _ wN_X4)
  obtain ⟨c5, i5, k5⟩ := u_known (C := RX5) (T := TX5) (N := 2) (n := 2) hts inW_X5 (hts _ wN_X5)
  obtain ⟨c6, i6, k6⟩ := u_known (C := RX6) (T := TX6) (N := 16) (n := 16) hts inW_X6 (hts _ wN_X6)
  obtain ⟨c7, i7, k7⟩ := u_known (C := RX7) (T := TX7) (N := 4) (n := 4) hts inW_X7 (hts _ wN_X7)
  obtain ⟨c8, i8, k8⟩ := u_known (C := RX8) (T := TX8) (N := 9) (n := 9) hts inW_X8 (hts _ wN_X8)
  obtain ⟨c9, i9, k9⟩ := u_known (C := RX9) (T := TX9) (N := 42) (n := 42) hts inW_X9 (hts _ wN_X9)
  obtain ⟨a0, r0⟩ := arrP (ty := .byte) (fun C => FieldType.noConfusion) (hts _ wA_byte)
  obtain ⟨a1, r1⟩ := arrP (ty := .int) (fun C => FieldType.noConfusion) (hts _ wA_int)
  obtain ⟨a2, r2⟩ := arrP (ty := .long) (fun C => FieldType.noConfusion) (hts _ wA_long)
  obtain ⟨a3, r3⟩ := arrP (ty := .double) (fun C => FieldType.noConfusion) (hts _ wA_double)
  obtain ⟨a4, r4⟩ := arrP (ty := .boolean) (fun C => FieldType.noConfusion) (hts _ wA_boolean)
  obtain ⟨a5, r5⟩ := arrO hAO
  refine ⟨(fun k => match k with | 0 => c0 | 1 => c1 | 2 => c2 | 3 => c3 | 4 => c4 | 5 => c5 | 6 => c6 | 7 => c7 | 8 => c8 | _ => c9, fun k => match k with | 0 => i0 | 1 => i1 | 2 => i2 | 3 => i3 | 4 => i4 | 5 => i5 | 6 => i6 | 7 => i7 | 8 => i8 | _ => i9), fun k => match k with | 0 => a0 | 1 => a1 | 2 => a2 | 3 => a3 | 4 => a4 | _ => a5, ⟨fun k q hq => ?_, fun k q hq => ?_⟩⟩
  · match k, hq with
    | 0, hq => cases hq; exact k0
    | 1, hq => cases hq; exact k1
    | 2, hq => cases hq; exact k2
    | 3, hq => cases hq; exact k3
    | 4, hq => cases hq; exact k4
    | 5, hq => cases hq; exact k5
    | 6, hq => cases hq; exact k6
    | 7, hq => cases hq; exact k7
    | 8, hq => cases hq; exact k8
    | 9, hq => cases hq; exact k9
    | k + 10, hq => cases hq
  · match k, hq with
    | 0, hq => cases hq; exact r0
    | 1, hq => cases hq; exact r1
    | 2, hq => cases hq; exact r2
    | 3, hq => cases hq; exact r3
    | 4, hq => cases hq; exact r4
    | 5, hq => cases hq; exact r5
    | k + 6, hq => cases hq
theorem law_cx {p : Program} {e : Env} {s : State} {m : MethodId} {below : List Frame} {meth : Method} {c : Code} (l : Launch) {b L : Nat} {xs : Nat → Int32} (hl : l.stackTraces = false) (hnm : meth.name = "law") (C0 : lw_At p s m meth c b L xs) :
    ∃ (D : va_G) (cs : Nat → ClassId), CX (p, l, e, room_1, s, m, #[Value.ref b], below, meth, c, 9, D, (fun q : Nat => s.heap.size ≤ q), lw_Z below #[Value.ref b] s) l D cs code RL "law" 9 ret 11 434 601024 7293033 (lEC b) ∧ AS (p, l, e, room_1, s, m, #[Value.ref b], below, meth, c, 9, D, (fun q : Nat => s.heap.size ≤ q), lw_Z below #[Value.ref b] s) b L xs := by
  obtain ⟨hx, hb, hr, hml, hown, hts, hX, hbl, hlocks, hgv⟩ := id C0
  have hA : ∀ a : Nat, a < s.heap.size → ¬ (fun q : Nat => s.heap.size ≤ q) a := fun a h => Nat.not_le.mpr h
  have hN := cx_N hts hgv
  obtain ⟨D, cs, hK⟩ := cx_K (lw_sub hts) hN.2.2
  exact ⟨D, cs, ⟨⟨rfl, rfl, fun q h => h, rfl⟩, ⟨hx, hb, hml, hown, lw_sub hts⟩, ⟨hK, fun q h => h, cx_E hts hgv hA, ⟨hl, hN, rfl, rfl⟩, rfl⟩, hr, hlocks, rfl, hnm⟩, hX, hbl, Nat.not_le.mpr hbl⟩
