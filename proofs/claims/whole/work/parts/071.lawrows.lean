def R_law : String := "ImpactShelfLaw"
def lw_P (b : Addr) (xs : List Int32) (args : Array Value) (s : State) : Prop := args = #[.ref b] ∧ s.IntsAt b xs ∧ xs.length ≤ 3072 ∧ (Jvm.Cond.and given_1 narrow_1).before args s = true
def lw_Q (_ : Array Value) (s : State) (o : Outcome) (t : State) : Prop := o = .returned (some (.int 1)) ∧ Framed s o t [] 601024 7293033
def lw_Z (below : List Frame) (a : Array Value) (s : State) : State → Prop := fun t => ∃ o, t.status = .running ∧ Ended t below o ∧ lw_Q a s o t
/-- the law's own end, with 1 on the stack, nothing written that was there before, its room as the claim has it -/
theorem lw_ret {p : Program} {l : Launch} {e : Env} {s : State} {m : MethodId} {below : List Frame} {meth : Method} {c : Code} {b : Nat} (hx : p.tables.exec = Jvm.exec) (hb : c.code = code) (hr : meth.sig.returnType = ret) (hlocks : meth.locks = false) {pc : Nat} {H : Heap} {ls : Array Slot} (hdg : decode code pc = .ok (.ireturn, 1)) : W p l e room_1 s m #[Value.ref b] below meth c H [] 601024 7293033 (lw_Z below #[Value.ref b] s) (F0 m pc ls [.int 1]) := by
  intro T hT X
  obtain ⟨fs, hret, hrun, hended, hW, hframe⟩ := X.leave (v := some (.int 1)) (hlocks := hlocks) (fun h => by rw [hr] at h; cases h)
  have hmeth' : T.vm.method? m = some meth := X.method'
  refine ⟨T.setFrames fs, ?_, .returned (some (.int 1)), hrun, hended, rfl, ⟨_, rfl⟩, hW, hframe⟩
  jvm_step X.here [X.here.top, hx, hb, hdg, hmeth', hr, ret, narrow_b1]
  (try refine ⟨rfl, ?_⟩); (try refine ⟨rfl, ?_⟩)
  first | (intro acts; rw [hret _ acts rfl rfl rfl]) | rw [hret _ _ rfl rfl rfl]
  exact Steps.refl _
/-- what holds at the law's entry: the machine, the code, the tables' words (any of lw_tbl by 'hts w (by decide +kernel)'), the script of L ints xs at the cell b, what the Statement gives of the start (any of its parts by flat_of_before) -/
def lw_At (p : Program) (s : State) (m : MethodId) (meth : Method) (c : Code) (b L : Nat) (xs : Nat → Int32) : Prop :=
  p.tables.exec = Jvm.exec ∧ c.code = code ∧ meth.sig.returnType = ret ∧ c.maxLocals = 9 ∧ s.vm.findClass R_law = some m.cls ∧ (∀ w ∈ lw_tbl, w.before #[Value.ref b] s = true) ∧ va_X b L xs s s.heap ∧ b < s.heap.size ∧ meth.locks = false ∧ (Jvm.Cond.and given_1 narrow_1).before #[Value.ref b] s = true
/-- the law's end: true, nothing old written -/
def lEC (b : Nat) : XG → Prop := fun Γ =>
  match Γ with
  | (_, _, _, R, s, _, args, below, _, _, _, _, A, Q) => args = #[.ref b] ∧ Q = lw_Z below #[.ref b] s ∧ (∀ q, A q → s.heap.size ≤ q) ∧ R = room_1
def AS (Γ : XG) (b L : Nat) (xs : Nat → Int32) : Prop :=
  match Γ with
  | (_, _, _, _, s, _, _, _, _, _, _, _, A, _) => va_X b L xs s s.heap ∧ b < s.heap.size ∧ ¬ A b
section LAWR
variable {Γ : XG} {l9 : Launch} {D9 : va_G} {cs : Nat → ClassId} {cc : ByteArray} {own nm : String} {nl : Nat} {ret9 : Option FieldType} {fr lo mc ms : Nat} {EC : XG → Prop} {k n pc : Nat} {lv : List (Nat × Value)} {st : List Value} {ws : va_W}
theorem a_sld (C : CX Γ l9 D9 cs cc own nm nl ret9 fr lo mc ms EC) {b L : Nat} {xs : Nat → Int32} (hs : AS Γ b L xs) {i : Int32} (hin : vp_in i L) (hd : decode cc pc = .ok (.iaload, 1)) (kk : AW Γ k n (pc + 1) lv (.int (xs i.toNatClampNeg) :: st) ws) : AW Γ k n pc lv (.int i :: .ref b :: st) ws := by
  obtain ⟨p, l, e, R, s, m, args, below, meth, c, nL, D, A, Q⟩ := Γ
  obtain ⟨hEC, ⟨hx, hb, hml, hown, hts⟩, ⟨hK, hA, hE, ⟨hl0, hN, hl9, hD9⟩, hnl⟩, hr, hlk, hR, hnm⟩ := C
  intro ls H locs hl hP hD hS
  exact va_sld hx hb hs.1 hs.2.1 hs.2.2 hS hin hd (kk ls H locs hl hP hD hS)
theorem a_slen (C : CX Γ l9 D9 cs cc own nm nl ret9 fr lo mc ms EC) {b L : Nat} {xs : Nat → Int32} (hs : AS Γ b L xs) (hd : decode cc pc = .ok (.arraylength, 1)) (kk : AW Γ k n (pc + 1) lv (.int (Int32.ofNat L) :: st) ws) : AW Γ k n pc lv (.ref b :: st) ws := by
  obtain ⟨p, l, e, R, s, m, args, below, meth, c, nL, D, A, Q⟩ := Γ
  obtain ⟨hEC, ⟨hx, hb, hml, hown, hts⟩, ⟨hK, hA, hE, ⟨hl0, hN, hl9, hD9⟩, hnl⟩, hr, hlk, hR, hnm⟩ := C
  intro ls H locs hl hP hD hS
  exact va_slen hx hb hs.1 hs.2.1 hs.2.2 hS hd (kk ls H locs hl hP hD hS)
theorem a_lawret {b : Nat} (C : CX Γ l9 D9 cs code own nm nl ret fr lo mc ms (lEC b)) (hd : decode code pc = .ok (.ireturn, 1)) (hk : k ≤ 601024) (hn : n ≤ 7293033) : AW Γ k n pc lv [.int 1] ws := by
  obtain ⟨p, l, e, R, s, m, args, below, meth, c, nL, D, A, Q⟩ := Γ
  obtain ⟨hEC, ⟨hx, hb, hml, hown, hts⟩, ⟨hK, hA, hE, ⟨hl0, hN, hl9, hD9⟩, hnl⟩, hr, hlk, hR, hnm⟩ := C
  obtain ⟨rfl, rfl, hA2, rfl⟩ := hEC
  intro ls H locs hl hP hD hS
  refine va_forget (fun q hq => hA2 _ (hS.2.2 q hq)) ?_
  refine W.widen hk hn ?_
  exact lw_ret hx hb hr hlk hd
end LAWR
set_option maxHeartbeats 1000000 in
theorem a_callVn {Γ : XG} {l9 : Launch} {D9 : va_G} {cs : Nat → ClassId} {cc : ByteArray} {own nm : String} {nl : Nat} {ret : Option FieldType} {fr lo mc ms : Nat} {EC : XG → Prop} (C : CX Γ l9 D9 cs cc own nm nl ret fr lo mc ms EC) {k n pc : Nat} {lv : List (Nat × Value)} {st st0 : List Value} {ws : va_W} {y : MethodName} {cc1 : ByteArray} {nL1 : Nat} {ret1 : Option FieldType} {fr1 lo1 mc1 ms1 n1 idx : Nat} {av : List Value} {wc wr : va_W} {Φ1 : Option Value → va_W → Prop} {b q0 ci N : Nat} {C1 : String} {T9 : u_T} {fs : List Value} (hM : XMet l9 D9 cs y cc1 nL1 ret1 fr1 lo1 mc1 ms1 (.ref b :: av) wc Φ1 (fun _ _ => False)) (is ir : List Nat) (hC : is.map (fun i => ws[i]?) = wc.map some) (hR9 : ir.map (fun i => ws[i]?) = wr.map some) (hnc : va_nd is = true) (hnr : va_nd ir = true) (hdis : ∀ i ∈ ir, i ∉ is)
    (hw : Cond.methodLink own idx y ∈ LW) (hwb : ∀ w ∈ ([.instanceMethod y, .selects C1 y y, .initialized C1, .code y cc1 nL1 ret1] : List Cond), w ∈ LW) (hy : y.cls = C1 ∧ y.cls ≠ "java/lang/invoke/MethodHandle" ∧ y.cls ≠ "java/lang/invoke/VarHandle" ∧ (parseMethodDescriptor y.desc).map (fun d => d.parameters.length) = some n1)
    (he : ws[q0]? = some (b, .inr (ci, fs))) (hc : vwCl[ci]? = some (C1, T9, N)) (hlen : av.length = n1) (hrm : fr1 + 1 ≤ fr ∧ 8 + (nL1 + 11) + lo1 ≤ lo) (hcat : (st.map fun v => v.category).sum ≤ 8) (hk : k + mc1 ≤ mc) (hn : n + ms1 ≤ ms) (hst : st0 = av.reverse ++ .ref b :: st) (hd : decode cc pc = .ok (.invokevirtual idx, 3)) (kk : ∀ (v : Option Value) (w1 : va_W), Φ1 v w1 → AW Γ (k + mc1) (n + ms1) (pc + 3) lv (v.toList ++ st) (wr ++ w1))  : AW Γ k n pc lv st0 ws := by
  obtain ⟨p, l, e, R, s, m, args, below, meth, c, nL, D, A, Q⟩ := Γ
  obtain ⟨hEC, ⟨hx, hb, hml, hown, hts⟩, ⟨hK, hA, hE, ⟨hl0, hN, hl9, hD9⟩, hnl⟩, hr, hlk, hR, hnm⟩ := C
  subst hl9; subst hD9; subst hR
  intro ls H locs hl hP hD hS
  have hPc := hP.sub is (x_pick hC)
  have hDc := hD.sub is hnc hC
  have hF := va_free (wc := wc) hD hS hA is hC
  have hcode : Cond.code y cc1 nL1 ret1 ∈ LW := hwb _ (by simp)
  have run := va_runV (cells := k) (slots := n) (H := H) (locs := locs) (e := e) (below := below) (meth := meth) (As := av) (rest := st) (g := F0 m pc ls st0) (cc := cc) (nL := nL) (C := C1) (b := b) (R := { frames := fr, cells := mc, slots := ms, locals := lo }) ⟨hx, hb, hml, hown, hts⟩ (vx_toMet (fun E st t h => h.elim fun _ h => h.1) (hM hl0 H.size))
    (cwV n1 hts (good_LW (fun w hw9 => by
      rcases List.mem_append.mp hw9 with h9 | h9
      · rcases List.mem_cons.mp h9 with rfl | h9
        · exact hw
        · exact hwb w (by
            rcases List.mem_cons.mp h9 with rfl | h9
            · simp
            · rcases List.mem_cons.mp h9 with rfl | h9
              · simp
              · rcases List.mem_cons.mp h9 with rfl | h9
                · simp
                · cases h9)
      · rcases List.mem_cons.mp h9 with rfl | h9
        · exact hcode
        · exact h9)) rfl rfl rfl hy hrm) ⟨xblind, va_recv hK hP hc he, xpre (av := .ref b :: av) hK hE hN hS hPc hDc hF⟩ rfl hlen hl.1 hst (lv_room hcat) hd ⟨hk, hn⟩
  intro T hT X9
  obtain ⟨v, st₀, t, T', L, h0, X', hL, e1, e2, hq, go⟩ := run T hT X9
  exact x_back hl hP hD hS hA is ir hC hR9 hnr hdis kk h0 X' hL e1 hq go
