/-! calls, on light rows -/
theorem xblind {av : List Value} {wc : va_W} {D : va_G} {cs : Nat → ClassId} {sz : Nat} : FrameBlind (va_Pc av (fun U => U.heap.size = sz ∧ va_P D vwCl wc U.heap ∧ va_K D vwCl (axT cs) U ∧ va_D (fun _ => True) wc ∧ ax_E (va_A wc sz) U U.heap ∧ ax_N U)) := by
  intro a U g mk h
  obtain ⟨h0, h1, h2, h3, h4, h5, h6⟩ := h
  exact ⟨h0, h1, h2, va_K.moved (u := U) (U := U.calling g mk a) (Vm.Alike.refl U.vm) h3, h4, ax_E.moved (u := U) (U := U.calling g mk a) (Vm.Alike.refl U.vm) h5, ax_N.same (u := U) (U := U.calling g mk a) rfl h6⟩
theorem xpre {av : List Value} {wc : va_W} {D : va_G} {cs : Nat → ClassId} {A : Nat → Prop} {s : State} {H : Heap} {locs : List Loc} (hK : va_K D vwCl (axT cs) s) (hE : ax_E A s s.heap) (hN : ax_N s) (hS : va_S A s.heap H locs) (hPc : va_P D vwCl wc H) (hDc : va_D A wc) (hF : ∀ q, va_A wc H.size q → A q) :
    ∀ U : State, U.heap = H → s.WarmedH U.vm → va_Pc av (fun U => U.heap.size = H.size ∧ va_P D vwCl wc U.heap ∧ va_K D vwCl (axT cs) U ∧ va_D (fun _ => True) wc ∧ ax_E (va_A wc H.size) U U.heap ∧ ax_N U) av.toArray U := by
  intro U hU hW
  subst hU
  exact ⟨rfl, rfl, hPc, hK.moved hW.alike, hDc.weaken (fun _ _ _ _ => trivial), ((hE.kept hS.1 hS.2.1).narrow hF).moved hW.alike, hN.warm hW⟩
theorem x_pick {ws ws1 : va_W} {is : List Nat} (hs : is.map (fun i => ws[i]?) = ws1.map some) : is.filterMap (fun i => ws[i]?) = ws1 := by
  have := congrArg (List.filterMap id) hs
  simpa [List.filterMap_map, Function.comp_def] using this
theorem good_code {y : MethodName} {cc : ByteArray} {nL : Nat} {ret : Option FieldType} (h : Cond.code y cc nL ret ∈ LW) : GoodIn LW (Cond.code y cc nL ret :: LW) := good_LW (fun w hw => (List.mem_cons.mp hw).elim (fun e => by rw [e]; exact h) id)
section XCALL
variable {p : Program} {l : Launch} {e : Env} {R : Room} {s : State} {m : MethodId} {args : Array Value} {below : List Frame} {meth : Method} {c : Code} {H : Heap} {locs : List Loc} {k n : Nat} {Q : State → Prop} {nL : Nat} {D : va_G} {A : Nat → Prop}
/-- behind a call that returns: the caller's world again -/
theorem x_back {cs : Nat → ClassId} {ws wc wr : va_W} {mc1 ms1 pc : Nat} {lv : List (Nat × Value)} {ls : Array Slot} {st : List Value} {Φ1 : Option Value → va_W → Prop} {st₀ t T' : State} {L : List Loc} {v : Option Value} {T : State} {st0 : List Value} {a : Array Value}
    (hl : lv_has ls nL lv) (hP : va_P D vwCl ws H) (hD : va_D A ws) (hS : va_S A s.heap H locs) (hA : ∀ q, s.heap.size ≤ q → A q) (is ir : List Nat) (hC : is.map (fun i => ws[i]?) = wc.map some) (hR9 : ir.map (fun i => ws[i]?) = wr.map some) (hn : va_nd ir = true) (hdis : ∀ i ∈ ir, i ∉ is)
    (kk : ∀ (v : Option Value) (w1 : va_W), Φ1 v w1 → AW (p, l, e, R, s, m, args, below, meth, c, nL, D, A, Q) (k + mc1) (n + ms1) (pc + 3) lv (v.toList ++ st) (wr ++ w1))
    (h0 : st₀.heap = H) (X' : Stand p l e R s m args below meth c T' (locs ++ L) (k + mc1) (n + ms1)) (hL : ∀ q ∈ L, va_A wc H.size q.base) (e1 : T'.heap = t.heap) (hq : xq D cs Φ1 (va_A wc H.size) a st₀ (.returned v) t)
    (go : Goes p e below T (F0 m pc ls st0) T' (F0 m (pc + 3) ls (v.toList ++ st))) : ∃ t, Steps p.tables e below (T.setTop (F0 m pc ls st0)) t ∧ Q t := by
  obtain ⟨⟨v1, w1, hv, hΦ, hP1, hK1, hD1⟩, hF1⟩ := hq
  cases hv
  have hF := va_free (wc := wc) hD hS hA is hC
  obtain ⟨k1, k2, k3⟩ := vx_keep (A1 := va_A wc H.size) (free := va_A wc H.size) h0 e1 hS (fun q _ h => hF q h) hF hL hF1
  obtain ⟨hPj, hDj⟩ := va_join hP hD is ir hC hR9 hn hdis k2 hF (by rw [e1]; exact hP1) hD1
  obtain ⟨t2, a1, b1⟩ := kk v w1 hΦ ls T'.heap (locs ++ L) hl hPj hDj k3 T' rfl X'
  exact ⟨t2, go t2 a1, b1⟩
/-- behind a call that throws: the exception, in the caller's world -/
theorem x_thrown {cs : Nat → ClassId} {ws wc wr : va_W} {X1 : String → va_W → Prop} {st₀ t T' : State} {L : List Loc} {E : String}
    (hP : va_P D vwCl ws H) (hD : va_D A ws) (hS : va_S A s.heap H locs) (hA : ∀ q, s.heap.size ≤ q → A q) (is ir : List Nat) (hC : is.map (fun i => ws[i]?) = wc.map some) (hR9 : ir.map (fun i => ws[i]?) = wr.map some) (hn : va_nd ir = true) (hdis : ∀ i ∈ ir, i ∉ is)
    (h0 : st₀.heap = H) (hL : ∀ q ∈ L, va_A wc H.size q.base) (e1 : T'.heap = t.heap) (hx : xx D cs X1 (va_A wc H.size) E st₀ t) : ∃ w1 : va_W, X1 E w1 ∧ va_P D vwCl (wr ++ w1) T'.heap ∧ va_D A (wr ++ w1) ∧ va_S A s.heap T'.heap (locs ++ L) := by
  obtain ⟨w1, hX1, hP1, hK1, hD1, hF1⟩ := hx
  have hF := va_free (wc := wc) hD hS hA is hC
  obtain ⟨k1, k2, k3⟩ := vx_keep (A1 := va_A wc H.size) (free := va_A wc H.size) h0 e1 hS (fun q _ h => hF q h) hF hL hF1
  obtain ⟨hPj, hDj⟩ := va_join hP hD is ir hC hR9 hn hdis k2 hF (by rw [e1]; exact hP1) hD1
  exact ⟨w1, hX1, hPj, hDj, k3⟩
end XCALL
theorem vx_toMet {l : Launch} {y : MethodName} {ws : List Cond} {rm : Room} {Pc : Array Value → State → Prop} {Qc : Array Value → State → Outcome → State → Prop} {XC : String → State → State → Prop} {mc ms : Nat} {free : Addr → Prop} (hX : ∀ E st t, ¬ XC E st t) (h : vx_Met l y ws rm Pc Qc XC mc ms free) : Met l y ws rm Pc Qc mc ms free := by
  intro p e h1 h2 h3 s m args below h4 h5 h6 h7
  obtain ⟨n, o, g1, g2, g3, g4⟩ := h p e h1 h2 h3 s m args below h4 h5 h6 h7
  refine ⟨n, o, g1, g2, g3, ?_⟩
  rcases g4 with g | ⟨q, _, E, ce, L, hx, _⟩
  · exact g
  · exact (hX _ _ _ hx).elim
set_option maxHeartbeats 1000000 in
theorem a_callV {Γ : XG} {l9 : Launch} {D9 : va_G} {cs : Nat → ClassId} {cc : ByteArray} {own nm : String} {nl : Nat} {ret : Option FieldType} {fr lo mc ms : Nat} {Φ : Option Value → va_W → Prop} {X : String → va_W → Prop} (C : CX Γ l9 D9 cs cc own nm nl ret fr lo mc ms (qEC cs mc ms [] Φ X)) {k n pc : Nat} {lv : List (Nat × Value)} {st st0 : List Value} {ws : va_W} {y : MethodName} {cc1 : ByteArray} {nL1 : Nat} {ret1 : Option FieldType} {fr1 lo1 mc1 ms1 n1 idx : Nat} {av : List Value} {wc wr : va_W} {Φ1 : Option Value → va_W → Prop} {X1 : String → va_W → Prop} {b q0 ci N : Nat} {C1 : String} {T9 : u_T} {fs : List Value} (hM : XMet l9 D9 cs y cc1 nL1 ret1 fr1 lo1 mc1 ms1 (.ref b :: av) wc Φ1 X1) (is ir : List Nat) (hC : is.map (fun i => ws[i]?) = wc.map some) (hR9 : ir.map (fun i => ws[i]?) = wr.map some) (hnc : va_nd is = true) (hnr : va_nd ir = true) (hdis : ∀ i ∈ ir, i ∉ is)
    (hw : Cond.methodLink own idx y ∈ LW) (hwb : ∀ w ∈ ([.instanceMethod y, .selects C1 y y, .initialized C1, .code y cc1 nL1 ret1] : List Cond), w ∈ LW) (hy : y.cls = C1 ∧ y.cls ≠ "java/lang/invoke/MethodHandle" ∧ y.cls ≠ "java/lang/invoke/VarHandle" ∧ (parseMethodDescriptor y.desc).map (fun d => d.parameters.length) = some n1)
    (he : ws[q0]? = some (b, .inr (ci, fs))) (hc : vwCl[ci]? = some (C1, T9, N)) (hlen : av.length = n1) (hrm : fr1 + 1 ≤ fr ∧ 8 + (nL1 + 11) + lo1 ≤ lo) (hcat : (st.map fun v => v.category).sum ≤ 8) (hk : k + mc1 ≤ mc) (hn : n + ms1 ≤ ms) (hst : st0 = av.reverse ++ .ref b :: st) (hd : decode cc pc = .ok (.invokevirtual idx, 3)) (kk : ∀ (v : Option Value) (w1 : va_W), Φ1 v w1 → AW Γ (k + mc1) (n + ms1) (pc + 3) lv (v.toList ++ st) (wr ++ w1)) (it : List Nat) (hit : va_nd it = true) (kx : ∀ (E : String) (w1 : va_W), X1 E w1 → ∃ w2 : va_W, it.map (fun i => (wr ++ w1)[i]?) = w2.map some ∧ X E w2) : AW Γ k n pc lv st0 ws := by
  obtain ⟨p, l, e, R, s, m, args, below, meth, c, nL, D, A, Q⟩ := Γ
  obtain ⟨hEC, ⟨hx, hb, hml, hown, hts⟩, ⟨hK, hA, hE, ⟨hl0, hN, hl9, hD9⟩, hnl⟩, hr, hlk, hR, hnm⟩ := C
  subst hl9; subst hD9; subst hR
  intro ls H locs hl hP hD hS
  have hPc := hP.sub is (x_pick hC)
  have hDc := hD.sub is hnc hC
  have hF := va_free (wc := wc) hD hS hA is hC
  have hcode : Cond.code y cc1 nL1 ret1 ∈ LW := hwb _ (by simp)
  have run := vx_runV (cells := k) (slots := n) (H := H) (locs := locs) (e := e) (below := below) (meth := meth) (As := av) (rest := st) (g := F0 m pc ls st0) (cc := cc) (nL := nL) (C := C1) (b := b) (R := { frames := fr, cells := mc, slots := ms, locals := lo }) ⟨hx, hb, hml, hown, hts⟩ (hM hl0 H.size)
    (cwV n1 hts (good_LW (fun w hw9 => by
      rcases List.mem_append.mp hw9 with h9 | h9
      · rcases List.mem_cons.mp h9 with rfl | h9
        · exact hw
        · exact hwb w (by
            rcases List.mem_cons.mp h9 with rfl | h9
            · simp
            · rcases List.mem_cons.mp h9 with rfl | h9
              · simp
              · rcases List.mem_cons.mp h9 with rfl | h9
                · simp
                · cases h9)
      · rcases List.mem_cons.mp h9 with rfl | h9
        · exact hcode
        · exact h9)) rfl rfl rfl hy hrm) ⟨xblind, va_recv hK hP hc he, xpre (av := .ref b :: av) hK hE hN hS hPc hDc hF⟩ rfl hlen hl.1 hst (lv_room hcat) hd ⟨hk, hn⟩
  intro T hT X9
  rcases run T hT X9 with ⟨v, st₀, t, T', L, h0, X', hL, e1, e2, hq, go⟩ | ⟨q, st₀, t, T', L, E, ce, h0, X', hL, e1, e2, hx1, hce, hcv, hcl, go⟩
  · exact x_back hl hP hD hS hA is ir hC hR9 hnr hdis kk h0 X' hL e1 hq go
  · obtain ⟨w1, hX1, hPj, hDj, hSj⟩ := x_thrown hP hD hS hA is ir hC hR9 hnr hdis h0 hL e1 hx1
    obtain ⟨w2, hi2, hX2⟩ := kx E w1 hX1
    obtain ⟨hQ, htb⟩ := hEC
    subst hQ
    obtain ⟨t2, a1, b1⟩ := vx_out (XC := xx D cs X A) (Qc := xq D cs Φ A) (free := A) (args := args) (below := below) (l := l) (e := e) (R := { frames := fr, cells := mc, slots := ms, locals := lo }) (cells := k + mc1) (slots := n + ms1) (mc := mc) (ms := ms) (ls := ls) (pc := pc) (rest := st) (fun x hx => by rw [htb] at hx; cases hx) hlk (by rw [e1]; exact hce) hcv hcl (fun t9 ht9 hvm => ⟨w2, hX2, by rw [ht9]; exact hPj.sub it (x_pick hi2), va_K.moved hvm hK, hDj.sub it hit hi2, hSj.F ht9⟩) hSj.2.2 hk hn T' rfl X'
    exact ⟨t2, go.trans a1, b1⟩
set_option maxHeartbeats 1000000 in
theorem a_callVc {Γ : XG} {l9 : Launch} {D9 : va_G} {cs : Nat → ClassId} {cc : ByteArray} {own nm : String} {nl : Nat} {ret : Option FieldType} {fr lo mc ms : Nat} {tb : List ExceptionTableEntry} {Φ : Option Value → va_W → Prop} {X : String → va_W → Prop} (C : CX Γ l9 D9 cs cc own nm nl ret fr lo mc ms (qEC cs mc ms tb Φ X)) {k n pc : Nat} {lv : List (Nat × Value)} {st st0 : List Value} {ws : va_W} {y : MethodName} {cc1 : ByteArray} {nL1 : Nat} {ret1 : Option FieldType} {fr1 lo1 mc1 ms1 n1 idx : Nat} {av : List Value} {wc wr : va_W} {Φ1 : Option Value → va_W → Prop} {X1 : String → va_W → Prop} {b q0 ci N : Nat} {C1 : String} {T9 : u_T} {fs : List Value} (hM : XMet l9 D9 cs y cc1 nL1 ret1 fr1 lo1 mc1 ms1 (.ref b :: av) wc Φ1 X1) (is ir : List Nat) (hC : is.map (fun i => ws[i]?) = wc.map some) (hR9 : ir.map (fun i => ws[i]?) = wr.map some) (hnc : va_nd is = true) (hnr : va_nd ir = true) (hdis : ∀ i ∈ ir, i ∉ is)
    (hw : Cond.methodLink own idx y ∈ LW) (hwb : ∀ w ∈ ([.instanceMethod y, .selects C1 y y, .initialized C1, .code y cc1 nL1 ret1] : List Cond), w ∈ LW) (hy : y.cls = C1 ∧ y.cls ≠ "java/lang/invoke/MethodHandle" ∧ y.cls ≠ "java/lang/invoke/VarHandle" ∧ (parseMethodDescriptor y.desc).map (fun d => d.parameters.length) = some n1)
    (he : ws[q0]? = some (b, .inr (ci, fs))) (hc : vwCl[ci]? = some (C1, T9, N)) (hlen : av.length = n1) (hrm : fr1 + 1 ≤ fr ∧ 8 + (nL1 + 11) + lo1 ≤ lo) (hcat : (st.map fun v => v.category).sum ≤ 8) (hk : k + mc1 ≤ mc) (hn : n + ms1 ≤ ms) (hst : st0 = av.reverse ++ .ref b :: st) (hd : decode cc pc = .ok (.invokevirtual idx, 3)) (kk : ∀ (v : Option Value) (w1 : va_W), Φ1 v w1 → AW Γ (k + mc1) (n + ms1) (pc + 3) lv (v.toList ++ st) (wr ++ w1)) (kx : ∀ (E : String) (w1 : va_W), X1 E w1 → ∃ (pre : List ExceptionTableEntry) (x : ExceptionTableEntry) (suf : List ExceptionTableEntry) (name : String), tb = pre ++ x :: suf ∧ (∀ z ∈ pre, covers z pc = false ∨ (z.catchType ≠ 0 ∧ ∃ nm : String, Cond.classLink own z.catchType nm ∈ LW ∧ (E, nm) ∈ NC)) ∧ covers x pc = true ∧ x.catchType ≠ 0 ∧ Cond.classLink own x.catchType name ∈ LW ∧ Cond.castable E name ∈ NW ∧ ∀ q : Nat, AW Γ (k + mc1) (n + ms1) x.handlerPc lv [.ref q] (wr ++ w1)) : AW Γ k n pc lv st0 ws := by
  obtain ⟨p, l, e, R, s, m, args, below, meth, c, nL, D, A, Q⟩ := Γ
  obtain ⟨hEC, ⟨hx, hb, hml, hown, hts⟩, ⟨hK, hA, hE, ⟨hl0, hN, hl9, hD9⟩, hnl⟩, hr, hlk, hR, hnm⟩ := C
  subst hl9; subst hD9; subst hR
  intro ls H locs hl hP hD hS
  have hPc := hP.sub is (x_pick hC)
  have hDc := hD.sub is hnc hC
  have hF := va_free (wc := wc) hD hS hA is hC
  have hcode : Cond.code y cc1 nL1 ret1 ∈ LW := hwb _ (by simp)
  have run := vx_runV (cells := k) (slots := n) (H := H) (locs := locs) (e := e) (below := below) (meth := meth) (As := av) (rest := st) (g := F0 m pc ls st0) (cc := cc) (nL := nL) (C := C1) (b := b) (R := { frames := fr, cells := mc, slots := ms, locals := lo }) ⟨hx, hb, hml, hown, hts⟩ (hM hl0 H.size)
    (cwV n1 hts (good_LW (fun w hw9 => by
      rcases List.mem_append.mp hw9 with h9 | h9
      · rcases List.mem_cons.mp h9 with rfl | h9
        · exact hw
        · exact hwb w (by
            rcases List.mem_cons.mp h9 with rfl | h9
            · simp
            · rcases List.mem_cons.mp h9 with rfl | h9
              · simp
              · rcases List.mem_cons.mp h9 with rfl | h9
                · simp
                · cases h9)
      · rcases List.mem_cons.mp h9 with rfl | h9
        · exact hcode
        · exact h9)) rfl rfl rfl hy hrm) ⟨xblind, va_recv hK hP hc he, xpre (av := .ref b :: av) hK hE hN hS hPc hDc hF⟩ rfl hlen hl.1 hst (lv_room hcat) hd ⟨hk, hn⟩
  intro T hT X9
  rcases run T hT X9 with ⟨v, st₀, t, T', L, h0, X', hL, e1, e2, hq, go⟩ | ⟨q, st₀, t, T', L, E, ce, h0, X', hL, e1, e2, hx1, hce, hcv, hcl, go⟩
  · exact x_back hl hP hD hS hA is ir hC hR9 hnr hdis kk h0 X' hL e1 hq go
  · obtain ⟨w1, hX1, hPj, hDj, hSj⟩ := x_thrown hP hD hS hA is ir hC hR9 hnr hdis h0 hL e1 hx1
    obtain ⟨pre, x, suf, name, hsp, hpass, hcov, hct, hlk9, hcast, kq⟩ := kx E w1 hX1
    obtain ⟨hQ, htb⟩ := hEC
    obtain ⟨t2, a1, b1⟩ := vx_catch (pc := pc) (rest := st) (ls := ls) (p := p) (l := l) (e := e) (R := { frames := fr, cells := mc, slots := ms, locals := lo }) (below := below) (meth := meth) (cells := k + mc1) (slots := n + ms1) (Q := Q) hown pre x suf (htb.trans hsp)
      (fun z hz => (hpass z hz).elim Or.inl (fun h9 => Or.inr ⟨h9.1, h9.2.elim (fun nm h8 => ⟨nm, hts _ h8.1, hN.2.1 _ h8.2⟩)⟩)) hcov hct (hts _ hlk9) ((hN.1 _ hcast).use rfl) (by rw [e1]; exact hce) hcv hcl (kq q ls T'.heap (locs ++ L) hl hPj hDj hSj) T' rfl X'
    exact ⟨t2, go.trans a1, b1⟩
set_option maxHeartbeats 1000000 in
theorem a_callS {Γ : XG} {l9 : Launch} {D9 : va_G} {cs : Nat → ClassId} {cc : ByteArray} {own nm : String} {nl : Nat} {ret : Option FieldType} {fr lo mc ms : Nat} {Φ : Option Value → va_W → Prop} {X : String → va_W → Prop} (C : CX Γ l9 D9 cs cc own nm nl ret fr lo mc ms (qEC cs mc ms [] Φ X)) {k n pc : Nat} {lv : List (Nat × Value)} {st st0 : List Value} {ws : va_W} {y : MethodName} {cc1 : ByteArray} {nL1 : Nat} {ret1 : Option FieldType} {fr1 lo1 mc1 ms1 n1 idx : Nat} {av : List Value} {wc wr : va_W} {Φ1 : Option Value → va_W → Prop} {X1 : String → va_W → Prop} (hM : XMet l9 D9 cs y cc1 nL1 ret1 fr1 lo1 mc1 ms1 av wc Φ1 X1) (is ir : List Nat) (hC : is.map (fun i => ws[i]?) = wc.map some) (hR9 : ir.map (fun i => ws[i]?) = wr.map some) (hnc : va_nd is = true) (hnr : va_nd ir = true) (hdis : ∀ i ∈ ir, i ∉ is)
    (hw : Cond.methodLink own idx y ∈ LW) (hwb : ∀ w ∈ ([.static y, .initialized y.cls, .code y cc1 nL1 ret1] : List Cond), w ∈ LW) (hy : y.cls ≠ "java/lang/invoke/MethodHandle" ∧ y.cls ≠ "java/lang/invoke/VarHandle" ∧ (parseMethodDescriptor y.desc).map (fun d => d.parameters.length) = some n1)
    (hlen : av.length = n1) (hrm : fr1 + 1 ≤ fr ∧ 8 + (nL1 + 11) + lo1 ≤ lo) (hcat : (st.map fun v => v.category).sum ≤ 8) (hk : k + mc1 ≤ mc) (hn : n + ms1 ≤ ms) (hst : st0 = av.reverse ++ st) (hd : decode cc pc = .ok (.invokestatic idx, 3)) (kk : ∀ (v : Option Value) (w1 : va_W), Φ1 v w1 → AW Γ (k + mc1) (n + ms1) (pc + 3) lv (v.toList ++ st) (wr ++ w1)) (it : List Nat) (hit : va_nd it = true) (kx : ∀ (E : String) (w1 : va_W), X1 E w1 → ∃ w2 : va_W, it.map (fun i => (wr ++ w1)[i]?) = w2.map some ∧ X E w2) : AW Γ k n pc lv st0 ws := by
  obtain ⟨p, l, e, R, s, m, args, below, meth, c, nL, D, A, Q⟩ := Γ
  obtain ⟨hEC, ⟨hx, hb, hml, hown, hts⟩, ⟨hK, hA, hE, ⟨hl0, hN, hl9, hD9⟩, hnl⟩, hr, hlk, hR, hnm⟩ := C
  subst hl9; subst hD9; subst hR
  intro ls H locs hl hP hD hS
  have hPc := hP.sub is (x_pick hC)
  have hDc := hD.sub is hnc hC
  have hF := va_free (wc := wc) hD hS hA is hC
  have hcode : Cond.code y cc1 nL1 ret1 ∈ LW := hwb _ (by simp)
  have run := vx_runS (cells := k) (slots := n) (H := H) (locs := locs) (e := e) (below := below) (meth := meth) (As := av) (rest := st) (g := F0 m pc ls st0) (cc := cc) (nL := nL) (R := { frames := fr, cells := mc, slots := ms, locals := lo }) ⟨hx, hb, hml, hown, hts⟩ (hM hl0 H.size)
    (va_cwS n1 hts (good_LW (fun w hw9 => by
      rcases List.mem_append.mp hw9 with h9 | h9
      · rcases List.mem_cons.mp h9 with rfl | h9
        · exact hw
        · exact hwb w (by
            rcases List.mem_cons.mp h9 with rfl | h9
            · simp
            · rcases List.mem_cons.mp h9 with rfl | h9
              · simp
              · cases h9)
      · rcases List.mem_cons.mp h9 with rfl | h9
        · exact hcode
        · exact h9)) rfl rfl rfl hy hrm) ⟨xblind, xpre (av := av) hK hE hN hS hPc hDc hF⟩ rfl hlen hl.1 hst (lv_room hcat) hd ⟨hk, hn⟩
  intro T hT X9
  rcases run T hT X9 with ⟨v, st₀, t, T', L, h0, X', hL, e1, e2, hq, go⟩ | ⟨q, st₀, t, T', L, E, ce, h0, X', hL, e1, e2, hx1, hce, hcv, hcl, go⟩
  · exact x_back hl hP hD hS hA is ir hC hR9 hnr hdis kk h0 X' hL e1 hq go
  · obtain ⟨w1, hX1, hPj, hDj, hSj⟩ := x_thrown hP hD hS hA is ir hC hR9 hnr hdis h0 hL e1 hx1
    obtain ⟨w2, hi2, hX2⟩ := kx E w1 hX1
    obtain ⟨hQ, htb⟩ := hEC
    subst hQ
    obtain ⟨t2, a1, b1⟩ := vx_out (XC := xx D cs X A) (Qc := xq D cs Φ A) (free := A) (args := args) (below := below) (l := l) (e := e) (R := { frames := fr, cells := mc, slots := ms, locals := lo }) (cells := k + mc1) (slots := n + ms1) (mc := mc) (ms := ms) (ls := ls) (pc := pc) (rest := st) (fun x hx => by rw [htb] at hx; cases hx) hlk (by rw [e1]; exact hce) hcv hcl (fun t9 ht9 hvm => ⟨w2, hX2, by rw [ht9]; exact hPj.sub it (x_pick hi2), va_K.moved hvm hK, hDj.sub it hit hi2, hSj.F ht9⟩) hSj.2.2 hk hn T' rfl X'
    exact ⟨t2, go.trans a1, b1⟩
set_option maxHeartbeats 1000000 in
theorem a_callSH {Γ : XG} {l9 : Launch} {D9 : va_G} {cs : Nat → ClassId} {cc : ByteArray} {own nm : String} {nl : Nat} {ret : Option FieldType} {fr lo mc ms : Nat} {EC : XG → Prop} (C : CX Γ l9 D9 cs cc own nm nl ret fr lo mc ms EC) {k n pc : Nat} {lv : List (Nat × Value)} {st st0 : List Value} {ws : va_W} {y : MethodName} {cc1 : ByteArray} {nL1 : Nat} {ret1 : Option FieldType} {fr1 lo1 mc1 ms1 n1 idx : Nat} {av : List Value} {wc wr : va_W} {Φ1 : Option Value → va_W → Prop} {hh : List (Nat × Nat × Nat × Nat)} (hM : XMetH l9 D9 cs y cc1 nL1 ret1 hh fr1 lo1 mc1 ms1 av wc Φ1) (is ir : List Nat) (hC : is.map (fun i => ws[i]?) = wc.map some) (hR9 : ir.map (fun i => ws[i]?) = wr.map some) (hnc : va_nd is = true) (hnr : va_nd ir = true) (hdis : ∀ i ∈ ir, i ∉ is)
    (hw : Cond.methodLink own idx y ∈ LW) (hwb : ∀ w ∈ ([.static y, .initialized y.cls, .codeWith y cc1 nL1 ret1 hh] : List Cond), w ∈ LW) (hy : y.cls ≠ "java/lang/invoke/MethodHandle" ∧ y.cls ≠ "java/lang/invoke/VarHandle" ∧ (parseMethodDescriptor y.desc).map (fun d => d.parameters.length) = some n1)
    (hlen : av.length = n1) (hrm : fr1 + 1 ≤ fr ∧ 8 + (nL1 + 11) + lo1 ≤ lo) (hcat : (st.map fun v => v.category).sum ≤ 8) (hk : k + mc1 ≤ mc) (hn : n + ms1 ≤ ms) (hst : st0 = av.reverse ++ st) (hd : decode cc pc = .ok (.invokestatic idx, 3)) (kk : ∀ (v : Option Value) (w1 : va_W), Φ1 v w1 → AW Γ (k + mc1) (n + ms1) (pc + 3) lv (v.toList ++ st) (wr ++ w1))  : AW Γ k n pc lv st0 ws := by
  obtain ⟨p, l, e, R, s, m, args, below, meth, c, nL, D, A, Q⟩ := Γ
  obtain ⟨hEC, ⟨hx, hb, hml, hown, hts⟩, ⟨hK, hA, hE, ⟨hl0, hN, hl9, hD9⟩, hnl⟩, hr, hlk, hR, hnm⟩ := C
  subst hl9; subst hD9; subst hR
  intro ls H locs hl hP hD hS
  have hPc := hP.sub is (x_pick hC)
  have hDc := hD.sub is hnc hC
  have hF := va_free (wc := wc) hD hS hA is hC
  have hcode : Cond.codeWith y cc1 nL1 ret1 hh ∈ LW := hwb _ (by simp)
  have run := vx_runSW (hh := hh) (cells := k) (slots := n) (H := H) (locs := locs) (e := e) (below := below) (meth := meth) (As := av) (rest := st) (g := F0 m pc ls st0) (cc := cc) (nL := nL) (R := { frames := fr, cells := mc, slots := ms, locals := lo }) ⟨hx, hb, hml, hown, hts⟩ (vx_toMet (fun E st t h => h.elim fun _ h => h.1) (hM hl0 H.size))
    (vx_cwSW n1 hts (good_LW (fun w hw9 => by
      rcases List.mem_append.mp hw9 with h9 | h9
      · rcases List.mem_cons.mp h9 with rfl | h9
        · exact hw
        · exact hwb w (by
            rcases List.mem_cons.mp h9 with rfl | h9
            · simp
            · rcases List.mem_cons.mp h9 with rfl | h9
              · simp
              · cases h9)
      · rcases List.mem_cons.mp h9 with rfl | h9
        · exact hcode
        · exact h9)) rfl rfl rfl hy hrm) ⟨xblind, xpre (av := av) hK hE hN hS hPc hDc hF⟩ rfl hlen hl.1 hst (lv_room hcat) hd ⟨hk, hn⟩
  intro T hT X9
  obtain ⟨v, st₀, t, T', L, h0, X', hL, e1, e2, hq, go⟩ := run T hT X9
  exact x_back hl hP hD hS hA is ir hC hR9 hnr hdis kk h0 X' hL e1 hq go
set_option maxHeartbeats 1000000 in
theorem a_callI {Γ : XG} {l9 : Launch} {D9 : va_G} {cs : Nat → ClassId} {cc : ByteArray} {own nm : String} {nl : Nat} {ret : Option FieldType} {fr lo mc ms : Nat} {EC : XG → Prop} (C : CX Γ l9 D9 cs cc own nm nl ret fr lo mc ms EC) {k n pc : Nat} {lv : List (Nat × Value)} {st st0 : List Value} {ws : va_W} {y : MethodName} {cc1 : ByteArray} {nL1 : Nat} {fr1 lo1 mc1 ms1 n1 idx : Nat} {av : List Value} {wc wr : va_W} {Φ1 : Option Value → va_W → Prop} {b : Nat} (hM : XMet l9 D9 cs y cc1 nL1 none fr1 lo1 mc1 ms1 (.ref b :: av) wc Φ1 (fun _ _ => False)) (is ir : List Nat) (hC : is.map (fun i => ws[i]?) = wc.map some) (hR9 : ir.map (fun i => ws[i]?) = wr.map some) (hnc : va_nd is = true) (hnr : va_nd ir = true) (hdis : ∀ i ∈ ir, i ∉ is)
    (hw : Cond.methodLink own idx y ∈ LW) (hwb : ∀ w ∈ ([.instanceMethod y, .initialized y.cls, .code y cc1 nL1 none] : List Cond), w ∈ LW) (hy1 : y.name = "<init>") (hy : y.cls ≠ "java/lang/invoke/MethodHandle" ∧ y.cls ≠ "java/lang/invoke/VarHandle" ∧ (parseMethodDescriptor y.desc).map (fun d => d.parameters.length) = some n1)
    (hlen : av.length = n1) (hrm : fr1 + 1 ≤ fr ∧ 8 + (nL1 + 11) + lo1 ≤ lo) (hcat : (st.map fun v => v.category).sum ≤ 8) (hk : k + mc1 ≤ mc) (hn : n + ms1 ≤ ms) (hst : st0 = av.reverse ++ .ref b :: st) (hd : decode cc pc = .ok (.invokespecial idx, 3)) (kk : ∀ (v : Option Value) (w1 : va_W), Φ1 v w1 → AW Γ (k + mc1) (n + ms1) (pc + 3) lv (v.toList ++ st) (wr ++ w1)) : AW Γ k n pc lv st0 ws := by
  obtain ⟨p, l, e, R, s, m, args, below, meth, c, nL, D, A, Q⟩ := Γ
  obtain ⟨hEC, ⟨hx, hb, hml, hown, hts⟩, ⟨hK, hA, hE, ⟨hl0, hN, hl9, hD9⟩, hnl⟩, hr, hlk, hR, hnm⟩ := C
  subst hl9; subst hD9; subst hR
  intro ls H locs hl hP hD hS
  have hPc := hP.sub is (x_pick hC)
  have hDc := hD.sub is hnc hC
  have hF := va_free (wc := wc) hD hS hA is hC
  have hcode : Cond.code y cc1 nL1 none ∈ LW := hwb _ (by simp)
  have run := va_runI (cells := k) (slots := n) (H := H) (locs := locs) (e := e) (below := below) (meth := meth) (As := av) (rest := st) (g := F0 m pc ls st0) (cc := cc) (nL := nL) (b := b) (R := { frames := fr, cells := mc, slots := ms, locals := lo }) ⟨hx, hb, hml, hown, hts⟩ (vx_toMet (fun E st t h => h.elim fun _ h => h.1) (hM hl0 H.size))
    (cwI n1 hts (good_code hcode) rfl rfl rfl (hts _ (hwb _ (by simp))) (hts _ hw) (hts _ (hwb _ (by simp))) hy1 hy hrm) ⟨xblind, xpre (av := .ref b :: av) hK hE hN hS hPc hDc hF⟩ rfl hlen hl.1 hst (lv_room hcat) hd ⟨hk, hn⟩
  intro T hT X9
  obtain ⟨v, st₀, t, T', L, h0, X', hL, e1, e2, hq, go⟩ := run T hT X9
  exact x_back hl hP hD hS hA is ir hC hR9 hnr hdis kk h0 X' hL e1 hq go
set_option maxHeartbeats 1000000 in
theorem a_callIN {Γ : XG} {l9 : Launch} {D9 : va_G} {cs : Nat → ClassId} {cc : ByteArray} {own nm : String} {nl : Nat} {ret : Option FieldType} {fr lo mc ms : Nat} {EC : XG → Prop} (C : CX Γ l9 D9 cs cc own nm nl ret fr lo mc ms EC) {k n pc : Nat} {lv : List (Nat × Value)} {st st0 : List Value} {ws : va_W} {y : MethodName} {cc1 : ByteArray} {nL1 : Nat} {fr1 lo1 mc1 ms1 n1 idx : Nat} {av : List Value} {wc wr : va_W} {Φ1 : Option Value → va_W → Prop} {b : Nat} {host : String} (hM : XMet l9 D9 cs y cc1 nL1 none fr1 lo1 mc1 ms1 (.ref b :: av) wc Φ1 (fun _ _ => False)) (is ir : List Nat) (hC : is.map (fun i => ws[i]?) = wc.map some) (hR9 : ir.map (fun i => ws[i]?) = wr.map some) (hnc : va_nd is = true) (hnr : va_nd ir = true) (hdis : ∀ i ∈ ir, i ∉ is)
    (hw : Cond.methodLinkNest own idx y host ∈ NW) (hwb : ∀ w ∈ ([.instanceMethod y, .initialized y.cls, .code y cc1 nL1 none] : List Cond), w ∈ LW) (hy1 : y.name = "<init>") (hy : y.cls ≠ "java/lang/invoke/MethodHandle" ∧ y.cls ≠ "java/lang/invoke/VarHandle" ∧ (parseMethodDescriptor y.desc).map (fun d => d.parameters.length) = some n1)
    (hlen : av.length = n1) (hrm : fr1 + 1 ≤ fr ∧ 8 + (nL1 + 11) + lo1 ≤ lo) (hcat : (st.map fun v => v.category).sum ≤ 8) (hk : k + mc1 ≤ mc) (hn : n + ms1 ≤ ms) (hst : st0 = av.reverse ++ .ref b :: st) (hd : decode cc pc = .ok (.invokespecial idx, 3)) (kk : ∀ (v : Option Value) (w1 : va_W), Φ1 v w1 → AW Γ (k + mc1) (n + ms1) (pc + 3) lv (v.toList ++ st) (wr ++ w1)) : AW Γ k n pc lv st0 ws := by
  obtain ⟨p, l, e, R, s, m, args, below, meth, c, nL, D, A, Q⟩ := Γ
  obtain ⟨hEC, ⟨hx, hb, hml, hown, hts⟩, ⟨hK, hA, hE, ⟨hl0, hN, hl9, hD9⟩, hnl⟩, hr, hlk, hR, hnm⟩ := C
  subst hl9; subst hD9; subst hR
  intro ls H locs hl hP hD hS
  have hPc := hP.sub is (x_pick hC)
  have hDc := hD.sub is hnc hC
  have hF := va_free (wc := wc) hD hS hA is hC
  have hcode : Cond.code y cc1 nL1 none ∈ LW := hwb _ (by simp)
  have run := va_runIN (cells := k) (slots := n) (H := H) (locs := locs) (e := e) (below := below) (meth := meth) (As := av) (rest := st) (g := F0 m pc ls st0) (cc := cc) (nL := nL) (b := b) (R := { frames := fr, cells := mc, slots := ms, locals := lo }) ⟨hx, hb, hml, hown, hts⟩ (vx_toMet (fun E st t h => h.elim fun _ h => h.1) (hM hl0 H.size))
    ⟨va_cnB n1 hts (good_code hcode) rfl rfl rfl (hN.1 _ hw) (hts _ (hwb _ (by simp))) hy hrm, hy1, hts _ (hwb _ (by simp))⟩ ⟨xblind, xpre (av := .ref b :: av) hK hE hN hS hPc hDc hF⟩ rfl hlen hl.1 hst (lv_room hcat) hd ⟨hk, hn⟩
  intro T hT X9
  obtain ⟨v, st₀, t, T', L, h0, X', hL, e1, e2, hq, go⟩ := run T hT X9
  exact x_back hl hP hD hS hA is ir hC hR9 hnr hdis kk h0 X' hL e1 hq go
theorem a_objInit {Γ : XG} {l9 : Launch} {D9 : va_G} {cs : Nat → ClassId} {cc : ByteArray} {own nm : String} {nl : Nat} {ret : Option FieldType} {fr lo mc ms : Nat} {EC : XG → Prop} (C : CX Γ l9 D9 cs cc own nm nl ret fr lo mc ms EC) {k n pc : Nat} {lv : List (Nat × Value)} {st : List Value} {ws : va_W} {idx a : Nat} (hw : Cond.methodLink own idx Lib.objectInit ∈ LW) (hwb : ∀ w ∈ ([.instanceMethod Lib.objectInit, .code Lib.objectInit ⟨#[0xb1]⟩ 1 none] : List Cond), w ∈ LW) (hd : decode cc pc = .ok (.invokespecial idx, 3)) (hfr : 1 ≤ fr) (hlo : (st.map fun v => v.category).sum + 12 ≤ lo) (kk : AW Γ k n (pc + 3) lv st ws) : AW Γ k n pc lv (.ref a :: st) ws := by
  obtain ⟨p, l, e, R, s, m, args, below, meth, c, nL, D, A, Q⟩ := Γ
  obtain ⟨hEC, ⟨hx, hb, hml, hown, hts⟩, ⟨hK, hA, hE, ⟨hl0, hN, hl9, hD9⟩, hnl⟩, hr, hlk, hR, hnm⟩ := C
  subst hR
  intro ls H locs hl hP hD hS
  exact W.objInit hx hb hown (hts _ hw) (hts _ (hwb _ (by simp))) (hts _ (hwb _ (by simp))) rfl (hl.1.trans hml.symm) rfl hd hfr (by have h9 : 2 * (F0 m pc ls (.ref a :: st)).monitorRoom = 0 := rfl; show _ ≤ lo; omega) (kk ls H locs hl hP hD hS)
theorem a_new {Γ : XG} {l9 : Launch} {D9 : va_G} {cs : Nat → ClassId} {cc : ByteArray} {own nm : String} {nl : Nat} {ret : Option FieldType} {fr lo mc ms : Nat} {EC : XG → Prop} (C : CX Γ l9 D9 cs cc own nm nl ret fr lo mc ms EC) {k n pc : Nat} {lv : List (Nat × Value)} {st : List Value} {ws : va_W} {C9 : String} {T : u_T} {N ci idx : Nat} {fs : List Value} (hin : ∀ w ∈ u_ws C9 T N, w ∈ LW) (ty : Nat → FieldType) (hty : ∀ k, k < N → parseFieldDescriptor (T k).2.2.1 = some (ty k)) (hw : Cond.classLink own idx C9 ∈ LW) (hw2 : Cond.instantiable C9 N ∈ LW) (hw3 : Cond.initialized C9 ∈ LW) (hc : vwCl[ci]? = some (C9, T, N)) (hfs : ∀ j, j < N → defaultValue (ty j) = vp_V fs j) (hk : k + 1 ≤ mc) (hn : n + N ≤ ms) (hd : decode cc pc = .ok (.new idx, 3))
    (kk : ∀ q : Nat, AW Γ (k + 1) (n + N) (pc + 3) lv (.ref q :: st) (ws ++ [(q, .inr (ci, fs))])) : AW Γ k n pc lv st ws := by
  obtain ⟨p, l, e, R, s, m, args, below, meth, c, nL, D, A, Q⟩ := Γ
  obtain ⟨hEC, ⟨hx, hb, hml, hown, hts⟩, ⟨hK, hA, hE, ⟨hl0, hN, hl9, hD9⟩, hnl⟩, hr, hlk, hR, hnm⟩ := C
  subst hR
  intro ls H locs hl hP hD hS
  exact va_new hx hb hts hin ty hty hown (hts _ hw) (hts _ hw2) (hts _ hw3) hK hP hD hS hA hc hfs hk hn hd (fun q H1 hP1 hD1 hS1 => kk q ls H1 locs hl hP1 hD1 hS1)
theorem a_newa_b {Γ : XG} {l9 : Launch} {D9 : va_G} {cs : Nat → ClassId} {cc : ByteArray} {own nm : String} {nl : Nat} {ret : Option FieldType} {fr lo mc ms : Nat} {EC : XG → Prop} (C : CX Γ l9 D9 cs cc own nm nl ret fr lo mc ms EC) {k n pc : Nat} {lv : List (Nat × Value)} {st : List Value} {ws : va_W} {z : Int32} {N : Nat} (hw : Cond.arrayClass .byte ∈ LW) (hz : ¬ z < 0) (hN9 : z.toNatClampNeg = N) (hby : N * 8 ≤ 536870912) (hk : k + 1 ≤ mc) (hn : n + N ≤ ms) (hd : decode cc pc = .ok (.newarray .byte, 2))
    (kk : ∀ q : Nat, AW Γ (k + 1) (n + N) (pc + 2) lv (.ref q :: st) (ws ++ [(q, aB cs N (fun _ => 0))])) : AW Γ k n pc lv (.int z :: st) ws := by
  obtain ⟨p, l, e, R, s, m, args, below, meth, c, nL, D, A, Q⟩ := Γ
  obtain ⟨hEC, ⟨hx, hb, hml, hown, hts⟩, ⟨hK, hA, hE, ⟨hl0, hN, hl9, hD9⟩, hnl⟩, hr, hlk, hR, hnm⟩ := C
  subst hR
  intro ls H locs hl hP hD hS
  refine va_newa (a0 := (N, .inl (fun _ => 0))) (atype := .byte) (ty := .byte) hx hb (hts _ hw) rfl hK hP hD hS hA (fun _ => rfl) hz hN9 (Nat.le_trans (Nat.mul_le_mul_left N (by decide)) hby) hk hn hd (fun q cA H1 hK1 hP1 hD1 hS1 => ?_)
  have h1 := (hK1.2 6 _ rfl).2
  have h2 := (hK.2 0 _ rfl).2
  have e1 : cA = cs 0 := Option.some.inj (Eq.trans (Eq.symm h1) h2)
  subst e1
  exact kk q ls H1 locs hl hP1 hD1 hS1
theorem a_newa_i {Γ : XG} {l9 : Launch} {D9 : va_G} {cs : Nat → ClassId} {cc : ByteArray} {own nm : String} {nl : Nat} {ret : Option FieldType} {fr lo mc ms : Nat} {EC : XG → Prop} (C : CX Γ l9 D9 cs cc own nm nl ret fr lo mc ms EC) {k n pc : Nat} {lv : List (Nat × Value)} {st : List Value} {ws : va_W} {z : Int32} {N : Nat} (hw : Cond.arrayClass .int ∈ LW) (hz : ¬ z < 0) (hN9 : z.toNatClampNeg = N) (hby : N * 8 ≤ 536870912) (hk : k + 1 ≤ mc) (hn : n + N ≤ ms) (hd : decode cc pc = .ok (.newarray .int, 2))
    (kk : ∀ q : Nat, AW Γ (k + 1) (n + N) (pc + 2) lv (.ref q :: st) (ws ++ [(q, aI cs N (fun _ => 0))])) : AW Γ k n pc lv (.int z :: st) ws := by
  obtain ⟨p, l, e, R, s, m, args, below, meth, c, nL, D, A, Q⟩ := Γ
  obtain ⟨hEC, ⟨hx, hb, hml, hown, hts⟩, ⟨hK, hA, hE, ⟨hl0, hN, hl9, hD9⟩, hnl⟩, hr, hlk, hR, hnm⟩ := C
  subst hR
  intro ls H locs hl hP hD hS
  refine va_newa (a0 := (N, .inl (fun _ => 0))) (atype := .int) (ty := .int) hx hb (hts _ hw) rfl hK hP hD hS hA (fun _ => rfl) hz hN9 (Nat.le_trans (Nat.mul_le_mul_left N (by decide)) hby) hk hn hd (fun q cA H1 hK1 hP1 hD1 hS1 => ?_)
  have h1 := (hK1.2 6 _ rfl).2
  have h2 := (hK.2 1 _ rfl).2
  have e1 : cA = cs 1 := Option.some.inj (Eq.trans (Eq.symm h1) h2)
  subst e1
  exact kk q ls H1 locs hl hP1 hD1 hS1
theorem a_newa_j {Γ : XG} {l9 : Launch} {D9 : va_G} {cs : Nat → ClassId} {cc : ByteArray} {own nm : String} {nl : Nat} {ret : Option FieldType} {fr lo mc ms : Nat} {EC : XG → Prop} (C : CX Γ l9 D9 cs cc own nm nl ret fr lo mc ms EC) {k n pc : Nat} {lv : List (Nat × Value)} {st : List Value} {ws : va_W} {z : Int32} {N : Nat} (hw : Cond.arrayClass .long ∈ LW) (hz : ¬ z < 0) (hN9 : z.toNatClampNeg = N) (hby : N * 8 ≤ 536870912) (hk : k + 1 ≤ mc) (hn : n + N ≤ ms) (hd : decode cc pc = .ok (.newarray .long, 2))
    (kk : ∀ q : Nat, AW Γ (k + 1) (n + N) (pc + 2) lv (.ref q :: st) (ws ++ [(q, aJ cs N (fun _ => 0))])) : AW Γ k n pc lv (.int z :: st) ws := by
  obtain ⟨p, l, e, R, s, m, args, below, meth, c, nL, D, A, Q⟩ := Γ
  obtain ⟨hEC, ⟨hx, hb, hml, hown, hts⟩, ⟨hK, hA, hE, ⟨hl0, hN, hl9, hD9⟩, hnl⟩, hr, hlk, hR, hnm⟩ := C
  subst hR
  intro ls H locs hl hP hD hS
  refine va_newa (a0 := (N, .inr (.inl (fun _ => 0)))) (atype := .long) (ty := .long) hx hb (hts _ hw) rfl hK hP hD hS hA (fun _ => rfl) hz hN9 (Nat.le_trans (Nat.mul_le_mul_left N (by decide)) hby) hk hn hd (fun q cA H1 hK1 hP1 hD1 hS1 => ?_)
  have h1 := (hK1.2 6 _ rfl).2
  have h2 := (hK.2 2 _ rfl).2
  have e1 : cA = cs 2 := Option.some.inj (Eq.trans (Eq.symm h1) h2)
  subst e1
  exact kk q ls H1 locs hl hP1 hD1 hS1
theorem a_newa_d {Γ : XG} {l9 : Launch} {D9 : va_G} {cs : Nat → ClassId} {cc : ByteArray} {own nm : String} {nl : Nat} {ret : Option FieldType} {fr lo mc ms : Nat} {EC : XG → Prop} (C : CX Γ l9 D9 cs cc own nm nl ret fr lo mc ms EC) {k n pc : Nat} {lv : List (Nat × Value)} {st : List Value} {ws : va_W} {z : Int32} {N : Nat} (hw : Cond.arrayClass .double ∈ LW) (hz : ¬ z < 0) (hN9 : z.toNatClampNeg = N) (hby : N * 8 ≤ 536870912) (hk : k + 1 ≤ mc) (hn : n + N ≤ ms) (hd : decode cc pc = .ok (.newarray .double, 2))
    (kk : ∀ q : Nat, AW Γ (k + 1) (n + N) (pc + 2) lv (.ref q :: st) (ws ++ [(q, aD cs N (fun _ => 0))])) : AW Γ k n pc lv (.int z :: st) ws := by
  obtain ⟨p, l, e, R, s, m, args, below, meth, c, nL, D, A, Q⟩ := Γ
  obtain ⟨hEC, ⟨hx, hb, hml, hown, hts⟩, ⟨hK, hA, hE, ⟨hl0, hN, hl9, hD9⟩, hnl⟩, hr, hlk, hR, hnm⟩ := C
  subst hR
  intro ls H locs hl hP hD hS
  refine va_newa (a0 := (N, .inr (.inr (.inr (.inl (fun _ => 0)))))) (atype := .double) (ty := .double) hx hb (hts _ hw) rfl hK hP hD hS hA (fun _ => rfl) hz hN9 (Nat.le_trans (Nat.mul_le_mul_left N (by decide)) hby) hk hn hd (fun q cA H1 hK1 hP1 hD1 hS1 => ?_)
  have h1 := (hK1.2 6 _ rfl).2
  have h2 := (hK.2 3 _ rfl).2
  have e1 : cA = cs 3 := Option.some.inj (Eq.trans (Eq.symm h1) h2)
  subst e1
  exact kk q ls H1 locs hl hP1 hD1 hS1
theorem a_newa_z {Γ : XG} {l9 : Launch} {D9 : va_G} {cs : Nat → ClassId} {cc : ByteArray} {own nm : String} {nl : Nat} {ret : Option FieldType} {fr lo mc ms : Nat} {EC : XG → Prop} (C : CX Γ l9 D9 cs cc own nm nl ret fr lo mc ms EC) {k n pc : Nat} {lv : List (Nat × Value)} {st : List Value} {ws : va_W} {z : Int32} {N : Nat} (hw : Cond.arrayClass .boolean ∈ LW) (hz : ¬ z < 0) (hN9 : z.toNatClampNeg = N) (hby : N * 8 ≤ 536870912) (hk : k + 1 ≤ mc) (hn : n + N ≤ ms) (hd : decode cc pc = .ok (.newarray .boolean, 2))
    (kk : ∀ q : Nat, AW Γ (k + 1) (n + N) (pc + 2) lv (.ref q :: st) (ws ++ [(q, aZ cs N (fun _ => 0))])) : AW Γ k n pc lv (.int z :: st) ws := by
  obtain ⟨p, l, e, R, s, m, args, below, meth, c, nL, D, A, Q⟩ := Γ
  obtain ⟨hEC, ⟨hx, hb, hml, hown, hts⟩, ⟨hK, hA, hE, ⟨hl0, hN, hl9, hD9⟩, hnl⟩, hr, hlk, hR, hnm⟩ := C
  subst hR
  intro ls H locs hl hP hD hS
  refine va_newa (a0 := (N, .inl (fun _ => 0))) (atype := .boolean) (ty := .boolean) hx hb (hts _ hw) rfl hK hP hD hS hA (fun _ => rfl) hz hN9 (Nat.le_trans (Nat.mul_le_mul_left N (by decide)) hby) hk hn hd (fun q cA H1 hK1 hP1 hD1 hS1 => ?_)
  have h1 := (hK1.2 6 _ rfl).2
  have h2 := (hK.2 4 _ rfl).2
  have e1 : cA = cs 4 := Option.some.inj (Eq.trans (Eq.symm h1) h2)
  subst e1
  exact kk q ls H1 locs hl hP1 hD1 hS1
theorem a_newq {Γ : XG} {l9 : Launch} {D9 : va_G} {cs : Nat → ClassId} {cc : ByteArray} {own nm : String} {nl : Nat} {ret : Option FieldType} {fr lo mc ms : Nat} {EC : XG → Prop} (C : CX Γ l9 D9 cs cc own nm nl ret fr lo mc ms EC) {k n pc : Nat} {lv : List (Nat × Value)} {st : List Value} {ws : va_W} {z : Int32} {N idx : Nat} (hw : Cond.classLink own idx "ImpactShelf$Index" ∈ LW) (hz : ¬ z < 0) (hN9 : z.toNatClampNeg = N) (hby : N * 4 ≤ 536870912) (hk : k + 1 ≤ mc) (hn : n + N ≤ ms) (hd : decode cc pc = .ok (.anewarray idx, 3)) (hov : ∀ s : State, ax_N s → va_AO "ImpactShelf$Index" s)
    (kk : ∀ q : Nat, AW Γ (k + 1) (n + N) (pc + 3) lv (.ref q :: st) (ws ++ [(q, aQ cs N (fun _ => none))])) : AW Γ k n pc lv (.int z :: st) ws := by
  obtain ⟨p, l, e, R, s, m, args, below, meth, c, nL, D, A, Q⟩ := Γ
  obtain ⟨hEC, ⟨hx, hb, hml, hown, hts⟩, ⟨hK, hA, hE, ⟨hl0, hN, hl9, hD9⟩, hnl⟩, hr, hlk, hR, hnm⟩ := C
  subst hR
  intro ls H locs hl hP hD hS
  refine va_newq hx hb hown (hts _ hw) (hov s hN) hK hP hD hS hA hz hN9 hby hk hn hd (fun q cA H1 hK1 hP1 hD1 hS1 => ?_)
  obtain ⟨kA, comp, g1, g2, g3, h1⟩ := (hK1.2 6 _ rfl).2
  obtain ⟨kA', comp', g1', g2', g3', h2⟩ := (hK.2 5 _ rfl).2
  have e1 : cA = cs 5 := Option.some.inj (h1.symm.trans h2)
  subst e1
  exact kk q ls H1 locs hl hP1 hD1 hS1
theorem a_copy {Γ : XG} {l9 : Launch} {D9 : va_G} {cs : Nat → ClassId} {cc : ByteArray} {own nm : String} {nl : Nat} {ret : Option FieldType} {fr lo mc ms : Nat} {EC : XG → Prop} (C : CX Γ l9 D9 cs cc own nm nl ret fr lo mc ms EC) {k n pc : Nat} {lv : List (Nat × Value)} {st : List Value} {ws : va_W} {a N : Nat} {f : Nat → Int32} {sp dp z : Int32} {idx : Nat} {ws1 : va_W} (q0 : Nat) (ha : ws[q0]? = some (a, aI cs N f)) (hw : Cond.methodLink own idx arraycopyName ∈ LW) (hw1 : Cond.native arraycopyName ∈ LW) (hw2 : Cond.static arraycopyName ∈ LW) (hw3 : Cond.initialized "java/lang/System" ∈ LW)
    (h1 : ¬ sp < 0) (h2 : ¬ dp < 0) (h3 : ¬ z < 0) (h4 : sp.toNatClampNeg + z.toNatClampNeg ≤ N) (h5 : dp.toNatClampNeg + z.toNatClampNeg ≤ N) (hfr : 1 ≤ fr) (hlo : (st.map fun v => v.category).sum + (nativeFrameWords "java/lang/System" "arraycopy" 5 + 11) ≤ lo) (hd : decode cc pc = .ok (.invokestatic idx, 3)) (hs1 : ws.set q0 (a, aI cs N (va_cpy f f sp.toNatClampNeg dp.toNatClampNeg z.toNatClampNeg)) = ws1)
    (kk : AW Γ k n (pc + 3) lv st ws1) : AW Γ k n pc lv (.int z :: .int dp :: .ref a :: .int sp :: .ref a :: st) ws := by
  subst hs1
  obtain ⟨p, l, e, R, s, m, args, below, meth, c, nL, D, A, Q⟩ := Γ
  obtain ⟨hEC, ⟨hx, hb, hml, hown, hts⟩, ⟨hK, hA, hE, ⟨hl0, hN, hl9, hD9⟩, hnl⟩, hr, hlk, hR, hnm⟩ := C
  subst hR
  intro ls H locs hl hP hD hS
  exact va_copyi hx hb (hml.trans hl.1.symm) hown (hts _ hw) (hts _ hw1) (hts _ hw2) (hts _ hw3) hK hP hD hS q0 q0 1 1 ha ha rfl rfl rfl h1 h2 h3 h4 h5 (fun _ _ => rfl) hfr hlo hd (fun H1 locs1 hP1 hD1 hS1 => kk ls H1 locs1 hl hP1 hD1 hS1)
def imin (x y : Int32) : Int32 := if y < x then y else x
theorem a_min {Γ : XG} {l9 : Launch} {D9 : va_G} {cs : Nat → ClassId} {cc : ByteArray} {own nm : String} {nl : Nat} {ret : Option FieldType} {fr lo mc ms : Nat} {EC : XG → Prop} (C : CX Γ l9 D9 cs cc own nm nl ret fr lo mc ms EC) {k n pc : Nat} {lv : List (Nat × Value)} {st : List Value} {ws : va_W} {idx : Nat} {x y : Int32} (hw : Cond.methodLink own idx Lib.Math.min.name ∈ LW) (hwb : ∀ w ∈ ([.static Lib.Math.min.name, .initialized "java/lang/Math", .code Lib.Math.min.name Lib.Math.min.code 2 (some .int)] : List Cond), w ∈ LW) (hfr : 1 ≤ fr) (hlo : (st.map fun v => v.category).sum + 13 ≤ lo) (hk : k ≤ mc) (hn : n ≤ ms) (hd : decode cc pc = .ok (.invokestatic idx, 3)) (kk : AW Γ k n (pc + 3) lv (.int (imin x y) :: st) ws) : AW Γ k n pc lv (.int y :: .int x :: st) ws := by
  obtain ⟨p, l, e, R, s, m, args, below, meth, c, nL, D, A, Q⟩ := Γ
  obtain ⟨hEC, ⟨hx, hb, hml, hown, hts⟩, ⟨hK, hA, hE, ⟨hl0, hN, hl9, hD9⟩, hnl⟩, hr, hlk, hR, hnm⟩ := C
  subst hR
  intro ls H locs hl hP hD hS
  exact va_mmin hx hb (hml.trans hl.1.symm) hown (hts _ hw) (hts _ (hwb _ (by simp))) (hts _ (hwb _ (by simp))) (hts _ (hwb _ (by simp))) hfr hlo hk hn hd (kk ls H locs hl hP hD hS)
theorem inW_of {ws : List Cond} (ps : List Nat) (h : ws = ps.filterMap (fun i => tables_1[i]?)) (g : ws.all goodWord = true) : ∀ w ∈ ws, w ∈ LW := by
  intro w hw
  have g1 := List.all_eq_true.mp g w hw
  rw [h] at hw
  obtain ⟨i, -, hi⟩ := List.mem_filterMap.mp hw
  exact lw_in i hi g1
