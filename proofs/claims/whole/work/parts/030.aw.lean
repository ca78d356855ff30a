
/-! light rows: one judgement AW over W, with what never changes in a method bundled in CX -/
abbrev XG : Type := Program × Launch × Env × Room × State × MethodId × Array Value × List Frame × Method × Code × Nat × va_G × (Nat → Prop) × (State → Prop)
def LW : List Cond := lw_tbl.filter goodWord
theorem lw_in {w : Cond} (i : Nat) (h : tables_1[i]? = some w) (g : goodWord w = true) : w ∈ LW := List.mem_filter.mpr ⟨List.mem_append_right _ (List.mem_of_getElem? h), g⟩
theorem lw_inS {w : Cond} (i : Nat) (h : (k2_sels lw_privs)[i]? = some w) (g : goodWord w = true) : w ∈ LW := List.mem_filter.mpr ⟨List.mem_append_left _ (List.mem_of_getElem? h), g⟩
theorem good_LW {ws : List Cond} (h : ∀ w ∈ ws, w ∈ LW) : GoodIn LW ws := fun w hw => ⟨h w hw, good_of_word (List.mem_filter.mp (h w hw)).2⟩
abbrev axT (cs : Nat → ClassId) : List (ClassId × FieldType) := [(cs 0, .byte), (cs 1, .int), (cs 2, .long), (cs 3, .double), (cs 4, .boolean), (cs 5, .object "ImpactShelf$Index")]
abbrev aB (cs : Nat → ClassId) (n : Nat) (f : Nat → Int32) : va_E := .inl (cs 0, n, .inl f)
abbrev aI (cs : Nat → ClassId) (n : Nat) (f : Nat → Int32) : va_E := .inl (cs 1, n, .inl f)
abbrev aJ (cs : Nat → ClassId) (n : Nat) (f : Nat → Int64) : va_E := .inl (cs 2, n, .inr (.inl f))
abbrev aD (cs : Nat → ClassId) (n : Nat) (f : Nat → UInt64) : va_E := .inl (cs 3, n, .inr (.inr (.inr (.inl f))))
abbrev aZ (cs : Nat → ClassId) (n : Nat) (f : Nat → Int32) : va_E := .inl (cs 4, n, .inl f)
abbrev aQ (cs : Nat → ClassId) (n : Nat) (f : Nat → Option Nat) : va_E := .inl (cs 5, n, .inr (.inr (.inr (.inr f))))
abbrev oB (ci : Nat) (fs : List Value) : va_E := .inr (ci, fs)
/-- the two static tables of the program -/
def wayG : Nat → Int32 := fun i => [(60 : Int32), 30, 20, 15, 12, 10, 6, 4, 3, 2, 1].getD i 0
def wayB : Nat → Int32 := fun i => [(1 : Int32), 2, 3, 4, 5, 6, 10, 15, 20, 30, 60].getD i 0
def ax_w (n : String) (f : Nat → Int32) (A : Nat → Prop) (U : State) (H : Heap) : Prop := ∃ a : Nat, va_Z "ImpactShelf" n "[I" (.ref a) A U H ∧ va_X a 11 f U H ∧ a < H.size ∧ ¬ A a
theorem ax_w.moved {n : String} {f : Nat → Int32} {A : Nat → Prop} {u U : State} {H : Heap} (hvm : u.vm.Alike U.vm) (h : ax_w n f A u H) : ax_w n f A U H := by
  obtain ⟨a, h1, h2, h3⟩ := h
  exact ⟨a, h1.moved hvm, h2.moved hvm, h3⟩
theorem ax_w.kept {n : String} {f : Nat → Int32} {A : Nat → Prop} {U : State} {H H1 : Heap} (h : ax_w n f A U H) (hz : H.size ≤ H1.size) (hq : ∀ a : Nat, a < H.size → ¬ A a → H1[a]? = H[a]?) : ax_w n f A U H1 := by
  obtain ⟨a, h1, h2, h3, h4⟩ := h
  exact ⟨a, h1.kept hq, h2.kept (hq a h3 h4), Nat.lt_of_lt_of_le h3 hz, h4⟩
theorem ax_w.narrow {n : String} {f : Nat → Int32} {A B : Nat → Prop} {U : State} {H : Heap} (h : ax_w n f A U H) (hAB : ∀ q, B q → A q) : ax_w n f B U H := by
  obtain ⟨a, h1, h2, h3, h4⟩ := h
  exact ⟨a, h1.narrow hAB, h2, h3, fun z => h4 (hAB a z)⟩
def ax_E (A : Nat → Prop) (U : State) (H : Heap) : Prop := vx_Zq Bundle.tN "UNASSIGNED_STACK" Bundle.steD A U H ∧ vx_Zq Bundle.tN "SUPPRESSED_SENTINEL" Bundle.listD A U H ∧ ax_w "WAY_GAPS" wayG A U H ∧ ax_w "WAY_BITS" wayB A U H
theorem ax_E.moved {A : Nat → Prop} {u U : State} {H : Heap} (hvm : u.vm.Alike U.vm) (h : ax_E A u H) : ax_E A U H := ⟨h.1.moved hvm, h.2.1.moved hvm, h.2.2.1.moved hvm, h.2.2.2.moved hvm⟩
theorem ax_E.kept {A : Nat → Prop} {U : State} {H H1 : Heap} (h : ax_E A U H) (hz : H.size ≤ H1.size) (hq : ∀ a : Nat, a < H.size → ¬ A a → H1[a]? = H[a]?) : ax_E A U H1 := ⟨h.1.kept hq, h.2.1.kept hq, h.2.2.1.kept hz hq, h.2.2.2.kept hz hq⟩
theorem ax_E.narrow {A B : Nat → Prop} {U : State} {H : Heap} (h : ax_E A U H) (hAB : ∀ q, B q → A q) : ax_E B U H := ⟨h.1.narrow hAB, h.2.1.narrow hAB, h.2.2.1.narrow hAB, h.2.2.2.narrow hAB⟩
/-- words of the tables that aren't kept as such: they are moved state by state -/
def nwK : Cond → Bool | .methodLinkNest .. => true | .fieldLinkNest .. => true | .castable .. => true | .declares .. => true | _ => false
def NW : List Cond := tables_1.filter nwK
def NC : List (String × String) := [("java/lang/IllegalStateException", "java/lang/IllegalArgumentException"), ("java/util/NoSuchElementException", "java/lang/IllegalArgumentException")]
theorem nw_in {w : Cond} (i : Nat) (h : tables_1[i]? = some w) (g : nwK w = true) : w ∈ NW := List.mem_filter.mpr ⟨List.mem_of_getElem? h, g⟩
theorem nw_on {w : Cond} (g : nwK w = true) : w.onTables = true := by cases w <;> first | rfl | exact absurd g (by simp [nwK])
def ax_N (U : State) : Prop := (∀ w ∈ NW, va_Nw w U) ∧ (∀ q ∈ NC, va_Nc q.1 q.2 U) ∧ va_AO "ImpactShelf$Index" U
theorem ax_N.warm {s U : State} (hW : s.WarmedH U.vm) (h : ax_N s) : ax_N U := by
  refine ⟨fun w hw => ?_, fun q hq => (h.2.1 q hq).moved hW.alike, h.2.2.moved hW.alike⟩
  have h1 := h.1 w hw
  have g := (List.mem_filter.mp hw).2
  cases w <;> first | exact va_Nw.warmF hW h1 | exact va_Nw.warmM hW h1 | exact va_Nw.warmC hW h1 | exact va_Nw.warmD hW h1 | (simp [nwK] at g)
theorem ax_N.same {u U : State} (e : u.vm = U.vm) (h : ax_N u) : ax_N U := by
  refine ⟨fun w hw => va_Nw.same (nw_on (List.mem_filter.mp hw).2) e (h.1 w hw), fun q hq => (h.2.1 q hq).moved (by rw [e]; exact Vm.Alike.refl _), h.2.2.moved (by rw [e]; exact Vm.Alike.refl _)⟩
/-- how a method ends: it returns v in the world w (Φ v w), or throws an E in the world w (X E w) -/
def xq (D : va_G) (cs : Nat → ClassId) (Φ : Option Value → va_W → Prop) (A : Nat → Prop) : Array Value → State → Outcome → State → Prop := fun _ st o t => (∃ (v : Option Value) (w : va_W), o = .returned v ∧ Φ v w ∧ va_P D vwCl w t.heap ∧ va_K D vwCl (axT cs) t ∧ va_D A w) ∧ va_F A st t
def xx (D : va_G) (cs : Nat → ClassId) (X : String → va_W → Prop) (A : Nat → Prop) : String → State → State → Prop := fun E st t => ∃ w : va_W, X E w ∧ va_P D vwCl w t.heap ∧ va_K D vwCl (axT cs) t ∧ va_D A w ∧ va_F A st t
/-- what a method's caller knows: from the world wc, at the arguments av -/
def XMet (l : Launch) (D : va_G) (cs : Nat → ClassId) (y : MethodName) (cc : ByteArray) (nL : Nat) (ret : Option FieldType) (fr lo mc ms : Nat) (av : List Value) (wc : va_W) (Φ : Option Value → va_W → Prop) (X : String → va_W → Prop) : Prop :=
  l.stackTraces = false → ∀ sz : Nat, vx_Met l y (Cond.code y cc nL ret :: LW) { frames := fr, cells := mc, slots := ms, locals := lo }
    (va_Pc av (fun U => U.heap.size = sz ∧ va_P D vwCl wc U.heap ∧ va_K D vwCl (axT cs) U ∧ va_D (fun _ => True) wc ∧ ax_E (va_A wc sz) U U.heap ∧ ax_N U))
    (xq D cs Φ (va_A wc sz)) (xx D cs X (va_A wc sz)) mc ms (va_A wc sz)
def AW (Γ : XG) (k n pc : Nat) (lv : List (Nat × Value)) (st : List Value) (ws : va_W) : Prop :=
  match Γ with
  | (p, l, e, R, s, m, args, below, meth, c, nL, D, A, Q) => ∀ (ls : Array Slot) (H : Heap) (locs : List Loc), lv_has ls nL lv → va_P D vwCl ws H → va_D A ws → va_S A s.heap H locs → W p l e R s m args below meth c H locs k n Q (F0 m pc ls st)
/-- how a method ends: what its world and answer are; its table of handlers -/
def qEC (cs : Nat → ClassId) (mc ms : Nat) (tb : List ExceptionTableEntry) (Φ : Option Value → va_W → Prop) (X : String → va_W → Prop) : XG → Prop := fun Γ =>
  match Γ with
  | (_, _, _, _, s, _, args, below, _, c, _, D, A, Q) => Q = vx_MQ below (xq D cs Φ A) (xx D cs X A) args s mc ms A ∧ c.exceptionTable.toList = tb
def CX (Γ : XG) (l9 : Launch) (D9 : va_G) (cs : Nat → ClassId) (cc : ByteArray) (own nm : String) (nl : Nat) (ret : Option FieldType) (fr lo mc ms : Nat) (EC : XG → Prop) : Prop :=
  EC Γ ∧ match Γ with
  | (p, l, _, R, s, m, args, below, meth, c, nL, D, A, Q) =>
    (p.tables.exec = Jvm.exec ∧ c.code = cc ∧ c.maxLocals = nL ∧ s.vm.findClass own = some m.cls ∧ (∀ w ∈ LW, w.before args s = true)) ∧
    (va_K D vwCl (axT cs) s ∧ (∀ q, s.heap.size ≤ q → A q) ∧ ax_E A s s.heap ∧ (l.stackTraces = false ∧ ax_N s ∧ l = l9 ∧ D = D9) ∧ nL = nl) ∧
    (meth.sig.returnType = ret ∧ meth.locks = false ∧ R = { frames := fr, cells := mc, slots := ms, locals := lo } ∧ meth.name = nm)
/-- a static table's cell, unwritten -/
def AR (Γ : XG) (a : Nat) (f : Nat → Int32) : Prop :=
  match Γ with
  | (_, _, _, _, s, _, _, _, _, _, _, _, A, _) => va_X a 11 f s s.heap ∧ a < s.heap.size ∧ ¬ A a
set_option maxHeartbeats 1000000 in
theorem XMet.of {l : Launch} {D : va_G} {cs : Nat → ClassId} {y : MethodName} {cc : ByteArray} {nL : Nat} {ret : Option FieldType} {fr lo mc ms : Nat} {av : List Value} {wc : va_W} {Φ : Option Value → va_W → Prop} {X : String → va_W → Prop} {own nm : String}
    (hy : plainName y.cls = true) (hown : y.cls = own) (hnm : y.name = nm) (hle : (lg_sl av).length ≤ nL)
    (body : ∀ Γ : XG, CX Γ l D cs cc own nm nL ret fr lo mc ms (qEC cs mc ms [] Φ X) → AW Γ 0 0 0 (lv_args 0 av) [] wc) : XMet l D cs y cc nL ret fr lo mc ms av wc Φ X := by
  intro hl sz
  refine vx_ofW (cc := cc) (maxL := nL) (ret := ret) hy rfl ?_
  intro p e s m args below meth c s₁ B hml htb hv
  obtain ⟨rfl, hsz, hP, hK, hD0, hE, hN⟩ := hv
  subst hsz
  have hts0 := atoms_spec (ws := Cond.code y cc nL ret :: LW) B.pre
  have hD := hD0.self (sz := s.heap.size)
  have C : CX (p, l, e, (headSpec (Cond.code y cc nL ret :: LW) { frames := fr, cells := mc, slots := ms, locals := lo }).room, s, m, av.toArray, below, meth, c, nL, D, va_A wc s.heap.size, vx_MQ below (xq D cs Φ (va_A wc s.heap.size)) (xx D cs X (va_A wc s.heap.size)) av.toArray s mc ms (va_A wc s.heap.size)) l D cs cc own nm nL ret fr lo mc ms (qEC cs mc ms [] Φ X) :=
    ⟨⟨rfl, List.eq_nil_iff_forall_not_mem.mpr htb⟩, ⟨B.exec, B.bytes, hml, hown ▸ findClass_of_methodNamed B.named, fun w hw => hts0 w (List.mem_cons_of_mem _ hw)⟩, ⟨hK, fun q h => Or.inr h, hE, ⟨hl, hN, rfl, rfl⟩, rfl⟩, B.returns, B.notSynchronized, rfl, (name_of_methodNamed B.named B.method).1.trans hnm⟩
  have h := body _ C
  have hls := lv_entry av (n := nL) hle
  rw [lg_entry_eq]
  exact h _ s.heap [] hls hP hD va_S.rf


/-- a method with a table: it never throws -/
def XMetH (l : Launch) (D : va_G) (cs : Nat → ClassId) (y : MethodName) (cc : ByteArray) (nL : Nat) (ret : Option FieldType) (hh : List (Nat × Nat × Nat × Nat)) (fr lo mc ms : Nat) (av : List Value) (wc : va_W) (Φ : Option Value → va_W → Prop) : Prop :=
  l.stackTraces = false → ∀ sz : Nat, vx_Met l y (Cond.codeWith y cc nL ret hh :: LW) { frames := fr, cells := mc, slots := ms, locals := lo }
    (va_Pc av (fun U => U.heap.size = sz ∧ va_P D vwCl wc U.heap ∧ va_K D vwCl (axT cs) U ∧ va_D (fun _ => True) wc ∧ ax_E (va_A wc sz) U U.heap ∧ ax_N U))
    (xq D cs Φ (va_A wc sz)) (xx D cs (fun _ _ => False) (va_A wc sz)) mc ms (va_A wc sz)
set_option maxHeartbeats 1000000 in
theorem XMetH.of {l : Launch} {D : va_G} {cs : Nat → ClassId} {y : MethodName} {cc : ByteArray} {nL : Nat} {ret : Option FieldType} {hh : List (Nat × Nat × Nat × Nat)} {fr lo mc ms : Nat} {av : List Value} {wc : va_W} {Φ : Option Value → va_W → Prop} {own nm : String}
    (hy : plainName y.cls = true) (hown : y.cls = own) (hnm : y.name = nm) (hle : (lg_sl av).length ≤ nL)
    (body : ∀ Γ : XG, CX Γ l D cs cc own nm nL ret fr lo mc ms (qEC cs mc ms (tableOf hh) Φ (fun _ _ => False)) → AW Γ 0 0 0 (lv_args 0 av) [] wc) : XMetH l D cs y cc nL ret hh fr lo mc ms av wc Φ := by
  intro hl sz
  refine vx_ofWH (cc := cc) (maxL := nL) (ret := ret) (hh := hh) hy rfl ?_
  intro p e s m args below meth c s₁ B hml hv
  obtain ⟨rfl, hsz, hP, hK, hD0, hE, hN⟩ := hv
  subst hsz
  have hts0 := atoms_spec (ws := Cond.codeWith y cc nL ret hh :: LW) B.pre
  have hD := hD0.self (sz := s.heap.size)
  have C : CX (p, l, e, (headSpec (Cond.codeWith y cc nL ret hh :: LW) { frames := fr, cells := mc, slots := ms, locals := lo }).room, s, m, av.toArray, below, meth, c, nL, D, va_A wc s.heap.size, vx_MQ below (xq D cs Φ (va_A wc s.heap.size)) (xx D cs (fun _ _ => False) (va_A wc s.heap.size)) av.toArray s mc ms (va_A wc s.heap.size)) l D cs cc own nm nL ret fr lo mc ms (qEC cs mc ms (tableOf hh) Φ (fun _ _ => False)) :=
    ⟨⟨rfl, vx_table (x := y) B (hts0 _ List.mem_cons_self)⟩, ⟨B.exec, B.bytes, hml, hown ▸ findClass_of_methodNamed B.named, fun w hw => hts0 w (List.mem_cons_of_mem _ hw)⟩, ⟨hK, fun q h => Or.inr h, hE, ⟨hl, hN, rfl, rfl⟩, rfl⟩, B.returns, B.notSynchronized, rfl, (name_of_methodNamed B.named B.method).1.trans hnm⟩
  have h := body _ C
  have hls := lv_entry av (n := nL) hle
  rw [lg_entry_eq]
  exact h _ s.heap [] hls hP hD va_S.rf

theorem a_iconst {Γ : XG} {l9 : Launch} {D9 : va_G} {cs : Nat → ClassId} {cc : ByteArray} {own nm : String} {nl : Nat} {ret : Option FieldType} {fr lo mc ms : Nat} {EC : XG → Prop} (C : CX Γ l9 D9 cs cc own nm nl ret fr lo mc ms EC) {k n pc : Nat} {lv : List (Nat × Value)} {st : List Value} {ws : va_W} {z : Int} {v : Int32} (hd : decode cc pc = .ok (.iconst z, 1)) (hv : Int32.ofInt z = v) (kk : AW Γ k n (pc + 1) lv (.int v :: st) ws) : AW Γ k n pc lv st ws := by
  obtain ⟨p, l, e, R, s, m, args, below, meth, c, nL, D, A, Q⟩ := Γ
  obtain ⟨hEC, ⟨hx, hb, hml, hown, hts⟩, ⟨hK, hA, hE, ⟨hl0, hN, hl9, hD9⟩, hnl⟩, hr, hlk, hR, hnm⟩ := C
  intro ls H locs hl hP hD hS
  exact lv_iconst hx hb hd hv (kk ls H locs hl hP hD hS)
theorem a_bipush {Γ : XG} {l9 : Launch} {D9 : va_G} {cs : Nat → ClassId} {cc : ByteArray} {own nm : String} {nl : Nat} {ret : Option FieldType} {fr lo mc ms : Nat} {EC : XG → Prop} (C : CX Γ l9 D9 cs cc own nm nl ret fr lo mc ms EC) {k n pc : Nat} {lv : List (Nat × Value)} {st : List Value} {ws : va_W} {z : Int} {v : Int32} (hd : decode cc pc = .ok (.bipush z, 2)) (hv : (Int8.ofInt z).toInt32 = v) (kk : AW Γ k n (pc + 2) lv (.int v :: st) ws) : AW Γ k n pc lv st ws := by
  obtain ⟨p, l, e, R, s, m, args, below, meth, c, nL, D, A, Q⟩ := Γ
  obtain ⟨hEC, ⟨hx, hb, hml, hown, hts⟩, ⟨hK, hA, hE, ⟨hl0, hN, hl9, hD9⟩, hnl⟩, hr, hlk, hR, hnm⟩ := C
  intro ls H locs hl hP hD hS
  exact lv_bipush hx hb hd hv (kk ls H locs hl hP hD hS)
theorem a_sipush {Γ : XG} {l9 : Launch} {D9 : va_G} {cs : Nat → ClassId} {cc : ByteArray} {own nm : String} {nl : Nat} {ret : Option FieldType} {fr lo mc ms : Nat} {EC : XG → Prop} (C : CX Γ l9 D9 cs cc own nm nl ret fr lo mc ms EC) {k n pc : Nat} {lv : List (Nat × Value)} {st : List Value} {ws : va_W} {z : Int} {v : Int32} (hd : decode cc pc = .ok (.sipush z, 3)) (hv : (Int16.ofInt z).toInt32 = v) (kk : AW Γ k n (pc + 3) lv (.int v :: st) ws) : AW Γ k n pc lv st ws := by
  obtain ⟨p, l, e, R, s, m, args, below, meth, c, nL, D, A, Q⟩ := Γ
  obtain ⟨hEC, ⟨hx, hb, hml, hown, hts⟩, ⟨hK, hA, hE, ⟨hl0, hN, hl9, hD9⟩, hnl⟩, hr, hlk, hR, hnm⟩ := C
  intro ls H locs hl hP hD hS
  exact lv_sipush hx hb hd hv (kk ls H locs hl hP hD hS)
theorem a_lconst {Γ : XG} {l9 : Launch} {D9 : va_G} {cs : Nat → ClassId} {cc : ByteArray} {own nm : String} {nl : Nat} {ret : Option FieldType} {fr lo mc ms : Nat} {EC : XG → Prop} (C : CX Γ l9 D9 cs cc own nm nl ret fr lo mc ms EC) {k n pc : Nat} {lv : List (Nat × Value)} {st : List Value} {ws : va_W} {z : Fin 2} {v : Int64} (hd : decode cc pc = .ok (.lconst z, 1)) (hv : Int64.ofNat (z : Nat) = v) (kk : AW Γ k n (pc + 1) lv (.long v :: st) ws) : AW Γ k n pc lv st ws := by
  obtain ⟨p, l, e, R, s, m, args, below, meth, c, nL, D, A, Q⟩ := Γ
  obtain ⟨hEC, ⟨hx, hb, hml, hown, hts⟩, ⟨hK, hA, hE, ⟨hl0, hN, hl9, hD9⟩, hnl⟩, hr, hlk, hR, hnm⟩ := C
  intro ls H locs hl hP hD hS
  exact lv_lconst hx hb hd hv (kk ls H locs hl hP hD hS)
theorem a_dconst0 {Γ : XG} {l9 : Launch} {D9 : va_G} {cs : Nat → ClassId} {cc : ByteArray} {own nm : String} {nl : Nat} {ret : Option FieldType} {fr lo mc ms : Nat} {EC : XG → Prop} (C : CX Γ l9 D9 cs cc own nm nl ret fr lo mc ms EC) {k n pc : Nat} {lv : List (Nat × Value)} {st : List Value} {ws : va_W}  (hd : decode cc pc = .ok (.dconst 0, 1))  (kk : AW Γ k n (pc + 1) lv (.double FP.dconst0 :: st) ws) : AW Γ k n pc lv st ws := by
  obtain ⟨p, l, e, R, s, m, args, below, meth, c, nL, D, A, Q⟩ := Γ
  obtain ⟨hEC, ⟨hx, hb, hml, hown, hts⟩, ⟨hK, hA, hE, ⟨hl0, hN, hl9, hD9⟩, hnl⟩, hr, hlk, hR, hnm⟩ := C
  intro ls H locs hl hP hD hS
  exact lv_dconst0 hx hb hd  (kk ls H locs hl hP hD hS)
theorem a_dconst1 {Γ : XG} {l9 : Launch} {D9 : va_G} {cs : Nat → ClassId} {cc : ByteArray} {own nm : String} {nl : Nat} {ret : Option FieldType} {fr lo mc ms : Nat} {EC : XG → Prop} (C : CX Γ l9 D9 cs cc own nm nl ret fr lo mc ms EC) {k n pc : Nat} {lv : List (Nat × Value)} {st : List Value} {ws : va_W}  (hd : decode cc pc = .ok (.dconst 1, 1))  (kk : AW Γ k n (pc + 1) lv (.double FP.dconst1 :: st) ws) : AW Γ k n pc lv st ws := by
  obtain ⟨p, l, e, R, s, m, args, below, meth, c, nL, D, A, Q⟩ := Γ
  obtain ⟨hEC, ⟨hx, hb, hml, hown, hts⟩, ⟨hK, hA, hE, ⟨hl0, hN, hl9, hD9⟩, hnl⟩, hr, hlk, hR, hnm⟩ := C
  intro ls H locs hl hP hD hS
  exact lv_dconst1 hx hb hd  (kk ls H locs hl hP hD hS)
theorem a_iadd {Γ : XG} {l9 : Launch} {D9 : va_G} {cs : Nat → ClassId} {cc : ByteArray} {own nm : String} {nl : Nat} {ret : Option FieldType} {fr lo mc ms : Nat} {EC : XG → Prop} (C : CX Γ l9 D9 cs cc own nm nl ret fr lo mc ms EC) {k n pc : Nat} {lv : List (Nat × Value)} {st : List Value} {ws : va_W} {x y : Int32} (hd : decode cc pc = .ok (.iadd, 1))  (kk : AW Γ k n (pc + 1) lv (.int (x + y) :: st) ws) : AW Γ k n pc lv (.int y :: .int x :: st) ws := by
  obtain ⟨p, l, e, R, s, m, args, below, meth, c, nL, D, A, Q⟩ := Γ
  obtain ⟨hEC, ⟨hx, hb, hml, hown, hts⟩, ⟨hK, hA, hE, ⟨hl0, hN, hl9, hD9⟩, hnl⟩, hr, hlk, hR, hnm⟩ := C
  intro ls H locs hl hP hD hS
  exact lv_iadd hx hb hd  (kk ls H locs hl hP hD hS)
theorem a_isub {Γ : XG} {l9 : Launch} {D9 : va_G} {cs : Nat → ClassId} {cc : ByteArray} {own nm : String} {nl : Nat} {ret : Option FieldType} {fr lo mc ms : Nat} {EC : XG → Prop} (C : CX Γ l9 D9 cs cc own nm nl ret fr lo mc ms EC) {k n pc : Nat} {lv : List (Nat × Value)} {st : List Value} {ws : va_W} {x y : Int32} (hd : decode cc pc = .ok (.isub, 1))  (kk : AW Γ k n (pc + 1) lv (.int (x - y) :: st) ws) : AW Γ k n pc lv (.int y :: .int x :: st) ws := by
  obtain ⟨p, l, e, R, s, m, args, below, meth, c, nL, D, A, Q⟩ := Γ
  obtain ⟨hEC, ⟨hx, hb, hml, hown, hts⟩, ⟨hK, hA, hE, ⟨hl0, hN, hl9, hD9⟩, hnl⟩, hr, hlk, hR, hnm⟩ := C
  intro ls H locs hl hP hD hS
  exact lv_isub hx hb hd  (kk ls H locs hl hP hD hS)
theorem a_imul {Γ : XG} {l9 : Launch} {D9 : va_G} {cs : Nat → ClassId} {cc : ByteArray} {own nm : String} {nl : Nat} {ret : Option FieldType} {fr lo mc ms : Nat} {EC : XG → Prop} (C : CX Γ l9 D9 cs cc own nm nl ret fr lo mc ms EC) {k n pc : Nat} {lv : List (Nat × Value)} {st : List Value} {ws : va_W} {x y : Int32} (hd : decode cc pc = .ok (.imul, 1))  (kk : AW Γ k n (pc + 1) lv (.int (x * y) :: st) ws) : AW Γ k n pc lv (.int y :: .int x :: st) ws := by
  obtain ⟨p, l, e, R, s, m, args, below, meth, c, nL, D, A, Q⟩ := Γ
  obtain ⟨hEC, ⟨hx, hb, hml, hown, hts⟩, ⟨hK, hA, hE, ⟨hl0, hN, hl9, hD9⟩, hnl⟩, hr, hlk, hR, hnm⟩ := C
  intro ls H locs hl hP hD hS
  exact lv_imul hx hb hd  (kk ls H locs hl hP hD hS)
theorem a_iand {Γ : XG} {l9 : Launch} {D9 : va_G} {cs : Nat → ClassId} {cc : ByteArray} {own nm : String} {nl : Nat} {ret : Option FieldType} {fr lo mc ms : Nat} {EC : XG → Prop} (C : CX Γ l9 D9 cs cc own nm nl ret fr lo mc ms EC) {k n pc : Nat} {lv : List (Nat × Value)} {st : List Value} {ws : va_W} {x y : Int32} (hd : decode cc pc = .ok (.iand, 1))  (kk : AW Γ k n (pc + 1) lv (.int (x &&& y) :: st) ws) : AW Γ k n pc lv (.int y :: .int x :: st) ws := by
  obtain ⟨p, l, e, R, s, m, args, below, meth, c, nL, D, A, Q⟩ := Γ
  obtain ⟨hEC, ⟨hx, hb, hml, hown, hts⟩, ⟨hK, hA, hE, ⟨hl0, hN, hl9, hD9⟩, hnl⟩, hr, hlk, hR, hnm⟩ := C
  intro ls H locs hl hP hD hS
  exact lv_iand hx hb hd  (kk ls H locs hl hP hD hS)
theorem a_ior {Γ : XG} {l9 : Launch} {D9 : va_G} {cs : Nat → ClassId} {cc : ByteArray} {own nm : String} {nl : Nat} {ret : Option FieldType} {fr lo mc ms : Nat} {EC : XG → Prop} (C : CX Γ l9 D9 cs cc own nm nl ret fr lo mc ms EC) {k n pc : Nat} {lv : List (Nat × Value)} {st : List Value} {ws : va_W} {x y : Int32} (hd : decode cc pc = .ok (.ior, 1))  (kk : AW Γ k n (pc + 1) lv (.int (x ||| y) :: st) ws) : AW Γ k n pc lv (.int y :: .int x :: st) ws := by
  obtain ⟨p, l, e, R, s, m, args, below, meth, c, nL, D, A, Q⟩ := Γ
  obtain ⟨hEC, ⟨hx, hb, hml, hown, hts⟩, ⟨hK, hA, hE, ⟨hl0, hN, hl9, hD9⟩, hnl⟩, hr, hlk, hR, hnm⟩ := C
  intro ls H locs hl hP hD hS
  exact lv_ior hx hb hd  (kk ls H locs hl hP hD hS)
theorem a_ixor {Γ : XG} {l9 : Launch} {D9 : va_G} {cs : Nat → ClassId} {cc : ByteArray} {own nm : String} {nl : Nat} {ret : Option FieldType} {fr lo mc ms : Nat} {EC : XG → Prop} (C : CX Γ l9 D9 cs cc own nm nl ret fr lo mc ms EC) {k n pc : Nat} {lv : List (Nat × Value)} {st : List Value} {ws : va_W} {x y : Int32} (hd : decode cc pc = .ok (.ixor, 1))  (kk : AW Γ k n (pc + 1) lv (.int (x ^^^ y) :: st) ws) : AW Γ k n pc lv (.int y :: .int x :: st) ws := by
  obtain ⟨p, l, e, R, s, m, args, below, meth, c, nL, D, A, Q⟩ := Γ
  obtain ⟨hEC, ⟨hx, hb, hml, hown, hts⟩, ⟨hK, hA, hE, ⟨hl0, hN, hl9, hD9⟩, hnl⟩, hr, hlk, hR, hnm⟩ := C
  intro ls H locs hl hP hD hS
  exact lv_ixor hx hb hd  (kk ls H locs hl hP hD hS)
theorem a_ishl {Γ : XG} {l9 : Launch} {D9 : va_G} {cs : Nat → ClassId} {cc : ByteArray} {own nm : String} {nl : Nat} {ret : Option FieldType} {fr lo mc ms : Nat} {EC : XG → Prop} (C : CX Γ l9 D9 cs cc own nm nl ret fr lo mc ms EC) {k n pc : Nat} {lv : List (Nat × Value)} {st : List Value} {ws : va_W} {x y : Int32} (hd : decode cc pc = .ok (.ishl, 1))  (kk : AW Γ k n (pc + 1) lv (.int (x <<< (y &&& 31)) :: st) ws) : AW Γ k n pc lv (.int y :: .int x :: st) ws := by
  obtain ⟨p, l, e, R, s, m, args, below, meth, c, nL, D, A, Q⟩ := Γ
  obtain ⟨hEC, ⟨hx, hb, hml, hown, hts⟩, ⟨hK, hA, hE, ⟨hl0, hN, hl9, hD9⟩, hnl⟩, hr, hlk, hR, hnm⟩ := C
  intro ls H locs hl hP hD hS
  exact lv_ishl hx hb hd  (kk ls H locs hl hP hD hS)
theorem a_ishr {Γ : XG} {l9 : Launch} {D9 : va_G} {cs : Nat → ClassId} {cc : ByteArray} {own nm : String} {nl : Nat} {ret : Option FieldType} {fr lo mc ms : Nat} {EC : XG → Prop} (C : CX Γ l9 D9 cs cc own nm nl ret fr lo mc ms EC) {k n pc : Nat} {lv : List (Nat × Value)} {st : List Value} {ws : va_W} {x y : Int32} (hd : decode cc pc = .ok (.ishr, 1))  (kk : AW Γ k n (pc + 1) lv (.int (x >>> (y &&& 31)) :: st) ws) : AW Γ k n pc lv (.int y :: .int x :: st) ws := by
  obtain ⟨p, l, e, R, s, m, args, below, meth, c, nL, D, A, Q⟩ := Γ
  obtain ⟨hEC, ⟨hx, hb, hml, hown, hts⟩, ⟨hK, hA, hE, ⟨hl0, hN, hl9, hD9⟩, hnl⟩, hr, hlk, hR, hnm⟩ := C
  intro ls H locs hl hP hD hS
  exact lv_ishr hx hb hd  (kk ls H locs hl hP hD hS)
theorem a_iushr {Γ : XG} {l9 : Launch} {D9 : va_G} {cs : Nat → ClassId} {cc : ByteArray} {own nm : String} {nl : Nat} {ret : Option FieldType} {fr lo mc ms : Nat} {EC : XG → Prop} (C : CX Γ l9 D9 cs cc own nm nl ret fr lo mc ms EC) {k n pc : Nat} {lv : List (Nat × Value)} {st : List Value} {ws : va_W} {x y : Int32} (hd : decode cc pc = .ok (.iushr, 1))  (kk : AW Γ k n (pc + 1) lv (.int ((x.toUInt32 >>> (y.toUInt32 &&& Int32.toUInt32 31)).toInt32) :: st) ws) : AW Γ k n pc lv (.int y :: .int x :: st) ws := by
  obtain ⟨p, l, e, R, s, m, args, below, meth, c, nL, D, A, Q⟩ := Γ
  obtain ⟨hEC, ⟨hx, hb, hml, hown, hts⟩, ⟨hK, hA, hE, ⟨hl0, hN, hl9, hD9⟩, hnl⟩, hr, hlk, hR, hnm⟩ := C
  intro ls H locs hl hP hD hS
  exact lv_iushr hx hb hd rfl (kk ls H locs hl hP hD hS)
theorem a_ladd {Γ : XG} {l9 : Launch} {D9 : va_G} {cs : Nat → ClassId} {cc : ByteArray} {own nm : String} {nl : Nat} {ret : Option FieldType} {fr lo mc ms : Nat} {EC : XG → Prop} (C : CX Γ l9 D9 cs cc own nm nl ret fr lo mc ms EC) {k n pc : Nat} {lv : List (Nat × Value)} {st : List Value} {ws : va_W} {x y : Int64} (hd : decode cc pc = .ok (.ladd, 1))  (kk : AW Γ k n (pc + 1) lv (.long (x + y) :: st) ws) : AW Γ k n pc lv (.long y :: .long x :: st) ws := by
  obtain ⟨p, l, e, R, s, m, args, below, meth, c, nL, D, A, Q⟩ := Γ
  obtain ⟨hEC, ⟨hx, hb, hml, hown, hts⟩, ⟨hK, hA, hE, ⟨hl0, hN, hl9, hD9⟩, hnl⟩, hr, hlk, hR, hnm⟩ := C
  intro ls H locs hl hP hD hS
  exact lv_ladd hx hb hd  (kk ls H locs hl hP hD hS)
theorem a_lsub {Γ : XG} {l9 : Launch} {D9 : va_G} {cs : Nat → ClassId} {cc : ByteArray} {own nm : String} {nl : Nat} {ret : Option FieldType} {fr lo mc ms : Nat} {EC : XG → Prop} (C : CX Γ l9 D9 cs cc own nm nl ret fr lo mc ms EC) {k n pc : Nat} {lv : List (Nat × Value)} {st : List Value} {ws : va_W} {x y : Int64} (hd : decode cc pc = .ok (.lsub, 1))  (kk : AW Γ k n (pc + 1) lv (.long (x - y) :: st) ws) : AW Γ k n pc lv (.long y :: .long x :: st) ws := by
  obtain ⟨p, l, e, R, s, m, args, below, meth, c, nL, D, A, Q⟩ := Γ
  obtain ⟨hEC, ⟨hx, hb, hml, hown, hts⟩, ⟨hK, hA, hE, ⟨hl0, hN, hl9, hD9⟩, hnl⟩, hr, hlk, hR, hnm⟩ := C
  intro ls H locs hl hP hD hS
  exact lv_lsub hx hb hd  (kk ls H locs hl hP hD hS)
theorem a_lmul {Γ : XG} {l9 : Launch} {D9 : va_G} {cs : Nat → ClassId} {cc : ByteArray} {own nm : String} {nl : Nat} {ret : Option FieldType} {fr lo mc ms : Nat} {EC : XG → Prop} (C : CX Γ l9 D9 cs cc own nm nl ret fr lo mc ms EC) {k n pc : Nat} {lv : List (Nat × Value)} {st : List Value} {ws : va_W} {x y : Int64} (hd : decode cc pc = .ok (.lmul, 1))  (kk : AW Γ k n (pc + 1) lv (.long (x * y) :: st) ws) : AW Γ k n pc lv (.long y :: .long x :: st) ws := by
  obtain ⟨p, l, e, R, s, m, args, below, meth, c, nL, D, A, Q⟩ := Γ
  obtain ⟨hEC, ⟨hx, hb, hml, hown, hts⟩, ⟨hK, hA, hE, ⟨hl0, hN, hl9, hD9⟩, hnl⟩, hr, hlk, hR, hnm⟩ := C
  intro ls H locs hl hP hD hS
  exact lv_lmul hx hb hd  (kk ls H locs hl hP hD hS)
theorem a_land {Γ : XG} {l9 : Launch} {D9 : va_G} {cs : Nat → ClassId} {cc : ByteArray} {own nm : String} {nl : Nat} {ret : Option FieldType} {fr lo mc ms : Nat} {EC : XG → Prop} (C : CX Γ l9 D9 cs cc own nm nl ret fr lo mc ms EC) {k n pc : Nat} {lv : List (Nat × Value)} {st : List Value} {ws : va_W} {x y : Int64} (hd : decode cc pc = .ok (.land, 1))  (kk : AW Γ k n (pc + 1) lv (.long (x &&& y) :: st) ws) : AW Γ k n pc lv (.long y :: .long x :: st) ws := by
  obtain ⟨p, l, e, R, s, m, args, below, meth, c, nL, D, A, Q⟩ := Γ
  obtain ⟨hEC, ⟨hx, hb, hml, hown, hts⟩, ⟨hK, hA, hE, ⟨hl0, hN, hl9, hD9⟩, hnl⟩, hr, hlk, hR, hnm⟩ := C
  intro ls H locs hl hP hD hS
  exact lv_land hx hb hd  (kk ls H locs hl hP hD hS)
theorem a_lor {Γ : XG} {l9 : Launch} {D9 : va_G} {cs : Nat → ClassId} {cc : ByteArray} {own nm : String} {nl : Nat} {ret : Option FieldType} {fr lo mc ms : Nat} {EC : XG → Prop} (C : CX Γ l9 D9 cs cc own nm nl ret fr lo mc ms EC) {k n pc : Nat} {lv : List (Nat × Value)} {st : List Value} {ws : va_W} {x y : Int64} (hd : decode cc pc = .ok (.lor, 1))  (kk : AW Γ k n (pc + 1) lv (.long (x ||| y) :: st) ws) : AW Γ k n pc lv (.long y :: .long x :: st) ws := by
  obtain ⟨p, l, e, R, s, m, args, below, meth, c, nL, D, A, Q⟩ := Γ
  obtain ⟨hEC, ⟨hx, hb, hml, hown, hts⟩, ⟨hK, hA, hE, ⟨hl0, hN, hl9, hD9⟩, hnl⟩, hr, hlk, hR, hnm⟩ := C
  intro ls H locs hl hP hD hS
  exact lv_lor hx hb hd  (kk ls H locs hl hP hD hS)
theorem a_lxor {Γ : XG} {l9 : Launch} {D9 : va_G} {cs : Nat → ClassId} {cc : ByteArray} {own nm : String} {nl : Nat} {ret : Option FieldType} {fr lo mc ms : Nat} {EC : XG → Prop} (C : CX Γ l9 D9 cs cc own nm nl ret fr lo mc ms EC) {k n pc : Nat} {lv : List (Nat × Value)} {st : List Value} {ws : va_W} {x y : Int64} (hd : decode cc pc = .ok (.lxor, 1))  (kk : AW Γ k n (pc + 1) lv (.long (x ^^^ y) :: st) ws) : AW Γ k n pc lv (.long y :: .long x :: st) ws := by
  obtain ⟨p, l, e, R, s, m, args, below, meth, c, nL, D, A, Q⟩ := Γ
  obtain ⟨hEC, ⟨hx, hb, hml, hown, hts⟩, ⟨hK, hA, hE, ⟨hl0, hN, hl9, hD9⟩, hnl⟩, hr, hlk, hR, hnm⟩ := C
  intro ls H locs hl hP hD hS
  exact lv_lxor hx hb hd  (kk ls H locs hl hP hD hS)
theorem a_lshl {Γ : XG} {l9 : Launch} {D9 : va_G} {cs : Nat → ClassId} {cc : ByteArray} {own nm : String} {nl : Nat} {ret : Option FieldType} {fr lo mc ms : Nat} {EC : XG → Prop} (C : CX Γ l9 D9 cs cc own nm nl ret fr lo mc ms EC) {k n pc : Nat} {lv : List (Nat × Value)} {st : List Value} {ws : va_W} {x : Int64} {y : Int32} (hd : decode cc pc = .ok (.lshl, 1))  (kk : AW Γ k n (pc + 1) lv (.long (x <<< (y.toInt64 &&& 63)) :: st) ws) : AW Γ k n pc lv (.int y :: .long x :: st) ws := by
  obtain ⟨p, l, e, R, s, m, args, below, meth, c, nL, D, A, Q⟩ := Γ
  obtain ⟨hEC, ⟨hx, hb, hml, hown, hts⟩, ⟨hK, hA, hE, ⟨hl0, hN, hl9, hD9⟩, hnl⟩, hr, hlk, hR, hnm⟩ := C
  intro ls H locs hl hP hD hS
  exact lv_lshl hx hb hd rfl (kk ls H locs hl hP hD hS)
theorem a_lshr {Γ : XG} {l9 : Launch} {D9 : va_G} {cs : Nat → ClassId} {cc : ByteArray} {own nm : String} {nl : Nat} {ret : Option FieldType} {fr lo mc ms : Nat} {EC : XG → Prop} (C : CX Γ l9 D9 cs cc own nm nl ret fr lo mc ms EC) {k n pc : Nat} {lv : List (Nat × Value)} {st : List Value} {ws : va_W} {x : Int64} {y : Int32} (hd : decode cc pc = .ok (.lshr, 1))  (kk : AW Γ k n (pc + 1) lv (.long (x >>> (y.toInt64 &&& 63)) :: st) ws) : AW Γ k n pc lv (.int y :: .long x :: st) ws := by
  obtain ⟨p, l, e, R, s, m, args, below, meth, c, nL, D, A, Q⟩ := Γ
  obtain ⟨hEC, ⟨hx, hb, hml, hown, hts⟩, ⟨hK, hA, hE, ⟨hl0, hN, hl9, hD9⟩, hnl⟩, hr, hlk, hR, hnm⟩ := C
  intro ls H locs hl hP hD hS
  exact lv_lshr hx hb hd rfl (kk ls H locs hl hP hD hS)
theorem a_lushr {Γ : XG} {l9 : Launch} {D9 : va_G} {cs : Nat → ClassId} {cc : ByteArray} {own nm : String} {nl : Nat} {ret : Option FieldType} {fr lo mc ms : Nat} {EC : XG → Prop} (C : CX Γ l9 D9 cs cc own nm nl ret fr lo mc ms EC) {k n pc : Nat} {lv : List (Nat × Value)} {st : List Value} {ws : va_W} {x : Int64} {y : Int32} (hd : decode cc pc = .ok (.lushr, 1))  (kk : AW Γ k n (pc + 1) lv (.long ((x.toUInt64 >>> (y.toInt64.toUInt64 &&& Int64.toUInt64 63)).toInt64) :: st) ws) : AW Γ k n pc lv (.int y :: .long x :: st) ws := by
  obtain ⟨p, l, e, R, s, m, args, below, meth, c, nL, D, A, Q⟩ := Γ
  obtain ⟨hEC, ⟨hx, hb, hml, hown, hts⟩, ⟨hK, hA, hE, ⟨hl0, hN, hl9, hD9⟩, hnl⟩, hr, hlk, hR, hnm⟩ := C
  intro ls H locs hl hP hD hS
  exact lv_lushr hx hb hd rfl (kk ls H locs hl hP hD hS)
theorem a_idiv {Γ : XG} {l9 : Launch} {D9 : va_G} {cs : Nat → ClassId} {cc : ByteArray} {own nm : String} {nl : Nat} {ret : Option FieldType} {fr lo mc ms : Nat} {EC : XG → Prop} (C : CX Γ l9 D9 cs cc own nm nl ret fr lo mc ms EC) {k n pc : Nat} {lv : List (Nat × Value)} {st : List Value} {ws : va_W} {x y : Int32} (hd : decode cc pc = .ok (.idiv, 1)) (hne : ¬ y = 0) (kk : AW Γ k n (pc + 1) lv (.int (x / y) :: st) ws) : AW Γ k n pc lv (.int y :: .int x :: st) ws := by
  obtain ⟨p, l, e, R, s, m, args, below, meth, c, nL, D, A, Q⟩ := Γ
  obtain ⟨hEC, ⟨hx, hb, hml, hown, hts⟩, ⟨hK, hA, hE, ⟨hl0, hN, hl9, hD9⟩, hnl⟩, hr, hlk, hR, hnm⟩ := C
  intro ls H locs hl hP hD hS
  exact lv_idiv hx hb hd hne (kk ls H locs hl hP hD hS)
theorem a_irem {Γ : XG} {l9 : Launch} {D9 : va_G} {cs : Nat → ClassId} {cc : ByteArray} {own nm : String} {nl : Nat} {ret : Option FieldType} {fr lo mc ms : Nat} {EC : XG → Prop} (C : CX Γ l9 D9 cs cc own nm nl ret fr lo mc ms EC) {k n pc : Nat} {lv : List (Nat × Value)} {st : List Value} {ws : va_W} {x y : Int32} (hd : decode cc pc = .ok (.irem, 1)) (hne : ¬ y = 0) (kk : AW Γ k n (pc + 1) lv (.int (x - x / y * y) :: st) ws) : AW Γ k n pc lv (.int y :: .int x :: st) ws := by
  obtain ⟨p, l, e, R, s, m, args, below, meth, c, nL, D, A, Q⟩ := Γ
  obtain ⟨hEC, ⟨hx, hb, hml, hown, hts⟩, ⟨hK, hA, hE, ⟨hl0, hN, hl9, hD9⟩, hnl⟩, hr, hlk, hR, hnm⟩ := C
  intro ls H locs hl hP hD hS
  exact lv_irem hx hb hd hne (kk ls H locs hl hP hD hS)
theorem a_lrem {Γ : XG} {l9 : Launch} {D9 : va_G} {cs : Nat → ClassId} {cc : ByteArray} {own nm : String} {nl : Nat} {ret : Option FieldType} {fr lo mc ms : Nat} {EC : XG → Prop} (C : CX Γ l9 D9 cs cc own nm nl ret fr lo mc ms EC) {k n pc : Nat} {lv : List (Nat × Value)} {st : List Value} {ws : va_W} {x y : Int64} (hd : decode cc pc = .ok (.lrem, 1)) (hne : ¬ y = 0) (kk : AW Γ k n (pc + 1) lv (.long (x - x / y * y) :: st) ws) : AW Γ k n pc lv (.long y :: .long x :: st) ws := by
  obtain ⟨p, l, e, R, s, m, args, below, meth, c, nL, D, A, Q⟩ := Γ
  obtain ⟨hEC, ⟨hx, hb, hml, hown, hts⟩, ⟨hK, hA, hE, ⟨hl0, hN, hl9, hD9⟩, hnl⟩, hr, hlk, hR, hnm⟩ := C
  intro ls H locs hl hP hD hS
  exact lv_lrem hx hb hd hne (kk ls H locs hl hP hD hS)
theorem a_i2l {Γ : XG} {l9 : Launch} {D9 : va_G} {cs : Nat → ClassId} {cc : ByteArray} {own nm : String} {nl : Nat} {ret : Option FieldType} {fr lo mc ms : Nat} {EC : XG → Prop} (C : CX Γ l9 D9 cs cc own nm nl ret fr lo mc ms EC) {k n pc : Nat} {lv : List (Nat × Value)} {st : List Value} {ws : va_W} {x : Int32} (hd : decode cc pc = .ok (.i2l, 1))  (kk : AW Γ k n (pc + 1) lv (.long x.toInt64 :: st) ws) : AW Γ k n pc lv (.int x :: st) ws := by
  obtain ⟨p, l, e, R, s, m, args, below, meth, c, nL, D, A, Q⟩ := Γ
  obtain ⟨hEC, ⟨hx, hb, hml, hown, hts⟩, ⟨hK, hA, hE, ⟨hl0, hN, hl9, hD9⟩, hnl⟩, hr, hlk, hR, hnm⟩ := C
  intro ls H locs hl hP hD hS
  exact lv_i2l hx hb hd rfl (kk ls H locs hl hP hD hS)
theorem a_l2i {Γ : XG} {l9 : Launch} {D9 : va_G} {cs : Nat → ClassId} {cc : ByteArray} {own nm : String} {nl : Nat} {ret : Option FieldType} {fr lo mc ms : Nat} {EC : XG → Prop} (C : CX Γ l9 D9 cs cc own nm nl ret fr lo mc ms EC) {k n pc : Nat} {lv : List (Nat × Value)} {st : List Value} {ws : va_W} {x : Int64} (hd : decode cc pc = .ok (.l2i, 1))  (kk : AW Γ k n (pc + 1) lv (.int x.toInt32 :: st) ws) : AW Γ k n pc lv (.long x :: st) ws := by
  obtain ⟨p, l, e, R, s, m, args, below, meth, c, nL, D, A, Q⟩ := Γ
  obtain ⟨hEC, ⟨hx, hb, hml, hown, hts⟩, ⟨hK, hA, hE, ⟨hl0, hN, hl9, hD9⟩, hnl⟩, hr, hlk, hR, hnm⟩ := C
  intro ls H locs hl hP hD hS
  exact lv_l2i hx hb hd rfl (kk ls H locs hl hP hD hS)
theorem a_i2b {Γ : XG} {l9 : Launch} {D9 : va_G} {cs : Nat → ClassId} {cc : ByteArray} {own nm : String} {nl : Nat} {ret : Option FieldType} {fr lo mc ms : Nat} {EC : XG → Prop} (C : CX Γ l9 D9 cs cc own nm nl ret fr lo mc ms EC) {k n pc : Nat} {lv : List (Nat × Value)} {st : List Value} {ws : va_W} {x : Int32} (hd : decode cc pc = .ok (.i2b, 1))  (kk : AW Γ k n (pc + 1) lv (.int x.toInt8.toInt32 :: st) ws) : AW Γ k n pc lv (.int x :: st) ws := by
  obtain ⟨p, l, e, R, s, m, args, below, meth, c, nL, D, A, Q⟩ := Γ
  obtain ⟨hEC, ⟨hx, hb, hml, hown, hts⟩, ⟨hK, hA, hE, ⟨hl0, hN, hl9, hD9⟩, hnl⟩, hr, hlk, hR, hnm⟩ := C
  intro ls H locs hl hP hD hS
  exact lv_i2b hx hb hd rfl (kk ls H locs hl hP hD hS)
theorem a_i2d {Γ : XG} {l9 : Launch} {D9 : va_G} {cs : Nat → ClassId} {cc : ByteArray} {own nm : String} {nl : Nat} {ret : Option FieldType} {fr lo mc ms : Nat} {EC : XG → Prop} (C : CX Γ l9 D9 cs cc own nm nl ret fr lo mc ms EC) {k n pc : Nat} {lv : List (Nat × Value)} {st : List Value} {ws : va_W} {x : Int32} (hd : decode cc pc = .ok (.i2d, 1))  (kk : AW Γ k n (pc + 1) lv (.double (FP.i2d x) :: st) ws) : AW Γ k n pc lv (.int x :: st) ws := by
  obtain ⟨p, l, e, R, s, m, args, below, meth, c, nL, D, A, Q⟩ := Γ
  obtain ⟨hEC, ⟨hx, hb, hml, hown, hts⟩, ⟨hK, hA, hE, ⟨hl0, hN, hl9, hD9⟩, hnl⟩, hr, hlk, hR, hnm⟩ := C
  intro ls H locs hl hP hD hS
  exact lv_i2d hx hb hd  (kk ls H locs hl hP hD hS)
theorem a_d2i {Γ : XG} {l9 : Launch} {D9 : va_G} {cs : Nat → ClassId} {cc : ByteArray} {own nm : String} {nl : Nat} {ret : Option FieldType} {fr lo mc ms : Nat} {EC : XG → Prop} (C : CX Γ l9 D9 cs cc own nm nl ret fr lo mc ms EC) {k n pc : Nat} {lv : List (Nat × Value)} {st : List Value} {ws : va_W} {x : UInt64} (hd : decode cc pc = .ok (.d2i, 1))  (kk : AW Γ k n (pc + 1) lv (.int (FP.d2i x) :: st) ws) : AW Γ k n pc lv (.double x :: st) ws := by
  obtain ⟨p, l, e, R, s, m, args, below, meth, c, nL, D, A, Q⟩ := Γ
  obtain ⟨hEC, ⟨hx, hb, hml, hown, hts⟩, ⟨hK, hA, hE, ⟨hl0, hN, hl9, hD9⟩, hnl⟩, hr, hlk, hR, hnm⟩ := C
  intro ls H locs hl hP hD hS
  exact lv_d2i hx hb hd  (kk ls H locs hl hP hD hS)
theorem a_dadd {Γ : XG} {l9 : Launch} {D9 : va_G} {cs : Nat → ClassId} {cc : ByteArray} {own nm : String} {nl : Nat} {ret : Option FieldType} {fr lo mc ms : Nat} {EC : XG → Prop} (C : CX Γ l9 D9 cs cc own nm nl ret fr lo mc ms EC) {k n pc : Nat} {lv : List (Nat × Value)} {st : List Value} {ws : va_W} {x y : UInt64} (hd : decode cc pc = .ok (.dadd, 1)) (hne : vf_n64 (FP.dadd x y)) (kk : AW Γ k n (pc + 1) lv (.double (FP.dadd x y) :: st) ws) : AW Γ k n pc lv (.double y :: .double x :: st) ws := by
  obtain ⟨p, l, e, R, s, m, args, below, meth, c, nL, D, A, Q⟩ := Γ
  obtain ⟨hEC, ⟨hx, hb, hml, hown, hts⟩, ⟨hK, hA, hE, ⟨hl0, hN, hl9, hD9⟩, hnl⟩, hr, hlk, hR, hnm⟩ := C
  intro ls H locs hl hP hD hS
  exact lv_dadd hx hb hd hne (kk ls H locs hl hP hD hS)
theorem a_dsub {Γ : XG} {l9 : Launch} {D9 : va_G} {cs : Nat → ClassId} {cc : ByteArray} {own nm : String} {nl : Nat} {ret : Option FieldType} {fr lo mc ms : Nat} {EC : XG → Prop} (C : CX Γ l9 D9 cs cc own nm nl ret fr lo mc ms EC) {k n pc : Nat} {lv : List (Nat × Value)} {st : List Value} {ws : va_W} {x y : UInt64} (hd : decode cc pc = .ok (.dsub, 1)) (hne : vf_n64 (FP.dsub x y)) (kk : AW Γ k n (pc + 1) lv (.double (FP.dsub x y) :: st) ws) : AW Γ k n pc lv (.double y :: .double x :: st) ws := by
  obtain ⟨p, l, e, R, s, m, args, below, meth, c, nL, D, A, Q⟩ := Γ
  obtain ⟨hEC, ⟨hx, hb, hml, hown, hts⟩, ⟨hK, hA, hE, ⟨hl0, hN, hl9, hD9⟩, hnl⟩, hr, hlk, hR, hnm⟩ := C
  intro ls H locs hl hP hD hS
  exact lv_dsub hx hb hd hne (kk ls H locs hl hP hD hS)
theorem a_dmul {Γ : XG} {l9 : Launch} {D9 : va_G} {cs : Nat → ClassId} {cc : ByteArray} {own nm : String} {nl : Nat} {ret : Option FieldType} {fr lo mc ms : Nat} {EC : XG → Prop} (C : CX Γ l9 D9 cs cc own nm nl ret fr lo mc ms EC) {k n pc : Nat} {lv : List (Nat × Value)} {st : List Value} {ws : va_W} {x y : UInt64} (hd : decode cc pc = .ok (.dmul, 1)) (hne : vf_n64 (FP.dmul x y)) (kk : AW Γ k n (pc + 1) lv (.double (FP.dmul x y) :: st) ws) : AW Γ k n pc lv (.double y :: .double x :: st) ws := by
  obtain ⟨p, l, e, R, s, m, args, below, meth, c, nL, D, A, Q⟩ := Γ
  obtain ⟨hEC, ⟨hx, hb, hml, hown, hts⟩, ⟨hK, hA, hE, ⟨hl0, hN, hl9, hD9⟩, hnl⟩, hr, hlk, hR, hnm⟩ := C
  intro ls H locs hl hP hD hS
  exact lv_dmul hx hb hd hne (kk ls H locs hl hP hD hS)
theorem a_ddiv {Γ : XG} {l9 : Launch} {D9 : va_G} {cs : Nat → ClassId} {cc : ByteArray} {own nm : String} {nl : Nat} {ret : Option FieldType} {fr lo mc ms : Nat} {EC : XG → Prop} (C : CX Γ l9 D9 cs cc own nm nl ret fr lo mc ms EC) {k n pc : Nat} {lv : List (Nat × Value)} {st : List Value} {ws : va_W} {x y : UInt64} (hd : decode cc pc = .ok (.ddiv, 1)) (hne : vf_n64 (FP.ddiv x y)) (kk : AW Γ k n (pc + 1) lv (.double (FP.ddiv x y) :: st) ws) : AW Γ k n pc lv (.double y :: .double x :: st) ws := by
  obtain ⟨p, l, e, R, s, m, args, below, meth, c, nL, D, A, Q⟩ := Γ
  obtain ⟨hEC, ⟨hx, hb, hml, hown, hts⟩, ⟨hK, hA, hE, ⟨hl0, hN, hl9, hD9⟩, hnl⟩, hr, hlk, hR, hnm⟩ := C
  intro ls H locs hl hP hD hS
  exact lv_ddiv hx hb hd hne (kk ls H locs hl hP hD hS)
theorem a_dcmp {Γ : XG} {l9 : Launch} {D9 : va_G} {cs : Nat → ClassId} {cc : ByteArray} {own nm : String} {nl : Nat} {ret : Option FieldType} {fr lo mc ms : Nat} {EC : XG → Prop} (C : CX Γ l9 D9 cs cc own nm nl ret fr lo mc ms EC) {k n pc : Nat} {lv : List (Nat × Value)} {st : List Value} {ws : va_W} {x y : UInt64} {op : CmpOp} (hd : decode cc pc = .ok (.dcmp op, 1))  (kk : AW Γ k n (pc + 1) lv (.int (Op.cmpValue (FP.dcmp x y) op) :: st) ws) : AW Γ k n pc lv (.double y :: .double x :: st) ws := by
  obtain ⟨p, l, e, R, s, m, args, below, meth, c, nL, D, A, Q⟩ := Γ
  obtain ⟨hEC, ⟨hx, hb, hml, hown, hts⟩, ⟨hK, hA, hE, ⟨hl0, hN, hl9, hD9⟩, hnl⟩, hr, hlk, hR, hnm⟩ := C
  intro ls H locs hl hP hD hS
  exact lv_dcmp hx hb hd  (kk ls H locs hl hP hD hS)
theorem a_dup {Γ : XG} {l9 : Launch} {D9 : va_G} {cs : Nat → ClassId} {cc : ByteArray} {own nm : String} {nl : Nat} {ret : Option FieldType} {fr lo mc ms : Nat} {EC : XG → Prop} (C : CX Γ l9 D9 cs cc own nm nl ret fr lo mc ms EC) {k n pc : Nat} {lv : List (Nat × Value)} {st : List Value} {ws : va_W} {v : Value} (hd : decode cc pc = .ok (.dup, 1)) (h1 : v.category = 1) (kk : AW Γ k n (pc + 1) lv (v :: v :: st) ws) : AW Γ k n pc lv (v :: st) ws := by
  obtain ⟨p, l, e, R, s, m, args, below, meth, c, nL, D, A, Q⟩ := Γ
  obtain ⟨hEC, ⟨hx, hb, hml, hown, hts⟩, ⟨hK, hA, hE, ⟨hl0, hN, hl9, hD9⟩, hnl⟩, hr, hlk, hR, hnm⟩ := C
  intro ls H locs hl hP hD hS
  exact lv_dup hx hb hd h1 (kk ls H locs hl hP hD hS)
theorem a_pop {Γ : XG} {l9 : Launch} {D9 : va_G} {cs : Nat → ClassId} {cc : ByteArray} {own nm : String} {nl : Nat} {ret : Option FieldType} {fr lo mc ms : Nat} {EC : XG → Prop} (C : CX Γ l9 D9 cs cc own nm nl ret fr lo mc ms EC) {k n pc : Nat} {lv : List (Nat × Value)} {st : List Value} {ws : va_W} {v : Value} (hd : decode cc pc = .ok (.pop, 1)) (h1 : v.category = 1) (kk : AW Γ k n (pc + 1) lv st ws) : AW Γ k n pc lv (v :: st) ws := by
  obtain ⟨p, l, e, R, s, m, args, below, meth, c, nL, D, A, Q⟩ := Γ
  obtain ⟨hEC, ⟨hx, hb, hml, hown, hts⟩, ⟨hK, hA, hE, ⟨hl0, hN, hl9, hD9⟩, hnl⟩, hr, hlk, hR, hnm⟩ := C
  intro ls H locs hl hP hD hS
  exact lv_pop hx hb hd h1 (kk ls H locs hl hP hD hS)
theorem a_dup2 {Γ : XG} {l9 : Launch} {D9 : va_G} {cs : Nat → ClassId} {cc : ByteArray} {own nm : String} {nl : Nat} {ret : Option FieldType} {fr lo mc ms : Nat} {EC : XG → Prop} (C : CX Γ l9 D9 cs cc own nm nl ret fr lo mc ms EC) {k n pc : Nat} {lv : List (Nat × Value)} {st : List Value} {ws : va_W} {u v : Value} (hd : decode cc pc = .ok (.dup2, 1)) (h1 : u.category = 1) (h2 : v.category = 1) (kk : AW Γ k n (pc + 1) lv (u :: v :: u :: v :: st) ws) : AW Γ k n pc lv (u :: v :: st) ws := by
  obtain ⟨p, l, e, R, s, m, args, below, meth, c, nL, D, A, Q⟩ := Γ
  obtain ⟨hEC, ⟨hx, hb, hml, hown, hts⟩, ⟨hK, hA, hE, ⟨hl0, hN, hl9, hD9⟩, hnl⟩, hr, hlk, hR, hnm⟩ := C
  intro ls H locs hl hP hD hS
  exact lv_dup2_11 hx hb hd h1 h2 (kk ls H locs hl hP hD hS)
theorem a_iload_n {Γ : XG} {l9 : Launch} {D9 : va_G} {cs : Nat → ClassId} {cc : ByteArray} {own nm : String} {nl : Nat} {ret : Option FieldType} {fr lo mc ms : Nat} {EC : XG → Prop} (C : CX Γ l9 D9 cs cc own nm nl ret fr lo mc ms EC) {k n pc : Nat} {lv : List (Nat × Value)} {st : List Value} {ws : va_W} {j : Fin 4} {i : Nat} {x : Int32} (q : Nat) (hd : decode cc pc = .ok (.iload_n j, 1)) (hi : (j : Nat) = i) (hq : lv[q]? = some (i, .int x)) (kk : AW Γ k n (pc + 1) lv (.int x :: st) ws) : AW Γ k n pc lv st ws := by
  obtain ⟨p, l, e, R, s, m, args, below, meth, c, nL, D, A, Q⟩ := Γ
  obtain ⟨hEC, ⟨hx, hb, hml, hown, hts⟩, ⟨hK, hA, hE, ⟨hl0, hN, hl9, hD9⟩, hnl⟩, hr, hlk, hR, hnm⟩ := C
  intro ls H locs hl hP hD hS
  exact lv_iload_n hx hb hd hi (lv_at hl q hq) (kk ls H locs hl hP hD hS)
theorem a_iload {Γ : XG} {l9 : Launch} {D9 : va_G} {cs : Nat → ClassId} {cc : ByteArray} {own nm : String} {nl : Nat} {ret : Option FieldType} {fr lo mc ms : Nat} {EC : XG → Prop} (C : CX Γ l9 D9 cs cc own nm nl ret fr lo mc ms EC) {k n pc : Nat} {lv : List (Nat × Value)} {st : List Value} {ws : va_W} {i : Nat} {x : Int32} (q : Nat) (hd : decode cc pc = .ok (.iload i, 2)) (hq : lv[q]? = some (i, .int x)) (kk : AW Γ k n (pc + 2) lv (.int x :: st) ws) : AW Γ k n pc lv st ws := by
  obtain ⟨p, l, e, R, s, m, args, below, meth, c, nL, D, A, Q⟩ := Γ
  obtain ⟨hEC, ⟨hx, hb, hml, hown, hts⟩, ⟨hK, hA, hE, ⟨hl0, hN, hl9, hD9⟩, hnl⟩, hr, hlk, hR, hnm⟩ := C
  intro ls H locs hl hP hD hS
  exact lv_iload hx hb hd (lv_at hl q hq) (kk ls H locs hl hP hD hS)
theorem a_lload_n {Γ : XG} {l9 : Launch} {D9 : va_G} {cs : Nat → ClassId} {cc : ByteArray} {own nm : String} {nl : Nat} {ret : Option FieldType} {fr lo mc ms : Nat} {EC : XG → Prop} (C : CX Γ l9 D9 cs cc own nm nl ret fr lo mc ms EC) {k n pc : Nat} {lv : List (Nat × Value)} {st : List Value} {ws : va_W} {j : Fin 4} {i : Nat} {x : Int64} (q : Nat) (hd : decode cc pc = .ok (.lload_n j, 1)) (hi : (j : Nat) = i) (hq : lv[q]? = some (i, .long x)) (kk : AW Γ k n (pc + 1) lv (.long x :: st) ws) : AW Γ k n pc lv st ws := by
  obtain ⟨p, l, e, R, s, m, args, below, meth, c, nL, D, A, Q⟩ := Γ
  obtain ⟨hEC, ⟨hx, hb, hml, hown, hts⟩, ⟨hK, hA, hE, ⟨hl0, hN, hl9, hD9⟩, hnl⟩, hr, hlk, hR, hnm⟩ := C
  intro ls H locs hl hP hD hS
  exact lv_lload_n hx hb hd hi (lv_at hl q hq) (kk ls H locs hl hP hD hS)
theorem a_lload {Γ : XG} {l9 : Launch} {D9 : va_G} {cs : Nat → ClassId} {cc : ByteArray} {own nm : String} {nl : Nat} {ret : Option FieldType} {fr lo mc ms : Nat} {EC : XG → Prop} (C : CX Γ l9 D9 cs cc own nm nl ret fr lo mc ms EC) {k n pc : Nat} {lv : List (Nat × Value)} {st : List Value} {ws : va_W} {i : Nat} {x : Int64} (q : Nat) (hd : decode cc pc = .ok (.lload i, 2)) (hq : lv[q]? = some (i, .long x)) (kk : AW Γ k n (pc + 2) lv (.long x :: st) ws) : AW Γ k n pc lv st ws := by
  obtain ⟨p, l, e, R, s, m, args, below, meth, c, nL, D, A, Q⟩ := Γ
  obtain ⟨hEC, ⟨hx, hb, hml, hown, hts⟩, ⟨hK, hA, hE, ⟨hl0, hN, hl9, hD9⟩, hnl⟩, hr, hlk, hR, hnm⟩ := C
  intro ls H locs hl hP hD hS
  exact lv_lload hx hb hd (lv_at hl q hq) (kk ls H locs hl hP hD hS)
theorem a_dload_n {Γ : XG} {l9 : Launch} {D9 : va_G} {cs : Nat → ClassId} {cc : ByteArray} {own nm : String} {nl : Nat} {ret : Option FieldType} {fr lo mc ms : Nat} {EC : XG → Prop} (C : CX Γ l9 D9 cs cc own nm nl ret fr lo mc ms EC) {k n pc : Nat} {lv : List (Nat × Value)} {st : List Value} {ws : va_W} {j : Fin 4} {i : Nat} {x : UInt64} (q : Nat) (hd : decode cc pc = .ok (.dload_n j, 1)) (hi : (j : Nat) = i) (hq : lv[q]? = some (i, .double x)) (kk : AW Γ k n (pc + 1) lv (.double x :: st) ws) : AW Γ k n pc lv st ws := by
  obtain ⟨p, l, e, R, s, m, args, below, meth, c, nL, D, A, Q⟩ := Γ
  obtain ⟨hEC, ⟨hx, hb, hml, hown, hts⟩, ⟨hK, hA, hE, ⟨hl0, hN, hl9, hD9⟩, hnl⟩, hr, hlk, hR, hnm⟩ := C
  intro ls H locs hl hP hD hS
  exact lv_dload_n hx hb hd hi (lv_at hl q hq) (kk ls H locs hl hP hD hS)
theorem a_dload {Γ : XG} {l9 : Launch} {D9 : va_G} {cs : Nat → ClassId} {cc : ByteArray} {own nm : String} {nl : Nat} {ret : Option FieldType} {fr lo mc ms : Nat} {EC : XG → Prop} (C : CX Γ l9 D9 cs cc own nm nl ret fr lo mc ms EC) {k n pc : Nat} {lv : List (Nat × Value)} {st : List Value} {ws : va_W} {i : Nat} {x : UInt64} (q : Nat) (hd : decode cc pc = .ok (.dload i, 2)) (hq : lv[q]? = some (i, .double x)) (kk : AW Γ k n (pc + 2) lv (.double x :: st) ws) : AW Γ k n pc lv st ws := by
  obtain ⟨p, l, e, R, s, m, args, below, meth, c, nL, D, A, Q⟩ := Γ
  obtain ⟨hEC, ⟨hx, hb, hml, hown, hts⟩, ⟨hK, hA, hE, ⟨hl0, hN, hl9, hD9⟩, hnl⟩, hr, hlk, hR, hnm⟩ := C
  intro ls H locs hl hP hD hS
  exact lv_dload hx hb hd (lv_at hl q hq) (kk ls H locs hl hP hD hS)
theorem a_aload_n {Γ : XG} {l9 : Launch} {D9 : va_G} {cs : Nat → ClassId} {cc : ByteArray} {own nm : String} {nl : Nat} {ret : Option FieldType} {fr lo mc ms : Nat} {EC : XG → Prop} (C : CX Γ l9 D9 cs cc own nm nl ret fr lo mc ms EC) {k n pc : Nat} {lv : List (Nat × Value)} {st : List Value} {ws : va_W} {j : Fin 4} {i : Nat} {x : Nat} (q : Nat) (hd : decode cc pc = .ok (.aload_n j, 1)) (hi : (j : Nat) = i) (hq : lv[q]? = some (i, .ref x)) (kk : AW Γ k n (pc + 1) lv (.ref x :: st) ws) : AW Γ k n pc lv st ws := by
  obtain ⟨p, l, e, R, s, m, args, below, meth, c, nL, D, A, Q⟩ := Γ
  obtain ⟨hEC, ⟨hx, hb, hml, hown, hts⟩, ⟨hK, hA, hE, ⟨hl0, hN, hl9, hD9⟩, hnl⟩, hr, hlk, hR, hnm⟩ := C
  intro ls H locs hl hP hD hS
  exact lv_aload_n hx hb hd hi (lv_at hl q hq) (kk ls H locs hl hP hD hS)
theorem a_aload {Γ : XG} {l9 : Launch} {D9 : va_G} {cs : Nat → ClassId} {cc : ByteArray} {own nm : String} {nl : Nat} {ret : Option FieldType} {fr lo mc ms : Nat} {EC : XG → Prop} (C : CX Γ l9 D9 cs cc own nm nl ret fr lo mc ms EC) {k n pc : Nat} {lv : List (Nat × Value)} {st : List Value} {ws : va_W} {i : Nat} {x : Nat} (q : Nat) (hd : decode cc pc = .ok (.aload i, 2)) (hq : lv[q]? = some (i, .ref x)) (kk : AW Γ k n (pc + 2) lv (.ref x :: st) ws) : AW Γ k n pc lv st ws := by
  obtain ⟨p, l, e, R, s, m, args, below, meth, c, nL, D, A, Q⟩ := Γ
  obtain ⟨hEC, ⟨hx, hb, hml, hown, hts⟩, ⟨hK, hA, hE, ⟨hl0, hN, hl9, hD9⟩, hnl⟩, hr, hlk, hR, hnm⟩ := C
  intro ls H locs hl hP hD hS
  exact lv_aload hx hb hd (lv_at hl q hq) (kk ls H locs hl hP hD hS)
theorem a_istore_n {Γ : XG} {l9 : Launch} {D9 : va_G} {cs : Nat → ClassId} {cc : ByteArray} {own nm : String} {nl : Nat} {ret : Option FieldType} {fr lo mc ms : Nat} {EC : XG → Prop} (C : CX Γ l9 D9 cs cc own nm nl ret fr lo mc ms EC) {k n pc : Nat} {lv : List (Nat × Value)} {st : List Value} {ws : va_W} {j : Fin 4} {i : Nat} {x : Int32} {lv1 : List (Nat × Value)} (q : List Nat) (hd : decode cc pc = .ok (.istore_n j, 1)) (hi : (j : Nat) = i) (hn : i < nl) (hq : lv_pick ((i, Value.int x) :: lv.filter (fun q => !(q.1 == i) && !(q.1 + 1 == i && q.2.category == 2))) q = lv1) (kk : AW Γ k n (pc + 1) lv1 st ws) : AW Γ k n pc lv (.int x :: st) ws := by
  obtain ⟨p, l, e, R, s, m, args, below, meth, c, nL, D, A, Q⟩ := Γ
  obtain ⟨hEC, ⟨hx, hb, hml, hown, hts⟩, ⟨hK, hA, hE, ⟨hl0, hN, hl9, hD9⟩, hnl⟩, hr, hlk, hR, hnm⟩ := C
  intro ls H locs hl hP hD hS
  exact lv_istore_n hx hb hd hi hl (by rw [hnl]; exact hn) rfl (fun ls1 hl1 => kk ls1 H locs (lv_sub hl1 q hq) hP hD hS)
theorem a_istore {Γ : XG} {l9 : Launch} {D9 : va_G} {cs : Nat → ClassId} {cc : ByteArray} {own nm : String} {nl : Nat} {ret : Option FieldType} {fr lo mc ms : Nat} {EC : XG → Prop} (C : CX Γ l9 D9 cs cc own nm nl ret fr lo mc ms EC) {k n pc : Nat} {lv : List (Nat × Value)} {st : List Value} {ws : va_W} {i : Nat} {x : Int32} {lv1 : List (Nat × Value)} (q : List Nat) (hd : decode cc pc = .ok (.istore i, 2)) (hn : i < nl) (hq : lv_pick ((i, Value.int x) :: lv.filter (fun q => !(q.1 == i) && !(q.1 + 1 == i && q.2.category == 2))) q = lv1) (kk : AW Γ k n (pc + 2) lv1 st ws) : AW Γ k n pc lv (.int x :: st) ws := by
  obtain ⟨p, l, e, R, s, m, args, below, meth, c, nL, D, A, Q⟩ := Γ
  obtain ⟨hEC, ⟨hx, hb, hml, hown, hts⟩, ⟨hK, hA, hE, ⟨hl0, hN, hl9, hD9⟩, hnl⟩, hr, hlk, hR, hnm⟩ := C
  intro ls H locs hl hP hD hS
  exact lv_istore hx hb hd hl (by rw [hnl]; exact hn) rfl (fun ls1 hl1 => kk ls1 H locs (lv_sub hl1 q hq) hP hD hS)
theorem a_lstore_n {Γ : XG} {l9 : Launch} {D9 : va_G} {cs : Nat → ClassId} {cc : ByteArray} {own nm : String} {nl : Nat} {ret : Option FieldType} {fr lo mc ms : Nat} {EC : XG → Prop} (C : CX Γ l9 D9 cs cc own nm nl ret fr lo mc ms EC) {k n pc : Nat} {lv : List (Nat × Value)} {st : List Value} {ws : va_W} {j : Fin 4} {i : Nat} {x : Int64} {lv1 : List (Nat × Value)} (q : List Nat) (hd : decode cc pc = .ok (.lstore_n j, 1)) (hi : (j : Nat) = i) (hn : i + 1 < nl) (hq : lv_pick ((i, Value.long x) :: lv.filter (fun q => !(q.1 == i) && (!(q.1 == i + 1) && !(q.1 + 1 == i && q.2.category == 2)))) q = lv1) (kk : AW Γ k n (pc + 1) lv1 st ws) : AW Γ k n pc lv (.long x :: st) ws := by
  obtain ⟨p, l, e, R, s, m, args, below, meth, c, nL, D, A, Q⟩ := Γ
  obtain ⟨hEC, ⟨hx, hb, hml, hown, hts⟩, ⟨hK, hA, hE, ⟨hl0, hN, hl9, hD9⟩, hnl⟩, hr, hlk, hR, hnm⟩ := C
  intro ls H locs hl hP hD hS
  exact lv_lstore_n hx hb hd hi hl (by rw [hnl]; exact hn) rfl (fun ls1 hl1 => kk ls1 H locs (lv_sub hl1 q hq) hP hD hS)
theorem a_lstore {Γ : XG} {l9 : Launch} {D9 : va_G} {cs : Nat → ClassId} {cc : ByteArray} {own nm : String} {nl : Nat} {ret : Option FieldType} {fr lo mc ms : Nat} {EC : XG → Prop} (C : CX Γ l9 D9 cs cc own nm nl ret fr lo mc ms EC) {k n pc : Nat} {lv : List (Nat × Value)} {st : List Value} {ws : va_W} {i : Nat} {x : Int64} {lv1 : List (Nat × Value)} (q : List Nat) (hd : decode cc pc = .ok (.lstore i, 2)) (hn : i + 1 < nl) (hq : lv_pick ((i, Value.long x) :: lv.filter (fun q => !(q.1 == i) && (!(q.1 == i + 1) && !(q.1 + 1 == i && q.2.category == 2)))) q = lv1) (kk : AW Γ k n (pc + 2) lv1 st ws) : AW Γ k n pc lv (.long x :: st) ws := by
  obtain ⟨p, l, e, R, s, m, args, below, meth, c, nL, D, A, Q⟩ := Γ
  obtain ⟨hEC, ⟨hx, hb, hml, hown, hts⟩, ⟨hK, hA, hE, ⟨hl0, hN, hl9, hD9⟩, hnl⟩, hr, hlk, hR, hnm⟩ := C
  intro ls H locs hl hP hD hS
  exact lv_lstore hx hb hd hl (by rw [hnl]; exact hn) rfl (fun ls1 hl1 => kk ls1 H locs (lv_sub hl1 q hq) hP hD hS)
theorem a_dstore_n {Γ : XG} {l9 : Launch} {D9 : va_G} {cs : Nat → ClassId} {cc : ByteArray} {own nm : String} {nl : Nat} {ret : Option FieldType} {fr lo mc ms : Nat} {EC : XG → Prop} (C : CX Γ l9 D9 cs cc own nm nl ret fr lo mc ms EC) {k n pc : Nat} {lv : List (Nat × Value)} {st : List Value} {ws : va_W} {j : Fin 4} {i : Nat} {x : UInt64} {lv1 : List (Nat × Value)} (q : List Nat) (hd : decode cc pc = .ok (.dstore_n j, 1)) (hi : (j : Nat) = i) (hn : i + 1 < nl) (hq : lv_pick ((i, Value.double x) :: lv.filter (fun q => !(q.1 == i) && (!(q.1 == i + 1) && !(q.1 + 1 == i && q.2.category == 2)))) q = lv1) (kk : AW Γ k n (pc + 1) lv1 st ws) : AW Γ k n pc lv (.double x :: st) ws := by
  obtain ⟨p, l, e, R, s, m, args, below, meth, c, nL, D, A, Q⟩ := Γ
  obtain ⟨hEC, ⟨hx, hb, hml, hown, hts⟩, ⟨hK, hA, hE, ⟨hl0, hN, hl9, hD9⟩, hnl⟩, hr, hlk, hR, hnm⟩ := C
  intro ls H locs hl hP hD hS
  exact lv_dstore_n hx hb hd hi hl (by rw [hnl]; exact hn) rfl (fun ls1 hl1 => kk ls1 H locs (lv_sub hl1 q hq) hP hD hS)
theorem a_dstore {Γ : XG} {l9 : Launch} {D9 : va_G} {cs : Nat → ClassId} {cc : ByteArray} {own nm : String} {nl : Nat} {ret : Option FieldType} {fr lo mc ms : Nat} {EC : XG → Prop} (C : CX Γ l9 D9 cs cc own nm nl ret fr lo mc ms EC) {k n pc : Nat} {lv : List (Nat × Value)} {st : List Value} {ws : va_W} {i : Nat} {x : UInt64} {lv1 : List (Nat × Value)} (q : List Nat) (hd : decode cc pc = .ok (.dstore i, 2)) (hn : i + 1 < nl) (hq : lv_pick ((i, Value.double x) :: lv.filter (fun q => !(q.1 == i) && (!(q.1 == i + 1) && !(q.1 + 1 == i && q.2.category == 2)))) q = lv1) (kk : AW Γ k n (pc + 2) lv1 st ws) : AW Γ k n pc lv (.double x :: st) ws := by
  obtain ⟨p, l, e, R, s, m, args, below, meth, c, nL, D, A, Q⟩ := Γ
  obtain ⟨hEC, ⟨hx, hb, hml, hown, hts⟩, ⟨hK, hA, hE, ⟨hl0, hN, hl9, hD9⟩, hnl⟩, hr, hlk, hR, hnm⟩ := C
  intro ls H locs hl hP hD hS
  exact lv_dstore hx hb hd hl (by rw [hnl]; exact hn) rfl (fun ls1 hl1 => kk ls1 H locs (lv_sub hl1 q hq) hP hD hS)
theorem a_astore_n {Γ : XG} {l9 : Launch} {D9 : va_G} {cs : Nat → ClassId} {cc : ByteArray} {own nm : String} {nl : Nat} {ret : Option FieldType} {fr lo mc ms : Nat} {EC : XG → Prop} (C : CX Γ l9 D9 cs cc own nm nl ret fr lo mc ms EC) {k n pc : Nat} {lv : List (Nat × Value)} {st : List Value} {ws : va_W} {j : Fin 4} {i : Nat} {x : Nat} {lv1 : List (Nat × Value)} (q : List Nat) (hd : decode cc pc = .ok (.astore_n j, 1)) (hi : (j : Nat) = i) (hn : i < nl) (hq : lv_pick ((i, Value.ref x) :: lv.filter (fun q => !(q.1 == i) && !(q.1 + 1 == i && q.2.category == 2))) q = lv1) (kk : AW Γ k n (pc + 1) lv1 st ws) : AW Γ k n pc lv (.ref x :: st) ws := by
  obtain ⟨p, l, e, R, s, m, args, below, meth, c, nL, D, A, Q⟩ := Γ
  obtain ⟨hEC, ⟨hx, hb, hml, hown, hts⟩, ⟨hK, hA, hE, ⟨hl0, hN, hl9, hD9⟩, hnl⟩, hr, hlk, hR, hnm⟩ := C
  intro ls H locs hl hP hD hS
  exact lv_astore_n hx hb hd hi hl (by rw [hnl]; exact hn) rfl (fun ls1 hl1 => kk ls1 H locs (lv_sub hl1 q hq) hP hD hS)
theorem a_astore {Γ : XG} {l9 : Launch} {D9 : va_G} {cs : Nat → ClassId} {cc : ByteArray} {own nm : String} {nl : Nat} {ret : Option FieldType} {fr lo mc ms : Nat} {EC : XG → Prop} (C : CX Γ l9 D9 cs cc own nm nl ret fr lo mc ms EC) {k n pc : Nat} {lv : List (Nat × Value)} {st : List Value} {ws : va_W} {i : Nat} {x : Nat} {lv1 : List (Nat × Value)} (q : List Nat) (hd : decode cc pc = .ok (.astore i, 2)) (hn : i < nl) (hq : lv_pick ((i, Value.ref x) :: lv.filter (fun q => !(q.1 == i) && !(q.1 + 1 == i && q.2.category == 2))) q = lv1) (kk : AW Γ k n (pc + 2) lv1 st ws) : AW Γ k n pc lv (.ref x :: st) ws := by
  obtain ⟨p, l, e, R, s, m, args, below, meth, c, nL, D, A, Q⟩ := Γ
  obtain ⟨hEC, ⟨hx, hb, hml, hown, hts⟩, ⟨hK, hA, hE, ⟨hl0, hN, hl9, hD9⟩, hnl⟩, hr, hlk, hR, hnm⟩ := C
  intro ls H locs hl hP hD hS
  exact lv_astore hx hb hd hl (by rw [hnl]; exact hn) rfl (fun ls1 hl1 => kk ls1 H locs (lv_sub hl1 q hq) hP hD hS)
theorem a_iinc {Γ : XG} {l9 : Launch} {D9 : va_G} {cs : Nat → ClassId} {cc : ByteArray} {own nm : String} {nl : Nat} {ret : Option FieldType} {fr lo mc ms : Nat} {EC : XG → Prop} (C : CX Γ l9 D9 cs cc own nm nl ret fr lo mc ms EC) {k n pc : Nat} {lv : List (Nat × Value)} {st : List Value} {ws : va_W} {i : Nat} {z : Int} {x v : Int32} {lv1 : List (Nat × Value)} (q0 : Nat) (q : List Nat) (hd : decode cc pc = .ok (.iinc i z, 3)) (hk : lv[q0]? = some (i, .int x)) (hz : x + Int32.ofInt z = v) (hn : i < nl) (hq : lv_pick ((i, Value.int v) :: lv.filter (fun q => !(q.1 == i) && !(q.1 + 1 == i && q.2.category == 2))) q = lv1) (kk : AW Γ k n (pc + 3) lv1 st ws) : AW Γ k n pc lv st ws := by
  obtain ⟨p, l, e, R, s, m, args, below, meth, c, nL, D, A, Q⟩ := Γ
  obtain ⟨hEC, ⟨hx, hb, hml, hown, hts⟩, ⟨hK, hA, hE, ⟨hl0, hN, hl9, hD9⟩, hnl⟩, hr, hlk, hR, hnm⟩ := C
  intro ls H locs hl hP hD hS
  exact lv_iinc hx hb hd hl hk hz (by rw [hnl]; exact hn) rfl (fun ls1 hl1 => kk ls1 H locs (lv_sub hl1 q hq) hP hD hS)
theorem a_goto {Γ : XG} {l9 : Launch} {D9 : va_G} {cs : Nat → ClassId} {cc : ByteArray} {own nm : String} {nl : Nat} {ret : Option FieldType} {fr lo mc ms : Nat} {EC : XG → Prop} (C : CX Γ l9 D9 cs cc own nm nl ret fr lo mc ms EC) {k n pc : Nat} {lv : List (Nat × Value)} {st : List Value} {ws : va_W} {o : Int} (tgt : Nat) (hd : decode cc pc = .ok (.goto o, 3)) (ht : (pc : Int) + o = (tgt : Int)) (kk : AW Γ k n tgt lv st ws) : AW Γ k n pc lv st ws := by
  obtain ⟨p, l, e, R, s, m, args, below, meth, c, nL, D, A, Q⟩ := Γ
  obtain ⟨hEC, ⟨hx, hb, hml, hown, hts⟩, ⟨hK, hA, hE, ⟨hl0, hN, hl9, hD9⟩, hnl⟩, hr, hlk, hR, hnm⟩ := C
  intro ls H locs hl hP hD hS
  exact lv_goto hx hb hd ht (kk ls H locs hl hP hD hS)
-- branches
theorem a_if_eq {Γ : XG} {l9 : Launch} {D9 : va_G} {cs : Nat → ClassId} {cc : ByteArray} {own nm : String} {nl : Nat} {ret : Option FieldType} {fr lo mc ms : Nat} {EC : XG → Prop} (C : CX Γ l9 D9 cs cc own nm nl ret fr lo mc ms EC) {k n pc : Nat} {lv : List (Nat × Value)} {st : List Value} {ws : va_W} {x : Int32} {o : Int} (tgt : Nat) (hd : decode cc pc = .ok (.ifCond .eq o, 3)) (ht : (pc : Int) + o = (tgt : Int)) (kt : x = 0 → AW Γ k n tgt lv st ws) (kf : ¬ x = 0 → AW Γ k n (pc + 3) lv st ws) : AW Γ k n pc lv (.int x :: st) ws := by
  obtain ⟨p, l, e, R, s, m, args, below, meth, c, nL, D, A, Q⟩ := Γ
  obtain ⟨hEC, ⟨hx, hb, hml, hown, hts⟩, ⟨hK, hA, hE, ⟨hl0, hN, hl9, hD9⟩, hnl⟩, hr, hlk, hR, hnm⟩ := C
  intro ls H locs hl hP hD hS
  exact lv_if_eq hx hb hd ht (fun h => kt h ls H locs hl hP hD hS) (fun h => kf h ls H locs hl hP hD hS)
theorem lg_eq_t {x y : Int64} (h : lg_cmp x y = 0) : x = y := by
  unfold lg_cmp at h
  by_cases h1 : y < x
  · have h2 : ¬ x < y := fun q => by rw [Int64.lt_iff_toInt_lt] at q h1; omega
    have h3 : ¬ x = y := fun q => by rw [q, Int64.lt_iff_toInt_lt] at h1; omega
    simp_all
  · by_cases h2 : x < y
    · have h3 : ¬ x = y := fun q => by rw [q, Int64.lt_iff_toInt_lt] at h2; omega
      simp_all
    · have h3 : x = y := Int64.toInt_inj.mp (by rw [Int64.lt_iff_toInt_lt] at h1 h2; omega)
      simp_all
theorem lg_eq_f {x y : Int64} (h : ¬ lg_cmp x y = 0) : ¬ x = y := by
  unfold lg_cmp at h
  by_cases h1 : y < x
  · have h2 : ¬ x < y := fun q => by rw [Int64.lt_iff_toInt_lt] at q h1; omega
    have h3 : ¬ x = y := fun q => by rw [q, Int64.lt_iff_toInt_lt] at h1; omega
    simp_all
  · by_cases h2 : x < y
    · have h3 : ¬ x = y := fun q => by rw [q, Int64.lt_iff_toInt_lt] at h2; omega
      simp_all
    · have h3 : x = y := Int64.toInt_inj.mp (by rw [Int64.lt_iff_toInt_lt] at h1 h2; omega)
      simp_all
theorem a_lcmp_eq {Γ : XG} {l9 : Launch} {D9 : va_G} {cs : Nat → ClassId} {cc : ByteArray} {own nm : String} {nl : Nat} {ret : Option FieldType} {fr lo mc ms : Nat} {EC : XG → Prop} (C : CX Γ l9 D9 cs cc own nm nl ret fr lo mc ms EC) {k n pc : Nat} {lv : List (Nat × Value)} {st : List Value} {ws : va_W} {x y : Int64} {o : Int} (tgt : Nat) (hd0 : decode cc pc = .ok (.lcmp, 1)) (hd : decode cc (pc + 1) = .ok (.ifCond .eq o, 3)) (ht : ((pc + 1 : Nat) : Int) + o = (tgt : Int)) (kt : x = y → AW Γ k n tgt lv st ws) (kf : ¬ x = y → AW Γ k n (pc + 1 + 3) lv st ws) : AW Γ k n pc lv (.long y :: .long x :: st) ws := by
  obtain ⟨p, l, e, R, s, m, args, below, meth, c, nL, D, A, Q⟩ := Γ
  obtain ⟨hEC, ⟨hx, hb, hml, hown, hts⟩, ⟨hK, hA, hE, ⟨hl0, hN, hl9, hD9⟩, hnl⟩, hr, hlk, hR, hnm⟩ := C
  intro ls H locs hl hP hD hS
  exact W.lcmp hx hb hd0 (lv_if_eq hx hb hd ht (fun h => kt (lg_eq_t h) ls H locs hl hP hD hS) (fun h => kf (lg_eq_f h) ls H locs hl hP hD hS))
theorem a_icmp_eq {Γ : XG} {l9 : Launch} {D9 : va_G} {cs : Nat → ClassId} {cc : ByteArray} {own nm : String} {nl : Nat} {ret : Option FieldType} {fr lo mc ms : Nat} {EC : XG → Prop} (C : CX Γ l9 D9 cs cc own nm nl ret fr lo mc ms EC) {k n pc : Nat} {lv : List (Nat × Value)} {st : List Value} {ws : va_W} {x y : Int32} {o : Int} (tgt : Nat) (hd : decode cc pc = .ok (.if_icmp .eq o, 3)) (ht : (pc : Int) + o = (tgt : Int)) (kt : x = y → AW Γ k n tgt lv st ws) (kf : ¬ x = y → AW Γ k n (pc + 3) lv st ws) : AW Γ k n pc lv (.int y :: .int x :: st) ws := by
  obtain ⟨p, l, e, R, s, m, args, below, meth, c, nL, D, A, Q⟩ := Γ
  obtain ⟨hEC, ⟨hx, hb, hml, hown, hts⟩, ⟨hK, hA, hE, ⟨hl0, hN, hl9, hD9⟩, hnl⟩, hr, hlk, hR, hnm⟩ := C
  intro ls H locs hl hP hD hS
  exact lv_icmp_eq hx hb hd ht (fun h => kt h ls H locs hl hP hD hS) (fun h => kf h ls H locs hl hP hD hS)
theorem a_if_ne {Γ : XG} {l9 : Launch} {D9 : va_G} {cs : Nat → ClassId} {cc : ByteArray} {own nm : String} {nl : Nat} {ret : Option FieldType} {fr lo mc ms : Nat} {EC : XG → Prop} (C : CX Γ l9 D9 cs cc own nm nl ret fr lo mc ms EC) {k n pc : Nat} {lv : List (Nat × Value)} {st : List Value} {ws : va_W} {x : Int32} {o : Int} (tgt : Nat) (hd : decode cc pc = .ok (.ifCond .ne o, 3)) (ht : (pc : Int) + o = (tgt : Int)) (kt : ¬ x = 0 → AW Γ k n tgt lv st ws) (kf : x = 0 → AW Γ k n (pc + 3) lv st ws) : AW Γ k n pc lv (.int x :: st) ws := by
  obtain ⟨p, l, e, R, s, m, args, below, meth, c, nL, D, A, Q⟩ := Γ
  obtain ⟨hEC, ⟨hx, hb, hml, hown, hts⟩, ⟨hK, hA, hE, ⟨hl0, hN, hl9, hD9⟩, hnl⟩, hr, hlk, hR, hnm⟩ := C
  intro ls H locs hl hP hD hS
  exact lv_if_ne hx hb hd ht (fun h => kt h ls H locs hl hP hD hS) (fun h => kf h ls H locs hl hP hD hS)
theorem lg_ne_t {x y : Int64} (h : ¬ lg_cmp x y = 0) : ¬ x = y := by
  unfold lg_cmp at h
  by_cases h1 : y < x
  · have h2 : ¬ x < y := fun q => by rw [Int64.lt_iff_toInt_lt] at q h1; omega
    have h3 : ¬ x = y := fun q => by rw [q, Int64.lt_iff_toInt_lt] at h1; omega
    simp_all
  · by_cases h2 : x < y
    · have h3 : ¬ x = y := fun q => by rw [q, Int64.lt_iff_toInt_lt] at h2; omega
      simp_all
    · have h3 : x = y := Int64.toInt_inj.mp (by rw [Int64.lt_iff_toInt_lt] at h1 h2; omega)
      simp_all
theorem lg_ne_f {x y : Int64} (h : lg_cmp x y = 0) : x = y := by
  unfold lg_cmp at h
  by_cases h1 : y < x
  · have h2 : ¬ x < y := fun q => by rw [Int64.lt_iff_toInt_lt] at q h1; omega
    have h3 : ¬ x = y := fun q => by rw [q, Int64.lt_iff_toInt_lt] at h1; omega
    simp_all
  · by_cases h2 : x < y
    · have h3 : ¬ x = y := fun q => by rw [q, Int64.lt_iff_toInt_lt] at h2; omega
      simp_all
    · have h3 : x = y := Int64.toInt_inj.mp (by rw [Int64.lt_iff_toInt_lt] at h1 h2; omega)
      simp_all
theorem a_lcmp_ne {Γ : XG} {l9 : Launch} {D9 : va_G} {cs : Nat → ClassId} {cc : ByteArray} {own nm : String} {nl : Nat} {ret : Option FieldType} {fr lo mc ms : Nat} {EC : XG → Prop} (C : CX Γ l9 D9 cs cc own nm nl ret fr lo mc ms EC) {k n pc : Nat} {lv : List (Nat × Value)} {st : List Value} {ws : va_W} {x y : Int64} {o : Int} (tgt : Nat) (hd0 : decode cc pc = .ok (.lcmp, 1)) (hd : decode cc (pc + 1) = .ok (.ifCond .ne o, 3)) (ht : ((pc + 1 : Nat) : Int) + o = (tgt : Int)) (kt : ¬ x = y → AW Γ k n tgt lv st ws) (kf : x = y → AW Γ k n (pc + 1 + 3) lv st ws) : AW Γ k n pc lv (.long y :: .long x :: st) ws := by
  obtain ⟨p, l, e, R, s, m, args, below, meth, c, nL, D, A, Q⟩ := Γ
  obtain ⟨hEC, ⟨hx, hb, hml, hown, hts⟩, ⟨hK, hA, hE, ⟨hl0, hN, hl9, hD9⟩, hnl⟩, hr, hlk, hR, hnm⟩ := C
  intro ls H locs hl hP hD hS
  exact W.lcmp hx hb hd0 (lv_if_ne hx hb hd ht (fun h => kt (lg_ne_t h) ls H locs hl hP hD hS) (fun h => kf (lg_ne_f h) ls H locs hl hP hD hS))
theorem a_icmp_ne {Γ : XG} {l9 : Launch} {D9 : va_G} {cs : Nat → ClassId} {cc : ByteArray} {own nm : String} {nl : Nat} {ret : Option FieldType} {fr lo mc ms : Nat} {EC : XG → Prop} (C : CX Γ l9 D9 cs cc own nm nl ret fr lo mc ms EC) {k n pc : Nat} {lv : List (Nat × Value)} {st : List Value} {ws : va_W} {x y : Int32} {o : Int} (tgt : Nat) (hd : decode cc pc = .ok (.if_icmp .ne o, 3)) (ht : (pc : Int) + o = (tgt : Int)) (kt : ¬ x = y → AW Γ k n tgt lv st ws) (kf : x = y → AW Γ k n (pc + 3) lv st ws) : AW Γ k n pc lv (.int y :: .int x :: st) ws := by
  obtain ⟨p, l, e, R, s, m, args, below, meth, c, nL, D, A, Q⟩ := Γ
  obtain ⟨hEC, ⟨hx, hb, hml, hown, hts⟩, ⟨hK, hA, hE, ⟨hl0, hN, hl9, hD9⟩, hnl⟩, hr, hlk, hR, hnm⟩ := C
  intro ls H locs hl hP hD hS
  exact lv_icmp_ne hx hb hd ht (fun h => kt h ls H locs hl hP hD hS) (fun h => kf h ls H locs hl hP hD hS)
theorem a_if_lt {Γ : XG} {l9 : Launch} {D9 : va_G} {cs : Nat → ClassId} {cc : ByteArray} {own nm : String} {nl : Nat} {ret : Option FieldType} {fr lo mc ms : Nat} {EC : XG → Prop} (C : CX Γ l9 D9 cs cc own nm nl ret fr lo mc ms EC) {k n pc : Nat} {lv : List (Nat × Value)} {st : List Value} {ws : va_W} {x : Int32} {o : Int} (tgt : Nat) (hd : decode cc pc = .ok (.ifCond .lt o, 3)) (ht : (pc : Int) + o = (tgt : Int)) (kt : x < 0 → AW Γ k n tgt lv st ws) (kf : ¬ x < 0 → AW Γ k n (pc + 3) lv st ws) : AW Γ k n pc lv (.int x :: st) ws := by
  obtain ⟨p, l, e, R, s, m, args, below, meth, c, nL, D, A, Q⟩ := Γ
  obtain ⟨hEC, ⟨hx, hb, hml, hown, hts⟩, ⟨hK, hA, hE, ⟨hl0, hN, hl9, hD9⟩, hnl⟩, hr, hlk, hR, hnm⟩ := C
  intro ls H locs hl hP hD hS
  exact lv_if_lt hx hb hd ht (fun h => kt h ls H locs hl hP hD hS) (fun h => kf h ls H locs hl hP hD hS)
theorem lg_lt_t {x y : Int64} (h : lg_cmp x y < 0) : x < y := by
  unfold lg_cmp at h
  by_cases h1 : y < x
  · have h2 : ¬ x < y := fun q => by rw [Int64.lt_iff_toInt_lt] at q h1; omega
    have h3 : ¬ x = y := fun q => by rw [q, Int64.lt_iff_toInt_lt] at h1; omega
    simp_all
  · by_cases h2 : x < y
    · have h3 : ¬ x = y := fun q => by rw [q, Int64.lt_iff_toInt_lt] at h2; omega
      simp_all
    · have h3 : x = y := Int64.toInt_inj.mp (by rw [Int64.lt_iff_toInt_lt] at h1 h2; omega)
      simp_all
theorem lg_lt_f {x y : Int64} (h : ¬ lg_cmp x y < 0) : ¬ x < y := by
  unfold lg_cmp at h
  by_cases h1 : y < x
  · have h2 : ¬ x < y := fun q => by rw [Int64.lt_iff_toInt_lt] at q h1; omega
    have h3 : ¬ x = y := fun q => by rw [q, Int64.lt_iff_toInt_lt] at h1; omega
    simp_all
  · by_cases h2 : x < y
    · have h3 : ¬ x = y := fun q => by rw [q, Int64.lt_iff_toInt_lt] at h2; omega
      simp_all
    · have h3 : x = y := Int64.toInt_inj.mp (by rw [Int64.lt_iff_toInt_lt] at h1 h2; omega)
      simp_all
theorem a_lcmp_lt {Γ : XG} {l9 : Launch} {D9 : va_G} {cs : Nat → ClassId} {cc : ByteArray} {own nm : String} {nl : Nat} {ret : Option FieldType} {fr lo mc ms : Nat} {EC : XG → Prop} (C : CX Γ l9 D9 cs cc own nm nl ret fr lo mc ms EC) {k n pc : Nat} {lv : List (Nat × Value)} {st : List Value} {ws : va_W} {x y : Int64} {o : Int} (tgt : Nat) (hd0 : decode cc pc = .ok (.lcmp, 1)) (hd : decode cc (pc + 1) = .ok (.ifCond .lt o, 3)) (ht : ((pc + 1 : Nat) : Int) + o = (tgt : Int)) (kt : x < y → AW Γ k n tgt lv st ws) (kf : ¬ x < y → AW Γ k n (pc + 1 + 3) lv st ws) : AW Γ k n pc lv (.long y :: .long x :: st) ws := by
  obtain ⟨p, l, e, R, s, m, args, below, meth, c, nL, D, A, Q⟩ := Γ
  obtain ⟨hEC, ⟨hx, hb, hml, hown, hts⟩, ⟨hK, hA, hE, ⟨hl0, hN, hl9, hD9⟩, hnl⟩, hr, hlk, hR, hnm⟩ := C
  intro ls H locs hl hP hD hS
  exact W.lcmp hx hb hd0 (lv_if_lt hx hb hd ht (fun h => kt (lg_lt_t h) ls H locs hl hP hD hS) (fun h => kf (lg_lt_f h) ls H locs hl hP hD hS))
theorem a_icmp_lt {Γ : XG} {l9 : Launch} {D9 : va_G} {cs : Nat → ClassId} {cc : ByteArray} {own nm : String} {nl : Nat} {ret : Option FieldType} {fr lo mc ms : Nat} {EC : XG → Prop} (C : CX Γ l9 D9 cs cc own nm nl ret fr lo mc ms EC) {k n pc : Nat} {lv : List (Nat × Value)} {st : List Value} {ws : va_W} {x y : Int32} {o : Int} (tgt : Nat) (hd : decode cc pc = .ok (.if_icmp .lt o, 3)) (ht : (pc : Int) + o = (tgt : Int)) (kt : x < y → AW Γ k n tgt lv st ws) (kf : ¬ x < y → AW Γ k n (pc + 3) lv st ws) : AW Γ k n pc lv (.int y :: .int x :: st) ws := by
  obtain ⟨p, l, e, R, s, m, args, below, meth, c, nL, D, A, Q⟩ := Γ
  obtain ⟨hEC, ⟨hx, hb, hml, hown, hts⟩, ⟨hK, hA, hE, ⟨hl0, hN, hl9, hD9⟩, hnl⟩, hr, hlk, hR, hnm⟩ := C
  intro ls H locs hl hP hD hS
  exact lv_icmp_lt hx hb hd ht (fun h => kt h ls H locs hl hP hD hS) (fun h => kf h ls H locs hl hP hD hS)
theorem a_if_ge {Γ : XG} {l9 : Launch} {D9 : va_G} {cs : Nat → ClassId} {cc : ByteArray} {own nm : String} {nl : Nat} {ret : Option FieldType} {fr lo mc ms : Nat} {EC : XG → Prop} (C : CX Γ l9 D9 cs cc own nm nl ret fr lo mc ms EC) {k n pc : Nat} {lv : List (Nat × Value)} {st : List Value} {ws : va_W} {x : Int32} {o : Int} (tgt : Nat) (hd : decode cc pc = .ok (.ifCond .ge o, 3)) (ht : (pc : Int) + o = (tgt : Int)) (kt : 0 ≤ x → AW Γ k n tgt lv st ws) (kf : ¬ 0 ≤ x → AW Γ k n (pc + 3) lv st ws) : AW Γ k n pc lv (.int x :: st) ws := by
  obtain ⟨p, l, e, R, s, m, args, below, meth, c, nL, D, A, Q⟩ := Γ
  obtain ⟨hEC, ⟨hx, hb, hml, hown, hts⟩, ⟨hK, hA, hE, ⟨hl0, hN, hl9, hD9⟩, hnl⟩, hr, hlk, hR, hnm⟩ := C
  intro ls H locs hl hP hD hS
  exact lv_if_ge hx hb hd ht (fun h => kt h ls H locs hl hP hD hS) (fun h => kf h ls H locs hl hP hD hS)
theorem lg_ge_t {x y : Int64} (h : 0 ≤ lg_cmp x y) : ¬ x < y := by
  unfold lg_cmp at h
  by_cases h1 : y < x
  · have h2 : ¬ x < y := fun q => by rw [Int64.lt_iff_toInt_lt] at q h1; omega
    have h3 : ¬ x = y := fun q => by rw [q, Int64.lt_iff_toInt_lt] at h1; omega
    simp_all
  · by_cases h2 : x < y
    · have h3 : ¬ x = y := fun q => by rw [q, Int64.lt_iff_toInt_lt] at h2; omega
      simp_all
    · have h3 : x = y := Int64.toInt_inj.mp (by rw [Int64.lt_iff_toInt_lt] at h1 h2; omega)
      simp_all
theorem lg_ge_f {x y : Int64} (h : ¬ 0 ≤ lg_cmp x y) : x < y := by
  unfold lg_cmp at h
  by_cases h1 : y < x
  · have h2 : ¬ x < y := fun q => by rw [Int64.lt_iff_toInt_lt] at q h1; omega
    have h3 : ¬ x = y := fun q => by rw [q, Int64.lt_iff_toInt_lt] at h1; omega
    simp_all
  · by_cases h2 : x < y
    · have h3 : ¬ x = y := fun q => by rw [q, Int64.lt_iff_toInt_lt] at h2; omega
      simp_all
    · have h3 : x = y := Int64.toInt_inj.mp (by rw [Int64.lt_iff_toInt_lt] at h1 h2; omega)
      simp_all
theorem a_lcmp_ge {Γ : XG} {l9 : Launch} {D9 : va_G} {cs : Nat → ClassId} {cc : ByteArray} {own nm : String} {nl : Nat} {ret : Option FieldType} {fr lo mc ms : Nat} {EC : XG → Prop} (C : CX Γ l9 D9 cs cc own nm nl ret fr lo mc ms EC) {k n pc : Nat} {lv : List (Nat × Value)} {st : List Value} {ws : va_W} {x y : Int64} {o : Int} (tgt : Nat) (hd0 : decode cc pc = .ok (.lcmp, 1)) (hd : decode cc (pc + 1) = .ok (.ifCond .ge o, 3)) (ht : ((pc + 1 : Nat) : Int) + o = (tgt : Int)) (kt : ¬ x < y → AW Γ k n tgt lv st ws) (kf : x < y → AW Γ k n (pc + 1 + 3) lv st ws) : AW Γ k n pc lv (.long y :: .long x :: st) ws := by
  obtain ⟨p, l, e, R, s, m, args, below, meth, c, nL, D, A, Q⟩ := Γ
  obtain ⟨hEC, ⟨hx, hb, hml, hown, hts⟩, ⟨hK, hA, hE, ⟨hl0, hN, hl9, hD9⟩, hnl⟩, hr, hlk, hR, hnm⟩ := C
  intro ls H locs hl hP hD hS
  exact W.lcmp hx hb hd0 (lv_if_ge hx hb hd ht (fun h => kt (lg_ge_t h) ls H locs hl hP hD hS) (fun h => kf (lg_ge_f h) ls H locs hl hP hD hS))
theorem a_icmp_ge {Γ : XG} {l9 : Launch} {D9 : va_G} {cs : Nat → ClassId} {cc : ByteArray} {own nm : String} {nl : Nat} {ret : Option FieldType} {fr lo mc ms : Nat} {EC : XG → Prop} (C : CX Γ l9 D9 cs cc own nm nl ret fr lo mc ms EC) {k n pc : Nat} {lv : List (Nat × Value)} {st : List Value} {ws : va_W} {x y : Int32} {o : Int} (tgt : Nat) (hd : decode cc pc = .ok (.if_icmp .ge o, 3)) (ht : (pc : Int) + o = (tgt : Int)) (kt : y ≤ x → AW Γ k n tgt lv st ws) (kf : ¬ y ≤ x → AW Γ k n (pc + 3) lv st ws) : AW Γ k n pc lv (.int y :: .int x :: st) ws := by
  obtain ⟨p, l, e, R, s, m, args, below, meth, c, nL, D, A, Q⟩ := Γ
  obtain ⟨hEC, ⟨hx, hb, hml, hown, hts⟩, ⟨hK, hA, hE, ⟨hl0, hN, hl9, hD9⟩, hnl⟩, hr, hlk, hR, hnm⟩ := C
  intro ls H locs hl hP hD hS
  exact lv_icmp_ge hx hb hd ht (fun h => kt h ls H locs hl hP hD hS) (fun h => kf h ls H locs hl hP hD hS)
theorem a_if_gt {Γ : XG} {l9 : Launch} {D9 : va_G} {cs : Nat → ClassId} {cc : ByteArray} {own nm : String} {nl : Nat} {ret : Option FieldType} {fr lo mc ms : Nat} {EC : XG → Prop} (C : CX Γ l9 D9 cs cc own nm nl ret fr lo mc ms EC) {k n pc : Nat} {lv : List (Nat × Value)} {st : List Value} {ws : va_W} {x : Int32} {o : Int} (tgt : Nat) (hd : decode cc pc = .ok (.ifCond .gt o, 3)) (ht : (pc : Int) + o = (tgt : Int)) (kt : 0 < x → AW Γ k n tgt lv st ws) (kf : ¬ 0 < x → AW Γ k n (pc + 3) lv st ws) : AW Γ k n pc lv (.int x :: st) ws := by
  obtain ⟨p, l, e, R, s, m, args, below, meth, c, nL, D, A, Q⟩ := Γ
  obtain ⟨hEC, ⟨hx, hb, hml, hown, hts⟩, ⟨hK, hA, hE, ⟨hl0, hN, hl9, hD9⟩, hnl⟩, hr, hlk, hR, hnm⟩ := C
  intro ls H locs hl hP hD hS
  exact lv_if_gt hx hb hd ht (fun h => kt h ls H locs hl hP hD hS) (fun h => kf h ls H locs hl hP hD hS)
theorem lg_gt_t {x y : Int64} (h : 0 < lg_cmp x y) : y < x := by
  unfold lg_cmp at h
  by_cases h1 : y < x
  · have h2 : ¬ x < y := fun q => by rw [Int64.lt_iff_toInt_lt] at q h1; omega
    have h3 : ¬ x = y := fun q => by rw [q, Int64.lt_iff_toInt_lt] at h1; omega
    simp_all
  · by_cases h2 : x < y
    · have h3 : ¬ x = y := fun q => by rw [q, Int64.lt_iff_toInt_lt] at h2; omega
      simp_all
    · have h3 : x = y := Int64.toInt_inj.mp (by rw [Int64.lt_iff_toInt_lt] at h1 h2; omega)
      simp_all
theorem lg_gt_f {x y : Int64} (h : ¬ 0 < lg_cmp x y) : ¬ y < x := by
  unfold lg_cmp at h
  by_cases h1 : y < x
  · have h2 : ¬ x < y := fun q => by rw [Int64.lt_iff_toInt_lt] at q h1; omega
    have h3 : ¬ x = y := fun q => by rw [q, Int64.lt_iff_toInt_lt] at h1; omega
    simp_all
  · by_cases h2 : x < y
    · have h3 : ¬ x = y := fun q => by rw [q, Int64.lt_iff_toInt_lt] at h2; omega
      simp_all
    · have h3 : x = y := Int64.toInt_inj.mp (by rw [Int64.lt_iff_toInt_lt] at h1 h2; omega)
      simp_all
theorem a_lcmp_gt {Γ : XG} {l9 : Launch} {D9 : va_G} {cs : Nat → ClassId} {cc : ByteArray} {own nm : String} {nl : Nat} {ret : Option FieldType} {fr lo mc ms : Nat} {EC : XG → Prop} (C : CX Γ l9 D9 cs cc own nm nl ret fr lo mc ms EC) {k n pc : Nat} {lv : List (Nat × Value)} {st : List Value} {ws : va_W} {x y : Int64} {o : Int} (tgt : Nat) (hd0 : decode cc pc = .ok (.lcmp, 1)) (hd : decode cc (pc + 1) = .ok (.ifCond .gt o, 3)) (ht : ((pc + 1 : Nat) : Int) + o = (tgt : Int)) (kt : y < x → AW Γ k n tgt lv st ws) (kf : ¬ y < x → AW Γ k n (pc + 1 + 3) lv st ws) : AW Γ k n pc lv (.long y :: .long x :: st) ws := by
  obtain ⟨p, l, e, R, s, m, args, below, meth, c, nL, D, A, Q⟩ := Γ
  obtain ⟨hEC, ⟨hx, hb, hml, hown, hts⟩, ⟨hK, hA, hE, ⟨hl0, hN, hl9, hD9⟩, hnl⟩, hr, hlk, hR, hnm⟩ := C
  intro ls H locs hl hP hD hS
  exact W.lcmp hx hb hd0 (lv_if_gt hx hb hd ht (fun h => kt (lg_gt_t h) ls H locs hl hP hD hS) (fun h => kf (lg_gt_f h) ls H locs hl hP hD hS))
theorem a_icmp_gt {Γ : XG} {l9 : Launch} {D9 : va_G} {cs : Nat → ClassId} {cc : ByteArray} {own nm : String} {nl : Nat} {ret : Option FieldType} {fr lo mc ms : Nat} {EC : XG → Prop} (C : CX Γ l9 D9 cs cc own nm nl ret fr lo mc ms EC) {k n pc : Nat} {lv : List (Nat × Value)} {st : List Value} {ws : va_W} {x y : Int32} {o : Int} (tgt : Nat) (hd : decode cc pc = .ok (.if_icmp .gt o, 3)) (ht : (pc : Int) + o = (tgt : Int)) (kt : y < x → AW Γ k n tgt lv st ws) (kf : ¬ y < x → AW Γ k n (pc + 3) lv st ws) : AW Γ k n pc lv (.int y :: .int x :: st) ws := by
  obtain ⟨p, l, e, R, s, m, args, below, meth, c, nL, D, A, Q⟩ := Γ
  obtain ⟨hEC, ⟨hx, hb, hml, hown, hts⟩, ⟨hK, hA, hE, ⟨hl0, hN, hl9, hD9⟩, hnl⟩, hr, hlk, hR, hnm⟩ := C
  intro ls H locs hl hP hD hS
  exact lv_icmp_gt hx hb hd ht (fun h => kt h ls H locs hl hP hD hS) (fun h => kf h ls H locs hl hP hD hS)
theorem a_if_le {Γ : XG} {l9 : Launch} {D9 : va_G} {cs : Nat → ClassId} {cc : ByteArray} {own nm : String} {nl : Nat} {ret : Option FieldType} {fr lo mc ms : Nat} {EC : XG → Prop} (C : CX Γ l9 D9 cs cc own nm nl ret fr lo mc ms EC) {k n pc : Nat} {lv : List (Nat × Value)} {st : List Value} {ws : va_W} {x : Int32} {o : Int} (tgt : Nat) (hd : decode cc pc = .ok (.ifCond .le o, 3)) (ht : (pc : Int) + o = (tgt : Int)) (kt : x ≤ 0 → AW Γ k n tgt lv st ws) (kf : ¬ x ≤ 0 → AW Γ k n (pc + 3) lv st ws) : AW Γ k n pc lv (.int x :: st) ws := by
  obtain ⟨p, l, e, R, s, m, args, below, meth, c, nL, D, A, Q⟩ := Γ
  obtain ⟨hEC, ⟨hx, hb, hml, hown, hts⟩, ⟨hK, hA, hE, ⟨hl0, hN, hl9, hD9⟩, hnl⟩, hr, hlk, hR, hnm⟩ := C
  intro ls H locs hl hP hD hS
  exact lv_if_le hx hb hd ht (fun h => kt h ls H locs hl hP hD hS) (fun h => kf h ls H locs hl hP hD hS)
theorem lg_le_t {x y : Int64} (h : lg_cmp x y ≤ 0) : ¬ y < x := by
  unfold lg_cmp at h
  by_cases h1 : y < x
  · have h2 : ¬ x < y := fun q => by rw [Int64.lt_iff_toInt_lt] at q h1; omega
    have h3 : ¬ x = y := fun q => by rw [q, Int64.lt_iff_toInt_lt] at h1; omega
    simp_all
  · by_cases h2 : x < y
    · have h3 : ¬ x = y := fun q => by rw [q, Int64.lt_iff_toInt_lt] at h2; omega
      simp_all
    · have h3 : x = y := Int64.toInt_inj.mp (by rw [Int64.lt_iff_toInt_lt] at h1 h2; omega)
      simp_all
theorem lg_le_f {x y : Int64} (h : ¬ lg_cmp x y ≤ 0) : y < x := by
  unfold lg_cmp at h
  by_cases h1 : y < x
  · have h2 : ¬ x < y := fun q => by rw [Int64.lt_iff_toInt_lt] at q h1; omega
    have h3 : ¬ x = y := fun q => by rw [q, Int64.lt_iff_toInt_lt] at h1; omega
    simp_all
  · by_cases h2 : x < y
    · have h3 : ¬ x = y := fun q => by rw [q, Int64.lt_iff_toInt_lt] at h2; omega
      simp_all
    · have h3 : x = y := Int64.toInt_inj.mp (by rw [Int64.lt_iff_toInt_lt] at h1 h2; omega)
      simp_all
theorem a_lcmp_le {Γ : XG} {l9 : Launch} {D9 : va_G} {cs : Nat → ClassId} {cc : ByteArray} {own nm : String} {nl : Nat} {ret : Option FieldType} {fr lo mc ms : Nat} {EC : XG → Prop} (C : CX Γ l9 D9 cs cc own nm nl ret fr lo mc ms EC) {k n pc : Nat} {lv : List (Nat × Value)} {st : List Value} {ws : va_W} {x y : Int64} {o : Int} (tgt : Nat) (hd0 : decode cc pc = .ok (.lcmp, 1)) (hd : decode cc (pc + 1) = .ok (.ifCond .le o, 3)) (ht : ((pc + 1 : Nat) : Int) + o = (tgt : Int)) (kt : ¬ y < x → AW Γ k n tgt lv st ws) (kf : y < x → AW Γ k n (pc + 1 + 3) lv st ws) : AW Γ k n pc lv (.long y :: .long x :: st) ws := by
  obtain ⟨p, l, e, R, s, m, args, below, meth, c, nL, D, A, Q⟩ := Γ
  obtain ⟨hEC, ⟨hx, hb, hml, hown, hts⟩, ⟨hK, hA, hE, ⟨hl0, hN, hl9, hD9⟩, hnl⟩, hr, hlk, hR, hnm⟩ := C
  intro ls H locs hl hP hD hS
  exact W.lcmp hx hb hd0 (lv_if_le hx hb hd ht (fun h => kt (lg_le_t h) ls H locs hl hP hD hS) (fun h => kf (lg_le_f h) ls H locs hl hP hD hS))
theorem a_icmp_le {Γ : XG} {l9 : Launch} {D9 : va_G} {cs : Nat → ClassId} {cc : ByteArray} {own nm : String} {nl : Nat} {ret : Option FieldType} {fr lo mc ms : Nat} {EC : XG → Prop} (C : CX Γ l9 D9 cs cc own nm nl ret fr lo mc ms EC) {k n pc : Nat} {lv : List (Nat × Value)} {st : List Value} {ws : va_W} {x y : Int32} {o : Int} (tgt : Nat) (hd : decode cc pc = .ok (.if_icmp .le o, 3)) (ht : (pc : Int) + o = (tgt : Int)) (kt : x ≤ y → AW Γ k n tgt lv st ws) (kf : ¬ x ≤ y → AW Γ k n (pc + 3) lv st ws) : AW Γ k n pc lv (.int y :: .int x :: st) ws := by
  obtain ⟨p, l, e, R, s, m, args, below, meth, c, nL, D, A, Q⟩ := Γ
  obtain ⟨hEC, ⟨hx, hb, hml, hown, hts⟩, ⟨hK, hA, hE, ⟨hl0, hN, hl9, hD9⟩, hnl⟩, hr, hlk, hR, hnm⟩ := C
  intro ls H locs hl hP hD hS
  exact lv_icmp_le hx hb hd ht (fun h => kt h ls H locs hl hP hD hS) (fun h => kf h ls H locs hl hP hD hS)
theorem a_tableIn {Γ : XG} {l9 : Launch} {D9 : va_G} {cs : Nat → ClassId} {cc : ByteArray} {own nm : String} {nl : Nat} {ret : Option FieldType} {fr lo mc ms : Nat} {EC : XG → Prop} (C : CX Γ l9 D9 cs cc own nm nl ret fr lo mc ms EC) {k n pc : Nat} {lv : List (Nat × Value)} {st : List Value} {ws : va_W} {df lo1 hi1 : Int} {offs : Array Int} {len : Nat} {x : Int32} {o : Int} (tgt : Nat) (hd : decode cc pc = .ok (.tableswitch df lo1 hi1 offs, len)) (h1 : ¬ x.toInt < lo1) (h2 : ¬ hi1 < x.toInt) (ho : offs[(x.toInt - lo1).toNat]? = some o) (ht : (pc : Int) + o = (tgt : Int)) (kk : AW Γ k n tgt lv st ws) : AW Γ k n pc lv (.int x :: st) ws := by
  obtain ⟨p, l, e, R, s, m, args, below, meth, c, nL, D, A, Q⟩ := Γ
  obtain ⟨hEC, ⟨hx, hb, hml, hown, hts⟩, ⟨hK, hA, hE, ⟨hl0, hN, hl9, hD9⟩, hnl⟩, hr, hlk, hR, hnm⟩ := C
  intro ls H locs hl hP hD hS
  exact lv_tableIn hx hb hd h1 h2 ho ht (kk ls H locs hl hP hD hS)
theorem a_tableOut {Γ : XG} {l9 : Launch} {D9 : va_G} {cs : Nat → ClassId} {cc : ByteArray} {own nm : String} {nl : Nat} {ret : Option FieldType} {fr lo mc ms : Nat} {EC : XG → Prop} (C : CX Γ l9 D9 cs cc own nm nl ret fr lo mc ms EC) {k n pc : Nat} {lv : List (Nat × Value)} {st : List Value} {ws : va_W} {df lo1 hi1 : Int} {offs : Array Int} {len : Nat} {x : Int32} (tgt : Nat) (hd : decode cc pc = .ok (.tableswitch df lo1 hi1 offs, len)) (h1 : x.toInt < lo1 ∨ hi1 < x.toInt) (ht : (pc : Int) + df = (tgt : Int)) (kk : AW Γ k n tgt lv st ws) : AW Γ k n pc lv (.int x :: st) ws := by
  obtain ⟨p, l, e, R, s, m, args, below, meth, c, nL, D, A, Q⟩ := Γ
  obtain ⟨hEC, ⟨hx, hb, hml, hown, hts⟩, ⟨hK, hA, hE, ⟨hl0, hN, hl9, hD9⟩, hnl⟩, hr, hlk, hR, hnm⟩ := C
  intro ls H locs hl hP hD hS
  exact lv_tableOut hx hb hd h1 ht (kk ls H locs hl hP hD hS)
theorem a_lookup {Γ : XG} {l9 : Launch} {D9 : va_G} {cs : Nat → ClassId} {cc : ByteArray} {own nm : String} {nl : Nat} {ret : Option FieldType} {fr lo mc ms : Nat} {EC : XG → Prop} (C : CX Γ l9 D9 cs cc own nm nl ret fr lo mc ms EC) {k n pc : Nat} {lv : List (Nat × Value)} {st : List Value} {ws : va_W} {df : Int} {ps : Array (Int × Int)} {len : Nat} {x : Int32} {o : Int} (tgt : Nat) (hd : decode cc pc = .ok (.lookupswitch df ps, len)) (hp : (ps.toList.zip (ps.toList.drop 1)).all (fun (a, next) => a.1 < next.1) = true) (ho : Op.lookupswitch.offset ps.toList df x.toInt = o) (ht : (pc : Int) + o = (tgt : Int)) (kk : AW Γ k n tgt lv st ws) : AW Γ k n pc lv (.int x :: st) ws := by
  obtain ⟨p, l, e, R, s, m, args, below, meth, c, nL, D, A, Q⟩ := Γ
  obtain ⟨hEC, ⟨hx, hb, hml, hown, hts⟩, ⟨hK, hA, hE, ⟨hl0, hN, hl9, hD9⟩, hnl⟩, hr, hlk, hR, hnm⟩ := C
  intro ls H locs hl hP hD hS
  exact lv_lookup hx hb hd hp ho ht (kk ls H locs hl hP hD hS)
theorem a_ldc {Γ : XG} {l9 : Launch} {D9 : va_G} {cs : Nat → ClassId} {cc : ByteArray} {own nm : String} {nl : Nat} {ret : Option FieldType} {fr lo mc ms : Nat} {EC : XG → Prop} (C : CX Γ l9 D9 cs cc own nm nl ret fr lo mc ms EC) {k n pc : Nat} {lv : List (Nat × Value)} {st : List Value} {ws : va_W} {idx : Nat} {v : Int32} (hw : Cond.constant own idx v ∈ LW) (hd : decode cc pc = .ok (.ldc idx, 2)) (kk : AW Γ k n (pc + 2) lv (.int v :: st) ws) : AW Γ k n pc lv st ws := by
  obtain ⟨p, l, e, R, s, m, args, below, meth, c, nL, D, A, Q⟩ := Γ
  obtain ⟨hEC, ⟨hx, hb, hml, hown, hts⟩, ⟨hK, hA, hE, ⟨hl0, hN, hl9, hD9⟩, hnl⟩, hr, hlk, hR, hnm⟩ := C
  intro ls H locs hl hP hD hS
  exact lv_ldc hx hb hown (hts _ hw) hd (kk ls H locs hl hP hD hS)
theorem a_ldc2 {Γ : XG} {l9 : Launch} {D9 : va_G} {cs : Nat → ClassId} {cc : ByteArray} {own nm : String} {nl : Nat} {ret : Option FieldType} {fr lo mc ms : Nat} {EC : XG → Prop} (C : CX Γ l9 D9 cs cc own nm nl ret fr lo mc ms EC) {k n pc : Nat} {lv : List (Nat × Value)} {st : List Value} {ws : va_W} {idx : Nat} {v : Int64} (hw : Cond.constantLong own idx v ∈ LW) (hd : decode cc pc = .ok (.ldc2_w idx, 3)) (kk : AW Γ k n (pc + 3) lv (.long v :: st) ws) : AW Γ k n pc lv st ws := by
  obtain ⟨p, l, e, R, s, m, args, below, meth, c, nL, D, A, Q⟩ := Γ
  obtain ⟨hEC, ⟨hx, hb, hml, hown, hts⟩, ⟨hK, hA, hE, ⟨hl0, hN, hl9, hD9⟩, hnl⟩, hr, hlk, hR, hnm⟩ := C
  intro ls H locs hl hP hD hS
  exact lv_ldc2 hx hb hown (hts _ hw) hd (kk ls H locs hl hP hD hS)
theorem a_ldc2d {Γ : XG} {l9 : Launch} {D9 : va_G} {cs : Nat → ClassId} {cc : ByteArray} {own nm : String} {nl : Nat} {ret : Option FieldType} {fr lo mc ms : Nat} {EC : XG → Prop} (C : CX Γ l9 D9 cs cc own nm nl ret fr lo mc ms EC) {k n pc : Nat} {lv : List (Nat × Value)} {st : List Value} {ws : va_W} {idx : Nat} {v : UInt64} (hw : Cond.constantDouble own idx v ∈ LW) (hd : decode cc pc = .ok (.ldc2_w idx, 3)) (kk : AW Γ k n (pc + 3) lv (.double v :: st) ws) : AW Γ k n pc lv st ws := by
  obtain ⟨p, l, e, R, s, m, args, below, meth, c, nL, D, A, Q⟩ := Γ
  obtain ⟨hEC, ⟨hx, hb, hml, hown, hts⟩, ⟨hK, hA, hE, ⟨hl0, hN, hl9, hD9⟩, hnl⟩, hr, hlk, hR, hnm⟩ := C
  intro ls H locs hl hP hD hS
  exact lv_ldc2d hx hb hown (hts _ hw) hd (kk ls H locs hl hP hD hS)
/-- WAY_GAPS[..]: the table's address is not named: the three rows of one read -/
theorem a_wayG {Γ : XG} {l9 : Launch} {D9 : va_G} {cs : Nat → ClassId} {cc : ByteArray} {own nm : String} {nl : Nat} {ret : Option FieldType} {fr lo mc ms : Nat} {EC : XG → Prop} (C : CX Γ l9 D9 cs cc own nm nl ret fr lo mc ms EC) {k n pc : Nat} {lv : List (Nat × Value)} {st : List Value} {ws : va_W} {idx : Nat} (hw : Cond.fieldLinkNest own idx "ImpactShelf" "WAY_GAPS" "[I" "ImpactShelf" ∈ NW) (hd : decode cc pc = .ok (.getstatic idx, 3)) (kk : ∀ a : Nat, AR Γ a wayG → AW Γ k n (pc + 3) lv (.ref a :: st) ws) : AW Γ k n pc lv st ws := by
  obtain ⟨p, l, e, R, s, m, args, below, meth, c, nL, D, A, Q⟩ := Γ
  obtain ⟨hEC, ⟨hx, hb, hml, hown, hts⟩, ⟨hK, hA, hE, ⟨hl0, hN, hl9, hD9⟩, hnl⟩, hr, hlk, hR, hnm⟩ := C
  intro ls H locs hl hP hD hS
  obtain ⟨a, h1, h2, h3, h4⟩ := hE.2.2.1
  exact va_getsN hx hb h1 hS hown ((hN.1 _ hw).use rfl) (fun _ h => h) hd (kk a ⟨h2, h3, h4⟩ ls H locs hl hP hD hS)
/-- WAY_BITS[..]: the table's address is not named: the three rows of one read -/
theorem a_wayB {Γ : XG} {l9 : Launch} {D9 : va_G} {cs : Nat → ClassId} {cc : ByteArray} {own nm : String} {nl : Nat} {ret : Option FieldType} {fr lo mc ms : Nat} {EC : XG → Prop} (C : CX Γ l9 D9 cs cc own nm nl ret fr lo mc ms EC) {k n pc : Nat} {lv : List (Nat × Value)} {st : List Value} {ws : va_W} {idx : Nat} (hw : Cond.fieldLinkNest own idx "ImpactShelf" "WAY_BITS" "[I" "ImpactShelf" ∈ NW) (hd : decode cc pc = .ok (.getstatic idx, 3)) (kk : ∀ a : Nat, AR Γ a wayB → AW Γ k n (pc + 3) lv (.ref a :: st) ws) : AW Γ k n pc lv st ws := by
  obtain ⟨p, l, e, R, s, m, args, below, meth, c, nL, D, A, Q⟩ := Γ
  obtain ⟨hEC, ⟨hx, hb, hml, hown, hts⟩, ⟨hK, hA, hE, ⟨hl0, hN, hl9, hD9⟩, hnl⟩, hr, hlk, hR, hnm⟩ := C
  intro ls H locs hl hP hD hS
  obtain ⟨a, h1, h2, h3, h4⟩ := hE.2.2.2
  exact va_getsN hx hb h1 hS hown ((hN.1 _ hw).use rfl) (fun _ h => h) hd (kk a ⟨h2, h3, h4⟩ ls H locs hl hP hD hS)
theorem a_wald {Γ : XG} {l9 : Launch} {D9 : va_G} {cs : Nat → ClassId} {cc : ByteArray} {own nm : String} {nl : Nat} {ret : Option FieldType} {fr lo mc ms : Nat} {EC : XG → Prop} (C : CX Γ l9 D9 cs cc own nm nl ret fr lo mc ms EC) {k n pc : Nat} {lv : List (Nat × Value)} {st : List Value} {ws : va_W} {a : Nat} {f : Nat → Int32} {i : Int32} (hr9 : AR Γ a f) (hin : vp_in i 11) (hd : decode cc pc = .ok (.iaload, 1)) (kk : AW Γ k n (pc + 1) lv (.int (f i.toNatClampNeg) :: st) ws) : AW Γ k n pc lv (.int i :: .ref a :: st) ws := by
  obtain ⟨p, l, e, R, s, m, args, below, meth, c, nL, D, A, Q⟩ := Γ
  obtain ⟨hEC, ⟨hx, hb, hml, hown, hts⟩, ⟨hK, hA, hE, ⟨hl0, hN, hl9, hD9⟩, hnl⟩, hr, hlk, hR, hnm⟩ := C
  intro ls H locs hl hP hD hS
  exact va_sld hx hb hr9.1 hr9.2.1 hr9.2.2 hS hin hd (kk ls H locs hl hP hD hS)
theorem a_walen {Γ : XG} {l9 : Launch} {D9 : va_G} {cs : Nat → ClassId} {cc : ByteArray} {own nm : String} {nl : Nat} {ret : Option FieldType} {fr lo mc ms : Nat} {EC : XG → Prop} (C : CX Γ l9 D9 cs cc own nm nl ret fr lo mc ms EC) {k n pc : Nat} {lv : List (Nat × Value)} {st : List Value} {ws : va_W} {a : Nat} {f : Nat → Int32} (hr9 : AR Γ a f) (hd : decode cc pc = .ok (.arraylength, 1)) (kk : AW Γ k n (pc + 1) lv (.int 11 :: st) ws) : AW Γ k n pc lv (.ref a :: st) ws := by
  obtain ⟨p, l, e, R, s, m, args, below, meth, c, nL, D, A, Q⟩ := Γ
  obtain ⟨hEC, ⟨hx, hb, hml, hown, hts⟩, ⟨hK, hA, hE, ⟨hl0, hN, hl9, hD9⟩, hnl⟩, hr, hlk, hR, hnm⟩ := C
  intro ls H locs hl hP hD hS
  exact va_slen hx hb hr9.1 hr9.2.1 hr9.2.2 hS hd (kk ls H locs hl hP hD hS)
theorem a_get {Γ : XG} {l9 : Launch} {D9 : va_G} {cs : Nat → ClassId} {cc : ByteArray} {own nm : String} {nl : Nat} {ret : Option FieldType} {fr lo mc ms : Nat} {EC : XG → Prop} (C : CX Γ l9 D9 cs cc own nm nl ret fr lo mc ms EC) {k n pc : Nat} {lv : List (Nat × Value)} {st : List Value} {ws : va_W} {ref C9 : String} {T : u_T} {N ci idx : Nat} {a : Nat} {fs : List Value} {v : Value} (q0 f : Nat) (hin : ∀ w ∈ u_ws C9 T N, w ∈ LW) (he : ws[q0]? = some (a, .inr (ci, fs))) (hc : vwCl[ci]? = some (C9, T, N)) (hf : f < N) (hw : Cond.fieldLink own idx ref (T f).2.1 (T f).2.2.1 ∈ LW) (hs : (T f).1 = ref) (hv : fs[f]? = some v) (hd : decode cc pc = .ok (.getfield idx, 3)) (kk : AW Γ k n (pc + 3) lv (v :: st) ws) : AW Γ k n pc lv (.ref a :: st) ws := by
  obtain ⟨p, l, e, R, s, m, args, below, meth, c, nL, D, A, Q⟩ := Γ
  obtain ⟨hEC, ⟨hx, hb, hml, hown, hts⟩, ⟨hK, hA, hE, ⟨hl0, hN, hl9, hD9⟩, hnl⟩, hr, hlk, hR, hnm⟩ := C
  intro ls H locs hl hP hD hS
  exact va_get hx hb hts hin hown hK hP q0 he hc f hf (hts _ hw) (fun _ h => by rw [← hs]; exact h) hv hd (kk ls H locs hl hP hD hS)
theorem a_put {Γ : XG} {l9 : Launch} {D9 : va_G} {cs : Nat → ClassId} {cc : ByteArray} {own nm : String} {nl : Nat} {ret : Option FieldType} {fr lo mc ms : Nat} {EC : XG → Prop} (C : CX Γ l9 D9 cs cc own nm nl ret fr lo mc ms EC) {k n pc : Nat} {lv : List (Nat × Value)} {st : List Value} {ws : va_W} {ref C9 : String} {T : u_T} {N ci idx : Nat} {a : Nat} {fs : List Value} {v : Value} {ty : FieldType} {ws1 : va_W} (q0 f : Nat) (hin : ∀ w ∈ u_ws C9 T N, w ∈ LW) (ty0 : Nat → FieldType) (hty : ∀ k, k < N → parseFieldDescriptor (T k).2.2.1 = some (ty0 k)) (hnm9 : ∀ a, a < N → ∀ b, b < N → a ≠ b → (T a).2.1 ≠ (T b).2.1) (he : ws[q0]? = some (a, .inr (ci, fs))) (hc : vwCl[ci]? = some (C9, T, N)) (hf : f < N) (hw : Cond.fieldLink own idx ref (T f).2.1 (T f).2.2.1 ∈ LW) (hs : (T f).1 = ref) (hfin : (T f).2.2.2 = false) (hd9 : ty0 f = ty) (hn : narrow ty v = v) (hfit : fits ty v = true) (hfl : f < fs.length) (hd : decode cc pc = .ok (.putfield idx, 3)) (h1 : ws.set q0 (a, .inr (ci, fs.set f v)) = ws1) (kk : AW Γ k n (pc + 3) lv st ws1) : AW Γ k n pc lv (v :: .ref a :: st) ws := by
  subst h1
  obtain ⟨p, l, e, R, s, m, args, below, meth, c, nL, D, A, Q⟩ := Γ
  obtain ⟨hEC, ⟨hx, hb, hml, hown, hts⟩, ⟨hK, hA, hE, ⟨hl0, hN, hl9, hD9⟩, hnl⟩, hr, hlk, hR, hnm⟩ := C
  intro ls H locs hl hP hD hS
  exact va_put hx hb hts hin ty0 hty hnm9 hown hK hP hD hS q0 he hc f hf (hts _ hw) (fun _ h => by rw [← hs]; exact h) hfin (by rw [hty f hf, hd9]) hn hfit hfl hd (fun H1 locs1 hP1 hD1 hS1 => kk ls H1 locs1 hl hP1 hD1 hS1)
theorem a_putF {Γ : XG} {l9 : Launch} {D9 : va_G} {cs : Nat → ClassId} {cc : ByteArray} {own nm : String} {nl : Nat} {ret : Option FieldType} {fr lo mc ms : Nat} {EC : XG → Prop} (C : CX Γ l9 D9 cs cc own nm nl ret fr lo mc ms EC) {k n pc : Nat} {lv : List (Nat × Value)} {st : List Value} {ws : va_W} {ref C9 : String} {T : u_T} {N ci idx : Nat} {a : Nat} {fs : List Value} {v : Value} {ty : FieldType} {ws1 : va_W} (q0 f : Nat) (hin : ∀ w ∈ u_ws C9 T N, w ∈ LW) (ty0 : Nat → FieldType) (hty : ∀ k, k < N → parseFieldDescriptor (T k).2.2.1 = some (ty0 k)) (hnm9 : ∀ a, a < N → ∀ b, b < N → a ≠ b → (T a).2.1 ≠ (T b).2.1) (he : ws[q0]? = some (a, .inr (ci, fs))) (hc : vwCl[ci]? = some (C9, T, N)) (hf : f < N) (hw : Cond.fieldLink own idx ref (T f).2.1 (T f).2.2.1 ∈ LW) (hs : (T f).1 = ref) (hfin : (T f).2.2.2 = true) (hini : nm = "<init>") (hdecl : (T f).1 = own) (hd9 : ty0 f = ty) (hn : narrow ty v = v) (hfit : fits ty v = true) (hfl : f < fs.length) (hd : decode cc pc = .ok (.putfield idx, 3)) (h1 : ws.set q0 (a, .inr (ci, fs.set f v)) = ws1) (kk : AW Γ k n (pc + 3) lv st ws1) : AW Γ k n pc lv (v :: .ref a :: st) ws := by
  subst h1
  obtain ⟨p, l, e, R, s, m, args, below, meth, c, nL, D, A, Q⟩ := Γ
  obtain ⟨hEC, ⟨hx, hb, hml, hown, hts⟩, ⟨hK, hA, hE, ⟨hl0, hN, hl9, hD9⟩, hnl⟩, hr, hlk, hR, hnm⟩ := C
  intro ls H locs hl hP hD hS
  exact va_putF hx hb hts hin ty0 hty hnm9 hown hK hP hD hS q0 he hc f hf (hts _ hw) (fun _ h => by rw [← hs]; exact h) hfin (hnm.trans hini) hdecl (by rw [hty f hf, hd9]) hn hfit hfl hd (fun H1 locs1 hP1 hD1 hS1 => kk ls H1 locs1 hl hP1 hD1 hS1)
theorem a_iald {Γ : XG} {l9 : Launch} {D9 : va_G} {cs : Nat → ClassId} {cc : ByteArray} {own nm : String} {nl : Nat} {ret : Option FieldType} {fr lo mc ms : Nat} {EC : XG → Prop} (C : CX Γ l9 D9 cs cc own nm nl ret fr lo mc ms EC) {k n pc : Nat} {lv : List (Nat × Value)} {st : List Value} {ws : va_W} {a N : Nat} {f : Nat → Int32} {i : Int32} (q0 : Nat) (ha : ws[q0]? = some (a, aI cs N f)) (hin : vp_in i N) (hd : decode cc pc = .ok (.iaload, 1)) (kk : AW Γ k n (pc + 1) lv (.int (f i.toNatClampNeg) :: st) ws) : AW Γ k n pc lv (.int i :: .ref a :: st) ws := by
  obtain ⟨p, l, e, R, s, m, args, below, meth, c, nL, D, A, Q⟩ := Γ
  obtain ⟨hEC, ⟨hx, hb, hml, hown, hts⟩, ⟨hK, hA, hE, ⟨hl0, hN, hl9, hD9⟩, hnl⟩, hr, hlk, hR, hnm⟩ := C
  intro ls H locs hl hP hD hS
  exact va_iald hx hb hK hP q0 1 ha rfl hin hd (kk ls H locs hl hP hD hS)
theorem a_bald {Γ : XG} {l9 : Launch} {D9 : va_G} {cs : Nat → ClassId} {cc : ByteArray} {own nm : String} {nl : Nat} {ret : Option FieldType} {fr lo mc ms : Nat} {EC : XG → Prop} (C : CX Γ l9 D9 cs cc own nm nl ret fr lo mc ms EC) {k n pc : Nat} {lv : List (Nat × Value)} {st : List Value} {ws : va_W} {a N : Nat} {f : Nat → Int32} {i : Int32} (q0 : Nat) (ha : ws[q0]? = some (a, aB cs N f)) (hin : vp_in i N) (hd : decode cc pc = .ok (.baload, 1)) (kk : AW Γ k n (pc + 1) lv (.int (f i.toNatClampNeg) :: st) ws) : AW Γ k n pc lv (.int i :: .ref a :: st) ws := by
  obtain ⟨p, l, e, R, s, m, args, below, meth, c, nL, D, A, Q⟩ := Γ
  obtain ⟨hEC, ⟨hx, hb, hml, hown, hts⟩, ⟨hK, hA, hE, ⟨hl0, hN, hl9, hD9⟩, hnl⟩, hr, hlk, hR, hnm⟩ := C
  intro ls H locs hl hP hD hS
  exact va_bald hx hb hK hP q0 0 ha rfl hin hd (kk ls H locs hl hP hD hS)
theorem a_zald {Γ : XG} {l9 : Launch} {D9 : va_G} {cs : Nat → ClassId} {cc : ByteArray} {own nm : String} {nl : Nat} {ret : Option FieldType} {fr lo mc ms : Nat} {EC : XG → Prop} (C : CX Γ l9 D9 cs cc own nm nl ret fr lo mc ms EC) {k n pc : Nat} {lv : List (Nat × Value)} {st : List Value} {ws : va_W} {a N : Nat} {f : Nat → Int32} {i : Int32} (q0 : Nat) (ha : ws[q0]? = some (a, aZ cs N f)) (hin : vp_in i N) (hd : decode cc pc = .ok (.baload, 1)) (kk : AW Γ k n (pc + 1) lv (.int (f i.toNatClampNeg) :: st) ws) : AW Γ k n pc lv (.int i :: .ref a :: st) ws := by
  obtain ⟨p, l, e, R, s, m, args, below, meth, c, nL, D, A, Q⟩ := Γ
  obtain ⟨hEC, ⟨hx, hb, hml, hown, hts⟩, ⟨hK, hA, hE, ⟨hl0, hN, hl9, hD9⟩, hnl⟩, hr, hlk, hR, hnm⟩ := C
  intro ls H locs hl hP hD hS
  exact va_zald hx hb hK hP q0 4 ha rfl hin hd (kk ls H locs hl hP hD hS)
theorem a_lald {Γ : XG} {l9 : Launch} {D9 : va_G} {cs : Nat → ClassId} {cc : ByteArray} {own nm : String} {nl : Nat} {ret : Option FieldType} {fr lo mc ms : Nat} {EC : XG → Prop} (C : CX Γ l9 D9 cs cc own nm nl ret fr lo mc ms EC) {k n pc : Nat} {lv : List (Nat × Value)} {st : List Value} {ws : va_W} {a N : Nat} {f : Nat → Int64} {i : Int32} (q0 : Nat) (ha : ws[q0]? = some (a, aJ cs N f)) (hin : vp_in i N) (hd : decode cc pc = .ok (.laload, 1)) (kk : AW Γ k n (pc + 1) lv (.long (f i.toNatClampNeg) :: st) ws) : AW Γ k n pc lv (.int i :: .ref a :: st) ws := by
  obtain ⟨p, l, e, R, s, m, args, below, meth, c, nL, D, A, Q⟩ := Γ
  obtain ⟨hEC, ⟨hx, hb, hml, hown, hts⟩, ⟨hK, hA, hE, ⟨hl0, hN, hl9, hD9⟩, hnl⟩, hr, hlk, hR, hnm⟩ := C
  intro ls H locs hl hP hD hS
  exact va_lald hx hb hK hP q0 2 ha rfl hin hd (kk ls H locs hl hP hD hS)
theorem a_dald {Γ : XG} {l9 : Launch} {D9 : va_G} {cs : Nat → ClassId} {cc : ByteArray} {own nm : String} {nl : Nat} {ret : Option FieldType} {fr lo mc ms : Nat} {EC : XG → Prop} (C : CX Γ l9 D9 cs cc own nm nl ret fr lo mc ms EC) {k n pc : Nat} {lv : List (Nat × Value)} {st : List Value} {ws : va_W} {a N : Nat} {f : Nat → UInt64} {i : Int32} (q0 : Nat) (ha : ws[q0]? = some (a, aD cs N f)) (hin : vp_in i N) (hd : decode cc pc = .ok (.daload, 1)) (kk : AW Γ k n (pc + 1) lv (.double (f i.toNatClampNeg) :: st) ws) : AW Γ k n pc lv (.int i :: .ref a :: st) ws := by
  obtain ⟨p, l, e, R, s, m, args, below, meth, c, nL, D, A, Q⟩ := Γ
  obtain ⟨hEC, ⟨hx, hb, hml, hown, hts⟩, ⟨hK, hA, hE, ⟨hl0, hN, hl9, hD9⟩, hnl⟩, hr, hlk, hR, hnm⟩ := C
  intro ls H locs hl hP hD hS
  exact va_dald hx hb hK hP q0 3 ha rfl hin hd (kk ls H locs hl hP hD hS)
theorem a_iast {Γ : XG} {l9 : Launch} {D9 : va_G} {cs : Nat → ClassId} {cc : ByteArray} {own nm : String} {nl : Nat} {ret : Option FieldType} {fr lo mc ms : Nat} {EC : XG → Prop} (C : CX Γ l9 D9 cs cc own nm nl ret fr lo mc ms EC) {k n pc : Nat} {lv : List (Nat × Value)} {st : List Value} {ws : va_W} {a N : Nat} {f : Nat → Int32} {i : Int32} {x : Int32} {ws1 : va_W} (q0 : Nat) (ha : ws[q0]? = some (a, aI cs N f)) (hin : vp_in i N) (hd : decode cc pc = .ok (.iastore, 1)) (h1 : ws.set q0 (a, aI cs N (upd f i.toNatClampNeg x)) = ws1) (kk : AW Γ k n (pc + 1) lv st ws1) : AW Γ k n pc lv (.int x :: .int i :: .ref a :: st) ws := by
  subst h1
  obtain ⟨p, l, e, R, s, m, args, below, meth, c, nL, D, A, Q⟩ := Γ
  obtain ⟨hEC, ⟨hx, hb, hml, hown, hts⟩, ⟨hK, hA, hE, ⟨hl0, hN, hl9, hD9⟩, hnl⟩, hr, hlk, hR, hnm⟩ := C
  intro ls H locs hl hP hD hS
  exact va_iast hx hb hK hP hD hS q0 1 ha rfl hin hd (fun H1 locs1 hP1 hD1 hS1 => kk ls H1 locs1 hl hP1 hD1 hS1)
theorem a_bast {Γ : XG} {l9 : Launch} {D9 : va_G} {cs : Nat → ClassId} {cc : ByteArray} {own nm : String} {nl : Nat} {ret : Option FieldType} {fr lo mc ms : Nat} {EC : XG → Prop} (C : CX Γ l9 D9 cs cc own nm nl ret fr lo mc ms EC) {k n pc : Nat} {lv : List (Nat × Value)} {st : List Value} {ws : va_W} {a N : Nat} {f : Nat → Int32} {i : Int32} {x : Int32} {ws1 : va_W} (q0 : Nat) (ha : ws[q0]? = some (a, aB cs N f)) (hin : vp_in i N) (hd : decode cc pc = .ok (.bastore, 1)) (h1 : ws.set q0 (a, aB cs N (upd f i.toNatClampNeg (vp_nar .byte x))) = ws1) (kk : AW Γ k n (pc + 1) lv st ws1) : AW Γ k n pc lv (.int x :: .int i :: .ref a :: st) ws := by
  subst h1
  obtain ⟨p, l, e, R, s, m, args, below, meth, c, nL, D, A, Q⟩ := Γ
  obtain ⟨hEC, ⟨hx, hb, hml, hown, hts⟩, ⟨hK, hA, hE, ⟨hl0, hN, hl9, hD9⟩, hnl⟩, hr, hlk, hR, hnm⟩ := C
  intro ls H locs hl hP hD hS
  exact va_bast hx hb hK hP hD hS q0 0 ha rfl hin hd (fun H1 locs1 hP1 hD1 hS1 => kk ls H1 locs1 hl hP1 hD1 hS1)
theorem a_zast {Γ : XG} {l9 : Launch} {D9 : va_G} {cs : Nat → ClassId} {cc : ByteArray} {own nm : String} {nl : Nat} {ret : Option FieldType} {fr lo mc ms : Nat} {EC : XG → Prop} (C : CX Γ l9 D9 cs cc own nm nl ret fr lo mc ms EC) {k n pc : Nat} {lv : List (Nat × Value)} {st : List Value} {ws : va_W} {a N : Nat} {f : Nat → Int32} {i : Int32} {x : Int32} {ws1 : va_W} (q0 : Nat) (ha : ws[q0]? = some (a, aZ cs N f)) (hin : vp_in i N) (hd : decode cc pc = .ok (.bastore, 1)) (h1 : ws.set q0 (a, aZ cs N (upd f i.toNatClampNeg (vp_nar .boolean x))) = ws1) (kk : AW Γ k n (pc + 1) lv st ws1) : AW Γ k n pc lv (.int x :: .int i :: .ref a :: st) ws := by
  subst h1
  obtain ⟨p, l, e, R, s, m, args, below, meth, c, nL, D, A, Q⟩ := Γ
  obtain ⟨hEC, ⟨hx, hb, hml, hown, hts⟩, ⟨hK, hA, hE, ⟨hl0, hN, hl9, hD9⟩, hnl⟩, hr, hlk, hR, hnm⟩ := C
  intro ls H locs hl hP hD hS
  exact va_zast hx hb hK hP hD hS q0 4 ha rfl hin hd (fun H1 locs1 hP1 hD1 hS1 => kk ls H1 locs1 hl hP1 hD1 hS1)
theorem a_last {Γ : XG} {l9 : Launch} {D9 : va_G} {cs : Nat → ClassId} {cc : ByteArray} {own nm : String} {nl : Nat} {ret : Option FieldType} {fr lo mc ms : Nat} {EC : XG → Prop} (C : CX Γ l9 D9 cs cc own nm nl ret fr lo mc ms EC) {k n pc : Nat} {lv : List (Nat × Value)} {st : List Value} {ws : va_W} {a N : Nat} {f : Nat → Int64} {i : Int32} {x : Int64} {ws1 : va_W} (q0 : Nat) (ha : ws[q0]? = some (a, aJ cs N f)) (hin : vp_in i N) (hd : decode cc pc = .ok (.lastore, 1)) (h1 : ws.set q0 (a, aJ cs N (vp_updL f i.toNatClampNeg x)) = ws1) (kk : AW Γ k n (pc + 1) lv st ws1) : AW Γ k n pc lv (.long x :: .int i :: .ref a :: st) ws := by
  subst h1
  obtain ⟨p, l, e, R, s, m, args, below, meth, c, nL, D, A, Q⟩ := Γ
  obtain ⟨hEC, ⟨hx, hb, hml, hown, hts⟩, ⟨hK, hA, hE, ⟨hl0, hN, hl9, hD9⟩, hnl⟩, hr, hlk, hR, hnm⟩ := C
  intro ls H locs hl hP hD hS
  exact va_last hx hb hK hP hD hS q0 2 ha rfl hin hd (fun H1 locs1 hP1 hD1 hS1 => kk ls H1 locs1 hl hP1 hD1 hS1)
theorem a_dast {Γ : XG} {l9 : Launch} {D9 : va_G} {cs : Nat → ClassId} {cc : ByteArray} {own nm : String} {nl : Nat} {ret : Option FieldType} {fr lo mc ms : Nat} {EC : XG → Prop} (C : CX Γ l9 D9 cs cc own nm nl ret fr lo mc ms EC) {k n pc : Nat} {lv : List (Nat × Value)} {st : List Value} {ws : va_W} {a N : Nat} {f : Nat → UInt64} {i : Int32} {x : UInt64} {ws1 : va_W} (q0 : Nat) (ha : ws[q0]? = some (a, aD cs N f)) (hin : vp_in i N) (hd : decode cc pc = .ok (.dastore, 1)) (h1 : ws.set q0 (a, aD cs N (vf_upd f i.toNatClampNeg x)) = ws1) (kk : AW Γ k n (pc + 1) lv st ws1) : AW Γ k n pc lv (.double x :: .int i :: .ref a :: st) ws := by
  subst h1
  obtain ⟨p, l, e, R, s, m, args, below, meth, c, nL, D, A, Q⟩ := Γ
  obtain ⟨hEC, ⟨hx, hb, hml, hown, hts⟩, ⟨hK, hA, hE, ⟨hl0, hN, hl9, hD9⟩, hnl⟩, hr, hlk, hR, hnm⟩ := C
  intro ls H locs hl hP hD hS
  exact va_dast hx hb hK hP hD hS q0 3 ha rfl hin hd (fun H1 locs1 hP1 hD1 hS1 => kk ls H1 locs1 hl hP1 hD1 hS1)
theorem a_alen {Γ : XG} {l9 : Launch} {D9 : va_G} {cs : Nat → ClassId} {cc : ByteArray} {own nm : String} {nl : Nat} {ret : Option FieldType} {fr lo mc ms : Nat} {EC : XG → Prop} (C : CX Γ l9 D9 cs cc own nm nl ret fr lo mc ms EC) {k n pc : Nat} {lv : List (Nat × Value)} {st : List Value} {ws : va_W} {a : Nat} {cA : ClassId} {y : vp_A} {ty : FieldType} {v : Int32} (q0 t0 : Nat) (ha : ws[q0]? = some (a, .inl (cA, y))) (ht : (axT cs)[t0]? = some (cA, ty)) (hv : Int32.ofNat y.1 = v) (hd : decode cc pc = .ok (.arraylength, 1)) (kk : AW Γ k n (pc + 1) lv (.int v :: st) ws) : AW Γ k n pc lv (.ref a :: st) ws := by
  obtain ⟨p, l, e, R, s, m, args, below, meth, c, nL, D, A, Q⟩ := Γ
  obtain ⟨hEC, ⟨hx, hb, hml, hown, hts⟩, ⟨hK, hA, hE, ⟨hl0, hN, hl9, hD9⟩, hnl⟩, hr, hlk, hR, hnm⟩ := C
  intro ls H locs hl hP hD hS
  exact va_alen hx hb hK hP q0 t0 ha ht hv hd (kk ls H locs hl hP hD hS)
theorem a_aldq {Γ : XG} {l9 : Launch} {D9 : va_G} {cs : Nat → ClassId} {cc : ByteArray} {own nm : String} {nl : Nat} {ret : Option FieldType} {fr lo mc ms : Nat} {EC : XG → Prop} (C : CX Γ l9 D9 cs cc own nm nl ret fr lo mc ms EC) {k n pc : Nat} {lv : List (Nat × Value)} {st : List Value} {ws : va_W} {a N : Nat} {f : Nat → Option Nat} {i : Int32} {v : Value} (q0 : Nat) (ha : ws[q0]? = some (a, aQ cs N f)) (hin : vp_in i N) (hv : va_rf (f i.toNatClampNeg) = v) (hd : decode cc pc = .ok (.aaload, 1)) (kk : AW Γ k n (pc + 1) lv (v :: st) ws) : AW Γ k n pc lv (.int i :: .ref a :: st) ws := by
  obtain ⟨p, l, e, R, s, m, args, below, meth, c, nL, D, A, Q⟩ := Γ
  obtain ⟨hEC, ⟨hx, hb, hml, hown, hts⟩, ⟨hK, hA, hE, ⟨hl0, hN, hl9, hD9⟩, hnl⟩, hr, hlk, hR, hnm⟩ := C
  intro ls H locs hl hP hD hS
  exact va_aldq hx hb hK hP q0 5 ha rfl hin hd (by rw [hv]; exact kk ls H locs hl hP hD hS)
theorem a_astq {Γ : XG} {l9 : Launch} {D9 : va_G} {cs : Nat → ClassId} {cc : ByteArray} {own nm : String} {nl : Nat} {ret : Option FieldType} {fr lo mc ms : Nat} {EC : XG → Prop} (C : CX Γ l9 D9 cs cc own nm nl ret fr lo mc ms EC) {k n pc : Nat} {lv : List (Nat × Value)} {st : List Value} {ws : va_W} {a N v : Nat} {f : Nat → Option Nat} {i : Int32} {vs : List Value} {ws1 : va_W} (q0 qk : Nat) (ha : ws[q0]? = some (a, aQ cs N f)) (hv : ws[qk]? = some (v, oB 4 vs)) (hin : vp_in i N) (hd : decode cc pc = .ok (.aastore, 1)) (h1 : ws.set q0 (a, aQ cs N (va_up f i.toNatClampNeg (some v))) = ws1) (kk : AW Γ k n (pc + 1) lv st ws1) : AW Γ k n pc lv (.ref v :: .int i :: .ref a :: st) ws := by
  subst h1
  obtain ⟨p, l, e, R, s, m, args, below, meth, c, nL, D, A, Q⟩ := Γ
  obtain ⟨hEC, ⟨hx, hb, hml, hown, hts⟩, ⟨hK, hA, hE, ⟨hl0, hN, hl9, hD9⟩, hnl⟩, hr, hlk, hR, hnm⟩ := C
  intro ls H locs hl hP hD hS
  exact va_astq (r := (RX4, TX4, 10)) hx hb hK hP hD hS q0 5 qk 4 ha rfl hv rfl hin hd (fun H1 locs1 hP1 hD1 hS1 => kk ls H1 locs1 hl hP1 hD1 hS1)
theorem a_ireturn {Γ : XG} {l9 : Launch} {D9 : va_G} {cs : Nat → ClassId} {cc : ByteArray} {own nm : String} {nl : Nat} {ret : Option FieldType} {fr lo mc ms : Nat} {tb : List ExceptionTableEntry} {Φ : Option Value → va_W → Prop} {X : String → va_W → Prop} (C : CX Γ l9 D9 cs cc own nm nl ret fr lo mc ms (qEC cs mc ms tb Φ X)) {k n pc : Nat} {lv : List (Nat × Value)} {ws : va_W} {x : Int32} (hre : ret = some .int) (hd : decode cc pc = .ok (.ireturn, 1)) (hk : k ≤ mc) (hn : n ≤ ms) (h : Φ (some (.int x)) ws) : AW Γ k n pc lv [.int x] ws := by
  obtain ⟨p, l, e, R, s, m, args, below, meth, c, nL, D, A, Q⟩ := Γ
  obtain ⟨hEC, ⟨hx, hb, hml, hown, hts⟩, ⟨hK, hA, hE, ⟨hl0, hN, hl9, hD9⟩, hnl⟩, hr, hlk, hR, hnm⟩ := C
  intro ls H locs hl hP hD hS
  obtain ⟨hQ, htb⟩ := hEC
  subst hQ
  refine vx_ret (W.widen hk hn ?_)
  exact W.iret hx hb (hr.trans hre) (fun t ht hW => ⟨⟨_, ws, rfl, h, by rw [ht]; exact hP, va_K.moved hW.alike hK, hD⟩, hS.F ht⟩) hS.2.2 hd hlk
theorem a_zreturn {Γ : XG} {l9 : Launch} {D9 : va_G} {cs : Nat → ClassId} {cc : ByteArray} {own nm : String} {nl : Nat} {ret : Option FieldType} {fr lo mc ms : Nat} {tb : List ExceptionTableEntry} {Φ : Option Value → va_W → Prop} {X : String → va_W → Prop} (C : CX Γ l9 D9 cs cc own nm nl ret fr lo mc ms (qEC cs mc ms tb Φ X)) {k n pc : Nat} {lv : List (Nat × Value)} {ws : va_W} {x : Int32} (hre : ret = some .boolean) (hz : narrow .boolean (.int x) = .int x) (hd : decode cc pc = .ok (.ireturn, 1)) (hk : k ≤ mc) (hn : n ≤ ms) (h : Φ (some (.int x)) ws) : AW Γ k n pc lv [.int x] ws := by
  obtain ⟨p, l, e, R, s, m, args, below, meth, c, nL, D, A, Q⟩ := Γ
  obtain ⟨hEC, ⟨hx, hb, hml, hown, hts⟩, ⟨hK, hA, hE, ⟨hl0, hN, hl9, hD9⟩, hnl⟩, hr, hlk, hR, hnm⟩ := C
  intro ls H locs hl hP hD hS
  obtain ⟨hQ, htb⟩ := hEC
  subst hQ
  refine vx_ret (W.widen hk hn ?_)
  exact W.zret hx hb (hr.trans hre) hz (fun t ht hW => ⟨⟨_, ws, rfl, h, by rw [ht]; exact hP, va_K.moved hW.alike hK, hD⟩, hS.F ht⟩) hS.2.2 hd hlk
theorem a_dreturn {Γ : XG} {l9 : Launch} {D9 : va_G} {cs : Nat → ClassId} {cc : ByteArray} {own nm : String} {nl : Nat} {ret : Option FieldType} {fr lo mc ms : Nat} {tb : List ExceptionTableEntry} {Φ : Option Value → va_W → Prop} {X : String → va_W → Prop} (C : CX Γ l9 D9 cs cc own nm nl ret fr lo mc ms (qEC cs mc ms tb Φ X)) {k n pc : Nat} {lv : List (Nat × Value)} {ws : va_W} {x : UInt64} (hre : ret = some .double) (hd : decode cc pc = .ok (.dreturn, 1)) (hk : k ≤ mc) (hn : n ≤ ms) (h : Φ (some (.double x)) ws) : AW Γ k n pc lv [.double x] ws := by
  obtain ⟨p, l, e, R, s, m, args, below, meth, c, nL, D, A, Q⟩ := Γ
  obtain ⟨hEC, ⟨hx, hb, hml, hown, hts⟩, ⟨hK, hA, hE, ⟨hl0, hN, hl9, hD9⟩, hnl⟩, hr, hlk, hR, hnm⟩ := C
  intro ls H locs hl hP hD hS
  obtain ⟨hQ, htb⟩ := hEC
  subst hQ
  refine vx_ret (W.widen hk hn ?_)
  exact W.dret hx hb (hr.trans hre) (fun t ht hW => ⟨⟨_, ws, rfl, h, by rw [ht]; exact hP, va_K.moved hW.alike hK, hD⟩, hS.F ht⟩) hS.2.2 hd hlk
theorem a_lreturn {Γ : XG} {l9 : Launch} {D9 : va_G} {cs : Nat → ClassId} {cc : ByteArray} {own nm : String} {nl : Nat} {ret : Option FieldType} {fr lo mc ms : Nat} {tb : List ExceptionTableEntry} {Φ : Option Value → va_W → Prop} {X : String → va_W → Prop} (C : CX Γ l9 D9 cs cc own nm nl ret fr lo mc ms (qEC cs mc ms tb Φ X)) {k n pc : Nat} {lv : List (Nat × Value)} {ws : va_W} {x : Int64} (hre : ret = some .long) (hd : decode cc pc = .ok (.lreturn, 1)) (hk : k ≤ mc) (hn : n ≤ ms) (h : Φ (some (.long x)) ws) : AW Γ k n pc lv [.long x] ws := by
  obtain ⟨p, l, e, R, s, m, args, below, meth, c, nL, D, A, Q⟩ := Γ
  obtain ⟨hEC, ⟨hx, hb, hml, hown, hts⟩, ⟨hK, hA, hE, ⟨hl0, hN, hl9, hD9⟩, hnl⟩, hr, hlk, hR, hnm⟩ := C
  intro ls H locs hl hP hD hS
  obtain ⟨hQ, htb⟩ := hEC
  subst hQ
  refine vx_ret (W.widen hk hn ?_)
  exact W.lret hx hb (hr.trans hre) (fun t ht hW => ⟨⟨_, ws, rfl, h, by rw [ht]; exact hP, va_K.moved hW.alike hK, hD⟩, hS.F ht⟩) hS.2.2 hd hlk
theorem a_return {Γ : XG} {l9 : Launch} {D9 : va_G} {cs : Nat → ClassId} {cc : ByteArray} {own nm : String} {nl : Nat} {ret : Option FieldType} {fr lo mc ms : Nat} {tb : List ExceptionTableEntry} {Φ : Option Value → va_W → Prop} {X : String → va_W → Prop} (C : CX Γ l9 D9 cs cc own nm nl ret fr lo mc ms (qEC cs mc ms tb Φ X)) {k n pc : Nat} {lv : List (Nat × Value)} {ws : va_W}  (hre : ret = none) (hd : decode cc pc = .ok (.return_, 1)) (hk : k ≤ mc) (hn : n ≤ ms) (h : Φ none ws) : AW Γ k n pc lv [] ws := by
  obtain ⟨p, l, e, R, s, m, args, below, meth, c, nL, D, A, Q⟩ := Γ
  obtain ⟨hEC, ⟨hx, hb, hml, hown, hts⟩, ⟨hK, hA, hE, ⟨hl0, hN, hl9, hD9⟩, hnl⟩, hr, hlk, hR, hnm⟩ := C
  intro ls H locs hl hP hD hS
  obtain ⟨hQ, htb⟩ := hEC
  subst hQ
  refine vx_ret (W.widen hk hn ?_)
  exact W.vret hx hb (hr.trans hre) (fun t ht hW => ⟨⟨_, ws, rfl, h, by rw [ht]; exact hP, va_K.moved hW.alike hK, hD⟩, hS.F ht⟩) hS.2.2 hd hlk
theorem a_areturn {Γ : XG} {l9 : Launch} {D9 : va_G} {cs : Nat → ClassId} {cc : ByteArray} {own nm : String} {nl : Nat} {ret : Option FieldType} {fr lo mc ms : Nat} {tb : List ExceptionTableEntry} {Φ : Option Value → va_W → Prop} {X : String → va_W → Prop} (C : CX Γ l9 D9 cs cc own nm nl ret fr lo mc ms (qEC cs mc ms tb Φ X)) {k n pc : Nat} {lv : List (Nat × Value)} {ws : va_W} {a : Nat} {cn : String} (hre : ret = some (.object cn)) (hd : decode cc pc = .ok (.areturn, 1)) (hk : k ≤ mc) (hn : n ≤ ms) (h : Φ (some (.ref a)) ws) : AW Γ k n pc lv [.ref a] ws := by
  obtain ⟨p, l, e, R, s, m, args, below, meth, c, nL, D, A, Q⟩ := Γ
  obtain ⟨hEC, ⟨hx, hb, hml, hown, hts⟩, ⟨hK, hA, hE, ⟨hl0, hN, hl9, hD9⟩, hnl⟩, hr, hlk, hR, hnm⟩ := C
  intro ls H locs hl hP hD hS
  obtain ⟨hQ, htb⟩ := hEC
  subst hQ
  refine vx_ret (W.widen hk hn ?_)
  exact W.aret hx hb (hr.trans hre) (Or.inl ⟨_, rfl⟩) (Or.inr ⟨_, rfl⟩) (fun t ht hW => ⟨⟨_, ws, rfl, h, by rw [ht]; exact hP, va_K.moved hW.alike hK, hD⟩, hS.F ht⟩) hS.2.2 hd hlk
set_option maxHeartbeats 1000000 in
theorem a_throw {Γ : XG} {l9 : Launch} {D9 : va_G} {cs : Nat → ClassId} {cc : ByteArray} {own nm : String} {nl : Nat} {ret : Option FieldType} {fr lo mc ms : Nat} {Φ : Option Value → va_W → Prop} {X : String → va_W → Prop} (C : CX Γ l9 D9 cs cc own nm nl ret fr lo mc ms (qEC cs mc ms [] Φ X)) {k n pc : Nat} {lv : List (Nat × Value)} {st : List Value} {ws : va_W} {cls : String} {ik ic : Nat} (hcls : Bundle.fit cls = true) (hk1 : Cond.classLink own ik cls ∈ LW) (hini : Cond.initialized cls ∈ LW) (hat : ∀ w ∈ (vx_at0 own ic cls ["java/lang/RuntimeException", "java/lang/Exception"]).filter goodWord, w ∈ LW)
    (hat2 : ∀ w ∈ (vx_at0 own ic cls ["java/lang/RuntimeException", "java/lang/Exception"]).filter (fun w => !goodWord w), w ∈ NW)
    (hgood : ∀ w ∈ Cond.classLink own ik cls :: Cond.initialized cls :: vx_at0 own ic cls ["java/lang/RuntimeException", "java/lang/Exception"], vx_ot w = true)
    (d0 : decode cc pc = .ok (.new ik, 3)) (d3 : decode cc (pc + 3) = .ok (.dup, 1)) (d4 : decode cc (pc + 4) = .ok (.invokespecial ic, 3)) (d7 : decode cc (pc + 7) = .ok (.athrow, 1))
    (hfr : 5 < fr) (hlo : (st.map fun v => v.category).sum + 81 ≤ lo) (hk : k + 1 ≤ mc) (hn : n + 6 ≤ ms) (h : X cls ws) : AW Γ k n pc lv st ws := by
  obtain ⟨p, l, e, R, s, m, args, below, meth, c, nL, D, A, Q⟩ := Γ
  obtain ⟨hEC, ⟨hx, hb, hml, hown, hts⟩, ⟨hK, hA, hE, ⟨hl0, hN, hl9, hD9⟩, hnl⟩, hr, hlk, hR, hnm⟩ := C
  intro ls H locs hl hP hD hS
  obtain ⟨hQ, htb⟩ := hEC
  subst hQ; subst hR
  refine vx_throw0 hx hb hl0 hown hcls (by decide +kernel) (hts _ hk1) (hts _ hini) (fun w hw => by
      cases hg : goodWord w with
      | true => exact hts _ (hat w (List.mem_filter.mpr ⟨hw, hg⟩))
      | false =>
        have h2 := hat2 w (List.mem_filter.mpr ⟨hw, by rw [hg]; rfl⟩)
        exact (hN.1 w h2).use (nw_on (List.mem_filter.mp h2).2)) hgood hE.1 hE.2.1 hS (hl.1.trans hml.symm) d0 d3 d4 d7 (fun x hx => by rw [htb] at hx; cases hx) hfr hlo hk hn hlk
    (fun t hvm hz hq => ⟨ws, h, ?_, va_K.moved hvm hK, hD, ?_⟩) hS.2.2 hk hn
  · intro i q hi
    exact (hP i q hi).kept (hq q.1 (hP i q hi).lt)
  · exact ⟨Nat.le_trans hS.1 hz, fun q h1 h2 => by rw [hq q (Nat.lt_of_lt_of_le h1 hS.1)]; exact hS.2.1 q h1 h2⟩
theorem a_ws {Γ : XG} {k n pc : Nat} {lv : List (Nat × Value)} {st st1 : List Value} {ws ws1 : va_W} (k1 n1 pc1 : Nat) (is : List Nat) (hk : k = k1) (hn1 : n = n1) (hpc : pc = pc1) (hst : st = st1) (hn : va_nd is = true) (hs : is.map (fun i => ws[i]?) = ws1.map some) (kk : AW Γ k1 n1 pc1 lv st1 ws1) : AW Γ k n pc lv st ws := by
  obtain ⟨p, l, e, R, s, m, args, below, meth, c, nL, D, A, Q⟩ := Γ
  subst hst; subst hk; subst hn1; subst hpc
  intro ls H locs hl hP hD hS
  have h1 : is.filterMap (fun i => ws[i]?) = ws1 := by
    have := congrArg (List.filterMap id) hs
    simpa [List.filterMap_map, Function.comp_def] using this
  exact kk ls H locs hl (hP.sub is h1) (hD.sub is hn hs) hS
theorem a_lv {Γ : XG} {k n pc : Nat} {lv lv1 : List (Nat × Value)} {st : List Value} {ws : va_W} (q : List Nat) (hq : lv_pick lv q = lv1) (kk : AW Γ k n pc lv1 st ws) : AW Γ k n pc lv st ws := by
  obtain ⟨p, l, e, R, s, m, args, below, meth, c, nL, D, A, Q⟩ := Γ
  intro ls H locs hl hP hD hS
  exact kk ls H locs (lv_sub hl q hq) hP hD hS
theorem a_wide {Γ : XG} {k n pc : Nat} {lv : List (Nat × Value)} {st : List Value} {ws : va_W} (k1 n1 : Nat) (hk : k ≤ k1) (hn : n ≤ n1) (kk : AW Γ k1 n1 pc lv st ws) : AW Γ k n pc lv st ws := by
  obtain ⟨p, l, e, R, s, m, args, below, meth, c, nL, D, A, Q⟩ := Γ
  intro ls H locs hl hP hD hS
  exact W.widen hk hn (kk ls H locs hl hP hD hS)
