
/-! the law's frame at its entry -/
theorem lw_sub {s : State} {args : Array Value} (hts : ∀ w ∈ lw_tbl, w.before args s = true) : ∀ w ∈ LW, w.before args s = true := fun w hw => hts w (List.mem_filter.mp hw).1
theorem len_small {args : Array Value} {s : State} {t : Term} {v : Value} (h : (Term.length t).eval args s none [] s = some v) :
    ∃ a cell, t.eval args s none [] s = some (.ref a) ∧ s.arrayAt? a = some cell ∧ v = .int cell.slots.size.toInt32 ∧ cell.slots.size < 2147483648 := by
  simp only [Term.eval, Option.bind_eq_bind] at h
  cases ht : t.eval args s none [] s with
  | none => simp [ht] at h
  | some x =>
    cases x <;> simp [ht] at h
    case ref a =>
      obtain ⟨cell, hcell, h⟩ := Option.bind_eq_some_iff.mp h
      by_cases hn : cell.slots.size < 2147483648
      · rw [if_pos hn] at h; cases h; exact ⟨a, cell, rfl, hcell, rfl, hn⟩
      · rw [if_neg hn] at h; cases h
theorem ax_wof {args : Array Value} {s : State} {n : String} {f : Nat → Int32} {A : Nat → Prop} (hl : (Cond.laysStatic "ImpactShelf" n "[I").before args s = true) (hini : (Cond.initialized "ImpactShelf").before args s = true)
    (harr : (Cond.arrayOf (.static "ImpactShelf" n "[I") .int).before args s = true) (hlen : (Cond.eq (.length (.static "ImpactShelf" n "[I")) (.int 11)).before args s = true) (hel : ∀ j : Nat, j < 11 → (Cond.eq (.elem (.static "ImpactShelf" n "[I") (.int (Int32.ofNat j))) (.int (f j))).before args s = true) (hA : ∀ a : Nat, a < s.heap.size → ¬ A a) : ax_w n f A s s.heap := by
  obtain ⟨a, cell, ht, hat, hv, hsm⟩ := len_small (va_eqt hlen)
  obtain ⟨hcell, hkn, -, -⟩ := State.arrayAt?_spec hat
  obtain ⟨hof, -⟩ := Cond.arrayOf_spec harr ht hcell
  have hsz : cell.slots.size = 11 := by
    have e := Value.int.inj hv
    have e2 : (Int32.ofNat 11) = Int32.ofNat cell.slots.size := e
    have := congrArg Int32.toNatClampNeg e2
    rw [Int32.toNatClampNeg_ofNat_of_lt (by omega), Int32.toNatClampNeg_ofNat_of_lt hsm] at this
    exact this.symm
  refine ⟨a, va_Zref hl hini ht hA, ⟨cell, hcell, hof, hkn, hsz, fun j hj => ?_⟩, (Array.getElem?_eq_some_iff.mp hcell).1, hA a (Array.getElem?_eq_some_iff.mp hcell).1⟩
  obtain ⟨a2, i, cell2, q1, q2, q3, q4, q5⟩ := Term.elem_spec (va_eqt (hel j hj))
  cases ht.symm.trans q1
  cases hat.symm.trans q3
  have hi : i = Int32.ofNat j := by
    have e : (Term.int (Int32.ofNat j)).eval args s none [] s = some (.int (Int32.ofNat j)) := rfl
    cases q2.symm.trans e
    rfl
  rw [hi, Int32.toNatClampNeg_ofNat_of_lt (by omega)] at q5
  exact q5
/-- arrays of a kind -/
theorem arrP {args : Array Value} {s : State} {ty : FieldType} (hty : ∀ C, ty ≠ .object C) (h : (Cond.arrayClass ty).before args s = true) : ∃ c : ClassId, ArrOfT s c ty ∧ va_RA s c ty := by
  obtain ⟨c, k, comp, h1, h2, h3⟩ := Cond.arrayClass_spec h
  refine ⟨c, fun n z => ⟨(fun k h => by cases h), k, h2, comp, h3⟩, ?_⟩
  unfold va_RA
  split
  · exact absurd rfl (hty _)
  · exact h1
theorem arrO {s : State} {C : String} (h : va_AO C s) : ∃ c : ClassId, ArrOfT s c (.object C) ∧ va_RA s c (.object C) := by
  obtain ⟨comp, c, k, h1, h2, h3, h4, h5⟩ := Cond.arrayOver_spec h
  exact ⟨c, fun n z => ⟨(fun k h => by cases h), k, h3, comp, h4⟩, k, comp, h3, h4, h1, h5⟩
theorem cx_E {args : Array Value} {s : State} {A : Nat → Prop} (hts : ∀ w ∈ lw_tbl, w.before args s = true) (hgv : (Jvm.Cond.and given_1 narrow_1).before args s = true) (hA : ∀ a : Nat, a < s.heap.size → ¬ A a) : ax_E A s s.heap := by
  have hs := flat_of_before _ hgv
  have h0 : ∀ (i : Nat) (w : Cond), tables_1[i]? = some w → w.before args s = true := fun i w h => hts w (List.mem_append_right _ (List.mem_of_getElem? h))
  refine ⟨vx_Zqof (hts _ (by decide +kernel)) (hts _ (by decide +kernel)) (hs _ (by decide +kernel)) hA, vx_Zqof (hts _ (by decide +kernel)) (hts _ (by decide +kernel)) (hs _ (by decide +kernel)) hA, ax_wof (hts _ (by decide +kernel)) (hts _ (by decide +kernel)) (hs _ (by decide +kernel)) (hs _ (by decide +kernel)) (fun j hj => ?_) hA, ax_wof (hts _ (by decide +kernel)) (hts _ (by decide +kernel)) (hs _ (by decide +kernel)) (hs _ (by decide +kernel)) (fun j hj => ?_) hA⟩
  · have : j = 0 ∨ j = 1 ∨ j = 2 ∨ j = 3 ∨ j = 4 ∨ j = 5 ∨ j = 6 ∨ j = 7 ∨ j = 8 ∨ j = 9 ∨ j = 10 := by omega
    rcases this with rfl | rfl | rfl | rfl | rfl | rfl | rfl | rfl | rfl | rfl | rfl <;> exact hs _ (by decide +kernel)
  · have : j = 0 ∨ j = 1 ∨ j = 2 ∨ j = 3 ∨ j = 4 ∨ j = 5 ∨ j = 6 ∨ j = 7 ∨ j = 8 ∨ j = 9 ∨ j = 10 := by omega
    rcases this with rfl | rfl | rfl | rfl | rfl | rfl | rfl | rfl | rfl | rfl | rfl <;> exact hs _ (by decide +kernel)
theorem cx_N {b : Nat} {s : State} (hts : ∀ w ∈ lw_tbl, w.before #[Value.ref b] s = true) (hgv : (Jvm.Cond.and given_1 narrow_1).before #[Value.ref b] s = true) : ax_N s := by
  have hs := flat_of_before _ hgv
  refine ⟨fun w hw => ?_, fun q hq => ?_, ?_⟩
  · have h1 := hts w (List.mem_append_right _ (List.mem_filter.mp hw).1)
    exact va_tabs (nw_on (List.mem_filter.mp hw).2) rfl h1
  · unfold NC at hq
    rcases List.mem_cons.mp hq with rfl | hq
    · exact va_Nc.of (hs _ (by decide +kernel))
    · rcases List.mem_cons.mp hq with rfl | hq
      · exact va_Nc.of (hs _ (by decide +kernel))
      · cases hq
  · exact va_AO.of (hts (Cond.arrayOver (.object "ImpactShelf$Index")) (by decide +kernel))
