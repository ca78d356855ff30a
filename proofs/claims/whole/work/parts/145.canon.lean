
/-! the segments of a row of impacts -/
def dsF (N : Nat) (f : Nat → Nat) (i : Nat) : List Nat := (List.range N).filter (fun d => decide (f d = i))
def canonA (N : Nat) (f : Nat → Nat) : Nat → List Sg
  | 0 => []
  | i + 1 => (if dsF N f (i + 1) = [] then [] else [(i + 1, dsF N f (i + 1))]) ++ canonA N f i
def canon (N : Nat) (f : Nat → Nat) : List Sg := canonA N f 255
theorem mem_dsF {N : Nat} {f : Nat → Nat} {i d : Nat} : d ∈ dsF N f i ↔ d < N ∧ f d = i := by
  unfold dsF; simp only [List.mem_filter, List.mem_range, decide_eq_true_eq]
theorem srt_dsF (N : Nat) (f : Nat → Nat) (i : Nat) : srt (dsF N f i) := (srt_range N).filter _
theorem mem_canonA {N : Nat} {f : Nat → Nat} : ∀ (i : Nat) (s : Sg), s ∈ canonA N f i ↔ 1 ≤ s.1 ∧ s.1 ≤ i ∧ s.2 = dsF N f s.1 ∧ s.2 ≠ [] := by
  intro i
  induction i with
  | zero => intro s; simp only [canonA, List.not_mem_nil, false_iff]; omega
  | succ i ih =>
    intro s
    unfold canonA
    rw [List.mem_append, ih]
    by_cases h : dsF N f (i + 1) = []
    · rw [if_pos h]
      simp only [List.not_mem_nil, false_or]
      refine ⟨fun q => ⟨q.1, by omega, q.2.2⟩, fun q => ⟨q.1, ?_, q.2.2⟩⟩
      have : s.1 ≠ i + 1 := fun e => q.2.2.2 (by rw [q.2.2.1, e, h])
      omega
    · rw [if_neg h, List.mem_singleton]
      constructor
      · rintro (q | q)
        · rw [q]; exact ⟨by show 1 ≤ i + 1; omega, Nat.le_refl _, rfl, h⟩
        · exact ⟨q.1, by omega, q.2.2⟩
      · intro q
        by_cases e : s.1 = i + 1
        · left; exact Prod.ext e (by rw [q.2.2.1, e])
        · right; exact ⟨q.1, by omega, q.2.2⟩
theorem mem_canon {N : Nat} {f : Nat → Nat} {s : Sg} : s ∈ canon N f ↔ 1 ≤ s.1 ∧ s.1 ≤ 255 ∧ s.2 = dsF N f s.1 ∧ s.2 ≠ [] := mem_canonA 255 s
theorem VS_canonA {b N : Nat} {f : Nat → Nat} (hf : ∀ d, d < N → f d < 2 ^ b) : ∀ i, VS b N (canonA N f i) := by
  intro i
  induction i with
  | zero => exact ⟨List.Pairwise.nil, (fun s hs => by cases hs), List.nodup_nil⟩
  | succ i ih =>
    unfold canonA
    by_cases h : dsF N f (i + 1) = []
    · rw [if_pos h, List.nil_append]; exact ih
    · rw [if_neg h, List.singleton_append]
      refine ⟨List.pairwise_cons.mpr ⟨fun s hs => ?_, ih.1⟩, fun s hs => ?_, ?_⟩
      · have := ((mem_canonA i s).mp hs).2.1
        show s.1 < i + 1
        omega
      · rcases List.mem_cons.mp hs with rfl | hs
        · obtain ⟨d, hd⟩ := List.exists_mem_of_ne_nil _ h
          have h1 := mem_dsF.mp hd
          have h2 := hf d h1.1
          exact ⟨by show 1 ≤ i + 1; omega, by show i + 1 < _; omega, h, srt_dsF _ _ _, fun d hd => (mem_dsF.mp hd).1⟩
        · exact ih.2.1 s hs
      · rw [PL_cons, List.nodup_append]
        refine ⟨(srt_dsF _ _ _).nodup, ih.2.2, fun a ha x hx e => ?_⟩
        obtain ⟨s, hs, hx⟩ := List.mem_flatMap.mp hx
        obtain ⟨q1, q2, q3, -⟩ := (mem_canonA i s).mp hs
        rw [q3] at hx
        have h1 := (mem_dsF.mp ha).2
        have h2 := (mem_dsF.mp hx).2
        rw [e] at h1
        omega
theorem VS_canon {b N : Nat} {f : Nat → Nat} (hf : ∀ d, d < N → f d < 2 ^ b) : VS b N (canon N f) := VS_canonA hf 255
theorem impOf_canon {b N : Nat} {f : Nat → Nat} (hb : b ≤ 8) (hf : ∀ d, d < N → f d < 2 ^ b) (d : Nat) : impOf (canon N f) d = if d < N then f d else 0 := by
  have h2b : 2 ^ b ≤ 2 ^ 8 := Nat.pow_le_pow_right (by decide) hb
  by_cases h : d < N ∧ 1 ≤ f d
  · rw [if_pos h.1]
    have h1 := hf d h.1
    have hd : d ∈ dsF N f (f d) := mem_dsF.mpr ⟨h.1, rfl⟩
    exact impOf_mem (VS_canon hf).2.2 (s := (f d, dsF N f (f d))) (mem_canon.mpr ⟨h.2, by show f d ≤ 255; omega, rfl, fun e => by rw [show ((f d, dsF N f (f d)) : Sg).2 = dsF N f (f d) from rfl] at e; rw [e] at hd; cases hd⟩) hd
  · have e : (if d < N then f d else 0) = 0 := by
      split
      · omega
      · rfl
    rw [e]
    refine impOf_none (fun s hs hd => h ?_)
    obtain ⟨q1, q2, q3, -⟩ := mem_canon.mp hs
    rw [q3] at hd
    have := mem_dsF.mp hd
    exact ⟨this.1, by omega⟩
theorem canonA_congr {N : Nat} {f g : Nat → Nat} (h : ∀ d, d < N → f d = g d) : ∀ i, canonA N f i = canonA N g i := by
  have hd : ∀ i, dsF N f i = dsF N g i := fun i => by
    unfold dsF
    refine List.filter_congr (fun d hd => ?_)
    rw [h d (List.mem_range.mp hd)]
  intro i
  induction i with
  | zero => rfl
  | succ i ih => unfold canonA; rw [hd, ih]
theorem canon_congr {N : Nat} {f g : Nat → Nat} (h : ∀ d, d < N → f d = g d) : canon N f = canon N g := canonA_congr h 255
theorem canon_impOf {b N : Nat} {segs : List Sg} (h : VS b N segs) (hb : b ≤ 8) : canon N (impOf segs) = segs := by
  have key : ∀ i, i ≤ 255 → above segs i ++ canonA N (impOf segs) i = segs := by
    intro i
    induction i with
    | zero => intro _; rw [above_zero h]; exact List.append_nil _
    | succ i ih =>
      intro hi
      have := above_step h (i := i + 1) (by omega)
      rw [Nat.add_sub_cancel] at this
      unfold canonA
      rw [← List.append_assoc]
      show above segs (i + 1) ++ (if dsOf N segs (i + 1) = [] then [] else [(i + 1, dsOf N segs (i + 1))]) ++ canonA N (impOf segs) i = segs
      rw [← this]
      exact ih (by omega)
  have := key 255 (by omega)
  rw [above_top h hb] at this
  exact this
theorem PL_canon_len {b N : Nat} {f : Nat → Nat} (hb : b ≤ 8) (hf : ∀ d, d < N → f d < 2 ^ b) : (PL (canon N f)).length = ((List.range N).filter (fun d => decide (0 < f d))).length := by
  have h2b : 2 ^ b ≤ 2 ^ 8 := Nat.pow_le_pow_right (by decide) hb
  refine len_of_same (VS_canon hf).2.2 (srt.nodup ((srt_range N).filter _)) (fun d => ?_)
  simp only [List.mem_filter, List.mem_range, decide_eq_true_eq]
  constructor
  · intro h
    obtain ⟨s, hs, hd⟩ := List.mem_flatMap.mp h
    obtain ⟨q1, q2, q3, -⟩ := mem_canon.mp hs
    rw [q3] at hd
    have := mem_dsF.mp hd
    exact ⟨this.1, by omega⟩
  · intro h
    have h1 := hf d h.1
    have hd : d ∈ dsF N f (f d) := mem_dsF.mpr ⟨h.1, rfl⟩
    exact List.mem_flatMap.mpr ⟨(f d, dsF N f (f d)), mem_canon.mpr ⟨h.2, by show f d ≤ 255; omega, rfl, fun e => by rw [show ((f d, dsF N f (f d)) : Sg).2 = dsF N f (f d) from rfl] at e; rw [e] at hd; cases hd⟩, hd⟩
theorem canon_ne {b N : Nat} {f : Nat → Nat} (hb : b ≤ 8) (hf : ∀ d, d < N → f d < 2 ^ b) {d : Nat} (hd : d < N) (h : 0 < f d) : canon N f ≠ [] := by
  intro e
  have := impOf_canon hb hf d
  rw [e, if_pos hd] at this
  have h0 : impOf [] d = 0 := rfl
  omega
