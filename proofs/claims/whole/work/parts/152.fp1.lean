
/-! the facts of the doubles -/
def fz (x : UInt64) (k : UInt64 → Bool) : Bool := Nat.rec (motive := fun _ => Bool) (k (UInt64.ofNat 0)) (fun m _ => k (UInt64.ofNat (m + 1))) x.toNat
theorem fz_e (x : UInt64) (k : UInt64 → Bool) : fz x k = k x := by
  have a : UInt64.ofNat x.toNat = x := UInt64.ofNat_toNat
  unfold fz
  cases h : x.toNat with
  | zero => rw [h] at a; exact congrArg k a
  | succ m => rw [h] at a; exact congrArg k a
def gA : Nat → UInt64 → Nat → (UInt64 → Nat → Bool) → Bool
  | 0, x, e, K => decide ((Op.cmpValue (FP.dcmp x 4611686018427387904) .l) < 0) && K x e
  | k + 1, x, e, K => if (Op.cmpValue (FP.dcmp x 4611686018427387904) .l) < 0 then K x e else fz (FP.ddiv x 4611686018427387904) (fun z => n64b z && gA k z (e + 1) K)
def gS : Nat → UInt64 → UInt64 → UInt64 → Nat → (UInt64 → Bool) → Bool
  | 0, _, _, s, _, K => K s
  | k + 1, y, t, s, i, K => fz (FP.ddiv t (FP.i2d (I i))) (fun u => n64b u && fz (FP.dadd s u) (fun s' => n64b s' && fz (FP.dmul t y) (fun v => n64b v && fz (FP.dmul v y) (fun t' => n64b t' && gS k y t' s' (i + 2) K))))
def gOk (x : UInt64) : Bool := fz x (fun x => gA 6 x 0 (fun x' e => fz (FP.dsub x' FP.dconst1) (fun a => n64b a && fz (FP.dadd x' FP.dconst1) (fun b => n64b b && fz (FP.ddiv a b) (fun y => n64b y && gS 12 y y FP.dconst0 1 (fun s => fz (FP.dmul 4611686018427387904 s) (fun p => n64b p && fz (FP.dmul (FP.i2d (I e)) 4604418534313441775) (fun q => n64b q && fz (FP.dadd p q) (fun r => n64b r && decide (r.toNat < 4616189618054758400))))))))))
theorem gA_e : ∀ k x e K, gA k x e K = true → lnAok k x = true ∧ K (lnA k x e).1 (lnA k x e).2 = true := by
  intro k
  induction k with
  | zero =>
    intro x e K h
    unfold gA at h
    rw [Bool.and_eq_true] at h
    exact h
  | succ k ih =>
    intro x e K h
    unfold gA at h
    unfold lnAok lnA
    by_cases q : (Op.cmpValue (FP.dcmp x 4611686018427387904) .l) < 0
    · rw [if_pos q] at h ⊢; rw [if_pos q]; exact ⟨rfl, h⟩
    · rw [if_neg q] at h ⊢; rw [if_neg q]
      rw [fz_e, Bool.and_eq_true] at h
      obtain ⟨a, b⟩ := h
      obtain ⟨c, d⟩ := ih _ _ _ b
      rw [Bool.and_eq_true]
      exact ⟨⟨a, c⟩, d⟩
theorem gS_e : ∀ k y t s i K, gS k y t s i K = true → lnSok k y t s i = true ∧ K (lnS k y t s i) = true := by
  intro k
  induction k with
  | zero => intro y t s i K h; exact ⟨rfl, h⟩
  | succ k ih =>
    intro y t s i K h
    unfold gS at h
    unfold lnSok lnS
    simp only [fz_e, Bool.and_eq_true] at h ⊢
    obtain ⟨a, b, c, d, e⟩ := h
    obtain ⟨f, g⟩ := ih _ _ _ _ _ e
    exact ⟨⟨a, b, c, d, f⟩, g⟩
theorem gOk_e {x : UInt64} (h : gOk x = true) : lnOk x = true := by
  unfold gOk at h
  rw [fz_e] at h
  obtain ⟨a, h⟩ := gA_e _ _ _ _ h
  simp only [fz_e, Bool.and_eq_true] at h
  obtain ⟨b, c, d, h⟩ := h
  obtain ⟨e, h⟩ := gS_e _ _ _ _ _ _ h
  simp only [Bool.and_eq_true] at h
  obtain ⟨f, g, i, j⟩ := h
  unfold lnOk
  simp only [Bool.and_eq_true]
  exact ⟨a, b, c, d, e, f, g, i, j⟩
theorem ln_1 : (List.range 1).all (fun d => gOk (scX 1 (d + 1))) = true := by decide +kernel
theorem ln_2 : (List.range 2).all (fun d => gOk (scX 2 (d + 1))) = true := by decide +kernel
theorem ln_3 : (List.range 3).all (fun d => gOk (scX 3 (d + 1))) = true := by decide +kernel
theorem ln_4 : (List.range 4).all (fun d => gOk (scX 4 (d + 1))) = true := by decide +kernel
theorem ln_5 : (List.range 5).all (fun d => gOk (scX 5 (d + 1))) = true := by decide +kernel
theorem ln_6 : (List.range 6).all (fun d => gOk (scX 6 (d + 1))) = true := by decide +kernel
theorem ln_7 : (List.range 7).all (fun d => gOk (scX 7 (d + 1))) = true := by decide +kernel
theorem ln_8 : (List.range 8).all (fun d => gOk (scX 8 (d + 1))) = true := by decide +kernel
theorem ln_9 : (List.range 9).all (fun d => gOk (scX 9 (d + 1))) = true := by decide +kernel
theorem ln_10 : (List.range 10).all (fun d => gOk (scX 10 (d + 1))) = true := by decide +kernel
theorem ln_11 : (List.range 11).all (fun d => gOk (scX 11 (d + 1))) = true := by decide +kernel
theorem ln_12 : (List.range 12).all (fun d => gOk (scX 12 (d + 1))) = true := by decide +kernel
theorem ln_13 : (List.range 13).all (fun d => gOk (scX 13 (d + 1))) = true := by decide +kernel
theorem ln_14 : (List.range 14).all (fun d => gOk (scX 14 (d + 1))) = true := by decide +kernel
theorem ln_15 : (List.range 15).all (fun d => gOk (scX 15 (d + 1))) = true := by decide +kernel
theorem ln_16 : (List.range 16).all (fun d => gOk (scX 16 (d + 1))) = true := by decide +kernel
theorem ln_17 : (List.range 17).all (fun d => gOk (scX 17 (d + 1))) = true := by decide +kernel
theorem ln_18 : (List.range 18).all (fun d => gOk (scX 18 (d + 1))) = true := by decide +kernel
theorem ln_19 : (List.range 19).all (fun d => gOk (scX 19 (d + 1))) = true := by decide +kernel
theorem ln_20 : (List.range 20).all (fun d => gOk (scX 20 (d + 1))) = true := by decide +kernel
theorem ln_21 : (List.range 21).all (fun d => gOk (scX 21 (d + 1))) = true := by decide +kernel
theorem ln_22 : (List.range 22).all (fun d => gOk (scX 22 (d + 1))) = true := by decide +kernel
theorem ln_23 : (List.range 23).all (fun d => gOk (scX 23 (d + 1))) = true := by decide +kernel
theorem ln_24 : (List.range 24).all (fun d => gOk (scX 24 (d + 1))) = true := by decide +kernel
theorem ln_25 : (List.range 25).all (fun d => gOk (scX 25 (d + 1))) = true := by decide +kernel
theorem ln_26 : (List.range 26).all (fun d => gOk (scX 26 (d + 1))) = true := by decide +kernel
theorem ln_27 : (List.range 27).all (fun d => gOk (scX 27 (d + 1))) = true := by decide +kernel
theorem ln_28 : (List.range 28).all (fun d => gOk (scX 28 (d + 1))) = true := by decide +kernel
theorem ln_29 : (List.range 29).all (fun d => gOk (scX 29 (d + 1))) = true := by decide +kernel
theorem ln_30 : (List.range 30).all (fun d => gOk (scX 30 (d + 1))) = true := by decide +kernel
theorem ln_31 : (List.range 31).all (fun d => gOk (scX 31 (d + 1))) = true := by decide +kernel
theorem ln_32 : (List.range 32).all (fun d => gOk (scX 32 (d + 1))) = true := by decide +kernel
theorem ln_33 : (List.range 33).all (fun d => gOk (scX 33 (d + 1))) = true := by decide +kernel
theorem ln_34 : (List.range 34).all (fun d => gOk (scX 34 (d + 1))) = true := by decide +kernel
theorem ln_35 : (List.range 35).all (fun d => gOk (scX 35 (d + 1))) = true := by decide +kernel
theorem ln_36 : (List.range 36).all (fun d => gOk (scX 36 (d + 1))) = true := by decide +kernel
theorem ln_37 : (List.range 37).all (fun d => gOk (scX 37 (d + 1))) = true := by decide +kernel
theorem ln_38 : (List.range 38).all (fun d => gOk (scX 38 (d + 1))) = true := by decide +kernel
theorem ln_39 : (List.range 39).all (fun d => gOk (scX 39 (d + 1))) = true := by decide +kernel
theorem ln_40 : (List.range 40).all (fun d => gOk (scX 40 (d + 1))) = true := by decide +kernel
theorem ln_of {N df : Nat} (h : (List.range N).all (fun d => gOk (scX N (d + 1))) = true) (h1 : 1 ≤ df) (h2 : df ≤ N) : lnOk (scX N df) = true := by
  rw [List.all_eq_true] at h
  have c := h (df - 1) (List.mem_range.mpr (by omega))
  simp only [show df - 1 + 1 = df from by omega] at c
  exact gOk_e c
theorem ln_ok {N df : Nat} (h1 : 1 ≤ df) (h2 : df ≤ N) (h3 : N ≤ 40) : lnOk (scX N df) = true := by
  have hn : N = 1 ∨ N = 2 ∨ N = 3 ∨ N = 4 ∨ N = 5 ∨ N = 6 ∨ N = 7 ∨ N = 8 ∨ N = 9 ∨ N = 10 ∨ N = 11 ∨ N = 12 ∨ N = 13 ∨ N = 14 ∨ N = 15 ∨ N = 16 ∨ N = 17 ∨ N = 18 ∨ N = 19 ∨ N = 20 ∨ N = 21 ∨ N = 22 ∨ N = 23 ∨ N = 24 ∨ N = 25 ∨ N = 26 ∨ N = 27 ∨ N = 28 ∨ N = 29 ∨ N = 30 ∨ N = 31 ∨ N = 32 ∨ N = 33 ∨ N = 34 ∨ N = 35 ∨ N = 36 ∨ N = 37 ∨ N = 38 ∨ N = 39 ∨ N = 40 := by omega
  rcases hn with rfl | rfl | rfl | rfl | rfl | rfl | rfl | rfl | rfl | rfl | rfl | rfl | rfl | rfl | rfl | rfl | rfl | rfl | rfl | rfl | rfl | rfl | rfl | rfl | rfl | rfl | rfl | rfl | rfl | rfl | rfl | rfl | rfl | rfl | rfl | rfl | rfl | rfl | rfl | rfl
  · exact ln_of ln_1 h1 h2
  · exact ln_of ln_2 h1 h2
  · exact ln_of ln_3 h1 h2
  · exact ln_of ln_4 h1 h2
  · exact ln_of ln_5 h1 h2
  · exact ln_of ln_6 h1 h2
  · exact ln_of ln_7 h1 h2
  · exact ln_of ln_8 h1 h2
  · exact ln_of ln_9 h1 h2
  · exact ln_of ln_10 h1 h2
  · exact ln_of ln_11 h1 h2
  · exact ln_of ln_12 h1 h2
  · exact ln_of ln_13 h1 h2
  · exact ln_of ln_14 h1 h2
  · exact ln_of ln_15 h1 h2
  · exact ln_of ln_16 h1 h2
  · exact ln_of ln_17 h1 h2
  · exact ln_of ln_18 h1 h2
  · exact ln_of ln_19 h1 h2
  · exact ln_of ln_20 h1 h2
  · exact ln_of ln_21 h1 h2
  · exact ln_of ln_22 h1 h2
  · exact ln_of ln_23 h1 h2
  · exact ln_of ln_24 h1 h2
  · exact ln_of ln_25 h1 h2
  · exact ln_of ln_26 h1 h2
  · exact ln_of ln_27 h1 h2
  · exact ln_of ln_28 h1 h2
  · exact ln_of ln_29 h1 h2
  · exact ln_of ln_30 h1 h2
  · exact ln_of ln_31 h1 h2
  · exact ln_of ln_32 h1 h2
  · exact ln_of ln_33 h1 h2
  · exact ln_of ln_34 h1 h2
  · exact ln_of ln_35 h1 h2
  · exact ln_of ln_36 h1 h2
  · exact ln_of ln_37 h1 h2
  · exact ln_of ln_38 h1 h2
  · exact ln_of ln_39 h1 h2
  · exact ln_of ln_40 h1 h2
