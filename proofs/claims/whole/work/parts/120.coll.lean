
/-! the collection -/
def cnt (D : List (List Nat)) (w d : Nat) : Nat := (D.getD d []).count w
def df (D : List (List Nat)) (w : Nat) : Nat := D.countP (fun doc => decide (w ∈ doc))
def posts (D : List (List Nat)) (T : List Nat) : Nat := (T.map (df D)).sum
def lens (D : List (List Nat)) : Nat := (D.map List.length).sum
def nub : List Nat → List Nat
  | [] => []
  | x :: xs => if x ∈ xs then nub xs else x :: nub xs
theorem mem_nub (l : List Nat) : ∀ w, w ∈ nub l ↔ w ∈ l := by
  induction l with
  | nil => intro w; rfl
  | cons x xs ih =>
    intro w
    unfold nub
    by_cases h : x ∈ xs
    · rw [if_pos h, ih, List.mem_cons]
      exact ⟨Or.inr, fun q => q.elim (fun e => e ▸ h) id⟩
    · rw [if_neg h, List.mem_cons, List.mem_cons, ih]
theorem nodup_nub (l : List Nat) : (nub l).Nodup := by
  induction l with
  | nil => exact List.nodup_nil
  | cons x xs ih =>
    unfold nub
    by_cases h : x ∈ xs
    · rw [if_pos h]; exact ih
    · rw [if_neg h, List.nodup_cons, mem_nub]; exact ⟨h, ih⟩
theorem len_of_same {l m : List Nat} (h1 : l.Nodup) (h2 : m.Nodup) (h : ∀ w, w ∈ l ↔ w ∈ m) : l.length = m.length :=
  ((List.perm_ext_iff_of_nodup h1 h2).mpr h).length_eq
def fresh (T S : List Nat) : List Nat := (nub S).filter (fun w => decide (w ∉ T))
def Room (D : List (List Nat)) (T S : List Nat) : Prop := D.length < 40 ∧ T.length + (fresh T S).length ≤ 64 ∧ posts D T + (nub S).length ≤ 600
def srt (T : List Nat) : Prop := T.Pairwise (· < ·)
/-- a collection that may be -/
def VD (D : List (List Nat)) (T : List Nat) : Prop := D.length ≤ 40 ∧ T.length ≤ 64 ∧ posts D T ≤ 600 ∧ srt T ∧ (∀ w, w ∈ T ↔ ∃ doc ∈ D, w ∈ doc) ∧ (∀ doc ∈ D, doc ≠ [] ∧ doc.length ≤ 1500) ∧ ∀ w ∈ T, okw w
theorem srt.nodup {T : List Nat} (h : srt T) : T.Nodup := List.Pairwise.imp (fun q => Nat.ne_of_lt q) h
theorem srt.get {T : List Nat} (h : srt T) {i j : Nat} (hij : i < j) (hj : j < T.length) : T.getD i 0 < T.getD j 0 := by
  have := List.pairwise_iff_getElem.mp h i j (by omega) hj hij
  simpa [List.getD_eq_getElem?_getD, List.getElem?_eq_getElem hj, List.getElem?_eq_getElem (show i < T.length by omega)] using this
theorem cnt_over {D : List (List Nat)} {w d : Nat} (h : D.length ≤ d) : cnt D w d = 0 := by
  unfold cnt; rw [List.getD_eq_getElem?_getD, List.getElem?_eq_none h]; rfl
theorem cnt_app1 {D : List (List Nat)} {x : List Nat} {w d : Nat} (h : d < D.length) : cnt (D ++ [x]) w d = cnt D w d := by
  unfold cnt; simp only [List.getD_eq_getElem?_getD, List.getElem?_append_left h]
theorem cnt_app2 (D : List (List Nat)) (x : List Nat) (w : Nat) : cnt (D ++ [x]) w D.length = x.count w := by
  unfold cnt; simp [List.getD_eq_getElem?_getD]
theorem df_app (D : List (List Nat)) (x : List Nat) (w : Nat) : df (D ++ [x]) w = df D w + (if w ∈ x then 1 else 0) := by
  unfold df; rw [List.countP_append]
  by_cases h : w ∈ x <;> simp [h]
theorem df_le (D : List (List Nat)) (w : Nat) : df D w ≤ D.length := List.countP_le_length
theorem df_zero {D : List (List Nat)} {w : Nat} (h : ¬ ∃ doc ∈ D, w ∈ doc) : df D w = 0 := by
  unfold df; rw [List.countP_eq_zero]; intro doc hd; simp; exact fun q => h ⟨doc, hd, q⟩
theorem df_pos {D : List (List Nat)} {w : Nat} (h : ∃ doc ∈ D, w ∈ doc) : 0 < df D w := by
  unfold df; rw [List.countP_pos_iff]; obtain ⟨doc, hd, q⟩ := h; exact ⟨doc, hd, by simp [q]⟩
theorem cnt_zero {D : List (List Nat)} {w : Nat} (h : ¬ ∃ doc ∈ D, w ∈ doc) (d : Nat) : cnt D w d = 0 := by
  by_cases hd : d < D.length
  · unfold cnt
    rw [List.getD_eq_getElem?_getD, List.getElem?_eq_getElem hd, List.count_eq_zero]
    exact fun q => h ⟨_, List.getElem_mem hd, q⟩
  · exact cnt_over (by omega)
theorem lens_app (D : List (List Nat)) (x : List Nat) : lens (D ++ [x]) = lens D + x.length := by
  unfold lens; simp
theorem posts_app (D : List (List Nat)) (x T : List Nat) : posts (D ++ [x]) T = posts D T + (T.filter (fun w => decide (w ∈ x))).length := by
  unfold posts
  induction T with
  | nil => rfl
  | cons t T ih =>
    simp only [List.map_cons, List.sum_cons, List.filter_cons]
    rw [ih, df_app]
    by_cases h : t ∈ x <;> simp [h] <;> omega
theorem posts_perm {D : List (List Nat)} {T R : List Nat} (h : R.Perm T) : posts D R = posts D T := (h.map _).sum_nat
/-- a term is put in its place -/
theorem getD_ins (T : List Nat) (p w j : Nat) (hp : p ≤ T.length) : (T.insertIdx p w).getD j 0 = if j < p then T.getD j 0 else if j = p then w else T.getD (j - 1) 0 := by
  simp only [List.getD_eq_getElem?_getD]
  rw [List.getElem?_insertIdx]
  by_cases h1 : j < p
  · simp [h1]
  · by_cases h2 : j = p
    · subst h2; simp [hp]
    · simp [h1, h2]
theorem len_ins (T : List Nat) (p w : Nat) (hp : p ≤ T.length) : (T.insertIdx p w).length = T.length + 1 := List.length_insertIdx_of_le_length hp w
theorem srt_of_get {T : List Nat} (h : ∀ i j, i < j → j < T.length → T.getD i 0 < T.getD j 0) : srt T := by
  refine List.pairwise_iff_getElem.mpr (fun i j hi hj hij => ?_)
  have := h i j hij hj
  simpa [List.getD_eq_getElem?_getD, List.getElem?_eq_getElem hj, List.getElem?_eq_getElem hi] using this
theorem srt_ins {T : List Nat} (h : srt T) {p w : Nat} (hp : p ≤ T.length) (h1 : ∀ j, j < p → T.getD j 0 < w) (h2 : ∀ j, p ≤ j → j < T.length → w < T.getD j 0) : srt (T.insertIdx p w) := by
  refine srt_of_get (fun i j hij hj => ?_)
  rw [len_ins T p w hp] at hj
  rw [getD_ins T p w i hp, getD_ins T p w j hp]
  by_cases a : i < p <;> by_cases b : j < p
  · simp [a, b]; exact h.get hij (by omega)
  · by_cases c : j = p
    · subst c; simp [a]; exact h1 i a
    · simp [a, b, c]; exact h.get (by omega) (by omega)
  · omega
  · by_cases c : i = p
    · have : j ≠ p := by omega
      subst c
      simp only [b, this, if_false, if_true, Nat.lt_irrefl]
      exact h2 _ (by omega) (by omega)
    · have : j ≠ p := by omega
      simp [a, b, c, this]; exact h.get (by omega) (by omega)
theorem mem_ins {T : List Nat} {p w v : Nat} (hp : p ≤ T.length) : v ∈ T.insertIdx p w ↔ v = w ∨ v ∈ T := List.mem_insertIdx hp
