
/-! the reference's collection -/
theorem zok0 : zok (I 0) := ⟨rfl, rfl⟩
theorem zok1 : zok (I 1) := ⟨rfl, rfl⟩
theorem r_fails0 {th c : Int32} {Φ : Int32 → Int32 → Prop} (h : Φ (I 0) (I 0)) : P_X9_fails th (I 0) c Φ := by
  unfold P_X9_fails
  exact ⟨fun _ => ⟨zok0, h⟩, fun q => absurd rfl q⟩
theorem r_fails1 {th c : Int32} {Φ : Int32 → Int32 → Prop} (h : Φ (I 1) c) : P_X9_fails th (I 1) c Φ := by
  unfold P_X9_fails
  exact ⟨fun q => absurd q (by decide), fun _ => ⟨zok1, h⟩⟩
def docsOK (D : List (List Nat)) : Prop := D.length ≤ 40 ∧ ∀ doc ∈ D, doc.length ≤ 1500 ∧ 0 ∉ doc
theorem getD_memL {D : List (List Nat)} {d : Nat} (h : d < D.length) : D.getD d [] ∈ D := by
  rw [List.getD_eq_getElem?_getD, List.getElem?_eq_getElem h]; exact List.getElem_mem h
theorem takeL_succ {D : List (List Nat)} {i : Nat} (h : i < D.length) : D.take (i + 1) = D.take i ++ [D.getD i []] := by
  rw [List.take_succ, List.getD_eq_getElem?_getD, List.getElem?_eq_getElem h]; rfl
theorem cnt_le {D : List (List Nat)} (h : docsOK D) (w d : Nat) : cnt D w d ≤ 1500 := by
  by_cases hd : d < D.length
  · exact Nat.le_trans List.count_le_length (h.2 _ (getD_memL hd)).1
  · rw [cnt_over (by omega)]; omega
theorem df_take {D : List (List Nat)} {i w : Nat} (h : i < D.length) : df (D.take (i + 1)) w = df (D.take i) w + (if 0 < cnt D w i then 1 else 0) := by
  rw [takeL_succ h, df_app]
  have : (w ∈ D.getD i []) ↔ 0 < cnt D w i := by unfold cnt; rw [List.count_pos_iff]
  simp only [this]
theorem df_take_le {D : List (List Nat)} (i w : Nat) : df (D.take i) w ≤ i := Nat.le_trans (df_le _ _) (by simp; omega)
def RT (D : List (List Nat)) (R : List Nat) (term often : Nat → Int32) : Prop := TW term 0 R ∧ ∀ t, t < 64 → ∀ d, d < D.length → often (40 * t + d) = I (cnt D (R.getD t 0) d)
theorem l_freq {D : List (List Nat)} {w t : Nat} {often : Nat → Int32} {K Φ : Int32 → Prop} (hD : docsOK D) (ht : t < 64) (ho : ∀ d, d < D.length → often (40 * t + d) = I (cnt D w d)) (hK : K (I (df D w))) :
    ∀ k i, D.length ≤ i + k → i ≤ D.length → L_X9_frequency_4 (k + 1) (I D.length) often (I t) (I (df (D.take i) w)) (I i) K Φ := by
  have hD40 := hD.1
  intro k
  induction k with
  | zero =>
    intro i h1 h2
    unfold L_X9_frequency_4
    simp (disch := omega) only [i_0, i_1, i_2, i_3, i_4, i_5, i_6, i_7, i_8, i_9, i_10, i_11, i_12, i_15, i_16, i_20, i_24, i_30, i_31, i_32, i_40, i_57, i_60, i_61, i_63, i_64, i_65, i_73, i_90, i_97, i_100, i_101, i_109, i_115, i_122, i_127, i_128, i_255, i_256, i_320, i_512, i_600, i_601, i_1100, i_1500, i_2560, i_3000, i_6650, i_12800, i_16000, i_65521, i_65536, I_of, I_le, I_lt, I_eq, I_add, I_sub, I_mul, I_cl, I_in, I_an, I_n1]
    rw [List.take_of_length_le (by omega)]
    exact ⟨fun _ => hK, fun z => by omega⟩
  | succ k ih =>
    intro i h1 h2
    have hle := df_take_le (D := D) i w
    have hc := cnt_le hD w i
    unfold L_X9_frequency_4
    simp (disch := omega) only [i_0, i_1, i_2, i_3, i_4, i_5, i_6, i_7, i_8, i_9, i_10, i_11, i_12, i_15, i_16, i_20, i_24, i_30, i_31, i_32, i_40, i_57, i_60, i_61, i_63, i_64, i_65, i_73, i_90, i_97, i_100, i_101, i_109, i_115, i_122, i_127, i_128, i_255, i_256, i_320, i_512, i_600, i_601, i_1100, i_1500, i_2560, i_3000, i_6650, i_12800, i_16000, i_65521, i_65536, I_of, I_le, I_lt, I_eq, I_add, I_sub, I_mul, I_cl, I_in, I_an, I_n1]
    refine ⟨fun z => ?_, fun z => ⟨by omega, ?_⟩⟩
    · rw [List.take_of_length_le (by omega)]; exact hK
    · have key := ih (i + 1) (by omega) (by omega)
      rw [df_take (by omega)] at key
      rw [ho i (by omega)]
      simp (disch := omega) only [i_0, i_1, i_2, i_3, i_4, i_5, i_6, i_7, i_8, i_9, i_10, i_11, i_12, i_15, i_16, i_20, i_24, i_30, i_31, i_32, i_40, i_57, i_60, i_61, i_63, i_64, i_65, i_73, i_90, i_97, i_100, i_101, i_109, i_115, i_122, i_127, i_128, i_255, i_256, i_320, i_512, i_600, i_601, i_1100, i_1500, i_2560, i_3000, i_6650, i_12800, i_16000, i_65521, i_65536, I_of, I_le, I_lt, I_eq, I_add, I_sub, I_mul, I_cl, I_in, I_an, I_n1]
      refine ⟨fun y => ?_, fun y => ?_⟩
      · rw [if_neg (by omega)] at key; exact key
      · rw [if_pos (by omega)] at key; exact key
theorem r_freq {D : List (List Nat)} {w t : Nat} {often : Nat → Int32} {Φ : Int32 → Prop} (hD : docsOK D) (ht : t < 64) (ho : ∀ d, d < D.length → often (40 * t + d) = I (cnt D w d)) (h : Φ (I (df D w))) : P_X9_frequency (I D.length) often (I t) Φ :=
  ⟨D.length + 1, l_freq hD ht ho h D.length 0 (by omega) (by omega)⟩
theorem posts_take {D : List (List Nat)} {R : List Nat} {i : Nat} (h : i < R.length) : posts D (R.take (i + 1)) = posts D (R.take i) + df D (R.getD i 0) := by
  rw [take_succ_getD h]; unfold posts; simp only [List.map_append, List.sum_append, List.map_cons, List.map_nil, List.sum_cons, List.sum_nil, Nat.add_zero]
theorem posts_take_le {D : List (List Nat)} (hD : docsOK D) (R : List Nat) : ∀ i, posts D (R.take i) ≤ 40 * i := by
  intro i
  induction i with
  | zero => simp [posts]
  | succ i ih =>
    by_cases h : i < R.length
    · rw [posts_take h]
      have := df_le D (R.getD i 0)
      have := hD.1
      omega
    · rw [List.take_of_length_le (by omega)] at ih ⊢; omega
theorem l_cpost {D : List (List Nat)} {R : List Nat} {term often : Nat → Int32} {K Φ : Int32 → Prop} (hD : docsOK D) (hR : RT D R term often) (h64 : R.length ≤ 64) (hK : K (I (posts D R))) :
    ∀ k i, R.length ≤ i + k → i ≤ R.length → L_X9_countPostings_4 (k + 1) (I D.length) (I R.length) often (I (posts D (R.take i))) (I i) K Φ := by
  intro k
  induction k with
  | zero =>
    intro i h1 h2
    unfold L_X9_countPostings_4
    simp (disch := omega) only [i_0, i_1, i_2, i_3, i_4, i_5, i_6, i_7, i_8, i_9, i_10, i_11, i_12, i_15, i_16, i_20, i_24, i_30, i_31, i_32, i_40, i_57, i_60, i_61, i_63, i_64, i_65, i_73, i_90, i_97, i_100, i_101, i_109, i_115, i_122, i_127, i_128, i_255, i_256, i_320, i_512, i_600, i_601, i_1100, i_1500, i_2560, i_3000, i_6650, i_12800, i_16000, i_65521, i_65536, I_of, I_le, I_lt, I_eq, I_add, I_sub, I_mul, I_cl, I_in, I_an, I_n1]
    rw [List.take_of_length_le (by omega)]
    exact ⟨fun _ => hK, fun z => by omega⟩
  | succ k ih =>
    intro i h1 h2
    unfold L_X9_countPostings_4
    simp (disch := omega) only [i_0, i_1, i_2, i_3, i_4, i_5, i_6, i_7, i_8, i_9, i_10, i_11, i_12, i_15, i_16, i_20, i_24, i_30, i_31, i_32, i_40, i_57, i_60, i_61, i_63, i_64, i_65, i_73, i_90, i_97, i_100, i_101, i_109, i_115, i_122, i_127, i_128, i_255, i_256, i_320, i_512, i_600, i_601, i_1100, i_1500, i_2560, i_3000, i_6650, i_12800, i_16000, i_65521, i_65536, I_of, I_le, I_lt, I_eq, I_add, I_sub, I_mul, I_cl, I_in, I_an, I_n1]
    refine ⟨fun z => ?_, fun z => ?_⟩
    · rw [List.take_of_length_le (by omega)]; exact hK
    · refine r_freq hD (by omega) (fun d hd => hR.2 i (by omega) d hd) ?_
      have key := ih (i + 1) (by omega) (by omega)
      rw [posts_take (by omega), ← I_add] at key
      exact key
theorem r_cpost {D : List (List Nat)} {R : List Nat} {term often : Nat → Int32} {Φ : Int32 → Prop} (hD : docsOK D) (hR : RT D R term often) (h64 : R.length ≤ 64) (h : Φ (I (posts D R))) : P_X9_countPostings (I D.length) (I R.length) often Φ :=
  ⟨R.length + 1, l_cpost hD hR h64 h R.length 0 (by omega) (by omega)⟩
def LN (D : List (List Nat)) (len : Nat → Int32) : Prop := ∀ d, d < D.length → len d = I (D.getD d []).length
theorem lens_take {D : List (List Nat)} {i : Nat} (h : i < D.length) : lens (D.take (i + 1)) = lens (D.take i) + (D.getD i []).length := by
  rw [takeL_succ h, lens_app]
theorem lens_take_le {D : List (List Nat)} (hD : docsOK D) : ∀ i, lens (D.take i) ≤ 1500 * i := by
  intro i
  induction i with
  | zero => simp [lens]
  | succ i ih =>
    by_cases h : i < D.length
    · rw [lens_take h]
      have := (hD.2 _ (getD_memL h)).1
      omega
    · rw [List.take_of_length_le (by omega)] at ih ⊢; omega
theorem lens_le {D : List (List Nat)} (hD : docsOK D) : lens D ≤ 60000 := by
  have := lens_take_le hD D.length
  have := hD.1
  rw [List.take_of_length_le (Nat.le_refl _)] at *
  omega
theorem l_lens {D : List (List Nat)} {len : Nat → Int32} {K Φ : Int32 → Prop} (hD : docsOK D) (hL : LN D len) (hK : K (I (lens D))) :
    ∀ k i, D.length ≤ i + k → i ≤ D.length → L_X9_lengths_4 (k + 1) (I D.length) len (I (lens (D.take i))) (I i) K Φ := by
  have hD40 := hD.1
  intro k
  induction k with
  | zero =>
    intro i h1 h2
    unfold L_X9_lengths_4
    simp (disch := omega) only [i_0, i_1, i_2, i_3, i_4, i_5, i_6, i_7, i_8, i_9, i_10, i_11, i_12, i_15, i_16, i_20, i_24, i_30, i_31, i_32, i_40, i_57, i_60, i_61, i_63, i_64, i_65, i_73, i_90, i_97, i_100, i_101, i_109, i_115, i_122, i_127, i_128, i_255, i_256, i_320, i_512, i_600, i_601, i_1100, i_1500, i_2560, i_3000, i_6650, i_12800, i_16000, i_65521, i_65536, I_of, I_le, I_lt, I_eq, I_add, I_sub, I_mul, I_cl, I_in, I_an, I_n1]
    rw [List.take_of_length_le (by omega)]
    exact ⟨fun _ => hK, fun z => by omega⟩
  | succ k ih =>
    intro i h1 h2
    unfold L_X9_lengths_4
    simp (disch := omega) only [i_0, i_1, i_2, i_3, i_4, i_5, i_6, i_7, i_8, i_9, i_10, i_11, i_12, i_15, i_16, i_20, i_24, i_30, i_31, i_32, i_40, i_57, i_60, i_61, i_63, i_64, i_65, i_73, i_90, i_97, i_100, i_101, i_109, i_115, i_122, i_127, i_128, i_255, i_256, i_320, i_512, i_600, i_601, i_1100, i_1500, i_2560, i_3000, i_6650, i_12800, i_16000, i_65521, i_65536, I_of, I_le, I_lt, I_eq, I_add, I_sub, I_mul, I_cl, I_in, I_an, I_n1]
    refine ⟨fun z => ?_, fun z => ⟨by omega, ?_⟩⟩
    · rw [List.take_of_length_le (by omega)]; exact hK
    · have key := ih (i + 1) (by omega) (by omega)
      rw [lens_take (by omega), ← I_add] at key
      rw [hL i (by omega)]
      exact key
theorem r_lens {D : List (List Nat)} {len : Nat → Int32} {Φ : Int32 → Prop} (hD : docsOK D) (hL : LN D len) (h : Φ (I (lens D))) : P_X9_lengths (I D.length) len Φ :=
  ⟨D.length + 1, l_lens hD hL h D.length 0 (by omega) (by omega)⟩
/-- the words of a document, one after the other -/
def AW1 (S R dn : List Nat) (P0 : Nat) (R' : List Nat) (term fresh : Nat → Int32) (ps : Nat) : Prop :=
  R'.length ≤ 64 ∧ R'.Nodup ∧ (∃ X, R' = R ++ X ∧ ∀ w ∈ X, w ∈ dn) ∧ (∀ w ∈ dn, w ∈ R') ∧ TW term 0 R' ∧ (∀ t, t < 64 → fresh t = I (dn.count (R'.getD t 0))) ∧ ∃ E : List Nat, E.Nodup ∧ (∀ w, w ∈ E ↔ w ∈ dn) ∧ ps = P0 + E.length
def AW0 (S R : List Nat) (D : List (List Nat)) (term : Nat → Int32) : Prop := TW term 0 R ∧ (40 ≤ D.length ∨ ∃ X : List Nat, X.Nodup ∧ (∀ w ∈ X, w ∈ S ∧ w ∉ R) ∧ 64 < R.length + X.length)
theorem TW.pre {f : Nat → Int32} {o : Nat} {l m : List Nat} (h : TW f o (l ++ m)) : TW f o l := fun i hi k hk => by
  rw [h i (by simp; omega) k hk, getD_app1 hi]
theorem l_addcopy {word : Nat → Int32} {th ta a dd te : Int32} {of fr tp term0 len : Nat → Int32} {l1 l2 l3 l4 l5 : Int32} {n W : Nat} {K : Int32 → Int32 → Int32 → Int32 → Int32 → (Nat → Int32) → (Nat → Int32) → (Nat → Int32) → (Nat → Int32) → (Nat → Int32) → Int32 → Int32 → Int32 → Int32 → Int32 → Int32 → Prop} {Φ : Int32 → Int32 → Int32 → Int32 → Int32 → Int32 → (Nat → Int32) → (Nat → Int32) → (Nat → Int32) → (Nat → Int32) → (Nat → Int32) → Prop} (hn : n < 64) (hw : WR word W)
    (hK : ∀ term, (∀ j, j < 8 * n → term j = term0 j) → (∀ k, k < 8 → term (8 * n + k) = I (lw W k)) → K th ta a dd te of fr word term len l1 l2 l3 l4 l5 (I n)) :
    ∀ k i term, 8 ≤ i + k → i ≤ 8 → (∀ j, j < 8 * n → term j = term0 j) → (∀ k, k < i → term (8 * n + k) = I (lw W k)) → L_X9_add_136 (k + 1) th ta a dd te of fr tp word term len l1 l2 l3 l4 l5 (I n) (I i) K Φ := by
  intro k
  induction k with
  | zero =>
    intro i term h1 h2 h3 h4
    unfold L_X9_add_136
    simp (disch := omega) only [i_0, i_1, i_2, i_3, i_4, i_5, i_6, i_7, i_8, i_9, i_10, i_11, i_12, i_15, i_16, i_20, i_24, i_30, i_31, i_32, i_40, i_57, i_60, i_61, i_63, i_64, i_65, i_73, i_90, i_97, i_100, i_101, i_109, i_115, i_122, i_127, i_128, i_255, i_256, i_320, i_512, i_600, i_601, i_1100, i_1500, i_2560, i_3000, i_6650, i_12800, i_16000, i_65521, i_65536, I_of, I_le, I_lt, I_eq, I_add, I_sub, I_mul, I_cl, I_in, I_an, I_n1]
    exact ⟨fun _ => hK term h3 (fun k hk => h4 k (by omega)), fun z => by omega⟩
  | succ k ih =>
    intro i term h1 h2 h3 h4
    unfold L_X9_add_136
    simp (disch := omega) only [i_0, i_1, i_2, i_3, i_4, i_5, i_6, i_7, i_8, i_9, i_10, i_11, i_12, i_15, i_16, i_20, i_24, i_30, i_31, i_32, i_40, i_57, i_60, i_61, i_63, i_64, i_65, i_73, i_90, i_97, i_100, i_101, i_109, i_115, i_122, i_127, i_128, i_255, i_256, i_320, i_512, i_600, i_601, i_1100, i_1500, i_2560, i_3000, i_6650, i_12800, i_16000, i_65521, i_65536, I_of, I_le, I_lt, I_eq, I_add, I_sub, I_mul, I_cl, I_in, I_an, I_n1]
    refine ⟨fun _ => hK term h3 (fun k hk => h4 k (by omega)), fun z => ⟨by omega, by omega, ?_⟩⟩
    refine ih (i + 1) _ (by omega) (by omega) (fun j hj => ?_) (fun m hm => ?_)
    · rw [upd_ne (by omega)]; exact h3 j hj
    · by_cases e : m = i
      · subst e; rw [upd_eq, hw m (by omega)]
      · rw [upd_ne (by omega)]; exact h4 m (by omega)
theorem r_addone {S R dn R' : List Nat} {P0 ps t : Nat} {term fr : Nat → Int32} {th ta a dd te : Int32} {of tp word len : Nat → Int32} {l1 l2 l3 l5 : Int32} {B : Int32 → Int32 → Int32 → Int32 → Int32 → (Nat → Int32) → (Nat → Int32) → (Nat → Int32) → (Nat → Int32) → (Nat → Int32) → Int32 → Int32 → Int32 → Int32 → Int32 → Prop} {K : Int32 → Int32 → Int32 → Int32 → Int32 → (Nat → Int32) → (Nat → Int32) → (Nat → Int32) → (Nat → Int32) → (Nat → Int32) → Int32 → Int32 → Int32 → Int32 → Prop} {Φ : Int32 → Int32 → Int32 → Int32 → Int32 → Int32 → (Nat → Int32) → (Nat → Int32) → (Nat → Int32) → (Nat → Int32) → (Nat → Int32) → Prop} {w : Nat}
    (h64 : R'.length ≤ 64) (hnd : R'.Nodup) (hX : ∃ X, R' = R ++ X ∧ ∀ v ∈ X, v ∈ dn ∨ v = w) (hin : ∀ v ∈ dn, v ∈ R') (hT : TW term 0 R') (hf : ∀ t, t < 64 → fr t = I (dn.count (R'.getD t 0))) (hE : ∃ E : List Nat, E.Nodup ∧ (∀ v, v ∈ E ↔ v ∈ dn) ∧ ps = P0 + E.length) (ht : t < R'.length) (e : R'.getD t 0 = w) (hw0 : w ≠ 0) (hdn : dn.length < 1500)
    (hB : ∀ fr' ps', AW1 S R (dn ++ [w]) P0 R' term fr' ps' → B th ta a dd te of fr' word term len l1 l2 l3 (I ps') l5) : J_X9_add_179 th ta a dd te of fr tp word term len l1 l2 l3 (I ps) l5 (I t) B K Φ := by
  obtain ⟨E, e1, e2, e3⟩ := hE
  have hc : dn.count w ≤ dn.length := List.count_le_length
  have hfresh : ∀ u, u < 64 → upd fr t (I (dn.count w) + I 1) u = I ((dn ++ [w]).count (R'.getD u 0)) := fun u hu => by
    rw [List.count_append]
    by_cases q : u = t
    · subst q
      rw [upd_eq, I_add, e]; simp
    · rw [upd_ne q, hf u hu]
      have : List.count (R'.getD u 0) [w] = 0 := List.count_eq_zero.mpr (by
        simp only [List.mem_singleton]
        intro z
        by_cases hu2 : u < R'.length
        · exact q (getD_inj hnd hu2 ht (z.trans e.symm))
        · rw [getD_over (by omega)] at z; exact hw0 z.symm)
      rw [this]; rfl
  have hX' : ∃ X, R' = R ++ X ∧ ∀ v ∈ X, v ∈ dn ++ [w] := by
    obtain ⟨X, x1, x2⟩ := hX
    exact ⟨X, x1, fun v hv => by simpa using x2 v hv⟩
  have hin' : ∀ v ∈ dn ++ [w], v ∈ R' := fun v hv => by
    rcases List.mem_append.mp hv with hv | hv
    · exact hin v hv
    · simp only [List.mem_singleton] at hv; rw [hv, ← e]; exact getD_mem ht
  unfold J_X9_add_179
  rw [I_cl (show t < 2147483648 by omega), hf t (by omega), e]
  simp (disch := omega) only [i_0, i_1, i_2, i_3, i_4, i_5, i_6, i_7, i_8, i_9, i_10, i_11, i_12, i_15, i_16, i_20, i_24, i_30, i_31, i_32, i_40, i_57, i_60, i_61, i_63, i_64, i_65, i_73, i_90, i_97, i_100, i_101, i_109, i_115, i_122, i_127, i_128, i_255, i_256, i_320, i_512, i_600, i_601, i_1100, i_1500, i_2560, i_3000, i_6650, i_12800, i_16000, i_65521, i_65536, I_of, I_le, I_lt, I_eq, I_add, I_sub, I_mul, I_cl, I_in, I_an, I_n1]
  simp only [I_add] at hfresh
  refine ⟨by omega, fun q => ⟨by omega, by omega, hB _ _ ⟨h64, hnd, hX', hin', hT, hfresh, E, e1, fun v => ?_, e3⟩⟩, fun q => ⟨by omega, by omega, hB _ _ ⟨h64, hnd, hX', hin', hT, hfresh, E ++ [w], ?_, fun v => ?_, ?_⟩⟩⟩
  · have hwd : w ∈ dn := List.count_pos_iff.mp (by omega)
    rw [e2]; simp only [List.mem_append, List.mem_singleton]
    exact ⟨Or.inl, fun z => z.elim id (fun y => y ▸ hwd)⟩
  · have hwd : w ∉ dn := List.count_eq_zero.mp q
    refine List.nodup_append.mpr ⟨e1, by simp, fun x hx y hy z => ?_⟩
    simp only [List.mem_singleton] at hy
    rw [z, hy] at hx
    exact hwd ((e2 _).mp hx)
  · simp only [List.mem_append, List.mem_singleton, e2]
  · rw [e3]; simp only [List.length_append, List.length_cons, List.length_nil]; omega
theorem l_radd {D : List (List Nat)} {S R bs : List Nat} {P0 : Nat} {th ta dd l2 : Int32} {of tp len : Nat → Int32} {K : Int32 → Int32 → Int32 → Int32 → Int32 → (Nat → Int32) → (Nat → Int32) → (Nat → Int32) → (Nat → Int32) → (Nat → Int32) → Int32 → Int32 → Int32 → Int32 → Prop} {Φ : Int32 → Int32 → Int32 → Int32 → Int32 → Int32 → (Nat → Int32) → (Nat → Int32) → (Nat → Int32) → (Nat → Int32) → (Nat → Int32) → Prop}
    (hb : Row tp bs) (hy : byt bs) (hn : bs.length ≤ 3000) (hS : S.length ≤ 1500) (hSo : ∀ w ∈ S, okw w ∧ w ≠ 0) (hRo : ∀ w ∈ R, w < 18446744073709551616)
    (hK1 : D.length < 40 → ∀ a R' fr word term ps, AW1 S R S P0 R' term fr ps → K th ta a dd (I R'.length) of fr word term len l2 (I S.length) (I ps) (I 1))
    (hK0 : ∀ a te fr word term ps, AW0 S R D term → K th ta a dd te of fr word term len l2 (I S.length) ps (I 0)) :
    ∀ rest i dn, i ≤ bs.length → toks [] (bs.drop i) = rest → dn ++ rest.map stem = S →
      (D.length < 40 → ∀ R' fr word term ps, AW1 S R dn P0 R' term fr ps → L_X9_add_68 (rest.length + 1) th ta (I i) dd (I R'.length) of fr tp word term len (I bs.length) l2 (I dn.length) (I ps) (I 1) K Φ) ∧
      (∀ te fr word term ps, AW0 S R D term → L_X9_add_68 (rest.length + 1) th ta (I i) dd te of fr tp word term len (I bs.length) l2 (I dn.length) ps (I 0) K Φ) := by
  intro rest
  induction rest with
  | nil =>
    intro i dn hi h1 h2
    have e : dn = S := by simpa using h2
    subst e
    refine ⟨fun h40 R' fr word term ps hA => ?_, fun te fr word term ps hA => ?_⟩
    · unfold L_X9_add_68
      refine r_takesWord hb hy hn hi (fun _ => ⟨fun _ => hK1 h40 _ _ _ _ _ _ hA, fun q => absurd rfl q⟩) (fun r R0 i' w' q => ?_)
      rw [h1] at q; cases q
    · unfold L_X9_add_68
      refine r_takesWord hb hy hn hi (fun _ => ⟨fun _ => hK0 _ _ _ _ _ _ hA, fun q => absurd rfl q⟩) (fun r R0 i' w' q => ?_)
      rw [h1] at q; cases q
  | cons r rest ih =>
    intro i dn hi h1 h2
    have h2' : (dn ++ [stem r]) ++ rest.map stem = S := by simpa using h2
    have hmS : stem r ∈ S := by rw [← h2']; simp
    have hlen : dn.length < 1500 := by
      have := congrArg List.length h2'
      simp at this; omega
    have hdl : (dn ++ [stem r]).length = dn.length + 1 := by simp
    have hok := hSo _ hmS
    have hlt := hok.1.lt
    have h10 : ¬ (I 1 = I 0) := by decide
    refine ⟨fun h40 R' fr word term ps hA => ?_, fun te fr word term ps hA => ?_⟩
    · unfold L_X9_add_68
      refine r_takesWord hb hy hn hi (fun q => ?_) (fun r' R0 i' w' q hi' q2 hW => ?_)
      · rw [h1] at q; cases q
      · rw [h1, List.cons.injEq] at q
        obtain ⟨rfl, rfl⟩ := q
        obtain ⟨ihA, ihB⟩ := ih i' (dn ++ [stem r]) hi' q2 h2'
        rw [hdl] at ihA ihB
        obtain ⟨a1, a2, ⟨X, x1, x2⟩, a4, a5, a6, a7⟩ := hA
        have hRb : ∀ v ∈ R', v < 18446744073709551616 := fun v hv => by
          rw [x1] at hv
          rcases List.mem_append.mp hv with hv | hv
          · exact hRo v hv
          · have : v ∈ S := by rw [← h2]; simp [x2 v hv]
            have := (hSo v this).1.lt; omega
        have hdn0 : 0 ∉ dn := fun z => (hSo 0 (by rw [← h2]; simp [z])).2 rfl
        refine ⟨fun z => absurd z (by decide), fun _ => ⟨fun _ => ?_, fun z => absurd z (by decide)⟩⟩
        refine r_finds (o := 0) hW a5 (by omega) (by omega) (by omega) hRb (fun hm => ?_) (fun t ht e => ?_)
        · refine ⟨fun z => absurd z (by decide), fun _ => ?_⟩
          simp (disch := omega) only [i_0, i_1, i_2, i_3, i_4, i_5, i_6, i_7, i_8, i_9, i_10, i_11, i_12, i_15, i_16, i_20, i_24, i_30, i_31, i_32, i_40, i_57, i_60, i_61, i_63, i_64, i_65, i_73, i_90, i_97, i_100, i_101, i_109, i_115, i_122, i_127, i_128, i_255, i_256, i_320, i_512, i_600, i_601, i_1100, i_1500, i_2560, i_3000, i_6650, i_12800, i_16000, i_65521, i_65536, I_of, I_le, I_lt, I_eq, I_add, I_sub, I_mul, I_cl, I_in, I_an, I_n1]
          refine ⟨fun z => ?_, fun z => ?_⟩
          · unfold J_X9_add_122
            refine ⟨fun y => absurd y (by decide), fun _ => ⟨8 + 1, l_addcopy (by omega) hW (fun term' c1 c2 => ?_) 8 0 term (by omega) (by omega) (fun j hj => rfl) (fun k hk => by omega)⟩⟩
            have hT' : TW term' 0 (R' ++ [stem r]) := fun j hj k hk => by
              by_cases ej : j = R'.length
              · subst ej
                rw [getD_last, Nat.zero_add, c2 k hk]
              · have hj' : j < R'.length := by simp at hj; omega
                rw [getD_app1 hj', c1 _ (by omega), a5 j hj' k hk]
            have hwd : stem r ∉ dn := fun y => hm (a4 _ y)
            have key := r_addone (S := S) (R := R) (dn := dn) (R' := R' ++ [stem r]) (P0 := P0) (ps := ps) (t := R'.length) (term := term') (fr := fr) (th := th) (ta := ta) (a := I i') (dd := dd) (te := I (R' ++ [stem r]).length) (of := of) (tp := tp) (word := w') (len := len) (l1 := I bs.length) (l2 := l2) (l3 := I (dn.length + 1)) (l5 := I 1) (K := K) (Φ := Φ) (w := stem r) (by simp; omega) (List.nodup_append.mpr ⟨a2, by simp, fun x hx y hy z => by simp only [List.mem_singleton] at hy; rw [z, hy] at hx; exact hm hx⟩) ⟨X ++ [stem r], by rw [x1, List.append_assoc], fun v hv => by
                rcases List.mem_append.mp hv with hv | hv
                · exact Or.inl (x2 v hv)
                · exact Or.inr (by simpa using hv)⟩ (fun v hv => List.mem_append_left _ (a4 v hv)) hT' (fun u hu => by
                by_cases eu : u = R'.length
                · subst eu
                  rw [a6 _ hu, getD_last, getD_over (Nat.le_refl _), List.count_eq_zero.mpr hdn0, List.count_eq_zero.mpr hwd]
                · rw [a6 u hu]
                  by_cases hu2 : u < R'.length
                  · rw [getD_app1 hu2]
                  · rw [getD_over (by omega), getD_over (by simp; omega)]) a7 (by simp) (getD_last _ _) hok.2 hlen (B := fun a1 a2 a3 a4 a5 a6 a7 a8 a9 b1 b2 b3 b4 b5 b6 => L_X9_add_68 (rest.length + 1) a1 a2 a3 a4 a5 a6 a7 tp a8 a9 b1 b2 b3 b4 b5 b6 K Φ) (fun fr' ps' hA' => ihA h40 (R' ++ [stem r]) fr' w' term' ps' hA')
            rw [List.length_append] at key
            rw [i_1, I_add]
            exact key
          · have hfull : R'.length = 64 := z
            refine ihB _ _ _ _ _ ⟨?_, Or.inr ⟨X ++ [stem r], ?_, fun v hv => ?_, ?_⟩⟩
            · rw [x1] at a5; exact a5.pre
            · rw [x1, List.nodup_append] at a2
              refine List.nodup_append.mpr ⟨a2.2.1, by simp, fun x hx y hy e => ?_⟩
              simp only [List.mem_singleton] at hy
              rw [e, hy] at hx
              exact hm (by rw [x1]; simp [hx])
            · rcases List.mem_append.mp hv with hv | hv
              · rw [x1, List.nodup_append] at a2
                exact ⟨by rw [← h2]; simp [x2 v hv], fun y => a2.2.2 v y v hv rfl⟩
              · simp only [List.mem_singleton] at hv
                rw [hv]
                exact ⟨hmS, fun y => hm (by rw [x1]; simp [y])⟩
            · rw [x1, List.length_append] at hfull
              simp only [List.length_append, List.length_cons, List.length_nil]; omega
        · refine ⟨fun _ => ?_, fun z => by rw [i_0, I_le (by omega) (by omega)] at z; omega⟩
          unfold J_X9_add_122
          refine ⟨fun _ => ?_, fun z => by rw [i_0, I_le (by omega) (by omega)] at z; omega⟩
          rw [i_1, I_add]
          exact r_addone (S := S) (R := R) (P0 := P0) (w := stem r) a1 a2 ⟨X, x1, fun v hv => Or.inl (x2 v hv)⟩ a4 a5 a6 a7 ht e hok.2 hlen (fun fr' ps' hA' => ihA h40 R' fr' w' term ps' hA')
    · unfold L_X9_add_68
      refine r_takesWord hb hy hn hi (fun q => ?_) (fun r' R0 i' w' q hi' q2 hW => ?_)
      · rw [h1] at q; cases q
      · rw [h1, List.cons.injEq] at q
        obtain ⟨rfl, rfl⟩ := q
        obtain ⟨ihA, ihB⟩ := ih i' (dn ++ [stem r]) hi' q2 h2'
        rw [hdl] at ihA ihB
        refine ⟨fun z => absurd z (by decide), fun _ => ⟨fun z => absurd rfl z, fun _ => ?_⟩⟩
        rw [i_1, I_add]
        exact ihB _ _ _ _ _ hA

/-- the end of a document that comes -/
theorem l_addoften {D : List (List Nat)} {fr tp : Nat → Int32} {th ta a te l3 : Int32} {word term len of0 : Nat → Int32} {K : Int32 → Int32 → Int32 → Int32 → Int32 → (Nat → Int32) → (Nat → Int32) → (Nat → Int32) → (Nat → Int32) → (Nat → Int32) → Int32 → Prop} {Φ : Int32 → Int32 → Int32 → Int32 → Int32 → Int32 → (Nat → Int32) → (Nat → Int32) → (Nat → Int32) → (Nat → Int32) → (Nat → Int32) → Prop} (hD : D.length < 40)
    (hK : ∀ of, (∀ t, t < 64 → of (40 * t + D.length) = fr t) → (∀ t d, d < D.length → of (40 * t + d) = of0 (40 * t + d)) → K th ta a (I D.length) te of fr word term len l3) :
    ∀ k i of, 64 ≤ i + k → i ≤ 64 → (∀ t, t < i → of (40 * t + D.length) = fr t) → (∀ t d, d < D.length → of (40 * t + d) = of0 (40 * t + d)) → L_X9_add_280 (k + 1) th ta a (I D.length) te of fr tp word term len l3 (I i) K Φ := by
  intro k
  induction k with
  | zero =>
    intro i of h1 h2 h3 h4
    unfold L_X9_add_280
    simp (disch := omega) only [i_0, i_1, i_2, i_3, i_4, i_5, i_6, i_7, i_8, i_9, i_10, i_11, i_12, i_15, i_16, i_20, i_24, i_30, i_31, i_32, i_40, i_57, i_60, i_61, i_63, i_64, i_65, i_73, i_90, i_97, i_100, i_101, i_109, i_115, i_122, i_127, i_128, i_255, i_256, i_320, i_512, i_600, i_601, i_1100, i_1500, i_2560, i_3000, i_6650, i_12800, i_16000, i_65521, i_65536, I_of, I_le, I_lt, I_eq, I_add, I_sub, I_mul, I_cl, I_in, I_an, I_n1]
    exact ⟨fun _ => hK of (fun t ht => h3 t (by omega)) h4, fun z => by omega⟩
  | succ k ih =>
    intro i of h1 h2 h3 h4
    unfold L_X9_add_280
    simp (disch := omega) only [i_0, i_1, i_2, i_3, i_4, i_5, i_6, i_7, i_8, i_9, i_10, i_11, i_12, i_15, i_16, i_20, i_24, i_30, i_31, i_32, i_40, i_57, i_60, i_61, i_63, i_64, i_65, i_73, i_90, i_97, i_100, i_101, i_109, i_115, i_122, i_127, i_128, i_255, i_256, i_320, i_512, i_600, i_601, i_1100, i_1500, i_2560, i_3000, i_6650, i_12800, i_16000, i_65521, i_65536, I_of, I_le, I_lt, I_eq, I_add, I_sub, I_mul, I_cl, I_in, I_an, I_n1]
    refine ⟨fun _ => hK of (fun t ht => h3 t (by omega)) h4, fun z => ⟨by omega, by omega, ih (i + 1) _ (by omega) (by omega) (fun t ht => ?_) (fun t d hd => ?_)⟩⟩
    · by_cases e : t = i
      · subst e; rw [upd_eq]
      · rw [upd_ne (by omega)]; exact h3 t (by omega)
    · rw [upd_ne (by omega)]; exact h4 t d hd
theorem l_addfresh {th ta a dd te l1 l2 l3 l4 l5 : Int32} {of tp word term len : Nat → Int32} {K : Int32 → Int32 → Int32 → Int32 → Int32 → (Nat → Int32) → (Nat → Int32) → (Nat → Int32) → (Nat → Int32) → (Nat → Int32) → Int32 → Int32 → Int32 → Int32 → Int32 → Prop} {Φ : Int32 → Int32 → Int32 → Int32 → Int32 → Int32 → (Nat → Int32) → (Nat → Int32) → (Nat → Int32) → (Nat → Int32) → (Nat → Int32) → Prop}
    (hK : ∀ fr, (∀ t, t < 64 → fr t = I 0) → K th ta a dd te of fr word term len l1 l2 l3 l4 l5) :
    ∀ k i fr, 64 ≤ i + k → i ≤ 64 → (∀ t, t < i → fr t = I 0) → L_X9_add_42 (k + 1) th ta a dd te of fr tp word term len l1 l2 l3 l4 l5 (I i) K Φ := by
  intro k
  induction k with
  | zero =>
    intro i fr h1 h2 h3
    unfold L_X9_add_42
    simp (disch := omega) only [i_0, i_1, i_2, i_3, i_4, i_5, i_6, i_7, i_8, i_9, i_10, i_11, i_12, i_15, i_16, i_20, i_24, i_30, i_31, i_32, i_40, i_57, i_60, i_61, i_63, i_64, i_65, i_73, i_90, i_97, i_100, i_101, i_109, i_115, i_122, i_127, i_128, i_255, i_256, i_320, i_512, i_600, i_601, i_1100, i_1500, i_2560, i_3000, i_6650, i_12800, i_16000, i_65521, i_65536, I_of, I_le, I_lt, I_eq, I_add, I_sub, I_mul, I_cl, I_in, I_an, I_n1]
    exact ⟨fun _ => hK fr (fun t ht => h3 t (by omega)), fun z => by omega⟩
  | succ k ih =>
    intro i fr h1 h2 h3
    unfold L_X9_add_42
    simp (disch := omega) only [i_0, i_1, i_2, i_3, i_4, i_5, i_6, i_7, i_8, i_9, i_10, i_11, i_12, i_15, i_16, i_20, i_24, i_30, i_31, i_32, i_40, i_57, i_60, i_61, i_63, i_64, i_65, i_73, i_90, i_97, i_100, i_101, i_109, i_115, i_122, i_127, i_128, i_255, i_256, i_320, i_512, i_600, i_601, i_1100, i_1500, i_2560, i_3000, i_6650, i_12800, i_16000, i_65521, i_65536, I_of, I_le, I_lt, I_eq, I_add, I_sub, I_mul, I_cl, I_in, I_an, I_n1]
    refine ⟨fun _ => hK fr (fun t ht => h3 t (by omega)), fun z => ⟨by omega, ih (i + 1) _ (by omega) (by omega) (fun t ht => ?_)⟩⟩
    by_cases e : t = i
    · subst e; rw [upd_eq]
    · rw [upd_ne e]; exact h3 t (by omega)
theorem r_add {D : List (List Nat)} {R bs : List Nat} {th a : Int32} {tp of fr word term len : Nat → Int32} {Φ : Int32 → Int32 → Int32 → Int32 → Int32 → Int32 → (Nat → Int32) → (Nat → Int32) → (Nat → Int32) → (Nat → Int32) → (Nat → Int32) → Prop}
    (hb : Row tp bs) (hy : byt bs) (hn : bs.length ≤ 3000) (hD : docsOK D) (hR : RT D R term of) (h64 : R.length ≤ 64) (hnd : R.Nodup) (hRo : ∀ w ∈ R, w < 18446744073709551616) (hSo : ∀ w ∈ stems bs, okw w ∧ w ≠ 0) (hL : LN D len) (hps : posts D R ≤ 600) (hRD : ∀ doc ∈ D, ∀ w ∈ doc, w ∈ R)
    (h1 : stems bs = [] → ∀ a' fr' w' tm', TW tm' 0 R → Φ (I 0) (I 1) (I 0) a' (I D.length) (I R.length) of fr' w' tm' len)
    (h2 : stems bs ≠ [] → ¬ Room D R (stems bs) → ∀ a' fr' w' tm', TW tm' 0 R → Φ (I 0) (I 2) (I 0) a' (I D.length) (I R.length) of fr' w' tm' len)
    (h3 : stems bs ≠ [] → Room D R (stems bs) → ∀ R' a' of' fr' w' tm' len', R'.Nodup → R'.length ≤ 64 → (∀ w, w ∈ R' ↔ w ∈ R ∨ w ∈ stems bs) → RT (D ++ [stems bs]) R' tm' of' → LN (D ++ [stems bs]) len' → Φ (I D.length) (I 0) (I 0) a' (I (D.length + 1)) (I R'.length) of' fr' w' tm' len') :
    P_X9_add th (I bs.length) a (I D.length) (I R.length) of fr tp word term len Φ := by
  have hSl := stems_len bs
  have hD40 := hD.1
  unfold P_X9_add
  refine r_cpost hD hR h64 ?_
  generalize hSe : stems bs = S at *
  -- the three ends
  have endF : ∀ te a' fr' w' tm', TW tm' 0 R → ¬ Room D R S → J_X9_add_223 th (I 0) a' (I D.length) te of fr' tp w' tm' len (I R.length) (I S.length) Φ := by
    intro te a' fr' w' tm' hT hnR
    unfold J_X9_add_223 J_X9_add_224 J_X9_add_235 J_X9_add_240 J_X9_add_250
    simp (disch := omega) only [i_0, i_1, i_2, i_3, i_4, i_5, i_6, i_7, i_8, i_9, i_10, i_11, i_12, i_15, i_16, i_20, i_24, i_30, i_31, i_32, i_40, i_57, i_60, i_61, i_63, i_64, i_65, i_73, i_90, i_97, i_100, i_101, i_109, i_115, i_122, i_127, i_128, i_255, i_256, i_320, i_512, i_600, i_601, i_1100, i_1500, i_2560, i_3000, i_6650, i_12800, i_16000, i_65521, i_65536, I_of, I_le, I_lt, I_eq, I_add, I_sub, I_mul, I_cl, I_in, I_an, I_n1]
    have hS0 : S.length = 0 ↔ S = [] := List.length_eq_zero_iff
    refine ⟨fun q => ⟨fun y => absurd q y, fun _ => r_fails1 ⟨fun _ => h1 (hS0.mp q) _ _ _ _ hT, fun y => absurd y (by decide)⟩⟩, fun q => ⟨fun y => absurd trivial y, fun _ => ⟨fun _ => r_fails0 ⟨fun y => absurd rfl y, fun _ => ⟨fun y => absurd trivial y, fun _ => r_fails1 ⟨fun y => absurd y (by decide), fun _ => h2 (fun z => q (hS0.mpr z)) hnR _ _ _ _ hT⟩⟩⟩, fun y => absurd y q⟩⟩⟩
  have endT : ∀ R' a' fr' w' tm' ps, AW1 S R S (posts D R) R' tm' fr' ps → D.length < 40 → ((I 600 < I ps → J_X9_add_223 th (I 0) a' (I D.length) (I R'.length) of fr' tp w' tm' len (I R.length) (I S.length) Φ) ∧ (¬ I 600 < I ps → J_X9_add_224 th (I 0) a' (I D.length) (I R'.length) of fr' tp w' tm' len (I R.length) (I S.length) (I 1) Φ)) := by
    intro R' a' fr' w' tm' ps hA hlt
    obtain ⟨a1, a2, ⟨X, x1, x2⟩, a4, a5, a6, E, e1, e2, e3⟩ := hA
    have hE : E.length = (nub S).length := len_of_same e1 (nodup_nub S) (fun w => by rw [e2, mem_nub])
    have hEle : E.length ≤ S.length := nodup_len e1 (fun w hw => (e2 w).mp hw)
    have hXnd : X.Nodup ∧ ∀ v ∈ X, v ∉ R := by
      rw [x1, List.nodup_append] at a2
      exact ⟨a2.2.1, fun v hv y => a2.2.2 v y v hv rfl⟩
    have hX : X.length = (fresh R S).length := by
      refine len_of_same hXnd.1 ((nodup_nub S).sublist List.filter_sublist) (fun w => ?_)
      unfold fresh
      simp only [List.mem_filter, mem_nub, decide_eq_true_eq]
      refine ⟨fun q => ⟨x2 w q, hXnd.2 w q⟩, fun q => ?_⟩
      have := a4 w q.1
      rw [x1] at this
      exact (List.mem_append.mp this).elim (fun y => absurd y q.2) id
    have hl : R'.length = R.length + X.length := by rw [x1, List.length_append]
    have hroom : Room D R S ↔ ps ≤ 600 := by
      unfold Room
      rw [← hX, ← hE, e3]
      omega
    have hTR : TW tm' 0 R := by rw [x1] at a5; exact a5.pre
    rw [I_lt (by omega) (by omega)]
    refine ⟨fun q => endF _ a' fr' w' tm' hTR (fun y => by have := hroom.mp y; omega), fun q => ?_⟩
    have hR1 := hroom.mpr (by omega)
    unfold J_X9_add_224 J_X9_add_235 J_X9_add_240 J_X9_add_250
    simp (disch := omega) only [i_0, i_1, i_2, i_3, i_4, i_5, i_6, i_7, i_8, i_9, i_10, i_11, i_12, i_15, i_16, i_20, i_24, i_30, i_31, i_32, i_40, i_57, i_60, i_61, i_63, i_64, i_65, i_73, i_90, i_97, i_100, i_101, i_109, i_115, i_122, i_127, i_128, i_255, i_256, i_320, i_512, i_600, i_601, i_1100, i_1500, i_2560, i_3000, i_6650, i_12800, i_16000, i_65521, i_65536, I_of, I_le, I_lt, I_eq, I_add, I_sub, I_mul, I_cl, I_in, I_an, I_n1]
    have hS0 : S.length = 0 ↔ S = [] := List.length_eq_zero_iff
    refine ⟨fun q => ⟨fun y => absurd q y, fun _ => r_fails1 ⟨fun _ => h1 (hS0.mp q) _ _ _ _ hTR, fun y => absurd y (by decide)⟩⟩, fun q => ⟨fun _ => ⟨fun _ => r_fails0 ⟨fun y => absurd rfl y, fun _ => ⟨fun _ => r_fails0 ⟨fun _ => ⟨64 + 1, l_addoften hlt (fun of' b1 b2 => ?_) 64 0 of (by omega) (by omega) (fun t ht => by omega) (fun t d hd => rfl)⟩, fun y => absurd rfl y⟩, fun y => by omega⟩⟩, fun y => absurd y q⟩, fun y => by omega⟩⟩
    simp (disch := omega) only [i_0, i_1, i_2, i_3, i_4, i_5, i_6, i_7, i_8, i_9, i_10, i_11, i_12, i_15, i_16, i_20, i_24, i_30, i_31, i_32, i_40, i_57, i_60, i_61, i_63, i_64, i_65, i_73, i_90, i_97, i_100, i_101, i_109, i_115, i_122, i_127, i_128, i_255, i_256, i_320, i_512, i_600, i_601, i_1100, i_1500, i_2560, i_3000, i_6650, i_12800, i_16000, i_65521, i_65536, I_of, I_le, I_lt, I_eq, I_add, I_sub, I_mul, I_cl, I_in, I_an, I_n1, Nat.add_sub_cancel]
    refine ⟨hlt, h3 (fun z => q (hS0.mpr z)) hR1 R' a' of' fr' w' tm' _ a2 a1 (fun w => ?_) ⟨a5, fun t ht d hd => ?_⟩ (fun d hd => ?_)⟩
    · rw [x1, List.mem_append]
      refine ⟨fun y => y.elim Or.inl (fun y => Or.inr (x2 w y)), fun y => y.elim Or.inl (fun y => ?_)⟩
      have := a4 w y
      rw [x1] at this
      exact List.mem_append.mp this
    · by_cases ed : d = D.length
      · subst ed
        rw [b1 t ht, a6 t ht, cnt_app2]
      · have hd' : d < D.length := by simp at hd; omega
        rw [b2 t d hd', cnt_app1 hd', hR.2 t ht d hd']
        by_cases htR : t < R.length
        · rw [x1, getD_app1 htR]
        · rw [getD_over (show R.length ≤ t by omega)]
          congr 1
          rw [cnt_zero (fun y => by obtain ⟨doc, hdoc, y⟩ := y; exact (hD.2 doc hdoc).2 y)]
          by_cases htR' : t < R'.length
          · refine (cnt_zero (fun y => ?_) d).symm
            obtain ⟨doc, hdoc, y⟩ := y
            have hm := hRD doc hdoc _ y
            obtain ⟨j, hj, ej⟩ := List.mem_iff_getElem.mp hm
            have e2 : R'.getD j 0 = R'.getD t 0 := by
              rw [← ej, x1, getD_app1 hj, List.getD_eq_getElem?_getD, List.getElem?_eq_getElem hj]; rfl
            have := getD_inj a2 (by omega) htR' e2
            omega
          · rw [getD_over (by omega), cnt_zero (fun y => by obtain ⟨doc, hdoc, y⟩ := y; exact (hD.2 doc hdoc).2 y)]
    · by_cases e : d = D.length
      · subst e; rw [upd_eq]; simp [List.getD_eq_getElem?_getD]
      · have : d < D.length := by simp at hd; omega
        rw [upd_ne e, hL d this]; simp only [List.getD_eq_getElem?_getD, List.getElem?_append_left this]
  have hR64 : ∀ t, t < 64 → ∀ fr : Nat → Int32, (∀ t, t < 64 → fr t = I 0) → fr t = I (([] : List Nat).count (R.getD t 0)) := fun t ht fr q => by rw [q t ht]; rfl
  simp (disch := omega) only [I_le, i_40]
  refine ⟨fun q => ⟨64 + 1, l_addfresh (fun fr0 hf0 => ⟨(toks [] bs).length + 1, ?_⟩) 64 0 fr (by omega) (by omega) (fun t ht => by omega)⟩, fun q => ⟨64 + 1, l_addfresh (fun fr0 hf0 => ⟨(toks [] bs).length + 1, ?_⟩) 64 0 fr (by omega) (by omega) (fun t ht => by omega)⟩⟩
  · have key := (l_radd (D := D) (S := S) (R := R) (P0 := posts D R) (th := th) (ta := I 0) (dd := I D.length) (l2 := I R.length) (of := of) (len := len) (Φ := Φ) (K := fun v_thrown_200 v_taped_201 v_at_202 v_documents_203 v_terms_204 v_often_205 v_fresh_206 v_word_207 v_term_208 v_length_209 l2_210 l3_211 l4_212 l5_213 => ((l5_213 = 0 → J_X9_add_223 v_thrown_200 v_taped_201 v_at_202 v_documents_203 v_terms_204 v_often_205 v_fresh_206 tp v_word_207 v_term_208 v_length_209 l2_210 l3_211 Φ) ∧ (¬ l5_213 = 0 → ((600 < l4_212 → J_X9_add_223 v_thrown_200 v_taped_201 v_at_202 v_documents_203 v_terms_204 v_often_205 v_fresh_206 tp v_word_207 v_term_208 v_length_209 l2_210 l3_211 Φ) ∧ (¬ 600 < l4_212 → J_X9_add_224 v_thrown_200 v_taped_201 v_at_202 v_documents_203 v_terms_204 v_often_205 v_fresh_206 tp v_word_207 v_term_208 v_length_209 l2_210 l3_211 1 Φ))))) hb hy hn (by omega) hSo hRo ?_ ?_ (toks [] bs) 0 [] (by omega) rfl (by rw [← hSe]; rfl)).2 (I R.length) fr0 word term (I (posts D R)) ⟨hR.1, Or.inl q⟩
    · exact key
    · intro h40
      omega
    · intro a' te fr' w' tm' ps hA
      refine ⟨fun _ => endF te a' fr' w' tm' hA.1 (fun y => by have := y.1; omega), fun y => absurd rfl y⟩
  · have key := (l_radd (D := D) (S := S) (R := R) (P0 := posts D R) (th := th) (ta := I 0) (dd := I D.length) (l2 := I R.length) (of := of) (len := len) (Φ := Φ) (K := fun v_thrown_200 v_taped_201 v_at_202 v_documents_203 v_terms_204 v_often_205 v_fresh_206 v_word_207 v_term_208 v_length_209 l2_210 l3_211 l4_212 l5_213 => ((l5_213 = 0 → J_X9_add_223 v_thrown_200 v_taped_201 v_at_202 v_documents_203 v_terms_204 v_often_205 v_fresh_206 tp v_word_207 v_term_208 v_length_209 l2_210 l3_211 Φ) ∧ (¬ l5_213 = 0 → ((600 < l4_212 → J_X9_add_223 v_thrown_200 v_taped_201 v_at_202 v_documents_203 v_terms_204 v_often_205 v_fresh_206 tp v_word_207 v_term_208 v_length_209 l2_210 l3_211 Φ) ∧ (¬ 600 < l4_212 → J_X9_add_224 v_thrown_200 v_taped_201 v_at_202 v_documents_203 v_terms_204 v_often_205 v_fresh_206 tp v_word_207 v_term_208 v_length_209 l2_210 l3_211 1 Φ))))) hb hy hn (by omega) hSo hRo ?_ ?_ (toks [] bs) 0 [] (by omega) rfl (by rw [← hSe]; rfl)).1 (by omega) R fr0 word term (posts D R) ⟨h64, hnd, ⟨[], (List.append_nil R).symm, fun w hw => absurd hw List.not_mem_nil⟩, fun w hw => absurd hw List.not_mem_nil, hR.1, fun t ht => hR64 t ht fr0 hf0, [], List.nodup_nil, fun w => by simp, rfl⟩
    · exact key
    · intro h40 a' R' fr' w' tm' ps hA
      exact ⟨fun y => absurd y (by decide), fun _ => endT R' a' fr' w' tm' ps hA (by omega)⟩
    · intro a' te fr' w' tm' ps hA
      refine ⟨fun _ => endF te a' fr' w' tm' hA.1 (fun y => ?_), fun y => absurd rfl y⟩
      rcases hA.2 with q2 | ⟨X, x1, x2, x3⟩
      · omega
      · have hX : X.length ≤ (fresh R S).length := nodup_len x1 (fun w hw => by
          unfold fresh
          simp only [List.mem_filter, mem_nub, decide_eq_true_eq]
          exact x2 w hw)
        have := y.2.1
        omega
