
/-! the class's collection -/
/-- the rows of the terms -/
def CT (D : List (List Nat)) (T : List Nat) (term : Nat → Int64) (ind times : Nat → Int32) : Prop := LRow term T ∧ (∀ t, t < T.length → ind t = I (df D (T.getD t 0))) ∧ ∀ t, t < T.length → ∀ d, d < 40 → times (t * 40 + d) = I (cnt D (T.getD t 0) d)
theorem l_placeOf {T : List Nat} {f : Nat → Int64} {w : Nat} {K : Prop} {Φ : Int32 → Prop} (hf : LRow f T) (hb : ∀ v ∈ T, v < 9223372036854775808) (hw : w < 9223372036854775808) (hn : T.length ≤ 64)
    (hK : (∀ j, j < T.length → T.getD j 0 < w) → K) (hΦ : ∀ i, i < T.length → (∀ j, j < i → T.getD j 0 < w) → w ≤ T.getD i 0 → Φ (I i)) :
    ∀ k i, T.length ≤ i + k → i ≤ T.length → (∀ j, j < i → T.getD j 0 < w) → L_X1_placeOf_2 (k + 1) (I T.length) f (J w) (I i) K Φ := by
  intro k
  induction k with
  | zero =>
    intro i h1 h2 h3
    unfold L_X1_placeOf_2
    simp (disch := omega) only [i_0, i_1, i_2, i_3, i_4, i_5, i_6, i_7, i_8, i_9, i_10, i_11, i_12, i_15, i_16, i_20, i_24, i_30, i_31, i_32, i_40, i_57, i_60, i_61, i_63, i_64, i_65, i_73, i_90, i_97, i_100, i_101, i_109, i_115, i_122, i_127, i_128, i_255, i_256, i_320, i_512, i_600, i_601, i_1100, i_1500, i_2560, i_3000, i_6650, i_12800, i_16000, i_65521, i_65536, I_of, I_le, I_lt, I_eq, I_add, I_sub, I_mul, I_cl, I_in, I_an, I_n1]
    exact ⟨fun _ => hK (fun j hj => h3 j (by omega)), fun z => by omega⟩
  | succ k ih =>
    intro i h1 h2 h3
    unfold L_X1_placeOf_2
    simp (disch := omega) only [i_0, i_1, i_2, i_3, i_4, i_5, i_6, i_7, i_8, i_9, i_10, i_11, i_12, i_15, i_16, i_20, i_24, i_30, i_31, i_32, i_40, i_57, i_60, i_61, i_63, i_64, i_65, i_73, i_90, i_97, i_100, i_101, i_109, i_115, i_122, i_127, i_128, i_255, i_256, i_320, i_512, i_600, i_601, i_1100, i_1500, i_2560, i_3000, i_6650, i_12800, i_16000, i_65521, i_65536, I_of, I_le, I_lt, I_eq, I_add, I_sub, I_mul, I_cl, I_in, I_an, I_n1]
    refine ⟨fun _ => hK (fun j hj => h3 j (by omega)), fun z => ⟨by omega, ?_⟩⟩
    have := hb _ (getD_mem (ds := T) (i := i) (by omega))
    rw [hf i (by omega), J_lt (by omega) hw]
    refine ⟨fun q => ih (i + 1) (by omega) (by omega) (fun j hj => ?_), fun q => hΦ i (by omega) h3 (by omega)⟩
    by_cases e : j = i
    · subst e; exact q
    · exact h3 j (by omega)
theorem s_placeOf {T : List Nat} {f : Nat → Int64} {w : Nat} {Φ : Int32 → Prop} (hf : LRow f T) (hb : ∀ v ∈ T, v < 9223372036854775808) (hw : w < 9223372036854775808) (hn : T.length ≤ 64)
    (h : ∀ p, p ≤ T.length → (∀ j, j < p → T.getD j 0 < w) → (p < T.length → w ≤ T.getD p 0) → Φ (I p)) : P_X1_placeOf (I T.length) f (J w) Φ :=
  ⟨T.length + 1, l_placeOf hf hb hw hn (fun q => h _ (Nat.le_refl _) q (fun z => absurd z (Nat.lt_irrefl _))) (fun i hi q1 q2 => h i (by omega) q1 (fun _ => q2)) T.length 0 (by omega) (by omega) (fun j hj => by omega)⟩
/-- is the term at the place that was found -/
theorem s_hasAt {T : List Nat} {f : Nat → Int64} {w p : Nat} {Φ : Int32 → Prop} (hs : srt T) (hf : LRow f T) (hb : ∀ v ∈ T, v < 9223372036854775808) (hw : w < 9223372036854775808) (hn : T.length ≤ 64)
    (hp : p ≤ T.length) (q1 : ∀ j, j < p → T.getD j 0 < w) (q2 : p < T.length → w ≤ T.getD p 0)
    (h1 : p < T.length → T.getD p 0 = w → w ∈ T → Φ (I 1)) (h0 : w ∉ T → (∀ j, p ≤ j → j < T.length → w < T.getD j 0) → Φ (I 0)) : P_X1_hasTermAt (I T.length) f (I p) (J w) Φ := by
  unfold P_X1_hasTermAt
  have hnm : (∀ j, p ≤ j → j < T.length → w < T.getD j 0) → w ∉ T := fun hq hm => by
    obtain ⟨i, hi, e⟩ := List.mem_iff_getElem.mp hm
    have e2 : T.getD i 0 = w := by rw [List.getD_eq_getElem?_getD, List.getElem?_eq_getElem hi, ← e]; rfl
    by_cases hip : i < p
    · have := q1 i hip; omega
    · have := hq i (by omega) hi; omega
  have hmid : (p < T.length → w ≠ T.getD p 0) → ∀ j, p ≤ j → j < T.length → w < T.getD j 0 := fun hne j hpj hj => by
    have a := q2 (by omega)
    have b := hne (by omega)
    by_cases e : p = j
    · subst e; omega
    · have := hs.get (i := p) (j := j) (by omega) hj; omega
  simp (disch := omega) only [i_0, i_1, i_2, i_3, i_4, i_5, i_6, i_7, i_8, i_9, i_10, i_11, i_12, i_15, i_16, i_20, i_24, i_30, i_31, i_32, i_40, i_57, i_60, i_61, i_63, i_64, i_65, i_73, i_90, i_97, i_100, i_101, i_109, i_115, i_122, i_127, i_128, i_255, i_256, i_320, i_512, i_600, i_601, i_1100, i_1500, i_2560, i_3000, i_6650, i_12800, i_16000, i_65521, i_65536, I_of, I_le, I_lt, I_eq, I_add, I_sub, I_mul, I_cl, I_in, I_an, I_n1]
  refine ⟨fun z => ?_, fun z => ⟨by omega, ?_⟩⟩
  · have hm := hmid (fun y => by omega)
    exact h0 (hnm hm) hm
  · have := hb _ (getD_mem (ds := T) (i := p) (by omega))
    rw [hf p (by omega), J_eq (by omega) (by omega)]
    refine ⟨fun y => ?_, fun y => h1 (by omega) y (y ▸ getD_mem (by omega))⟩
    have hm := hmid (fun _ e => y e.symm)
    exact h0 (hnm hm) hm
theorem take_succ_getD {ds : List Nat} {i : Nat} (h : i < ds.length) : ds.take (i + 1) = ds.take i ++ [ds.getD i 0] := by
  rw [List.take_succ, List.getD_eq_getElem?_getD, List.getElem?_eq_getElem h]; rfl
theorem filt_step {T ds : List Nat} {i : Nat} (h : i < ds.length) : ((ds.take (i + 1)).filter (fun w => decide (w ∉ T))).length = ((ds.take i).filter (fun w => decide (w ∉ T))).length + (if ds.getD i 0 ∈ T then 0 else 1) := by
  rw [take_succ_getD h, List.filter_append, List.length_append]
  by_cases q : ds.getD i 0 ∈ T
  · rw [if_pos q, List.filter_cons_of_neg (by simp only [decide_not, Bool.not_eq_true', decide_eq_false_iff_not, Classical.not_not]; exact q)]; rfl
  · rw [if_neg q, List.filter_cons_of_pos (by simp only [decide_eq_true_eq]; exact q)]; rfl
theorem l_room {T ds : List Nat} {wt f : Nat → Int64} {doc ps : Int32} {K Φ : Int32 → Prop} (hs : srt T) (hf : LRow f T) (hb : ∀ v ∈ T, v < 9223372036854775808) (hn : T.length ≤ 64) (hd : LRow wt ds) (hdb : ∀ v ∈ ds, v < 9223372036854775808) (hdn : ds.length ≤ 1500)
    (hK : K (I (ds.filter (fun w => decide (w ∉ T))).length)) :
    ∀ k i, ds.length ≤ i + k → i ≤ ds.length → L_X1_hasRoomFor_4 (k + 1) (I ds.length) wt doc (I T.length) ps f (I ((ds.take i).filter (fun w => decide (w ∉ T))).length) (I i) K Φ := by
  intro k
  induction k with
  | zero =>
    intro i h1 h2
    unfold L_X1_hasRoomFor_4
    simp (disch := omega) only [i_0, i_1, i_2, i_3, i_4, i_5, i_6, i_7, i_8, i_9, i_10, i_11, i_12, i_15, i_16, i_20, i_24, i_30, i_31, i_32, i_40, i_57, i_60, i_61, i_63, i_64, i_65, i_73, i_90, i_97, i_100, i_101, i_109, i_115, i_122, i_127, i_128, i_255, i_256, i_320, i_512, i_600, i_601, i_1100, i_1500, i_2560, i_3000, i_6650, i_12800, i_16000, i_65521, i_65536, I_of, I_le, I_lt, I_eq, I_add, I_sub, I_mul, I_cl, I_in, I_an, I_n1]
    rw [List.take_of_length_le (by omega)]
    exact ⟨fun _ => hK, fun z => by omega⟩
  | succ k ih =>
    intro i h1 h2
    unfold L_X1_hasRoomFor_4
    simp (disch := omega) only [i_0, i_1, i_2, i_3, i_4, i_5, i_6, i_7, i_8, i_9, i_10, i_11, i_12, i_15, i_16, i_20, i_24, i_30, i_31, i_32, i_40, i_57, i_60, i_61, i_63, i_64, i_65, i_73, i_90, i_97, i_100, i_101, i_109, i_115, i_122, i_127, i_128, i_255, i_256, i_320, i_512, i_600, i_601, i_1100, i_1500, i_2560, i_3000, i_6650, i_12800, i_16000, i_65521, i_65536, I_of, I_le, I_lt, I_eq, I_add, I_sub, I_mul, I_cl, I_in, I_an, I_n1]
    refine ⟨fun z => ?_, fun z => ⟨by omega, ?_⟩⟩
    · rw [List.take_of_length_le (by omega)]; exact hK
    · have hle : ((ds.take i).filter (fun w => decide (w ∉ T))).length ≤ i := by
        refine Nat.le_trans (List.length_filter_le _ _) ?_
        simp; omega
      have hnx := ih (i + 1) (by omega) (by omega)
      rw [filt_step (show i < ds.length by omega)] at hnx
      have hv := hdb _ (getD_mem (ds := ds) (i := i) (by omega))
      rw [hd i (by omega)]
      refine s_placeOf hf hb hv hn (fun p hp q1 q2 => ⟨by omega, ?_⟩)
      refine s_hasAt hs hf hb hv hn hp q1 q2 (fun _ _ hm => ?_) (fun hm _ => ?_)
      · refine ⟨fun _ => by rw [if_pos hm] at hnx; exact hnx, fun y => by rw [I_eq (by omega) (by omega)] at y; omega⟩
      · refine ⟨fun y => absurd rfl y, fun _ => by rw [if_neg hm] at hnx; exact hnx⟩
theorem s_room {D : List (List Nat)} {T ds S : List Nat} {wt f : Nat → Int64} {Φ : Int32 → Prop} (hs : srt T) (hf : LRow f T) (hb : ∀ v ∈ T, v < 9223372036854775808) (hn : T.length ≤ 64) (hd : LRow wt ds) (hdb : ∀ v ∈ ds, v < 9223372036854775808) (hdn : ds.length ≤ 1500)
    (hD : D.length ≤ 40) (hp : posts D T ≤ 600) (hds : ds.Nodup) (hmem : ∀ w, w ∈ ds ↔ w ∈ S)
    (h1 : Room D T S → Φ (I 1)) (h0 : ¬ Room D T S → Φ (I 0)) : P_X1_hasRoomFor (I ds.length) wt (I D.length) (I T.length) (I (posts D T)) f Φ := by
  have e1 : ds.length = (nub S).length := len_of_same hds (nodup_nub S) (fun w => by rw [hmem, mem_nub])
  have e2 : (ds.filter (fun w => decide (w ∉ T))).length = (fresh T S).length := by
    unfold fresh
    refine len_of_same (hds.sublist List.filter_sublist) ((nodup_nub S).sublist List.filter_sublist) (fun w => ?_)
    simp only [List.mem_filter, hmem, mem_nub]
  have hle : (ds.filter (fun w => decide (w ∉ T))).length ≤ ds.length := List.length_filter_le _ _
  refine ⟨ds.length + 1, ?_⟩
  have := l_room (doc := I D.length) (ps := I (posts D T)) (Φ := Φ) hs hf hb hn hd hdb hdn (K := fun l2_4 => ((40 ≤ I D.length → Φ 0) ∧ (¬ 40 ≤ I D.length → ((64 < (I T.length + l2_4) → Φ 0) ∧ (¬ 64 < (I T.length + l2_4) → ((600 < (I (posts D T) + I ds.length) → Φ 0) ∧ (¬ 600 < (I (posts D T) + I ds.length) → Φ 1))))))) ?_ ds.length 0 (by omega) (by omega)
  · exact this
  · unfold Room at h1 h0
    rw [← e1, ← e2] at h1 h0
    simp (disch := omega) only [i_0, i_1, i_2, i_3, i_4, i_5, i_6, i_7, i_8, i_9, i_10, i_11, i_12, i_15, i_16, i_20, i_24, i_30, i_31, i_32, i_40, i_57, i_60, i_61, i_63, i_64, i_65, i_73, i_90, i_97, i_100, i_101, i_109, i_115, i_122, i_127, i_128, i_255, i_256, i_320, i_512, i_600, i_601, i_1100, i_1500, i_2560, i_3000, i_6650, i_12800, i_16000, i_65521, i_65536, I_of, I_le, I_lt, I_eq, I_add, I_sub, I_mul, I_cl, I_in, I_an, I_n1]
    refine ⟨fun z => h0 (by omega), fun z => ⟨fun y => h0 (by omega), fun y => ⟨fun x => h0 (by omega), fun x => h1 (by omega)⟩⟩⟩

/-- a term comes into the rows -/
def SH (n t : Nat) (tm0 : Nat → Int64) (ind0 ti0 : Nat → Int32) (tm : Nat → Int64) (ind ti : Nat → Int32) : Prop :=
  (∀ j, j < t → tm j = tm0 j ∧ ind j = ind0 j) ∧ (∀ j, t < j → j ≤ n → tm j = tm0 (j - 1) ∧ ind j = ind0 (j - 1)) ∧ (∀ j d, j < t → d < 40 → ti (j * 40 + d) = ti0 (j * 40 + d)) ∧ (∀ j d, t < j → j ≤ n → d < 40 → ti (j * 40 + d) = ti0 ((j - 1) * 40 + d))
theorem l_shift {n p : Nat} {tm0 : Nat → Int64} {ind0 ti0 : Nat → Int32} {w : Int64} {K : Int32 → (Nat → Int64) → (Nat → Int32) → (Nat → Int32) → Int32 → Int64 → Prop} {Φ : Int32 → (Nat → Int64) → (Nat → Int32) → (Nat → Int32) → Prop} (hn : n < 64) (hp : p ≤ n)
    (hK : ∀ tm ind ti, SH n p tm0 ind0 ti0 tm ind ti → K (I n) tm ind ti (I p) w) :
    ∀ k t tm ind ti, t ≤ p + k → p ≤ t → t ≤ n → SH n t tm0 ind0 ti0 tm ind ti → L_X1_insertTerm_6 (k + 1) (I n) tm ind ti (I p) w (I t) K Φ := by
  intro k
  induction k with
  | zero =>
    intro t tm ind ti h1 h2 h3 h4
    have : t = p := by omega
    subst this
    unfold L_X1_insertTerm_6
    refine ⟨fun _ => hK _ _ _ h4, fun z => absurd (Int32.le_refl _) z⟩
  | succ k ih =>
    intro t tm ind ti h1 h2 h3 h4
    unfold L_X1_insertTerm_6
    refine ⟨fun z => ?_, fun z => ?_⟩
    · have : t = p := by simp (disch := omega) only [i_0, i_1, i_2, i_3, i_4, i_5, i_6, i_7, i_8, i_9, i_10, i_11, i_12, i_15, i_16, i_20, i_24, i_30, i_31, i_32, i_40, i_57, i_60, i_61, i_63, i_64, i_65, i_73, i_90, i_97, i_100, i_101, i_109, i_115, i_122, i_127, i_128, i_255, i_256, i_320, i_512, i_600, i_601, i_1100, i_1500, i_2560, i_3000, i_6650, i_12800, i_16000, i_65521, i_65536, I_of, I_le, I_lt, I_eq, I_add, I_sub, I_mul, I_cl, I_in, I_an, I_n1] at z; omega
      subst this
      exact hK _ _ _ h4
    · simp (disch := omega) only [i_0, i_1, i_2, i_3, i_4, i_5, i_6, i_7, i_8, i_9, i_10, i_11, i_12, i_15, i_16, i_20, i_24, i_30, i_31, i_32, i_40, i_57, i_60, i_61, i_63, i_64, i_65, i_73, i_90, i_97, i_100, i_101, i_109, i_115, i_122, i_127, i_128, i_255, i_256, i_320, i_512, i_600, i_601, i_1100, i_1500, i_2560, i_3000, i_6650, i_12800, i_16000, i_65521, i_65536, I_of, I_le, I_lt, I_eq, I_add, I_sub, I_mul, I_cl, I_in, I_an, I_n1] at z
      have h5 : 1 ≤ t := by omega
      simp (disch := omega) only [i_0, i_1, i_2, i_3, i_4, i_5, i_6, i_7, i_8, i_9, i_10, i_11, i_12, i_15, i_16, i_20, i_24, i_30, i_31, i_32, i_40, i_57, i_60, i_61, i_63, i_64, i_65, i_73, i_90, i_97, i_100, i_101, i_109, i_115, i_122, i_127, i_128, i_255, i_256, i_320, i_512, i_600, i_601, i_1100, i_1500, i_2560, i_3000, i_6650, i_12800, i_16000, i_65521, i_65536, I_of, I_le, I_lt, I_eq, I_add, I_sub, I_mul, I_cl, I_in, I_an, I_n1]
      refine ⟨by omega, by omega, by omega, by omega, by omega, by omega, by omega, by omega, by omega, ih (t - 1) _ _ _ (by omega) (by omega) (by omega) ?_⟩
      obtain ⟨a1, a2, a3, a4⟩ := h4
      refine ⟨fun j hj => ?_, fun j hj hjn => ?_, fun j d hj hd => ?_, fun j d hj hjn hd => ?_⟩
      · rw [updL_ne (by omega), upd_ne (by omega)]; exact a1 j (by omega)
      · by_cases e : j = t
        · subst e; rw [updL_eq, upd_eq]; exact a1 _ (by omega)
        · rw [updL_ne e, upd_ne e]; exact a2 j (by omega) hjn
      · unfold va_cpy
        rw [if_neg (by omega)]; exact a3 j d (by omega) hd
      · unfold va_cpy
        by_cases e : j = t
        · subst e
          rw [if_pos (by omega), show (j - 1) * 40 + (j * 40 + d - j * 40) = (j - 1) * 40 + d by omega]
          exact a3 _ d (by omega) hd
        · rw [if_neg (by omega)]; exact a4 j d (by omega) hjn hd
theorem l_clear {n p : Nat} {tm : Nat → Int64} {ind ti0 : Nat → Int32} {K : Int32 → (Nat → Int64) → (Nat → Int32) → (Nat → Int32) → Prop} {Φ : Int32 → (Nat → Int64) → (Nat → Int32) → (Nat → Int32) → Prop} (hp : p < 64)
    (hK : ∀ ti, (∀ j d, j ≠ p → d < 40 → ti (j * 40 + d) = ti0 (j * 40 + d)) → (∀ d, d < 40 → ti (p * 40 + d) = I 0) → K (I n) tm ind ti) :
    ∀ k i ti, 40 ≤ i + k → i ≤ 40 → (∀ j d, j ≠ p → d < 40 → ti (j * 40 + d) = ti0 (j * 40 + d)) → (∀ d, d < i → ti (p * 40 + d) = I 0) → L_X1_insertTerm_92 (k + 1) (I n) tm ind ti (I p) (I i) K Φ := by
  intro k
  induction k with
  | zero =>
    intro i ti h1 h2 h3 h4
    unfold L_X1_insertTerm_92
    simp (disch := omega) only [i_0, i_1, i_2, i_3, i_4, i_5, i_6, i_7, i_8, i_9, i_10, i_11, i_12, i_15, i_16, i_20, i_24, i_30, i_31, i_32, i_40, i_57, i_60, i_61, i_63, i_64, i_65, i_73, i_90, i_97, i_100, i_101, i_109, i_115, i_122, i_127, i_128, i_255, i_256, i_320, i_512, i_600, i_601, i_1100, i_1500, i_2560, i_3000, i_6650, i_12800, i_16000, i_65521, i_65536, I_of, I_le, I_lt, I_eq, I_add, I_sub, I_mul, I_cl, I_in, I_an, I_n1]
    exact ⟨fun _ => hK ti h3 (fun d hd => h4 d (by omega)), fun z => by omega⟩
  | succ k ih =>
    intro i ti h1 h2 h3 h4
    unfold L_X1_insertTerm_92
    simp (disch := omega) only [i_0, i_1, i_2, i_3, i_4, i_5, i_6, i_7, i_8, i_9, i_10, i_11, i_12, i_15, i_16, i_20, i_24, i_30, i_31, i_32, i_40, i_57, i_60, i_61, i_63, i_64, i_65, i_73, i_90, i_97, i_100, i_101, i_109, i_115, i_122, i_127, i_128, i_255, i_256, i_320, i_512, i_600, i_601, i_1100, i_1500, i_2560, i_3000, i_6650, i_12800, i_16000, i_65521, i_65536, I_of, I_le, I_lt, I_eq, I_add, I_sub, I_mul, I_cl, I_in, I_an, I_n1]
    refine ⟨fun _ => hK ti h3 (fun d hd => h4 d (by omega)), fun z => ⟨by omega, ih (i + 1) _ (by omega) (by omega) (fun j d hj hd => ?_) (fun d hd => ?_)⟩⟩
    · rw [upd_ne (by omega)]; exact h3 j d hj hd
    · by_cases e : d = i
      · subst e; rw [upd_eq]
      · rw [upd_ne (by omega)]; exact h4 d (by omega)
theorem s_insert {D : List (List Nat)} {T : List Nat} {tm : Nat → Int64} {ind ti : Nat → Int32} {p w : Nat} {Φ : Int32 → (Nat → Int64) → (Nat → Int32) → (Nat → Int32) → Prop} (hct : CT D T tm ind ti) (hn : T.length < 64) (hp : p ≤ T.length) (hw : ¬ ∃ doc ∈ D, w ∈ doc)
    (h : ∀ tm' ind' ti', CT D (T.insertIdx p w) tm' ind' ti' → Φ (I (T.length + 1)) tm' ind' ti') : P_X1_insertTerm (I T.length) tm ind ti (I p) (J w) Φ := by
  obtain ⟨c1, c2, c3⟩ := hct
  refine ⟨T.length + 1, l_shift hn hp (fun tm1 ind1 ti1 hS => ?_) T.length T.length tm ind ti (by omega) hp (Nat.le_refl _) ⟨fun j hj => ⟨rfl, rfl⟩, fun j hj hjn => by omega, fun j d hj hd => rfl, fun j d hj hjn hd => by omega⟩⟩
  obtain ⟨a1, a2, a3, a4⟩ := hS
  simp (disch := omega) only [i_0, i_1, i_2, i_3, i_4, i_5, i_6, i_7, i_8, i_9, i_10, i_11, i_12, i_15, i_16, i_20, i_24, i_30, i_31, i_32, i_40, i_57, i_60, i_61, i_63, i_64, i_65, i_73, i_90, i_97, i_100, i_101, i_109, i_115, i_122, i_127, i_128, i_255, i_256, i_320, i_512, i_600, i_601, i_1100, i_1500, i_2560, i_3000, i_6650, i_12800, i_16000, i_65521, i_65536, I_of, I_le, I_lt, I_eq, I_add, I_sub, I_mul, I_cl, I_in, I_an, I_n1]
  refine ⟨by omega, by omega, 40 + 1, l_clear (by omega) (fun ti2 b1 b2 => ?_) 40 0 ti1 (by omega) (by omega) (fun j d hj hd => rfl) (fun d hd => by omega)⟩
  rw [I_add]
  refine h _ _ _ ⟨fun j hj => ?_, fun j hj => ?_, fun j hj d hd => ?_⟩
  · rw [len_ins T p w hp] at hj
    rw [getD_ins T p w j hp]
    by_cases e1 : j < p
    · rw [updL_ne (by omega), (a1 j e1).1, if_pos e1]; exact c1 j (by omega)
    · by_cases e2 : j = p
      · subst e2; rw [updL_eq, if_neg e1, if_pos rfl]
      · rw [updL_ne e2, (a2 j (by omega) (by omega)).1, if_neg e1, if_neg e2]; exact c1 _ (by omega)
  · rw [len_ins T p w hp] at hj
    rw [getD_ins T p w j hp]
    by_cases e1 : j < p
    · rw [upd_ne (by omega), (a1 j e1).2, if_pos e1]; exact c2 j (by omega)
    · by_cases e2 : j = p
      · subst e2; rw [upd_eq, if_neg e1, if_pos rfl, df_zero hw]
      · rw [upd_ne e2, (a2 j (by omega) (by omega)).2, if_neg e1, if_neg e2]; exact c2 _ (by omega)
  · rw [len_ins T p w hp] at hj
    rw [getD_ins T p w j hp]
    by_cases e1 : j < p
    · rw [b1 j d (by omega) hd, a3 j d e1 hd, if_pos e1]; exact c3 j (by omega) d hd
    · by_cases e2 : j = p
      · subst e2; rw [b2 d hd, if_neg e1, if_pos rfl, cnt_zero hw]
      · rw [b1 j d e2 hd, a4 j d (by omega) (by omega) hd, if_neg e1, if_neg e2]; exact c3 _ (by omega) d hd
/-- a document comes, word by word -/
def FD (D : List (List Nat)) (S l : List Nat) : List (List Nat) := D ++ [S.filter (fun w => decide (w ∈ l))]
theorem fcount (S l : List Nat) (u : Nat) : (S.filter (fun w => decide (w ∈ l))).count u = if u ∈ l then S.count u else 0 := by
  by_cases h : u ∈ l
  · rw [if_pos h, List.count_filter (by simp [h])]
  · rw [if_neg h, List.count_eq_zero]; simp [h]
theorem CT_step {D : List (List Nat)} {T S ds : List Nat} {tm : Nat → Int64} {ind ti : Nat → Int32} {i t : Nat} (hct : CT (FD D S (ds.take i)) T tm ind ti) (hD : D.length < 40) (hT : srt T) (hi : i < ds.length) (hds : ds.Nodup) (hS : ds.getD i 0 ∈ S) (ht : t < T.length) (e : T.getD t 0 = ds.getD i 0) :
    CT (FD D S (ds.take (i + 1))) T tm (upd ind t (ind t + I 1)) (upd ti (t * 40 + D.length) (I (S.count (ds.getD i 0)))) := by
  obtain ⟨c1, c2, c3⟩ := hct
  have hmem : ∀ u, u ∈ ds.take (i + 1) ↔ u ∈ ds.take i ∨ u = ds.getD i 0 := fun u => by
    rw [take_succ_getD hi]; simp
  have hnot : ds.getD i 0 ∉ ds.take i := fun q => by
    have hd := hds
    rw [← List.take_append_drop i ds, List.nodup_append] at hd
    exact hd.2.2 _ q _ (by rw [drop_cons hi]; exact List.mem_cons_self) rfl
  have hne : ∀ j, j < T.length → j ≠ t → T.getD j 0 ≠ ds.getD i 0 := fun j hj hjt q => hjt (getD_inj hT.nodup hj ht (q.trans e.symm))
  refine ⟨c1, fun j hj => ?_, fun j hj d hd => ?_⟩
  · by_cases ej : j = t
    · subst ej
      rw [upd_eq, c2 j hj, I_add, e]
      unfold FD
      rw [df_app, df_app]
      have h1 : ds.getD i 0 ∉ S.filter (fun w => decide (w ∈ ds.take i)) := fun q => hnot (of_decide_eq_true (List.mem_filter.mp q).2)
      have h2 : ds.getD i 0 ∈ S.filter (fun w => decide (w ∈ ds.take (i + 1))) := by simp only [List.mem_filter, decide_eq_true_eq]; exact ⟨hS, (hmem _).mpr (Or.inr rfl)⟩
      rw [if_neg h1, if_pos h2]
    · rw [upd_ne ej, c2 j hj]
      unfold FD
      rw [df_app, df_app]
      have h1 : (T.getD j 0 ∈ S.filter (fun w => decide (w ∈ ds.take i))) ↔ (T.getD j 0 ∈ S.filter (fun w => decide (w ∈ ds.take (i + 1)))) := by
        simp only [List.mem_filter, decide_eq_true_eq, hmem]
        exact ⟨fun q => ⟨q.1, Or.inl q.2⟩, fun q => ⟨q.1, q.2.elim id (fun y => absurd y (hne j hj ej))⟩⟩
      simp only [h1]
  · by_cases ej : j = t
    · subst ej
      by_cases ed : d = D.length
      · subst ed
        rw [upd_eq, e]
        unfold FD
        rw [cnt_app2, fcount, if_pos ((hmem _).mpr (Or.inr rfl))]
      · rw [upd_ne (by omega), c3 j hj d hd]
        unfold FD
        by_cases hlt : d < D.length
        · rw [cnt_app1 hlt, cnt_app1 hlt]
        · rw [cnt_over (by simp; omega), cnt_over (by simp; omega)]
    · rw [upd_ne (by omega), c3 j hj d hd]
      unfold FD
      by_cases hlt : d < D.length
      · rw [cnt_app1 hlt, cnt_app1 hlt]
      · by_cases ed : d = D.length
        · subst ed
          rw [cnt_app2, cnt_app2, fcount, fcount]
          have h1 : (T.getD j 0 ∈ ds.take i) ↔ (T.getD j 0 ∈ ds.take (i + 1)) := by
            rw [hmem]; exact ⟨Or.inl, fun q => q.elim id (fun y => absurd y (hne j hj ej))⟩
          simp only [h1]
        · rw [cnt_over (by simp; omega), cnt_over (by simp; omega)]
/-- the terms behind some words of the document -/
def TS (D : List (List Nat)) (T l T' : List Nat) : Prop := srt T' ∧ (∀ w, w ∈ T' ↔ w ∈ T ∨ w ∈ l) ∧ T'.length = T.length + (l.filter (fun w => decide (w ∉ T))).length ∧ posts D T' = posts D T
theorem l_append {D : List (List Nat)} {T S ds : List Nat} {wt : Nat → Int64} {wti len : Nat → Int32} {K : Int32 → Int32 → Int32 → Int32 → (Nat → Int64) → (Nat → Int32) → (Nat → Int32) → (Nat → Int32) → Prop} {Φ : Int32 → Int32 → Int32 → Int32 → Int32 → (Nat → Int64) → (Nat → Int32) → (Nat → Int32) → (Nat → Int32) → Prop} {tot ps la : Int32}
    (hV : VD D T) (hR : Room D T S) (hW : WOK ds S wt wti) (hdn : ds.length ≤ 1500)
    (hK : ∀ T' tm ind ti, TS D T ds T' → CT (FD D S ds) T' tm ind ti → K (I D.length) (I T'.length) ps la tm ind ti len) :
    ∀ k i T' tm ind ti, ds.length ≤ i + k → i ≤ ds.length → TS D T (ds.take i) T' → CT (FD D S (ds.take i)) T' tm ind ti →
      L_X1_append_2 (k + 1) (I ds.length) tot wt (I D.length) (I T'.length) ps la tm ind ti wti len (I i) K Φ := by
  obtain ⟨w1, w2, w3, w4, w5⟩ := hW
  obtain ⟨v1, v2, v3, v4, v5, v6, v7⟩ := hV
  have e2 : (ds.filter (fun w => decide (w ∉ T))).length = (fresh T S).length := by
    unfold fresh
    refine len_of_same (w1.sublist List.filter_sublist) ((nodup_nub S).sublist List.filter_sublist) (fun w => ?_)
    simp only [List.mem_filter, w2, mem_nub]
  have hR2 := hR.2.1
  rw [← e2] at hR2
  have hD := hR.1
  have hT64 : ∀ i T', TS D T (ds.take i) T' → T'.length ≤ 64 := fun i T' h => by
    have : ((ds.take i).filter (fun w => decide (w ∉ T))).length ≤ (ds.filter (fun w => decide (w ∉ T))).length := ((List.take_sublist i ds).filter _).length_le
    rw [h.2.2.1]; omega
  have hb : ∀ i T', TS D T (ds.take i) T' → ∀ v ∈ T', v < 9223372036854775808 := fun i T' h v hv => by
    rcases (h.2.1 v).mp hv with q | q
    · exact (v7 v q).lt
    · exact w5 v ((w2 v).mp (List.mem_of_mem_take q))
  intro k
  induction k with
  | zero =>
    intro i T' tm ind ti h1 h2 hTS hCT
    unfold L_X1_append_2
    simp (disch := omega) only [i_0, i_1, i_2, i_3, i_4, i_5, i_6, i_7, i_8, i_9, i_10, i_11, i_12, i_15, i_16, i_20, i_24, i_30, i_31, i_32, i_40, i_57, i_60, i_61, i_63, i_64, i_65, i_73, i_90, i_97, i_100, i_101, i_109, i_115, i_122, i_127, i_128, i_255, i_256, i_320, i_512, i_600, i_601, i_1100, i_1500, i_2560, i_3000, i_6650, i_12800, i_16000, i_65521, i_65536, I_of, I_le, I_lt, I_eq, I_add, I_sub, I_mul, I_cl, I_in, I_an, I_n1]
    rw [List.take_of_length_le (by omega)] at hTS hCT
    exact ⟨fun _ => hK T' tm ind ti hTS hCT, fun z => by omega⟩
  | succ k ih =>
    intro i T' tm ind ti h1 h2 hTS hCT
    unfold L_X1_append_2
    simp (disch := omega) only [i_0, i_1, i_2, i_3, i_4, i_5, i_6, i_7, i_8, i_9, i_10, i_11, i_12, i_15, i_16, i_20, i_24, i_30, i_31, i_32, i_40, i_57, i_60, i_61, i_63, i_64, i_65, i_73, i_90, i_97, i_100, i_101, i_109, i_115, i_122, i_127, i_128, i_255, i_256, i_320, i_512, i_600, i_601, i_1100, i_1500, i_2560, i_3000, i_6650, i_12800, i_16000, i_65521, i_65536, I_of, I_le, I_lt, I_eq, I_add, I_sub, I_mul, I_cl, I_in, I_an, I_n1]
    refine ⟨fun z => ?_, fun z => ⟨by omega, ?_⟩⟩
    · rw [List.take_of_length_le (by omega)] at hTS hCT
      exact hK T' tm ind ti hTS hCT
    · have hi : i < ds.length := by omega
      have hv := w5 _ ((w2 _).mp (getD_mem hi))
      have hvS : ds.getD i 0 ∈ S := (w2 _).mp (getD_mem hi)
      have h64 := hT64 i T' hTS
      have hnot : ds.getD i 0 ∉ ds.take i := fun q => by
        have hd := w1
        rw [← List.take_append_drop i ds, List.nodup_append] at hd
        exact hd.2.2 _ q _ (by rw [drop_cons hi]; exact List.mem_cons_self) rfl
      rw [w3 i hi]
      refine s_placeOf hCT.1 (hb i T' hTS) hv h64 (fun p hp q1 q2 => ⟨by omega, ?_⟩)
      refine s_hasAt hTS.1 hCT.1 (hb i T' hTS) hv h64 hp q1 q2 (fun hlt e hm => ?_) (fun hm q3 => ?_)
      · refine ⟨fun _ => ?_, fun y => by rw [I_eq (by omega) (by omega)] at y; omega⟩
        unfold J_X1_append_46
        simp (disch := omega) only [i_0, i_1, i_2, i_3, i_4, i_5, i_6, i_7, i_8, i_9, i_10, i_11, i_12, i_15, i_16, i_20, i_24, i_30, i_31, i_32, i_40, i_57, i_60, i_61, i_63, i_64, i_65, i_73, i_90, i_97, i_100, i_101, i_109, i_115, i_122, i_127, i_128, i_255, i_256, i_320, i_512, i_600, i_601, i_1100, i_1500, i_2560, i_3000, i_6650, i_12800, i_16000, i_65521, i_65536, I_of, I_le, I_lt, I_eq, I_add, I_sub, I_mul, I_cl, I_in, I_an, I_n1]
        refine ⟨by omega, by omega, by omega, by omega, ?_⟩
        rw [w4 i hi]
        refine ih (i + 1) T' _ _ _ (by omega) (by omega) ⟨hTS.1, fun w => ?_, ?_, hTS.2.2.2⟩ (CT_step hCT hD hTS.1 hi w1 hvS hlt e)
        · rw [hTS.2.1, take_succ_getD hi]
          simp only [List.mem_append, List.mem_singleton]
          constructor
          · rintro (q | q)
            · exact Or.inl q
            · exact Or.inr (Or.inl q)
          · rintro (q | q | q)
            · exact Or.inl q
            · exact Or.inr q
            · subst q; exact (hTS.2.1 _).mp hm
        · have hmT : ds.getD i 0 ∈ T := ((hTS.2.1 _).mp hm).elim id (fun q => absurd q hnot)
          rw [hTS.2.2.1, filt_step hi, if_pos hmT]; rfl
      · refine ⟨fun y => absurd rfl y, fun _ => ⟨by omega, ?_⟩⟩
        have hmT : ds.getD i 0 ∉ T := fun q => hm ((hTS.2.1 _).mpr (Or.inl q))
        have hfil : ((ds.take (i + 1)).filter (fun w => decide (w ∉ T))).length = ((ds.take i).filter (fun w => decide (w ∉ T))).length + 1 := by
          rw [filt_step hi, if_neg hmT]
        have hle : ((ds.take (i + 1)).filter (fun w => decide (w ∉ T))).length ≤ (ds.filter (fun w => decide (w ∉ T))).length := ((List.take_sublist _ ds).filter _).length_le
        have h63 : T'.length < 64 := by rw [hTS.2.2.1]; omega
        have hnoD : ¬ ∃ doc ∈ D, ds.getD i 0 ∈ doc := fun q => hmT ((v5 _).mpr q)
        have hno : ¬ ∃ doc ∈ FD D S (ds.take i), ds.getD i 0 ∈ doc := by
          rintro ⟨doc, hd, hq⟩
          unfold FD at hd
          rcases List.mem_append.mp hd with hd | hd
          · exact hnoD ⟨doc, hd, hq⟩
          · simp only [List.mem_singleton] at hd
            subst hd
            simp only [List.mem_filter, decide_eq_true_eq] at hq
            exact hnot hq.2
        refine s_insert hCT h63 hp hno (fun tm' ind' ti' hC' => ?_)
        have hs' := srt_ins hTS.1 hp q1 q3
        have hlen := len_ins T' p (ds.getD i 0) hp
        unfold J_X1_append_46
        simp (disch := omega) only [i_0, i_1, i_2, i_3, i_4, i_5, i_6, i_7, i_8, i_9, i_10, i_11, i_12, i_15, i_16, i_20, i_24, i_30, i_31, i_32, i_40, i_57, i_60, i_61, i_63, i_64, i_65, i_73, i_90, i_97, i_100, i_101, i_109, i_115, i_122, i_127, i_128, i_255, i_256, i_320, i_512, i_600, i_601, i_1100, i_1500, i_2560, i_3000, i_6650, i_12800, i_16000, i_65521, i_65536, I_of, I_le, I_lt, I_eq, I_add, I_sub, I_mul, I_cl, I_in, I_an, I_n1]
        refine ⟨by omega, by omega, by omega, by omega, ?_⟩
        rw [w4 i hi, ← hlen]
        refine ih (i + 1) _ _ _ _ (by omega) (by omega) ⟨hs', fun w => ?_, ?_, ?_⟩ (CT_step hC' hD hs' hi w1 hvS (by omega) (by rw [getD_ins _ _ _ _ hp, if_neg (Nat.lt_irrefl _), if_pos rfl]))
        · rw [mem_ins hp, hTS.2.1, take_succ_getD hi]
          simp only [List.mem_append, List.mem_singleton]
          constructor
          · rintro (q | q | q)
            · exact Or.inr (Or.inr q)
            · exact Or.inl q
            · exact Or.inr (Or.inl q)
          · rintro (q | q | q)
            · exact Or.inr (Or.inl q)
            · exact Or.inr (Or.inr q)
            · exact Or.inl q
        · rw [hlen, hTS.2.2.1, hfil]; omega
        · have hperm : (T'.insertIdx p (ds.getD i 0)).Perm (ds.getD i 0 :: T') := (List.perm_ext_iff_of_nodup hs'.nodup (List.nodup_cons.mpr ⟨hm, hTS.1.nodup⟩)).mpr (fun w => by rw [mem_ins hp, List.mem_cons])
          rw [posts_perm hperm, ← hTS.2.2.2]
          unfold posts
          rw [List.map_cons, List.sum_cons, df_zero hnoD, Nat.zero_add]
theorem s_append {D : List (List Nat)} {T S ds : List Nat} {wt tm : Nat → Int64} {wti ind ti len : Nat → Int32} {Φ : Int32 → Int32 → Int32 → Int32 → Int32 → (Nat → Int64) → (Nat → Int32) → (Nat → Int32) → (Nat → Int32) → Prop}
    (hV : VD D T) (hR : Room D T S) (hW : WOK ds S wt wti) (hS0 : S ≠ []) (hS : S.length ≤ 1500) (hSo : ∀ w ∈ S, okw w) (hC : CT D T tm ind ti) (hL : ∀ d, d < D.length → len d = I (D.getD d []).length)
    (h : ∀ T' tm' ind' ti' len', VD (D ++ [S]) T' → CT (D ++ [S]) T' tm' ind' ti' → (∀ d, d < (D ++ [S]).length → len' d = I ((D ++ [S]).getD d []).length) → Φ (I D.length) (I (D ++ [S]).length) (I T'.length) (I (posts (D ++ [S]) T')) (I (lens (D ++ [S]))) tm' ind' ti' len') :
    P_X1_append (I ds.length) (I S.length) wt (I D.length) (I T.length) (I (posts D T)) (I (lens D)) tm ind ti wti len Φ := by
  have hdn : ds.length ≤ S.length := nodup_len hW.1 (fun w hw => (hW.2.1 w).mp hw)
  have hD := hR.1
  refine ⟨ds.length + 1, ?_⟩
  have hC0 : CT (FD D S (ds.take 0)) T tm ind ti := by
    obtain ⟨c1, c2, c3⟩ := hC
    have hf : S.filter (fun w => decide (w ∈ ds.take 0)) = [] := by simp
    refine ⟨c1, fun t ht => ?_, fun t ht d hd => ?_⟩
    · rw [c2 t ht]; unfold FD; rw [df_app, hf]; simp
    · rw [c3 t ht d hd]; unfold FD
      by_cases e : d < D.length
      · rw [cnt_app1 e]
      · by_cases e2 : d = D.length
        · subst e2; rw [cnt_app2, hf, cnt_over (by omega)]; rfl
        · rw [cnt_over (by omega), cnt_over (by simp; omega)]
  have := l_append (tot := I S.length) (ps := I (posts D T)) (la := I (lens D)) (len := len) (Φ := Φ) hV hR hW (by omega) (K := fun v_documents_68 v_terms_69 v_postings_70 v_lengthOfAll_71 v_term_72 v_inDocuments_73 v_times_74 v_length_75 => vp_in v_documents_68 40 ∧ Φ ((v_documents_68 + 1) - 1) (v_documents_68 + 1) v_terms_69 (v_postings_70 + I ds.length) (v_lengthOfAll_71 + I S.length) v_term_72 v_inDocuments_73 v_times_74 (upd v_length_75 (v_documents_68 : Int32).toNatClampNeg (I S.length))) (fun T' tm' ind' ti' hTS hCT => ?_) ds.length 0 T tm ind ti (by omega) (by omega) ⟨hV.2.2.2.1, fun w => by simp, by simp, rfl⟩ hC0
  · exact this
  · have hFD : FD D S ds = D ++ [S] := by
      unfold FD
      congr 2
      exact List.filter_eq_self.mpr (fun w hw => by simp [(hW.2.1 w).mpr hw])
    rw [hFD] at hCT
    have hmem : ∀ w, w ∈ T' ↔ ∃ doc ∈ D ++ [S], w ∈ doc := fun w => by
      rw [hTS.2.1, hV.2.2.2.2.1, hW.2.1]
      simp only [List.mem_append, List.mem_singleton]
      constructor
      · rintro (⟨doc, hd, q⟩ | q)
        · exact ⟨doc, Or.inl hd, q⟩
        · exact ⟨S, Or.inr rfl, q⟩
      · rintro ⟨doc, hd | hd, q⟩
        · exact Or.inl ⟨doc, hd, q⟩
        · subst hd; exact Or.inr q
    have hflt : (T'.filter (fun w => decide (w ∈ S))).length = ds.length := by
      refine len_of_same (hTS.1.nodup.sublist List.filter_sublist) hW.1 (fun w => ?_)
      simp only [List.mem_filter, decide_eq_true_eq, hTS.2.1, hW.2.1]
      exact ⟨fun q => q.2, fun q => ⟨Or.inr q, q⟩⟩
    have hnub : ds.length = (nub S).length := len_of_same hW.1 (nodup_nub S) (fun w => by rw [hW.2.1, mem_nub])
    have hposts : posts (D ++ [S]) T' = posts D T + ds.length := by rw [posts_app, hTS.2.2.2, hflt]
    have e2 : (ds.filter (fun w => decide (w ∉ T))).length = (fresh T S).length := by
      unfold fresh
      refine len_of_same (hW.1.sublist List.filter_sublist) ((nodup_nub S).sublist List.filter_sublist) (fun w => ?_)
      simp only [List.mem_filter, hW.2.1, mem_nub]
    have hR2 := hR.2.1
    have hR3 := hR.2.2
    simp (disch := omega) only [i_0, i_1, i_2, i_3, i_4, i_5, i_6, i_7, i_8, i_9, i_10, i_11, i_12, i_15, i_16, i_20, i_24, i_30, i_31, i_32, i_40, i_57, i_60, i_61, i_63, i_64, i_65, i_73, i_90, i_97, i_100, i_101, i_109, i_115, i_122, i_127, i_128, i_255, i_256, i_320, i_512, i_600, i_601, i_1100, i_1500, i_2560, i_3000, i_6650, i_12800, i_16000, i_65521, i_65536, I_of, I_le, I_lt, I_eq, I_add, I_sub, I_mul, I_cl, I_in, I_an, I_n1]
    refine ⟨hD, ?_⟩
    have key := h T' tm' ind' ti' (upd len D.length (I S.length)) ⟨by simp; omega, by rw [hTS.2.2.1, e2]; exact hR2, by rw [hposts, hnub]; exact hR3, hTS.1, hmem, fun doc hd => ?_, fun w hw => ?_⟩ hCT (fun d hd => ?_)
    · rw [hposts, lens_app] at key
      simpa using key
    · rcases List.mem_append.mp hd with hd | hd
      · exact hV.2.2.2.2.2.1 doc hd
      · simp only [List.mem_singleton] at hd; subst hd; exact ⟨hS0, hS⟩
    · rcases (hTS.2.1 w).mp hw with q | q
      · exact hV.2.2.2.2.2.2 w q
      · exact hSo w ((hW.2.1 w).mp q)
    · by_cases e : d = D.length
      · subst e; rw [upd_eq]; simp [List.getD_eq_getElem?_getD]
      · have : d < D.length := by simp at hd; omega
        rw [upd_ne e, hL d this]; simp only [List.getD_eq_getElem?_getD, List.getElem?_append_left this]
