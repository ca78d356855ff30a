
/-! scores of a collection -/
def sf (D : List (List Nat)) (w d : Nat) : UInt64 := scF D.length (lens D) (cnt D w d) (df D w) (D.getD d []).length
theorem lens_ge {D : List (List Nat)} (h : ∀ doc ∈ D, doc ≠ []) : D.length ≤ lens D := by
  unfold lens
  induction D with
  | nil => exact Nat.le_refl _
  | cons x xs ih =>
    have a := ih (fun doc hd => h doc (List.mem_cons_of_mem _ hd))
    have b := h x (List.mem_cons_self ..)
    have c : 1 ≤ x.length := List.length_pos_iff.mpr b
    simp only [List.map_cons, List.sum_cons, List.length_cons]
    omega
theorem sf_V {D : List (List Nat)} {w d : Nat} (hD : docsOK D) (hne : ∀ doc ∈ D, doc ≠ []) (hd : d < D.length) (hc : cnt D w d ≠ 0) : scV D.length (lens D) (cnt D w d) (df D w) (D.getD d []).length := by
  have h1 := lens_ge hne
  have h2 := lens_le hD
  have h3 := cnt_le hD w d
  have h4 := df_le D w
  have h5 := (hD.2 _ (getD_memL hd)).1
  have h6 : 0 < df D w := df_pos ⟨_, getD_memL hd, by
    unfold cnt at hc
    exact Classical.byContradiction fun z => hc (List.count_eq_zero.mpr z)⟩
  exact ⟨by omega, hD.1, h6, h4, h1, h2, by omega, h3, h5⟩
theorem s_scoreOf {D : List (List Nat)} {T : List Nat} {tm : Nat → Int64} {ind ti len : Nat → Int32} {t d : Nat} {Φ : UInt64 → Prop} (hD : docsOK D) (hne : ∀ doc ∈ D, doc ≠ []) (hC : CT D T tm ind ti) (hL : LN D len) (h64 : T.length ≤ 64) (ht : t < T.length) (hd : d < D.length)
    (h : Φ (if cnt D (T.getD t 0) d = 0 then FP.dconst0 else sf D (T.getD t 0) d)) : P_X1_scoreOf (I D.length) (I (lens D)) ti ind len (I t) (I d) Φ := by
  have h40 := hD.1
  have hdf := df_le D (T.getD t 0)
  have hcn := cnt_le hD (T.getD t 0) d
  have hle := lens_le hD
  unfold P_X1_scoreOf
  simp (disch := omega) only [i_0, i_1, i_2, i_3, i_4, i_5, i_6, i_7, i_8, i_9, i_10, i_11, i_12, i_15, i_16, i_20, i_24, i_30, i_31, i_32, i_40, i_57, i_60, i_61, i_63, i_64, i_65, i_73, i_90, i_97, i_100, i_101, i_109, i_115, i_122, i_127, i_128, i_255, i_256, i_320, i_512, i_600, i_601, i_1100, i_1500, i_2560, i_3000, i_6650, i_12800, i_16000, i_65521, i_65536, I_of, I_le, I_lt, I_eq, I_add, I_sub, I_mul, I_cl, I_in, I_an, I_n1, hC.2.1 t ht, hC.2.2 t ht d (by omega), hL d hd]
  refine ⟨by omega, fun z => by rw [if_pos z] at h; exact h, fun z => ⟨by omega, fun y => ?_, fun y => ⟨fun x => by omega, fun x => ⟨fun u => ?_, fun u => ?_⟩⟩⟩⟩
  · exact absurd (sf_V hD hne hd z).2.2.1 (by omega)
  · rw [if_neg z] at h
    obtain ⟨a1, a2, a3, a4, a5, a6, a7, a8, a9, a10, a11, -, a12⟩ := sc_all (sf_V hD hne hd z)
    exact ⟨a1, a2, by omega, a3, a4, a5, a6, a7, a8, by omega, a9, s_log a12 ⟨a10, h⟩⟩
  · have := (sf_V hD hne hd z).2.2.2.2.1; omega
theorem r_scoreOf {D : List (List Nat)} {R : List Nat} {tm of len : Nat → Int32} {t d : Nat} {Φ : UInt64 → Prop} (hD : docsOK D) (hne : ∀ doc ∈ D, doc ≠ []) (hR : RT D R tm of) (hL : LN D len) (ht : t < 64) (hd : d < D.length)
    (hc : cnt D (R.getD t 0) d ≠ 0) (h : Φ (sf D (R.getD t 0) d)) : P_X9_scoreOf (I D.length) len of (I t) (I d) Φ := by
  have h40 := hD.1
  have hdf := df_le D (R.getD t 0)
  have hcn := cnt_le hD (R.getD t 0) d
  unfold P_X9_scoreOf
  refine r_lens hD hL ?_
  simp (disch := omega) only [i_0, i_1, i_2, i_3, i_4, i_5, i_6, i_7, i_8, i_9, i_10, i_11, i_12, i_15, i_16, i_20, i_24, i_30, i_31, i_32, i_40, i_57, i_60, i_61, i_63, i_64, i_65, i_73, i_90, i_97, i_100, i_101, i_109, i_115, i_122, i_127, i_128, i_255, i_256, i_320, i_512, i_600, i_601, i_1100, i_1500, i_2560, i_3000, i_6650, i_12800, i_16000, i_65521, i_65536, I_of, I_le, I_lt, I_eq, I_add, I_sub, I_mul, I_cl, I_in, I_an, I_n1, hR.2 t ht d hd, hL d hd]
  obtain ⟨a1, a2, a3, a4, a5, a6, a7, a8, a9, a10, a11, -, a12⟩ := sc_all (sf_V hD hne hd hc)
  exact ⟨a1, by omega, r_freq hD ht (hR.2 t ht) ⟨a9, r_ln a12 ⟨a2, by omega, a3, a4, a5, a6, a7, a8, a10, h⟩⟩⟩
/-! the least and the greatest -/
/-- what stands at a cell of the table -/
def cellP (D : List (List Nat)) (T : List Nat) (c : Nat) : Prop := c / 40 < T.length ∧ c % 40 < D.length ∧ cnt D (T.getD (c / 40) 0) (c % 40) ≠ 0
def cellV (D : List (List Nat)) (T : List Nat) (c : Nat) : UInt64 := sf D (T.getD (c / 40) 0) (c % 40)
theorem l_all1 {D : List (List Nat)} {T : List Nat} {tm : Nat → Int64} {ind ti len : Nat → Int32} {t : Nat} {K : (Nat → UInt64) → Int32 → Prop} {Φ : (Nat → UInt64) → Prop} (hD : docsOK D) (hne : ∀ doc ∈ D, doc ≠ []) (hC : CT D T tm ind ti) (hL : LN D len) (h64 : T.length ≤ 64) (ht : t < T.length)
    (hK : ∀ sc, (∀ c, c < 40 * t + 40 → cellP D T c → sc c = cellV D T c) → K sc (I t)) :
    ∀ k i sc, D.length ≤ i + k → i ≤ D.length → (∀ c, c < 40 * t + i → cellP D T c → sc c = cellV D T c) → L_X1_scoreAll_12 (k + 1) (I D.length) (I T.length) (I (lens D)) ti ind len sc (I t) (I i) K Φ := by
  have h40 := hD.1
  have fin : ∀ i sc, D.length ≤ i → (∀ c, c < 40 * t + i → cellP D T c → sc c = cellV D T c) → K sc (I t) := fun i sc hi hs => hK sc (fun c hc hp => hs c (by have := hp.2.1; omega) hp)
  intro k
  induction k with
  | zero =>
    intro i sc h1 h2 h3
    unfold L_X1_scoreAll_12
    simp (disch := omega) only [i_0, i_1, i_2, i_3, i_4, i_5, i_6, i_7, i_8, i_9, i_10, i_11, i_12, i_15, i_16, i_20, i_24, i_30, i_31, i_32, i_40, i_57, i_60, i_61, i_63, i_64, i_65, i_73, i_90, i_97, i_100, i_101, i_109, i_115, i_122, i_127, i_128, i_255, i_256, i_320, i_512, i_600, i_601, i_1100, i_1500, i_2560, i_3000, i_6650, i_12800, i_16000, i_65521, i_65536, I_of, I_le, I_lt, I_eq, I_add, I_sub, I_mul, I_cl, I_in, I_an, I_n1]
    exact ⟨fun z => fin i sc z h3, fun z => by omega⟩
  | succ k ih =>
    intro i sc h1 h2 h3
    unfold L_X1_scoreAll_12
    simp (disch := omega) only [i_0, i_1, i_2, i_3, i_4, i_5, i_6, i_7, i_8, i_9, i_10, i_11, i_12, i_15, i_16, i_20, i_24, i_30, i_31, i_32, i_40, i_57, i_60, i_61, i_63, i_64, i_65, i_73, i_90, i_97, i_100, i_101, i_109, i_115, i_122, i_127, i_128, i_255, i_256, i_320, i_512, i_600, i_601, i_1100, i_1500, i_2560, i_3000, i_6650, i_12800, i_16000, i_65521, i_65536, I_of, I_le, I_lt, I_eq, I_add, I_sub, I_mul, I_cl, I_in, I_an, I_n1]
    refine ⟨fun z => fin i sc z h3, fun z => s_scoreOf hD hne hC hL h64 ht (by omega) ⟨by omega, ?_⟩⟩
    refine ih (i + 1) _ (by omega) (by omega) (fun c hc hp => ?_)
    by_cases e : c = t * 40 + i
    · subst e
      have e1 : (t * 40 + i) / 40 = t := by omega
      have e2 : (t * 40 + i) % 40 = i := by omega
      unfold vf_upd
      rw [if_pos rfl]
      unfold cellV
      have := hp.2.2
      rw [e1, e2] at this ⊢
      rw [if_neg this]
    · unfold vf_upd
      rw [if_neg e]
      exact h3 c (by omega) hp
theorem l_all2 {D : List (List Nat)} {T : List Nat} {tm : Nat → Int64} {ind ti len : Nat → Int32} {K Φ : (Nat → UInt64) → Prop} (hD : docsOK D) (hne : ∀ doc ∈ D, doc ≠ []) (hC : CT D T tm ind ti) (hL : LN D len) (h64 : T.length ≤ 64)
    (hK : ∀ sc, (∀ c, cellP D T c → sc c = cellV D T c) → K sc) :
    ∀ k i sc, T.length ≤ i + k → i ≤ T.length → (∀ c, c < 40 * i → cellP D T c → sc c = cellV D T c) → L_X1_scoreAll_2 (k + 1) (I D.length) (I T.length) (I (lens D)) ti ind len sc (I i) K Φ := by
  intro k
  induction k with
  | zero =>
    intro i sc h1 h2 h3
    unfold L_X1_scoreAll_2
    simp (disch := omega) only [i_0, i_1, i_2, i_3, i_4, i_5, i_6, i_7, i_8, i_9, i_10, i_11, i_12, i_15, i_16, i_20, i_24, i_30, i_31, i_32, i_40, i_57, i_60, i_61, i_63, i_64, i_65, i_73, i_90, i_97, i_100, i_101, i_109, i_115, i_122, i_127, i_128, i_255, i_256, i_320, i_512, i_600, i_601, i_1100, i_1500, i_2560, i_3000, i_6650, i_12800, i_16000, i_65521, i_65536, I_of, I_le, I_lt, I_eq, I_add, I_sub, I_mul, I_cl, I_in, I_an, I_n1]
    exact ⟨fun _ => hK sc (fun c hp => h3 c (by have := hp.1; omega) hp), fun z => by omega⟩
  | succ k ih =>
    intro i sc h1 h2 h3
    unfold L_X1_scoreAll_2
    simp (disch := omega) only [i_0, i_1, i_2, i_3, i_4, i_5, i_6, i_7, i_8, i_9, i_10, i_11, i_12, i_15, i_16, i_20, i_24, i_30, i_31, i_32, i_40, i_57, i_60, i_61, i_63, i_64, i_65, i_73, i_90, i_97, i_100, i_101, i_109, i_115, i_122, i_127, i_128, i_255, i_256, i_320, i_512, i_600, i_601, i_1100, i_1500, i_2560, i_3000, i_6650, i_12800, i_16000, i_65521, i_65536, I_of, I_le, I_lt, I_eq, I_add, I_sub, I_mul, I_cl, I_in, I_an, I_n1]
    refine ⟨fun _ => hK sc (fun c hp => h3 c (by have := hp.1; omega) hp), fun z => ⟨D.length + 1, ?_⟩⟩
    refine l_all1 hD hne hC hL h64 (by omega) (fun sc' h' => ?_) D.length 0 sc (by omega) (by omega) (fun c hc hp => h3 c (by omega) hp)
    rw [I_add]
    exact ih (i + 1) sc' (by omega) (by omega) (fun c hc hp => h' c (by omega) hp)
theorem s_all {D : List (List Nat)} {T : List Nat} {tm : Nat → Int64} {ind ti len : Nat → Int32} {sc : Nat → UInt64} {Φ : (Nat → UInt64) → Prop} (hD : docsOK D) (hne : ∀ doc ∈ D, doc ≠ []) (hC : CT D T tm ind ti) (hL : LN D len) (h64 : T.length ≤ 64)
    (h : ∀ sc, (∀ c, cellP D T c → sc c = cellV D T c) → Φ sc) : P_X1_scoreAll (I D.length) (I T.length) (I (lens D)) ti ind len sc Φ :=
  ⟨T.length + 1, l_all2 hD hne hC hL h64 h T.length 0 sc (by omega) (by omega) (fun c hc _ => by omega)⟩
