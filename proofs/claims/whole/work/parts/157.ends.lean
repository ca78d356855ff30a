
/-! the least and the greatest score -/
def isLo (D : List (List Nat)) (v : UInt64) : Prop := (∃ w d, d < D.length ∧ cnt D w d ≠ 0 ∧ sf D w d = v) ∧ ∀ w d, d < D.length → cnt D w d ≠ 0 → v.toNat ≤ (sf D w d).toNat
def isHi (D : List (List Nat)) (v : UInt64) : Prop := (∃ w d, d < D.length ∧ cnt D w d ≠ 0 ∧ sf D w d = v) ∧ ∀ w d, d < D.length → cnt D w d ≠ 0 → (sf D w d).toNat ≤ v.toNat
theorem isLo.uniq {D : List (List Nat)} {v v' : UInt64} (h : isLo D v) (h' : isLo D v') : v = v' := by
  obtain ⟨⟨w, d, a1, a2, a3⟩, a4⟩ := h
  obtain ⟨⟨w', d', b1, b2, b3⟩, b4⟩ := h'
  have c1 := a4 w' d' b1 b2
  have c2 := b4 w d a1 a2
  rw [b3] at c1
  rw [a3] at c2
  exact UInt64.toNat.inj (by omega)
theorem isHi.uniq {D : List (List Nat)} {v v' : UInt64} (h : isHi D v) (h' : isHi D v') : v = v' := by
  obtain ⟨⟨w, d, a1, a2, a3⟩, a4⟩ := h
  obtain ⟨⟨w', d', b1, b2, b3⟩, b4⟩ := h'
  have c1 := a4 w' d' b1 b2
  have c2 := b4 w d a1 a2
  rw [b3] at c1
  rw [a3] at c2
  exact UInt64.toNat.inj (by omega)
theorem sf_ok {D : List (List Nat)} {w d : Nat} (hD : docsOK D) (hne : ∀ doc ∈ D, doc ≠ []) (hd : d < D.length) (hc : cnt D w d ≠ 0) : scOK (sf D w d) ∧ uu (sf D w d) ≤ 12000 * FP.Core.one64 := by
  obtain ⟨-, -, -, -, -, -, -, -, -, -, a11, a12, -⟩ := sc_all (sf_V hD hne hd hc)
  exact ⟨a11, a12⟩
theorem cell_ok {D : List (List Nat)} {T : List Nat} {c : Nat} (hD : docsOK D) (hne : ∀ doc ∈ D, doc ≠ []) (h : cellP D T c) : scOK (cellV D T c) := (sf_ok hD hne h.2.1 h.2.2).1
theorem s_isPosting {D : List (List Nat)} {T : List Nat} {tm : Nat → Int64} {ind ti : Nat → Int32} {c : Nat} {Φ : Int32 → Prop} (hD : docsOK D) (hC : CT D T tm ind ti) (h64 : T.length ≤ 64) (hc : c < 40 * T.length)
    (h0 : ¬ cellP D T c → Φ (I 0)) (h1 : cellP D T c → Φ (I 1)) : P_X1_isPosting ti (I c) Φ := by
  have hcn := cnt_le hD (T.getD (c / 40) 0) (c % 40)
  have e : ti c = I (cnt D (T.getD (c / 40) 0) (c % 40)) := by
    have := hC.2.2 (c / 40) (by omega) (c % 40) (by omega)
    rwa [show c / 40 * 40 + c % 40 = c from by omega] at this
  unfold P_X1_isPosting
  simp (disch := omega) only [i_0, i_1, i_2, i_3, i_4, i_5, i_6, i_7, i_8, i_9, i_10, i_11, i_12, i_15, i_16, i_20, i_24, i_30, i_31, i_32, i_40, i_57, i_60, i_61, i_63, i_64, i_65, i_73, i_90, i_97, i_100, i_101, i_109, i_115, i_122, i_127, i_128, i_255, i_256, i_320, i_512, i_600, i_601, i_1100, i_1500, i_2560, i_3000, i_6650, i_12800, i_16000, i_65521, i_65536, I_of, I_le, I_lt, I_eq, I_add, I_sub, I_mul, I_cl, I_in, I_an, I_n1, e]
  refine ⟨by omega, fun z => h0 (fun q => q.2.2 (by omega)), fun z => h1 ⟨by omega, ?_, by omega⟩⟩
  refine Classical.byContradiction fun q => z ?_
  rw [cnt_over (by omega)]; exact Nat.le_refl _
/-- what is known of the least of the cells before i -/
def LoI (D : List (List Nat)) (T : List Nat) (i : Nat) (v : UInt64) : Prop :=
  ((∀ c, c < i → ¬ cellP D T c) ∧ v = 13830554455654793216) ∨ ((∃ c, c < i ∧ cellP D T c ∧ cellV D T c = v) ∧ ∀ c, c < i → cellP D T c → v.toNat ≤ (cellV D T c).toNat)
def HiI (D : List (List Nat)) (T : List Nat) (i : Nat) (v : UInt64) : Prop :=
  ((∀ c, c < i → ¬ cellP D T c) ∧ v = 13830554455654793216) ∨ ((∃ c, c < i ∧ cellP D T c ∧ cellV D T c = v) ∧ ∀ c, c < i → cellP D T c → (cellV D T c).toNat ≤ v.toNat)
theorem LoI.skip {D : List (List Nat)} {T : List Nat} {i : Nat} {v : UInt64} (h : LoI D T i v) (hn : ¬ cellP D T i) : LoI D T (i + 1) v := by
  have st : ∀ c, c < i + 1 → cellP D T c → c < i := fun c hc hp => by
    by_cases e : c = i
    · subst e; exact absurd hp hn
    · omega
  rcases h with ⟨a, b⟩ | ⟨⟨c, a1, a2, a3⟩, b⟩
  · exact Or.inl ⟨fun c hc hp => a c (st c hc hp) hp, b⟩
  · exact Or.inr ⟨⟨c, by omega, a2, a3⟩, fun c' hc hp => b c' (st c' hc hp) hp⟩
theorem HiI.skip {D : List (List Nat)} {T : List Nat} {i : Nat} {v : UInt64} (h : HiI D T i v) (hn : ¬ cellP D T i) : HiI D T (i + 1) v := by
  have st : ∀ c, c < i + 1 → cellP D T c → c < i := fun c hc hp => by
    by_cases e : c = i
    · subst e; exact absurd hp hn
    · omega
  rcases h with ⟨a, b⟩ | ⟨⟨c, a1, a2, a3⟩, b⟩
  · exact Or.inl ⟨fun c hc hp => a c (st c hc hp) hp, b⟩
  · exact Or.inr ⟨⟨c, by omega, a2, a3⟩, fun c' hc hp => b c' (st c' hc hp) hp⟩
theorem LoI.take {D : List (List Nat)} {T : List Nat} {i : Nat} {v : UInt64} (h : LoI D T i v) (hp : cellP D T i) (hlt : v = 13830554455654793216 ∨ (cellV D T i).toNat ≤ v.toNat) (hm : v = 13830554455654793216 → ∀ c, c < i → ¬ cellP D T c) : LoI D T (i + 1) (cellV D T i) := by
  refine Or.inr ⟨⟨i, by omega, hp, rfl⟩, fun c hc hq => ?_⟩
  by_cases e : c = i
  · subst e; exact Nat.le_refl _
  · rcases h with ⟨a, b⟩ | ⟨a, b⟩
    · exact absurd hq (a c (by omega))
    · rcases hlt with x | x
      · exact absurd hq (hm x c (by omega))
      · have := b c (by omega) hq; omega
theorem HiI.take {D : List (List Nat)} {T : List Nat} {i : Nat} {v : UInt64} (h : HiI D T i v) (hp : cellP D T i) (hlt : v = 13830554455654793216 ∨ v.toNat ≤ (cellV D T i).toNat) (hm : v = 13830554455654793216 → ∀ c, c < i → ¬ cellP D T c) : HiI D T (i + 1) (cellV D T i) := by
  refine Or.inr ⟨⟨i, by omega, hp, rfl⟩, fun c hc hq => ?_⟩
  by_cases e : c = i
  · subst e; exact Nat.le_refl _
  · rcases h with ⟨a, b⟩ | ⟨a, b⟩
    · exact absurd hq (a c (by omega))
    · rcases hlt with x | x
      · exact absurd hq (hm x c (by omega))
      · have := b c (by omega) hq; omega
theorem LoI.keep {D : List (List Nat)} {T : List Nat} {i : Nat} {v : UInt64} (h : ∃ c, c < i ∧ cellP D T c ∧ cellV D T c = v) (h2 : ∀ c, c < i → cellP D T c → v.toNat ≤ (cellV D T c).toNat) (hle : v.toNat ≤ (cellV D T i).toNat) : LoI D T (i + 1) v := by
  obtain ⟨c, a, b, e⟩ := h
  refine Or.inr ⟨⟨c, by omega, b, e⟩, fun c' hc hq => ?_⟩
  by_cases z : c' = i
  · subst z; exact hle
  · exact h2 c' (by omega) hq
theorem HiI.keep {D : List (List Nat)} {T : List Nat} {i : Nat} {v : UInt64} (h : ∃ c, c < i ∧ cellP D T c ∧ cellV D T c = v) (h2 : ∀ c, c < i → cellP D T c → (cellV D T c).toNat ≤ v.toNat) (hle : (cellV D T i).toNat ≤ v.toNat) : HiI D T (i + 1) v := by
  obtain ⟨c, a, b, e⟩ := h
  refine Or.inr ⟨⟨c, by omega, b, e⟩, fun c' hc hq => ?_⟩
  by_cases z : c' = i
  · subst z; exact hle
  · exact h2 c' (by omega) hq
theorem m1_no {D : List (List Nat)} {T : List Nat} {c : Nat} (hD : docsOK D) (hne : ∀ doc ∈ D, doc ≠ []) (h : cellP D T c) : cellV D T c ≠ 13830554455654793216 := fun z => by
  have := cell_ok hD hne h
  rw [z] at this
  unfold scOK at this
  exact absurd this (by decide)
theorem l_leastSc {D : List (List Nat)} {T : List Nat} {tm : Nat → Int64} {ind ti : Nat → Int32} {sc : Nat → UInt64} {K Φ : UInt64 → Prop} (hD : docsOK D) (hne : ∀ doc ∈ D, doc ≠ []) (hC : CT D T tm ind ti) (h64 : T.length ≤ 64) (hs : ∀ c, cellP D T c → sc c = cellV D T c)
    (hK : ∀ v, LoI D T (40 * T.length) v → K v) :
    ∀ k i v, 40 * T.length ≤ i + k → i ≤ 40 * T.length → LoI D T i v → L_X1_leastScore_6 (k + 1) (I T.length) ti sc v (I i) K Φ := by
  intro k
  induction k with
  | zero =>
    intro i v h1 h2 h3
    unfold L_X1_leastScore_6
    simp (disch := omega) only [i_0, i_1, i_2, i_3, i_4, i_5, i_6, i_7, i_8, i_9, i_10, i_11, i_12, i_15, i_16, i_20, i_24, i_30, i_31, i_32, i_40, i_57, i_60, i_61, i_63, i_64, i_65, i_73, i_90, i_97, i_100, i_101, i_109, i_115, i_122, i_127, i_128, i_255, i_256, i_320, i_512, i_600, i_601, i_1100, i_1500, i_2560, i_3000, i_6650, i_12800, i_16000, i_65521, i_65536, I_of, I_le, I_lt, I_eq, I_add, I_sub, I_mul, I_cl, I_in, I_an, I_n1]
    exact ⟨fun _ => hK v (by rwa [show i = 40 * T.length from by omega] at h3), fun z => by omega⟩
  | succ k ih =>
    intro i v h1 h2 h3
    unfold L_X1_leastScore_6
    simp (disch := omega) only [i_0, i_1, i_2, i_3, i_4, i_5, i_6, i_7, i_8, i_9, i_10, i_11, i_12, i_15, i_16, i_20, i_24, i_30, i_31, i_32, i_40, i_57, i_60, i_61, i_63, i_64, i_65, i_73, i_90, i_97, i_100, i_101, i_109, i_115, i_122, i_127, i_128, i_255, i_256, i_320, i_512, i_600, i_601, i_1100, i_1500, i_2560, i_3000, i_6650, i_12800, i_16000, i_65521, i_65536, I_of, I_le, I_lt, I_eq, I_add, I_sub, I_mul, I_cl, I_in, I_an, I_n1]
    refine ⟨fun _ => hK v (by rwa [show i = 40 * T.length from by omega] at h3), fun z => ?_⟩
    refine s_isPosting hD hC h64 (by omega) (fun q => ⟨fun _ => ih (i + 1) v (by omega) (by omega) (h3.skip q), fun y => absurd rfl y⟩) (fun q => ⟨fun y => ?_, fun _ => ?_⟩)
    · rw [I_eq (by omega) (by omega)] at y; omega
    · rw [hs i q]
      have oi := cell_ok hD hne q
      rcases id h3 with ⟨a, b⟩ | ⟨⟨c, a1, a2, a3⟩, b⟩
      · subst b
        exact ⟨fun _ => ⟨by omega, ih (i + 1) _ (by omega) (by omega) (h3.take q (Or.inl rfl) (fun _ => a))⟩, fun y => absurd cg_m1 y⟩
      · have ov : scOK v := a3 ▸ cell_ok hD hne a2
        have nm : v ≠ 13830554455654793216 := a3 ▸ m1_no hD hne a2
        refine ⟨fun y => absurd y (cg_lt0 ov), fun _ => ⟨by omega, fun y => ?_, fun y => ⟨by omega, ?_⟩⟩⟩
        · rw [← i_0, cg_ge oi ov] at y
          exact ih (i + 1) v (by omega) (by omega) (LoI.keep ⟨c, a1, a2, a3⟩ b y)
        · rw [← i_0, cg_ge oi ov] at y
          exact ih (i + 1) _ (by omega) (by omega) (h3.take q (Or.inr (by omega)) (fun e => absurd e nm))
theorem l_greatSc {D : List (List Nat)} {T : List Nat} {tm : Nat → Int64} {ind ti : Nat → Int32} {sc : Nat → UInt64} {K Φ : UInt64 → Prop} (hD : docsOK D) (hne : ∀ doc ∈ D, doc ≠ []) (hC : CT D T tm ind ti) (h64 : T.length ≤ 64) (hs : ∀ c, cellP D T c → sc c = cellV D T c)
    (hK : ∀ v, HiI D T (40 * T.length) v → K v) :
    ∀ k i v, 40 * T.length ≤ i + k → i ≤ 40 * T.length → HiI D T i v → L_X1_greatestScore_6 (k + 1) (I T.length) ti sc v (I i) K Φ := by
  intro k
  induction k with
  | zero =>
    intro i v h1 h2 h3
    unfold L_X1_greatestScore_6
    simp (disch := omega) only [i_0, i_1, i_2, i_3, i_4, i_5, i_6, i_7, i_8, i_9, i_10, i_11, i_12, i_15, i_16, i_20, i_24, i_30, i_31, i_32, i_40, i_57, i_60, i_61, i_63, i_64, i_65, i_73, i_90, i_97, i_100, i_101, i_109, i_115, i_122, i_127, i_128, i_255, i_256, i_320, i_512, i_600, i_601, i_1100, i_1500, i_2560, i_3000, i_6650, i_12800, i_16000, i_65521, i_65536, I_of, I_le, I_lt, I_eq, I_add, I_sub, I_mul, I_cl, I_in, I_an, I_n1]
    exact ⟨fun _ => hK v (by rwa [show i = 40 * T.length from by omega] at h3), fun z => by omega⟩
  | succ k ih =>
    intro i v h1 h2 h3
    unfold L_X1_greatestScore_6
    simp (disch := omega) only [i_0, i_1, i_2, i_3, i_4, i_5, i_6, i_7, i_8, i_9, i_10, i_11, i_12, i_15, i_16, i_20, i_24, i_30, i_31, i_32, i_40, i_57, i_60, i_61, i_63, i_64, i_65, i_73, i_90, i_97, i_100, i_101, i_109, i_115, i_122, i_127, i_128, i_255, i_256, i_320, i_512, i_600, i_601, i_1100, i_1500, i_2560, i_3000, i_6650, i_12800, i_16000, i_65521, i_65536, I_of, I_le, I_lt, I_eq, I_add, I_sub, I_mul, I_cl, I_in, I_an, I_n1]
    refine ⟨fun _ => hK v (by rwa [show i = 40 * T.length from by omega] at h3), fun z => ?_⟩
    refine s_isPosting hD hC h64 (by omega) (fun q => ⟨fun _ => ih (i + 1) v (by omega) (by omega) (h3.skip q), fun y => absurd rfl y⟩) (fun q => ⟨fun y => ?_, fun _ => ⟨by omega, ?_⟩⟩)
    · rw [I_eq (by omega) (by omega)] at y; omega
    · rw [hs i q]
      have oi := cell_ok hD hne q
      rcases id h3 with ⟨a, b⟩ | ⟨⟨c, a1, a2, a3⟩, b⟩
      · subst b
        exact ⟨fun y => absurd y (cl_m1 oi), fun _ => ⟨by omega, ih (i + 1) _ (by omega) (by omega) (h3.take q (Or.inl rfl) (fun _ => a))⟩⟩
      · have ov : scOK v := a3 ▸ cell_ok hD hne a2
        have nm : v ≠ 13830554455654793216 := a3 ▸ m1_no hD hne a2
        rw [← i_0, cl_le oi ov]
        exact ⟨fun y => ih (i + 1) v (by omega) (by omega) (HiI.keep ⟨c, a1, a2, a3⟩ b y), fun y => ⟨by omega, ih (i + 1) _ (by omega) (by omega) (h3.take q (Or.inr (by omega)) (fun e => absurd e nm))⟩⟩
/-- a posting has a cell -/
theorem cell_of {D : List (List Nat)} {T : List Nat} {w d : Nat} (hT : ∀ w, w ∈ T ↔ ∃ doc ∈ D, w ∈ doc) (hD : D.length ≤ 40) (hd : d < D.length) (hc : cnt D w d ≠ 0) : ∃ c, c < 40 * T.length ∧ cellP D T c ∧ cellV D T c = sf D w d := by
  have hm : w ∈ T := (hT w).mpr ⟨_, getD_memL hd, by
    unfold cnt at hc
    exact Classical.byContradiction fun z => hc (List.count_eq_zero.mpr z)⟩
  obtain ⟨t, ht, e⟩ := List.mem_iff_getElem.mp hm
  have e2 : T.getD t 0 = w := by rw [List.getD_eq_getElem?_getD, List.getElem?_eq_getElem ht, ← e]; rfl
  refine ⟨40 * t + d, by omega, ?_, ?_⟩
  · unfold cellP
    rw [show (40 * t + d) / 40 = t from by omega, show (40 * t + d) % 40 = d from by omega, e2]
    exact ⟨ht, hd, hc⟩
  · unfold cellV
    rw [show (40 * t + d) / 40 = t from by omega, show (40 * t + d) % 40 = d from by omega, e2]
theorem some_post {D : List (List Nat)} (h : D ≠ []) (hne : ∀ doc ∈ D, doc ≠ []) : ∃ w d, d < D.length ∧ cnt D w d ≠ 0 := by
  cases D with
  | nil => exact absurd rfl h
  | cons x xs =>
    have := hne x (List.mem_cons_self ..)
    cases x with
    | nil => exact absurd rfl this
    | cons w ws =>
      refine ⟨w, 0, by simp, ?_⟩
      unfold cnt
      simp
theorem LoI.lo {D : List (List Nat)} {T : List Nat} {v : UInt64} (hT : ∀ w, w ∈ T ↔ ∃ doc ∈ D, w ∈ doc) (hD : D.length ≤ 40) (h0 : D ≠ []) (hne : ∀ doc ∈ D, doc ≠ []) (h : LoI D T (40 * T.length) v) : isLo D v := by
  rcases h with ⟨a, -⟩ | ⟨⟨c, a1, a2, a3⟩, b⟩
  · obtain ⟨w, d, hd, hc⟩ := some_post h0 hne
    obtain ⟨c, c1, c2, -⟩ := cell_of hT hD hd hc
    exact absurd c2 (a c c1)
  · refine ⟨⟨_, _, a2.2.1, a2.2.2, a3⟩, fun w d hd hc => ?_⟩
    obtain ⟨c', c1, c2, c3⟩ := cell_of hT hD hd hc
    rw [← c3]; exact b c' c1 c2
theorem HiI.hi {D : List (List Nat)} {T : List Nat} {v : UInt64} (hT : ∀ w, w ∈ T ↔ ∃ doc ∈ D, w ∈ doc) (hD : D.length ≤ 40) (h0 : D ≠ []) (hne : ∀ doc ∈ D, doc ≠ []) (h : HiI D T (40 * T.length) v) : isHi D v := by
  rcases h with ⟨a, -⟩ | ⟨⟨c, a1, a2, a3⟩, b⟩
  · obtain ⟨w, d, hd, hc⟩ := some_post h0 hne
    obtain ⟨c, c1, c2, -⟩ := cell_of hT hD hd hc
    exact absurd c2 (a c c1)
  · refine ⟨⟨_, _, a2.2.1, a2.2.2, a3⟩, fun w d hd hc => ?_⟩
    obtain ⟨c', c1, c2, c3⟩ := cell_of hT hD hd hc
    rw [← c3]; exact b c' c1 c2
theorem s_leastSc {D : List (List Nat)} {T : List Nat} {tm : Nat → Int64} {ind ti : Nat → Int32} {sc : Nat → UInt64} {Φ : UInt64 → Prop} (hD : docsOK D) (h0 : D ≠ []) (hne : ∀ doc ∈ D, doc ≠ []) (hT : ∀ w, w ∈ T ↔ ∃ doc ∈ D, w ∈ doc) (hC : CT D T tm ind ti) (h64 : T.length ≤ 64) (hs : ∀ c, cellP D T c → sc c = cellV D T c)
    (h : ∀ v, isLo D v → Φ v) : P_X1_leastScore (I T.length) ti sc Φ :=
  ⟨40 * T.length + 1, l_leastSc hD hne hC h64 hs (fun v hv => h v (hv.lo hT hD.1 h0 hne)) (40 * T.length) 0 _ (by omega) (by omega) (Or.inl ⟨fun c hc => by omega, rfl⟩)⟩
theorem s_greatSc {D : List (List Nat)} {T : List Nat} {tm : Nat → Int64} {ind ti : Nat → Int32} {sc : Nat → UInt64} {Φ : UInt64 → Prop} (hD : docsOK D) (h0 : D ≠ []) (hne : ∀ doc ∈ D, doc ≠ []) (hT : ∀ w, w ∈ T ↔ ∃ doc ∈ D, w ∈ doc) (hC : CT D T tm ind ti) (h64 : T.length ≤ 64) (hs : ∀ c, cellP D T c → sc c = cellV D T c)
    (h : ∀ v, isHi D v → Φ v) : P_X1_greatestScore (I T.length) ti sc Φ :=
  ⟨40 * T.length + 1, l_greatSc hD hne hC h64 hs (fun v hv => h v (hv.hi hT hD.1 h0 hne)) (40 * T.length) 0 _ (by omega) (by omega) (Or.inl ⟨fun c hc => by omega, rfl⟩)⟩
