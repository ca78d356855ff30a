
/-! the reference's words -/
def WR (f : Nat → Int32) (W : Nat) : Prop := ∀ k, k < 8 → f k = I (lw W k)
/-- rows of words, eight letters each, from a place on -/
def TW (f : Nat → Int32) (o : Nat) (l : List Nat) : Prop := ∀ i, i < l.length → ∀ k, k < 8 → f (o + 8 * i + k) = I (lw (l.getD i 0) k)
theorem r_small {b : Nat} {Φ : Int32 → Prop} (hb : b < 256) (h : Φ (I (sm b))) : P_X9_small (I b) Φ := by
  unfold P_X9_small J_X9_small_14
  unfold sm at h
  simp (disch := omega) only [i_0, i_1, i_2, i_3, i_4, i_5, i_6, i_7, i_8, i_9, i_10, i_11, i_12, i_15, i_16, i_20, i_24, i_30, i_31, i_32, i_40, i_57, i_60, i_61, i_63, i_64, i_65, i_73, i_90, i_97, i_100, i_101, i_109, i_115, i_122, i_127, i_128, i_255, i_256, i_320, i_512, i_600, i_601, i_1100, i_1500, i_2560, i_3000, i_6650, i_12800, i_16000, i_65521, i_65536, I_of, I_le, I_lt, I_eq, I_add, I_sub, I_mul, I_cl, I_in, I_an, I_n1]
  by_cases h1 : 97 ≤ b ∧ b ≤ 122
  · simp only [h1, and_self, if_true] at h
    exact ⟨fun q => by omega, fun q => ⟨fun z => by omega, fun _ => h⟩⟩
  · by_cases h2 : 65 ≤ b ∧ b ≤ 90
    · simp only [h1, h2, and_self, if_true, if_false] at h
      exact ⟨fun q => ⟨fun z => by omega, fun z => ⟨fun y => by omega, fun _ => h⟩⟩, fun q => ⟨fun z => by omega, fun z => by omega⟩⟩
    · simp only [h1, h2, if_false] at h
      exact ⟨fun q => ⟨fun _ => h, fun z => ⟨fun _ => h, fun y => by omega⟩⟩, fun q => ⟨fun _ => ⟨fun _ => h, fun y => ⟨fun _ => h, fun x => by omega⟩⟩, fun z => by omega⟩⟩
theorem I_lt0 {a b : Nat} (h : a < b) (hb : b < 1073741824) : I a - I b < I 0 := by
  rw [Int32.lt_iff_toInt_lt, Int32.toInt_sub, I_toInt (by omega), I_toInt (by omega), I_toInt (by omega)]
  rw [Int.bmod_eq_of_le (by omega) (by omega)]
  omega
theorem l_skip {bs : List Nat} {tape word : Nat → Int32} {K : Int32 → (Nat → Int32) → Int32 → Prop} {Φ : Int32 → Int32 → (Nat → Int32) → Prop} {R : List (List Nat)} (hb : Row tape bs) (hy : byt bs) (hn : bs.length ≤ 3000)
    (hK : ∀ i, i ≤ bs.length → toks [] (bs.drop i) = R → (i < bs.length → sm (bs.getD i 0) ≠ 0) → K (I i) word (I bs.length)) :
    ∀ k i, bs.length ≤ i + k → i ≤ bs.length → toks [] (bs.drop i) = R → L_X9_takesWord_0 (k + 1) (I i) tape word (I bs.length) K Φ := by
  intro k
  induction k with
  | zero =>
    intro i h1 h2 h3
    unfold L_X9_takesWord_0
    simp (disch := omega) only [i_0, i_1, i_2, i_3, i_4, i_5, i_6, i_7, i_8, i_9, i_10, i_11, i_12, i_15, i_16, i_20, i_24, i_30, i_31, i_32, i_40, i_57, i_60, i_61, i_63, i_64, i_65, i_73, i_90, i_97, i_100, i_101, i_109, i_115, i_122, i_127, i_128, i_255, i_256, i_320, i_512, i_600, i_601, i_1100, i_1500, i_2560, i_3000, i_6650, i_12800, i_16000, i_65521, i_65536, I_of, I_le, I_lt, I_eq, I_add, I_sub, I_mul, I_cl, I_in, I_an, I_n1]
    exact ⟨fun _ => hK i h2 h3 (fun z => by omega), fun z => by omega⟩
  | succ k ih =>
    intro i h1 h2 h3
    unfold L_X9_takesWord_0
    simp (disch := omega) only [i_0, i_1, i_2, i_3, i_4, i_5, i_6, i_7, i_8, i_9, i_10, i_11, i_12, i_15, i_16, i_20, i_24, i_30, i_31, i_32, i_40, i_57, i_60, i_61, i_63, i_64, i_65, i_73, i_90, i_97, i_100, i_101, i_109, i_115, i_122, i_127, i_128, i_255, i_256, i_320, i_512, i_600, i_601, i_1100, i_1500, i_2560, i_3000, i_6650, i_12800, i_16000, i_65521, i_65536, I_of, I_le, I_lt, I_eq, I_add, I_sub, I_mul, I_cl, I_in, I_an, I_n1]
    refine ⟨fun _ => hK i h2 h3 (fun z => by omega), fun z => ⟨by omega, ?_⟩⟩
    rw [hb i (by omega)]
    have hs := hy.get i
    have hsl : sm (bs.getD i 0) < 256 := by unfold sm; split <;> (try split) <;> omega
    refine r_small hs ?_
    simp (disch := omega) only [i_0, i_1, i_2, i_3, i_4, i_5, i_6, i_7, i_8, i_9, i_10, i_11, i_12, i_15, i_16, i_20, i_24, i_30, i_31, i_32, i_40, i_57, i_60, i_61, i_63, i_64, i_65, i_73, i_90, i_97, i_100, i_101, i_109, i_115, i_122, i_127, i_128, i_255, i_256, i_320, i_512, i_600, i_601, i_1100, i_1500, i_2560, i_3000, i_6650, i_12800, i_16000, i_65521, i_65536, I_of, I_le, I_lt, I_eq, I_add, I_sub, I_mul, I_cl, I_in, I_an, I_n1]
    refine ⟨fun q => hK i h2 h3 (fun _ => q), fun q => ih (i + 1) (by omega) (by omega) ?_⟩
    rw [drop_cons (by omega), toks, if_pos q, if_pos rfl] at h3
    exact h3
theorem l_zero {tape : Nat → Int32} {i e c : Int32} {K : Int32 → (Nat → Int32) → Int32 → Int32 → Prop} {Φ : Int32 → Int32 → (Nat → Int32) → Prop}
    (hK : ∀ w', (∀ k, k < 8 → w' k = I 0) → K i w' e c) :
    ∀ k j w, 8 ≤ j + k → j ≤ 8 → (∀ k, k < j → w k = I 0) → L_X9_takesWord_50 (k + 1) i tape w e c (I j) K Φ := by
  intro k
  induction k with
  | zero =>
    intro j w h1 h2 h3
    unfold L_X9_takesWord_50
    simp (disch := omega) only [i_0, i_1, i_2, i_3, i_4, i_5, i_6, i_7, i_8, i_9, i_10, i_11, i_12, i_15, i_16, i_20, i_24, i_30, i_31, i_32, i_40, i_57, i_60, i_61, i_63, i_64, i_65, i_73, i_90, i_97, i_100, i_101, i_109, i_115, i_122, i_127, i_128, i_255, i_256, i_320, i_512, i_600, i_601, i_1100, i_1500, i_2560, i_3000, i_6650, i_12800, i_16000, i_65521, i_65536, I_of, I_le, I_lt, I_eq, I_add, I_sub, I_mul, I_cl, I_in, I_an, I_n1]
    exact ⟨fun _ => hK w (fun k hk => h3 k (by omega)), fun z => by omega⟩
  | succ k ih =>
    intro j w h1 h2 h3
    unfold L_X9_takesWord_50
    simp (disch := omega) only [i_0, i_1, i_2, i_3, i_4, i_5, i_6, i_7, i_8, i_9, i_10, i_11, i_12, i_15, i_16, i_20, i_24, i_30, i_31, i_32, i_40, i_57, i_60, i_61, i_63, i_64, i_65, i_73, i_90, i_97, i_100, i_101, i_109, i_115, i_122, i_127, i_128, i_255, i_256, i_320, i_512, i_600, i_601, i_1100, i_1500, i_2560, i_3000, i_6650, i_12800, i_16000, i_65521, i_65536, I_of, I_le, I_lt, I_eq, I_add, I_sub, I_mul, I_cl, I_in, I_an, I_n1]
    refine ⟨fun _ => hK w (fun k hk => h3 k (by omega)), fun z => ⟨by omega, ih (j + 1) _ (by omega) (by omega) (fun m hm => ?_)⟩⟩
    by_cases e : m = j
    · subst e; rw [upd_eq]
    · rw [upd_ne e, h3 m (by omega)]
theorem l_coll {bs : List Nat} {tape : Nat → Int32} {K : Int32 → (Nat → Int32) → Int32 → Prop} {Φ : Int32 → Int32 → (Nat → Int32) → Prop} {r0 : List Nat} {R : List (List Nat)} (hb : Row tape bs) (hy : byt bs) (hn : bs.length ≤ 3000)
    (hK : ∀ i w, i ≤ bs.length → toks [] (bs.drop i) = R → (∀ k, k < 8 → w k = I ((r0.take 8).getD k 0)) → r0.length ≤ 3000 → K (I i) w (I r0.length)) :
    ∀ k i cur w, bs.length ≤ i + k → i ≤ bs.length → cur ≠ [] ∨ (i < bs.length ∧ sm (bs.getD i 0) ≠ 0) → cur.length ≤ i → toks cur (bs.drop i) = r0 :: R → (∀ k, k < 8 → w k = I ((cur.take 8).getD k 0)) → L_X9_takesWord_69 (k + 1) (I i) tape w (I bs.length) (I cur.length) K Φ := by
  intro k
  induction k with
  | zero =>
    intro i cur w h1 h2 h0 hc h3 h4
    unfold L_X9_takesWord_69
    simp (disch := omega) only [i_0, i_1, i_2, i_3, i_4, i_5, i_6, i_7, i_8, i_9, i_10, i_11, i_12, i_15, i_16, i_20, i_24, i_30, i_31, i_32, i_40, i_57, i_60, i_61, i_63, i_64, i_65, i_73, i_90, i_97, i_100, i_101, i_109, i_115, i_122, i_127, i_128, i_255, i_256, i_320, i_512, i_600, i_601, i_1100, i_1500, i_2560, i_3000, i_6650, i_12800, i_16000, i_65521, i_65536, I_of, I_le, I_lt, I_eq, I_add, I_sub, I_mul, I_cl, I_in, I_an, I_n1]
    have hi : i = bs.length := by omega
    have hcur : cur ≠ [] := h0.elim id (fun z => by omega)
    rw [List.drop_of_length_le (by omega)] at h3
    simp [toks, hcur] at h3
    obtain ⟨rfl, rfl⟩ := h3
    refine ⟨fun _ => hK i w h2 ?_ h4 (by omega), fun z => by omega⟩
    rw [List.drop_of_length_le (by omega)]; rfl
  | succ k ih =>
    intro i cur w h1 h2 h0 hc h3 h4
    unfold L_X9_takesWord_69
    simp (disch := omega) only [i_0, i_1, i_2, i_3, i_4, i_5, i_6, i_7, i_8, i_9, i_10, i_11, i_12, i_15, i_16, i_20, i_24, i_30, i_31, i_32, i_40, i_57, i_60, i_61, i_63, i_64, i_65, i_73, i_90, i_97, i_100, i_101, i_109, i_115, i_122, i_127, i_128, i_255, i_256, i_320, i_512, i_600, i_601, i_1100, i_1500, i_2560, i_3000, i_6650, i_12800, i_16000, i_65521, i_65536, I_of, I_le, I_lt, I_eq, I_add, I_sub, I_mul, I_cl, I_in, I_an, I_n1]
    refine ⟨fun z => ?_, fun z => ⟨by omega, ?_⟩⟩
    · have hcur : cur ≠ [] := h0.elim id (fun y => by omega)
      rw [List.drop_of_length_le (by omega)] at h3
      simp [toks, hcur] at h3
      obtain ⟨rfl, rfl⟩ := h3
      refine hK i w h2 ?_ h4 (by omega)
      rw [List.drop_of_length_le (by omega)]; rfl
    · rw [hb i (by omega)]
      have hs := hy.get i
      have hsl : sm (bs.getD i 0) < 256 := by unfold sm; split <;> (try split) <;> omega
      refine r_small hs ?_
      simp (disch := omega) only [i_0, i_1, i_2, i_3, i_4, i_5, i_6, i_7, i_8, i_9, i_10, i_11, i_12, i_15, i_16, i_20, i_24, i_30, i_31, i_32, i_40, i_57, i_60, i_61, i_63, i_64, i_65, i_73, i_90, i_97, i_100, i_101, i_109, i_115, i_122, i_127, i_128, i_255, i_256, i_320, i_512, i_600, i_601, i_1100, i_1500, i_2560, i_3000, i_6650, i_12800, i_16000, i_65521, i_65536, I_of, I_le, I_lt, I_eq, I_add, I_sub, I_mul, I_cl, I_in, I_an, I_n1]
      refine ⟨fun q => ?_, fun q => ⟨fun y => ?_, fun y => ⟨by omega, ?_⟩⟩⟩
      · have hcur : cur ≠ [] := h0.elim id (fun y => absurd q y.2)
        have h3' := h3
        rw [drop_cons (by omega), toks, if_pos q, if_neg hcur, List.cons.injEq] at h3
        obtain ⟨rfl, h3⟩ := h3
        refine hK i w h2 ?_ h4 (by omega)
        rw [drop_cons (by omega), toks, if_pos q, if_pos rfl, h3]
      · have e1 : (cur ++ [sm (bs.getD i 0)]).take 8 = cur.take 8 := by rw [List.take_append_of_le_length (by omega)]
        have key := ih (i + 1) (cur ++ [sm (bs.getD i 0)]) w (by omega) (by omega) (Or.inl (by simp)) (by simp; omega) (by
          rw [drop_cons (by omega), toks, if_neg q] at h3
          exact h3) (by rw [e1]; exact h4)
        simpa using key
      · refine r_small hs ?_
        refine ⟨by omega, ?_⟩
        have e0 : cur.take 8 = cur := List.take_of_length_le (by omega)
        have e1 : (cur ++ [sm (bs.getD i 0)]).take 8 = cur ++ [sm (bs.getD i 0)] := List.take_of_length_le (by simp; omega)
        have key := ih (i + 1) (cur ++ [sm (bs.getD i 0)]) (upd w cur.length (I (sm (bs.getD i 0)))) (by omega) (by omega) (Or.inl (by simp)) (by simp; omega) (by
          rw [drop_cons (by omega), toks, if_neg q] at h3
          exact h3) (by
          rw [e1]; rw [e0] at h4
          intro m hm
          by_cases e : m = cur.length
          · subst e; rw [upd_eq, getD_last]
          · rw [upd_ne e, h4 m hm]
            by_cases hlt : m < cur.length
            · rw [getD_app1 hlt]
            · rw [getD_over (by omega), getD_over (by simp; omega)])
        simpa using key
theorem r_takesWord {bs : List Nat} {tape word : Nat → Int32} {i : Nat} {Φ : Int32 → Int32 → (Nat → Int32) → Prop} (hb : Row tape bs) (hy : byt bs) (hn : bs.length ≤ 3000) (hi : i ≤ bs.length)
    (h0 : toks [] (bs.drop i) = [] → Φ (I 0) (I bs.length) word)
    (h1 : ∀ r R i' w', toks [] (bs.drop i) = r :: R → i' ≤ bs.length → toks [] (bs.drop i') = R → WR w' (stem r) → Φ (I 1) (I i') w') : P_X9_takesWord (I i) tape word (I bs.length) Φ := by
  refine ⟨bs.length + 1, l_skip (R := toks [] (bs.drop i)) hb hy hn (fun j hj e hs => ?_) bs.length i (by omega) hi rfl⟩
  unfold J_X9_takesWord_36
  simp (disch := omega) only [i_0, i_1, i_2, i_3, i_4, i_5, i_6, i_7, i_8, i_9, i_10, i_11, i_12, i_15, i_16, i_20, i_24, i_30, i_31, i_32, i_40, i_57, i_60, i_61, i_63, i_64, i_65, i_73, i_90, i_97, i_100, i_101, i_109, i_115, i_122, i_127, i_128, i_255, i_256, i_320, i_512, i_600, i_601, i_1100, i_1500, i_2560, i_3000, i_6650, i_12800, i_16000, i_65521, i_65536, I_of, I_le, I_lt, I_eq, I_add, I_sub, I_mul, I_cl, I_in, I_an, I_n1]
  refine ⟨fun hne => ?_, fun q => ?_⟩
  · have hlt : j < bs.length := by omega
    have hsn := hs hlt
    have hcons : ∃ r R, toks [] (bs.drop j) = r :: R := by
      have : ∀ (l : List Nat) (cur : List Nat), cur ≠ [] → ∃ r R, toks cur l = r :: R := by
        intro l
        induction l with
        | nil => intro cur hc; exact ⟨cur, [], by simp [toks, hc]⟩
        | cons b l ih =>
          intro cur hc
          by_cases hz : sm b = 0
          · exact ⟨cur, toks [] l, by simp [toks, hz, hc]⟩
          · obtain ⟨r, R, h⟩ := ih (cur ++ [sm b]) (by simp)
            exact ⟨r, R, by simpa [toks, hz] using h⟩
      rw [drop_cons hlt]
      obtain ⟨r, R, h⟩ := this (bs.drop (j + 1)) ([] ++ [sm (bs.getD j 0)]) (by simp)
      exact ⟨r, R, by rw [toks, if_neg hsn]; exact h⟩
    obtain ⟨r, R, hrR⟩ := hcons
    refine ⟨8 + 1, l_zero (fun w hw => ?_) 8 0 word (by omega) (by omega) (fun k hk => by omega)⟩
    have hl : ltr r := (toks_ltr (bs.drop j) [] (fun x hx => by cases hx) r (by rw [hrR]; simp)).2
    have hr0 : r ≠ [] := (toks_ltr (bs.drop j) [] (fun x hx => by cases hx) r (by rw [hrR]; simp)).1
    refine ⟨bs.length + 1, l_coll (r0 := r) (R := R) hb hy hn (fun i' w' hi' eR hw' hrl => ?_) bs.length j [] w (by omega) (by omega) (Or.inr ⟨hlt, hsn⟩) (by simp) hrR (by simpa using hw)⟩
    have fin : ∀ w'', WR w'' (stem r) → Φ (I 1) (I i') w'' := fun w'' hW => h1 r R i' w'' (e ▸ hrR) hi' eR hW
    have hlen : (r.take 8).length = min 8 r.length := by simp
    have hpos : 0 < r.length := List.length_pos_iff.mpr hr0
    have main : ∀ n, n = (r.take 8).length → J_X9_takesWord_144 (I i') tape w' (I n) Φ := by
      intro n hn'
      unfold J_X9_takesWord_144
      have hlm := hl.take 8
      have hst := stemL_take r
      have hl8 : (r.take 8).length ≤ 8 := by simp; omega
      unfold stem at fin
      rw [hst] at fin
      generalize r.take 8 = m at hn' hw' fin hlm hl8
      subst hn'
      have hm256 : ∀ k, m.getD k 0 < 256 := fun k => byt.get (fun b hb => by have := hlm b hb; omega) _
      have hfull : stemL m = m → Φ (I 1) (I i') w' := fun q => fin w' (fun k hk => by
        rw [q, hw' k hk, lw_pk hlm.lt hk])
      simp (disch := omega) only [i_0, i_1, i_2, i_3, i_4, i_5, i_6, i_7, i_8, i_9, i_10, i_11, i_12, i_15, i_16, i_20, i_24, i_30, i_31, i_32, i_40, i_57, i_60, i_61, i_63, i_64, i_65, i_73, i_90, i_97, i_100, i_101, i_109, i_115, i_122, i_127, i_128, i_255, i_256, i_320, i_512, i_600, i_601, i_1100, i_1500, i_2560, i_3000, i_6650, i_12800, i_16000, i_65521, i_65536, I_of, I_le, I_lt, I_eq, I_add, I_sub, I_mul, I_cl, I_in, I_an, I_n1]
      refine ⟨fun q => hfull ?_, fun q => ?_⟩
      · unfold stemL; rw [List.take_of_length_le (by omega), if_neg (by omega)]
      · simp (disch := omega) only [i_0, i_1, i_2, i_3, i_4, i_5, i_6, i_7, i_8, i_9, i_10, i_11, i_12, i_15, i_16, i_20, i_24, i_30, i_31, i_32, i_40, i_57, i_60, i_61, i_63, i_64, i_65, i_73, i_90, i_97, i_100, i_101, i_109, i_115, i_122, i_127, i_128, i_255, i_256, i_320, i_512, i_600, i_601, i_1100, i_1500, i_2560, i_3000, i_6650, i_12800, i_16000, i_65521, i_65536, I_of, I_le, I_lt, I_eq, I_add, I_sub, I_mul, I_cl, I_in, I_an, I_n1]
        refine ⟨by omega, ?_⟩
        rw [hw' _ (by omega)]
        have := hm256 (m.length - 1)
        have := hm256 (m.length - 2)
        simp (disch := omega) only [i_0, i_1, i_2, i_3, i_4, i_5, i_6, i_7, i_8, i_9, i_10, i_11, i_12, i_15, i_16, i_20, i_24, i_30, i_31, i_32, i_40, i_57, i_60, i_61, i_63, i_64, i_65, i_73, i_90, i_97, i_100, i_101, i_109, i_115, i_122, i_127, i_128, i_255, i_256, i_320, i_512, i_600, i_601, i_1100, i_1500, i_2560, i_3000, i_6650, i_12800, i_16000, i_65521, i_65536, I_of, I_le, I_lt, I_eq, I_add, I_sub, I_mul, I_cl, I_in, I_an, I_n1]
        have hs8 : m.take 8 = m := List.take_of_length_le (by omega)
        refine ⟨fun y => hfull ?_, fun y => ⟨by omega, ?_⟩⟩
        · unfold stemL; rw [hs8, if_neg (fun z => y z.2.1)]
        · rw [hw' _ (by omega)]
          simp (disch := omega) only [i_0, i_1, i_2, i_3, i_4, i_5, i_6, i_7, i_8, i_9, i_10, i_11, i_12, i_15, i_16, i_20, i_24, i_30, i_31, i_32, i_40, i_57, i_60, i_61, i_63, i_64, i_65, i_73, i_90, i_97, i_100, i_101, i_109, i_115, i_122, i_127, i_128, i_255, i_256, i_320, i_512, i_600, i_601, i_1100, i_1500, i_2560, i_3000, i_6650, i_12800, i_16000, i_65521, i_65536, I_of, I_le, I_lt, I_eq, I_add, I_sub, I_mul, I_cl, I_in, I_an, I_n1]
          refine ⟨fun x => hfull ?_, fun x => ⟨by omega, fin _ (fun k hk => ?_)⟩⟩
          · unfold stemL; rw [hs8, if_neg (fun z => z.2.2 x)]
          · have hsl : stemL m = m.take (m.length - 1) := by
              unfold stemL; rw [hs8, if_pos ⟨by omega, y, x⟩]
            rw [hsl, lw_pk (hlm.take _).lt hk]
            by_cases e : k = m.length - 1
            · subst e; rw [upd_eq, getD_over (by simp)]
            · rw [upd_ne e, hw' k hk]
              by_cases hlt : k < m.length - 1
              · simp only [List.getD_eq_getElem?_getD, List.getElem?_take, hlt, if_true]
              · rw [getD_over (by omega), getD_over (by simp; omega)]
    unfold J_X9_takesWord_132
    simp (disch := omega) only [i_0, i_1, i_2, i_3, i_4, i_5, i_6, i_7, i_8, i_9, i_10, i_11, i_12, i_15, i_16, i_20, i_24, i_30, i_31, i_32, i_40, i_57, i_60, i_61, i_63, i_64, i_65, i_73, i_90, i_97, i_100, i_101, i_109, i_115, i_122, i_127, i_128, i_255, i_256, i_320, i_512, i_600, i_601, i_1100, i_1500, i_2560, i_3000, i_6650, i_12800, i_16000, i_65521, i_65536, I_of, I_le, I_lt, I_eq, I_add, I_sub, I_mul, I_cl, I_in, I_an, I_n1]
    exact ⟨fun q => main _ (by rw [hlen]; omega), fun q => main _ (by rw [hlen]; omega)⟩
  · subst q
    refine h0 ?_
    rw [← e, List.drop_of_length_le (by omega)]; rfl
theorem l_compared {na : Nat} {word a1 : Nat → Int32} {o W V : Nat} {K : Int32 → Int32 → Prop} {Φ : Int32 → Prop} (hw : WR word W) (ha : ∀ k, k < 8 → a1 (o + k) = I (lw V k)) (hn : o + 8 ≤ na) (hna : na < 1073741824)
    (hE : (∀ k, k < 8 → lw W k = lw V k) → Φ (I 0)) (hK : ∀ k, k < 8 → (∀ j, j < k → lw W j = lw V j) → lw W k ≠ lw V k → K (I o) (I k)) :
    ∀ k j, 8 ≤ j + k → j ≤ 8 → (∀ i, i < j → lw W i = lw V i) → L_X9_compared_2 (k + 1) na word a1 (I o) (I j) K Φ := by
  intro k
  induction k with
  | zero =>
    intro j h1 h2 h3
    unfold L_X9_compared_2
    simp (disch := omega) only [i_0, i_1, i_2, i_3, i_4, i_5, i_6, i_7, i_8, i_9, i_10, i_11, i_12, i_15, i_16, i_20, i_24, i_30, i_31, i_32, i_40, i_57, i_60, i_61, i_63, i_64, i_65, i_73, i_90, i_97, i_100, i_101, i_109, i_115, i_122, i_127, i_128, i_255, i_256, i_320, i_512, i_600, i_601, i_1100, i_1500, i_2560, i_3000, i_6650, i_12800, i_16000, i_65521, i_65536, I_of, I_le, I_lt, I_eq, I_add, I_sub, I_mul, I_cl, I_in, I_an, I_n1]
    exact ⟨fun _ => hE (fun k hk => h3 k (by omega)), fun z => by omega⟩
  | succ k ih =>
    intro j h1 h2 h3
    unfold L_X9_compared_2
    simp (disch := omega) only [i_0, i_1, i_2, i_3, i_4, i_5, i_6, i_7, i_8, i_9, i_10, i_11, i_12, i_15, i_16, i_20, i_24, i_30, i_31, i_32, i_40, i_57, i_60, i_61, i_63, i_64, i_65, i_73, i_90, i_97, i_100, i_101, i_109, i_115, i_122, i_127, i_128, i_255, i_256, i_320, i_512, i_600, i_601, i_1100, i_1500, i_2560, i_3000, i_6650, i_12800, i_16000, i_65521, i_65536, I_of, I_le, I_lt, I_eq, I_add, I_sub, I_mul, I_cl, I_in, I_an, I_n1]
    refine ⟨fun _ => hE (fun k hk => h3 k (by omega)), fun z => ⟨by omega, by omega, ?_⟩⟩
    have l1 := lw_lt W j
    have l2 := lw_lt V j
    rw [hw j (by omega), ha j (by omega)]
    simp (disch := omega) only [i_0, i_1, i_2, i_3, i_4, i_5, i_6, i_7, i_8, i_9, i_10, i_11, i_12, i_15, i_16, i_20, i_24, i_30, i_31, i_32, i_40, i_57, i_60, i_61, i_63, i_64, i_65, i_73, i_90, i_97, i_100, i_101, i_109, i_115, i_122, i_127, i_128, i_255, i_256, i_320, i_512, i_600, i_601, i_1100, i_1500, i_2560, i_3000, i_6650, i_12800, i_16000, i_65521, i_65536, I_of, I_le, I_lt, I_eq, I_add, I_sub, I_mul, I_cl, I_in, I_an, I_n1]
    refine ⟨fun q => ih (j + 1) (by omega) (by omega) (fun i hi => ?_), fun q => hK j (by omega) h3 q⟩
    by_cases e : i = j
    · subst e; exact q
    · exact h3 i (by omega)
theorem r_compared {na : Nat} {word a1 : Nat → Int32} {o W V : Nat} {Φ : Int32 → Prop} (hw : WR word W) (ha : ∀ k, k < 8 → a1 (o + k) = I (lw V k)) (hn : o + 8 ≤ na) (hna : na < 1073741824) (hW : W < 18446744073709551616) (hV : V < 18446744073709551616)
    (h0 : W = V → Φ (I 0)) (h1 : ∀ x, W < V → x < I 0 → x ≠ I 0 → Φ x) (h2 : ∀ x, V < W → 0 < x → x < 256 → Φ (I x)) : P_X9_compared na word a1 (I o) Φ := by
  refine ⟨8 + 1, l_compared hw ha hn hna (fun q => h0 (lw_eq hW hV q)) (fun k hk q ne => ?_) 8 0 (by omega) (by omega) (fun i hi => by omega)⟩
  have l1 := lw_lt W k
  have l2 := lw_lt V k
  simp (disch := omega) only [i_0, i_1, i_2, i_3, i_4, i_5, i_6, i_7, i_8, i_9, i_10, i_11, i_12, i_15, i_16, i_20, i_24, i_30, i_31, i_32, i_40, i_57, i_60, i_61, i_63, i_64, i_65, i_73, i_90, i_97, i_100, i_101, i_109, i_115, i_122, i_127, i_128, i_255, i_256, i_320, i_512, i_600, i_601, i_1100, i_1500, i_2560, i_3000, i_6650, i_12800, i_16000, i_65521, i_65536, I_of, I_le, I_lt, I_eq, I_add, I_sub, I_mul, I_cl, I_in, I_an, I_n1]
  refine ⟨hk, by omega, ?_⟩
  rw [hw k hk, ha k hk]
  by_cases hl : lw W k < lw V k
  · have hx := I_lt0 hl (by omega)
    exact h1 _ (lw_less hW hV q hk hl) hx (fun e => by rw [e, I_lt (by omega) (by omega)] at hx; omega)
  · rw [I_sub (by omega)]
    exact h2 _ (lw_less hV hW (fun j hj => (q j hj).symm) hk (by omega)) (by omega) (by omega)
theorem l_finds {na : Nat} {word a1 : Nat → Int32} {o W : Nat} {l : List Nat} {K : Prop} {Φ : Int32 → Prop} (hw : WR word W) (ha : TW a1 o l) (hn : o + 8 * l.length ≤ na) (hna : na < 1073741824) (hW : W < 18446744073709551616) (hl : ∀ v ∈ l, v < 18446744073709551616)
    (hK : (∀ j, j < l.length → l.getD j 0 ≠ W) → K) (hΦ : ∀ i, i < l.length → l.getD i 0 = W → Φ (I i)) :
    ∀ k i, l.length ≤ i + k → i ≤ l.length → (∀ j, j < i → l.getD j 0 ≠ W) → L_X9_finds_3 (k + 1) na word a1 (I o) (I l.length) (I i) K Φ := by
  intro k
  induction k with
  | zero =>
    intro i h1 h2 h3
    unfold L_X9_finds_3
    simp (disch := omega) only [i_0, i_1, i_2, i_3, i_4, i_5, i_6, i_7, i_8, i_9, i_10, i_11, i_12, i_15, i_16, i_20, i_24, i_30, i_31, i_32, i_40, i_57, i_60, i_61, i_63, i_64, i_65, i_73, i_90, i_97, i_100, i_101, i_109, i_115, i_122, i_127, i_128, i_255, i_256, i_320, i_512, i_600, i_601, i_1100, i_1500, i_2560, i_3000, i_6650, i_12800, i_16000, i_65521, i_65536, I_of, I_le, I_lt, I_eq, I_add, I_sub, I_mul, I_cl, I_in, I_an, I_n1]
    exact ⟨fun _ => hK (fun j hj => h3 j (by omega)), fun z => by omega⟩
  | succ k ih =>
    intro i h1 h2 h3
    unfold L_X9_finds_3
    simp (disch := omega) only [i_0, i_1, i_2, i_3, i_4, i_5, i_6, i_7, i_8, i_9, i_10, i_11, i_12, i_15, i_16, i_20, i_24, i_30, i_31, i_32, i_40, i_57, i_60, i_61, i_63, i_64, i_65, i_73, i_90, i_97, i_100, i_101, i_109, i_115, i_122, i_127, i_128, i_255, i_256, i_320, i_512, i_600, i_601, i_1100, i_1500, i_2560, i_3000, i_6650, i_12800, i_16000, i_65521, i_65536, I_of, I_le, I_lt, I_eq, I_add, I_sub, I_mul, I_cl, I_in, I_an, I_n1]
    refine ⟨fun _ => hK (fun j hj => h3 j (by omega)), fun z => ?_⟩
    have hnext : l.getD i 0 ≠ W → L_X9_finds_3 (k + 1) na word a1 (I o) (I l.length) (I (i + 1)) K Φ := fun q => ih (i + 1) (by omega) (by omega) (fun j hj => by
      by_cases e : j = i
      · subst e; exact q
      · exact h3 j (by omega))
    refine r_compared (V := l.getD i 0) hw (fun k hk => ha i (by omega) k hk) (by omega) hna hW (hl _ (getD_mem (by omega))) (fun q => ⟨fun y => absurd rfl y, fun _ => hΦ i (by omega) q.symm⟩) (fun x q hx hx0 => ⟨fun _ => hnext (by omega), fun y => absurd y hx0⟩) (fun x q hx hx2 => ?_)
    simp (disch := omega) only [i_0, i_1, i_2, i_3, i_4, i_5, i_6, i_7, i_8, i_9, i_10, i_11, i_12, i_15, i_16, i_20, i_24, i_30, i_31, i_32, i_40, i_57, i_60, i_61, i_63, i_64, i_65, i_73, i_90, i_97, i_100, i_101, i_109, i_115, i_122, i_127, i_128, i_255, i_256, i_320, i_512, i_600, i_601, i_1100, i_1500, i_2560, i_3000, i_6650, i_12800, i_16000, i_65521, i_65536, I_of, I_le, I_lt, I_eq, I_add, I_sub, I_mul, I_cl, I_in, I_an, I_n1]
    exact ⟨fun _ => hnext (by omega), fun y => by omega⟩
theorem r_finds {na : Nat} {word a1 : Nat → Int32} {o W : Nat} {l : List Nat} {Φ : Int32 → Prop} (hw : WR word W) (ha : TW a1 o l) (hn : o + 8 * l.length ≤ na) (hna : na < 1073741824) (hW : W < 18446744073709551616) (hl : ∀ v ∈ l, v < 18446744073709551616)
    (h1 : W ∉ l → Φ (-1)) (h2 : ∀ i, i < l.length → l.getD i 0 = W → Φ (I i)) : P_X9_finds na word a1 (I o) (I l.length) Φ := by
  refine ⟨l.length + 1, l_finds hw ha hn hna hW hl (fun q => h1 (fun hm => ?_)) h2 l.length 0 (by omega) (by omega) (fun j hj => by omega)⟩
  obtain ⟨i, hi, e⟩ := List.mem_iff_getElem.mp hm
  exact q i hi (by rw [List.getD_eq_getElem?_getD, List.getElem?_eq_getElem hi, ← e]; rfl)
