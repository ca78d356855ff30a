
/-! the class writes the file: words, bits, terms -/
theorem pack_or {w : Nat} {l : List Nat} {g : Nat} (hw : w ≤ 10) (hl : ∀ x ∈ l, x < 2 ^ wb w) : (w + 16 * packB (wb w) l) ||| g * 2 ^ (4 + l.length * wb w) = w + 16 * packB (wb w) (l ++ [g]) := by
  have h1 := packB_lt hl
  rw [packB_app]
  have h2 : w + 16 * packB (wb w) l < 2 ^ (4 + l.length * wb w) := by
    rw [Nat.pow_add, Nat.mul_comm l.length]
    show _ < 16 * _
    omega
  rw [Nat.or_comm, Nat.mul_comm g, ← Nat.two_pow_add_eq_or_of_lt h2, Nat.pow_add, Nat.mul_comm l.length, Nat.mul_add, Nat.mul_assoc]
  show 16 * _ + _ = _
  omega
theorem l_wword {cap w f tk n : Nat} {gs : List Nat} {gap : Nat → Int32} {sz : Int32} {row : Nat → Int32} {l3 : Int32} {K : Int32 → (Nat → Int32) → Int32 → Int32 → Int32 → Int64 → Prop} {Φ : Int32 → (Nat → Int32) → Prop} (hg : Row gap gs) (ho : gOK gs) (hw : w ≤ 10) (hk : ∀ x ∈ (gs.drop f).take (wsz w), x < 2 ^ wb w) (htk : tk = min (wsz w) (gs.length - f)) (hf : f ≤ gs.length)
    (hK : K sz row (I f) l3 (I tk) (J (w + 16 * packB (wb w) ((gs.drop f).take (wsz w))))) :
    ∀ k i, tk ≤ i + k → i ≤ tk → L_X2_writeWords_52 (k + 1) cap (I n) gap sz row (I f) l3 (I w) (I tk) (J (w + 16 * packB (wb w) ((gs.drop f).take i))) (I i) K Φ := by
  have h40 := ho.1
  have hws := ways hw
  have hB := wayB_I hw
  have hfull : (gs.drop f).take tk = (gs.drop f).take (wsz w) := by
    rw [htk]
    by_cases h : wsz w ≤ gs.length - f
    · rw [Nat.min_eq_left h]
    · rw [Nat.min_eq_right (by omega), List.take_of_length_le (by rw [List.length_drop]; omega), List.take_of_length_le (by rw [List.length_drop]; omega)]
  intro k
  induction k with
  | zero =>
    intro i h1 h2
    unfold L_X2_writeWords_52
    simp (disch := omega) only [i_0, i_1, i_2, i_3, i_4, i_5, i_6, i_7, i_8, i_9, i_10, i_11, i_12, i_15, i_16, i_20, i_24, i_30, i_31, i_32, i_40, i_57, i_60, i_61, i_63, i_64, i_65, i_73, i_90, i_97, i_100, i_101, i_109, i_115, i_122, i_127, i_128, i_255, i_256, i_320, i_512, i_600, i_601, i_1100, i_1500, i_2560, i_3000, i_6650, i_12800, i_16000, i_65521, i_65536, I_of, I_le, I_lt, I_eq, I_add, I_sub, I_mul, I_cl, I_in, I_an, I_n1]
    have : i = tk := by omega
    subst this
    rw [hfull]
    exact ⟨fun _ => hK, fun z => by omega⟩
  | succ k ih =>
    intro i h1 h2
    unfold L_X2_writeWords_52
    simp (disch := omega) only [i_0, i_1, i_2, i_3, i_4, i_5, i_6, i_7, i_8, i_9, i_10, i_11, i_12, i_15, i_16, i_20, i_24, i_30, i_31, i_32, i_40, i_57, i_60, i_61, i_63, i_64, i_65, i_73, i_90, i_97, i_100, i_101, i_109, i_115, i_122, i_127, i_128, i_255, i_256, i_320, i_512, i_600, i_601, i_1100, i_1500, i_2560, i_3000, i_6650, i_12800, i_16000, i_65521, i_65536, I_of, I_le, I_lt, I_eq, I_add, I_sub, I_mul, I_cl, I_in, I_an, I_n1]
    refine ⟨fun z => ?_, fun z => ⟨by omega, by omega, ?_⟩⟩
    · have : i = tk := by omega
      subst this
      rw [hfull]; exact hK
    · have hlt : f + i < gs.length := by omega
      have hg64 := ho.get (f + i)
      have hsh : 4 + i * wb w < 64 := by
        have : i * wb w + wb w ≤ wsz w * wb w := by
          rw [← Nat.succ_mul]; exact Nat.mul_le_mul_right _ (by omega)
        omega
      rw [hg _ hlt, hB]
      simp (disch := omega) only [i_0, i_1, i_2, i_3, i_4, i_5, i_6, i_7, i_8, i_9, i_10, i_11, i_12, i_15, i_16, i_20, i_24, i_30, i_31, i_32, i_40, i_57, i_60, i_61, i_63, i_64, i_65, i_73, i_90, i_97, i_100, i_101, i_109, i_115, i_122, i_127, i_128, i_255, i_256, i_320, i_512, i_600, i_601, i_1100, i_1500, i_2560, i_3000, i_6650, i_12800, i_16000, i_65521, i_65536, I_of, I_le, I_lt, I_eq, I_add, I_sub, I_mul, I_cl, I_in, I_an, I_n1]
      rw [IJ (by omega), IJ (by omega), j_63, J_sl hsh, J_or]
      have hlen : ((gs.drop f).take i).length = i := by rw [List.length_take, List.length_drop]; omega
      have hor := pack_or (w := w) (l := (gs.drop f).take i) (g := gs.getD (f + i) 0) hw (fun x hx => hk x (by
        have e : (gs.drop f).take i = ((gs.drop f).take (wsz w)).take i := by rw [List.take_take, Nat.min_eq_left (by omega)]
        rw [e] at hx
        exact List.mem_of_mem_take hx))
      rw [hlen] at hor
      have key := ih (i + 1) (by omega) (by omega)
      rw [take_succ_getD (by rw [List.length_drop]; omega), getD_drop, ← hor] at key
      exact key
theorem wordOf_lt {gs : List Nat} (h : ∀ g ∈ gs, g < 64) : wordOf gs < 18446744073709551616 := by
  have h1 := packB_lt (way_ok h)
  have h2 := way_le5 h
  have h3 := ways (w := way gs) (by omega)
  have h4 : wb (way gs) * (gs.take (wsz (way gs))).length ≤ 60 := by
    rw [← h3.1, Nat.mul_comm]
    exact Nat.mul_le_mul_right _ (by rw [List.length_take]; omega)
  have h5 : 2 ^ (wb (way gs) * (gs.take (wsz (way gs))).length) ≤ 2 ^ 60 := Nat.pow_le_pow_right (by decide) h4
  unfold wordOf
  omega
theorem enc1_len : ∀ n (gs : List Nat), gs.length ≤ n → (enc1 gs).length ≤ 8 * gs.length := by
  intro n
  induction n with
  | zero => intro gs h; have : gs = [] := List.length_eq_zero_iff.mp (by omega); subst this; simp [enc1_nil]
  | succ n ih =>
    intro gs h
    by_cases e : gs = []
    · subst e; simp [enc1_nil]
    · have hp := List.length_pos_iff.mpr e
      have hw := wsz_pos (wayA_le gs 10 0)
      have hd : (gs.drop (wsz (way gs))).length = gs.length - wsz (way gs) := List.length_drop
      have := ih (gs.drop (wsz (way gs))) (by unfold way at hd ⊢; omega)
      rw [enc1_step e, List.length_append, bytesOf_len]
      unfold way at hd this ⊢
      omega
theorem l_words {cap : Nat} {l gs : List Nat} {gap : Nat → Int32} {K Φ : Int32 → (Nat → Int32) → Prop} (hg : Row gap gs) (ho : gOK gs) (hc : l.length + (enc1 gs).length ≤ cap) (hcap : cap < 2147483648)
    (hK : ∀ row', BRow row' (l ++ enc1 gs) → K (I (l ++ enc1 gs).length) row') :
    ∀ k f wd l' row, gs.length ≤ wd + k → wd ≤ f → f ≤ gs.length → BRow row l' → l' ++ enc1 (gs.drop f) = l ++ enc1 gs → L_X2_writeWords_4 (k + 1) cap (I gs.length) gap (I l'.length) row (I f) (I wd) K Φ := by
  have h40 := ho.1
  have fin : ∀ f l' row, gs.length ≤ f → BRow row l' → l' ++ enc1 (gs.drop f) = l ++ enc1 gs → K (I l'.length) row := by
    intro f l' row hf hb e
    rw [List.drop_of_length_le hf, enc1_nil, List.append_nil] at e
    rw [e] at hb ⊢
    exact hK row hb
  intro k
  induction k with
  | zero =>
    intro f wd l' row h1 h2 h3 h4 h5
    unfold L_X2_writeWords_4
    simp (disch := omega) only [i_0, i_1, i_2, i_3, i_4, i_5, i_6, i_7, i_8, i_9, i_10, i_11, i_12, i_15, i_16, i_20, i_24, i_30, i_31, i_32, i_40, i_57, i_60, i_61, i_63, i_64, i_65, i_73, i_90, i_97, i_100, i_101, i_109, i_115, i_122, i_127, i_128, i_255, i_256, i_320, i_512, i_600, i_601, i_1100, i_1500, i_2560, i_3000, i_6650, i_12800, i_16000, i_65521, i_65536, I_of, I_le, I_lt, I_eq, I_add, I_sub, I_mul, I_cl, I_in, I_an, I_n1]
    exact ⟨fun _ => fin f l' row (by omega) h4 h5, fun z => by omega⟩
  | succ k ih =>
    intro f wd l' row h1 h2 h3 h4 h5
    unfold L_X2_writeWords_4
    simp (disch := omega) only [i_0, i_1, i_2, i_3, i_4, i_5, i_6, i_7, i_8, i_9, i_10, i_11, i_12, i_15, i_16, i_20, i_24, i_30, i_31, i_32, i_40, i_57, i_60, i_61, i_63, i_64, i_65, i_73, i_90, i_97, i_100, i_101, i_109, i_115, i_122, i_127, i_128, i_255, i_256, i_320, i_512, i_600, i_601, i_1100, i_1500, i_2560, i_3000, i_6650, i_12800, i_16000, i_65521, i_65536, I_of, I_le, I_lt, I_eq, I_add, I_sub, I_mul, I_cl, I_in, I_an, I_n1]
    refine ⟨fun z => fin f l' row (by omega) h4 h5, fun z => ⟨fun y => fin f l' row (by omega) h4 h5, fun y => ?_⟩⟩
    have hd : ∀ g ∈ gs.drop f, g < 64 := fun g hg => ho.2 g (List.mem_of_mem_drop hg)
    have hw5 := way_le5 hd
    have hws := ways (w := way (gs.drop f)) (by omega)
    have hwp := wsz_pos (w := way (gs.drop f)) (by omega)
    have hG := wayG_I (w := way (gs.drop f)) (by omega)
    refine s_least hg ho rfl h3 ⟨by rw [I_in (by omega)]; omega, ?_⟩
    rw [I_cl (by omega), hG, imin_I (by omega) (by omega), IJ (by omega)]
    refine ⟨min (wsz (way (gs.drop f))) (gs.length - f) + 1, ?_⟩
    refine cast ?_ (l_wword (cap := cap) (n := gs.length) (w := way (gs.drop f)) (f := f) (tk := min (wsz (way (gs.drop f))) (gs.length - f)) (sz := I l'.length) (row := row) (l3 := I wd) (K := fun a1_size_10 a1_row_11 l2_12 l3_13 l5_14 l6_15 => P_X0_putEight cap a1_size_10 a1_row_11 l6_15 (fun a1_size_16 a1_row_17 => L_X2_writeWords_4 (k + 1) cap (I gs.length) gap a1_size_16 a1_row_17 (l2_12 + l5_14) (l3_13 + 1) K Φ)) (Φ := Φ) hg ho (by omega) (way_ok hd) rfl h3 ?_ (min (wsz (way (gs.drop f))) (gs.length - f)) 0 (by omega) (by omega))
    · simp only [List.take_zero, packB, Nat.mul_zero, Nat.add_zero]; rfl
    · have hne : gs.drop f ≠ [] := by
        intro q
        have := congrArg List.length q
        rw [List.length_drop, List.length_nil] at this
        omega
      have hstep := enc1_step hne
      have hlen := congrArg List.length h5
      rw [hstep] at hlen h5
      simp only [List.length_append, bytesOf_len] at hlen
      have hP := wordOf_lt hd
      refine s_putEight (P := wordOf (gs.drop f)) h4 hP (by omega) hcap (fun row' h6 => ?_)
      simp (disch := omega) only [i_0, i_1, i_2, i_3, i_4, i_5, i_6, i_7, i_8, i_9, i_10, i_11, i_12, i_15, i_16, i_20, i_24, i_30, i_31, i_32, i_40, i_57, i_60, i_61, i_63, i_64, i_65, i_73, i_90, i_97, i_100, i_101, i_109, i_115, i_122, i_127, i_128, i_255, i_256, i_320, i_512, i_600, i_601, i_1100, i_1500, i_2560, i_3000, i_6650, i_12800, i_16000, i_65521, i_65536, I_of, I_le, I_lt, I_eq, I_add, I_sub, I_mul, I_cl, I_in, I_an, I_n1]
      have key := ih (f + min (wsz (way (gs.drop f))) (gs.length - f)) (wd + 1) _ row' (by omega) (by omega) (by omega) h6 ?_
      · exact key
      · rw [List.append_assoc, ← h5, List.drop_drop]
        congr 2
        by_cases h : wsz (way (gs.drop f)) ≤ gs.length - f
        · rw [Nat.min_eq_left h]
        · rw [Nat.min_eq_right (by omega), List.drop_of_length_le (by omega), List.drop_of_length_le (by omega)]
theorem s_words {cap : Nat} {l gs : List Nat} {gap row : Nat → Int32} {Φ : Int32 → (Nat → Int32) → Prop} (hb : BRow row l) (hg : Row gap gs) (ho : gOK gs) (hc : l.length + (enc1 gs).length ≤ cap) (hcap : cap < 2147483648)
    (h : ∀ row', BRow row' (l ++ enc1 gs) → Φ (I (l ++ enc1 gs).length) row') : P_X2_writeWords cap (I gs.length) gap (I l.length) row Φ :=
  ⟨gs.length + 1, l_words hg ho hc hcap h gs.length 0 0 l row (by omega) (by omega) (by omega) hb rfl⟩
theorem l_orAll {gs : List Nat} {gap : Nat → Int32} {K Φ : Int32 → Prop} (hg : Row gap gs) (ho : gOK gs) (hK : K (I (orA gs))) :
    ∀ k i, gs.length ≤ i + k → i ≤ gs.length → L_X2_bitsOfGreatest_4 (k + 1) (I gs.length) gap (I (orA (gs.take i))) (I i) K Φ := by
  have h40 := ho.1
  intro k
  induction k with
  | zero =>
    intro i h1 h2
    unfold L_X2_bitsOfGreatest_4
    simp (disch := omega) only [i_0, i_1, i_2, i_3, i_4, i_5, i_6, i_7, i_8, i_9, i_10, i_11, i_12, i_15, i_16, i_20, i_24, i_30, i_31, i_32, i_40, i_57, i_60, i_61, i_63, i_64, i_65, i_73, i_90, i_97, i_100, i_101, i_109, i_115, i_122, i_127, i_128, i_255, i_256, i_320, i_512, i_600, i_601, i_1100, i_1500, i_2560, i_3000, i_6650, i_12800, i_16000, i_65521, i_65536, I_of, I_le, I_lt, I_eq, I_add, I_sub, I_mul, I_cl, I_in, I_an, I_n1]
    rw [List.take_of_length_le (by omega)]
    exact ⟨fun _ => hK, fun z => by omega⟩
  | succ k ih =>
    intro i h1 h2
    unfold L_X2_bitsOfGreatest_4
    simp (disch := omega) only [i_0, i_1, i_2, i_3, i_4, i_5, i_6, i_7, i_8, i_9, i_10, i_11, i_12, i_15, i_16, i_20, i_24, i_30, i_31, i_32, i_40, i_57, i_60, i_61, i_63, i_64, i_65, i_73, i_90, i_97, i_100, i_101, i_109, i_115, i_122, i_127, i_128, i_255, i_256, i_320, i_512, i_600, i_601, i_1100, i_1500, i_2560, i_3000, i_6650, i_12800, i_16000, i_65521, i_65536, I_of, I_le, I_lt, I_eq, I_add, I_sub, I_mul, I_cl, I_in, I_an, I_n1]
    refine ⟨fun z => ?_, fun z => ⟨by omega, ?_⟩⟩
    · rw [List.take_of_length_le (by omega)]; exact hK
    · have key := ih (i + 1) (by omega) (by omega)
      rw [take_succ_getD (by omega), orA_app, ← I_or] at key
      rw [hg i (by omega)]
      exact key
theorem l_mb {gs : List Nat} {many : Int32} {gap : Nat → Int32} {K Φ : Int32 → Prop} (ho : gOK gs) (hK : K (I (mb gs))) :
    ∀ k n, n + k = 31 → mbA k n gs = mb gs → L_X2_bitsOfGreatest_29 (k + 1) many gap (I (orA gs)) (I n) K Φ := by
  have hlt := orA_small ho.2
  intro k
  induction k with
  | zero =>
    intro n h1 h2
    have : n = 31 := by omega
    subst this
    unfold L_X2_bitsOfGreatest_29
    rw [mbA] at h2
    rw [← h2] at hK
    exact ⟨fun _ => hK, fun z => absurd (Int32.le_refl _) z⟩
  | succ k ih =>
    intro n h1 h2
    unfold L_X2_bitsOfGreatest_29
    simp (disch := omega) only [i_0, i_1, i_2, i_3, i_4, i_5, i_6, i_7, i_8, i_9, i_10, i_11, i_12, i_15, i_16, i_20, i_24, i_30, i_31, i_32, i_40, i_57, i_60, i_61, i_63, i_64, i_65, i_73, i_90, i_97, i_100, i_101, i_109, i_115, i_122, i_127, i_128, i_255, i_256, i_320, i_512, i_600, i_601, i_1100, i_1500, i_2560, i_3000, i_6650, i_12800, i_16000, i_65521, i_65536, I_of, I_le, I_lt, I_eq, I_add, I_sub, I_mul, I_cl, I_in, I_an, I_n1]
    rw [I_sr (by omega) (by omega)]
    have hd : orA gs / 2 ^ n < 2147483648 := Nat.lt_of_le_of_lt (Nat.div_le_self _ _) (by omega)
    simp (disch := omega) only [i_0, i_1, i_2, i_3, i_4, i_5, i_6, i_7, i_8, i_9, i_10, i_11, i_12, i_15, i_16, i_20, i_24, i_30, i_31, i_32, i_40, i_57, i_60, i_61, i_63, i_64, i_65, i_73, i_90, i_97, i_100, i_101, i_109, i_115, i_122, i_127, i_128, i_255, i_256, i_320, i_512, i_600, i_601, i_1100, i_1500, i_2560, i_3000, i_6650, i_12800, i_16000, i_65521, i_65536, I_of, I_le, I_lt, I_eq, I_add, I_sub, I_mul, I_cl, I_in, I_an, I_n1]
    have hz : orA gs / 2 ^ n = 0 ↔ gs.all (fun g => decide (g < 2 ^ n)) = true := by
      rw [Nat.div_eq_zero_iff, orA_lt, List.all_eq_true]
      simp only [decide_eq_true_eq]
      have := Nat.two_pow_pos n
      exact ⟨fun q => q.elim (fun y => by omega) id, Or.inr⟩
    rw [mbA] at h2
    refine ⟨fun y => by omega, fun _ => ⟨fun y => ?_, fun y => ih (n + 1) (by omega) ?_⟩⟩
    · rw [if_pos (hz.mp y)] at h2; rw [h2]; exact hK
    · rw [if_neg (fun q => y (hz.mpr q))] at h2; exact h2
theorem s_mb {gs : List Nat} {gap : Nat → Int32} {Φ : Int32 → Prop} (hg : Row gap gs) (ho : gOK gs) (h : Φ (I (mb gs))) : P_X2_bitsOfGreatest (I gs.length) gap Φ :=
  ⟨gs.length + 1, l_orAll hg ho ⟨31 + 1, l_mb ho h 31 0 (by omega) rfl⟩ gs.length 0 (by omega) (by omega)⟩
theorem mbA_all {gs : List Nat} (h : ∀ g ∈ gs, g < 64) : ∀ k n, n ≤ 6 → 6 < n + k → mbA k n gs ≤ 6 ∧ ∀ g ∈ gs, g < 2 ^ mbA k n gs := by
  intro k
  induction k with
  | zero => intro n a b; omega
  | succ k ih =>
    intro n a b
    unfold mbA
    split
    · rename_i q
      rw [List.all_eq_true] at q
      exact ⟨a, fun g hg => of_decide_eq_true (q g hg)⟩
    · rename_i q
      by_cases e : n = 6
      · subst e
        exact absurd (List.all_eq_true.mpr (fun g hg => decide_eq_true (h g hg))) q
      · exact ih (n + 1) (by omega) (by omega)
theorem mb_all {gs : List Nat} (h : ∀ g ∈ gs, g < 64) : mb gs ≤ 6 ∧ ∀ g ∈ gs, g < 2 ^ mb gs := mbA_all h 31 0 (by omega) (by omega)
theorem pow256' (k : Nat) : 256 ^ k = 2 ^ (8 * k) := (pow256 k).symm
/-- one more gap among the bits -/
theorem bits_step {b : Nat} {gs : List Nat} {i : Nat} (hb : ∀ g ∈ gs, g < 2 ^ b) (hi : i < gs.length) :
    let P := packB b (gs.take i)
    let P' := packB b (gs.take (i + 1))
    let k := b * i / 8
    P / 256 ^ k < 2 ^ (b * i % 8) ∧ P' / 256 ^ k = P / 256 ^ k ||| gs.getD i 0 * 2 ^ (b * i % 8) ∧ bytesOf P' k = bytesOf P k := by
  intro P P' k
  have hl : (gs.take i).length = i := by rw [List.length_take]; omega
  have hP : P < 2 ^ (b * i) := by
    have := packB_lt (b := b) (l := gs.take i) (fun g hg => hb g (List.mem_of_mem_take hg))
    rw [hl] at this; exact this
  have hP' : P' = P + 2 ^ (b * i) * gs.getD i 0 := by
    show packB b (gs.take (i + 1)) = _
    rw [take_succ_getD hi, packB_app, hl]
  have e : 2 ^ (b * i) = 256 ^ k * 2 ^ (b * i % 8) := by
    rw [pow256', ← Nat.pow_add]; congr 1; show _ = 8 * (b * i / 8) + _; omega
  have hp : 0 < 256 ^ k := Nat.pow_pos (by decide)
  have h1 : P / 256 ^ k < 2 ^ (b * i % 8) := by
    rw [Nat.div_lt_iff_lt_mul hp, Nat.mul_comm, ← e]; exact hP
  refine ⟨h1, ?_, ?_⟩
  · rw [hP', e, Nat.mul_assoc, Nat.add_mul_div_left _ _ hp, Nat.or_comm, Nat.mul_comm (gs.getD i 0), ← Nat.two_pow_add_eq_or_of_lt h1]
    omega
  · refine bytesOf_congr ?_
    rw [hP', e, Nat.mul_assoc, Nat.add_mul_mod_self_left]
theorem l_even {cap b : Nat} {l gs : List Nat} {gap : Nat → Int32} {K : Int32 → (Nat → Int32) → Int32 → Int32 → Prop} {Φ : Int32 → (Nat → Int32) → Prop} (hg : Row gap gs) (ho : gOK gs) (hb6 : b ≤ 6) (hb : ∀ g ∈ gs, g < 2 ^ b) (hc : l.length + (b * gs.length + 7) / 8 ≤ cap) (hcap : cap < 2147483648)
    (hK : ∀ row', BRow row' (l ++ bytesOf (packB b gs) (b * gs.length / 8)) → K (I (l ++ bytesOf (packB b gs) (b * gs.length / 8)).length) row' (I (packB b gs / 256 ^ (b * gs.length / 8))) (I (b * gs.length % 8))) :
    ∀ k i row, gs.length ≤ i + k → i ≤ gs.length → BRow row (l ++ bytesOf (packB b (gs.take i)) (b * i / 8)) →
      L_X2_writeEven_18 (k + 1) cap (I gs.length) gap (I (l ++ bytesOf (packB b (gs.take i)) (b * i / 8)).length) row (I b) (I (packB b (gs.take i) / 256 ^ (b * i / 8))) (I (b * i % 8)) (I i) K Φ := by
  have h40 := ho.1
  intro k
  induction k with
  | zero =>
    intro i row h1 h2 h3
    have : i = gs.length := by omega
    subst this
    unfold L_X2_writeEven_18
    rw [List.take_of_length_le (Nat.le_refl _)] at h3 ⊢
    exact ⟨fun _ => hK row h3, fun z => absurd (Int32.le_refl _) z⟩
  | succ k ih =>
    intro i row h1 h2 h3
    unfold L_X2_writeEven_18
    simp (disch := omega) only [i_0, i_1, i_2, i_3, i_4, i_5, i_6, i_7, i_8, i_9, i_10, i_11, i_12, i_15, i_16, i_20, i_24, i_30, i_31, i_32, i_40, i_57, i_60, i_61, i_63, i_64, i_65, i_73, i_90, i_97, i_100, i_101, i_109, i_115, i_122, i_127, i_128, i_255, i_256, i_320, i_512, i_600, i_601, i_1100, i_1500, i_2560, i_3000, i_6650, i_12800, i_16000, i_65521, i_65536, I_of, I_le, I_lt, I_eq, I_add, I_sub, I_mul, I_cl, I_in, I_an, I_n1]
    refine ⟨fun z => ?_, fun z => ⟨by omega, ?_⟩⟩
    · have : i = gs.length := by omega
      subst this
      rw [List.take_of_length_le (Nat.le_refl _)] at h3 ⊢
      exact hK row h3
    · obtain ⟨s1, s2, s3⟩ := bits_step hb (show i < gs.length by omega)
      have hgi := ho.get i
      have hm8 : b * i % 8 < 8 := Nat.mod_lt _ (by decide)
      rw [hg i (by omega), I_sl (by omega), I_or, ← s2]
      have hQ : packB b (gs.take (i + 1)) / 256 ^ (b * i / 8) < 2 ^ 16 := by
        rw [s2]
        refine Nat.or_lt_two_pow (Nat.lt_of_lt_of_le s1 (Nat.pow_le_pow_right (by decide) (by omega))) ?_
        have : gs.getD i 0 * 2 ^ (b * i % 8) ≤ 63 * 2 ^ 7 := Nat.mul_le_mul (by omega) (Nat.pow_le_pow_right (by decide) (by omega))
        omega
      have hms : b * (i + 1) = b * i + b := Nat.mul_succ b i
      refine ⟨fun y => ?_, fun y => ?_⟩
      · have key := ih (i + 1) row (by omega) (by omega)
        have e1 : b * (i + 1) / 8 = b * i / 8 := by omega
        have e2 : b * (i + 1) % 8 = b * i % 8 + b := by omega
        rw [e1, e2, s3] at key
        exact key h3
      · have e1 : b * (i + 1) / 8 = b * i / 8 + 1 := by omega
        have e2 : b * (i + 1) % 8 = b * i % 8 + b - 8 := by omega
        refine s_put h3 ?_ hcap (fun row' h4 => ?_)
        · rw [List.length_append, bytesOf_len]
          have : b * (i + 1) ≤ b * gs.length := Nat.mul_le_mul_left _ (by omega)
          omega
        · have key := ih (i + 1) row' (by omega) (by omega)
          rw [e1, e2, bytesOf_succ, s3, ← List.append_assoc] at key
          have e3 : packB b (gs.take (i + 1)) / 256 ^ (b * i / 8) / 2 ^ 8 = packB b (gs.take (i + 1)) / 256 ^ (b * i / 8 + 1) := by
            rw [Nat.div_div_eq_div_mul, show (256 : Nat) ^ (b * i / 8 + 1) = 256 ^ (b * i / 8) * 2 ^ 8 from Nat.pow_succ _ _]
          rw [I_ur (by omega) (by omega), e3, I_n8 (by omega)]
          exact key h4
theorem s_even {cap : Nat} {l gs : List Nat} {gap row : Nat → Int32} {Φ : Int32 → (Nat → Int32) → Prop} (hbr : BRow row l) (hg : Row gap gs) (ho : gOK gs) (hc : l.length + (enc2 gs).length ≤ cap) (hcap : cap < 2147483648)
    (h : ∀ row', BRow row' (l ++ enc2 gs) → Φ (I (l ++ enc2 gs).length) row') : P_X2_writeEven cap (I gs.length) gap (I l.length) row Φ := by
  obtain ⟨hb6, hb⟩ := mb_all ho.2
  have hlen : (enc2 gs).length = 1 + (mb gs * gs.length + 7) / 8 := by unfold enc2; rw [List.length_cons, bytesOf_len]; omega
  have h40 := ho.1
  refine s_mb hg ho ?_
  refine s_putb hbr (by omega) hcap (by omega) (fun row1 h1 => ⟨gs.length + 1, ?_⟩)
  have hl1 : (l ++ [mb gs]).length = l.length + 1 := by simp
  refine cast ?_ (l_even (cap := cap) (b := mb gs) (l := l ++ [mb gs]) (K := fun a1_size_10 a1_row_11 l3_12 l4_13 => ((l4_13 ≤ 0 → Φ a1_size_10 a1_row_11) ∧ (¬ l4_13 ≤ 0 → P_X0_put cap a1_size_10 a1_row_11 l3_12 (fun a1_size_14 a1_row_15 => Φ a1_size_14 a1_row_15)))) (Φ := Φ) hg ho hb6 hb (by omega) hcap ?_ gs.length 0 row1 (by omega) (by omega) (by simpa [bytesOf] using h1))
  · simp only [List.take_zero, packB, Nat.mul_zero, Nat.zero_div, Nat.zero_mod, bytesOf, List.range_zero, List.map_nil, List.append_nil]; rfl
  · intro row' h2
    have hPl := packB_lt hb
    have hq : packB (mb gs) gs / 256 ^ (mb gs * gs.length / 8) < 256 := by
      rw [Nat.div_lt_iff_lt_mul (Nat.pow_pos (by decide)), pow256']
      refine Nat.lt_of_lt_of_le hPl ?_
      show _ ≤ 2 ^ 8 * _
      rw [← Nat.pow_add]
      exact Nat.pow_le_pow_right (by decide) (by omega)
    have ha : ∀ n, l ++ [mb gs] ++ bytesOf (packB (mb gs) gs) n = l ++ (mb gs :: bytesOf (packB (mb gs) gs) n) := fun n => by simp
    have hm8 : mb gs * gs.length % 8 < 8 := Nat.mod_lt _ (by decide)
    simp (disch := omega) only [i_0, i_1, i_2, i_3, i_4, i_5, i_6, i_7, i_8, i_9, i_10, i_11, i_12, i_15, i_16, i_20, i_24, i_30, i_31, i_32, i_40, i_57, i_60, i_61, i_63, i_64, i_65, i_73, i_90, i_97, i_100, i_101, i_109, i_115, i_122, i_127, i_128, i_255, i_256, i_320, i_512, i_600, i_601, i_1100, i_1500, i_2560, i_3000, i_6650, i_12800, i_16000, i_65521, i_65536, I_of, I_le, I_lt, I_eq, I_add, I_sub, I_mul, I_cl, I_in, I_an, I_n1]
    refine ⟨fun z => ?_, fun z => ?_⟩
    · have e : (mb gs * gs.length + 7) / 8 = mb gs * gs.length / 8 := by omega
      rw [ha, ← e] at h2 ⊢
      exact h row' h2
    · have e : (mb gs * gs.length + 7) / 8 = mb gs * gs.length / 8 + 1 := by omega
      refine s_putb h2 ?_ hcap hq (fun row2 h3 => ?_)
      · rw [List.length_append, bytesOf_len]; omega
      · have e2 : l ++ [mb gs] ++ bytesOf (packB (mb gs) gs) (mb gs * gs.length / 8) ++ [packB (mb gs) gs / 256 ^ (mb gs * gs.length / 8)] = l ++ enc2 gs := by
          unfold enc2
          rw [e, bytesOf_succ, Nat.mod_eq_of_lt hq]; simp
        rw [e2] at h3 ⊢
        exact h row2 h3
theorem s_wgaps {cap c : Nat} {l gs : List Nat} {gap row : Nat → Int32} {Φ : Int32 → (Nat → Int32) → Prop} (hc3 : c ≤ 2) (hbr : BRow row l) (hg : Row gap gs) (ho : gOK gs) (hc : l.length + (encG c gs).length ≤ cap) (hcap : cap < 2147483648)
    (h : ∀ row', BRow row' (l ++ encG c gs) → Φ (I (l ++ encG c gs).length) row') : P_X2_write cap (I gs.length) gap (I l.length) row (I c) Φ := by
  unfold P_X2_write
  unfold encG at h hc
  simp (disch := omega) only [i_0, i_1, i_2, i_3, i_4, i_5, i_6, i_7, i_8, i_9, i_10, i_11, i_12, i_15, i_16, i_20, i_24, i_30, i_31, i_32, i_40, i_57, i_60, i_61, i_63, i_64, i_65, i_73, i_90, i_97, i_100, i_101, i_109, i_115, i_122, i_127, i_128, i_255, i_256, i_320, i_512, i_600, i_601, i_1100, i_1500, i_2560, i_3000, i_6650, i_12800, i_16000, i_65521, i_65536, I_of, I_le, I_lt, I_eq, I_add, I_sub, I_mul, I_cl, I_in, I_an, I_n1]
  refine ⟨fun q => ?_, fun q => ?_, fun q1 q2 => ?_⟩
  · subst q
    simp only [if_true] at h hc
    exact s_sevens hbr hg ho (by unfold enc0 at hc; rw [List.length_map] at hc; exact hc) hcap h
  · subst q
    simp only [if_true] at h hc
    exact s_words hbr hg ho hc hcap h
  · rw [if_neg q1, if_neg q2] at hc
    simp only [if_neg q1, if_neg q2] at h
    exact s_even hbr hg ho hc hcap h
