
/-! the reference writes the file: codecs -/
theorem r_put {l : List Nat} {row : Nat → Int32} {x : Nat} {Φ : Int32 → (Nat → Int32) → Prop} (hb : Row row l) (hc : l.length < 16000)
    (h : ∀ row', Row row' (l ++ [x]) → Φ (I (l ++ [x]).length) row') : P_X9_put (I l.length) row (I x) Φ := by
  unfold P_X9_put
  simp (disch := omega) only [i_0, i_1, i_2, i_3, i_4, i_5, i_6, i_7, i_8, i_9, i_10, i_11, i_12, i_15, i_16, i_20, i_24, i_30, i_31, i_32, i_40, i_57, i_60, i_61, i_63, i_64, i_65, i_73, i_90, i_97, i_100, i_101, i_109, i_115, i_122, i_127, i_128, i_255, i_256, i_320, i_512, i_600, i_601, i_1100, i_1500, i_2560, i_3000, i_6650, i_12800, i_16000, i_65521, i_65536, I_of, I_le, I_lt, I_eq, I_add, I_sub, I_mul, I_cl, I_in, I_an, I_n1]
  have key := h _ (hb.put x)
  rw [List.length_append] at key
  exact ⟨hc, key⟩
theorem l_bitsOf {v : Nat} {K Φ : Int32 → Prop} (hv : v < 2147483648) (hK : ∀ n, n ≤ 31 → (∀ m, v < 2 ^ m ↔ n ≤ m) → K (I n)) :
    ∀ k n, n + k = 31 → (∀ m, m < n → 2 ^ m ≤ v) → L_X9_bitsOf_2 (k + 1) (I v) (I n) K Φ := by
  have fin : ∀ n, n ≤ 31 → (∀ m, m < n → 2 ^ m ≤ v) → v < 2 ^ n → K (I n) := fun n h31 h1 h2 => hK n h31 (fun m => ⟨fun q => by
      apply Nat.le_of_not_lt; intro z; have := h1 m z; omega, fun q => Nat.lt_of_lt_of_le h2 (Nat.pow_le_pow_right (by decide) q)⟩)
  intro k
  induction k with
  | zero =>
    intro n h1 h2
    have : n = 31 := by omega
    subst this
    unfold L_X9_bitsOf_2
    rw [i_31, I_sr hv (by omega)]
    have : v / 2 ^ 31 = 0 := Nat.div_eq_of_lt hv
    rw [this]
    exact ⟨fun _ => fin 31 (by omega) h2 hv, fun z => absurd (Int32.le_refl _) z⟩
  | succ k ih =>
    intro n h1 h2
    unfold L_X9_bitsOf_2
    simp (disch := omega) only [i_0, i_1, i_2, i_3, i_4, i_5, i_6, i_7, i_8, i_9, i_10, i_11, i_12, i_15, i_16, i_20, i_24, i_30, i_31, i_32, i_40, i_57, i_60, i_61, i_63, i_64, i_65, i_73, i_90, i_97, i_100, i_101, i_109, i_115, i_122, i_127, i_128, i_255, i_256, i_320, i_512, i_600, i_601, i_1100, i_1500, i_2560, i_3000, i_6650, i_12800, i_16000, i_65521, i_65536, I_of, I_le, I_lt, I_eq, I_add, I_sub, I_mul, I_cl, I_in, I_an, I_n1]
    rw [I_sr hv (by omega)]
    have hd : v / 2 ^ n < 2147483648 := Nat.lt_of_le_of_lt (Nat.div_le_self _ _) hv
    simp (disch := omega) only [i_0, i_1, i_2, i_3, i_4, i_5, i_6, i_7, i_8, i_9, i_10, i_11, i_12, i_15, i_16, i_20, i_24, i_30, i_31, i_32, i_40, i_57, i_60, i_61, i_63, i_64, i_65, i_73, i_90, i_97, i_100, i_101, i_109, i_115, i_122, i_127, i_128, i_255, i_256, i_320, i_512, i_600, i_601, i_1100, i_1500, i_2560, i_3000, i_6650, i_12800, i_16000, i_65521, i_65536, I_of, I_le, I_lt, I_eq, I_add, I_sub, I_mul, I_cl, I_in, I_an, I_n1]
    have hp := Nat.two_pow_pos n
    refine ⟨fun y => fin n (by omega) h2 ?_, fun y => ih (n + 1) (by omega) (fun m hm => ?_)⟩
    · rw [Nat.le_zero_eq, Nat.div_eq_zero_iff] at y; omega
    · by_cases e : m = n
      · subst e
        apply Nat.le_of_not_lt; intro q
        exact y (by rw [Nat.div_eq_of_lt q]; exact Nat.le_refl _)
      · exact h2 m (by omega)
theorem r_bitsOf {v : Nat} {Φ : Int32 → Prop} (hv : v < 2147483648) (h : ∀ n, n ≤ 31 → (∀ m, v < 2 ^ m ↔ n ≤ m) → Φ (I n)) : P_X9_bitsOf (I v) Φ :=
  ⟨31 + 1, l_bitsOf hv h 31 0 (by omega) (fun m hm => by omega)⟩
theorem r_waySize {w : Nat} {Φ : Int32 → Prop} (hw : w ≤ 10) (h : Φ (I (wb w))) : P_X9_waySize (I w) Φ := by
  unfold P_X9_waySize
  simp (disch := omega) only [i_0, i_1, i_2, i_3, i_4, i_5, i_6, i_7, i_8, i_9, i_10, i_11, i_12, i_15, i_16, i_20, i_24, i_30, i_31, i_32, i_40, i_57, i_60, i_61, i_63, i_64, i_65, i_73, i_90, i_97, i_100, i_101, i_109, i_115, i_122, i_127, i_128, i_255, i_256, i_320, i_512, i_600, i_601, i_1100, i_1500, i_2560, i_3000, i_6650, i_12800, i_16000, i_65521, i_65536, I_of, I_le, I_lt, I_eq, I_add, I_sub, I_mul, I_cl, I_in, I_an, I_n1]
  unfold wb at h
  have : w = 0 ∨ w = 1 ∨ w = 2 ∨ w = 3 ∨ w = 4 ∨ w = 5 ∨ w = 6 ∨ w = 7 ∨ w = 8 ∨ w = 9 ∨ w = 10 := by omega
  rcases this with rfl | rfl | rfl | rfl | rfl | rfl | rfl | rfl | rfl | rfl | rfl <;> refine ⟨fun q => ?_, fun q => ?_, fun q => ?_, fun q => ?_, fun q => ?_, fun q => ?_, fun q => ?_, fun q => ?_, fun q => ?_, fun q => ?_, fun a0 a1 a2 a3 a4 a5 a6 a7 a8 a9 => ?_⟩ <;> first | exact h | omega
theorem ne0_I {a : Nat} (h : 1 ≤ a) (h2 : a < 2147483648) : ¬ I a = I 0 := by rw [I_eq h2 (by omega)]; omega
theorem l_fits {w f n : Nat} {gs : List Nat} {gap dr : Nat → Int32} {dd : Int32} {K : Int32 → (Nat → Int32) → Int32 → Int32 → Int32 → Int32 → Prop} {Φ : Int32 → (Nat → Int32) → Prop} (hg : Row gap gs) (ho : gOK gs) (hn : gs.length = n) (hw : w ≤ 10) (hf : f ≤ n)
    (hK : K dd dr (I n) (I f) (I w) (I (if okway w (gs.drop f) then 1 else 0))) :
    ∀ k i, n ≤ f + i + k → f + i ≤ n → i ≤ wsz w → L_X9_putWords_26 (k + 1) dd gap dr (I n) (I f) (I w) (I (if ((gs.drop f).take i).all (fun g => decide (g < 2 ^ wb w)) then 1 else 0)) (I i) K Φ := by
  have h40 := ho.1
  have hws := ways hw
  have fin : ∀ i, (n ≤ f + i ∨ wsz w ≤ i) → i ≤ wsz w → K dd dr (I n) (I f) (I w) (I (if ((gs.drop f).take i).all (fun g => decide (g < 2 ^ wb w)) then 1 else 0)) := by
    intro i h1 h2
    unfold okway at hK
    by_cases e : i = wsz w
    · rw [e]; exact hK
    · rw [List.take_of_length_le (by rw [List.length_drop]; omega)]
      rw [List.take_of_length_le (by rw [List.length_drop]; omega)] at hK
      exact hK
  intro k
  induction k with
  | zero =>
    intro i h1 h2 h3
    unfold L_X9_putWords_26
    refine r_waySize hw ?_
    simp (disch := omega) only [i_0, i_1, i_2, i_3, i_4, i_5, i_6, i_7, i_8, i_9, i_10, i_11, i_12, i_15, i_16, i_20, i_24, i_30, i_31, i_32, i_40, i_57, i_60, i_61, i_63, i_64, i_65, i_73, i_90, i_97, i_100, i_101, i_109, i_115, i_122, i_127, i_128, i_255, i_256, i_320, i_512, i_600, i_601, i_1100, i_1500, i_2560, i_3000, i_6650, i_12800, i_16000, i_65521, i_65536, I_of, I_le, I_lt, I_eq, I_add, I_sub, I_mul, I_cl, I_in, I_an, I_n1]
    rw [I_div (by omega) (by omega), hws.2.2.2.2, I_le (by omega) (by omega)]
    exact ⟨by omega, fun _ => fin i (by omega) h3, fun z => ⟨fun _ => fin i (by omega) h3, fun y => by omega⟩⟩
  | succ k ih =>
    intro i h1 h2 h3
    unfold L_X9_putWords_26
    refine r_waySize hw ?_
    simp (disch := omega) only [i_0, i_1, i_2, i_3, i_4, i_5, i_6, i_7, i_8, i_9, i_10, i_11, i_12, i_15, i_16, i_20, i_24, i_30, i_31, i_32, i_40, i_57, i_60, i_61, i_63, i_64, i_65, i_73, i_90, i_97, i_100, i_101, i_109, i_115, i_122, i_127, i_128, i_255, i_256, i_320, i_512, i_600, i_601, i_1100, i_1500, i_2560, i_3000, i_6650, i_12800, i_16000, i_65521, i_65536, I_of, I_le, I_lt, I_eq, I_add, I_sub, I_mul, I_cl, I_in, I_an, I_n1]
    rw [I_div (by omega) (by omega), hws.2.2.2.2, I_le (by omega) (by omega)]
    refine ⟨by omega, fun y => fin i (by omega) h3, fun y => ⟨fun z => fin i (by omega) h3, fun z => ?_⟩⟩
    have key := ih (i + 1) (by omega) (by omega) (by omega)
    rw [take_succ_getD (by rw [List.length_drop]; omega), getD_drop, List.all_append] at key
    have hgi := ho.get (f + i)
    by_cases ha : ((gs.drop f).take i).all (fun g => decide (g < 2 ^ wb w)) = true
    · simp only [ha, if_true] at key ⊢
      refine ⟨fun q => absurd q (by decide), fun _ => ⟨by omega, ?_⟩⟩
      rw [hg _ (by omega)]
      refine r_bitsOf (by omega) (fun nb h31 hnb => r_waySize hw ?_)
      rw [I_lt (by omega) (by omega)]
      have hiff := hnb (wb w)
      refine ⟨fun q => ?_, fun q => ?_⟩
      · have : ¬ gs.getD (f + i) 0 < 2 ^ wb w := fun z => by have := hiff.mp z; omega
        simp only [List.all_cons, this, decide_false, List.all_nil, Bool.false_and, Bool.and_false, Bool.false_eq_true, if_false] at key
        exact key
      · have : gs.getD (f + i) 0 < 2 ^ wb w := hiff.mpr (by omega)
        simp only [List.all_cons, this, decide_true, List.all_nil, Bool.true_and, if_true] at key
        exact key
    · have ha' : ((gs.drop f).take i).all (fun g => decide (g < 2 ^ wb w)) = false := by simpa using ha
      simp only [ha', Bool.false_and, Bool.false_eq_true, if_false] at key ⊢
      exact ⟨fun _ => key, fun q => absurd trivial q⟩
theorem l_rway {f n : Nat} {gs : List Nat} {gap dr : Nat → Int32} {dd : Int32} {K : Int32 → (Nat → Int32) → Int32 → Int32 → Int32 → Prop} {Φ : Int32 → (Nat → Int32) → Prop} (hg : Row gap gs) (ho : gOK gs) (hn : gs.length = n) (hf : f ≤ n)
    (hK : K dd dr (I n) (I f) (I (way (gs.drop f)))) :
    ∀ k w, w + k = 6 → wayA (10 - w) w (gs.drop f) = way (gs.drop f) → w ≤ way (gs.drop f) → L_X9_putWords_12 (k + 1) dd gap dr (I n) (I f) (I w - I 1) (I 0) K Φ := by
  have hd : ∀ g ∈ gs.drop f, g < 64 := fun g hg => ho.2 g (List.mem_of_mem_drop hg)
  have hw5 := way_le5 hd
  intro k
  induction k with
  | zero => intro w h1 h2 h3; omega
  | succ k ih =>
    intro w h1 h2 h3
    unfold L_X9_putWords_12
    refine ⟨fun q => absurd rfl q, fun _ => ⟨n + 1, ?_⟩⟩
    have e : I w - I 1 + 1 = I w := by rw [i_1]; exact Int32.sub_add_cancel _ _
    rw [e]
    refine l_fits (K := fun drafted_10 draft_11 l1_12 l2_13 l3_14 l4_15 => L_X9_putWords_12 (k + 1) drafted_10 gap draft_11 l1_12 l2_13 l3_14 l4_15 K Φ) (w := w) hg ho hn (by omega) hf ?_ n 0 (by omega) (by omega) (by omega)
    obtain ⟨m, hm⟩ : ∃ m, 10 - w = m + 1 := ⟨9 - w, by omega⟩
    rw [hm, wayA] at h2
    by_cases q : okway w (gs.drop f) = true
    · rw [if_pos q] at h2 ⊢
      unfold L_X9_putWords_12
      rw [h2]
      exact ⟨fun _ => hK, fun z => absurd z (by decide)⟩
    · rw [if_neg q] at h2 ⊢
      have hm2 : m = 10 - (w + 1) := by omega
      have hle : w + 1 ≤ way (gs.drop f) := by
        apply Nat.lt_of_le_of_ne h3
        intro z
        have := wayA_ok (gs.drop f) 10 0 (by unfold way at hw5; omega)
        unfold way at z
        rw [← z] at this
        exact q this
      have := ih (w + 1) (by omega) (by rw [← hm2]; exact h2) hle
      rwa [I_sub (by omega), Nat.add_sub_cancel] at this
theorem l_rword {w f n : Nat} {gs : List Nat} {gap dr : Nat → Int32} {dd : Int32} {K : Int32 → (Nat → Int32) → Int32 → Int32 → Int32 → Int64 → Prop} {Φ : Int32 → (Nat → Int32) → Prop} (hg : Row gap gs) (ho : gOK gs) (hn : gs.length = n) (hw : w ≤ 10) (hf : f ≤ n) (hk : ∀ x ∈ (gs.drop f).take (wsz w), x < 2 ^ wb w)
    (hK : K dd dr (I n) (I f) (I w) (J (w + 16 * packB (wb w) ((gs.drop f).take (wsz w))))) :
    ∀ k i, n ≤ f + i + k → f + i ≤ n → i ≤ wsz w → L_X9_putWords_93 (k + 1) dd gap dr (I n) (I f) (I w) (J (w + 16 * packB (wb w) ((gs.drop f).take i))) (I i) K Φ := by
  have h40 := ho.1
  have hws := ways hw
  have fin : ∀ i, (n ≤ f + i ∨ wsz w ≤ i) → i ≤ wsz w → K dd dr (I n) (I f) (I w) (J (w + 16 * packB (wb w) ((gs.drop f).take i))) := by
    intro i h1 h2
    by_cases e : i = wsz w
    · rw [e]; exact hK
    · rw [List.take_of_length_le (by rw [List.length_drop]; omega)]
      rw [List.take_of_length_le (by rw [List.length_drop]; omega)] at hK
      exact hK
  intro k
  induction k with
  | zero =>
    intro i h1 h2 h3
    unfold L_X9_putWords_93
    refine r_waySize hw ?_
    simp (disch := omega) only [i_0, i_1, i_2, i_3, i_4, i_5, i_6, i_7, i_8, i_9, i_10, i_11, i_12, i_15, i_16, i_20, i_24, i_30, i_31, i_32, i_40, i_57, i_60, i_61, i_63, i_64, i_65, i_73, i_90, i_97, i_100, i_101, i_109, i_115, i_122, i_127, i_128, i_255, i_256, i_320, i_512, i_600, i_601, i_1100, i_1500, i_2560, i_3000, i_6650, i_12800, i_16000, i_65521, i_65536, I_of, I_le, I_lt, I_eq, I_add, I_sub, I_mul, I_cl, I_in, I_an, I_n1]
    rw [I_div (by omega) (by omega), hws.2.2.2.2, I_le (by omega) (by omega)]
    exact ⟨by omega, fun _ => fin i (by omega) h3, fun z => ⟨fun _ => fin i (by omega) h3, fun y => by omega⟩⟩
  | succ k ih =>
    intro i h1 h2 h3
    unfold L_X9_putWords_93
    refine r_waySize hw ?_
    simp (disch := omega) only [i_0, i_1, i_2, i_3, i_4, i_5, i_6, i_7, i_8, i_9, i_10, i_11, i_12, i_15, i_16, i_20, i_24, i_30, i_31, i_32, i_40, i_57, i_60, i_61, i_63, i_64, i_65, i_73, i_90, i_97, i_100, i_101, i_109, i_115, i_122, i_127, i_128, i_255, i_256, i_320, i_512, i_600, i_601, i_1100, i_1500, i_2560, i_3000, i_6650, i_12800, i_16000, i_65521, i_65536, I_of, I_le, I_lt, I_eq, I_add, I_sub, I_mul, I_cl, I_in, I_an, I_n1]
    rw [I_div (by omega) (by omega), hws.2.2.2.2, I_le (by omega) (by omega)]
    refine ⟨by omega, fun y => fin i (by omega) h3, fun y => ⟨fun z => fin i (by omega) h3, fun z => ⟨by omega, r_waySize hw ?_⟩⟩⟩
    have hlt : f + i < gs.length := by omega
    have hg64 := ho.get (f + i)
    have hsh : 4 + i * wb w < 64 := by
      have : i * wb w + wb w ≤ wsz w * wb w := by
        rw [← Nat.succ_mul]; exact Nat.mul_le_mul_right _ (by omega)
      omega
    rw [hg _ hlt, I_mul, I_add, Nat.mul_comm (wb w) i, IJ (by omega), IJ (by omega), j_63, J_sl hsh, J_or]
    have hlen : ((gs.drop f).take i).length = i := by rw [List.length_take, List.length_drop]; omega
    have hor := pack_or (w := w) (l := (gs.drop f).take i) (g := gs.getD (f + i) 0) hw (fun x hx => hk x (by
      have e : (gs.drop f).take i = ((gs.drop f).take (wsz w)).take i := by rw [List.take_take, Nat.min_eq_left (by omega)]
      rw [e] at hx
      exact List.mem_of_mem_take hx))
    rw [hlen] at hor
    have key := ih (i + 1) (by omega) (by omega) (by omega)
    rw [take_succ_getD (by rw [List.length_drop]; omega), getD_drop, ← hor] at key
    exact key
theorem l_rput8 {P : Nat} {l : List Nat} {gap : Nat → Int32} {l1 l2 l3 : Int32} {K : Int32 → (Nat → Int32) → Int32 → Int32 → Int32 → Prop} {Φ : Int32 → (Nat → Int32) → Prop} (hP : P < 18446744073709551616) (hc : l.length + 8 ≤ 16000)
    (hK : ∀ row', Row row' (l ++ bytesOf P 8) → K (I (l ++ bytesOf P 8).length) row' l1 l2 l3) :
    ∀ k i row, 8 ≤ i + k → i ≤ 8 → Row row (l ++ bytesOf P i) → L_X9_putWords_147 (k + 1) (I (l ++ bytesOf P i).length) gap row l1 l2 l3 (J P) (I i) K Φ := by
  intro k
  induction k with
  | zero =>
    intro i row h1 h2 h3
    unfold L_X9_putWords_147
    simp (disch := omega) only [i_0, i_1, i_2, i_3, i_4, i_5, i_6, i_7, i_8, i_9, i_10, i_11, i_12, i_15, i_16, i_20, i_24, i_30, i_31, i_32, i_40, i_57, i_60, i_61, i_63, i_64, i_65, i_73, i_90, i_97, i_100, i_101, i_109, i_115, i_122, i_127, i_128, i_255, i_256, i_320, i_512, i_600, i_601, i_1100, i_1500, i_2560, i_3000, i_6650, i_12800, i_16000, i_65521, i_65536, I_of, I_le, I_lt, I_eq, I_add, I_sub, I_mul, I_cl, I_in, I_an, I_n1]
    have : i = 8 := by omega
    subst this
    exact ⟨fun _ => hK row h3, fun z => by omega⟩
  | succ k ih =>
    intro i row h1 h2 h3
    unfold L_X9_putWords_147
    simp (disch := omega) only [i_0, i_1, i_2, i_3, i_4, i_5, i_6, i_7, i_8, i_9, i_10, i_11, i_12, i_15, i_16, i_20, i_24, i_30, i_31, i_32, i_40, i_57, i_60, i_61, i_63, i_64, i_65, i_73, i_90, i_97, i_100, i_101, i_109, i_115, i_122, i_127, i_128, i_255, i_256, i_320, i_512, i_600, i_601, i_1100, i_1500, i_2560, i_3000, i_6650, i_12800, i_16000, i_65521, i_65536, I_of, I_le, I_lt, I_eq, I_add, I_sub, I_mul, I_cl, I_in, I_an, I_n1]
    refine ⟨fun z => ?_, fun z => ?_⟩
    · have : i = 8 := by omega
      subst this
      exact hK row h3
    · rw [IJ (by omega), j_63, j_255, J_sr8 hP (by omega), JI, pow256]
      refine r_put h3 (by rw [List.length_append, bytesOf_len]; omega) (fun row' h4 => ?_)
      have e : l ++ bytesOf P i ++ [P / 256 ^ i % 256] = l ++ bytesOf P (i + 1) := by rw [bytesOf_succ, List.append_assoc]
      rw [e] at h4 ⊢
      exact ih (i + 1) row' (by omega) (by omega) h4
theorem l_rwords {l gs : List Nat} {gap : Nat → Int32} {K Φ : Int32 → (Nat → Int32) → Prop} (hg : Row gap gs) (ho : gOK gs) (hc : l.length + (enc1 gs).length ≤ 16000)
    (hK : ∀ row', Row row' (l ++ enc1 gs) → K (I (l ++ enc1 gs).length) row') :
    ∀ k f l' row, gs.length ≤ f + k → f < gs.length + 60 → Row row l' → l' ++ enc1 (gs.drop f) = l ++ enc1 gs → L_X9_putWords_2 (k + 1) (I l'.length) gap row (I gs.length) (I f) K Φ := by
  have h40 := ho.1
  have fin : ∀ f l' row, gs.length ≤ f → Row row l' → l' ++ enc1 (gs.drop f) = l ++ enc1 gs → K (I l'.length) row := by
    intro f l' row hf hb e
    rw [List.drop_of_length_le hf, enc1_nil, List.append_nil] at e
    rw [e] at hb ⊢
    exact hK row hb
  intro k
  induction k with
  | zero =>
    intro f l' row h1 h2 h4 h5
    unfold L_X9_putWords_2
    simp (disch := omega) only [i_0, i_1, i_2, i_3, i_4, i_5, i_6, i_7, i_8, i_9, i_10, i_11, i_12, i_15, i_16, i_20, i_24, i_30, i_31, i_32, i_40, i_57, i_60, i_61, i_63, i_64, i_65, i_73, i_90, i_97, i_100, i_101, i_109, i_115, i_122, i_127, i_128, i_255, i_256, i_320, i_512, i_600, i_601, i_1100, i_1500, i_2560, i_3000, i_6650, i_12800, i_16000, i_65521, i_65536, I_of, I_le, I_lt, I_eq, I_add, I_sub, I_mul, I_cl, I_in, I_an, I_n1]
    exact ⟨fun _ => fin f l' row (by omega) h4 h5, fun z => by omega⟩
  | succ k ih =>
    intro f l' row h1 h2 h4 h5
    unfold L_X9_putWords_2
    rw [I_le (by omega) (by omega)]
    refine ⟨fun z => fin f l' row (by omega) h4 h5, fun y => ?_⟩
    have hd : ∀ g ∈ gs.drop f, g < 64 := fun g hg => ho.2 g (List.mem_of_mem_drop hg)
    have hw5 := way_le5 hd
    have hws := ways (w := way (gs.drop f)) (by omega)
    have hwp := wsz_pos (w := way (gs.drop f)) (by omega)
    refine ⟨6 + 1, l_rway (gs := gs) hg ho rfl (by omega) ⟨gs.length + 1, ?_⟩ 6 0 (by omega) rfl (Nat.zero_le _)⟩
    rw [IJ (by omega)]
    refine cast ?_ (l_rword (w := way (gs.drop f)) (f := f) (dd := I l'.length) (dr := row) (K := fun drafted_34 draft_35 l1_36 l2_37 l3_38 l5_39 => ∃ n, L_X9_putWords_147 n drafted_34 gap draft_35 l1_36 l2_37 l3_38 l5_39 0 (fun drafted_47 draft_48 l1_49 l2_50 l3_51 => P_X9_waySize l3_51 (fun r_52 => (¬ r_52 = 0) ∧ L_X9_putWords_2 (k + 1) drafted_47 gap draft_48 l1_49 (l2_50 + (60 / r_52)) K Φ)) Φ) (Φ := Φ) hg ho rfl (by omega) (by omega) (way_ok hd) ⟨8 + 1, ?_⟩ gs.length 0 (by omega) (by omega) (by omega))
    · simp only [List.take_zero, packB, Nat.mul_zero, Nat.add_zero]; rfl
    · have hne : gs.drop f ≠ [] := by
        intro q
        have := congrArg List.length q
        rw [List.length_drop, List.length_nil] at this
        omega
      have hstep := enc1_step hne
      have hlen := congrArg List.length h5
      rw [hstep] at hlen h5
      simp only [List.length_append, bytesOf_len] at hlen
      have hP := wordOf_lt hd
      have key := l_rput8 (P := wordOf (gs.drop f)) (l := l') (gap := gap) (l1 := I gs.length) (l2 := I f) (l3 := I (way (gs.drop f))) (K := fun drafted_47 draft_48 l1_49 l2_50 l3_51 => P_X9_waySize l3_51 (fun r_52 => (¬ r_52 = 0) ∧ L_X9_putWords_2 (k + 1) drafted_47 gap draft_48 l1_49 (l2_50 + (60 / r_52)) K Φ)) (Φ := Φ) hP (by omega) ?_ 8 0 row (by omega) (by omega) (by simpa [bytesOf] using h4)
      · have e0 : l' ++ bytesOf (wordOf (gs.drop f)) 0 = l' := by simp [bytesOf]
        rw [e0] at key
        exact key
      · intro row' h6
        refine r_waySize (by omega) ⟨ne0_I (by omega) (by omega), ?_⟩
        rw [i_60, I_div (by omega) (by omega), hws.2.2.2.2, I_add]
        refine ih (f + wsz (way (gs.drop f))) _ row' (by omega) (by omega) h6 ?_
        rw [List.append_assoc, ← h5, List.drop_drop]
theorem r_words {l gs : List Nat} {gap row : Nat → Int32} {Φ : Int32 → (Nat → Int32) → Prop} (hb : Row row l) (hg : Row gap gs) (ho : gOK gs) (hc : l.length + (enc1 gs).length ≤ 16000)
    (h : ∀ row', Row row' (l ++ enc1 gs) → Φ (I (l ++ enc1 gs).length) row') : P_X9_putWords (I l.length) gap row (I gs.length) Φ :=
  ⟨gs.length + 1, l_rwords hg ho hc h gs.length 0 l row (by omega) (by omega) hb rfl⟩
theorem mbA_le {gs : List Nat} {m : Nat} : ∀ k n, (∀ j, j < n → ¬ ∀ g ∈ gs, g < 2 ^ j) → (∀ g ∈ gs, g < 2 ^ (n + k)) → (mbA k n gs ≤ m ↔ ∀ g ∈ gs, g < 2 ^ m) := by
  intro k
  induction k with
  | zero =>
    intro n h1 h2
    rw [mbA]
    refine ⟨fun q g hg => Nat.lt_of_lt_of_le (h2 g hg) (Nat.pow_le_pow_right (by decide) q), fun q => ?_⟩
    apply Nat.le_of_not_lt; intro z; exact h1 m z q
  | succ k ih =>
    intro n h1 h2
    rw [mbA]
    by_cases q : gs.all (fun g => decide (g < 2 ^ n)) = true
    · rw [if_pos q]
      rw [List.all_eq_true] at q
      simp only [decide_eq_true_eq] at q
      refine ⟨fun z g hg => Nat.lt_of_lt_of_le (q g hg) (Nat.pow_le_pow_right (by decide) z), fun z => ?_⟩
      apply Nat.le_of_not_lt; intro y; exact h1 m y z
    · rw [if_neg q]
      refine ih (n + 1) (fun j hj => ?_) (by rw [show n + 1 + k = n + (k + 1) by omega]; exact h2)
      by_cases e : j = n
      · subst e
        rw [List.all_eq_true] at q
        simpa using q
      · exact h1 j (by omega)
theorem mb_le {gs : List Nat} (h : ∀ g ∈ gs, g < 2147483648) (m : Nat) : mb gs ≤ m ↔ ∀ g ∈ gs, g < 2 ^ m := mbA_le 31 0 (fun j hj => by omega) (fun g hg => h g hg)
theorem l_rmb {gs : List Nat} {gap dr : Nat → Int32} {dd : Int32} {K : Int32 → (Nat → Int32) → Int32 → Int32 → Prop} {Φ : Int32 → (Nat → Int32) → Prop} (hg : Row gap gs) (ho : gOK gs) (hK : K dd dr (I gs.length) (I (mb gs))) :
    ∀ k i, gs.length ≤ i + k → i ≤ gs.length → L_X9_putBits_4 (k + 1) dd gap dr (I gs.length) (I (mb (gs.take i))) (I i) K Φ := by
  have h40 := ho.1
  intro k
  induction k with
  | zero =>
    intro i h1 h2
    unfold L_X9_putBits_4
    simp (disch := omega) only [i_0, i_1, i_2, i_3, i_4, i_5, i_6, i_7, i_8, i_9, i_10, i_11, i_12, i_15, i_16, i_20, i_24, i_30, i_31, i_32, i_40, i_57, i_60, i_61, i_63, i_64, i_65, i_73, i_90, i_97, i_100, i_101, i_109, i_115, i_122, i_127, i_128, i_255, i_256, i_320, i_512, i_600, i_601, i_1100, i_1500, i_2560, i_3000, i_6650, i_12800, i_16000, i_65521, i_65536, I_of, I_le, I_lt, I_eq, I_add, I_sub, I_mul, I_cl, I_in, I_an, I_n1]
    rw [List.take_of_length_le (by omega)]
    exact ⟨fun _ => hK, fun z => by omega⟩
  | succ k ih =>
    intro i h1 h2
    unfold L_X9_putBits_4
    simp (disch := omega) only [i_0, i_1, i_2, i_3, i_4, i_5, i_6, i_7, i_8, i_9, i_10, i_11, i_12, i_15, i_16, i_20, i_24, i_30, i_31, i_32, i_40, i_57, i_60, i_61, i_63, i_64, i_65, i_73, i_90, i_97, i_100, i_101, i_109, i_115, i_122, i_127, i_128, i_255, i_256, i_320, i_512, i_600, i_601, i_1100, i_1500, i_2560, i_3000, i_6650, i_12800, i_16000, i_65521, i_65536, I_of, I_le, I_lt, I_eq, I_add, I_sub, I_mul, I_cl, I_in, I_an, I_n1]
    refine ⟨fun z => ?_, fun z => ⟨by omega, ?_⟩⟩
    · rw [List.take_of_length_le (by omega)]; exact hK
    · have key := ih (i + 1) (by omega) (by omega)
      have hgi := ho.get i
      have ht : ∀ g ∈ gs.take i, g < 64 := fun g hg => ho.2 g (List.mem_of_mem_take hg)
      have ht1 : ∀ g ∈ gs.take (i + 1), g < 64 := fun g hg => ho.2 g (List.mem_of_mem_take hg)
      have m6 := (mb_all ht).1
      have e1 := mb_le (gs := gs.take i) (fun g hg => by have := ht g hg; omega)
      have e2 := mb_le (gs := gs.take (i + 1)) (fun g hg => by have := ht1 g hg; omega)
      have e3 : ∀ m, (∀ g ∈ gs.take (i + 1), g < 2 ^ m) ↔ (∀ g ∈ gs.take i, g < 2 ^ m) ∧ gs.getD i 0 < 2 ^ m := fun m => by
        rw [take_succ_getD (by omega)]
        simp only [List.mem_append, List.mem_singleton]
        exact ⟨fun q => ⟨fun g hg => q g (Or.inl hg), q _ (Or.inr rfl)⟩, fun q g hg => hg.elim (q.1 g) (fun z => z ▸ q.2)⟩
      rw [hg i (by omega)]
      refine r_bitsOf (by omega) (fun nb h31 hnb => ?_)
      rw [I_le (by omega) (by omega)]
      refine ⟨fun q => ?_, fun q => ⟨by omega, r_bitsOf (by omega) (fun nb2 h312 hnb2 => ?_)⟩⟩
      · have : mb (gs.take (i + 1)) = mb (gs.take i) := by
          apply Nat.le_antisymm
          · rw [e2, e3, ← e1, hnb]; exact ⟨Nat.le_refl _, q⟩
          · have := (e2 (mb (gs.take (i + 1)))).mp (Nat.le_refl _)
            rw [e3, ← e1] at this; exact this.1
        rw [this] at key; exact key
      · have : mb (gs.take (i + 1)) = nb2 := by
          have hnn : nb2 = nb := Nat.le_antisymm ((hnb2 nb).mp ((hnb nb).mpr (Nat.le_refl _))) ((hnb nb2).mp ((hnb2 nb2).mpr (Nat.le_refl _)))
          apply Nat.le_antisymm
          · rw [e2, e3, ← e1, hnb2]; exact ⟨by omega, Nat.le_refl _⟩
          · have := (e2 (mb (gs.take (i + 1)))).mp (Nat.le_refl _)
            rw [e3, hnb2] at this; exact this.2
        rw [this] at key; exact key
theorem mb_nil : mb [] = 0 := by decide
/-- a bit among the gaps -/
theorem packB_bit {b : Nat} : ∀ (gs : List Nat) (k : Nat), (∀ g ∈ gs, g < 2 ^ b) → k < b * gs.length → packB b gs / 2 ^ k % 2 = gs.getD (k / b) 0 / 2 ^ (k % b) % 2 := by
  intro gs
  induction gs with
  | nil => intro k _ h; simp at h
  | cons g gs ih =>
    intro k h hk
    have hb : 0 < b := by
      apply Nat.pos_of_ne_zero; intro z; rw [z] at hk; simp at hk
    have hg := h g List.mem_cons_self
    by_cases hkb : k < b
    · rw [Nat.div_eq_of_lt hkb, Nat.mod_eq_of_lt hkb]
      show (g + 2 ^ b * packB b gs) / 2 ^ k % 2 = g / 2 ^ k % 2
      have e : 2 ^ b = 2 ^ k * (2 * 2 ^ (b - 1 - k)) := by
        rw [show 2 * 2 ^ (b - 1 - k) = 2 ^ (b - 1 - k + 1) by rw [Nat.pow_succ]; omega, ← Nat.pow_add]; congr 1; omega
      rw [e, Nat.mul_assoc, Nat.add_mul_div_left _ _ (Nat.two_pow_pos k), Nat.mul_assoc, Nat.add_mul_mod_self_left]
    · have e1 : k = (k - b) + b := by omega
      have h1 := ih (k - b) (fun x hx => h x (List.mem_cons_of_mem _ hx)) (by rw [List.length_cons, Nat.mul_succ] at hk; omega)
      have e2 : k / b = (k - b) / b + 1 := by
        conv => lhs; rw [e1]
        rw [Nat.add_div_right _ hb]
      have e3 : k % b = (k - b) % b := by
        conv => lhs; rw [e1]
        rw [Nat.add_mod_right]
      rw [e2, e3]
      show (g + 2 ^ b * packB b gs) / 2 ^ k % 2 = gs.getD ((k - b) / b) 0 / 2 ^ ((k - b) % b) % 2
      rw [← h1]
      congr 1
      conv => lhs; rw [e1, Nat.add_comm (k - b) b, Nat.pow_add, ← Nat.div_div_eq_div_mul]
      rw [Nat.add_mul_div_left _ _ (Nat.two_pow_pos b), Nat.div_eq_of_lt hg, Nat.zero_add]
theorem l_rbyte {b from_ : Nat} {gs : List Nat} {gap dr : Nat → Int32} {dd : Int32} {K : Int32 → (Nat → Int32) → Int32 → Int32 → Int32 → Int32 → Prop} {Φ : Int32 → (Nat → Int32) → Prop} (hg : Row gap gs) (ho : gOK gs) (hb6 : b ≤ 6) (hb : ∀ g ∈ gs, g < 2 ^ b)
    (hK : K dd dr (I gs.length) (I b) (I from_) (I (packB b gs / 2 ^ from_ % 256))) :
    ∀ i k, from_ + 8 ≤ k + i → from_ ≤ k → k ≤ from_ + 8 → k ≤ b * gs.length → L_X9_putBits_62 (i + 1) dd gap dr (I gs.length) (I b) (I from_) (I (packB b gs / 2 ^ from_ % 2 ^ (k - from_))) (I k) K Φ := by
  have h40 := ho.1
  have hPl := packB_lt hb
  have hbl : b * gs.length ≤ 240 := Nat.mul_le_mul hb6 h40
  have fin : ∀ k, (from_ + 8 ≤ k ∨ b * gs.length ≤ k) → from_ ≤ k → k ≤ from_ + 8 → K dd dr (I gs.length) (I b) (I from_) (I (packB b gs / 2 ^ from_ % 2 ^ (k - from_))) := by
    intro k h1 h2 h3
    by_cases e : k = from_ + 8
    · rw [e, Nat.add_sub_cancel_left]; exact hK
    · have hq : packB b gs / 2 ^ from_ < 2 ^ (k - from_) := by
        rw [Nat.div_lt_iff_lt_mul (Nat.two_pow_pos _), ← Nat.pow_add]
        exact Nat.lt_of_lt_of_le hPl (Nat.pow_le_pow_right (by decide) (by omega))
      have hq2 : packB b gs / 2 ^ from_ < 256 := Nat.lt_of_lt_of_le hq (by
        rw [show (256 : Nat) = 2 ^ 8 from rfl]; exact Nat.pow_le_pow_right (by decide) (by omega))
      rw [Nat.mod_eq_of_lt hq]
      rw [Nat.mod_eq_of_lt hq2] at hK
      exact hK
  intro i
  induction i with
  | zero =>
    intro k h1 h2 h3 h4
    unfold L_X9_putBits_62
    rw [i_8, I_add, I_le (by omega) (by omega)]
    exact ⟨fun _ => fin k (by omega) h2 h3, fun z => by omega⟩
  | succ i ih =>
    intro k h1 h2 h3 h4
    unfold L_X9_putBits_62
    rw [i_8, I_add, I_mul, I_le (by omega) (by omega), I_le (by omega) (by omega)]
    refine ⟨fun z => fin k (by omega) h2 h3, fun z => ⟨fun y => fin k (by omega) h2 h3, fun y => ?_⟩⟩
    have hbp : 1 ≤ b := by
      apply Nat.pos_of_ne_zero; intro q; rw [q] at y; simp at y
    have hkb : k / b < gs.length := by
      rw [Nat.div_lt_iff_lt_mul hbp, Nat.mul_comm]; omega
    have hgk := ho.get (k / b)
    have hmb : k % b < b := Nat.mod_lt _ hbp
    rw [i_0, I_div (by omega) (by omega), I_mul, I_sub (Nat.div_mul_le_self k b), I_in (by omega), I_cl (by omega), hg _ hkb]
    have em : k - k / b * b = k % b := by have := Nat.div_add_mod k b; rw [Nat.mul_comm] at this; omega
    rw [em, i_31, I_sr (by omega) (by omega), i_1, I_and, I_sub h2, I_sl (by omega), I_or]
    refine ⟨ne0_I hbp (by omega), by omega, ne0_I hbp (by omega), ?_⟩
    have key := ih (k + 1) (by omega) (by omega) (by omega) (by omega)
    have hbit := packB_bit gs k hb (by omega)
    have e1 : gs.getD (k / b) 0 / 2 ^ (k % b) &&& 1 = packB b gs / 2 ^ k % 2 := by rw [hbit, Nat.and_one_is_mod]
    have e2 : packB b gs / 2 ^ from_ % 2 ^ (k - from_) ||| packB b gs / 2 ^ k % 2 * 2 ^ (k - from_) = packB b gs / 2 ^ from_ % 2 ^ (k + 1 - from_) := by
      have hm : packB b gs / 2 ^ from_ % 2 ^ (k - from_) < 2 ^ (k - from_) := Nat.mod_lt _ (Nat.two_pow_pos _)
      rw [Nat.or_comm, Nat.mul_comm, ← Nat.two_pow_add_eq_or_of_lt hm, show k + 1 - from_ = (k - from_) + 1 by omega, Nat.pow_succ, Nat.mod_mul, Nat.div_div_eq_div_mul, ← Nat.pow_add, show from_ + (k - from_) = k by omega]
      omega
    rw [e1, e2, I_add]
    exact key
theorem l_rbits {b : Nat} {l gs : List Nat} {gap : Nat → Int32} {K : Int32 → (Nat → Int32) → Prop} {Φ : Int32 → (Nat → Int32) → Prop} (hg : Row gap gs) (ho : gOK gs) (hb6 : b ≤ 6) (hb : ∀ g ∈ gs, g < 2 ^ b) (hc : l.length + (b * gs.length + 7) / 8 ≤ 16000)
    (hK : ∀ row', Row row' (l ++ bytesOf (packB b gs) ((b * gs.length + 7) / 8)) → K (I (l ++ bytesOf (packB b gs) ((b * gs.length + 7) / 8)).length) row') :
    ∀ k j row, b * gs.length ≤ 8 * j + 8 * k → j ≤ (b * gs.length + 7) / 8 → Row row (l ++ bytesOf (packB b gs) j) → L_X9_putBits_49 (k + 1) (I (l ++ bytesOf (packB b gs) j).length) gap row (I gs.length) (I b) (I (8 * j)) K Φ := by
  have h40 := ho.1
  have hbl : b * gs.length ≤ 240 := Nat.mul_le_mul hb6 h40
  intro k
  induction k with
  | zero =>
    intro j row h1 h2 h3
    unfold L_X9_putBits_49
    rw [I_mul, I_le (by omega) (by omega)]
    have : j = (b * gs.length + 7) / 8 := by omega
    subst this
    exact ⟨fun _ => hK row h3, fun z => by omega⟩
  | succ k ih =>
    intro j row h1 h2 h3
    unfold L_X9_putBits_49
    rw [I_mul, I_le (by omega) (by omega)]
    refine ⟨fun z => ?_, fun z => ⟨8 + 1, ?_⟩⟩
    · have : j = (b * gs.length + 7) / 8 := by omega
      subst this
      exact hK row h3
    · have key := l_rbyte (from_ := 8 * j) (dd := I (l ++ bytesOf (packB b gs) j).length) (dr := row) (K := fun drafted_19 draft_20 l1_21 l2_22 l3_23 l4_24 => P_X9_put drafted_19 draft_20 l4_24 (fun drafted_25 draft_26 => L_X9_putBits_49 (k + 1) drafted_25 gap draft_26 l1_21 l2_22 (l3_23 + 8) K Φ)) (Φ := Φ) hg ho hb6 hb ?_ 8 (8 * j) (by omega) (by omega) (by omega) (by omega)
      · rw [Nat.sub_self, Nat.pow_zero, Nat.mod_one] at key
        exact key
      · refine r_put h3 (by rw [List.length_append, bytesOf_len]; omega) (fun row' h4 => ?_)
        have e : l ++ bytesOf (packB b gs) j ++ [packB b gs / 2 ^ (8 * j) % 256] = l ++ bytesOf (packB b gs) (j + 1) := by rw [bytesOf_succ, List.append_assoc, pow256]
        rw [e] at h4 ⊢
        rw [i_8, I_add]
        exact ih (j + 1) row' (by omega) (by omega) h4
theorem r_bits {l gs : List Nat} {gap row : Nat → Int32} {Φ : Int32 → (Nat → Int32) → Prop} (hbr : Row row l) (hg : Row gap gs) (ho : gOK gs) (hc : l.length + (enc2 gs).length ≤ 16000)
    (h : ∀ row', Row row' (l ++ enc2 gs) → Φ (I (l ++ enc2 gs).length) row') : P_X9_putBits (I l.length) gap row (I gs.length) Φ := by
  obtain ⟨hb6, hb⟩ := mb_all ho.2
  have hlen : (enc2 gs).length = 1 + (mb gs * gs.length + 7) / 8 := by unfold enc2; rw [List.length_cons, bytesOf_len]; omega
  have h40 := ho.1
  have key := l_rmb (dd := I l.length) (dr := row) (K := fun drafted_7 draft_8 l1_9 l2_10 => P_X9_put drafted_7 draft_8 l2_10 (fun drafted_11 draft_12 => ∃ n, L_X9_putBits_49 n drafted_11 gap draft_12 l1_9 l2_10 0 (fun drafted_29 draft_30 => Φ drafted_29 draft_30) Φ)) (Φ := Φ) hg ho ?_ gs.length 0 (by omega) (by omega)
  · exact ⟨gs.length + 1, key⟩
  · refine r_put hbr (by omega) (fun row1 h1 => ⟨31 + 1, ?_⟩)
    have e0 : l ++ [mb gs] ++ bytesOf (packB (mb gs) gs) 0 = l ++ [mb gs] := by simp [bytesOf]
    have key := l_rbits (b := mb gs) (l := l ++ [mb gs]) (K := fun drafted_29 draft_30 => Φ drafted_29 draft_30) (Φ := Φ) hg ho hb6 hb (by simp only [List.length_append, List.length_singleton]; omega) ?_ 31 0 row1 (by have : mb gs * gs.length ≤ 240 := Nat.mul_le_mul hb6 h40; omega) (by omega) (by rw [e0]; exact h1)
    · rw [e0] at key
      exact key
    · intro row' h2
      have e : l ++ [mb gs] ++ bytesOf (packB (mb gs) gs) ((mb gs * gs.length + 7) / 8) = l ++ enc2 gs := by unfold enc2; simp only [List.append_assoc, List.singleton_append]
      rw [e] at h2 ⊢
      exact h row' h2
theorem l_rsev {l gs : List Nat} {gap : Nat → Int32} {K Φ : Int32 → (Nat → Int32) → Prop} (hg : Row gap gs) (ho : gOK gs) (hc : l.length + gs.length ≤ 16000)
    (hK : ∀ row', Row row' (l ++ enc0 gs) → K (I (l ++ enc0 gs).length) row') :
    ∀ k i row, gs.length ≤ i + k → i ≤ gs.length → Row row (l ++ enc0 (gs.take i)) → L_X9_putGaps_6 (k + 1) (I (l ++ enc0 (gs.take i)).length) gap row (I gs.length) (I i) K Φ := by
  have h40 := ho.1
  intro k
  induction k with
  | zero =>
    intro i row h1 h2 h3
    unfold L_X9_putGaps_6
    simp (disch := omega) only [i_0, i_1, i_2, i_3, i_4, i_5, i_6, i_7, i_8, i_9, i_10, i_11, i_12, i_15, i_16, i_20, i_24, i_30, i_31, i_32, i_40, i_57, i_60, i_61, i_63, i_64, i_65, i_73, i_90, i_97, i_100, i_101, i_109, i_115, i_122, i_127, i_128, i_255, i_256, i_320, i_512, i_600, i_601, i_1100, i_1500, i_2560, i_3000, i_6650, i_12800, i_16000, i_65521, i_65536, I_of, I_le, I_lt, I_eq, I_add, I_sub, I_mul, I_cl, I_in, I_an, I_n1]
    rw [List.take_of_length_le (by omega)] at h3 ⊢
    exact ⟨fun _ => hK row h3, fun z => by omega⟩
  | succ k ih =>
    intro i row h1 h2 h3
    unfold L_X9_putGaps_6
    simp (disch := omega) only [i_0, i_1, i_2, i_3, i_4, i_5, i_6, i_7, i_8, i_9, i_10, i_11, i_12, i_15, i_16, i_20, i_24, i_30, i_31, i_32, i_40, i_57, i_60, i_61, i_63, i_64, i_65, i_73, i_90, i_97, i_100, i_101, i_109, i_115, i_122, i_127, i_128, i_255, i_256, i_320, i_512, i_600, i_601, i_1100, i_1500, i_2560, i_3000, i_6650, i_12800, i_16000, i_65521, i_65536, I_of, I_le, I_lt, I_eq, I_add, I_sub, I_mul, I_cl, I_in, I_an, I_n1]
    refine ⟨fun z => ?_, fun z => ⟨by omega, ?_⟩⟩
    · rw [List.take_of_length_le (by omega)] at h3 ⊢
      exact hK row h3
    · rw [hg i (by omega), I_add]
      refine r_put h3 ?_ (fun row' h4 => ?_)
      · rw [List.length_append]; unfold enc0; rw [List.length_map, List.length_take]; omega
      · have e : l ++ enc0 (gs.take i) ++ [gs.getD i 0 + 128] = l ++ enc0 (gs.take (i + 1)) := by
          rw [take_succ_getD (by omega)]; unfold enc0; rw [List.map_append, List.append_assoc]; rfl
        rw [e] at h4 ⊢
        exact ih (i + 1) row' (by omega) (by omega) h4
theorem r_putGaps {c : Nat} {l gs : List Nat} {gap row : Nat → Int32} {Φ : Int32 → (Nat → Int32) → Prop} (hc3 : c ≤ 2) (hbr : Row row l) (hg : Row gap gs) (ho : gOK gs) (hc : l.length + (encG c gs).length ≤ 16000)
    (h : ∀ row', Row row' (l ++ encG c gs) → Φ (I (l ++ encG c gs).length) row') : P_X9_putGaps (I l.length) gap row (I c) (I gs.length) Φ := by
  have h40 := ho.1
  unfold P_X9_putGaps
  unfold encG at h hc
  simp (disch := omega) only [i_0, i_1, I_eq]
  refine ⟨fun q1 => ⟨fun q2 => ?_, fun q2 => ?_⟩, fun q => ?_⟩
  · rw [if_neg q1, if_neg q2] at hc
    simp only [if_neg q1, if_neg q2] at h
    exact r_bits hbr hg ho hc h
  · subst q2
    simp only [if_true] at h hc
    exact r_words hbr hg ho hc h
  · subst q
    simp only [if_true] at h hc
    have e0 : l ++ enc0 (gs.take 0) = l := by simp [enc0]
    refine ⟨gs.length + 1, ?_⟩
    have key := l_rsev (Φ := Φ) hg ho (by unfold enc0 at hc; rw [List.length_map] at hc; exact hc) h gs.length 0 row (by omega) (by omega) (by rw [e0]; exact hbr)
    rw [e0] at key
    exact key
