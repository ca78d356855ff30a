
/-! the class writes the file -/
theorem s_put {cap : Nat} {l : List Nat} {row : Nat → Int32} {x : Nat} {Φ : Int32 → (Nat → Int32) → Prop} (hb : BRow row l) (hc : l.length < cap) (hcap : cap < 2147483648)
    (h : ∀ row', BRow row' (l ++ [x % 256]) → Φ (I (l ++ [x % 256]).length) row') : P_X0_put cap (I l.length) row (I x) Φ := by
  unfold P_X0_put
  simp (disch := omega) only [i_0, i_1, i_2, i_3, i_4, i_5, i_6, i_7, i_8, i_9, i_10, i_11, i_12, i_15, i_16, i_20, i_24, i_30, i_31, i_32, i_40, i_57, i_60, i_61, i_63, i_64, i_65, i_73, i_90, i_97, i_100, i_101, i_109, i_115, i_122, i_127, i_128, i_255, i_256, i_320, i_512, i_600, i_601, i_1100, i_1500, i_2560, i_3000, i_6650, i_12800, i_16000, i_65521, i_65536, I_of, I_le, I_lt, I_eq, I_add, I_sub, I_mul, I_cl, I_in, I_an, I_n1]
  refine ⟨fun z => by omega, fun _ => ⟨hc, ?_⟩⟩
  have key := h _ (hb.put x)
  rw [List.length_append] at key
  exact key
theorem s_putb {cap : Nat} {l : List Nat} {row : Nat → Int32} {x : Nat} {Φ : Int32 → (Nat → Int32) → Prop} (hb : BRow row l) (hc : l.length < cap) (hcap : cap < 2147483648) (hx : x < 256)
    (h : ∀ row', BRow row' (l ++ [x]) → Φ (I (l ++ [x]).length) row') : P_X0_put cap (I l.length) row (I x) Φ :=
  s_put hb hc hcap (by rw [Nat.mod_eq_of_lt hx]; exact h)
theorem l_putEight {cap P : Nat} {l : List Nat} {K Φ : Int32 → (Nat → Int32) → Prop} (hP : P < 18446744073709551616) (hc : l.length + 8 ≤ cap) (hcap : cap < 2147483648)
    (hK : ∀ row', BRow row' (l ++ bytesOf P 8) → K (I (l ++ bytesOf P 8).length) row') :
    ∀ k i row, 8 ≤ i + k → i ≤ 8 → BRow row (l ++ bytesOf P i) → L_X0_putEight_2 (k + 1) cap (I (l ++ bytesOf P i).length) row (J P) (I i) K Φ := by
  intro k
  induction k with
  | zero =>
    intro i row h1 h2 h3
    unfold L_X0_putEight_2
    simp (disch := omega) only [i_0, i_1, i_2, i_3, i_4, i_5, i_6, i_7, i_8, i_9, i_10, i_11, i_12, i_15, i_16, i_20, i_24, i_30, i_31, i_32, i_40, i_57, i_60, i_61, i_63, i_64, i_65, i_73, i_90, i_97, i_100, i_101, i_109, i_115, i_122, i_127, i_128, i_255, i_256, i_320, i_512, i_600, i_601, i_1100, i_1500, i_2560, i_3000, i_6650, i_12800, i_16000, i_65521, i_65536, I_of, I_le, I_lt, I_eq, I_add, I_sub, I_mul, I_cl, I_in, I_an, I_n1]
    have : i = 8 := by omega
    subst this
    exact ⟨fun _ => hK row h3, fun z => by omega⟩
  | succ k ih =>
    intro i row h1 h2 h3
    unfold L_X0_putEight_2
    simp (disch := omega) only [i_0, i_1, i_2, i_3, i_4, i_5, i_6, i_7, i_8, i_9, i_10, i_11, i_12, i_15, i_16, i_20, i_24, i_30, i_31, i_32, i_40, i_57, i_60, i_61, i_63, i_64, i_65, i_73, i_90, i_97, i_100, i_101, i_109, i_115, i_122, i_127, i_128, i_255, i_256, i_320, i_512, i_600, i_601, i_1100, i_1500, i_2560, i_3000, i_6650, i_12800, i_16000, i_65521, i_65536, I_of, I_le, I_lt, I_eq, I_add, I_sub, I_mul, I_cl, I_in, I_an, I_n1]
    refine ⟨fun z => ?_, fun z => ?_⟩
    · have : i = 8 := by omega
      subst this
      exact hK row h3
    · rw [IJ (by omega), J_ur hP (by omega), JI, pow256]
      refine s_put h3 (by rw [List.length_append, bytesOf_len]; omega) hcap (fun row' h4 => ?_)
      have e : l ++ bytesOf P i ++ [P / 256 ^ i % 256] = l ++ bytesOf P (i + 1) := by rw [bytesOf_succ, List.append_assoc]
      rw [e] at h4 ⊢
      exact ih (i + 1) row' (by omega) (by omega) h4
theorem s_putEight {cap P : Nat} {l : List Nat} {row : Nat → Int32} {Φ : Int32 → (Nat → Int32) → Prop} (hb : BRow row l) (hP : P < 18446744073709551616) (hc : l.length + 8 ≤ cap) (hcap : cap < 2147483648)
    (h : ∀ row', BRow row' (l ++ bytesOf P 8) → Φ (I (l ++ bytesOf P 8).length) row') : P_X0_putEight cap (I l.length) row (J P) Φ := by
  have e : l ++ bytesOf P 0 = l := by simp [bytesOf]
  refine ⟨8 + 1, ?_⟩
  have := l_putEight (Φ := Φ) hP hc hcap h 8 0 row (by omega) (by omega) (by rw [e]; exact hb)
  rw [e] at this
  exact this
def gOK (gs : List Nat) : Prop := gs.length ≤ 40 ∧ ∀ g ∈ gs, g < 64
theorem gOK.get {gs : List Nat} (h : gOK gs) (i : Nat) : gs.getD i 0 < 64 := by
  by_cases e : i < gs.length
  · exact h.2 _ (getD_mem e)
  · rw [getD_over (by omega)]; omega
theorem l_sevens {cap : Nat} {l gs : List Nat} {gap : Nat → Int32} {K Φ : Int32 → (Nat → Int32) → Prop} (hg : Row gap gs) (ho : gOK gs) (hc : l.length + gs.length ≤ cap) (hcap : cap < 2147483648)
    (hK : ∀ row', BRow row' (l ++ enc0 gs) → K (I (l ++ enc0 gs).length) row') :
    ∀ k i row, gs.length ≤ i + k → i ≤ gs.length → BRow row (l ++ enc0 (gs.take i)) → L_X2_writeSevens_2 (k + 1) cap (I gs.length) gap (I (l ++ enc0 (gs.take i)).length) row (I i) K Φ := by
  have h40 := ho.1
  intro k
  induction k with
  | zero =>
    intro i row h1 h2 h3
    unfold L_X2_writeSevens_2
    simp (disch := omega) only [i_0, i_1, i_2, i_3, i_4, i_5, i_6, i_7, i_8, i_9, i_10, i_11, i_12, i_15, i_16, i_20, i_24, i_30, i_31, i_32, i_40, i_57, i_60, i_61, i_63, i_64, i_65, i_73, i_90, i_97, i_100, i_101, i_109, i_115, i_122, i_127, i_128, i_255, i_256, i_320, i_512, i_600, i_601, i_1100, i_1500, i_2560, i_3000, i_6650, i_12800, i_16000, i_65521, i_65536, I_of, I_le, I_lt, I_eq, I_add, I_sub, I_mul, I_cl, I_in, I_an, I_n1]
    rw [List.take_of_length_le (by omega)] at h3 ⊢
    exact ⟨fun _ => hK row h3, fun z => by omega⟩
  | succ k ih =>
    intro i row h1 h2 h3
    unfold L_X2_writeSevens_2
    simp (disch := omega) only [i_0, i_1, i_2, i_3, i_4, i_5, i_6, i_7, i_8, i_9, i_10, i_11, i_12, i_15, i_16, i_20, i_24, i_30, i_31, i_32, i_40, i_57, i_60, i_61, i_63, i_64, i_65, i_73, i_90, i_97, i_100, i_101, i_109, i_115, i_122, i_127, i_128, i_255, i_256, i_320, i_512, i_600, i_601, i_1100, i_1500, i_2560, i_3000, i_6650, i_12800, i_16000, i_65521, i_65536, I_of, I_le, I_lt, I_eq, I_add, I_sub, I_mul, I_cl, I_in, I_an, I_n1]
    refine ⟨fun z => ?_, fun z => ⟨by omega, ?_⟩⟩
    · rw [List.take_of_length_le (by omega)] at h3 ⊢
      exact hK row h3
    · have hgi := ho.get i
      rw [hg i (by omega), I_add]
      refine s_putb h3 ?_ hcap (by omega) (fun row' h4 => ?_)
      · rw [List.length_append]; unfold enc0; rw [List.length_map, List.length_take]; omega
      · have e : l ++ enc0 (gs.take i) ++ [gs.getD i 0 + 128] = l ++ enc0 (gs.take (i + 1)) := by
          rw [take_succ_getD (by omega)]; unfold enc0; rw [List.map_append, List.append_assoc]; rfl
        rw [e] at h4 ⊢
        exact ih (i + 1) row' (by omega) (by omega) h4
theorem s_sevens {cap : Nat} {l gs : List Nat} {gap row : Nat → Int32} {Φ : Int32 → (Nat → Int32) → Prop} (hb : BRow row l) (hg : Row gap gs) (ho : gOK gs) (hc : l.length + gs.length ≤ cap) (hcap : cap < 2147483648)
    (h : ∀ row', BRow row' (l ++ enc0 gs) → Φ (I (l ++ enc0 gs).length) row') : P_X2_writeSevens cap (I gs.length) gap (I l.length) row Φ := by
  have e : l ++ enc0 (gs.take 0) = l := by simp [enc0]
  refine ⟨gs.length + 1, ?_⟩
  have := l_sevens (Φ := Φ) hg ho hc hcap h gs.length 0 row (by omega) (by omega) (by rw [e]; exact hb)
  rw [e] at this
  exact this
/-- all of some numbers together -/
def orA (l : List Nat) : Nat := l.foldl (fun a b => a ||| b) 0
theorem orA_app (l : List Nat) (x : Nat) : orA (l ++ [x]) = orA l ||| x := by unfold orA; rw [List.foldl_append]; rfl
theorem orA_lt (n : Nat) (l : List Nat) : orA l < 2 ^ n ↔ ∀ g ∈ l, g < 2 ^ n := by
  have : ∀ (l : List Nat) (a : Nat), l.foldl (fun a b => a ||| b) a < 2 ^ n ↔ a < 2 ^ n ∧ ∀ g ∈ l, g < 2 ^ n := by
    intro l
    induction l with
    | nil => intro a; simp
    | cons x l ih =>
      intro a
      rw [List.foldl_cons, ih, or_lt]
      simp only [List.mem_cons, forall_eq_or_imp, and_assoc]
  rw [orA, this l 0]
  exact ⟨fun h => h.2, fun h => ⟨Nat.two_pow_pos _, h⟩⟩
theorem l_least {n f w : Nat} {gs : List Nat} {gap : Nat → Int32} {K : Int32 → Int32 → Int32 → Int32 → Prop} {Φ : Int32 → Prop} (hg : Row gap gs) (ho : gOK gs) (hn : gs.length = n) (hw : w ≤ 10) {l2 : Int32} (hf : f ≤ n)
    (hK : K (I f) l2 (I w) (I (orA ((gs.drop f).take (wsz w))))) :
    ∀ k i, n ≤ i + k → i ≤ n → f ≤ i → i ≤ f + wsz w → L_X2_leastWay_20 (k + 1) (I n) gap (I f) l2 (I w) (I (orA ((gs.drop f).take (i - f)))) (I i) K Φ := by
  have h40 := ho.1
  have hW := wayG_I hw
  have hws := ways hw
  have fin : ∀ i, (n ≤ i ∨ f + wsz w ≤ i) → i ≤ f + wsz w → f ≤ i → K (I f) l2 (I w) (I (orA ((gs.drop f).take (i - f)))) := by
    intro i h1 h2 h3
    by_cases e : i = f + wsz w
    · rw [e, Nat.add_sub_cancel_left]; exact hK
    · rw [List.take_of_length_le (by rw [List.length_drop]; omega)]
      rw [List.take_of_length_le (by rw [List.length_drop]; omega)] at hK
      exact hK
  intro k
  induction k with
  | zero =>
    intro i h1 h2 h3 h4
    unfold L_X2_leastWay_20
    simp (disch := omega) only [i_0, i_1, i_2, i_3, i_4, i_5, i_6, i_7, i_8, i_9, i_10, i_11, i_12, i_15, i_16, i_20, i_24, i_30, i_31, i_32, i_40, i_57, i_60, i_61, i_63, i_64, i_65, i_73, i_90, i_97, i_100, i_101, i_109, i_115, i_122, i_127, i_128, i_255, i_256, i_320, i_512, i_600, i_601, i_1100, i_1500, i_2560, i_3000, i_6650, i_12800, i_16000, i_65521, i_65536, I_of, I_le, I_lt, I_eq, I_add, I_sub, I_mul, I_cl, I_in, I_an, I_n1]
    exact ⟨fun _ => fin i (by omega) h4 h3, fun z => by omega⟩
  | succ k ih =>
    intro i h1 h2 h3 h4
    unfold L_X2_leastWay_20
    simp (disch := omega) only [i_0, i_1, i_2, i_3, i_4, i_5, i_6, i_7, i_8, i_9, i_10, i_11, i_12, i_15, i_16, i_20, i_24, i_30, i_31, i_32, i_40, i_57, i_60, i_61, i_63, i_64, i_65, i_73, i_90, i_97, i_100, i_101, i_109, i_115, i_122, i_127, i_128, i_255, i_256, i_320, i_512, i_600, i_601, i_1100, i_1500, i_2560, i_3000, i_6650, i_12800, i_16000, i_65521, i_65536, I_of, I_le, I_lt, I_eq, I_add, I_sub, I_mul, I_cl, I_in, I_an, I_n1]
    rw [hW]
    simp (disch := omega) only [i_0, i_1, i_2, i_3, i_4, i_5, i_6, i_7, i_8, i_9, i_10, i_11, i_12, i_15, i_16, i_20, i_24, i_30, i_31, i_32, i_40, i_57, i_60, i_61, i_63, i_64, i_65, i_73, i_90, i_97, i_100, i_101, i_109, i_115, i_122, i_127, i_128, i_255, i_256, i_320, i_512, i_600, i_601, i_1100, i_1500, i_2560, i_3000, i_6650, i_12800, i_16000, i_65521, i_65536, I_of, I_le, I_lt, I_eq, I_add, I_sub, I_mul, I_cl, I_in, I_an, I_n1]
    refine ⟨fun z => fin i (by omega) h4 h3, fun z => ⟨by omega, fun y => fin i (by omega) h4 h3, fun y => ⟨by omega, ?_⟩⟩⟩
    have key := ih (i + 1) (by omega) (by omega) (by omega) (by omega)
    have e : (gs.drop f).take (i + 1 - f) = (gs.drop f).take (i - f) ++ [gs.getD i 0] := by
      rw [show i + 1 - f = (i - f) + 1 by omega, take_succ_getD (by rw [List.length_drop]; omega), getD_drop, show f + (i - f) = i by omega]
    rw [e, orA_app, ← I_or] at key
    rw [hg i (by omega)]
    exact key
theorem orA_small {gs : List Nat} (h : ∀ g ∈ gs, g < 64) : orA gs < 64 := (orA_lt 6 gs).mpr h
theorem l_leastW {n f : Nat} {gs : List Nat} {gap : Nat → Int32} {K Φ : Int32 → Prop} (hg : Row gap gs) (ho : gOK gs) (hn : gs.length = n) (hf : f ≤ n) (hK : wayA 10 0 (gs.drop f) = 10 → K (I 10)) (hΦ : Φ (I (way (gs.drop f)))) :
    ∀ k w, w + k = 10 → wayA k w (gs.drop f) = wayA 10 0 (gs.drop f) → L_X2_leastWay_9 (k + 1) (I n) gap (I f) (I 10) (I w) K Φ := by
  have h40 := ho.1
  have hd : ∀ g ∈ gs.drop f, g < 64 := fun g hg => ho.2 g (List.mem_of_mem_drop hg)
  intro k
  induction k with
  | zero =>
    intro w h1 h2
    have : w = 10 := by omega
    subst this
    unfold L_X2_leastWay_9
    exact ⟨fun _ => hK h2.symm, fun z => absurd (Int32.le_refl _) z⟩
  | succ k ih =>
    intro w h1 h2
    unfold L_X2_leastWay_9
    simp (disch := omega) only [i_0, i_1, i_2, i_3, i_4, i_5, i_6, i_7, i_8, i_9, i_10, i_11, i_12, i_15, i_16, i_20, i_24, i_30, i_31, i_32, i_40, i_57, i_60, i_61, i_63, i_64, i_65, i_73, i_90, i_97, i_100, i_101, i_109, i_115, i_122, i_127, i_128, i_255, i_256, i_320, i_512, i_600, i_601, i_1100, i_1500, i_2560, i_3000, i_6650, i_12800, i_16000, i_65521, i_65536, I_of, I_le, I_lt, I_eq, I_add, I_sub, I_mul, I_cl, I_in, I_an, I_n1]
    refine ⟨fun z => by omega, fun z => ⟨n + 1, ?_⟩⟩
    have hwb := wayB_I (w := w) (by omega)
    have hws := ways (w := w) (by omega)
    have hor : orA ((gs.drop f).take (wsz w)) < 64 := orA_small (fun g hg => hd g (List.mem_of_mem_take hg))
    refine cast ?_ (l_least (w := w) (K := fun l1_7 l2_8 l3_9 l4_10 => J_X2_leastWay_59 (I n) gap l1_7 l2_8 l3_9 l4_10 (fun l1_16 l2_17 l3_18 => L_X2_leastWay_9 (k + 1) (I n) gap l1_16 l2_17 l3_18 K Φ) K Φ) (Φ := Φ) (l2 := I 10) hg ho hn (by omega) hf ?_ n f (by omega) hf (Nat.le_refl _) (by omega))
    · rw [Nat.sub_self]; rfl
    · unfold J_X2_leastWay_59
      rw [I_cl (by omega), hwb]
      by_cases h32 : wb w < 32
      · simp (disch := omega) only [i_0, i_1, i_2, i_3, i_4, i_5, i_6, i_7, i_8, i_9, i_10, i_11, i_12, i_15, i_16, i_20, i_24, i_30, i_31, i_32, i_40, i_57, i_60, i_61, i_63, i_64, i_65, i_73, i_90, i_97, i_100, i_101, i_109, i_115, i_122, i_127, i_128, i_255, i_256, i_320, i_512, i_600, i_601, i_1100, i_1500, i_2560, i_3000, i_6650, i_12800, i_16000, i_65521, i_65536, I_of, I_le, I_lt, I_eq, I_add, I_sub, I_mul, I_cl, I_in, I_an, I_n1]
        rw [I_sr (by omega) h32]
        have hlt : orA ((gs.drop f).take (wsz w)) / 2 ^ wb w < 2147483648 := Nat.lt_of_le_of_lt (Nat.div_le_self _ _) (by omega)
        simp (disch := omega) only [i_0, i_1, i_2, i_3, i_4, i_5, i_6, i_7, i_8, i_9, i_10, i_11, i_12, i_15, i_16, i_20, i_24, i_30, i_31, i_32, i_40, i_57, i_60, i_61, i_63, i_64, i_65, i_73, i_90, i_97, i_100, i_101, i_109, i_115, i_122, i_127, i_128, i_255, i_256, i_320, i_512, i_600, i_601, i_1100, i_1500, i_2560, i_3000, i_6650, i_12800, i_16000, i_65521, i_65536, I_of, I_le, I_lt, I_eq, I_add, I_sub, I_mul, I_cl, I_in, I_an, I_n1]
        have hz : orA ((gs.drop f).take (wsz w)) / 2 ^ wb w = 0 ↔ okway w (gs.drop f) = true := by
          rw [Nat.div_eq_zero_iff, orA_lt]
          unfold okway
          rw [List.all_eq_true]
          simp only [decide_eq_true_eq]
          have := Nat.two_pow_pos (wb w)
          exact ⟨fun q => q.elim (fun y => by omega) id, Or.inr⟩
        rw [wayA] at h2
        refine ⟨by omega, fun y => ih (w + 1) (by omega) ?_, fun y => ?_⟩
        · rw [if_neg (fun q => y (hz.mpr q))] at h2; exact h2
        · rw [if_pos (hz.mp y)] at h2
          rw [h2]; exact hΦ
      · have : wb w = 60 ∧ w = 10 := by
          have : w = 0 ∨ w = 1 ∨ w = 2 ∨ w = 3 ∨ w = 4 ∨ w = 5 ∨ w = 6 ∨ w = 7 ∨ w = 8 ∨ w = 9 ∨ w = 10 := by omega
          rcases this with rfl | rfl | rfl | rfl | rfl | rfl | rfl | rfl | rfl | rfl | rfl <;> first | exact ⟨rfl, rfl⟩ | exact absurd (by decide) h32
        omega
theorem s_least {n f : Nat} {gs : List Nat} {gap : Nat → Int32} {Φ : Int32 → Prop} (hg : Row gap gs) (ho : gOK gs) (hn : gs.length = n) (hf : f ≤ n) (h : Φ (I (way (gs.drop f)))) : P_X2_leastWay (I n) gap (I f) Φ :=
  ⟨10 + 1, l_leastW hg ho hn hf (fun q => by have := h; unfold way at this; rw [q] at this; exact this) h 10 0 (by omega) rfl⟩
