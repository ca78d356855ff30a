
/-! the class writes the file: whole -/
theorem getD_of {l : List Nat} {i x : Nat} (h : l[i]? = some x) : l.getD i 0 = x := by rw [List.getD_eq_getElem?_getD, h]; rfl
theorem map_get {α : Type} {l : List α} {g : α → Nat} {i : Nat} {a : α} (h : l[i]? = some a) : (l.map g).getD i 0 = g a := getD_of (by rw [List.getElem?_map, h]; rfl)
theorem CA.seg {TG : List (Nat × List Sg)} {term : Nat → Int64} {fs im fp doc : Nat → Int32} (hA : CA TG term fs im fp doc) {t j : Nat} {q : Nat × List Sg} {s : Sg} (hq : TG[t]? = some q) (hs : q.2[j]? = some s) :
    ∃ k, k = fsF TG t + j ∧ k < (SLt TG).length ∧ (SLt TG)[k]? = some s ∧ im k = I s.1 ∧ fp k = I (fpF (SLt TG) k) ∧ fp (k + 1) = I (fpF (SLt TG) k + s.2.length) ∧ fpF (SLt TG) k + s.2.length ≤ (PL (SLt TG)).length ∧ ∀ i, i < s.2.length → doc (fpF (SLt TG) k + i) = I (s.2.getD i 0) := by
  have hj : j < q.2.length := by
    apply Nat.lt_of_not_le; intro z; rw [List.getElem?_eq_none z] at hs; cases hs
  have hk : (SLt TG)[fsF TG t + j]? = some s := by
    have := flat_get (g := fun q : Nat × List Sg => q.2) hq hj
    rw [← hs, ← this]; rfl
  have hlt : fsF TG t + j < (SLt TG).length := by
    apply Nat.lt_of_not_le; intro z; rw [List.getElem?_eq_none z] at hk; cases hk
  have hft := flat_take (g := fun s : Sg => s.2) hk
  have hfl : fpF (SLt TG) (fsF TG t + j + 1) = fpF (SLt TG) (fsF TG t + j) + s.2.length := by
    unfold fpF PL; rw [hft, List.length_append]
  have hle : fpF (SLt TG) (fsF TG t + j + 1) ≤ (PL (SLt TG)).length := flat_take_le _ _ _
  obtain ⟨a1, a2, a3, a4, a5⟩ := hA
  refine ⟨fsF TG t + j, rfl, hlt, hk, ?_, a4 _ (by omega), by rw [a4 _ (by omega), hfl], by rw [← hfl]; exact hle, fun i hi => ?_⟩
  · rw [a3 _ (by rw [List.length_map]; exact hlt), map_get hk]
  · have hd := flat_get (g := fun s : Sg => s.2) hk hi
    have hlt2 : fpF (SLt TG) (fsF TG t + j) + i < (PL (SLt TG)).length := by omega
    rw [a5 _ hlt2]
    congr 1
    rw [List.getD_eq_getElem?_getD, List.getD_eq_getElem?_getD]
    congr 1
theorem l_wsegs {cap c t b N : Nat} {TG : List (Nat × List Sg)} {q : Nat × List Sg} {l : List Nat} {term : Nat → Int64} {fs im fp doc : Nat → Int32} {K Φ : Int32 → (Nat → Int32) → Int32 → (Nat → Int32) → Prop} (hA : CA TG term fs im fp doc) (hV : VT b N TG) (hq : TG[t]? = some q) (hc2 : c ≤ 2) (hc : l.length + 10 * (PL q.2).length ≤ cap) (hcap : cap < 2147483648)
    (hK : ∀ row gm gap, BRow row (l ++ q.2.flatMap (encS c)) → K (I (l ++ q.2.flatMap (encS c)).length) row gm gap) :
    ∀ k j row gm gap, q.2.length ≤ j + k → j ≤ q.2.length → BRow row (l ++ (q.2.take j).flatMap (encS c)) → L_X5_writeTerm_78 (k + 1) cap term (I (l ++ (q.2.take j).flatMap (encS c)).length) row fs im fp gm doc gap (I t) (I c) (I (fsF TG t + j)) K Φ := by
  have ht : t < TG.length := by
    apply Nat.lt_of_not_le; intro z; rw [List.getElem?_eq_none z] at hq; cases hq
  have h64 : TG.length ≤ 64 := hV.2.2.2.2.1
  have hsg := hV.segs
  have hpl := hV.2.2.2.2.2.2.2
  have hN := hV.2.2.2.1
  have hvq := (hV.2.2.2.2.2.2.1 q (List.mem_of_getElem? hq)).2.2
  have hft := flat_take (g := fun q : Nat × List Sg => q.2) hq
  have hfs : fsF TG (t + 1) = fsF TG t + q.2.length := by unfold fsF SLt; rw [hft, List.length_append]
  have hfle : fsF TG (t + 1) ≤ (SLt TG).length := flat_take_le _ _ _
  have hfs1 := hA.2.1 (t + 1) (by omega)
  rw [hfs] at hfs1
  intro k
  induction k with
  | zero =>
    intro j row gm gap h1 h2 h3
    unfold L_X5_writeTerm_78
    simp (disch := omega) only [i_0, i_1, i_2, i_3, i_4, i_5, i_6, i_7, i_8, i_9, i_10, i_11, i_12, i_15, i_16, i_20, i_24, i_30, i_31, i_32, i_40, i_57, i_60, i_61, i_63, i_64, i_65, i_73, i_90, i_97, i_100, i_101, i_109, i_115, i_122, i_127, i_128, i_255, i_256, i_320, i_512, i_600, i_601, i_1100, i_1500, i_2560, i_3000, i_6650, i_12800, i_16000, i_65521, i_65536, I_of, I_le, I_lt, I_eq, I_add, I_sub, I_mul, I_cl, I_in, I_an, I_n1]
    rw [hfs1]
    simp (disch := omega) only [i_0, i_1, i_2, i_3, i_4, i_5, i_6, i_7, i_8, i_9, i_10, i_11, i_12, i_15, i_16, i_20, i_24, i_30, i_31, i_32, i_40, i_57, i_60, i_61, i_63, i_64, i_65, i_73, i_90, i_97, i_100, i_101, i_109, i_115, i_122, i_127, i_128, i_255, i_256, i_320, i_512, i_600, i_601, i_1100, i_1500, i_2560, i_3000, i_6650, i_12800, i_16000, i_65521, i_65536, I_of, I_le, I_lt, I_eq, I_add, I_sub, I_mul, I_cl, I_in, I_an, I_n1]
    rw [List.take_of_length_le (by omega)] at h3 ⊢
    exact ⟨by omega, fun _ => hK row gm gap h3, fun z => by omega⟩
  | succ k ih =>
    intro j row gm gap h1 h2 h3
    unfold L_X5_writeTerm_78
    simp (disch := omega) only [i_0, i_1, i_2, i_3, i_4, i_5, i_6, i_7, i_8, i_9, i_10, i_11, i_12, i_15, i_16, i_20, i_24, i_30, i_31, i_32, i_40, i_57, i_60, i_61, i_63, i_64, i_65, i_73, i_90, i_97, i_100, i_101, i_109, i_115, i_122, i_127, i_128, i_255, i_256, i_320, i_512, i_600, i_601, i_1100, i_1500, i_2560, i_3000, i_6650, i_12800, i_16000, i_65521, i_65536, I_of, I_le, I_lt, I_eq, I_add, I_sub, I_mul, I_cl, I_in, I_an, I_n1]
    rw [hfs1]
    simp (disch := omega) only [i_0, i_1, i_2, i_3, i_4, i_5, i_6, i_7, i_8, i_9, i_10, i_11, i_12, i_15, i_16, i_20, i_24, i_30, i_31, i_32, i_40, i_57, i_60, i_61, i_63, i_64, i_65, i_73, i_90, i_97, i_100, i_101, i_109, i_115, i_122, i_127, i_128, i_255, i_256, i_320, i_512, i_600, i_601, i_1100, i_1500, i_2560, i_3000, i_6650, i_12800, i_16000, i_65521, i_65536, I_of, I_le, I_lt, I_eq, I_add, I_sub, I_mul, I_cl, I_in, I_an, I_n1]
    refine ⟨by omega, fun z => ?_, fun z => ⟨by omega, ?_⟩⟩
    · rw [List.take_of_length_le (by omega)] at h3 ⊢
      exact hK row gm gap h3
    · have hj : j < q.2.length := by omega
      obtain ⟨s, hs⟩ : ∃ s, q.2[j]? = some s := ⟨_, List.getElem?_eq_getElem hj⟩
      have hsm : s ∈ q.2 := List.mem_of_getElem? hs
      obtain ⟨kk, e, k1, k2, k3, k4, k5, k6, k7⟩ := hA.seg hq hs
      subst e
      have hvs := hvq.2.1 s hsm
      have hsl := hvq.seg hsm
      have hi256 : s.1 < 256 := Nat.lt_of_lt_of_le hvs.2.1 (Nat.pow_le_pow_right (by decide) hV.2.1)
      have hbound : (l ++ (q.2.take j).flatMap (encS c)).length + 10 * s.2.length ≤ cap := by
        have e1 := encSs_len (c := c) (b := b) hc2 hN (q.2.take j) (fun x hx => hvq.all x (List.mem_of_mem_take hx))
        have e2 : (PL (q.2.take (j + 1))).length ≤ (PL q.2).length := flat_take_le _ _ _
        have e3 : PL (q.2.take (j + 1)) = PL (q.2.take j) ++ s.2 := flat_take hs
        rw [e3, List.length_append] at e2
        rw [List.length_append]; omega
      have hel := encS_len (c := c) hc2 (gp_ok hvs.2.2.2.2 hN hsl 0) hvs.2.2.1
      have hes : (encS c s).length = 2 + (encG c (gp 0 s.2)).length := by unfold encS; simp only [List.length_cons]; omega
      rw [k3]
      refine s_putb h3 (by omega) hcap hi256 (fun row1 h4 => ?_)
      refine s_size (by omega) k4 k5 ?_
      refine s_putb h4 (by rw [List.length_append, List.length_singleton]; omega) hcap (by omega) (fun row2 h5 => ?_)
      refine s_take27 hvs.2.2.2.1 (by omega) (by omega) (fun d hd => by have := hvs.2.2.2.2 d hd; omega) k7 (by omega) k4 k5 (fun gap' hg => ?_)
      refine s_wgaps hc2 h5 hg (gp_ok hvs.2.2.2.2 hN hsl 0) (by simp only [List.length_append, List.length_singleton] at hbound ⊢; omega) hcap (fun row3 h6 => ?_)
      have e4 : l ++ (q.2.take j).flatMap (encS c) ++ [s.1] ++ [s.2.length] ++ encG c (gp 0 s.2) = l ++ (q.2.take (j + 1)).flatMap (encS c) := by
        rw [flat_take hs]; unfold encS; simp only [List.append_assoc, List.singleton_append, List.cons_append, List.nil_append]
      rw [e4] at h6 ⊢
      exact ih (j + 1) row3 _ gap' (by omega) (by omega) h6
theorem s_wterm {cap c t b N : Nat} {TG : List (Nat × List Sg)} {q : Nat × List Sg} {l : List Nat} {term : Nat → Int64} {fs im fp doc gap row : Nat → Int32} {gm : Int32} {Φ : Int32 → (Nat → Int32) → Int32 → (Nat → Int32) → Prop} (hA : CA TG term fs im fp doc) (hV : VT b N TG) (hq : TG[t]? = some q) (hc2 : c ≤ 2) (hc : l.length + 10 + 10 * (PL q.2).length ≤ cap) (hcap : cap < 2147483648) (hb : BRow row l)
    (h : ∀ row' gm' gap', BRow row' (l ++ encT c q) → Φ (I (l ++ encT c q).length) row' gm' gap') : P_X5_writeTerm cap term (I l.length) row fs im fp gm doc gap (I t) (I c) Φ := by
  have ht : t < TG.length := by
    apply Nat.lt_of_not_le; intro z; rw [List.getElem?_eq_none z] at hq; cases hq
  have h64 : TG.length ≤ 64 := hV.2.2.2.2.1
  have hsg := hV.segs
  have hN := hV.2.2.2.1
  obtain ⟨hok, -, hvq⟩ := hV.2.2.2.2.2.2.1 q (List.mem_of_getElem? hq)
  obtain ⟨hl1, hl2, hl3, hl4⟩ := hok.lets
  have hft := flat_take (g := fun q : Nat × List Sg => q.2) hq
  have hfs : fsF TG (t + 1) = fsF TG t + q.2.length := by unfold fsF SLt; rw [hft, List.length_append]
  have hfs1 := hA.2.1 (t + 1) (by omega)
  have hfs0 := hA.2.1 t (by omega)
  have htm : term t = J q.1 := by rw [hA.1 t (by rw [List.length_map]; exact ht), map_get hq]
  have hsl := hvq.len
  unfold P_X5_writeTerm
  simp (disch := omega) only [i_0, i_1, i_2, i_3, i_4, i_5, i_6, i_7, i_8, i_9, i_10, i_11, i_12, i_15, i_16, i_20, i_24, i_30, i_31, i_32, i_40, i_57, i_60, i_61, i_63, i_64, i_65, i_73, i_90, i_97, i_100, i_101, i_109, i_115, i_122, i_127, i_128, i_255, i_256, i_320, i_512, i_600, i_601, i_1100, i_1500, i_2560, i_3000, i_6650, i_12800, i_16000, i_65521, i_65536, I_of, I_le, I_lt, I_eq, I_add, I_sub, I_mul, I_cl, I_in, I_an, I_n1]
  rw [htm]
  refine ⟨by omega, s_lettersOf hok (s_putb hb (by omega) hcap (by omega) (fun row1 h1 => ⟨(lets q.1).length + 1, ?_⟩))⟩
  refine cast ?_ (l_wletters (cap := cap) (l := l ++ [(lets q.1).length]) (fs := fs) (im := im) (fp := fp) (doc := doc) (gm := gm) (gap := gap) (l3 := I c) (K := fun a4_size_13 a4_row_14 gaps_many_15 gaps_gap_16 l2_17 l3_18 => vp_in (l2_17 + I 1) 65 ∧ vp_in l2_17 65 ∧ P_X0_put cap a4_size_13 a4_row_14 ((fs (l2_17 + I 1 : Int32).toNatClampNeg) - (fs (l2_17 : Int32).toNatClampNeg)) (fun a4_size_19 a4_row_20 => vp_in l2_17 65 ∧ ∃ n, L_X5_writeTerm_78 n cap term a4_size_19 a4_row_20 fs im fp gaps_many_15 doc gaps_gap_16 l2_17 l3_18 (fs (l2_17 : Int32).toNatClampNeg) (fun a4_size_34 a4_row_35 gaps_many_36 gaps_gap_37 => Φ a4_size_34 a4_row_35 gaps_many_36 gaps_gap_37) Φ)) (Φ := Φ) hok (by omega) htm (by rw [List.length_append, List.length_singleton]; omega) hcap ?_ (lets q.1).length 0 row1 (by omega) (by omega) (by rw [List.take_zero, List.append_nil]; exact h1))
  · rw [List.take_zero, List.append_nil]
  · intro row2 h2
    simp (disch := omega) only [i_0, i_1, i_2, i_3, i_4, i_5, i_6, i_7, i_8, i_9, i_10, i_11, i_12, i_15, i_16, i_20, i_24, i_30, i_31, i_32, i_40, i_57, i_60, i_61, i_63, i_64, i_65, i_73, i_90, i_97, i_100, i_101, i_109, i_115, i_122, i_127, i_128, i_255, i_256, i_320, i_512, i_600, i_601, i_1100, i_1500, i_2560, i_3000, i_6650, i_12800, i_16000, i_65521, i_65536, I_of, I_le, I_lt, I_eq, I_add, I_sub, I_mul, I_cl, I_in, I_an, I_n1]
    rw [hfs0, hfs1, hfs, I_sub (by omega), Nat.add_sub_cancel_left]
    refine ⟨by omega, by omega, s_putb h2 (by simp only [List.length_append, List.length_singleton]; omega) hcap (by omega) (fun row3 h3 => ⟨by omega, q.2.length + 1, ?_⟩)⟩
    have e : l ++ [(lets q.1).length] ++ lets q.1 ++ [q.2.length] ++ q.2.flatMap (encS c) = l ++ encT c q := by
      unfold encT; simp only [List.append_assoc, List.singleton_append, List.cons_append, List.nil_append]
    have key := l_wsegs (cap := cap) (Φ := Φ) (K := Φ) (l := l ++ [(lets q.1).length] ++ lets q.1 ++ [q.2.length]) hA hV hq hc2 (by simp only [List.length_append, List.length_singleton]; omega) hcap (by rw [e]; exact h) q.2.length 0 row3 gm gap (by omega) (by omega) (by simpa using h3)
    simpa using key
theorem l_wterms {cap c b N : Nat} {TG : List (Nat × List Sg)} {l : List Nat} {term : Nat → Int64} {fs im fp doc : Nat → Int32} {bi dc : Int32} {K Φ : Int32 → (Nat → Int32) → Int32 → (Nat → Int32) → Prop} (hA : CA TG term fs im fp doc) (hV : VT b N TG) (hc2 : c ≤ 2) (hc : l.length + 10 * TG.length + 10 * (PL (SLt TG)).length ≤ cap) (hcap : cap < 2147483648)
    (hK : ∀ row gm gap, BRow row (l ++ TG.flatMap (encT c)) → (l ++ TG.flatMap (encT c)).length ≤ l.length + 10 * TG.length + 10 * (PL (SLt TG)).length → K (I (l ++ TG.flatMap (encT c)).length) row gm gap) :
    ∀ k t row gm gap, TG.length ≤ t + k → t ≤ TG.length → ((TG.take t).flatMap (encT c)).length ≤ 10 * t + 10 * (PL (SLt (TG.take t))).length → BRow row (l ++ (TG.take t).flatMap (encT c)) → L_X5_write_50 (k + 1) cap (I (l ++ (TG.take t).flatMap (encT c)).length) row bi dc (I TG.length) term fs im fp gm doc gap (I c) (I t) K Φ := by
  have h64 : TG.length ≤ 64 := hV.2.2.2.2.1
  have hN := hV.2.2.2.1
  intro k
  induction k with
  | zero =>
    intro t row gm gap h1 h2 hle h3
    unfold L_X5_write_50
    simp (disch := omega) only [i_0, i_1, i_2, i_3, i_4, i_5, i_6, i_7, i_8, i_9, i_10, i_11, i_12, i_15, i_16, i_20, i_24, i_30, i_31, i_32, i_40, i_57, i_60, i_61, i_63, i_64, i_65, i_73, i_90, i_97, i_100, i_101, i_109, i_115, i_122, i_127, i_128, i_255, i_256, i_320, i_512, i_600, i_601, i_1100, i_1500, i_2560, i_3000, i_6650, i_12800, i_16000, i_65521, i_65536, I_of, I_le, I_lt, I_eq, I_add, I_sub, I_mul, I_cl, I_in, I_an, I_n1]
    have : t = TG.length := by omega
    subst this
    rw [List.take_of_length_le (Nat.le_refl _)] at h3 hle ⊢
    exact ⟨fun _ => hK row gm gap h3 (by rw [List.length_append]; omega), fun z => by omega⟩
  | succ k ih =>
    intro t row gm gap h1 h2 hle h3
    unfold L_X5_write_50
    simp (disch := omega) only [i_0, i_1, i_2, i_3, i_4, i_5, i_6, i_7, i_8, i_9, i_10, i_11, i_12, i_15, i_16, i_20, i_24, i_30, i_31, i_32, i_40, i_57, i_60, i_61, i_63, i_64, i_65, i_73, i_90, i_97, i_100, i_101, i_109, i_115, i_122, i_127, i_128, i_255, i_256, i_320, i_512, i_600, i_601, i_1100, i_1500, i_2560, i_3000, i_6650, i_12800, i_16000, i_65521, i_65536, I_of, I_le, I_lt, I_eq, I_add, I_sub, I_mul, I_cl, I_in, I_an, I_n1]
    refine ⟨fun z => ?_, fun z => ?_⟩
    · have : t = TG.length := by omega
      subst this
      rw [List.take_of_length_le (Nat.le_refl _)] at h3 hle ⊢
      exact hK row gm gap h3 (by rw [List.length_append]; omega)
    · have ht : t < TG.length := by omega
      obtain ⟨q, hq⟩ : ∃ q, TG[t]? = some q := ⟨_, List.getElem?_eq_getElem ht⟩
      obtain ⟨hok, -, hvq⟩ := hV.2.2.2.2.2.2.1 q (List.mem_of_getElem? hq)
      have e1 : SLt (TG.take (t + 1)) = SLt (TG.take t) ++ q.2 := flat_take hq
      have e2 : (PL (SLt (TG.take (t + 1)))).length = (PL (SLt (TG.take t))).length + (PL q.2).length := by
        rw [e1]; unfold PL; rw [List.flatMap_append, List.length_append]
      have e3 : (PL (SLt (TG.take (t + 1)))).length ≤ (PL (SLt TG)).length := by
        conv => rhs; rw [← List.take_append_drop (t + 1) TG]
        unfold PL SLt
        rw [List.flatMap_append, List.flatMap_append, List.length_append]; omega
      have e4 := encT_len (c := c) hc2 hN hok hvq
      refine s_wterm hA hV hq hc2 (by rw [List.length_append]; omega) hcap h3 (fun row' gm' gap' h4 => ?_)
      rw [List.append_assoc, ← flat_take hq] at h4 ⊢
      exact ih (t + 1) row' gm' gap' (by omega) (by omega) (by rw [flat_take hq, List.length_append, e2]; omega) h4
theorem l_putSum {cap : Nat} {l : List Nat} {row : Nat → Int32} {K : Int32 → (Nat → Int32) → Int32 → Int32 → Prop} {Φ : Int32 → (Nat → Int32) → Prop} (hb : BRow row l) (hy : byt l) (hc : l.length ≤ cap) (hcap : cap < 2147483648)
    (hK : K (I l.length) row (I (ad l).1) (I (ad l).2)) :
    ∀ k i, l.length ≤ i + k → i ≤ l.length → L_X0_putSum_6 (k + 1) cap (I l.length) row (I (ad (l.take i)).1) (I (ad (l.take i)).2) (I i) K Φ := by
  intro k
  induction k with
  | zero =>
    intro i h1 h2
    unfold L_X0_putSum_6
    simp (disch := omega) only [i_0, i_1, i_2, i_3, i_4, i_5, i_6, i_7, i_8, i_9, i_10, i_11, i_12, i_15, i_16, i_20, i_24, i_30, i_31, i_32, i_40, i_57, i_60, i_61, i_63, i_64, i_65, i_73, i_90, i_97, i_100, i_101, i_109, i_115, i_122, i_127, i_128, i_255, i_256, i_320, i_512, i_600, i_601, i_1100, i_1500, i_2560, i_3000, i_6650, i_12800, i_16000, i_65521, i_65536, I_of, I_le, I_lt, I_eq, I_add, I_sub, I_mul, I_cl, I_in, I_an, I_n1]
    rw [List.take_of_length_le (by omega)]
    exact ⟨fun _ => hK, fun z => by omega⟩
  | succ k ih =>
    intro i h1 h2
    unfold L_X0_putSum_6
    simp (disch := omega) only [i_0, i_1, i_2, i_3, i_4, i_5, i_6, i_7, i_8, i_9, i_10, i_11, i_12, i_15, i_16, i_20, i_24, i_30, i_31, i_32, i_40, i_57, i_60, i_61, i_63, i_64, i_65, i_73, i_90, i_97, i_100, i_101, i_109, i_115, i_122, i_127, i_128, i_255, i_256, i_320, i_512, i_600, i_601, i_1100, i_1500, i_2560, i_3000, i_6650, i_12800, i_16000, i_65521, i_65536, I_of, I_le, I_lt, I_eq, I_add, I_sub, I_mul, I_cl, I_in, I_an, I_n1]
    refine ⟨fun z => ?_, fun z => ?_⟩
    · rw [List.take_of_length_le (by omega)]; exact hK
    · refine s_at hb rfl hc hcap (by omega) ?_
      have hby := hy.get i
      have hl := ad_lt (l.take i)
      have key := ih (i + 1) (by omega) (by omega)
      rw [ad_take (by omega)] at key
      unfold adS at key
      rw [I_add, I_mod (by omega) (by omega)]
      have hm : ((ad (l.take i)).1 + l.getD i 0) % 65521 < 65521 := Nat.mod_lt _ (by decide)
      rw [I_add, I_mod (by omega) (by omega)]
      exact key
theorem sum4_byt (l : List Nat) : byt (sum4 l) := fun b hb => by
  unfold sum4 at hb
  simp only [List.mem_cons, List.not_mem_nil, or_false] at hb
  rcases hb with rfl | rfl | rfl | rfl <;> exact Nat.mod_lt _ (by decide)
theorem s_putSum {cap : Nat} {l : List Nat} {row : Nat → Int32} {Φ : Int32 → (Nat → Int32) → Prop} (hb : BRow row l) (hy : byt l) (hc : l.length + 4 ≤ cap) (hcap : cap < 2147483648)
    (h : ∀ row', BRow row' (l ++ sum4 l) → Φ (I (l ++ sum4 l).length) row') : P_X0_putSum cap (I l.length) row Φ := by
  have hl := ad_lt l
  refine ⟨l.length + 1, ?_⟩
  have key := l_putSum (cap := cap) (K := fun size_6 row_7 l1_8 l2_9 => P_X0_put cap size_6 row_7 l1_8 (fun size_10 row_11 => P_X0_put cap size_10 row_11 ((l1_8.toUInt32 >>> ((8 : Int32).toUInt32 &&& Int32.toUInt32 31)).toInt32) (fun size_12 row_13 => P_X0_put cap size_12 row_13 l2_9 (fun size_14 row_15 => P_X0_put cap size_14 row_15 ((l2_9.toUInt32 >>> ((8 : Int32).toUInt32 &&& Int32.toUInt32 31)).toInt32) (fun size_16 row_17 => Φ size_16 row_17))))) (Φ := Φ) hb hy (by omega) hcap ?_ l.length 0 (by omega) (by omega)
  · exact key
  · refine s_put hb (by omega) hcap (fun r1 h1 => ?_)
    rw [i_8, i_31, I_ur (by omega) (by omega)]
    refine s_put h1 (by simp only [List.length_append, List.length_singleton]; omega) hcap (fun r2 h2 => ?_)
    refine s_put h2 (by simp only [List.length_append, List.length_singleton]; omega) hcap (fun r3 h3 => ?_)
    rw [I_ur (by omega) (by omega)]
    refine s_put h3 (by simp only [List.length_append, List.length_singleton]; omega) hcap (fun r4 h4 => ?_)
    have e : l ++ [(ad l).1 % 256] ++ [(ad l).1 / 2 ^ 8 % 256] ++ [(ad l).2 % 256] ++ [(ad l).2 / 2 ^ 8 % 256] = l ++ sum4 l := by
      unfold sum4; simp only [List.append_assoc, List.singleton_append]; rfl
    rw [e] at h4 ⊢
    exact h r4 h4
theorem s_write {c b N : Nat} {TG : List (Nat × List Sg)} {term : Nat → Int64} {fs im fp doc gap row : Nat → Int32} {gm sz : Int32} {Φ : Int32 → (Nat → Int32) → Int32 → (Nat → Int32) → Prop} (hA : CA TG term fs im fp doc) (hV : VT b N TG) (hc2 : c ≤ 2) (hsz : ¬ sz < 0)
    (hy : byt (body c (b, N, TG))) (h : ∀ row' gm' gap', BRow row' (E c (b, N, TG)) → (E c (b, N, TG)).length ≤ 6650 → Φ (I (E c (b, N, TG)).length) row' gm' gap') : P_X5_write 6650 sz row (I b) (I N) (I TG.length) term fs im fp gm doc gap (I c) Φ := by
  have h64 : TG.length ≤ 64 := hV.2.2.2.2.1
  have hpl := hV.2.2.2.2.2.2.2
  have hbN := hV.2.1
  have hN := hV.2.2.2.1
  unfold P_X5_write P_X0_shorten
  refine ⟨fun z => absurd z (by decide), fun _ => ⟨fun _ => ?_, fun z => absurd (Int32.not_lt.mp hsz) z⟩⟩
  have hb0 : BRow row [] := fun i hi => by simp at hi
  refine s_putb (l := []) (x := 73) hb0 (by decide) (by decide) (by decide) (fun r1 h1 => ?_)
  refine s_putb (x := 109) h1 (by simp) (by decide) (by decide) (fun r2 h2 => ?_)
  refine s_putb h2 (by simp) (by decide) (by omega) (fun r3 h3 => ?_)
  refine s_putb h3 (by simp) (by decide) (by omega) (fun r4 h4 => ?_)
  refine s_putb h4 (by simp) (by decide) (by omega) (fun r5 h5 => ?_)
  refine s_putb h5 (by simp) (by decide) (by omega) (fun r6 h6 => ⟨TG.length + 1, ?_⟩)
  have e : [] ++ [73] ++ [109] ++ [b] ++ [c] ++ [N] ++ [TG.length] = [73, 109, b, c, N, TG.length] := rfl
  rw [e] at h6 ⊢
  have key := l_wterms (cap := 6650) (l := [73, 109, b, c, N, TG.length]) (bi := I b) (dc := I N) (K := fun a3_size_23 a3_row_24 gaps_many_25 gaps_gap_26 => P_X0_putSum 6650 a3_size_23 a3_row_24 (fun a3_size_27 a3_row_28 => Φ a3_size_27 a3_row_28 gaps_many_25 gaps_gap_26)) (Φ := Φ) hA hV hc2 (by simp only [List.length_cons, List.length_nil]; omega) (by decide) ?_ TG.length 0 r6 gm gap (by omega) (by omega) (by simp) (by simpa using h6)
  · rw [List.take_zero, List.flatMap_nil, List.append_nil] at key
    exact key
  · intro r7 gm' gap' h7 hlen
    simp only [List.length_cons, List.length_nil] at hlen
    refine s_putSum h7 hy (by simp only [List.length_append, List.length_cons, List.length_nil] at hlen ⊢; omega) (by decide) (fun r8 h8 => h r8 gm' gap' h8 ?_)
    show (([73, 109, b, c, N, TG.length] ++ TG.flatMap (encT c)) ++ sum4 _).length ≤ 6650
    simp only [List.length_append, List.length_cons, List.length_nil, sum4] at hlen ⊢
    omega
