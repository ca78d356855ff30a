
/-! the class's words -/
theorem s_letterAt {a i : Nat} {Φ : Int32 → Prop} (ha : a < 18446744073709551616) (hi : i < 8) (h : Φ (I (lw a i))) : P_X7_letterAt (J a) (I i) Φ := by
  unfold P_X7_letterAt
  rw [i_8, i_7, I_sub (by omega), I_mul, IJ (by omega), J_ur ha (by omega), JI, i_255, I_and, and_255, pow256]
  exact h
theorem s_place {x i : Nat} {Φ : Int64 → Prop} (hx : x < 2147483648) (hi : i < 8) (h : Φ (J (x * 256 ^ (7 - i)))) : P_X7_place (I x) (I i) Φ := by
  unfold P_X7_place
  rw [i_8, i_7, I_sub (by omega), I_mul, IJ (by omega), IJ (by omega), j_63, J_sl (by omega), pow256]
  exact h
theorem s_letterOf {b : Nat} {Φ : Int32 → Prop} (hb : b < 256) (h : Φ (I (sm b))) : P_X7_letterOf (I b) Φ := by
  unfold P_X7_letterOf J_X7_letterOf_20
  unfold sm at h
  simp (disch := omega) only [i_0, i_1, i_2, i_3, i_4, i_5, i_6, i_7, i_8, i_9, i_10, i_11, i_12, i_15, i_16, i_20, i_24, i_30, i_31, i_32, i_40, i_57, i_60, i_61, i_63, i_64, i_65, i_73, i_90, i_97, i_100, i_101, i_109, i_115, i_122, i_127, i_128, i_255, i_256, i_320, i_512, i_600, i_601, i_1100, i_1500, i_2560, i_3000, i_6650, i_12800, i_16000, i_65521, i_65536, I_of, I_le, I_lt, I_eq, I_add, I_sub, I_mul, I_cl, I_in, I_an, I_n1]
  by_cases h1 : 97 ≤ b ∧ b ≤ 122
  · simp only [h1, and_self, if_true] at h
    refine ⟨fun q => by omega, fun q => ⟨fun _ => ⟨fun z => by omega, fun z => ⟨fun y => by omega, fun _ => h⟩⟩, fun z => by omega⟩⟩
  · by_cases h2 : 65 ≤ b ∧ b ≤ 90
    · simp only [h1, h2, and_self, if_true, if_false] at h
      refine ⟨fun q => by omega, fun q => ⟨fun z => by omega, fun z => ?_⟩⟩
      rw [I_sub (by omega), I_add]
      have : b - 65 + 97 = b + 32 := by omega
      rw [this]; exact h
    · simp only [h1, h2, if_false] at h
      refine ⟨fun q => ⟨fun _ => h, fun z => ⟨fun _ => h, fun y => by omega⟩⟩, fun q => ⟨fun z => ⟨fun _ => h, fun y => ⟨fun _ => h, fun x => by omega⟩⟩, fun z => by omega⟩⟩
theorem s_at {n i cap : Nat} {row : Nat → Int32} {Φ : Int32 → Prop} {l : List Nat} (hb : BRow row l) (hn : l.length = n) (hc : n ≤ cap) (hcap : cap < 2147483648) (hi : i < 2147483648) (h : Φ (I (l.getD i 0))) : P_X0_at cap (I n) row (I i) Φ := by
  unfold P_X0_at
  simp (disch := omega) only [i_0, i_1, i_2, i_3, i_4, i_5, i_6, i_7, i_8, i_9, i_10, i_11, i_12, i_15, i_16, i_20, i_24, i_30, i_31, i_32, i_40, i_57, i_60, i_61, i_63, i_64, i_65, i_73, i_90, i_97, i_100, i_101, i_109, i_115, i_122, i_127, i_128, i_255, i_256, i_320, i_512, i_600, i_601, i_1100, i_1500, i_2560, i_3000, i_6650, i_12800, i_16000, i_65521, i_65536, I_of, I_le, I_lt, I_eq, I_add, I_sub, I_mul, I_cl, I_in, I_an, I_n1]
  refine ⟨fun q => by omega, fun _ => ⟨fun q => ?_, fun q => ⟨by omega, ?_⟩⟩⟩
  · rw [getD_over (by omega)] at h; exact h
  · rw [← i_255, hb i (by omega)]; exact h
theorem stemL_app {m : List Nat} : m.take 8 = m → ∀ x, 3 ≤ m.length → m.length < 8 → stemL (m ++ [x]) = if x = 115 ∧ m.getD (m.length - 1) 0 ≠ 115 then m else m ++ [x] := by
  intro hm x h3 h8
  have ht : (m ++ [x]).take 8 = m ++ [x] := List.take_of_length_le (by simp; omega)
  unfold stemL
  rw [ht]
  have h1 : (m ++ [x]).length = m.length + 1 := by simp
  have h2 : (m ++ [x]).getD (m.length + 1 - 1) 0 = x := by
    rw [Nat.add_sub_cancel, getD_last]
  have h4 : (m ++ [x]).getD (m.length + 1 - 2) 0 = m.getD (m.length - 1) 0 := by
    rw [show m.length + 1 - 2 = m.length - 1 by omega, getD_app1 (by omega)]
  rw [h1, h2, h4]
  have h5 : (m ++ [x]).take (m.length + 1 - 1) = m := by simp
  rw [h5]
  have : 3 < m.length + 1 := by omega
  simp only [this, true_and]
theorem s_stem {r : List Nat} {Φ : Int64 → Prop} (hl : ltr r) (h0 : r ≠ []) (h : Φ (J (stem r))) : P_X7_withoutPluralS (J (pk (r.take 8))) (I (min 8 r.length)) Φ := by
  have hlen : (r.take 8).length = min 8 r.length := by simp
  have ht : (r.take 8).take 8 = r.take 8 := List.take_of_length_le (by simp; omega)
  have hst : stemL r = stemL (r.take 8) := by unfold stemL; rw [ht]
  unfold stem at h
  rw [hst] at h
  have hlm : ltr (r.take 8) := hl.take 8
  rw [← hlen]
  have hl8 : (r.take 8).length ≤ 8 := by simp; omega
  generalize r.take 8 = m at h hlm hl8
  have hpk := pkw_lt hlm
  unfold P_X7_withoutPluralS J_X7_withoutPluralS_33 J_X7_withoutPluralS_34
  simp (disch := omega) only [i_0, i_1, i_2, i_3, i_4, i_5, i_6, i_7, i_8, i_9, i_10, i_11, i_12, i_15, i_16, i_20, i_24, i_30, i_31, i_32, i_40, i_57, i_60, i_61, i_63, i_64, i_65, i_73, i_90, i_97, i_100, i_101, i_109, i_115, i_122, i_127, i_128, i_255, i_256, i_320, i_512, i_600, i_601, i_1100, i_1500, i_2560, i_3000, i_6650, i_12800, i_16000, i_65521, i_65536, I_of, I_le, I_lt, I_eq, I_add, I_sub, I_mul, I_cl, I_in, I_an, I_n1]
  by_cases h3 : m.length ≤ 3
  · have hs : stemL m = m := by
      unfold stemL
      rw [List.take_of_length_le (by omega), if_neg (by omega)]
    rw [hs] at h
    exact ⟨fun _ => ⟨fun _ => h, fun z => absurd trivial z⟩, fun z => absurd h3 z⟩
  · refine ⟨fun z => absurd z h3, fun _ => ?_⟩
    obtain ⟨m0, x, rfl⟩ : ∃ m0 x, m = m0 ++ [x] := ⟨m.dropLast, m.getLast (by intro e; subst e; simp at h3), (List.dropLast_concat_getLast _).symm⟩
    have e1 : (m0 ++ [x]).length = m0.length + 1 := by simp
    rw [e1] at h3 hl8 ⊢
    have hx := hlm x (by simp)
    rw [stemL_app (List.take_of_length_le (by omega)) x (by omega) (by omega)] at h
    simp (disch := omega) only [i_0, i_1, i_2, i_3, i_4, i_5, i_6, i_7, i_8, i_9, i_10, i_11, i_12, i_15, i_16, i_20, i_24, i_30, i_31, i_32, i_40, i_57, i_60, i_61, i_63, i_64, i_65, i_73, i_90, i_97, i_100, i_101, i_109, i_115, i_122, i_127, i_128, i_255, i_256, i_320, i_512, i_600, i_601, i_1100, i_1500, i_2560, i_3000, i_6650, i_12800, i_16000, i_65521, i_65536, I_of, I_le, I_lt, I_eq, I_add, I_sub, I_mul, I_cl, I_in, I_an, I_n1, Nat.add_sub_cancel]
    refine s_letterAt (by omega) (by omega) ?_
    rw [lw_pk hlm.lt (by omega), getD_last]
    simp (disch := omega) only [i_0, i_1, i_2, i_3, i_4, i_5, i_6, i_7, i_8, i_9, i_10, i_11, i_12, i_15, i_16, i_20, i_24, i_30, i_31, i_32, i_40, i_57, i_60, i_61, i_63, i_64, i_65, i_73, i_90, i_97, i_100, i_101, i_109, i_115, i_122, i_127, i_128, i_255, i_256, i_320, i_512, i_600, i_601, i_1100, i_1500, i_2560, i_3000, i_6650, i_12800, i_16000, i_65521, i_65536, I_of, I_le, I_lt, I_eq, I_add, I_sub, I_mul, I_cl, I_in, I_an, I_n1]
    refine ⟨fun q => ⟨fun _ => ?_, fun z => absurd trivial z⟩, fun q => ?_⟩
    · rw [if_neg (fun z => q z.1)] at h; exact h
    · have e2 : m0.length + 1 - 2 = m0.length - 1 := by omega
      rw [e2]
      refine s_letterAt (by omega) (by omega) ?_
      rw [lw_pk hlm.lt (by omega), getD_app1 (by omega)]
      have hy : m0.getD (m0.length - 1) 0 < 256 := byt.get (fun b hb => by have := hlm b (by simp [hb]); omega) _
      simp (disch := omega) only [i_0, i_1, i_2, i_3, i_4, i_5, i_6, i_7, i_8, i_9, i_10, i_11, i_12, i_15, i_16, i_20, i_24, i_30, i_31, i_32, i_40, i_57, i_60, i_61, i_63, i_64, i_65, i_73, i_90, i_97, i_100, i_101, i_109, i_115, i_122, i_127, i_128, i_255, i_256, i_320, i_512, i_600, i_601, i_1100, i_1500, i_2560, i_3000, i_6650, i_12800, i_16000, i_65521, i_65536, I_of, I_le, I_lt, I_eq, I_add, I_sub, I_mul, I_cl, I_in, I_an, I_n1]
      refine ⟨fun z => ⟨fun _ => ?_, fun y => absurd trivial y⟩, fun z => ⟨fun y => by simp at y, fun _ => ?_⟩⟩
      · rw [if_neg (fun y => y.2 z)] at h; exact h
      · rw [if_pos ⟨q, z⟩] at h
        refine s_place (by omega) (by omega) ?_
        rw [pk_clear (by omega) (by omega)]
        exact h
theorem l_find {n : Nat} {f : Nat → Int64} {w : Int64} {K : Prop} {Φ : Int32 → Prop} (hn : n ≤ 1500) (hK : (∀ j, j < n → f j ≠ w) → K) (hΦ : ∀ i, i < n → f i = w → Φ (I i)) :
    ∀ k i, n ≤ i + k → i ≤ n → (∀ j, j < i → f j ≠ w) → L_X7_find_2 (k + 1) (I n) f w (I i) K Φ := by
  intro k
  induction k with
  | zero =>
    intro i h1 h2 h3
    unfold L_X7_find_2
    simp (disch := omega) only [i_0, i_1, i_2, i_3, i_4, i_5, i_6, i_7, i_8, i_9, i_10, i_11, i_12, i_15, i_16, i_20, i_24, i_30, i_31, i_32, i_40, i_57, i_60, i_61, i_63, i_64, i_65, i_73, i_90, i_97, i_100, i_101, i_109, i_115, i_122, i_127, i_128, i_255, i_256, i_320, i_512, i_600, i_601, i_1100, i_1500, i_2560, i_3000, i_6650, i_12800, i_16000, i_65521, i_65536, I_of, I_le, I_lt, I_eq, I_add, I_sub, I_mul, I_cl, I_in, I_an, I_n1]
    exact ⟨fun _ => hK (fun j hj => h3 j (by omega)), fun z => by omega⟩
  | succ k ih =>
    intro i h1 h2 h3
    unfold L_X7_find_2
    simp (disch := omega) only [i_0, i_1, i_2, i_3, i_4, i_5, i_6, i_7, i_8, i_9, i_10, i_11, i_12, i_15, i_16, i_20, i_24, i_30, i_31, i_32, i_40, i_57, i_60, i_61, i_63, i_64, i_65, i_73, i_90, i_97, i_100, i_101, i_109, i_115, i_122, i_127, i_128, i_255, i_256, i_320, i_512, i_600, i_601, i_1100, i_1500, i_2560, i_3000, i_6650, i_12800, i_16000, i_65521, i_65536, I_of, I_le, I_lt, I_eq, I_add, I_sub, I_mul, I_cl, I_in, I_an, I_n1]
    refine ⟨fun _ => hK (fun j hj => h3 j (by omega)), fun z => ⟨by omega, fun q => ih (i + 1) (by omega) (by omega) (fun j hj => ?_), fun q => hΦ i (by omega) q⟩⟩
    by_cases e : j = i
    · subst e; exact q
    · exact h3 j (by omega)
theorem s_find {ds : List Nat} {f : Nat → Int64} {w : Nat} {Φ : Int32 → Prop} (hf : LRow f ds) (hb : ∀ v ∈ ds, v < 9223372036854775808) (hw : w < 9223372036854775808) (hn : ds.length ≤ 1500) (h1 : w ∉ ds → Φ (I ds.length)) (h2 : ∀ i, i < ds.length → ds.getD i 0 = w → Φ (I i)) : P_X7_find (I ds.length) f (J w) Φ := by
  have hg : ∀ i, i < ds.length → ds.getD i 0 ∈ ds := fun i hi => by
    rw [List.getD_eq_getElem?_getD, List.getElem?_eq_getElem hi]; exact List.getElem_mem hi
  refine ⟨ds.length + 1, l_find hn (fun q => h1 (fun hm => ?_)) (fun i hi q => h2 i hi ?_) ds.length 0 (by omega) (by omega) (fun j hj => by omega)⟩
  · obtain ⟨i, hi, e⟩ := List.mem_iff_getElem.mp hm
    refine q i hi ?_
    rw [hf i hi, List.getD_eq_getElem?_getD, List.getElem?_eq_getElem hi, ← e]; rfl
  · rw [hf i hi, J_eq (by have := hb _ (hg i hi); omega) (by omega)] at q
    exact q
def WOK (ds dn : List Nat) (tm : Nat → Int64) (ti : Nat → Int32) : Prop := ds.Nodup ∧ (∀ w, w ∈ ds ↔ w ∈ dn) ∧ LRow tm ds ∧ (∀ i, i < ds.length → ti i = I (dn.count (ds.getD i 0))) ∧ ∀ w ∈ dn, w < 9223372036854775808
theorem nodup_len {ds dn : List Nat} (h : ds.Nodup) (h2 : ∀ w, w ∈ ds → w ∈ dn) : ds.length ≤ dn.length :=
  List.Nodup.length_le_of_subset h (fun w hw => h2 w hw)
theorem getD_inj {ds : List Nat} (h : ds.Nodup) {i j : Nat} (hi : i < ds.length) (hj : j < ds.length) (e : ds.getD i 0 = ds.getD j 0) : i = j := by
  rw [List.getD_eq_getElem?_getD, List.getD_eq_getElem?_getD, List.getElem?_eq_getElem hi, List.getElem?_eq_getElem hj] at e
  refine (List.getElem?_inj hi h).mp ?_
  rw [List.getElem?_eq_getElem hi, List.getElem?_eq_getElem hj]
  exact congrArg some e
theorem getD_mem {ds : List Nat} {i : Nat} (hi : i < ds.length) : ds.getD i 0 ∈ ds := by
  rw [List.getD_eq_getElem?_getD, List.getElem?_eq_getElem hi]; exact List.getElem_mem hi
theorem s_take {ds dn cur : List Nat} {tm : Nat → Int64} {ti : Nat → Int32} {Φ : Int32 → Int32 → (Nat → Int64) → (Nat → Int32) → Prop} (hW : WOK ds dn tm ti) (hl : ltr cur) (hc : cur ≠ []) (hd : dn.length < 1500)
    (h : ∀ ds' tm' ti', WOK ds' (dn ++ [stem cur]) tm' ti' → Φ (I ds'.length) (I (dn ++ [stem cur]).length) tm' ti') : P_X7_take (I ds.length) (I dn.length) tm ti (J (pk (cur.take 8))) (I (min 8 cur.length)) Φ := by
  obtain ⟨w1, w2, w3, w4, w5⟩ := hW
  have hle := nodup_len w1 (fun w hw => (w2 w).mp hw)
  have hlt := (stem_ok hc hl).lt
  have hpos : 0 < cur.length := List.length_pos_iff.mpr hc
  unfold P_X7_take J_X7_take_66
  simp (disch := omega) only [i_0, i_1, i_2, i_3, i_4, i_5, i_6, i_7, i_8, i_9, i_10, i_11, i_12, i_15, i_16, i_20, i_24, i_30, i_31, i_32, i_40, i_57, i_60, i_61, i_63, i_64, i_65, i_73, i_90, i_97, i_100, i_101, i_109, i_115, i_122, i_127, i_128, i_255, i_256, i_320, i_512, i_600, i_601, i_1100, i_1500, i_2560, i_3000, i_6650, i_12800, i_16000, i_65521, i_65536, I_of, I_le, I_lt, I_eq, I_add, I_sub, I_mul, I_cl, I_in, I_an, I_n1]
  have hmin : 1 ≤ min 8 cur.length ∧ min 8 cur.length ≤ 8 := by omega
  refine ⟨fun _ => s_stem hl hc ?_, fun z => by omega⟩
  refine s_find w3 (fun v hv => w5 v ((w2 v).mp hv)) hlt (by omega) (fun hn => ?_) (fun i hi e => ?_)
  · simp (disch := omega) only [i_0, i_1, i_2, i_3, i_4, i_5, i_6, i_7, i_8, i_9, i_10, i_11, i_12, i_15, i_16, i_20, i_24, i_30, i_31, i_32, i_40, i_57, i_60, i_61, i_63, i_64, i_65, i_73, i_90, i_97, i_100, i_101, i_109, i_115, i_122, i_127, i_128, i_255, i_256, i_320, i_512, i_600, i_601, i_1100, i_1500, i_2560, i_3000, i_6650, i_12800, i_16000, i_65521, i_65536, I_of, I_le, I_lt, I_eq, I_add, I_sub, I_mul, I_cl, I_in, I_an, I_n1]
    refine ⟨fun z => absurd trivial z, fun _ => ⟨fun z => by omega, fun _ => ⟨by omega, by omega, fun z => by omega, fun _ => ⟨by omega, by omega, ?_⟩⟩⟩⟩
    have hnn : stem cur ∉ dn := fun z => hn ((w2 _).mpr z)
    have key := h (ds ++ [stem cur]) (vp_updL tm ds.length (J (stem cur))) (upd (upd ti ds.length (I 0)) ds.length ((upd ti ds.length (I 0) ds.length) + I 1)) ⟨?_, ?_, w3.put _, ?_, ?_⟩
    · simpa [I_add] using key
    · exact List.nodup_append.mpr ⟨w1, by simp, by intro a ha b hb; simp at hb; subst hb; intro e; subst e; exact hn ha⟩
    · intro w; simp [w2 w]
    · intro i hi
      by_cases e : i = ds.length
      · subst e
        rw [upd_eq, upd_eq, getD_last, I_add, List.count_append, List.count_eq_zero.mpr hnn]; simp
      · have hi' : i < ds.length := by simp at hi; omega
        rw [upd_ne e, upd_ne e, w4 i hi', getD_app1 hi', List.count_append]
        have : List.count (ds.getD i 0) [stem cur] = 0 := List.count_eq_zero.mpr (by
          simp only [List.mem_singleton]; intro q; exact hn (q ▸ getD_mem hi'))
        rw [this]; rfl
    · intro w hw
      rcases List.mem_append.mp hw with hw | hw
      · exact w5 w hw
      · simp at hw; subst hw; exact hlt
  · simp (disch := omega) only [i_0, i_1, i_2, i_3, i_4, i_5, i_6, i_7, i_8, i_9, i_10, i_11, i_12, i_15, i_16, i_20, i_24, i_30, i_31, i_32, i_40, i_57, i_60, i_61, i_63, i_64, i_65, i_73, i_90, i_97, i_100, i_101, i_109, i_115, i_122, i_127, i_128, i_255, i_256, i_320, i_512, i_600, i_601, i_1100, i_1500, i_2560, i_3000, i_6650, i_12800, i_16000, i_65521, i_65536, I_of, I_le, I_lt, I_eq, I_add, I_sub, I_mul, I_cl, I_in, I_an, I_n1]
    refine ⟨fun _ => ⟨fun z => by omega, fun _ => ⟨by omega, by omega, ?_⟩⟩, fun z => by omega⟩
    have hin : stem cur ∈ ds := e ▸ getD_mem hi
    have key := h ds tm (upd ti i (ti i + I 1)) ⟨w1, ?_, w3, ?_, ?_⟩
    · simpa [I_add] using key
    · intro w
      rw [w2 w]; simp only [List.mem_append, List.mem_singleton]
      exact ⟨Or.inl, fun z => z.elim id (fun q => q ▸ (w2 _).mp hin)⟩
    · intro j hj
      by_cases ej : j = i
      · subst ej
        rw [upd_eq, w4 j hj, I_add, e, List.count_append]; simp
      · rw [upd_ne ej, w4 j hj, List.count_append]
        have : List.count (ds.getD j 0) [stem cur] = 0 := List.count_eq_zero.mpr (by
          simp only [List.mem_singleton]; intro q; exact ej (getD_inj w1 hj hi (q.trans e.symm)))
        rw [this]; rfl
    · intro w hw
      rcases List.mem_append.mp hw with hw | hw
      · exact w5 w hw
      · simp at hw; subst hw; exact hlt
theorem l_read {bs S : List Nat} {row : Nat → Int32} {K Φ : Int32 → Int32 → (Nat → Int64) → (Nat → Int32) → Prop} (hb : BRow row bs) (hy : byt bs) (hn : bs.length ≤ 3000) (hS : S.length ≤ 1500)
    (hK : ∀ ds tm ti, WOK ds S tm ti → K (I ds.length) (I S.length) tm ti) :
    ∀ k i cur dn ds tm ti, bs.length + 1 ≤ i + k → i ≤ bs.length + 1 → (i = bs.length + 1 → cur = []) → dn ++ (toks cur (bs.drop i)).map stem = S → ltr cur → WOK ds dn tm ti →
      L_X7_read_18 (k + 1) 3000 (I ds.length) (I dn.length) (I bs.length) row tm ti (J (pk (cur.take 8))) (I (min 8 cur.length)) (I i) K Φ := by
  intro k
  induction k with
  | zero =>
    intro i cur dn ds tm ti h1 h2 h3 h4 h5 h6
    have : i = bs.length + 1 := by omega
    have hc := h3 this
    subst hc
    rw [List.drop_of_length_le (by omega)] at h4
    simp [toks] at h4
    subst h4
    unfold L_X7_read_18 P_X0_size
    simp (disch := omega) only [i_0, i_1, i_2, i_3, i_4, i_5, i_6, i_7, i_8, i_9, i_10, i_11, i_12, i_15, i_16, i_20, i_24, i_30, i_31, i_32, i_40, i_57, i_60, i_61, i_63, i_64, i_65, i_73, i_90, i_97, i_100, i_101, i_109, i_115, i_122, i_127, i_128, i_255, i_256, i_320, i_512, i_600, i_601, i_1100, i_1500, i_2560, i_3000, i_6650, i_12800, i_16000, i_65521, i_65536, I_of, I_le, I_lt, I_eq, I_add, I_sub, I_mul, I_cl, I_in, I_an, I_n1]
    exact ⟨fun _ => hK ds tm ti h6, fun z => by omega⟩
  | succ k ih =>
    intro i cur dn ds tm ti h1 h2 h3 h4 h5 h6
    unfold L_X7_read_18 P_X0_size
    simp (disch := omega) only [i_0, i_1, i_2, i_3, i_4, i_5, i_6, i_7, i_8, i_9, i_10, i_11, i_12, i_15, i_16, i_20, i_24, i_30, i_31, i_32, i_40, i_57, i_60, i_61, i_63, i_64, i_65, i_73, i_90, i_97, i_100, i_101, i_109, i_115, i_122, i_127, i_128, i_255, i_256, i_320, i_512, i_600, i_601, i_1100, i_1500, i_2560, i_3000, i_6650, i_12800, i_16000, i_65521, i_65536, I_of, I_le, I_lt, I_eq, I_add, I_sub, I_mul, I_cl, I_in, I_an, I_n1]
    refine ⟨fun z => ?_, fun z => ?_⟩
    · have hc := h3 (by omega)
      subst hc
      rw [List.drop_of_length_le (by omega)] at h4
      simp [toks] at h4
      subst h4
      exact hK ds tm ti h6
    · refine s_at hb rfl hn (by omega) (by omega) ?_
      have hb256 := hy.get i
      refine s_letterOf hb256 ?_
      by_cases hz : sm (bs.getD i 0) = 0
      · rw [hz]
        simp (disch := omega) only [i_0, i_1, i_2, i_3, i_4, i_5, i_6, i_7, i_8, i_9, i_10, i_11, i_12, i_15, i_16, i_20, i_24, i_30, i_31, i_32, i_40, i_57, i_60, i_61, i_63, i_64, i_65, i_73, i_90, i_97, i_100, i_101, i_109, i_115, i_122, i_127, i_128, i_255, i_256, i_320, i_512, i_600, i_601, i_1100, i_1500, i_2560, i_3000, i_6650, i_12800, i_16000, i_65521, i_65536, I_of, I_le, I_lt, I_eq, I_add, I_sub, I_mul, I_cl, I_in, I_an, I_n1]
        refine ⟨fun q => absurd trivial q, fun _ => ?_⟩
        by_cases hc : cur = []
        · subst hc
          have h4' : dn ++ (toks [] (bs.drop (i + 1))).map stem = S := by
            by_cases hi : i < bs.length
            · rw [drop_cons hi, toks, if_pos hz, if_pos rfl] at h4
              exact h4
            · rw [List.drop_of_length_le (by omega)] at h4 ⊢
              exact h4
          have key := ih (i + 1) [] dn ds tm ti (by omega) (by omega) (fun _ => rfl) h4' h5 h6
          unfold P_X7_take
          simp (disch := omega) only [i_0, i_1, i_2, i_3, i_4, i_5, i_6, i_7, i_8, i_9, i_10, i_11, i_12, i_15, i_16, i_20, i_24, i_30, i_31, i_32, i_40, i_57, i_60, i_61, i_63, i_64, i_65, i_73, i_90, i_97, i_100, i_101, i_109, i_115, i_122, i_127, i_128, i_255, i_256, i_320, i_512, i_600, i_601, i_1100, i_1500, i_2560, i_3000, i_6650, i_12800, i_16000, i_65521, i_65536, I_of, I_le, I_lt, I_eq, I_add, I_sub, I_mul, I_cl, I_in, I_an, I_n1]
          refine ⟨fun q => absurd (by simp) q, fun _ => ?_⟩
          simpa [pk, pkA, j_0, i_0] using key
        · have h4' : (dn ++ [stem cur]) ++ (toks [] (bs.drop (i + 1))).map stem = S := by
            by_cases hi : i < bs.length
            · rw [drop_cons hi, toks, if_pos hz, if_neg hc, List.map_cons] at h4
              simpa using h4
            · rw [List.drop_of_length_le (by omega)] at h4 ⊢
              simpa [toks, hc] using h4
          have hlen : dn.length < 1500 := by
            have := congrArg List.length h4'
            simp at this; omega
          refine s_take h6 h5 hc hlen (fun ds' tm' ti' hW => ?_)
          have key := ih (i + 1) [] (dn ++ [stem cur]) ds' tm' ti' (by omega) (by omega) (fun _ => rfl) h4' (fun x hx => by cases hx) hW
          simpa [pk, pkA, j_0, i_0] using key
      · have hi : i < bs.length := by
          apply Nat.lt_of_not_le
          intro q
          rw [getD_over q] at hz
          exact hz rfl
        have hsm := sm_ltr hz
        have h4' : dn ++ (toks (cur ++ [sm (bs.getD i 0)]) (bs.drop (i + 1))).map stem = S := by
          rw [drop_cons hi, toks, if_neg hz] at h4
          exact h4
        have h5' : ltr (cur ++ [sm (bs.getD i 0)]) := fun x hx => by
          rcases List.mem_append.mp hx with hx | hx
          · exact h5 x hx
          · simp at hx; subst hx; exact hsm
        have key := ih (i + 1) (cur ++ [sm (bs.getD i 0)]) dn ds tm ti (by omega) (by omega) (fun q => by omega) h4' h5' h6
        simp (disch := omega) only [i_0, i_1, i_2, i_3, i_4, i_5, i_6, i_7, i_8, i_9, i_10, i_11, i_12, i_15, i_16, i_20, i_24, i_30, i_31, i_32, i_40, i_57, i_60, i_61, i_63, i_64, i_65, i_73, i_90, i_97, i_100, i_101, i_109, i_115, i_122, i_127, i_128, i_255, i_256, i_320, i_512, i_600, i_601, i_1100, i_1500, i_2560, i_3000, i_6650, i_12800, i_16000, i_65521, i_65536, I_of, I_le, I_lt, I_eq, I_add, I_sub, I_mul, I_cl, I_in, I_an, I_n1]
        refine ⟨fun _ => ⟨fun q => ?_, fun q => ?_⟩, fun q => absurd q hz⟩
        · have e1 : (cur ++ [sm (bs.getD i 0)]).take 8 = cur.take 8 := by
            rw [List.take_append_of_le_length (by omega)]
          have e2 : min 8 (cur ++ [sm (bs.getD i 0)]).length = min 8 cur.length := by simp; omega
          rw [e1, e2] at key
          exact key
        · have hm8 : min 8 cur.length = cur.length := by omega
          have hlen : cur.length < 8 := by omega
          have e0 : cur.take 8 = cur := List.take_of_length_le (by omega)
          have e1 : (cur ++ [sm (bs.getD i 0)]).take 8 = cur ++ [sm (bs.getD i 0)] := List.take_of_length_le (by simp; omega)
          have e2 : min 8 (cur ++ [sm (bs.getD i 0)]).length = cur.length + 1 := by simp; omega
          rw [e1, e2] at key
          rw [hm8, e0]
          refine s_place (by omega) hlen ?_
          rw [J_or, pk_or hlen (by omega)]
          exact key
theorem s_read {bs : List Nat} {row : Nat → Int32} {d t : Int32} {tm : Nat → Int64} {ti : Nat → Int32} {Φ : Int32 → Int32 → (Nat → Int64) → (Nat → Int32) → Prop} (hb : BRow row bs) (hy : byt bs) (hn : bs.length ≤ 3000)
    (h : ∀ ds tm ti, WOK ds (stems bs) tm ti → Φ (I ds.length) (I (stems bs).length) tm ti) : P_X7_read 3000 d t (I bs.length) row tm ti Φ := by
  have hS := stems_len bs
  refine ⟨bs.length + 1 + 1, ?_⟩
  have := l_read (S := stems bs) (K := Φ) (Φ := Φ) hb hy hn (by omega) h (bs.length + 1) 0 [] [] [] tm ti (by omega) (by omega) (fun q => rfl) (by simp [stems]) (fun x hx => by cases hx) ⟨List.nodup_nil, by simp, fun i hi => by simp at hi, fun i hi => by simp at hi, by simp⟩
  simpa [pk, pkA, j_0, i_0] using this
theorem s_readTape {bs : List Nat} {row : Nat → Int32} {d t : Int32} {tm : Nat → Int64} {ti : Nat → Int32} {Φ : Int32 → Int32 → Int32 → (Nat → Int64) → (Nat → Int32) → Prop} (hb : BRow row bs) (hy : byt bs) (hn : bs.length ≤ 3000)
    (h : ∀ ds tm ti, WOK ds (stems bs) tm ti → Φ (I ds.length) (I (stems bs).length) (I 0) tm ti) : P_X8_readTape d t (I bs.length) row tm ti Φ := by
  refine s_read hb hy hn (fun ds tm ti hW => ?_)
  unfold P_X0_shorten
  simp (disch := omega) only [i_0, i_1, i_2, i_3, i_4, i_5, i_6, i_7, i_8, i_9, i_10, i_11, i_12, i_15, i_16, i_20, i_24, i_30, i_31, i_32, i_40, i_57, i_60, i_61, i_63, i_64, i_65, i_73, i_90, i_97, i_100, i_101, i_109, i_115, i_122, i_127, i_128, i_255, i_256, i_320, i_512, i_600, i_601, i_1100, i_1500, i_2560, i_3000, i_6650, i_12800, i_16000, i_65521, i_65536, I_of, I_le, I_lt, I_eq, I_add, I_sub, I_mul, I_cl, I_in, I_an, I_n1]
  exact ⟨fun z => by omega, fun _ => ⟨fun _ => h ds tm ti hW, fun z => by omega⟩⟩
