
/-! the class writes the file: an index in its rows -/
theorem split_at {α : Type} {L : List α} {t : Nat} {a : α} (h : L[t]? = some a) : L = L.take t ++ a :: L.drop (t + 1) := by
  have ht : t < L.length := by
    apply Nat.lt_of_not_le; intro q; rw [List.getElem?_eq_none q] at h; cases h
  have e := List.drop_eq_getElem_cons ht
  rw [List.getElem?_eq_getElem ht] at h
  cases h
  rw [← e, List.take_append_drop]
theorem flat_get {α β : Type} {L : List α} {g : α → List β} {t j : Nat} {a : α} (h : L[t]? = some a) (hj : j < (g a).length) : (L.flatMap g)[((L.take t).flatMap g).length + j]? = (g a)[j]? := by
  have e : L.flatMap g = (L.take t).flatMap g ++ (g a ++ (L.drop (t + 1)).flatMap g) := by
    conv => lhs; rw [split_at h]
    rw [List.flatMap_append, List.flatMap_cons]
  rw [e, List.getElem?_append_right (Nat.le_add_right _ _), Nat.add_sub_cancel_left, List.getElem?_append_left hj]
theorem flat_take {α β : Type} {L : List α} {g : α → List β} {t : Nat} {a : α} (h : L[t]? = some a) : (L.take (t + 1)).flatMap g = (L.take t).flatMap g ++ g a := by
  rw [List.take_succ, h, List.flatMap_append]; simp
theorem flat_take_le {α β : Type} (L : List α) (g : α → List β) (t : Nat) : ((L.take t).flatMap g).length ≤ (L.flatMap g).length := by
  conv => rhs; rw [← List.take_append_drop t L]
  rw [List.flatMap_append, List.length_append]; omega
def SLt (TG : List (Nat × List Sg)) : List Sg := TG.flatMap (fun q => q.2)
def PL (sl : List Sg) : List Nat := sl.flatMap (fun s => s.2)
def fsF (TG : List (Nat × List Sg)) (t : Nat) : Nat := (SLt (TG.take t)).length
def fpF (sl : List Sg) (s : Nat) : Nat := (PL (sl.take s)).length
/-- the rows of an index -/
def CA (TG : List (Nat × List Sg)) (term : Nat → Int64) (fs im fp doc : Nat → Int32) : Prop :=
  LRow term (TG.map (fun q => q.1)) ∧ (∀ t, t ≤ TG.length → fs t = I (fsF TG t)) ∧ Row im ((SLt TG).map (fun s => s.1)) ∧ (∀ s, s ≤ (SLt TG).length → fp s = I (fpF (SLt TG) s)) ∧ Row doc (PL (SLt TG))
def VS (b N : Nat) (segs : List Sg) : Prop := segs.Pairwise (fun s s' => s'.1 < s.1) ∧ (∀ s ∈ segs, 1 ≤ s.1 ∧ s.1 < 2 ^ b ∧ s.2 ≠ [] ∧ srt s.2 ∧ ∀ d ∈ s.2, d < N) ∧ (PL segs).Nodup
/-- a right index -/
def VT (b N : Nat) (TG : List (Nat × List Sg)) : Prop := 2 ≤ b ∧ b ≤ 8 ∧ 1 ≤ N ∧ N ≤ 40 ∧ TG.length ≤ 64 ∧ srt (TG.map (fun q => q.1)) ∧ (∀ q ∈ TG, okw q.1 ∧ q.2 ≠ [] ∧ VS b N q.2) ∧ (PL (SLt TG)).length ≤ 600
def VX (X : Ix) : Prop := VT X.1 X.2.1 X.2.2 ∧ 1 ≤ X.2.2.length
theorem PL_len_le (sl : List Sg) (h : ∀ s ∈ sl, s.2 ≠ []) : sl.length ≤ (PL sl).length := by
  induction sl with
  | nil => simp
  | cons s sl ih =>
    have h1 := List.length_pos_iff.mpr (h s List.mem_cons_self)
    have h2 := ih (fun x hx => h x (List.mem_cons_of_mem _ hx))
    unfold PL at *
    rw [List.flatMap_cons, List.length_append, List.length_cons]; omega
theorem nodup_lt {l : List Nat} {n : Nat} (h : l.Nodup) (h2 : ∀ d ∈ l, d < n) : l.length ≤ n := by
  have := List.Nodup.length_le_of_subset h (l₂ := List.range n) (fun d hd => List.mem_range.mpr (h2 d hd))
  rwa [List.length_range] at this
theorem VS.docs {b N : Nat} {segs : List Sg} (h : VS b N segs) : (PL segs).length ≤ N := nodup_lt h.2.2 (fun d hd => by
  obtain ⟨s, hs, hd⟩ := List.mem_flatMap.mp hd
  exact (h.2.1 s hs).2.2.2.2 d hd)
theorem VS.len {b N : Nat} {segs : List Sg} (h : VS b N segs) : segs.length ≤ N := Nat.le_trans (PL_len_le segs (fun s hs => (h.2.1 s hs).2.2.1)) h.docs
theorem VS.seg {b N : Nat} {segs : List Sg} (h : VS b N segs) {s : Sg} (hs : s ∈ segs) : s.2.length ≤ N := nodup_lt ((h.2.1 s hs).2.2.2.1).nodup (h.2.1 s hs).2.2.2.2
theorem VT.segs {b N : Nat} {TG : List (Nat × List Sg)} (h : VT b N TG) : (SLt TG).length ≤ 600 := by
  refine Nat.le_trans (PL_len_le _ (fun s hs => ?_)) h.2.2.2.2.2.2.2
  obtain ⟨q, hq, hs⟩ := List.mem_flatMap.mp hs
  exact ((h.2.2.2.2.2.2.1 q hq).2.2.2.1 s hs).2.2.1
theorem gp_len (ds : List Nat) : ∀ e, (gp e ds).length = ds.length := by
  induction ds with
  | nil => intro e; rfl
  | cons d ds ih => intro e; simp [gp, ih]
theorem gp_get (ds : List Nat) : ∀ e i, i < ds.length → (gp e ds).getD i 0 = ds.getD i 0 - (if i = 0 then e else ds.getD (i - 1) 0 + 1) := by
  induction ds with
  | nil => intro e i h; simp at h
  | cons d ds ih =>
    intro e i h
    cases i with
    | zero => simp [gp]
    | succ i =>
      have h1 := ih (d + 1) i (by simp at h; omega)
      show (gp (d + 1) ds).getD i 0 = _
      rw [h1]
      cases i with
      | zero => simp
      | succ i => simp
theorem gp_lt {ds : List Nat} {n : Nat} (h : ∀ d ∈ ds, d < n) : ∀ e, ∀ g ∈ gp e ds, g < n := by
  induction ds with
  | nil => intro e g hg; cases hg
  | cons d ds ih =>
    intro e g hg
    rcases List.mem_cons.mp hg with rfl | hg
    · have := h d List.mem_cons_self; omega
    · exact ih (fun x hx => h x (List.mem_cons_of_mem _ hx)) _ g hg
theorem gp_ok {ds : List Nat} {N : Nat} (h : ∀ d ∈ ds, d < N) (hN : N ≤ 40) (hl : ds.length ≤ N) (e : Nat) : gOK (gp e ds) := ⟨by rw [gp_len]; omega, fun g hg => by have := gp_lt h e g hg; omega⟩
theorem I_gap (d e : Nat) (h : e ≤ d) : I d - (I e - I 1) - I 1 = I (d - e) := by
  rw [← I_sub h]
  generalize I d = x
  generalize I e = y
  generalize I 1 = z
  grind
theorem l_take {f : Nat} {ds : List Nat} {fp doc : Nat → Int32} {K Φ : Int32 → (Nat → Int32) → Prop} (hs : srt ds) (hl : ds.length ≤ 40) (hf : f + ds.length ≤ 600) (hlt : ∀ d ∈ ds, d < 40) (hd : ∀ i, i < ds.length → doc (f + i) = I (ds.getD i 0))
    (hK : ∀ gap, Row gap (gp 0 ds) → K (I ds.length) gap) :
    ∀ k i e gap, ds.length ≤ i + k → i ≤ ds.length → e = (if i = 0 then 0 else ds.getD (i - 1) 0 + 1) → (∀ j, j < i → gap j = I ((gp 0 ds).getD j 0)) → L_X2_take_27 (k + 1) fp (I ds.length) doc gap (I f) (I e - I 1) (I i) K Φ := by
  have hrow : ∀ gap i, ds.length ≤ i → (∀ j, j < i → gap j = I ((gp 0 ds).getD j 0)) → Row gap (gp 0 ds) := fun gap i hi q j hj => q j (by rw [gp_len] at hj; omega)
  intro k
  induction k with
  | zero =>
    intro i e gap h1 h2 h3 h4
    unfold L_X2_take_27
    rw [I_le (by omega) (by omega)]
    exact ⟨fun _ => hK gap (hrow gap i (by omega) h4), fun z => by omega⟩
  | succ k ih =>
    intro i e gap h1 h2 h3 h4
    unfold L_X2_take_27
    rw [I_le (by omega) (by omega)]
    refine ⟨fun z => hK gap (hrow gap i (by omega) h4), fun z => ?_⟩
    have hi : i < ds.length := by omega
    have hle : e ≤ ds.getD i 0 := by
      rw [h3]
      by_cases q : i = 0
      · rw [if_pos q]; omega
      · rw [if_neg q]; have := hs.get (i := i - 1) (j := i) (by omega) hi; omega
    have hdi := hlt _ (getD_mem hi)
    rw [i_1, I_add, I_add, I_in (by omega), I_in (by omega), I_cl (by omega), I_cl (by omega), hd i hi, I_gap _ _ hle]
    refine ⟨by omega, by omega, by omega, ?_⟩
    have key := ih (i + 1) (ds.getD i 0 + 1) (upd gap i (I (ds.getD i 0 - e))) (by omega) (by omega) (by rw [if_neg (by omega), Nat.add_sub_cancel]) (fun j hj => ?_)
    · have e1 : I (ds.getD i 0 + 1) - I 1 = I (ds.getD i 0) := by rw [I_sub (by omega), Nat.add_sub_cancel]
      rw [e1] at key
      exact key
    · by_cases q : j = i
      · subst q; rw [upd_eq, gp_get _ _ _ hi, ← h3]
      · rw [upd_ne q]; exact h4 j (by omega)
theorem s_take27 {s f : Nat} {ds : List Nat} {fp doc gap : Nat → Int32} {many : Int32} {Φ : Int32 → (Nat → Int32) → Prop} (hs : srt ds) (hl : ds.length ≤ 40) (hf : f + ds.length ≤ 600) (hlt : ∀ d ∈ ds, d < 40) (hd : ∀ i, i < ds.length → doc (f + i) = I (ds.getD i 0)) (hs6 : s < 600) (h0 : fp s = I f) (h1 : fp (s + 1) = I (f + ds.length))
    (h : ∀ gap', Row gap' (gp 0 ds) → Φ (I (gp 0 ds).length) gap') : P_X2_take fp many doc gap (I s) Φ := by
  rw [gp_len] at h
  unfold P_X2_take P_X4_size
  simp (disch := omega) only [i_0, i_1, i_2, i_3, i_4, i_5, i_6, i_7, i_8, i_9, i_10, i_11, i_12, i_15, i_16, i_20, i_24, i_30, i_31, i_32, i_40, i_57, i_60, i_61, i_63, i_64, i_65, i_73, i_90, i_97, i_100, i_101, i_109, i_115, i_122, i_127, i_128, i_255, i_256, i_320, i_512, i_600, i_601, i_1100, i_1500, i_2560, i_3000, i_6650, i_12800, i_16000, i_65521, i_65536, I_of, I_le, I_lt, I_eq, I_add, I_sub, I_mul, I_cl, I_in, I_an, I_n1]
  rw [h0, h1, I_sub (by omega), Nat.add_sub_cancel_left, imin_I (by omega) (by omega), Nat.min_eq_left hl]
  refine ⟨by omega, by omega, by omega, ds.length + 1, ?_⟩
  exact l_take (fp := fp) hs hl hf hlt hd h ds.length 0 0 gap (by omega) (by omega) rfl (fun j hj => by omega)
theorem s_size {s f n : Nat} {fp : Nat → Int32} {Φ : Int32 → Prop} (hs6 : s < 600) (h0 : fp s = I f) (h1 : fp (s + 1) = I (f + n)) (h : Φ (I n)) : P_X4_size fp (I s) Φ := by
  unfold P_X4_size
  simp (disch := omega) only [i_0, i_1, i_2, i_3, i_4, i_5, i_6, i_7, i_8, i_9, i_10, i_11, i_12, i_15, i_16, i_20, i_24, i_30, i_31, i_32, i_40, i_57, i_60, i_61, i_63, i_64, i_65, i_73, i_90, i_97, i_100, i_101, i_109, i_115, i_122, i_127, i_128, i_255, i_256, i_320, i_512, i_600, i_601, i_1100, i_1500, i_2560, i_3000, i_6650, i_12800, i_16000, i_65521, i_65536, I_of, I_le, I_lt, I_eq, I_add, I_sub, I_mul, I_cl, I_in, I_an, I_n1]
  rw [h0, h1, I_sub (by omega), Nat.add_sub_cancel_left]
  exact ⟨by omega, by omega, h⟩
theorem lets_pk {m : List Nat} (h : ltr m) (h8 : m.length ≤ 8) : lets (pk m) = m := by
  unfold lets
  have e : (List.range 8).map (lw (pk m)) = m ++ List.replicate (8 - m.length) 0 := by
    apply List.ext_getElem?
    intro i
    rw [List.getElem?_map]
    by_cases hi : i < 8
    · rw [List.getElem?_range hi]
      simp only [Option.map_some]
      rw [lw_pk h.lt hi]
      by_cases hm : i < m.length
      · rw [List.getElem?_append_left hm, List.getD_eq_getElem?_getD, List.getElem?_eq_getElem hm]; rfl
      · rw [List.getElem?_append_right (by omega), getD_over (by omega), List.getElem?_replicate, if_pos (by omega)]
    · rw [List.getElem?_eq_none (by simp; omega), List.getElem?_eq_none (by simp; omega)]; rfl
  rw [e, List.takeWhile_append_of_pos (fun x hx => by have := h x hx; simp; omega)]
  cases 8 - m.length with
  | zero => simp
  | succ n => simp [List.replicate_succ]
theorem okw.lets {w : Nat} (h : okw w) : ltr (lets w) ∧ (lets w).length ≤ 8 ∧ 1 ≤ (lets w).length ∧ w = pk (lets w) := by
  obtain ⟨m, h1, h2, h3, rfl⟩ := h
  rw [lets_pk h3 h2]
  exact ⟨h3, h2, List.length_pos_iff.mpr h1, rfl⟩
theorem l_lettersOf {m : List Nat} {K : Prop} {Φ : Int32 → Prop} (h : ltr m) (h8 : m.length ≤ 8) (hK : m.length = 8 → K) (hΦ : Φ (I m.length)) :
    ∀ k i, 8 ≤ i + k → i ≤ m.length → L_X7_lettersOf_2 (k + 1) (J (pk m)) (I i) K Φ := by
  have hlt := pkw_lt h
  intro k
  induction k with
  | zero =>
    intro i h1 h2
    unfold L_X7_lettersOf_2
    simp (disch := omega) only [i_0, i_1, i_2, i_3, i_4, i_5, i_6, i_7, i_8, i_9, i_10, i_11, i_12, i_15, i_16, i_20, i_24, i_30, i_31, i_32, i_40, i_57, i_60, i_61, i_63, i_64, i_65, i_73, i_90, i_97, i_100, i_101, i_109, i_115, i_122, i_127, i_128, i_255, i_256, i_320, i_512, i_600, i_601, i_1100, i_1500, i_2560, i_3000, i_6650, i_12800, i_16000, i_65521, i_65536, I_of, I_le, I_lt, I_eq, I_add, I_sub, I_mul, I_cl, I_in, I_an, I_n1]
    exact ⟨fun _ => hK (by omega), fun z => by omega⟩
  | succ k ih =>
    intro i h1 h2
    unfold L_X7_lettersOf_2
    simp (disch := omega) only [i_0, i_1, i_2, i_3, i_4, i_5, i_6, i_7, i_8, i_9, i_10, i_11, i_12, i_15, i_16, i_20, i_24, i_30, i_31, i_32, i_40, i_57, i_60, i_61, i_63, i_64, i_65, i_73, i_90, i_97, i_100, i_101, i_109, i_115, i_122, i_127, i_128, i_255, i_256, i_320, i_512, i_600, i_601, i_1100, i_1500, i_2560, i_3000, i_6650, i_12800, i_16000, i_65521, i_65536, I_of, I_le, I_lt, I_eq, I_add, I_sub, I_mul, I_cl, I_in, I_an, I_n1]
    refine ⟨fun _ => hK (by omega), fun z => ?_⟩
    refine s_letterAt (by omega) (by omega) ?_
    rw [lw_pk h.lt (by omega)]
    have : m.getD i 0 < 256 := byt.get h.lt i
    simp (disch := omega) only [i_0, i_1, i_2, i_3, i_4, i_5, i_6, i_7, i_8, i_9, i_10, i_11, i_12, i_15, i_16, i_20, i_24, i_30, i_31, i_32, i_40, i_57, i_60, i_61, i_63, i_64, i_65, i_73, i_90, i_97, i_100, i_101, i_109, i_115, i_122, i_127, i_128, i_255, i_256, i_320, i_512, i_600, i_601, i_1100, i_1500, i_2560, i_3000, i_6650, i_12800, i_16000, i_65521, i_65536, I_of, I_le, I_lt, I_eq, I_add, I_sub, I_mul, I_cl, I_in, I_an, I_n1]
    refine ⟨fun y => ih (i + 1) (by omega) ?_, fun y => ?_⟩
    · apply Nat.lt_of_not_le; intro q; rw [getD_over q] at y; exact y rfl
    · have : i = m.length := by
        apply Nat.le_antisymm h2
        apply Nat.le_of_not_lt
        intro q
        have := h _ (getD_mem q)
        omega
      subst this; exact hΦ
theorem s_lettersOf {w : Nat} {Φ : Int32 → Prop} (h : okw w) (hΦ : Φ (I (lets w).length)) : P_X7_lettersOf (J w) Φ := by
  obtain ⟨h1, h2, h3, h4⟩ := h.lets
  rw [h4]
  rw [← h4]
  have := l_lettersOf (m := lets w) (K := Φ 8) (Φ := Φ) h1 h2 (fun q => by rw [q] at hΦ; exact hΦ) hΦ 8 0 (by omega) (by omega)
  rw [← h4] at this
  exact ⟨8 + 1, this⟩
theorem l_wletters {cap t w : Nat} {l : List Nat} {term : Nat → Int64} {fs im fp doc : Nat → Int32} {gm l3 : Int32} {gap : Nat → Int32} {K : Int32 → (Nat → Int32) → Int32 → (Nat → Int32) → Int32 → Int32 → Prop} {Φ : Int32 → (Nat → Int32) → Int32 → (Nat → Int32) → Prop} (hw : okw w) (ht : t < 64) (htm : term t = J w) (hc : l.length + (lets w).length ≤ cap) (hcap : cap < 2147483648)
    (hK : ∀ row, BRow row (l ++ lets w) → K (I (l ++ lets w).length) row gm gap (I t) l3) :
    ∀ k i row, (lets w).length ≤ i + k → i ≤ (lets w).length → BRow row (l ++ (lets w).take i) → L_X5_writeTerm_21 (k + 1) cap term (I (l ++ (lets w).take i).length) row fs im fp gm doc gap (I t) l3 (I (lets w).length) (I i) K Φ := by
  obtain ⟨hl1, hl2, hl3, hl4⟩ := hw.lets
  have hlt := hw.lt
  intro k
  induction k with
  | zero =>
    intro i row h1 h2 h3
    unfold L_X5_writeTerm_21
    simp (disch := omega) only [i_0, i_1, i_2, i_3, i_4, i_5, i_6, i_7, i_8, i_9, i_10, i_11, i_12, i_15, i_16, i_20, i_24, i_30, i_31, i_32, i_40, i_57, i_60, i_61, i_63, i_64, i_65, i_73, i_90, i_97, i_100, i_101, i_109, i_115, i_122, i_127, i_128, i_255, i_256, i_320, i_512, i_600, i_601, i_1100, i_1500, i_2560, i_3000, i_6650, i_12800, i_16000, i_65521, i_65536, I_of, I_le, I_lt, I_eq, I_add, I_sub, I_mul, I_cl, I_in, I_an, I_n1]
    rw [List.take_of_length_le (by omega)] at h3 ⊢
    exact ⟨fun _ => hK row h3, fun z => by omega⟩
  | succ k ih =>
    intro i row h1 h2 h3
    unfold L_X5_writeTerm_21
    simp (disch := omega) only [i_0, i_1, i_2, i_3, i_4, i_5, i_6, i_7, i_8, i_9, i_10, i_11, i_12, i_15, i_16, i_20, i_24, i_30, i_31, i_32, i_40, i_57, i_60, i_61, i_63, i_64, i_65, i_73, i_90, i_97, i_100, i_101, i_109, i_115, i_122, i_127, i_128, i_255, i_256, i_320, i_512, i_600, i_601, i_1100, i_1500, i_2560, i_3000, i_6650, i_12800, i_16000, i_65521, i_65536, I_of, I_le, I_lt, I_eq, I_add, I_sub, I_mul, I_cl, I_in, I_an, I_n1]
    refine ⟨fun z => ?_, fun z => ⟨ht, ?_⟩⟩
    · rw [List.take_of_length_le (by omega)] at h3 ⊢
      exact hK row h3
    · rw [htm]
      refine s_letterAt (by omega) (by omega) ?_
      have e : lw w i = (lets w).getD i 0 := by
        conv => lhs; rw [hl4]
        exact lw_pk hl1.lt (by omega)
      rw [e]
      refine s_putb h3 (by rw [List.length_append, List.length_take]; omega) hcap (byt.get hl1.lt i) (fun row' h4 => ?_)
      rw [List.append_assoc, ← take_succ_getD (by omega)] at h4 ⊢
      exact ih (i + 1) row' (by omega) (by omega) h4
theorem encS_len {c : Nat} {s : Sg} (hc : c ≤ 2) (ho : gOK (gp 0 s.2)) (h1 : s.2 ≠ []) : (encS c s).length ≤ 10 * s.2.length := by
  have hp := List.length_pos_iff.mpr h1
  have e1 := enc1_len _ (gp 0 s.2) (Nat.le_refl _)
  have hl := gp_len s.2 0
  unfold encS encG
  rw [List.length_cons, List.length_cons]
  by_cases q : c = 0
  · rw [if_pos q]; unfold enc0; rw [List.length_map, hl]; omega
  · rw [if_neg q]
    by_cases q2 : c = 1
    · rw [if_pos q2]; omega
    · rw [if_neg q2]
      unfold enc2
      rw [List.length_cons, bytesOf_len, hl]
      have := (mb_all ho.2).1
      have : mb (gp 0 s.2) * s.2.length ≤ 6 * s.2.length := Nat.mul_le_mul_right _ this
      omega
theorem encSs_len {c b N : Nat} (hc : c ≤ 2) (hN : N ≤ 40) : ∀ segs : List Sg, (∀ s ∈ segs, s.2 ≠ [] ∧ s.2.length ≤ N ∧ ∀ d ∈ s.2, d < N) → (segs.flatMap (encS c)).length ≤ 10 * (PL segs).length := by
  intro segs
  induction segs with
  | nil => intro _; simp [PL]
  | cons s segs ih =>
    intro h
    have h1 := h s List.mem_cons_self
    have h2 := ih (fun x hx => h x (List.mem_cons_of_mem _ hx))
    have h3 := encS_len (c := c) hc (gp_ok h1.2.2 hN h1.2.1 0) h1.1
    unfold PL at *
    rw [List.flatMap_cons, List.flatMap_cons, List.length_append, List.length_append]
    omega
theorem VS.all {b N : Nat} {segs : List Sg} (h : VS b N segs) : ∀ s ∈ segs, s.2 ≠ [] ∧ s.2.length ≤ N ∧ ∀ d ∈ s.2, d < N := fun s hs => ⟨(h.2.1 s hs).2.2.1, h.seg hs, (h.2.1 s hs).2.2.2.2⟩
theorem encT_len {c b N : Nat} {q : Nat × List Sg} (hc : c ≤ 2) (hN : N ≤ 40) (hw : okw q.1) (hv : VS b N q.2) : (encT c q).length ≤ 10 + 10 * (PL q.2).length := by
  have h1 := encSs_len (b := b) hc hN q.2 hv.all
  have h2 := hw.lets.2.1
  unfold encT
  simp only [List.length_cons, List.length_append]
  omega
