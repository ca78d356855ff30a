
/-! the class puts a term's segments -/
theorem s_gb {N : Nat} {f : Nat → Nat} {imp : Nat → Int32} {bound : Nat} {Φ : Int32 → Prop} (h40 : N ≤ 40) (hi : ∀ d, d < N → imp d = I (f d)) (hf : ∀ d, d < N → f d < 256) (hb : bound ≤ 256)
    (h : ∀ g, g ≤ 255 → (g = 0 ∨ (g < bound ∧ ∃ d, d < N ∧ f d = g)) → (∀ d, d < N → f d < bound → f d ≤ g) → Φ (I g)) : P_X4_greatestBelow 40 (I N) imp (I bound) Φ := by
  have key : ∀ k i g, N ≤ i + k → i ≤ N → g ≤ 255 → (g = 0 ∨ (g < bound ∧ ∃ d, d < N ∧ f d = g)) → (∀ d, d < i → f d < bound → f d ≤ g) → L_X4_greatestBelow_5 (k + 1) 40 (I N) imp (I bound) (I g) (I i) Φ Φ := by
    intro k
    induction k with
    | zero =>
      intro i g h1 h2 h3 h4 h5
      unfold L_X4_greatestBelow_5
      simp (disch := omega) only [i_0, i_1, i_2, i_3, i_4, i_5, i_6, i_7, i_8, i_9, i_10, i_11, i_12, i_15, i_16, i_20, i_24, i_30, i_31, i_32, i_40, i_57, i_60, i_61, i_63, i_64, i_65, i_73, i_90, i_97, i_100, i_101, i_109, i_115, i_122, i_127, i_128, i_255, i_256, i_320, i_512, i_600, i_601, i_1100, i_1500, i_2560, i_3000, i_6650, i_12800, i_16000, i_65521, i_65536, I_of, I_le, I_lt, I_eq, I_add, I_sub, I_mul, I_cl, I_in, I_an, I_n1]
      exact ⟨fun _ => h g h3 h4 (fun d hd => h5 d (by omega)), fun z => by omega⟩
    | succ k ih =>
      intro i g h1 h2 h3 h4 h5
      unfold L_X4_greatestBelow_5
      simp (disch := omega) only [i_0, i_1, i_2, i_3, i_4, i_5, i_6, i_7, i_8, i_9, i_10, i_11, i_12, i_15, i_16, i_20, i_24, i_30, i_31, i_32, i_40, i_57, i_60, i_61, i_63, i_64, i_65, i_73, i_90, i_97, i_100, i_101, i_109, i_115, i_122, i_127, i_128, i_255, i_256, i_320, i_512, i_600, i_601, i_1100, i_1500, i_2560, i_3000, i_6650, i_12800, i_16000, i_65521, i_65536, I_of, I_le, I_lt, I_eq, I_add, I_sub, I_mul, I_cl, I_in, I_an, I_n1]
      refine ⟨fun _ => h g h3 h4 (fun d hd => h5 d (by omega)), fun z => ⟨by omega, ?_⟩⟩
      have hfi := hf i (by omega)
      rw [hi i (by omega)]
      simp (disch := omega) only [i_0, i_1, i_2, i_3, i_4, i_5, i_6, i_7, i_8, i_9, i_10, i_11, i_12, i_15, i_16, i_20, i_24, i_30, i_31, i_32, i_40, i_57, i_60, i_61, i_63, i_64, i_65, i_73, i_90, i_97, i_100, i_101, i_109, i_115, i_122, i_127, i_128, i_255, i_256, i_320, i_512, i_600, i_601, i_1100, i_1500, i_2560, i_3000, i_6650, i_12800, i_16000, i_65521, i_65536, I_of, I_le, I_lt, I_eq, I_add, I_sub, I_mul, I_cl, I_in, I_an, I_n1]
      refine ⟨fun y => ih (i + 1) g (by omega) (by omega) h3 h4 (fun d hd hb => ?_), fun y => ⟨by omega, fun x => ih (i + 1) g (by omega) (by omega) h3 h4 (fun d hd hb => ?_), fun x => ⟨by omega, ih (i + 1) (f i) (by omega) (by omega) (by omega) (Or.inr ⟨by omega, i, by omega, rfl⟩) (fun d hd hb => ?_)⟩⟩⟩
      · by_cases e : d = i
        · subst e; omega
        · exact h5 d (by omega) hb
      · by_cases e : d = i
        · subst e; omega
        · exact h5 d (by omega) hb
      · by_cases e : d = i
        · subst e; exact Nat.le_refl _
        · have := h5 d (by omega) hb; omega
  exact ⟨N + 1, key N 0 0 (by omega) (by omega) (by omega) (Or.inl rfl) (fun d hd => by omega)⟩
def dsT (f : Nat → Nat) (i j : Nat) : List Nat := (List.range j).filter (fun d => decide (f d = i))
theorem dsT_len {f : Nat → Nat} {i j N : Nat} (h : j ≤ N) : (dsT f i j).length ≤ (dsF N f i).length := by
  unfold dsT dsF
  obtain ⟨m, e⟩ : ∃ m, N = j + m := ⟨N - j, by omega⟩
  subst e
  rw [List.range_add, List.filter_append, List.length_append]; omega
theorem dsT_succ {f : Nat → Nat} {i j : Nat} : dsT f i (j + 1) = dsT f i j ++ (if f j = i then [j] else []) := by
  unfold dsT
  rw [List.range_succ, List.filter_append]
  congr 1
  by_cases e : f j = i
  · rw [if_pos e]; simp [e]
  · rw [if_neg e]; simp [e]
theorem slt_len (TG : List (Nat × List Sg)) (w i : Nat) (segs : List Sg) (ds : List Nat) : (SLt (TG ++ [(w, segs ++ [(i, ds)])])).length = (SLt TG).length + segs.length + 1 := by
  rw [SLt_app, List.length_append, List.length_append, List.length_singleton]; omega
theorem pl_len (TG : List (Nat × List Sg)) (w i : Nat) (segs : List Sg) (ds : List Nat) : (PL (SLt (TG ++ [(w, segs ++ [(i, ds)])]))).length = (PL (SLt TG)).length + (PL segs).length + ds.length := by
  rw [SLt_app, PL_app, PL_app, PL_one, List.length_append, List.length_append]
  show (PL (SLt TG)).length + ((PL segs).length + ds.length) = _
  omega
theorem l_app46 {TG : List (Nat × List Sg)} {w i N : Nat} {segs : List Sg} {f : Nat → Nat} {b te l5 : Int32} {tm : Nat → Int64} {fs imp im : Nat → Int32} {K : Int32 → Int32 → Int32 → (Nat → Int64) → (Nat → Int32) → (Nat → Int32) → (Nat → Int32) → (Nat → Int32) → Int32 → Int32 → Prop} {Φ : Int32 → Int32 → Int32 → (Nat → Int64) → (Nat → Int32) → (Nat → Int32) → (Nat → Int32) → (Nat → Int32) → Prop}
    (h40 : N ≤ 40) (hi : ∀ d, d < N → imp d = I (f d)) (hf : ∀ d, d < N → f d < 256) (hib : i < 256) (hS : (SLt TG).length + segs.length + 1 ≤ 600) (hP : (PL (SLt TG)).length + (PL segs).length + (dsF N f i).length ≤ 600)
    (hK : ∀ fp doc, CA (TG ++ [(w, segs ++ [(i, dsF N f i)])]) tm fs im fp doc → K te (I ((SLt TG).length + segs.length + 1)) (I ((PL (SLt TG)).length + (PL segs).length + (dsF N f i).length)) tm fs im fp doc (I i) l5) :
    ∀ k j fp doc, N ≤ j + k → j ≤ N → CA (TG ++ [(w, segs ++ [(i, dsT f i j)])]) tm fs im fp doc → L_X4_appendTerm_46 (k + 1) 40 b (I N) te (I ((SLt TG).length + segs.length + 1)) (I ((PL (SLt TG)).length + (PL segs).length + (dsT f i j).length)) tm fs imp im fp doc (I i) l5 (I j) K Φ := by
  intro k
  induction k with
  | zero =>
    intro j fp doc h1 h2 h3
    have e : j = N := by omega
    subst e
    unfold L_X4_appendTerm_46
    rw [I_le (by omega) (by omega)]
    exact ⟨fun _ => hK fp doc h3, fun z => absurd (Nat.le_refl _) z⟩
  | succ k ih =>
    intro j fp doc h1 h2 h3
    unfold L_X4_appendTerm_46
    by_cases e : N ≤ j
    · have e : j = N := by omega
      subst e
      rw [I_le (by omega) (by omega)]
      exact ⟨fun _ => hK fp doc h3, fun z => absurd (Nat.le_refl _) z⟩
    · have hfj := hf j (by omega)
      rw [I_le (by omega) (by omega), I_in (by omega), I_cl (by omega), hi j (by omega), I_eq (by omega) (by omega), i_1, I_add]
      refine ⟨fun z => absurd z e, fun _ => ⟨by omega, fun z => ?_, fun z => ?_⟩⟩
      · have e2 : dsT f i (j + 1) = dsT f i j := by rw [dsT_succ, if_neg z, List.append_nil]
        have := ih (j + 1) fp doc (by omega) (by omega) (by rw [e2]; exact h3)
        rwa [e2] at this
      · have e2 : dsT f i (j + 1) = dsT f i j ++ [j] := by rw [dsT_succ, if_pos z]
        have hl := dsT_len (f := f) (i := i) (show j + 1 ≤ N by omega)
        rw [e2, List.length_append, List.length_singleton] at hl
        have e3 := slt_len TG w i segs (dsT f i j)
        have e4 := pl_len TG w i segs (dsT f i j)
        have key := s_post (d := j) h3 (by omega) (by omega) (Φ := fun r_11 po doc' fp' => L_X4_appendTerm_46 (k + 1) 40 b (I N) te (I ((SLt TG).length + segs.length + 1)) po tm fs imp im fp' doc' (I i) l5 (I (j + 1)) K Φ) (fun _ doc' fp' hA => by
          have := ih (j + 1) fp' doc' (by omega) (by omega) (by rw [e2]; exact hA)
          rw [e2, List.length_append, List.length_singleton] at this
          rw [e4]; exact this) (fun q => absurd (by omega) q)
        rw [e3, e4] at key
        exact key
theorem canonA_jump {N : Nat} {f : Nat → Nat} {g : Nat} : ∀ m, g ≤ m → (∀ d, d < N → f d ≤ m → f d ≤ g) → canonA N f m = canonA N f g := by
  intro m
  induction m with
  | zero => intro h _; rw [show g = 0 from by omega]
  | succ m ih =>
    intro h hn
    by_cases e : g = m + 1
    · rw [e]
    · have z : dsF N f (m + 1) = [] := by
        rw [List.eq_nil_iff_forall_not_mem]
        intro d hd
        have := mem_dsF.mp hd
        have := hn d this.1 (by omega)
        omega
      show (if dsF N f (m + 1) = [] then [] else [(m + 1, dsF N f (m + 1))]) ++ canonA N f m = _
      rw [if_pos z, List.nil_append]
      exact ih (by omega) (fun d hd hm => hn d hd (by omega))
theorem canonA_cons {N : Nat} {f : Nat → Nat} {g d : Nat} (h0 : g ≠ 0) (hd : d < N) (e : f d = g) : canonA N f g = (g, dsF N f g) :: canonA N f (g - 1) ∧ dsF N f g ≠ [] := by
  have z : dsF N f g ≠ [] := fun q => by
    have := mem_dsF.mpr ⟨hd, e⟩
    rw [q] at this
    exact absurd this (by simp)
  obtain ⟨m, rfl⟩ : ∃ m, g = m + 1 := ⟨g - 1, by omega⟩
  refine ⟨?_, z⟩
  show (if dsF N f (m + 1) = [] then [] else [(m + 1, dsF N f (m + 1))]) ++ canonA N f m = _
  rw [if_neg z]; rfl
theorem canon_len {N b : Nat} {f : Nat → Nat} (hb : b ≤ 8) (hf : ∀ d, d < N → f d < 2 ^ b) : (canon N f).length ≤ N := by
  have a := PL_len_le (canon N f) (fun s hs => (mem_canon.mp hs).2.2.2)
  rw [PL_canon_len hb hf] at a
  have c := List.length_filter_le (fun d => decide (0 < f d)) (List.range N)
  rw [List.length_range] at c
  omega
theorem l_app22 {TG : List (Nat × List Sg)} {w N b : Nat} {f : Nat → Nat} {bb : Int32} {imp : Nat → Int32} {K Φ : Int32 → Int32 → Int32 → (Nat → Int64) → (Nat → Int32) → (Nat → Int32) → (Nat → Int32) → (Nat → Int32) → Prop}
    (h40 : N ≤ 40) (hb : b ≤ 8) (hi : ∀ d, d < N → imp d = I (f d)) (hf : ∀ d, d < N → f d < 2 ^ b) (h64 : TG.length < 64) (hS : (SLt TG).length + (canon N f).length ≤ 600) (hP : (PL (SLt TG)).length + (PL (canon N f)).length ≤ 600)
    (hK : ∀ tm fs im fp doc, CA (TG ++ [(w, canon N f)]) tm fs im fp doc → K (I (TG.length + 1)) (I ((SLt TG).length + (canon N f).length)) (I ((PL (SLt TG)).length + (PL (canon N f)).length)) tm fs im fp doc) :
    ∀ k segs g tm fs im fp doc, N ≤ segs.length + k → segs ++ canonA N f g = canon N f → g ≤ 255 → (g = 0 ∨ ∃ d, d < N ∧ f d = g) → CA (TG ++ [(w, segs)]) tm fs im fp doc →
      L_X4_appendTerm_22 (k + 1) 40 bb (I N) (I (TG.length + 1)) (I ((SLt TG).length + segs.length)) (I ((PL (SLt TG)).length + (PL segs).length)) tm fs imp im fp doc (I g) (I segs.length) K Φ := by
  have hcl := canon_len hb hf
  have hf8 : ∀ d, d < N → f d < 256 := fun d hd => Nat.lt_of_lt_of_le (hf d hd) (Nat.pow_le_pow_right (n := 2) (by omega) hb)
  have fin : ∀ segs tm fs im fp doc, segs = canon N f → CA (TG ++ [(w, segs)]) tm fs im fp doc → K (I (TG.length + 1)) (I ((SLt TG).length + segs.length)) (I ((PL (SLt TG)).length + (PL segs).length)) tm fs im fp doc := fun segs tm fs im fp doc e hA => by subst e; exact hK _ _ _ _ _ hA
  have don : ∀ segs g, segs ++ canonA N f g = canon N f → N ≤ segs.length → segs = canon N f := fun segs g e hl => by
    have e2 := congrArg List.length e
    rw [List.length_append] at e2
    have e3 : canonA N f g = [] := List.eq_nil_of_length_eq_zero (by omega)
    rw [e3, List.append_nil] at e; exact e
  intro k
  induction k with
  | zero =>
    intro segs g tm fs im fp doc h1 h2 h3 h4 h5
    have h6 := congrArg List.length h2
    rw [List.length_append] at h6
    unfold L_X4_appendTerm_22
    rw [I_le (by omega) (by omega)]
    exact ⟨fun z => fin segs _ _ _ _ _ (don segs g h2 z) h5, fun z => absurd (by omega) z⟩
  | succ k ih =>
    intro segs g tm fs im fp doc h1 h2 h3 h4 h5
    have h6 := congrArg List.length h2
    rw [List.length_append] at h6
    unfold L_X4_appendTerm_22
    rw [I_le (by omega) (by omega), i_0, I_le (by omega) (by omega)]
    refine ⟨fun z => fin segs _ _ _ _ _ (don segs g h2 z) h5, fun z => ⟨fun y => ?_, fun y => ?_⟩⟩
    · have : g = 0 := by omega
      subst this
      exact fin segs _ _ _ _ _ (by rw [← h2]; exact (List.append_nil _).symm) h5
    · obtain ⟨d, hd, hg⟩ : ∃ d, d < N ∧ f d = g := by
        rcases h4 with q | q
        · omega
        · exact q
      obtain ⟨c1, c2⟩ := canonA_cons (f := f) (by omega) hd hg
      have e1 : (SLt (TG ++ [(w, segs)])).length = (SLt TG).length + segs.length := by rw [SLt_app, List.length_append]
      have e2 : (PL (SLt (TG ++ [(w, segs)]))).length = (PL (SLt TG)).length + (PL segs).length := by rw [SLt_app, PL_app, List.length_append]
      have e3 : segs ++ [(g, dsF N f g)] ++ canonA N f (g - 1) = canon N f := by rw [← h2, c1, List.append_assoc]; rfl
      have e4 := congrArg List.length e3
      simp only [List.length_append, List.length_singleton] at e4
      have e5 := congrArg (fun l => (PL l).length) e3
      simp only [PL_app, PL_one, List.length_append] at e5
      have key := s_startSeg (i := g) h5 h64 (by omega) (Φ := fun r_6 se im' fs' fp' => ∃ n, L_X4_appendTerm_46 n 40 bb (I N) (I (TG.length + 1)) se (I ((PL (SLt TG)).length + (PL segs).length)) tm fs' imp im' fp' doc (I g) (I segs.length) (I 0) (fun terms_25 segments_26 postings_27 term_28 firstSegment_29 impact_30 firstPosting_31 document_32 l4_33 l5_34 => P_X4_greatestBelow 40 (I N) imp l4_33 (fun r_35 => L_X4_appendTerm_22 (k + 1) 40 bb (I N) terms_25 segments_26 postings_27 term_28 firstSegment_29 imp impact_30 firstPosting_31 document_32 r_35 (l5_34 + 1) K Φ)) Φ) (fun _ im' fs' fp' hA => by
        refine ⟨N + 1, ?_⟩
        rw [e1]
        have key2 := l_app46 (w := w) (segs := segs) (b := bb) (te := I (TG.length + 1)) (l5 := I segs.length) (tm := tm) (fs := fs') (im := im') (Φ := Φ) (K := fun terms_25 segments_26 postings_27 term_28 firstSegment_29 impact_30 firstPosting_31 document_32 l4_33 l5_34 => P_X4_greatestBelow 40 (I N) imp l4_33 (fun r_35 => L_X4_appendTerm_22 (k + 1) 40 bb (I N) terms_25 segments_26 postings_27 term_28 firstSegment_29 imp impact_30 firstPosting_31 document_32 r_35 (l5_34 + 1) K Φ)) h40 hi hf8 (i := g) (by omega) (by omega) (by omega) (fun fp2 doc2 hA2 => by
          refine s_gb h40 hi hf8 (by omega) (fun g2 g3 g4 g5 => ?_)
          have e6 : canonA N f (g - 1) = canonA N f g2 := canonA_jump _ (by rcases g4 with q | ⟨q, -⟩ <;> omega) (fun d hd hm => g5 d hd (by omega))
          have := ih (segs ++ [(g, dsF N f g)]) g2 tm fs' im' fp2 doc2 (by rw [List.length_append, List.length_singleton]; omega) (by rw [← e6]; exact e3) g3 (by rcases g4 with q | ⟨-, q⟩; exact Or.inl q; exact Or.inr q) hA2
          rw [List.length_append, List.length_singleton, PL_app, PL_one, List.length_append, ← Nat.add_assoc, ← Nat.add_assoc] at this
          rw [i_1, I_add]; exact this) N 0 fp' doc (by omega) (by omega) hA
        exact key2) (fun q => absurd (by omega) q)
      rw [e1, e2] at key
      exact key
theorem s_appendTerm {TG : List (Nat × List Sg)} {w N b : Nat} {f : Nat → Nat} {tm : Nat → Int64} {fs imp im fp doc : Nat → Int32} {Φ : Int32 → Int32 → Int32 → (Nat → Int64) → (Nat → Int32) → (Nat → Int32) → (Nat → Int32) → (Nat → Int32) → Prop}
    (hA : CA TG tm fs im fp doc) (h40 : N ≤ 40) (hb : b ≤ 8) (hi : ∀ d, d < N → imp d = I (f d)) (hf : ∀ d, d < N → f d < 2 ^ b) (h64 : TG.length < 64) (hS : (SLt TG).length + (canon N f).length ≤ 600) (hP : (PL (SLt TG)).length + (PL (canon N f)).length ≤ 600)
    (h : ∀ tm fs im fp doc, CA (TG ++ [(w, canon N f)]) tm fs im fp doc → Φ (I (TG.length + 1)) (I ((SLt TG).length + (canon N f).length)) (I ((PL (SLt TG)).length + (PL (canon N f)).length)) tm fs im fp doc) :
    P_X4_appendTerm 40 (I b) (I N) (I TG.length) (I (SLt TG).length) (I (PL (SLt TG)).length) tm fs imp im fp doc (J w) Φ := by
  have hf8 : ∀ d, d < N → f d < 256 := fun d hd => Nat.lt_of_lt_of_le (hf d hd) (Nat.pow_le_pow_right (n := 2) (by omega) hb)
  have h2b : 2 ^ b ≤ 256 := Nat.pow_le_pow_right (n := 2) (by omega) hb
  unfold P_X4_appendTerm
  refine s_startTerm hA h64 (fun tm' fs' hA' => ?_)
  rw [I_sl1 (by omega)]
  refine s_gb h40 hi hf8 h2b (fun g g1 g2 g3 => ⟨N + 1, ?_⟩)
  have e : canonA N f g = canon N f := (canonA_jump 255 g1 (fun d hd _ => g3 d hd (hf d hd))).symm
  exact l_app22 h40 hb hi hf h64 hS hP h N [] g tm' fs' im fp doc (by omega) e g1 (by rcases g2 with q | ⟨-, q⟩; exact Or.inl q; exact Or.inr q) hA'
