
/-! query: the reference -/
theorem l_rq154 {th ta at' te sg dn pd pa wy hits l2 l3 : Int32} {l7 : Int32} {clk l4 : Int64} {holds fresh tape word words letter asked size impact gap pT' pI' pZ' hit kept generation : Nat → Int32}
    {K : Int32 → Int32 → Int32 → Int64 → Int32 → Int32 → Int32 → Int32 → Int32 → Int32 → Int32 → (Nat → Int32) → (Nat → Int32) → (Nat → Int32) → (Nat → Int32) → (Nat → Int32) → (Nat → Int32) → (Nat → Int32) → (Nat → Int32) → (Nat → Int32) → Int32 → Int32 → Int64 → Int32 → Prop} {Φ : Int32 → Int32 → Int32 → Int32 → Int64 → Int32 → Int32 → Int32 → Int32 → Int32 → Int32 → Int32 → (Nat → Int32) → (Nat → Int32) → (Nat → Int32) → (Nat → Int32) → (Nat → Int32) → (Nat → Int32) → (Nat → Int32) → (Nat → Int32) → (Nat → Int32) → Prop}
    (hK : ∀ sums, (∀ d, d < 40 → sums d = I 0) → K th ta at' clk te sg dn pd pa wy hits fresh word asked gap pT' pI' pZ' sums hit l2 l3 l4 l7) :
    ∀ m d sums, 40 ≤ d + m → d ≤ 40 → (∀ j, j < d → sums j = I 0) → L_X9_query_154 (m + 1) th ta at' clk te sg dn pd pa wy hits holds fresh tape word words letter asked size impact gap pT' pI' pZ' sums hit kept generation l2 l3 l4 l7 (I d) K Φ := by
  intro m
  induction m with
  | zero =>
    intro d sums h1 h2 h3
    unfold L_X9_query_154
    rw [i_40, I_le (by omega) (by omega)]
    exact ⟨fun _ => hK sums (fun j hj => h3 j (by omega)), fun z => absurd (by omega) z⟩
  | succ m ih =>
    intro d sums h1 h2 h3
    unfold L_X9_query_154
    rw [i_40, I_le (by omega) (by omega), I_in (by omega), I_cl (by omega), i_1, I_add]
    refine ⟨fun _ => hK sums (fun j hj => h3 j (by omega)), fun z => ⟨by omega, ih (d + 1) _ (by omega) (by omega) (fun j hj => ?_)⟩⟩
    unfold upd
    by_cases e : j = d
    · subst e; rw [if_pos rfl]; rfl
    · rw [if_neg e]; exact h3 j (by omega)
/-- no term asked for: no plan -/
theorem r_plans0 {P : List (Nat × Nat × Nat × Nat)} {sg po l1 : Int32} {asked fresh size impact gap pT' pI' pZ' : Nat → Int32} {Φ : Int32 → Int32 → (Nat → Int32) → (Nat → Int32) → (Nat → Int32) → (Nat → Int32) → (Nat → Int32) → Prop} (hP : P = [])
    (hK : ∀ fresh gap pT' pI' pZ', R3 pT' pI' pZ' P → Φ (I P.length) (I (P.map pZ).sum) fresh gap pT' pI' pZ') : P_X9_plans (I 0) sg po asked fresh size impact gap pT' pI' pZ' l1 Φ := by
  subst hP
  unfold P_X9_plans
  refine ⟨1, ?_⟩
  unfold L_X9_plans_14
  rw [i_0, show (255 : Int32) = I 255 from rfl, I_le (by omega) (by omega), I_le (by omega) (by omega)]
  refine ⟨fun z => absurd z (by omega), fun _ => ⟨fun _ => ?_, fun z => absurd (Nat.le_refl _) z⟩⟩
  exact hK _ _ _ _ _ ⟨fun j hj => absurd hj (Nat.not_lt_zero _), fun j hj => absurd hj (Nat.not_lt_zero _), fun j hj => absurd hj (Nat.not_lt_zero _)⟩
theorem r_qtail {TG : List (Nat × List Sg)} {bs : List Nat} {P : List (Nat × Nat × Nat × Nat)} {k q m : Nat} {f : Nat → Nat} {hs : List Nat} {th ta at' sg dn pd pa wy hits bud l7 : Int32} {clk dl : Int64} {holds fresh tape word words letter asked size impact gap pT' pI' pZ' hit kept generation bits codec sums : Nat → Int32}
    {Φ : Int32 → Int32 → Int32 → Int32 → Int64 → Int32 → Int32 → Int32 → Int32 → Int32 → Int32 → Int32 → (Nat → Int32) → (Nat → Int32) → (Nat → Int32) → (Nat → Int32) → (Nat → Int32) → (Nat → Int32) → (Nat → Int32) → (Nat → Int32) → (Nat → Int32) → Prop}
    (hor : TG = [] ∨ ∃ sl b c N, sl < 5 ∧ l7 = I sl ∧ RX sl b c N TG bits codec size words letter impact ∧ VT b N TG) (hAs : AskR (TG.map (fun q => q.1)) (stems bs) asked) (hm : m ≤ 40) (hSO : SO TG (AA TG bs) bud clk dl P k q f hs) (h8 : (AA TG bs).length ≤ 8)
    (h : ∀ fresh gap pT' pI' pZ' sums hit, R3 pT' pI' pZ' P → (∀ d, d < 40 → sums d = I (f d)) → Row hit (hs.take m) → Φ (I (min hs.length m)) th ta at' (clk + (I q).toInt64) (I (AA TG bs).length) (I P.length) (I k) (I q) (I (P.map pZ).sum) (whyO P.length k q bud) (I (min hs.length m)) fresh word asked gap pT' pI' pZ' sums hit) :
    P_X9_plans (I (AA TG bs).length) sg pa asked fresh size impact gap pT' pI' pZ' l7 (fun segments_11 postingsAll_12 fresh_13 gap_14 planTerm_15 planImpact_16 planSize_17 => ∃ n, L_X9_query_154 n th ta at' clk (I (AA TG bs).length) segments_11 dn pd postingsAll_12 wy hits holds fresh_13 tape word words letter asked size impact gap_14 planTerm_15 planImpact_16 planSize_17 sums hit kept generation (I m) bud dl l7 0 (fun thrown_42 taped_43 at_44 clock_45 askedTerms_46 segments_47 done_48 postingsDone_49 postingsAll_50 why_51 hits_52 fresh_53 word_54 asked_55 gap_56 planTerm_57 planImpact_58 planSize_59 sums_60 hit_61 l2_62 l3_63 l4_64 l7_65 => ∃ n, L_X9_query_190 n thrown_42 taped_43 at_44 clock_45 askedTerms_46 segments_47 0 0 postingsAll_50 0 hits_52 holds fresh_53 tape word_54 words letter asked_55 size impact gap_56 planTerm_57 planImpact_58 planSize_59 sums_60 hit_61 kept generation l2_62 l3_63 l4_64 l7_65 (fun thrown_99 taped_100 at_101 clock_102 askedTerms_103 segments_104 done_105 postingsDone_106 postingsAll_107 why_108 hits_109 fresh_110 word_111 asked_112 gap_113 planTerm_114 planImpact_115 planSize_116 sums_117 hit_118 l2_119 => P_X9_ranks hits_109 sums_117 hit_118 l2_119 (fun hits_120 hit_121 => Φ hits_120 thrown_99 taped_100 at_101 clock_102 askedTerms_103 segments_104 done_105 postingsDone_106 postingsAll_107 why_108 hits_120 fresh_110 word_111 asked_112 gap_113 planTerm_114 planImpact_115 planSize_116 sums_117 hit_121)) Φ) Φ) := by
  obtain ⟨p1, p2, p3, p4, p5, p6, p7, p8⟩ := hSO
  have e0 : clk + (I 0).toInt64 = clk := by rw [show (I 0).toInt64 = 0 from rfl]; exact Int64.add_zero clk
  have h320 : P.length ≤ 320 := by
    rcases hor with e | ⟨sl, b, c, N, -, -, -, hV⟩
    · subst e
      have : AA [] bs = [] := rfl
      rw [p3, this]; exact Nat.zero_le _
    · have := (allE_bd hV (A := AA TG bs) (fun t ht => AA_lt ht) _ (Nat.le_refl _)).2.1
      omega
  have rk : ∀ (fresh gap pT' pI' pZ' sums hit : Nat → Int32) (hits : Int32), R3 pT' pI' pZ' P → (∀ d, d < 40 → sums d = I (f d)) → P_X9_ranks hits sums hit (I m) (fun hits_120 hit_121 => Φ hits_120 th ta at' (clk + (I q).toInt64) (I (AA TG bs).length) (I P.length) (I k) (I q) (I (P.map pZ).sum) (whyO P.length k q bud) hits_120 fresh word asked gap pT' pI' pZ' sums hit_121) := fun fresh gap pT' pI' pZ' sums hit hits hr hf =>
    r_ranks hm (fun d hd => ⟨hf d hd, by have := p7 d; omega⟩) p8 (fun hit hh => h fresh gap pT' pI' pZ' sums hit hr hf hh)
  rcases hor with e | ⟨sl, b, c, N, hsl, rfl, hR, hV⟩
  · subst e
    have hP : P = [] := List.eq_nil_of_length_eq_zero p3
    refine r_plans0 (P := P) hP (fun fresh gap pT' pI' pZ' hr => ⟨40 + 1, ?_⟩)
    refine l_rq154 (fun sums hz => ⟨0 + 1, ?_⟩) 40 0 _ (by omega) (by omega) (fun j hj => absurd hj (by omega))
    have hl0 : P.length = 0 := by rw [hP]; rfl
    rw [hl0] at p4
    unfold wrun at p4
    cases p4
    unfold L_X9_query_190
    rw [i_0, hl0, I_le (by omega) (by omega)]
    refine ⟨fun _ => ?_, fun z => absurd (Nat.le_refl _) z⟩
    have := rk fresh gap pT' pI' pZ' sums hit hits hr hz
    rw [e0, hl0] at this
    exact this
  · have hk := r_plans (sg := sg) (po := pa) (fresh := fresh) (gap := gap) (pT' := pT') (pI' := pI') (pZ' := pZ') (Φ := fun segments_11 postingsAll_12 fresh_13 gap_14 planTerm_15 planImpact_16 planSize_17 => ∃ n, L_X9_query_154 n th ta at' clk (I (AA TG bs).length) segments_11 dn pd postingsAll_12 wy hits holds fresh_13 tape word words letter asked size impact gap_14 planTerm_15 planImpact_16 planSize_17 sums hit kept generation (I m) bud dl (I sl) 0 (fun thrown_42 taped_43 at_44 clock_45 askedTerms_46 segments_47 done_48 postingsDone_49 postingsAll_50 why_51 hits_52 fresh_53 word_54 asked_55 gap_56 planTerm_57 planImpact_58 planSize_59 sums_60 hit_61 l2_62 l3_63 l4_64 l7_65 => ∃ n, L_X9_query_190 n thrown_42 taped_43 at_44 clock_45 askedTerms_46 segments_47 0 0 postingsAll_50 0 hits_52 holds fresh_53 tape word_54 words letter asked_55 size impact gap_56 planTerm_57 planImpact_58 planSize_59 sums_60 hit_61 kept generation l2_62 l3_63 l4_64 l7_65 (fun thrown_99 taped_100 at_101 clock_102 askedTerms_103 segments_104 done_105 postingsDone_106 postingsAll_107 why_108 hits_109 fresh_110 word_111 asked_112 gap_113 planTerm_114 planImpact_115 planSize_116 sums_117 hit_118 l2_119 => P_X9_ranks hits_109 sums_117 hit_118 l2_119 (fun hits_120 hit_121 => Φ hits_120 thrown_99 taped_100 at_101 clock_102 askedTerms_103 segments_104 done_105 postingsDone_106 postingsAll_107 why_108 hits_120 fresh_110 word_111 asked_112 gap_113 planTerm_114 planImpact_115 planSize_116 sums_117 hit_121)) Φ) Φ) hsl hR hV hAs p1 p2 h320 (fun fresh gap pT' pI' pZ' hr => by
      refine ⟨40 + 1, l_rq154 (fun sums hz => ⟨(P.length + 2), ?_⟩) 40 0 _ (by omega) (by omega) (fun j hj => absurd hj (by omega))⟩
      have hsl2 : (sgP TG P).length = P.length := by unfold sgP; rw [List.length_map]
      have hw : ∀ s ∈ sgP TG P, s.2.length ≤ 40 := fun s hs => by
        unfold sgP at hs
        rw [List.mem_map] at hs
        obtain ⟨e, he, rfl⟩ := hs
        obtain ⟨s, s1, s2, s3, s4, s5, s6, s7⟩ := allE_sg hV (A := AA TG bs) (fun t ht => AA_lt ht) (Nat.le_refl _) ((p2 e).mp he)
        rw [List.getD_eq_getElem?_getD, s1]
        exact s4
      have key := l_rq190 (sgs := sgP TG P) (clk := clk) (dl := dl) (bud := bud) (th := th) (ta := ta) (at' := at') (te := I (AA TG bs).length) (pa := I (P.map pZ).sum) (hits := hits) (l2 := I m) (holds := holds) (fresh := fresh) (tape := tape) (word := word) (gap := gap) (hit := hit) (kept := kept) (generation := generation) (K := fun thrown_99 taped_100 at_101 clock_102 askedTerms_103 segments_104 done_105 postingsDone_106 postingsAll_107 why_108 hits_109 fresh_110 word_111 asked_112 gap_113 planTerm_114 planImpact_115 planSize_116 sums_117 hit_118 l2_119 => P_X9_ranks hits_109 sums_117 hit_118 l2_119 (fun hits_120 hit_121 => Φ hits_120 thrown_99 taped_100 at_101 clock_102 askedTerms_103 segments_104 done_105 postingsDone_106 postingsAll_107 why_108 hits_120 fresh_110 word_111 asked_112 gap_113 planTerm_114 planImpact_115 planSize_116 sums_117 hit_121)) (Φ := Φ) hsl hR hV hAs (by rw [hsl2]; exact h320) hw (fun i hi => rwe_all hV p2 hr i (by rw [hsl2] at hi; exact hi)) P.length 0 0 (fun _ => 0) sums (by rw [hsl2]; omega) (Nat.zero_le _) (Nat.zero_le _) hz (fun k' dp' f' sums' e q1 q2 q3 => by
        rw [hsl2] at q1 ⊢
        rw [p4] at e
        cases e
        exact rk fresh gap pT' pI' pZ' sums' hit hits hr q3)
      rw [e0, hsl2] at key
      exact key)
    exact hk
