
/-! the calls: hit, sum, last, plan, exhaustive, clock -/
theorem t_hit {L m : Nat} {a1_search_terms : Int32} {a1_search_segments : Int32} {a1_search_doneSegments : Int32} {a1_search_donePostings : Int32} {a1_search_postings : Int32} {a1_search_why : Int32} {a1_search_hits : Int32} {a1_search_impactOf : (Nat → Int32)} {a1_search_planTerm : (Nat → Int32)} {a1_search_planImpact : (Nat → Int32)} {a1_search_planSize : (Nat → Int32)} {a1_search_sums : (Nat → Int32)} {a1_search_hitDocument : (Nat → Int32)} {a2_thrown : Int32} {a2_askedTerms : Int32} {a2_segments : Int32} {a2_done : Int32} {a2_postingsDone : Int32} {a2_postingsAll : Int32} {a2_why : Int32} {a2_hits : Int32} {a2_planTerm : (Nat → Int32)} {a2_planImpact : (Nat → Int32)} {a2_planSize : (Nat → Int32)} {a2_sums : (Nat → Int32)} {a2_hit : (Nat → Int32)} {a3 : (Nat → Int64)} {l5 : Int32} {x1 x2 : Int32} {K : Int32 → (Nat → Int64) → Prop}
    (v1 : vp_in (l5 + 1) L) (v2 : vp_in (l5 + 2) L) (hGS : GS a1_search_terms a1_search_segments a1_search_doneSegments a1_search_donePostings a1_search_postings a1_search_why a1_search_hits a1_search_impactOf a1_search_planTerm a1_search_planImpact a1_search_planSize a1_search_sums a1_search_hitDocument a2_askedTerms a2_segments a2_done a2_postingsDone a2_postingsAll a2_why a2_hits a2_planTerm a2_planImpact a2_planSize a2_sums a2_hit) 
    (hK : ∀ (a2_thrown' : Int32) (a3' : (Nat → Int64)), K a2_thrown' a3') :
    OP_14 L a1_search_hits a1_search_sums a1_search_hitDocument a2_thrown a2_hits a2_sums a2_hit a3 l5 x1 x2 K := by
  obtain ⟨rfl, rfl, rfl, rfl, rfl, rfl, rfl, n, k, P, f, io, hs, rfl, rfl, rfl, rfl, h8, h320, hk, h40, hd40, hPb, hib, hR, h3, hio, hs1, hs2, hh, hh2, hag⟩ := hGS
  unfold OP_14 P_L_hit
  refine ⟨v1, v2, s_hit hh hs1 h40 hd40 (fun hX => ⟨fun _ => ⟨v1, v2, ?_⟩, rfl⟩) (fun i w hi hw e1 e2 => ⟨vp01, v1, v2, ?_⟩)⟩
  · exact r_hit hh2 hs2 h40 hd40 (fun _ => tl rfl (fun z => absurd z z10) (hK _ _)) (fun i w a b c d => absurd ⟨i, w, a, b, c, d⟩ hX)
  · refine r_hit hh2 hs2 h40 hd40 (fun q => absurd ⟨i, w, hi, hw, e1, e2⟩ q) (fun i2 w2 a b c d => ?_)
    rw [e1, I_eq (by omega) (by omega)] at c
    rw [e2, I_eq (by omega) (by omega)] at d
    subst c d
    exact tl rfl (fun _ => pk_uLs) (hK _ _)
theorem t_sum {L m : Nat} {a1_search_terms : Int32} {a1_search_segments : Int32} {a1_search_doneSegments : Int32} {a1_search_donePostings : Int32} {a1_search_postings : Int32} {a1_search_why : Int32} {a1_search_hits : Int32} {a1_search_impactOf : (Nat → Int32)} {a1_search_planTerm : (Nat → Int32)} {a1_search_planImpact : (Nat → Int32)} {a1_search_planSize : (Nat → Int32)} {a1_search_sums : (Nat → Int32)} {a1_search_hitDocument : (Nat → Int32)} {a2_thrown : Int32} {a2_askedTerms : Int32} {a2_segments : Int32} {a2_done : Int32} {a2_postingsDone : Int32} {a2_postingsAll : Int32} {a2_why : Int32} {a2_hits : Int32} {a2_planTerm : (Nat → Int32)} {a2_planImpact : (Nat → Int32)} {a2_planSize : (Nat → Int32)} {a2_sums : (Nat → Int32)} {a2_hit : (Nat → Int32)} {a3 : (Nat → Int64)} {l5 : Int32} {x1 : Int32} {K : Int32 → (Nat → Int64) → Prop}
    (v1 : vp_in (l5 + 1) L) (hGS : GS a1_search_terms a1_search_segments a1_search_doneSegments a1_search_donePostings a1_search_postings a1_search_why a1_search_hits a1_search_impactOf a1_search_planTerm a1_search_planImpact a1_search_planSize a1_search_sums a1_search_hitDocument a2_askedTerms a2_segments a2_done a2_postingsDone a2_postingsAll a2_why a2_hits a2_planTerm a2_planImpact a2_planSize a2_sums a2_hit) 
    (hK : ∀ (a2_thrown' : Int32) (a3' : (Nat → Int64)), K a2_thrown' a3') :
    OP_15 L a1_search_sums a2_thrown a2_sums a3 l5 x1 K := by
  obtain ⟨rfl, rfl, rfl, rfl, rfl, rfl, rfl, n, k, P, f, io, hs, rfl, rfl, rfl, rfl, h8, h320, hk, h40, hd40, hPb, hib, hR, h3, hio, hs1, hs2, hh, hh2, hag⟩ := hGS
  unfold OP_15 P_L_sum
  refine ⟨v1, s_sum hs1 (fun hX => ⟨fun _ => ⟨v1, ?_⟩, rfl⟩) (fun d hd e => ⟨vp01, v1, ?_⟩)⟩
  · exact r_sum hs2 (fun _ => tl rfl (fun z => absurd z z10) (hK _ _)) (fun d a b => absurd b (hX d a))
  · refine r_sum hs2 (fun q => absurd e (q d hd)) (fun d2 a b => ?_)
    rw [e, I_eq (by omega) (by omega)] at b
    subst b
    exact tl rfl (fun _ => pk_uLs) (hK _ _)
theorem t_last {L m : Nat} {a1_search_terms : Int32} {a1_search_segments : Int32} {a1_search_doneSegments : Int32} {a1_search_donePostings : Int32} {a1_search_postings : Int32} {a1_search_why : Int32} {a1_search_hits : Int32} {a1_search_impactOf : (Nat → Int32)} {a1_search_planTerm : (Nat → Int32)} {a1_search_planImpact : (Nat → Int32)} {a1_search_planSize : (Nat → Int32)} {a1_search_sums : (Nat → Int32)} {a1_search_hitDocument : (Nat → Int32)} {a2_thrown : Int32} {a2_askedTerms : Int32} {a2_segments : Int32} {a2_done : Int32} {a2_postingsDone : Int32} {a2_postingsAll : Int32} {a2_why : Int32} {a2_hits : Int32} {a2_planTerm : (Nat → Int32)} {a2_planImpact : (Nat → Int32)} {a2_planSize : (Nat → Int32)} {a2_sums : (Nat → Int32)} {a2_hit : (Nat → Int32)} {a3 : (Nat → Int64)} {l5 : Int32} {x1 : Int32} {K : Int32 → (Nat → Int64) → Prop}
    (v1 : vp_in (l5 + 1) L) (hGS : GS a1_search_terms a1_search_segments a1_search_doneSegments a1_search_donePostings a1_search_postings a1_search_why a1_search_hits a1_search_impactOf a1_search_planTerm a1_search_planImpact a1_search_planSize a1_search_sums a1_search_hitDocument a2_askedTerms a2_segments a2_done a2_postingsDone a2_postingsAll a2_why a2_hits a2_planTerm a2_planImpact a2_planSize a2_sums a2_hit) 
    (hK : ∀ (a2_thrown' : Int32) (a3' : (Nat → Int64)), K a2_thrown' a3') :
    OP_16 L a1_search_terms a1_search_segments a1_search_doneSegments a1_search_donePostings a1_search_postings a1_search_why a2_thrown a2_askedTerms a2_segments a2_done a2_postingsDone a2_postingsAll a2_why a3 l5 x1 K := by
  obtain ⟨rfl, rfl, rfl, rfl, rfl, rfl, rfl, n, k, P, f, io, hs, rfl, rfl, rfl, rfl, h8, h320, hk, h40, hd40, hPb, hib, hR, h3, hio, hs1, hs2, hh, hh2, hag⟩ := hGS
  unfold OP_16 P_L_last
  refine ⟨v1, s_last (fun hX => ⟨fun _ => ⟨v1, ?_⟩, rfl⟩) (fun d hd e => ⟨vp01, v1, ?_⟩)⟩
  · exact r_last (fun _ => tl rfl (fun z => absurd z z10) (hK _ _)) (fun d a b => absurd b (hX d a))
  · refine r_last (fun q => absurd e (q d hd)) (fun d2 a b => ?_)
    rw [e, I_eq (by omega) (by omega)] at b
    subst b
    exact tl rfl (fun _ => pk_uLs) (hK _ _)
theorem t_plan {L m : Nat} {a1_search_terms : Int32} {a1_search_segments : Int32} {a1_search_doneSegments : Int32} {a1_search_donePostings : Int32} {a1_search_postings : Int32} {a1_search_why : Int32} {a1_search_hits : Int32} {a1_search_impactOf : (Nat → Int32)} {a1_search_planTerm : (Nat → Int32)} {a1_search_planImpact : (Nat → Int32)} {a1_search_planSize : (Nat → Int32)} {a1_search_sums : (Nat → Int32)} {a1_search_hitDocument : (Nat → Int32)} {a2_thrown : Int32} {a2_askedTerms : Int32} {a2_segments : Int32} {a2_done : Int32} {a2_postingsDone : Int32} {a2_postingsAll : Int32} {a2_why : Int32} {a2_hits : Int32} {a2_planTerm : (Nat → Int32)} {a2_planImpact : (Nat → Int32)} {a2_planSize : (Nat → Int32)} {a2_sums : (Nat → Int32)} {a2_hit : (Nat → Int32)} {a3 : (Nat → Int64)} {l5 : Int32} {x1 x2 : Int32} {K : Int32 → (Nat → Int64) → Prop}
    (v1 : vp_in (l5 + 1) L) (v2 : vp_in (l5 + 2) L) (hGS : GS a1_search_terms a1_search_segments a1_search_doneSegments a1_search_donePostings a1_search_postings a1_search_why a1_search_hits a1_search_impactOf a1_search_planTerm a1_search_planImpact a1_search_planSize a1_search_sums a1_search_hitDocument a2_askedTerms a2_segments a2_done a2_postingsDone a2_postingsAll a2_why a2_hits a2_planTerm a2_planImpact a2_planSize a2_sums a2_hit) 
    (hK : ∀ (a2_thrown' : Int32) (a3' : (Nat → Int64)), K a2_thrown' a3') :
    OP_17 L a1_search_segments a1_search_planTerm a1_search_planImpact a1_search_planSize a2_thrown a2_segments a2_planTerm a2_planImpact a2_planSize a3 l5 x1 x2 K := by
  obtain ⟨rfl, rfl, rfl, rfl, rfl, rfl, rfl, n, k, P, f, io, hs, rfl, rfl, rfl, rfl, h8, h320, hk, h40, hd40, hPb, hib, hR, h3, hio, hs1, hs2, hh, hh2, hag⟩ := hGS
  unfold OP_17 P_L_plan
  refine ⟨v1, v2, s_plan hR h320 (fun hX => ⟨fun _ => ⟨v1, v2, ?_⟩, rfl⟩) (fun i w hi hw e1 e2 => ⟨vp01, v1, v2, ?_⟩)⟩
  · exact r_plan h3 h320 (fun _ => tl rfl (fun z => absurd z z10) (hK _ _)) (fun i w a b c d => absurd ⟨i, w, a, b, c, d⟩ hX)
  · refine r_plan h3 h320 (fun q => absurd ⟨i, w, hi, hw, e1, e2⟩ q) (fun i2 w2 a b c d => ?_)
    rw [e1, I_eq (by omega) (by omega)] at c
    rw [e2, I_eq (by omega) (by omega)] at d
    subst c d
    exact tl rfl (fun _ => pk_uLs) (hK _ _)
theorem t_exhaustive {L m : Nat} {a1_search_terms : Int32} {a1_search_segments : Int32} {a1_search_doneSegments : Int32} {a1_search_donePostings : Int32} {a1_search_postings : Int32} {a1_search_why : Int32} {a1_search_hits : Int32} {a1_search_impactOf : (Nat → Int32)} {a1_search_planTerm : (Nat → Int32)} {a1_search_planImpact : (Nat → Int32)} {a1_search_planSize : (Nat → Int32)} {a1_search_sums : (Nat → Int32)} {a1_search_hitDocument : (Nat → Int32)} {a2_thrown : Int32} {a2_askedTerms : Int32} {a2_segments : Int32} {a2_done : Int32} {a2_postingsDone : Int32} {a2_postingsAll : Int32} {a2_why : Int32} {a2_hits : Int32} {a2_planTerm : (Nat → Int32)} {a2_planImpact : (Nat → Int32)} {a2_planSize : (Nat → Int32)} {a2_sums : (Nat → Int32)} {a2_hit : (Nat → Int32)} {K : Int32 → Prop}
    (hGS : GS a1_search_terms a1_search_segments a1_search_doneSegments a1_search_donePostings a1_search_postings a1_search_why a1_search_hits a1_search_impactOf a1_search_planTerm a1_search_planImpact a1_search_planSize a1_search_sums a1_search_hitDocument a2_askedTerms a2_segments a2_done a2_postingsDone a2_postingsAll a2_why a2_hits a2_planTerm a2_planImpact a2_planSize a2_sums a2_hit) 
    (hK : ∀ (a2_thrown' : Int32), K a2_thrown') :
    OP_18 L a1_search_terms a1_search_doneSegments a1_search_impactOf a1_search_planTerm a1_search_planImpact a1_search_sums a2_thrown K := by
  obtain ⟨rfl, rfl, rfl, rfl, rfl, rfl, rfl, n, k, P, f, io, hs, rfl, rfl, rfl, rfl, h8, h320, hk, h40, hd40, hPb, hib, hR, h3, hio, hs1, hs2, hh, hh2, hag⟩ := hGS
  unfold OP_18 P_X9_exhaustive
  exact s_exhaustive hR.1 hR.2.2 hk h320 hPb hio hib h8 hs1 hag ⟨fun _ => hK _, fun q => q rfl⟩
theorem t_clock {L m : Nat} {a1_ticks : Int64} {a2_thrown : Int32} {a2_clock : Int64} {K : Int32 → Prop}
    (hclk : a2_clock = a1_ticks) 
    (hK : ∀ (a2_thrown' : Int32), K a2_thrown') :
    OP_22 L a1_ticks a2_thrown a2_clock K := by
  subst hclk
  unfold OP_22 P_X8_clock P_X9_clock
  exact ⟨fun _ => hK _, fun q => q rfl⟩
