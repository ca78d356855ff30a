
/-! the calls: query -/
/-- what the last search left -/
def GS (te sg dn dp po wy ht : Int32) (iO rT rI rZ sums hit : Nat → Int32) (te2 sg2 dn2 pd2 pa2 wy2 ht2 : Int32) (rT2 rI2 rZ2 sums2 hit2 : Nat → Int32) : Prop :=
  te2 = te ∧ sg2 = sg ∧ dn2 = dn ∧ pd2 = dp ∧ pa2 = po ∧ wy2 = wy ∧ ht2 = ht ∧ ∃ (n k : Nat) (P : List (Nat × Nat × Nat × Nat)) (f io : Nat → Nat) (hs : List Nat), te = I n ∧ sg = I P.length ∧ dn = I k ∧ ht = I hs.length ∧ n ≤ 8 ∧ P.length ≤ 320 ∧ k ≤ P.length ∧ hs.length ≤ 40 ∧ (∀ d ∈ hs, d < 40) ∧ (∀ e ∈ P, pT e < 100000 ∧ pI e < 100000) ∧ (∀ c, io c < 256) ∧ (Row rI (P.map pI) ∧ Row rZ (P.map pZ) ∧ Row rT (P.map pT)) ∧ R3 rT2 rI2 rZ2 P ∧ (∀ c, c < 320 → iO c = I (io c)) ∧ (∀ d, d < 40 → sums d = I (f d)) ∧ (∀ d, d < 40 → sums2 d = I (f d)) ∧ Row hit hs ∧ Row hit2 hs ∧ ∀ d, d < 40 → f d = agS P k io d n
/-- the empty index -/
def GE (dc tc sc pc : Int32) (tm : Nat → Int64) (fs im fp doc : Nat → Int32) : Prop := dc = I 0 ∧ tc = I 0 ∧ sc = I 0 ∧ pc = I 0 ∧ CA [] tm fs im fp doc
theorem allE_nodup (TG : List (Nat × List Sg)) (A : List Nat) (n : Nat) : (allE TG A n).Nodup := by
  unfold allE List.Nodup
  rw [List.pairwise_flatMap]
  refine ⟨fun a _ => ?_, List.pairwise_lt_range.imp (fun {x y} h p hp q hq e => ?_)⟩
  · unfold enJ
    rw [List.pairwise_map]
    refine List.pairwise_lt_range.imp (fun {x y} h e => ?_)
    have e2 : pG _ = pG _ := congrArg pG e
    have e3 : fsF TG (A.getD a 0) + x = fsF TG (A.getD a 0) + y := e2
    omega
  · unfold enJ at hp hq
    rw [List.mem_map] at hp hq
    obtain ⟨i, -, rfl⟩ := hp
    obtain ⟨j, -, rfl⟩ := hq
    have e3 : x = y := congrArg pT e
    omega
theorem pord_nodup {P : List (Nat × Nat × Nat × Nat)} (h : P.Pairwise pord) : P.Nodup := h.imp (fun {x y} q e => by subst e; exact pord_irr _ q)
theorem VT_nil : VT 2 1 [] := ⟨by omega, by omega, by omega, by omega, Nat.zero_le _, List.Pairwise.nil, fun q hq => (by cases hq), Nat.zero_le _⟩
/-- what a search works out is what the last search left -/
theorem SO.gs {b N k q m : Nat} {TG : List (Nat × List Sg)} {bs : List Nat} {bud : Int32} {clk dl : Int64} {P : List (Nat × Nat × Nat × Nat)} {f : Nat → Nat} {hs : List Nat} {iO rT rI rZ rG sums hit rT2 rI2 rZ2 sums2 hit2 : Nat → Int32} {wy : Int32} (hV : VT b N TG) (h : SO TG (AA TG bs) bud clk dl P k q f hs) (h8 : (AA TG bs).length ≤ 8) (hm : m ≤ 40) (hR : R4 rI rZ rT rG P) (hio : ∀ c, c < 320 → iO c = I (ioF TG (AA TG bs) (AA TG bs).length c)) (hs1 : ∀ d, d < 40 → sums d = I (f d)) (hh : Row hit hs) (h3 : R3 rT2 rI2 rZ2 P) (hs2 : ∀ d, d < 40 → sums2 d = I (f d)) (hh2 : Row hit2 (hs.take m)) :
    GS (I (AA TG bs).length) (I P.length) (I k) (I q) (I ((allE TG (AA TG bs) (AA TG bs).length).map pZ).sum) wy (I (min hs.length m)) iO rT rI rZ sums hit (I (AA TG bs).length) (I P.length) (I k) (I q) (I (P.map pZ).sum) wy (I (min hs.length m)) rT2 rI2 rZ2 sums2 hit2 := by
  obtain ⟨p1, p2, p3, p4, p5, p6, p7, p8⟩ := h
  have hA : ∀ t ∈ AA TG bs, t < TG.length := fun t ht => AA_lt ht
  obtain ⟨b1, b2, b3⟩ := allE_bd hV hA (AA TG bs).length (Nat.le_refl _)
  have hperm : P.Perm (allE TG (AA TG bs) (AA TG bs).length) := (List.perm_ext_iff_of_nodup (pord_nodup p1) (allE_nodup _ _ _)).mpr p2
  have hlen : (hs.take m).length = min hs.length m := by rw [List.length_take, Nat.min_comm]
  refine ⟨rfl, rfl, rfl, rfl, by rw [(hperm.map pZ).sum_nat], rfl, rfl, (AA TG bs).length, k, P, f, ioF TG (AA TG bs) (AA TG bs).length, hs.take m, rfl, rfl, rfl, by rw [hlen], h8, by omega, p5, by rw [hlen]; omega, fun d hd => ((p8.2 d).mp (List.mem_of_mem_take hd)).1, fun e he => ?_, fun c => ?_, ⟨hR.1, hR.2.1, hR.2.2.1⟩, h3, hio, hs1, hs2, hh.take m, hh2, ?_⟩
  · have := b1 e ((p2 e).mp he)
    omega
  · unfold ioF
    by_cases w : c / 40 < (AA TG bs).length
    · rw [if_pos w]
      have ht := hA _ (getD_mem (ds := AA TG bs) w)
      have hq : TG[(AA TG bs).getD (c / 40) 0]? = some (TG.getD ((AA TG bs).getD (c / 40) 0) (0, [])) := by rw [List.getD_eq_getElem?_getD (l := TG), List.getElem?_eq_getElem ht]; rfl
      exact impOf_lt (hV.2.2.2.2.2.2.1 _ (List.mem_of_getElem? hq)).2.2 hV.2.1 _
    · rw [if_neg w]; omega
  · exact ag_run hV hA p1 p2 _ _ _ _ _ _ _ p4 (fun d _ => (agS_zero _).symm)
theorem t_q1 {L m lat b N hix : Nat} {d_a1_generations : Nat → Nat} {TG : List (Nat × List Sg)} {num : Nat → Nat} {kp : Nat → Bool} {gn : Nat → Nat} {hl : Nat → Option Nat} {C : Nat → Nat × Ix} {hk : Nat → Nat} {a1_generations_latest a2_latest : Int32} {a2_bits a2_codec : Nat → Int32} {a1_ticks : Int64} {a1_tape_size : Int32} {a1_tape_row : (Nat → Int32)} {a1_words_distinct : Int32} {a1_words_total : Int32} {a1_words_term : (Nat → Int64)} {a1_words_times : (Nat → Int32)} {a1_generations_kept : (Nat → Option Nat)} {a1_generations_number : (Nat → Int32)} {a1_generations_held : (Nat → Int32)} {a1_search_pickedTerms : Int32} {a1_search_terms : Int32} {a1_search_segments : Int32} {a1_search_doneSegments : Int32} {a1_search_donePostings : Int32} {a1_search_postings : Int32} {a1_search_why : Int32} {a1_search_hits : Int32} {a1_search_picked : (Nat → Int32)} {a1_search_planSegment : (Nat → Int32)} {a1_search_impactOf : (Nat → Int32)} {a1_search_planTerm : (Nat → Int32)} {a1_search_planImpact : (Nat → Int32)} {a1_search_planSize : (Nat → Int32)} {a1_search_sums : (Nat → Int32)} {a1_search_hitDocument : (Nat → Int32)} {a2_thrown : Int32} {a2_taped : Int32} {a2_at : Int32} {a2_clock : Int64} {a2_askedTerms : Int32} {a2_segments : Int32} {a2_done : Int32} {a2_postingsDone : Int32} {a2_postingsAll : Int32} {a2_why : Int32} {a2_hits : Int32} {a2_tape : (Nat → Int32)} {a2_word : (Nat → Int32)} {a2_fresh : (Nat → Int32)} {a2_size : (Nat → Int32)} {a2_words : (Nat → Int32)} {a2_letter : (Nat → Int32)} {a2_impact : (Nat → Int32)} {a2_generation : (Nat → Int32)} {a2_kept : (Nat → Int32)} {a2_holds : (Nat → Int32)} {a2_gap : (Nat → Int32)} {a2_asked : (Nat → Int32)} {a2_planTerm : (Nat → Int32)} {a2_planImpact : (Nat → Int32)} {a2_planSize : (Nat → Int32)} {a2_sums : (Nat → Int32)} {a2_hit : (Nat → Int32)} {a3 : (Nat → Int64)} {l5 : Int32} {ix_terms : Int32} { ix_term : (Nat → Int64)} { ix_firstSegment : (Nat → Int32)} { ix_impact : (Nat → Int32)} { ix_firstPosting : (Nat → Int32)} { ix_document : (Nat → Int32)} {x1 x2 x3 x4 x5 : Int32} {K : Int64 → Int32 → Int32 → Int32 → (Nat → Int64) → (Nat → Int32) → Int32 → Int32 → Int32 → Int32 → Int32 → Int32 → Int32 → Int32 → (Nat → Int32) → (Nat → Int32) → (Nat → Int32) → (Nat → Int32) → (Nat → Int32) → (Nat → Int32) → (Nat → Int32) → (Nat → Int32) → Int32 → Int32 → Int32 → Int64 → Int32 → Int32 → Int32 → Int32 → Int32 → Int32 → Int32 → (Nat → Int32) → (Nat → Int32) → (Nat → Int32) → (Nat → Int32) → (Nat → Int32) → (Nat → Int32) → (Nat → Int32) → (Nat → Int32) → (Nat → Int32) → (Nat → Int64) → Prop}
    (v1 : vp_in (l5 + 1) L) (v2 : vp_in (l5 + 2) L) (v3 : vp_in (l5 + 3) L) (v4 : vp_in (l5 + 4) L) (v5 : vp_in (l5 + 5) L) (hGT : GT a1_tape_size a1_tape_row a2_taped a2_tape) (hGS : GS a1_search_terms a1_search_segments a1_search_doneSegments a1_search_donePostings a1_search_postings a1_search_why a1_search_hits a1_search_impactOf a1_search_planTerm a1_search_planImpact a1_search_planSize a1_search_sums a1_search_hitDocument a2_askedTerms a2_segments a2_done a2_postingsDone a2_postingsAll a2_why a2_hits a2_planTerm a2_planImpact a2_planSize a2_sums a2_hit) (hclk : a2_clock = a1_ticks)
    (hX : GX m lat num kp gn hl C a1_generations_latest a1_generations_number a1_generations_held a2_latest a2_bits a2_codec a2_size a2_words a2_letter a2_impact a2_generation a2_kept a2_holds) (gkp : ∀ p, p < 3 → a1_generations_kept p = some (hk p))
    (hA : CA TG ix_term ix_firstSegment ix_impact ix_firstPosting ix_document) (hV : VT b N TG) (htc : ix_terms = I TG.length) (hx : ∀ r g, r < 4 → x1 = I r → hl r = some g → (∀ p, p < 3 → num p ≠ 0 → num p = g → hk p = hix) ∧ ((∀ p, p < 3 → num p ≠ 0 → num p ≠ g) → d_a1_generations 2 = hix)) (hTG : ∀ r g, r < 4 → x1 = I r → hl r = some g → TG = TGq C g)
    (hK : ∀ (a1_ticks' : Int64) (a1_tape_size' : Int32) (a1_words_distinct' : Int32) (a1_words_total' : Int32) (a1_words_term' : (Nat → Int64)) (a1_words_times' : (Nat → Int32)) (a1_search_pickedTerms' : Int32) (a1_search_terms' : Int32) (a1_search_segments' : Int32) (a1_search_doneSegments' : Int32) (a1_search_donePostings' : Int32) (a1_search_postings' : Int32) (a1_search_why' : Int32) (a1_search_hits' : Int32) (a1_search_picked' : (Nat → Int32)) (a1_search_planSegment' : (Nat → Int32)) (a1_search_impactOf' : (Nat → Int32)) (a1_search_planTerm' : (Nat → Int32)) (a1_search_planImpact' : (Nat → Int32)) (a1_search_planSize' : (Nat → Int32)) (a1_search_sums' : (Nat → Int32)) (a1_search_hitDocument' : (Nat → Int32)) (a2_thrown' : Int32) (a2_taped' : Int32) (a2_at' : Int32) (a2_clock' : Int64) (a2_askedTerms' : Int32) (a2_segments' : Int32) (a2_done' : Int32) (a2_postingsDone' : Int32) (a2_postingsAll' : Int32) (a2_why' : Int32) (a2_hits' : Int32) (a2_word' : (Nat → Int32)) (a2_fresh' : (Nat → Int32)) (a2_gap' : (Nat → Int32)) (a2_asked' : (Nat → Int32)) (a2_planTerm' : (Nat → Int32)) (a2_planImpact' : (Nat → Int32)) (a2_planSize' : (Nat → Int32)) (a2_sums' : (Nat → Int32)) (a2_hit' : (Nat → Int32)) (a3' : (Nat → Int64)), GT a1_tape_size' a1_tape_row a2_taped' a2_tape → GS a1_search_terms' a1_search_segments' a1_search_doneSegments' a1_search_donePostings' a1_search_postings' a1_search_why' a1_search_hits' a1_search_impactOf' a1_search_planTerm' a1_search_planImpact' a1_search_planSize' a1_search_sums' a1_search_hitDocument' a2_askedTerms' a2_segments' a2_done' a2_postingsDone' a2_postingsAll' a2_why' a2_hits' a2_planTerm' a2_planImpact' a2_planSize' a2_sums' a2_hit' → a2_clock' = a1_ticks' → K a1_ticks' a1_tape_size' a1_words_distinct' a1_words_total' a1_words_term' a1_words_times' a1_search_pickedTerms' a1_search_terms' a1_search_segments' a1_search_doneSegments' a1_search_donePostings' a1_search_postings' a1_search_why' a1_search_hits' a1_search_picked' a1_search_planSegment' a1_search_impactOf' a1_search_planTerm' a1_search_planImpact' a1_search_planSize' a1_search_sums' a1_search_hitDocument' a2_thrown' a2_taped' a2_at' a2_clock' a2_askedTerms' a2_segments' a2_done' a2_postingsDone' a2_postingsAll' a2_why' a2_hits' a2_word' a2_fresh' a2_gap' a2_asked' a2_planTerm' a2_planImpact' a2_planSize' a2_sums' a2_hit' a3') :
    QP_13 L d_a1_generations a1_ticks a1_tape_size a1_tape_row a1_words_distinct a1_words_total a1_words_term a1_words_times a1_generations_kept a1_generations_number a1_generations_held a1_search_pickedTerms a1_search_terms a1_search_segments a1_search_doneSegments a1_search_donePostings a1_search_postings a1_search_why a1_search_hits a1_search_picked a1_search_planSegment a1_search_impactOf a1_search_planTerm a1_search_planImpact a1_search_planSize a1_search_sums a1_search_hitDocument a2_thrown a2_taped a2_at a2_clock a2_askedTerms a2_segments a2_done a2_postingsDone a2_postingsAll a2_why a2_hits a2_tape a2_word a2_fresh a2_size a2_words a2_letter a2_impact a2_generation a2_kept a2_holds a2_gap a2_asked a2_planTerm a2_planImpact a2_planSize a2_sums a2_hit a3 l5 x1 x2 x3 x4 x5 hix ix_terms ix_term ix_firstSegment ix_impact ix_firstPosting ix_document K := by
  have hGT0 := hGT
  obtain ⟨bs, rfl, rfl, hb, hr, hy, hn⟩ := hGT0
  have hX0 := hX
  obtain ⟨hlm, rfl, rfl, gGI, gNN, gKK, gH1, gH2, gC⟩ := hX0
  subst hclk htc
  have one : ∀ {r r2 : Nat}, r < 4 → r2 < 4 → x1 = I r → x1 = I r2 → r2 = r := fun a b e e2 => by
    rw [e, I_eq (by omega) (by omega)] at e2; exact e2.symm
  have bad : ((∀ r, r < 4 → x1 ≠ I r) ∨ (∀ m, 1 ≤ m → m ≤ 40 → x2 ≠ I m) ∨ x3 < I 0 ∨ ∃ r g, r < 4 ∧ x1 = I r ∧ hl r = some g ∧ 8 < (AA (TGq C g) bs).length) → ∀ r m, r < 4 → x1 = I r → 1 ≤ m → m ≤ 40 → x2 = I m → ¬ x3 < I 0 → (∀ g, hl r = some g → (AA (TGq C g) bs).length ≤ 8) → False := by
    intro h r m hr e m1 m2 e2 w3 h8
    rcases h with h | h | h | ⟨r2, g, hr2, e3, hg, h9⟩
    · exact h r hr e
    · exact h m m1 m2 e2
    · exact w3 h
    · have := one hr hr2 e e3
      subst this
      have := h8 g hg
      omega
  unfold QP_13 P_L_query
  generalize (x4.toInt64 <<< ((32 : Int32).toInt64 &&& 63) ||| (x5.toInt64 &&& 4294967295)) = dl
  refine s_query gNN gH1 gkp hb hy hn (fun r g _ _ _ => hA) hV hx (fun hbad wd wt wtm wti pk picked => ⟨fun _ => ⟨v1, v2, v3, v4, v5, ?_⟩, fun e => absurd e ne_AS, Or.inl rfl⟩) (fun r m hr1 e m1 m2 e2 w3 hnone wd wt wtm wti pk picked => ⟨fun e => absurd e ne_SA, fun _ => ⟨v1, v2, v3, v4, v5, ?_⟩, Or.inr rfl⟩) (fun r g m hr1 e m1 m2 e2 w3 hg h8 wd wt wtm wti pk picked P k q f hs pa pb pc' pd io sums hit hSO hR4 hio hs1 hh => ⟨vp01, v1, v2, v3, v4, v5, ?_⟩)
  · have hbad2 : (∀ r, r < 4 → x1 ≠ I r) ∨ (∀ m, 1 ≤ m → m ≤ 40 → x2 ≠ I m) ∨ x3 < I 0 ∨ ∃ r g, r < 4 ∧ x1 = I r ∧ hl r = some g ∧ 8 < (AA (TGq C g) bs).length := by
      rcases hbad with h | h | h | ⟨r, g, hr, e, hg, h8⟩
      · exact Or.inl h
      · exact Or.inr (Or.inl h)
      · exact Or.inr (Or.inr (Or.inl h))
      · exact Or.inr (Or.inr (Or.inr ⟨r, g, hr, e, hg, by rw [← hTG r g hr e hg]; exact h8⟩))
    refine r_query (P := []) (k := 0) (q := 0) (f := fun _ => 0) (hs := []) gGI gKK gH2 gC hr hy hn (fun r g m hr1 e m1 m2 e2 w3 hg h8 => (bad hbad2 r m hr1 e m1 m2 e2 w3 (fun g' hg' => by rw [hg] at hg'; cases hg'; exact h8)).elim) (fun _ at' fresh word => tl rfl (fun z => absurd z z10) (hK _ _ _ _ _ _ _ _ _ _ _ _ _ _ _ _ _ _ _ _ _ _ _ _ _ _ _ _ _ _ _ _ _ _ _ _ _ _ _ _ _ _ _ (GT.nil _ _) hGS rfl)) (fun r m hr1 e m1 m2 e2 w3 hnone => (bad hbad2 r m hr1 e m1 m2 e2 w3 (fun g hg => by rw [hnone] at hg; cases hg)).elim) (fun r g m hr1 e m1 m2 e2 w3 hg h8 => (bad hbad2 r m hr1 e m1 m2 e2 w3 (fun g' hg' => by rw [hg] at hg'; cases hg'; exact h8)).elim)
  · refine r_query (P := []) (k := 0) (q := 0) (f := fun _ => 0) (hs := []) gGI gKK gH2 gC hr hy hn (fun r2 g _ hr2 e' _ _ _ _ hg => (by rw [one hr1 hr2 e e', hnone] at hg; cases hg)) (fun hb => (bad hb r m hr1 e m1 m2 e2 w3 (fun g hg => by rw [hnone] at hg; cases hg)).elim) (fun _ _ _ _ _ _ _ _ _ at' fresh word => tl rfl (fun z => absurd z z20) (hK _ _ _ _ _ _ _ _ _ _ _ _ _ _ _ _ _ _ _ _ _ _ _ _ _ _ _ _ _ _ _ _ _ _ _ _ _ _ _ _ _ _ _ (GT.nil _ _) hGS rfl)) (fun r2 g m hr2 e' _ _ _ _ hg => (by rw [one hr1 hr2 e e', hnone] at hg; cases hg))
  · have eT := hTG r g hr1 e hg
    subst eT
    refine r_query gGI gKK gH2 gC hr hy hn (fun r2 g2 _ hr2 e' _ _ _ _ hg2 _ => (by rw [one hr1 hr2 e e', hg] at hg2; cases hg2; exact hSO)) (fun hb => (bad hb r m hr1 e m1 m2 e2 w3 (fun g2 hg2 => by rw [hg] at hg2; cases hg2; exact h8)).elim) (fun r2 m hr2 e' _ _ _ _ hnone => (by rw [one hr1 hr2 e e', hg] at hnone; cases hnone)) (fun r2 g2 m3 hr2 e' q1 q2 q3 _ hg2 _ at' fresh word asked gap pT' pI' pZ' sums2 hit2 h3 hs2 hh2 => ?_)
    rw [one hr1 hr2 e e', hg] at hg2
    cases hg2
    rw [e2, I_eq (by omega) (by omega)] at q3
    subst q3
    exact tl rfl (fun _ => pk_uLs) (hK _ _ _ _ _ _ _ _ _ _ _ _ _ _ _ _ _ _ _ _ _ _ _ _ _ _ _ _ _ _ _ _ _ _ _ _ _ _ _ _ _ _ _ (GT.nil _ _) (hSO.gs hV h8 m2 hR4 hio hs1 hh h3 hs2 hh2) rfl)
