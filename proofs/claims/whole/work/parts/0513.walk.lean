set_option maxRecDepth 100000 in
set_option maxHeartbeats 4000000 in
theorem w_X9_query_154 {Γ : XG} {Lx : Launch} {Dx : va_G} {cs : Nat → ClassId} {h0 : Nat} {d0 : Nat → Nat} {v_documents : Int32} {v_terms : Int32} {v_latest : Int32} {v_filed : Int32} {v_drafted : Int32} {v_place : Int32} {v_over : Int32} {v_holds : Nat → Int32} {v_tape : Nat → Int32} {v_words : Nat → Int32} {v_letter : Nat → Int32} {v_size : Nat → Int32} {v_impact : Nat → Int32} {v_kept : Nat → Int32} {v_generation : Nat → Int32} {K_175 : Int32 → Int32 → Int32 → Int64 → Int32 → Int32 → Int32 → Int32 → Int32 → Int32 → Int32 → (Nat → Int32) → (Nat → Int32) → (Nat → Int32) → (Nat → Int32) → (Nat → Int32) → (Nat → Int32) → (Nat → Int32) → (Nat → Int32) → (Nat → Int32) → Int32 → Int32 → Int64 → Int32 → Prop} {Φ : Int32 → Int32 → Int32 → Int32 → Int64 → Int32 → Int32 → Int32 → Int32 → Int32 → Int32 → Int32 → (Nat → Int32) → (Nat → Int32) → (Nat → Int32) → (Nat → Int32) → (Nat → Int32) → (Nat → Int32) → (Nat → Int32) → (Nat → Int32) → (Nat → Int32) → Prop} {k n9 : Nat} (C : CX Γ Lx Dx cs cX9_query RX9 "query" 9 (some .int) 3 75 0 0 (qEC cs 0 0 [] (R_X9_query cs h0 d0 v_documents v_terms v_latest v_filed v_drafted v_place v_over v_holds v_tape v_words v_letter v_size v_impact v_kept v_generation Φ) (fun _ _ => False))) (hkm : k ≤ 0) (hnm : n9 ≤ 0) : ∀ n : Nat, ∀ (v_thrown : Int32) (v_taped : Int32) (v_at : Int32) (v_clock : Int64) (v_askedTerms : Int32) (v_segments : Int32) (v_done : Int32) (v_postingsDone : Int32) (v_postingsAll : Int32) (v_why : Int32) (v_hits : Int32) (v_fresh : Nat → Int32) (v_word : Nat → Int32) (v_asked : Nat → Int32) (v_gap : Nat → Int32) (v_planTerm : Nat → Int32) (v_planImpact : Nat → Int32) (v_planSize : Nat → Int32) (v_sums : Nat → Int32) (v_hit : Nat → Int32) (l2 : Int32) (l3 : Int32) (l4 : Int64) (l7 : Int32) (l8 : Int32), L_X9_query_154 n v_thrown v_taped v_at v_clock v_askedTerms v_segments v_done v_postingsDone v_postingsAll v_why v_hits v_holds v_fresh v_tape v_word v_words v_letter v_asked v_size v_impact v_gap v_planTerm v_planImpact v_planSize v_sums v_hit v_kept v_generation l2 l3 l4 l7 l8 K_175 Φ → (∀ (v_thrown_18 : Int32) (v_taped_19 : Int32) (v_at_20 : Int32) (v_clock_21 : Int64) (v_askedTerms_22 : Int32) (v_segments_23 : Int32) (v_done_24 : Int32) (v_postingsDone_25 : Int32) (v_postingsAll_26 : Int32) (v_why_27 : Int32) (v_hits_28 : Int32) (v_fresh_29 : Nat → Int32) (v_word_30 : Nat → Int32) (v_asked_31 : Nat → Int32) (v_gap_32 : Nat → Int32) (v_planTerm_33 : Nat → Int32) (v_planImpact_34 : Nat → Int32) (v_planSize_35 : Nat → Int32) (v_sums_36 : Nat → Int32) (v_hit_37 : Nat → Int32) (l2_38 : Int32) (l3_39 : Int32) (l4_40 : Int64) (l7_41 : Int32), K_175 v_thrown_18 v_taped_19 v_at_20 v_clock_21 v_askedTerms_22 v_segments_23 v_done_24 v_postingsDone_25 v_postingsAll_26 v_why_27 v_hits_28 v_fresh_29 v_word_30 v_asked_31 v_gap_32 v_planTerm_33 v_planImpact_34 v_planSize_35 v_sums_36 v_hit_37 l2_38 l3_39 l4_40 l7_41 → AW Γ k n9 175 [(0, .ref h0), (2, .int l2_38), (3, .int l3_39), (4, .long l4_40), (7, .int l7_41)] [] [(h0, oX9 d0 v_thrown_18 v_taped_19 v_at_20 v_documents v_terms v_latest v_filed v_drafted v_place v_over v_clock_21 v_askedTerms_22 v_segments_23 v_done_24 v_postingsDone_25 v_postingsAll_26 v_why_27 v_hits_28), ((d0 20), aI cs 4 v_holds), ((d0 10), aI cs 64 v_fresh_29), ((d0 1), aI cs 3000 v_tape), ((d0 3), aI cs 8 v_word_30), ((d0 14), aI cs 5 v_words), ((d0 15), aI cs 2560 v_letter), ((d0 29), aI cs 64 v_asked_31), ((d0 13), aI cs 5 v_size), ((d0 16), aI cs 12800 v_impact), ((d0 27), aI cs 40 v_gap_32), ((d0 37), aI cs 600 v_planTerm_33), ((d0 38), aI cs 600 v_planImpact_34), ((d0 39), aI cs 600 v_planSize_35), ((d0 40), aI cs 40 v_sums_36), ((d0 41), aI cs 40 v_hit_37), ((d0 18), aZ cs 5 v_kept), ((d0 17), aI cs 5 v_generation)]) → AW Γ k n9 154 [(0, .ref h0), (2, .int l2), (3, .int l3), (4, .long l4), (7, .int l7), (8, .int l8)] [] [(h0, oX9 d0 v_thrown v_taped v_at v_documents v_terms v_latest v_filed v_drafted v_place v_over v_clock v_askedTerms v_segments v_done v_postingsDone v_postingsAll v_why v_hits), ((d0 20), aI cs 4 v_holds), ((d0 10), aI cs 64 v_fresh), ((d0 1), aI cs 3000 v_tape), ((d0 3), aI cs 8 v_word), ((d0 14), aI cs 5 v_words), ((d0 15), aI cs 2560 v_letter), ((d0 29), aI cs 64 v_asked), ((d0 13), aI cs 5 v_size), ((d0 16), aI cs 12800 v_impact), ((d0 27), aI cs 40 v_gap), ((d0 37), aI cs 600 v_planTerm), ((d0 38), aI cs 600 v_planImpact), ((d0 39), aI cs 600 v_planSize), ((d0 40), aI cs 40 v_sums), ((d0 41), aI cs 40 v_hit), ((d0 18), aZ cs 5 v_kept), ((d0 17), aI cs 5 v_generation)] := by
  intro n
  induction n with
  | zero =>
    intro v_thrown v_taped v_at v_clock v_askedTerms v_segments v_done v_postingsDone v_postingsAll v_why v_hits v_fresh v_word v_asked v_gap v_planTerm v_planImpact v_planSize v_sums v_hit l2 l3 l4 l7 l8 h
    exact False.elim h
  | succ n ih =>
    intro v_thrown v_taped v_at v_clock v_askedTerms v_segments v_done v_postingsDone v_postingsAll v_why v_hits v_fresh v_word v_asked v_gap v_planTerm v_planImpact v_planSize v_sums v_hit l2 l3 l4 l7 l8 h hK_175
    rw [L_X9_query_154] at h
    refine a_iload C (pc := 154) 5 dX9_query_154 rfl ?_
    refine a_bipush C (pc := 156) dX9_query_156 bp_40 ?_
    refine a_icmp_ge C (pc := 158) 175 dX9_query_158 (by decide) (fun hc => ?_) (fun hc => ?_)
    · have h := h.1 hc
      refine a_lv (lv1 := [(0, .ref h0), (2, .int l2), (3, .int l3), (4, .long l4), (7, .int l7)]) [0, 1, 2, 3, 4] rfl ?_
      exact hK_175 v_thrown v_taped v_at v_clock v_askedTerms v_segments v_done v_postingsDone v_postingsAll v_why v_hits v_fresh v_word v_asked v_gap v_planTerm v_planImpact v_planSize v_sums v_hit l2 l3 l4 l7 h
    · have h := h.2 hc
      refine a_aload_n C (pc := 161) 0 dX9_query_161 rfl rfl ?_
      refine a_get C (pc := 162) 0 40 inW_X9 rfl rfl (Nat.le_of_ble_eq_true rfl) wF_X9_77 rfl rfl dX9_query_162 ?_
      refine a_iload C (pc := 165) 5 dX9_query_165 rfl ?_
      refine a_iconst C (pc := 167) dX9_query_167 ic_0 ?_
      refine a_iast C (pc := 168) (ws1 := [(h0, oX9 d0 v_thrown v_taped v_at v_documents v_terms v_latest v_filed v_drafted v_place v_over v_clock v_askedTerms v_segments v_done v_postingsDone v_postingsAll v_why v_hits), ((d0 20), aI cs 4 v_holds), ((d0 10), aI cs 64 v_fresh), ((d0 1), aI cs 3000 v_tape), ((d0 3), aI cs 8 v_word), ((d0 14), aI cs 5 v_words), ((d0 15), aI cs 2560 v_letter), ((d0 29), aI cs 64 v_asked), ((d0 13), aI cs 5 v_size), ((d0 16), aI cs 12800 v_impact), ((d0 27), aI cs 40 v_gap), ((d0 37), aI cs 600 v_planTerm), ((d0 38), aI cs 600 v_planImpact), ((d0 39), aI cs 600 v_planSize), ((d0 40), aI cs 40 (upd v_sums (l8 : Int32).toNatClampNeg 0)), ((d0 41), aI cs 40 v_hit), ((d0 18), aZ cs 5 v_kept), ((d0 17), aI cs 5 v_generation)]) 14 rfl h.1 dX9_query_168 rfl ?_
      replace h := h.2
      refine a_iinc C (pc := 169) (lv1 := [(0, .ref h0), (2, .int l2), (3, .int l3), (4, .long l4), (7, .int l7), (8, .int (l8 + 1))]) 5 [1, 2, 3, 4, 5, 0] dX9_query_169 rfl (congrArg (fun z => l8 + z) ic_1) (by decide) rfl ?_
      refine a_goto C (pc := 172) 154 dX9_query_172 (by decide) ?_
      exact ih v_thrown v_taped v_at v_clock v_askedTerms v_segments v_done v_postingsDone v_postingsAll v_why v_hits v_fresh v_word v_asked v_gap v_planTerm v_planImpact v_planSize (upd v_sums (l8 : Int32).toNatClampNeg 0) v_hit l2 l3 l4 l7 (l8 + 1) h hK_175
set_option maxRecDepth 100000 in
set_option maxHeartbeats 4000000 in
theorem w_X9_query_190 {Γ : XG} {Lx : Launch} {Dx : va_G} {cs : Nat → ClassId} {h0 : Nat} {d0 : Nat → Nat} {v_documents : Int32} {v_terms : Int32} {v_latest : Int32} {v_filed : Int32} {v_drafted : Int32} {v_place : Int32} {v_over : Int32} {v_holds : Nat → Int32} {v_tape : Nat → Int32} {v_words : Nat → Int32} {v_letter : Nat → Int32} {v_size : Nat → Int32} {v_impact : Nat → Int32} {v_kept : Nat → Int32} {v_generation : Nat → Int32} {K_255 : Int32 → Int32 → Int32 → Int64 → Int32 → Int32 → Int32 → Int32 → Int32 → Int32 → Int32 → (Nat → Int32) → (Nat → Int32) → (Nat → Int32) → (Nat → Int32) → (Nat → Int32) → (Nat → Int32) → (Nat → Int32) → (Nat → Int32) → (Nat → Int32) → Int32 → Prop} {Φ : Int32 → Int32 → Int32 → Int32 → Int64 → Int32 → Int32 → Int32 → Int32 → Int32 → Int32 → Int32 → (Nat → Int32) → (Nat → Int32) → (Nat → Int32) → (Nat → Int32) → (Nat → Int32) → (Nat → Int32) → (Nat → Int32) → (Nat → Int32) → (Nat → Int32) → Prop} {k n9 : Nat} (C : CX Γ Lx Dx cs cX9_query RX9 "query" 9 (some .int) 3 75 0 0 (qEC cs 0 0 [] (R_X9_query cs h0 d0 v_documents v_terms v_latest v_filed v_drafted v_place v_over v_holds v_tape v_words v_letter v_size v_impact v_kept v_generation Φ) (fun _ _ => False))) (hkm : k ≤ 0) (hnm : n9 ≤ 0) : ∀ n : Nat, ∀ (v_thrown : Int32) (v_taped : Int32) (v_at : Int32) (v_clock : Int64) (v_askedTerms : Int32) (v_segments : Int32) (v_done : Int32) (v_postingsDone : Int32) (v_postingsAll : Int32) (v_why : Int32) (v_hits : Int32) (v_fresh : Nat → Int32) (v_word : Nat → Int32) (v_asked : Nat → Int32) (v_gap : Nat → Int32) (v_planTerm : Nat → Int32) (v_planImpact : Nat → Int32) (v_planSize : Nat → Int32) (v_sums : Nat → Int32) (v_hit : Nat → Int32) (l2 : Int32) (l3 : Int32) (l4 : Int64) (l7 : Int32), L_X9_query_190 n v_thrown v_taped v_at v_clock v_askedTerms v_segments v_done v_postingsDone v_postingsAll v_why v_hits v_holds v_fresh v_tape v_word v_words v_letter v_asked v_size v_impact v_gap v_planTerm v_planImpact v_planSize v_sums v_hit v_kept v_generation l2 l3 l4 l7 K_255 Φ → (∀ (v_thrown_78 : Int32) (v_taped_79 : Int32) (v_at_80 : Int32) (v_clock_81 : Int64) (v_askedTerms_82 : Int32) (v_segments_83 : Int32) (v_done_84 : Int32) (v_postingsDone_85 : Int32) (v_postingsAll_86 : Int32) (v_why_87 : Int32) (v_hits_88 : Int32) (v_fresh_89 : Nat → Int32) (v_word_90 : Nat → Int32) (v_asked_91 : Nat → Int32) (v_gap_92 : Nat → Int32) (v_planTerm_93 : Nat → Int32) (v_planImpact_94 : Nat → Int32) (v_planSize_95 : Nat → Int32) (v_sums_96 : Nat → Int32) (v_hit_97 : Nat → Int32) (l2_98 : Int32), K_255 v_thrown_78 v_taped_79 v_at_80 v_clock_81 v_askedTerms_82 v_segments_83 v_done_84 v_postingsDone_85 v_postingsAll_86 v_why_87 v_hits_88 v_fresh_89 v_word_90 v_asked_91 v_gap_92 v_planTerm_93 v_planImpact_94 v_planSize_95 v_sums_96 v_hit_97 l2_98 → AW Γ k n9 255 [(0, .ref h0), (2, .int l2_98)] [] [(h0, oX9 d0 v_thrown_78 v_taped_79 v_at_80 v_documents v_terms v_latest v_filed v_drafted v_place v_over v_clock_81 v_askedTerms_82 v_segments_83 v_done_84 v_postingsDone_85 v_postingsAll_86 v_why_87 v_hits_88), ((d0 20), aI cs 4 v_holds), ((d0 10), aI cs 64 v_fresh_89), ((d0 1), aI cs 3000 v_tape), ((d0 3), aI cs 8 v_word_90), ((d0 14), aI cs 5 v_words), ((d0 15), aI cs 2560 v_letter), ((d0 29), aI cs 64 v_asked_91), ((d0 13), aI cs 5 v_size), ((d0 16), aI cs 12800 v_impact), ((d0 27), aI cs 40 v_gap_92), ((d0 37), aI cs 600 v_planTerm_93), ((d0 38), aI cs 600 v_planImpact_94), ((d0 39), aI cs 600 v_planSize_95), ((d0 40), aI cs 40 v_sums_96), ((d0 41), aI cs 40 v_hit_97), ((d0 18), aZ cs 5 v_kept), ((d0 17), aI cs 5 v_generation)]) → AW Γ k n9 190 [(0, .ref h0), (2, .int l2), (3, .int l3), (4, .long l4), (7, .int l7)] [] [(h0, oX9 d0 v_thrown v_taped v_at v_documents v_terms v_latest v_filed v_drafted v_place v_over v_clock v_askedTerms v_segments v_done v_postingsDone v_postingsAll v_why v_hits), ((d0 20), aI cs 4 v_holds), ((d0 10), aI cs 64 v_fresh), ((d0 1), aI cs 3000 v_tape), ((d0 3), aI cs 8 v_word), ((d0 14), aI cs 5 v_words), ((d0 15), aI cs 2560 v_letter), ((d0 29), aI cs 64 v_asked), ((d0 13), aI cs 5 v_size), ((d0 16), aI cs 12800 v_impact), ((d0 27), aI cs 40 v_gap), ((d0 37), aI cs 600 v_planTerm), ((d0 38), aI cs 600 v_planImpact), ((d0 39), aI cs 600 v_planSize), ((d0 40), aI cs 40 v_sums), ((d0 41), aI cs 40 v_hit), ((d0 18), aZ cs 5 v_kept), ((d0 17), aI cs 5 v_generation)] := by
  intro n
  induction n with
  | zero =>
    intro v_thrown v_taped v_at v_clock v_askedTerms v_segments v_done v_postingsDone v_postingsAll v_why v_hits v_fresh v_word v_asked v_gap v_planTerm v_planImpact v_planSize v_sums v_hit l2 l3 l4 l7 h
    exact False.elim h
  | succ n ih =>
    intro v_thrown v_taped v_at v_clock v_askedTerms v_segments v_done v_postingsDone v_postingsAll v_why v_hits v_fresh v_word v_asked v_gap v_planTerm v_planImpact v_planSize v_sums v_hit l2 l3 l4 l7 h hK_255
    rw [L_X9_query_190] at h
    refine a_aload_n C (pc := 190) 0 dX9_query_190 rfl rfl ?_
    refine a_get C (pc := 191) 0 32 inW_X9 rfl rfl (Nat.le_of_ble_eq_true rfl) wF_X9_287 rfl rfl dX9_query_191 ?_
    refine a_aload_n C (pc := 194) 0 dX9_query_194 rfl rfl ?_
    refine a_get C (pc := 195) 0 31 inW_X9 rfl rfl (Nat.le_of_ble_eq_true rfl) wF_X9_296 rfl rfl dX9_query_195 ?_
    refine a_icmp_ge C (pc := 198) 255 dX9_query_198 (by decide) (fun hc => ?_) (fun hc => ?_)
    · have h := h.1 hc
      refine a_lv (lv1 := [(0, .ref h0), (2, .int l2)]) [0, 1] rfl ?_
      exact hK_255 v_thrown v_taped v_at v_clock v_askedTerms v_segments v_done v_postingsDone v_postingsAll v_why v_hits v_fresh v_word v_asked v_gap v_planTerm v_planImpact v_planSize v_sums v_hit l2 h
    · have h := h.2 hc
      refine a_aload_n C (pc := 201) 0 dX9_query_201 rfl rfl ?_
      refine a_get C (pc := 202) 0 35 inW_X9 rfl rfl (Nat.le_of_ble_eq_true rfl) wF_X9_293 rfl rfl dX9_query_202 ?_
      refine a_if_ne C (pc := 205) 255 dX9_query_205 (by decide) (fun hc => ?_) (fun hc => ?_)
      · have h := h.1 hc
        refine a_lv (lv1 := [(0, .ref h0), (2, .int l2)]) [0, 1] rfl ?_
        exact hK_255 v_thrown v_taped v_at v_clock v_askedTerms v_segments v_done v_postingsDone v_postingsAll v_why v_hits v_fresh v_word v_asked v_gap v_planTerm v_planImpact v_planSize v_sums v_hit l2 h
      · have h := h.2 hc
        refine a_aload_n C (pc := 208) 0 dX9_query_208 rfl rfl ?_
        refine a_aload_n C (pc := 209) 0 dX9_query_209 rfl rfl ?_
        refine a_get C (pc := 210) 0 33 inW_X9 rfl rfl (Nat.le_of_ble_eq_true rfl) wF_X9_290 rfl rfl dX9_query_210 ?_
        refine a_iload_n C (pc := 213) 2 dX9_query_213 rfl rfl ?_
        refine a_icmp_lt C (pc := 214) 221 dX9_query_214 (by decide) (fun hc => ?_) (fun hc => ?_)
        · have h := h.1 hc
          refine a_aload_n C (pc := 221) 0 dX9_query_221 rfl rfl ?_
          refine a_get C (pc := 222) 0 28 inW_X9 rfl rfl (Nat.le_of_ble_eq_true rfl) wF_X9_299 rfl rfl dX9_query_222 ?_
          refine a_lload C (pc := 225) 3 dX9_query_225 rfl ?_
          refine a_lcmp_lt C (pc := 227) 235 dX9_query_227 dX9_query_228 (by decide) (fun hc => ?_) (fun hc => ?_)
          · have h := h.1 hc
            refine a_iconst C (pc := 235) dX9_query_235 ic_0 ?_
            refine a_put C (pc := 236) (ws1 := [(h0, oX9 d0 v_thrown v_taped v_at v_documents v_terms v_latest v_filed v_drafted v_place v_over v_clock v_askedTerms v_segments v_done v_postingsDone v_postingsAll 0 v_hits), ((d0 20), aI cs 4 v_holds), ((d0 10), aI cs 64 v_fresh), ((d0 1), aI cs 3000 v_tape), ((d0 3), aI cs 8 v_word), ((d0 14), aI cs 5 v_words), ((d0 15), aI cs 2560 v_letter), ((d0 29), aI cs 64 v_asked), ((d0 13), aI cs 5 v_size), ((d0 16), aI cs 12800 v_impact), ((d0 27), aI cs 40 v_gap), ((d0 37), aI cs 600 v_planTerm), ((d0 38), aI cs 600 v_planImpact), ((d0 39), aI cs 600 v_planSize), ((d0 40), aI cs 40 v_sums), ((d0 41), aI cs 40 v_hit), ((d0 18), aZ cs 5 v_kept), ((d0 17), aI cs 5 v_generation)]) 0 35 inW_X9 tyX9 tyX9_ok nmX9 rfl rfl (Nat.le_of_ble_eq_true rfl) wF_X9_293 rfl rfl rfl rfl rfl (Nat.le_of_ble_eq_true rfl) dX9_query_236 rfl ?_
            refine a_aload_n C (pc := 239) 0 dX9_query_239 rfl rfl ?_
            refine a_get C (pc := 240) 0 35 inW_X9 rfl rfl (Nat.le_of_ble_eq_true rfl) wF_X9_293 rfl rfl dX9_query_240 ?_
            refine a_if_ne C (pc := 243) 190 dX9_query_243 (by decide) (fun hc => ?_) (fun hc => ?_)
            · have h := h.1 hc
              exact ih v_thrown v_taped v_at v_clock v_askedTerms v_segments v_done v_postingsDone v_postingsAll 0 v_hits v_fresh v_word v_asked v_gap v_planTerm v_planImpact v_planSize v_sums v_hit l2 l3 l4 l7 h hK_255
            · have h := h.2 hc
              refine a_aload_n C (pc := 246) 0 dX9_query_246 rfl rfl ?_
              refine a_iload C (pc := 247) 4 dX9_query_247 rfl ?_
              refine a_callV C (pc := 249) (av := [.int l7]) (wr := [((d0 20), aI cs 4 v_holds), ((d0 10), aI cs 64 v_fresh), ((d0 1), aI cs 3000 v_tape), ((d0 3), aI cs 8 v_word), ((d0 14), aI cs 5 v_words), ((d0 15), aI cs 2560 v_letter), ((d0 27), aI cs 40 v_gap), ((d0 41), aI cs 40 v_hit), ((d0 18), aZ cs 5 v_kept), ((d0 17), aI cs 5 v_generation)]) (m_X9_works Lx Dx cs h0 d0 v_thrown v_taped v_at v_documents v_terms v_latest v_filed v_drafted v_place v_over v_clock v_askedTerms v_segments v_done v_postingsDone v_postingsAll 0 v_hits v_planTerm v_asked v_size v_impact v_planImpact v_sums v_planSize l7 _ h) [0, 11, 7, 8, 9, 12, 14, 13] [1, 2, 3, 4, 5, 6, 10, 15, 16, 17] rfl rfl (by decide) (by decide) (by decide) wM_X9_303 wb_X9_works hy_X9_works (q0 := 0) rfl rfl rfl ⟨Nat.le_of_ble_eq_true rfl, Nat.le_of_ble_eq_true rfl⟩ (Nat.le_of_ble_eq_true rfl) hkm hnm rfl dX9_query_249 (fun v w1 hw => ?_) [] rfl (fun _ _ h => h.elim)
              obtain ⟨v_clock_66, v_done_67, v_postingsDone_68, v_sums_69, rfl, rfl, h⟩ := hw
              refine a_ws (st1 := []) (ws1 := [(h0, oX9 d0 v_thrown v_taped v_at v_documents v_terms v_latest v_filed v_drafted v_place v_over v_clock_66 v_askedTerms v_segments v_done_67 v_postingsDone_68 v_postingsAll 0 v_hits), ((d0 20), aI cs 4 v_holds), ((d0 10), aI cs 64 v_fresh), ((d0 1), aI cs 3000 v_tape), ((d0 3), aI cs 8 v_word), ((d0 14), aI cs 5 v_words), ((d0 15), aI cs 2560 v_letter), ((d0 29), aI cs 64 v_asked), ((d0 13), aI cs 5 v_size), ((d0 16), aI cs 12800 v_impact), ((d0 27), aI cs 40 v_gap), ((d0 37), aI cs 600 v_planTerm), ((d0 38), aI cs 600 v_planImpact), ((d0 39), aI cs 600 v_planSize), ((d0 40), aI cs 40 v_sums_69), ((d0 41), aI cs 40 v_hit), ((d0 18), aZ cs 5 v_kept), ((d0 17), aI cs 5 v_generation)]) k n9 252 [10, 0, 1, 2, 3, 4, 5, 12, 13, 14, 6, 11, 15, 17, 16, 7, 8, 9] rfl rfl rfl rfl (by decide) rfl ?_
              refine a_goto C (pc := 252) 190 dX9_query_252 (by decide) ?_
              exact ih v_thrown v_taped v_at v_clock_66 v_askedTerms v_segments v_done_67 v_postingsDone_68 v_postingsAll 0 v_hits v_fresh v_word v_asked v_gap v_planTerm v_planImpact v_planSize v_sums_69 v_hit l2 l3 l4 l7 h hK_255
          · have h := h.2 hc
            refine a_iconst C (pc := 231) dX9_query_231 ic_2 ?_
            refine a_goto C (pc := 232) 236 dX9_query_232 (by decide) ?_
            refine a_put C (pc := 236) (ws1 := [(h0, oX9 d0 v_thrown v_taped v_at v_documents v_terms v_latest v_filed v_drafted v_place v_over v_clock v_askedTerms v_segments v_done v_postingsDone v_postingsAll 2 v_hits), ((d0 20), aI cs 4 v_holds), ((d0 10), aI cs 64 v_fresh), ((d0 1), aI cs 3000 v_tape), ((d0 3), aI cs 8 v_word), ((d0 14), aI cs 5 v_words), ((d0 15), aI cs 2560 v_letter), ((d0 29), aI cs 64 v_asked), ((d0 13), aI cs 5 v_size), ((d0 16), aI cs 12800 v_impact), ((d0 27), aI cs 40 v_gap), ((d0 37), aI cs 600 v_planTerm), ((d0 38), aI cs 600 v_planImpact), ((d0 39), aI cs 600 v_planSize), ((d0 40), aI cs 40 v_sums), ((d0 41), aI cs 40 v_hit), ((d0 18), aZ cs 5 v_kept), ((d0 17), aI cs 5 v_generation)]) 0 35 inW_X9 tyX9 tyX9_ok nmX9 rfl rfl (Nat.le_of_ble_eq_true rfl) wF_X9_293 rfl rfl rfl rfl rfl (Nat.le_of_ble_eq_true rfl) dX9_query_236 rfl ?_
            refine a_aload_n C (pc := 239) 0 dX9_query_239 rfl rfl ?_
            refine a_get C (pc := 240) 0 35 inW_X9 rfl rfl (Nat.le_of_ble_eq_true rfl) wF_X9_293 rfl rfl dX9_query_240 ?_
            refine a_if_ne C (pc := 243) 190 dX9_query_243 (by decide) (fun hc => ?_) (fun hc => ?_)
            · have h := h.1 hc
              exact ih v_thrown v_taped v_at v_clock v_askedTerms v_segments v_done v_postingsDone v_postingsAll 2 v_hits v_fresh v_word v_asked v_gap v_planTerm v_planImpact v_planSize v_sums v_hit l2 l3 l4 l7 h hK_255
            · have h := h.2 hc
              refine a_aload_n C (pc := 246) 0 dX9_query_246 rfl rfl ?_
              refine a_iload C (pc := 247) 4 dX9_query_247 rfl ?_
              refine a_callV C (pc := 249) (av := [.int l7]) (wr := [((d0 20), aI cs 4 v_holds), ((d0 10), aI cs 64 v_fresh), ((d0 1), aI cs 3000 v_tape), ((d0 3), aI cs 8 v_word), ((d0 14), aI cs 5 v_words), ((d0 15), aI cs 2560 v_letter), ((d0 27), aI cs 40 v_gap), ((d0 41), aI cs 40 v_hit), ((d0 18), aZ cs 5 v_kept), ((d0 17), aI cs 5 v_generation)]) (m_X9_works Lx Dx cs h0 d0 v_thrown v_taped v_at v_documents v_terms v_latest v_filed v_drafted v_place v_over v_clock v_askedTerms v_segments v_done v_postingsDone v_postingsAll 2 v_hits v_planTerm v_asked v_size v_impact v_planImpact v_sums v_planSize l7 _ h) [0, 11, 7, 8, 9, 12, 14, 13] [1, 2, 3, 4, 5, 6, 10, 15, 16, 17] rfl rfl (by decide) (by decide) (by decide) wM_X9_303 wb_X9_works hy_X9_works (q0 := 0) rfl rfl rfl ⟨Nat.le_of_ble_eq_true rfl, Nat.le_of_ble_eq_true rfl⟩ (Nat.le_of_ble_eq_true rfl) hkm hnm rfl dX9_query_249 (fun v w1 hw => ?_) [] rfl (fun _ _ h => h.elim)
              obtain ⟨v_clock_70, v_done_71, v_postingsDone_72, v_sums_73, rfl, rfl, h⟩ := hw
              refine a_ws (st1 := []) (ws1 := [(h0, oX9 d0 v_thrown v_taped v_at v_documents v_terms v_latest v_filed v_drafted v_place v_over v_clock_70 v_askedTerms v_segments v_done_71 v_postingsDone_72 v_postingsAll 2 v_hits), ((d0 20), aI cs 4 v_holds), ((d0 10), aI cs 64 v_fresh), ((d0 1), aI cs 3000 v_tape), ((d0 3), aI cs 8 v_word), ((d0 14), aI cs 5 v_words), ((d0 15), aI cs 2560 v_letter), ((d0 29), aI cs 64 v_asked), ((d0 13), aI cs 5 v_size), ((d0 16), aI cs 12800 v_impact), ((d0 27), aI cs 40 v_gap), ((d0 37), aI cs 600 v_planTerm), ((d0 38), aI cs 600 v_planImpact), ((d0 39), aI cs 600 v_planSize), ((d0 40), aI cs 40 v_sums_73), ((d0 41), aI cs 40 v_hit), ((d0 18), aZ cs 5 v_kept), ((d0 17), aI cs 5 v_generation)]) k n9 252 [10, 0, 1, 2, 3, 4, 5, 12, 13, 14, 6, 11, 15, 17, 16, 7, 8, 9] rfl rfl rfl rfl (by decide) rfl ?_
              refine a_goto C (pc := 252) 190 dX9_query_252 (by decide) ?_
              exact ih v_thrown v_taped v_at v_clock_70 v_askedTerms v_segments v_done_71 v_postingsDone_72 v_postingsAll 2 v_hits v_fresh v_word v_asked v_gap v_planTerm v_planImpact v_planSize v_sums_73 v_hit l2 l3 l4 l7 h hK_255
        · have h := h.2 hc
          refine a_iconst C (pc := 217) dX9_query_217 ic_1 ?_
          refine a_goto C (pc := 218) 236 dX9_query_218 (by decide) ?_
          refine a_put C (pc := 236) (ws1 := [(h0, oX9 d0 v_thrown v_taped v_at v_documents v_terms v_latest v_filed v_drafted v_place v_over v_clock v_askedTerms v_segments v_done v_postingsDone v_postingsAll 1 v_hits), ((d0 20), aI cs 4 v_holds), ((d0 10), aI cs 64 v_fresh), ((d0 1), aI cs 3000 v_tape), ((d0 3), aI cs 8 v_word), ((d0 14), aI cs 5 v_words), ((d0 15), aI cs 2560 v_letter), ((d0 29), aI cs 64 v_asked), ((d0 13), aI cs 5 v_size), ((d0 16), aI cs 12800 v_impact), ((d0 27), aI cs 40 v_gap), ((d0 37), aI cs 600 v_planTerm), ((d0 38), aI cs 600 v_planImpact), ((d0 39), aI cs 600 v_planSize), ((d0 40), aI cs 40 v_sums), ((d0 41), aI cs 40 v_hit), ((d0 18), aZ cs 5 v_kept), ((d0 17), aI cs 5 v_generation)]) 0 35 inW_X9 tyX9 tyX9_ok nmX9 rfl rfl (Nat.le_of_ble_eq_true rfl) wF_X9_293 rfl rfl rfl rfl rfl (Nat.le_of_ble_eq_true rfl) dX9_query_236 rfl ?_
          refine a_aload_n C (pc := 239) 0 dX9_query_239 rfl rfl ?_
          refine a_get C (pc := 240) 0 35 inW_X9 rfl rfl (Nat.le_of_ble_eq_true rfl) wF_X9_293 rfl rfl dX9_query_240 ?_
          refine a_if_ne C (pc := 243) 190 dX9_query_243 (by decide) (fun hc => ?_) (fun hc => ?_)
          · have h := h.1 hc
            exact ih v_thrown v_taped v_at v_clock v_askedTerms v_segments v_done v_postingsDone v_postingsAll 1 v_hits v_fresh v_word v_asked v_gap v_planTerm v_planImpact v_planSize v_sums v_hit l2 l3 l4 l7 h hK_255
          · have h := h.2 hc
            refine a_aload_n C (pc := 246) 0 dX9_query_246 rfl rfl ?_
            refine a_iload C (pc := 247) 4 dX9_query_247 rfl ?_
            refine a_callV C (pc := 249) (av := [.int l7]) (wr := [((d0 20), aI cs 4 v_holds), ((d0 10), aI cs 64 v_fresh), ((d0 1), aI cs 3000 v_tape), ((d0 3), aI cs 8 v_word), ((d0 14), aI cs 5 v_words), ((d0 15), aI cs 2560 v_letter), ((d0 27), aI cs 40 v_gap), ((d0 41), aI cs 40 v_hit), ((d0 18), aZ cs 5 v_kept), ((d0 17), aI cs 5 v_generation)]) (m_X9_works Lx Dx cs h0 d0 v_thrown v_taped v_at v_documents v_terms v_latest v_filed v_drafted v_place v_over v_clock v_askedTerms v_segments v_done v_postingsDone v_postingsAll 1 v_hits v_planTerm v_asked v_size v_impact v_planImpact v_sums v_planSize l7 _ h) [0, 11, 7, 8, 9, 12, 14, 13] [1, 2, 3, 4, 5, 6, 10, 15, 16, 17] rfl rfl (by decide) (by decide) (by decide) wM_X9_303 wb_X9_works hy_X9_works (q0 := 0) rfl rfl rfl ⟨Nat.le_of_ble_eq_true rfl, Nat.le_of_ble_eq_true rfl⟩ (Nat.le_of_ble_eq_true rfl) hkm hnm rfl dX9_query_249 (fun v w1 hw => ?_) [] rfl (fun _ _ h => h.elim)
            obtain ⟨v_clock_74, v_done_75, v_postingsDone_76, v_sums_77, rfl, rfl, h⟩ := hw
            refine a_ws (st1 := []) (ws1 := [(h0, oX9 d0 v_thrown v_taped v_at v_documents v_terms v_latest v_filed v_drafted v_place v_over v_clock_74 v_askedTerms v_segments v_done_75 v_postingsDone_76 v_postingsAll 1 v_hits), ((d0 20), aI cs 4 v_holds), ((d0 10), aI cs 64 v_fresh), ((d0 1), aI cs 3000 v_tape), ((d0 3), aI cs 8 v_word), ((d0 14), aI cs 5 v_words), ((d0 15), aI cs 2560 v_letter), ((d0 29), aI cs 64 v_asked), ((d0 13), aI cs 5 v_size), ((d0 16), aI cs 12800 v_impact), ((d0 27), aI cs 40 v_gap), ((d0 37), aI cs 600 v_planTerm), ((d0 38), aI cs 600 v_planImpact), ((d0 39), aI cs 600 v_planSize), ((d0 40), aI cs 40 v_sums_77), ((d0 41), aI cs 40 v_hit), ((d0 18), aZ cs 5 v_kept), ((d0 17), aI cs 5 v_generation)]) k n9 252 [10, 0, 1, 2, 3, 4, 5, 12, 13, 14, 6, 11, 15, 17, 16, 7, 8, 9] rfl rfl rfl rfl (by decide) rfl ?_
            refine a_goto C (pc := 252) 190 dX9_query_252 (by decide) ?_
            exact ih v_thrown v_taped v_at v_clock_74 v_askedTerms v_segments v_done_75 v_postingsDone_76 v_postingsAll 1 v_hits v_fresh v_word v_asked v_gap v_planTerm v_planImpact v_planSize v_sums_77 v_hit l2 l3 l4 l7 h hK_255
set_option maxRecDepth 100000 in
set_option maxHeartbeats 4000000 in
theorem w_X9_query_124 {Γ : XG} {Lx : Launch} {Dx : va_G} {cs : Nat → ClassId} {h0 : Nat} {d0 : Nat → Nat} {v_documents : Int32} {v_terms : Int32} {v_latest : Int32} {v_filed : Int32} {v_drafted : Int32} {v_place : Int32} {v_over : Int32} {v_holds : Nat → Int32} {v_tape : Nat → Int32} {v_words : Nat → Int32} {v_letter : Nat → Int32} {v_size : Nat → Int32} {v_impact : Nat → Int32} {v_kept : Nat → Int32} {v_generation : Nat → Int32} {Φ : Int32 → Int32 → Int32 → Int32 → Int64 → Int32 → Int32 → Int32 → Int32 → Int32 → Int32 → Int32 → (Nat → Int32) → (Nat → Int32) → (Nat → Int32) → (Nat → Int32) → (Nat → Int32) → (Nat → Int32) → (Nat → Int32) → (Nat → Int32) → (Nat → Int32) → Prop} {k n9 : Nat} (C : CX Γ Lx Dx cs cX9_query RX9 "query" 9 (some .int) 3 75 0 0 (qEC cs 0 0 [] (R_X9_query cs h0 d0 v_documents v_terms v_latest v_filed v_drafted v_place v_over v_holds v_tape v_words v_letter v_size v_impact v_kept v_generation Φ) (fun _ _ => False))) (hkm : k ≤ 0) (hnm : n9 ≤ 0) (v_thrown : Int32) (v_taped : Int32) (v_at : Int32) (v_clock : Int64) (v_askedTerms : Int32) (v_segments : Int32) (v_done : Int32) (v_postingsDone : Int32) (v_postingsAll : Int32) (v_why : Int32) (v_hits : Int32) (v_fresh : Nat → Int32) (v_word : Nat → Int32) (v_asked : Nat → Int32) (v_gap : Nat → Int32) (v_planTerm : Nat → Int32) (v_planImpact : Nat → Int32) (v_planSize : Nat → Int32) (v_sums : Nat → Int32) (v_hit : Nat → Int32) (l2 : Int32) (l3 : Int32) (l4 : Int64) (l6 : Int32) (l7 : Int32) (s1 : Int32) (h : J_X9_query_124 v_thrown v_taped v_at v_clock v_askedTerms v_segments v_done v_postingsDone v_postingsAll v_why v_hits v_holds v_fresh v_tape v_word v_words v_letter v_asked v_size v_impact v_gap v_planTerm v_planImpact v_planSize v_sums v_hit v_kept v_generation l2 l3 l4 l6 l7 s1 Φ) : AW Γ k n9 124 [(0, .ref h0), (2, .int l2), (3, .int l3), (4, .long l4), (6, .int l6), (7, .int l7)] [.int s1, .ref h0] [(h0, oX9 d0 v_thrown v_taped v_at v_documents v_terms v_latest v_filed v_drafted v_place v_over v_clock v_askedTerms v_segments v_done v_postingsDone v_postingsAll v_why v_hits), ((d0 20), aI cs 4 v_holds), ((d0 10), aI cs 64 v_fresh), ((d0 1), aI cs 3000 v_tape), ((d0 3), aI cs 8 v_word), ((d0 14), aI cs 5 v_words), ((d0 15), aI cs 2560 v_letter), ((d0 29), aI cs 64 v_asked), ((d0 13), aI cs 5 v_size), ((d0 16), aI cs 12800 v_impact), ((d0 27), aI cs 40 v_gap), ((d0 37), aI cs 600 v_planTerm), ((d0 38), aI cs 600 v_planImpact), ((d0 39), aI cs 600 v_planSize), ((d0 40), aI cs 40 v_sums), ((d0 41), aI cs 40 v_hit), ((d0 18), aZ cs 5 v_kept), ((d0 17), aI cs 5 v_generation)] := by
  unfold J_X9_query_124 at h
  refine a_iconst C (pc := 124) dX9_query_124 ic_2 ?_
  refine a_callV C (pc := 125) (av := [.int s1, .int 2]) (wr := [((d0 20), aI cs 4 v_holds), ((d0 10), aI cs 64 v_fresh), ((d0 1), aI cs 3000 v_tape), ((d0 3), aI cs 8 v_word), ((d0 14), aI cs 5 v_words), ((d0 15), aI cs 2560 v_letter), ((d0 29), aI cs 64 v_asked), ((d0 13), aI cs 5 v_size), ((d0 16), aI cs 12800 v_impact), ((d0 27), aI cs 40 v_gap), ((d0 37), aI cs 600 v_planTerm), ((d0 38), aI cs 600 v_planImpact), ((d0 39), aI cs 600 v_planSize), ((d0 40), aI cs 40 v_sums), ((d0 41), aI cs 40 v_hit), ((d0 18), aZ cs 5 v_kept), ((d0 17), aI cs 5 v_generation)]) (m_X9_fails Lx Dx cs h0 d0 v_thrown v_taped v_at v_documents v_terms v_latest v_filed v_drafted v_place v_over v_clock v_askedTerms v_segments v_done v_postingsDone v_postingsAll v_why v_hits s1 2 _ h) [0] [1, 2, 3, 4, 5, 6, 7, 8, 9, 10, 11, 12, 13, 14, 15, 16, 17] rfl rfl (by decide) (by decide) (by decide) wM_X9_93 wb_X9_fails hy_X9_fails (q0 := 0) rfl rfl rfl ⟨Nat.le_of_ble_eq_true rfl, Nat.le_of_ble_eq_true rfl⟩ (Nat.le_of_ble_eq_true rfl) hkm hnm rfl dX9_query_125 (fun v w1 hw => ?_) [] rfl (fun _ _ h => h.elim)
  obtain ⟨r_5, v_thrown_6, rfl, rfl, h⟩ := hw
  refine a_ws (st1 := [.int r_5]) (ws1 := [(h0, oX9 d0 v_thrown_6 v_taped v_at v_documents v_terms v_latest v_filed v_drafted v_place v_over v_clock v_askedTerms v_segments v_done v_postingsDone v_postingsAll v_why v_hits), ((d0 20), aI cs 4 v_holds), ((d0 10), aI cs 64 v_fresh), ((d0 1), aI cs 3000 v_tape), ((d0 3), aI cs 8 v_word), ((d0 14), aI cs 5 v_words), ((d0 15), aI cs 2560 v_letter), ((d0 29), aI cs 64 v_asked), ((d0 13), aI cs 5 v_size), ((d0 16), aI cs 12800 v_impact), ((d0 27), aI cs 40 v_gap), ((d0 37), aI cs 600 v_planTerm), ((d0 38), aI cs 600 v_planImpact), ((d0 39), aI cs 600 v_planSize), ((d0 40), aI cs 40 v_sums), ((d0 41), aI cs 40 v_hit), ((d0 18), aZ cs 5 v_kept), ((d0 17), aI cs 5 v_generation)]) k n9 128 [17, 0, 1, 2, 3, 4, 5, 6, 7, 8, 9, 10, 11, 12, 13, 14, 15, 16] rfl rfl rfl rfl (by decide) rfl ?_
  refine a_if_eq C (pc := 128) 133 dX9_query_128 (by decide) (fun hc => ?_) (fun hc => ?_)
  · have h := h.1 hc
    refine a_aload_n C (pc := 133) 0 dX9_query_133 rfl rfl ?_
    refine a_aload_n C (pc := 134) 0 dX9_query_134 rfl rfl ?_
    refine a_iload C (pc := 135) 5 dX9_query_135 rfl ?_
    refine a_iload C (pc := 137) 4 dX9_query_137 rfl ?_
    refine a_callV C (pc := 139) (av := [.int l7, .int l6]) (wr := [((d0 20), aI cs 4 v_holds), ((d0 10), aI cs 64 v_fresh), ((d0 13), aI cs 5 v_size), ((d0 16), aI cs 12800 v_impact), ((d0 27), aI cs 40 v_gap), ((d0 37), aI cs 600 v_planTerm), ((d0 38), aI cs 600 v_planImpact), ((d0 39), aI cs 600 v_planSize), ((d0 40), aI cs 40 v_sums), ((d0 41), aI cs 40 v_hit), ((d0 18), aZ cs 5 v_kept), ((d0 17), aI cs 5 v_generation)]) (m_X9_asks Lx Dx cs h0 d0 v_thrown_6 v_taped v_at v_documents v_terms v_latest v_filed v_drafted v_place v_over v_clock v_askedTerms v_segments v_done v_postingsDone v_postingsAll v_why v_hits v_asked v_tape v_word v_words v_letter l7 l6 _ h) [0, 7, 3, 4, 5, 6] [1, 2, 8, 9, 10, 11, 12, 13, 14, 15, 16, 17] rfl rfl (by decide) (by decide) (by decide) wM_X9_278 wb_X9_asks hy_X9_asks (q0 := 0) rfl rfl rfl ⟨Nat.le_of_ble_eq_true rfl, Nat.le_of_ble_eq_true rfl⟩ (Nat.le_of_ble_eq_true rfl) hkm hnm rfl dX9_query_139 (fun v w1 hw => ?_) [] rfl (fun _ _ h => h.elim)
    obtain ⟨r_7, v_at_8, v_asked_9, v_word_10, rfl, rfl, h⟩ := hw
    refine a_ws (st1 := [.int r_7, .ref h0]) (ws1 := [(h0, oX9 d0 v_thrown_6 v_taped v_at_8 v_documents v_terms v_latest v_filed v_drafted v_place v_over v_clock v_askedTerms v_segments v_done v_postingsDone v_postingsAll v_why v_hits), ((d0 20), aI cs 4 v_holds), ((d0 10), aI cs 64 v_fresh), ((d0 1), aI cs 3000 v_tape), ((d0 3), aI cs 8 v_word_10), ((d0 14), aI cs 5 v_words), ((d0 15), aI cs 2560 v_letter), ((d0 29), aI cs 64 v_asked_9), ((d0 13), aI cs 5 v_size), ((d0 16), aI cs 12800 v_impact), ((d0 27), aI cs 40 v_gap), ((d0 37), aI cs 600 v_planTerm), ((d0 38), aI cs 600 v_planImpact), ((d0 39), aI cs 600 v_planSize), ((d0 40), aI cs 40 v_sums), ((d0 41), aI cs 40 v_hit), ((d0 18), aZ cs 5 v_kept), ((d0 17), aI cs 5 v_generation)]) k n9 142 [12, 0, 1, 14, 15, 16, 17, 13, 2, 3, 4, 5, 6, 7, 8, 9, 10, 11] rfl rfl rfl rfl (by decide) rfl ?_
    refine a_put C (pc := 142) (ws1 := [(h0, oX9 d0 v_thrown_6 v_taped v_at_8 v_documents v_terms v_latest v_filed v_drafted v_place v_over v_clock r_7 v_segments v_done v_postingsDone v_postingsAll v_why v_hits), ((d0 20), aI cs 4 v_holds), ((d0 10), aI cs 64 v_fresh), ((d0 1), aI cs 3000 v_tape), ((d0 3), aI cs 8 v_word_10), ((d0 14), aI cs 5 v_words), ((d0 15), aI cs 2560 v_letter), ((d0 29), aI cs 64 v_asked_9), ((d0 13), aI cs 5 v_size), ((d0 16), aI cs 12800 v_impact), ((d0 27), aI cs 40 v_gap), ((d0 37), aI cs 600 v_planTerm), ((d0 38), aI cs 600 v_planImpact), ((d0 39), aI cs 600 v_planSize), ((d0 40), aI cs 40 v_sums), ((d0 41), aI cs 40 v_hit), ((d0 18), aZ cs 5 v_kept), ((d0 17), aI cs 5 v_generation)]) 0 30 inW_X9 tyX9 tyX9_ok nmX9 rfl rfl (Nat.le_of_ble_eq_true rfl) wF_X9_281 rfl rfl rfl rfl rfl (Nat.le_of_ble_eq_true rfl) dX9_query_142 rfl ?_
    refine a_aload_n C (pc := 145) 0 dX9_query_145 rfl rfl ?_
    refine a_iload C (pc := 146) 5 dX9_query_146 rfl ?_
    refine a_callV C (pc := 148) (av := [.int l7]) (wr := [((d0 20), aI cs 4 v_holds), ((d0 1), aI cs 3000 v_tape), ((d0 3), aI cs 8 v_word_10), ((d0 14), aI cs 5 v_words), ((d0 15), aI cs 2560 v_letter), ((d0 40), aI cs 40 v_sums), ((d0 41), aI cs 40 v_hit), ((d0 18), aZ cs 5 v_kept), ((d0 17), aI cs 5 v_generation)]) (m_X9_plans Lx Dx cs h0 d0 v_thrown_6 v_taped v_at_8 v_documents v_terms v_latest v_filed v_drafted v_place v_over v_clock r_7 v_segments v_done v_postingsDone v_postingsAll v_why v_hits v_asked_9 v_fresh v_size v_impact v_gap v_planTerm v_planImpact v_planSize l7 _ h) [0, 7, 2, 8, 9, 10, 11, 12, 13] [1, 3, 4, 5, 6, 14, 15, 16, 17] rfl rfl (by decide) (by decide) (by decide) wM_X9_284 wb_X9_plans hy_X9_plans (q0 := 0) rfl rfl rfl ⟨Nat.le_of_ble_eq_true rfl, Nat.le_of_ble_eq_true rfl⟩ (Nat.le_of_ble_eq_true rfl) hkm hnm rfl dX9_query_148 (fun v w1 hw => ?_) [] rfl (fun _ _ h => h.elim)
    obtain ⟨v_segments_11, v_postingsAll_12, v_fresh_13, v_gap_14, v_planTerm_15, v_planImpact_16, v_planSize_17, rfl, rfl, h⟩ := hw
    refine a_ws (st1 := []) (ws1 := [(h0, oX9 d0 v_thrown_6 v_taped v_at_8 v_documents v_terms v_latest v_filed v_drafted v_place v_over v_clock r_7 v_segments_11 v_done v_postingsDone v_postingsAll_12 v_why v_hits), ((d0 20), aI cs 4 v_holds), ((d0 10), aI cs 64 v_fresh_13), ((d0 1), aI cs 3000 v_tape), ((d0 3), aI cs 8 v_word_10), ((d0 14), aI cs 5 v_words), ((d0 15), aI cs 2560 v_letter), ((d0 29), aI cs 64 v_asked_9), ((d0 13), aI cs 5 v_size), ((d0 16), aI cs 12800 v_impact), ((d0 27), aI cs 40 v_gap_14), ((d0 37), aI cs 600 v_planTerm_15), ((d0 38), aI cs 600 v_planImpact_16), ((d0 39), aI cs 600 v_planSize_17), ((d0 40), aI cs 40 v_sums), ((d0 41), aI cs 40 v_hit), ((d0 18), aZ cs 5 v_kept), ((d0 17), aI cs 5 v_generation)]) k n9 151 [9, 0, 11, 1, 2, 3, 4, 10, 12, 13, 14, 15, 16, 17, 5, 6, 7, 8] rfl rfl rfl rfl (by decide) rfl ?_
    refine a_iconst C (pc := 151) dX9_query_151 ic_0 ?_
    refine a_istore C (pc := 152) (lv1 := [(0, .ref h0), (2, .int l2), (3, .int l3), (4, .long l4), (6, .int l6), (7, .int l7), (8, .int 0)]) [1, 2, 3, 4, 5, 6, 0] dX9_query_152 (by decide) rfl ?_
    obtain ⟨n0, h⟩ := h
    refine a_lv (lv1 := [(0, .ref h0), (2, .int l2), (3, .int l3), (4, .long l4), (7, .int l7), (8, .int 0)]) [0, 1, 2, 3, 5, 6] rfl ?_
    refine w_X9_query_154 C hkm hnm n0 v_thrown_6 v_taped v_at_8 v_clock r_7 v_segments_11 v_done v_postingsDone v_postingsAll_12 v_why v_hits v_fresh_13 v_word_10 v_asked_9 v_gap_14 v_planTerm_15 v_planImpact_16 v_planSize_17 v_sums v_hit l2 l3 l4 l7 0 h ?_
    intro v_thrown_42 v_taped_43 v_at_44 v_clock_45 v_askedTerms_46 v_segments_47 v_done_48 v_postingsDone_49 v_postingsAll_50 v_why_51 v_hits_52 v_fresh_53 v_word_54 v_asked_55 v_gap_56 v_planTerm_57 v_planImpact_58 v_planSize_59 v_sums_60 v_hit_61 l2_62 l3_63 l4_64 l7_65 h
    refine a_aload_n C (pc := 175) 0 dX9_query_175 rfl rfl ?_
    refine a_iconst C (pc := 176) dX9_query_176 ic_0 ?_
    refine a_put C (pc := 177) (ws1 := [(h0, oX9 d0 v_thrown_42 v_taped_43 v_at_44 v_documents v_terms v_latest v_filed v_drafted v_place v_over v_clock_45 v_askedTerms_46 v_segments_47 0 v_postingsDone_49 v_postingsAll_50 v_why_51 v_hits_52), ((d0 20), aI cs 4 v_holds), ((d0 10), aI cs 64 v_fresh_53), ((d0 1), aI cs 3000 v_tape), ((d0 3), aI cs 8 v_word_54), ((d0 14), aI cs 5 v_words), ((d0 15), aI cs 2560 v_letter), ((d0 29), aI cs 64 v_asked_55), ((d0 13), aI cs 5 v_size), ((d0 16), aI cs 12800 v_impact), ((d0 27), aI cs 40 v_gap_56), ((d0 37), aI cs 600 v_planTerm_57), ((d0 38), aI cs 600 v_planImpact_58), ((d0 39), aI cs 600 v_planSize_59), ((d0 40), aI cs 40 v_sums_60), ((d0 41), aI cs 40 v_hit_61), ((d0 18), aZ cs 5 v_kept), ((d0 17), aI cs 5 v_generation)]) 0 32 inW_X9 tyX9 tyX9_ok nmX9 rfl rfl (Nat.le_of_ble_eq_true rfl) wF_X9_287 rfl rfl rfl rfl rfl (Nat.le_of_ble_eq_true rfl) dX9_query_177 rfl ?_
    refine a_aload_n C (pc := 180) 0 dX9_query_180 rfl rfl ?_
    refine a_iconst C (pc := 181) dX9_query_181 ic_0 ?_
    refine a_put C (pc := 182) (ws1 := [(h0, oX9 d0 v_thrown_42 v_taped_43 v_at_44 v_documents v_terms v_latest v_filed v_drafted v_place v_over v_clock_45 v_askedTerms_46 v_segments_47 0 0 v_postingsAll_50 v_why_51 v_hits_52), ((d0 20), aI cs 4 v_holds), ((d0 10), aI cs 64 v_fresh_53), ((d0 1), aI cs 3000 v_tape), ((d0 3), aI cs 8 v_word_54), ((d0 14), aI cs 5 v_words), ((d0 15), aI cs 2560 v_letter), ((d0 29), aI cs 64 v_asked_55), ((d0 13), aI cs 5 v_size), ((d0 16), aI cs 12800 v_impact), ((d0 27), aI cs 40 v_gap_56), ((d0 37), aI cs 600 v_planTerm_57), ((d0 38), aI cs 600 v_planImpact_58), ((d0 39), aI cs 600 v_planSize_59), ((d0 40), aI cs 40 v_sums_60), ((d0 41), aI cs 40 v_hit_61), ((d0 18), aZ cs 5 v_kept), ((d0 17), aI cs 5 v_generation)]) 0 33 inW_X9 tyX9 tyX9_ok nmX9 rfl rfl (Nat.le_of_ble_eq_true rfl) wF_X9_290 rfl rfl rfl rfl rfl (Nat.le_of_ble_eq_true rfl) dX9_query_182 rfl ?_
    refine a_aload_n C (pc := 185) 0 dX9_query_185 rfl rfl ?_
    refine a_iconst C (pc := 186) dX9_query_186 ic_0 ?_
    refine a_put C (pc := 187) (ws1 := [(h0, oX9 d0 v_thrown_42 v_taped_43 v_at_44 v_documents v_terms v_latest v_filed v_drafted v_place v_over v_clock_45 v_askedTerms_46 v_segments_47 0 0 v_postingsAll_50 0 v_hits_52), ((d0 20), aI cs 4 v_holds), ((d0 10), aI cs 64 v_fresh_53), ((d0 1), aI cs 3000 v_tape), ((d0 3), aI cs 8 v_word_54), ((d0 14), aI cs 5 v_words), ((d0 15), aI cs 2560 v_letter), ((d0 29), aI cs 64 v_asked_55), ((d0 13), aI cs 5 v_size), ((d0 16), aI cs 12800 v_impact), ((d0 27), aI cs 40 v_gap_56), ((d0 37), aI cs 600 v_planTerm_57), ((d0 38), aI cs 600 v_planImpact_58), ((d0 39), aI cs 600 v_planSize_59), ((d0 40), aI cs 40 v_sums_60), ((d0 41), aI cs 40 v_hit_61), ((d0 18), aZ cs 5 v_kept), ((d0 17), aI cs 5 v_generation)]) 0 35 inW_X9 tyX9 tyX9_ok nmX9 rfl rfl (Nat.le_of_ble_eq_true rfl) wF_X9_293 rfl rfl rfl rfl rfl (Nat.le_of_ble_eq_true rfl) dX9_query_187 rfl ?_
    obtain ⟨n0, h⟩ := h
    refine w_X9_query_190 C hkm hnm n0 v_thrown_42 v_taped_43 v_at_44 v_clock_45 v_askedTerms_46 v_segments_47 0 0 v_postingsAll_50 0 v_hits_52 v_fresh_53 v_word_54 v_asked_55 v_gap_56 v_planTerm_57 v_planImpact_58 v_planSize_59 v_sums_60 v_hit_61 l2_62 l3_63 l4_64 l7_65 h ?_
    intro v_thrown_99 v_taped_100 v_at_101 v_clock_102 v_askedTerms_103 v_segments_104 v_done_105 v_postingsDone_106 v_postingsAll_107 v_why_108 v_hits_109 v_fresh_110 v_word_111 v_asked_112 v_gap_113 v_planTerm_114 v_planImpact_115 v_planSize_116 v_sums_117 v_hit_118 l2_119 h
    refine a_aload_n C (pc := 255) 0 dX9_query_255 rfl rfl ?_
    refine a_iload_n C (pc := 256) 1 dX9_query_256 rfl rfl ?_
    refine a_callV C (pc := 257) (av := [.int l2_119]) (wr := [((d0 20), aI cs 4 v_holds), ((d0 10), aI cs 64 v_fresh_110), ((d0 1), aI cs 3000 v_tape), ((d0 3), aI cs 8 v_word_111), ((d0 14), aI cs 5 v_words), ((d0 15), aI cs 2560 v_letter), ((d0 29), aI cs 64 v_asked_112), ((d0 13), aI cs 5 v_size), ((d0 16), aI cs 12800 v_impact), ((d0 27), aI cs 40 v_gap_113), ((d0 37), aI cs 600 v_planTerm_114), ((d0 38), aI cs 600 v_planImpact_115), ((d0 39), aI cs 600 v_planSize_116), ((d0 18), aZ cs 5 v_kept), ((d0 17), aI cs 5 v_generation)]) (m_X9_ranks Lx Dx cs h0 d0 v_thrown_99 v_taped_100 v_at_101 v_documents v_terms v_latest v_filed v_drafted v_place v_over v_clock_102 v_askedTerms_103 v_segments_104 v_done_105 v_postingsDone_106 v_postingsAll_107 v_why_108 v_hits_109 v_sums_117 v_hit_118 l2_119 _ h) [0, 14, 15] [1, 2, 3, 4, 5, 6, 7, 8, 9, 10, 11, 12, 13, 16, 17] rfl rfl (by decide) (by decide) (by decide) wM_X9_306 wb_X9_ranks hy_X9_ranks (q0 := 0) rfl rfl rfl ⟨Nat.le_of_ble_eq_true rfl, Nat.le_of_ble_eq_true rfl⟩ (Nat.le_of_ble_eq_true rfl) hkm hnm rfl dX9_query_257 (fun v w1 hw => ?_) [] rfl (fun _ _ h => h.elim)
    obtain ⟨v_hits_120, v_hit_121, rfl, rfl, h⟩ := hw
    refine a_ws (st1 := []) (ws1 := [(h0, oX9 d0 v_thrown_99 v_taped_100 v_at_101 v_documents v_terms v_latest v_filed v_drafted v_place v_over v_clock_102 v_askedTerms_103 v_segments_104 v_done_105 v_postingsDone_106 v_postingsAll_107 v_why_108 v_hits_120), ((d0 20), aI cs 4 v_holds), ((d0 10), aI cs 64 v_fresh_110), ((d0 1), aI cs 3000 v_tape), ((d0 3), aI cs 8 v_word_111), ((d0 14), aI cs 5 v_words), ((d0 15), aI cs 2560 v_letter), ((d0 29), aI cs 64 v_asked_112), ((d0 13), aI cs 5 v_size), ((d0 16), aI cs 12800 v_impact), ((d0 27), aI cs 40 v_gap_113), ((d0 37), aI cs 600 v_planTerm_114), ((d0 38), aI cs 600 v_planImpact_115), ((d0 39), aI cs 600 v_planSize_116), ((d0 40), aI cs 40 v_sums_117), ((d0 41), aI cs 40 v_hit_121), ((d0 18), aZ cs 5 v_kept), ((d0 17), aI cs 5 v_generation)]) k n9 260 [15, 0, 1, 2, 3, 4, 5, 6, 7, 8, 9, 10, 11, 12, 16, 17, 13, 14] rfl rfl rfl rfl (by decide) rfl ?_
    refine a_aload_n C (pc := 260) 0 dX9_query_260 rfl rfl ?_
    refine a_get C (pc := 261) 0 36 inW_X9 rfl rfl (Nat.le_of_ble_eq_true rfl) wF_X9_309 rfl rfl dX9_query_261 ?_
    exact a_ireturn C (pc := 264) rfl dX9_query_264 hkm hnm ⟨_, _, _, _, _, _, _, _, _, _, _, _, _, _, _, _, _, _, _, _, _, rfl, rfl, h⟩
  · have h := h.2 hc
    refine a_iconst C (pc := 131) dX9_query_131 ic_0 ?_
    exact a_ireturn C (pc := 132) rfl dX9_query_132 hkm hnm ⟨_, _, _, _, _, _, _, _, _, _, _, _, _, _, _, _, _, _, _, _, _, rfl, rfl, h⟩
set_option maxRecDepth 100000 in
set_option maxHeartbeats 4000000 in
theorem w_X9_query_109 {Γ : XG} {Lx : Launch} {Dx : va_G} {cs : Nat → ClassId} {h0 : Nat} {d0 : Nat → Nat} {v_documents : Int32} {v_terms : Int32} {v_latest : Int32} {v_filed : Int32} {v_drafted : Int32} {v_place : Int32} {v_over : Int32} {v_holds : Nat → Int32} {v_tape : Nat → Int32} {v_words : Nat → Int32} {v_letter : Nat → Int32} {v_size : Nat → Int32} {v_impact : Nat → Int32} {v_kept : Nat → Int32} {v_generation : Nat → Int32} {Φ : Int32 → Int32 → Int32 → Int32 → Int64 → Int32 → Int32 → Int32 → Int32 → Int32 → Int32 → Int32 → (Nat → Int32) → (Nat → Int32) → (Nat → Int32) → (Nat → Int32) → (Nat → Int32) → (Nat → Int32) → (Nat → Int32) → (Nat → Int32) → (Nat → Int32) → Prop} {k n9 : Nat} (C : CX Γ Lx Dx cs cX9_query RX9 "query" 9 (some .int) 3 75 0 0 (qEC cs 0 0 [] (R_X9_query cs h0 d0 v_documents v_terms v_latest v_filed v_drafted v_place v_over v_holds v_tape v_words v_letter v_size v_impact v_kept v_generation Φ) (fun _ _ => False))) (hkm : k ≤ 0) (hnm : n9 ≤ 0) (v_thrown : Int32) (v_taped : Int32) (v_at : Int32) (v_clock : Int64) (v_askedTerms : Int32) (v_segments : Int32) (v_done : Int32) (v_postingsDone : Int32) (v_postingsAll : Int32) (v_why : Int32) (v_hits : Int32) (v_fresh : Nat → Int32) (v_word : Nat → Int32) (v_asked : Nat → Int32) (v_gap : Nat → Int32) (v_planTerm : Nat → Int32) (v_planImpact : Nat → Int32) (v_planSize : Nat → Int32) (v_sums : Nat → Int32) (v_hit : Nat → Int32) (l1 : Int32) (l2 : Int32) (l3 : Int32) (l4 : Int64) (l6 : Int32) (l7 : Int32) (h : J_X9_query_109 v_thrown v_taped v_at v_clock v_askedTerms v_segments v_done v_postingsDone v_postingsAll v_why v_hits v_holds v_fresh v_tape v_word v_words v_letter v_asked v_size v_impact v_gap v_planTerm v_planImpact v_planSize v_sums v_hit v_kept v_generation l1 l2 l3 l4 l6 l7 Φ) : AW Γ k n9 109 [(0, .ref h0), (1, .int l1), (2, .int l2), (3, .int l3), (4, .long l4), (6, .int l6), (7, .int l7)] [] [(h0, oX9 d0 v_thrown v_taped v_at v_documents v_terms v_latest v_filed v_drafted v_place v_over v_clock v_askedTerms v_segments v_done v_postingsDone v_postingsAll v_why v_hits), ((d0 20), aI cs 4 v_holds), ((d0 10), aI cs 64 v_fresh), ((d0 1), aI cs 3000 v_tape), ((d0 3), aI cs 8 v_word), ((d0 14), aI cs 5 v_words), ((d0 15), aI cs 2560 v_letter), ((d0 29), aI cs 64 v_asked), ((d0 13), aI cs 5 v_size), ((d0 16), aI cs 12800 v_impact), ((d0 27), aI cs 40 v_gap), ((d0 37), aI cs 600 v_planTerm), ((d0 38), aI cs 600 v_planImpact), ((d0 39), aI cs 600 v_planSize), ((d0 40), aI cs 40 v_sums), ((d0 41), aI cs 40 v_hit), ((d0 18), aZ cs 5 v_kept), ((d0 17), aI cs 5 v_generation)] := by
  unfold J_X9_query_109 at h
  refine a_aload_n C (pc := 109) 0 dX9_query_109 rfl rfl ?_
  refine a_aload_n C (pc := 110) 0 dX9_query_110 rfl rfl ?_
  refine a_get C (pc := 111) 0 20 inW_X9 rfl rfl (Nat.le_of_ble_eq_true rfl) wF_X9_53 rfl rfl dX9_query_111 ?_
  refine a_iload_n C (pc := 114) 1 dX9_query_114 rfl rfl ?_
  refine a_iald C (pc := 115) 1 rfl h.1 dX9_query_115 ?_
  replace h := h.2
  refine a_if_ge C (pc := 116) 123 dX9_query_116 (by decide) (fun hc => ?_) (fun hc => ?_)
  · have h := h.1 hc
    refine a_iconst C (pc := 123) dX9_query_123 ic_0 ?_
    refine a_lv (lv1 := [(0, .ref h0), (2, .int l2), (3, .int l3), (4, .long l4), (6, .int l6), (7, .int l7)]) [0, 2, 3, 4, 5, 6] rfl ?_
    exact w_X9_query_124 C hkm hnm v_thrown v_taped v_at v_clock v_askedTerms v_segments v_done v_postingsDone v_postingsAll v_why v_hits v_fresh v_word v_asked v_gap v_planTerm v_planImpact v_planSize v_sums v_hit l2 l3 l4 l6 l7 0 h
  · have h := h.2 hc
    refine a_iconst C (pc := 119) dX9_query_119 ic_1 ?_
    refine a_goto C (pc := 120) 124 dX9_query_120 (by decide) ?_
    refine a_lv (lv1 := [(0, .ref h0), (2, .int l2), (3, .int l3), (4, .long l4), (6, .int l6), (7, .int l7)]) [0, 2, 3, 4, 5, 6] rfl ?_
    exact w_X9_query_124 C hkm hnm v_thrown v_taped v_at v_clock v_askedTerms v_segments v_done v_postingsDone v_postingsAll v_why v_hits v_fresh v_word v_asked v_gap v_planTerm v_planImpact v_planSize v_sums v_hit l2 l3 l4 l6 l7 1 h
set_option maxRecDepth 100000 in
set_option maxHeartbeats 4000000 in
theorem w_X9_query_102 {Γ : XG} {Lx : Launch} {Dx : va_G} {cs : Nat → ClassId} {h0 : Nat} {d0 : Nat → Nat} {v_documents : Int32} {v_terms : Int32} {v_latest : Int32} {v_filed : Int32} {v_drafted : Int32} {v_place : Int32} {v_over : Int32} {v_holds : Nat → Int32} {v_tape : Nat → Int32} {v_words : Nat → Int32} {v_letter : Nat → Int32} {v_size : Nat → Int32} {v_impact : Nat → Int32} {v_kept : Nat → Int32} {v_generation : Nat → Int32} {Φ : Int32 → Int32 → Int32 → Int32 → Int64 → Int32 → Int32 → Int32 → Int32 → Int32 → Int32 → Int32 → (Nat → Int32) → (Nat → Int32) → (Nat → Int32) → (Nat → Int32) → (Nat → Int32) → (Nat → Int32) → (Nat → Int32) → (Nat → Int32) → (Nat → Int32) → Prop} {k n9 : Nat} (C : CX Γ Lx Dx cs cX9_query RX9 "query" 9 (some .int) 3 75 0 0 (qEC cs 0 0 [] (R_X9_query cs h0 d0 v_documents v_terms v_latest v_filed v_drafted v_place v_over v_holds v_tape v_words v_letter v_size v_impact v_kept v_generation Φ) (fun _ _ => False))) (hkm : k ≤ 0) (hnm : n9 ≤ 0) (v_thrown : Int32) (v_taped : Int32) (v_at : Int32) (v_clock : Int64) (v_askedTerms : Int32) (v_segments : Int32) (v_done : Int32) (v_postingsDone : Int32) (v_postingsAll : Int32) (v_why : Int32) (v_hits : Int32) (v_fresh : Nat → Int32) (v_word : Nat → Int32) (v_asked : Nat → Int32) (v_gap : Nat → Int32) (v_planTerm : Nat → Int32) (v_planImpact : Nat → Int32) (v_planSize : Nat → Int32) (v_sums : Nat → Int32) (v_hit : Nat → Int32) (l1 : Int32) (l2 : Int32) (l3 : Int32) (l4 : Int64) (l6 : Int32) (l7 : Int32) (s1 : Int32) (h : J_X9_query_102 v_thrown v_taped v_at v_clock v_askedTerms v_segments v_done v_postingsDone v_postingsAll v_why v_hits v_holds v_fresh v_tape v_word v_words v_letter v_asked v_size v_impact v_gap v_planTerm v_planImpact v_planSize v_sums v_hit v_kept v_generation l1 l2 l3 l4 l6 l7 s1 Φ) : AW Γ k n9 102 [(0, .ref h0), (1, .int l1), (2, .int l2), (3, .int l3), (4, .long l4), (6, .int l6), (7, .int l7)] [.int s1, .ref h0] [(h0, oX9 d0 v_thrown v_taped v_at v_documents v_terms v_latest v_filed v_drafted v_place v_over v_clock v_askedTerms v_segments v_done v_postingsDone v_postingsAll v_why v_hits), ((d0 20), aI cs 4 v_holds), ((d0 10), aI cs 64 v_fresh), ((d0 1), aI cs 3000 v_tape), ((d0 3), aI cs 8 v_word), ((d0 14), aI cs 5 v_words), ((d0 15), aI cs 2560 v_letter), ((d0 29), aI cs 64 v_asked), ((d0 13), aI cs 5 v_size), ((d0 16), aI cs 12800 v_impact), ((d0 27), aI cs 40 v_gap), ((d0 37), aI cs 600 v_planTerm), ((d0 38), aI cs 600 v_planImpact), ((d0 39), aI cs 600 v_planSize), ((d0 40), aI cs 40 v_sums), ((d0 41), aI cs 40 v_hit), ((d0 18), aZ cs 5 v_kept), ((d0 17), aI cs 5 v_generation)] := by
  unfold J_X9_query_102 at h
  refine a_iconst C (pc := 102) dX9_query_102 ic_1 ?_
  refine a_callV C (pc := 103) (av := [.int s1, .int 1]) (wr := [((d0 20), aI cs 4 v_holds), ((d0 10), aI cs 64 v_fresh), ((d0 1), aI cs 3000 v_tape), ((d0 3), aI cs 8 v_word), ((d0 14), aI cs 5 v_words), ((d0 15), aI cs 2560 v_letter), ((d0 29), aI cs 64 v_asked), ((d0 13), aI cs 5 v_size), ((d0 16), aI cs 12800 v_impact), ((d0 27), aI cs 40 v_gap), ((d0 37), aI cs 600 v_planTerm), ((d0 38), aI cs 600 v_planImpact), ((d0 39), aI cs 600 v_planSize), ((d0 40), aI cs 40 v_sums), ((d0 41), aI cs 40 v_hit), ((d0 18), aZ cs 5 v_kept), ((d0 17), aI cs 5 v_generation)]) (m_X9_fails Lx Dx cs h0 d0 v_thrown v_taped v_at v_documents v_terms v_latest v_filed v_drafted v_place v_over v_clock v_askedTerms v_segments v_done v_postingsDone v_postingsAll v_why v_hits s1 1 _ h) [0] [1, 2, 3, 4, 5, 6, 7, 8, 9, 10, 11, 12, 13, 14, 15, 16, 17] rfl rfl (by decide) (by decide) (by decide) wM_X9_93 wb_X9_fails hy_X9_fails (q0 := 0) rfl rfl rfl ⟨Nat.le_of_ble_eq_true rfl, Nat.le_of_ble_eq_true rfl⟩ (Nat.le_of_ble_eq_true rfl) hkm hnm rfl dX9_query_103 (fun v w1 hw => ?_) [] rfl (fun _ _ h => h.elim)
  obtain ⟨r_126, v_thrown_127, rfl, rfl, h⟩ := hw
  refine a_ws (st1 := [.int r_126]) (ws1 := [(h0, oX9 d0 v_thrown_127 v_taped v_at v_documents v_terms v_latest v_filed v_drafted v_place v_over v_clock v_askedTerms v_segments v_done v_postingsDone v_postingsAll v_why v_hits), ((d0 20), aI cs 4 v_holds), ((d0 10), aI cs 64 v_fresh), ((d0 1), aI cs 3000 v_tape), ((d0 3), aI cs 8 v_word), ((d0 14), aI cs 5 v_words), ((d0 15), aI cs 2560 v_letter), ((d0 29), aI cs 64 v_asked), ((d0 13), aI cs 5 v_size), ((d0 16), aI cs 12800 v_impact), ((d0 27), aI cs 40 v_gap), ((d0 37), aI cs 600 v_planTerm), ((d0 38), aI cs 600 v_planImpact), ((d0 39), aI cs 600 v_planSize), ((d0 40), aI cs 40 v_sums), ((d0 41), aI cs 40 v_hit), ((d0 18), aZ cs 5 v_kept), ((d0 17), aI cs 5 v_generation)]) k n9 106 [17, 0, 1, 2, 3, 4, 5, 6, 7, 8, 9, 10, 11, 12, 13, 14, 15, 16] rfl rfl rfl rfl (by decide) rfl ?_
  refine a_if_ne C (pc := 106) 131 dX9_query_106 (by decide) (fun hc => ?_) (fun hc => ?_)
  · have h := h.1 hc
    refine a_iconst C (pc := 131) dX9_query_131 ic_0 ?_
    exact a_ireturn C (pc := 132) rfl dX9_query_132 hkm hnm ⟨_, _, _, _, _, _, _, _, _, _, _, _, _, _, _, _, _, _, _, _, _, rfl, rfl, h⟩
  · have h := h.2 hc
    exact w_X9_query_109 C hkm hnm v_thrown_127 v_taped v_at v_clock v_askedTerms v_segments v_done v_postingsDone v_postingsAll v_why v_hits v_fresh v_word v_asked v_gap v_planTerm v_planImpact v_planSize v_sums v_hit l1 l2 l3 l4 l6 l7 h
set_option maxRecDepth 100000 in
set_option maxHeartbeats 4000000 in
theorem w_X9_query_72 {Γ : XG} {Lx : Launch} {Dx : va_G} {cs : Nat → ClassId} {h0 : Nat} {d0 : Nat → Nat} {v_documents : Int32} {v_terms : Int32} {v_latest : Int32} {v_filed : Int32} {v_drafted : Int32} {v_place : Int32} {v_over : Int32} {v_holds : Nat → Int32} {v_tape : Nat → Int32} {v_words : Nat → Int32} {v_letter : Nat → Int32} {v_size : Nat → Int32} {v_impact : Nat → Int32} {v_kept : Nat → Int32} {v_generation : Nat → Int32} {Φ : Int32 → Int32 → Int32 → Int32 → Int64 → Int32 → Int32 → Int32 → Int32 → Int32 → Int32 → Int32 → (Nat → Int32) → (Nat → Int32) → (Nat → Int32) → (Nat → Int32) → (Nat → Int32) → (Nat → Int32) → (Nat → Int32) → (Nat → Int32) → (Nat → Int32) → Prop} {k n9 : Nat} (C : CX Γ Lx Dx cs cX9_query RX9 "query" 9 (some .int) 3 75 0 0 (qEC cs 0 0 [] (R_X9_query cs h0 d0 v_documents v_terms v_latest v_filed v_drafted v_place v_over v_holds v_tape v_words v_letter v_size v_impact v_kept v_generation Φ) (fun _ _ => False))) (hkm : k ≤ 0) (hnm : n9 ≤ 0) (v_thrown : Int32) (v_taped : Int32) (v_at : Int32) (v_clock : Int64) (v_askedTerms : Int32) (v_segments : Int32) (v_done : Int32) (v_postingsDone : Int32) (v_postingsAll : Int32) (v_why : Int32) (v_hits : Int32) (v_fresh : Nat → Int32) (v_word : Nat → Int32) (v_asked : Nat → Int32) (v_gap : Nat → Int32) (v_planTerm : Nat → Int32) (v_planImpact : Nat → Int32) (v_planSize : Nat → Int32) (v_sums : Nat → Int32) (v_hit : Nat → Int32) (l1 : Int32) (l2 : Int32) (l3 : Int32) (l4 : Int64) (l6 : Int32) (s0 : Int32) (h : J_X9_query_72 v_thrown v_taped v_at v_clock v_askedTerms v_segments v_done v_postingsDone v_postingsAll v_why v_hits v_holds v_fresh v_tape v_word v_words v_letter v_asked v_size v_impact v_gap v_planTerm v_planImpact v_planSize v_sums v_hit v_kept v_generation l1 l2 l3 l4 l6 s0 Φ) : AW Γ k n9 72 [(0, .ref h0), (1, .int l1), (2, .int l2), (3, .int l3), (4, .long l4), (6, .int l6)] [.int s0] [(h0, oX9 d0 v_thrown v_taped v_at v_documents v_terms v_latest v_filed v_drafted v_place v_over v_clock v_askedTerms v_segments v_done v_postingsDone v_postingsAll v_why v_hits), ((d0 20), aI cs 4 v_holds), ((d0 10), aI cs 64 v_fresh), ((d0 1), aI cs 3000 v_tape), ((d0 3), aI cs 8 v_word), ((d0 14), aI cs 5 v_words), ((d0 15), aI cs 2560 v_letter), ((d0 29), aI cs 64 v_asked), ((d0 13), aI cs 5 v_size), ((d0 16), aI cs 12800 v_impact), ((d0 27), aI cs 40 v_gap), ((d0 37), aI cs 600 v_planTerm), ((d0 38), aI cs 600 v_planImpact), ((d0 39), aI cs 600 v_planSize), ((d0 40), aI cs 40 v_sums), ((d0 41), aI cs 40 v_hit), ((d0 18), aZ cs 5 v_kept), ((d0 17), aI cs 5 v_generation)] := by
  unfold J_X9_query_72 at h
  refine a_istore C (pc := 72) (lv1 := [(0, .ref h0), (1, .int l1), (2, .int l2), (3, .int l3), (4, .long l4), (6, .int l6), (7, .int s0)]) [1, 2, 3, 4, 5, 6, 0] dX9_query_72 (by decide) rfl ?_
  refine a_aload_n C (pc := 74) 0 dX9_query_74 rfl rfl ?_
  refine a_get C (pc := 75) 0 20 inW_X9 rfl rfl (Nat.le_of_ble_eq_true rfl) wF_X9_53 rfl rfl dX9_query_75 ?_
  refine a_iload_n C (pc := 78) 1 dX9_query_78 rfl rfl ?_
  refine a_iald C (pc := 79) 1 rfl h.1 dX9_query_79 ?_
  replace h := h.2
  refine a_if_lt C (pc := 80) 109 dX9_query_80 (by decide) (fun hc => ?_) (fun hc => ?_)
  · have h := h.1 hc
    exact w_X9_query_109 C hkm hnm v_thrown v_taped v_at v_clock v_askedTerms v_segments v_done v_postingsDone v_postingsAll v_why v_hits v_fresh v_word v_asked v_gap v_planTerm v_planImpact v_planSize v_sums v_hit l1 l2 l3 l4 l6 s0 h
  · have h := h.2 hc
    refine a_aload_n C (pc := 83) 0 dX9_query_83 rfl rfl ?_
    refine a_aload_n C (pc := 84) 0 dX9_query_84 rfl rfl ?_
    refine a_iload C (pc := 85) 6 dX9_query_85 rfl ?_
    refine a_iload C (pc := 87) 5 dX9_query_87 rfl ?_
    refine a_callV C (pc := 89) (av := [.int s0, .int l6]) (wr := [((d0 20), aI cs 4 v_holds), ((d0 29), aI cs 64 v_asked), ((d0 13), aI cs 5 v_size), ((d0 16), aI cs 12800 v_impact), ((d0 27), aI cs 40 v_gap), ((d0 37), aI cs 600 v_planTerm), ((d0 38), aI cs 600 v_planImpact), ((d0 39), aI cs 600 v_planSize), ((d0 40), aI cs 40 v_sums), ((d0 41), aI cs 40 v_hit), ((d0 18), aZ cs 5 v_kept), ((d0 17), aI cs 5 v_generation)]) (m_X9_countAsked Lx Dx cs h0 d0 v_thrown v_taped v_at v_documents v_terms v_latest v_filed v_drafted v_place v_over v_clock v_askedTerms v_segments v_done v_postingsDone v_postingsAll v_why v_hits v_fresh v_tape v_word v_words v_letter s0 l6 _ h) [0, 2, 3, 4, 5, 6] [1, 7, 8, 9, 10, 11, 12, 13, 14, 15, 16, 17] rfl rfl (by decide) (by decide) (by decide) wM_X9_275 wb_X9_countAsked hy_X9_countAsked (q0 := 0) rfl rfl rfl ⟨Nat.le_of_ble_eq_true rfl, Nat.le_of_ble_eq_true rfl⟩ (Nat.le_of_ble_eq_true rfl) hkm hnm rfl dX9_query_89 (fun v w1 hw => ?_) [] rfl (fun _ _ h => h.elim)
    obtain ⟨r_122, v_at_123, v_fresh_124, v_word_125, rfl, rfl, h⟩ := hw
    refine a_ws (st1 := [.int r_122, .ref h0]) (ws1 := [(h0, oX9 d0 v_thrown v_taped v_at_123 v_documents v_terms v_latest v_filed v_drafted v_place v_over v_clock v_askedTerms v_segments v_done v_postingsDone v_postingsAll v_why v_hits), ((d0 20), aI cs 4 v_holds), ((d0 10), aI cs 64 v_fresh_124), ((d0 1), aI cs 3000 v_tape), ((d0 3), aI cs 8 v_word_125), ((d0 14), aI cs 5 v_words), ((d0 15), aI cs 2560 v_letter), ((d0 29), aI cs 64 v_asked), ((d0 13), aI cs 5 v_size), ((d0 16), aI cs 12800 v_impact), ((d0 27), aI cs 40 v_gap), ((d0 37), aI cs 600 v_planTerm), ((d0 38), aI cs 600 v_planImpact), ((d0 39), aI cs 600 v_planSize), ((d0 40), aI cs 40 v_sums), ((d0 41), aI cs 40 v_hit), ((d0 18), aZ cs 5 v_kept), ((d0 17), aI cs 5 v_generation)]) k n9 92 [12, 0, 13, 14, 15, 16, 17, 1, 2, 3, 4, 5, 6, 7, 8, 9, 10, 11] rfl rfl rfl rfl (by decide) rfl ?_
    refine a_bipush C (pc := 92) dX9_query_92 bp_8 ?_
    refine a_icmp_le C (pc := 94) 101 dX9_query_94 (by decide) (fun hc => ?_) (fun hc => ?_)
    · have h := h.1 hc
      refine a_iconst C (pc := 101) dX9_query_101 ic_0 ?_
      exact w_X9_query_102 C hkm hnm v_thrown v_taped v_at_123 v_clock v_askedTerms v_segments v_done v_postingsDone v_postingsAll v_why v_hits v_fresh_124 v_word_125 v_asked v_gap v_planTerm v_planImpact v_planSize v_sums v_hit l1 l2 l3 l4 l6 s0 0 h
    · have h := h.2 hc
      refine a_iconst C (pc := 97) dX9_query_97 ic_1 ?_
      refine a_goto C (pc := 98) 102 dX9_query_98 (by decide) ?_
      exact w_X9_query_102 C hkm hnm v_thrown v_taped v_at_123 v_clock v_askedTerms v_segments v_done v_postingsDone v_postingsAll v_why v_hits v_fresh_124 v_word_125 v_asked v_gap v_planTerm v_planImpact v_planSize v_sums v_hit l1 l2 l3 l4 l6 s0 1 h
set_option maxRecDepth 100000 in
set_option maxHeartbeats 4000000 in
theorem w_X9_query_40 {Γ : XG} {Lx : Launch} {Dx : va_G} {cs : Nat → ClassId} {h0 : Nat} {d0 : Nat → Nat} {v_documents : Int32} {v_terms : Int32} {v_latest : Int32} {v_filed : Int32} {v_drafted : Int32} {v_place : Int32} {v_over : Int32} {v_holds : Nat → Int32} {v_tape : Nat → Int32} {v_words : Nat → Int32} {v_letter : Nat → Int32} {v_size : Nat → Int32} {v_impact : Nat → Int32} {v_kept : Nat → Int32} {v_generation : Nat → Int32} {Φ : Int32 → Int32 → Int32 → Int32 → Int64 → Int32 → Int32 → Int32 → Int32 → Int32 → Int32 → Int32 → (Nat → Int32) → (Nat → Int32) → (Nat → Int32) → (Nat → Int32) → (Nat → Int32) → (Nat → Int32) → (Nat → Int32) → (Nat → Int32) → (Nat → Int32) → Prop} {k n9 : Nat} (C : CX Γ Lx Dx cs cX9_query RX9 "query" 9 (some .int) 3 75 0 0 (qEC cs 0 0 [] (R_X9_query cs h0 d0 v_documents v_terms v_latest v_filed v_drafted v_place v_over v_holds v_tape v_words v_letter v_size v_impact v_kept v_generation Φ) (fun _ _ => False))) (hkm : k ≤ 0) (hnm : n9 ≤ 0) (v_thrown : Int32) (v_taped : Int32) (v_at : Int32) (v_clock : Int64) (v_askedTerms : Int32) (v_segments : Int32) (v_done : Int32) (v_postingsDone : Int32) (v_postingsAll : Int32) (v_why : Int32) (v_hits : Int32) (v_fresh : Nat → Int32) (v_word : Nat → Int32) (v_asked : Nat → Int32) (v_gap : Nat → Int32) (v_planTerm : Nat → Int32) (v_planImpact : Nat → Int32) (v_planSize : Nat → Int32) (v_sums : Nat → Int32) (v_hit : Nat → Int32) (l1 : Int32) (l2 : Int32) (l3 : Int32) (l4 : Int64) (l6 : Int32) (s1 : Int32) (h : J_X9_query_40 v_thrown v_taped v_at v_clock v_askedTerms v_segments v_done v_postingsDone v_postingsAll v_why v_hits v_holds v_fresh v_tape v_word v_words v_letter v_asked v_size v_impact v_gap v_planTerm v_planImpact v_planSize v_sums v_hit v_kept v_generation l1 l2 l3 l4 l6 s1 Φ) : AW Γ k n9 40 [(0, .ref h0), (1, .int l1), (2, .int l2), (3, .int l3), (4, .long l4), (6, .int l6)] [.int s1, .ref h0] [(h0, oX9 d0 v_thrown v_taped v_at v_documents v_terms v_latest v_filed v_drafted v_place v_over v_clock v_askedTerms v_segments v_done v_postingsDone v_postingsAll v_why v_hits), ((d0 20), aI cs 4 v_holds), ((d0 10), aI cs 64 v_fresh), ((d0 1), aI cs 3000 v_tape), ((d0 3), aI cs 8 v_word), ((d0 14), aI cs 5 v_words), ((d0 15), aI cs 2560 v_letter), ((d0 29), aI cs 64 v_asked), ((d0 13), aI cs 5 v_size), ((d0 16), aI cs 12800 v_impact), ((d0 27), aI cs 40 v_gap), ((d0 37), aI cs 600 v_planTerm), ((d0 38), aI cs 600 v_planImpact), ((d0 39), aI cs 600 v_planSize), ((d0 40), aI cs 40 v_sums), ((d0 41), aI cs 40 v_hit), ((d0 18), aZ cs 5 v_kept), ((d0 17), aI cs 5 v_generation)] := by
  unfold J_X9_query_40 at h
  refine a_iconst C (pc := 40) dX9_query_40 ic_1 ?_
  refine a_callV C (pc := 41) (av := [.int s1, .int 1]) (wr := [((d0 20), aI cs 4 v_holds), ((d0 10), aI cs 64 v_fresh), ((d0 1), aI cs 3000 v_tape), ((d0 3), aI cs 8 v_word), ((d0 14), aI cs 5 v_words), ((d0 15), aI cs 2560 v_letter), ((d0 29), aI cs 64 v_asked), ((d0 13), aI cs 5 v_size), ((d0 16), aI cs 12800 v_impact), ((d0 27), aI cs 40 v_gap), ((d0 37), aI cs 600 v_planTerm), ((d0 38), aI cs 600 v_planImpact), ((d0 39), aI cs 600 v_planSize), ((d0 40), aI cs 40 v_sums), ((d0 41), aI cs 40 v_hit), ((d0 18), aZ cs 5 v_kept), ((d0 17), aI cs 5 v_generation)]) (m_X9_fails Lx Dx cs h0 d0 v_thrown v_taped v_at v_documents v_terms v_latest v_filed v_drafted v_place v_over v_clock v_askedTerms v_segments v_done v_postingsDone v_postingsAll v_why v_hits s1 1 _ h) [0] [1, 2, 3, 4, 5, 6, 7, 8, 9, 10, 11, 12, 13, 14, 15, 16, 17] rfl rfl (by decide) (by decide) (by decide) wM_X9_93 wb_X9_fails hy_X9_fails (q0 := 0) rfl rfl rfl ⟨Nat.le_of_ble_eq_true rfl, Nat.le_of_ble_eq_true rfl⟩ (Nat.le_of_ble_eq_true rfl) hkm hnm rfl dX9_query_41 (fun v w1 hw => ?_) [] rfl (fun _ _ h => h.elim)
  obtain ⟨r_2, v_thrown_3, rfl, rfl, h⟩ := hw
  refine a_ws (st1 := [.int r_2]) (ws1 := [(h0, oX9 d0 v_thrown_3 v_taped v_at v_documents v_terms v_latest v_filed v_drafted v_place v_over v_clock v_askedTerms v_segments v_done v_postingsDone v_postingsAll v_why v_hits), ((d0 20), aI cs 4 v_holds), ((d0 10), aI cs 64 v_fresh), ((d0 1), aI cs 3000 v_tape), ((d0 3), aI cs 8 v_word), ((d0 14), aI cs 5 v_words), ((d0 15), aI cs 2560 v_letter), ((d0 29), aI cs 64 v_asked), ((d0 13), aI cs 5 v_size), ((d0 16), aI cs 12800 v_impact), ((d0 27), aI cs 40 v_gap), ((d0 37), aI cs 600 v_planTerm), ((d0 38), aI cs 600 v_planImpact), ((d0 39), aI cs 600 v_planSize), ((d0 40), aI cs 40 v_sums), ((d0 41), aI cs 40 v_hit), ((d0 18), aZ cs 5 v_kept), ((d0 17), aI cs 5 v_generation)]) k n9 44 [17, 0, 1, 2, 3, 4, 5, 6, 7, 8, 9, 10, 11, 12, 13, 14, 15, 16] rfl rfl rfl rfl (by decide) rfl ?_
  refine a_if_eq C (pc := 44) 49 dX9_query_44 (by decide) (fun hc => ?_) (fun hc => ?_)
  · have h := h.1 hc
    refine a_aload_n C (pc := 49) 0 dX9_query_49 rfl rfl ?_
    refine a_get C (pc := 50) 0 20 inW_X9 rfl rfl (Nat.le_of_ble_eq_true rfl) wF_X9_53 rfl rfl dX9_query_50 ?_
    refine a_iload_n C (pc := 53) 1 dX9_query_53 rfl rfl ?_
    refine a_iald C (pc := 54) 1 rfl h.1 dX9_query_54 ?_
    replace h := h.2
    refine a_if_ge C (pc := 55) 62 dX9_query_55 (by decide) (fun hc => ?_) (fun hc => ?_)
    · have h := h.1 hc
      refine a_aload_n C (pc := 62) 0 dX9_query_62 rfl rfl ?_
      refine a_aload_n C (pc := 63) 0 dX9_query_63 rfl rfl ?_
      refine a_get C (pc := 64) 0 20 inW_X9 rfl rfl (Nat.le_of_ble_eq_true rfl) wF_X9_53 rfl rfl dX9_query_64 ?_
      refine a_iload_n C (pc := 67) 1 dX9_query_67 rfl rfl ?_
      refine a_iald C (pc := 68) 1 rfl h.1 dX9_query_68 ?_
      replace h := h.2
      refine a_callV C (pc := 69) (av := [.int (v_holds (l1 : Int32).toNatClampNeg)]) (wr := [((d0 20), aI cs 4 v_holds), ((d0 10), aI cs 64 v_fresh), ((d0 1), aI cs 3000 v_tape), ((d0 3), aI cs 8 v_word), ((d0 14), aI cs 5 v_words), ((d0 15), aI cs 2560 v_letter), ((d0 29), aI cs 64 v_asked), ((d0 13), aI cs 5 v_size), ((d0 16), aI cs 12800 v_impact), ((d0 27), aI cs 40 v_gap), ((d0 37), aI cs 600 v_planTerm), ((d0 38), aI cs 600 v_planImpact), ((d0 39), aI cs 600 v_planSize), ((d0 40), aI cs 40 v_sums), ((d0 41), aI cs 40 v_hit)]) (m_X9_slotOf Lx Dx cs h0 d0 v_thrown_3 v_taped v_at v_documents v_terms v_latest v_filed v_drafted v_place v_over v_clock v_askedTerms v_segments v_done v_postingsDone v_postingsAll v_why v_hits v_kept v_generation (v_holds (l1 : Int32).toNatClampNeg) _ h) [0, 16, 17] [1, 2, 3, 4, 5, 6, 7, 8, 9, 10, 11, 12, 13, 14, 15] rfl rfl (by decide) (by decide) (by decide) wM_X9_260 wb_X9_slotOf hy_X9_slotOf (q0 := 0) rfl rfl rfl ⟨Nat.le_of_ble_eq_true rfl, Nat.le_of_ble_eq_true rfl⟩ (Nat.le_of_ble_eq_true rfl) hkm hnm rfl dX9_query_69 (fun v w1 hw => ?_) [] rfl (fun _ _ h => h.elim)
      obtain ⟨r_4, rfl, rfl, h⟩ := hw
      refine a_ws (st1 := [.int r_4]) (ws1 := [(h0, oX9 d0 v_thrown_3 v_taped v_at v_documents v_terms v_latest v_filed v_drafted v_place v_over v_clock v_askedTerms v_segments v_done v_postingsDone v_postingsAll v_why v_hits), ((d0 20), aI cs 4 v_holds), ((d0 10), aI cs 64 v_fresh), ((d0 1), aI cs 3000 v_tape), ((d0 3), aI cs 8 v_word), ((d0 14), aI cs 5 v_words), ((d0 15), aI cs 2560 v_letter), ((d0 29), aI cs 64 v_asked), ((d0 13), aI cs 5 v_size), ((d0 16), aI cs 12800 v_impact), ((d0 27), aI cs 40 v_gap), ((d0 37), aI cs 600 v_planTerm), ((d0 38), aI cs 600 v_planImpact), ((d0 39), aI cs 600 v_planSize), ((d0 40), aI cs 40 v_sums), ((d0 41), aI cs 40 v_hit), ((d0 18), aZ cs 5 v_kept), ((d0 17), aI cs 5 v_generation)]) k n9 72 [15, 0, 1, 2, 3, 4, 5, 6, 7, 8, 9, 10, 11, 12, 13, 14, 16, 17] rfl rfl rfl rfl (by decide) rfl ?_
      exact w_X9_query_72 C hkm hnm v_thrown_3 v_taped v_at v_clock v_askedTerms v_segments v_done v_postingsDone v_postingsAll v_why v_hits v_fresh v_word v_asked v_gap v_planTerm v_planImpact v_planSize v_sums v_hit l1 l2 l3 l4 l6 r_4 h
    · have h := h.2 hc
      refine a_iconst C (pc := 58) dX9_query_58 ic_m1 ?_
      refine a_goto C (pc := 59) 72 dX9_query_59 (by decide) ?_
      exact w_X9_query_72 C hkm hnm v_thrown_3 v_taped v_at v_clock v_askedTerms v_segments v_done v_postingsDone v_postingsAll v_why v_hits v_fresh v_word v_asked v_gap v_planTerm v_planImpact v_planSize v_sums v_hit l1 l2 l3 l4 l6 (-1) h
  · have h := h.2 hc
    refine a_iconst C (pc := 47) dX9_query_47 ic_0 ?_
    exact a_ireturn C (pc := 48) rfl dX9_query_48 hkm hnm ⟨_, _, _, _, _, _, _, _, _, _, _, _, _, _, _, _, _, _, _, _, _, rfl, rfl, h⟩
set_option maxRecDepth 100000 in
set_option maxHeartbeats 4000000 in
theorem w_X9_query_35 {Γ : XG} {Lx : Launch} {Dx : va_G} {cs : Nat → ClassId} {h0 : Nat} {d0 : Nat → Nat} {v_documents : Int32} {v_terms : Int32} {v_latest : Int32} {v_filed : Int32} {v_drafted : Int32} {v_place : Int32} {v_over : Int32} {v_holds : Nat → Int32} {v_tape : Nat → Int32} {v_words : Nat → Int32} {v_letter : Nat → Int32} {v_size : Nat → Int32} {v_impact : Nat → Int32} {v_kept : Nat → Int32} {v_generation : Nat → Int32} {Φ : Int32 → Int32 → Int32 → Int32 → Int64 → Int32 → Int32 → Int32 → Int32 → Int32 → Int32 → Int32 → (Nat → Int32) → (Nat → Int32) → (Nat → Int32) → (Nat → Int32) → (Nat → Int32) → (Nat → Int32) → (Nat → Int32) → (Nat → Int32) → (Nat → Int32) → Prop} {k n9 : Nat} (C : CX Γ Lx Dx cs cX9_query RX9 "query" 9 (some .int) 3 75 0 0 (qEC cs 0 0 [] (R_X9_query cs h0 d0 v_documents v_terms v_latest v_filed v_drafted v_place v_over v_holds v_tape v_words v_letter v_size v_impact v_kept v_generation Φ) (fun _ _ => False))) (hkm : k ≤ 0) (hnm : n9 ≤ 0) (v_thrown : Int32) (v_taped : Int32) (v_at : Int32) (v_clock : Int64) (v_askedTerms : Int32) (v_segments : Int32) (v_done : Int32) (v_postingsDone : Int32) (v_postingsAll : Int32) (v_why : Int32) (v_hits : Int32) (v_fresh : Nat → Int32) (v_word : Nat → Int32) (v_asked : Nat → Int32) (v_gap : Nat → Int32) (v_planTerm : Nat → Int32) (v_planImpact : Nat → Int32) (v_planSize : Nat → Int32) (v_sums : Nat → Int32) (v_hit : Nat → Int32) (l1 : Int32) (l2 : Int32) (l3 : Int32) (l4 : Int64) (l6 : Int32) (h : J_X9_query_35 v_thrown v_taped v_at v_clock v_askedTerms v_segments v_done v_postingsDone v_postingsAll v_why v_hits v_holds v_fresh v_tape v_word v_words v_letter v_asked v_size v_impact v_gap v_planTerm v_planImpact v_planSize v_sums v_hit v_kept v_generation l1 l2 l3 l4 l6 Φ) : AW Γ k n9 35 [(0, .ref h0), (1, .int l1), (2, .int l2), (3, .int l3), (4, .long l4), (6, .int l6)] [.ref h0] [(h0, oX9 d0 v_thrown v_taped v_at v_documents v_terms v_latest v_filed v_drafted v_place v_over v_clock v_askedTerms v_segments v_done v_postingsDone v_postingsAll v_why v_hits), ((d0 20), aI cs 4 v_holds), ((d0 10), aI cs 64 v_fresh), ((d0 1), aI cs 3000 v_tape), ((d0 3), aI cs 8 v_word), ((d0 14), aI cs 5 v_words), ((d0 15), aI cs 2560 v_letter), ((d0 29), aI cs 64 v_asked), ((d0 13), aI cs 5 v_size), ((d0 16), aI cs 12800 v_impact), ((d0 27), aI cs 40 v_gap), ((d0 37), aI cs 600 v_planTerm), ((d0 38), aI cs 600 v_planImpact), ((d0 39), aI cs 600 v_planSize), ((d0 40), aI cs 40 v_sums), ((d0 41), aI cs 40 v_hit), ((d0 18), aZ cs 5 v_kept), ((d0 17), aI cs 5 v_generation)] := by
  unfold J_X9_query_35 at h
  refine a_iconst C (pc := 35) dX9_query_35 ic_1 ?_
  refine a_goto C (pc := 36) 40 dX9_query_36 (by decide) ?_
  exact w_X9_query_40 C hkm hnm v_thrown v_taped v_at v_clock v_askedTerms v_segments v_done v_postingsDone v_postingsAll v_why v_hits v_fresh v_word v_asked v_gap v_planTerm v_planImpact v_planSize v_sums v_hit l1 l2 l3 l4 l6 1 h
set_option maxRecDepth 100000 in
set_option maxHeartbeats 4000000 in
theorem m_X9_query (Lx : Launch) (Dx : va_G) (cs : Nat → ClassId) (h0 : Nat) (d0 : Nat → Nat) (v_thrown : Int32) (v_taped : Int32) (v_at : Int32) (v_documents : Int32) (v_terms : Int32) (v_latest : Int32) (v_filed : Int32) (v_drafted : Int32) (v_place : Int32) (v_over : Int32) (v_clock : Int64) (v_askedTerms : Int32) (v_segments : Int32) (v_done : Int32) (v_postingsDone : Int32) (v_postingsAll : Int32) (v_why : Int32) (v_hits : Int32) (v_holds : Nat → Int32) (v_fresh : Nat → Int32) (v_tape : Nat → Int32) (v_word : Nat → Int32) (v_words : Nat → Int32) (v_letter : Nat → Int32) (v_asked : Nat → Int32) (v_size : Nat → Int32) (v_impact : Nat → Int32) (v_gap : Nat → Int32) (v_planTerm : Nat → Int32) (v_planImpact : Nat → Int32) (v_planSize : Nat → Int32) (v_sums : Nat → Int32) (v_hit : Nat → Int32) (v_kept : Nat → Int32) (v_generation : Nat → Int32) (l1 : Int32) (l2 : Int32) (l3 : Int32) (l4 : Int64) (Φ : Int32 → Int32 → Int32 → Int32 → Int64 → Int32 → Int32 → Int32 → Int32 → Int32 → Int32 → Int32 → (Nat → Int32) → (Nat → Int32) → (Nat → Int32) → (Nat → Int32) → (Nat → Int32) → (Nat → Int32) → (Nat → Int32) → (Nat → Int32) → (Nat → Int32) → Prop) (h : P_X9_query v_thrown v_taped v_at v_clock v_askedTerms v_segments v_done v_postingsDone v_postingsAll v_why v_hits v_holds v_fresh v_tape v_word v_words v_letter v_asked v_size v_impact v_gap v_planTerm v_planImpact v_planSize v_sums v_hit v_kept v_generation l1 l2 l3 l4 Φ) : XMet Lx Dx cs yX9_query cX9_query 9 (some .int) 3 75 0 0 [.ref h0, .int l1, .int l2, .int l3, .long l4] [(h0, oX9 d0 v_thrown v_taped v_at v_documents v_terms v_latest v_filed v_drafted v_place v_over v_clock v_askedTerms v_segments v_done v_postingsDone v_postingsAll v_why v_hits), ((d0 20), aI cs 4 v_holds), ((d0 10), aI cs 64 v_fresh), ((d0 1), aI cs 3000 v_tape), ((d0 3), aI cs 8 v_word), ((d0 14), aI cs 5 v_words), ((d0 15), aI cs 2560 v_letter), ((d0 29), aI cs 64 v_asked), ((d0 13), aI cs 5 v_size), ((d0 16), aI cs 12800 v_impact), ((d0 27), aI cs 40 v_gap), ((d0 37), aI cs 600 v_planTerm), ((d0 38), aI cs 600 v_planImpact), ((d0 39), aI cs 600 v_planSize), ((d0 40), aI cs 40 v_sums), ((d0 41), aI cs 40 v_hit), ((d0 18), aZ cs 5 v_kept), ((d0 17), aI cs 5 v_generation)] (R_X9_query cs h0 d0 v_documents v_terms v_latest v_filed v_drafted v_place v_over v_holds v_tape v_words v_letter v_size v_impact v_kept v_generation Φ) (fun _ _ => False) := by
  refine XMet.of (own := RX9) (nm := "query") (by decide) rfl rfl (Nat.le_of_ble_eq_true rfl) (fun Γ C => ?_)
  unfold P_X9_query at h
  refine a_aload_n C (pc := 0) 0 dX9_query_0 rfl rfl ?_
  refine a_get C (pc := 1) 0 2 inW_X9 rfl rfl (Nat.le_of_ble_eq_true rfl) wF_X9_97 rfl rfl dX9_query_1 ?_
  refine a_istore C (pc := 4) (lv1 := [(0, .ref h0), (1, .int l1), (2, .int l2), (3, .int l3), (4, .long l4), (6, .int v_taped)]) [1, 2, 3, 4, 5, 0] dX9_query_4 (by decide) rfl ?_
  refine a_aload_n C (pc := 6) 0 dX9_query_6 rfl rfl ?_
  refine a_iconst C (pc := 7) dX9_query_7 ic_0 ?_
  refine a_put C (pc := 8) (ws1 := [(h0, oX9 d0 v_thrown 0 v_at v_documents v_terms v_latest v_filed v_drafted v_place v_over v_clock v_askedTerms v_segments v_done v_postingsDone v_postingsAll v_why v_hits), ((d0 20), aI cs 4 v_holds), ((d0 10), aI cs 64 v_fresh), ((d0 1), aI cs 3000 v_tape), ((d0 3), aI cs 8 v_word), ((d0 14), aI cs 5 v_words), ((d0 15), aI cs 2560 v_letter), ((d0 29), aI cs 64 v_asked), ((d0 13), aI cs 5 v_size), ((d0 16), aI cs 12800 v_impact), ((d0 27), aI cs 40 v_gap), ((d0 37), aI cs 600 v_planTerm), ((d0 38), aI cs 600 v_planImpact), ((d0 39), aI cs 600 v_planSize), ((d0 40), aI cs 40 v_sums), ((d0 41), aI cs 40 v_hit), ((d0 18), aZ cs 5 v_kept), ((d0 17), aI cs 5 v_generation)]) 0 2 inW_X9 tyX9 tyX9_ok nmX9 rfl rfl (Nat.le_of_ble_eq_true rfl) wF_X9_97 rfl rfl rfl rfl rfl (Nat.le_of_ble_eq_true rfl) dX9_query_8 rfl ?_
  refine a_aload_n C (pc := 11) 0 dX9_query_11 rfl rfl ?_
  refine a_iload_n C (pc := 12) 1 dX9_query_12 rfl rfl ?_
  refine a_callS C (pc := 13) (av := [.int l1]) (wr := [(h0, oX9 d0 v_thrown 0 v_at v_documents v_terms v_latest v_filed v_drafted v_place v_over v_clock v_askedTerms v_segments v_done v_postingsDone v_postingsAll v_why v_hits), ((d0 20), aI cs 4 v_holds), ((d0 10), aI cs 64 v_fresh), ((d0 1), aI cs 3000 v_tape), ((d0 3), aI cs 8 v_word), ((d0 14), aI cs 5 v_words), ((d0 15), aI cs 2560 v_letter), ((d0 29), aI cs 64 v_asked), ((d0 13), aI cs 5 v_size), ((d0 16), aI cs 12800 v_impact), ((d0 27), aI cs 40 v_gap), ((d0 37), aI cs 600 v_planTerm), ((d0 38), aI cs 600 v_planImpact), ((d0 39), aI cs 600 v_planSize), ((d0 40), aI cs 40 v_sums), ((d0 41), aI cs 40 v_hit), ((d0 18), aZ cs 5 v_kept), ((d0 17), aI cs 5 v_generation)]) (m_X9_noReader Lx Dx cs l1 _ h) [] [0, 1, 2, 3, 4, 5, 6, 7, 8, 9, 10, 11, 12, 13, 14, 15, 16, 17] rfl rfl (by decide) (by decide) (by decide) wM_X9_272 wb_X9_noReader hy_X9_noReader rfl ⟨Nat.le_of_ble_eq_true rfl, Nat.le_of_ble_eq_true rfl⟩ (Nat.le_of_ble_eq_true rfl) (Nat.le_of_ble_eq_true rfl) (Nat.le_of_ble_eq_true rfl) rfl dX9_query_13 (fun v w1 hw => ?_) [] rfl (fun _ _ h => h.elim)
  obtain ⟨r_1, rfl, rfl, h⟩ := hw
  refine a_ws (st1 := [.int r_1, .ref h0]) (ws1 := [(h0, oX9 d0 v_thrown 0 v_at v_documents v_terms v_latest v_filed v_drafted v_place v_over v_clock v_askedTerms v_segments v_done v_postingsDone v_postingsAll v_why v_hits), ((d0 20), aI cs 4 v_holds), ((d0 10), aI cs 64 v_fresh), ((d0 1), aI cs 3000 v_tape), ((d0 3), aI cs 8 v_word), ((d0 14), aI cs 5 v_words), ((d0 15), aI cs 2560 v_letter), ((d0 29), aI cs 64 v_asked), ((d0 13), aI cs 5 v_size), ((d0 16), aI cs 12800 v_impact), ((d0 27), aI cs 40 v_gap), ((d0 37), aI cs 600 v_planTerm), ((d0 38), aI cs 600 v_planImpact), ((d0 39), aI cs 600 v_planSize), ((d0 40), aI cs 40 v_sums), ((d0 41), aI cs 40 v_hit), ((d0 18), aZ cs 5 v_kept), ((d0 17), aI cs 5 v_generation)]) 0 0 16 [0, 1, 2, 3, 4, 5, 6, 7, 8, 9, 10, 11, 12, 13, 14, 15, 16, 17] rfl rfl rfl rfl (by decide) rfl ?_
  refine a_if_ne C (pc := 16) 35 dX9_query_16 (by decide) (fun hc => ?_) (fun hc => ?_)
  · have h := h.1 hc
    exact w_X9_query_35 C (Nat.le_of_ble_eq_true rfl) (Nat.le_of_ble_eq_true rfl) v_thrown 0 v_at v_clock v_askedTerms v_segments v_done v_postingsDone v_postingsAll v_why v_hits v_fresh v_word v_asked v_gap v_planTerm v_planImpact v_planSize v_sums v_hit l1 l2 l3 l4 v_taped h
  · have h := h.2 hc
    refine a_iload_n C (pc := 19) 2 dX9_query_19 rfl rfl ?_
    refine a_i2l C (pc := 20) dX9_query_20 ?_
    refine a_lconst C (pc := 21) (v := 1) dX9_query_21 rfl ?_
    refine a_ldc2 C (pc := 22) wC_X9_239 dX9_query_22 ?_
    refine a_callS C (pc := 25) (av := [.long ((l2 : Int32).toInt64), .long 1, .long 40]) (wr := [(h0, oX9 d0 v_thrown 0 v_at v_documents v_terms v_latest v_filed v_drafted v_place v_over v_clock v_askedTerms v_segments v_done v_postingsDone v_postingsAll v_why v_hits), ((d0 20), aI cs 4 v_holds), ((d0 10), aI cs 64 v_fresh), ((d0 1), aI cs 3000 v_tape), ((d0 3), aI cs 8 v_word), ((d0 14), aI cs 5 v_words), ((d0 15), aI cs 2560 v_letter), ((d0 29), aI cs 64 v_asked), ((d0 13), aI cs 5 v_size), ((d0 16), aI cs 12800 v_impact), ((d0 27), aI cs 40 v_gap), ((d0 37), aI cs 600 v_planTerm), ((d0 38), aI cs 600 v_planImpact), ((d0 39), aI cs 600 v_planSize), ((d0 40), aI cs 40 v_sums), ((d0 41), aI cs 40 v_hit), ((d0 18), aZ cs 5 v_kept), ((d0 17), aI cs 5 v_generation)]) (m_X9_within Lx Dx cs ((l2 : Int32).toInt64) 1 40 _ h) [] [0, 1, 2, 3, 4, 5, 6, 7, 8, 9, 10, 11, 12, 13, 14, 15, 16, 17] rfl rfl (by decide) (by decide) (by decide) wM_X9_89 wb_X9_within hy_X9_within rfl ⟨Nat.le_of_ble_eq_true rfl, Nat.le_of_ble_eq_true rfl⟩ (Nat.le_of_ble_eq_true rfl) (Nat.le_of_ble_eq_true rfl) (Nat.le_of_ble_eq_true rfl) rfl dX9_query_25 (fun v w1 hw => ?_) [] rfl (fun _ _ h => h.elim)
    obtain ⟨r_128, rfl, rfl, h⟩ := hw
    refine a_ws (st1 := [.int r_128, .ref h0]) (ws1 := [(h0, oX9 d0 v_thrown 0 v_at v_documents v_terms v_latest v_filed v_drafted v_place v_over v_clock v_askedTerms v_segments v_done v_postingsDone v_postingsAll v_why v_hits), ((d0 20), aI cs 4 v_holds), ((d0 10), aI cs 64 v_fresh), ((d0 1), aI cs 3000 v_tape), ((d0 3), aI cs 8 v_word), ((d0 14), aI cs 5 v_words), ((d0 15), aI cs 2560 v_letter), ((d0 29), aI cs 64 v_asked), ((d0 13), aI cs 5 v_size), ((d0 16), aI cs 12800 v_impact), ((d0 27), aI cs 40 v_gap), ((d0 37), aI cs 600 v_planTerm), ((d0 38), aI cs 600 v_planImpact), ((d0 39), aI cs 600 v_planSize), ((d0 40), aI cs 40 v_sums), ((d0 41), aI cs 40 v_hit), ((d0 18), aZ cs 5 v_kept), ((d0 17), aI cs 5 v_generation)]) 0 0 28 [0, 1, 2, 3, 4, 5, 6, 7, 8, 9, 10, 11, 12, 13, 14, 15, 16, 17] rfl rfl rfl rfl (by decide) rfl ?_
    refine a_if_eq C (pc := 28) 35 dX9_query_28 (by decide) (fun hc => ?_) (fun hc => ?_)
    · have h := h.1 hc
      exact w_X9_query_35 C (Nat.le_of_ble_eq_true rfl) (Nat.le_of_ble_eq_true rfl) v_thrown 0 v_at v_clock v_askedTerms v_segments v_done v_postingsDone v_postingsAll v_why v_hits v_fresh v_word v_asked v_gap v_planTerm v_planImpact v_planSize v_sums v_hit l1 l2 l3 l4 v_taped h
    · have h := h.2 hc
      refine a_iload_n C (pc := 31) 3 dX9_query_31 rfl rfl ?_
      refine a_if_ge C (pc := 32) 39 dX9_query_32 (by decide) (fun hc => ?_) (fun hc => ?_)
      · have h := h.1 hc
        refine a_iconst C (pc := 39) dX9_query_39 ic_0 ?_
        exact w_X9_query_40 C (Nat.le_of_ble_eq_true rfl) (Nat.le_of_ble_eq_true rfl) v_thrown 0 v_at v_clock v_askedTerms v_segments v_done v_postingsDone v_postingsAll v_why v_hits v_fresh v_word v_asked v_gap v_planTerm v_planImpact v_planSize v_sums v_hit l1 l2 l3 l4 v_taped 0 h
      · have h := h.2 hc
        exact w_X9_query_35 C (Nat.le_of_ble_eq_true rfl) (Nat.le_of_ble_eq_true rfl) v_thrown 0 v_at v_clock v_askedTerms v_segments v_done v_postingsDone v_postingsAll v_why v_hits v_fresh v_word v_asked v_gap v_planTerm v_planImpact v_planSize v_sums v_hit l1 l2 l3 l4 v_taped h
set_option maxRecDepth 100000 in
set_option maxHeartbeats 4000000 in
theorem w_X9_hit_32 {Γ : XG} {Lx : Launch} {Dx : va_G} {cs : Nat → ClassId} {h0 : Nat} {d0 : Nat → Nat} {v_taped : Int32} {v_at : Int32} {v_documents : Int32} {v_terms : Int32} {v_latest : Int32} {v_filed : Int32} {v_drafted : Int32} {v_place : Int32} {v_over : Int32} {v_clock : Int64} {v_askedTerms : Int32} {v_segments : Int32} {v_done : Int32} {v_postingsDone : Int32} {v_postingsAll : Int32} {v_why : Int32} {v_hits : Int32} {v_hit : Nat → Int32} {v_sums : Nat → Int32} {Φ : Int32 → Int32 → Prop} {k n9 : Nat} (C : CX Γ Lx Dx cs cX9_hit RX9 "hit" 3 (some .int) 1 25 0 0 (qEC cs 0 0 [] (R_X9_hit cs h0 d0 v_taped v_at v_documents v_terms v_latest v_filed v_drafted v_place v_over v_clock v_askedTerms v_segments v_done v_postingsDone v_postingsAll v_why v_hits v_hit v_sums Φ) (fun _ _ => False))) (hkm : k ≤ 0) (hnm : n9 ≤ 0) (v_thrown : Int32) (l1 : Int32) (l2 : Int32) (s1 : Int32) (h : J_X9_hit_32 v_thrown v_hits v_hit v_sums l1 l2 s1 Φ) : AW Γ k n9 32 [(0, .ref h0), (1, .int l1), (2, .int l2)] [.int s1, .ref h0] [(h0, oX9 d0 v_thrown v_taped v_at v_documents v_terms v_latest v_filed v_drafted v_place v_over v_clock v_askedTerms v_segments v_done v_postingsDone v_postingsAll v_why v_hits), ((d0 41), aI cs 40 v_hit), ((d0 40), aI cs 40 v_sums)] := by
  unfold J_X9_hit_32 at h
  refine a_iconst C (pc := 32) dX9_hit_32 ic_1 ?_
  refine a_callV C (pc := 33) (av := [.int s1, .int 1]) (wr := [((d0 41), aI cs 40 v_hit), ((d0 40), aI cs 40 v_sums)]) (m_X9_fails Lx Dx cs h0 d0 v_thrown v_taped v_at v_documents v_terms v_latest v_filed v_drafted v_place v_over v_clock v_askedTerms v_segments v_done v_postingsDone v_postingsAll v_why v_hits s1 1 _ h) [0] [1, 2] rfl rfl (by decide) (by decide) (by decide) wM_X9_93 wb_X9_fails hy_X9_fails (q0 := 0) rfl rfl rfl ⟨Nat.le_of_ble_eq_true rfl, Nat.le_of_ble_eq_true rfl⟩ (Nat.le_of_ble_eq_true rfl) hkm hnm rfl dX9_hit_33 (fun v w1 hw => ?_) [] rfl (fun _ _ h => h.elim)
  obtain ⟨r_2, v_thrown_3, rfl, rfl, h⟩ := hw
  refine a_ws (st1 := [.int r_2]) (ws1 := [(h0, oX9 d0 v_thrown_3 v_taped v_at v_documents v_terms v_latest v_filed v_drafted v_place v_over v_clock v_askedTerms v_segments v_done v_postingsDone v_postingsAll v_why v_hits), ((d0 41), aI cs 40 v_hit), ((d0 40), aI cs 40 v_sums)]) k n9 36 [2, 0, 1] rfl rfl rfl rfl (by decide) rfl ?_
  refine a_if_eq C (pc := 36) 41 dX9_hit_36 (by decide) (fun hc => ?_) (fun hc => ?_)
  · have h := h.1 hc
    refine a_iload_n C (pc := 41) 2 dX9_hit_41 rfl rfl ?_
    refine a_if_ne C (pc := 42) 54 dX9_hit_42 (by decide) (fun hc => ?_) (fun hc => ?_)
    · have h := h.1 hc
      refine a_aload_n C (pc := 54) 0 dX9_hit_54 rfl rfl ?_
      refine a_get C (pc := 55) 0 40 inW_X9 rfl rfl (Nat.le_of_ble_eq_true rfl) wF_X9_77 rfl rfl dX9_hit_55 ?_
      refine a_aload_n C (pc := 58) 0 dX9_hit_58 rfl rfl ?_
      refine a_get C (pc := 59) 0 41 inW_X9 rfl rfl (Nat.le_of_ble_eq_true rfl) wF_X9_80 rfl rfl dX9_hit_59 ?_
      refine a_iload_n C (pc := 62) 1 dX9_hit_62 rfl rfl ?_
      refine a_iald C (pc := 63) 1 rfl h.1 dX9_hit_63 ?_
      replace h := h.2
      refine a_iald C (pc := 64) 2 rfl h.1 dX9_hit_64 ?_
      replace h := h.2
      exact a_ireturn C (pc := 65) rfl dX9_hit_65 hkm hnm ⟨_, _, rfl, rfl, h⟩
    · have h := h.2 hc
      refine a_aload_n C (pc := 45) 0 dX9_hit_45 rfl rfl ?_
      refine a_get C (pc := 46) 0 41 inW_X9 rfl rfl (Nat.le_of_ble_eq_true rfl) wF_X9_80 rfl rfl dX9_hit_46 ?_
      refine a_iload_n C (pc := 49) 1 dX9_hit_49 rfl rfl ?_
      refine a_iald C (pc := 50) 1 rfl h.1 dX9_hit_50 ?_
      replace h := h.2
      refine a_goto C (pc := 51) 65 dX9_hit_51 (by decide) ?_
      exact a_ireturn C (pc := 65) rfl dX9_hit_65 hkm hnm ⟨_, _, rfl, rfl, h⟩
  · have h := h.2 hc
    refine a_iconst C (pc := 39) dX9_hit_39 ic_0 ?_
    exact a_ireturn C (pc := 40) rfl dX9_hit_40 hkm hnm ⟨_, _, rfl, rfl, h⟩
set_option maxRecDepth 100000 in
set_option maxHeartbeats 4000000 in
theorem w_X9_hit_27 {Γ : XG} {Lx : Launch} {Dx : va_G} {cs : Nat → ClassId} {h0 : Nat} {d0 : Nat → Nat} {v_taped : Int32} {v_at : Int32} {v_documents : Int32} {v_terms : Int32} {v_latest : Int32} {v_filed : Int32} {v_drafted : Int32} {v_place : Int32} {v_over : Int32} {v_clock : Int64} {v_askedTerms : Int32} {v_segments : Int32} {v_done : Int32} {v_postingsDone : Int32} {v_postingsAll : Int32} {v_why : Int32} {v_hits : Int32} {v_hit : Nat → Int32} {v_sums : Nat → Int32} {Φ : Int32 → Int32 → Prop} {k n9 : Nat} (C : CX Γ Lx Dx cs cX9_hit RX9 "hit" 3 (some .int) 1 25 0 0 (qEC cs 0 0 [] (R_X9_hit cs h0 d0 v_taped v_at v_documents v_terms v_latest v_filed v_drafted v_place v_over v_clock v_askedTerms v_segments v_done v_postingsDone v_postingsAll v_why v_hits v_hit v_sums Φ) (fun _ _ => False))) (hkm : k ≤ 0) (hnm : n9 ≤ 0) (v_thrown : Int32) (l1 : Int32) (l2 : Int32) (h : J_X9_hit_27 v_thrown v_hits v_hit v_sums l1 l2 Φ) : AW Γ k n9 27 [(0, .ref h0), (1, .int l1), (2, .int l2)] [.ref h0] [(h0, oX9 d0 v_thrown v_taped v_at v_documents v_terms v_latest v_filed v_drafted v_place v_over v_clock v_askedTerms v_segments v_done v_postingsDone v_postingsAll v_why v_hits), ((d0 41), aI cs 40 v_hit), ((d0 40), aI cs 40 v_sums)] := by
  unfold J_X9_hit_27 at h
  refine a_iconst C (pc := 27) dX9_hit_27 ic_1 ?_
  refine a_goto C (pc := 28) 32 dX9_hit_28 (by decide) ?_
  exact w_X9_hit_32 C hkm hnm v_thrown l1 l2 1 h
set_option maxRecDepth 100000 in
set_option maxHeartbeats 4000000 in
theorem m_X9_hit (Lx : Launch) (Dx : va_G) (cs : Nat → ClassId) (h0 : Nat) (d0 : Nat → Nat) (v_thrown : Int32) (v_taped : Int32) (v_at : Int32) (v_documents : Int32) (v_terms : Int32) (v_latest : Int32) (v_filed : Int32) (v_drafted : Int32) (v_place : Int32) (v_over : Int32) (v_clock : Int64) (v_askedTerms : Int32) (v_segments : Int32) (v_done : Int32) (v_postingsDone : Int32) (v_postingsAll : Int32) (v_why : Int32) (v_hits : Int32) (v_hit : Nat → Int32) (v_sums : Nat → Int32) (l1 : Int32) (l2 : Int32) (Φ : Int32 → Int32 → Prop) (h : P_X9_hit v_thrown v_hits v_hit v_sums l1 l2 Φ) : XMet Lx Dx cs yX9_hit cX9_hit 3 (some .int) 1 25 0 0 [.ref h0, .int l1, .int l2] [(h0, oX9 d0 v_thrown v_taped v_at v_documents v_terms v_latest v_filed v_drafted v_place v_over v_clock v_askedTerms v_segments v_done v_postingsDone v_postingsAll v_why v_hits), ((d0 41), aI cs 40 v_hit), ((d0 40), aI cs 40 v_sums)] (R_X9_hit cs h0 d0 v_taped v_at v_documents v_terms v_latest v_filed v_drafted v_place v_over v_clock v_askedTerms v_segments v_done v_postingsDone v_postingsAll v_why v_hits v_hit v_sums Φ) (fun _ _ => False) := by
  refine XMet.of (own := RX9) (nm := "hit") (by decide) rfl rfl (Nat.le_of_ble_eq_true rfl) (fun Γ C => ?_)
  unfold P_X9_hit at h
  refine a_aload_n C (pc := 0) 0 dX9_hit_0 rfl rfl ?_
  refine a_iload_n C (pc := 1) 1 dX9_hit_1 rfl rfl ?_
  refine a_i2l C (pc := 2) dX9_hit_2 ?_
  refine a_lconst C (pc := 3) (v := 0) dX9_hit_3 rfl ?_
  refine a_aload_n C (pc := 4) 0 dX9_hit_4 rfl rfl ?_
  refine a_get C (pc := 5) 0 36 inW_X9 rfl rfl (Nat.le_of_ble_eq_true rfl) wF_X9_309 rfl rfl dX9_hit_5 ?_
  refine a_iconst C (pc := 8) dX9_hit_8 ic_1 ?_
  refine a_isub C (pc := 9) dX9_hit_9 ?_
  refine a_i2l C (pc := 10) dX9_hit_10 ?_
  refine a_callS C (pc := 11) (av := [.long ((l1 : Int32).toInt64), .long 0, .long (((v_hits - 1) : Int32).toInt64)]) (wr := [(h0, oX9 d0 v_thrown v_taped v_at v_documents v_terms v_latest v_filed v_drafted v_place v_over v_clock v_askedTerms v_segments v_done v_postingsDone v_postingsAll v_why v_hits), ((d0 41), aI cs 40 v_hit), ((d0 40), aI cs 40 v_sums)]) (m_X9_within Lx Dx cs ((l1 : Int32).toInt64) 0 (((v_hits - 1) : Int32).toInt64) _ h) [] [0, 1, 2] rfl rfl (by decide) (by decide) (by decide) wM_X9_89 wb_X9_within hy_X9_within rfl ⟨Nat.le_of_ble_eq_true rfl, Nat.le_of_ble_eq_true rfl⟩ (Nat.le_of_ble_eq_true rfl) (Nat.le_of_ble_eq_true rfl) (Nat.le_of_ble_eq_true rfl) rfl dX9_hit_11 (fun v w1 hw => ?_) [] rfl (fun _ _ h => h.elim)
  obtain ⟨r_1, rfl, rfl, h⟩ := hw
  refine a_ws (st1 := [.int r_1, .ref h0]) (ws1 := [(h0, oX9 d0 v_thrown v_taped v_at v_documents v_terms v_latest v_filed v_drafted v_place v_over v_clock v_askedTerms v_segments v_done v_postingsDone v_postingsAll v_why v_hits), ((d0 41), aI cs 40 v_hit), ((d0 40), aI cs 40 v_sums)]) 0 0 14 [0, 1, 2] rfl rfl rfl rfl (by decide) rfl ?_
  refine a_if_eq C (pc := 14) 27 dX9_hit_14 (by decide) (fun hc => ?_) (fun hc => ?_)
  · have h := h.1 hc
    exact w_X9_hit_27 C (Nat.le_of_ble_eq_true rfl) (Nat.le_of_ble_eq_true rfl) v_thrown l1 l2 h
  · have h := h.2 hc
    refine a_iload_n C (pc := 17) 2 dX9_hit_17 rfl rfl ?_
    refine a_i2l C (pc := 18) dX9_hit_18 ?_
    refine a_lconst C (pc := 19) (v := 0) dX9_hit_19 rfl ?_
    refine a_lconst C (pc := 20) (v := 1) dX9_hit_20 rfl ?_
    refine a_callS C (pc := 21) (av := [.long ((l2 : Int32).toInt64), .long 0, .long 1]) (wr := [(h0, oX9 d0 v_thrown v_taped v_at v_documents v_terms v_latest v_filed v_drafted v_place v_over v_clock v_askedTerms v_segments v_done v_postingsDone v_postingsAll v_why v_hits), ((d0 41), aI cs 40 v_hit), ((d0 40), aI cs 40 v_sums)]) (m_X9_within Lx Dx cs ((l2 : Int32).toInt64) 0 1 _ h) [] [0, 1, 2] rfl rfl (by decide) (by decide) (by decide) wM_X9_89 wb_X9_within hy_X9_within rfl ⟨Nat.le_of_ble_eq_true rfl, Nat.le_of_ble_eq_true rfl⟩ (Nat.le_of_ble_eq_true rfl) (Nat.le_of_ble_eq_true rfl) (Nat.le_of_ble_eq_true rfl) rfl dX9_hit_21 (fun v w1 hw => ?_) [] rfl (fun _ _ h => h.elim)
    obtain ⟨r_4, rfl, rfl, h⟩ := hw
    refine a_ws (st1 := [.int r_4, .ref h0]) (ws1 := [(h0, oX9 d0 v_thrown v_taped v_at v_documents v_terms v_latest v_filed v_drafted v_place v_over v_clock v_askedTerms v_segments v_done v_postingsDone v_postingsAll v_why v_hits), ((d0 41), aI cs 40 v_hit), ((d0 40), aI cs 40 v_sums)]) 0 0 24 [0, 1, 2] rfl rfl rfl rfl (by decide) rfl ?_
    refine a_if_ne C (pc := 24) 31 dX9_hit_24 (by decide) (fun hc => ?_) (fun hc => ?_)
    · have h := h.1 hc
      refine a_iconst C (pc := 31) dX9_hit_31 ic_0 ?_
      exact w_X9_hit_32 C (Nat.le_of_ble_eq_true rfl) (Nat.le_of_ble_eq_true rfl) v_thrown l1 l2 0 h
    · have h := h.2 hc
      exact w_X9_hit_27 C (Nat.le_of_ble_eq_true rfl) (Nat.le_of_ble_eq_true rfl) v_thrown l1 l2 h
set_option maxRecDepth 100000 in
set_option maxHeartbeats 4000000 in
theorem w_X9_sum_18 {Γ : XG} {Lx : Launch} {Dx : va_G} {cs : Nat → ClassId} {h0 : Nat} {d0 : Nat → Nat} {v_taped : Int32} {v_at : Int32} {v_documents : Int32} {v_terms : Int32} {v_latest : Int32} {v_filed : Int32} {v_drafted : Int32} {v_place : Int32} {v_over : Int32} {v_clock : Int64} {v_askedTerms : Int32} {v_segments : Int32} {v_done : Int32} {v_postingsDone : Int32} {v_postingsAll : Int32} {v_why : Int32} {v_hits : Int32} {v_sums : Nat → Int32} {Φ : Int32 → Int32 → Prop} {k n9 : Nat} (C : CX Γ Lx Dx cs cX9_sum RX9 "sum" 2 (some .int) 1 25 0 0 (qEC cs 0 0 [] (R_X9_sum cs h0 d0 v_taped v_at v_documents v_terms v_latest v_filed v_drafted v_place v_over v_clock v_askedTerms v_segments v_done v_postingsDone v_postingsAll v_why v_hits v_sums Φ) (fun _ _ => False))) (hkm : k ≤ 0) (hnm : n9 ≤ 0) (v_thrown : Int32) (l1 : Int32) (s1 : Int32) (h : J_X9_sum_18 v_thrown v_sums l1 s1 Φ) : AW Γ k n9 18 [(0, .ref h0), (1, .int l1)] [.int s1, .ref h0] [(h0, oX9 d0 v_thrown v_taped v_at v_documents v_terms v_latest v_filed v_drafted v_place v_over v_clock v_askedTerms v_segments v_done v_postingsDone v_postingsAll v_why v_hits), ((d0 40), aI cs 40 v_sums)] := by
  unfold J_X9_sum_18 at h
  refine a_iconst C (pc := 18) dX9_sum_18 ic_1 ?_
  refine a_callV C (pc := 19) (av := [.int s1, .int 1]) (wr := [((d0 40), aI cs 40 v_sums)]) (m_X9_fails Lx Dx cs h0 d0 v_thrown v_taped v_at v_documents v_terms v_latest v_filed v_drafted v_place v_over v_clock v_askedTerms v_segments v_done v_postingsDone v_postingsAll v_why v_hits s1 1 _ h) [0] [1] rfl rfl (by decide) (by decide) (by decide) wM_X9_93 wb_X9_fails hy_X9_fails (q0 := 0) rfl rfl rfl ⟨Nat.le_of_ble_eq_true rfl, Nat.le_of_ble_eq_true rfl⟩ (Nat.le_of_ble_eq_true rfl) hkm hnm rfl dX9_sum_19 (fun v w1 hw => ?_) [] rfl (fun _ _ h => h.elim)
  obtain ⟨r_2, v_thrown_3, rfl, rfl, h⟩ := hw
  refine a_ws (st1 := [.int r_2]) (ws1 := [(h0, oX9 d0 v_thrown_3 v_taped v_at v_documents v_terms v_latest v_filed v_drafted v_place v_over v_clock v_askedTerms v_segments v_done v_postingsDone v_postingsAll v_why v_hits), ((d0 40), aI cs 40 v_sums)]) k n9 22 [1, 0] rfl rfl rfl rfl (by decide) rfl ?_
  refine a_if_eq C (pc := 22) 29 dX9_sum_22 (by decide) (fun hc => ?_) (fun hc => ?_)
  · have h := h.1 hc
    refine a_aload_n C (pc := 29) 0 dX9_sum_29 rfl rfl ?_
    refine a_get C (pc := 30) 0 40 inW_X9 rfl rfl (Nat.le_of_ble_eq_true rfl) wF_X9_77 rfl rfl dX9_sum_30 ?_
    refine a_iload_n C (pc := 33) 1 dX9_sum_33 rfl rfl ?_
    refine a_iald C (pc := 34) 1 rfl h.1 dX9_sum_34 ?_
    replace h := h.2
    exact a_ireturn C (pc := 35) rfl dX9_sum_35 hkm hnm ⟨_, _, rfl, rfl, h⟩
  · have h := h.2 hc
    refine a_iconst C (pc := 25) dX9_sum_25 ic_0 ?_
    refine a_goto C (pc := 26) 35 dX9_sum_26 (by decide) ?_
    exact a_ireturn C (pc := 35) rfl dX9_sum_35 hkm hnm ⟨_, _, rfl, rfl, h⟩
set_option maxRecDepth 100000 in
set_option maxHeartbeats 4000000 in
theorem m_X9_sum (Lx : Launch) (Dx : va_G) (cs : Nat → ClassId) (h0 : Nat) (d0 : Nat → Nat) (v_thrown : Int32) (v_taped : Int32) (v_at : Int32) (v_documents : Int32) (v_terms : Int32) (v_latest : Int32) (v_filed : Int32) (v_drafted : Int32) (v_place : Int32) (v_over : Int32) (v_clock : Int64) (v_askedTerms : Int32) (v_segments : Int32) (v_done : Int32) (v_postingsDone : Int32) (v_postingsAll : Int32) (v_why : Int32) (v_hits : Int32) (v_sums : Nat → Int32) (l1 : Int32) (Φ : Int32 → Int32 → Prop) (h : P_X9_sum v_thrown v_sums l1 Φ) : XMet Lx Dx cs yX9_sum cX9_sum 2 (some .int) 1 25 0 0 [.ref h0, .int l1] [(h0, oX9 d0 v_thrown v_taped v_at v_documents v_terms v_latest v_filed v_drafted v_place v_over v_clock v_askedTerms v_segments v_done v_postingsDone v_postingsAll v_why v_hits), ((d0 40), aI cs 40 v_sums)] (R_X9_sum cs h0 d0 v_taped v_at v_documents v_terms v_latest v_filed v_drafted v_place v_over v_clock v_askedTerms v_segments v_done v_postingsDone v_postingsAll v_why v_hits v_sums Φ) (fun _ _ => False) := by
  refine XMet.of (own := RX9) (nm := "sum") (by decide) rfl rfl (Nat.le_of_ble_eq_true rfl) (fun Γ C => ?_)
  unfold P_X9_sum at h
  refine a_aload_n C (pc := 0) 0 dX9_sum_0 rfl rfl ?_
  refine a_iload_n C (pc := 1) 1 dX9_sum_1 rfl rfl ?_
  refine a_i2l C (pc := 2) dX9_sum_2 ?_
  refine a_lconst C (pc := 3) (v := 0) dX9_sum_3 rfl ?_
  refine a_ldc2 C (pc := 4) wC_X9_315 dX9_sum_4 ?_
  refine a_callS C (pc := 7) (av := [.long ((l1 : Int32).toInt64), .long 0, .long 39]) (wr := [(h0, oX9 d0 v_thrown v_taped v_at v_documents v_terms v_latest v_filed v_drafted v_place v_over v_clock v_askedTerms v_segments v_done v_postingsDone v_postingsAll v_why v_hits), ((d0 40), aI cs 40 v_sums)]) (m_X9_within Lx Dx cs ((l1 : Int32).toInt64) 0 39 _ h) [] [0, 1] rfl rfl (by decide) (by decide) (by decide) wM_X9_89 wb_X9_within hy_X9_within rfl ⟨Nat.le_of_ble_eq_true rfl, Nat.le_of_ble_eq_true rfl⟩ (Nat.le_of_ble_eq_true rfl) (Nat.le_of_ble_eq_true rfl) (Nat.le_of_ble_eq_true rfl) rfl dX9_sum_7 (fun v w1 hw => ?_) [] rfl (fun _ _ h => h.elim)
  obtain ⟨r_1, rfl, rfl, h⟩ := hw
  refine a_ws (st1 := [.int r_1, .ref h0]) (ws1 := [(h0, oX9 d0 v_thrown v_taped v_at v_documents v_terms v_latest v_filed v_drafted v_place v_over v_clock v_askedTerms v_segments v_done v_postingsDone v_postingsAll v_why v_hits), ((d0 40), aI cs 40 v_sums)]) 0 0 10 [0, 1] rfl rfl rfl rfl (by decide) rfl ?_
  refine a_if_ne C (pc := 10) 17 dX9_sum_10 (by decide) (fun hc => ?_) (fun hc => ?_)
  · have h := h.1 hc
    refine a_iconst C (pc := 17) dX9_sum_17 ic_0 ?_
    exact w_X9_sum_18 C (Nat.le_of_ble_eq_true rfl) (Nat.le_of_ble_eq_true rfl) v_thrown l1 0 h
  · have h := h.2 hc
    refine a_iconst C (pc := 13) dX9_sum_13 ic_1 ?_
    refine a_goto C (pc := 14) 18 dX9_sum_14 (by decide) ?_
    exact w_X9_sum_18 C (Nat.le_of_ble_eq_true rfl) (Nat.le_of_ble_eq_true rfl) v_thrown l1 1 h
set_option maxRecDepth 100000 in
set_option maxHeartbeats 4000000 in
theorem w_X9_last_18 {Γ : XG} {Lx : Launch} {Dx : va_G} {cs : Nat → ClassId} {h0 : Nat} {d0 : Nat → Nat} {v_taped : Int32} {v_at : Int32} {v_documents : Int32} {v_terms : Int32} {v_latest : Int32} {v_filed : Int32} {v_drafted : Int32} {v_place : Int32} {v_over : Int32} {v_clock : Int64} {v_askedTerms : Int32} {v_segments : Int32} {v_done : Int32} {v_postingsDone : Int32} {v_postingsAll : Int32} {v_why : Int32} {v_hits : Int32} {Φ : Int32 → Int32 → Prop} {k n9 : Nat} (C : CX Γ Lx Dx cs cX9_last RX9 "last" 2 (some .int) 1 25 0 0 (qEC cs 0 0 [] (R_X9_last cs h0 d0 v_taped v_at v_documents v_terms v_latest v_filed v_drafted v_place v_over v_clock v_askedTerms v_segments v_done v_postingsDone v_postingsAll v_why v_hits Φ) (fun _ _ => False))) (hkm : k ≤ 0) (hnm : n9 ≤ 0) (v_thrown : Int32) (l1 : Int32) (s1 : Int32) (h : J_X9_last_18 v_thrown v_askedTerms v_segments v_done v_postingsDone v_postingsAll v_why l1 s1 Φ) : AW Γ k n9 18 [(0, .ref h0), (1, .int l1)] [.int s1, .ref h0] [(h0, oX9 d0 v_thrown v_taped v_at v_documents v_terms v_latest v_filed v_drafted v_place v_over v_clock v_askedTerms v_segments v_done v_postingsDone v_postingsAll v_why v_hits)] := by
  unfold J_X9_last_18 at h
  refine a_iconst C (pc := 18) dX9_last_18 ic_1 ?_
  refine a_callV C (pc := 19) (av := [.int s1, .int 1]) (wr := []) (m_X9_fails Lx Dx cs h0 d0 v_thrown v_taped v_at v_documents v_terms v_latest v_filed v_drafted v_place v_over v_clock v_askedTerms v_segments v_done v_postingsDone v_postingsAll v_why v_hits s1 1 _ h) [0] [] rfl rfl (by decide) (by decide) (by decide) wM_X9_93 wb_X9_fails hy_X9_fails (q0 := 0) rfl rfl rfl ⟨Nat.le_of_ble_eq_true rfl, Nat.le_of_ble_eq_true rfl⟩ (Nat.le_of_ble_eq_true rfl) hkm hnm rfl dX9_last_19 (fun v w1 hw => ?_) [] rfl (fun _ _ h => h.elim)
  obtain ⟨r_2, v_thrown_3, rfl, rfl, h⟩ := hw
  refine a_ws (st1 := [.int r_2]) (ws1 := [(h0, oX9 d0 v_thrown_3 v_taped v_at v_documents v_terms v_latest v_filed v_drafted v_place v_over v_clock v_askedTerms v_segments v_done v_postingsDone v_postingsAll v_why v_hits)]) k n9 22 [0] rfl rfl rfl rfl (by decide) rfl ?_
  refine a_if_eq C (pc := 22) 27 dX9_last_22 (by decide) (fun hc => ?_) (fun hc => ?_)
  · have h := h.1 hc
    refine a_iload_n C (pc := 27) 1 dX9_last_27 rfl rfl ?_
    by_cases hc0 : l1 = 0
    · have h := h.1 hc0
      refine a_tableIn C (pc := 28) 64 dX9_last_28 (by rw [hc0]; decide) (by rw [hc0]; decide) (by rw [hc0]; rfl) (by decide) ?_
      refine a_aload_n C (pc := 64) 0 dX9_last_64 rfl rfl ?_
      refine a_get C (pc := 65) 0 30 inW_X9 rfl rfl (Nat.le_of_ble_eq_true rfl) wF_X9_281 rfl rfl dX9_last_65 ?_
      exact a_ireturn C (pc := 68) rfl dX9_last_68 hkm hnm ⟨_, _, rfl, rfl, h⟩
    · by_cases hc1 : l1 = 1
      · have h := h.2.1 hc1
        refine a_tableIn C (pc := 28) 69 dX9_last_28 (by rw [hc1]; decide) (by rw [hc1]; decide) (by rw [hc1]; rfl) (by decide) ?_
        refine a_aload_n C (pc := 69) 0 dX9_last_69 rfl rfl ?_
        refine a_get C (pc := 70) 0 31 inW_X9 rfl rfl (Nat.le_of_ble_eq_true rfl) wF_X9_296 rfl rfl dX9_last_70 ?_
        exact a_ireturn C (pc := 73) rfl dX9_last_73 hkm hnm ⟨_, _, rfl, rfl, h⟩
      · by_cases hc2 : l1 = 2
        · have h := h.2.2.1 hc2
          refine a_tableIn C (pc := 28) 74 dX9_last_28 (by rw [hc2]; decide) (by rw [hc2]; decide) (by rw [hc2]; rfl) (by decide) ?_
          refine a_aload_n C (pc := 74) 0 dX9_last_74 rfl rfl ?_
          refine a_get C (pc := 75) 0 32 inW_X9 rfl rfl (Nat.le_of_ble_eq_true rfl) wF_X9_287 rfl rfl dX9_last_75 ?_
          exact a_ireturn C (pc := 78) rfl dX9_last_78 hkm hnm ⟨_, _, rfl, rfl, h⟩
        · by_cases hc3 : l1 = 3
          · have h := h.2.2.2.1 hc3
            refine a_tableIn C (pc := 28) 79 dX9_last_28 (by rw [hc3]; decide) (by rw [hc3]; decide) (by rw [hc3]; rfl) (by decide) ?_
            refine a_aload_n C (pc := 79) 0 dX9_last_79 rfl rfl ?_
            refine a_get C (pc := 80) 0 33 inW_X9 rfl rfl (Nat.le_of_ble_eq_true rfl) wF_X9_290 rfl rfl dX9_last_80 ?_
            exact a_ireturn C (pc := 83) rfl dX9_last_83 hkm hnm ⟨_, _, rfl, rfl, h⟩
          · by_cases hc4 : l1 = 4
            · have h := h.2.2.2.2.1 hc4
              refine a_tableIn C (pc := 28) 84 dX9_last_28 (by rw [hc4]; decide) (by rw [hc4]; decide) (by rw [hc4]; rfl) (by decide) ?_
              refine a_aload_n C (pc := 84) 0 dX9_last_84 rfl rfl ?_
              refine a_get C (pc := 85) 0 34 inW_X9 rfl rfl (Nat.le_of_ble_eq_true rfl) wF_X9_312 rfl rfl dX9_last_85 ?_
              exact a_ireturn C (pc := 88) rfl dX9_last_88 hkm hnm ⟨_, _, rfl, rfl, h⟩
            · have h := h.2.2.2.2.2 hc0 hc1 hc2 hc3 hc4
              refine a_tableOut C (pc := 28) 89 dX9_last_28 (swo_4 hc0 hc1 hc2 hc3 hc4) (by decide) ?_
              refine a_aload_n C (pc := 89) 0 dX9_last_89 rfl rfl ?_
              refine a_get C (pc := 90) 0 35 inW_X9 rfl rfl (Nat.le_of_ble_eq_true rfl) wF_X9_293 rfl rfl dX9_last_90 ?_
              exact a_ireturn C (pc := 93) rfl dX9_last_93 hkm hnm ⟨_, _, rfl, rfl, h⟩
  · have h := h.2 hc
    refine a_iconst C (pc := 25) dX9_last_25 ic_0 ?_
    exact a_ireturn C (pc := 26) rfl dX9_last_26 hkm hnm ⟨_, _, rfl, rfl, h⟩
set_option maxRecDepth 100000 in
set_option maxHeartbeats 4000000 in
theorem m_X9_last (Lx : Launch) (Dx : va_G) (cs : Nat → ClassId) (h0 : Nat) (d0 : Nat → Nat) (v_thrown : Int32) (v_taped : Int32) (v_at : Int32) (v_documents : Int32) (v_terms : Int32) (v_latest : Int32) (v_filed : Int32) (v_drafted : Int32) (v_place : Int32) (v_over : Int32) (v_clock : Int64) (v_askedTerms : Int32) (v_segments : Int32) (v_done : Int32) (v_postingsDone : Int32) (v_postingsAll : Int32) (v_why : Int32) (v_hits : Int32) (l1 : Int32) (Φ : Int32 → Int32 → Prop) (h : P_X9_last v_thrown v_askedTerms v_segments v_done v_postingsDone v_postingsAll v_why l1 Φ) : XMet Lx Dx cs yX9_last cX9_last 2 (some .int) 1 25 0 0 [.ref h0, .int l1] [(h0, oX9 d0 v_thrown v_taped v_at v_documents v_terms v_latest v_filed v_drafted v_place v_over v_clock v_askedTerms v_segments v_done v_postingsDone v_postingsAll v_why v_hits)] (R_X9_last cs h0 d0 v_taped v_at v_documents v_terms v_latest v_filed v_drafted v_place v_over v_clock v_askedTerms v_segments v_done v_postingsDone v_postingsAll v_why v_hits Φ) (fun _ _ => False) := by
  refine XMet.of (own := RX9) (nm := "last") (by decide) rfl rfl (Nat.le_of_ble_eq_true rfl) (fun Γ C => ?_)
  unfold P_X9_last at h
  refine a_aload_n C (pc := 0) 0 dX9_last_0 rfl rfl ?_
  refine a_iload_n C (pc := 1) 1 dX9_last_1 rfl rfl ?_
  refine a_i2l C (pc := 2) dX9_last_2 ?_
  refine a_lconst C (pc := 3) (v := 0) dX9_last_3 rfl ?_
  refine a_ldc2 C (pc := 4) wC_X9_317 dX9_last_4 ?_
  refine a_callS C (pc := 7) (av := [.long ((l1 : Int32).toInt64), .long 0, .long 5]) (wr := [(h0, oX9 d0 v_thrown v_taped v_at v_documents v_terms v_latest v_filed v_drafted v_place v_over v_clock v_askedTerms v_segments v_done v_postingsDone v_postingsAll v_why v_hits)]) (m_X9_within Lx Dx cs ((l1 : Int32).toInt64) 0 5 _ h) [] [0] rfl rfl (by decide) (by decide) (by decide) wM_X9_89 wb_X9_within hy_X9_within rfl ⟨Nat.le_of_ble_eq_true rfl, Nat.le_of_ble_eq_true rfl⟩ (Nat.le_of_ble_eq_true rfl) (Nat.le_of_ble_eq_true rfl) (Nat.le_of_ble_eq_true rfl) rfl dX9_last_7 (fun v w1 hw => ?_) [] rfl (fun _ _ h => h.elim)
  obtain ⟨r_1, rfl, rfl, h⟩ := hw
  refine a_ws (st1 := [.int r_1, .ref h0]) (ws1 := [(h0, oX9 d0 v_thrown v_taped v_at v_documents v_terms v_latest v_filed v_drafted v_place v_over v_clock v_askedTerms v_segments v_done v_postingsDone v_postingsAll v_why v_hits)]) 0 0 10 [0] rfl rfl rfl rfl (by decide) rfl ?_
  refine a_if_ne C (pc := 10) 17 dX9_last_10 (by decide) (fun hc => ?_) (fun hc => ?_)
  · have h := h.1 hc
    refine a_iconst C (pc := 17) dX9_last_17 ic_0 ?_
    exact w_X9_last_18 C (Nat.le_of_ble_eq_true rfl) (Nat.le_of_ble_eq_true rfl) v_thrown l1 0 h
  · have h := h.2 hc
    refine a_iconst C (pc := 13) dX9_last_13 ic_1 ?_
    refine a_goto C (pc := 14) 18 dX9_last_14 (by decide) ?_
    exact w_X9_last_18 C (Nat.le_of_ble_eq_true rfl) (Nat.le_of_ble_eq_true rfl) v_thrown l1 1 h
set_option maxRecDepth 100000 in
set_option maxHeartbeats 4000000 in
theorem w_X9_plan_34 {Γ : XG} {Lx : Launch} {Dx : va_G} {cs : Nat → ClassId} {h0 : Nat} {d0 : Nat → Nat} {v_taped : Int32} {v_at : Int32} {v_documents : Int32} {v_terms : Int32} {v_latest : Int32} {v_filed : Int32} {v_drafted : Int32} {v_place : Int32} {v_over : Int32} {v_clock : Int64} {v_askedTerms : Int32} {v_segments : Int32} {v_done : Int32} {v_postingsDone : Int32} {v_postingsAll : Int32} {v_why : Int32} {v_hits : Int32} {v_planTerm : Nat → Int32} {v_planImpact : Nat → Int32} {v_planSize : Nat → Int32} {Φ : Int32 → Int32 → Prop} {k n9 : Nat} (C : CX Γ Lx Dx cs cX9_plan RX9 "plan" 3 (some .int) 1 25 0 0 (qEC cs 0 0 [] (R_X9_plan cs h0 d0 v_taped v_at v_documents v_terms v_latest v_filed v_drafted v_place v_over v_clock v_askedTerms v_segments v_done v_postingsDone v_postingsAll v_why v_hits v_planTerm v_planImpact v_planSize Φ) (fun _ _ => False))) (hkm : k ≤ 0) (hnm : n9 ≤ 0) (v_thrown : Int32) (l1 : Int32) (l2 : Int32) (s1 : Int32) (h : J_X9_plan_34 v_thrown v_segments v_planTerm v_planImpact v_planSize l1 l2 s1 Φ) : AW Γ k n9 34 [(0, .ref h0), (1, .int l1), (2, .int l2)] [.int s1, .ref h0] [(h0, oX9 d0 v_thrown v_taped v_at v_documents v_terms v_latest v_filed v_drafted v_place v_over v_clock v_askedTerms v_segments v_done v_postingsDone v_postingsAll v_why v_hits), ((d0 37), aI cs 600 v_planTerm), ((d0 38), aI cs 600 v_planImpact), ((d0 39), aI cs 600 v_planSize)] := by
  unfold J_X9_plan_34 at h
  refine a_iconst C (pc := 34) dX9_plan_34 ic_1 ?_
  refine a_callV C (pc := 35) (av := [.int s1, .int 1]) (wr := [((d0 37), aI cs 600 v_planTerm), ((d0 38), aI cs 600 v_planImpact), ((d0 39), aI cs 600 v_planSize)]) (m_X9_fails Lx Dx cs h0 d0 v_thrown v_taped v_at v_documents v_terms v_latest v_filed v_drafted v_place v_over v_clock v_askedTerms v_segments v_done v_postingsDone v_postingsAll v_why v_hits s1 1 _ h) [0] [1, 2, 3] rfl rfl (by decide) (by decide) (by decide) wM_X9_93 wb_X9_fails hy_X9_fails (q0 := 0) rfl rfl rfl ⟨Nat.le_of_ble_eq_true rfl, Nat.le_of_ble_eq_true rfl⟩ (Nat.le_of_ble_eq_true rfl) hkm hnm rfl dX9_plan_35 (fun v w1 hw => ?_) [] rfl (fun _ _ h => h.elim)
  obtain ⟨r_2, v_thrown_3, rfl, rfl, h⟩ := hw
  refine a_ws (st1 := [.int r_2]) (ws1 := [(h0, oX9 d0 v_thrown_3 v_taped v_at v_documents v_terms v_latest v_filed v_drafted v_place v_over v_clock v_askedTerms v_segments v_done v_postingsDone v_postingsAll v_why v_hits), ((d0 37), aI cs 600 v_planTerm), ((d0 38), aI cs 600 v_planImpact), ((d0 39), aI cs 600 v_planSize)]) k n9 38 [3, 0, 1, 2] rfl rfl rfl rfl (by decide) rfl ?_
  refine a_if_eq C (pc := 38) 43 dX9_plan_38 (by decide) (fun hc => ?_) (fun hc => ?_)
  · have h := h.1 hc
    refine a_iload_n C (pc := 43) 2 dX9_plan_43 rfl rfl ?_
    refine a_if_ne C (pc := 44) 56 dX9_plan_44 (by decide) (fun hc => ?_) (fun hc => ?_)
    · have h := h.1 hc
      refine a_iload_n C (pc := 56) 2 dX9_plan_56 rfl rfl ?_
      refine a_iconst C (pc := 57) dX9_plan_57 ic_1 ?_
      refine a_icmp_ne C (pc := 58) 70 dX9_plan_58 (by decide) (fun hc => ?_) (fun hc => ?_)
      · have h := h.1 hc
        refine a_aload_n C (pc := 70) 0 dX9_plan_70 rfl rfl ?_
        refine a_get C (pc := 71) 0 39 inW_X9 rfl rfl (Nat.le_of_ble_eq_true rfl) wF_X9_74 rfl rfl dX9_plan_71 ?_
        refine a_iload_n C (pc := 74) 1 dX9_plan_74 rfl rfl ?_
        refine a_iald C (pc := 75) 3 rfl h.1 dX9_plan_75 ?_
        replace h := h.2
        exact a_ireturn C (pc := 76) rfl dX9_plan_76 hkm hnm ⟨_, _, rfl, rfl, h⟩
      · have h := h.2 hc
        refine a_aload_n C (pc := 61) 0 dX9_plan_61 rfl rfl ?_
        refine a_get C (pc := 62) 0 38 inW_X9 rfl rfl (Nat.le_of_ble_eq_true rfl) wF_X9_71 rfl rfl dX9_plan_62 ?_
        refine a_iload_n C (pc := 65) 1 dX9_plan_65 rfl rfl ?_
        refine a_iald C (pc := 66) 2 rfl h.1 dX9_plan_66 ?_
        replace h := h.2
        refine a_goto C (pc := 67) 76 dX9_plan_67 (by decide) ?_
        exact a_ireturn C (pc := 76) rfl dX9_plan_76 hkm hnm ⟨_, _, rfl, rfl, h⟩
    · have h := h.2 hc
      refine a_aload_n C (pc := 47) 0 dX9_plan_47 rfl rfl ?_
      refine a_get C (pc := 48) 0 37 inW_X9 rfl rfl (Nat.le_of_ble_eq_true rfl) wF_X9_68 rfl rfl dX9_plan_48 ?_
      refine a_iload_n C (pc := 51) 1 dX9_plan_51 rfl rfl ?_
      refine a_iald C (pc := 52) 1 rfl h.1 dX9_plan_52 ?_
      replace h := h.2
      refine a_goto C (pc := 53) 76 dX9_plan_53 (by decide) ?_
      exact a_ireturn C (pc := 76) rfl dX9_plan_76 hkm hnm ⟨_, _, rfl, rfl, h⟩
  · have h := h.2 hc
    refine a_iconst C (pc := 41) dX9_plan_41 ic_0 ?_
    exact a_ireturn C (pc := 42) rfl dX9_plan_42 hkm hnm ⟨_, _, rfl, rfl, h⟩
set_option maxRecDepth 100000 in
set_option maxHeartbeats 4000000 in
theorem w_X9_plan_29 {Γ : XG} {Lx : Launch} {Dx : va_G} {cs : Nat → ClassId} {h0 : Nat} {d0 : Nat → Nat} {v_taped : Int32} {v_at : Int32} {v_documents : Int32} {v_terms : Int32} {v_latest : Int32} {v_filed : Int32} {v_drafted : Int32} {v_place : Int32} {v_over : Int32} {v_clock : Int64} {v_askedTerms : Int32} {v_segments : Int32} {v_done : Int32} {v_postingsDone : Int32} {v_postingsAll : Int32} {v_why : Int32} {v_hits : Int32} {v_planTerm : Nat → Int32} {v_planImpact : Nat → Int32} {v_planSize : Nat → Int32} {Φ : Int32 → Int32 → Prop} {k n9 : Nat} (C : CX Γ Lx Dx cs cX9_plan RX9 "plan" 3 (some .int) 1 25 0 0 (qEC cs 0 0 [] (R_X9_plan cs h0 d0 v_taped v_at v_documents v_terms v_latest v_filed v_drafted v_place v_over v_clock v_askedTerms v_segments v_done v_postingsDone v_postingsAll v_why v_hits v_planTerm v_planImpact v_planSize Φ) (fun _ _ => False))) (hkm : k ≤ 0) (hnm : n9 ≤ 0) (v_thrown : Int32) (l1 : Int32) (l2 : Int32) (h : J_X9_plan_29 v_thrown v_segments v_planTerm v_planImpact v_planSize l1 l2 Φ) : AW Γ k n9 29 [(0, .ref h0), (1, .int l1), (2, .int l2)] [.ref h0] [(h0, oX9 d0 v_thrown v_taped v_at v_documents v_terms v_latest v_filed v_drafted v_place v_over v_clock v_askedTerms v_segments v_done v_postingsDone v_postingsAll v_why v_hits), ((d0 37), aI cs 600 v_planTerm), ((d0 38), aI cs 600 v_planImpact), ((d0 39), aI cs 600 v_planSize)] := by
  unfold J_X9_plan_29 at h
  refine a_iconst C (pc := 29) dX9_plan_29 ic_1 ?_
  refine a_goto C (pc := 30) 34 dX9_plan_30 (by decide) ?_
  exact w_X9_plan_34 C hkm hnm v_thrown l1 l2 1 h
set_option maxRecDepth 100000 in
set_option maxHeartbeats 4000000 in
theorem m_X9_plan (Lx : Launch) (Dx : va_G) (cs : Nat → ClassId) (h0 : Nat) (d0 : Nat → Nat) (v_thrown : Int32) (v_taped : Int32) (v_at : Int32) (v_documents : Int32) (v_terms : Int32) (v_latest : Int32) (v_filed : Int32) (v_drafted : Int32) (v_place : Int32) (v_over : Int32) (v_clock : Int64) (v_askedTerms : Int32) (v_segments : Int32) (v_done : Int32) (v_postingsDone : Int32) (v_postingsAll : Int32) (v_why : Int32) (v_hits : Int32) (v_planTerm : Nat → Int32) (v_planImpact : Nat → Int32) (v_planSize : Nat → Int32) (l1 : Int32) (l2 : Int32) (Φ : Int32 → Int32 → Prop) (h : P_X9_plan v_thrown v_segments v_planTerm v_planImpact v_planSize l1 l2 Φ) : XMet Lx Dx cs yX9_plan cX9_plan 3 (some .int) 1 25 0 0 [.ref h0, .int l1, .int l2] [(h0, oX9 d0 v_thrown v_taped v_at v_documents v_terms v_latest v_filed v_drafted v_place v_over v_clock v_askedTerms v_segments v_done v_postingsDone v_postingsAll v_why v_hits), ((d0 37), aI cs 600 v_planTerm), ((d0 38), aI cs 600 v_planImpact), ((d0 39), aI cs 600 v_planSize)] (R_X9_plan cs h0 d0 v_taped v_at v_documents v_terms v_latest v_filed v_drafted v_place v_over v_clock v_askedTerms v_segments v_done v_postingsDone v_postingsAll v_why v_hits v_planTerm v_planImpact v_planSize Φ) (fun _ _ => False) := by
  refine XMet.of (own := RX9) (nm := "plan") (by decide) rfl rfl (Nat.le_of_ble_eq_true rfl) (fun Γ C => ?_)
  unfold P_X9_plan at h
  refine a_aload_n C (pc := 0) 0 dX9_plan_0 rfl rfl ?_
  refine a_iload_n C (pc := 1) 1 dX9_plan_1 rfl rfl ?_
  refine a_i2l C (pc := 2) dX9_plan_2 ?_
  refine a_lconst C (pc := 3) (v := 0) dX9_plan_3 rfl ?_
  refine a_aload_n C (pc := 4) 0 dX9_plan_4 rfl rfl ?_
  refine a_get C (pc := 5) 0 31 inW_X9 rfl rfl (Nat.le_of_ble_eq_true rfl) wF_X9_296 rfl rfl dX9_plan_5 ?_
  refine a_iconst C (pc := 8) dX9_plan_8 ic_1 ?_
  refine a_isub C (pc := 9) dX9_plan_9 ?_
  refine a_i2l C (pc := 10) dX9_plan_10 ?_
  refine a_callS C (pc := 11) (av := [.long ((l1 : Int32).toInt64), .long 0, .long (((v_segments - 1) : Int32).toInt64)]) (wr := [(h0, oX9 d0 v_thrown v_taped v_at v_documents v_terms v_latest v_filed v_drafted v_place v_over v_clock v_askedTerms v_segments v_done v_postingsDone v_postingsAll v_why v_hits), ((d0 37), aI cs 600 v_planTerm), ((d0 38), aI cs 600 v_planImpact), ((d0 39), aI cs 600 v_planSize)]) (m_X9_within Lx Dx cs ((l1 : Int32).toInt64) 0 (((v_segments - 1) : Int32).toInt64) _ h) [] [0, 1, 2, 3] rfl rfl (by decide) (by decide) (by decide) wM_X9_89 wb_X9_within hy_X9_within rfl ⟨Nat.le_of_ble_eq_true rfl, Nat.le_of_ble_eq_true rfl⟩ (Nat.le_of_ble_eq_true rfl) (Nat.le_of_ble_eq_true rfl) (Nat.le_of_ble_eq_true rfl) rfl dX9_plan_11 (fun v w1 hw => ?_) [] rfl (fun _ _ h => h.elim)
  obtain ⟨r_1, rfl, rfl, h⟩ := hw
  refine a_ws (st1 := [.int r_1, .ref h0]) (ws1 := [(h0, oX9 d0 v_thrown v_taped v_at v_documents v_terms v_latest v_filed v_drafted v_place v_over v_clock v_askedTerms v_segments v_done v_postingsDone v_postingsAll v_why v_hits), ((d0 37), aI cs 600 v_planTerm), ((d0 38), aI cs 600 v_planImpact), ((d0 39), aI cs 600 v_planSize)]) 0 0 14 [0, 1, 2, 3] rfl rfl rfl rfl (by decide) rfl ?_
  refine a_if_eq C (pc := 14) 29 dX9_plan_14 (by decide) (fun hc => ?_) (fun hc => ?_)
  · have h := h.1 hc
    exact w_X9_plan_29 C (Nat.le_of_ble_eq_true rfl) (Nat.le_of_ble_eq_true rfl) v_thrown l1 l2 h
  · have h := h.2 hc
    refine a_iload_n C (pc := 17) 2 dX9_plan_17 rfl rfl ?_
    refine a_i2l C (pc := 18) dX9_plan_18 ?_
    refine a_lconst C (pc := 19) (v := 0) dX9_plan_19 rfl ?_
    refine a_ldc2 C (pc := 20) wC_X9_211 dX9_plan_20 ?_
    refine a_callS C (pc := 23) (av := [.long ((l2 : Int32).toInt64), .long 0, .long 2]) (wr := [(h0, oX9 d0 v_thrown v_taped v_at v_documents v_terms v_latest v_filed v_drafted v_place v_over v_clock v_askedTerms v_segments v_done v_postingsDone v_postingsAll v_why v_hits), ((d0 37), aI cs 600 v_planTerm), ((d0 38), aI cs 600 v_planImpact), ((d0 39), aI cs 600 v_planSize)]) (m_X9_within Lx Dx cs ((l2 : Int32).toInt64) 0 2 _ h) [] [0, 1, 2, 3] rfl rfl (by decide) (by decide) (by decide) wM_X9_89 wb_X9_within hy_X9_within rfl ⟨Nat.le_of_ble_eq_true rfl, Nat.le_of_ble_eq_true rfl⟩ (Nat.le_of_ble_eq_true rfl) (Nat.le_of_ble_eq_true rfl) (Nat.le_of_ble_eq_true rfl) rfl dX9_plan_23 (fun v w1 hw => ?_) [] rfl (fun _ _ h => h.elim)
    obtain ⟨r_4, rfl, rfl, h⟩ := hw
    refine a_ws (st1 := [.int r_4, .ref h0]) (ws1 := [(h0, oX9 d0 v_thrown v_taped v_at v_documents v_terms v_latest v_filed v_drafted v_place v_over v_clock v_askedTerms v_segments v_done v_postingsDone v_postingsAll v_why v_hits), ((d0 37), aI cs 600 v_planTerm), ((d0 38), aI cs 600 v_planImpact), ((d0 39), aI cs 600 v_planSize)]) 0 0 26 [0, 1, 2, 3] rfl rfl rfl rfl (by decide) rfl ?_
    refine a_if_ne C (pc := 26) 33 dX9_plan_26 (by decide) (fun hc => ?_) (fun hc => ?_)
    · have h := h.1 hc
      refine a_iconst C (pc := 33) dX9_plan_33 ic_0 ?_
      exact w_X9_plan_34 C (Nat.le_of_ble_eq_true rfl) (Nat.le_of_ble_eq_true rfl) v_thrown l1 l2 0 h
    · have h := h.2 hc
      exact w_X9_plan_29 C (Nat.le_of_ble_eq_true rfl) (Nat.le_of_ble_eq_true rfl) v_thrown l1 l2 h
set_option maxRecDepth 100000 in
set_option maxHeartbeats 4000000 in
theorem m_X9_exhaustive (Lx : Launch) (Dx : va_G) (cs : Nat → ClassId) (h0 : Nat) (d0 : Nat → Nat) (v_thrown : Int32) (v_taped : Int32) (v_at : Int32) (v_documents : Int32) (v_terms : Int32) (v_latest : Int32) (v_filed : Int32) (v_drafted : Int32) (v_place : Int32) (v_over : Int32) (v_clock : Int64) (v_askedTerms : Int32) (v_segments : Int32) (v_done : Int32) (v_postingsDone : Int32) (v_postingsAll : Int32) (v_why : Int32) (v_hits : Int32) (Φ : Int32 → Int32 → Prop) (h : P_X9_exhaustive v_thrown Φ) : XMet Lx Dx cs yX9_exhaustive cX9_exhaustive 1 (some .boolean) 0 0 0 0 [.ref h0] [(h0, oX9 d0 v_thrown v_taped v_at v_documents v_terms v_latest v_filed v_drafted v_place v_over v_clock v_askedTerms v_segments v_done v_postingsDone v_postingsAll v_why v_hits)] (R_X9_exhaustive cs h0 d0 v_taped v_at v_documents v_terms v_latest v_filed v_drafted v_place v_over v_clock v_askedTerms v_segments v_done v_postingsDone v_postingsAll v_why v_hits Φ) (fun _ _ => False) := by
  refine XMet.of (own := RX9) (nm := "exhaustive") (by decide) rfl rfl (Nat.le_of_ble_eq_true rfl) (fun Γ C => ?_)
  unfold P_X9_exhaustive at h
  refine a_aload_n C (pc := 0) 0 dX9_exhaustive_0 rfl rfl ?_
  refine a_iconst C (pc := 1) dX9_exhaustive_1 ic_0 ?_
  refine a_put C (pc := 2) (ws1 := [(h0, oX9 d0 0 v_taped v_at v_documents v_terms v_latest v_filed v_drafted v_place v_over v_clock v_askedTerms v_segments v_done v_postingsDone v_postingsAll v_why v_hits)]) 0 0 inW_X9 tyX9 tyX9_ok nmX9 rfl rfl (Nat.le_of_ble_eq_true rfl) wF_X9_83 rfl rfl rfl rfl rfl (Nat.le_of_ble_eq_true rfl) dX9_exhaustive_2 rfl ?_
  refine a_iconst C (pc := 5) dX9_exhaustive_5 ic_1 ?_
  exact a_zreturn C (pc := 6) rfl rfl dX9_exhaustive_6 (Nat.le_of_ble_eq_true rfl) (Nat.le_of_ble_eq_true rfl) ⟨_, _, rfl, rfl, h⟩
set_option maxRecDepth 100000 in
set_option maxHeartbeats 4000000 in
theorem w_X9_look_18 {Γ : XG} {Lx : Launch} {Dx : va_G} {cs : Nat → ClassId} {h0 : Nat} {d0 : Nat → Nat} {v_taped : Int32} {v_at : Int32} {v_documents : Int32} {v_terms : Int32} {v_latest : Int32} {v_filed : Int32} {v_clock : Int64} {v_askedTerms : Int32} {v_segments : Int32} {v_done : Int32} {v_postingsDone : Int32} {v_postingsAll : Int32} {v_why : Int32} {v_hits : Int32} {v_file : Nat → Int32} {v_kept : Nat → Int32} {Φ : Int32 → Int32 → Int32 → Int32 → Int32 → (Nat → Int32) → (Nat → Int32) → (Nat → Int32) → (Nat → Int32) → (Nat → Int32) → (Nat → Int32) → (Nat → Int32) → (Nat → Int32) → (Nat → Int32) → Prop} {k n9 : Nat} (C : CX Γ Lx Dx cs cX9_look RX9 "look" 2 (some .int) 5 127 0 0 (qEC cs 0 0 [] (R_X9_look cs h0 d0 v_taped v_at v_documents v_terms v_latest v_filed v_clock v_askedTerms v_segments v_done v_postingsDone v_postingsAll v_why v_hits v_file v_kept Φ) (fun _ _ => False))) (hkm : k ≤ 0) (hnm : n9 ≤ 0) (v_thrown : Int32) (v_drafted : Int32) (v_place : Int32) (v_over : Int32) (v_bits : Nat → Int32) (v_codec : Nat → Int32) (v_size : Nat → Int32) (v_words : Nat → Int32) (v_impact : Nat → Int32) (v_letter : Nat → Int32) (v_word : Nat → Int32) (v_gap : Nat → Int32) (v_draft : Nat → Int32) (l1 : Int32) (s1 : Int32) (h : J_X9_look_18 v_thrown v_taped v_latest v_filed v_drafted v_place v_over v_file v_bits v_codec v_size v_words v_impact v_letter v_word v_gap v_draft v_kept l1 s1 Φ) : AW Γ k n9 18 [(0, .ref h0), (1, .int l1)] [.int s1, .ref h0] [(h0, oX9 d0 v_thrown v_taped v_at v_documents v_terms v_latest v_filed v_drafted v_place v_over v_clock v_askedTerms v_segments v_done v_postingsDone v_postingsAll v_why v_hits), ((d0 21), aI cs 16000 v_file), ((d0 11), aI cs 5 v_bits), ((d0 12), aI cs 5 v_codec), ((d0 13), aI cs 5 v_size), ((d0 14), aI cs 5 v_words), ((d0 16), aI cs 12800 v_impact), ((d0 15), aI cs 2560 v_letter), ((d0 3), aI cs 8 v_word), ((d0 27), aI cs 40 v_gap), ((d0 22), aI cs 16000 v_draft), ((d0 18), aZ cs 5 v_kept)] := by
  unfold J_X9_look_18 at h
  refine a_iconst C (pc := 18) dX9_look_18 ic_1 ?_
  refine a_callV C (pc := 19) (av := [.int s1, .int 1]) (wr := [((d0 21), aI cs 16000 v_file), ((d0 11), aI cs 5 v_bits), ((d0 12), aI cs 5 v_codec), ((d0 13), aI cs 5 v_size), ((d0 14), aI cs 5 v_words), ((d0 16), aI cs 12800 v_impact), ((d0 15), aI cs 2560 v_letter), ((d0 3), aI cs 8 v_word), ((d0 27), aI cs 40 v_gap), ((d0 22), aI cs 16000 v_draft), ((d0 18), aZ cs 5 v_kept)]) (m_X9_fails Lx Dx cs h0 d0 v_thrown v_taped v_at v_documents v_terms v_latest v_filed v_drafted v_place v_over v_clock v_askedTerms v_segments v_done v_postingsDone v_postingsAll v_why v_hits s1 1 _ h) [0] [1, 2, 3, 4, 5, 6, 7, 8, 9, 10, 11] rfl rfl (by decide) (by decide) (by decide) wM_X9_93 wb_X9_fails hy_X9_fails (q0 := 0) rfl rfl rfl ⟨Nat.le_of_ble_eq_true rfl, Nat.le_of_ble_eq_true rfl⟩ (Nat.le_of_ble_eq_true rfl) hkm hnm rfl dX9_look_19 (fun v w1 hw => ?_) [] rfl (fun _ _ h => h.elim)
  obtain ⟨r_2, v_thrown_3, rfl, rfl, h⟩ := hw
  refine a_ws (st1 := [.int r_2]) (ws1 := [(h0, oX9 d0 v_thrown_3 v_taped v_at v_documents v_terms v_latest v_filed v_drafted v_place v_over v_clock v_askedTerms v_segments v_done v_postingsDone v_postingsAll v_why v_hits), ((d0 21), aI cs 16000 v_file), ((d0 11), aI cs 5 v_bits), ((d0 12), aI cs 5 v_codec), ((d0 13), aI cs 5 v_size), ((d0 14), aI cs 5 v_words), ((d0 16), aI cs 12800 v_impact), ((d0 15), aI cs 2560 v_letter), ((d0 3), aI cs 8 v_word), ((d0 27), aI cs 40 v_gap), ((d0 22), aI cs 16000 v_draft), ((d0 18), aZ cs 5 v_kept)]) k n9 22 [11, 0, 1, 2, 3, 4, 5, 6, 7, 8, 9, 10] rfl rfl rfl rfl (by decide) rfl ?_
  refine a_if_eq C (pc := 22) 27 dX9_look_22 (by decide) (fun hc => ?_) (fun hc => ?_)
  · have h := h.1 hc
    refine a_iload_n C (pc := 27) 1 dX9_look_27 rfl rfl ?_
    by_cases hc0 : l1 = 0
    · have h := h.1 hc0
      refine a_tableIn C (pc := 28) 60 dX9_look_28 (by rw [hc0]; decide) (by rw [hc0]; decide) (by rw [hc0]; rfl) (by decide) ?_
      refine a_aload_n C (pc := 60) 0 dX9_look_60 rfl rfl ?_
      refine a_get C (pc := 61) 0 19 inW_X9 rfl rfl (Nat.le_of_ble_eq_true rfl) wF_X9_257 rfl rfl dX9_look_61 ?_
      exact a_ireturn C (pc := 64) rfl dX9_look_64 hkm hnm ⟨_, _, _, _, _, _, _, _, _, _, _, _, _, _, rfl, rfl, h⟩
    · by_cases hc1 : l1 = 1
      · have h := h.2.1 hc1
        refine a_tableIn C (pc := 28) 65 dX9_look_28 (by rw [hc1]; decide) (by rw [hc1]; decide) (by rw [hc1]; rfl) (by decide) ?_
        refine a_aload_n C (pc := 65) 0 dX9_look_65 rfl rfl ?_
        refine a_callV C (pc := 66) (av := []) (wr := [((d0 21), aI cs 16000 v_file), ((d0 11), aI cs 5 v_bits), ((d0 12), aI cs 5 v_codec), ((d0 13), aI cs 5 v_size), ((d0 14), aI cs 5 v_words), ((d0 16), aI cs 12800 v_impact), ((d0 15), aI cs 2560 v_letter), ((d0 3), aI cs 8 v_word), ((d0 27), aI cs 40 v_gap), ((d0 22), aI cs 16000 v_draft)]) (m_X9_keptMany Lx Dx cs h0 d0 v_thrown_3 v_taped v_at v_documents v_terms v_latest v_filed v_drafted v_place v_over v_clock v_askedTerms v_segments v_done v_postingsDone v_postingsAll v_why v_hits v_kept _ h) [0, 11] [1, 2, 3, 4, 5, 6, 7, 8, 9, 10] rfl rfl (by decide) (by decide) (by decide) wM_X9_266 wb_X9_keptMany hy_X9_keptMany (q0 := 0) rfl rfl rfl ⟨Nat.le_of_ble_eq_true rfl, Nat.le_of_ble_eq_true rfl⟩ (Nat.le_of_ble_eq_true rfl) hkm hnm rfl dX9_look_66 (fun v w1 hw => ?_) [] rfl (fun _ _ h => h.elim)
        obtain ⟨r_4, rfl, rfl, h⟩ := hw
        refine a_ws (st1 := [.int r_4]) (ws1 := [(h0, oX9 d0 v_thrown_3 v_taped v_at v_documents v_terms v_latest v_filed v_drafted v_place v_over v_clock v_askedTerms v_segments v_done v_postingsDone v_postingsAll v_why v_hits), ((d0 21), aI cs 16000 v_file), ((d0 11), aI cs 5 v_bits), ((d0 12), aI cs 5 v_codec), ((d0 13), aI cs 5 v_size), ((d0 14), aI cs 5 v_words), ((d0 16), aI cs 12800 v_impact), ((d0 15), aI cs 2560 v_letter), ((d0 3), aI cs 8 v_word), ((d0 27), aI cs 40 v_gap), ((d0 22), aI cs 16000 v_draft), ((d0 18), aZ cs 5 v_kept)]) k n9 69 [10, 0, 1, 2, 3, 4, 5, 6, 7, 8, 9, 11] rfl rfl rfl rfl (by decide) rfl ?_
        exact a_ireturn C (pc := 69) rfl dX9_look_69 hkm hnm ⟨_, _, _, _, _, _, _, _, _, _, _, _, _, _, rfl, rfl, h⟩
      · by_cases hc2 : l1 = 2
        · have h := h.2.2.1 hc2
          refine a_tableIn C (pc := 28) 70 dX9_look_28 (by rw [hc2]; decide) (by rw [hc2]; decide) (by rw [hc2]; rfl) (by decide) ?_
          refine a_aload_n C (pc := 70) 0 dX9_look_70 rfl rfl ?_
          refine a_get C (pc := 71) 0 23 inW_X9 rfl rfl (Nat.le_of_ble_eq_true rfl) wF_X9_219 rfl rfl dX9_look_71 ?_
          exact a_ireturn C (pc := 74) rfl dX9_look_74 hkm hnm ⟨_, _, _, _, _, _, _, _, _, _, _, _, _, _, rfl, rfl, h⟩
        · by_cases hc3 : l1 = 3
          · have h := h.2.2.2.1 hc3
            refine a_tableIn C (pc := 28) 75 dX9_look_28 (by rw [hc3]; decide) (by rw [hc3]; decide) (by rw [hc3]; rfl) (by decide) ?_
            refine a_aload_n C (pc := 75) 0 dX9_look_75 rfl rfl ?_
            refine a_callV C (pc := 76) (av := []) (wr := [((d0 18), aZ cs 5 v_kept)]) (m_X9_reads Lx Dx cs h0 d0 v_thrown_3 v_taped v_at v_documents v_terms v_latest v_filed v_drafted v_place v_over v_clock v_askedTerms v_segments v_done v_postingsDone v_postingsAll v_why v_hits v_file v_bits v_codec v_size v_words v_impact v_letter v_word v_gap v_draft _ h) [0, 1, 2, 3, 4, 5, 6, 7, 8, 9, 10] [11] rfl rfl (by decide) (by decide) (by decide) wM_X9_253 wb_X9_reads hy_X9_reads (q0 := 0) rfl rfl rfl ⟨Nat.le_of_ble_eq_true rfl, Nat.le_of_ble_eq_true rfl⟩ (Nat.le_of_ble_eq_true rfl) hkm hnm rfl dX9_look_76 (fun v w1 hw => ?_) [] rfl (fun _ _ h => h.elim)
            obtain ⟨r_5, v_drafted_6, v_place_7, v_over_8, v_bits_9, v_codec_10, v_size_11, v_words_12, v_impact_13, v_letter_14, v_word_15, v_gap_16, v_draft_17, rfl, rfl, h⟩ := hw
            refine a_ws (st1 := [.int r_5]) (ws1 := [(h0, oX9 d0 v_thrown_3 v_taped v_at v_documents v_terms v_latest v_filed v_drafted_6 v_place_7 v_over_8 v_clock v_askedTerms v_segments v_done v_postingsDone v_postingsAll v_why v_hits), ((d0 21), aI cs 16000 v_file), ((d0 11), aI cs 5 v_bits_9), ((d0 12), aI cs 5 v_codec_10), ((d0 13), aI cs 5 v_size_11), ((d0 14), aI cs 5 v_words_12), ((d0 16), aI cs 12800 v_impact_13), ((d0 15), aI cs 2560 v_letter_14), ((d0 3), aI cs 8 v_word_15), ((d0 27), aI cs 40 v_gap_16), ((d0 22), aI cs 16000 v_draft_17), ((d0 18), aZ cs 5 v_kept)]) k n9 79 [1, 2, 3, 4, 5, 6, 7, 8, 9, 10, 11, 0] rfl rfl rfl rfl (by decide) rfl ?_
            refine a_if_eq C (pc := 79) 86 dX9_look_79 (by decide) (fun hc => ?_) (fun hc => ?_)
            · have h := h.1 hc
              refine a_iconst C (pc := 86) dX9_look_86 ic_0 ?_
              exact a_ireturn C (pc := 87) rfl dX9_look_87 hkm hnm ⟨_, _, _, _, _, _, _, _, _, _, _, _, _, _, rfl, rfl, h⟩
            · have h := h.2 hc
              refine a_iconst C (pc := 82) dX9_look_82 ic_1 ?_
              refine a_goto C (pc := 83) 87 dX9_look_83 (by decide) ?_
              exact a_ireturn C (pc := 87) rfl dX9_look_87 hkm hnm ⟨_, _, _, _, _, _, _, _, _, _, _, _, _, _, rfl, rfl, h⟩
          · have h := h.2.2.2.2 hc0 hc1 hc2 hc3
            refine a_tableOut C (pc := 28) 88 dX9_look_28 (swo_3 hc0 hc1 hc2 hc3) (by decide) ?_
            refine a_aload_n C (pc := 88) 0 dX9_look_88 rfl rfl ?_
            refine a_get C (pc := 89) 0 2 inW_X9 rfl rfl (Nat.le_of_ble_eq_true rfl) wF_X9_97 rfl rfl dX9_look_89 ?_
            exact a_ireturn C (pc := 92) rfl dX9_look_92 hkm hnm ⟨_, _, _, _, _, _, _, _, _, _, _, _, _, _, rfl, rfl, h⟩
  · have h := h.2 hc
    refine a_iconst C (pc := 25) dX9_look_25 ic_0 ?_
    exact a_ireturn C (pc := 26) rfl dX9_look_26 hkm hnm ⟨_, _, _, _, _, _, _, _, _, _, _, _, _, _, rfl, rfl, h⟩
set_option maxRecDepth 100000 in
set_option maxHeartbeats 4000000 in
theorem m_X9_look (Lx : Launch) (Dx : va_G) (cs : Nat → ClassId) (h0 : Nat) (d0 : Nat → Nat) (v_thrown : Int32) (v_taped : Int32) (v_at : Int32) (v_documents : Int32) (v_terms : Int32) (v_latest : Int32) (v_filed : Int32) (v_drafted : Int32) (v_place : Int32) (v_over : Int32) (v_clock : Int64) (v_askedTerms : Int32) (v_segments : Int32) (v_done : Int32) (v_postingsDone : Int32) (v_postingsAll : Int32) (v_why : Int32) (v_hits : Int32) (v_file : Nat → Int32) (v_bits : Nat → Int32) (v_codec : Nat → Int32) (v_size : Nat → Int32) (v_words : Nat → Int32) (v_impact : Nat → Int32) (v_letter : Nat → Int32) (v_word : Nat → Int32) (v_gap : Nat → Int32) (v_draft : Nat → Int32) (v_kept : Nat → Int32) (l1 : Int32) (Φ : Int32 → Int32 → Int32 → Int32 → Int32 → (Nat → Int32) → (Nat → Int32) → (Nat → Int32) → (Nat → Int32) → (Nat → Int32) → (Nat → Int32) → (Nat → Int32) → (Nat → Int32) → (Nat → Int32) → Prop) (h : P_X9_look v_thrown v_taped v_latest v_filed v_drafted v_place v_over v_file v_bits v_codec v_size v_words v_impact v_letter v_word v_gap v_draft v_kept l1 Φ) : XMet Lx Dx cs yX9_look cX9_look 2 (some .int) 5 127 0 0 [.ref h0, .int l1] [(h0, oX9 d0 v_thrown v_taped v_at v_documents v_terms v_latest v_filed v_drafted v_place v_over v_clock v_askedTerms v_segments v_done v_postingsDone v_postingsAll v_why v_hits), ((d0 21), aI cs 16000 v_file), ((d0 11), aI cs 5 v_bits), ((d0 12), aI cs 5 v_codec), ((d0 13), aI cs 5 v_size), ((d0 14), aI cs 5 v_words), ((d0 16), aI cs 12800 v_impact), ((d0 15), aI cs 2560 v_letter), ((d0 3), aI cs 8 v_word), ((d0 27), aI cs 40 v_gap), ((d0 22), aI cs 16000 v_draft), ((d0 18), aZ cs 5 v_kept)] (R_X9_look cs h0 d0 v_taped v_at v_documents v_terms v_latest v_filed v_clock v_askedTerms v_segments v_done v_postingsDone v_postingsAll v_why v_hits v_file v_kept Φ) (fun _ _ => False) := by
  refine XMet.of (own := RX9) (nm := "look") (by decide) rfl rfl (Nat.le_of_ble_eq_true rfl) (fun Γ C => ?_)
  unfold P_X9_look at h
  refine a_aload_n C (pc := 0) 0 dX9_look_0 rfl rfl ?_
  refine a_iload_n C (pc := 1) 1 dX9_look_1 rfl rfl ?_
  refine a_i2l C (pc := 2) dX9_look_2 ?_
  refine a_lconst C (pc := 3) (v := 0) dX9_look_3 rfl ?_
  refine a_ldc2 C (pc := 4) wC_X9_319 dX9_look_4 ?_
  refine a_callS C (pc := 7) (av := [.long ((l1 : Int32).toInt64), .long 0, .long 4]) (wr := [(h0, oX9 d0 v_thrown v_taped v_at v_documents v_terms v_latest v_filed v_drafted v_place v_over v_clock v_askedTerms v_segments v_done v_postingsDone v_postingsAll v_why v_hits), ((d0 21), aI cs 16000 v_file), ((d0 11), aI cs 5 v_bits), ((d0 12), aI cs 5 v_codec), ((d0 13), aI cs 5 v_size), ((d0 14), aI cs 5 v_words), ((d0 16), aI cs 12800 v_impact), ((d0 15), aI cs 2560 v_letter), ((d0 3), aI cs 8 v_word), ((d0 27), aI cs 40 v_gap), ((d0 22), aI cs 16000 v_draft), ((d0 18), aZ cs 5 v_kept)]) (m_X9_within Lx Dx cs ((l1 : Int32).toInt64) 0 4 _ h) [] [0, 1, 2, 3, 4, 5, 6, 7, 8, 9, 10, 11] rfl rfl (by decide) (by decide) (by decide) wM_X9_89 wb_X9_within hy_X9_within rfl ⟨Nat.le_of_ble_eq_true rfl, Nat.le_of_ble_eq_true rfl⟩ (Nat.le_of_ble_eq_true rfl) (Nat.le_of_ble_eq_true rfl) (Nat.le_of_ble_eq_true rfl) rfl dX9_look_7 (fun v w1 hw => ?_) [] rfl (fun _ _ h => h.elim)
  obtain ⟨r_1, rfl, rfl, h⟩ := hw
  refine a_ws (st1 := [.int r_1, .ref h0]) (ws1 := [(h0, oX9 d0 v_thrown v_taped v_at v_documents v_terms v_latest v_filed v_drafted v_place v_over v_clock v_askedTerms v_segments v_done v_postingsDone v_postingsAll v_why v_hits), ((d0 21), aI cs 16000 v_file), ((d0 11), aI cs 5 v_bits), ((d0 12), aI cs 5 v_codec), ((d0 13), aI cs 5 v_size), ((d0 14), aI cs 5 v_words), ((d0 16), aI cs 12800 v_impact), ((d0 15), aI cs 2560 v_letter), ((d0 3), aI cs 8 v_word), ((d0 27), aI cs 40 v_gap), ((d0 22), aI cs 16000 v_draft), ((d0 18), aZ cs 5 v_kept)]) 0 0 10 [0, 1, 2, 3, 4, 5, 6, 7, 8, 9, 10, 11] rfl rfl rfl rfl (by decide) rfl ?_
  refine a_if_ne C (pc := 10) 17 dX9_look_10 (by decide) (fun hc => ?_) (fun hc => ?_)
  · have h := h.1 hc
    refine a_iconst C (pc := 17) dX9_look_17 ic_0 ?_
    exact w_X9_look_18 C (Nat.le_of_ble_eq_true rfl) (Nat.le_of_ble_eq_true rfl) v_thrown v_drafted v_place v_over v_bits v_codec v_size v_words v_impact v_letter v_word v_gap v_draft l1 0 h
  · have h := h.2 hc
    refine a_iconst C (pc := 13) dX9_look_13 ic_1 ?_
    refine a_goto C (pc := 14) 18 dX9_look_14 (by decide) ?_
    exact w_X9_look_18 C (Nat.le_of_ble_eq_true rfl) (Nat.le_of_ble_eq_true rfl) v_thrown v_drafted v_place v_over v_bits v_codec v_size v_words v_impact v_letter v_word v_gap v_draft l1 1 h
set_option maxRecDepth 100000 in
set_option maxHeartbeats 4000000 in
theorem m_X9_holds (Lx : Launch) (Dx : va_G) (cs : Nat → ClassId) (h0 : Nat) (d0 : Nat → Nat) (v_thrown : Int32) (v_taped : Int32) (v_at : Int32) (v_documents : Int32) (v_terms : Int32) (v_latest : Int32) (v_filed : Int32) (v_drafted : Int32) (v_place : Int32) (v_over : Int32) (v_clock : Int64) (v_askedTerms : Int32) (v_segments : Int32) (v_done : Int32) (v_postingsDone : Int32) (v_postingsAll : Int32) (v_why : Int32) (v_hits : Int32) (v_holds : Nat → Int32) (l1 : Int32) (Φ : Int32 → Int32 → Prop) (h : P_X9_holds v_thrown v_holds l1 Φ) : XMet Lx Dx cs yX9_holds cX9_holds 2 (some .int) 1 22 0 0 [.ref h0, .int l1] [(h0, oX9 d0 v_thrown v_taped v_at v_documents v_terms v_latest v_filed v_drafted v_place v_over v_clock v_askedTerms v_segments v_done v_postingsDone v_postingsAll v_why v_hits), ((d0 20), aI cs 4 v_holds)] (R_X9_holds cs h0 d0 v_taped v_at v_documents v_terms v_latest v_filed v_drafted v_place v_over v_clock v_askedTerms v_segments v_done v_postingsDone v_postingsAll v_why v_hits v_holds Φ) (fun _ _ => False) := by
  refine XMet.of (own := RX9) (nm := "holds") (by decide) rfl rfl (Nat.le_of_ble_eq_true rfl) (fun Γ C => ?_)
  unfold P_X9_holds at h
  refine a_aload_n C (pc := 0) 0 dX9_holds_0 rfl rfl ?_
  refine a_iload_n C (pc := 1) 1 dX9_holds_1 rfl rfl ?_
  refine a_callS C (pc := 2) (av := [.int l1]) (wr := [(h0, oX9 d0 v_thrown v_taped v_at v_documents v_terms v_latest v_filed v_drafted v_place v_over v_clock v_askedTerms v_segments v_done v_postingsDone v_postingsAll v_why v_hits), ((d0 20), aI cs 4 v_holds)]) (m_X9_noReader Lx Dx cs l1 _ h) [] [0, 1] rfl rfl (by decide) (by decide) (by decide) wM_X9_272 wb_X9_noReader hy_X9_noReader rfl ⟨Nat.le_of_ble_eq_true rfl, Nat.le_of_ble_eq_true rfl⟩ (Nat.le_of_ble_eq_true rfl) (Nat.le_of_ble_eq_true rfl) (Nat.le_of_ble_eq_true rfl) rfl dX9_holds_2 (fun v w1 hw => ?_) [] rfl (fun _ _ h => h.elim)
  obtain ⟨r_1, rfl, rfl, h⟩ := hw
  refine a_ws (st1 := [.int r_1, .ref h0]) (ws1 := [(h0, oX9 d0 v_thrown v_taped v_at v_documents v_terms v_latest v_filed v_drafted v_place v_over v_clock v_askedTerms v_segments v_done v_postingsDone v_postingsAll v_why v_hits), ((d0 20), aI cs 4 v_holds)]) 0 0 5 [0, 1] rfl rfl rfl rfl (by decide) rfl ?_
  refine a_iconst C (pc := 5) dX9_holds_5 ic_1 ?_
  refine a_callV C (pc := 6) (av := [.int r_1, .int 1]) (wr := [((d0 20), aI cs 4 v_holds)]) (m_X9_fails Lx Dx cs h0 d0 v_thrown v_taped v_at v_documents v_terms v_latest v_filed v_drafted v_place v_over v_clock v_askedTerms v_segments v_done v_postingsDone v_postingsAll v_why v_hits r_1 1 _ h) [0] [1] rfl rfl (by decide) (by decide) (by decide) wM_X9_93 wb_X9_fails hy_X9_fails (q0 := 0) rfl rfl rfl ⟨Nat.le_of_ble_eq_true rfl, Nat.le_of_ble_eq_true rfl⟩ (Nat.le_of_ble_eq_true rfl) (Nat.le_of_ble_eq_true rfl) (Nat.le_of_ble_eq_true rfl) rfl dX9_holds_6 (fun v w1 hw => ?_) [] rfl (fun _ _ h => h.elim)
  obtain ⟨r_2, v_thrown_3, rfl, rfl, h⟩ := hw
  refine a_ws (st1 := [.int r_2]) (ws1 := [(h0, oX9 d0 v_thrown_3 v_taped v_at v_documents v_terms v_latest v_filed v_drafted v_place v_over v_clock v_askedTerms v_segments v_done v_postingsDone v_postingsAll v_why v_hits), ((d0 20), aI cs 4 v_holds)]) 0 0 9 [1, 0] rfl rfl rfl rfl (by decide) rfl ?_
  refine a_if_eq C (pc := 9) 16 dX9_holds_9 (by decide) (fun hc => ?_) (fun hc => ?_)
  · have h := h.1 hc
    refine a_aload_n C (pc := 16) 0 dX9_holds_16 rfl rfl ?_
    refine a_get C (pc := 17) 0 20 inW_X9 rfl rfl (Nat.le_of_ble_eq_true rfl) wF_X9_53 rfl rfl dX9_holds_17 ?_
    refine a_iload_n C (pc := 20) 1 dX9_holds_20 rfl rfl ?_
    refine a_iald C (pc := 21) 1 rfl h.1 dX9_holds_21 ?_
    replace h := h.2
    exact a_ireturn C (pc := 22) rfl dX9_holds_22 (Nat.le_of_ble_eq_true rfl) (Nat.le_of_ble_eq_true rfl) ⟨_, _, rfl, rfl, h⟩
  · have h := h.2 hc
    refine a_iconst C (pc := 12) dX9_holds_12 ic_0 ?_
    refine a_goto C (pc := 13) 22 dX9_holds_13 (by decide) ?_
    exact a_ireturn C (pc := 22) rfl dX9_holds_22 (Nat.le_of_ble_eq_true rfl) (Nat.le_of_ble_eq_true rfl) ⟨_, _, rfl, rfl, h⟩
