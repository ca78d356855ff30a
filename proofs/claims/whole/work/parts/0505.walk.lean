set_option maxRecDepth 100000 in
set_option maxHeartbeats 4000000 in
theorem m_X8_query (Lx : Launch) (Dx : va_G) (cs : Nat → ClassId) (h0 : Nat) (hix : Nat) (hdr : Nat) (d0 : Nat → Nat) (d_words : Nat → Nat) (d_tape : Nat → Nat) (d_generations : Nat → Nat) (dix : Nat → Nat) (d_search : Nat → Nat) (v_ticks : Int64) (v_words_distinct : Int32) (v_words_total : Int32) (v_tape_size : Int32) (v_tape_place : Int32) (v_tape_row : Nat → Int32) (v_words_term : Nat → Int64) (v_words_times : Nat → Int32) (v_generations_latest : Int32) (v_generations_held : Nat → Int32) (v_generations_number : Nat → Int32) (v_generations_kept : Nat → Option Nat) (v_ix_bits : Int32) (v_ix_documents : Int32) (v_ix_terms : Int32) (v_ix_segments : Int32) (v_ix_postings : Int32) (v_ix_term : Nat → Int64) (v_search_pickedTerms : Int32) (v_search_terms : Int32) (v_search_segments : Int32) (v_search_doneSegments : Int32) (v_search_donePostings : Int32) (v_search_postings : Int32) (v_search_why : Int32) (v_search_hits : Int32) (v_search_picked : Nat → Int32) (v_search_impactOf : Nat → Int32) (v_ix_firstSegment : Nat → Int32) (v_ix_impact : Nat → Int32) (v_ix_firstPosting : Nat → Int32) (v_search_planImpact : Nat → Int32) (v_search_planSize : Nat → Int32) (v_search_planTerm : Nat → Int32) (v_search_planSegment : Nat → Int32) (v_ix_document : Nat → Int32) (v_search_sums : Nat → Int32) (v_search_hitDocument : Nat → Int32) (l1 : Int32) (l2 : Int32) (l3 : Int32) (l4 : Int64) (Φ : Int32 → Int64 → Int32 → Int32 → Int32 → (Nat → Int64) → (Nat → Int32) → Int32 → Int32 → Int32 → Int32 → Int32 → Int32 → Int32 → Int32 → (Nat → Int32) → (Nat → Int32) → (Nat → Int32) → (Nat → Int32) → (Nat → Int32) → (Nat → Int32) → (Nat → Int32) → (Nat → Int32) → Prop) (X : String → Int64 → Int32 → Int32 → Int32 → (Nat → Int64) → (Nat → Int32) → Int32 → Int32 → Int32 → Int32 → Int32 → Int32 → Int32 → Int32 → (Nat → Int32) → (Nat → Int32) → (Nat → Int32) → (Nat → Int32) → (Nat → Int32) → (Nat → Int32) → (Nat → Int32) → (Nat → Int32) → Prop) (h : P_X8_query d_generations hix v_ticks v_words_distinct v_words_total v_tape_size v_tape_row v_words_term v_words_times v_generations_held v_generations_number v_generations_kept v_ix_terms v_ix_term v_search_pickedTerms v_search_terms v_search_segments v_search_doneSegments v_search_donePostings v_search_postings v_search_why v_search_hits v_search_picked v_search_impactOf v_ix_firstSegment v_ix_impact v_ix_firstPosting v_search_planImpact v_search_planSize v_search_planTerm v_search_planSegment v_ix_document v_search_sums v_search_hitDocument l1 l2 l3 l4 Φ X) : XMet Lx Dx cs yX8_query cX8_query 7 (some .int) 7 117 3 18 [.ref h0, .int l1, .int l2, .int l3, .long l4] [(h0, oX8 d0 hdr v_ticks), ((d0 1), oX7 d_words v_words_distinct v_words_total), ((d0 0), oX0 d_tape v_tape_size v_tape_place), ((d_tape 0), aB cs 3000 v_tape_row), ((d_words 0), aJ cs 1500 v_words_term), ((d_words 1), aI cs 1500 v_words_times), ((d0 5), oX3 d_generations v_generations_latest), ((d_generations 3), aI cs 4 v_generations_held), ((d_generations 1), aI cs 3 v_generations_number), ((d_generations 0), aQ cs 3 v_generations_kept), (hix, oX4 dix v_ix_bits v_ix_documents v_ix_terms v_ix_segments v_ix_postings), ((dix 0), aJ cs 64 v_ix_term), ((d0 6), oX6 d_search v_search_pickedTerms v_search_terms v_search_segments v_search_doneSegments v_search_donePostings v_search_postings v_search_why v_search_hits), ((d_search 0), aI cs 8 v_search_picked), ((d_search 2), aI cs 320 v_search_impactOf), ((dix 1), aI cs 65 v_ix_firstSegment), ((dix 2), aI cs 600 v_ix_impact), ((dix 3), aI cs 601 v_ix_firstPosting), ((d_search 4), aI cs 320 v_search_planImpact), ((d_search 5), aI cs 320 v_search_planSize), ((d_search 3), aI cs 320 v_search_planTerm), ((d_search 1), aI cs 320 v_search_planSegment), ((dix 4), aI cs 600 v_ix_document), ((d_search 6), aI cs 40 v_search_sums), ((d_search 7), aI cs 40 v_search_hitDocument)] (R_X8_query cs h0 hix hdr d0 d_words d_tape d_generations dix d_search v_tape_place v_tape_row v_generations_latest v_generations_held v_generations_number v_generations_kept v_ix_bits v_ix_documents v_ix_terms v_ix_segments v_ix_postings v_ix_term v_ix_firstSegment v_ix_impact v_ix_firstPosting v_ix_document Φ) (Y_X8_query cs h0 hix hdr d0 d_words d_tape d_generations dix d_search v_tape_place v_tape_row v_generations_latest v_generations_held v_generations_number v_generations_kept v_ix_bits v_ix_documents v_ix_terms v_ix_segments v_ix_postings v_ix_term v_ix_firstSegment v_ix_impact v_ix_firstPosting v_ix_document X) := by
  refine XMet.of (own := RX8) (nm := "query") (by decide) rfl rfl (Nat.le_of_ble_eq_true rfl) (fun Γ C => ?_)
  unfold P_X8_query at h
  refine a_aload_n C (pc := 0) 0 dX8_query_0 rfl rfl ?_
  refine a_callV C (pc := 1) (av := []) (wr := [((d0 5), oX3 d_generations v_generations_latest), ((d_generations 3), aI cs 4 v_generations_held), ((d_generations 1), aI cs 3 v_generations_number), ((d_generations 0), aQ cs 3 v_generations_kept), (hix, oX4 dix v_ix_bits v_ix_documents v_ix_terms v_ix_segments v_ix_postings), ((dix 0), aJ cs 64 v_ix_term), ((d0 6), oX6 d_search v_search_pickedTerms v_search_terms v_search_segments v_search_doneSegments v_search_donePostings v_search_postings v_search_why v_search_hits), ((d_search 0), aI cs 8 v_search_picked), ((d_search 2), aI cs 320 v_search_impactOf), ((dix 1), aI cs 65 v_ix_firstSegment), ((dix 2), aI cs 600 v_ix_impact), ((dix 3), aI cs 601 v_ix_firstPosting), ((d_search 4), aI cs 320 v_search_planImpact), ((d_search 5), aI cs 320 v_search_planSize), ((d_search 3), aI cs 320 v_search_planTerm), ((d_search 1), aI cs 320 v_search_planSegment), ((dix 4), aI cs 600 v_ix_document), ((d_search 6), aI cs 40 v_search_sums), ((d_search 7), aI cs 40 v_search_hitDocument)]) (m_X8_readTape Lx Dx cs h0 hdr d0 d_words d_tape v_ticks v_words_distinct v_words_total v_tape_size v_tape_place v_tape_row v_words_term v_words_times _ h) [0, 1, 2, 3, 4, 5] [6, 7, 8, 9, 10, 11, 12, 13, 14, 15, 16, 17, 18, 19, 20, 21, 22, 23, 24] rfl rfl (by decide) (by decide) (by decide) wM_X8_80 wb_X8_readTape hy_X8_readTape (q0 := 0) rfl rfl rfl ⟨Nat.le_of_ble_eq_true rfl, Nat.le_of_ble_eq_true rfl⟩ (Nat.le_of_ble_eq_true rfl) (Nat.le_of_ble_eq_true rfl) (Nat.le_of_ble_eq_true rfl) rfl dX8_query_1 (fun v w1 hw => ?_) [] rfl (fun _ _ h => h.elim)
  obtain ⟨v_words_distinct_1, v_words_total_2, v_tape_size_3, v_words_term_4, v_words_times_5, rfl, rfl, h⟩ := hw
  refine a_ws (st1 := []) (ws1 := [(h0, oX8 d0 hdr v_ticks), ((d0 1), oX7 d_words v_words_distinct_1 v_words_total_2), ((d0 0), oX0 d_tape v_tape_size_3 v_tape_place), ((d_tape 0), aB cs 3000 v_tape_row), ((d_words 0), aJ cs 1500 v_words_term_4), ((d_words 1), aI cs 1500 v_words_times_5), ((d0 5), oX3 d_generations v_generations_latest), ((d_generations 3), aI cs 4 v_generations_held), ((d_generations 1), aI cs 3 v_generations_number), ((d_generations 0), aQ cs 3 v_generations_kept), (hix, oX4 dix v_ix_bits v_ix_documents v_ix_terms v_ix_segments v_ix_postings), ((dix 0), aJ cs 64 v_ix_term), ((d0 6), oX6 d_search v_search_pickedTerms v_search_terms v_search_segments v_search_doneSegments v_search_donePostings v_search_postings v_search_why v_search_hits), ((d_search 0), aI cs 8 v_search_picked), ((d_search 2), aI cs 320 v_search_impactOf), ((dix 1), aI cs 65 v_ix_firstSegment), ((dix 2), aI cs 600 v_ix_impact), ((dix 3), aI cs 601 v_ix_firstPosting), ((d_search 4), aI cs 320 v_search_planImpact), ((d_search 5), aI cs 320 v_search_planSize), ((d_search 3), aI cs 320 v_search_planTerm), ((d_search 1), aI cs 320 v_search_planSegment), ((dix 4), aI cs 600 v_ix_document), ((d_search 6), aI cs 40 v_search_sums), ((d_search 7), aI cs 40 v_search_hitDocument)]) 0 0 4 [19, 20, 21, 22, 23, 24, 0, 1, 2, 3, 4, 5, 6, 7, 8, 9, 10, 11, 12, 13, 14, 15, 16, 17, 18] rfl rfl rfl rfl (by decide) rfl ?_
  refine a_aload_n C (pc := 4) 0 dX8_query_4 rfl rfl ?_
  refine a_iload_n C (pc := 5) 1 dX8_query_5 rfl rfl ?_
  refine a_callV C (pc := 6) (av := [.int l1]) (wr := [(h0, oX8 d0 hdr v_ticks), ((d0 1), oX7 d_words v_words_distinct_1 v_words_total_2), ((d0 0), oX0 d_tape v_tape_size_3 v_tape_place), ((d_tape 0), aB cs 3000 v_tape_row), ((d_words 0), aJ cs 1500 v_words_term_4), ((d_words 1), aI cs 1500 v_words_times_5), ((d0 5), oX3 d_generations v_generations_latest), ((d_generations 3), aI cs 4 v_generations_held), ((d_generations 1), aI cs 3 v_generations_number), ((d_generations 0), aQ cs 3 v_generations_kept), (hix, oX4 dix v_ix_bits v_ix_documents v_ix_terms v_ix_segments v_ix_postings), ((dix 0), aJ cs 64 v_ix_term), ((d0 6), oX6 d_search v_search_pickedTerms v_search_terms v_search_segments v_search_doneSegments v_search_donePostings v_search_postings v_search_why v_search_hits), ((d_search 0), aI cs 8 v_search_picked), ((d_search 2), aI cs 320 v_search_impactOf), ((dix 1), aI cs 65 v_ix_firstSegment), ((dix 2), aI cs 600 v_ix_impact), ((dix 3), aI cs 601 v_ix_firstPosting), ((d_search 4), aI cs 320 v_search_planImpact), ((d_search 5), aI cs 320 v_search_planSize), ((d_search 3), aI cs 320 v_search_planTerm), ((d_search 1), aI cs 320 v_search_planSegment), ((dix 4), aI cs 600 v_ix_document), ((d_search 6), aI cs 40 v_search_sums), ((d_search 7), aI cs 40 v_search_hitDocument)]) (m_X8_requireReader Lx Dx cs h0 l1 _ _ h) [] [0, 1, 2, 3, 4, 5, 6, 7, 8, 9, 10, 11, 12, 13, 14, 15, 16, 17, 18, 19, 20, 21, 22, 23, 24] rfl rfl (by decide) (by decide) (by decide) wM_X8_165 wb_X8_requireReader hy_X8_requireReader (q0 := 0) rfl rfl rfl ⟨Nat.le_of_ble_eq_true rfl, Nat.le_of_ble_eq_true rfl⟩ (Nat.le_of_ble_eq_true rfl) (Nat.le_of_ble_eq_true rfl) (Nat.le_of_ble_eq_true rfl) rfl dX8_query_6 (fun v w1 hw => ?_) [0, 1, 2, 3, 4, 5, 6, 7, 8, 9, 10, 11, 12, 13, 14, 15, 16, 17, 18, 19, 20, 21, 22, 23, 24] (by decide) (fun E w1 hx => by obtain ⟨rfl, hx⟩ := hx; exact ⟨[(h0, oX8 d0 hdr v_ticks), ((d0 1), oX7 d_words v_words_distinct_1 v_words_total_2), ((d0 0), oX0 d_tape v_tape_size_3 v_tape_place), ((d_tape 0), aB cs 3000 v_tape_row), ((d_words 0), aJ cs 1500 v_words_term_4), ((d_words 1), aI cs 1500 v_words_times_5), ((d0 5), oX3 d_generations v_generations_latest), ((d_generations 3), aI cs 4 v_generations_held), ((d_generations 1), aI cs 3 v_generations_number), ((d_generations 0), aQ cs 3 v_generations_kept), (hix, oX4 dix v_ix_bits v_ix_documents v_ix_terms v_ix_segments v_ix_postings), ((dix 0), aJ cs 64 v_ix_term), ((d0 6), oX6 d_search v_search_pickedTerms v_search_terms v_search_segments v_search_doneSegments v_search_donePostings v_search_postings v_search_why v_search_hits), ((d_search 0), aI cs 8 v_search_picked), ((d_search 2), aI cs 320 v_search_impactOf), ((dix 1), aI cs 65 v_ix_firstSegment), ((dix 2), aI cs 600 v_ix_impact), ((dix 3), aI cs 601 v_ix_firstPosting), ((d_search 4), aI cs 320 v_search_planImpact), ((d_search 5), aI cs 320 v_search_planSize), ((d_search 3), aI cs 320 v_search_planTerm), ((d_search 1), aI cs 320 v_search_planSegment), ((dix 4), aI cs 600 v_ix_document), ((d_search 6), aI cs 40 v_search_sums), ((d_search 7), aI cs 40 v_search_hitDocument)], rfl, _, _, _, _, _, _, _, _, _, _, _, _, _, _, _, _, _, _, _, _, _, _, rfl, hx⟩)
  obtain ⟨rfl, rfl, h⟩ := hw
  refine a_ws (st1 := []) (ws1 := [(h0, oX8 d0 hdr v_ticks), ((d0 1), oX7 d_words v_words_distinct_1 v_words_total_2), ((d0 0), oX0 d_tape v_tape_size_3 v_tape_place), ((d_tape 0), aB cs 3000 v_tape_row), ((d_words 0), aJ cs 1500 v_words_term_4), ((d_words 1), aI cs 1500 v_words_times_5), ((d0 5), oX3 d_generations v_generations_latest), ((d_generations 3), aI cs 4 v_generations_held), ((d_generations 1), aI cs 3 v_generations_number), ((d_generations 0), aQ cs 3 v_generations_kept), (hix, oX4 dix v_ix_bits v_ix_documents v_ix_terms v_ix_segments v_ix_postings), ((dix 0), aJ cs 64 v_ix_term), ((d0 6), oX6 d_search v_search_pickedTerms v_search_terms v_search_segments v_search_doneSegments v_search_donePostings v_search_postings v_search_why v_search_hits), ((d_search 0), aI cs 8 v_search_picked), ((d_search 2), aI cs 320 v_search_impactOf), ((dix 1), aI cs 65 v_ix_firstSegment), ((dix 2), aI cs 600 v_ix_impact), ((dix 3), aI cs 601 v_ix_firstPosting), ((d_search 4), aI cs 320 v_search_planImpact), ((d_search 5), aI cs 320 v_search_planSize), ((d_search 3), aI cs 320 v_search_planTerm), ((d_search 1), aI cs 320 v_search_planSegment), ((dix 4), aI cs 600 v_ix_document), ((d_search 6), aI cs 40 v_search_sums), ((d_search 7), aI cs 40 v_search_hitDocument)]) 1 6 9 [0, 1, 2, 3, 4, 5, 6, 7, 8, 9, 10, 11, 12, 13, 14, 15, 16, 17, 18, 19, 20, 21, 22, 23, 24] rfl rfl rfl rfl (by decide) rfl ?_
  refine a_iload_n C (pc := 9) 2 dX8_query_9 rfl rfl ?_
  refine a_iconst C (pc := 10) dX8_query_10 ic_1 ?_
  refine a_icmp_lt C (pc := 11) 24 dX8_query_11 (by decide) (fun hc => ?_) (fun hc => ?_)
  · have h := h.1 hc
    exact a_throw C (pc := 24) (by decide +kernel) wK_X8_67 wI_IllegalArgumentException atg_X8_69 atn_X8_69 (by decide +kernel) dX8_query_24 dX8_query_27 dX8_query_28 dX8_query_31 (Nat.le_of_ble_eq_true rfl) (Nat.le_of_ble_eq_true rfl) (Nat.le_of_ble_eq_true rfl) (Nat.le_of_ble_eq_true rfl) ⟨_, _, _, _, _, _, _, _, _, _, _, _, _, _, _, _, _, _, _, _, _, _, rfl, h⟩
  · have h := h.2 hc
    refine a_iload_n C (pc := 14) 2 dX8_query_14 rfl rfl ?_
    refine a_bipush C (pc := 15) dX8_query_15 bp_40 ?_
    refine a_icmp_gt C (pc := 17) 24 dX8_query_17 (by decide) (fun hc => ?_) (fun hc => ?_)
    · have h := h.1 hc
      exact a_throw C (pc := 24) (by decide +kernel) wK_X8_67 wI_IllegalArgumentException atg_X8_69 atn_X8_69 (by decide +kernel) dX8_query_24 dX8_query_27 dX8_query_28 dX8_query_31 (Nat.le_of_ble_eq_true rfl) (Nat.le_of_ble_eq_true rfl) (Nat.le_of_ble_eq_true rfl) (Nat.le_of_ble_eq_true rfl) ⟨_, _, _, _, _, _, _, _, _, _, _, _, _, _, _, _, _, _, _, _, _, _, rfl, h⟩
    · have h := h.2 hc
      refine a_iload_n C (pc := 20) 3 dX8_query_20 rfl rfl ?_
      refine a_if_ge C (pc := 21) 32 dX8_query_21 (by decide) (fun hc => ?_) (fun hc => ?_)
      · have h := h.1 hc
        refine a_aload_n C (pc := 32) 0 dX8_query_32 rfl rfl ?_
        refine a_iload_n C (pc := 33) 1 dX8_query_33 rfl rfl ?_
        refine a_callV C (pc := 34) (av := [.int l1]) (wr := [((d0 1), oX7 d_words v_words_distinct_1 v_words_total_2), ((d0 0), oX0 d_tape v_tape_size_3 v_tape_place), ((d_tape 0), aB cs 3000 v_tape_row), ((d_words 0), aJ cs 1500 v_words_term_4), ((d_words 1), aI cs 1500 v_words_times_5), ((d_generations 1), aI cs 3 v_generations_number), ((d_generations 0), aQ cs 3 v_generations_kept), (hix, oX4 dix v_ix_bits v_ix_documents v_ix_terms v_ix_segments v_ix_postings), ((dix 0), aJ cs 64 v_ix_term), ((d0 6), oX6 d_search v_search_pickedTerms v_search_terms v_search_segments v_search_doneSegments v_search_donePostings v_search_postings v_search_why v_search_hits), ((d_search 0), aI cs 8 v_search_picked), ((d_search 2), aI cs 320 v_search_impactOf), ((dix 1), aI cs 65 v_ix_firstSegment), ((dix 2), aI cs 600 v_ix_impact), ((dix 3), aI cs 601 v_ix_firstPosting), ((d_search 4), aI cs 320 v_search_planImpact), ((d_search 5), aI cs 320 v_search_planSize), ((d_search 3), aI cs 320 v_search_planTerm), ((d_search 1), aI cs 320 v_search_planSegment), ((dix 4), aI cs 600 v_ix_document), ((d_search 6), aI cs 40 v_search_sums), ((d_search 7), aI cs 40 v_search_hitDocument)]) (m_X8_requireOpen Lx Dx cs h0 hdr d0 d_generations v_ticks v_generations_latest v_generations_held l1 _ _ h) [0, 6, 7] [1, 2, 3, 4, 5, 8, 9, 10, 11, 12, 13, 14, 15, 16, 17, 18, 19, 20, 21, 22, 23, 24] rfl rfl (by decide) (by decide) (by decide) wM_X8_175 wb_X8_requireOpen hy_X8_requireOpen (q0 := 0) rfl rfl rfl ⟨Nat.le_of_ble_eq_true rfl, Nat.le_of_ble_eq_true rfl⟩ (Nat.le_of_ble_eq_true rfl) (Nat.le_of_ble_eq_true rfl) (Nat.le_of_ble_eq_true rfl) rfl dX8_query_34 (fun v w1 hw => ?_) [22, 0, 1, 2, 3, 4, 23, 24, 5, 6, 7, 8, 9, 10, 11, 12, 13, 14, 15, 16, 17, 18, 19, 20, 21] (by decide) (fun E w1 hx => by obtain ⟨rfl, hx⟩ := hx; exact ⟨[(h0, oX8 d0 hdr v_ticks), ((d0 1), oX7 d_words v_words_distinct_1 v_words_total_2), ((d0 0), oX0 d_tape v_tape_size_3 v_tape_place), ((d_tape 0), aB cs 3000 v_tape_row), ((d_words 0), aJ cs 1500 v_words_term_4), ((d_words 1), aI cs 1500 v_words_times_5), ((d0 5), oX3 d_generations v_generations_latest), ((d_generations 3), aI cs 4 v_generations_held), ((d_generations 1), aI cs 3 v_generations_number), ((d_generations 0), aQ cs 3 v_generations_kept), (hix, oX4 dix v_ix_bits v_ix_documents v_ix_terms v_ix_segments v_ix_postings), ((dix 0), aJ cs 64 v_ix_term), ((d0 6), oX6 d_search v_search_pickedTerms v_search_terms v_search_segments v_search_doneSegments v_search_donePostings v_search_postings v_search_why v_search_hits), ((d_search 0), aI cs 8 v_search_picked), ((d_search 2), aI cs 320 v_search_impactOf), ((dix 1), aI cs 65 v_ix_firstSegment), ((dix 2), aI cs 600 v_ix_impact), ((dix 3), aI cs 601 v_ix_firstPosting), ((d_search 4), aI cs 320 v_search_planImpact), ((d_search 5), aI cs 320 v_search_planSize), ((d_search 3), aI cs 320 v_search_planTerm), ((d_search 1), aI cs 320 v_search_planSegment), ((dix 4), aI cs 600 v_ix_document), ((d_search 6), aI cs 40 v_search_sums), ((d_search 7), aI cs 40 v_search_hitDocument)], rfl, _, _, _, _, _, _, _, _, _, _, _, _, _, _, _, _, _, _, _, _, _, _, rfl, hx⟩)
        obtain ⟨rfl, rfl, h⟩ := hw
        refine a_ws (st1 := []) (ws1 := [(h0, oX8 d0 hdr v_ticks), ((d0 1), oX7 d_words v_words_distinct_1 v_words_total_2), ((d0 0), oX0 d_tape v_tape_size_3 v_tape_place), ((d_tape 0), aB cs 3000 v_tape_row), ((d_words 0), aJ cs 1500 v_words_term_4), ((d_words 1), aI cs 1500 v_words_times_5), ((d0 5), oX3 d_generations v_generations_latest), ((d_generations 3), aI cs 4 v_generations_held), ((d_generations 1), aI cs 3 v_generations_number), ((d_generations 0), aQ cs 3 v_generations_kept), (hix, oX4 dix v_ix_bits v_ix_documents v_ix_terms v_ix_segments v_ix_postings), ((dix 0), aJ cs 64 v_ix_term), ((d0 6), oX6 d_search v_search_pickedTerms v_search_terms v_search_segments v_search_doneSegments v_search_donePostings v_search_postings v_search_why v_search_hits), ((d_search 0), aI cs 8 v_search_picked), ((d_search 2), aI cs 320 v_search_impactOf), ((dix 1), aI cs 65 v_ix_firstSegment), ((dix 2), aI cs 600 v_ix_impact), ((dix 3), aI cs 601 v_ix_firstPosting), ((d_search 4), aI cs 320 v_search_planImpact), ((d_search 5), aI cs 320 v_search_planSize), ((d_search 3), aI cs 320 v_search_planTerm), ((d_search 1), aI cs 320 v_search_planSegment), ((dix 4), aI cs 600 v_ix_document), ((d_search 6), aI cs 40 v_search_sums), ((d_search 7), aI cs 40 v_search_hitDocument)]) 2 12 37 [22, 0, 1, 2, 3, 4, 23, 24, 5, 6, 7, 8, 9, 10, 11, 12, 13, 14, 15, 16, 17, 18, 19, 20, 21] rfl rfl rfl rfl (by decide) rfl ?_
        refine a_aload_n C (pc := 37) 0 dX8_query_37 rfl rfl ?_
        refine a_get C (pc := 38) 0 5 inW_X8 rfl rfl (Nat.le_of_ble_eq_true rfl) wF_X8_45 rfl rfl dX8_query_38 ?_
        refine a_iload_n C (pc := 41) 1 dX8_query_41 rfl rfl ?_
        refine a_callV C (pc := 42) (av := [.int l1]) (wr := [(h0, oX8 d0 hdr v_ticks), ((d0 1), oX7 d_words v_words_distinct_1 v_words_total_2), ((d0 0), oX0 d_tape v_tape_size_3 v_tape_place), ((d_tape 0), aB cs 3000 v_tape_row), ((d_words 0), aJ cs 1500 v_words_term_4), ((d_words 1), aI cs 1500 v_words_times_5), (hix, oX4 dix v_ix_bits v_ix_documents v_ix_terms v_ix_segments v_ix_postings), ((dix 0), aJ cs 64 v_ix_term), ((d0 6), oX6 d_search v_search_pickedTerms v_search_terms v_search_segments v_search_doneSegments v_search_donePostings v_search_postings v_search_why v_search_hits), ((d_search 0), aI cs 8 v_search_picked), ((d_search 2), aI cs 320 v_search_impactOf), ((dix 1), aI cs 65 v_ix_firstSegment), ((dix 2), aI cs 600 v_ix_impact), ((dix 3), aI cs 601 v_ix_firstPosting), ((d_search 4), aI cs 320 v_search_planImpact), ((d_search 5), aI cs 320 v_search_planSize), ((d_search 3), aI cs 320 v_search_planTerm), ((d_search 1), aI cs 320 v_search_planSegment), ((dix 4), aI cs 600 v_ix_document), ((d_search 6), aI cs 40 v_search_sums), ((d_search 7), aI cs 40 v_search_hitDocument)]) (m_X3_heldBy Lx Dx cs (d0 5) d_generations v_generations_latest v_generations_number v_generations_held v_generations_kept l1 _ h) [6, 8, 7, 9] [0, 1, 2, 3, 4, 5, 10, 11, 12, 13, 14, 15, 16, 17, 18, 19, 20, 21, 22, 23, 24] rfl rfl (by decide) (by decide) (by decide) wM_X8_178 wb_X3_heldBy hy_X3_heldBy (q0 := 6) rfl rfl rfl ⟨Nat.le_of_ble_eq_true rfl, Nat.le_of_ble_eq_true rfl⟩ (Nat.le_of_ble_eq_true rfl) (Nat.le_of_ble_eq_true rfl) (Nat.le_of_ble_eq_true rfl) rfl dX8_query_42 (fun v w1 hw => ?_) [] rfl (fun _ _ h => h.elim)
        obtain ⟨r_6, rfl, rfl, h⟩ := hw
        obtain ⟨e9, h⟩ := h
        rw [e9]
        refine a_ws (st1 := [.ref hix]) (ws1 := [(h0, oX8 d0 hdr v_ticks), ((d0 1), oX7 d_words v_words_distinct_1 v_words_total_2), ((d0 0), oX0 d_tape v_tape_size_3 v_tape_place), ((d_tape 0), aB cs 3000 v_tape_row), ((d_words 0), aJ cs 1500 v_words_term_4), ((d_words 1), aI cs 1500 v_words_times_5), ((d0 5), oX3 d_generations v_generations_latest), ((d_generations 3), aI cs 4 v_generations_held), ((d_generations 1), aI cs 3 v_generations_number), ((d_generations 0), aQ cs 3 v_generations_kept), (hix, oX4 dix v_ix_bits v_ix_documents v_ix_terms v_ix_segments v_ix_postings), ((dix 0), aJ cs 64 v_ix_term), ((d0 6), oX6 d_search v_search_pickedTerms v_search_terms v_search_segments v_search_doneSegments v_search_donePostings v_search_postings v_search_why v_search_hits), ((d_search 0), aI cs 8 v_search_picked), ((d_search 2), aI cs 320 v_search_impactOf), ((dix 1), aI cs 65 v_ix_firstSegment), ((dix 2), aI cs 600 v_ix_impact), ((dix 3), aI cs 601 v_ix_firstPosting), ((d_search 4), aI cs 320 v_search_planImpact), ((d_search 5), aI cs 320 v_search_planSize), ((d_search 3), aI cs 320 v_search_planTerm), ((d_search 1), aI cs 320 v_search_planSegment), ((dix 4), aI cs 600 v_ix_document), ((d_search 6), aI cs 40 v_search_sums), ((d_search 7), aI cs 40 v_search_hitDocument)]) 2 12 45 [0, 1, 2, 3, 4, 5, 21, 23, 22, 24, 6, 7, 8, 9, 10, 11, 12, 13, 14, 15, 16, 17, 18, 19, 20] rfl rfl rfl rfl (by decide) rfl ?_
        refine a_astore C (pc := 45) (lv1 := [(0, .ref h0), (1, .int l1), (2, .int l2), (3, .int l3), (4, .long l4), (6, .ref hix)]) [1, 2, 3, 4, 5, 0] dX8_query_45 (by decide) rfl ?_
        refine a_aload_n C (pc := 47) 0 dX8_query_47 rfl rfl ?_
        refine a_get C (pc := 48) 0 6 inW_X8 rfl rfl (Nat.le_of_ble_eq_true rfl) wF_X8_52 rfl rfl dX8_query_48 ?_
        refine a_aload C (pc := 51) 5 dX8_query_51 rfl ?_
        refine a_aload_n C (pc := 53) 0 dX8_query_53 rfl rfl ?_
        refine a_get C (pc := 54) 0 1 inW_X8 rfl rfl (Nat.le_of_ble_eq_true rfl) wF_X8_21 rfl rfl dX8_query_54 ?_
        refine a_callV C (pc := 57) (av := [.ref hix, .ref (d0 1)]) (wr := [(h0, oX8 d0 hdr v_ticks), ((d0 0), oX0 d_tape v_tape_size_3 v_tape_place), ((d_tape 0), aB cs 3000 v_tape_row), ((d_words 1), aI cs 1500 v_words_times_5), ((d0 5), oX3 d_generations v_generations_latest), ((d_generations 3), aI cs 4 v_generations_held), ((d_generations 1), aI cs 3 v_generations_number), ((d_generations 0), aQ cs 3 v_generations_kept), ((d_search 2), aI cs 320 v_search_impactOf), ((dix 1), aI cs 65 v_ix_firstSegment), ((dix 2), aI cs 600 v_ix_impact), ((dix 3), aI cs 601 v_ix_firstPosting), ((d_search 4), aI cs 320 v_search_planImpact), ((d_search 5), aI cs 320 v_search_planSize), ((d_search 3), aI cs 320 v_search_planTerm), ((d_search 1), aI cs 320 v_search_planSegment), ((dix 4), aI cs 600 v_ix_document), ((d_search 6), aI cs 40 v_search_sums), ((d_search 7), aI cs 40 v_search_hitDocument)]) (m_X6_pick Lx Dx cs (d0 6) hix (d0 1) dix d_words d_search v_ix_bits v_ix_documents v_ix_terms v_ix_segments v_ix_postings v_ix_term v_words_distinct_1 v_words_total_2 v_words_term_4 v_search_pickedTerms v_search_terms v_search_segments v_search_doneSegments v_search_donePostings v_search_postings v_search_why v_search_hits v_search_picked _ h) [10, 11, 1, 4, 12, 13] [0, 2, 3, 5, 6, 7, 8, 9, 14, 15, 16, 17, 18, 19, 20, 21, 22, 23, 24] rfl rfl (by decide) (by decide) (by decide) wM_X8_182 wb_X6_pick hy_X6_pick (q0 := 12) rfl rfl rfl ⟨Nat.le_of_ble_eq_true rfl, Nat.le_of_ble_eq_true rfl⟩ (Nat.le_of_ble_eq_true rfl) (Nat.le_of_ble_eq_true rfl) (Nat.le_of_ble_eq_true rfl) rfl dX8_query_57 (fun v w1 hw => ?_) [] rfl (fun _ _ h => h.elim)
        obtain ⟨r_7, v_search_pickedTerms_8, v_search_picked_9, rfl, rfl, h⟩ := hw
        refine a_ws (st1 := [.int r_7]) (ws1 := [(h0, oX8 d0 hdr v_ticks), ((d0 1), oX7 d_words v_words_distinct_1 v_words_total_2), ((d0 0), oX0 d_tape v_tape_size_3 v_tape_place), ((d_tape 0), aB cs 3000 v_tape_row), ((d_words 0), aJ cs 1500 v_words_term_4), ((d_words 1), aI cs 1500 v_words_times_5), ((d0 5), oX3 d_generations v_generations_latest), ((d_generations 3), aI cs 4 v_generations_held), ((d_generations 1), aI cs 3 v_generations_number), ((d_generations 0), aQ cs 3 v_generations_kept), (hix, oX4 dix v_ix_bits v_ix_documents v_ix_terms v_ix_segments v_ix_postings), ((dix 0), aJ cs 64 v_ix_term), ((d0 6), oX6 d_search v_search_pickedTerms_8 v_search_terms v_search_segments v_search_doneSegments v_search_donePostings v_search_postings v_search_why v_search_hits), ((d_search 0), aI cs 8 v_search_picked_9), ((d_search 2), aI cs 320 v_search_impactOf), ((dix 1), aI cs 65 v_ix_firstSegment), ((dix 2), aI cs 600 v_ix_impact), ((dix 3), aI cs 601 v_ix_firstPosting), ((d_search 4), aI cs 320 v_search_planImpact), ((d_search 5), aI cs 320 v_search_planSize), ((d_search 3), aI cs 320 v_search_planTerm), ((d_search 1), aI cs 320 v_search_planSegment), ((dix 4), aI cs 600 v_ix_document), ((d_search 6), aI cs 40 v_search_sums), ((d_search 7), aI cs 40 v_search_hitDocument)]) 2 12 60 [0, 21, 1, 2, 22, 3, 4, 5, 6, 7, 19, 20, 23, 24, 8, 9, 10, 11, 12, 13, 14, 15, 16, 17, 18] rfl rfl rfl rfl (by decide) rfl ?_
        refine a_bipush C (pc := 60) dX8_query_60 bp_8 ?_
        refine a_icmp_le C (pc := 62) 73 dX8_query_62 (by decide) (fun hc => ?_) (fun hc => ?_)
        · have h := h.1 hc
          refine a_aload_n C (pc := 73) 0 dX8_query_73 rfl rfl ?_
          refine a_get C (pc := 74) 0 6 inW_X8 rfl rfl (Nat.le_of_ble_eq_true rfl) wF_X8_52 rfl rfl dX8_query_74 ?_
          refine a_aload C (pc := 77) 5 dX8_query_77 rfl ?_
          refine a_iload_n C (pc := 79) 2 dX8_query_79 rfl rfl ?_
          refine a_iload_n C (pc := 80) 3 dX8_query_80 rfl rfl ?_
          refine a_lload C (pc := 81) 4 dX8_query_81 rfl ?_
          refine a_aload_n C (pc := 83) 0 dX8_query_83 rfl rfl ?_
          refine a_get C (pc := 84) 0 8 inW_X8 rfl rfl (Nat.le_of_ble_eq_true rfl) wF_X8_63 rfl rfl dX8_query_84 ?_
          refine a_callV C (pc := 87) (av := [.ref hix, .int l2, .int l3, .long l4, .long v_ticks]) (wr := [(h0, oX8 d0 hdr v_ticks), ((d0 1), oX7 d_words v_words_distinct_1 v_words_total_2), ((d0 0), oX0 d_tape v_tape_size_3 v_tape_place), ((d_tape 0), aB cs 3000 v_tape_row), ((d_words 0), aJ cs 1500 v_words_term_4), ((d_words 1), aI cs 1500 v_words_times_5), ((d0 5), oX3 d_generations v_generations_latest), ((d_generations 3), aI cs 4 v_generations_held), ((d_generations 1), aI cs 3 v_generations_number), ((d_generations 0), aQ cs 3 v_generations_kept), ((dix 0), aJ cs 64 v_ix_term)]) (m_X6_run Lx Dx cs (d0 6) hix d_search dix v_search_pickedTerms_8 v_search_terms v_search_segments v_search_doneSegments v_search_donePostings v_search_postings v_search_why v_search_hits v_search_impactOf v_ix_bits v_ix_documents v_ix_terms v_ix_segments v_ix_postings v_search_picked_9 v_ix_firstSegment v_ix_impact v_ix_firstPosting v_search_planImpact v_search_planSize v_search_planTerm v_search_planSegment v_ix_document v_search_sums v_search_hitDocument l2 l3 l4 v_ticks _ h) [12, 14, 10, 13, 15, 16, 17, 18, 19, 20, 21, 22, 23, 24] [0, 1, 2, 3, 4, 5, 6, 7, 8, 9, 11] rfl rfl (by decide) (by decide) (by decide) wM_X8_186 wb_X6_run hy_X6_run (q0 := 12) rfl rfl rfl ⟨Nat.le_of_ble_eq_true rfl, Nat.le_of_ble_eq_true rfl⟩ (Nat.le_of_ble_eq_true rfl) (Nat.le_of_ble_eq_true rfl) (Nat.le_of_ble_eq_true rfl) rfl dX8_query_87 (fun v w1 hw => ?_) [] rfl (fun _ _ h => h.elim)
          obtain ⟨v_search_terms_10, v_search_segments_11, v_search_doneSegments_12, v_search_donePostings_13, v_search_postings_14, v_search_why_15, v_search_hits_16, v_search_impactOf_17, v_search_planImpact_18, v_search_planSize_19, v_search_planTerm_20, v_search_planSegment_21, v_search_sums_22, v_search_hitDocument_23, rfl, rfl, h⟩ := hw
          refine a_ws (st1 := []) (ws1 := [(h0, oX8 d0 hdr v_ticks), ((d0 1), oX7 d_words v_words_distinct_1 v_words_total_2), ((d0 0), oX0 d_tape v_tape_size_3 v_tape_place), ((d_tape 0), aB cs 3000 v_tape_row), ((d_words 0), aJ cs 1500 v_words_term_4), ((d_words 1), aI cs 1500 v_words_times_5), ((d0 5), oX3 d_generations v_generations_latest), ((d_generations 3), aI cs 4 v_generations_held), ((d_generations 1), aI cs 3 v_generations_number), ((d_generations 0), aQ cs 3 v_generations_kept), (hix, oX4 dix v_ix_bits v_ix_documents v_ix_terms v_ix_segments v_ix_postings), ((dix 0), aJ cs 64 v_ix_term), ((d0 6), oX6 d_search v_search_pickedTerms_8 v_search_terms_10 v_search_segments_11 v_search_doneSegments_12 v_search_donePostings_13 v_search_postings_14 v_search_why_15 v_search_hits_16), ((d_search 0), aI cs 8 v_search_picked_9), ((d_search 2), aI cs 320 v_search_impactOf_17), ((dix 1), aI cs 65 v_ix_firstSegment), ((dix 2), aI cs 600 v_ix_impact), ((dix 3), aI cs 601 v_ix_firstPosting), ((d_search 4), aI cs 320 v_search_planImpact_18), ((d_search 5), aI cs 320 v_search_planSize_19), ((d_search 3), aI cs 320 v_search_planTerm_20), ((d_search 1), aI cs 320 v_search_planSegment_21), ((dix 4), aI cs 600 v_ix_document), ((d_search 6), aI cs 40 v_search_sums_22), ((d_search 7), aI cs 40 v_search_hitDocument_23)]) 2 12 90 [0, 1, 2, 3, 4, 5, 6, 7, 8, 9, 13, 10, 11, 14, 12, 15, 16, 17, 18, 19, 20, 21, 22, 23, 24] rfl rfl rfl rfl (by decide) rfl ?_
          refine a_aload_n C (pc := 90) 0 dX8_query_90 rfl rfl ?_
          refine a_dup C (pc := 91) dX8_query_91 rfl ?_
          refine a_get C (pc := 92) 0 8 inW_X8 rfl rfl (Nat.le_of_ble_eq_true rfl) wF_X8_63 rfl rfl dX8_query_92 ?_
          refine a_aload_n C (pc := 95) 0 dX8_query_95 rfl rfl ?_
          refine a_get C (pc := 96) 0 6 inW_X8 rfl rfl (Nat.le_of_ble_eq_true rfl) wF_X8_52 rfl rfl dX8_query_96 ?_
          refine a_get C (pc := 99) 12 12 inW_X6 rfl rfl (Nat.le_of_ble_eq_true rfl) wF_X8_190 rfl rfl dX8_query_99 ?_
          refine a_i2l C (pc := 102) dX8_query_102 ?_
          refine a_ladd C (pc := 103) dX8_query_103 ?_
          refine a_put C (pc := 104) (ws1 := [(h0, oX8 d0 hdr (v_ticks + ((v_search_donePostings_13 : Int32).toInt64))), ((d0 1), oX7 d_words v_words_distinct_1 v_words_total_2), ((d0 0), oX0 d_tape v_tape_size_3 v_tape_place), ((d_tape 0), aB cs 3000 v_tape_row), ((d_words 0), aJ cs 1500 v_words_term_4), ((d_words 1), aI cs 1500 v_words_times_5), ((d0 5), oX3 d_generations v_generations_latest), ((d_generations 3), aI cs 4 v_generations_held), ((d_generations 1), aI cs 3 v_generations_number), ((d_generations 0), aQ cs 3 v_generations_kept), (hix, oX4 dix v_ix_bits v_ix_documents v_ix_terms v_ix_segments v_ix_postings), ((dix 0), aJ cs 64 v_ix_term), ((d0 6), oX6 d_search v_search_pickedTerms_8 v_search_terms_10 v_search_segments_11 v_search_doneSegments_12 v_search_donePostings_13 v_search_postings_14 v_search_why_15 v_search_hits_16), ((d_search 0), aI cs 8 v_search_picked_9), ((d_search 2), aI cs 320 v_search_impactOf_17), ((dix 1), aI cs 65 v_ix_firstSegment), ((dix 2), aI cs 600 v_ix_impact), ((dix 3), aI cs 601 v_ix_firstPosting), ((d_search 4), aI cs 320 v_search_planImpact_18), ((d_search 5), aI cs 320 v_search_planSize_19), ((d_search 3), aI cs 320 v_search_planTerm_20), ((d_search 1), aI cs 320 v_search_planSegment_21), ((dix 4), aI cs 600 v_ix_document), ((d_search 6), aI cs 40 v_search_sums_22), ((d_search 7), aI cs 40 v_search_hitDocument_23)]) 0 8 inW_X8 tyX8 tyX8_ok nmX8 rfl rfl (Nat.le_of_ble_eq_true rfl) wF_X8_63 rfl rfl rfl rfl rfl (Nat.le_of_ble_eq_true rfl) dX8_query_104 rfl ?_
          refine a_aload_n C (pc := 107) 0 dX8_query_107 rfl rfl ?_
          refine a_get C (pc := 108) 0 6 inW_X8 rfl rfl (Nat.le_of_ble_eq_true rfl) wF_X8_52 rfl rfl dX8_query_108 ?_
          refine a_get C (pc := 111) 12 15 inW_X6 rfl rfl (Nat.le_of_ble_eq_true rfl) wF_X8_193 rfl rfl dX8_query_111 ?_
          exact a_ireturn C (pc := 114) rfl dX8_query_114 (Nat.le_of_ble_eq_true rfl) (Nat.le_of_ble_eq_true rfl) ⟨_, _, _, _, _, _, _, _, _, _, _, _, _, _, _, _, _, _, _, _, _, _, _, rfl, rfl, h⟩
        · have h := h.2 hc
          exact a_throw C (pc := 65) (by decide +kernel) wK_X8_67 wI_IllegalArgumentException atg_X8_69 atn_X8_69 (by decide +kernel) dX8_query_65 dX8_query_68 dX8_query_69 dX8_query_72 (Nat.le_of_ble_eq_true rfl) (Nat.le_of_ble_eq_true rfl) (Nat.le_of_ble_eq_true rfl) (Nat.le_of_ble_eq_true rfl) ⟨_, _, _, _, _, _, _, _, _, _, _, _, _, _, _, _, _, _, _, _, _, _, rfl, h⟩
      · have h := h.2 hc
        exact a_throw C (pc := 24) (by decide +kernel) wK_X8_67 wI_IllegalArgumentException atg_X8_69 atn_X8_69 (by decide +kernel) dX8_query_24 dX8_query_27 dX8_query_28 dX8_query_31 (Nat.le_of_ble_eq_true rfl) (Nat.le_of_ble_eq_true rfl) (Nat.le_of_ble_eq_true rfl) (Nat.le_of_ble_eq_true rfl) ⟨_, _, _, _, _, _, _, _, _, _, _, _, _, _, _, _, _, _, _, _, _, _, rfl, h⟩
set_option maxRecDepth 100000 in
set_option maxHeartbeats 4000000 in
theorem m_X8_hit (Lx : Launch) (Dx : va_G) (cs : Nat → ClassId) (h0 : Nat) (hdr : Nat) (d0 : Nat → Nat) (d_search : Nat → Nat) (v_ticks : Int64) (v_search_pickedTerms : Int32) (v_search_terms : Int32) (v_search_segments : Int32) (v_search_doneSegments : Int32) (v_search_donePostings : Int32) (v_search_postings : Int32) (v_search_why : Int32) (v_search_hits : Int32) (v_search_hitDocument : Nat → Int32) (v_search_sums : Nat → Int32) (l1 : Int32) (l2 : Int32) (Φ : Int32 → Prop) (X : String → Prop) (h : P_X8_hit v_search_hits v_search_hitDocument v_search_sums l1 l2 Φ X) : XMet Lx Dx cs yX8_hit cX8_hit 4 (some .int) 6 85 1 6 [.ref h0, .int l1, .int l2] [(h0, oX8 d0 hdr v_ticks), ((d0 6), oX6 d_search v_search_pickedTerms v_search_terms v_search_segments v_search_doneSegments v_search_donePostings v_search_postings v_search_why v_search_hits), ((d_search 7), aI cs 40 v_search_hitDocument), ((d_search 6), aI cs 40 v_search_sums)] (R_X8_hit cs h0 hdr d0 d_search v_ticks v_search_pickedTerms v_search_terms v_search_segments v_search_doneSegments v_search_donePostings v_search_postings v_search_why v_search_hits v_search_hitDocument v_search_sums Φ) (Y_X8_hit cs h0 hdr d0 d_search v_ticks v_search_pickedTerms v_search_terms v_search_segments v_search_doneSegments v_search_donePostings v_search_postings v_search_why v_search_hits v_search_hitDocument v_search_sums X) := by
  refine XMet.of (own := RX8) (nm := "hit") (by decide) rfl rfl (Nat.le_of_ble_eq_true rfl) (fun Γ C => ?_)
  unfold P_X8_hit at h
  refine a_iload_n C (pc := 0) 1 dX8_hit_0 rfl rfl ?_
  refine a_if_lt C (pc := 1) 24 dX8_hit_1 (by decide) (fun hc => ?_) (fun hc => ?_)
  · have h := h.1 hc
    exact a_throw C (pc := 24) (by decide +kernel) wK_X8_110 wI_NoSuchElementException atg_X8_112 atn_X8_112 (by decide +kernel) dX8_hit_24 dX8_hit_27 dX8_hit_28 dX8_hit_31 (Nat.le_of_ble_eq_true rfl) (Nat.le_of_ble_eq_true rfl) (Nat.le_of_ble_eq_true rfl) (Nat.le_of_ble_eq_true rfl) ⟨rfl, h⟩
  · have h := h.2 hc
    refine a_iload_n C (pc := 4) 1 dX8_hit_4 rfl rfl ?_
    refine a_aload_n C (pc := 5) 0 dX8_hit_5 rfl rfl ?_
    refine a_get C (pc := 6) 0 6 inW_X8 rfl rfl (Nat.le_of_ble_eq_true rfl) wF_X8_52 rfl rfl dX8_hit_6 ?_
    refine a_get C (pc := 9) 1 15 inW_X6 rfl rfl (Nat.le_of_ble_eq_true rfl) wF_X8_193 rfl rfl dX8_hit_9 ?_
    refine a_icmp_ge C (pc := 12) 24 dX8_hit_12 (by decide) (fun hc => ?_) (fun hc => ?_)
    · have h := h.1 hc
      exact a_throw C (pc := 24) (by decide +kernel) wK_X8_110 wI_NoSuchElementException atg_X8_112 atn_X8_112 (by decide +kernel) dX8_hit_24 dX8_hit_27 dX8_hit_28 dX8_hit_31 (Nat.le_of_ble_eq_true rfl) (Nat.le_of_ble_eq_true rfl) (Nat.le_of_ble_eq_true rfl) (Nat.le_of_ble_eq_true rfl) ⟨rfl, h⟩
    · have h := h.2 hc
      refine a_iload_n C (pc := 15) 2 dX8_hit_15 rfl rfl ?_
      refine a_if_lt C (pc := 16) 24 dX8_hit_16 (by decide) (fun hc => ?_) (fun hc => ?_)
      · have h := h.1 hc
        exact a_throw C (pc := 24) (by decide +kernel) wK_X8_110 wI_NoSuchElementException atg_X8_112 atn_X8_112 (by decide +kernel) dX8_hit_24 dX8_hit_27 dX8_hit_28 dX8_hit_31 (Nat.le_of_ble_eq_true rfl) (Nat.le_of_ble_eq_true rfl) (Nat.le_of_ble_eq_true rfl) (Nat.le_of_ble_eq_true rfl) ⟨rfl, h⟩
      · have h := h.2 hc
        refine a_iload_n C (pc := 19) 2 dX8_hit_19 rfl rfl ?_
        refine a_iconst C (pc := 20) dX8_hit_20 ic_1 ?_
        refine a_icmp_le C (pc := 21) 32 dX8_hit_21 (by decide) (fun hc => ?_) (fun hc => ?_)
        · have h := h.1 hc
          refine a_aload_n C (pc := 32) 0 dX8_hit_32 rfl rfl ?_
          refine a_get C (pc := 33) 0 6 inW_X8 rfl rfl (Nat.le_of_ble_eq_true rfl) wF_X8_52 rfl rfl dX8_hit_33 ?_
          refine a_get C (pc := 36) 1 7 inW_X6 rfl rfl (Nat.le_of_ble_eq_true rfl) wF_X8_196 rfl rfl dX8_hit_36 ?_
          refine a_iload_n C (pc := 39) 1 dX8_hit_39 rfl rfl ?_
          refine a_iald C (pc := 40) 2 rfl h.1 dX8_hit_40 ?_
          replace h := h.2
          refine a_istore_n C (pc := 41) (lv1 := [(0, .ref h0), (1, .int l1), (2, .int l2), (3, .int (v_search_hitDocument (l1 : Int32).toNatClampNeg))]) [1, 2, 3, 0] dX8_hit_41 rfl (by decide) rfl ?_
          refine a_iload_n C (pc := 42) 2 dX8_hit_42 rfl rfl ?_
          refine a_if_ne C (pc := 43) 50 dX8_hit_43 (by decide) (fun hc => ?_) (fun hc => ?_)
          · have h := h.1 hc
            refine a_aload_n C (pc := 50) 0 dX8_hit_50 rfl rfl ?_
            refine a_get C (pc := 51) 0 6 inW_X8 rfl rfl (Nat.le_of_ble_eq_true rfl) wF_X8_52 rfl rfl dX8_hit_51 ?_
            refine a_get C (pc := 54) 1 6 inW_X6 rfl rfl (Nat.le_of_ble_eq_true rfl) wF_X8_199 rfl rfl dX8_hit_54 ?_
            refine a_iload_n C (pc := 57) 3 dX8_hit_57 rfl rfl ?_
            refine a_iald C (pc := 58) 3 rfl h.1 dX8_hit_58 ?_
            replace h := h.2
            exact a_ireturn C (pc := 59) rfl dX8_hit_59 (Nat.le_of_ble_eq_true rfl) (Nat.le_of_ble_eq_true rfl) ⟨_, rfl, rfl, h⟩
          · have h := h.2 hc
            refine a_iload_n C (pc := 46) 3 dX8_hit_46 rfl rfl ?_
            refine a_goto C (pc := 47) 59 dX8_hit_47 (by decide) ?_
            exact a_ireturn C (pc := 59) rfl dX8_hit_59 (Nat.le_of_ble_eq_true rfl) (Nat.le_of_ble_eq_true rfl) ⟨_, rfl, rfl, h⟩
        · have h := h.2 hc
          exact a_throw C (pc := 24) (by decide +kernel) wK_X8_110 wI_NoSuchElementException atg_X8_112 atn_X8_112 (by decide +kernel) dX8_hit_24 dX8_hit_27 dX8_hit_28 dX8_hit_31 (Nat.le_of_ble_eq_true rfl) (Nat.le_of_ble_eq_true rfl) (Nat.le_of_ble_eq_true rfl) (Nat.le_of_ble_eq_true rfl) ⟨rfl, h⟩
set_option maxRecDepth 100000 in
set_option maxHeartbeats 4000000 in
theorem m_X8_sum (Lx : Launch) (Dx : va_G) (cs : Nat → ClassId) (h0 : Nat) (hdr : Nat) (d0 : Nat → Nat) (d_search : Nat → Nat) (v_ticks : Int64) (v_search_pickedTerms : Int32) (v_search_terms : Int32) (v_search_segments : Int32) (v_search_doneSegments : Int32) (v_search_donePostings : Int32) (v_search_postings : Int32) (v_search_why : Int32) (v_search_hits : Int32) (v_search_sums : Nat → Int32) (l1 : Int32) (Φ : Int32 → Prop) (X : String → Prop) (h : P_X8_sum v_search_sums l1 Φ X) : XMet Lx Dx cs yX8_sum cX8_sum 2 (some .int) 6 85 1 6 [.ref h0, .int l1] [(h0, oX8 d0 hdr v_ticks), ((d0 6), oX6 d_search v_search_pickedTerms v_search_terms v_search_segments v_search_doneSegments v_search_donePostings v_search_postings v_search_why v_search_hits), ((d_search 6), aI cs 40 v_search_sums)] (R_X8_sum cs h0 hdr d0 d_search v_ticks v_search_pickedTerms v_search_terms v_search_segments v_search_doneSegments v_search_donePostings v_search_postings v_search_why v_search_hits v_search_sums Φ) (Y_X8_sum cs h0 hdr d0 d_search v_ticks v_search_pickedTerms v_search_terms v_search_segments v_search_doneSegments v_search_donePostings v_search_postings v_search_why v_search_hits v_search_sums X) := by
  refine XMet.of (own := RX8) (nm := "sum") (by decide) rfl rfl (Nat.le_of_ble_eq_true rfl) (fun Γ C => ?_)
  unfold P_X8_sum at h
  refine a_iload_n C (pc := 0) 1 dX8_sum_0 rfl rfl ?_
  refine a_if_lt C (pc := 1) 10 dX8_sum_1 (by decide) (fun hc => ?_) (fun hc => ?_)
  · have h := h.1 hc
    exact a_throw C (pc := 10) (by decide +kernel) wK_X8_67 wI_IllegalArgumentException atg_X8_69 atn_X8_69 (by decide +kernel) dX8_sum_10 dX8_sum_13 dX8_sum_14 dX8_sum_17 (Nat.le_of_ble_eq_true rfl) (Nat.le_of_ble_eq_true rfl) (Nat.le_of_ble_eq_true rfl) (Nat.le_of_ble_eq_true rfl) ⟨rfl, h⟩
  · have h := h.2 hc
    refine a_iload_n C (pc := 4) 1 dX8_sum_4 rfl rfl ?_
    refine a_bipush C (pc := 5) dX8_sum_5 bp_40 ?_
    refine a_icmp_lt C (pc := 7) 18 dX8_sum_7 (by decide) (fun hc => ?_) (fun hc => ?_)
    · have h := h.1 hc
      refine a_aload_n C (pc := 18) 0 dX8_sum_18 rfl rfl ?_
      refine a_get C (pc := 19) 0 6 inW_X8 rfl rfl (Nat.le_of_ble_eq_true rfl) wF_X8_52 rfl rfl dX8_sum_19 ?_
      refine a_get C (pc := 22) 1 6 inW_X6 rfl rfl (Nat.le_of_ble_eq_true rfl) wF_X8_199 rfl rfl dX8_sum_22 ?_
      refine a_iload_n C (pc := 25) 1 dX8_sum_25 rfl rfl ?_
      refine a_iald C (pc := 26) 2 rfl h.1 dX8_sum_26 ?_
      replace h := h.2
      exact a_ireturn C (pc := 27) rfl dX8_sum_27 (Nat.le_of_ble_eq_true rfl) (Nat.le_of_ble_eq_true rfl) ⟨_, rfl, rfl, h⟩
    · have h := h.2 hc
      exact a_throw C (pc := 10) (by decide +kernel) wK_X8_67 wI_IllegalArgumentException atg_X8_69 atn_X8_69 (by decide +kernel) dX8_sum_10 dX8_sum_13 dX8_sum_14 dX8_sum_17 (Nat.le_of_ble_eq_true rfl) (Nat.le_of_ble_eq_true rfl) (Nat.le_of_ble_eq_true rfl) (Nat.le_of_ble_eq_true rfl) ⟨rfl, h⟩
set_option maxRecDepth 100000 in
set_option maxHeartbeats 4000000 in
theorem m_X8_last (Lx : Launch) (Dx : va_G) (cs : Nat → ClassId) (h0 : Nat) (hdr : Nat) (d0 : Nat → Nat) (d_search : Nat → Nat) (v_ticks : Int64) (v_search_pickedTerms : Int32) (v_search_terms : Int32) (v_search_segments : Int32) (v_search_doneSegments : Int32) (v_search_donePostings : Int32) (v_search_postings : Int32) (v_search_why : Int32) (v_search_hits : Int32) (l1 : Int32) (Φ : Int32 → Prop) (X : String → Prop) (h : P_X8_last v_search_terms v_search_segments v_search_doneSegments v_search_donePostings v_search_postings v_search_why l1 Φ X) : XMet Lx Dx cs yX8_last cX8_last 2 (some .int) 6 85 1 6 [.ref h0, .int l1] [(h0, oX8 d0 hdr v_ticks), ((d0 6), oX6 d_search v_search_pickedTerms v_search_terms v_search_segments v_search_doneSegments v_search_donePostings v_search_postings v_search_why v_search_hits)] (R_X8_last cs h0 hdr d0 d_search v_ticks v_search_pickedTerms v_search_terms v_search_segments v_search_doneSegments v_search_donePostings v_search_postings v_search_why v_search_hits Φ) (Y_X8_last cs h0 hdr d0 d_search v_ticks v_search_pickedTerms v_search_terms v_search_segments v_search_doneSegments v_search_donePostings v_search_postings v_search_why v_search_hits X) := by
  refine XMet.of (own := RX8) (nm := "last") (by decide) rfl rfl (Nat.le_of_ble_eq_true rfl) (fun Γ C => ?_)
  unfold P_X8_last at h
  refine a_iload_n C (pc := 0) 1 dX8_last_0 rfl rfl ?_
  by_cases hc0 : l1 = 0
  · have h := h.1 hc0
    refine a_tableIn C (pc := 1) 40 dX8_last_1 (by rw [hc0]; decide) (by rw [hc0]; decide) (by rw [hc0]; rfl) (by decide) ?_
    refine a_aload_n C (pc := 40) 0 dX8_last_40 rfl rfl ?_
    refine a_get C (pc := 41) 0 6 inW_X8 rfl rfl (Nat.le_of_ble_eq_true rfl) wF_X8_52 rfl rfl dX8_last_41 ?_
    refine a_get C (pc := 44) 1 9 inW_X6 rfl rfl (Nat.le_of_ble_eq_true rfl) wF_X8_202 rfl rfl dX8_last_44 ?_
    exact a_ireturn C (pc := 47) rfl dX8_last_47 (Nat.le_of_ble_eq_true rfl) (Nat.le_of_ble_eq_true rfl) ⟨_, rfl, rfl, h⟩
  · by_cases hc1 : l1 = 1
    · have h := h.2.1 hc1
      refine a_tableIn C (pc := 1) 48 dX8_last_1 (by rw [hc1]; decide) (by rw [hc1]; decide) (by rw [hc1]; rfl) (by decide) ?_
      refine a_aload_n C (pc := 48) 0 dX8_last_48 rfl rfl ?_
      refine a_get C (pc := 49) 0 6 inW_X8 rfl rfl (Nat.le_of_ble_eq_true rfl) wF_X8_52 rfl rfl dX8_last_49 ?_
      refine a_get C (pc := 52) 1 10 inW_X6 rfl rfl (Nat.le_of_ble_eq_true rfl) wF_X8_203 rfl rfl dX8_last_52 ?_
      exact a_ireturn C (pc := 55) rfl dX8_last_55 (Nat.le_of_ble_eq_true rfl) (Nat.le_of_ble_eq_true rfl) ⟨_, rfl, rfl, h⟩
    · by_cases hc2 : l1 = 2
      · have h := h.2.2.1 hc2
        refine a_tableIn C (pc := 1) 56 dX8_last_1 (by rw [hc2]; decide) (by rw [hc2]; decide) (by rw [hc2]; rfl) (by decide) ?_
        refine a_aload_n C (pc := 56) 0 dX8_last_56 rfl rfl ?_
        refine a_get C (pc := 57) 0 6 inW_X8 rfl rfl (Nat.le_of_ble_eq_true rfl) wF_X8_52 rfl rfl dX8_last_57 ?_
        refine a_get C (pc := 60) 1 11 inW_X6 rfl rfl (Nat.le_of_ble_eq_true rfl) wF_X8_206 rfl rfl dX8_last_60 ?_
        exact a_ireturn C (pc := 63) rfl dX8_last_63 (Nat.le_of_ble_eq_true rfl) (Nat.le_of_ble_eq_true rfl) ⟨_, rfl, rfl, h⟩
      · by_cases hc3 : l1 = 3
        · have h := h.2.2.2.1 hc3
          refine a_tableIn C (pc := 1) 64 dX8_last_1 (by rw [hc3]; decide) (by rw [hc3]; decide) (by rw [hc3]; rfl) (by decide) ?_
          refine a_aload_n C (pc := 64) 0 dX8_last_64 rfl rfl ?_
          refine a_get C (pc := 65) 0 6 inW_X8 rfl rfl (Nat.le_of_ble_eq_true rfl) wF_X8_52 rfl rfl dX8_last_65 ?_
          refine a_get C (pc := 68) 1 12 inW_X6 rfl rfl (Nat.le_of_ble_eq_true rfl) wF_X8_190 rfl rfl dX8_last_68 ?_
          exact a_ireturn C (pc := 71) rfl dX8_last_71 (Nat.le_of_ble_eq_true rfl) (Nat.le_of_ble_eq_true rfl) ⟨_, rfl, rfl, h⟩
        · by_cases hc4 : l1 = 4
          · have h := h.2.2.2.2.1 hc4
            refine a_tableIn C (pc := 1) 72 dX8_last_1 (by rw [hc4]; decide) (by rw [hc4]; decide) (by rw [hc4]; rfl) (by decide) ?_
            refine a_aload_n C (pc := 72) 0 dX8_last_72 rfl rfl ?_
            refine a_get C (pc := 73) 0 6 inW_X8 rfl rfl (Nat.le_of_ble_eq_true rfl) wF_X8_52 rfl rfl dX8_last_73 ?_
            refine a_get C (pc := 76) 1 13 inW_X6 rfl rfl (Nat.le_of_ble_eq_true rfl) wF_X8_209 rfl rfl dX8_last_76 ?_
            exact a_ireturn C (pc := 79) rfl dX8_last_79 (Nat.le_of_ble_eq_true rfl) (Nat.le_of_ble_eq_true rfl) ⟨_, rfl, rfl, h⟩
          · by_cases hc5 : l1 = 5
            · have h := h.2.2.2.2.2.1 hc5
              refine a_tableIn C (pc := 1) 80 dX8_last_1 (by rw [hc5]; decide) (by rw [hc5]; decide) (by rw [hc5]; rfl) (by decide) ?_
              refine a_aload_n C (pc := 80) 0 dX8_last_80 rfl rfl ?_
              refine a_get C (pc := 81) 0 6 inW_X8 rfl rfl (Nat.le_of_ble_eq_true rfl) wF_X8_52 rfl rfl dX8_last_81 ?_
              refine a_get C (pc := 84) 1 14 inW_X6 rfl rfl (Nat.le_of_ble_eq_true rfl) wF_X8_210 rfl rfl dX8_last_84 ?_
              exact a_ireturn C (pc := 87) rfl dX8_last_87 (Nat.le_of_ble_eq_true rfl) (Nat.le_of_ble_eq_true rfl) ⟨_, rfl, rfl, h⟩
            · have h := h.2.2.2.2.2.2 hc0 hc1 hc2 hc3 hc4 hc5
              refine a_tableOut C (pc := 1) 88 dX8_last_1 (swo_5 hc0 hc1 hc2 hc3 hc4 hc5) (by decide) ?_
              exact a_throw C (pc := 88) (by decide +kernel) wK_X8_110 wI_NoSuchElementException atg_X8_112 atn_X8_112 (by decide +kernel) dX8_last_88 dX8_last_91 dX8_last_92 dX8_last_95 (Nat.le_of_ble_eq_true rfl) (Nat.le_of_ble_eq_true rfl) (Nat.le_of_ble_eq_true rfl) (Nat.le_of_ble_eq_true rfl) ⟨rfl, h⟩
set_option maxRecDepth 100000 in
set_option maxHeartbeats 4000000 in
theorem m_X8_plan (Lx : Launch) (Dx : va_G) (cs : Nat → ClassId) (h0 : Nat) (hdr : Nat) (d0 : Nat → Nat) (d_search : Nat → Nat) (v_ticks : Int64) (v_search_pickedTerms : Int32) (v_search_terms : Int32) (v_search_segments : Int32) (v_search_doneSegments : Int32) (v_search_donePostings : Int32) (v_search_postings : Int32) (v_search_why : Int32) (v_search_hits : Int32) (v_search_planSize : Nat → Int32) (v_search_planImpact : Nat → Int32) (v_search_planTerm : Nat → Int32) (l1 : Int32) (l2 : Int32) (Φ : Int32 → Prop) (X : String → Prop) (h : P_X8_plan v_search_segments v_search_planSize v_search_planImpact v_search_planTerm l1 l2 Φ X) : XMet Lx Dx cs yX8_plan cX8_plan 3 (some .int) 6 85 1 6 [.ref h0, .int l1, .int l2] [(h0, oX8 d0 hdr v_ticks), ((d0 6), oX6 d_search v_search_pickedTerms v_search_terms v_search_segments v_search_doneSegments v_search_donePostings v_search_postings v_search_why v_search_hits), ((d_search 5), aI cs 320 v_search_planSize), ((d_search 4), aI cs 320 v_search_planImpact), ((d_search 3), aI cs 320 v_search_planTerm)] (R_X8_plan cs h0 hdr d0 d_search v_ticks v_search_pickedTerms v_search_terms v_search_segments v_search_doneSegments v_search_donePostings v_search_postings v_search_why v_search_hits v_search_planSize v_search_planImpact v_search_planTerm Φ) (Y_X8_plan cs h0 hdr d0 d_search v_ticks v_search_pickedTerms v_search_terms v_search_segments v_search_doneSegments v_search_donePostings v_search_postings v_search_why v_search_hits v_search_planSize v_search_planImpact v_search_planTerm X) := by
  refine XMet.of (own := RX8) (nm := "plan") (by decide) rfl rfl (Nat.le_of_ble_eq_true rfl) (fun Γ C => ?_)
  unfold P_X8_plan at h
  refine a_iload_n C (pc := 0) 1 dX8_plan_0 rfl rfl ?_
  refine a_if_lt C (pc := 1) 15 dX8_plan_1 (by decide) (fun hc => ?_) (fun hc => ?_)
  · have h := h.1 hc
    exact a_throw C (pc := 15) (by decide +kernel) wK_X8_110 wI_NoSuchElementException atg_X8_112 atn_X8_112 (by decide +kernel) dX8_plan_15 dX8_plan_18 dX8_plan_19 dX8_plan_22 (Nat.le_of_ble_eq_true rfl) (Nat.le_of_ble_eq_true rfl) (Nat.le_of_ble_eq_true rfl) (Nat.le_of_ble_eq_true rfl) ⟨rfl, h⟩
  · have h := h.2 hc
    refine a_iload_n C (pc := 4) 1 dX8_plan_4 rfl rfl ?_
    refine a_aload_n C (pc := 5) 0 dX8_plan_5 rfl rfl ?_
    refine a_get C (pc := 6) 0 6 inW_X8 rfl rfl (Nat.le_of_ble_eq_true rfl) wF_X8_52 rfl rfl dX8_plan_6 ?_
    refine a_get C (pc := 9) 1 10 inW_X6 rfl rfl (Nat.le_of_ble_eq_true rfl) wF_X8_203 rfl rfl dX8_plan_9 ?_
    refine a_icmp_lt C (pc := 12) 23 dX8_plan_12 (by decide) (fun hc => ?_) (fun hc => ?_)
    · have h := h.1 hc
      refine a_iload_n C (pc := 23) 2 dX8_plan_23 rfl rfl ?_
      by_cases hc0 : l2 = 0
      · have h := h.1 hc0
        refine a_tableIn C (pc := 24) 52 dX8_plan_24 (by rw [hc0]; decide) (by rw [hc0]; decide) (by rw [hc0]; rfl) (by decide) ?_
        refine a_aload_n C (pc := 52) 0 dX8_plan_52 rfl rfl ?_
        refine a_get C (pc := 53) 0 6 inW_X8 rfl rfl (Nat.le_of_ble_eq_true rfl) wF_X8_52 rfl rfl dX8_plan_53 ?_
        refine a_get C (pc := 56) 1 3 inW_X6 rfl rfl (Nat.le_of_ble_eq_true rfl) wF_X8_213 rfl rfl dX8_plan_56 ?_
        refine a_iload_n C (pc := 59) 1 dX8_plan_59 rfl rfl ?_
        refine a_iald C (pc := 60) 4 rfl h.1 dX8_plan_60 ?_
        replace h := h.2
        exact a_ireturn C (pc := 61) rfl dX8_plan_61 (Nat.le_of_ble_eq_true rfl) (Nat.le_of_ble_eq_true rfl) ⟨_, rfl, rfl, h⟩
      · by_cases hc1 : l2 = 1
        · have h := h.2.1 hc1
          refine a_tableIn C (pc := 24) 62 dX8_plan_24 (by rw [hc1]; decide) (by rw [hc1]; decide) (by rw [hc1]; rfl) (by decide) ?_
          refine a_aload_n C (pc := 62) 0 dX8_plan_62 rfl rfl ?_
          refine a_get C (pc := 63) 0 6 inW_X8 rfl rfl (Nat.le_of_ble_eq_true rfl) wF_X8_52 rfl rfl dX8_plan_63 ?_
          refine a_get C (pc := 66) 1 4 inW_X6 rfl rfl (Nat.le_of_ble_eq_true rfl) wF_X8_216 rfl rfl dX8_plan_66 ?_
          refine a_iload_n C (pc := 69) 1 dX8_plan_69 rfl rfl ?_
          refine a_iald C (pc := 70) 3 rfl h.1 dX8_plan_70 ?_
          replace h := h.2
          exact a_ireturn C (pc := 71) rfl dX8_plan_71 (Nat.le_of_ble_eq_true rfl) (Nat.le_of_ble_eq_true rfl) ⟨_, rfl, rfl, h⟩
        · by_cases hc2 : l2 = 2
          · have h := h.2.2.1 hc2
            refine a_tableIn C (pc := 24) 72 dX8_plan_24 (by rw [hc2]; decide) (by rw [hc2]; decide) (by rw [hc2]; rfl) (by decide) ?_
            refine a_aload_n C (pc := 72) 0 dX8_plan_72 rfl rfl ?_
            refine a_get C (pc := 73) 0 6 inW_X8 rfl rfl (Nat.le_of_ble_eq_true rfl) wF_X8_52 rfl rfl dX8_plan_73 ?_
            refine a_get C (pc := 76) 1 5 inW_X6 rfl rfl (Nat.le_of_ble_eq_true rfl) wF_X8_219 rfl rfl dX8_plan_76 ?_
            refine a_iload_n C (pc := 79) 1 dX8_plan_79 rfl rfl ?_
            refine a_iald C (pc := 80) 2 rfl h.1 dX8_plan_80 ?_
            replace h := h.2
            exact a_ireturn C (pc := 81) rfl dX8_plan_81 (Nat.le_of_ble_eq_true rfl) (Nat.le_of_ble_eq_true rfl) ⟨_, rfl, rfl, h⟩
          · have h := h.2.2.2 hc0 hc1 hc2
            refine a_tableOut C (pc := 24) 82 dX8_plan_24 (swo_2 hc0 hc1 hc2) (by decide) ?_
            exact a_throw C (pc := 82) (by decide +kernel) wK_X8_110 wI_NoSuchElementException atg_X8_112 atn_X8_112 (by decide +kernel) dX8_plan_82 dX8_plan_85 dX8_plan_86 dX8_plan_89 (Nat.le_of_ble_eq_true rfl) (Nat.le_of_ble_eq_true rfl) (Nat.le_of_ble_eq_true rfl) (Nat.le_of_ble_eq_true rfl) ⟨rfl, h⟩
    · have h := h.2 hc
      exact a_throw C (pc := 15) (by decide +kernel) wK_X8_110 wI_NoSuchElementException atg_X8_112 atn_X8_112 (by decide +kernel) dX8_plan_15 dX8_plan_18 dX8_plan_19 dX8_plan_22 (Nat.le_of_ble_eq_true rfl) (Nat.le_of_ble_eq_true rfl) (Nat.le_of_ble_eq_true rfl) (Nat.le_of_ble_eq_true rfl) ⟨rfl, h⟩
set_option maxRecDepth 100000 in
set_option maxHeartbeats 4000000 in
theorem w_X6_isDone_2 {Γ : XG} {Lx : Launch} {Dx : va_G} {cs : Nat → ClassId} {h0 : Nat} {d0 : Nat → Nat} {v_pickedTerms : Int32} {v_terms : Int32} {v_segments : Int32} {v_doneSegments : Int32} {v_donePostings : Int32} {v_postings : Int32} {v_why : Int32} {v_hits : Int32} {v_planTerm : Nat → Int32} {v_planImpact : Nat → Int32} {K_38 : Prop} {Φ : Int32 → Prop} {k n9 : Nat} (C : CX Γ Lx Dx cs cX6_isDone RX6 "isDone" 4 (some .boolean) 0 0 0 0 (qEC cs 0 0 [] (R_X6_isDone cs h0 d0 v_pickedTerms v_terms v_segments v_doneSegments v_donePostings v_postings v_why v_hits v_planTerm v_planImpact Φ) (fun _ _ => False))) (hkm : k ≤ 0) (hnm : n9 ≤ 0) : ∀ n : Nat, ∀ (l1 : Int32) (l2 : Int32) (l3 : Int32), L_X6_isDone_2 n v_doneSegments v_planTerm v_planImpact l1 l2 l3 K_38 Φ → (K_38 → AW Γ k n9 38 [] [] [(h0, oX6 d0 v_pickedTerms v_terms v_segments v_doneSegments v_donePostings v_postings v_why v_hits), ((d0 3), aI cs 320 v_planTerm), ((d0 4), aI cs 320 v_planImpact)]) → AW Γ k n9 2 [(0, .ref h0), (1, .int l1), (2, .int l2), (3, .int l3)] [] [(h0, oX6 d0 v_pickedTerms v_terms v_segments v_doneSegments v_donePostings v_postings v_why v_hits), ((d0 3), aI cs 320 v_planTerm), ((d0 4), aI cs 320 v_planImpact)] := by
  intro n
  induction n with
  | zero =>
    intro l1 l2 l3 h
    exact False.elim h
  | succ n ih =>
    intro l1 l2 l3 h hK_38
    rw [L_X6_isDone_2] at h
    refine a_iload_n C (pc := 2) 3 dX6_isDone_2 rfl rfl ?_
    refine a_aload_n C (pc := 3) 0 dX6_isDone_3 rfl rfl ?_
    refine a_get C (pc := 4) 0 11 inW_X6 rfl rfl (Nat.le_of_ble_eq_true rfl) wF_X6_46 rfl rfl dX6_isDone_4 ?_
    refine a_icmp_ge C (pc := 7) 38 dX6_isDone_7 (by decide) (fun hc => ?_) (fun hc => ?_)
    · have h := h.1 hc
      refine a_lv (lv1 := []) [] rfl ?_
      exact hK_38 h
    · have h := h.2 hc
      refine a_aload_n C (pc := 10) 0 dX6_isDone_10 rfl rfl ?_
      refine a_get C (pc := 11) 0 3 inW_X6 rfl rfl (Nat.le_of_ble_eq_true rfl) wF_X6_21 rfl rfl dX6_isDone_11 ?_
      refine a_iload_n C (pc := 14) 3 dX6_isDone_14 rfl rfl ?_
      refine a_iald C (pc := 15) 1 rfl h.1 dX6_isDone_15 ?_
      replace h := h.2
      refine a_iload_n C (pc := 16) 1 dX6_isDone_16 rfl rfl ?_
      refine a_icmp_ne C (pc := 17) 32 dX6_isDone_17 (by decide) (fun hc => ?_) (fun hc => ?_)
      · have h := h.1 hc
        refine a_iinc C (pc := 32) (lv1 := [(0, .ref h0), (1, .int l1), (2, .int l2), (3, .int (l3 + 1))]) 3 [1, 2, 3, 0] dX6_isDone_32 rfl (congrArg (fun z => l3 + z) ic_1) (by decide) rfl ?_
        refine a_goto C (pc := 35) 2 dX6_isDone_35 (by decide) ?_
        exact ih l1 l2 (l3 + 1) h hK_38
      · have h := h.2 hc
        refine a_aload_n C (pc := 20) 0 dX6_isDone_20 rfl rfl ?_
        refine a_get C (pc := 21) 0 4 inW_X6 rfl rfl (Nat.le_of_ble_eq_true rfl) wF_X6_24 rfl rfl dX6_isDone_21 ?_
        refine a_iload_n C (pc := 24) 3 dX6_isDone_24 rfl rfl ?_
        refine a_iald C (pc := 25) 2 rfl h.1 dX6_isDone_25 ?_
        replace h := h.2
        refine a_iload_n C (pc := 26) 2 dX6_isDone_26 rfl rfl ?_
        refine a_icmp_ne C (pc := 27) 32 dX6_isDone_27 (by decide) (fun hc => ?_) (fun hc => ?_)
        · have h := h.1 hc
          refine a_iinc C (pc := 32) (lv1 := [(0, .ref h0), (1, .int l1), (2, .int l2), (3, .int (l3 + 1))]) 3 [1, 2, 3, 0] dX6_isDone_32 rfl (congrArg (fun z => l3 + z) ic_1) (by decide) rfl ?_
          refine a_goto C (pc := 35) 2 dX6_isDone_35 (by decide) ?_
          exact ih l1 l2 (l3 + 1) h hK_38
        · have h := h.2 hc
          refine a_iconst C (pc := 30) dX6_isDone_30 ic_1 ?_
          exact a_zreturn C (pc := 31) rfl rfl dX6_isDone_31 hkm hnm ⟨_, rfl, rfl, h⟩
set_option maxRecDepth 100000 in
set_option maxHeartbeats 4000000 in
theorem m_X6_isDone (Lx : Launch) (Dx : va_G) (cs : Nat → ClassId) (h0 : Nat) (d0 : Nat → Nat) (v_pickedTerms : Int32) (v_terms : Int32) (v_segments : Int32) (v_doneSegments : Int32) (v_donePostings : Int32) (v_postings : Int32) (v_why : Int32) (v_hits : Int32) (v_planTerm : Nat → Int32) (v_planImpact : Nat → Int32) (l1 : Int32) (l2 : Int32) (Φ : Int32 → Prop) (h : P_X6_isDone v_doneSegments v_planTerm v_planImpact l1 l2 Φ) : XMet Lx Dx cs yX6_isDone cX6_isDone 4 (some .boolean) 0 0 0 0 [.ref h0, .int l1, .int l2] [(h0, oX6 d0 v_pickedTerms v_terms v_segments v_doneSegments v_donePostings v_postings v_why v_hits), ((d0 3), aI cs 320 v_planTerm), ((d0 4), aI cs 320 v_planImpact)] (R_X6_isDone cs h0 d0 v_pickedTerms v_terms v_segments v_doneSegments v_donePostings v_postings v_why v_hits v_planTerm v_planImpact Φ) (fun _ _ => False) := by
  refine XMet.of (own := RX6) (nm := "isDone") (by decide) rfl rfl (Nat.le_of_ble_eq_true rfl) (fun Γ C => ?_)
  unfold P_X6_isDone at h
  refine a_iconst C (pc := 0) dX6_isDone_0 ic_0 ?_
  refine a_istore_n C (pc := 1) (lv1 := [(0, .ref h0), (1, .int l1), (2, .int l2), (3, .int 0)]) [1, 2, 3, 0] dX6_isDone_1 rfl (by decide) rfl ?_
  obtain ⟨n0, h⟩ := h
  refine w_X6_isDone_2 C (Nat.le_of_ble_eq_true rfl) (Nat.le_of_ble_eq_true rfl) n0 l1 l2 0 h ?_
  intro h
  refine a_iconst C (pc := 38) dX6_isDone_38 ic_0 ?_
  exact a_zreturn C (pc := 39) rfl rfl dX6_isDone_39 (Nat.le_of_ble_eq_true rfl) (Nat.le_of_ble_eq_true rfl) ⟨_, rfl, rfl, h⟩
set_option maxRecDepth 100000 in
set_option maxHeartbeats 4000000 in
theorem w_X6_agreesByDocument_12 {Γ : XG} {Lx : Launch} {Dx : va_G} {cs : Nat → ClassId} {h0 : Nat} {d0 : Nat → Nat} {v_pickedTerms : Int32} {v_terms : Int32} {v_segments : Int32} {v_doneSegments : Int32} {v_donePostings : Int32} {v_postings : Int32} {v_why : Int32} {v_hits : Int32} {v_impactOf : Nat → Int32} {v_planTerm : Nat → Int32} {v_planImpact : Nat → Int32} {v_sums : Nat → Int32} {K_58 : Int32 → Int32 → Prop} {Φ : Int32 → Prop} {k n9 : Nat} (C : CX Γ Lx Dx cs cX6_agreesByDocument RX6 "agreesByDocument" 5 (some .boolean) 1 23 0 0 (qEC cs 0 0 [] (R_X6_agreesByDocument cs h0 d0 v_pickedTerms v_terms v_segments v_doneSegments v_donePostings v_postings v_why v_hits v_impactOf v_planTerm v_planImpact v_sums Φ) (fun _ _ => False))) (hkm : k ≤ 0) (hnm : n9 ≤ 0) : ∀ n : Nat, ∀ (l1 : Int32) (l2 : Int32) (l3 : Int32), L_X6_agreesByDocument_12 n v_terms v_doneSegments v_impactOf v_planTerm v_planImpact v_sums l1 l2 l3 K_58 Φ → (∀ (l1_2 : Int32) (l2_3 : Int32), K_58 l1_2 l2_3 → AW Γ k n9 58 [(0, .ref h0), (1, .int l1_2), (2, .int l2_3)] [] [(h0, oX6 d0 v_pickedTerms v_terms v_segments v_doneSegments v_donePostings v_postings v_why v_hits), ((d0 2), aI cs 320 v_impactOf), ((d0 3), aI cs 320 v_planTerm), ((d0 4), aI cs 320 v_planImpact), ((d0 6), aI cs 40 v_sums)]) → AW Γ k n9 12 [(0, .ref h0), (1, .int l1), (2, .int l2), (3, .int l3)] [] [(h0, oX6 d0 v_pickedTerms v_terms v_segments v_doneSegments v_donePostings v_postings v_why v_hits), ((d0 2), aI cs 320 v_impactOf), ((d0 3), aI cs 320 v_planTerm), ((d0 4), aI cs 320 v_planImpact), ((d0 6), aI cs 40 v_sums)] := by
  intro n
  induction n with
  | zero =>
    intro l1 l2 l3 h
    exact False.elim h
  | succ n ih =>
    intro l1 l2 l3 h hK_58
    rw [L_X6_agreesByDocument_12] at h
    refine a_iload_n C (pc := 12) 3 dX6_agreesByDocument_12 rfl rfl ?_
    refine a_aload_n C (pc := 13) 0 dX6_agreesByDocument_13 rfl rfl ?_
    refine a_get C (pc := 14) 0 9 inW_X6 rfl rfl (Nat.le_of_ble_eq_true rfl) wF_X6_40 rfl rfl dX6_agreesByDocument_14 ?_
    refine a_icmp_ge C (pc := 17) 58 dX6_agreesByDocument_17 (by decide) (fun hc => ?_) (fun hc => ?_)
    · have h := h.1 hc
      refine a_lv (lv1 := [(0, .ref h0), (1, .int l1), (2, .int l2)]) [0, 1, 2] rfl ?_
      exact hK_58 l1 l2 h
    · have h := h.2 hc
      refine a_aload_n C (pc := 20) 0 dX6_agreesByDocument_20 rfl rfl ?_
      refine a_get C (pc := 21) 0 2 inW_X6 rfl rfl (Nat.le_of_ble_eq_true rfl) wF_X6_18 rfl rfl dX6_agreesByDocument_21 ?_
      refine a_iload_n C (pc := 24) 3 dX6_agreesByDocument_24 rfl rfl ?_
      refine a_bipush C (pc := 25) dX6_agreesByDocument_25 bp_40 ?_
      refine a_imul C (pc := 27) dX6_agreesByDocument_27 ?_
      refine a_iload_n C (pc := 28) 1 dX6_agreesByDocument_28 rfl rfl ?_
      refine a_iadd C (pc := 29) dX6_agreesByDocument_29 ?_
      refine a_iald C (pc := 30) 1 rfl h.1 dX6_agreesByDocument_30 ?_
      replace h := h.2
      refine a_istore C (pc := 31) (lv1 := [(0, .ref h0), (1, .int l1), (2, .int l2), (3, .int l3), (4, .int (v_impactOf ((l3 * 40) + l1 : Int32).toNatClampNeg))]) [1, 2, 3, 4, 0] dX6_agreesByDocument_31 (by decide) rfl ?_
      refine a_iload_n C (pc := 33) 2 dX6_agreesByDocument_33 rfl rfl ?_
      refine a_aload_n C (pc := 34) 0 dX6_agreesByDocument_34 rfl rfl ?_
      refine a_iload_n C (pc := 35) 3 dX6_agreesByDocument_35 rfl rfl ?_
      refine a_iload C (pc := 36) 4 dX6_agreesByDocument_36 rfl ?_
      refine a_callV C (pc := 38) (av := [.int l3, .int (v_impactOf ((l3 * 40) + l1 : Int32).toNatClampNeg)]) (wr := [((d0 2), aI cs 320 v_impactOf), ((d0 6), aI cs 40 v_sums)]) (m_X6_isDone Lx Dx cs h0 d0 v_pickedTerms v_terms v_segments v_doneSegments v_donePostings v_postings v_why v_hits v_planTerm v_planImpact l3 (v_impactOf ((l3 * 40) + l1 : Int32).toNatClampNeg) _ h) [0, 2, 3] [1, 4] rfl rfl (by decide) (by decide) (by decide) wM_X6_92 wb_X6_isDone hy_X6_isDone (q0 := 0) rfl rfl rfl ⟨Nat.le_of_ble_eq_true rfl, Nat.le_of_ble_eq_true rfl⟩ (Nat.le_of_ble_eq_true rfl) hkm hnm rfl dX6_agreesByDocument_38 (fun v w1 hw => ?_) [] rfl (fun _ _ h => h.elim)
      obtain ⟨r_1, rfl, rfl, h⟩ := hw
      refine a_ws (st1 := [.int r_1, .int l2]) (ws1 := [(h0, oX6 d0 v_pickedTerms v_terms v_segments v_doneSegments v_donePostings v_postings v_why v_hits), ((d0 2), aI cs 320 v_impactOf), ((d0 3), aI cs 320 v_planTerm), ((d0 4), aI cs 320 v_planImpact), ((d0 6), aI cs 40 v_sums)]) k n9 41 [2, 0, 3, 4, 1] rfl rfl rfl rfl (by decide) rfl ?_
      refine a_if_eq C (pc := 41) 49 dX6_agreesByDocument_41 (by decide) (fun hc => ?_) (fun hc => ?_)
      · have h := h.1 hc
        refine a_iconst C (pc := 49) dX6_agreesByDocument_49 ic_0 ?_
        refine a_iadd C (pc := 50) dX6_agreesByDocument_50 ?_
        refine a_istore_n C (pc := 51) (lv1 := [(0, .ref h0), (1, .int l1), (2, .int (l2 + 0)), (3, .int l3), (4, .int (v_impactOf ((l3 * 40) + l1 : Int32).toNatClampNeg))]) [1, 2, 0, 3, 4] dX6_agreesByDocument_51 rfl (by decide) rfl ?_
        refine a_iinc C (pc := 52) (lv1 := [(0, .ref h0), (1, .int l1), (2, .int (l2 + 0)), (3, .int (l3 + 1)), (4, .int (v_impactOf ((l3 * 40) + l1 : Int32).toNatClampNeg))]) 3 [1, 2, 3, 0, 4] dX6_agreesByDocument_52 rfl (congrArg (fun z => l3 + z) ic_1) (by decide) rfl ?_
        refine a_goto C (pc := 55) 12 dX6_agreesByDocument_55 (by decide) ?_
        refine a_lv (lv1 := [(0, .ref h0), (1, .int l1), (2, .int (l2 + 0)), (3, .int (l3 + 1))]) [0, 1, 2, 3] rfl ?_
        exact ih l1 (l2 + 0) (l3 + 1) h hK_58
      · have h := h.2 hc
        refine a_iload C (pc := 44) 4 dX6_agreesByDocument_44 rfl ?_
        refine a_goto C (pc := 46) 50 dX6_agreesByDocument_46 (by decide) ?_
        refine a_iadd C (pc := 50) dX6_agreesByDocument_50 ?_
        refine a_istore_n C (pc := 51) (lv1 := [(0, .ref h0), (1, .int l1), (2, .int (l2 + (v_impactOf ((l3 * 40) + l1 : Int32).toNatClampNeg))), (3, .int l3), (4, .int (v_impactOf ((l3 * 40) + l1 : Int32).toNatClampNeg))]) [1, 2, 0, 3, 4] dX6_agreesByDocument_51 rfl (by decide) rfl ?_
        refine a_iinc C (pc := 52) (lv1 := [(0, .ref h0), (1, .int l1), (2, .int (l2 + (v_impactOf ((l3 * 40) + l1 : Int32).toNatClampNeg))), (3, .int (l3 + 1)), (4, .int (v_impactOf ((l3 * 40) + l1 : Int32).toNatClampNeg))]) 3 [1, 2, 3, 0, 4] dX6_agreesByDocument_52 rfl (congrArg (fun z => l3 + z) ic_1) (by decide) rfl ?_
        refine a_goto C (pc := 55) 12 dX6_agreesByDocument_55 (by decide) ?_
        refine a_lv (lv1 := [(0, .ref h0), (1, .int l1), (2, .int (l2 + (v_impactOf ((l3 * 40) + l1 : Int32).toNatClampNeg))), (3, .int (l3 + 1))]) [0, 1, 2, 3] rfl ?_
        exact ih l1 (l2 + (v_impactOf ((l3 * 40) + l1 : Int32).toNatClampNeg)) (l3 + 1) h hK_58
set_option maxRecDepth 100000 in
set_option maxHeartbeats 4000000 in
theorem w_X6_agreesByDocument_2 {Γ : XG} {Lx : Launch} {Dx : va_G} {cs : Nat → ClassId} {h0 : Nat} {d0 : Nat → Nat} {v_pickedTerms : Int32} {v_terms : Int32} {v_segments : Int32} {v_doneSegments : Int32} {v_donePostings : Int32} {v_postings : Int32} {v_why : Int32} {v_hits : Int32} {v_impactOf : Nat → Int32} {v_planTerm : Nat → Int32} {v_planImpact : Nat → Int32} {v_sums : Nat → Int32} {K_76 : Prop} {Φ : Int32 → Prop} {k n9 : Nat} (C : CX Γ Lx Dx cs cX6_agreesByDocument RX6 "agreesByDocument" 5 (some .boolean) 1 23 0 0 (qEC cs 0 0 [] (R_X6_agreesByDocument cs h0 d0 v_pickedTerms v_terms v_segments v_doneSegments v_donePostings v_postings v_why v_hits v_impactOf v_planTerm v_planImpact v_sums Φ) (fun _ _ => False))) (hkm : k ≤ 0) (hnm : n9 ≤ 0) : ∀ n : Nat, ∀ (l1 : Int32), L_X6_agreesByDocument_2 n v_terms v_doneSegments v_impactOf v_planTerm v_planImpact v_sums l1 K_76 Φ → (K_76 → AW Γ k n9 76 [] [] [(h0, oX6 d0 v_pickedTerms v_terms v_segments v_doneSegments v_donePostings v_postings v_why v_hits), ((d0 2), aI cs 320 v_impactOf), ((d0 3), aI cs 320 v_planTerm), ((d0 4), aI cs 320 v_planImpact), ((d0 6), aI cs 40 v_sums)]) → AW Γ k n9 2 [(0, .ref h0), (1, .int l1)] [] [(h0, oX6 d0 v_pickedTerms v_terms v_segments v_doneSegments v_donePostings v_postings v_why v_hits), ((d0 2), aI cs 320 v_impactOf), ((d0 3), aI cs 320 v_planTerm), ((d0 4), aI cs 320 v_planImpact), ((d0 6), aI cs 40 v_sums)] := by
  intro n
  induction n with
  | zero =>
    intro l1 h
    exact False.elim h
  | succ n ih =>
    intro l1 h hK_76
    rw [L_X6_agreesByDocument_2] at h
    refine a_iload_n C (pc := 2) 1 dX6_agreesByDocument_2 rfl rfl ?_
    refine a_bipush C (pc := 3) dX6_agreesByDocument_3 bp_40 ?_
    refine a_icmp_ge C (pc := 5) 76 dX6_agreesByDocument_5 (by decide) (fun hc => ?_) (fun hc => ?_)
    · have h := h.1 hc
      refine a_lv (lv1 := []) [] rfl ?_
      exact hK_76 h
    · have h := h.2 hc
      refine a_iconst C (pc := 8) dX6_agreesByDocument_8 ic_0 ?_
      refine a_istore_n C (pc := 9) (lv1 := [(0, .ref h0), (1, .int l1), (2, .int 0)]) [1, 2, 0] dX6_agreesByDocument_9 rfl (by decide) rfl ?_
      refine a_iconst C (pc := 10) dX6_agreesByDocument_10 ic_0 ?_
      refine a_istore_n C (pc := 11) (lv1 := [(0, .ref h0), (1, .int l1), (2, .int 0), (3, .int 0)]) [1, 2, 3, 0] dX6_agreesByDocument_11 rfl (by decide) rfl ?_
      obtain ⟨n0, h⟩ := h
      refine w_X6_agreesByDocument_12 C hkm hnm n0 l1 0 0 h ?_
      intro l1_4 l2_5 h
      refine a_iload_n C (pc := 58) 2 dX6_agreesByDocument_58 rfl rfl ?_
      refine a_aload_n C (pc := 59) 0 dX6_agreesByDocument_59 rfl rfl ?_
      refine a_get C (pc := 60) 0 6 inW_X6 rfl rfl (Nat.le_of_ble_eq_true rfl) wF_X6_30 rfl rfl dX6_agreesByDocument_60 ?_
      refine a_iload_n C (pc := 63) 1 dX6_agreesByDocument_63 rfl rfl ?_
      refine a_iald C (pc := 64) 4 rfl h.1 dX6_agreesByDocument_64 ?_
      replace h := h.2
      refine a_icmp_eq C (pc := 65) 70 dX6_agreesByDocument_65 (by decide) (fun hc => ?_) (fun hc => ?_)
      · have h := h.1 hc
        refine a_iinc C (pc := 70) (lv1 := [(0, .ref h0), (1, .int (l1_4 + 1)), (2, .int l2_5)]) 1 [1, 0, 2] dX6_agreesByDocument_70 rfl (congrArg (fun z => l1_4 + z) ic_1) (by decide) rfl ?_
        refine a_goto C (pc := 73) 2 dX6_agreesByDocument_73 (by decide) ?_
        refine a_lv (lv1 := [(0, .ref h0), (1, .int (l1_4 + 1))]) [0, 1] rfl ?_
        exact ih (l1_4 + 1) h hK_76
      · have h := h.2 hc
        refine a_iconst C (pc := 68) dX6_agreesByDocument_68 ic_0 ?_
        exact a_zreturn C (pc := 69) rfl rfl dX6_agreesByDocument_69 hkm hnm ⟨_, rfl, rfl, h⟩
set_option maxRecDepth 100000 in
set_option maxHeartbeats 4000000 in
theorem m_X6_agreesByDocument (Lx : Launch) (Dx : va_G) (cs : Nat → ClassId) (h0 : Nat) (d0 : Nat → Nat) (v_pickedTerms : Int32) (v_terms : Int32) (v_segments : Int32) (v_doneSegments : Int32) (v_donePostings : Int32) (v_postings : Int32) (v_why : Int32) (v_hits : Int32) (v_impactOf : Nat → Int32) (v_planTerm : Nat → Int32) (v_planImpact : Nat → Int32) (v_sums : Nat → Int32) (Φ : Int32 → Prop) (h : P_X6_agreesByDocument v_terms v_doneSegments v_impactOf v_planTerm v_planImpact v_sums Φ) : XMet Lx Dx cs yX6_agreesByDocument cX6_agreesByDocument 5 (some .boolean) 1 23 0 0 [.ref h0] [(h0, oX6 d0 v_pickedTerms v_terms v_segments v_doneSegments v_donePostings v_postings v_why v_hits), ((d0 2), aI cs 320 v_impactOf), ((d0 3), aI cs 320 v_planTerm), ((d0 4), aI cs 320 v_planImpact), ((d0 6), aI cs 40 v_sums)] (R_X6_agreesByDocument cs h0 d0 v_pickedTerms v_terms v_segments v_doneSegments v_donePostings v_postings v_why v_hits v_impactOf v_planTerm v_planImpact v_sums Φ) (fun _ _ => False) := by
  refine XMet.of (own := RX6) (nm := "agreesByDocument") (by decide) rfl rfl (Nat.le_of_ble_eq_true rfl) (fun Γ C => ?_)
  unfold P_X6_agreesByDocument at h
  refine a_iconst C (pc := 0) dX6_agreesByDocument_0 ic_0 ?_
  refine a_istore_n C (pc := 1) (lv1 := [(0, .ref h0), (1, .int 0)]) [1, 0] dX6_agreesByDocument_1 rfl (by decide) rfl ?_
  obtain ⟨n0, h⟩ := h
  refine w_X6_agreesByDocument_2 C (Nat.le_of_ble_eq_true rfl) (Nat.le_of_ble_eq_true rfl) n0 0 h ?_
  intro h
  refine a_iconst C (pc := 76) dX6_agreesByDocument_76 ic_1 ?_
  exact a_zreturn C (pc := 77) rfl rfl dX6_agreesByDocument_77 (Nat.le_of_ble_eq_true rfl) (Nat.le_of_ble_eq_true rfl) ⟨_, rfl, rfl, h⟩
set_option maxRecDepth 100000 in
set_option maxHeartbeats 4000000 in
theorem m_X8_exhaustive (Lx : Launch) (Dx : va_G) (cs : Nat → ClassId) (h0 : Nat) (hdr : Nat) (d0 : Nat → Nat) (d_search : Nat → Nat) (v_ticks : Int64) (v_search_pickedTerms : Int32) (v_search_terms : Int32) (v_search_segments : Int32) (v_search_doneSegments : Int32) (v_search_donePostings : Int32) (v_search_postings : Int32) (v_search_why : Int32) (v_search_hits : Int32) (v_search_impactOf : Nat → Int32) (v_search_planTerm : Nat → Int32) (v_search_planImpact : Nat → Int32) (v_search_sums : Nat → Int32) (Φ : Int32 → Prop) (h : P_X8_exhaustive v_search_terms v_search_doneSegments v_search_impactOf v_search_planTerm v_search_planImpact v_search_sums Φ) : XMet Lx Dx cs yX8_exhaustive cX8_exhaustive 1 (some .boolean) 2 47 0 0 [.ref h0] [(h0, oX8 d0 hdr v_ticks), ((d0 6), oX6 d_search v_search_pickedTerms v_search_terms v_search_segments v_search_doneSegments v_search_donePostings v_search_postings v_search_why v_search_hits), ((d_search 2), aI cs 320 v_search_impactOf), ((d_search 3), aI cs 320 v_search_planTerm), ((d_search 4), aI cs 320 v_search_planImpact), ((d_search 6), aI cs 40 v_search_sums)] (R_X8_exhaustive cs h0 hdr d0 d_search v_ticks v_search_pickedTerms v_search_terms v_search_segments v_search_doneSegments v_search_donePostings v_search_postings v_search_why v_search_hits v_search_impactOf v_search_planTerm v_search_planImpact v_search_sums Φ) (fun _ _ => False) := by
  refine XMet.of (own := RX8) (nm := "exhaustive") (by decide) rfl rfl (Nat.le_of_ble_eq_true rfl) (fun Γ C => ?_)
  unfold P_X8_exhaustive at h
  refine a_aload_n C (pc := 0) 0 dX8_exhaustive_0 rfl rfl ?_
  refine a_get C (pc := 1) 0 6 inW_X8 rfl rfl (Nat.le_of_ble_eq_true rfl) wF_X8_52 rfl rfl dX8_exhaustive_1 ?_
  refine a_callV C (pc := 4) (av := []) (wr := [(h0, oX8 d0 hdr v_ticks)]) (m_X6_agreesByDocument Lx Dx cs (d0 6) d_search v_search_pickedTerms v_search_terms v_search_segments v_search_doneSegments v_search_donePostings v_search_postings v_search_why v_search_hits v_search_impactOf v_search_planTerm v_search_planImpact v_search_sums _ h) [1, 2, 3, 4, 5] [0] rfl rfl (by decide) (by decide) (by decide) wM_X8_222 wb_X6_agreesByDocument hy_X6_agreesByDocument (q0 := 1) rfl rfl rfl ⟨Nat.le_of_ble_eq_true rfl, Nat.le_of_ble_eq_true rfl⟩ (Nat.le_of_ble_eq_true rfl) (Nat.le_of_ble_eq_true rfl) (Nat.le_of_ble_eq_true rfl) rfl dX8_exhaustive_4 (fun v w1 hw => ?_) [] rfl (fun _ _ h => h.elim)
  obtain ⟨r_1, rfl, rfl, h⟩ := hw
  refine a_ws (st1 := [.int r_1]) (ws1 := [(h0, oX8 d0 hdr v_ticks), ((d0 6), oX6 d_search v_search_pickedTerms v_search_terms v_search_segments v_search_doneSegments v_search_donePostings v_search_postings v_search_why v_search_hits), ((d_search 2), aI cs 320 v_search_impactOf), ((d_search 3), aI cs 320 v_search_planTerm), ((d_search 4), aI cs 320 v_search_planImpact), ((d_search 6), aI cs 40 v_search_sums)]) 0 0 7 [0, 1, 2, 3, 4, 5] rfl rfl rfl rfl (by decide) rfl ?_
  exact a_zreturn C (pc := 7) rfl h.1.1 dX8_exhaustive_7 (Nat.le_of_ble_eq_true rfl) (Nat.le_of_ble_eq_true rfl) ⟨_, rfl, rfl, h.2⟩
set_option maxRecDepth 100000 in
set_option maxHeartbeats 4000000 in
theorem w_X3_howManyKept_4 {Γ : XG} {Lx : Launch} {Dx : va_G} {cs : Nat → ClassId} {h0 : Nat} {d0 : Nat → Nat} {v_latest : Int32} {v_number : Nat → Int32} {K_27 : Int32 → Prop} {Φ : Int32 → Prop} {k n9 : Nat} (C : CX Γ Lx Dx cs cX3_howManyKept RX3 "howManyKept" 3 (some .int) 0 0 0 0 (qEC cs 0 0 [] (R_X3_howManyKept cs h0 d0 v_latest v_number Φ) (fun _ _ => False))) (hkm : k ≤ 0) (hnm : n9 ≤ 0) : ∀ n : Nat, ∀ (l1 : Int32) (l2 : Int32), L_X3_howManyKept_4 n v_number l1 l2 K_27 Φ → (∀ (l1_1 : Int32), K_27 l1_1 → AW Γ k n9 27 [(1, .int l1_1)] [] [(h0, oX3 d0 v_latest), ((d0 1), aI cs 3 v_number)]) → AW Γ k n9 4 [(0, .ref h0), (1, .int l1), (2, .int l2)] [] [(h0, oX3 d0 v_latest), ((d0 1), aI cs 3 v_number)] := by
  intro n
  induction n with
  | zero =>
    intro l1 l2 h
    exact False.elim h
  | succ n ih =>
    intro l1 l2 h hK_27
    rw [L_X3_howManyKept_4] at h
    refine a_iload_n C (pc := 4) 2 dX3_howManyKept_4 rfl rfl ?_
    refine a_iconst C (pc := 5) dX3_howManyKept_5 ic_3 ?_
    refine a_icmp_ge C (pc := 6) 27 dX3_howManyKept_6 (by decide) (fun hc => ?_) (fun hc => ?_)
    · have h := h.1 hc
      refine a_lv (lv1 := [(1, .int l1)]) [1] rfl ?_
      exact hK_27 l1 h
    · have h := h.2 hc
      refine a_aload_n C (pc := 9) 0 dX3_howManyKept_9 rfl rfl ?_
      refine a_get C (pc := 10) 0 1 inW_X3 rfl rfl (Nat.le_of_ble_eq_true rfl) wF_X3_17 rfl rfl dX3_howManyKept_10 ?_
      refine a_iload_n C (pc := 13) 2 dX3_howManyKept_13 rfl rfl ?_
      refine a_iald C (pc := 14) 1 rfl h.1 dX3_howManyKept_14 ?_
      replace h := h.2
      refine a_if_eq C (pc := 15) 21 dX3_howManyKept_15 (by decide) (fun hc => ?_) (fun hc => ?_)
      · have h := h.1 hc
        refine a_iinc C (pc := 21) (lv1 := [(0, .ref h0), (1, .int l1), (2, .int (l2 + 1))]) 2 [1, 2, 0] dX3_howManyKept_21 rfl (congrArg (fun z => l2 + z) ic_1) (by decide) rfl ?_
        refine a_goto C (pc := 24) 4 dX3_howManyKept_24 (by decide) ?_
        exact ih l1 (l2 + 1) h hK_27
      · have h := h.2 hc
        refine a_iinc C (pc := 18) (lv1 := [(0, .ref h0), (1, .int (l1 + 1)), (2, .int l2)]) 1 [1, 0, 2] dX3_howManyKept_18 rfl (congrArg (fun z => l1 + z) ic_1) (by decide) rfl ?_
        refine a_iinc C (pc := 21) (lv1 := [(0, .ref h0), (1, .int (l1 + 1)), (2, .int (l2 + 1))]) 2 [1, 2, 0] dX3_howManyKept_21 rfl (congrArg (fun z => l2 + z) ic_1) (by decide) rfl ?_
        refine a_goto C (pc := 24) 4 dX3_howManyKept_24 (by decide) ?_
        exact ih (l1 + 1) (l2 + 1) h hK_27
set_option maxRecDepth 100000 in
set_option maxHeartbeats 4000000 in
theorem m_X3_howManyKept (Lx : Launch) (Dx : va_G) (cs : Nat → ClassId) (h0 : Nat) (d0 : Nat → Nat) (v_latest : Int32) (v_number : Nat → Int32) (Φ : Int32 → Prop) (h : P_X3_howManyKept v_number Φ) : XMet Lx Dx cs yX3_howManyKept cX3_howManyKept 3 (some .int) 0 0 0 0 [.ref h0] [(h0, oX3 d0 v_latest), ((d0 1), aI cs 3 v_number)] (R_X3_howManyKept cs h0 d0 v_latest v_number Φ) (fun _ _ => False) := by
  refine XMet.of (own := RX3) (nm := "howManyKept") (by decide) rfl rfl (Nat.le_of_ble_eq_true rfl) (fun Γ C => ?_)
  unfold P_X3_howManyKept at h
  refine a_iconst C (pc := 0) dX3_howManyKept_0 ic_0 ?_
  refine a_istore_n C (pc := 1) (lv1 := [(0, .ref h0), (1, .int 0)]) [1, 0] dX3_howManyKept_1 rfl (by decide) rfl ?_
  refine a_iconst C (pc := 2) dX3_howManyKept_2 ic_0 ?_
  refine a_istore_n C (pc := 3) (lv1 := [(0, .ref h0), (1, .int 0), (2, .int 0)]) [1, 2, 0] dX3_howManyKept_3 rfl (by decide) rfl ?_
  obtain ⟨n0, h⟩ := h
  refine w_X3_howManyKept_4 C (Nat.le_of_ble_eq_true rfl) (Nat.le_of_ble_eq_true rfl) n0 0 0 h ?_
  intro l1_2 h
  refine a_iload_n C (pc := 27) 0 dX3_howManyKept_27 rfl rfl ?_
  exact a_ireturn C (pc := 28) rfl dX3_howManyKept_28 (Nat.le_of_ble_eq_true rfl) (Nat.le_of_ble_eq_true rfl) ⟨_, rfl, rfl, h⟩
set_option maxRecDepth 100000 in
set_option maxHeartbeats 4000000 in
theorem m_X8_look (Lx : Launch) (Dx : va_G) (cs : Nat → ClassId) (h0 : Nat) (hdr : Nat) (d0 : Nat → Nat) (d_tape : Nat → Nat) (d_file : Nat → Nat) (d_draft : Nat → Nat) (d_indexFile : Nat → Nat) (d_indexFile_gaps : Nat → Nat) (d_indexFile_proof : Nat → Nat) (d_generations : Nat → Nat) (v_ticks : Int64) (v_tape_size : Int32) (v_tape_place : Int32) (v_file_size : Int32) (v_file_place : Int32) (v_file_row : Nat → Int32) (v_draft_bits : Int32) (v_draft_documents : Int32) (v_draft_terms : Int32) (v_draft_segments : Int32) (v_draft_postings : Int32) (v_draft_term : Nat → Int64) (v_draft_firstSegment : Nat → Int32) (v_indexFile_gaps_many : Int32) (v_indexFile_gaps_gap : Nat → Int32) (v_draft_impact : Nat → Int32) (v_draft_firstPosting : Nat → Int32) (v_draft_document : Nat → Int32) (v_indexFile_proof_size : Int32) (v_indexFile_proof_place : Int32) (v_indexFile_proof_row : Nat → Int32) (v_generations_latest : Int32) (v_generations_number : Nat → Int32) (l1 : Int32) (Φ : Int32 → Int32 → Int32 → Int32 → Int32 → Int32 → Int32 → (Nat → Int64) → (Nat → Int32) → Int32 → (Nat → Int32) → (Nat → Int32) → (Nat → Int32) → (Nat → Int32) → Int32 → (Nat → Int32) → Prop) (X : String → Int32 → Int32 → Int32 → Int32 → Int32 → Int32 → (Nat → Int64) → (Nat → Int32) → Int32 → (Nat → Int32) → (Nat → Int32) → (Nat → Int32) → (Nat → Int32) → Int32 → (Nat → Int32) → Prop) (h : P_X8_look v_tape_size v_file_size v_file_place v_file_row v_draft_bits v_draft_documents v_draft_terms v_draft_segments v_draft_postings v_draft_term v_draft_firstSegment v_indexFile_gaps_many v_indexFile_gaps_gap v_draft_impact v_draft_firstPosting v_draft_document v_indexFile_proof_size v_indexFile_proof_row v_generations_latest v_generations_number l1 Φ X) : XMet Lx Dx cs yX8_look cX8_look 2 (some .int) 7 171 1 6 [.ref h0, .int l1] [(h0, oX8 d0 hdr v_ticks), ((d0 0), oX0 d_tape v_tape_size v_tape_place), ((d0 3), oX0 d_file v_file_size v_file_place), ((d_file 0), aB cs 6650 v_file_row), (hdr, oX4 d_draft v_draft_bits v_draft_documents v_draft_terms v_draft_segments v_draft_postings), ((d_draft 0), aJ cs 64 v_draft_term), ((d_draft 1), aI cs 65 v_draft_firstSegment), ((d0 4), oX5 d_indexFile), ((d_indexFile 0), oX2 d_indexFile_gaps v_indexFile_gaps_many), ((d_indexFile_gaps 0), aI cs 40 v_indexFile_gaps_gap), ((d_draft 2), aI cs 600 v_draft_impact), ((d_draft 3), aI cs 601 v_draft_firstPosting), ((d_draft 4), aI cs 600 v_draft_document), ((d_indexFile 1), oX0 d_indexFile_proof v_indexFile_proof_size v_indexFile_proof_place), ((d_indexFile_proof 0), aB cs 6650 v_indexFile_proof_row), ((d0 5), oX3 d_generations v_generations_latest), ((d_generations 1), aI cs 3 v_generations_number)] (R_X8_look cs h0 hdr d0 d_tape d_file d_draft d_indexFile d_indexFile_gaps d_indexFile_proof d_generations v_ticks v_tape_size v_tape_place v_file_size v_file_row v_indexFile_proof_place v_generations_latest v_generations_number Φ) (Y_X8_look cs h0 hdr d0 d_tape d_file d_draft d_indexFile d_indexFile_gaps d_indexFile_proof d_generations v_ticks v_tape_size v_tape_place v_file_size v_file_row v_indexFile_proof_place v_generations_latest v_generations_number X) := by
  refine XMet.of (own := RX8) (nm := "look") (by decide) rfl rfl (Nat.le_of_ble_eq_true rfl) (fun Γ C => ?_)
  unfold P_X8_look at h
  refine a_iload_n C (pc := 0) 1 dX8_look_0 rfl rfl ?_
  by_cases hc0 : l1 = 0
  · have h := h.1 hc0
    refine a_tableIn C (pc := 1) 36 dX8_look_1 (by rw [hc0]; decide) (by rw [hc0]; decide) (by rw [hc0]; rfl) (by decide) ?_
    refine a_aload_n C (pc := 36) 0 dX8_look_36 rfl rfl ?_
    refine a_get C (pc := 37) 0 5 inW_X8 rfl rfl (Nat.le_of_ble_eq_true rfl) wF_X8_45 rfl rfl dX8_look_37 ?_
    refine a_get C (pc := 40) 15 4 inW_X3 rfl rfl (Nat.le_of_ble_eq_true rfl) wF_X8_162 rfl rfl dX8_look_40 ?_
    exact a_ireturn C (pc := 43) rfl dX8_look_43 (Nat.le_of_ble_eq_true rfl) (Nat.le_of_ble_eq_true rfl) ⟨_, _, _, _, _, _, _, _, _, _, _, _, _, _, _, _, rfl, rfl, h⟩
  · by_cases hc1 : l1 = 1
    · have h := h.2.1 hc1
      refine a_tableIn C (pc := 1) 44 dX8_look_1 (by rw [hc1]; decide) (by rw [hc1]; decide) (by rw [hc1]; rfl) (by decide) ?_
      refine a_aload_n C (pc := 44) 0 dX8_look_44 rfl rfl ?_
      refine a_get C (pc := 45) 0 5 inW_X8 rfl rfl (Nat.le_of_ble_eq_true rfl) wF_X8_45 rfl rfl dX8_look_45 ?_
      refine a_callV C (pc := 48) (av := []) (wr := [(h0, oX8 d0 hdr v_ticks), ((d0 0), oX0 d_tape v_tape_size v_tape_place), ((d0 3), oX0 d_file v_file_size v_file_place), ((d_file 0), aB cs 6650 v_file_row), (hdr, oX4 d_draft v_draft_bits v_draft_documents v_draft_terms v_draft_segments v_draft_postings), ((d_draft 0), aJ cs 64 v_draft_term), ((d_draft 1), aI cs 65 v_draft_firstSegment), ((d0 4), oX5 d_indexFile), ((d_indexFile 0), oX2 d_indexFile_gaps v_indexFile_gaps_many), ((d_indexFile_gaps 0), aI cs 40 v_indexFile_gaps_gap), ((d_draft 2), aI cs 600 v_draft_impact), ((d_draft 3), aI cs 601 v_draft_firstPosting), ((d_draft 4), aI cs 600 v_draft_document), ((d_indexFile 1), oX0 d_indexFile_proof v_indexFile_proof_size v_indexFile_proof_place), ((d_indexFile_proof 0), aB cs 6650 v_indexFile_proof_row)]) (m_X3_howManyKept Lx Dx cs (d0 5) d_generations v_generations_latest v_generations_number _ h) [15, 16] [0, 1, 2, 3, 4, 5, 6, 7, 8, 9, 10, 11, 12, 13, 14] rfl rfl (by decide) (by decide) (by decide) wM_X8_226 wb_X3_howManyKept hy_X3_howManyKept (q0 := 15) rfl rfl rfl ⟨Nat.le_of_ble_eq_true rfl, Nat.le_of_ble_eq_true rfl⟩ (Nat.le_of_ble_eq_true rfl) (Nat.le_of_ble_eq_true rfl) (Nat.le_of_ble_eq_true rfl) rfl dX8_look_48 (fun v w1 hw => ?_) [] rfl (fun _ _ h => h.elim)
      obtain ⟨r_1, rfl, rfl, h⟩ := hw
      refine a_ws (st1 := [.int r_1]) (ws1 := [(h0, oX8 d0 hdr v_ticks), ((d0 0), oX0 d_tape v_tape_size v_tape_place), ((d0 3), oX0 d_file v_file_size v_file_place), ((d_file 0), aB cs 6650 v_file_row), (hdr, oX4 d_draft v_draft_bits v_draft_documents v_draft_terms v_draft_segments v_draft_postings), ((d_draft 0), aJ cs 64 v_draft_term), ((d_draft 1), aI cs 65 v_draft_firstSegment), ((d0 4), oX5 d_indexFile), ((d_indexFile 0), oX2 d_indexFile_gaps v_indexFile_gaps_many), ((d_indexFile_gaps 0), aI cs 40 v_indexFile_gaps_gap), ((d_draft 2), aI cs 600 v_draft_impact), ((d_draft 3), aI cs 601 v_draft_firstPosting), ((d_draft 4), aI cs 600 v_draft_document), ((d_indexFile 1), oX0 d_indexFile_proof v_indexFile_proof_size v_indexFile_proof_place), ((d_indexFile_proof 0), aB cs 6650 v_indexFile_proof_row), ((d0 5), oX3 d_generations v_generations_latest), ((d_generations 1), aI cs 3 v_generations_number)]) 0 0 51 [0, 1, 2, 3, 4, 5, 6, 7, 8, 9, 10, 11, 12, 13, 14, 15, 16] rfl rfl rfl rfl (by decide) rfl ?_
      exact a_ireturn C (pc := 51) rfl dX8_look_51 (Nat.le_of_ble_eq_true rfl) (Nat.le_of_ble_eq_true rfl) ⟨_, _, _, _, _, _, _, _, _, _, _, _, _, _, _, _, rfl, rfl, h⟩
    · by_cases hc2 : l1 = 2
      · have h := h.2.2.1 hc2
        refine a_tableIn C (pc := 1) 52 dX8_look_1 (by rw [hc2]; decide) (by rw [hc2]; decide) (by rw [hc2]; rfl) (by decide) ?_
        refine a_aload_n C (pc := 52) 0 dX8_look_52 rfl rfl ?_
        refine a_get C (pc := 53) 0 3 inW_X8 rfl rfl (Nat.le_of_ble_eq_true rfl) wF_X8_32 rfl rfl dX8_look_53 ?_
        refine a_callV C (pc := 56) (av := []) (wr := [(h0, oX8 d0 hdr v_ticks), ((d0 0), oX0 d_tape v_tape_size v_tape_place), ((d_file 0), aB cs 6650 v_file_row), (hdr, oX4 d_draft v_draft_bits v_draft_documents v_draft_terms v_draft_segments v_draft_postings), ((d_draft 0), aJ cs 64 v_draft_term), ((d_draft 1), aI cs 65 v_draft_firstSegment), ((d0 4), oX5 d_indexFile), ((d_indexFile 0), oX2 d_indexFile_gaps v_indexFile_gaps_many), ((d_indexFile_gaps 0), aI cs 40 v_indexFile_gaps_gap), ((d_draft 2), aI cs 600 v_draft_impact), ((d_draft 3), aI cs 601 v_draft_firstPosting), ((d_draft 4), aI cs 600 v_draft_document), ((d_indexFile 1), oX0 d_indexFile_proof v_indexFile_proof_size v_indexFile_proof_place), ((d_indexFile_proof 0), aB cs 6650 v_indexFile_proof_row), ((d0 5), oX3 d_generations v_generations_latest), ((d_generations 1), aI cs 3 v_generations_number)]) (m_X0_size Lx Dx cs (d0 3) d_file v_file_size v_file_place _ h) [2] [0, 1, 3, 4, 5, 6, 7, 8, 9, 10, 11, 12, 13, 14, 15, 16] rfl rfl (by decide) (by decide) (by decide) wM_X8_70 wb_X0_size hy_X0_size (q0 := 2) rfl rfl rfl ⟨Nat.le_of_ble_eq_true rfl, Nat.le_of_ble_eq_true rfl⟩ (Nat.le_of_ble_eq_true rfl) (Nat.le_of_ble_eq_true rfl) (Nat.le_of_ble_eq_true rfl) rfl dX8_look_56 (fun v w1 hw => ?_) [] rfl (fun _ _ h => h.elim)
        obtain ⟨r_2, rfl, rfl, h⟩ := hw
        refine a_ws (st1 := [.int r_2]) (ws1 := [(h0, oX8 d0 hdr v_ticks), ((d0 0), oX0 d_tape v_tape_size v_tape_place), ((d0 3), oX0 d_file v_file_size v_file_place), ((d_file 0), aB cs 6650 v_file_row), (hdr, oX4 d_draft v_draft_bits v_draft_documents v_draft_terms v_draft_segments v_draft_postings), ((d_draft 0), aJ cs 64 v_draft_term), ((d_draft 1), aI cs 65 v_draft_firstSegment), ((d0 4), oX5 d_indexFile), ((d_indexFile 0), oX2 d_indexFile_gaps v_indexFile_gaps_many), ((d_indexFile_gaps 0), aI cs 40 v_indexFile_gaps_gap), ((d_draft 2), aI cs 600 v_draft_impact), ((d_draft 3), aI cs 601 v_draft_firstPosting), ((d_draft 4), aI cs 600 v_draft_document), ((d_indexFile 1), oX0 d_indexFile_proof v_indexFile_proof_size v_indexFile_proof_place), ((d_indexFile_proof 0), aB cs 6650 v_indexFile_proof_row), ((d0 5), oX3 d_generations v_generations_latest), ((d_generations 1), aI cs 3 v_generations_number)]) 0 0 59 [0, 1, 16, 2, 3, 4, 5, 6, 7, 8, 9, 10, 11, 12, 13, 14, 15] rfl rfl rfl rfl (by decide) rfl ?_
        exact a_ireturn C (pc := 59) rfl dX8_look_59 (Nat.le_of_ble_eq_true rfl) (Nat.le_of_ble_eq_true rfl) ⟨_, _, _, _, _, _, _, _, _, _, _, _, _, _, _, _, rfl, rfl, h⟩
      · by_cases hc3 : l1 = 3
        · have h := h.2.2.2.1 hc3
          refine a_tableIn C (pc := 1) 60 dX8_look_1 (by rw [hc3]; decide) (by rw [hc3]; decide) (by rw [hc3]; rfl) (by decide) ?_
          refine a_aload_n C (pc := 60) 0 dX8_look_60 rfl rfl ?_
          refine a_get C (pc := 61) 0 4 inW_X8 rfl rfl (Nat.le_of_ble_eq_true rfl) wF_X8_38 rfl rfl dX8_look_61 ?_
          refine a_aload_n C (pc := 64) 0 dX8_look_64 rfl rfl ?_
          refine a_get C (pc := 65) 0 3 inW_X8 rfl rfl (Nat.le_of_ble_eq_true rfl) wF_X8_32 rfl rfl dX8_look_65 ?_
          refine a_aload_n C (pc := 68) 0 dX8_look_68 rfl rfl ?_
          refine a_get C (pc := 69) 0 7 inW_X8 rfl rfl (Nat.le_of_ble_eq_true rfl) wF_X8_59 rfl rfl dX8_look_69 ?_
          refine a_callV C (pc := 72) (av := [.ref (d0 3), .ref hdr]) (wr := [(h0, oX8 d0 hdr v_ticks), ((d0 0), oX0 d_tape v_tape_size v_tape_place), ((d0 5), oX3 d_generations v_generations_latest), ((d_generations 1), aI cs 3 v_generations_number)]) (m_X5_read Lx Dx cs 6650 (d0 4) (d0 3) hdr d_file d_draft d_indexFile d_indexFile_gaps d_indexFile_proof v_file_size v_file_place v_file_row v_draft_bits v_draft_documents v_draft_terms v_draft_segments v_draft_postings v_draft_term v_draft_firstSegment v_indexFile_gaps_many v_indexFile_gaps_gap v_draft_impact v_draft_firstPosting v_draft_document v_indexFile_proof_size v_indexFile_proof_place v_indexFile_proof_row _ h) [2, 3, 4, 5, 6, 7, 8, 9, 10, 11, 12, 13, 14] [0, 1, 15, 16] rfl rfl (by decide) (by decide) (by decide) wM_X8_151 wb_X5_read hy_X5_read (q0 := 7) rfl rfl rfl ⟨Nat.le_of_ble_eq_true rfl, Nat.le_of_ble_eq_true rfl⟩ (Nat.le_of_ble_eq_true rfl) (Nat.le_of_ble_eq_true rfl) (Nat.le_of_ble_eq_true rfl) rfl dX8_look_72 (fun v w1 hw => ?_) [] rfl (fun _ _ h => h.elim)
          obtain ⟨r_3, v_file_place_4, v_draft_bits_5, v_draft_documents_6, v_draft_terms_7, v_draft_segments_8, v_draft_postings_9, v_draft_term_10, v_draft_firstSegment_11, v_indexFile_gaps_many_12, v_indexFile_gaps_gap_13, v_draft_impact_14, v_draft_firstPosting_15, v_draft_document_16, v_indexFile_proof_size_17, v_indexFile_proof_row_18, rfl, rfl, h⟩ := hw
          refine a_ws (st1 := [.int r_3]) (ws1 := [(h0, oX8 d0 hdr v_ticks), ((d0 0), oX0 d_tape v_tape_size v_tape_place), ((d0 3), oX0 d_file v_file_size v_file_place_4), ((d_file 0), aB cs 6650 v_file_row), (hdr, oX4 d_draft v_draft_bits_5 v_draft_documents_6 v_draft_terms_7 v_draft_segments_8 v_draft_postings_9), ((d_draft 0), aJ cs 64 v_draft_term_10), ((d_draft 1), aI cs 65 v_draft_firstSegment_11), ((d0 4), oX5 d_indexFile), ((d_indexFile 0), oX2 d_indexFile_gaps v_indexFile_gaps_many_12), ((d_indexFile_gaps 0), aI cs 40 v_indexFile_gaps_gap_13), ((d_draft 2), aI cs 600 v_draft_impact_14), ((d_draft 3), aI cs 601 v_draft_firstPosting_15), ((d_draft 4), aI cs 600 v_draft_document_16), ((d_indexFile 1), oX0 d_indexFile_proof v_indexFile_proof_size_17 v_indexFile_proof_place), ((d_indexFile_proof 0), aB cs 6650 v_indexFile_proof_row_18), ((d0 5), oX3 d_generations v_generations_latest), ((d_generations 1), aI cs 3 v_generations_number)]) 0 0 75 [0, 1, 4, 5, 6, 7, 8, 9, 10, 11, 12, 13, 14, 15, 16, 2, 3] rfl rfl rfl rfl (by decide) rfl ?_
          refine a_if_eq C (pc := 75) 82 dX8_look_75 (by decide) (fun hc => ?_) (fun hc => ?_)
          · have h := h.1 hc
            refine a_iconst C (pc := 82) dX8_look_82 ic_0 ?_
            exact a_ireturn C (pc := 83) rfl dX8_look_83 (Nat.le_of_ble_eq_true rfl) (Nat.le_of_ble_eq_true rfl) ⟨_, _, _, _, _, _, _, _, _, _, _, _, _, _, _, _, rfl, rfl, h⟩
          · have h := h.2 hc
            refine a_iconst C (pc := 78) dX8_look_78 ic_1 ?_
            refine a_goto C (pc := 79) 83 dX8_look_79 (by decide) ?_
            exact a_ireturn C (pc := 83) rfl dX8_look_83 (Nat.le_of_ble_eq_true rfl) (Nat.le_of_ble_eq_true rfl) ⟨_, _, _, _, _, _, _, _, _, _, _, _, _, _, _, _, rfl, rfl, h⟩
        · by_cases hc4 : l1 = 4
          · have h := h.2.2.2.2.1 hc4
            refine a_tableIn C (pc := 1) 84 dX8_look_1 (by rw [hc4]; decide) (by rw [hc4]; decide) (by rw [hc4]; rfl) (by decide) ?_
            refine a_aload_n C (pc := 84) 0 dX8_look_84 rfl rfl ?_
            refine a_get C (pc := 85) 0 0 inW_X8 rfl rfl (Nat.le_of_ble_eq_true rfl) wF_X8_14 rfl rfl dX8_look_85 ?_
            refine a_callV C (pc := 88) (av := []) (wr := [(h0, oX8 d0 hdr v_ticks), ((d0 3), oX0 d_file v_file_size v_file_place), ((d_file 0), aB cs 6650 v_file_row), (hdr, oX4 d_draft v_draft_bits v_draft_documents v_draft_terms v_draft_segments v_draft_postings), ((d_draft 0), aJ cs 64 v_draft_term), ((d_draft 1), aI cs 65 v_draft_firstSegment), ((d0 4), oX5 d_indexFile), ((d_indexFile 0), oX2 d_indexFile_gaps v_indexFile_gaps_many), ((d_indexFile_gaps 0), aI cs 40 v_indexFile_gaps_gap), ((d_draft 2), aI cs 600 v_draft_impact), ((d_draft 3), aI cs 601 v_draft_firstPosting), ((d_draft 4), aI cs 600 v_draft_document), ((d_indexFile 1), oX0 d_indexFile_proof v_indexFile_proof_size v_indexFile_proof_place), ((d_indexFile_proof 0), aB cs 6650 v_indexFile_proof_row), ((d0 5), oX3 d_generations v_generations_latest), ((d_generations 1), aI cs 3 v_generations_number)]) (m_X0_size Lx Dx cs (d0 0) d_tape v_tape_size v_tape_place _ h) [1] [0, 2, 3, 4, 5, 6, 7, 8, 9, 10, 11, 12, 13, 14, 15, 16] rfl rfl (by decide) (by decide) (by decide) wM_X8_70 wb_X0_size hy_X0_size (q0 := 1) rfl rfl rfl ⟨Nat.le_of_ble_eq_true rfl, Nat.le_of_ble_eq_true rfl⟩ (Nat.le_of_ble_eq_true rfl) (Nat.le_of_ble_eq_true rfl) (Nat.le_of_ble_eq_true rfl) rfl dX8_look_88 (fun v w1 hw => ?_) [] rfl (fun _ _ h => h.elim)
            obtain ⟨r_19, rfl, rfl, h⟩ := hw
            refine a_ws (st1 := [.int r_19]) (ws1 := [(h0, oX8 d0 hdr v_ticks), ((d0 0), oX0 d_tape v_tape_size v_tape_place), ((d0 3), oX0 d_file v_file_size v_file_place), ((d_file 0), aB cs 6650 v_file_row), (hdr, oX4 d_draft v_draft_bits v_draft_documents v_draft_terms v_draft_segments v_draft_postings), ((d_draft 0), aJ cs 64 v_draft_term), ((d_draft 1), aI cs 65 v_draft_firstSegment), ((d0 4), oX5 d_indexFile), ((d_indexFile 0), oX2 d_indexFile_gaps v_indexFile_gaps_many), ((d_indexFile_gaps 0), aI cs 40 v_indexFile_gaps_gap), ((d_draft 2), aI cs 600 v_draft_impact), ((d_draft 3), aI cs 601 v_draft_firstPosting), ((d_draft 4), aI cs 600 v_draft_document), ((d_indexFile 1), oX0 d_indexFile_proof v_indexFile_proof_size v_indexFile_proof_place), ((d_indexFile_proof 0), aB cs 6650 v_indexFile_proof_row), ((d0 5), oX3 d_generations v_generations_latest), ((d_generations 1), aI cs 3 v_generations_number)]) 0 0 91 [0, 16, 1, 2, 3, 4, 5, 6, 7, 8, 9, 10, 11, 12, 13, 14, 15] rfl rfl rfl rfl (by decide) rfl ?_
            exact a_ireturn C (pc := 91) rfl dX8_look_91 (Nat.le_of_ble_eq_true rfl) (Nat.le_of_ble_eq_true rfl) ⟨_, _, _, _, _, _, _, _, _, _, _, _, _, _, _, _, rfl, rfl, h⟩
          · have h := h.2.2.2.2.2 hc0 hc1 hc2 hc3 hc4
            refine a_tableOut C (pc := 1) 92 dX8_look_1 (swo_4 hc0 hc1 hc2 hc3 hc4) (by decide) ?_
            exact a_throw C (pc := 92) (by decide +kernel) wK_X8_110 wI_NoSuchElementException atg_X8_112 atn_X8_112 (by decide +kernel) dX8_look_92 dX8_look_95 dX8_look_96 dX8_look_99 (Nat.le_of_ble_eq_true rfl) (Nat.le_of_ble_eq_true rfl) (Nat.le_of_ble_eq_true rfl) (Nat.le_of_ble_eq_true rfl) ⟨_, _, _, _, _, _, _, _, _, _, _, _, _, _, _, rfl, h⟩
set_option maxRecDepth 100000 in
set_option maxHeartbeats 4000000 in
theorem m_X8_holds (Lx : Launch) (Dx : va_G) (cs : Nat → ClassId) (h0 : Nat) (hdr : Nat) (d0 : Nat → Nat) (d_generations : Nat → Nat) (v_ticks : Int64) (v_generations_latest : Int32) (v_generations_held : Nat → Int32) (l1 : Int32) (Φ : Int32 → Prop) (X : String → Prop) (h : P_X8_holds v_generations_held l1 Φ X) : XMet Lx Dx cs yX8_holds cX8_holds 2 (some .int) 7 106 1 6 [.ref h0, .int l1] [(h0, oX8 d0 hdr v_ticks), ((d0 5), oX3 d_generations v_generations_latest), ((d_generations 3), aI cs 4 v_generations_held)] (R_X8_holds cs h0 hdr d0 d_generations v_ticks v_generations_latest v_generations_held Φ) (Y_X8_holds cs h0 hdr d0 d_generations v_ticks v_generations_latest v_generations_held X) := by
  refine XMet.of (own := RX8) (nm := "holds") (by decide) rfl rfl (Nat.le_of_ble_eq_true rfl) (fun Γ C => ?_)
  unfold P_X8_holds at h
  refine a_aload_n C (pc := 0) 0 dX8_holds_0 rfl rfl ?_
  refine a_iload_n C (pc := 1) 1 dX8_holds_1 rfl rfl ?_
  refine a_callV C (pc := 2) (av := [.int l1]) (wr := [(h0, oX8 d0 hdr v_ticks), ((d0 5), oX3 d_generations v_generations_latest), ((d_generations 3), aI cs 4 v_generations_held)]) (m_X8_requireReader Lx Dx cs h0 l1 _ _ h) [] [0, 1, 2] rfl rfl (by decide) (by decide) (by decide) wM_X8_165 wb_X8_requireReader hy_X8_requireReader (q0 := 0) rfl rfl rfl ⟨Nat.le_of_ble_eq_true rfl, Nat.le_of_ble_eq_true rfl⟩ (Nat.le_of_ble_eq_true rfl) (Nat.le_of_ble_eq_true rfl) (Nat.le_of_ble_eq_true rfl) rfl dX8_holds_2 (fun v w1 hw => ?_) [0, 1, 2] (by decide) (fun E w1 hx => by obtain ⟨rfl, hx⟩ := hx; exact ⟨[(h0, oX8 d0 hdr v_ticks), ((d0 5), oX3 d_generations v_generations_latest), ((d_generations 3), aI cs 4 v_generations_held)], rfl, rfl, hx⟩)
  obtain ⟨rfl, rfl, h⟩ := hw
  refine a_ws (st1 := []) (ws1 := [(h0, oX8 d0 hdr v_ticks), ((d0 5), oX3 d_generations v_generations_latest), ((d_generations 3), aI cs 4 v_generations_held)]) 1 6 5 [0, 1, 2] rfl rfl rfl rfl (by decide) rfl ?_
  refine a_aload_n C (pc := 5) 0 dX8_holds_5 rfl rfl ?_
  refine a_get C (pc := 6) 0 5 inW_X8 rfl rfl (Nat.le_of_ble_eq_true rfl) wF_X8_45 rfl rfl dX8_holds_6 ?_
  refine a_get C (pc := 9) 1 3 inW_X3 rfl rfl (Nat.le_of_ble_eq_true rfl) wF_X8_168 rfl rfl dX8_holds_9 ?_
  refine a_iload_n C (pc := 12) 1 dX8_holds_12 rfl rfl ?_
  refine a_iald C (pc := 13) 2 rfl h.1 dX8_holds_13 ?_
  replace h := h.2
  exact a_ireturn C (pc := 14) rfl dX8_holds_14 (Nat.le_of_ble_eq_true rfl) (Nat.le_of_ble_eq_true rfl) ⟨_, rfl, rfl, h⟩
set_option maxRecDepth 100000 in
set_option maxHeartbeats 4000000 in
theorem m_X8_index (Lx : Launch) (Dx : va_G) (cs : Nat → ClassId) (h0 : Nat) (hix : Nat) (hdr : Nat) (d0 : Nat → Nat) (d_generations : Nat → Nat) (dix : Nat → Nat) (v_ticks : Int64) (v_generations_latest : Int32) (v_generations_held : Nat → Int32) (v_generations_number : Nat → Int32) (v_generations_kept : Nat → Option Nat) (v_ix_bits : Int32) (v_ix_documents : Int32) (v_ix_terms : Int32) (v_ix_segments : Int32) (v_ix_postings : Int32) (l1 : Int32) (l2 : Int32) (Φ : Int32 → Prop) (X : String → Prop) (h : P_X8_index d_generations hix v_generations_held v_generations_number v_generations_kept v_ix_documents v_ix_terms v_ix_segments v_ix_postings l1 l2 Φ X) : XMet Lx Dx cs yX8_index cX8_index 4 (some .int) 7 106 2 12 [.ref h0, .int l1, .int l2] [(h0, oX8 d0 hdr v_ticks), ((d0 5), oX3 d_generations v_generations_latest), ((d_generations 3), aI cs 4 v_generations_held), ((d_generations 1), aI cs 3 v_generations_number), ((d_generations 0), aQ cs 3 v_generations_kept), (hix, oX4 dix v_ix_bits v_ix_documents v_ix_terms v_ix_segments v_ix_postings)] (R_X8_index cs h0 hix hdr d0 d_generations dix v_ticks v_generations_latest v_generations_held v_generations_number v_generations_kept v_ix_bits v_ix_documents v_ix_terms v_ix_segments v_ix_postings Φ) (Y_X8_index cs h0 hix hdr d0 d_generations dix v_ticks v_generations_latest v_generations_held v_generations_number v_generations_kept v_ix_bits v_ix_documents v_ix_terms v_ix_segments v_ix_postings X) := by
  refine XMet.of (own := RX8) (nm := "index") (by decide) rfl rfl (Nat.le_of_ble_eq_true rfl) (fun Γ C => ?_)
  unfold P_X8_index at h
  refine a_aload_n C (pc := 0) 0 dX8_index_0 rfl rfl ?_
  refine a_iload_n C (pc := 1) 1 dX8_index_1 rfl rfl ?_
  refine a_callV C (pc := 2) (av := [.int l1]) (wr := [(h0, oX8 d0 hdr v_ticks), ((d0 5), oX3 d_generations v_generations_latest), ((d_generations 3), aI cs 4 v_generations_held), ((d_generations 1), aI cs 3 v_generations_number), ((d_generations 0), aQ cs 3 v_generations_kept), (hix, oX4 dix v_ix_bits v_ix_documents v_ix_terms v_ix_segments v_ix_postings)]) (m_X8_requireReader Lx Dx cs h0 l1 _ _ h) [] [0, 1, 2, 3, 4, 5] rfl rfl (by decide) (by decide) (by decide) wM_X8_165 wb_X8_requireReader hy_X8_requireReader (q0 := 0) rfl rfl rfl ⟨Nat.le_of_ble_eq_true rfl, Nat.le_of_ble_eq_true rfl⟩ (Nat.le_of_ble_eq_true rfl) (Nat.le_of_ble_eq_true rfl) (Nat.le_of_ble_eq_true rfl) rfl dX8_index_2 (fun v w1 hw => ?_) [0, 1, 2, 3, 4, 5] (by decide) (fun E w1 hx => by obtain ⟨rfl, hx⟩ := hx; exact ⟨[(h0, oX8 d0 hdr v_ticks), ((d0 5), oX3 d_generations v_generations_latest), ((d_generations 3), aI cs 4 v_generations_held), ((d_generations 1), aI cs 3 v_generations_number), ((d_generations 0), aQ cs 3 v_generations_kept), (hix, oX4 dix v_ix_bits v_ix_documents v_ix_terms v_ix_segments v_ix_postings)], rfl, rfl, hx⟩)
  obtain ⟨rfl, rfl, h⟩ := hw
  refine a_ws (st1 := []) (ws1 := [(h0, oX8 d0 hdr v_ticks), ((d0 5), oX3 d_generations v_generations_latest), ((d_generations 3), aI cs 4 v_generations_held), ((d_generations 1), aI cs 3 v_generations_number), ((d_generations 0), aQ cs 3 v_generations_kept), (hix, oX4 dix v_ix_bits v_ix_documents v_ix_terms v_ix_segments v_ix_postings)]) 1 6 5 [0, 1, 2, 3, 4, 5] rfl rfl rfl rfl (by decide) rfl ?_
  refine a_iload_n C (pc := 5) 2 dX8_index_5 rfl rfl ?_
  refine a_if_lt C (pc := 6) 14 dX8_index_6 (by decide) (fun hc => ?_) (fun hc => ?_)
  · have h := h.1 hc
    exact a_throw C (pc := 14) (by decide +kernel) wK_X8_67 wI_IllegalArgumentException atg_X8_69 atn_X8_69 (by decide +kernel) dX8_index_14 dX8_index_17 dX8_index_18 dX8_index_21 (Nat.le_of_ble_eq_true rfl) (Nat.le_of_ble_eq_true rfl) (Nat.le_of_ble_eq_true rfl) (Nat.le_of_ble_eq_true rfl) ⟨rfl, h⟩
  · have h := h.2 hc
    refine a_iload_n C (pc := 9) 2 dX8_index_9 rfl rfl ?_
    refine a_iconst C (pc := 10) dX8_index_10 ic_3 ?_
    refine a_icmp_le C (pc := 11) 22 dX8_index_11 (by decide) (fun hc => ?_) (fun hc => ?_)
    · have h := h.1 hc
      refine a_aload_n C (pc := 22) 0 dX8_index_22 rfl rfl ?_
      refine a_iload_n C (pc := 23) 1 dX8_index_23 rfl rfl ?_
      refine a_callV C (pc := 24) (av := [.int l1]) (wr := [((d_generations 1), aI cs 3 v_generations_number), ((d_generations 0), aQ cs 3 v_generations_kept), (hix, oX4 dix v_ix_bits v_ix_documents v_ix_terms v_ix_segments v_ix_postings)]) (m_X8_requireOpen Lx Dx cs h0 hdr d0 d_generations v_ticks v_generations_latest v_generations_held l1 _ _ h) [0, 1, 2] [3, 4, 5] rfl rfl (by decide) (by decide) (by decide) wM_X8_175 wb_X8_requireOpen hy_X8_requireOpen (q0 := 0) rfl rfl rfl ⟨Nat.le_of_ble_eq_true rfl, Nat.le_of_ble_eq_true rfl⟩ (Nat.le_of_ble_eq_true rfl) (Nat.le_of_ble_eq_true rfl) (Nat.le_of_ble_eq_true rfl) rfl dX8_index_24 (fun v w1 hw => ?_) [3, 4, 5, 0, 1, 2] (by decide) (fun E w1 hx => by obtain ⟨rfl, hx⟩ := hx; exact ⟨[(h0, oX8 d0 hdr v_ticks), ((d0 5), oX3 d_generations v_generations_latest), ((d_generations 3), aI cs 4 v_generations_held), ((d_generations 1), aI cs 3 v_generations_number), ((d_generations 0), aQ cs 3 v_generations_kept), (hix, oX4 dix v_ix_bits v_ix_documents v_ix_terms v_ix_segments v_ix_postings)], rfl, rfl, hx⟩)
      obtain ⟨rfl, rfl, h⟩ := hw
      refine a_ws (st1 := []) (ws1 := [(h0, oX8 d0 hdr v_ticks), ((d0 5), oX3 d_generations v_generations_latest), ((d_generations 3), aI cs 4 v_generations_held), ((d_generations 1), aI cs 3 v_generations_number), ((d_generations 0), aQ cs 3 v_generations_kept), (hix, oX4 dix v_ix_bits v_ix_documents v_ix_terms v_ix_segments v_ix_postings)]) 2 12 27 [3, 4, 5, 0, 1, 2] rfl rfl rfl rfl (by decide) rfl ?_
      refine a_aload_n C (pc := 27) 0 dX8_index_27 rfl rfl ?_
      refine a_get C (pc := 28) 0 5 inW_X8 rfl rfl (Nat.le_of_ble_eq_true rfl) wF_X8_45 rfl rfl dX8_index_28 ?_
      refine a_iload_n C (pc := 31) 1 dX8_index_31 rfl rfl ?_
      refine a_callV C (pc := 32) (av := [.int l1]) (wr := [(h0, oX8 d0 hdr v_ticks), (hix, oX4 dix v_ix_bits v_ix_documents v_ix_terms v_ix_segments v_ix_postings)]) (m_X3_heldBy Lx Dx cs (d0 5) d_generations v_generations_latest v_generations_number v_generations_held v_generations_kept l1 _ h) [1, 3, 2, 4] [0, 5] rfl rfl (by decide) (by decide) (by decide) wM_X8_178 wb_X3_heldBy hy_X3_heldBy (q0 := 1) rfl rfl rfl ⟨Nat.le_of_ble_eq_true rfl, Nat.le_of_ble_eq_true rfl⟩ (Nat.le_of_ble_eq_true rfl) (Nat.le_of_ble_eq_true rfl) (Nat.le_of_ble_eq_true rfl) rfl dX8_index_32 (fun v w1 hw => ?_) [] rfl (fun _ _ h => h.elim)
      obtain ⟨r_1, rfl, rfl, h⟩ := hw
      obtain ⟨e9, h⟩ := h
      rw [e9]
      refine a_ws (st1 := [.ref hix]) (ws1 := [(h0, oX8 d0 hdr v_ticks), ((d0 5), oX3 d_generations v_generations_latest), ((d_generations 3), aI cs 4 v_generations_held), ((d_generations 1), aI cs 3 v_generations_number), ((d_generations 0), aQ cs 3 v_generations_kept), (hix, oX4 dix v_ix_bits v_ix_documents v_ix_terms v_ix_segments v_ix_postings)]) 2 12 35 [0, 2, 4, 3, 5, 1] rfl rfl rfl rfl (by decide) rfl ?_
      refine a_astore_n C (pc := 35) (lv1 := [(0, .ref h0), (1, .int l1), (2, .int l2), (3, .ref hix)]) [1, 2, 3, 0] dX8_index_35 rfl (by decide) rfl ?_
      refine a_iload_n C (pc := 36) 2 dX8_index_36 rfl rfl ?_
      by_cases hc0 : l2 = 0
      · have h := h.1 hc0
        refine a_tableIn C (pc := 37) 64 dX8_index_37 (by rw [hc0]; decide) (by rw [hc0]; decide) (by rw [hc0]; rfl) (by decide) ?_
        refine a_aload_n C (pc := 64) 3 dX8_index_64 rfl rfl ?_
        refine a_get C (pc := 65) 5 6 inW_X4 rfl rfl (Nat.le_of_ble_eq_true rfl) wF_X8_229 rfl rfl dX8_index_65 ?_
        exact a_ireturn C (pc := 68) rfl dX8_index_68 (Nat.le_of_ble_eq_true rfl) (Nat.le_of_ble_eq_true rfl) ⟨_, rfl, rfl, h⟩
      · by_cases hc1 : l2 = 1
        · have h := h.2.1 hc1
          refine a_tableIn C (pc := 37) 69 dX8_index_37 (by rw [hc1]; decide) (by rw [hc1]; decide) (by rw [hc1]; rfl) (by decide) ?_
          refine a_aload_n C (pc := 69) 3 dX8_index_69 rfl rfl ?_
          refine a_get C (pc := 70) 5 7 inW_X4 rfl rfl (Nat.le_of_ble_eq_true rfl) wF_X8_230 rfl rfl dX8_index_70 ?_
          exact a_ireturn C (pc := 73) rfl dX8_index_73 (Nat.le_of_ble_eq_true rfl) (Nat.le_of_ble_eq_true rfl) ⟨_, rfl, rfl, h⟩
        · by_cases hc2 : l2 = 2
          · have h := h.2.2.1 hc2
            refine a_tableIn C (pc := 37) 74 dX8_index_37 (by rw [hc2]; decide) (by rw [hc2]; decide) (by rw [hc2]; rfl) (by decide) ?_
            refine a_aload_n C (pc := 74) 3 dX8_index_74 rfl rfl ?_
            refine a_get C (pc := 75) 5 9 inW_X4 rfl rfl (Nat.le_of_ble_eq_true rfl) wF_X8_231 rfl rfl dX8_index_75 ?_
            exact a_ireturn C (pc := 78) rfl dX8_index_78 (Nat.le_of_ble_eq_true rfl) (Nat.le_of_ble_eq_true rfl) ⟨_, rfl, rfl, h⟩
          · have h := h.2.2.2 hc0 hc1 hc2
            refine a_tableOut C (pc := 37) 79 dX8_index_37 (swo_2 hc0 hc1 hc2) (by decide) ?_
            refine a_aload_n C (pc := 79) 3 dX8_index_79 rfl rfl ?_
            refine a_get C (pc := 80) 5 8 inW_X4 rfl rfl (Nat.le_of_ble_eq_true rfl) wF_X8_232 rfl rfl dX8_index_80 ?_
            exact a_ireturn C (pc := 83) rfl dX8_index_83 (Nat.le_of_ble_eq_true rfl) (Nat.le_of_ble_eq_true rfl) ⟨_, rfl, rfl, h⟩
    · have h := h.2 hc
      exact a_throw C (pc := 14) (by decide +kernel) wK_X8_67 wI_IllegalArgumentException atg_X8_69 atn_X8_69 (by decide +kernel) dX8_index_14 dX8_index_17 dX8_index_18 dX8_index_21 (Nat.le_of_ble_eq_true rfl) (Nat.le_of_ble_eq_true rfl) (Nat.le_of_ble_eq_true rfl) (Nat.le_of_ble_eq_true rfl) ⟨rfl, h⟩
set_option maxRecDepth 100000 in
set_option maxHeartbeats 4000000 in
theorem m_X8_clock (Lx : Launch) (Dx : va_G) (cs : Nat → ClassId) (h0 : Nat) (hdr : Nat) (d0 : Nat → Nat) (v_ticks : Int64) (Φ : Int64 → Prop) (h : P_X8_clock v_ticks Φ) : XMet Lx Dx cs yX8_clock cX8_clock 1 (some .long) 0 0 0 0 [.ref h0] [(h0, oX8 d0 hdr v_ticks)] (R_X8_clock cs h0 hdr d0 v_ticks Φ) (fun _ _ => False) := by
  refine XMet.of (own := RX8) (nm := "clock") (by decide) rfl rfl (Nat.le_of_ble_eq_true rfl) (fun Γ C => ?_)
  unfold P_X8_clock at h
  refine a_aload_n C (pc := 0) 0 dX8_clock_0 rfl rfl ?_
  refine a_get C (pc := 1) 0 8 inW_X8 rfl rfl (Nat.le_of_ble_eq_true rfl) wF_X8_63 rfl rfl dX8_clock_1 ?_
  exact a_lreturn C (pc := 4) rfl dX8_clock_4 (Nat.le_of_ble_eq_true rfl) (Nat.le_of_ble_eq_true rfl) ⟨_, rfl, rfl, h⟩
set_option maxRecDepth 100000 in
set_option maxHeartbeats 4000000 in
theorem m_X9_thrown (Lx : Launch) (Dx : va_G) (cs : Nat → ClassId) (h0 : Nat) (d0 : Nat → Nat) (v_thrown : Int32) (v_taped : Int32) (v_at : Int32) (v_documents : Int32) (v_terms : Int32) (v_latest : Int32) (v_filed : Int32) (v_drafted : Int32) (v_place : Int32) (v_over : Int32) (v_clock : Int64) (v_askedTerms : Int32) (v_segments : Int32) (v_done : Int32) (v_postingsDone : Int32) (v_postingsAll : Int32) (v_why : Int32) (v_hits : Int32) (Φ : Int32 → Prop) (h : P_X9_thrown v_thrown Φ) : XMet Lx Dx cs yX9_thrown cX9_thrown 1 (some .int) 0 0 0 0 [.ref h0] [(h0, oX9 d0 v_thrown v_taped v_at v_documents v_terms v_latest v_filed v_drafted v_place v_over v_clock v_askedTerms v_segments v_done v_postingsDone v_postingsAll v_why v_hits)] (R_X9_thrown cs h0 d0 v_thrown v_taped v_at v_documents v_terms v_latest v_filed v_drafted v_place v_over v_clock v_askedTerms v_segments v_done v_postingsDone v_postingsAll v_why v_hits Φ) (fun _ _ => False) := by
  refine XMet.of (own := RX9) (nm := "thrown") (by decide) rfl rfl (Nat.le_of_ble_eq_true rfl) (fun Γ C => ?_)
  unfold P_X9_thrown at h
  refine a_aload_n C (pc := 0) 0 dX9_thrown_0 rfl rfl ?_
  refine a_get C (pc := 1) 0 0 inW_X9 rfl rfl (Nat.le_of_ble_eq_true rfl) wF_X9_83 rfl rfl dX9_thrown_1 ?_
  exact a_ireturn C (pc := 4) rfl dX9_thrown_4 (Nat.le_of_ble_eq_true rfl) (Nat.le_of_ble_eq_true rfl) ⟨_, rfl, rfl, h⟩
set_option maxRecDepth 100000 in
set_option maxHeartbeats 4000000 in
theorem m_X9_fails (Lx : Launch) (Dx : va_G) (cs : Nat → ClassId) (h0 : Nat) (d0 : Nat → Nat) (v_thrown : Int32) (v_taped : Int32) (v_at : Int32) (v_documents : Int32) (v_terms : Int32) (v_latest : Int32) (v_filed : Int32) (v_drafted : Int32) (v_place : Int32) (v_over : Int32) (v_clock : Int64) (v_askedTerms : Int32) (v_segments : Int32) (v_done : Int32) (v_postingsDone : Int32) (v_postingsAll : Int32) (v_why : Int32) (v_hits : Int32) (l1 : Int32) (l2 : Int32) (Φ : Int32 → Int32 → Prop) (h : P_X9_fails v_thrown l1 l2 Φ) : XMet Lx Dx cs yX9_fails cX9_fails 3 (some .boolean) 0 0 0 0 [.ref h0, .int l1, .int l2] [(h0, oX9 d0 v_thrown v_taped v_at v_documents v_terms v_latest v_filed v_drafted v_place v_over v_clock v_askedTerms v_segments v_done v_postingsDone v_postingsAll v_why v_hits)] (R_X9_fails cs h0 d0 v_taped v_at v_documents v_terms v_latest v_filed v_drafted v_place v_over v_clock v_askedTerms v_segments v_done v_postingsDone v_postingsAll v_why v_hits Φ) (fun _ _ => False) := by
  refine XMet.of (own := RX9) (nm := "fails") (by decide) rfl rfl (Nat.le_of_ble_eq_true rfl) (fun Γ C => ?_)
  unfold P_X9_fails at h
  refine a_aload_n C (pc := 0) 0 dX9_fails_0 rfl rfl ?_
  refine a_iload_n C (pc := 1) 1 dX9_fails_1 rfl rfl ?_
  refine a_if_eq C (pc := 2) 9 dX9_fails_2 (by decide) (fun hc => ?_) (fun hc => ?_)
  · have h := h.1 hc
    refine a_iconst C (pc := 9) dX9_fails_9 ic_0 ?_
    refine a_put C (pc := 10) (ws1 := [(h0, oX9 d0 0 v_taped v_at v_documents v_terms v_latest v_filed v_drafted v_place v_over v_clock v_askedTerms v_segments v_done v_postingsDone v_postingsAll v_why v_hits)]) 0 0 inW_X9 tyX9 tyX9_ok nmX9 rfl rfl (Nat.le_of_ble_eq_true rfl) wF_X9_83 rfl rfl rfl rfl rfl (Nat.le_of_ble_eq_true rfl) dX9_fails_10 rfl ?_
    refine a_iload_n C (pc := 13) 1 dX9_fails_13 rfl rfl ?_
    exact a_zreturn C (pc := 14) rfl h.1.1 dX9_fails_14 (Nat.le_of_ble_eq_true rfl) (Nat.le_of_ble_eq_true rfl) ⟨_, _, rfl, rfl, h.2⟩
  · have h := h.2 hc
    refine a_iload_n C (pc := 5) 2 dX9_fails_5 rfl rfl ?_
    refine a_goto C (pc := 6) 10 dX9_fails_6 (by decide) ?_
    refine a_put C (pc := 10) (ws1 := [(h0, oX9 d0 l2 v_taped v_at v_documents v_terms v_latest v_filed v_drafted v_place v_over v_clock v_askedTerms v_segments v_done v_postingsDone v_postingsAll v_why v_hits)]) 0 0 inW_X9 tyX9 tyX9_ok nmX9 rfl rfl (Nat.le_of_ble_eq_true rfl) wF_X9_83 rfl rfl rfl rfl rfl (Nat.le_of_ble_eq_true rfl) dX9_fails_10 rfl ?_
    refine a_iload_n C (pc := 13) 1 dX9_fails_13 rfl rfl ?_
    exact a_zreturn C (pc := 14) rfl h.1.1 dX9_fails_14 (Nat.le_of_ble_eq_true rfl) (Nat.le_of_ble_eq_true rfl) ⟨_, _, rfl, rfl, h.2⟩
set_option maxRecDepth 100000 in
set_option maxHeartbeats 4000000 in
theorem m_X9_within (Lx : Launch) (Dx : va_G) (cs : Nat → ClassId) (l0 : Int64) (l2 : Int64) (l4 : Int64) (Φ : Int32 → Prop) (h : P_X9_within l0 l2 l4 Φ) : XMet Lx Dx cs yX9_within cX9_within 6 (some .boolean) 0 0 0 0 [.long l0, .long l2, .long l4] [] (R_X9_within cs Φ) (fun _ _ => False) := by
  refine XMet.of (own := RX9) (nm := "within") (by decide) rfl rfl (Nat.le_of_ble_eq_true rfl) (fun Γ C => ?_)
  unfold P_X9_within at h
  refine a_lload_n C (pc := 0) 0 dX9_within_0 rfl rfl ?_
  refine a_lload_n C (pc := 1) 1 dX9_within_1 rfl rfl ?_
  refine a_lcmp_lt C (pc := 2) 17 dX9_within_2 dX9_within_3 (by decide) (fun hc => ?_) (fun hc => ?_)
  · have h := h.1 hc
    refine a_iconst C (pc := 17) dX9_within_17 ic_0 ?_
    exact a_zreturn C (pc := 18) rfl rfl dX9_within_18 (Nat.le_of_ble_eq_true rfl) (Nat.le_of_ble_eq_true rfl) ⟨_, rfl, rfl, h⟩
  · have h := h.2 hc
    refine a_lload_n C (pc := 6) 0 dX9_within_6 rfl rfl ?_
    refine a_lload C (pc := 7) 2 dX9_within_7 rfl ?_
    refine a_lcmp_gt C (pc := 9) 17 dX9_within_9 dX9_within_10 (by decide) (fun hc => ?_) (fun hc => ?_)
    · have h := h.1 hc
      refine a_iconst C (pc := 17) dX9_within_17 ic_0 ?_
      exact a_zreturn C (pc := 18) rfl rfl dX9_within_18 (Nat.le_of_ble_eq_true rfl) (Nat.le_of_ble_eq_true rfl) ⟨_, rfl, rfl, h⟩
    · have h := h.2 hc
      refine a_iconst C (pc := 13) dX9_within_13 ic_1 ?_
      refine a_goto C (pc := 14) 18 dX9_within_14 (by decide) ?_
      exact a_zreturn C (pc := 18) rfl rfl dX9_within_18 (Nat.le_of_ble_eq_true rfl) (Nat.le_of_ble_eq_true rfl) ⟨_, rfl, rfl, h⟩
set_option maxRecDepth 100000 in
set_option maxHeartbeats 4000000 in
theorem w_X9_feed_55 {Γ : XG} {Lx : Launch} {Dx : va_G} {cs : Nat → ClassId} {h0 : Nat} {d0 : Nat → Nat} {v_at : Int32} {v_documents : Int32} {v_terms : Int32} {v_latest : Int32} {v_filed : Int32} {v_drafted : Int32} {v_place : Int32} {v_over : Int32} {v_clock : Int64} {v_askedTerms : Int32} {v_segments : Int32} {v_done : Int32} {v_postingsDone : Int32} {v_postingsAll : Int32} {v_why : Int32} {v_hits : Int32} {K_91 : Int32 → Int32 → (Nat → Int32) → Int32 → Prop} {Φ : Int32 → Int32 → Int32 → (Nat → Int32) → Prop} {k n9 : Nat} (C : CX Γ Lx Dx cs cX9_feed RX9 "feed" 5 (some .int) 1 25 0 0 (qEC cs 0 0 [] (R_X9_feed cs h0 d0 v_at v_documents v_terms v_latest v_filed v_drafted v_place v_over v_clock v_askedTerms v_segments v_done v_postingsDone v_postingsAll v_why v_hits Φ) (fun _ _ => False))) (hkm : k ≤ 0) (hnm : n9 ≤ 0) : ∀ n : Nat, ∀ (v_thrown : Int32) (v_taped : Int32) (v_tape : Nat → Int32) (l1 : Int32) (l2 : Int64) (l4 : Int32), L_X9_feed_55 n v_thrown v_taped v_tape l1 l2 l4 K_91 Φ → (∀ (v_thrown_6 : Int32) (v_taped_7 : Int32) (v_tape_8 : Nat → Int32) (l1_9 : Int32), K_91 v_thrown_6 v_taped_7 v_tape_8 l1_9 → AW Γ k n9 91 [(0, .ref h0), (1, .int l1_9)] [] [(h0, oX9 d0 v_thrown_6 v_taped_7 v_at v_documents v_terms v_latest v_filed v_drafted v_place v_over v_clock v_askedTerms v_segments v_done v_postingsDone v_postingsAll v_why v_hits), ((d0 1), aI cs 3000 v_tape_8)]) → AW Γ k n9 55 [(0, .ref h0), (1, .int l1), (2, .long l2), (4, .int l4)] [] [(h0, oX9 d0 v_thrown v_taped v_at v_documents v_terms v_latest v_filed v_drafted v_place v_over v_clock v_askedTerms v_segments v_done v_postingsDone v_postingsAll v_why v_hits), ((d0 1), aI cs 3000 v_tape)] := by
  intro n
  induction n with
  | zero =>
    intro v_thrown v_taped v_tape l1 l2 l4 h
    exact False.elim h
  | succ n ih =>
    intro v_thrown v_taped v_tape l1 l2 l4 h hK_91
    rw [L_X9_feed_55] at h
    refine a_iload C (pc := 55) 3 dX9_feed_55 rfl ?_
    refine a_iload_n C (pc := 57) 1 dX9_feed_57 rfl rfl ?_
    refine a_icmp_ge C (pc := 58) 91 dX9_feed_58 (by decide) (fun hc => ?_) (fun hc => ?_)
    · have h := h.1 hc
      refine a_lv (lv1 := [(0, .ref h0), (1, .int l1)]) [0, 1] rfl ?_
      exact hK_91 v_thrown v_taped v_tape l1 h
    · have h := h.2 hc
      refine a_aload_n C (pc := 61) 0 dX9_feed_61 rfl rfl ?_
      refine a_get C (pc := 62) 0 1 inW_X9 rfl rfl (Nat.le_of_ble_eq_true rfl) wF_X9_7 rfl rfl dX9_feed_62 ?_
      refine a_aload_n C (pc := 65) 0 dX9_feed_65 rfl rfl ?_
      refine a_get C (pc := 66) 0 2 inW_X9 rfl rfl (Nat.le_of_ble_eq_true rfl) wF_X9_97 rfl rfl dX9_feed_66 ?_
      refine a_iload C (pc := 69) 3 dX9_feed_69 rfl ?_
      refine a_iadd C (pc := 71) dX9_feed_71 ?_
      refine a_lload_n C (pc := 72) 2 dX9_feed_72 rfl rfl ?_
      refine a_bipush C (pc := 73) dX9_feed_73 bp_8 ?_
      refine a_iload C (pc := 75) 3 dX9_feed_75 rfl ?_
      refine a_imul C (pc := 77) dX9_feed_77 ?_
      refine a_lshr C (pc := 78) dX9_feed_78 ?_
      refine a_ldc2 C (pc := 79) wC_X9_100 dX9_feed_79 ?_
      refine a_land C (pc := 82) dX9_feed_82 ?_
      refine a_l2i C (pc := 83) dX9_feed_83 ?_
      refine a_iast C (pc := 84) (ws1 := [(h0, oX9 d0 v_thrown v_taped v_at v_documents v_terms v_latest v_filed v_drafted v_place v_over v_clock v_askedTerms v_segments v_done v_postingsDone v_postingsAll v_why v_hits), ((d0 1), aI cs 3000 (upd v_tape (v_taped + l4 : Int32).toNatClampNeg ((((l2 >>> ((8 * l4).toInt64 &&& 63)) &&& 255) : Int64).toInt32)))]) 1 rfl h.1 dX9_feed_84 rfl ?_
      replace h := h.2
      refine a_iinc C (pc := 85) (lv1 := [(0, .ref h0), (1, .int l1), (2, .long l2), (4, .int (l4 + 1))]) 3 [1, 2, 3, 0] dX9_feed_85 rfl (congrArg (fun z => l4 + z) ic_1) (by decide) rfl ?_
      refine a_goto C (pc := 88) 55 dX9_feed_88 (by decide) ?_
      exact ih v_thrown v_taped (upd v_tape (v_taped + l4 : Int32).toNatClampNeg ((((l2 >>> ((8 * l4).toInt64 &&& 63)) &&& 255) : Int64).toInt32)) l1 l2 (l4 + 1) h hK_91
set_option maxRecDepth 100000 in
set_option maxHeartbeats 4000000 in
theorem w_X9_feed_18 {Γ : XG} {Lx : Launch} {Dx : va_G} {cs : Nat → ClassId} {h0 : Nat} {d0 : Nat → Nat} {v_at : Int32} {v_documents : Int32} {v_terms : Int32} {v_latest : Int32} {v_filed : Int32} {v_drafted : Int32} {v_place : Int32} {v_over : Int32} {v_clock : Int64} {v_askedTerms : Int32} {v_segments : Int32} {v_done : Int32} {v_postingsDone : Int32} {v_postingsAll : Int32} {v_why : Int32} {v_hits : Int32} {Φ : Int32 → Int32 → Int32 → (Nat → Int32) → Prop} {k n9 : Nat} (C : CX Γ Lx Dx cs cX9_feed RX9 "feed" 5 (some .int) 1 25 0 0 (qEC cs 0 0 [] (R_X9_feed cs h0 d0 v_at v_documents v_terms v_latest v_filed v_drafted v_place v_over v_clock v_askedTerms v_segments v_done v_postingsDone v_postingsAll v_why v_hits Φ) (fun _ _ => False))) (hkm : k ≤ 0) (hnm : n9 ≤ 0) (v_thrown : Int32) (v_taped : Int32) (v_tape : Nat → Int32) (l1 : Int32) (l2 : Int64) (s1 : Int32) (h : J_X9_feed_18 v_thrown v_taped v_tape l1 l2 s1 Φ) : AW Γ k n9 18 [(0, .ref h0), (1, .int l1), (2, .long l2)] [.int s1, .ref h0] [(h0, oX9 d0 v_thrown v_taped v_at v_documents v_terms v_latest v_filed v_drafted v_place v_over v_clock v_askedTerms v_segments v_done v_postingsDone v_postingsAll v_why v_hits), ((d0 1), aI cs 3000 v_tape)] := by
  unfold J_X9_feed_18 at h
  refine a_iconst C (pc := 18) dX9_feed_18 ic_1 ?_
  refine a_callV C (pc := 19) (av := [.int s1, .int 1]) (wr := [((d0 1), aI cs 3000 v_tape)]) (m_X9_fails Lx Dx cs h0 d0 v_thrown v_taped v_at v_documents v_terms v_latest v_filed v_drafted v_place v_over v_clock v_askedTerms v_segments v_done v_postingsDone v_postingsAll v_why v_hits s1 1 _ h) [0] [1] rfl rfl (by decide) (by decide) (by decide) wM_X9_93 wb_X9_fails hy_X9_fails (q0 := 0) rfl rfl rfl ⟨Nat.le_of_ble_eq_true rfl, Nat.le_of_ble_eq_true rfl⟩ (Nat.le_of_ble_eq_true rfl) hkm hnm rfl dX9_feed_19 (fun v w1 hw => ?_) [] rfl (fun _ _ h => h.elim)
  obtain ⟨r_2, v_thrown_3, rfl, rfl, h⟩ := hw
  refine a_ws (st1 := [.int r_2]) (ws1 := [(h0, oX9 d0 v_thrown_3 v_taped v_at v_documents v_terms v_latest v_filed v_drafted v_place v_over v_clock v_askedTerms v_segments v_done v_postingsDone v_postingsAll v_why v_hits), ((d0 1), aI cs 3000 v_tape)]) k n9 22 [1, 0] rfl rfl rfl rfl (by decide) rfl ?_
  refine a_if_ne C (pc := 22) 50 dX9_feed_22 (by decide) (fun hc => ?_) (fun hc => ?_)
  · have h := h.1 hc
    refine a_iconst C (pc := 50) dX9_feed_50 ic_0 ?_
    exact a_ireturn C (pc := 51) rfl dX9_feed_51 hkm hnm ⟨_, _, _, _, rfl, rfl, h⟩
  · have h := h.2 hc
    refine a_aload_n C (pc := 25) 0 dX9_feed_25 rfl rfl ?_
    refine a_aload_n C (pc := 26) 0 dX9_feed_26 rfl rfl ?_
    refine a_get C (pc := 27) 0 2 inW_X9 rfl rfl (Nat.le_of_ble_eq_true rfl) wF_X9_97 rfl rfl dX9_feed_27 ?_
    refine a_iload_n C (pc := 30) 1 dX9_feed_30 rfl rfl ?_
    refine a_iadd C (pc := 31) dX9_feed_31 ?_
    refine a_sipush C (pc := 32) dX9_feed_32 sp_3000 ?_
    refine a_icmp_le C (pc := 35) 42 dX9_feed_35 (by decide) (fun hc => ?_) (fun hc => ?_)
    · have h := h.1 hc
      refine a_iconst C (pc := 42) dX9_feed_42 ic_0 ?_
      refine a_iconst C (pc := 43) dX9_feed_43 ic_2 ?_
      refine a_callV C (pc := 44) (av := [.int 0, .int 2]) (wr := [((d0 1), aI cs 3000 v_tape)]) (m_X9_fails Lx Dx cs h0 d0 v_thrown_3 v_taped v_at v_documents v_terms v_latest v_filed v_drafted v_place v_over v_clock v_askedTerms v_segments v_done v_postingsDone v_postingsAll v_why v_hits 0 2 _ h) [0] [1] rfl rfl (by decide) (by decide) (by decide) wM_X9_93 wb_X9_fails hy_X9_fails (q0 := 0) rfl rfl rfl ⟨Nat.le_of_ble_eq_true rfl, Nat.le_of_ble_eq_true rfl⟩ (Nat.le_of_ble_eq_true rfl) hkm hnm rfl dX9_feed_44 (fun v w1 hw => ?_) [] rfl (fun _ _ h => h.elim)
      obtain ⟨r_4, v_thrown_5, rfl, rfl, h⟩ := hw
      refine a_ws (st1 := [.int r_4]) (ws1 := [(h0, oX9 d0 v_thrown_5 v_taped v_at v_documents v_terms v_latest v_filed v_drafted v_place v_over v_clock v_askedTerms v_segments v_done v_postingsDone v_postingsAll v_why v_hits), ((d0 1), aI cs 3000 v_tape)]) k n9 47 [1, 0] rfl rfl rfl rfl (by decide) rfl ?_
      refine a_if_eq C (pc := 47) 52 dX9_feed_47 (by decide) (fun hc => ?_) (fun hc => ?_)
      · have h := h.1 hc
        refine a_iconst C (pc := 52) dX9_feed_52 ic_0 ?_
        refine a_istore C (pc := 53) (lv1 := [(0, .ref h0), (1, .int l1), (2, .long l2), (4, .int 0)]) [1, 2, 3, 0] dX9_feed_53 (by decide) rfl ?_
        obtain ⟨n0, h⟩ := h
        refine w_X9_feed_55 C hkm hnm n0 v_thrown_5 v_taped v_tape l1 l2 0 h ?_
        intro v_thrown_10 v_taped_11 v_tape_12 l1_13 h
        refine a_aload_n C (pc := 91) 0 dX9_feed_91 rfl rfl ?_
        refine a_dup C (pc := 92) dX9_feed_92 rfl ?_
        refine a_get C (pc := 93) 0 2 inW_X9 rfl rfl (Nat.le_of_ble_eq_true rfl) wF_X9_97 rfl rfl dX9_feed_93 ?_
        refine a_iload_n C (pc := 96) 1 dX9_feed_96 rfl rfl ?_
        refine a_iadd C (pc := 97) dX9_feed_97 ?_
        refine a_put C (pc := 98) (ws1 := [(h0, oX9 d0 v_thrown_10 (v_taped_11 + l1_13) v_at v_documents v_terms v_latest v_filed v_drafted v_place v_over v_clock v_askedTerms v_segments v_done v_postingsDone v_postingsAll v_why v_hits), ((d0 1), aI cs 3000 v_tape_12)]) 0 2 inW_X9 tyX9 tyX9_ok nmX9 rfl rfl (Nat.le_of_ble_eq_true rfl) wF_X9_97 rfl rfl rfl rfl rfl (Nat.le_of_ble_eq_true rfl) dX9_feed_98 rfl ?_
        refine a_aload_n C (pc := 101) 0 dX9_feed_101 rfl rfl ?_
        refine a_get C (pc := 102) 0 2 inW_X9 rfl rfl (Nat.le_of_ble_eq_true rfl) wF_X9_97 rfl rfl dX9_feed_102 ?_
        exact a_ireturn C (pc := 105) rfl dX9_feed_105 hkm hnm ⟨_, _, _, _, rfl, rfl, h⟩
      · have h := h.2 hc
        refine a_iconst C (pc := 50) dX9_feed_50 ic_0 ?_
        exact a_ireturn C (pc := 51) rfl dX9_feed_51 hkm hnm ⟨_, _, _, _, rfl, rfl, h⟩
    · have h := h.2 hc
      refine a_iconst C (pc := 38) dX9_feed_38 ic_1 ?_
      refine a_goto C (pc := 39) 43 dX9_feed_39 (by decide) ?_
      refine a_iconst C (pc := 43) dX9_feed_43 ic_2 ?_
      refine a_callV C (pc := 44) (av := [.int 1, .int 2]) (wr := [((d0 1), aI cs 3000 v_tape)]) (m_X9_fails Lx Dx cs h0 d0 v_thrown_3 v_taped v_at v_documents v_terms v_latest v_filed v_drafted v_place v_over v_clock v_askedTerms v_segments v_done v_postingsDone v_postingsAll v_why v_hits 1 2 _ h) [0] [1] rfl rfl (by decide) (by decide) (by decide) wM_X9_93 wb_X9_fails hy_X9_fails (q0 := 0) rfl rfl rfl ⟨Nat.le_of_ble_eq_true rfl, Nat.le_of_ble_eq_true rfl⟩ (Nat.le_of_ble_eq_true rfl) hkm hnm rfl dX9_feed_44 (fun v w1 hw => ?_) [] rfl (fun _ _ h => h.elim)
      obtain ⟨r_14, v_thrown_15, rfl, rfl, h⟩ := hw
      refine a_ws (st1 := [.int r_14]) (ws1 := [(h0, oX9 d0 v_thrown_15 v_taped v_at v_documents v_terms v_latest v_filed v_drafted v_place v_over v_clock v_askedTerms v_segments v_done v_postingsDone v_postingsAll v_why v_hits), ((d0 1), aI cs 3000 v_tape)]) k n9 47 [1, 0] rfl rfl rfl rfl (by decide) rfl ?_
      refine a_if_eq C (pc := 47) 52 dX9_feed_47 (by decide) (fun hc => ?_) (fun hc => ?_)
      · have h := h.1 hc
        refine a_iconst C (pc := 52) dX9_feed_52 ic_0 ?_
        refine a_istore C (pc := 53) (lv1 := [(0, .ref h0), (1, .int l1), (2, .long l2), (4, .int 0)]) [1, 2, 3, 0] dX9_feed_53 (by decide) rfl ?_
        obtain ⟨n0, h⟩ := h
        refine w_X9_feed_55 C hkm hnm n0 v_thrown_15 v_taped v_tape l1 l2 0 h ?_
        intro v_thrown_16 v_taped_17 v_tape_18 l1_19 h
        refine a_aload_n C (pc := 91) 0 dX9_feed_91 rfl rfl ?_
        refine a_dup C (pc := 92) dX9_feed_92 rfl ?_
        refine a_get C (pc := 93) 0 2 inW_X9 rfl rfl (Nat.le_of_ble_eq_true rfl) wF_X9_97 rfl rfl dX9_feed_93 ?_
        refine a_iload_n C (pc := 96) 1 dX9_feed_96 rfl rfl ?_
        refine a_iadd C (pc := 97) dX9_feed_97 ?_
        refine a_put C (pc := 98) (ws1 := [(h0, oX9 d0 v_thrown_16 (v_taped_17 + l1_19) v_at v_documents v_terms v_latest v_filed v_drafted v_place v_over v_clock v_askedTerms v_segments v_done v_postingsDone v_postingsAll v_why v_hits), ((d0 1), aI cs 3000 v_tape_18)]) 0 2 inW_X9 tyX9 tyX9_ok nmX9 rfl rfl (Nat.le_of_ble_eq_true rfl) wF_X9_97 rfl rfl rfl rfl rfl (Nat.le_of_ble_eq_true rfl) dX9_feed_98 rfl ?_
        refine a_aload_n C (pc := 101) 0 dX9_feed_101 rfl rfl ?_
        refine a_get C (pc := 102) 0 2 inW_X9 rfl rfl (Nat.le_of_ble_eq_true rfl) wF_X9_97 rfl rfl dX9_feed_102 ?_
        exact a_ireturn C (pc := 105) rfl dX9_feed_105 hkm hnm ⟨_, _, _, _, rfl, rfl, h⟩
      · have h := h.2 hc
        refine a_iconst C (pc := 50) dX9_feed_50 ic_0 ?_
        exact a_ireturn C (pc := 51) rfl dX9_feed_51 hkm hnm ⟨_, _, _, _, rfl, rfl, h⟩
set_option maxRecDepth 100000 in
set_option maxHeartbeats 4000000 in
theorem m_X9_feed (Lx : Launch) (Dx : va_G) (cs : Nat → ClassId) (h0 : Nat) (d0 : Nat → Nat) (v_thrown : Int32) (v_taped : Int32) (v_at : Int32) (v_documents : Int32) (v_terms : Int32) (v_latest : Int32) (v_filed : Int32) (v_drafted : Int32) (v_place : Int32) (v_over : Int32) (v_clock : Int64) (v_askedTerms : Int32) (v_segments : Int32) (v_done : Int32) (v_postingsDone : Int32) (v_postingsAll : Int32) (v_why : Int32) (v_hits : Int32) (v_tape : Nat → Int32) (l1 : Int32) (l2 : Int64) (Φ : Int32 → Int32 → Int32 → (Nat → Int32) → Prop) (h : P_X9_feed v_thrown v_taped v_tape l1 l2 Φ) : XMet Lx Dx cs yX9_feed cX9_feed 5 (some .int) 1 25 0 0 [.ref h0, .int l1, .long l2] [(h0, oX9 d0 v_thrown v_taped v_at v_documents v_terms v_latest v_filed v_drafted v_place v_over v_clock v_askedTerms v_segments v_done v_postingsDone v_postingsAll v_why v_hits), ((d0 1), aI cs 3000 v_tape)] (R_X9_feed cs h0 d0 v_at v_documents v_terms v_latest v_filed v_drafted v_place v_over v_clock v_askedTerms v_segments v_done v_postingsDone v_postingsAll v_why v_hits Φ) (fun _ _ => False) := by
  refine XMet.of (own := RX9) (nm := "feed") (by decide) rfl rfl (Nat.le_of_ble_eq_true rfl) (fun Γ C => ?_)
  unfold P_X9_feed at h
  refine a_aload_n C (pc := 0) 0 dX9_feed_0 rfl rfl ?_
  refine a_iload_n C (pc := 1) 1 dX9_feed_1 rfl rfl ?_
  refine a_i2l C (pc := 2) dX9_feed_2 ?_
  refine a_lconst C (pc := 3) (v := 1) dX9_feed_3 rfl ?_
  refine a_ldc2 C (pc := 4) wC_X9_87 dX9_feed_4 ?_
  refine a_callS C (pc := 7) (av := [.long ((l1 : Int32).toInt64), .long 1, .long 8]) (wr := [(h0, oX9 d0 v_thrown v_taped v_at v_documents v_terms v_latest v_filed v_drafted v_place v_over v_clock v_askedTerms v_segments v_done v_postingsDone v_postingsAll v_why v_hits), ((d0 1), aI cs 3000 v_tape)]) (m_X9_within Lx Dx cs ((l1 : Int32).toInt64) 1 8 _ h) [] [0, 1] rfl rfl (by decide) (by decide) (by decide) wM_X9_89 wb_X9_within hy_X9_within rfl ⟨Nat.le_of_ble_eq_true rfl, Nat.le_of_ble_eq_true rfl⟩ (Nat.le_of_ble_eq_true rfl) (Nat.le_of_ble_eq_true rfl) (Nat.le_of_ble_eq_true rfl) rfl dX9_feed_7 (fun v w1 hw => ?_) [] rfl (fun _ _ h => h.elim)
  obtain ⟨r_1, rfl, rfl, h⟩ := hw
  refine a_ws (st1 := [.int r_1, .ref h0]) (ws1 := [(h0, oX9 d0 v_thrown v_taped v_at v_documents v_terms v_latest v_filed v_drafted v_place v_over v_clock v_askedTerms v_segments v_done v_postingsDone v_postingsAll v_why v_hits), ((d0 1), aI cs 3000 v_tape)]) 0 0 10 [0, 1] rfl rfl rfl rfl (by decide) rfl ?_
  refine a_if_ne C (pc := 10) 17 dX9_feed_10 (by decide) (fun hc => ?_) (fun hc => ?_)
  · have h := h.1 hc
    refine a_iconst C (pc := 17) dX9_feed_17 ic_0 ?_
    exact w_X9_feed_18 C (Nat.le_of_ble_eq_true rfl) (Nat.le_of_ble_eq_true rfl) v_thrown v_taped v_tape l1 l2 0 h
  · have h := h.2 hc
    refine a_iconst C (pc := 13) dX9_feed_13 ic_1 ?_
    refine a_goto C (pc := 14) 18 dX9_feed_14 (by decide) ?_
    exact w_X9_feed_18 C (Nat.le_of_ble_eq_true rfl) (Nat.le_of_ble_eq_true rfl) v_thrown v_taped v_tape l1 l2 1 h
set_option maxRecDepth 100000 in
set_option maxHeartbeats 4000000 in
theorem w_X9_small_14 {Γ : XG} {Lx : Launch} {Dx : va_G} {cs : Nat → ClassId} {Φ : Int32 → Prop} {k n9 : Nat} (C : CX Γ Lx Dx cs cX9_small RX9 "small" 1 (some .int) 0 0 0 0 (qEC cs 0 0 [] (R_X9_small cs Φ) (fun _ _ => False))) (hkm : k ≤ 0) (hnm : n9 ≤ 0) (l0 : Int32) (h : J_X9_small_14 l0 Φ) : AW Γ k n9 14 [(0, .int l0)] [] [] := by
  unfold J_X9_small_14 at h
  refine a_iload_n C (pc := 14) 0 dX9_small_14 rfl rfl ?_
  refine a_bipush C (pc := 15) dX9_small_15 bp_65 ?_
  refine a_icmp_lt C (pc := 17) 33 dX9_small_17 (by decide) (fun hc => ?_) (fun hc => ?_)
  · have h := h.1 hc
    refine a_iconst C (pc := 33) dX9_small_33 ic_0 ?_
    exact a_ireturn C (pc := 34) rfl dX9_small_34 hkm hnm ⟨_, rfl, rfl, h⟩
  · have h := h.2 hc
    refine a_iload_n C (pc := 20) 0 dX9_small_20 rfl rfl ?_
    refine a_bipush C (pc := 21) dX9_small_21 bp_90 ?_
    refine a_icmp_gt C (pc := 23) 33 dX9_small_23 (by decide) (fun hc => ?_) (fun hc => ?_)
    · have h := h.1 hc
      refine a_iconst C (pc := 33) dX9_small_33 ic_0 ?_
      exact a_ireturn C (pc := 34) rfl dX9_small_34 hkm hnm ⟨_, rfl, rfl, h⟩
    · have h := h.2 hc
      refine a_iload_n C (pc := 26) 0 dX9_small_26 rfl rfl ?_
      refine a_bipush C (pc := 27) dX9_small_27 bp_32 ?_
      refine a_iadd C (pc := 29) dX9_small_29 ?_
      refine a_goto C (pc := 30) 34 dX9_small_30 (by decide) ?_
      exact a_ireturn C (pc := 34) rfl dX9_small_34 hkm hnm ⟨_, rfl, rfl, h⟩
set_option maxRecDepth 100000 in
set_option maxHeartbeats 4000000 in
theorem m_X9_small (Lx : Launch) (Dx : va_G) (cs : Nat → ClassId) (l0 : Int32) (Φ : Int32 → Prop) (h : P_X9_small l0 Φ) : XMet Lx Dx cs yX9_small cX9_small 1 (some .int) 0 0 0 0 [.int l0] [] (R_X9_small cs Φ) (fun _ _ => False) := by
  refine XMet.of (own := RX9) (nm := "small") (by decide) rfl rfl (Nat.le_of_ble_eq_true rfl) (fun Γ C => ?_)
  unfold P_X9_small at h
  refine a_iload_n C (pc := 0) 0 dX9_small_0 rfl rfl ?_
  refine a_bipush C (pc := 1) dX9_small_1 bp_97 ?_
  refine a_icmp_lt C (pc := 3) 14 dX9_small_3 (by decide) (fun hc => ?_) (fun hc => ?_)
  · have h := h.1 hc
    exact w_X9_small_14 C (Nat.le_of_ble_eq_true rfl) (Nat.le_of_ble_eq_true rfl) l0 h
  · have h := h.2 hc
    refine a_iload_n C (pc := 6) 0 dX9_small_6 rfl rfl ?_
    refine a_bipush C (pc := 7) dX9_small_7 bp_122 ?_
    refine a_icmp_gt C (pc := 9) 14 dX9_small_9 (by decide) (fun hc => ?_) (fun hc => ?_)
    · have h := h.1 hc
      exact w_X9_small_14 C (Nat.le_of_ble_eq_true rfl) (Nat.le_of_ble_eq_true rfl) l0 h
    · have h := h.2 hc
      refine a_iload_n C (pc := 12) 0 dX9_small_12 rfl rfl ?_
      exact a_ireturn C (pc := 13) rfl dX9_small_13 (Nat.le_of_ble_eq_true rfl) (Nat.le_of_ble_eq_true rfl) ⟨_, rfl, rfl, h⟩
