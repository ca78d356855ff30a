set_option maxRecDepth 100000 in
set_option maxHeartbeats 4000000 in
theorem m_X8_score (Lx : Launch) (Dx : va_G) (cs : Nat → ClassId) (h0 : Nat) (hdr : Nat) (d0 : Nat → Nat) (d_words : Nat → Nat) (d_tape : Nat → Nat) (d_collection : Nat → Nat) (v_ticks : Int64) (v_words_distinct : Int32) (v_words_total : Int32) (v_tape_size : Int32) (v_tape_place : Int32) (v_tape_row : Nat → Int32) (v_words_term : Nat → Int64) (v_words_times : Nat → Int32) (v_collection_documents : Int32) (v_collection_terms : Int32) (v_collection_postings : Int32) (v_collection_lengthOfAll : Int32) (v_collection_term : Nat → Int64) (v_collection_times : Nat → Int32) (v_collection_inDocuments : Nat → Int32) (v_collection_length : Nat → Int32) (l1 : Int32) (Φ : UInt64 → Int32 → Int32 → Int32 → (Nat → Int64) → (Nat → Int32) → Prop) (X : String → Int32 → Int32 → Int32 → (Nat → Int64) → (Nat → Int32) → Prop) (h : P_X8_score v_words_distinct v_words_total v_tape_size v_tape_row v_words_term v_words_times v_collection_documents v_collection_terms v_collection_lengthOfAll v_collection_term v_collection_times v_collection_inDocuments v_collection_length l1 Φ X) : XMet Lx Dx cs yX8_score cX8_score 2 (some .double) 6 117 1 6 [.ref h0, .int l1] [(h0, oX8 d0 hdr v_ticks), ((d0 1), oX7 d_words v_words_distinct v_words_total), ((d0 0), oX0 d_tape v_tape_size v_tape_place), ((d_tape 0), aB cs 3000 v_tape_row), ((d_words 0), aJ cs 1500 v_words_term), ((d_words 1), aI cs 1500 v_words_times), ((d0 2), oX1 d_collection v_collection_documents v_collection_terms v_collection_postings v_collection_lengthOfAll), ((d_collection 0), aJ cs 64 v_collection_term), ((d_collection 2), aI cs 2560 v_collection_times), ((d_collection 1), aI cs 64 v_collection_inDocuments), ((d_collection 5), aI cs 40 v_collection_length)] (R_X8_score cs h0 hdr d0 d_words d_tape d_collection v_ticks v_tape_place v_tape_row v_collection_documents v_collection_terms v_collection_postings v_collection_lengthOfAll v_collection_term v_collection_times v_collection_inDocuments v_collection_length Φ) (Y_X8_score cs h0 hdr d0 d_words d_tape d_collection v_ticks v_tape_place v_tape_row v_collection_documents v_collection_terms v_collection_postings v_collection_lengthOfAll v_collection_term v_collection_times v_collection_inDocuments v_collection_length X) := by
  refine XMet.of (own := RX8) (nm := "score") (by decide) rfl rfl (Nat.le_of_ble_eq_true rfl) (fun Γ C => ?_)
  unfold P_X8_score at h
  refine a_aload_n C (pc := 0) 0 dX8_score_0 rfl rfl ?_
  refine a_callV C (pc := 1) (av := []) (wr := [((d0 2), oX1 d_collection v_collection_documents v_collection_terms v_collection_postings v_collection_lengthOfAll), ((d_collection 0), aJ cs 64 v_collection_term), ((d_collection 2), aI cs 2560 v_collection_times), ((d_collection 1), aI cs 64 v_collection_inDocuments), ((d_collection 5), aI cs 40 v_collection_length)]) (m_X8_readTape Lx Dx cs h0 hdr d0 d_words d_tape v_ticks v_words_distinct v_words_total v_tape_size v_tape_place v_tape_row v_words_term v_words_times _ h) [0, 1, 2, 3, 4, 5] [6, 7, 8, 9, 10] rfl rfl (by decide) (by decide) (by decide) wM_X8_80 wb_X8_readTape hy_X8_readTape (q0 := 0) rfl rfl rfl ⟨Nat.le_of_ble_eq_true rfl, Nat.le_of_ble_eq_true rfl⟩ (Nat.le_of_ble_eq_true rfl) (Nat.le_of_ble_eq_true rfl) (Nat.le_of_ble_eq_true rfl) rfl dX8_score_1 (fun v w1 hw => ?_) [] rfl (fun _ _ h => h.elim)
  obtain ⟨v_words_distinct_1, v_words_total_2, v_tape_size_3, v_words_term_4, v_words_times_5, rfl, rfl, h⟩ := hw
  refine a_ws (st1 := []) (ws1 := [(h0, oX8 d0 hdr v_ticks), ((d0 1), oX7 d_words v_words_distinct_1 v_words_total_2), ((d0 0), oX0 d_tape v_tape_size_3 v_tape_place), ((d_tape 0), aB cs 3000 v_tape_row), ((d_words 0), aJ cs 1500 v_words_term_4), ((d_words 1), aI cs 1500 v_words_times_5), ((d0 2), oX1 d_collection v_collection_documents v_collection_terms v_collection_postings v_collection_lengthOfAll), ((d_collection 0), aJ cs 64 v_collection_term), ((d_collection 2), aI cs 2560 v_collection_times), ((d_collection 1), aI cs 64 v_collection_inDocuments), ((d_collection 5), aI cs 40 v_collection_length)]) 0 0 4 [5, 6, 7, 8, 9, 10, 0, 1, 2, 3, 4] rfl rfl rfl rfl (by decide) rfl ?_
  refine a_aload_n C (pc := 4) 0 dX8_score_4 rfl rfl ?_
  refine a_get C (pc := 5) 0 1 inW_X8 rfl rfl (Nat.le_of_ble_eq_true rfl) wF_X8_21 rfl rfl dX8_score_5 ?_
  refine a_get C (pc := 8) 1 3 inW_X7 rfl rfl (Nat.le_of_ble_eq_true rfl) wF_X8_83 rfl rfl dX8_score_8 ?_
  refine a_iconst C (pc := 11) dX8_score_11 ic_1 ?_
  refine a_icmp_eq C (pc := 12) 23 dX8_score_12 (by decide) (fun hc => ?_) (fun hc => ?_)
  · have h := h.1 hc
    refine a_iload_n C (pc := 23) 1 dX8_score_23 rfl rfl ?_
    refine a_if_lt C (pc := 24) 38 dX8_score_24 (by decide) (fun hc => ?_) (fun hc => ?_)
    · have h := h.1 hc
      exact a_throw C (pc := 38) (by decide +kernel) wK_X8_110 wI_NoSuchElementException atg_X8_112 atn_X8_112 (by decide +kernel) dX8_score_38 dX8_score_41 dX8_score_42 dX8_score_45 (Nat.le_of_ble_eq_true rfl) (Nat.le_of_ble_eq_true rfl) (Nat.le_of_ble_eq_true rfl) (Nat.le_of_ble_eq_true rfl) ⟨_, _, _, _, _, rfl, h⟩
    · have h := h.2 hc
      refine a_iload_n C (pc := 27) 1 dX8_score_27 rfl rfl ?_
      refine a_aload_n C (pc := 28) 0 dX8_score_28 rfl rfl ?_
      refine a_get C (pc := 29) 0 2 inW_X8 rfl rfl (Nat.le_of_ble_eq_true rfl) wF_X8_28 rfl rfl dX8_score_29 ?_
      refine a_get C (pc := 32) 6 6 inW_X1 rfl rfl (Nat.le_of_ble_eq_true rfl) wF_X8_98 rfl rfl dX8_score_32 ?_
      refine a_icmp_lt C (pc := 35) 46 dX8_score_35 (by decide) (fun hc => ?_) (fun hc => ?_)
      · have h := h.1 hc
        refine a_aload_n C (pc := 46) 0 dX8_score_46 rfl rfl ?_
        refine a_get C (pc := 47) 0 2 inW_X8 rfl rfl (Nat.le_of_ble_eq_true rfl) wF_X8_28 rfl rfl dX8_score_47 ?_
        refine a_aload_n C (pc := 50) 0 dX8_score_50 rfl rfl ?_
        refine a_get C (pc := 51) 0 1 inW_X8 rfl rfl (Nat.le_of_ble_eq_true rfl) wF_X8_21 rfl rfl dX8_score_51 ?_
        refine a_get C (pc := 54) 1 0 inW_X7 rfl rfl (Nat.le_of_ble_eq_true rfl) wF_X8_113 rfl rfl dX8_score_54 ?_
        refine a_iconst C (pc := 57) dX8_score_57 ic_0 ?_
        refine a_lald C (pc := 58) 4 rfl h.1 dX8_score_58 ?_
        replace h := h.2
        refine a_iload_n C (pc := 59) 1 dX8_score_59 rfl rfl ?_
        refine a_callV C (pc := 60) (av := [.long (v_words_term_4 (0 : Int32).toNatClampNeg), .int l1]) (wr := [(h0, oX8 d0 hdr v_ticks), ((d0 1), oX7 d_words v_words_distinct_1 v_words_total_2), ((d0 0), oX0 d_tape v_tape_size_3 v_tape_place), ((d_tape 0), aB cs 3000 v_tape_row), ((d_words 0), aJ cs 1500 v_words_term_4), ((d_words 1), aI cs 1500 v_words_times_5)]) (m_X1_scoreOfTerm Lx Dx cs (d0 2) d_collection v_collection_documents v_collection_terms v_collection_postings v_collection_lengthOfAll v_collection_term v_collection_times v_collection_inDocuments v_collection_length (v_words_term_4 (0 : Int32).toNatClampNeg) l1 _ h) [6, 7, 8, 9, 10] [0, 1, 2, 3, 4, 5] rfl rfl (by decide) (by decide) (by decide) wM_X8_117 wb_X1_scoreOfTerm hy_X1_scoreOfTerm (q0 := 6) rfl rfl rfl ⟨Nat.le_of_ble_eq_true rfl, Nat.le_of_ble_eq_true rfl⟩ (Nat.le_of_ble_eq_true rfl) (Nat.le_of_ble_eq_true rfl) (Nat.le_of_ble_eq_true rfl) rfl dX8_score_60 (fun v w1 hw => ?_) [] rfl (fun _ _ h => h.elim)
        obtain ⟨r_6, rfl, rfl, h⟩ := hw
        refine a_ws (st1 := [.double r_6]) (ws1 := [(h0, oX8 d0 hdr v_ticks), ((d0 1), oX7 d_words v_words_distinct_1 v_words_total_2), ((d0 0), oX0 d_tape v_tape_size_3 v_tape_place), ((d_tape 0), aB cs 3000 v_tape_row), ((d_words 0), aJ cs 1500 v_words_term_4), ((d_words 1), aI cs 1500 v_words_times_5), ((d0 2), oX1 d_collection v_collection_documents v_collection_terms v_collection_postings v_collection_lengthOfAll), ((d_collection 0), aJ cs 64 v_collection_term), ((d_collection 2), aI cs 2560 v_collection_times), ((d_collection 1), aI cs 64 v_collection_inDocuments), ((d_collection 5), aI cs 40 v_collection_length)]) 0 0 63 [0, 1, 2, 3, 4, 5, 6, 7, 8, 9, 10] rfl rfl rfl rfl (by decide) rfl ?_
        exact a_dreturn C (pc := 63) rfl dX8_score_63 (Nat.le_of_ble_eq_true rfl) (Nat.le_of_ble_eq_true rfl) ⟨_, _, _, _, _, _, rfl, rfl, h⟩
      · have h := h.2 hc
        exact a_throw C (pc := 38) (by decide +kernel) wK_X8_110 wI_NoSuchElementException atg_X8_112 atn_X8_112 (by decide +kernel) dX8_score_38 dX8_score_41 dX8_score_42 dX8_score_45 (Nat.le_of_ble_eq_true rfl) (Nat.le_of_ble_eq_true rfl) (Nat.le_of_ble_eq_true rfl) (Nat.le_of_ble_eq_true rfl) ⟨_, _, _, _, _, rfl, h⟩
  · have h := h.2 hc
    exact a_throw C (pc := 15) (by decide +kernel) wK_X8_67 wI_IllegalArgumentException atg_X8_69 atn_X8_69 (by decide +kernel) dX8_score_15 dX8_score_18 dX8_score_19 dX8_score_22 (Nat.le_of_ble_eq_true rfl) (Nat.le_of_ble_eq_true rfl) (Nat.le_of_ble_eq_true rfl) (Nat.le_of_ble_eq_true rfl) ⟨_, _, _, _, _, rfl, h⟩
set_option maxRecDepth 100000 in
set_option maxHeartbeats 4000000 in
theorem w_X1_scoreAll_12 {Γ : XG} {Lx : Launch} {Dx : va_G} {cs : Nat → ClassId} {h0 : Nat} {d0 : Nat → Nat} {v_documents : Int32} {v_terms : Int32} {v_postings : Int32} {v_lengthOfAll : Int32} {v_times : Nat → Int32} {v_inDocuments : Nat → Int32} {v_length : Nat → Int32} {K_43 : (Nat → UInt64) → Int32 → Prop} {Φ : (Nat → UInt64) → Prop} {k n9 : Nat} (C : CX Γ Lx Dx cs cX1_scoreAll RX1 "scoreAll" 3 none 2 58 0 0 (qEC cs 0 0 [] (R_X1_scoreAll cs h0 d0 v_documents v_terms v_postings v_lengthOfAll v_times v_inDocuments v_length Φ) (fun _ _ => False))) (hkm : k ≤ 0) (hnm : n9 ≤ 0) : ∀ n : Nat, ∀ (v_scores : Nat → UInt64) (l1 : Int32) (l2 : Int32), L_X1_scoreAll_12 n v_documents v_terms v_lengthOfAll v_times v_inDocuments v_length v_scores l1 l2 K_43 Φ → (∀ (v_scores_2 : Nat → UInt64) (l1_3 : Int32), K_43 v_scores_2 l1_3 → AW Γ k n9 43 [(0, .ref h0), (1, .int l1_3)] [] [(h0, oX1 d0 v_documents v_terms v_postings v_lengthOfAll), ((d0 2), aI cs 2560 v_times), ((d0 1), aI cs 64 v_inDocuments), ((d0 5), aI cs 40 v_length), ((d0 3), aD cs 2560 v_scores_2)]) → AW Γ k n9 12 [(0, .ref h0), (1, .int l1), (2, .int l2)] [] [(h0, oX1 d0 v_documents v_terms v_postings v_lengthOfAll), ((d0 2), aI cs 2560 v_times), ((d0 1), aI cs 64 v_inDocuments), ((d0 5), aI cs 40 v_length), ((d0 3), aD cs 2560 v_scores)] := by
  intro n
  induction n with
  | zero =>
    intro v_scores l1 l2 h
    exact False.elim h
  | succ n ih =>
    intro v_scores l1 l2 h hK_43
    rw [L_X1_scoreAll_12] at h
    refine a_iload_n C (pc := 12) 2 dX1_scoreAll_12 rfl rfl ?_
    refine a_aload_n C (pc := 13) 0 dX1_scoreAll_13 rfl rfl ?_
    refine a_get C (pc := 14) 0 6 inW_X1 rfl rfl (Nat.le_of_ble_eq_true rfl) wF_X1_32 rfl rfl dX1_scoreAll_14 ?_
    refine a_icmp_ge C (pc := 17) 43 dX1_scoreAll_17 (by decide) (fun hc => ?_) (fun hc => ?_)
    · have h := h.1 hc
      refine a_lv (lv1 := [(0, .ref h0), (1, .int l1)]) [0, 1] rfl ?_
      exact hK_43 v_scores l1 h
    · have h := h.2 hc
      refine a_aload_n C (pc := 20) 0 dX1_scoreAll_20 rfl rfl ?_
      refine a_get C (pc := 21) 0 3 inW_X1 rfl rfl (Nat.le_of_ble_eq_true rfl) wF_X1_22 rfl rfl dX1_scoreAll_21 ?_
      refine a_iload_n C (pc := 24) 1 dX1_scoreAll_24 rfl rfl ?_
      refine a_bipush C (pc := 25) dX1_scoreAll_25 bp_40 ?_
      refine a_imul C (pc := 27) dX1_scoreAll_27 ?_
      refine a_iload_n C (pc := 28) 2 dX1_scoreAll_28 rfl rfl ?_
      refine a_iadd C (pc := 29) dX1_scoreAll_29 ?_
      refine a_aload_n C (pc := 30) 0 dX1_scoreAll_30 rfl rfl ?_
      refine a_iload_n C (pc := 31) 1 dX1_scoreAll_31 rfl rfl ?_
      refine a_iload_n C (pc := 32) 2 dX1_scoreAll_32 rfl rfl ?_
      refine a_callV C (pc := 33) (av := [.int l1, .int l2]) (wr := [((d0 3), aD cs 2560 v_scores)]) (m_X1_scoreOf Lx Dx cs h0 d0 v_documents v_terms v_postings v_lengthOfAll v_times v_inDocuments v_length l1 l2 _ h) [0, 1, 2, 3] [4] rfl rfl (by decide) (by decide) (by decide) wM_X1_67 wb_X1_scoreOf hy_X1_scoreOf (q0 := 0) rfl rfl rfl ⟨Nat.le_of_ble_eq_true rfl, Nat.le_of_ble_eq_true rfl⟩ (Nat.le_of_ble_eq_true rfl) hkm hnm rfl dX1_scoreAll_33 (fun v w1 hw => ?_) [] rfl (fun _ _ h => h.elim)
      obtain ⟨r_1, rfl, rfl, h⟩ := hw
      refine a_ws (st1 := [.double r_1, .int ((l1 * 40) + l2), .ref (d0 3)]) (ws1 := [(h0, oX1 d0 v_documents v_terms v_postings v_lengthOfAll), ((d0 2), aI cs 2560 v_times), ((d0 1), aI cs 64 v_inDocuments), ((d0 5), aI cs 40 v_length), ((d0 3), aD cs 2560 v_scores)]) k n9 36 [1, 2, 3, 4, 0] rfl rfl rfl rfl (by decide) rfl ?_
      refine a_dast C (pc := 36) (ws1 := [(h0, oX1 d0 v_documents v_terms v_postings v_lengthOfAll), ((d0 2), aI cs 2560 v_times), ((d0 1), aI cs 64 v_inDocuments), ((d0 5), aI cs 40 v_length), ((d0 3), aD cs 2560 (vf_upd v_scores ((l1 * 40) + l2 : Int32).toNatClampNeg r_1))]) 4 rfl h.1 dX1_scoreAll_36 rfl ?_
      replace h := h.2
      refine a_iinc C (pc := 37) (lv1 := [(0, .ref h0), (1, .int l1), (2, .int (l2 + 1))]) 2 [1, 2, 0] dX1_scoreAll_37 rfl (congrArg (fun z => l2 + z) ic_1) (by decide) rfl ?_
      refine a_goto C (pc := 40) 12 dX1_scoreAll_40 (by decide) ?_
      exact ih (vf_upd v_scores ((l1 * 40) + l2 : Int32).toNatClampNeg r_1) l1 (l2 + 1) h hK_43
set_option maxRecDepth 100000 in
set_option maxHeartbeats 4000000 in
theorem w_X1_scoreAll_2 {Γ : XG} {Lx : Launch} {Dx : va_G} {cs : Nat → ClassId} {h0 : Nat} {d0 : Nat → Nat} {v_documents : Int32} {v_terms : Int32} {v_postings : Int32} {v_lengthOfAll : Int32} {v_times : Nat → Int32} {v_inDocuments : Nat → Int32} {v_length : Nat → Int32} {K_49 : (Nat → UInt64) → Prop} {Φ : (Nat → UInt64) → Prop} {k n9 : Nat} (C : CX Γ Lx Dx cs cX1_scoreAll RX1 "scoreAll" 3 none 2 58 0 0 (qEC cs 0 0 [] (R_X1_scoreAll cs h0 d0 v_documents v_terms v_postings v_lengthOfAll v_times v_inDocuments v_length Φ) (fun _ _ => False))) (hkm : k ≤ 0) (hnm : n9 ≤ 0) : ∀ n : Nat, ∀ (v_scores : Nat → UInt64) (l1 : Int32), L_X1_scoreAll_2 n v_documents v_terms v_lengthOfAll v_times v_inDocuments v_length v_scores l1 K_49 Φ → (∀ (v_scores_6 : Nat → UInt64), K_49 v_scores_6 → AW Γ k n9 49 [] [] [(h0, oX1 d0 v_documents v_terms v_postings v_lengthOfAll), ((d0 2), aI cs 2560 v_times), ((d0 1), aI cs 64 v_inDocuments), ((d0 5), aI cs 40 v_length), ((d0 3), aD cs 2560 v_scores_6)]) → AW Γ k n9 2 [(0, .ref h0), (1, .int l1)] [] [(h0, oX1 d0 v_documents v_terms v_postings v_lengthOfAll), ((d0 2), aI cs 2560 v_times), ((d0 1), aI cs 64 v_inDocuments), ((d0 5), aI cs 40 v_length), ((d0 3), aD cs 2560 v_scores)] := by
  intro n
  induction n with
  | zero =>
    intro v_scores l1 h
    exact False.elim h
  | succ n ih =>
    intro v_scores l1 h hK_49
    rw [L_X1_scoreAll_2] at h
    refine a_iload_n C (pc := 2) 1 dX1_scoreAll_2 rfl rfl ?_
    refine a_aload_n C (pc := 3) 0 dX1_scoreAll_3 rfl rfl ?_
    refine a_get C (pc := 4) 0 7 inW_X1 rfl rfl (Nat.le_of_ble_eq_true rfl) wF_X1_36 rfl rfl dX1_scoreAll_4 ?_
    refine a_icmp_ge C (pc := 7) 49 dX1_scoreAll_7 (by decide) (fun hc => ?_) (fun hc => ?_)
    · have h := h.1 hc
      refine a_lv (lv1 := []) [] rfl ?_
      exact hK_49 v_scores h
    · have h := h.2 hc
      refine a_iconst C (pc := 10) dX1_scoreAll_10 ic_0 ?_
      refine a_istore_n C (pc := 11) (lv1 := [(0, .ref h0), (1, .int l1), (2, .int 0)]) [1, 2, 0] dX1_scoreAll_11 rfl (by decide) rfl ?_
      obtain ⟨n0, h⟩ := h
      refine w_X1_scoreAll_12 C hkm hnm n0 v_scores l1 0 h ?_
      intro v_scores_4 l1_5 h
      refine a_iinc C (pc := 43) (lv1 := [(0, .ref h0), (1, .int (l1_5 + 1))]) 1 [1, 0] dX1_scoreAll_43 rfl (congrArg (fun z => l1_5 + z) ic_1) (by decide) rfl ?_
      refine a_goto C (pc := 46) 2 dX1_scoreAll_46 (by decide) ?_
      exact ih v_scores_4 (l1_5 + 1) h hK_49
set_option maxRecDepth 100000 in
set_option maxHeartbeats 4000000 in
theorem m_X1_scoreAll (Lx : Launch) (Dx : va_G) (cs : Nat → ClassId) (h0 : Nat) (d0 : Nat → Nat) (v_documents : Int32) (v_terms : Int32) (v_postings : Int32) (v_lengthOfAll : Int32) (v_times : Nat → Int32) (v_inDocuments : Nat → Int32) (v_length : Nat → Int32) (v_scores : Nat → UInt64) (Φ : (Nat → UInt64) → Prop) (h : P_X1_scoreAll v_documents v_terms v_lengthOfAll v_times v_inDocuments v_length v_scores Φ) : XMet Lx Dx cs yX1_scoreAll cX1_scoreAll 3 none 2 58 0 0 [.ref h0] [(h0, oX1 d0 v_documents v_terms v_postings v_lengthOfAll), ((d0 2), aI cs 2560 v_times), ((d0 1), aI cs 64 v_inDocuments), ((d0 5), aI cs 40 v_length), ((d0 3), aD cs 2560 v_scores)] (R_X1_scoreAll cs h0 d0 v_documents v_terms v_postings v_lengthOfAll v_times v_inDocuments v_length Φ) (fun _ _ => False) := by
  refine XMet.of (own := RX1) (nm := "scoreAll") (by decide) rfl rfl (Nat.le_of_ble_eq_true rfl) (fun Γ C => ?_)
  unfold P_X1_scoreAll at h
  refine a_iconst C (pc := 0) dX1_scoreAll_0 ic_0 ?_
  refine a_istore_n C (pc := 1) (lv1 := [(0, .ref h0), (1, .int 0)]) [1, 0] dX1_scoreAll_1 rfl (by decide) rfl ?_
  obtain ⟨n0, h⟩ := h
  refine w_X1_scoreAll_2 C (Nat.le_of_ble_eq_true rfl) (Nat.le_of_ble_eq_true rfl) n0 v_scores 0 h ?_
  intro v_scores_7 h
  exact a_return C (pc := 49) rfl dX1_scoreAll_49 (Nat.le_of_ble_eq_true rfl) (Nat.le_of_ble_eq_true rfl) ⟨_, rfl, rfl, h⟩
set_option maxRecDepth 100000 in
set_option maxHeartbeats 4000000 in
theorem m_X4_start (Lx : Launch) (Dx : va_G) (cs : Nat → ClassId) (h0 : Nat) (d0 : Nat → Nat) (v_bits : Int32) (v_documents : Int32) (v_terms : Int32) (v_segments : Int32) (v_postings : Int32) (l1 : Int32) (l2 : Int32) (Φ : Int32 → Int32 → Int32 → Int32 → Int32 → Prop) (h : P_X4_start v_bits v_documents v_terms v_segments v_postings l1 l2 Φ) : XMet Lx Dx cs yX4_start cX4_start 3 none 0 0 0 0 [.ref h0, .int l1, .int l2] [(h0, oX4 d0 v_bits v_documents v_terms v_segments v_postings)] (R_X4_start cs h0 d0 Φ) (fun _ _ => False) := by
  refine XMet.of (own := RX4) (nm := "start") (by decide) rfl rfl (Nat.le_of_ble_eq_true rfl) (fun Γ C => ?_)
  unfold P_X4_start at h
  refine a_aload_n C (pc := 0) 0 dX4_start_0 rfl rfl ?_
  refine a_iload_n C (pc := 1) 1 dX4_start_1 rfl rfl ?_
  refine a_put C (pc := 2) (ws1 := [(h0, oX4 d0 l1 v_documents v_terms v_segments v_postings)]) 0 5 inW_X4 tyX4 tyX4_ok nmX4 rfl rfl (Nat.le_of_ble_eq_true rfl) wF_X4_28 rfl rfl rfl rfl rfl (Nat.le_of_ble_eq_true rfl) dX4_start_2 rfl ?_
  refine a_aload_n C (pc := 5) 0 dX4_start_5 rfl rfl ?_
  refine a_iload_n C (pc := 6) 2 dX4_start_6 rfl rfl ?_
  refine a_put C (pc := 7) (ws1 := [(h0, oX4 d0 l1 l2 v_terms v_segments v_postings)]) 0 6 inW_X4 tyX4 tyX4_ok nmX4 rfl rfl (Nat.le_of_ble_eq_true rfl) wF_X4_32 rfl rfl rfl rfl rfl (Nat.le_of_ble_eq_true rfl) dX4_start_7 rfl ?_
  refine a_aload_n C (pc := 10) 0 dX4_start_10 rfl rfl ?_
  refine a_iconst C (pc := 11) dX4_start_11 ic_0 ?_
  refine a_put C (pc := 12) (ws1 := [(h0, oX4 d0 l1 l2 0 v_segments v_postings)]) 0 7 inW_X4 tyX4 tyX4_ok nmX4 rfl rfl (Nat.le_of_ble_eq_true rfl) wF_X4_35 rfl rfl rfl rfl rfl (Nat.le_of_ble_eq_true rfl) dX4_start_12 rfl ?_
  refine a_aload_n C (pc := 15) 0 dX4_start_15 rfl rfl ?_
  refine a_iconst C (pc := 16) dX4_start_16 ic_0 ?_
  refine a_put C (pc := 17) (ws1 := [(h0, oX4 d0 l1 l2 0 0 v_postings)]) 0 8 inW_X4 tyX4 tyX4_ok nmX4 rfl rfl (Nat.le_of_ble_eq_true rfl) wF_X4_38 rfl rfl rfl rfl rfl (Nat.le_of_ble_eq_true rfl) dX4_start_17 rfl ?_
  refine a_aload_n C (pc := 20) 0 dX4_start_20 rfl rfl ?_
  refine a_iconst C (pc := 21) dX4_start_21 ic_0 ?_
  refine a_put C (pc := 22) (ws1 := [(h0, oX4 d0 l1 l2 0 0 0)]) 0 9 inW_X4 tyX4 tyX4_ok nmX4 rfl rfl (Nat.le_of_ble_eq_true rfl) wF_X4_41 rfl rfl rfl rfl rfl (Nat.le_of_ble_eq_true rfl) dX4_start_22 rfl ?_
  exact a_return C (pc := 25) rfl dX4_start_25 (Nat.le_of_ble_eq_true rfl) (Nat.le_of_ble_eq_true rfl) ⟨_, _, _, _, _, rfl, rfl, h⟩
set_option maxRecDepth 100000 in
set_option maxHeartbeats 4000000 in
theorem m_X1_isPosting (Lx : Launch) (Dx : va_G) (cs : Nat → ClassId) (h0 : Nat) (d0 : Nat → Nat) (v_documents : Int32) (v_terms : Int32) (v_postings : Int32) (v_lengthOfAll : Int32) (v_times : Nat → Int32) (l1 : Int32) (Φ : Int32 → Prop) (h : P_X1_isPosting v_times l1 Φ) : XMet Lx Dx cs yX1_isPosting cX1_isPosting 2 (some .boolean) 0 0 0 0 [.ref h0, .int l1] [(h0, oX1 d0 v_documents v_terms v_postings v_lengthOfAll), ((d0 2), aI cs 2560 v_times)] (R_X1_isPosting cs h0 d0 v_documents v_terms v_postings v_lengthOfAll v_times Φ) (fun _ _ => False) := by
  refine XMet.of (own := RX1) (nm := "isPosting") (by decide) rfl rfl (Nat.le_of_ble_eq_true rfl) (fun Γ C => ?_)
  unfold P_X1_isPosting at h
  refine a_aload_n C (pc := 0) 0 dX1_isPosting_0 rfl rfl ?_
  refine a_get C (pc := 1) 0 2 inW_X1 rfl rfl (Nat.le_of_ble_eq_true rfl) wF_X1_19 rfl rfl dX1_isPosting_1 ?_
  refine a_iload_n C (pc := 4) 1 dX1_isPosting_4 rfl rfl ?_
  refine a_iald C (pc := 5) 1 rfl h.1 dX1_isPosting_5 ?_
  replace h := h.2
  refine a_if_le C (pc := 6) 13 dX1_isPosting_6 (by decide) (fun hc => ?_) (fun hc => ?_)
  · have h := h.1 hc
    refine a_iconst C (pc := 13) dX1_isPosting_13 ic_0 ?_
    exact a_zreturn C (pc := 14) rfl rfl dX1_isPosting_14 (Nat.le_of_ble_eq_true rfl) (Nat.le_of_ble_eq_true rfl) ⟨_, rfl, rfl, h⟩
  · have h := h.2 hc
    refine a_iconst C (pc := 9) dX1_isPosting_9 ic_1 ?_
    refine a_goto C (pc := 10) 14 dX1_isPosting_10 (by decide) ?_
    exact a_zreturn C (pc := 14) rfl rfl dX1_isPosting_14 (Nat.le_of_ble_eq_true rfl) (Nat.le_of_ble_eq_true rfl) ⟨_, rfl, rfl, h⟩
set_option maxRecDepth 100000 in
set_option maxHeartbeats 4000000 in
theorem w_X1_leastScore_6 {Γ : XG} {Lx : Launch} {Dx : va_G} {cs : Nat → ClassId} {h0 : Nat} {d0 : Nat → Nat} {v_documents : Int32} {v_terms : Int32} {v_postings : Int32} {v_lengthOfAll : Int32} {v_times : Nat → Int32} {v_scores : Nat → UInt64} {K_55 : UInt64 → Prop} {Φ : UInt64 → Prop} {k n9 : Nat} (C : CX Γ Lx Dx cs cX1_leastScore RX1 "leastScore" 4 (some .double) 1 21 0 0 (qEC cs 0 0 [] (R_X1_leastScore cs h0 d0 v_documents v_terms v_postings v_lengthOfAll v_times v_scores Φ) (fun _ _ => False))) (hkm : k ≤ 0) (hnm : n9 ≤ 0) : ∀ n : Nat, ∀ (l1 : UInt64) (l3 : Int32), L_X1_leastScore_6 n v_terms v_times v_scores l1 l3 K_55 Φ → (∀ (l1_2 : UInt64), K_55 l1_2 → AW Γ k n9 55 [(1, .double l1_2)] [] [(h0, oX1 d0 v_documents v_terms v_postings v_lengthOfAll), ((d0 2), aI cs 2560 v_times), ((d0 3), aD cs 2560 v_scores)]) → AW Γ k n9 6 [(0, .ref h0), (1, .double l1), (3, .int l3)] [] [(h0, oX1 d0 v_documents v_terms v_postings v_lengthOfAll), ((d0 2), aI cs 2560 v_times), ((d0 3), aD cs 2560 v_scores)] := by
  intro n
  induction n with
  | zero =>
    intro l1 l3 h
    exact False.elim h
  | succ n ih =>
    intro l1 l3 h hK_55
    rw [L_X1_leastScore_6] at h
    refine a_iload_n C (pc := 6) 2 dX1_leastScore_6 rfl rfl ?_
    refine a_aload_n C (pc := 7) 0 dX1_leastScore_7 rfl rfl ?_
    refine a_get C (pc := 8) 0 7 inW_X1 rfl rfl (Nat.le_of_ble_eq_true rfl) wF_X1_36 rfl rfl dX1_leastScore_8 ?_
    refine a_bipush C (pc := 11) dX1_leastScore_11 bp_40 ?_
    refine a_imul C (pc := 13) dX1_leastScore_13 ?_
    refine a_icmp_ge C (pc := 14) 55 dX1_leastScore_14 (by decide) (fun hc => ?_) (fun hc => ?_)
    · have h := h.1 hc
      refine a_lv (lv1 := [(1, .double l1)]) [1] rfl ?_
      exact hK_55 l1 h
    · have h := h.2 hc
      refine a_aload_n C (pc := 17) 0 dX1_leastScore_17 rfl rfl ?_
      refine a_iload_n C (pc := 18) 2 dX1_leastScore_18 rfl rfl ?_
      refine a_callV C (pc := 19) (av := [.int l3]) (wr := [((d0 3), aD cs 2560 v_scores)]) (m_X1_isPosting Lx Dx cs h0 d0 v_documents v_terms v_postings v_lengthOfAll v_times l3 _ h) [0, 1] [2] rfl rfl (by decide) (by decide) (by decide) wM_X1_87 wb_X1_isPosting hy_X1_isPosting (q0 := 0) rfl rfl rfl ⟨Nat.le_of_ble_eq_true rfl, Nat.le_of_ble_eq_true rfl⟩ (Nat.le_of_ble_eq_true rfl) hkm hnm rfl dX1_leastScore_19 (fun v w1 hw => ?_) [] rfl (fun _ _ h => h.elim)
      obtain ⟨r_1, rfl, rfl, h⟩ := hw
      refine a_ws (st1 := [.int r_1]) (ws1 := [(h0, oX1 d0 v_documents v_terms v_postings v_lengthOfAll), ((d0 2), aI cs 2560 v_times), ((d0 3), aD cs 2560 v_scores)]) k n9 22 [1, 2, 0] rfl rfl rfl rfl (by decide) rfl ?_
      refine a_if_eq C (pc := 22) 49 dX1_leastScore_22 (by decide) (fun hc => ?_) (fun hc => ?_)
      · have h := h.1 hc
        refine a_iinc C (pc := 49) (lv1 := [(0, .ref h0), (1, .double l1), (3, .int (l3 + 1))]) 2 [1, 2, 0] dX1_leastScore_49 rfl (congrArg (fun z => l3 + z) ic_1) (by decide) rfl ?_
        refine a_goto C (pc := 52) 6 dX1_leastScore_52 (by decide) ?_
        exact ih l1 (l3 + 1) h hK_55
      · have h := h.2 hc
        refine a_dload_n C (pc := 25) 1 dX1_leastScore_25 rfl rfl ?_
        refine a_dconst0 C (pc := 26) dX1_leastScore_26 ?_
        refine a_dcmp C (pc := 27) dX1_leastScore_27 ?_
        refine a_if_lt C (pc := 28) 42 dX1_leastScore_28 (by decide) (fun hc => ?_) (fun hc => ?_)
        · have h := h.1 hc
          refine a_aload_n C (pc := 42) 0 dX1_leastScore_42 rfl rfl ?_
          refine a_get C (pc := 43) 0 3 inW_X1 rfl rfl (Nat.le_of_ble_eq_true rfl) wF_X1_22 rfl rfl dX1_leastScore_43 ?_
          refine a_iload_n C (pc := 46) 2 dX1_leastScore_46 rfl rfl ?_
          refine a_dald C (pc := 47) 2 rfl h.1 dX1_leastScore_47 ?_
          replace h := h.2
          refine a_dstore_n C (pc := 48) (lv1 := [(0, .ref h0), (1, .double (v_scores (l3 : Int32).toNatClampNeg)), (3, .int l3)]) [1, 0, 2] dX1_leastScore_48 rfl (by decide) rfl ?_
          refine a_iinc C (pc := 49) (lv1 := [(0, .ref h0), (1, .double (v_scores (l3 : Int32).toNatClampNeg)), (3, .int (l3 + 1))]) 2 [1, 2, 0] dX1_leastScore_49 rfl (congrArg (fun z => l3 + z) ic_1) (by decide) rfl ?_
          refine a_goto C (pc := 52) 6 dX1_leastScore_52 (by decide) ?_
          exact ih (v_scores (l3 : Int32).toNatClampNeg) (l3 + 1) h hK_55
        · have h := h.2 hc
          refine a_aload_n C (pc := 31) 0 dX1_leastScore_31 rfl rfl ?_
          refine a_get C (pc := 32) 0 3 inW_X1 rfl rfl (Nat.le_of_ble_eq_true rfl) wF_X1_22 rfl rfl dX1_leastScore_32 ?_
          refine a_iload_n C (pc := 35) 2 dX1_leastScore_35 rfl rfl ?_
          refine a_dald C (pc := 36) 2 rfl h.1 dX1_leastScore_36 ?_
          replace h := h.2
          refine a_dload_n C (pc := 37) 1 dX1_leastScore_37 rfl rfl ?_
          refine a_dcmp C (pc := 38) dX1_leastScore_38 ?_
          refine a_if_ge C (pc := 39) 49 dX1_leastScore_39 (by decide) (fun hc => ?_) (fun hc => ?_)
          · have h := h.1 hc
            refine a_iinc C (pc := 49) (lv1 := [(0, .ref h0), (1, .double l1), (3, .int (l3 + 1))]) 2 [1, 2, 0] dX1_leastScore_49 rfl (congrArg (fun z => l3 + z) ic_1) (by decide) rfl ?_
            refine a_goto C (pc := 52) 6 dX1_leastScore_52 (by decide) ?_
            exact ih l1 (l3 + 1) h hK_55
          · have h := h.2 hc
            refine a_aload_n C (pc := 42) 0 dX1_leastScore_42 rfl rfl ?_
            refine a_get C (pc := 43) 0 3 inW_X1 rfl rfl (Nat.le_of_ble_eq_true rfl) wF_X1_22 rfl rfl dX1_leastScore_43 ?_
            refine a_iload_n C (pc := 46) 2 dX1_leastScore_46 rfl rfl ?_
            refine a_dald C (pc := 47) 2 rfl h.1 dX1_leastScore_47 ?_
            replace h := h.2
            refine a_dstore_n C (pc := 48) (lv1 := [(0, .ref h0), (1, .double (v_scores (l3 : Int32).toNatClampNeg)), (3, .int l3)]) [1, 0, 2] dX1_leastScore_48 rfl (by decide) rfl ?_
            refine a_iinc C (pc := 49) (lv1 := [(0, .ref h0), (1, .double (v_scores (l3 : Int32).toNatClampNeg)), (3, .int (l3 + 1))]) 2 [1, 2, 0] dX1_leastScore_49 rfl (congrArg (fun z => l3 + z) ic_1) (by decide) rfl ?_
            refine a_goto C (pc := 52) 6 dX1_leastScore_52 (by decide) ?_
            exact ih (v_scores (l3 : Int32).toNatClampNeg) (l3 + 1) h hK_55
set_option maxRecDepth 100000 in
set_option maxHeartbeats 4000000 in
theorem m_X1_leastScore (Lx : Launch) (Dx : va_G) (cs : Nat → ClassId) (h0 : Nat) (d0 : Nat → Nat) (v_documents : Int32) (v_terms : Int32) (v_postings : Int32) (v_lengthOfAll : Int32) (v_times : Nat → Int32) (v_scores : Nat → UInt64) (Φ : UInt64 → Prop) (h : P_X1_leastScore v_terms v_times v_scores Φ) : XMet Lx Dx cs yX1_leastScore cX1_leastScore 4 (some .double) 1 21 0 0 [.ref h0] [(h0, oX1 d0 v_documents v_terms v_postings v_lengthOfAll), ((d0 2), aI cs 2560 v_times), ((d0 3), aD cs 2560 v_scores)] (R_X1_leastScore cs h0 d0 v_documents v_terms v_postings v_lengthOfAll v_times v_scores Φ) (fun _ _ => False) := by
  refine XMet.of (own := RX1) (nm := "leastScore") (by decide) rfl rfl (Nat.le_of_ble_eq_true rfl) (fun Γ C => ?_)
  unfold P_X1_leastScore at h
  refine a_ldc2d C (pc := 0) wC_X1_117 dX1_leastScore_0 ?_
  refine a_dstore_n C (pc := 3) (lv1 := [(0, .ref h0), (1, .double 13830554455654793216)]) [1, 0] dX1_leastScore_3 rfl (by decide) rfl ?_
  refine a_iconst C (pc := 4) dX1_leastScore_4 ic_0 ?_
  refine a_istore_n C (pc := 5) (lv1 := [(0, .ref h0), (1, .double 13830554455654793216), (3, .int 0)]) [1, 2, 0] dX1_leastScore_5 rfl (by decide) rfl ?_
  obtain ⟨n0, h⟩ := h
  refine w_X1_leastScore_6 C (Nat.le_of_ble_eq_true rfl) (Nat.le_of_ble_eq_true rfl) n0 13830554455654793216 0 h ?_
  intro l1_3 h
  refine a_dload_n C (pc := 55) 0 dX1_leastScore_55 rfl rfl ?_
  exact a_dreturn C (pc := 56) rfl dX1_leastScore_56 (Nat.le_of_ble_eq_true rfl) (Nat.le_of_ble_eq_true rfl) ⟨_, rfl, rfl, h⟩
set_option maxRecDepth 100000 in
set_option maxHeartbeats 4000000 in
theorem w_X1_greatestScore_6 {Γ : XG} {Lx : Launch} {Dx : va_G} {cs : Nat → ClassId} {h0 : Nat} {d0 : Nat → Nat} {v_documents : Int32} {v_terms : Int32} {v_postings : Int32} {v_lengthOfAll : Int32} {v_times : Nat → Int32} {v_scores : Nat → UInt64} {K_49 : UInt64 → Prop} {Φ : UInt64 → Prop} {k n9 : Nat} (C : CX Γ Lx Dx cs cX1_greatestScore RX1 "greatestScore" 4 (some .double) 1 21 0 0 (qEC cs 0 0 [] (R_X1_greatestScore cs h0 d0 v_documents v_terms v_postings v_lengthOfAll v_times v_scores Φ) (fun _ _ => False))) (hkm : k ≤ 0) (hnm : n9 ≤ 0) : ∀ n : Nat, ∀ (l1 : UInt64) (l3 : Int32), L_X1_greatestScore_6 n v_terms v_times v_scores l1 l3 K_49 Φ → (∀ (l1_2 : UInt64), K_49 l1_2 → AW Γ k n9 49 [(1, .double l1_2)] [] [(h0, oX1 d0 v_documents v_terms v_postings v_lengthOfAll), ((d0 2), aI cs 2560 v_times), ((d0 3), aD cs 2560 v_scores)]) → AW Γ k n9 6 [(0, .ref h0), (1, .double l1), (3, .int l3)] [] [(h0, oX1 d0 v_documents v_terms v_postings v_lengthOfAll), ((d0 2), aI cs 2560 v_times), ((d0 3), aD cs 2560 v_scores)] := by
  intro n
  induction n with
  | zero =>
    intro l1 l3 h
    exact False.elim h
  | succ n ih =>
    intro l1 l3 h hK_49
    rw [L_X1_greatestScore_6] at h
    refine a_iload_n C (pc := 6) 2 dX1_greatestScore_6 rfl rfl ?_
    refine a_aload_n C (pc := 7) 0 dX1_greatestScore_7 rfl rfl ?_
    refine a_get C (pc := 8) 0 7 inW_X1 rfl rfl (Nat.le_of_ble_eq_true rfl) wF_X1_36 rfl rfl dX1_greatestScore_8 ?_
    refine a_bipush C (pc := 11) dX1_greatestScore_11 bp_40 ?_
    refine a_imul C (pc := 13) dX1_greatestScore_13 ?_
    refine a_icmp_ge C (pc := 14) 49 dX1_greatestScore_14 (by decide) (fun hc => ?_) (fun hc => ?_)
    · have h := h.1 hc
      refine a_lv (lv1 := [(1, .double l1)]) [1] rfl ?_
      exact hK_49 l1 h
    · have h := h.2 hc
      refine a_aload_n C (pc := 17) 0 dX1_greatestScore_17 rfl rfl ?_
      refine a_iload_n C (pc := 18) 2 dX1_greatestScore_18 rfl rfl ?_
      refine a_callV C (pc := 19) (av := [.int l3]) (wr := [((d0 3), aD cs 2560 v_scores)]) (m_X1_isPosting Lx Dx cs h0 d0 v_documents v_terms v_postings v_lengthOfAll v_times l3 _ h) [0, 1] [2] rfl rfl (by decide) (by decide) (by decide) wM_X1_87 wb_X1_isPosting hy_X1_isPosting (q0 := 0) rfl rfl rfl ⟨Nat.le_of_ble_eq_true rfl, Nat.le_of_ble_eq_true rfl⟩ (Nat.le_of_ble_eq_true rfl) hkm hnm rfl dX1_greatestScore_19 (fun v w1 hw => ?_) [] rfl (fun _ _ h => h.elim)
      obtain ⟨r_1, rfl, rfl, h⟩ := hw
      refine a_ws (st1 := [.int r_1]) (ws1 := [(h0, oX1 d0 v_documents v_terms v_postings v_lengthOfAll), ((d0 2), aI cs 2560 v_times), ((d0 3), aD cs 2560 v_scores)]) k n9 22 [1, 2, 0] rfl rfl rfl rfl (by decide) rfl ?_
      refine a_if_eq C (pc := 22) 43 dX1_greatestScore_22 (by decide) (fun hc => ?_) (fun hc => ?_)
      · have h := h.1 hc
        refine a_iinc C (pc := 43) (lv1 := [(0, .ref h0), (1, .double l1), (3, .int (l3 + 1))]) 2 [1, 2, 0] dX1_greatestScore_43 rfl (congrArg (fun z => l3 + z) ic_1) (by decide) rfl ?_
        refine a_goto C (pc := 46) 6 dX1_greatestScore_46 (by decide) ?_
        exact ih l1 (l3 + 1) h hK_49
      · have h := h.2 hc
        refine a_aload_n C (pc := 25) 0 dX1_greatestScore_25 rfl rfl ?_
        refine a_get C (pc := 26) 0 3 inW_X1 rfl rfl (Nat.le_of_ble_eq_true rfl) wF_X1_22 rfl rfl dX1_greatestScore_26 ?_
        refine a_iload_n C (pc := 29) 2 dX1_greatestScore_29 rfl rfl ?_
        refine a_dald C (pc := 30) 2 rfl h.1 dX1_greatestScore_30 ?_
        replace h := h.2
        refine a_dload_n C (pc := 31) 1 dX1_greatestScore_31 rfl rfl ?_
        refine a_dcmp C (pc := 32) dX1_greatestScore_32 ?_
        refine a_if_le C (pc := 33) 43 dX1_greatestScore_33 (by decide) (fun hc => ?_) (fun hc => ?_)
        · have h := h.1 hc
          refine a_iinc C (pc := 43) (lv1 := [(0, .ref h0), (1, .double l1), (3, .int (l3 + 1))]) 2 [1, 2, 0] dX1_greatestScore_43 rfl (congrArg (fun z => l3 + z) ic_1) (by decide) rfl ?_
          refine a_goto C (pc := 46) 6 dX1_greatestScore_46 (by decide) ?_
          exact ih l1 (l3 + 1) h hK_49
        · have h := h.2 hc
          refine a_aload_n C (pc := 36) 0 dX1_greatestScore_36 rfl rfl ?_
          refine a_get C (pc := 37) 0 3 inW_X1 rfl rfl (Nat.le_of_ble_eq_true rfl) wF_X1_22 rfl rfl dX1_greatestScore_37 ?_
          refine a_iload_n C (pc := 40) 2 dX1_greatestScore_40 rfl rfl ?_
          refine a_dald C (pc := 41) 2 rfl h.1 dX1_greatestScore_41 ?_
          replace h := h.2
          refine a_dstore_n C (pc := 42) (lv1 := [(0, .ref h0), (1, .double (v_scores (l3 : Int32).toNatClampNeg)), (3, .int l3)]) [1, 0, 2] dX1_greatestScore_42 rfl (by decide) rfl ?_
          refine a_iinc C (pc := 43) (lv1 := [(0, .ref h0), (1, .double (v_scores (l3 : Int32).toNatClampNeg)), (3, .int (l3 + 1))]) 2 [1, 2, 0] dX1_greatestScore_43 rfl (congrArg (fun z => l3 + z) ic_1) (by decide) rfl ?_
          refine a_goto C (pc := 46) 6 dX1_greatestScore_46 (by decide) ?_
          exact ih (v_scores (l3 : Int32).toNatClampNeg) (l3 + 1) h hK_49
set_option maxRecDepth 100000 in
set_option maxHeartbeats 4000000 in
theorem m_X1_greatestScore (Lx : Launch) (Dx : va_G) (cs : Nat → ClassId) (h0 : Nat) (d0 : Nat → Nat) (v_documents : Int32) (v_terms : Int32) (v_postings : Int32) (v_lengthOfAll : Int32) (v_times : Nat → Int32) (v_scores : Nat → UInt64) (Φ : UInt64 → Prop) (h : P_X1_greatestScore v_terms v_times v_scores Φ) : XMet Lx Dx cs yX1_greatestScore cX1_greatestScore 4 (some .double) 1 21 0 0 [.ref h0] [(h0, oX1 d0 v_documents v_terms v_postings v_lengthOfAll), ((d0 2), aI cs 2560 v_times), ((d0 3), aD cs 2560 v_scores)] (R_X1_greatestScore cs h0 d0 v_documents v_terms v_postings v_lengthOfAll v_times v_scores Φ) (fun _ _ => False) := by
  refine XMet.of (own := RX1) (nm := "greatestScore") (by decide) rfl rfl (Nat.le_of_ble_eq_true rfl) (fun Γ C => ?_)
  unfold P_X1_greatestScore at h
  refine a_ldc2d C (pc := 0) wC_X1_117 dX1_greatestScore_0 ?_
  refine a_dstore_n C (pc := 3) (lv1 := [(0, .ref h0), (1, .double 13830554455654793216)]) [1, 0] dX1_greatestScore_3 rfl (by decide) rfl ?_
  refine a_iconst C (pc := 4) dX1_greatestScore_4 ic_0 ?_
  refine a_istore_n C (pc := 5) (lv1 := [(0, .ref h0), (1, .double 13830554455654793216), (3, .int 0)]) [1, 2, 0] dX1_greatestScore_5 rfl (by decide) rfl ?_
  obtain ⟨n0, h⟩ := h
  refine w_X1_greatestScore_6 C (Nat.le_of_ble_eq_true rfl) (Nat.le_of_ble_eq_true rfl) n0 13830554455654793216 0 h ?_
  intro l1_3 h
  refine a_dload_n C (pc := 49) 0 dX1_greatestScore_49 rfl rfl ?_
  exact a_dreturn C (pc := 50) rfl dX1_greatestScore_50 (Nat.le_of_ble_eq_true rfl) (Nat.le_of_ble_eq_true rfl) ⟨_, rfl, rfl, h⟩
set_option maxRecDepth 100000 in
set_option maxHeartbeats 4000000 in
theorem m_X1_impactOf (Lx : Launch) (Dx : va_G) (cs : Nat → ClassId) (l0 : UInt64) (l2 : UInt64) (l4 : UInt64) (l6 : Int32) (Φ : Int32 → Prop) (h : P_X1_impactOf l0 l2 l4 l6 Φ) : XMet Lx Dx cs yX1_impactOf cX1_impactOf 7 (some .int) 0 0 0 0 [.double l0, .double l2, .double l4, .int l6] [] (R_X1_impactOf cs Φ) (fun _ _ => False) := by
  refine XMet.of (own := RX1) (nm := "impactOf") (by decide) rfl rfl (Nat.le_of_ble_eq_true rfl) (fun Γ C => ?_)
  unfold P_X1_impactOf at h
  refine a_dload C (pc := 0) 2 dX1_impactOf_0 rfl ?_
  refine a_dload_n C (pc := 2) 1 dX1_impactOf_2 rfl rfl ?_
  refine a_dcmp C (pc := 3) dX1_impactOf_3 ?_
  refine a_if_ne C (pc := 4) 10 dX1_impactOf_4 (by decide) (fun hc => ?_) (fun hc => ?_)
  · have h := h.1 hc
    refine a_dconst1 C (pc := 10) dX1_impactOf_10 ?_
    refine a_dload_n C (pc := 11) 0 dX1_impactOf_11 rfl rfl ?_
    refine a_dload_n C (pc := 12) 1 dX1_impactOf_12 rfl rfl ?_
    refine a_dsub C (pc := 13) dX1_impactOf_13 h.1 ?_
    replace h := h.2
    refine a_iload C (pc := 14) 3 dX1_impactOf_14 rfl ?_
    refine a_iconst C (pc := 16) dX1_impactOf_16 ic_1 ?_
    refine a_isub C (pc := 17) dX1_impactOf_17 ?_
    refine a_i2d C (pc := 18) dX1_impactOf_18 ?_
    refine a_dmul C (pc := 19) dX1_impactOf_19 h.1 ?_
    replace h := h.2
    refine a_dload C (pc := 20) 2 dX1_impactOf_20 rfl ?_
    refine a_dload_n C (pc := 22) 1 dX1_impactOf_22 rfl rfl ?_
    refine a_dsub C (pc := 23) dX1_impactOf_23 h.1 ?_
    replace h := h.2
    refine a_ddiv C (pc := 24) dX1_impactOf_24 h.1 ?_
    replace h := h.2
    refine a_dadd C (pc := 25) dX1_impactOf_25 h.1 ?_
    replace h := h.2
    refine a_ldc2d C (pc := 26) wC_X1_119 dX1_impactOf_26 ?_
    refine a_dadd C (pc := 29) dX1_impactOf_29 h.1 ?_
    replace h := h.2
    refine a_d2i C (pc := 30) dX1_impactOf_30 ?_
    exact a_ireturn C (pc := 31) rfl dX1_impactOf_31 (Nat.le_of_ble_eq_true rfl) (Nat.le_of_ble_eq_true rfl) ⟨_, rfl, rfl, h⟩
  · have h := h.2 hc
    refine a_iload C (pc := 7) 3 dX1_impactOf_7 rfl ?_
    exact a_ireturn C (pc := 9) rfl dX1_impactOf_9 (Nat.le_of_ble_eq_true rfl) (Nat.le_of_ble_eq_true rfl) ⟨_, rfl, rfl, h⟩
set_option maxRecDepth 100000 in
set_option maxHeartbeats 4000000 in
theorem m_X4_startTerm (Lx : Launch) (Dx : va_G) (cs : Nat → ClassId) (h0 : Nat) (d0 : Nat → Nat) (v_bits : Int32) (v_documents : Int32) (v_terms : Int32) (v_segments : Int32) (v_postings : Int32) (v_term : Nat → Int64) (v_firstSegment : Nat → Int32) (l1 : Int64) (Φ : Int32 → Int32 → (Nat → Int64) → (Nat → Int32) → Prop) (h : P_X4_startTerm v_terms v_segments v_term v_firstSegment l1 Φ) : XMet Lx Dx cs yX4_startTerm cX4_startTerm 3 (some .boolean) 0 0 0 0 [.ref h0, .long l1] [(h0, oX4 d0 v_bits v_documents v_terms v_segments v_postings), ((d0 0), aJ cs 64 v_term), ((d0 1), aI cs 65 v_firstSegment)] (R_X4_startTerm cs h0 d0 v_bits v_documents v_segments v_postings Φ) (fun _ _ => False) := by
  refine XMet.of (own := RX4) (nm := "startTerm") (by decide) rfl rfl (Nat.le_of_ble_eq_true rfl) (fun Γ C => ?_)
  unfold P_X4_startTerm at h
  refine a_aload_n C (pc := 0) 0 dX4_startTerm_0 rfl rfl ?_
  refine a_get C (pc := 1) 0 7 inW_X4 rfl rfl (Nat.le_of_ble_eq_true rfl) wF_X4_35 rfl rfl dX4_startTerm_1 ?_
  refine a_bipush C (pc := 4) dX4_startTerm_4 bp_64 ?_
  refine a_icmp_lt C (pc := 6) 11 dX4_startTerm_6 (by decide) (fun hc => ?_) (fun hc => ?_)
  · have h := h.1 hc
    refine a_aload_n C (pc := 11) 0 dX4_startTerm_11 rfl rfl ?_
    refine a_get C (pc := 12) 0 0 inW_X4 rfl rfl (Nat.le_of_ble_eq_true rfl) wF_X4_9 rfl rfl dX4_startTerm_12 ?_
    refine a_aload_n C (pc := 15) 0 dX4_startTerm_15 rfl rfl ?_
    refine a_get C (pc := 16) 0 7 inW_X4 rfl rfl (Nat.le_of_ble_eq_true rfl) wF_X4_35 rfl rfl dX4_startTerm_16 ?_
    refine a_lload_n C (pc := 19) 1 dX4_startTerm_19 rfl rfl ?_
    refine a_last C (pc := 20) (ws1 := [(h0, oX4 d0 v_bits v_documents v_terms v_segments v_postings), ((d0 0), aJ cs 64 (vp_updL v_term (v_terms : Int32).toNatClampNeg l1)), ((d0 1), aI cs 65 v_firstSegment)]) 1 rfl h.1 dX4_startTerm_20 rfl ?_
    replace h := h.2
    refine a_aload_n C (pc := 21) 0 dX4_startTerm_21 rfl rfl ?_
    refine a_dup C (pc := 22) dX4_startTerm_22 rfl ?_
    refine a_get C (pc := 23) 0 7 inW_X4 rfl rfl (Nat.le_of_ble_eq_true rfl) wF_X4_35 rfl rfl dX4_startTerm_23 ?_
    refine a_iconst C (pc := 26) dX4_startTerm_26 ic_1 ?_
    refine a_iadd C (pc := 27) dX4_startTerm_27 ?_
    refine a_put C (pc := 28) (ws1 := [(h0, oX4 d0 v_bits v_documents (v_terms + 1) v_segments v_postings), ((d0 0), aJ cs 64 (vp_updL v_term (v_terms : Int32).toNatClampNeg l1)), ((d0 1), aI cs 65 v_firstSegment)]) 0 7 inW_X4 tyX4 tyX4_ok nmX4 rfl rfl (Nat.le_of_ble_eq_true rfl) wF_X4_35 rfl rfl rfl rfl rfl (Nat.le_of_ble_eq_true rfl) dX4_startTerm_28 rfl ?_
    refine a_aload_n C (pc := 31) 0 dX4_startTerm_31 rfl rfl ?_
    refine a_get C (pc := 32) 0 1 inW_X4 rfl rfl (Nat.le_of_ble_eq_true rfl) wF_X4_15 rfl rfl dX4_startTerm_32 ?_
    refine a_aload_n C (pc := 35) 0 dX4_startTerm_35 rfl rfl ?_
    refine a_get C (pc := 36) 0 7 inW_X4 rfl rfl (Nat.le_of_ble_eq_true rfl) wF_X4_35 rfl rfl dX4_startTerm_36 ?_
    refine a_aload_n C (pc := 39) 0 dX4_startTerm_39 rfl rfl ?_
    refine a_get C (pc := 40) 0 8 inW_X4 rfl rfl (Nat.le_of_ble_eq_true rfl) wF_X4_38 rfl rfl dX4_startTerm_40 ?_
    refine a_iast C (pc := 43) (ws1 := [(h0, oX4 d0 v_bits v_documents (v_terms + 1) v_segments v_postings), ((d0 0), aJ cs 64 (vp_updL v_term (v_terms : Int32).toNatClampNeg l1)), ((d0 1), aI cs 65 (upd v_firstSegment (v_terms + 1 : Int32).toNatClampNeg v_segments))]) 2 rfl h.1 dX4_startTerm_43 rfl ?_
    replace h := h.2
    refine a_iconst C (pc := 44) dX4_startTerm_44 ic_1 ?_
    exact a_zreturn C (pc := 45) rfl rfl dX4_startTerm_45 (Nat.le_of_ble_eq_true rfl) (Nat.le_of_ble_eq_true rfl) ⟨_, _, _, _, rfl, rfl, h⟩
  · have h := h.2 hc
    refine a_iconst C (pc := 9) dX4_startTerm_9 ic_0 ?_
    exact a_zreturn C (pc := 10) rfl rfl dX4_startTerm_10 (Nat.le_of_ble_eq_true rfl) (Nat.le_of_ble_eq_true rfl) ⟨_, _, _, _, rfl, rfl, h⟩
set_option maxRecDepth 100000 in
set_option maxHeartbeats 4000000 in
theorem w_X4_greatestBelow_5 {Γ : XG} {Lx : Launch} {Dx : va_G} {cs : Nat → ClassId} {n_a2 : Nat} {h0 : Nat} {h2 : Nat} {d0 : Nat → Nat} {v_bits : Int32} {v_documents : Int32} {v_terms : Int32} {v_segments : Int32} {v_postings : Int32} {v_a2 : Nat → Int32} {K_41 : Int32 → Prop} {Φ : Int32 → Prop} {k n9 : Nat} (C : CX Γ Lx Dx cs cX4_greatestBelow RX4 "greatestBelow" 5 (some .int) 0 0 0 0 (qEC cs 0 0 [] (R_X4_greatestBelow cs n_a2 h0 h2 d0 v_bits v_documents v_terms v_segments v_postings v_a2 Φ) (fun _ _ => False))) (hkm : k ≤ 0) (hnm : n9 ≤ 0) : ∀ n : Nat, ∀ (l1 : Int32) (l3 : Int32) (l4 : Int32), L_X4_greatestBelow_5 n n_a2 v_documents v_a2 l1 l3 l4 K_41 Φ → (∀ (l3_1 : Int32), K_41 l3_1 → AW Γ k n9 41 [(3, .int l3_1)] [] [(h0, oX4 d0 v_bits v_documents v_terms v_segments v_postings), (h2, aI cs n_a2 v_a2)]) → AW Γ k n9 5 [(0, .ref h0), (1, .int l1), (2, .ref h2), (3, .int l3), (4, .int l4)] [] [(h0, oX4 d0 v_bits v_documents v_terms v_segments v_postings), (h2, aI cs n_a2 v_a2)] := by
  intro n
  induction n with
  | zero =>
    intro l1 l3 l4 h
    exact False.elim h
  | succ n ih =>
    intro l1 l3 l4 h hK_41
    rw [L_X4_greatestBelow_5] at h
    refine a_iload C (pc := 5) 4 dX4_greatestBelow_5 rfl ?_
    refine a_aload_n C (pc := 7) 0 dX4_greatestBelow_7 rfl rfl ?_
    refine a_get C (pc := 8) 0 6 inW_X4 rfl rfl (Nat.le_of_ble_eq_true rfl) wF_X4_32 rfl rfl dX4_greatestBelow_8 ?_
    refine a_icmp_ge C (pc := 11) 41 dX4_greatestBelow_11 (by decide) (fun hc => ?_) (fun hc => ?_)
    · have h := h.1 hc
      refine a_lv (lv1 := [(3, .int l3)]) [3] rfl ?_
      exact hK_41 l3 h
    · have h := h.2 hc
      refine a_aload_n C (pc := 14) 2 dX4_greatestBelow_14 rfl rfl ?_
      refine a_iload C (pc := 15) 4 dX4_greatestBelow_15 rfl ?_
      refine a_iald C (pc := 17) 1 rfl h.1 dX4_greatestBelow_17 ?_
      replace h := h.2
      refine a_iload_n C (pc := 18) 1 dX4_greatestBelow_18 rfl rfl ?_
      refine a_icmp_ge C (pc := 19) 35 dX4_greatestBelow_19 (by decide) (fun hc => ?_) (fun hc => ?_)
      · have h := h.1 hc
        refine a_iinc C (pc := 35) (lv1 := [(0, .ref h0), (1, .int l1), (2, .ref h2), (3, .int l3), (4, .int (l4 + 1))]) 4 [1, 2, 3, 4, 0] dX4_greatestBelow_35 rfl (congrArg (fun z => l4 + z) ic_1) (by decide) rfl ?_
        refine a_goto C (pc := 38) 5 dX4_greatestBelow_38 (by decide) ?_
        exact ih l1 l3 (l4 + 1) h hK_41
      · have h := h.2 hc
        refine a_aload_n C (pc := 22) 2 dX4_greatestBelow_22 rfl rfl ?_
        refine a_iload C (pc := 23) 4 dX4_greatestBelow_23 rfl ?_
        refine a_iald C (pc := 25) 1 rfl h.1 dX4_greatestBelow_25 ?_
        replace h := h.2
        refine a_iload_n C (pc := 26) 3 dX4_greatestBelow_26 rfl rfl ?_
        refine a_icmp_le C (pc := 27) 35 dX4_greatestBelow_27 (by decide) (fun hc => ?_) (fun hc => ?_)
        · have h := h.1 hc
          refine a_iinc C (pc := 35) (lv1 := [(0, .ref h0), (1, .int l1), (2, .ref h2), (3, .int l3), (4, .int (l4 + 1))]) 4 [1, 2, 3, 4, 0] dX4_greatestBelow_35 rfl (congrArg (fun z => l4 + z) ic_1) (by decide) rfl ?_
          refine a_goto C (pc := 38) 5 dX4_greatestBelow_38 (by decide) ?_
          exact ih l1 l3 (l4 + 1) h hK_41
        · have h := h.2 hc
          refine a_aload_n C (pc := 30) 2 dX4_greatestBelow_30 rfl rfl ?_
          refine a_iload C (pc := 31) 4 dX4_greatestBelow_31 rfl ?_
          refine a_iald C (pc := 33) 1 rfl h.1 dX4_greatestBelow_33 ?_
          replace h := h.2
          refine a_istore_n C (pc := 34) (lv1 := [(0, .ref h0), (1, .int l1), (2, .ref h2), (3, .int (v_a2 (l4 : Int32).toNatClampNeg)), (4, .int l4)]) [1, 2, 3, 0, 4] dX4_greatestBelow_34 rfl (by decide) rfl ?_
          refine a_iinc C (pc := 35) (lv1 := [(0, .ref h0), (1, .int l1), (2, .ref h2), (3, .int (v_a2 (l4 : Int32).toNatClampNeg)), (4, .int (l4 + 1))]) 4 [1, 2, 3, 4, 0] dX4_greatestBelow_35 rfl (congrArg (fun z => l4 + z) ic_1) (by decide) rfl ?_
          refine a_goto C (pc := 38) 5 dX4_greatestBelow_38 (by decide) ?_
          exact ih l1 (v_a2 (l4 : Int32).toNatClampNeg) (l4 + 1) h hK_41
set_option maxRecDepth 100000 in
set_option maxHeartbeats 4000000 in
theorem m_X4_greatestBelow (Lx : Launch) (Dx : va_G) (cs : Nat → ClassId) (n_a2 : Nat) (h0 : Nat) (h2 : Nat) (d0 : Nat → Nat) (v_bits : Int32) (v_documents : Int32) (v_terms : Int32) (v_segments : Int32) (v_postings : Int32) (v_a2 : Nat → Int32) (l1 : Int32) (Φ : Int32 → Prop) (h : P_X4_greatestBelow n_a2 v_documents v_a2 l1 Φ) : XMet Lx Dx cs yX4_greatestBelow cX4_greatestBelow 5 (some .int) 0 0 0 0 [.ref h0, .int l1, .ref h2] [(h0, oX4 d0 v_bits v_documents v_terms v_segments v_postings), (h2, aI cs n_a2 v_a2)] (R_X4_greatestBelow cs n_a2 h0 h2 d0 v_bits v_documents v_terms v_segments v_postings v_a2 Φ) (fun _ _ => False) := by
  refine XMet.of (own := RX4) (nm := "greatestBelow") (by decide) rfl rfl (Nat.le_of_ble_eq_true rfl) (fun Γ C => ?_)
  unfold P_X4_greatestBelow at h
  refine a_iconst C (pc := 0) dX4_greatestBelow_0 ic_0 ?_
  refine a_istore_n C (pc := 1) (lv1 := [(0, .ref h0), (1, .int l1), (2, .ref h2), (3, .int 0)]) [1, 2, 3, 0] dX4_greatestBelow_1 rfl (by decide) rfl ?_
  refine a_iconst C (pc := 2) dX4_greatestBelow_2 ic_0 ?_
  refine a_istore C (pc := 3) (lv1 := [(0, .ref h0), (1, .int l1), (2, .ref h2), (3, .int 0), (4, .int 0)]) [1, 2, 3, 4, 0] dX4_greatestBelow_3 (by decide) rfl ?_
  obtain ⟨n0, h⟩ := h
  refine w_X4_greatestBelow_5 C (Nat.le_of_ble_eq_true rfl) (Nat.le_of_ble_eq_true rfl) n0 l1 0 0 h ?_
  intro l3_2 h
  refine a_iload_n C (pc := 41) 0 dX4_greatestBelow_41 rfl rfl ?_
  exact a_ireturn C (pc := 42) rfl dX4_greatestBelow_42 (Nat.le_of_ble_eq_true rfl) (Nat.le_of_ble_eq_true rfl) ⟨_, rfl, rfl, h⟩
set_option maxRecDepth 100000 in
set_option maxHeartbeats 4000000 in
theorem m_X4_startSegment (Lx : Launch) (Dx : va_G) (cs : Nat → ClassId) (h0 : Nat) (d0 : Nat → Nat) (v_bits : Int32) (v_documents : Int32) (v_terms : Int32) (v_segments : Int32) (v_postings : Int32) (v_impact : Nat → Int32) (v_firstSegment : Nat → Int32) (v_firstPosting : Nat → Int32) (l1 : Int32) (Φ : Int32 → Int32 → (Nat → Int32) → (Nat → Int32) → (Nat → Int32) → Prop) (h : P_X4_startSegment v_terms v_segments v_postings v_impact v_firstSegment v_firstPosting l1 Φ) : XMet Lx Dx cs yX4_startSegment cX4_startSegment 2 (some .boolean) 0 0 0 0 [.ref h0, .int l1] [(h0, oX4 d0 v_bits v_documents v_terms v_segments v_postings), ((d0 2), aI cs 600 v_impact), ((d0 1), aI cs 65 v_firstSegment), ((d0 3), aI cs 601 v_firstPosting)] (R_X4_startSegment cs h0 d0 v_bits v_documents v_terms v_postings Φ) (fun _ _ => False) := by
  refine XMet.of (own := RX4) (nm := "startSegment") (by decide) rfl rfl (Nat.le_of_ble_eq_true rfl) (fun Γ C => ?_)
  unfold P_X4_startSegment at h
  refine a_aload_n C (pc := 0) 0 dX4_startSegment_0 rfl rfl ?_
  refine a_get C (pc := 1) 0 8 inW_X4 rfl rfl (Nat.le_of_ble_eq_true rfl) wF_X4_38 rfl rfl dX4_startSegment_1 ?_
  refine a_sipush C (pc := 4) dX4_startSegment_4 sp_600 ?_
  refine a_icmp_lt C (pc := 7) 12 dX4_startSegment_7 (by decide) (fun hc => ?_) (fun hc => ?_)
  · have h := h.1 hc
    refine a_aload_n C (pc := 12) 0 dX4_startSegment_12 rfl rfl ?_
    refine a_get C (pc := 13) 0 2 inW_X4 rfl rfl (Nat.le_of_ble_eq_true rfl) wF_X4_19 rfl rfl dX4_startSegment_13 ?_
    refine a_aload_n C (pc := 16) 0 dX4_startSegment_16 rfl rfl ?_
    refine a_get C (pc := 17) 0 8 inW_X4 rfl rfl (Nat.le_of_ble_eq_true rfl) wF_X4_38 rfl rfl dX4_startSegment_17 ?_
    refine a_iload_n C (pc := 20) 1 dX4_startSegment_20 rfl rfl ?_
    refine a_iast C (pc := 21) (ws1 := [(h0, oX4 d0 v_bits v_documents v_terms v_segments v_postings), ((d0 2), aI cs 600 (upd v_impact (v_segments : Int32).toNatClampNeg l1)), ((d0 1), aI cs 65 v_firstSegment), ((d0 3), aI cs 601 v_firstPosting)]) 1 rfl h.1 dX4_startSegment_21 rfl ?_
    replace h := h.2
    refine a_aload_n C (pc := 22) 0 dX4_startSegment_22 rfl rfl ?_
    refine a_dup C (pc := 23) dX4_startSegment_23 rfl ?_
    refine a_get C (pc := 24) 0 8 inW_X4 rfl rfl (Nat.le_of_ble_eq_true rfl) wF_X4_38 rfl rfl dX4_startSegment_24 ?_
    refine a_iconst C (pc := 27) dX4_startSegment_27 ic_1 ?_
    refine a_iadd C (pc := 28) dX4_startSegment_28 ?_
    refine a_put C (pc := 29) (ws1 := [(h0, oX4 d0 v_bits v_documents v_terms (v_segments + 1) v_postings), ((d0 2), aI cs 600 (upd v_impact (v_segments : Int32).toNatClampNeg l1)), ((d0 1), aI cs 65 v_firstSegment), ((d0 3), aI cs 601 v_firstPosting)]) 0 8 inW_X4 tyX4 tyX4_ok nmX4 rfl rfl (Nat.le_of_ble_eq_true rfl) wF_X4_38 rfl rfl rfl rfl rfl (Nat.le_of_ble_eq_true rfl) dX4_startSegment_29 rfl ?_
    refine a_aload_n C (pc := 32) 0 dX4_startSegment_32 rfl rfl ?_
    refine a_get C (pc := 33) 0 1 inW_X4 rfl rfl (Nat.le_of_ble_eq_true rfl) wF_X4_15 rfl rfl dX4_startSegment_33 ?_
    refine a_aload_n C (pc := 36) 0 dX4_startSegment_36 rfl rfl ?_
    refine a_get C (pc := 37) 0 7 inW_X4 rfl rfl (Nat.le_of_ble_eq_true rfl) wF_X4_35 rfl rfl dX4_startSegment_37 ?_
    refine a_aload_n C (pc := 40) 0 dX4_startSegment_40 rfl rfl ?_
    refine a_get C (pc := 41) 0 8 inW_X4 rfl rfl (Nat.le_of_ble_eq_true rfl) wF_X4_38 rfl rfl dX4_startSegment_41 ?_
    refine a_iast C (pc := 44) (ws1 := [(h0, oX4 d0 v_bits v_documents v_terms (v_segments + 1) v_postings), ((d0 2), aI cs 600 (upd v_impact (v_segments : Int32).toNatClampNeg l1)), ((d0 1), aI cs 65 (upd v_firstSegment (v_terms : Int32).toNatClampNeg (v_segments + 1))), ((d0 3), aI cs 601 v_firstPosting)]) 2 rfl h.1 dX4_startSegment_44 rfl ?_
    replace h := h.2
    refine a_aload_n C (pc := 45) 0 dX4_startSegment_45 rfl rfl ?_
    refine a_get C (pc := 46) 0 3 inW_X4 rfl rfl (Nat.le_of_ble_eq_true rfl) wF_X4_22 rfl rfl dX4_startSegment_46 ?_
    refine a_aload_n C (pc := 49) 0 dX4_startSegment_49 rfl rfl ?_
    refine a_get C (pc := 50) 0 8 inW_X4 rfl rfl (Nat.le_of_ble_eq_true rfl) wF_X4_38 rfl rfl dX4_startSegment_50 ?_
    refine a_aload_n C (pc := 53) 0 dX4_startSegment_53 rfl rfl ?_
    refine a_get C (pc := 54) 0 9 inW_X4 rfl rfl (Nat.le_of_ble_eq_true rfl) wF_X4_41 rfl rfl dX4_startSegment_54 ?_
    refine a_iast C (pc := 57) (ws1 := [(h0, oX4 d0 v_bits v_documents v_terms (v_segments + 1) v_postings), ((d0 2), aI cs 600 (upd v_impact (v_segments : Int32).toNatClampNeg l1)), ((d0 1), aI cs 65 (upd v_firstSegment (v_terms : Int32).toNatClampNeg (v_segments + 1))), ((d0 3), aI cs 601 (upd v_firstPosting (v_segments + 1 : Int32).toNatClampNeg v_postings))]) 3 rfl h.1 dX4_startSegment_57 rfl ?_
    replace h := h.2
    refine a_iconst C (pc := 58) dX4_startSegment_58 ic_1 ?_
    exact a_zreturn C (pc := 59) rfl rfl dX4_startSegment_59 (Nat.le_of_ble_eq_true rfl) (Nat.le_of_ble_eq_true rfl) ⟨_, _, _, _, _, rfl, rfl, h⟩
  · have h := h.2 hc
    refine a_iconst C (pc := 10) dX4_startSegment_10 ic_0 ?_
    exact a_zreturn C (pc := 11) rfl rfl dX4_startSegment_11 (Nat.le_of_ble_eq_true rfl) (Nat.le_of_ble_eq_true rfl) ⟨_, _, _, _, _, rfl, rfl, h⟩
set_option maxRecDepth 100000 in
set_option maxHeartbeats 4000000 in
theorem m_X4_appendPosting (Lx : Launch) (Dx : va_G) (cs : Nat → ClassId) (h0 : Nat) (d0 : Nat → Nat) (v_bits : Int32) (v_documents : Int32) (v_terms : Int32) (v_segments : Int32) (v_postings : Int32) (v_document : Nat → Int32) (v_firstPosting : Nat → Int32) (l1 : Int32) (Φ : Int32 → Int32 → (Nat → Int32) → (Nat → Int32) → Prop) (h : P_X4_appendPosting v_segments v_postings v_document v_firstPosting l1 Φ) : XMet Lx Dx cs yX4_appendPosting cX4_appendPosting 2 (some .boolean) 0 0 0 0 [.ref h0, .int l1] [(h0, oX4 d0 v_bits v_documents v_terms v_segments v_postings), ((d0 4), aI cs 600 v_document), ((d0 3), aI cs 601 v_firstPosting)] (R_X4_appendPosting cs h0 d0 v_bits v_documents v_terms v_segments Φ) (fun _ _ => False) := by
  refine XMet.of (own := RX4) (nm := "appendPosting") (by decide) rfl rfl (Nat.le_of_ble_eq_true rfl) (fun Γ C => ?_)
  unfold P_X4_appendPosting at h
  refine a_aload_n C (pc := 0) 0 dX4_appendPosting_0 rfl rfl ?_
  refine a_get C (pc := 1) 0 9 inW_X4 rfl rfl (Nat.le_of_ble_eq_true rfl) wF_X4_41 rfl rfl dX4_appendPosting_1 ?_
  refine a_sipush C (pc := 4) dX4_appendPosting_4 sp_600 ?_
  refine a_icmp_lt C (pc := 7) 12 dX4_appendPosting_7 (by decide) (fun hc => ?_) (fun hc => ?_)
  · have h := h.1 hc
    refine a_aload_n C (pc := 12) 0 dX4_appendPosting_12 rfl rfl ?_
    refine a_get C (pc := 13) 0 4 inW_X4 rfl rfl (Nat.le_of_ble_eq_true rfl) wF_X4_25 rfl rfl dX4_appendPosting_13 ?_
    refine a_aload_n C (pc := 16) 0 dX4_appendPosting_16 rfl rfl ?_
    refine a_get C (pc := 17) 0 9 inW_X4 rfl rfl (Nat.le_of_ble_eq_true rfl) wF_X4_41 rfl rfl dX4_appendPosting_17 ?_
    refine a_iload_n C (pc := 20) 1 dX4_appendPosting_20 rfl rfl ?_
    refine a_iast C (pc := 21) (ws1 := [(h0, oX4 d0 v_bits v_documents v_terms v_segments v_postings), ((d0 4), aI cs 600 (upd v_document (v_postings : Int32).toNatClampNeg l1)), ((d0 3), aI cs 601 v_firstPosting)]) 1 rfl h.1 dX4_appendPosting_21 rfl ?_
    replace h := h.2
    refine a_aload_n C (pc := 22) 0 dX4_appendPosting_22 rfl rfl ?_
    refine a_dup C (pc := 23) dX4_appendPosting_23 rfl ?_
    refine a_get C (pc := 24) 0 9 inW_X4 rfl rfl (Nat.le_of_ble_eq_true rfl) wF_X4_41 rfl rfl dX4_appendPosting_24 ?_
    refine a_iconst C (pc := 27) dX4_appendPosting_27 ic_1 ?_
    refine a_iadd C (pc := 28) dX4_appendPosting_28 ?_
    refine a_put C (pc := 29) (ws1 := [(h0, oX4 d0 v_bits v_documents v_terms v_segments (v_postings + 1)), ((d0 4), aI cs 600 (upd v_document (v_postings : Int32).toNatClampNeg l1)), ((d0 3), aI cs 601 v_firstPosting)]) 0 9 inW_X4 tyX4 tyX4_ok nmX4 rfl rfl (Nat.le_of_ble_eq_true rfl) wF_X4_41 rfl rfl rfl rfl rfl (Nat.le_of_ble_eq_true rfl) dX4_appendPosting_29 rfl ?_
    refine a_aload_n C (pc := 32) 0 dX4_appendPosting_32 rfl rfl ?_
    refine a_get C (pc := 33) 0 3 inW_X4 rfl rfl (Nat.le_of_ble_eq_true rfl) wF_X4_22 rfl rfl dX4_appendPosting_33 ?_
    refine a_aload_n C (pc := 36) 0 dX4_appendPosting_36 rfl rfl ?_
    refine a_get C (pc := 37) 0 8 inW_X4 rfl rfl (Nat.le_of_ble_eq_true rfl) wF_X4_38 rfl rfl dX4_appendPosting_37 ?_
    refine a_aload_n C (pc := 40) 0 dX4_appendPosting_40 rfl rfl ?_
    refine a_get C (pc := 41) 0 9 inW_X4 rfl rfl (Nat.le_of_ble_eq_true rfl) wF_X4_41 rfl rfl dX4_appendPosting_41 ?_
    refine a_iast C (pc := 44) (ws1 := [(h0, oX4 d0 v_bits v_documents v_terms v_segments (v_postings + 1)), ((d0 4), aI cs 600 (upd v_document (v_postings : Int32).toNatClampNeg l1)), ((d0 3), aI cs 601 (upd v_firstPosting (v_segments : Int32).toNatClampNeg (v_postings + 1)))]) 2 rfl h.1 dX4_appendPosting_44 rfl ?_
    replace h := h.2
    refine a_iconst C (pc := 45) dX4_appendPosting_45 ic_1 ?_
    exact a_zreturn C (pc := 46) rfl rfl dX4_appendPosting_46 (Nat.le_of_ble_eq_true rfl) (Nat.le_of_ble_eq_true rfl) ⟨_, _, _, _, rfl, rfl, h⟩
  · have h := h.2 hc
    refine a_iconst C (pc := 10) dX4_appendPosting_10 ic_0 ?_
    exact a_zreturn C (pc := 11) rfl rfl dX4_appendPosting_11 (Nat.le_of_ble_eq_true rfl) (Nat.le_of_ble_eq_true rfl) ⟨_, _, _, _, rfl, rfl, h⟩
set_option maxRecDepth 100000 in
set_option maxHeartbeats 4000000 in
theorem w_X4_appendTerm_46 {Γ : XG} {Lx : Launch} {Dx : va_G} {cs : Nat → ClassId} {n_a3 : Nat} {h0 : Nat} {h3 : Nat} {d0 : Nat → Nat} {v_bits : Int32} {v_documents : Int32} {v_a3 : Nat → Int32} {K_77 : Int32 → Int32 → Int32 → (Nat → Int64) → (Nat → Int32) → (Nat → Int32) → (Nat → Int32) → (Nat → Int32) → Int32 → Int32 → Prop} {Φ : Int32 → Int32 → Int32 → (Nat → Int64) → (Nat → Int32) → (Nat → Int32) → (Nat → Int32) → (Nat → Int32) → Prop} {k n9 : Nat} (C : CX Γ Lx Dx cs cX4_appendTerm RX4 "appendTerm" 7 none 1 24 0 0 (qEC cs 0 0 [] (R_X4_appendTerm cs n_a3 h0 h3 d0 v_bits v_documents v_a3 Φ) (fun _ _ => False))) (hkm : k ≤ 0) (hnm : n9 ≤ 0) : ∀ n : Nat, ∀ (v_terms : Int32) (v_segments : Int32) (v_postings : Int32) (v_term : Nat → Int64) (v_firstSegment : Nat → Int32) (v_impact : Nat → Int32) (v_firstPosting : Nat → Int32) (v_document : Nat → Int32) (l4 : Int32) (l5 : Int32) (l6 : Int32), L_X4_appendTerm_46 n n_a3 v_bits v_documents v_terms v_segments v_postings v_term v_firstSegment v_a3 v_impact v_firstPosting v_document l4 l5 l6 K_77 Φ → (∀ (v_terms_15 : Int32) (v_segments_16 : Int32) (v_postings_17 : Int32) (v_term_18 : Nat → Int64) (v_firstSegment_19 : Nat → Int32) (v_impact_20 : Nat → Int32) (v_firstPosting_21 : Nat → Int32) (v_document_22 : Nat → Int32) (l4_23 : Int32) (l5_24 : Int32), K_77 v_terms_15 v_segments_16 v_postings_17 v_term_18 v_firstSegment_19 v_impact_20 v_firstPosting_21 v_document_22 l4_23 l5_24 → AW Γ k n9 77 [(0, .ref h0), (3, .ref h3), (4, .int l4_23), (5, .int l5_24)] [] [(h0, oX4 d0 v_bits v_documents v_terms_15 v_segments_16 v_postings_17), ((d0 0), aJ cs 64 v_term_18), ((d0 1), aI cs 65 v_firstSegment_19), (h3, aI cs n_a3 v_a3), ((d0 2), aI cs 600 v_impact_20), ((d0 3), aI cs 601 v_firstPosting_21), ((d0 4), aI cs 600 v_document_22)]) → AW Γ k n9 46 [(0, .ref h0), (3, .ref h3), (4, .int l4), (5, .int l5), (6, .int l6)] [] [(h0, oX4 d0 v_bits v_documents v_terms v_segments v_postings), ((d0 0), aJ cs 64 v_term), ((d0 1), aI cs 65 v_firstSegment), (h3, aI cs n_a3 v_a3), ((d0 2), aI cs 600 v_impact), ((d0 3), aI cs 601 v_firstPosting), ((d0 4), aI cs 600 v_document)] := by
  intro n
  induction n with
  | zero =>
    intro v_terms v_segments v_postings v_term v_firstSegment v_impact v_firstPosting v_document l4 l5 l6 h
    exact False.elim h
  | succ n ih =>
    intro v_terms v_segments v_postings v_term v_firstSegment v_impact v_firstPosting v_document l4 l5 l6 h hK_77
    rw [L_X4_appendTerm_46] at h
    refine a_iload C (pc := 46) 4 dX4_appendTerm_46 rfl ?_
    refine a_aload_n C (pc := 48) 0 dX4_appendTerm_48 rfl rfl ?_
    refine a_get C (pc := 49) 0 6 inW_X4 rfl rfl (Nat.le_of_ble_eq_true rfl) wF_X4_32 rfl rfl dX4_appendTerm_49 ?_
    refine a_icmp_ge C (pc := 52) 77 dX4_appendTerm_52 (by decide) (fun hc => ?_) (fun hc => ?_)
    · have h := h.1 hc
      refine a_lv (lv1 := [(0, .ref h0), (3, .ref h3), (4, .int l4), (5, .int l5)]) [0, 1, 2, 3] rfl ?_
      exact hK_77 v_terms v_segments v_postings v_term v_firstSegment v_impact v_firstPosting v_document l4 l5 h
    · have h := h.2 hc
      refine a_aload_n C (pc := 55) 1 dX4_appendTerm_55 rfl rfl ?_
      refine a_iload C (pc := 56) 4 dX4_appendTerm_56 rfl ?_
      refine a_iald C (pc := 58) 3 rfl h.1 dX4_appendTerm_58 ?_
      replace h := h.2
      refine a_iload C (pc := 59) 2 dX4_appendTerm_59 rfl ?_
      refine a_icmp_ne C (pc := 61) 71 dX4_appendTerm_61 (by decide) (fun hc => ?_) (fun hc => ?_)
      · have h := h.1 hc
        refine a_iinc C (pc := 71) (lv1 := [(0, .ref h0), (3, .ref h3), (4, .int l4), (5, .int l5), (6, .int (l6 + 1))]) 4 [1, 2, 3, 4, 0] dX4_appendTerm_71 rfl (congrArg (fun z => l6 + z) ic_1) (by decide) rfl ?_
        refine a_goto C (pc := 74) 46 dX4_appendTerm_74 (by decide) ?_
        exact ih v_terms v_segments v_postings v_term v_firstSegment v_impact v_firstPosting v_document l4 l5 (l6 + 1) h hK_77
      · have h := h.2 hc
        refine a_aload_n C (pc := 64) 0 dX4_appendTerm_64 rfl rfl ?_
        refine a_iload C (pc := 65) 4 dX4_appendTerm_65 rfl ?_
        refine a_callV C (pc := 67) (av := [.int l6]) (wr := [((d0 0), aJ cs 64 v_term), ((d0 1), aI cs 65 v_firstSegment), (h3, aI cs n_a3 v_a3), ((d0 2), aI cs 600 v_impact)]) (m_X4_appendPosting Lx Dx cs h0 d0 v_bits v_documents v_terms v_segments v_postings v_document v_firstPosting l6 _ h) [0, 6, 5] [1, 2, 3, 4] rfl rfl (by decide) (by decide) (by decide) wM_X4_56 wb_X4_appendPosting hy_X4_appendPosting (q0 := 0) rfl rfl rfl ⟨Nat.le_of_ble_eq_true rfl, Nat.le_of_ble_eq_true rfl⟩ (Nat.le_of_ble_eq_true rfl) hkm hnm rfl dX4_appendTerm_67 (fun v w1 hw => ?_) [] rfl (fun _ _ h => h.elim)
        obtain ⟨r_11, v_postings_12, v_document_13, v_firstPosting_14, rfl, rfl, h⟩ := hw
        refine a_ws (st1 := [.int r_11]) (ws1 := [(h0, oX4 d0 v_bits v_documents v_terms v_segments v_postings_12), ((d0 0), aJ cs 64 v_term), ((d0 1), aI cs 65 v_firstSegment), (h3, aI cs n_a3 v_a3), ((d0 2), aI cs 600 v_impact), ((d0 3), aI cs 601 v_firstPosting_14), ((d0 4), aI cs 600 v_document_13)]) k n9 70 [4, 0, 1, 2, 3, 6, 5] rfl rfl rfl rfl (by decide) rfl ?_
        refine a_pop C (pc := 70) dX4_appendTerm_70 rfl ?_
        refine a_iinc C (pc := 71) (lv1 := [(0, .ref h0), (3, .ref h3), (4, .int l4), (5, .int l5), (6, .int (l6 + 1))]) 4 [1, 2, 3, 4, 0] dX4_appendTerm_71 rfl (congrArg (fun z => l6 + z) ic_1) (by decide) rfl ?_
        refine a_goto C (pc := 74) 46 dX4_appendTerm_74 (by decide) ?_
        exact ih v_terms v_segments v_postings_12 v_term v_firstSegment v_impact v_firstPosting_14 v_document_13 l4 l5 (l6 + 1) h hK_77
set_option maxRecDepth 100000 in
set_option maxHeartbeats 4000000 in
theorem w_X4_appendTerm_22 {Γ : XG} {Lx : Launch} {Dx : va_G} {cs : Nat → ClassId} {n_a3 : Nat} {h0 : Nat} {h3 : Nat} {d0 : Nat → Nat} {v_bits : Int32} {v_documents : Int32} {v_a3 : Nat → Int32} {K_92 : Int32 → Int32 → Int32 → (Nat → Int64) → (Nat → Int32) → (Nat → Int32) → (Nat → Int32) → (Nat → Int32) → Prop} {Φ : Int32 → Int32 → Int32 → (Nat → Int64) → (Nat → Int32) → (Nat → Int32) → (Nat → Int32) → (Nat → Int32) → Prop} {k n9 : Nat} (C : CX Γ Lx Dx cs cX4_appendTerm RX4 "appendTerm" 7 none 1 24 0 0 (qEC cs 0 0 [] (R_X4_appendTerm cs n_a3 h0 h3 d0 v_bits v_documents v_a3 Φ) (fun _ _ => False))) (hkm : k ≤ 0) (hnm : n9 ≤ 0) : ∀ n : Nat, ∀ (v_terms : Int32) (v_segments : Int32) (v_postings : Int32) (v_term : Nat → Int64) (v_firstSegment : Nat → Int32) (v_impact : Nat → Int32) (v_firstPosting : Nat → Int32) (v_document : Nat → Int32) (l4 : Int32) (l5 : Int32), L_X4_appendTerm_22 n n_a3 v_bits v_documents v_terms v_segments v_postings v_term v_firstSegment v_a3 v_impact v_firstPosting v_document l4 l5 K_92 Φ → (∀ (v_terms_36 : Int32) (v_segments_37 : Int32) (v_postings_38 : Int32) (v_term_39 : Nat → Int64) (v_firstSegment_40 : Nat → Int32) (v_impact_41 : Nat → Int32) (v_firstPosting_42 : Nat → Int32) (v_document_43 : Nat → Int32), K_92 v_terms_36 v_segments_37 v_postings_38 v_term_39 v_firstSegment_40 v_impact_41 v_firstPosting_42 v_document_43 → AW Γ k n9 92 [] [] [(h0, oX4 d0 v_bits v_documents v_terms_36 v_segments_37 v_postings_38), ((d0 0), aJ cs 64 v_term_39), ((d0 1), aI cs 65 v_firstSegment_40), (h3, aI cs n_a3 v_a3), ((d0 2), aI cs 600 v_impact_41), ((d0 3), aI cs 601 v_firstPosting_42), ((d0 4), aI cs 600 v_document_43)]) → AW Γ k n9 22 [(0, .ref h0), (3, .ref h3), (4, .int l4), (5, .int l5)] [] [(h0, oX4 d0 v_bits v_documents v_terms v_segments v_postings), ((d0 0), aJ cs 64 v_term), ((d0 1), aI cs 65 v_firstSegment), (h3, aI cs n_a3 v_a3), ((d0 2), aI cs 600 v_impact), ((d0 3), aI cs 601 v_firstPosting), ((d0 4), aI cs 600 v_document)] := by
  intro n
  induction n with
  | zero =>
    intro v_terms v_segments v_postings v_term v_firstSegment v_impact v_firstPosting v_document l4 l5 h
    exact False.elim h
  | succ n ih =>
    intro v_terms v_segments v_postings v_term v_firstSegment v_impact v_firstPosting v_document l4 l5 h hK_92
    rw [L_X4_appendTerm_22] at h
    refine a_iload C (pc := 22) 3 dX4_appendTerm_22 rfl ?_
    refine a_aload_n C (pc := 24) 0 dX4_appendTerm_24 rfl rfl ?_
    refine a_get C (pc := 25) 0 6 inW_X4 rfl rfl (Nat.le_of_ble_eq_true rfl) wF_X4_32 rfl rfl dX4_appendTerm_25 ?_
    refine a_icmp_ge C (pc := 28) 92 dX4_appendTerm_28 (by decide) (fun hc => ?_) (fun hc => ?_)
    · have h := h.1 hc
      refine a_lv (lv1 := []) [] rfl ?_
      exact hK_92 v_terms v_segments v_postings v_term v_firstSegment v_impact v_firstPosting v_document h
    · have h := h.2 hc
      refine a_iload C (pc := 31) 2 dX4_appendTerm_31 rfl ?_
      refine a_if_le C (pc := 33) 92 dX4_appendTerm_33 (by decide) (fun hc => ?_) (fun hc => ?_)
      · have h := h.1 hc
        refine a_lv (lv1 := []) [] rfl ?_
        exact hK_92 v_terms v_segments v_postings v_term v_firstSegment v_impact v_firstPosting v_document h
      · have h := h.2 hc
        refine a_aload_n C (pc := 36) 0 dX4_appendTerm_36 rfl rfl ?_
        refine a_iload C (pc := 37) 2 dX4_appendTerm_37 rfl ?_
        refine a_callV C (pc := 39) (av := [.int l4]) (wr := [((d0 0), aJ cs 64 v_term), (h3, aI cs n_a3 v_a3), ((d0 4), aI cs 600 v_document)]) (m_X4_startSegment Lx Dx cs h0 d0 v_bits v_documents v_terms v_segments v_postings v_impact v_firstSegment v_firstPosting l4 _ h) [0, 4, 2, 5] [1, 3, 6] rfl rfl (by decide) (by decide) (by decide) wM_X4_52 wb_X4_startSegment hy_X4_startSegment (q0 := 0) rfl rfl rfl ⟨Nat.le_of_ble_eq_true rfl, Nat.le_of_ble_eq_true rfl⟩ (Nat.le_of_ble_eq_true rfl) hkm hnm rfl dX4_appendTerm_39 (fun v w1 hw => ?_) [] rfl (fun _ _ h => h.elim)
        obtain ⟨r_6, v_segments_7, v_impact_8, v_firstSegment_9, v_firstPosting_10, rfl, rfl, h⟩ := hw
        refine a_ws (st1 := [.int r_6]) (ws1 := [(h0, oX4 d0 v_bits v_documents v_terms v_segments_7 v_postings), ((d0 0), aJ cs 64 v_term), ((d0 1), aI cs 65 v_firstSegment_9), (h3, aI cs n_a3 v_a3), ((d0 2), aI cs 600 v_impact_8), ((d0 3), aI cs 601 v_firstPosting_10), ((d0 4), aI cs 600 v_document)]) k n9 42 [3, 0, 5, 1, 4, 6, 2] rfl rfl rfl rfl (by decide) rfl ?_
        refine a_pop C (pc := 42) dX4_appendTerm_42 rfl ?_
        refine a_iconst C (pc := 43) dX4_appendTerm_43 ic_0 ?_
        refine a_istore C (pc := 44) (lv1 := [(0, .ref h0), (3, .ref h3), (4, .int l4), (5, .int l5), (6, .int 0)]) [1, 2, 3, 4, 0] dX4_appendTerm_44 (by decide) rfl ?_
        obtain ⟨n0, h⟩ := h
        refine w_X4_appendTerm_46 C hkm hnm n0 v_terms v_segments_7 v_postings v_term v_firstSegment_9 v_impact_8 v_firstPosting_10 v_document l4 l5 0 h ?_
        intro v_terms_25 v_segments_26 v_postings_27 v_term_28 v_firstSegment_29 v_impact_30 v_firstPosting_31 v_document_32 l4_33 l5_34 h
        refine a_aload_n C (pc := 77) 0 dX4_appendTerm_77 rfl rfl ?_
        refine a_iload C (pc := 78) 2 dX4_appendTerm_78 rfl ?_
        refine a_aload_n C (pc := 80) 1 dX4_appendTerm_80 rfl rfl ?_
        refine a_callV C (pc := 81) (av := [.int l4_33, .ref h3]) (wr := [((d0 0), aJ cs 64 v_term_28), ((d0 1), aI cs 65 v_firstSegment_29), ((d0 2), aI cs 600 v_impact_30), ((d0 3), aI cs 601 v_firstPosting_31), ((d0 4), aI cs 600 v_document_32)]) (m_X4_greatestBelow Lx Dx cs n_a3 h0 h3 d0 v_bits v_documents v_terms_25 v_segments_26 v_postings_27 v_a3 l4_33 _ h) [0, 3] [1, 2, 4, 5, 6] rfl rfl (by decide) (by decide) (by decide) wM_X4_48 wb_X4_greatestBelow hy_X4_greatestBelow (q0 := 0) rfl rfl rfl ⟨Nat.le_of_ble_eq_true rfl, Nat.le_of_ble_eq_true rfl⟩ (Nat.le_of_ble_eq_true rfl) hkm hnm rfl dX4_appendTerm_81 (fun v w1 hw => ?_) [] rfl (fun _ _ h => h.elim)
        obtain ⟨r_35, rfl, rfl, h⟩ := hw
        refine a_ws (st1 := [.int r_35]) (ws1 := [(h0, oX4 d0 v_bits v_documents v_terms_25 v_segments_26 v_postings_27), ((d0 0), aJ cs 64 v_term_28), ((d0 1), aI cs 65 v_firstSegment_29), (h3, aI cs n_a3 v_a3), ((d0 2), aI cs 600 v_impact_30), ((d0 3), aI cs 601 v_firstPosting_31), ((d0 4), aI cs 600 v_document_32)]) k n9 84 [5, 0, 1, 6, 2, 3, 4] rfl rfl rfl rfl (by decide) rfl ?_
        refine a_istore C (pc := 84) (lv1 := [(0, .ref h0), (3, .ref h3), (4, .int r_35), (5, .int l5_34)]) [1, 2, 0, 3] dX4_appendTerm_84 (by decide) rfl ?_
        refine a_iinc C (pc := 86) (lv1 := [(0, .ref h0), (3, .ref h3), (4, .int r_35), (5, .int (l5_34 + 1))]) 3 [1, 2, 3, 0] dX4_appendTerm_86 rfl (congrArg (fun z => l5_34 + z) ic_1) (by decide) rfl ?_
        refine a_goto C (pc := 89) 22 dX4_appendTerm_89 (by decide) ?_
        exact ih v_terms_25 v_segments_26 v_postings_27 v_term_28 v_firstSegment_29 v_impact_30 v_firstPosting_31 v_document_32 r_35 (l5_34 + 1) h hK_92
set_option maxRecDepth 100000 in
set_option maxHeartbeats 4000000 in
theorem m_X4_appendTerm (Lx : Launch) (Dx : va_G) (cs : Nat → ClassId) (n_a3 : Nat) (h0 : Nat) (h3 : Nat) (d0 : Nat → Nat) (v_bits : Int32) (v_documents : Int32) (v_terms : Int32) (v_segments : Int32) (v_postings : Int32) (v_term : Nat → Int64) (v_firstSegment : Nat → Int32) (v_a3 : Nat → Int32) (v_impact : Nat → Int32) (v_firstPosting : Nat → Int32) (v_document : Nat → Int32) (l1 : Int64) (Φ : Int32 → Int32 → Int32 → (Nat → Int64) → (Nat → Int32) → (Nat → Int32) → (Nat → Int32) → (Nat → Int32) → Prop) (h : P_X4_appendTerm n_a3 v_bits v_documents v_terms v_segments v_postings v_term v_firstSegment v_a3 v_impact v_firstPosting v_document l1 Φ) : XMet Lx Dx cs yX4_appendTerm cX4_appendTerm 7 none 1 24 0 0 [.ref h0, .long l1, .ref h3] [(h0, oX4 d0 v_bits v_documents v_terms v_segments v_postings), ((d0 0), aJ cs 64 v_term), ((d0 1), aI cs 65 v_firstSegment), (h3, aI cs n_a3 v_a3), ((d0 2), aI cs 600 v_impact), ((d0 3), aI cs 601 v_firstPosting), ((d0 4), aI cs 600 v_document)] (R_X4_appendTerm cs n_a3 h0 h3 d0 v_bits v_documents v_a3 Φ) (fun _ _ => False) := by
  refine XMet.of (own := RX4) (nm := "appendTerm") (by decide) rfl rfl (Nat.le_of_ble_eq_true rfl) (fun Γ C => ?_)
  unfold P_X4_appendTerm at h
  refine a_aload_n C (pc := 0) 0 dX4_appendTerm_0 rfl rfl ?_
  refine a_lload_n C (pc := 1) 1 dX4_appendTerm_1 rfl rfl ?_
  refine a_callV C (pc := 2) (av := [.long l1]) (wr := [(h3, aI cs n_a3 v_a3), ((d0 2), aI cs 600 v_impact), ((d0 3), aI cs 601 v_firstPosting), ((d0 4), aI cs 600 v_document)]) (m_X4_startTerm Lx Dx cs h0 d0 v_bits v_documents v_terms v_segments v_postings v_term v_firstSegment l1 _ h) [0, 1, 2] [3, 4, 5, 6] rfl rfl (by decide) (by decide) (by decide) wM_X4_44 wb_X4_startTerm hy_X4_startTerm (q0 := 0) rfl rfl rfl ⟨Nat.le_of_ble_eq_true rfl, Nat.le_of_ble_eq_true rfl⟩ (Nat.le_of_ble_eq_true rfl) (Nat.le_of_ble_eq_true rfl) (Nat.le_of_ble_eq_true rfl) rfl dX4_appendTerm_2 (fun v w1 hw => ?_) [] rfl (fun _ _ h => h.elim)
  obtain ⟨r_1, v_terms_2, v_term_3, v_firstSegment_4, rfl, rfl, h⟩ := hw
  refine a_ws (st1 := [.int r_1]) (ws1 := [(h0, oX4 d0 v_bits v_documents v_terms_2 v_segments v_postings), ((d0 0), aJ cs 64 v_term_3), ((d0 1), aI cs 65 v_firstSegment_4), (h3, aI cs n_a3 v_a3), ((d0 2), aI cs 600 v_impact), ((d0 3), aI cs 601 v_firstPosting), ((d0 4), aI cs 600 v_document)]) 0 0 5 [4, 5, 6, 0, 1, 2, 3] rfl rfl rfl rfl (by decide) rfl ?_
  refine a_pop C (pc := 5) dX4_appendTerm_5 rfl ?_
  refine a_aload_n C (pc := 6) 0 dX4_appendTerm_6 rfl rfl ?_
  refine a_iconst C (pc := 7) dX4_appendTerm_7 ic_1 ?_
  refine a_aload_n C (pc := 8) 0 dX4_appendTerm_8 rfl rfl ?_
  refine a_get C (pc := 9) 0 5 inW_X4 rfl rfl (Nat.le_of_ble_eq_true rfl) wF_X4_28 rfl rfl dX4_appendTerm_9 ?_
  refine a_ishl C (pc := 12) dX4_appendTerm_12 ?_
  refine a_aload_n C (pc := 13) 2 dX4_appendTerm_13 rfl rfl ?_
  refine a_callV C (pc := 14) (av := [.int ((1 : Int32) <<< (v_bits &&& 31)), .ref h3]) (wr := [((d0 0), aJ cs 64 v_term_3), ((d0 1), aI cs 65 v_firstSegment_4), ((d0 2), aI cs 600 v_impact), ((d0 3), aI cs 601 v_firstPosting), ((d0 4), aI cs 600 v_document)]) (m_X4_greatestBelow Lx Dx cs n_a3 h0 h3 d0 v_bits v_documents v_terms_2 v_segments v_postings v_a3 ((1 : Int32) <<< (v_bits &&& 31)) _ h) [0, 3] [1, 2, 4, 5, 6] rfl rfl (by decide) (by decide) (by decide) wM_X4_48 wb_X4_greatestBelow hy_X4_greatestBelow (q0 := 0) rfl rfl rfl ⟨Nat.le_of_ble_eq_true rfl, Nat.le_of_ble_eq_true rfl⟩ (Nat.le_of_ble_eq_true rfl) (Nat.le_of_ble_eq_true rfl) (Nat.le_of_ble_eq_true rfl) rfl dX4_appendTerm_14 (fun v w1 hw => ?_) [] rfl (fun _ _ h => h.elim)
  obtain ⟨r_5, rfl, rfl, h⟩ := hw
  refine a_ws (st1 := [.int r_5]) (ws1 := [(h0, oX4 d0 v_bits v_documents v_terms_2 v_segments v_postings), ((d0 0), aJ cs 64 v_term_3), ((d0 1), aI cs 65 v_firstSegment_4), (h3, aI cs n_a3 v_a3), ((d0 2), aI cs 600 v_impact), ((d0 3), aI cs 601 v_firstPosting), ((d0 4), aI cs 600 v_document)]) 0 0 17 [5, 0, 1, 6, 2, 3, 4] rfl rfl rfl rfl (by decide) rfl ?_
  refine a_istore C (pc := 17) (lv1 := [(0, .ref h0), (1, .long l1), (3, .ref h3), (4, .int r_5)]) [1, 2, 3, 0] dX4_appendTerm_17 (by decide) rfl ?_
  refine a_iconst C (pc := 19) dX4_appendTerm_19 ic_0 ?_
  refine a_istore C (pc := 20) (lv1 := [(0, .ref h0), (1, .long l1), (3, .ref h3), (4, .int r_5), (5, .int 0)]) [1, 2, 3, 4, 0] dX4_appendTerm_20 (by decide) rfl ?_
  obtain ⟨n0, h⟩ := h
  refine a_lv (lv1 := [(0, .ref h0), (3, .ref h3), (4, .int r_5), (5, .int 0)]) [0, 2, 3, 4] rfl ?_
  refine w_X4_appendTerm_22 C (Nat.le_of_ble_eq_true rfl) (Nat.le_of_ble_eq_true rfl) n0 v_terms_2 v_segments v_postings v_term_3 v_firstSegment_4 v_impact v_firstPosting v_document r_5 0 h ?_
  intro v_terms_44 v_segments_45 v_postings_46 v_term_47 v_firstSegment_48 v_impact_49 v_firstPosting_50 v_document_51 h
  exact a_return C (pc := 92) rfl dX4_appendTerm_92 (Nat.le_of_ble_eq_true rfl) (Nat.le_of_ble_eq_true rfl) ⟨_, _, _, _, _, _, _, _, rfl, rfl, h⟩
set_option maxRecDepth 100000 in
set_option maxHeartbeats 4000000 in
theorem w_X1_makeIndex_39 {Γ : XG} {Lx : Launch} {Dx : va_G} {cs : Nat → ClassId} {h0 : Nat} {h2 : Nat} {d0 : Nat → Nat} {d2 : Nat → Nat} {v_documents : Int32} {v_terms : Int32} {v_postings : Int32} {v_lengthOfAll : Int32} {v_times : Nat → Int32} {v_inDocuments : Nat → Int32} {v_length : Nat → Int32} {v_term : Nat → Int64} {K_102 : (Nat → UInt64) → Int32 → Int32 → Int32 → Int32 → Int32 → (Nat → Int32) → (Nat → Int64) → (Nat → Int32) → (Nat → Int32) → (Nat → Int32) → (Nat → Int32) → Int32 → UInt64 → UInt64 → Int32 → Prop} {Φ : (Nat → UInt64) → Int32 → Int32 → Int32 → Int32 → Int32 → (Nat → Int32) → (Nat → Int64) → (Nat → Int32) → (Nat → Int32) → (Nat → Int32) → (Nat → Int32) → Prop} {k n9 : Nat} (C : CX Γ Lx Dx cs cX1_makeIndex RX1 "makeIndex" 10 none 3 80 0 0 (qEC cs 0 0 [] (R_X1_makeIndex cs h0 h2 d0 d2 v_documents v_terms v_postings v_lengthOfAll v_times v_inDocuments v_length v_term Φ) (fun _ _ => False))) (hkm : k ≤ 0) (hnm : n9 ≤ 0) : ∀ n : Nat, ∀ (v_scores : Nat → UInt64) (v_a2_bits : Int32) (v_a2_documents : Int32) (v_a2_terms : Int32) (v_a2_segments : Int32) (v_a2_postings : Int32) (v_impacts : Nat → Int32) (v_a2_term : Nat → Int64) (v_a2_firstSegment : Nat → Int32) (v_a2_impact : Nat → Int32) (v_a2_firstPosting : Nat → Int32) (v_a2_document : Nat → Int32) (l1 : Int32) (l3 : UInt64) (l5 : UInt64) (l7 : Int32) (l8 : Int32), L_X1_makeIndex_39 n v_documents v_terms v_lengthOfAll v_times v_inDocuments v_length v_scores v_a2_bits v_a2_documents v_a2_terms v_a2_segments v_a2_postings v_impacts v_term v_a2_term v_a2_firstSegment v_a2_impact v_a2_firstPosting v_a2_document l1 l3 l5 l7 l8 K_102 Φ → (∀ (v_scores_11 : Nat → UInt64) (v_a2_bits_12 : Int32) (v_a2_documents_13 : Int32) (v_a2_terms_14 : Int32) (v_a2_segments_15 : Int32) (v_a2_postings_16 : Int32) (v_impacts_17 : Nat → Int32) (v_a2_term_18 : Nat → Int64) (v_a2_firstSegment_19 : Nat → Int32) (v_a2_impact_20 : Nat → Int32) (v_a2_firstPosting_21 : Nat → Int32) (v_a2_document_22 : Nat → Int32) (l1_23 : Int32) (l3_24 : UInt64) (l5_25 : UInt64) (l7_26 : Int32), K_102 v_scores_11 v_a2_bits_12 v_a2_documents_13 v_a2_terms_14 v_a2_segments_15 v_a2_postings_16 v_impacts_17 v_a2_term_18 v_a2_firstSegment_19 v_a2_impact_20 v_a2_firstPosting_21 v_a2_document_22 l1_23 l3_24 l5_25 l7_26 → AW Γ k n9 102 [(0, .ref h0), (1, .int l1_23), (2, .ref h2), (3, .double l3_24), (5, .double l5_25), (7, .int l7_26)] [] [(h0, oX1 d0 v_documents v_terms v_postings v_lengthOfAll), ((d0 2), aI cs 2560 v_times), ((d0 1), aI cs 64 v_inDocuments), ((d0 5), aI cs 40 v_length), ((d0 3), aD cs 2560 v_scores_11), (h2, oX4 d2 v_a2_bits_12 v_a2_documents_13 v_a2_terms_14 v_a2_segments_15 v_a2_postings_16), ((d0 4), aI cs 40 v_impacts_17), ((d0 0), aJ cs 64 v_term), ((d2 0), aJ cs 64 v_a2_term_18), ((d2 1), aI cs 65 v_a2_firstSegment_19), ((d2 2), aI cs 600 v_a2_impact_20), ((d2 3), aI cs 601 v_a2_firstPosting_21), ((d2 4), aI cs 600 v_a2_document_22)]) → AW Γ k n9 39 [(0, .ref h0), (1, .int l1), (2, .ref h2), (3, .double l3), (5, .double l5), (7, .int l7), (8, .int l8)] [] [(h0, oX1 d0 v_documents v_terms v_postings v_lengthOfAll), ((d0 2), aI cs 2560 v_times), ((d0 1), aI cs 64 v_inDocuments), ((d0 5), aI cs 40 v_length), ((d0 3), aD cs 2560 v_scores), (h2, oX4 d2 v_a2_bits v_a2_documents v_a2_terms v_a2_segments v_a2_postings), ((d0 4), aI cs 40 v_impacts), ((d0 0), aJ cs 64 v_term), ((d2 0), aJ cs 64 v_a2_term), ((d2 1), aI cs 65 v_a2_firstSegment), ((d2 2), aI cs 600 v_a2_impact), ((d2 3), aI cs 601 v_a2_firstPosting), ((d2 4), aI cs 600 v_a2_document)] := by
  intro n
  induction n with
  | zero =>
    intro v_scores v_a2_bits v_a2_documents v_a2_terms v_a2_segments v_a2_postings v_impacts v_a2_term v_a2_firstSegment v_a2_impact v_a2_firstPosting v_a2_document l1 l3 l5 l7 l8 h
    exact False.elim h
  | succ n ih =>
    intro v_scores v_a2_bits v_a2_documents v_a2_terms v_a2_segments v_a2_postings v_impacts v_a2_term v_a2_firstSegment v_a2_impact v_a2_firstPosting v_a2_document l1 l3 l5 l7 l8 h hK_102
    rw [L_X1_makeIndex_39] at h
    refine a_iload C (pc := 39) 6 dX1_makeIndex_39 rfl ?_
    refine a_aload_n C (pc := 41) 0 dX1_makeIndex_41 rfl rfl ?_
    refine a_get C (pc := 42) 0 6 inW_X1 rfl rfl (Nat.le_of_ble_eq_true rfl) wF_X1_32 rfl rfl dX1_makeIndex_42 ?_
    refine a_icmp_ge C (pc := 45) 102 dX1_makeIndex_45 (by decide) (fun hc => ?_) (fun hc => ?_)
    · have h := h.1 hc
      refine a_lv (lv1 := [(0, .ref h0), (1, .int l1), (2, .ref h2), (3, .double l3), (5, .double l5), (7, .int l7)]) [0, 1, 2, 3, 4, 5] rfl ?_
      exact hK_102 v_scores v_a2_bits v_a2_documents v_a2_terms v_a2_segments v_a2_postings v_impacts v_a2_term v_a2_firstSegment v_a2_impact v_a2_firstPosting v_a2_document l1 l3 l5 l7 h
    · have h := h.2 hc
      refine a_iload C (pc := 48) 5 dX1_makeIndex_48 rfl ?_
      refine a_bipush C (pc := 50) dX1_makeIndex_50 bp_40 ?_
      refine a_imul C (pc := 52) dX1_makeIndex_52 ?_
      refine a_iload C (pc := 53) 6 dX1_makeIndex_53 rfl ?_
      refine a_iadd C (pc := 55) dX1_makeIndex_55 ?_
      refine a_istore C (pc := 56) (lv1 := [(0, .ref h0), (1, .int l1), (2, .ref h2), (3, .double l3), (5, .double l5), (7, .int l7), (8, .int l8), (9, .int ((l7 * 40) + l8))]) [1, 2, 3, 4, 5, 6, 7, 0] dX1_makeIndex_56 (by decide) rfl ?_
      refine a_aload_n C (pc := 58) 0 dX1_makeIndex_58 rfl rfl ?_
      refine a_get C (pc := 59) 0 4 inW_X1 rfl rfl (Nat.le_of_ble_eq_true rfl) wF_X1_26 rfl rfl dX1_makeIndex_59 ?_
      refine a_iload C (pc := 62) 6 dX1_makeIndex_62 rfl ?_
      refine a_aload_n C (pc := 64) 0 dX1_makeIndex_64 rfl rfl ?_
      refine a_iload C (pc := 65) 7 dX1_makeIndex_65 rfl ?_
      refine a_callV C (pc := 67) (av := [.int ((l7 * 40) + l8)]) (wr := [((d0 1), aI cs 64 v_inDocuments), ((d0 5), aI cs 40 v_length), ((d0 3), aD cs 2560 v_scores), (h2, oX4 d2 v_a2_bits v_a2_documents v_a2_terms v_a2_segments v_a2_postings), ((d0 4), aI cs 40 v_impacts), ((d0 0), aJ cs 64 v_term), ((d2 0), aJ cs 64 v_a2_term), ((d2 1), aI cs 65 v_a2_firstSegment), ((d2 2), aI cs 600 v_a2_impact), ((d2 3), aI cs 601 v_a2_firstPosting), ((d2 4), aI cs 600 v_a2_document)]) (m_X1_isPosting Lx Dx cs h0 d0 v_documents v_terms v_postings v_lengthOfAll v_times ((l7 * 40) + l8) _ h) [0, 1] [2, 3, 4, 5, 6, 7, 8, 9, 10, 11, 12] rfl rfl (by decide) (by decide) (by decide) wM_X1_87 wb_X1_isPosting hy_X1_isPosting (q0 := 0) rfl rfl rfl ⟨Nat.le_of_ble_eq_true rfl, Nat.le_of_ble_eq_true rfl⟩ (Nat.le_of_ble_eq_true rfl) hkm hnm rfl dX1_makeIndex_67 (fun v w1 hw => ?_) [] rfl (fun _ _ h => h.elim)
      obtain ⟨r_9, rfl, rfl, h⟩ := hw
      refine a_ws (st1 := [.int r_9, .int l8, .ref (d0 4)]) (ws1 := [(h0, oX1 d0 v_documents v_terms v_postings v_lengthOfAll), ((d0 2), aI cs 2560 v_times), ((d0 1), aI cs 64 v_inDocuments), ((d0 5), aI cs 40 v_length), ((d0 3), aD cs 2560 v_scores), (h2, oX4 d2 v_a2_bits v_a2_documents v_a2_terms v_a2_segments v_a2_postings), ((d0 4), aI cs 40 v_impacts), ((d0 0), aJ cs 64 v_term), ((d2 0), aJ cs 64 v_a2_term), ((d2 1), aI cs 65 v_a2_firstSegment), ((d2 2), aI cs 600 v_a2_impact), ((d2 3), aI cs 601 v_a2_firstPosting), ((d2 4), aI cs 600 v_a2_document)]) k n9 70 [11, 12, 0, 1, 2, 3, 4, 5, 6, 7, 8, 9, 10] rfl rfl rfl rfl (by decide) rfl ?_
      refine a_if_eq C (pc := 70) 94 dX1_makeIndex_70 (by decide) (fun hc => ?_) (fun hc => ?_)
      · have h := h.1 hc
        refine a_iconst C (pc := 94) dX1_makeIndex_94 ic_0 ?_
        refine a_iast C (pc := 95) (ws1 := [(h0, oX1 d0 v_documents v_terms v_postings v_lengthOfAll), ((d0 2), aI cs 2560 v_times), ((d0 1), aI cs 64 v_inDocuments), ((d0 5), aI cs 40 v_length), ((d0 3), aD cs 2560 v_scores), (h2, oX4 d2 v_a2_bits v_a2_documents v_a2_terms v_a2_segments v_a2_postings), ((d0 4), aI cs 40 (upd v_impacts (l8 : Int32).toNatClampNeg 0)), ((d0 0), aJ cs 64 v_term), ((d2 0), aJ cs 64 v_a2_term), ((d2 1), aI cs 65 v_a2_firstSegment), ((d2 2), aI cs 600 v_a2_impact), ((d2 3), aI cs 601 v_a2_firstPosting), ((d2 4), aI cs 600 v_a2_document)]) 6 rfl h.1 dX1_makeIndex_95 rfl ?_
        replace h := h.2
        refine a_iinc C (pc := 96) (lv1 := [(0, .ref h0), (1, .int l1), (2, .ref h2), (3, .double l3), (5, .double l5), (7, .int l7), (8, .int (l8 + 1)), (9, .int ((l7 * 40) + l8))]) 6 [1, 2, 3, 4, 5, 6, 0, 7] dX1_makeIndex_96 rfl (congrArg (fun z => l8 + z) ic_1) (by decide) rfl ?_
        refine a_goto C (pc := 99) 39 dX1_makeIndex_99 (by decide) ?_
        refine a_lv (lv1 := [(0, .ref h0), (1, .int l1), (2, .ref h2), (3, .double l3), (5, .double l5), (7, .int l7), (8, .int (l8 + 1))]) [0, 1, 2, 3, 4, 5, 6] rfl ?_
        exact ih v_scores v_a2_bits v_a2_documents v_a2_terms v_a2_segments v_a2_postings (upd v_impacts (l8 : Int32).toNatClampNeg 0) v_a2_term v_a2_firstSegment v_a2_impact v_a2_firstPosting v_a2_document l1 l3 l5 l7 (l8 + 1) h hK_102
      · have h := h.2 hc
        refine a_aload_n C (pc := 73) 0 dX1_makeIndex_73 rfl rfl ?_
        refine a_get C (pc := 74) 0 3 inW_X1 rfl rfl (Nat.le_of_ble_eq_true rfl) wF_X1_22 rfl rfl dX1_makeIndex_74 ?_
        refine a_iload C (pc := 77) 7 dX1_makeIndex_77 rfl ?_
        refine a_dald C (pc := 79) 4 rfl h.1 dX1_makeIndex_79 ?_
        replace h := h.2
        refine a_dload_n C (pc := 80) 3 dX1_makeIndex_80 rfl rfl ?_
        refine a_dload C (pc := 81) 4 dX1_makeIndex_81 rfl ?_
        refine a_iconst C (pc := 83) dX1_makeIndex_83 ic_1 ?_
        refine a_iload_n C (pc := 84) 1 dX1_makeIndex_84 rfl rfl ?_
        refine a_ishl C (pc := 85) dX1_makeIndex_85 ?_
        refine a_iconst C (pc := 86) dX1_makeIndex_86 ic_1 ?_
        refine a_isub C (pc := 87) dX1_makeIndex_87 ?_
        refine a_callS C (pc := 88) (av := [.double (v_scores ((l7 * 40) + l8 : Int32).toNatClampNeg), .double l3, .double l5, .int (((1 : Int32) <<< (l1 &&& 31)) - 1)]) (wr := [(h0, oX1 d0 v_documents v_terms v_postings v_lengthOfAll), ((d0 2), aI cs 2560 v_times), ((d0 1), aI cs 64 v_inDocuments), ((d0 5), aI cs 40 v_length), ((d0 3), aD cs 2560 v_scores), (h2, oX4 d2 v_a2_bits v_a2_documents v_a2_terms v_a2_segments v_a2_postings), ((d0 4), aI cs 40 v_impacts), ((d0 0), aJ cs 64 v_term), ((d2 0), aJ cs 64 v_a2_term), ((d2 1), aI cs 65 v_a2_firstSegment), ((d2 2), aI cs 600 v_a2_impact), ((d2 3), aI cs 601 v_a2_firstPosting), ((d2 4), aI cs 600 v_a2_document)]) (m_X1_impactOf Lx Dx cs (v_scores ((l7 * 40) + l8 : Int32).toNatClampNeg) l3 l5 (((1 : Int32) <<< (l1 &&& 31)) - 1) _ h) [] [0, 1, 2, 3, 4, 5, 6, 7, 8, 9, 10, 11, 12] rfl rfl (by decide) (by decide) (by decide) wM_X1_91 wb_X1_impactOf hy_X1_impactOf rfl ⟨Nat.le_of_ble_eq_true rfl, Nat.le_of_ble_eq_true rfl⟩ (Nat.le_of_ble_eq_true rfl) hkm hnm rfl dX1_makeIndex_88 (fun v w1 hw => ?_) [] rfl (fun _ _ h => h.elim)
        obtain ⟨r_10, rfl, rfl, h⟩ := hw
        refine a_ws (st1 := [.int r_10, .int l8, .ref (d0 4)]) (ws1 := [(h0, oX1 d0 v_documents v_terms v_postings v_lengthOfAll), ((d0 2), aI cs 2560 v_times), ((d0 1), aI cs 64 v_inDocuments), ((d0 5), aI cs 40 v_length), ((d0 3), aD cs 2560 v_scores), (h2, oX4 d2 v_a2_bits v_a2_documents v_a2_terms v_a2_segments v_a2_postings), ((d0 4), aI cs 40 v_impacts), ((d0 0), aJ cs 64 v_term), ((d2 0), aJ cs 64 v_a2_term), ((d2 1), aI cs 65 v_a2_firstSegment), ((d2 2), aI cs 600 v_a2_impact), ((d2 3), aI cs 601 v_a2_firstPosting), ((d2 4), aI cs 600 v_a2_document)]) k n9 91 [0, 1, 2, 3, 4, 5, 6, 7, 8, 9, 10, 11, 12] rfl rfl rfl rfl (by decide) rfl ?_
        refine a_goto C (pc := 91) 95 dX1_makeIndex_91 (by decide) ?_
        refine a_iast C (pc := 95) (ws1 := [(h0, oX1 d0 v_documents v_terms v_postings v_lengthOfAll), ((d0 2), aI cs 2560 v_times), ((d0 1), aI cs 64 v_inDocuments), ((d0 5), aI cs 40 v_length), ((d0 3), aD cs 2560 v_scores), (h2, oX4 d2 v_a2_bits v_a2_documents v_a2_terms v_a2_segments v_a2_postings), ((d0 4), aI cs 40 (upd v_impacts (l8 : Int32).toNatClampNeg r_10)), ((d0 0), aJ cs 64 v_term), ((d2 0), aJ cs 64 v_a2_term), ((d2 1), aI cs 65 v_a2_firstSegment), ((d2 2), aI cs 600 v_a2_impact), ((d2 3), aI cs 601 v_a2_firstPosting), ((d2 4), aI cs 600 v_a2_document)]) 6 rfl h.1 dX1_makeIndex_95 rfl ?_
        replace h := h.2
        refine a_iinc C (pc := 96) (lv1 := [(0, .ref h0), (1, .int l1), (2, .ref h2), (3, .double l3), (5, .double l5), (7, .int l7), (8, .int (l8 + 1)), (9, .int ((l7 * 40) + l8))]) 6 [1, 2, 3, 4, 5, 6, 0, 7] dX1_makeIndex_96 rfl (congrArg (fun z => l8 + z) ic_1) (by decide) rfl ?_
        refine a_goto C (pc := 99) 39 dX1_makeIndex_99 (by decide) ?_
        refine a_lv (lv1 := [(0, .ref h0), (1, .int l1), (2, .ref h2), (3, .double l3), (5, .double l5), (7, .int l7), (8, .int (l8 + 1))]) [0, 1, 2, 3, 4, 5, 6] rfl ?_
        exact ih v_scores v_a2_bits v_a2_documents v_a2_terms v_a2_segments v_a2_postings (upd v_impacts (l8 : Int32).toNatClampNeg r_10) v_a2_term v_a2_firstSegment v_a2_impact v_a2_firstPosting v_a2_document l1 l3 l5 l7 (l8 + 1) h hK_102
set_option maxRecDepth 100000 in
set_option maxHeartbeats 4000000 in
theorem w_X1_makeIndex_27 {Γ : XG} {Lx : Launch} {Dx : va_G} {cs : Nat → ClassId} {h0 : Nat} {h2 : Nat} {d0 : Nat → Nat} {d2 : Nat → Nat} {v_documents : Int32} {v_terms : Int32} {v_postings : Int32} {v_lengthOfAll : Int32} {v_times : Nat → Int32} {v_inDocuments : Nat → Int32} {v_length : Nat → Int32} {v_term : Nat → Int64} {K_123 : (Nat → UInt64) → Int32 → Int32 → Int32 → Int32 → Int32 → (Nat → Int32) → (Nat → Int64) → (Nat → Int32) → (Nat → Int32) → (Nat → Int32) → (Nat → Int32) → Prop} {Φ : (Nat → UInt64) → Int32 → Int32 → Int32 → Int32 → Int32 → (Nat → Int32) → (Nat → Int64) → (Nat → Int32) → (Nat → Int32) → (Nat → Int32) → (Nat → Int32) → Prop} {k n9 : Nat} (C : CX Γ Lx Dx cs cX1_makeIndex RX1 "makeIndex" 10 none 3 80 0 0 (qEC cs 0 0 [] (R_X1_makeIndex cs h0 h2 d0 d2 v_documents v_terms v_postings v_lengthOfAll v_times v_inDocuments v_length v_term Φ) (fun _ _ => False))) (hkm : k ≤ 0) (hnm : n9 ≤ 0) : ∀ n : Nat, ∀ (v_scores : Nat → UInt64) (v_a2_bits : Int32) (v_a2_documents : Int32) (v_a2_terms : Int32) (v_a2_segments : Int32) (v_a2_postings : Int32) (v_impacts : Nat → Int32) (v_a2_term : Nat → Int64) (v_a2_firstSegment : Nat → Int32) (v_a2_impact : Nat → Int32) (v_a2_firstPosting : Nat → Int32) (v_a2_document : Nat → Int32) (l1 : Int32) (l3 : UInt64) (l5 : UInt64) (l7 : Int32), L_X1_makeIndex_27 n v_documents v_terms v_lengthOfAll v_times v_inDocuments v_length v_scores v_a2_bits v_a2_documents v_a2_terms v_a2_segments v_a2_postings v_impacts v_term v_a2_term v_a2_firstSegment v_a2_impact v_a2_firstPosting v_a2_document l1 l3 l5 l7 K_123 Φ → (∀ (v_scores_51 : Nat → UInt64) (v_a2_bits_52 : Int32) (v_a2_documents_53 : Int32) (v_a2_terms_54 : Int32) (v_a2_segments_55 : Int32) (v_a2_postings_56 : Int32) (v_impacts_57 : Nat → Int32) (v_a2_term_58 : Nat → Int64) (v_a2_firstSegment_59 : Nat → Int32) (v_a2_impact_60 : Nat → Int32) (v_a2_firstPosting_61 : Nat → Int32) (v_a2_document_62 : Nat → Int32), K_123 v_scores_51 v_a2_bits_52 v_a2_documents_53 v_a2_terms_54 v_a2_segments_55 v_a2_postings_56 v_impacts_57 v_a2_term_58 v_a2_firstSegment_59 v_a2_impact_60 v_a2_firstPosting_61 v_a2_document_62 → AW Γ k n9 123 [] [] [(h0, oX1 d0 v_documents v_terms v_postings v_lengthOfAll), ((d0 2), aI cs 2560 v_times), ((d0 1), aI cs 64 v_inDocuments), ((d0 5), aI cs 40 v_length), ((d0 3), aD cs 2560 v_scores_51), (h2, oX4 d2 v_a2_bits_52 v_a2_documents_53 v_a2_terms_54 v_a2_segments_55 v_a2_postings_56), ((d0 4), aI cs 40 v_impacts_57), ((d0 0), aJ cs 64 v_term), ((d2 0), aJ cs 64 v_a2_term_58), ((d2 1), aI cs 65 v_a2_firstSegment_59), ((d2 2), aI cs 600 v_a2_impact_60), ((d2 3), aI cs 601 v_a2_firstPosting_61), ((d2 4), aI cs 600 v_a2_document_62)]) → AW Γ k n9 27 [(0, .ref h0), (1, .int l1), (2, .ref h2), (3, .double l3), (5, .double l5), (7, .int l7)] [] [(h0, oX1 d0 v_documents v_terms v_postings v_lengthOfAll), ((d0 2), aI cs 2560 v_times), ((d0 1), aI cs 64 v_inDocuments), ((d0 5), aI cs 40 v_length), ((d0 3), aD cs 2560 v_scores), (h2, oX4 d2 v_a2_bits v_a2_documents v_a2_terms v_a2_segments v_a2_postings), ((d0 4), aI cs 40 v_impacts), ((d0 0), aJ cs 64 v_term), ((d2 0), aJ cs 64 v_a2_term), ((d2 1), aI cs 65 v_a2_firstSegment), ((d2 2), aI cs 600 v_a2_impact), ((d2 3), aI cs 601 v_a2_firstPosting), ((d2 4), aI cs 600 v_a2_document)] := by
  intro n
  induction n with
  | zero =>
    intro v_scores v_a2_bits v_a2_documents v_a2_terms v_a2_segments v_a2_postings v_impacts v_a2_term v_a2_firstSegment v_a2_impact v_a2_firstPosting v_a2_document l1 l3 l5 l7 h
    exact False.elim h
  | succ n ih =>
    intro v_scores v_a2_bits v_a2_documents v_a2_terms v_a2_segments v_a2_postings v_impacts v_a2_term v_a2_firstSegment v_a2_impact v_a2_firstPosting v_a2_document l1 l3 l5 l7 h hK_123
    rw [L_X1_makeIndex_27] at h
    refine a_iload C (pc := 27) 5 dX1_makeIndex_27 rfl ?_
    refine a_aload_n C (pc := 29) 0 dX1_makeIndex_29 rfl rfl ?_
    refine a_get C (pc := 30) 0 7 inW_X1 rfl rfl (Nat.le_of_ble_eq_true rfl) wF_X1_36 rfl rfl dX1_makeIndex_30 ?_
    refine a_icmp_ge C (pc := 33) 123 dX1_makeIndex_33 (by decide) (fun hc => ?_) (fun hc => ?_)
    · have h := h.1 hc
      refine a_lv (lv1 := []) [] rfl ?_
      exact hK_123 v_scores v_a2_bits v_a2_documents v_a2_terms v_a2_segments v_a2_postings v_impacts v_a2_term v_a2_firstSegment v_a2_impact v_a2_firstPosting v_a2_document h
    · have h := h.2 hc
      refine a_iconst C (pc := 36) dX1_makeIndex_36 ic_0 ?_
      refine a_istore C (pc := 37) (lv1 := [(0, .ref h0), (1, .int l1), (2, .ref h2), (3, .double l3), (5, .double l5), (7, .int l7), (8, .int 0)]) [1, 2, 3, 4, 5, 6, 0] dX1_makeIndex_37 (by decide) rfl ?_
      obtain ⟨n0, h⟩ := h
      refine w_X1_makeIndex_39 C hkm hnm n0 v_scores v_a2_bits v_a2_documents v_a2_terms v_a2_segments v_a2_postings v_impacts v_a2_term v_a2_firstSegment v_a2_impact v_a2_firstPosting v_a2_document l1 l3 l5 l7 0 h ?_
      intro v_scores_27 v_a2_bits_28 v_a2_documents_29 v_a2_terms_30 v_a2_segments_31 v_a2_postings_32 v_impacts_33 v_a2_term_34 v_a2_firstSegment_35 v_a2_impact_36 v_a2_firstPosting_37 v_a2_document_38 l1_39 l3_40 l5_41 l7_42 h
      refine a_aload_n C (pc := 102) 2 dX1_makeIndex_102 rfl rfl ?_
      refine a_aload_n C (pc := 103) 0 dX1_makeIndex_103 rfl rfl ?_
      refine a_get C (pc := 104) 0 0 inW_X1 rfl rfl (Nat.le_of_ble_eq_true rfl) wF_X1_9 rfl rfl dX1_makeIndex_104 ?_
      refine a_iload C (pc := 107) 5 dX1_makeIndex_107 rfl ?_
      refine a_lald C (pc := 109) 7 rfl h.1 dX1_makeIndex_109 ?_
      replace h := h.2
      refine a_aload_n C (pc := 110) 0 dX1_makeIndex_110 rfl rfl ?_
      refine a_get C (pc := 111) 0 4 inW_X1 rfl rfl (Nat.le_of_ble_eq_true rfl) wF_X1_26 rfl rfl dX1_makeIndex_111 ?_
      refine a_callV C (pc := 114) (av := [.long (v_term (l7_42 : Int32).toNatClampNeg), .ref (d0 4)]) (wr := [(h0, oX1 d0 v_documents v_terms v_postings v_lengthOfAll), ((d0 2), aI cs 2560 v_times), ((d0 1), aI cs 64 v_inDocuments), ((d0 5), aI cs 40 v_length), ((d0 3), aD cs 2560 v_scores_27), ((d0 0), aJ cs 64 v_term)]) (m_X4_appendTerm Lx Dx cs 40 h2 (d0 4) d2 v_a2_bits_28 v_a2_documents_29 v_a2_terms_30 v_a2_segments_31 v_a2_postings_32 v_a2_term_34 v_a2_firstSegment_35 v_impacts_33 v_a2_impact_36 v_a2_firstPosting_37 v_a2_document_38 (v_term (l7_42 : Int32).toNatClampNeg) _ h) [5, 8, 9, 6, 10, 11, 12] [0, 1, 2, 3, 4, 7] rfl rfl (by decide) (by decide) (by decide) wM_X1_95 wb_X4_appendTerm hy_X4_appendTerm (q0 := 5) rfl rfl rfl ⟨Nat.le_of_ble_eq_true rfl, Nat.le_of_ble_eq_true rfl⟩ (Nat.le_of_ble_eq_true rfl) hkm hnm rfl dX1_makeIndex_114 (fun v w1 hw => ?_) [] rfl (fun _ _ h => h.elim)
      obtain ⟨v_a2_terms_43, v_a2_segments_44, v_a2_postings_45, v_a2_term_46, v_a2_firstSegment_47, v_a2_impact_48, v_a2_firstPosting_49, v_a2_document_50, rfl, rfl, h⟩ := hw
      refine a_ws (st1 := []) (ws1 := [(h0, oX1 d0 v_documents v_terms v_postings v_lengthOfAll), ((d0 2), aI cs 2560 v_times), ((d0 1), aI cs 64 v_inDocuments), ((d0 5), aI cs 40 v_length), ((d0 3), aD cs 2560 v_scores_27), (h2, oX4 d2 v_a2_bits_28 v_a2_documents_29 v_a2_terms_43 v_a2_segments_44 v_a2_postings_45), ((d0 4), aI cs 40 v_impacts_33), ((d0 0), aJ cs 64 v_term), ((d2 0), aJ cs 64 v_a2_term_46), ((d2 1), aI cs 65 v_a2_firstSegment_47), ((d2 2), aI cs 600 v_a2_impact_48), ((d2 3), aI cs 601 v_a2_firstPosting_49), ((d2 4), aI cs 600 v_a2_document_50)]) k n9 117 [0, 1, 2, 3, 4, 6, 9, 5, 7, 8, 10, 11, 12] rfl rfl rfl rfl (by decide) rfl ?_
      refine a_iinc C (pc := 117) (lv1 := [(0, .ref h0), (1, .int l1_39), (2, .ref h2), (3, .double l3_40), (5, .double l5_41), (7, .int (l7_42 + 1))]) 5 [1, 2, 3, 4, 5, 0] dX1_makeIndex_117 rfl (congrArg (fun z => l7_42 + z) ic_1) (by decide) rfl ?_
      refine a_goto C (pc := 120) 27 dX1_makeIndex_120 (by decide) ?_
      exact ih v_scores_27 v_a2_bits_28 v_a2_documents_29 v_a2_terms_43 v_a2_segments_44 v_a2_postings_45 v_impacts_33 v_a2_term_46 v_a2_firstSegment_47 v_a2_impact_48 v_a2_firstPosting_49 v_a2_document_50 l1_39 l3_40 l5_41 (l7_42 + 1) h hK_123
set_option maxRecDepth 100000 in
set_option maxHeartbeats 4000000 in
theorem m_X1_makeIndex (Lx : Launch) (Dx : va_G) (cs : Nat → ClassId) (h0 : Nat) (h2 : Nat) (d0 : Nat → Nat) (d2 : Nat → Nat) (v_documents : Int32) (v_terms : Int32) (v_postings : Int32) (v_lengthOfAll : Int32) (v_times : Nat → Int32) (v_inDocuments : Nat → Int32) (v_length : Nat → Int32) (v_scores : Nat → UInt64) (v_a2_bits : Int32) (v_a2_documents : Int32) (v_a2_terms : Int32) (v_a2_segments : Int32) (v_a2_postings : Int32) (v_impacts : Nat → Int32) (v_term : Nat → Int64) (v_a2_term : Nat → Int64) (v_a2_firstSegment : Nat → Int32) (v_a2_impact : Nat → Int32) (v_a2_firstPosting : Nat → Int32) (v_a2_document : Nat → Int32) (l1 : Int32) (Φ : (Nat → UInt64) → Int32 → Int32 → Int32 → Int32 → Int32 → (Nat → Int32) → (Nat → Int64) → (Nat → Int32) → (Nat → Int32) → (Nat → Int32) → (Nat → Int32) → Prop) (h : P_X1_makeIndex v_documents v_terms v_lengthOfAll v_times v_inDocuments v_length v_scores v_a2_bits v_a2_documents v_a2_terms v_a2_segments v_a2_postings v_impacts v_term v_a2_term v_a2_firstSegment v_a2_impact v_a2_firstPosting v_a2_document l1 Φ) : XMet Lx Dx cs yX1_makeIndex cX1_makeIndex 10 none 3 80 0 0 [.ref h0, .int l1, .ref h2] [(h0, oX1 d0 v_documents v_terms v_postings v_lengthOfAll), ((d0 2), aI cs 2560 v_times), ((d0 1), aI cs 64 v_inDocuments), ((d0 5), aI cs 40 v_length), ((d0 3), aD cs 2560 v_scores), (h2, oX4 d2 v_a2_bits v_a2_documents v_a2_terms v_a2_segments v_a2_postings), ((d0 4), aI cs 40 v_impacts), ((d0 0), aJ cs 64 v_term), ((d2 0), aJ cs 64 v_a2_term), ((d2 1), aI cs 65 v_a2_firstSegment), ((d2 2), aI cs 600 v_a2_impact), ((d2 3), aI cs 601 v_a2_firstPosting), ((d2 4), aI cs 600 v_a2_document)] (R_X1_makeIndex cs h0 h2 d0 d2 v_documents v_terms v_postings v_lengthOfAll v_times v_inDocuments v_length v_term Φ) (fun _ _ => False) := by
  refine XMet.of (own := RX1) (nm := "makeIndex") (by decide) rfl rfl (Nat.le_of_ble_eq_true rfl) (fun Γ C => ?_)
  unfold P_X1_makeIndex at h
  refine a_aload_n C (pc := 0) 0 dX1_makeIndex_0 rfl rfl ?_
  refine a_callV C (pc := 1) (av := []) (wr := [(h2, oX4 d2 v_a2_bits v_a2_documents v_a2_terms v_a2_segments v_a2_postings), ((d0 4), aI cs 40 v_impacts), ((d0 0), aJ cs 64 v_term), ((d2 0), aJ cs 64 v_a2_term), ((d2 1), aI cs 65 v_a2_firstSegment), ((d2 2), aI cs 600 v_a2_impact), ((d2 3), aI cs 601 v_a2_firstPosting), ((d2 4), aI cs 600 v_a2_document)]) (m_X1_scoreAll Lx Dx cs h0 d0 v_documents v_terms v_postings v_lengthOfAll v_times v_inDocuments v_length v_scores _ h) [0, 1, 2, 3, 4] [5, 6, 7, 8, 9, 10, 11, 12] rfl rfl (by decide) (by decide) (by decide) wM_X1_71 wb_X1_scoreAll hy_X1_scoreAll (q0 := 0) rfl rfl rfl ⟨Nat.le_of_ble_eq_true rfl, Nat.le_of_ble_eq_true rfl⟩ (Nat.le_of_ble_eq_true rfl) (Nat.le_of_ble_eq_true rfl) (Nat.le_of_ble_eq_true rfl) rfl dX1_makeIndex_1 (fun v w1 hw => ?_) [] rfl (fun _ _ h => h.elim)
  obtain ⟨v_scores_1, rfl, rfl, h⟩ := hw
  refine a_ws (st1 := []) (ws1 := [(h0, oX1 d0 v_documents v_terms v_postings v_lengthOfAll), ((d0 2), aI cs 2560 v_times), ((d0 1), aI cs 64 v_inDocuments), ((d0 5), aI cs 40 v_length), ((d0 3), aD cs 2560 v_scores_1), (h2, oX4 d2 v_a2_bits v_a2_documents v_a2_terms v_a2_segments v_a2_postings), ((d0 4), aI cs 40 v_impacts), ((d0 0), aJ cs 64 v_term), ((d2 0), aJ cs 64 v_a2_term), ((d2 1), aI cs 65 v_a2_firstSegment), ((d2 2), aI cs 600 v_a2_impact), ((d2 3), aI cs 601 v_a2_firstPosting), ((d2 4), aI cs 600 v_a2_document)]) 0 0 4 [8, 9, 10, 11, 12, 0, 1, 2, 3, 4, 5, 6, 7] rfl rfl rfl rfl (by decide) rfl ?_
  refine a_aload_n C (pc := 4) 2 dX1_makeIndex_4 rfl rfl ?_
  refine a_iload_n C (pc := 5) 1 dX1_makeIndex_5 rfl rfl ?_
  refine a_aload_n C (pc := 6) 0 dX1_makeIndex_6 rfl rfl ?_
  refine a_get C (pc := 7) 0 6 inW_X1 rfl rfl (Nat.le_of_ble_eq_true rfl) wF_X1_32 rfl rfl dX1_makeIndex_7 ?_
  refine a_callV C (pc := 10) (av := [.int l1, .int v_documents]) (wr := [(h0, oX1 d0 v_documents v_terms v_postings v_lengthOfAll), ((d0 2), aI cs 2560 v_times), ((d0 1), aI cs 64 v_inDocuments), ((d0 5), aI cs 40 v_length), ((d0 3), aD cs 2560 v_scores_1), ((d0 4), aI cs 40 v_impacts), ((d0 0), aJ cs 64 v_term), ((d2 0), aJ cs 64 v_a2_term), ((d2 1), aI cs 65 v_a2_firstSegment), ((d2 2), aI cs 600 v_a2_impact), ((d2 3), aI cs 601 v_a2_firstPosting), ((d2 4), aI cs 600 v_a2_document)]) (m_X4_start Lx Dx cs h2 d2 v_a2_bits v_a2_documents v_a2_terms v_a2_segments v_a2_postings l1 v_documents _ h) [5] [0, 1, 2, 3, 4, 6, 7, 8, 9, 10, 11, 12] rfl rfl (by decide) (by decide) (by decide) wM_X1_74 wb_X4_start hy_X4_start (q0 := 5) rfl rfl rfl ⟨Nat.le_of_ble_eq_true rfl, Nat.le_of_ble_eq_true rfl⟩ (Nat.le_of_ble_eq_true rfl) (Nat.le_of_ble_eq_true rfl) (Nat.le_of_ble_eq_true rfl) rfl dX1_makeIndex_10 (fun v w1 hw => ?_) [] rfl (fun _ _ h => h.elim)
  obtain ⟨v_a2_bits_2, v_a2_documents_3, v_a2_terms_4, v_a2_segments_5, v_a2_postings_6, rfl, rfl, h⟩ := hw
  refine a_ws (st1 := []) (ws1 := [(h0, oX1 d0 v_documents v_terms v_postings v_lengthOfAll), ((d0 2), aI cs 2560 v_times), ((d0 1), aI cs 64 v_inDocuments), ((d0 5), aI cs 40 v_length), ((d0 3), aD cs 2560 v_scores_1), (h2, oX4 d2 v_a2_bits_2 v_a2_documents_3 v_a2_terms_4 v_a2_segments_5 v_a2_postings_6), ((d0 4), aI cs 40 v_impacts), ((d0 0), aJ cs 64 v_term), ((d2 0), aJ cs 64 v_a2_term), ((d2 1), aI cs 65 v_a2_firstSegment), ((d2 2), aI cs 600 v_a2_impact), ((d2 3), aI cs 601 v_a2_firstPosting), ((d2 4), aI cs 600 v_a2_document)]) 0 0 13 [0, 1, 2, 3, 4, 12, 5, 6, 7, 8, 9, 10, 11] rfl rfl rfl rfl (by decide) rfl ?_
  refine a_aload_n C (pc := 13) 0 dX1_makeIndex_13 rfl rfl ?_
  refine a_callV C (pc := 14) (av := []) (wr := [((d0 1), aI cs 64 v_inDocuments), ((d0 5), aI cs 40 v_length), (h2, oX4 d2 v_a2_bits_2 v_a2_documents_3 v_a2_terms_4 v_a2_segments_5 v_a2_postings_6), ((d0 4), aI cs 40 v_impacts), ((d0 0), aJ cs 64 v_term), ((d2 0), aJ cs 64 v_a2_term), ((d2 1), aI cs 65 v_a2_firstSegment), ((d2 2), aI cs 600 v_a2_impact), ((d2 3), aI cs 601 v_a2_firstPosting), ((d2 4), aI cs 600 v_a2_document)]) (m_X1_leastScore Lx Dx cs h0 d0 v_documents v_terms v_postings v_lengthOfAll v_times v_scores_1 _ h) [0, 1, 4] [2, 3, 5, 6, 7, 8, 9, 10, 11, 12] rfl rfl (by decide) (by decide) (by decide) wM_X1_80 wb_X1_leastScore hy_X1_leastScore (q0 := 0) rfl rfl rfl ⟨Nat.le_of_ble_eq_true rfl, Nat.le_of_ble_eq_true rfl⟩ (Nat.le_of_ble_eq_true rfl) (Nat.le_of_ble_eq_true rfl) (Nat.le_of_ble_eq_true rfl) rfl dX1_makeIndex_14 (fun v w1 hw => ?_) [] rfl (fun _ _ h => h.elim)
  obtain ⟨r_7, rfl, rfl, h⟩ := hw
  refine a_ws (st1 := [.double r_7]) (ws1 := [(h0, oX1 d0 v_documents v_terms v_postings v_lengthOfAll), ((d0 2), aI cs 2560 v_times), ((d0 1), aI cs 64 v_inDocuments), ((d0 5), aI cs 40 v_length), ((d0 3), aD cs 2560 v_scores_1), (h2, oX4 d2 v_a2_bits_2 v_a2_documents_3 v_a2_terms_4 v_a2_segments_5 v_a2_postings_6), ((d0 4), aI cs 40 v_impacts), ((d0 0), aJ cs 64 v_term), ((d2 0), aJ cs 64 v_a2_term), ((d2 1), aI cs 65 v_a2_firstSegment), ((d2 2), aI cs 600 v_a2_impact), ((d2 3), aI cs 601 v_a2_firstPosting), ((d2 4), aI cs 600 v_a2_document)]) 0 0 17 [10, 11, 0, 1, 12, 2, 3, 4, 5, 6, 7, 8, 9] rfl rfl rfl rfl (by decide) rfl ?_
  refine a_dstore_n C (pc := 17) (lv1 := [(0, .ref h0), (1, .int l1), (2, .ref h2), (3, .double r_7)]) [1, 2, 3, 0] dX1_makeIndex_17 rfl (by decide) rfl ?_
  refine a_aload_n C (pc := 18) 0 dX1_makeIndex_18 rfl rfl ?_
  refine a_callV C (pc := 19) (av := []) (wr := [((d0 1), aI cs 64 v_inDocuments), ((d0 5), aI cs 40 v_length), (h2, oX4 d2 v_a2_bits_2 v_a2_documents_3 v_a2_terms_4 v_a2_segments_5 v_a2_postings_6), ((d0 4), aI cs 40 v_impacts), ((d0 0), aJ cs 64 v_term), ((d2 0), aJ cs 64 v_a2_term), ((d2 1), aI cs 65 v_a2_firstSegment), ((d2 2), aI cs 600 v_a2_impact), ((d2 3), aI cs 601 v_a2_firstPosting), ((d2 4), aI cs 600 v_a2_document)]) (m_X1_greatestScore Lx Dx cs h0 d0 v_documents v_terms v_postings v_lengthOfAll v_times v_scores_1 _ h) [0, 1, 4] [2, 3, 5, 6, 7, 8, 9, 10, 11, 12] rfl rfl (by decide) (by decide) (by decide) wM_X1_84 wb_X1_greatestScore hy_X1_greatestScore (q0 := 0) rfl rfl rfl ⟨Nat.le_of_ble_eq_true rfl, Nat.le_of_ble_eq_true rfl⟩ (Nat.le_of_ble_eq_true rfl) (Nat.le_of_ble_eq_true rfl) (Nat.le_of_ble_eq_true rfl) rfl dX1_makeIndex_19 (fun v w1 hw => ?_) [] rfl (fun _ _ h => h.elim)
  obtain ⟨r_8, rfl, rfl, h⟩ := hw
  refine a_ws (st1 := [.double r_8]) (ws1 := [(h0, oX1 d0 v_documents v_terms v_postings v_lengthOfAll), ((d0 2), aI cs 2560 v_times), ((d0 1), aI cs 64 v_inDocuments), ((d0 5), aI cs 40 v_length), ((d0 3), aD cs 2560 v_scores_1), (h2, oX4 d2 v_a2_bits_2 v_a2_documents_3 v_a2_terms_4 v_a2_segments_5 v_a2_postings_6), ((d0 4), aI cs 40 v_impacts), ((d0 0), aJ cs 64 v_term), ((d2 0), aJ cs 64 v_a2_term), ((d2 1), aI cs 65 v_a2_firstSegment), ((d2 2), aI cs 600 v_a2_impact), ((d2 3), aI cs 601 v_a2_firstPosting), ((d2 4), aI cs 600 v_a2_document)]) 0 0 22 [10, 11, 0, 1, 12, 2, 3, 4, 5, 6, 7, 8, 9] rfl rfl rfl rfl (by decide) rfl ?_
  refine a_dstore C (pc := 22) (lv1 := [(0, .ref h0), (1, .int l1), (2, .ref h2), (3, .double r_7), (5, .double r_8)]) [1, 2, 3, 4, 0] dX1_makeIndex_22 (by decide) rfl ?_
  refine a_iconst C (pc := 24) dX1_makeIndex_24 ic_0 ?_
  refine a_istore C (pc := 25) (lv1 := [(0, .ref h0), (1, .int l1), (2, .ref h2), (3, .double r_7), (5, .double r_8), (7, .int 0)]) [1, 2, 3, 4, 5, 0] dX1_makeIndex_25 (by decide) rfl ?_
  obtain ⟨n0, h⟩ := h
  refine w_X1_makeIndex_27 C (Nat.le_of_ble_eq_true rfl) (Nat.le_of_ble_eq_true rfl) n0 v_scores_1 v_a2_bits_2 v_a2_documents_3 v_a2_terms_4 v_a2_segments_5 v_a2_postings_6 v_impacts v_a2_term v_a2_firstSegment v_a2_impact v_a2_firstPosting v_a2_document l1 r_7 r_8 0 h ?_
  intro v_scores_63 v_a2_bits_64 v_a2_documents_65 v_a2_terms_66 v_a2_segments_67 v_a2_postings_68 v_impacts_69 v_a2_term_70 v_a2_firstSegment_71 v_a2_impact_72 v_a2_firstPosting_73 v_a2_document_74 h
  exact a_return C (pc := 123) rfl dX1_makeIndex_123 (Nat.le_of_ble_eq_true rfl) (Nat.le_of_ble_eq_true rfl) ⟨_, _, _, _, _, _, _, _, _, _, _, _, rfl, rfl, h⟩
set_option maxRecDepth 100000 in
set_option maxHeartbeats 4000000 in
theorem w_X7_lettersOf_2 {Γ : XG} {Lx : Launch} {Dx : va_G} {cs : Nat → ClassId} {K_24 : Prop} {Φ : Int32 → Prop} {k n9 : Nat} (C : CX Γ Lx Dx cs cX7_lettersOf RX7 "lettersOf" 3 (some .int) 1 22 0 0 (qEC cs 0 0 [] (R_X7_lettersOf cs Φ) (fun _ _ => False))) (hkm : k ≤ 0) (hnm : n9 ≤ 0) : ∀ n : Nat, ∀ (l0 : Int64) (l2 : Int32), L_X7_lettersOf_2 n l0 l2 K_24 Φ → (K_24 → AW Γ k n9 24 [] [] []) → AW Γ k n9 2 [(0, .long l0), (2, .int l2)] [] [] := by
  intro n
  induction n with
  | zero =>
    intro l0 l2 h
    exact False.elim h
  | succ n ih =>
    intro l0 l2 h hK_24
    rw [L_X7_lettersOf_2] at h
    refine a_iload_n C (pc := 2) 1 dX7_lettersOf_2 rfl rfl ?_
    refine a_bipush C (pc := 3) dX7_lettersOf_3 bp_8 ?_
    refine a_icmp_ge C (pc := 5) 24 dX7_lettersOf_5 (by decide) (fun hc => ?_) (fun hc => ?_)
    · have h := h.1 hc
      refine a_lv (lv1 := []) [] rfl ?_
      exact hK_24 h
    · have h := h.2 hc
      refine a_lload_n C (pc := 8) 0 dX7_lettersOf_8 rfl rfl ?_
      refine a_iload_n C (pc := 9) 1 dX7_lettersOf_9 rfl rfl ?_
      refine a_callS C (pc := 10) (av := [.long l0, .int l2]) (wr := []) (m_X7_letterAt Lx Dx cs l0 l2 _ h) [] [] rfl rfl (by decide) (by decide) (by decide) wM_X7_55 wb_X7_letterAt hy_X7_letterAt rfl ⟨Nat.le_of_ble_eq_true rfl, Nat.le_of_ble_eq_true rfl⟩ (Nat.le_of_ble_eq_true rfl) hkm hnm rfl dX7_lettersOf_10 (fun v w1 hw => ?_) [] rfl (fun _ _ h => h.elim)
      obtain ⟨r_1, rfl, rfl, h⟩ := hw
      refine a_ws (st1 := [.int r_1]) (ws1 := []) k n9 13 [] rfl rfl rfl rfl (by decide) rfl ?_
      refine a_if_ne C (pc := 13) 18 dX7_lettersOf_13 (by decide) (fun hc => ?_) (fun hc => ?_)
      · have h := h.1 hc
        refine a_iinc C (pc := 18) (lv1 := [(0, .long l0), (2, .int (l2 + 1))]) 1 [1, 0] dX7_lettersOf_18 rfl (congrArg (fun z => l2 + z) ic_1) (by decide) rfl ?_
        refine a_goto C (pc := 21) 2 dX7_lettersOf_21 (by decide) ?_
        exact ih l0 (l2 + 1) h hK_24
      · have h := h.2 hc
        refine a_iload_n C (pc := 16) 1 dX7_lettersOf_16 rfl rfl ?_
        exact a_ireturn C (pc := 17) rfl dX7_lettersOf_17 hkm hnm ⟨_, rfl, rfl, h⟩
set_option maxRecDepth 100000 in
set_option maxHeartbeats 4000000 in
theorem m_X7_lettersOf (Lx : Launch) (Dx : va_G) (cs : Nat → ClassId) (l0 : Int64) (Φ : Int32 → Prop) (h : P_X7_lettersOf l0 Φ) : XMet Lx Dx cs yX7_lettersOf cX7_lettersOf 3 (some .int) 1 22 0 0 [.long l0] [] (R_X7_lettersOf cs Φ) (fun _ _ => False) := by
  refine XMet.of (own := RX7) (nm := "lettersOf") (by decide) rfl rfl (Nat.le_of_ble_eq_true rfl) (fun Γ C => ?_)
  unfold P_X7_lettersOf at h
  refine a_iconst C (pc := 0) dX7_lettersOf_0 ic_0 ?_
  refine a_istore_n C (pc := 1) (lv1 := [(0, .long l0), (2, .int 0)]) [1, 0] dX7_lettersOf_1 rfl (by decide) rfl ?_
  obtain ⟨n0, h⟩ := h
  refine w_X7_lettersOf_2 C (Nat.le_of_ble_eq_true rfl) (Nat.le_of_ble_eq_true rfl) n0 l0 0 h ?_
  intro h
  refine a_bipush C (pc := 24) dX7_lettersOf_24 bp_8 ?_
  exact a_ireturn C (pc := 26) rfl dX7_lettersOf_26 (Nat.le_of_ble_eq_true rfl) (Nat.le_of_ble_eq_true rfl) ⟨_, rfl, rfl, h⟩
set_option maxRecDepth 100000 in
set_option maxHeartbeats 4000000 in
theorem m_X4_size (Lx : Launch) (Dx : va_G) (cs : Nat → ClassId) (h0 : Nat) (d0 : Nat → Nat) (v_bits : Int32) (v_documents : Int32) (v_terms : Int32) (v_segments : Int32) (v_postings : Int32) (v_firstPosting : Nat → Int32) (l1 : Int32) (Φ : Int32 → Prop) (h : P_X4_size v_firstPosting l1 Φ) : XMet Lx Dx cs yX4_size cX4_size 2 (some .int) 0 0 0 0 [.ref h0, .int l1] [(h0, oX4 d0 v_bits v_documents v_terms v_segments v_postings), ((d0 3), aI cs 601 v_firstPosting)] (R_X4_size cs h0 d0 v_bits v_documents v_terms v_segments v_postings v_firstPosting Φ) (fun _ _ => False) := by
  refine XMet.of (own := RX4) (nm := "size") (by decide) rfl rfl (Nat.le_of_ble_eq_true rfl) (fun Γ C => ?_)
  unfold P_X4_size at h
  refine a_aload_n C (pc := 0) 0 dX4_size_0 rfl rfl ?_
  refine a_get C (pc := 1) 0 3 inW_X4 rfl rfl (Nat.le_of_ble_eq_true rfl) wF_X4_22 rfl rfl dX4_size_1 ?_
  refine a_iload_n C (pc := 4) 1 dX4_size_4 rfl rfl ?_
  refine a_iconst C (pc := 5) dX4_size_5 ic_1 ?_
  refine a_iadd C (pc := 6) dX4_size_6 ?_
  refine a_iald C (pc := 7) 1 rfl h.1 dX4_size_7 ?_
  replace h := h.2
  refine a_aload_n C (pc := 8) 0 dX4_size_8 rfl rfl ?_
  refine a_get C (pc := 9) 0 3 inW_X4 rfl rfl (Nat.le_of_ble_eq_true rfl) wF_X4_22 rfl rfl dX4_size_9 ?_
  refine a_iload_n C (pc := 12) 1 dX4_size_12 rfl rfl ?_
  refine a_iald C (pc := 13) 1 rfl h.1 dX4_size_13 ?_
  replace h := h.2
  refine a_isub C (pc := 14) dX4_size_14 ?_
  exact a_ireturn C (pc := 15) rfl dX4_size_15 (Nat.le_of_ble_eq_true rfl) (Nat.le_of_ble_eq_true rfl) ⟨_, rfl, rfl, h⟩
set_option maxRecDepth 100000 in
set_option maxHeartbeats 4000000 in
theorem w_X2_take_27 {Γ : XG} {Lx : Launch} {Dx : va_G} {cs : Nat → ClassId} {h0 : Nat} {h1 : Nat} {d1 : Nat → Nat} {d0 : Nat → Nat} {v_a1_bits : Int32} {v_a1_documents : Int32} {v_a1_terms : Int32} {v_a1_segments : Int32} {v_a1_postings : Int32} {v_a1_firstPosting : Nat → Int32} {v_a1_document : Nat → Int32} {K_74 : Int32 → (Nat → Int32) → Prop} {Φ : Int32 → (Nat → Int32) → Prop} {k n9 : Nat} (C : CX Γ Lx Dx cs cX2_take RX2 "take" 6 none 1 21 0 0 (qEC cs 0 0 [] (R_X2_take cs h0 h1 d1 d0 v_a1_bits v_a1_documents v_a1_terms v_a1_segments v_a1_postings v_a1_firstPosting v_a1_document Φ) (fun _ _ => False))) (hkm : k ≤ 0) (hnm : n9 ≤ 0) : ∀ n : Nat, ∀ (v_many : Int32) (v_gap : Nat → Int32) (l3 : Int32) (l4 : Int32) (l5 : Int32), L_X2_take_27 n v_a1_firstPosting v_many v_a1_document v_gap l3 l4 l5 K_74 Φ → (∀ (v_many_2 : Int32) (v_gap_3 : Nat → Int32), K_74 v_many_2 v_gap_3 → AW Γ k n9 74 [] [] [(h1, oX4 d1 v_a1_bits v_a1_documents v_a1_terms v_a1_segments v_a1_postings), ((d1 3), aI cs 601 v_a1_firstPosting), (h0, oX2 d0 v_many_2), ((d1 4), aI cs 600 v_a1_document), ((d0 0), aI cs 40 v_gap_3)]) → AW Γ k n9 27 [(0, .ref h0), (1, .ref h1), (3, .int l3), (4, .int l4), (5, .int l5)] [] [(h1, oX4 d1 v_a1_bits v_a1_documents v_a1_terms v_a1_segments v_a1_postings), ((d1 3), aI cs 601 v_a1_firstPosting), (h0, oX2 d0 v_many), ((d1 4), aI cs 600 v_a1_document), ((d0 0), aI cs 40 v_gap)] := by
  intro n
  induction n with
  | zero =>
    intro v_many v_gap l3 l4 l5 h
    exact False.elim h
  | succ n ih =>
    intro v_many v_gap l3 l4 l5 h hK_74
    rw [L_X2_take_27] at h
    refine a_iload C (pc := 27) 4 dX2_take_27 rfl ?_
    refine a_aload_n C (pc := 29) 0 dX2_take_29 rfl rfl ?_
    refine a_get C (pc := 30) 2 1 inW_X2 rfl rfl (Nat.le_of_ble_eq_true rfl) wF_X2_15 rfl rfl dX2_take_30 ?_
    refine a_icmp_ge C (pc := 33) 74 dX2_take_33 (by decide) (fun hc => ?_) (fun hc => ?_)
    · have h := h.1 hc
      refine a_lv (lv1 := []) [] rfl ?_
      exact hK_74 v_many v_gap h
    · have h := h.2 hc
      refine a_aload_n C (pc := 36) 0 dX2_take_36 rfl rfl ?_
      refine a_get C (pc := 37) 2 0 inW_X2 rfl rfl (Nat.le_of_ble_eq_true rfl) wF_X2_9 rfl rfl dX2_take_37 ?_
      refine a_iload C (pc := 40) 4 dX2_take_40 rfl ?_
      refine a_aload_n C (pc := 42) 1 dX2_take_42 rfl rfl ?_
      refine a_get C (pc := 43) 0 4 inW_X4 rfl rfl (Nat.le_of_ble_eq_true rfl) wF_X2_34 rfl rfl dX2_take_43 ?_
      refine a_iload_n C (pc := 46) 2 dX2_take_46 rfl rfl ?_
      refine a_iload C (pc := 47) 4 dX2_take_47 rfl ?_
      refine a_iadd C (pc := 49) dX2_take_49 ?_
      refine a_iald C (pc := 50) 3 rfl h.1 dX2_take_50 ?_
      replace h := h.2
      refine a_iload C (pc := 51) 3 dX2_take_51 rfl ?_
      refine a_isub C (pc := 53) dX2_take_53 ?_
      refine a_iconst C (pc := 54) dX2_take_54 ic_1 ?_
      refine a_isub C (pc := 55) dX2_take_55 ?_
      refine a_iast C (pc := 56) (ws1 := [(h1, oX4 d1 v_a1_bits v_a1_documents v_a1_terms v_a1_segments v_a1_postings), ((d1 3), aI cs 601 v_a1_firstPosting), (h0, oX2 d0 v_many), ((d1 4), aI cs 600 v_a1_document), ((d0 0), aI cs 40 (upd v_gap (l5 : Int32).toNatClampNeg (((v_a1_document (l3 + l5 : Int32).toNatClampNeg) - l4) - 1)))]) 4 rfl h.1 dX2_take_56 rfl ?_
      replace h := h.2
      refine a_aload_n C (pc := 57) 1 dX2_take_57 rfl rfl ?_
      refine a_get C (pc := 58) 0 4 inW_X4 rfl rfl (Nat.le_of_ble_eq_true rfl) wF_X2_34 rfl rfl dX2_take_58 ?_
      refine a_iload_n C (pc := 61) 2 dX2_take_61 rfl rfl ?_
      refine a_iload C (pc := 62) 4 dX2_take_62 rfl ?_
      refine a_iadd C (pc := 64) dX2_take_64 ?_
      refine a_iald C (pc := 65) 3 rfl h.1 dX2_take_65 ?_
      replace h := h.2
      refine a_istore C (pc := 66) (lv1 := [(0, .ref h0), (1, .ref h1), (3, .int l3), (4, .int (v_a1_document (l3 + l5 : Int32).toNatClampNeg)), (5, .int l5)]) [1, 2, 3, 0, 4] dX2_take_66 (by decide) rfl ?_
      refine a_iinc C (pc := 68) (lv1 := [(0, .ref h0), (1, .ref h1), (3, .int l3), (4, .int (v_a1_document (l3 + l5 : Int32).toNatClampNeg)), (5, .int (l5 + 1))]) 4 [1, 2, 3, 4, 0] dX2_take_68 rfl (congrArg (fun z => l5 + z) ic_1) (by decide) rfl ?_
      refine a_goto C (pc := 71) 27 dX2_take_71 (by decide) ?_
      exact ih v_many (upd v_gap (l5 : Int32).toNatClampNeg (((v_a1_document (l3 + l5 : Int32).toNatClampNeg) - l4) - 1)) l3 (v_a1_document (l3 + l5 : Int32).toNatClampNeg) (l5 + 1) h hK_74
set_option maxRecDepth 100000 in
set_option maxHeartbeats 4000000 in
theorem m_X2_take (Lx : Launch) (Dx : va_G) (cs : Nat → ClassId) (h0 : Nat) (h1 : Nat) (d1 : Nat → Nat) (d0 : Nat → Nat) (v_a1_bits : Int32) (v_a1_documents : Int32) (v_a1_terms : Int32) (v_a1_segments : Int32) (v_a1_postings : Int32) (v_a1_firstPosting : Nat → Int32) (v_many : Int32) (v_a1_document : Nat → Int32) (v_gap : Nat → Int32) (l2 : Int32) (Φ : Int32 → (Nat → Int32) → Prop) (h : P_X2_take v_a1_firstPosting v_many v_a1_document v_gap l2 Φ) : XMet Lx Dx cs yX2_take cX2_take 6 none 1 21 0 0 [.ref h0, .ref h1, .int l2] [(h1, oX4 d1 v_a1_bits v_a1_documents v_a1_terms v_a1_segments v_a1_postings), ((d1 3), aI cs 601 v_a1_firstPosting), (h0, oX2 d0 v_many), ((d1 4), aI cs 600 v_a1_document), ((d0 0), aI cs 40 v_gap)] (R_X2_take cs h0 h1 d1 d0 v_a1_bits v_a1_documents v_a1_terms v_a1_segments v_a1_postings v_a1_firstPosting v_a1_document Φ) (fun _ _ => False) := by
  refine XMet.of (own := RX2) (nm := "take") (by decide) rfl rfl (Nat.le_of_ble_eq_true rfl) (fun Γ C => ?_)
  unfold P_X2_take at h
  refine a_aload_n C (pc := 0) 1 dX2_take_0 rfl rfl ?_
  refine a_get C (pc := 1) 0 3 inW_X4 rfl rfl (Nat.le_of_ble_eq_true rfl) wF_X2_19 rfl rfl dX2_take_1 ?_
  refine a_iload_n C (pc := 4) 2 dX2_take_4 rfl rfl ?_
  refine a_iald C (pc := 5) 1 rfl h.1 dX2_take_5 ?_
  replace h := h.2
  refine a_istore_n C (pc := 6) (lv1 := [(0, .ref h0), (1, .ref h1), (2, .int l2), (3, .int (v_a1_firstPosting (l2 : Int32).toNatClampNeg))]) [1, 2, 3, 0] dX2_take_6 rfl (by decide) rfl ?_
  refine a_aload_n C (pc := 7) 0 dX2_take_7 rfl rfl ?_
  refine a_aload_n C (pc := 8) 1 dX2_take_8 rfl rfl ?_
  refine a_iload_n C (pc := 9) 2 dX2_take_9 rfl rfl ?_
  refine a_callV C (pc := 10) (av := [.int l2]) (wr := [(h0, oX2 d0 v_many), ((d1 4), aI cs 600 v_a1_document), ((d0 0), aI cs 40 v_gap)]) (m_X4_size Lx Dx cs h1 d1 v_a1_bits v_a1_documents v_a1_terms v_a1_segments v_a1_postings v_a1_firstPosting l2 _ h) [0, 1] [2, 3, 4] rfl rfl (by decide) (by decide) (by decide) wM_X2_24 wb_X4_size hy_X4_size (q0 := 0) rfl rfl rfl ⟨Nat.le_of_ble_eq_true rfl, Nat.le_of_ble_eq_true rfl⟩ (Nat.le_of_ble_eq_true rfl) (Nat.le_of_ble_eq_true rfl) (Nat.le_of_ble_eq_true rfl) rfl dX2_take_10 (fun v w1 hw => ?_) [] rfl (fun _ _ h => h.elim)
  obtain ⟨r_1, rfl, rfl, h⟩ := hw
  refine a_ws (st1 := [.int r_1, .ref h0]) (ws1 := [(h1, oX4 d1 v_a1_bits v_a1_documents v_a1_terms v_a1_segments v_a1_postings), ((d1 3), aI cs 601 v_a1_firstPosting), (h0, oX2 d0 v_many), ((d1 4), aI cs 600 v_a1_document), ((d0 0), aI cs 40 v_gap)]) 0 0 13 [3, 4, 0, 1, 2] rfl rfl rfl rfl (by decide) rfl ?_
  refine a_bipush C (pc := 13) dX2_take_13 bp_40 ?_
  refine a_min C (pc := 15) wM_X2_28 wX_min (Nat.le_of_ble_eq_true rfl) (Nat.le_of_ble_eq_true rfl) (Nat.le_of_ble_eq_true rfl) (Nat.le_of_ble_eq_true rfl) dX2_take_15 ?_
  refine a_put C (pc := 18) (ws1 := [(h1, oX4 d1 v_a1_bits v_a1_documents v_a1_terms v_a1_segments v_a1_postings), ((d1 3), aI cs 601 v_a1_firstPosting), (h0, oX2 d0 (imin r_1 40)), ((d1 4), aI cs 600 v_a1_document), ((d0 0), aI cs 40 v_gap)]) 2 1 inW_X2 tyX2 tyX2_ok nmX2 rfl rfl (Nat.le_of_ble_eq_true rfl) wF_X2_15 rfl rfl rfl rfl rfl (Nat.le_of_ble_eq_true rfl) dX2_take_18 rfl ?_
  refine a_iconst C (pc := 21) dX2_take_21 ic_m1 ?_
  refine a_istore C (pc := 22) (lv1 := [(0, .ref h0), (1, .ref h1), (2, .int l2), (3, .int (v_a1_firstPosting (l2 : Int32).toNatClampNeg)), (4, .int (-1))]) [1, 2, 3, 4, 0] dX2_take_22 (by decide) rfl ?_
  refine a_iconst C (pc := 24) dX2_take_24 ic_0 ?_
  refine a_istore C (pc := 25) (lv1 := [(0, .ref h0), (1, .ref h1), (2, .int l2), (3, .int (v_a1_firstPosting (l2 : Int32).toNatClampNeg)), (4, .int (-1)), (5, .int 0)]) [1, 2, 3, 4, 5, 0] dX2_take_25 (by decide) rfl ?_
  obtain ⟨n0, h⟩ := h
  refine a_lv (lv1 := [(0, .ref h0), (1, .ref h1), (3, .int (v_a1_firstPosting (l2 : Int32).toNatClampNeg)), (4, .int (-1)), (5, .int 0)]) [0, 1, 3, 4, 5] rfl ?_
  refine w_X2_take_27 C (Nat.le_of_ble_eq_true rfl) (Nat.le_of_ble_eq_true rfl) n0 (imin r_1 40) v_gap (v_a1_firstPosting (l2 : Int32).toNatClampNeg) (-1) 0 h ?_
  intro v_many_4 v_gap_5 h
  exact a_return C (pc := 74) rfl dX2_take_74 (Nat.le_of_ble_eq_true rfl) (Nat.le_of_ble_eq_true rfl) ⟨_, _, rfl, rfl, h⟩
set_option maxRecDepth 100000 in
set_option maxHeartbeats 4000000 in
theorem w_X2_writeSevens_2 {Γ : XG} {Lx : Launch} {Dx : va_G} {cs : Nat → ClassId} {n_a1_row : Nat} {h0 : Nat} {h1 : Nat} {d0 : Nat → Nat} {d1 : Nat → Nat} {v_many : Int32} {v_gap : Nat → Int32} {v_a1_place : Int32} {K_30 : Int32 → (Nat → Int32) → Prop} {Φ : Int32 → (Nat → Int32) → Prop} {k n9 : Nat} (C : CX Γ Lx Dx cs cX2_writeSevens RX2 "writeSevens" 3 none 1 21 0 0 (qEC cs 0 0 [] (R_X2_writeSevens cs n_a1_row h0 h1 d0 d1 v_many v_gap v_a1_place Φ) (fun _ _ => False))) (hkm : k ≤ 0) (hnm : n9 ≤ 0) : ∀ n : Nat, ∀ (v_a1_size : Int32) (v_a1_row : Nat → Int32) (l2 : Int32), L_X2_writeSevens_2 n n_a1_row v_many v_gap v_a1_size v_a1_row l2 K_30 Φ → (∀ (v_a1_size_3 : Int32) (v_a1_row_4 : Nat → Int32), K_30 v_a1_size_3 v_a1_row_4 → AW Γ k n9 30 [] [] [(h0, oX2 d0 v_many), ((d0 0), aI cs 40 v_gap), (h1, oX0 d1 v_a1_size_3 v_a1_place), ((d1 0), aB cs n_a1_row v_a1_row_4)]) → AW Γ k n9 2 [(0, .ref h0), (1, .ref h1), (2, .int l2)] [] [(h0, oX2 d0 v_many), ((d0 0), aI cs 40 v_gap), (h1, oX0 d1 v_a1_size v_a1_place), ((d1 0), aB cs n_a1_row v_a1_row)] := by
  intro n
  induction n with
  | zero =>
    intro v_a1_size v_a1_row l2 h
    exact False.elim h
  | succ n ih =>
    intro v_a1_size v_a1_row l2 h hK_30
    rw [L_X2_writeSevens_2] at h
    refine a_iload_n C (pc := 2) 2 dX2_writeSevens_2 rfl rfl ?_
    refine a_aload_n C (pc := 3) 0 dX2_writeSevens_3 rfl rfl ?_
    refine a_get C (pc := 4) 0 1 inW_X2 rfl rfl (Nat.le_of_ble_eq_true rfl) wF_X2_15 rfl rfl dX2_writeSevens_4 ?_
    refine a_icmp_ge C (pc := 7) 30 dX2_writeSevens_7 (by decide) (fun hc => ?_) (fun hc => ?_)
    · have h := h.1 hc
      refine a_lv (lv1 := []) [] rfl ?_
      exact hK_30 v_a1_size v_a1_row h
    · have h := h.2 hc
      refine a_aload_n C (pc := 10) 1 dX2_writeSevens_10 rfl rfl ?_
      refine a_aload_n C (pc := 11) 0 dX2_writeSevens_11 rfl rfl ?_
      refine a_get C (pc := 12) 0 0 inW_X2 rfl rfl (Nat.le_of_ble_eq_true rfl) wF_X2_9 rfl rfl dX2_writeSevens_12 ?_
      refine a_iload_n C (pc := 15) 2 dX2_writeSevens_15 rfl rfl ?_
      refine a_iald C (pc := 16) 1 rfl h.1 dX2_writeSevens_16 ?_
      replace h := h.2
      refine a_sipush C (pc := 17) dX2_writeSevens_17 sp_128 ?_
      refine a_iadd C (pc := 20) dX2_writeSevens_20 ?_
      refine a_callV C (pc := 21) (av := [.int ((v_gap (l2 : Int32).toNatClampNeg) + 128)]) (wr := [(h0, oX2 d0 v_many), ((d0 0), aI cs 40 v_gap)]) (m_X0_put Lx Dx cs n_a1_row h1 d1 v_a1_size v_a1_place v_a1_row ((v_gap (l2 : Int32).toNatClampNeg) + 128) _ h) [2, 3] [0, 1] rfl rfl (by decide) (by decide) (by decide) wM_X2_57 wb_X0_put hy_X0_put (q0 := 2) rfl rfl rfl ⟨Nat.le_of_ble_eq_true rfl, Nat.le_of_ble_eq_true rfl⟩ (Nat.le_of_ble_eq_true rfl) hkm hnm rfl dX2_writeSevens_21 (fun v w1 hw => ?_) [] rfl (fun _ _ h => h.elim)
      obtain ⟨v_a1_size_1, v_a1_row_2, rfl, rfl, h⟩ := hw
      refine a_ws (st1 := []) (ws1 := [(h0, oX2 d0 v_many), ((d0 0), aI cs 40 v_gap), (h1, oX0 d1 v_a1_size_1 v_a1_place), ((d1 0), aB cs n_a1_row v_a1_row_2)]) k n9 24 [0, 1, 2, 3] rfl rfl rfl rfl (by decide) rfl ?_
      refine a_iinc C (pc := 24) (lv1 := [(0, .ref h0), (1, .ref h1), (2, .int (l2 + 1))]) 2 [1, 2, 0] dX2_writeSevens_24 rfl (congrArg (fun z => l2 + z) ic_1) (by decide) rfl ?_
      refine a_goto C (pc := 27) 2 dX2_writeSevens_27 (by decide) ?_
      exact ih v_a1_size_1 v_a1_row_2 (l2 + 1) h hK_30
set_option maxRecDepth 100000 in
set_option maxHeartbeats 4000000 in
theorem m_X2_writeSevens (Lx : Launch) (Dx : va_G) (cs : Nat → ClassId) (n_a1_row : Nat) (h0 : Nat) (h1 : Nat) (d0 : Nat → Nat) (d1 : Nat → Nat) (v_many : Int32) (v_gap : Nat → Int32) (v_a1_size : Int32) (v_a1_place : Int32) (v_a1_row : Nat → Int32) (Φ : Int32 → (Nat → Int32) → Prop) (h : P_X2_writeSevens n_a1_row v_many v_gap v_a1_size v_a1_row Φ) : XMet Lx Dx cs yX2_writeSevens cX2_writeSevens 3 none 1 21 0 0 [.ref h0, .ref h1] [(h0, oX2 d0 v_many), ((d0 0), aI cs 40 v_gap), (h1, oX0 d1 v_a1_size v_a1_place), ((d1 0), aB cs n_a1_row v_a1_row)] (R_X2_writeSevens cs n_a1_row h0 h1 d0 d1 v_many v_gap v_a1_place Φ) (fun _ _ => False) := by
  refine XMet.of (own := RX2) (nm := "writeSevens") (by decide) rfl rfl (Nat.le_of_ble_eq_true rfl) (fun Γ C => ?_)
  unfold P_X2_writeSevens at h
  refine a_iconst C (pc := 0) dX2_writeSevens_0 ic_0 ?_
  refine a_istore_n C (pc := 1) (lv1 := [(0, .ref h0), (1, .ref h1), (2, .int 0)]) [1, 2, 0] dX2_writeSevens_1 rfl (by decide) rfl ?_
  obtain ⟨n0, h⟩ := h
  refine w_X2_writeSevens_2 C (Nat.le_of_ble_eq_true rfl) (Nat.le_of_ble_eq_true rfl) n0 v_a1_size v_a1_row 0 h ?_
  intro v_a1_size_5 v_a1_row_6 h
  exact a_return C (pc := 30) rfl dX2_writeSevens_30 (Nat.le_of_ble_eq_true rfl) (Nat.le_of_ble_eq_true rfl) ⟨_, _, rfl, rfl, h⟩
set_option maxRecDepth 100000 in
set_option maxHeartbeats 4000000 in
theorem w_X2_leastWay_20 {Γ : XG} {Lx : Launch} {Dx : va_G} {cs : Nat → ClassId} {h0 : Nat} {d0 : Nat → Nat} {v_many : Int32} {v_gap : Nat → Int32} {K_59 : Int32 → Int32 → Int32 → Int32 → Prop} {Φ : Int32 → Prop} {k n9 : Nat} (C : CX Γ Lx Dx cs cX2_leastWay RX2 "leastWay" 6 (some .int) 0 0 0 0 (qEC cs 0 0 [] (R_X2_leastWay cs h0 d0 v_many v_gap Φ) (fun _ _ => False))) (hkm : k ≤ 0) (hnm : n9 ≤ 0) : ∀ n : Nat, ∀ (l1 : Int32) (l2 : Int32) (l3 : Int32) (l4 : Int32) (l5 : Int32), L_X2_leastWay_20 n v_many v_gap l1 l2 l3 l4 l5 K_59 Φ → (∀ (l1_3 : Int32) (l2_4 : Int32) (l3_5 : Int32) (l4_6 : Int32), K_59 l1_3 l2_4 l3_5 l4_6 → AW Γ k n9 59 [(0, .ref h0), (1, .int l1_3), (2, .int l2_4), (3, .int l3_5), (4, .int l4_6)] [] [(h0, oX2 d0 v_many), ((d0 0), aI cs 40 v_gap)]) → AW Γ k n9 20 [(0, .ref h0), (1, .int l1), (2, .int l2), (3, .int l3), (4, .int l4), (5, .int l5)] [] [(h0, oX2 d0 v_many), ((d0 0), aI cs 40 v_gap)] := by
  intro n
  induction n with
  | zero =>
    intro l1 l2 l3 l4 l5 h
    exact False.elim h
  | succ n ih =>
    intro l1 l2 l3 l4 l5 h hK_59
    rw [L_X2_leastWay_20] at h
    refine a_iload C (pc := 20) 5 dX2_leastWay_20 rfl ?_
    refine a_aload_n C (pc := 22) 0 dX2_leastWay_22 rfl rfl ?_
    refine a_get C (pc := 23) 0 1 inW_X2 rfl rfl (Nat.le_of_ble_eq_true rfl) wF_X2_15 rfl rfl dX2_leastWay_23 ?_
    refine a_icmp_ge C (pc := 26) 59 dX2_leastWay_26 (by decide) (fun hc => ?_) (fun hc => ?_)
    · have h := h.1 hc
      refine a_lv (lv1 := [(0, .ref h0), (1, .int l1), (2, .int l2), (3, .int l3), (4, .int l4)]) [0, 1, 2, 3, 4] rfl ?_
      exact hK_59 l1 l2 l3 l4 h
    · have h := h.2 hc
      refine a_iload C (pc := 29) 5 dX2_leastWay_29 rfl ?_
      refine a_iload_n C (pc := 31) 1 dX2_leastWay_31 rfl rfl ?_
      refine a_wayG C (pc := 32) wFn_X2_70 dX2_leastWay_32 (fun aw_2 haw_2 => ?_)
      refine a_iload_n C (pc := 35) 3 dX2_leastWay_35 rfl rfl ?_
      refine a_wald C (pc := 36) haw_2 h.1 dX2_leastWay_36 ?_
      replace h := h.2
      refine a_iadd C (pc := 37) dX2_leastWay_37 ?_
      refine a_icmp_ge C (pc := 38) 59 dX2_leastWay_38 (by decide) (fun hc => ?_) (fun hc => ?_)
      · have h := h.1 hc
        refine a_lv (lv1 := [(0, .ref h0), (1, .int l1), (2, .int l2), (3, .int l3), (4, .int l4)]) [0, 1, 2, 3, 4] rfl ?_
        exact hK_59 l1 l2 l3 l4 h
      · have h := h.2 hc
        refine a_iload C (pc := 41) 4 dX2_leastWay_41 rfl ?_
        refine a_aload_n C (pc := 43) 0 dX2_leastWay_43 rfl rfl ?_
        refine a_get C (pc := 44) 0 0 inW_X2 rfl rfl (Nat.le_of_ble_eq_true rfl) wF_X2_9 rfl rfl dX2_leastWay_44 ?_
        refine a_iload C (pc := 47) 5 dX2_leastWay_47 rfl ?_
        refine a_iald C (pc := 49) 1 rfl h.1 dX2_leastWay_49 ?_
        replace h := h.2
        refine a_ior C (pc := 50) dX2_leastWay_50 ?_
        refine a_istore C (pc := 51) (lv1 := [(0, .ref h0), (1, .int l1), (2, .int l2), (3, .int l3), (4, .int (l4 ||| (v_gap (l5 : Int32).toNatClampNeg))), (5, .int l5)]) [1, 2, 3, 4, 0, 5] dX2_leastWay_51 (by decide) rfl ?_
        refine a_iinc C (pc := 53) (lv1 := [(0, .ref h0), (1, .int l1), (2, .int l2), (3, .int l3), (4, .int (l4 ||| (v_gap (l5 : Int32).toNatClampNeg))), (5, .int (l5 + 1))]) 5 [1, 2, 3, 4, 5, 0] dX2_leastWay_53 rfl (congrArg (fun z => l5 + z) ic_1) (by decide) rfl ?_
        refine a_goto C (pc := 56) 20 dX2_leastWay_56 (by decide) ?_
        exact ih l1 l2 l3 (l4 ||| (v_gap (l5 : Int32).toNatClampNeg)) (l5 + 1) h hK_59
set_option maxRecDepth 100000 in
set_option maxHeartbeats 4000000 in
theorem w_X2_leastWay_59 {Γ : XG} {Lx : Launch} {Dx : va_G} {cs : Nat → ClassId} {h0 : Nat} {d0 : Nat → Nat} {v_many : Int32} {v_gap : Nat → Int32} {B_9 : Int32 → Int32 → Int32 → Prop} {K_78 : Int32 → Prop} {Φ : Int32 → Prop} {k n9 : Nat} (C : CX Γ Lx Dx cs cX2_leastWay RX2 "leastWay" 6 (some .int) 0 0 0 0 (qEC cs 0 0 [] (R_X2_leastWay cs h0 d0 v_many v_gap Φ) (fun _ _ => False))) (hkm : k ≤ 0) (hnm : n9 ≤ 0) (l1 : Int32) (l2 : Int32) (l3 : Int32) (l4 : Int32) (h : J_X2_leastWay_59 v_many v_gap l1 l2 l3 l4 B_9 K_78 Φ) (hB_9 : ∀ (l1_12 : Int32) (l2_13 : Int32) (l3_14 : Int32), B_9 l1_12 l2_13 l3_14 → AW Γ k n9 9 [(0, .ref h0), (1, .int l1_12), (2, .int l2_13), (3, .int l3_14)] [] [(h0, oX2 d0 v_many), ((d0 0), aI cs 40 v_gap)]) (hK_78 : ∀ (l2_15 : Int32), K_78 l2_15 → AW Γ k n9 78 [(2, .int l2_15)] [] [(h0, oX2 d0 v_many), ((d0 0), aI cs 40 v_gap)]) : AW Γ k n9 59 [(0, .ref h0), (1, .int l1), (2, .int l2), (3, .int l3), (4, .int l4)] [] [(h0, oX2 d0 v_many), ((d0 0), aI cs 40 v_gap)] := by
  unfold J_X2_leastWay_59 at h
  refine a_iload C (pc := 59) 4 dX2_leastWay_59 rfl ?_
  refine a_wayB C (pc := 61) wFn_X2_73 dX2_leastWay_61 (fun aw_11 haw_11 => ?_)
  refine a_iload_n C (pc := 64) 3 dX2_leastWay_64 rfl rfl ?_
  refine a_wald C (pc := 65) haw_11 h.1 dX2_leastWay_65 ?_
  replace h := h.2
  refine a_ishr C (pc := 66) dX2_leastWay_66 ?_
  refine a_if_ne C (pc := 67) 72 dX2_leastWay_67 (by decide) (fun hc => ?_) (fun hc => ?_)
  · have h := h.1 hc
    refine a_iinc C (pc := 72) (lv1 := [(0, .ref h0), (1, .int l1), (2, .int l2), (3, .int (l3 + 1)), (4, .int l4)]) 3 [1, 2, 3, 0, 4] dX2_leastWay_72 rfl (congrArg (fun z => l3 + z) ic_1) (by decide) rfl ?_
    refine a_goto C (pc := 75) 9 dX2_leastWay_75 (by decide) ?_
    refine a_lv (lv1 := [(0, .ref h0), (1, .int l1), (2, .int l2), (3, .int (l3 + 1))]) [0, 1, 2, 3] rfl ?_
    exact hB_9 l1 l2 (l3 + 1) h
  · have h := h.2 hc
    refine a_iload_n C (pc := 70) 3 dX2_leastWay_70 rfl rfl ?_
    exact a_ireturn C (pc := 71) rfl dX2_leastWay_71 hkm hnm ⟨_, rfl, rfl, h⟩
set_option maxRecDepth 100000 in
set_option maxHeartbeats 4000000 in
theorem w_X2_leastWay_9 {Γ : XG} {Lx : Launch} {Dx : va_G} {cs : Nat → ClassId} {h0 : Nat} {d0 : Nat → Nat} {v_many : Int32} {v_gap : Nat → Int32} {K_78 : Int32 → Prop} {Φ : Int32 → Prop} {k n9 : Nat} (C : CX Γ Lx Dx cs cX2_leastWay RX2 "leastWay" 6 (some .int) 0 0 0 0 (qEC cs 0 0 [] (R_X2_leastWay cs h0 d0 v_many v_gap Φ) (fun _ _ => False))) (hkm : k ≤ 0) (hnm : n9 ≤ 0) : ∀ n : Nat, ∀ (l1 : Int32) (l2 : Int32) (l3 : Int32), L_X2_leastWay_9 n v_many v_gap l1 l2 l3 K_78 Φ → (∀ (l2_22 : Int32), K_78 l2_22 → AW Γ k n9 78 [(2, .int l2_22)] [] [(h0, oX2 d0 v_many), ((d0 0), aI cs 40 v_gap)]) → AW Γ k n9 9 [(0, .ref h0), (1, .int l1), (2, .int l2), (3, .int l3)] [] [(h0, oX2 d0 v_many), ((d0 0), aI cs 40 v_gap)] := by
  intro n
  induction n with
  | zero =>
    intro l1 l2 l3 h
    exact False.elim h
  | succ n ih =>
    intro l1 l2 l3 h hK_78
    rw [L_X2_leastWay_9] at h
    refine a_iload_n C (pc := 9) 3 dX2_leastWay_9 rfl rfl ?_
    refine a_iload_n C (pc := 10) 2 dX2_leastWay_10 rfl rfl ?_
    refine a_icmp_ge C (pc := 11) 78 dX2_leastWay_11 (by decide) (fun hc => ?_) (fun hc => ?_)
    · have h := h.1 hc
      refine a_lv (lv1 := [(2, .int l2)]) [2] rfl ?_
      exact hK_78 l2 h
    · have h := h.2 hc
      refine a_iconst C (pc := 14) dX2_leastWay_14 ic_0 ?_
      refine a_istore C (pc := 15) (lv1 := [(0, .ref h0), (1, .int l1), (2, .int l2), (3, .int l3), (4, .int 0)]) [1, 2, 3, 4, 0] dX2_leastWay_15 (by decide) rfl ?_
      refine a_iload_n C (pc := 17) 1 dX2_leastWay_17 rfl rfl ?_
      refine a_istore C (pc := 18) (lv1 := [(0, .ref h0), (1, .int l1), (2, .int l2), (3, .int l3), (4, .int 0), (5, .int l1)]) [1, 2, 3, 4, 5, 0] dX2_leastWay_18 (by decide) rfl ?_
      obtain ⟨n0, h⟩ := h
      refine w_X2_leastWay_20 C hkm hnm n0 l1 l2 l3 0 l1 h ?_
      intro l1_7 l2_8 l3_9 l4_10 h
      exact w_X2_leastWay_59 C hkm hnm l1_7 l2_8 l3_9 l4_10 h (fun l1_19 l2_20 l3_21 h => ih l1_19 l2_20 l3_21 h hK_78) hK_78
set_option maxRecDepth 100000 in
set_option maxHeartbeats 4000000 in
theorem m_X2_leastWay (Lx : Launch) (Dx : va_G) (cs : Nat → ClassId) (h0 : Nat) (d0 : Nat → Nat) (v_many : Int32) (v_gap : Nat → Int32) (l1 : Int32) (Φ : Int32 → Prop) (h : P_X2_leastWay v_many v_gap l1 Φ) : XMet Lx Dx cs yX2_leastWay cX2_leastWay 6 (some .int) 0 0 0 0 [.ref h0, .int l1] [(h0, oX2 d0 v_many), ((d0 0), aI cs 40 v_gap)] (R_X2_leastWay cs h0 d0 v_many v_gap Φ) (fun _ _ => False) := by
  refine XMet.of (own := RX2) (nm := "leastWay") (by decide) rfl rfl (Nat.le_of_ble_eq_true rfl) (fun Γ C => ?_)
  unfold P_X2_leastWay at h
  refine a_wayG C (pc := 0) wFn_X2_70 dX2_leastWay_0 (fun aw_1 haw_1 => ?_)
  refine a_walen C (pc := 3) haw_1 dX2_leastWay_3 ?_
  refine a_iconst C (pc := 4) dX2_leastWay_4 ic_1 ?_
  refine a_isub C (pc := 5) dX2_leastWay_5 ?_
  refine a_istore_n C (pc := 6) (lv1 := [(0, .ref h0), (1, .int l1), (2, .int ((11 : Int32) - 1))]) [1, 2, 0] dX2_leastWay_6 rfl (by decide) rfl ?_
  refine a_iconst C (pc := 7) dX2_leastWay_7 ic_0 ?_
  refine a_istore_n C (pc := 8) (lv1 := [(0, .ref h0), (1, .int l1), (2, .int ((11 : Int32) - 1)), (3, .int 0)]) [1, 2, 3, 0] dX2_leastWay_8 rfl (by decide) rfl ?_
  obtain ⟨n0, h⟩ := h
  refine w_X2_leastWay_9 C (Nat.le_of_ble_eq_true rfl) (Nat.le_of_ble_eq_true rfl) n0 l1 ((11 : Int32) - 1) 0 h ?_
  intro l2_23 h
  refine a_iload_n C (pc := 78) 0 dX2_leastWay_78 rfl rfl ?_
  exact a_ireturn C (pc := 79) rfl dX2_leastWay_79 (Nat.le_of_ble_eq_true rfl) (Nat.le_of_ble_eq_true rfl) ⟨_, rfl, rfl, h⟩
set_option maxRecDepth 100000 in
set_option maxHeartbeats 4000000 in
theorem w_X0_putEight_2 {Γ : XG} {Lx : Launch} {Dx : va_G} {cs : Nat → ClassId} {n_row : Nat} {h0 : Nat} {d0 : Nat → Nat} {v_place : Int32} {K_25 : Int32 → (Nat → Int32) → Prop} {Φ : Int32 → (Nat → Int32) → Prop} {k n9 : Nat} (C : CX Γ Lx Dx cs cX0_putEight RX0 "putEight" 4 none 1 21 0 0 (qEC cs 0 0 [] (R_X0_putEight cs n_row h0 d0 v_place Φ) (fun _ _ => False))) (hkm : k ≤ 0) (hnm : n9 ≤ 0) : ∀ n : Nat, ∀ (v_size : Int32) (v_row : Nat → Int32) (l1 : Int64) (l3 : Int32), L_X0_putEight_2 n n_row v_size v_row l1 l3 K_25 Φ → (∀ (v_size_3 : Int32) (v_row_4 : Nat → Int32), K_25 v_size_3 v_row_4 → AW Γ k n9 25 [] [] [(h0, oX0 d0 v_size_3 v_place), ((d0 0), aB cs n_row v_row_4)]) → AW Γ k n9 2 [(0, .ref h0), (1, .long l1), (3, .int l3)] [] [(h0, oX0 d0 v_size v_place), ((d0 0), aB cs n_row v_row)] := by
  intro n
  induction n with
  | zero =>
    intro v_size v_row l1 l3 h
    exact False.elim h
  | succ n ih =>
    intro v_size v_row l1 l3 h hK_25
    rw [L_X0_putEight_2] at h
    refine a_iload_n C (pc := 2) 2 dX0_putEight_2 rfl rfl ?_
    refine a_bipush C (pc := 3) dX0_putEight_3 bp_8 ?_
    refine a_icmp_ge C (pc := 5) 25 dX0_putEight_5 (by decide) (fun hc => ?_) (fun hc => ?_)
    · have h := h.1 hc
      refine a_lv (lv1 := []) [] rfl ?_
      exact hK_25 v_size v_row h
    · have h := h.2 hc
      refine a_aload_n C (pc := 8) 0 dX0_putEight_8 rfl rfl ?_
      refine a_lload_n C (pc := 9) 1 dX0_putEight_9 rfl rfl ?_
      refine a_bipush C (pc := 10) dX0_putEight_10 bp_8 ?_
      refine a_iload_n C (pc := 12) 2 dX0_putEight_12 rfl rfl ?_
      refine a_imul C (pc := 13) dX0_putEight_13 ?_
      refine a_lushr C (pc := 14) dX0_putEight_14 ?_
      refine a_l2i C (pc := 15) dX0_putEight_15 ?_
      refine a_callV C (pc := 16) (av := [.int ((((l1.toUInt64 >>> ((8 * l3).toInt64.toUInt64 &&& Int64.toUInt64 63)).toInt64) : Int64).toInt32)]) (wr := []) (m_X0_put Lx Dx cs n_row h0 d0 v_size v_place v_row ((((l1.toUInt64 >>> ((8 * l3).toInt64.toUInt64 &&& Int64.toUInt64 63)).toInt64) : Int64).toInt32) _ h) [0, 1] [] rfl rfl (by decide) (by decide) (by decide) wM_X0_20 wb_X0_put hy_X0_put (q0 := 0) rfl rfl rfl ⟨Nat.le_of_ble_eq_true rfl, Nat.le_of_ble_eq_true rfl⟩ (Nat.le_of_ble_eq_true rfl) hkm hnm rfl dX0_putEight_16 (fun v w1 hw => ?_) [] rfl (fun _ _ h => h.elim)
      obtain ⟨v_size_1, v_row_2, rfl, rfl, h⟩ := hw
      refine a_ws (st1 := []) (ws1 := [(h0, oX0 d0 v_size_1 v_place), ((d0 0), aB cs n_row v_row_2)]) k n9 19 [0, 1] rfl rfl rfl rfl (by decide) rfl ?_
      refine a_iinc C (pc := 19) (lv1 := [(0, .ref h0), (1, .long l1), (3, .int (l3 + 1))]) 2 [1, 2, 0] dX0_putEight_19 rfl (congrArg (fun z => l3 + z) ic_1) (by decide) rfl ?_
      refine a_goto C (pc := 22) 2 dX0_putEight_22 (by decide) ?_
      exact ih v_size_1 v_row_2 l1 (l3 + 1) h hK_25
set_option maxRecDepth 100000 in
set_option maxHeartbeats 4000000 in
theorem m_X0_putEight (Lx : Launch) (Dx : va_G) (cs : Nat → ClassId) (n_row : Nat) (h0 : Nat) (d0 : Nat → Nat) (v_size : Int32) (v_place : Int32) (v_row : Nat → Int32) (l1 : Int64) (Φ : Int32 → (Nat → Int32) → Prop) (h : P_X0_putEight n_row v_size v_row l1 Φ) : XMet Lx Dx cs yX0_putEight cX0_putEight 4 none 1 21 0 0 [.ref h0, .long l1] [(h0, oX0 d0 v_size v_place), ((d0 0), aB cs n_row v_row)] (R_X0_putEight cs n_row h0 d0 v_place Φ) (fun _ _ => False) := by
  refine XMet.of (own := RX0) (nm := "putEight") (by decide) rfl rfl (Nat.le_of_ble_eq_true rfl) (fun Γ C => ?_)
  unfold P_X0_putEight at h
  refine a_iconst C (pc := 0) dX0_putEight_0 ic_0 ?_
  refine a_istore_n C (pc := 1) (lv1 := [(0, .ref h0), (1, .long l1), (3, .int 0)]) [1, 2, 0] dX0_putEight_1 rfl (by decide) rfl ?_
  obtain ⟨n0, h⟩ := h
  refine w_X0_putEight_2 C (Nat.le_of_ble_eq_true rfl) (Nat.le_of_ble_eq_true rfl) n0 v_size v_row l1 0 h ?_
  intro v_size_5 v_row_6 h
  exact a_return C (pc := 25) rfl dX0_putEight_25 (Nat.le_of_ble_eq_true rfl) (Nat.le_of_ble_eq_true rfl) ⟨_, _, rfl, rfl, h⟩
set_option maxRecDepth 100000 in
set_option maxHeartbeats 4000000 in
theorem w_X2_writeWords_52 {Γ : XG} {Lx : Launch} {Dx : va_G} {cs : Nat → ClassId} {n_a1_row : Nat} {h0 : Nat} {h1 : Nat} {d0 : Nat → Nat} {d1 : Nat → Nat} {v_many : Int32} {v_gap : Nat → Int32} {v_a1_place : Int32} {K_92 : Int32 → (Nat → Int32) → Int32 → Int32 → Int32 → Int64 → Prop} {Φ : Int32 → (Nat → Int32) → Prop} {k n9 : Nat} (C : CX Γ Lx Dx cs cX2_writeWords RX2 "writeWords" 9 none 2 44 0 0 (qEC cs 0 0 [] (R_X2_writeWords cs n_a1_row h0 h1 d0 d1 v_many v_gap v_a1_place Φ) (fun _ _ => False))) (hkm : k ≤ 0) (hnm : n9 ≤ 0) : ∀ n : Nat, ∀ (v_a1_size : Int32) (v_a1_row : Nat → Int32) (l2 : Int32) (l3 : Int32) (l4 : Int32) (l5 : Int32) (l6 : Int64) (l8 : Int32), L_X2_writeWords_52 n n_a1_row v_many v_gap v_a1_size v_a1_row l2 l3 l4 l5 l6 l8 K_92 Φ → (∀ (v_a1_size_4 : Int32) (v_a1_row_5 : Nat → Int32) (l2_6 : Int32) (l3_7 : Int32) (l5_8 : Int32) (l6_9 : Int64), K_92 v_a1_size_4 v_a1_row_5 l2_6 l3_7 l5_8 l6_9 → AW Γ k n9 92 [(0, .ref h0), (1, .ref h1), (2, .int l2_6), (3, .int l3_7), (5, .int l5_8), (6, .long l6_9)] [] [(h0, oX2 d0 v_many), ((d0 0), aI cs 40 v_gap), (h1, oX0 d1 v_a1_size_4 v_a1_place), ((d1 0), aB cs n_a1_row v_a1_row_5)]) → AW Γ k n9 52 [(0, .ref h0), (1, .ref h1), (2, .int l2), (3, .int l3), (4, .int l4), (5, .int l5), (6, .long l6), (8, .int l8)] [] [(h0, oX2 d0 v_many), ((d0 0), aI cs 40 v_gap), (h1, oX0 d1 v_a1_size v_a1_place), ((d1 0), aB cs n_a1_row v_a1_row)] := by
  intro n
  induction n with
  | zero =>
    intro v_a1_size v_a1_row l2 l3 l4 l5 l6 l8 h
    exact False.elim h
  | succ n ih =>
    intro v_a1_size v_a1_row l2 l3 l4 l5 l6 l8 h hK_92
    rw [L_X2_writeWords_52] at h
    refine a_iload C (pc := 52) 7 dX2_writeWords_52 rfl ?_
    refine a_iload C (pc := 54) 5 dX2_writeWords_54 rfl ?_
    refine a_icmp_ge C (pc := 56) 92 dX2_writeWords_56 (by decide) (fun hc => ?_) (fun hc => ?_)
    · have h := h.1 hc
      refine a_lv (lv1 := [(0, .ref h0), (1, .ref h1), (2, .int l2), (3, .int l3), (5, .int l5), (6, .long l6)]) [0, 1, 2, 3, 5, 6] rfl ?_
      exact hK_92 v_a1_size v_a1_row l2 l3 l5 l6 h
    · have h := h.2 hc
      refine a_lload C (pc := 59) 6 dX2_writeWords_59 rfl ?_
      refine a_aload_n C (pc := 61) 0 dX2_writeWords_61 rfl rfl ?_
      refine a_get C (pc := 62) 0 0 inW_X2 rfl rfl (Nat.le_of_ble_eq_true rfl) wF_X2_9 rfl rfl dX2_writeWords_62 ?_
      refine a_iload_n C (pc := 65) 2 dX2_writeWords_65 rfl rfl ?_
      refine a_iload C (pc := 66) 7 dX2_writeWords_66 rfl ?_
      refine a_iadd C (pc := 68) dX2_writeWords_68 ?_
      refine a_iald C (pc := 69) 1 rfl h.1 dX2_writeWords_69 ?_
      replace h := h.2
      refine a_i2l C (pc := 70) dX2_writeWords_70 ?_
      refine a_iconst C (pc := 71) dX2_writeWords_71 ic_4 ?_
      refine a_iload C (pc := 72) 7 dX2_writeWords_72 rfl ?_
      refine a_wayB C (pc := 74) wFn_X2_73 dX2_writeWords_74 (fun aw_3 haw_3 => ?_)
      refine a_iload C (pc := 77) 4 dX2_writeWords_77 rfl ?_
      refine a_wald C (pc := 79) haw_3 h.1 dX2_writeWords_79 ?_
      replace h := h.2
      refine a_imul C (pc := 80) dX2_writeWords_80 ?_
      refine a_iadd C (pc := 81) dX2_writeWords_81 ?_
      refine a_lshl C (pc := 82) dX2_writeWords_82 ?_
      refine a_lor C (pc := 83) dX2_writeWords_83 ?_
      refine a_lstore C (pc := 84) (lv1 := [(0, .ref h0), (1, .ref h1), (2, .int l2), (3, .int l3), (4, .int l4), (5, .int l5), (6, .long (l6 ||| ((((v_gap (l2 + l8 : Int32).toNatClampNeg) : Int32).toInt64) <<< ((4 + (l8 * (wayB (l4).toNatClampNeg))).toInt64 &&& 63)))), (8, .int l8)]) [1, 2, 3, 4, 5, 6, 0, 7] dX2_writeWords_84 (by decide) rfl ?_
      refine a_iinc C (pc := 86) (lv1 := [(0, .ref h0), (1, .ref h1), (2, .int l2), (3, .int l3), (4, .int l4), (5, .int l5), (6, .long (l6 ||| ((((v_gap (l2 + l8 : Int32).toNatClampNeg) : Int32).toInt64) <<< ((4 + (l8 * (wayB (l4).toNatClampNeg))).toInt64 &&& 63)))), (8, .int (l8 + 1))]) 7 [1, 2, 3, 4, 5, 6, 7, 0] dX2_writeWords_86 rfl (congrArg (fun z => l8 + z) ic_1) (by decide) rfl ?_
      refine a_goto C (pc := 89) 52 dX2_writeWords_89 (by decide) ?_
      exact ih v_a1_size v_a1_row l2 l3 l4 l5 (l6 ||| ((((v_gap (l2 + l8 : Int32).toNatClampNeg) : Int32).toInt64) <<< ((4 + (l8 * (wayB (l4).toNatClampNeg))).toInt64 &&& 63))) (l8 + 1) h hK_92
set_option maxRecDepth 100000 in
set_option maxHeartbeats 4000000 in
theorem w_X2_writeWords_4 {Γ : XG} {Lx : Launch} {Dx : va_G} {cs : Nat → ClassId} {n_a1_row : Nat} {h0 : Nat} {h1 : Nat} {d0 : Nat → Nat} {d1 : Nat → Nat} {v_many : Int32} {v_gap : Nat → Int32} {v_a1_place : Int32} {K_109 : Int32 → (Nat → Int32) → Prop} {Φ : Int32 → (Nat → Int32) → Prop} {k n9 : Nat} (C : CX Γ Lx Dx cs cX2_writeWords RX2 "writeWords" 9 none 2 44 0 0 (qEC cs 0 0 [] (R_X2_writeWords cs n_a1_row h0 h1 d0 d1 v_many v_gap v_a1_place Φ) (fun _ _ => False))) (hkm : k ≤ 0) (hnm : n9 ≤ 0) : ∀ n : Nat, ∀ (v_a1_size : Int32) (v_a1_row : Nat → Int32) (l2 : Int32) (l3 : Int32), L_X2_writeWords_4 n n_a1_row v_many v_gap v_a1_size v_a1_row l2 l3 K_109 Φ → (∀ (v_a1_size_18 : Int32) (v_a1_row_19 : Nat → Int32), K_109 v_a1_size_18 v_a1_row_19 → AW Γ k n9 109 [] [] [(h0, oX2 d0 v_many), ((d0 0), aI cs 40 v_gap), (h1, oX0 d1 v_a1_size_18 v_a1_place), ((d1 0), aB cs n_a1_row v_a1_row_19)]) → AW Γ k n9 4 [(0, .ref h0), (1, .ref h1), (2, .int l2), (3, .int l3)] [] [(h0, oX2 d0 v_many), ((d0 0), aI cs 40 v_gap), (h1, oX0 d1 v_a1_size v_a1_place), ((d1 0), aB cs n_a1_row v_a1_row)] := by
  intro n
  induction n with
  | zero =>
    intro v_a1_size v_a1_row l2 l3 h
    exact False.elim h
  | succ n ih =>
    intro v_a1_size v_a1_row l2 l3 h hK_109
    rw [L_X2_writeWords_4] at h
    refine a_iload_n C (pc := 4) 3 dX2_writeWords_4 rfl rfl ?_
    refine a_aload_n C (pc := 5) 0 dX2_writeWords_5 rfl rfl ?_
    refine a_get C (pc := 6) 0 1 inW_X2 rfl rfl (Nat.le_of_ble_eq_true rfl) wF_X2_15 rfl rfl dX2_writeWords_6 ?_
    refine a_icmp_ge C (pc := 9) 109 dX2_writeWords_9 (by decide) (fun hc => ?_) (fun hc => ?_)
    · have h := h.1 hc
      refine a_lv (lv1 := []) [] rfl ?_
      exact hK_109 v_a1_size v_a1_row h
    · have h := h.2 hc
      refine a_iload_n C (pc := 12) 2 dX2_writeWords_12 rfl rfl ?_
      refine a_aload_n C (pc := 13) 0 dX2_writeWords_13 rfl rfl ?_
      refine a_get C (pc := 14) 0 1 inW_X2 rfl rfl (Nat.le_of_ble_eq_true rfl) wF_X2_15 rfl rfl dX2_writeWords_14 ?_
      refine a_icmp_ge C (pc := 17) 109 dX2_writeWords_17 (by decide) (fun hc => ?_) (fun hc => ?_)
      · have h := h.1 hc
        refine a_lv (lv1 := []) [] rfl ?_
        exact hK_109 v_a1_size v_a1_row h
      · have h := h.2 hc
        refine a_aload_n C (pc := 20) 0 dX2_writeWords_20 rfl rfl ?_
        refine a_iload_n C (pc := 21) 2 dX2_writeWords_21 rfl rfl ?_
        refine a_callV C (pc := 22) (av := [.int l2]) (wr := [(h1, oX0 d1 v_a1_size v_a1_place), ((d1 0), aB cs n_a1_row v_a1_row)]) (m_X2_leastWay Lx Dx cs h0 d0 v_many v_gap l2 _ h) [0, 1] [2, 3] rfl rfl (by decide) (by decide) (by decide) wM_X2_67 wb_X2_leastWay hy_X2_leastWay (q0 := 0) rfl rfl rfl ⟨Nat.le_of_ble_eq_true rfl, Nat.le_of_ble_eq_true rfl⟩ (Nat.le_of_ble_eq_true rfl) hkm hnm rfl dX2_writeWords_22 (fun v w1 hw => ?_) [] rfl (fun _ _ h => h.elim)
        obtain ⟨r_1, rfl, rfl, h⟩ := hw
        refine a_ws (st1 := [.int r_1]) (ws1 := [(h0, oX2 d0 v_many), ((d0 0), aI cs 40 v_gap), (h1, oX0 d1 v_a1_size v_a1_place), ((d1 0), aB cs n_a1_row v_a1_row)]) k n9 25 [2, 3, 0, 1] rfl rfl rfl rfl (by decide) rfl ?_
        refine a_istore C (pc := 25) (lv1 := [(0, .ref h0), (1, .ref h1), (2, .int l2), (3, .int l3), (4, .int r_1)]) [1, 2, 3, 4, 0] dX2_writeWords_25 (by decide) rfl ?_
        refine a_wayG C (pc := 27) wFn_X2_70 dX2_writeWords_27 (fun aw_2 haw_2 => ?_)
        refine a_iload C (pc := 30) 4 dX2_writeWords_30 rfl ?_
        refine a_wald C (pc := 32) haw_2 h.1 dX2_writeWords_32 ?_
        replace h := h.2
        refine a_aload_n C (pc := 33) 0 dX2_writeWords_33 rfl rfl ?_
        refine a_get C (pc := 34) 0 1 inW_X2 rfl rfl (Nat.le_of_ble_eq_true rfl) wF_X2_15 rfl rfl dX2_writeWords_34 ?_
        refine a_iload_n C (pc := 37) 2 dX2_writeWords_37 rfl rfl ?_
        refine a_isub C (pc := 38) dX2_writeWords_38 ?_
        refine a_min C (pc := 39) wM_X2_28 wX_min (Nat.le_of_ble_eq_true rfl) (Nat.le_of_ble_eq_true rfl) hkm hnm dX2_writeWords_39 ?_
        refine a_istore C (pc := 42) (lv1 := [(0, .ref h0), (1, .ref h1), (2, .int l2), (3, .int l3), (4, .int r_1), (5, .int (imin (wayG (r_1).toNatClampNeg) (v_many - l2)))]) [1, 2, 3, 4, 5, 0] dX2_writeWords_42 (by decide) rfl ?_
        refine a_iload C (pc := 44) 4 dX2_writeWords_44 rfl ?_
        refine a_i2l C (pc := 46) dX2_writeWords_46 ?_
        refine a_lstore C (pc := 47) (lv1 := [(0, .ref h0), (1, .ref h1), (2, .int l2), (3, .int l3), (4, .int r_1), (5, .int (imin (wayG (r_1).toNatClampNeg) (v_many - l2))), (6, .long ((r_1 : Int32).toInt64))]) [1, 2, 3, 4, 5, 6, 0] dX2_writeWords_47 (by decide) rfl ?_
        refine a_iconst C (pc := 49) dX2_writeWords_49 ic_0 ?_
        refine a_istore C (pc := 50) (lv1 := [(0, .ref h0), (1, .ref h1), (2, .int l2), (3, .int l3), (4, .int r_1), (5, .int (imin (wayG (r_1).toNatClampNeg) (v_many - l2))), (6, .long ((r_1 : Int32).toInt64)), (8, .int 0)]) [1, 2, 3, 4, 5, 6, 7, 0] dX2_writeWords_50 (by decide) rfl ?_
        obtain ⟨n0, h⟩ := h
        refine w_X2_writeWords_52 C hkm hnm n0 v_a1_size v_a1_row l2 l3 r_1 (imin (wayG (r_1).toNatClampNeg) (v_many - l2)) ((r_1 : Int32).toInt64) 0 h ?_
        intro v_a1_size_10 v_a1_row_11 l2_12 l3_13 l5_14 l6_15 h
        refine a_aload_n C (pc := 92) 1 dX2_writeWords_92 rfl rfl ?_
        refine a_lload C (pc := 93) 5 dX2_writeWords_93 rfl ?_
        refine a_callV C (pc := 95) (av := [.long l6_15]) (wr := [(h0, oX2 d0 v_many), ((d0 0), aI cs 40 v_gap)]) (m_X0_putEight Lx Dx cs n_a1_row h1 d1 v_a1_size_10 v_a1_place v_a1_row_11 l6_15 _ h) [2, 3] [0, 1] rfl rfl (by decide) (by decide) (by decide) wM_X2_76 wb_X0_putEight hy_X0_putEight (q0 := 2) rfl rfl rfl ⟨Nat.le_of_ble_eq_true rfl, Nat.le_of_ble_eq_true rfl⟩ (Nat.le_of_ble_eq_true rfl) hkm hnm rfl dX2_writeWords_95 (fun v w1 hw => ?_) [] rfl (fun _ _ h => h.elim)
        obtain ⟨v_a1_size_16, v_a1_row_17, rfl, rfl, h⟩ := hw
        refine a_ws (st1 := []) (ws1 := [(h0, oX2 d0 v_many), ((d0 0), aI cs 40 v_gap), (h1, oX0 d1 v_a1_size_16 v_a1_place), ((d1 0), aB cs n_a1_row v_a1_row_17)]) k n9 98 [0, 1, 2, 3] rfl rfl rfl rfl (by decide) rfl ?_
        refine a_iload_n C (pc := 98) 2 dX2_writeWords_98 rfl rfl ?_
        refine a_iload C (pc := 99) 4 dX2_writeWords_99 rfl ?_
        refine a_iadd C (pc := 101) dX2_writeWords_101 ?_
        refine a_istore_n C (pc := 102) (lv1 := [(0, .ref h0), (1, .ref h1), (2, .int (l2_12 + l5_14)), (3, .int l3_13), (5, .int l5_14), (6, .long l6_15)]) [1, 2, 0, 3, 4, 5] dX2_writeWords_102 rfl (by decide) rfl ?_
        refine a_iinc C (pc := 103) (lv1 := [(0, .ref h0), (1, .ref h1), (2, .int (l2_12 + l5_14)), (3, .int (l3_13 + 1)), (5, .int l5_14), (6, .long l6_15)]) 3 [1, 2, 3, 0, 4, 5] dX2_writeWords_103 rfl (congrArg (fun z => l3_13 + z) ic_1) (by decide) rfl ?_
        refine a_goto C (pc := 106) 4 dX2_writeWords_106 (by decide) ?_
        refine a_lv (lv1 := [(0, .ref h0), (1, .ref h1), (2, .int (l2_12 + l5_14)), (3, .int (l3_13 + 1))]) [0, 1, 2, 3] rfl ?_
        exact ih v_a1_size_16 v_a1_row_17 (l2_12 + l5_14) (l3_13 + 1) h hK_109
set_option maxRecDepth 100000 in
set_option maxHeartbeats 4000000 in
theorem m_X2_writeWords (Lx : Launch) (Dx : va_G) (cs : Nat → ClassId) (n_a1_row : Nat) (h0 : Nat) (h1 : Nat) (d0 : Nat → Nat) (d1 : Nat → Nat) (v_many : Int32) (v_gap : Nat → Int32) (v_a1_size : Int32) (v_a1_place : Int32) (v_a1_row : Nat → Int32) (Φ : Int32 → (Nat → Int32) → Prop) (h : P_X2_writeWords n_a1_row v_many v_gap v_a1_size v_a1_row Φ) : XMet Lx Dx cs yX2_writeWords cX2_writeWords 9 none 2 44 0 0 [.ref h0, .ref h1] [(h0, oX2 d0 v_many), ((d0 0), aI cs 40 v_gap), (h1, oX0 d1 v_a1_size v_a1_place), ((d1 0), aB cs n_a1_row v_a1_row)] (R_X2_writeWords cs n_a1_row h0 h1 d0 d1 v_many v_gap v_a1_place Φ) (fun _ _ => False) := by
  refine XMet.of (own := RX2) (nm := "writeWords") (by decide) rfl rfl (Nat.le_of_ble_eq_true rfl) (fun Γ C => ?_)
  unfold P_X2_writeWords at h
  refine a_iconst C (pc := 0) dX2_writeWords_0 ic_0 ?_
  refine a_istore_n C (pc := 1) (lv1 := [(0, .ref h0), (1, .ref h1), (2, .int 0)]) [1, 2, 0] dX2_writeWords_1 rfl (by decide) rfl ?_
  refine a_iconst C (pc := 2) dX2_writeWords_2 ic_0 ?_
  refine a_istore_n C (pc := 3) (lv1 := [(0, .ref h0), (1, .ref h1), (2, .int 0), (3, .int 0)]) [1, 2, 3, 0] dX2_writeWords_3 rfl (by decide) rfl ?_
  obtain ⟨n0, h⟩ := h
  refine w_X2_writeWords_4 C (Nat.le_of_ble_eq_true rfl) (Nat.le_of_ble_eq_true rfl) n0 v_a1_size v_a1_row 0 0 h ?_
  intro v_a1_size_20 v_a1_row_21 h
  exact a_return C (pc := 109) rfl dX2_writeWords_109 (Nat.le_of_ble_eq_true rfl) (Nat.le_of_ble_eq_true rfl) ⟨_, _, rfl, rfl, h⟩
