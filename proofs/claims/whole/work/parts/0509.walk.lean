set_option maxRecDepth 100000 in
set_option maxHeartbeats 4000000 in
theorem w_X9_build_74 {Γ : XG} {Lx : Launch} {Dx : va_G} {cs : Nat → ClassId} {h0 : Nat} {d0 : Nat → Nat} {v_taped : Int32} {v_at : Int32} {v_documents : Int32} {v_terms : Int32} {v_latest : Int32} {v_place : Int32} {v_over : Int32} {v_clock : Int64} {v_askedTerms : Int32} {v_segments : Int32} {v_done : Int32} {v_postingsDone : Int32} {v_postingsAll : Int32} {v_why : Int32} {v_hits : Int32} {v_often : Nat → Int32} {v_length : Nat → Int32} {v_term : Nat → Int32} {K_100 : Int32 → Int32 → Int32 → (Nat → Int32) → (Nat → Int32) → (Nat → Int32) → (Nat → Int32) → (Nat → Int32) → (Nat → Int32) → (Nat → Int32) → (Nat → Int32) → (Nat → Int32) → (Nat → Int32) → Prop} {Φ : Int32 → Int32 → Int32 → Int32 → (Nat → Int32) → (Nat → Int32) → (Nat → Int32) → (Nat → Int32) → (Nat → Int32) → (Nat → Int32) → (Nat → Int32) → (Nat → Int32) → (Nat → Int32) → (Nat → Int32) → Prop} {k n9 : Nat} (C : CX Γ Lx Dx cs cX9_build RX9 "build" 4 (some .int) 4 97 0 0 (qEC cs 0 0 [] (R_X9_build cs h0 d0 v_taped v_at v_documents v_terms v_latest v_place v_over v_clock v_askedTerms v_segments v_done v_postingsDone v_postingsAll v_why v_hits v_often v_length v_term Φ) (fun _ _ => False))) (hkm : k ≤ 0) (hnm : n9 ≤ 0) : ∀ n : Nat, ∀ (v_thrown : Int32) (v_filed : Int32) (v_drafted : Int32) (v_bits : Nat → Int32) (v_codec : Nat → Int32) (v_size : Nat → Int32) (v_words : Nat → Int32) (v_word : Nat → Int32) (v_letter : Nat → Int32) (v_impact : Nat → Int32) (v_draft : Nat → Int32) (v_gap : Nat → Int32) (v_file : Nat → Int32) (l3 : Int32), L_X9_build_74 n v_thrown v_documents v_terms v_filed v_drafted v_bits v_codec v_size v_words v_often v_length v_term v_word v_letter v_impact v_draft v_gap v_file l3 K_100 Φ → (∀ (v_thrown_16 : Int32) (v_filed_17 : Int32) (v_drafted_18 : Int32) (v_bits_19 : Nat → Int32) (v_codec_20 : Nat → Int32) (v_size_21 : Nat → Int32) (v_words_22 : Nat → Int32) (v_word_23 : Nat → Int32) (v_letter_24 : Nat → Int32) (v_impact_25 : Nat → Int32) (v_draft_26 : Nat → Int32) (v_gap_27 : Nat → Int32) (v_file_28 : Nat → Int32), K_100 v_thrown_16 v_filed_17 v_drafted_18 v_bits_19 v_codec_20 v_size_21 v_words_22 v_word_23 v_letter_24 v_impact_25 v_draft_26 v_gap_27 v_file_28 → AW Γ k n9 100 [(0, .ref h0)] [] [(h0, oX9 d0 v_thrown_16 v_taped v_at v_documents v_terms v_latest v_filed_17 v_drafted_18 v_place v_over v_clock v_askedTerms v_segments v_done v_postingsDone v_postingsAll v_why v_hits), ((d0 11), aI cs 5 v_bits_19), ((d0 12), aI cs 5 v_codec_20), ((d0 13), aI cs 5 v_size_21), ((d0 14), aI cs 5 v_words_22), ((d0 8), aI cs 2560 v_often), ((d0 9), aI cs 40 v_length), ((d0 7), aI cs 512 v_term), ((d0 3), aI cs 8 v_word_23), ((d0 15), aI cs 2560 v_letter_24), ((d0 16), aI cs 12800 v_impact_25), ((d0 22), aI cs 16000 v_draft_26), ((d0 27), aI cs 40 v_gap_27), ((d0 21), aI cs 16000 v_file_28)]) → AW Γ k n9 74 [(0, .ref h0), (3, .int l3)] [] [(h0, oX9 d0 v_thrown v_taped v_at v_documents v_terms v_latest v_filed v_drafted v_place v_over v_clock v_askedTerms v_segments v_done v_postingsDone v_postingsAll v_why v_hits), ((d0 11), aI cs 5 v_bits), ((d0 12), aI cs 5 v_codec), ((d0 13), aI cs 5 v_size), ((d0 14), aI cs 5 v_words), ((d0 8), aI cs 2560 v_often), ((d0 9), aI cs 40 v_length), ((d0 7), aI cs 512 v_term), ((d0 3), aI cs 8 v_word), ((d0 15), aI cs 2560 v_letter), ((d0 16), aI cs 12800 v_impact), ((d0 22), aI cs 16000 v_draft), ((d0 27), aI cs 40 v_gap), ((d0 21), aI cs 16000 v_file)] := by
  intro n
  induction n with
  | zero =>
    intro v_thrown v_filed v_drafted v_bits v_codec v_size v_words v_word v_letter v_impact v_draft v_gap v_file l3 h
    exact False.elim h
  | succ n ih =>
    intro v_thrown v_filed v_drafted v_bits v_codec v_size v_words v_word v_letter v_impact v_draft v_gap v_file l3 h hK_100
    rw [L_X9_build_74] at h
    refine a_iload_n C (pc := 74) 1 dX9_build_74 rfl rfl ?_
    refine a_aload_n C (pc := 75) 0 dX9_build_75 rfl rfl ?_
    refine a_get C (pc := 76) 0 24 inW_X9 rfl rfl (Nat.le_of_ble_eq_true rfl) wF_X9_168 rfl rfl dX9_build_76 ?_
    refine a_icmp_ge C (pc := 79) 100 dX9_build_79 (by decide) (fun hc => ?_) (fun hc => ?_)
    · have h := h.1 hc
      refine a_lv (lv1 := [(0, .ref h0)]) [0] rfl ?_
      exact hK_100 v_thrown v_filed v_drafted v_bits v_codec v_size v_words v_word v_letter v_impact v_draft v_gap v_file h
    · have h := h.2 hc
      refine a_aload_n C (pc := 82) 0 dX9_build_82 rfl rfl ?_
      refine a_get C (pc := 83) 0 21 inW_X9 rfl rfl (Nat.le_of_ble_eq_true rfl) wF_X9_56 rfl rfl dX9_build_83 ?_
      refine a_iload_n C (pc := 86) 1 dX9_build_86 rfl rfl ?_
      refine a_aload_n C (pc := 87) 0 dX9_build_87 rfl rfl ?_
      refine a_get C (pc := 88) 0 22 inW_X9 rfl rfl (Nat.le_of_ble_eq_true rfl) wF_X9_59 rfl rfl dX9_build_88 ?_
      refine a_iload_n C (pc := 91) 1 dX9_build_91 rfl rfl ?_
      refine a_iald C (pc := 92) 11 rfl h.1 dX9_build_92 ?_
      replace h := h.2
      refine a_iast C (pc := 93) (ws1 := [(h0, oX9 d0 v_thrown v_taped v_at v_documents v_terms v_latest v_filed v_drafted v_place v_over v_clock v_askedTerms v_segments v_done v_postingsDone v_postingsAll v_why v_hits), ((d0 11), aI cs 5 v_bits), ((d0 12), aI cs 5 v_codec), ((d0 13), aI cs 5 v_size), ((d0 14), aI cs 5 v_words), ((d0 8), aI cs 2560 v_often), ((d0 9), aI cs 40 v_length), ((d0 7), aI cs 512 v_term), ((d0 3), aI cs 8 v_word), ((d0 15), aI cs 2560 v_letter), ((d0 16), aI cs 12800 v_impact), ((d0 22), aI cs 16000 v_draft), ((d0 27), aI cs 40 v_gap), ((d0 21), aI cs 16000 (upd v_file (l3 : Int32).toNatClampNeg (v_draft (l3 : Int32).toNatClampNeg)))]) 13 rfl h.1 dX9_build_93 rfl ?_
      replace h := h.2
      refine a_iinc C (pc := 94) (lv1 := [(0, .ref h0), (3, .int (l3 + 1))]) 1 [1, 0] dX9_build_94 rfl (congrArg (fun z => l3 + z) ic_1) (by decide) rfl ?_
      refine a_goto C (pc := 97) 74 dX9_build_97 (by decide) ?_
      exact ih v_thrown v_filed v_drafted v_bits v_codec v_size v_words v_word v_letter v_impact v_draft v_gap (upd v_file (l3 : Int32).toNatClampNeg (v_draft (l3 : Int32).toNatClampNeg)) (l3 + 1) h hK_100
set_option maxRecDepth 100000 in
set_option maxHeartbeats 4000000 in
theorem w_X9_build_52 {Γ : XG} {Lx : Launch} {Dx : va_G} {cs : Nat → ClassId} {h0 : Nat} {d0 : Nat → Nat} {v_taped : Int32} {v_at : Int32} {v_documents : Int32} {v_terms : Int32} {v_latest : Int32} {v_place : Int32} {v_over : Int32} {v_clock : Int64} {v_askedTerms : Int32} {v_segments : Int32} {v_done : Int32} {v_postingsDone : Int32} {v_postingsAll : Int32} {v_why : Int32} {v_hits : Int32} {v_often : Nat → Int32} {v_length : Nat → Int32} {v_term : Nat → Int32} {Φ : Int32 → Int32 → Int32 → Int32 → (Nat → Int32) → (Nat → Int32) → (Nat → Int32) → (Nat → Int32) → (Nat → Int32) → (Nat → Int32) → (Nat → Int32) → (Nat → Int32) → (Nat → Int32) → (Nat → Int32) → Prop} {k n9 : Nat} (C : CX Γ Lx Dx cs cX9_build RX9 "build" 4 (some .int) 4 97 0 0 (qEC cs 0 0 [] (R_X9_build cs h0 d0 v_taped v_at v_documents v_terms v_latest v_place v_over v_clock v_askedTerms v_segments v_done v_postingsDone v_postingsAll v_why v_hits v_often v_length v_term Φ) (fun _ _ => False))) (hkm : k ≤ 0) (hnm : n9 ≤ 0) (v_thrown : Int32) (v_filed : Int32) (v_drafted : Int32) (v_bits : Nat → Int32) (v_codec : Nat → Int32) (v_size : Nat → Int32) (v_words : Nat → Int32) (v_word : Nat → Int32) (v_letter : Nat → Int32) (v_impact : Nat → Int32) (v_draft : Nat → Int32) (v_gap : Nat → Int32) (v_file : Nat → Int32) (l1 : Int32) (l2 : Int32) (s1 : Int32) (h : J_X9_build_52 v_thrown v_documents v_terms v_filed v_drafted v_bits v_codec v_size v_words v_often v_length v_term v_word v_letter v_impact v_draft v_gap v_file l1 l2 s1 Φ) : AW Γ k n9 52 [(0, .ref h0), (1, .int l1), (2, .int l2)] [.int s1, .ref h0] [(h0, oX9 d0 v_thrown v_taped v_at v_documents v_terms v_latest v_filed v_drafted v_place v_over v_clock v_askedTerms v_segments v_done v_postingsDone v_postingsAll v_why v_hits), ((d0 11), aI cs 5 v_bits), ((d0 12), aI cs 5 v_codec), ((d0 13), aI cs 5 v_size), ((d0 14), aI cs 5 v_words), ((d0 8), aI cs 2560 v_often), ((d0 9), aI cs 40 v_length), ((d0 7), aI cs 512 v_term), ((d0 3), aI cs 8 v_word), ((d0 15), aI cs 2560 v_letter), ((d0 16), aI cs 12800 v_impact), ((d0 22), aI cs 16000 v_draft), ((d0 27), aI cs 40 v_gap), ((d0 21), aI cs 16000 v_file)] := by
  unfold J_X9_build_52 at h
  refine a_iconst C (pc := 52) dX9_build_52 ic_2 ?_
  refine a_callV C (pc := 53) (av := [.int s1, .int 2]) (wr := [((d0 11), aI cs 5 v_bits), ((d0 12), aI cs 5 v_codec), ((d0 13), aI cs 5 v_size), ((d0 14), aI cs 5 v_words), ((d0 8), aI cs 2560 v_often), ((d0 9), aI cs 40 v_length), ((d0 7), aI cs 512 v_term), ((d0 3), aI cs 8 v_word), ((d0 15), aI cs 2560 v_letter), ((d0 16), aI cs 12800 v_impact), ((d0 22), aI cs 16000 v_draft), ((d0 27), aI cs 40 v_gap), ((d0 21), aI cs 16000 v_file)]) (m_X9_fails Lx Dx cs h0 d0 v_thrown v_taped v_at v_documents v_terms v_latest v_filed v_drafted v_place v_over v_clock v_askedTerms v_segments v_done v_postingsDone v_postingsAll v_why v_hits s1 2 _ h) [0] [1, 2, 3, 4, 5, 6, 7, 8, 9, 10, 11, 12, 13] rfl rfl (by decide) (by decide) (by decide) wM_X9_93 wb_X9_fails hy_X9_fails (q0 := 0) rfl rfl rfl ⟨Nat.le_of_ble_eq_true rfl, Nat.le_of_ble_eq_true rfl⟩ (Nat.le_of_ble_eq_true rfl) hkm hnm rfl dX9_build_53 (fun v w1 hw => ?_) [] rfl (fun _ _ h => h.elim)
  obtain ⟨r_4, v_thrown_5, rfl, rfl, h⟩ := hw
  refine a_ws (st1 := [.int r_4]) (ws1 := [(h0, oX9 d0 v_thrown_5 v_taped v_at v_documents v_terms v_latest v_filed v_drafted v_place v_over v_clock v_askedTerms v_segments v_done v_postingsDone v_postingsAll v_why v_hits), ((d0 11), aI cs 5 v_bits), ((d0 12), aI cs 5 v_codec), ((d0 13), aI cs 5 v_size), ((d0 14), aI cs 5 v_words), ((d0 8), aI cs 2560 v_often), ((d0 9), aI cs 40 v_length), ((d0 7), aI cs 512 v_term), ((d0 3), aI cs 8 v_word), ((d0 15), aI cs 2560 v_letter), ((d0 16), aI cs 12800 v_impact), ((d0 22), aI cs 16000 v_draft), ((d0 27), aI cs 40 v_gap), ((d0 21), aI cs 16000 v_file)]) k n9 56 [13, 0, 1, 2, 3, 4, 5, 6, 7, 8, 9, 10, 11, 12] rfl rfl rfl rfl (by decide) rfl ?_
  refine a_if_eq C (pc := 56) 61 dX9_build_56 (by decide) (fun hc => ?_) (fun hc => ?_)
  · have h := h.1 hc
    refine a_aload_n C (pc := 61) 0 dX9_build_61 rfl rfl ?_
    refine a_iload_n C (pc := 62) 1 dX9_build_62 rfl rfl ?_
    refine a_iload_n C (pc := 63) 2 dX9_build_63 rfl rfl ?_
    refine a_callV C (pc := 64) (av := [.int l1, .int l2]) (wr := [((d0 22), aI cs 16000 v_draft), ((d0 27), aI cs 40 v_gap), ((d0 21), aI cs 16000 v_file)]) (m_X9_makes Lx Dx cs h0 d0 v_thrown_5 v_taped v_at v_documents v_terms v_latest v_filed v_drafted v_place v_over v_clock v_askedTerms v_segments v_done v_postingsDone v_postingsAll v_why v_hits v_bits v_codec v_size v_words v_often v_length v_term v_word v_letter v_impact l1 l2 _ h) [0, 1, 2, 3, 4, 5, 6, 7, 8, 9, 10] [11, 12, 13] rfl rfl (by decide) (by decide) (by decide) wM_X9_213 wb_X9_makes hy_X9_makes (q0 := 0) rfl rfl rfl ⟨Nat.le_of_ble_eq_true rfl, Nat.le_of_ble_eq_true rfl⟩ (Nat.le_of_ble_eq_true rfl) hkm hnm rfl dX9_build_64 (fun v w1 hw => ?_) [] rfl (fun _ _ h => h.elim)
    obtain ⟨v_bits_6, v_codec_7, v_size_8, v_words_9, v_word_10, v_letter_11, v_impact_12, rfl, rfl, h⟩ := hw
    refine a_ws (st1 := []) (ws1 := [(h0, oX9 d0 v_thrown_5 v_taped v_at v_documents v_terms v_latest v_filed v_drafted v_place v_over v_clock v_askedTerms v_segments v_done v_postingsDone v_postingsAll v_why v_hits), ((d0 11), aI cs 5 v_bits_6), ((d0 12), aI cs 5 v_codec_7), ((d0 13), aI cs 5 v_size_8), ((d0 14), aI cs 5 v_words_9), ((d0 8), aI cs 2560 v_often), ((d0 9), aI cs 40 v_length), ((d0 7), aI cs 512 v_term), ((d0 3), aI cs 8 v_word_10), ((d0 15), aI cs 2560 v_letter_11), ((d0 16), aI cs 12800 v_impact_12), ((d0 22), aI cs 16000 v_draft), ((d0 27), aI cs 40 v_gap), ((d0 21), aI cs 16000 v_file)]) k n9 67 [3, 4, 5, 6, 7, 8, 9, 10, 11, 12, 13, 0, 1, 2] rfl rfl rfl rfl (by decide) rfl ?_
    refine a_aload_n C (pc := 67) 0 dX9_build_67 rfl rfl ?_
    refine a_iconst C (pc := 68) dX9_build_68 ic_4 ?_
    refine a_callV C (pc := 69) (av := [.int 4]) (wr := [((d0 8), aI cs 2560 v_often), ((d0 9), aI cs 40 v_length), ((d0 7), aI cs 512 v_term), ((d0 3), aI cs 8 v_word_10), ((d0 21), aI cs 16000 v_file)]) (m_X9_writes Lx Dx cs h0 d0 v_thrown_5 v_taped v_at v_documents v_terms v_latest v_filed v_drafted v_place v_over v_clock v_askedTerms v_segments v_done v_postingsDone v_postingsAll v_why v_hits v_draft v_bits_6 v_codec_7 v_size_8 v_words_9 v_letter_11 v_impact_12 v_gap 4 _ h) [0, 11, 1, 2, 3, 4, 9, 10, 12] [5, 6, 7, 8, 13] rfl rfl (by decide) (by decide) (by decide) wM_X9_216 wb_X9_writes hy_X9_writes (q0 := 0) rfl rfl rfl ⟨Nat.le_of_ble_eq_true rfl, Nat.le_of_ble_eq_true rfl⟩ (Nat.le_of_ble_eq_true rfl) hkm hnm rfl dX9_build_69 (fun v w1 hw => ?_) [] rfl (fun _ _ h => h.elim)
    obtain ⟨v_drafted_13, v_draft_14, v_gap_15, rfl, rfl, h⟩ := hw
    refine a_ws (st1 := []) (ws1 := [(h0, oX9 d0 v_thrown_5 v_taped v_at v_documents v_terms v_latest v_filed v_drafted_13 v_place v_over v_clock v_askedTerms v_segments v_done v_postingsDone v_postingsAll v_why v_hits), ((d0 11), aI cs 5 v_bits_6), ((d0 12), aI cs 5 v_codec_7), ((d0 13), aI cs 5 v_size_8), ((d0 14), aI cs 5 v_words_9), ((d0 8), aI cs 2560 v_often), ((d0 9), aI cs 40 v_length), ((d0 7), aI cs 512 v_term), ((d0 3), aI cs 8 v_word_10), ((d0 15), aI cs 2560 v_letter_11), ((d0 16), aI cs 12800 v_impact_12), ((d0 22), aI cs 16000 v_draft_14), ((d0 27), aI cs 40 v_gap_15), ((d0 21), aI cs 16000 v_file)]) k n9 72 [5, 7, 8, 9, 10, 0, 1, 2, 3, 11, 12, 6, 13, 4] rfl rfl rfl rfl (by decide) rfl ?_
    refine a_iconst C (pc := 72) dX9_build_72 ic_0 ?_
    refine a_istore_n C (pc := 73) (lv1 := [(0, .ref h0), (1, .int l1), (2, .int l2), (3, .int 0)]) [1, 2, 3, 0] dX9_build_73 rfl (by decide) rfl ?_
    obtain ⟨n0, h⟩ := h
    refine a_lv (lv1 := [(0, .ref h0), (3, .int 0)]) [0, 3] rfl ?_
    refine w_X9_build_74 C hkm hnm n0 v_thrown_5 v_filed v_drafted_13 v_bits_6 v_codec_7 v_size_8 v_words_9 v_word_10 v_letter_11 v_impact_12 v_draft_14 v_gap_15 v_file 0 h ?_
    intro v_thrown_29 v_filed_30 v_drafted_31 v_bits_32 v_codec_33 v_size_34 v_words_35 v_word_36 v_letter_37 v_impact_38 v_draft_39 v_gap_40 v_file_41 h
    refine a_aload_n C (pc := 100) 0 dX9_build_100 rfl rfl ?_
    refine a_aload_n C (pc := 101) 0 dX9_build_101 rfl rfl ?_
    refine a_get C (pc := 102) 0 24 inW_X9 rfl rfl (Nat.le_of_ble_eq_true rfl) wF_X9_168 rfl rfl dX9_build_102 ?_
    refine a_put C (pc := 105) (ws1 := [(h0, oX9 d0 v_thrown_29 v_taped v_at v_documents v_terms v_latest v_drafted_31 v_drafted_31 v_place v_over v_clock v_askedTerms v_segments v_done v_postingsDone v_postingsAll v_why v_hits), ((d0 11), aI cs 5 v_bits_32), ((d0 12), aI cs 5 v_codec_33), ((d0 13), aI cs 5 v_size_34), ((d0 14), aI cs 5 v_words_35), ((d0 8), aI cs 2560 v_often), ((d0 9), aI cs 40 v_length), ((d0 7), aI cs 512 v_term), ((d0 3), aI cs 8 v_word_36), ((d0 15), aI cs 2560 v_letter_37), ((d0 16), aI cs 12800 v_impact_38), ((d0 22), aI cs 16000 v_draft_39), ((d0 27), aI cs 40 v_gap_40), ((d0 21), aI cs 16000 v_file_41)]) 0 23 inW_X9 tyX9 tyX9_ok nmX9 rfl rfl (Nat.le_of_ble_eq_true rfl) wF_X9_219 rfl rfl rfl rfl rfl (Nat.le_of_ble_eq_true rfl) dX9_build_105 rfl ?_
    refine a_aload_n C (pc := 108) 0 dX9_build_108 rfl rfl ?_
    refine a_get C (pc := 109) 0 23 inW_X9 rfl rfl (Nat.le_of_ble_eq_true rfl) wF_X9_219 rfl rfl dX9_build_109 ?_
    exact a_ireturn C (pc := 112) rfl dX9_build_112 hkm hnm ⟨_, _, _, _, _, _, _, _, _, _, _, _, _, _, rfl, rfl, h⟩
  · have h := h.2 hc
    refine a_iconst C (pc := 59) dX9_build_59 ic_0 ?_
    exact a_ireturn C (pc := 60) rfl dX9_build_60 hkm hnm ⟨_, _, _, _, _, _, _, _, _, _, _, _, _, _, rfl, rfl, h⟩
set_option maxRecDepth 100000 in
set_option maxHeartbeats 4000000 in
theorem w_X9_build_32 {Γ : XG} {Lx : Launch} {Dx : va_G} {cs : Nat → ClassId} {h0 : Nat} {d0 : Nat → Nat} {v_taped : Int32} {v_at : Int32} {v_documents : Int32} {v_terms : Int32} {v_latest : Int32} {v_place : Int32} {v_over : Int32} {v_clock : Int64} {v_askedTerms : Int32} {v_segments : Int32} {v_done : Int32} {v_postingsDone : Int32} {v_postingsAll : Int32} {v_why : Int32} {v_hits : Int32} {v_often : Nat → Int32} {v_length : Nat → Int32} {v_term : Nat → Int32} {Φ : Int32 → Int32 → Int32 → Int32 → (Nat → Int32) → (Nat → Int32) → (Nat → Int32) → (Nat → Int32) → (Nat → Int32) → (Nat → Int32) → (Nat → Int32) → (Nat → Int32) → (Nat → Int32) → (Nat → Int32) → Prop} {k n9 : Nat} (C : CX Γ Lx Dx cs cX9_build RX9 "build" 4 (some .int) 4 97 0 0 (qEC cs 0 0 [] (R_X9_build cs h0 d0 v_taped v_at v_documents v_terms v_latest v_place v_over v_clock v_askedTerms v_segments v_done v_postingsDone v_postingsAll v_why v_hits v_often v_length v_term Φ) (fun _ _ => False))) (hkm : k ≤ 0) (hnm : n9 ≤ 0) (v_thrown : Int32) (v_filed : Int32) (v_drafted : Int32) (v_bits : Nat → Int32) (v_codec : Nat → Int32) (v_size : Nat → Int32) (v_words : Nat → Int32) (v_word : Nat → Int32) (v_letter : Nat → Int32) (v_impact : Nat → Int32) (v_draft : Nat → Int32) (v_gap : Nat → Int32) (v_file : Nat → Int32) (l1 : Int32) (l2 : Int32) (s1 : Int32) (h : J_X9_build_32 v_thrown v_documents v_terms v_filed v_drafted v_bits v_codec v_size v_words v_often v_length v_term v_word v_letter v_impact v_draft v_gap v_file l1 l2 s1 Φ) : AW Γ k n9 32 [(0, .ref h0), (1, .int l1), (2, .int l2)] [.int s1, .ref h0] [(h0, oX9 d0 v_thrown v_taped v_at v_documents v_terms v_latest v_filed v_drafted v_place v_over v_clock v_askedTerms v_segments v_done v_postingsDone v_postingsAll v_why v_hits), ((d0 11), aI cs 5 v_bits), ((d0 12), aI cs 5 v_codec), ((d0 13), aI cs 5 v_size), ((d0 14), aI cs 5 v_words), ((d0 8), aI cs 2560 v_often), ((d0 9), aI cs 40 v_length), ((d0 7), aI cs 512 v_term), ((d0 3), aI cs 8 v_word), ((d0 15), aI cs 2560 v_letter), ((d0 16), aI cs 12800 v_impact), ((d0 22), aI cs 16000 v_draft), ((d0 27), aI cs 40 v_gap), ((d0 21), aI cs 16000 v_file)] := by
  unfold J_X9_build_32 at h
  refine a_iconst C (pc := 32) dX9_build_32 ic_1 ?_
  refine a_callV C (pc := 33) (av := [.int s1, .int 1]) (wr := [((d0 11), aI cs 5 v_bits), ((d0 12), aI cs 5 v_codec), ((d0 13), aI cs 5 v_size), ((d0 14), aI cs 5 v_words), ((d0 8), aI cs 2560 v_often), ((d0 9), aI cs 40 v_length), ((d0 7), aI cs 512 v_term), ((d0 3), aI cs 8 v_word), ((d0 15), aI cs 2560 v_letter), ((d0 16), aI cs 12800 v_impact), ((d0 22), aI cs 16000 v_draft), ((d0 27), aI cs 40 v_gap), ((d0 21), aI cs 16000 v_file)]) (m_X9_fails Lx Dx cs h0 d0 v_thrown v_taped v_at v_documents v_terms v_latest v_filed v_drafted v_place v_over v_clock v_askedTerms v_segments v_done v_postingsDone v_postingsAll v_why v_hits s1 1 _ h) [0] [1, 2, 3, 4, 5, 6, 7, 8, 9, 10, 11, 12, 13] rfl rfl (by decide) (by decide) (by decide) wM_X9_93 wb_X9_fails hy_X9_fails (q0 := 0) rfl rfl rfl ⟨Nat.le_of_ble_eq_true rfl, Nat.le_of_ble_eq_true rfl⟩ (Nat.le_of_ble_eq_true rfl) hkm hnm rfl dX9_build_33 (fun v w1 hw => ?_) [] rfl (fun _ _ h => h.elim)
  obtain ⟨r_2, v_thrown_3, rfl, rfl, h⟩ := hw
  refine a_ws (st1 := [.int r_2]) (ws1 := [(h0, oX9 d0 v_thrown_3 v_taped v_at v_documents v_terms v_latest v_filed v_drafted v_place v_over v_clock v_askedTerms v_segments v_done v_postingsDone v_postingsAll v_why v_hits), ((d0 11), aI cs 5 v_bits), ((d0 12), aI cs 5 v_codec), ((d0 13), aI cs 5 v_size), ((d0 14), aI cs 5 v_words), ((d0 8), aI cs 2560 v_often), ((d0 9), aI cs 40 v_length), ((d0 7), aI cs 512 v_term), ((d0 3), aI cs 8 v_word), ((d0 15), aI cs 2560 v_letter), ((d0 16), aI cs 12800 v_impact), ((d0 22), aI cs 16000 v_draft), ((d0 27), aI cs 40 v_gap), ((d0 21), aI cs 16000 v_file)]) k n9 36 [13, 0, 1, 2, 3, 4, 5, 6, 7, 8, 9, 10, 11, 12] rfl rfl rfl rfl (by decide) rfl ?_
  refine a_if_ne C (pc := 36) 59 dX9_build_36 (by decide) (fun hc => ?_) (fun hc => ?_)
  · have h := h.1 hc
    refine a_iconst C (pc := 59) dX9_build_59 ic_0 ?_
    exact a_ireturn C (pc := 60) rfl dX9_build_60 hkm hnm ⟨_, _, _, _, _, _, _, _, _, _, _, _, _, _, rfl, rfl, h⟩
  · have h := h.2 hc
    refine a_aload_n C (pc := 39) 0 dX9_build_39 rfl rfl ?_
    refine a_aload_n C (pc := 40) 0 dX9_build_40 rfl rfl ?_
    refine a_get C (pc := 41) 0 5 inW_X9 rfl rfl (Nat.le_of_ble_eq_true rfl) wF_X9_120 rfl rfl dX9_build_41 ?_
    refine a_if_ne C (pc := 44) 51 dX9_build_44 (by decide) (fun hc => ?_) (fun hc => ?_)
    · have h := h.1 hc
      refine a_iconst C (pc := 51) dX9_build_51 ic_0 ?_
      exact w_X9_build_52 C hkm hnm v_thrown_3 v_filed v_drafted v_bits v_codec v_size v_words v_word v_letter v_impact v_draft v_gap v_file l1 l2 0 h
    · have h := h.2 hc
      refine a_iconst C (pc := 47) dX9_build_47 ic_1 ?_
      refine a_goto C (pc := 48) 52 dX9_build_48 (by decide) ?_
      exact w_X9_build_52 C hkm hnm v_thrown_3 v_filed v_drafted v_bits v_codec v_size v_words v_word v_letter v_impact v_draft v_gap v_file l1 l2 1 h
set_option maxRecDepth 100000 in
set_option maxHeartbeats 4000000 in
theorem w_X9_build_27 {Γ : XG} {Lx : Launch} {Dx : va_G} {cs : Nat → ClassId} {h0 : Nat} {d0 : Nat → Nat} {v_taped : Int32} {v_at : Int32} {v_documents : Int32} {v_terms : Int32} {v_latest : Int32} {v_place : Int32} {v_over : Int32} {v_clock : Int64} {v_askedTerms : Int32} {v_segments : Int32} {v_done : Int32} {v_postingsDone : Int32} {v_postingsAll : Int32} {v_why : Int32} {v_hits : Int32} {v_often : Nat → Int32} {v_length : Nat → Int32} {v_term : Nat → Int32} {Φ : Int32 → Int32 → Int32 → Int32 → (Nat → Int32) → (Nat → Int32) → (Nat → Int32) → (Nat → Int32) → (Nat → Int32) → (Nat → Int32) → (Nat → Int32) → (Nat → Int32) → (Nat → Int32) → (Nat → Int32) → Prop} {k n9 : Nat} (C : CX Γ Lx Dx cs cX9_build RX9 "build" 4 (some .int) 4 97 0 0 (qEC cs 0 0 [] (R_X9_build cs h0 d0 v_taped v_at v_documents v_terms v_latest v_place v_over v_clock v_askedTerms v_segments v_done v_postingsDone v_postingsAll v_why v_hits v_often v_length v_term Φ) (fun _ _ => False))) (hkm : k ≤ 0) (hnm : n9 ≤ 0) (v_thrown : Int32) (v_filed : Int32) (v_drafted : Int32) (v_bits : Nat → Int32) (v_codec : Nat → Int32) (v_size : Nat → Int32) (v_words : Nat → Int32) (v_word : Nat → Int32) (v_letter : Nat → Int32) (v_impact : Nat → Int32) (v_draft : Nat → Int32) (v_gap : Nat → Int32) (v_file : Nat → Int32) (l1 : Int32) (l2 : Int32) (h : J_X9_build_27 v_thrown v_documents v_terms v_filed v_drafted v_bits v_codec v_size v_words v_often v_length v_term v_word v_letter v_impact v_draft v_gap v_file l1 l2 Φ) : AW Γ k n9 27 [(0, .ref h0), (1, .int l1), (2, .int l2)] [.ref h0] [(h0, oX9 d0 v_thrown v_taped v_at v_documents v_terms v_latest v_filed v_drafted v_place v_over v_clock v_askedTerms v_segments v_done v_postingsDone v_postingsAll v_why v_hits), ((d0 11), aI cs 5 v_bits), ((d0 12), aI cs 5 v_codec), ((d0 13), aI cs 5 v_size), ((d0 14), aI cs 5 v_words), ((d0 8), aI cs 2560 v_often), ((d0 9), aI cs 40 v_length), ((d0 7), aI cs 512 v_term), ((d0 3), aI cs 8 v_word), ((d0 15), aI cs 2560 v_letter), ((d0 16), aI cs 12800 v_impact), ((d0 22), aI cs 16000 v_draft), ((d0 27), aI cs 40 v_gap), ((d0 21), aI cs 16000 v_file)] := by
  unfold J_X9_build_27 at h
  refine a_iconst C (pc := 27) dX9_build_27 ic_1 ?_
  refine a_goto C (pc := 28) 32 dX9_build_28 (by decide) ?_
  exact w_X9_build_32 C hkm hnm v_thrown v_filed v_drafted v_bits v_codec v_size v_words v_word v_letter v_impact v_draft v_gap v_file l1 l2 1 h
set_option maxRecDepth 100000 in
set_option maxHeartbeats 4000000 in
theorem m_X9_build (Lx : Launch) (Dx : va_G) (cs : Nat → ClassId) (h0 : Nat) (d0 : Nat → Nat) (v_thrown : Int32) (v_taped : Int32) (v_at : Int32) (v_documents : Int32) (v_terms : Int32) (v_latest : Int32) (v_filed : Int32) (v_drafted : Int32) (v_place : Int32) (v_over : Int32) (v_clock : Int64) (v_askedTerms : Int32) (v_segments : Int32) (v_done : Int32) (v_postingsDone : Int32) (v_postingsAll : Int32) (v_why : Int32) (v_hits : Int32) (v_bits : Nat → Int32) (v_codec : Nat → Int32) (v_size : Nat → Int32) (v_words : Nat → Int32) (v_often : Nat → Int32) (v_length : Nat → Int32) (v_term : Nat → Int32) (v_word : Nat → Int32) (v_letter : Nat → Int32) (v_impact : Nat → Int32) (v_draft : Nat → Int32) (v_gap : Nat → Int32) (v_file : Nat → Int32) (l1 : Int32) (l2 : Int32) (Φ : Int32 → Int32 → Int32 → Int32 → (Nat → Int32) → (Nat → Int32) → (Nat → Int32) → (Nat → Int32) → (Nat → Int32) → (Nat → Int32) → (Nat → Int32) → (Nat → Int32) → (Nat → Int32) → (Nat → Int32) → Prop) (h : P_X9_build v_thrown v_documents v_terms v_filed v_drafted v_bits v_codec v_size v_words v_often v_length v_term v_word v_letter v_impact v_draft v_gap v_file l1 l2 Φ) : XMet Lx Dx cs yX9_build cX9_build 4 (some .int) 4 97 0 0 [.ref h0, .int l1, .int l2] [(h0, oX9 d0 v_thrown v_taped v_at v_documents v_terms v_latest v_filed v_drafted v_place v_over v_clock v_askedTerms v_segments v_done v_postingsDone v_postingsAll v_why v_hits), ((d0 11), aI cs 5 v_bits), ((d0 12), aI cs 5 v_codec), ((d0 13), aI cs 5 v_size), ((d0 14), aI cs 5 v_words), ((d0 8), aI cs 2560 v_often), ((d0 9), aI cs 40 v_length), ((d0 7), aI cs 512 v_term), ((d0 3), aI cs 8 v_word), ((d0 15), aI cs 2560 v_letter), ((d0 16), aI cs 12800 v_impact), ((d0 22), aI cs 16000 v_draft), ((d0 27), aI cs 40 v_gap), ((d0 21), aI cs 16000 v_file)] (R_X9_build cs h0 d0 v_taped v_at v_documents v_terms v_latest v_place v_over v_clock v_askedTerms v_segments v_done v_postingsDone v_postingsAll v_why v_hits v_often v_length v_term Φ) (fun _ _ => False) := by
  refine XMet.of (own := RX9) (nm := "build") (by decide) rfl rfl (Nat.le_of_ble_eq_true rfl) (fun Γ C => ?_)
  unfold P_X9_build at h
  refine a_aload_n C (pc := 0) 0 dX9_build_0 rfl rfl ?_
  refine a_iload_n C (pc := 1) 1 dX9_build_1 rfl rfl ?_
  refine a_i2l C (pc := 2) dX9_build_2 ?_
  refine a_ldc2 C (pc := 3) wC_X9_211 dX9_build_3 ?_
  refine a_ldc2 C (pc := 6) wC_X9_87 dX9_build_6 ?_
  refine a_callS C (pc := 9) (av := [.long ((l1 : Int32).toInt64), .long 2, .long 8]) (wr := [(h0, oX9 d0 v_thrown v_taped v_at v_documents v_terms v_latest v_filed v_drafted v_place v_over v_clock v_askedTerms v_segments v_done v_postingsDone v_postingsAll v_why v_hits), ((d0 11), aI cs 5 v_bits), ((d0 12), aI cs 5 v_codec), ((d0 13), aI cs 5 v_size), ((d0 14), aI cs 5 v_words), ((d0 8), aI cs 2560 v_often), ((d0 9), aI cs 40 v_length), ((d0 7), aI cs 512 v_term), ((d0 3), aI cs 8 v_word), ((d0 15), aI cs 2560 v_letter), ((d0 16), aI cs 12800 v_impact), ((d0 22), aI cs 16000 v_draft), ((d0 27), aI cs 40 v_gap), ((d0 21), aI cs 16000 v_file)]) (m_X9_within Lx Dx cs ((l1 : Int32).toInt64) 2 8 _ h) [] [0, 1, 2, 3, 4, 5, 6, 7, 8, 9, 10, 11, 12, 13] rfl rfl (by decide) (by decide) (by decide) wM_X9_89 wb_X9_within hy_X9_within rfl ⟨Nat.le_of_ble_eq_true rfl, Nat.le_of_ble_eq_true rfl⟩ (Nat.le_of_ble_eq_true rfl) (Nat.le_of_ble_eq_true rfl) (Nat.le_of_ble_eq_true rfl) rfl dX9_build_9 (fun v w1 hw => ?_) [] rfl (fun _ _ h => h.elim)
  obtain ⟨r_1, rfl, rfl, h⟩ := hw
  refine a_ws (st1 := [.int r_1, .ref h0]) (ws1 := [(h0, oX9 d0 v_thrown v_taped v_at v_documents v_terms v_latest v_filed v_drafted v_place v_over v_clock v_askedTerms v_segments v_done v_postingsDone v_postingsAll v_why v_hits), ((d0 11), aI cs 5 v_bits), ((d0 12), aI cs 5 v_codec), ((d0 13), aI cs 5 v_size), ((d0 14), aI cs 5 v_words), ((d0 8), aI cs 2560 v_often), ((d0 9), aI cs 40 v_length), ((d0 7), aI cs 512 v_term), ((d0 3), aI cs 8 v_word), ((d0 15), aI cs 2560 v_letter), ((d0 16), aI cs 12800 v_impact), ((d0 22), aI cs 16000 v_draft), ((d0 27), aI cs 40 v_gap), ((d0 21), aI cs 16000 v_file)]) 0 0 12 [0, 1, 2, 3, 4, 5, 6, 7, 8, 9, 10, 11, 12, 13] rfl rfl rfl rfl (by decide) rfl ?_
  refine a_if_eq C (pc := 12) 27 dX9_build_12 (by decide) (fun hc => ?_) (fun hc => ?_)
  · have h := h.1 hc
    exact w_X9_build_27 C (Nat.le_of_ble_eq_true rfl) (Nat.le_of_ble_eq_true rfl) v_thrown v_filed v_drafted v_bits v_codec v_size v_words v_word v_letter v_impact v_draft v_gap v_file l1 l2 h
  · have h := h.2 hc
    refine a_iload_n C (pc := 15) 2 dX9_build_15 rfl rfl ?_
    refine a_i2l C (pc := 16) dX9_build_16 ?_
    refine a_lconst C (pc := 17) (v := 0) dX9_build_17 rfl ?_
    refine a_ldc2 C (pc := 18) wC_X9_211 dX9_build_18 ?_
    refine a_callS C (pc := 21) (av := [.long ((l2 : Int32).toInt64), .long 0, .long 2]) (wr := [(h0, oX9 d0 v_thrown v_taped v_at v_documents v_terms v_latest v_filed v_drafted v_place v_over v_clock v_askedTerms v_segments v_done v_postingsDone v_postingsAll v_why v_hits), ((d0 11), aI cs 5 v_bits), ((d0 12), aI cs 5 v_codec), ((d0 13), aI cs 5 v_size), ((d0 14), aI cs 5 v_words), ((d0 8), aI cs 2560 v_often), ((d0 9), aI cs 40 v_length), ((d0 7), aI cs 512 v_term), ((d0 3), aI cs 8 v_word), ((d0 15), aI cs 2560 v_letter), ((d0 16), aI cs 12800 v_impact), ((d0 22), aI cs 16000 v_draft), ((d0 27), aI cs 40 v_gap), ((d0 21), aI cs 16000 v_file)]) (m_X9_within Lx Dx cs ((l2 : Int32).toInt64) 0 2 _ h) [] [0, 1, 2, 3, 4, 5, 6, 7, 8, 9, 10, 11, 12, 13] rfl rfl (by decide) (by decide) (by decide) wM_X9_89 wb_X9_within hy_X9_within rfl ⟨Nat.le_of_ble_eq_true rfl, Nat.le_of_ble_eq_true rfl⟩ (Nat.le_of_ble_eq_true rfl) (Nat.le_of_ble_eq_true rfl) (Nat.le_of_ble_eq_true rfl) rfl dX9_build_21 (fun v w1 hw => ?_) [] rfl (fun _ _ h => h.elim)
    obtain ⟨r_42, rfl, rfl, h⟩ := hw
    refine a_ws (st1 := [.int r_42, .ref h0]) (ws1 := [(h0, oX9 d0 v_thrown v_taped v_at v_documents v_terms v_latest v_filed v_drafted v_place v_over v_clock v_askedTerms v_segments v_done v_postingsDone v_postingsAll v_why v_hits), ((d0 11), aI cs 5 v_bits), ((d0 12), aI cs 5 v_codec), ((d0 13), aI cs 5 v_size), ((d0 14), aI cs 5 v_words), ((d0 8), aI cs 2560 v_often), ((d0 9), aI cs 40 v_length), ((d0 7), aI cs 512 v_term), ((d0 3), aI cs 8 v_word), ((d0 15), aI cs 2560 v_letter), ((d0 16), aI cs 12800 v_impact), ((d0 22), aI cs 16000 v_draft), ((d0 27), aI cs 40 v_gap), ((d0 21), aI cs 16000 v_file)]) 0 0 24 [0, 1, 2, 3, 4, 5, 6, 7, 8, 9, 10, 11, 12, 13] rfl rfl rfl rfl (by decide) rfl ?_
    refine a_if_ne C (pc := 24) 31 dX9_build_24 (by decide) (fun hc => ?_) (fun hc => ?_)
    · have h := h.1 hc
      refine a_iconst C (pc := 31) dX9_build_31 ic_0 ?_
      exact w_X9_build_32 C (Nat.le_of_ble_eq_true rfl) (Nat.le_of_ble_eq_true rfl) v_thrown v_filed v_drafted v_bits v_codec v_size v_words v_word v_letter v_impact v_draft v_gap v_file l1 l2 0 h
    · have h := h.2 hc
      exact w_X9_build_27 C (Nat.le_of_ble_eq_true rfl) (Nat.le_of_ble_eq_true rfl) v_thrown v_filed v_drafted v_bits v_codec v_size v_words v_word v_letter v_impact v_draft v_gap v_file l1 l2 h
set_option maxRecDepth 100000 in
set_option maxHeartbeats 4000000 in
theorem w_X9_file_36 {Γ : XG} {Lx : Launch} {Dx : va_G} {cs : Nat → ClassId} {h0 : Nat} {d0 : Nat → Nat} {v_taped : Int32} {v_at : Int32} {v_documents : Int32} {v_terms : Int32} {v_latest : Int32} {v_filed : Int32} {v_drafted : Int32} {v_place : Int32} {v_over : Int32} {v_clock : Int64} {v_askedTerms : Int32} {v_segments : Int32} {v_done : Int32} {v_postingsDone : Int32} {v_postingsAll : Int32} {v_why : Int32} {v_hits : Int32} {v_file : Nat → Int32} {K_79 : Int32 → Int64 → Prop} {Φ : Int64 → Int32 → Prop} {k n9 : Nat} (C : CX Γ Lx Dx cs cX9_file RX9 "file" 5 (some .long) 1 25 0 0 (qEC cs 0 0 [] (R_X9_file cs h0 d0 v_taped v_at v_documents v_terms v_latest v_filed v_drafted v_place v_over v_clock v_askedTerms v_segments v_done v_postingsDone v_postingsAll v_why v_hits v_file Φ) (fun _ _ => False))) (hkm : k ≤ 0) (hnm : n9 ≤ 0) : ∀ n : Nat, ∀ (v_thrown : Int32) (l1 : Int32) (l2 : Int64) (l4 : Int32), L_X9_file_36 n v_thrown v_filed v_file l1 l2 l4 K_79 Φ → (∀ (v_thrown_4 : Int32) (l2_5 : Int64), K_79 v_thrown_4 l2_5 → AW Γ k n9 79 [(2, .long l2_5)] [] [(h0, oX9 d0 v_thrown_4 v_taped v_at v_documents v_terms v_latest v_filed v_drafted v_place v_over v_clock v_askedTerms v_segments v_done v_postingsDone v_postingsAll v_why v_hits), ((d0 21), aI cs 16000 v_file)]) → AW Γ k n9 36 [(0, .ref h0), (1, .int l1), (2, .long l2), (4, .int l4)] [] [(h0, oX9 d0 v_thrown v_taped v_at v_documents v_terms v_latest v_filed v_drafted v_place v_over v_clock v_askedTerms v_segments v_done v_postingsDone v_postingsAll v_why v_hits), ((d0 21), aI cs 16000 v_file)] := by
  intro n
  induction n with
  | zero =>
    intro v_thrown l1 l2 l4 h
    exact False.elim h
  | succ n ih =>
    intro v_thrown l1 l2 l4 h hK_79
    rw [L_X9_file_36] at h
    refine a_iload C (pc := 36) 3 dX9_file_36 rfl ?_
    refine a_bipush C (pc := 38) dX9_file_38 bp_8 ?_
    refine a_icmp_ge C (pc := 40) 79 dX9_file_40 (by decide) (fun hc => ?_) (fun hc => ?_)
    · have h := h.1 hc
      refine a_lv (lv1 := [(2, .long l2)]) [2] rfl ?_
      exact hK_79 v_thrown l2 h
    · have h := h.2 hc
      refine a_iload_n C (pc := 43) 1 dX9_file_43 rfl rfl ?_
      refine a_iload C (pc := 44) 3 dX9_file_44 rfl ?_
      refine a_iadd C (pc := 46) dX9_file_46 ?_
      refine a_aload_n C (pc := 47) 0 dX9_file_47 rfl rfl ?_
      refine a_get C (pc := 48) 0 23 inW_X9 rfl rfl (Nat.le_of_ble_eq_true rfl) wF_X9_219 rfl rfl dX9_file_48 ?_
      refine a_icmp_ge C (pc := 51) 79 dX9_file_51 (by decide) (fun hc => ?_) (fun hc => ?_)
      · have h := h.1 hc
        refine a_lv (lv1 := [(2, .long l2)]) [2] rfl ?_
        exact hK_79 v_thrown l2 h
      · have h := h.2 hc
        refine a_lload_n C (pc := 54) 2 dX9_file_54 rfl rfl ?_
        refine a_aload_n C (pc := 55) 0 dX9_file_55 rfl rfl ?_
        refine a_get C (pc := 56) 0 21 inW_X9 rfl rfl (Nat.le_of_ble_eq_true rfl) wF_X9_56 rfl rfl dX9_file_56 ?_
        refine a_iload_n C (pc := 59) 1 dX9_file_59 rfl rfl ?_
        refine a_iload C (pc := 60) 3 dX9_file_60 rfl ?_
        refine a_iadd C (pc := 62) dX9_file_62 ?_
        refine a_iald C (pc := 63) 1 rfl h.1 dX9_file_63 ?_
        replace h := h.2
        refine a_i2l C (pc := 64) dX9_file_64 ?_
        refine a_bipush C (pc := 65) dX9_file_65 bp_8 ?_
        refine a_iload C (pc := 67) 3 dX9_file_67 rfl ?_
        refine a_imul C (pc := 69) dX9_file_69 ?_
        refine a_lshl C (pc := 70) dX9_file_70 ?_
        refine a_lor C (pc := 71) dX9_file_71 ?_
        refine a_lstore_n C (pc := 72) (lv1 := [(0, .ref h0), (1, .int l1), (2, .long (l2 ||| ((((v_file (l1 + l4 : Int32).toNatClampNeg) : Int32).toInt64) <<< ((8 * l4).toInt64 &&& 63)))), (4, .int l4)]) [1, 2, 0, 3] dX9_file_72 rfl (by decide) rfl ?_
        refine a_iinc C (pc := 73) (lv1 := [(0, .ref h0), (1, .int l1), (2, .long (l2 ||| ((((v_file (l1 + l4 : Int32).toNatClampNeg) : Int32).toInt64) <<< ((8 * l4).toInt64 &&& 63)))), (4, .int (l4 + 1))]) 3 [1, 2, 3, 0] dX9_file_73 rfl (congrArg (fun z => l4 + z) ic_1) (by decide) rfl ?_
        refine a_goto C (pc := 76) 36 dX9_file_76 (by decide) ?_
        exact ih v_thrown l1 (l2 ||| ((((v_file (l1 + l4 : Int32).toNatClampNeg) : Int32).toInt64) <<< ((8 * l4).toInt64 &&& 63))) (l4 + 1) h hK_79
set_option maxRecDepth 100000 in
set_option maxHeartbeats 4000000 in
theorem m_X9_file (Lx : Launch) (Dx : va_G) (cs : Nat → ClassId) (h0 : Nat) (d0 : Nat → Nat) (v_thrown : Int32) (v_taped : Int32) (v_at : Int32) (v_documents : Int32) (v_terms : Int32) (v_latest : Int32) (v_filed : Int32) (v_drafted : Int32) (v_place : Int32) (v_over : Int32) (v_clock : Int64) (v_askedTerms : Int32) (v_segments : Int32) (v_done : Int32) (v_postingsDone : Int32) (v_postingsAll : Int32) (v_why : Int32) (v_hits : Int32) (v_file : Nat → Int32) (l1 : Int32) (Φ : Int64 → Int32 → Prop) (h : P_X9_file v_thrown v_filed v_file l1 Φ) : XMet Lx Dx cs yX9_file cX9_file 5 (some .long) 1 25 0 0 [.ref h0, .int l1] [(h0, oX9 d0 v_thrown v_taped v_at v_documents v_terms v_latest v_filed v_drafted v_place v_over v_clock v_askedTerms v_segments v_done v_postingsDone v_postingsAll v_why v_hits), ((d0 21), aI cs 16000 v_file)] (R_X9_file cs h0 d0 v_taped v_at v_documents v_terms v_latest v_filed v_drafted v_place v_over v_clock v_askedTerms v_segments v_done v_postingsDone v_postingsAll v_why v_hits v_file Φ) (fun _ _ => False) := by
  refine XMet.of (own := RX9) (nm := "file") (by decide) rfl rfl (Nat.le_of_ble_eq_true rfl) (fun Γ C => ?_)
  unfold P_X9_file at h
  refine a_aload_n C (pc := 0) 0 dX9_file_0 rfl rfl ?_
  refine a_iload_n C (pc := 1) 1 dX9_file_1 rfl rfl ?_
  refine a_i2l C (pc := 2) dX9_file_2 ?_
  refine a_lconst C (pc := 3) (v := 0) dX9_file_3 rfl ?_
  refine a_aload_n C (pc := 4) 0 dX9_file_4 rfl rfl ?_
  refine a_get C (pc := 5) 0 23 inW_X9 rfl rfl (Nat.le_of_ble_eq_true rfl) wF_X9_219 rfl rfl dX9_file_5 ?_
  refine a_iconst C (pc := 8) dX9_file_8 ic_1 ?_
  refine a_isub C (pc := 9) dX9_file_9 ?_
  refine a_i2l C (pc := 10) dX9_file_10 ?_
  refine a_callS C (pc := 11) (av := [.long ((l1 : Int32).toInt64), .long 0, .long (((v_filed - 1) : Int32).toInt64)]) (wr := [(h0, oX9 d0 v_thrown v_taped v_at v_documents v_terms v_latest v_filed v_drafted v_place v_over v_clock v_askedTerms v_segments v_done v_postingsDone v_postingsAll v_why v_hits), ((d0 21), aI cs 16000 v_file)]) (m_X9_within Lx Dx cs ((l1 : Int32).toInt64) 0 (((v_filed - 1) : Int32).toInt64) _ h) [] [0, 1] rfl rfl (by decide) (by decide) (by decide) wM_X9_89 wb_X9_within hy_X9_within rfl ⟨Nat.le_of_ble_eq_true rfl, Nat.le_of_ble_eq_true rfl⟩ (Nat.le_of_ble_eq_true rfl) (Nat.le_of_ble_eq_true rfl) (Nat.le_of_ble_eq_true rfl) rfl dX9_file_11 (fun v w1 hw => ?_) [] rfl (fun _ _ h => h.elim)
  obtain ⟨r_1, rfl, rfl, h⟩ := hw
  refine a_ws (st1 := [.int r_1, .ref h0]) (ws1 := [(h0, oX9 d0 v_thrown v_taped v_at v_documents v_terms v_latest v_filed v_drafted v_place v_over v_clock v_askedTerms v_segments v_done v_postingsDone v_postingsAll v_why v_hits), ((d0 21), aI cs 16000 v_file)]) 0 0 14 [0, 1] rfl rfl rfl rfl (by decide) rfl ?_
  refine a_if_ne C (pc := 14) 21 dX9_file_14 (by decide) (fun hc => ?_) (fun hc => ?_)
  · have h := h.1 hc
    refine a_iconst C (pc := 21) dX9_file_21 ic_0 ?_
    refine a_iconst C (pc := 22) dX9_file_22 ic_1 ?_
    refine a_callV C (pc := 23) (av := [.int 0, .int 1]) (wr := [((d0 21), aI cs 16000 v_file)]) (m_X9_fails Lx Dx cs h0 d0 v_thrown v_taped v_at v_documents v_terms v_latest v_filed v_drafted v_place v_over v_clock v_askedTerms v_segments v_done v_postingsDone v_postingsAll v_why v_hits 0 1 _ h) [0] [1] rfl rfl (by decide) (by decide) (by decide) wM_X9_93 wb_X9_fails hy_X9_fails (q0 := 0) rfl rfl rfl ⟨Nat.le_of_ble_eq_true rfl, Nat.le_of_ble_eq_true rfl⟩ (Nat.le_of_ble_eq_true rfl) (Nat.le_of_ble_eq_true rfl) (Nat.le_of_ble_eq_true rfl) rfl dX9_file_23 (fun v w1 hw => ?_) [] rfl (fun _ _ h => h.elim)
    obtain ⟨r_2, v_thrown_3, rfl, rfl, h⟩ := hw
    refine a_ws (st1 := [.int r_2]) (ws1 := [(h0, oX9 d0 v_thrown_3 v_taped v_at v_documents v_terms v_latest v_filed v_drafted v_place v_over v_clock v_askedTerms v_segments v_done v_postingsDone v_postingsAll v_why v_hits), ((d0 21), aI cs 16000 v_file)]) 0 0 26 [1, 0] rfl rfl rfl rfl (by decide) rfl ?_
    refine a_if_eq C (pc := 26) 31 dX9_file_26 (by decide) (fun hc => ?_) (fun hc => ?_)
    · have h := h.1 hc
      refine a_lconst C (pc := 31) (v := 0) dX9_file_31 rfl ?_
      refine a_lstore_n C (pc := 32) (lv1 := [(0, .ref h0), (1, .int l1), (2, .long 0)]) [1, 2, 0] dX9_file_32 rfl (by decide) rfl ?_
      refine a_iconst C (pc := 33) dX9_file_33 ic_0 ?_
      refine a_istore C (pc := 34) (lv1 := [(0, .ref h0), (1, .int l1), (2, .long 0), (4, .int 0)]) [1, 2, 3, 0] dX9_file_34 (by decide) rfl ?_
      obtain ⟨n0, h⟩ := h
      refine w_X9_file_36 C (Nat.le_of_ble_eq_true rfl) (Nat.le_of_ble_eq_true rfl) n0 v_thrown_3 l1 0 0 h ?_
      intro v_thrown_6 l2_7 h
      refine a_lload_n C (pc := 79) 0 dX9_file_79 rfl rfl ?_
      exact a_lreturn C (pc := 80) rfl dX9_file_80 (Nat.le_of_ble_eq_true rfl) (Nat.le_of_ble_eq_true rfl) ⟨_, _, rfl, rfl, h⟩
    · have h := h.2 hc
      refine a_lconst C (pc := 29) (v := 0) dX9_file_29 rfl ?_
      exact a_lreturn C (pc := 30) rfl dX9_file_30 (Nat.le_of_ble_eq_true rfl) (Nat.le_of_ble_eq_true rfl) ⟨_, _, rfl, rfl, h⟩
  · have h := h.2 hc
    refine a_iconst C (pc := 17) dX9_file_17 ic_1 ?_
    refine a_goto C (pc := 18) 22 dX9_file_18 (by decide) ?_
    refine a_iconst C (pc := 22) dX9_file_22 ic_1 ?_
    refine a_callV C (pc := 23) (av := [.int 1, .int 1]) (wr := [((d0 21), aI cs 16000 v_file)]) (m_X9_fails Lx Dx cs h0 d0 v_thrown v_taped v_at v_documents v_terms v_latest v_filed v_drafted v_place v_over v_clock v_askedTerms v_segments v_done v_postingsDone v_postingsAll v_why v_hits 1 1 _ h) [0] [1] rfl rfl (by decide) (by decide) (by decide) wM_X9_93 wb_X9_fails hy_X9_fails (q0 := 0) rfl rfl rfl ⟨Nat.le_of_ble_eq_true rfl, Nat.le_of_ble_eq_true rfl⟩ (Nat.le_of_ble_eq_true rfl) (Nat.le_of_ble_eq_true rfl) (Nat.le_of_ble_eq_true rfl) rfl dX9_file_23 (fun v w1 hw => ?_) [] rfl (fun _ _ h => h.elim)
    obtain ⟨r_8, v_thrown_9, rfl, rfl, h⟩ := hw
    refine a_ws (st1 := [.int r_8]) (ws1 := [(h0, oX9 d0 v_thrown_9 v_taped v_at v_documents v_terms v_latest v_filed v_drafted v_place v_over v_clock v_askedTerms v_segments v_done v_postingsDone v_postingsAll v_why v_hits), ((d0 21), aI cs 16000 v_file)]) 0 0 26 [1, 0] rfl rfl rfl rfl (by decide) rfl ?_
    refine a_if_eq C (pc := 26) 31 dX9_file_26 (by decide) (fun hc => ?_) (fun hc => ?_)
    · have h := h.1 hc
      refine a_lconst C (pc := 31) (v := 0) dX9_file_31 rfl ?_
      refine a_lstore_n C (pc := 32) (lv1 := [(0, .ref h0), (1, .int l1), (2, .long 0)]) [1, 2, 0] dX9_file_32 rfl (by decide) rfl ?_
      refine a_iconst C (pc := 33) dX9_file_33 ic_0 ?_
      refine a_istore C (pc := 34) (lv1 := [(0, .ref h0), (1, .int l1), (2, .long 0), (4, .int 0)]) [1, 2, 3, 0] dX9_file_34 (by decide) rfl ?_
      obtain ⟨n0, h⟩ := h
      refine w_X9_file_36 C (Nat.le_of_ble_eq_true rfl) (Nat.le_of_ble_eq_true rfl) n0 v_thrown_9 l1 0 0 h ?_
      intro v_thrown_10 l2_11 h
      refine a_lload_n C (pc := 79) 0 dX9_file_79 rfl rfl ?_
      exact a_lreturn C (pc := 80) rfl dX9_file_80 (Nat.le_of_ble_eq_true rfl) (Nat.le_of_ble_eq_true rfl) ⟨_, _, rfl, rfl, h⟩
    · have h := h.2 hc
      refine a_lconst C (pc := 29) (v := 0) dX9_file_29 rfl ?_
      exact a_lreturn C (pc := 30) rfl dX9_file_30 (Nat.le_of_ble_eq_true rfl) (Nat.le_of_ble_eq_true rfl) ⟨_, _, rfl, rfl, h⟩
set_option maxRecDepth 100000 in
set_option maxHeartbeats 4000000 in
theorem w_X9_spoil_22 {Γ : XG} {Lx : Launch} {Dx : va_G} {cs : Nat → ClassId} {h0 : Nat} {d0 : Nat → Nat} {v_taped : Int32} {v_at : Int32} {v_documents : Int32} {v_terms : Int32} {v_latest : Int32} {v_filed : Int32} {v_drafted : Int32} {v_place : Int32} {v_over : Int32} {v_clock : Int64} {v_askedTerms : Int32} {v_segments : Int32} {v_done : Int32} {v_postingsDone : Int32} {v_postingsAll : Int32} {v_why : Int32} {v_hits : Int32} {Φ : Int32 → Int32 → (Nat → Int32) → Prop} {k n9 : Nat} (C : CX Γ Lx Dx cs cX9_spoil RX9 "spoil" 4 (some .int) 1 25 0 0 (qEC cs 0 0 [] (R_X9_spoil cs h0 d0 v_taped v_at v_documents v_terms v_latest v_filed v_drafted v_place v_over v_clock v_askedTerms v_segments v_done v_postingsDone v_postingsAll v_why v_hits Φ) (fun _ _ => False))) (hkm : k ≤ 0) (hnm : n9 ≤ 0) (v_thrown : Int32) (v_file : Nat → Int32) (l1 : Int32) (l2 : Int32) (s1 : Int32) (h : J_X9_spoil_22 v_thrown v_filed v_file l1 l2 s1 Φ) : AW Γ k n9 22 [(0, .ref h0), (1, .int l1), (2, .int l2)] [.int s1, .ref h0] [(h0, oX9 d0 v_thrown v_taped v_at v_documents v_terms v_latest v_filed v_drafted v_place v_over v_clock v_askedTerms v_segments v_done v_postingsDone v_postingsAll v_why v_hits), ((d0 21), aI cs 16000 v_file)] := by
  unfold J_X9_spoil_22 at h
  refine a_iconst C (pc := 22) dX9_spoil_22 ic_1 ?_
  refine a_callV C (pc := 23) (av := [.int s1, .int 1]) (wr := [((d0 21), aI cs 16000 v_file)]) (m_X9_fails Lx Dx cs h0 d0 v_thrown v_taped v_at v_documents v_terms v_latest v_filed v_drafted v_place v_over v_clock v_askedTerms v_segments v_done v_postingsDone v_postingsAll v_why v_hits s1 1 _ h) [0] [1] rfl rfl (by decide) (by decide) (by decide) wM_X9_93 wb_X9_fails hy_X9_fails (q0 := 0) rfl rfl rfl ⟨Nat.le_of_ble_eq_true rfl, Nat.le_of_ble_eq_true rfl⟩ (Nat.le_of_ble_eq_true rfl) hkm hnm rfl dX9_spoil_23 (fun v w1 hw => ?_) [] rfl (fun _ _ h => h.elim)
  obtain ⟨r_2, v_thrown_3, rfl, rfl, h⟩ := hw
  refine a_ws (st1 := [.int r_2]) (ws1 := [(h0, oX9 d0 v_thrown_3 v_taped v_at v_documents v_terms v_latest v_filed v_drafted v_place v_over v_clock v_askedTerms v_segments v_done v_postingsDone v_postingsAll v_why v_hits), ((d0 21), aI cs 16000 v_file)]) k n9 26 [1, 0] rfl rfl rfl rfl (by decide) rfl ?_
  refine a_if_eq C (pc := 26) 31 dX9_spoil_26 (by decide) (fun hc => ?_) (fun hc => ?_)
  · have h := h.1 hc
    refine a_aload_n C (pc := 31) 0 dX9_spoil_31 rfl rfl ?_
    refine a_get C (pc := 32) 0 21 inW_X9 rfl rfl (Nat.le_of_ble_eq_true rfl) wF_X9_56 rfl rfl dX9_spoil_32 ?_
    refine a_iload_n C (pc := 35) 1 dX9_spoil_35 rfl rfl ?_
    refine a_iald C (pc := 36) 1 rfl h.1 dX9_spoil_36 ?_
    replace h := h.2
    refine a_istore_n C (pc := 37) (lv1 := [(0, .ref h0), (1, .int l1), (2, .int l2), (3, .int (v_file (l1 : Int32).toNatClampNeg))]) [1, 2, 3, 0] dX9_spoil_37 rfl (by decide) rfl ?_
    refine a_aload_n C (pc := 38) 0 dX9_spoil_38 rfl rfl ?_
    refine a_get C (pc := 39) 0 21 inW_X9 rfl rfl (Nat.le_of_ble_eq_true rfl) wF_X9_56 rfl rfl dX9_spoil_39 ?_
    refine a_iload_n C (pc := 42) 1 dX9_spoil_42 rfl rfl ?_
    refine a_iload_n C (pc := 43) 2 dX9_spoil_43 rfl rfl ?_
    refine a_sipush C (pc := 44) dX9_spoil_44 sp_255 ?_
    refine a_iand C (pc := 47) dX9_spoil_47 ?_
    refine a_iast C (pc := 48) (ws1 := [(h0, oX9 d0 v_thrown_3 v_taped v_at v_documents v_terms v_latest v_filed v_drafted v_place v_over v_clock v_askedTerms v_segments v_done v_postingsDone v_postingsAll v_why v_hits), ((d0 21), aI cs 16000 (upd v_file (l1 : Int32).toNatClampNeg (l2 &&& 255)))]) 1 rfl h.1 dX9_spoil_48 rfl ?_
    replace h := h.2
    refine a_iload_n C (pc := 49) 3 dX9_spoil_49 rfl rfl ?_
    exact a_ireturn C (pc := 50) rfl dX9_spoil_50 hkm hnm ⟨_, _, _, rfl, rfl, h⟩
  · have h := h.2 hc
    refine a_iconst C (pc := 29) dX9_spoil_29 ic_0 ?_
    exact a_ireturn C (pc := 30) rfl dX9_spoil_30 hkm hnm ⟨_, _, _, rfl, rfl, h⟩
set_option maxRecDepth 100000 in
set_option maxHeartbeats 4000000 in
theorem m_X9_spoil (Lx : Launch) (Dx : va_G) (cs : Nat → ClassId) (h0 : Nat) (d0 : Nat → Nat) (v_thrown : Int32) (v_taped : Int32) (v_at : Int32) (v_documents : Int32) (v_terms : Int32) (v_latest : Int32) (v_filed : Int32) (v_drafted : Int32) (v_place : Int32) (v_over : Int32) (v_clock : Int64) (v_askedTerms : Int32) (v_segments : Int32) (v_done : Int32) (v_postingsDone : Int32) (v_postingsAll : Int32) (v_why : Int32) (v_hits : Int32) (v_file : Nat → Int32) (l1 : Int32) (l2 : Int32) (Φ : Int32 → Int32 → (Nat → Int32) → Prop) (h : P_X9_spoil v_thrown v_filed v_file l1 l2 Φ) : XMet Lx Dx cs yX9_spoil cX9_spoil 4 (some .int) 1 25 0 0 [.ref h0, .int l1, .int l2] [(h0, oX9 d0 v_thrown v_taped v_at v_documents v_terms v_latest v_filed v_drafted v_place v_over v_clock v_askedTerms v_segments v_done v_postingsDone v_postingsAll v_why v_hits), ((d0 21), aI cs 16000 v_file)] (R_X9_spoil cs h0 d0 v_taped v_at v_documents v_terms v_latest v_filed v_drafted v_place v_over v_clock v_askedTerms v_segments v_done v_postingsDone v_postingsAll v_why v_hits Φ) (fun _ _ => False) := by
  refine XMet.of (own := RX9) (nm := "spoil") (by decide) rfl rfl (Nat.le_of_ble_eq_true rfl) (fun Γ C => ?_)
  unfold P_X9_spoil at h
  refine a_aload_n C (pc := 0) 0 dX9_spoil_0 rfl rfl ?_
  refine a_iload_n C (pc := 1) 1 dX9_spoil_1 rfl rfl ?_
  refine a_i2l C (pc := 2) dX9_spoil_2 ?_
  refine a_lconst C (pc := 3) (v := 0) dX9_spoil_3 rfl ?_
  refine a_aload_n C (pc := 4) 0 dX9_spoil_4 rfl rfl ?_
  refine a_get C (pc := 5) 0 23 inW_X9 rfl rfl (Nat.le_of_ble_eq_true rfl) wF_X9_219 rfl rfl dX9_spoil_5 ?_
  refine a_iconst C (pc := 8) dX9_spoil_8 ic_1 ?_
  refine a_isub C (pc := 9) dX9_spoil_9 ?_
  refine a_i2l C (pc := 10) dX9_spoil_10 ?_
  refine a_callS C (pc := 11) (av := [.long ((l1 : Int32).toInt64), .long 0, .long (((v_filed - 1) : Int32).toInt64)]) (wr := [(h0, oX9 d0 v_thrown v_taped v_at v_documents v_terms v_latest v_filed v_drafted v_place v_over v_clock v_askedTerms v_segments v_done v_postingsDone v_postingsAll v_why v_hits), ((d0 21), aI cs 16000 v_file)]) (m_X9_within Lx Dx cs ((l1 : Int32).toInt64) 0 (((v_filed - 1) : Int32).toInt64) _ h) [] [0, 1] rfl rfl (by decide) (by decide) (by decide) wM_X9_89 wb_X9_within hy_X9_within rfl ⟨Nat.le_of_ble_eq_true rfl, Nat.le_of_ble_eq_true rfl⟩ (Nat.le_of_ble_eq_true rfl) (Nat.le_of_ble_eq_true rfl) (Nat.le_of_ble_eq_true rfl) rfl dX9_spoil_11 (fun v w1 hw => ?_) [] rfl (fun _ _ h => h.elim)
  obtain ⟨r_1, rfl, rfl, h⟩ := hw
  refine a_ws (st1 := [.int r_1, .ref h0]) (ws1 := [(h0, oX9 d0 v_thrown v_taped v_at v_documents v_terms v_latest v_filed v_drafted v_place v_over v_clock v_askedTerms v_segments v_done v_postingsDone v_postingsAll v_why v_hits), ((d0 21), aI cs 16000 v_file)]) 0 0 14 [0, 1] rfl rfl rfl rfl (by decide) rfl ?_
  refine a_if_ne C (pc := 14) 21 dX9_spoil_14 (by decide) (fun hc => ?_) (fun hc => ?_)
  · have h := h.1 hc
    refine a_iconst C (pc := 21) dX9_spoil_21 ic_0 ?_
    exact w_X9_spoil_22 C (Nat.le_of_ble_eq_true rfl) (Nat.le_of_ble_eq_true rfl) v_thrown v_file l1 l2 0 h
  · have h := h.2 hc
    refine a_iconst C (pc := 17) dX9_spoil_17 ic_1 ?_
    refine a_goto C (pc := 18) 22 dX9_spoil_18 (by decide) ?_
    exact w_X9_spoil_22 C (Nat.le_of_ble_eq_true rfl) (Nat.le_of_ble_eq_true rfl) v_thrown v_file l1 l2 1 h
set_option maxRecDepth 100000 in
set_option maxHeartbeats 4000000 in
theorem m_X9_cut (Lx : Launch) (Dx : va_G) (cs : Nat → ClassId) (h0 : Nat) (d0 : Nat → Nat) (v_thrown : Int32) (v_taped : Int32) (v_at : Int32) (v_documents : Int32) (v_terms : Int32) (v_latest : Int32) (v_filed : Int32) (v_drafted : Int32) (v_place : Int32) (v_over : Int32) (v_clock : Int64) (v_askedTerms : Int32) (v_segments : Int32) (v_done : Int32) (v_postingsDone : Int32) (v_postingsAll : Int32) (v_why : Int32) (v_hits : Int32) (l1 : Int32) (Φ : Int32 → Int32 → Int32 → Prop) (h : P_X9_cut v_thrown v_filed l1 Φ) : XMet Lx Dx cs yX9_cut cX9_cut 2 (some .boolean) 1 25 0 0 [.ref h0, .int l1] [(h0, oX9 d0 v_thrown v_taped v_at v_documents v_terms v_latest v_filed v_drafted v_place v_over v_clock v_askedTerms v_segments v_done v_postingsDone v_postingsAll v_why v_hits)] (R_X9_cut cs h0 d0 v_taped v_at v_documents v_terms v_latest v_drafted v_place v_over v_clock v_askedTerms v_segments v_done v_postingsDone v_postingsAll v_why v_hits Φ) (fun _ _ => False) := by
  refine XMet.of (own := RX9) (nm := "cut") (by decide) rfl rfl (Nat.le_of_ble_eq_true rfl) (fun Γ C => ?_)
  unfold P_X9_cut at h
  refine a_aload_n C (pc := 0) 0 dX9_cut_0 rfl rfl ?_
  refine a_iconst C (pc := 1) dX9_cut_1 ic_0 ?_
  refine a_put C (pc := 2) (ws1 := [(h0, oX9 d0 0 v_taped v_at v_documents v_terms v_latest v_filed v_drafted v_place v_over v_clock v_askedTerms v_segments v_done v_postingsDone v_postingsAll v_why v_hits)]) 0 0 inW_X9 tyX9 tyX9_ok nmX9 rfl rfl (Nat.le_of_ble_eq_true rfl) wF_X9_83 rfl rfl rfl rfl rfl (Nat.le_of_ble_eq_true rfl) dX9_cut_2 rfl ?_
  refine a_iload_n C (pc := 5) 1 dX9_cut_5 rfl rfl ?_
  refine a_i2l C (pc := 6) dX9_cut_6 ?_
  refine a_lconst C (pc := 7) (v := 0) dX9_cut_7 rfl ?_
  refine a_aload_n C (pc := 8) 0 dX9_cut_8 rfl rfl ?_
  refine a_get C (pc := 9) 0 23 inW_X9 rfl rfl (Nat.le_of_ble_eq_true rfl) wF_X9_219 rfl rfl dX9_cut_9 ?_
  refine a_i2l C (pc := 12) dX9_cut_12 ?_
  refine a_callS C (pc := 13) (av := [.long ((l1 : Int32).toInt64), .long 0, .long ((v_filed : Int32).toInt64)]) (wr := [(h0, oX9 d0 0 v_taped v_at v_documents v_terms v_latest v_filed v_drafted v_place v_over v_clock v_askedTerms v_segments v_done v_postingsDone v_postingsAll v_why v_hits)]) (m_X9_within Lx Dx cs ((l1 : Int32).toInt64) 0 ((v_filed : Int32).toInt64) _ h) [] [0] rfl rfl (by decide) (by decide) (by decide) wM_X9_89 wb_X9_within hy_X9_within rfl ⟨Nat.le_of_ble_eq_true rfl, Nat.le_of_ble_eq_true rfl⟩ (Nat.le_of_ble_eq_true rfl) (Nat.le_of_ble_eq_true rfl) (Nat.le_of_ble_eq_true rfl) rfl dX9_cut_13 (fun v w1 hw => ?_) [] rfl (fun _ _ h => h.elim)
  obtain ⟨r_1, rfl, rfl, h⟩ := hw
  refine a_ws (st1 := [.int r_1]) (ws1 := [(h0, oX9 d0 0 v_taped v_at v_documents v_terms v_latest v_filed v_drafted v_place v_over v_clock v_askedTerms v_segments v_done v_postingsDone v_postingsAll v_why v_hits)]) 0 0 16 [0] rfl rfl rfl rfl (by decide) rfl ?_
  refine a_if_ne C (pc := 16) 21 dX9_cut_16 (by decide) (fun hc => ?_) (fun hc => ?_)
  · have h := h.1 hc
    refine a_aload_n C (pc := 21) 0 dX9_cut_21 rfl rfl ?_
    refine a_iload_n C (pc := 22) 1 dX9_cut_22 rfl rfl ?_
    refine a_put C (pc := 23) (ws1 := [(h0, oX9 d0 0 v_taped v_at v_documents v_terms v_latest l1 v_drafted v_place v_over v_clock v_askedTerms v_segments v_done v_postingsDone v_postingsAll v_why v_hits)]) 0 23 inW_X9 tyX9 tyX9_ok nmX9 rfl rfl (Nat.le_of_ble_eq_true rfl) wF_X9_219 rfl rfl rfl rfl rfl (Nat.le_of_ble_eq_true rfl) dX9_cut_23 rfl ?_
    refine a_iconst C (pc := 26) dX9_cut_26 ic_1 ?_
    exact a_zreturn C (pc := 27) rfl rfl dX9_cut_27 (Nat.le_of_ble_eq_true rfl) (Nat.le_of_ble_eq_true rfl) ⟨_, _, _, rfl, rfl, h⟩
  · have h := h.2 hc
    refine a_iconst C (pc := 19) dX9_cut_19 ic_0 ?_
    exact a_zreturn C (pc := 20) rfl rfl dX9_cut_20 (Nat.le_of_ble_eq_true rfl) (Nat.le_of_ble_eq_true rfl) ⟨_, _, _, rfl, rfl, h⟩
set_option maxRecDepth 100000 in
set_option maxHeartbeats 4000000 in
theorem w_X9_mend_31 {Γ : XG} {Lx : Launch} {Dx : va_G} {cs : Nat → ClassId} {h0 : Nat} {d0 : Nat → Nat} {v_taped : Int32} {v_at : Int32} {v_documents : Int32} {v_terms : Int32} {v_latest : Int32} {v_filed : Int32} {v_drafted : Int32} {v_place : Int32} {v_over : Int32} {v_clock : Int64} {v_askedTerms : Int32} {v_segments : Int32} {v_done : Int32} {v_postingsDone : Int32} {v_postingsAll : Int32} {v_why : Int32} {v_hits : Int32} {K_66 : Int32 → (Nat → Int32) → Prop} {Φ : Int32 → Int32 → (Nat → Int32) → Prop} {k n9 : Nat} (C : CX Γ Lx Dx cs cX9_mend RX9 "mend" 4 (some .boolean) 1 26 0 0 (qEC cs 0 0 [] (R_X9_mend cs h0 d0 v_taped v_at v_documents v_terms v_latest v_filed v_drafted v_place v_over v_clock v_askedTerms v_segments v_done v_postingsDone v_postingsAll v_why v_hits Φ) (fun _ _ => False))) (hkm : k ≤ 0) (hnm : n9 ≤ 0) : ∀ n : Nat, ∀ (v_thrown : Int32) (v_file : Nat → Int32) (l1 : Int64) (l3 : Int32), L_X9_mend_31 n v_thrown v_filed v_file l1 l3 K_66 Φ → (∀ (v_thrown_2 : Int32) (v_file_3 : Nat → Int32), K_66 v_thrown_2 v_file_3 → AW Γ k n9 66 [] [] [(h0, oX9 d0 v_thrown_2 v_taped v_at v_documents v_terms v_latest v_filed v_drafted v_place v_over v_clock v_askedTerms v_segments v_done v_postingsDone v_postingsAll v_why v_hits), ((d0 21), aI cs 16000 v_file_3)]) → AW Γ k n9 31 [(0, .ref h0), (1, .long l1), (3, .int l3)] [] [(h0, oX9 d0 v_thrown v_taped v_at v_documents v_terms v_latest v_filed v_drafted v_place v_over v_clock v_askedTerms v_segments v_done v_postingsDone v_postingsAll v_why v_hits), ((d0 21), aI cs 16000 v_file)] := by
  intro n
  induction n with
  | zero =>
    intro v_thrown v_file l1 l3 h
    exact False.elim h
  | succ n ih =>
    intro v_thrown v_file l1 l3 h hK_66
    rw [L_X9_mend_31] at h
    refine a_iload_n C (pc := 31) 2 dX9_mend_31 rfl rfl ?_
    refine a_iconst C (pc := 32) dX9_mend_32 ic_4 ?_
    refine a_icmp_ge C (pc := 33) 66 dX9_mend_33 (by decide) (fun hc => ?_) (fun hc => ?_)
    · have h := h.1 hc
      refine a_lv (lv1 := []) [] rfl ?_
      exact hK_66 v_thrown v_file h
    · have h := h.2 hc
      refine a_aload_n C (pc := 36) 0 dX9_mend_36 rfl rfl ?_
      refine a_get C (pc := 37) 0 21 inW_X9 rfl rfl (Nat.le_of_ble_eq_true rfl) wF_X9_56 rfl rfl dX9_mend_37 ?_
      refine a_aload_n C (pc := 40) 0 dX9_mend_40 rfl rfl ?_
      refine a_get C (pc := 41) 0 23 inW_X9 rfl rfl (Nat.le_of_ble_eq_true rfl) wF_X9_219 rfl rfl dX9_mend_41 ?_
      refine a_iconst C (pc := 44) dX9_mend_44 ic_4 ?_
      refine a_isub C (pc := 45) dX9_mend_45 ?_
      refine a_iload_n C (pc := 46) 2 dX9_mend_46 rfl rfl ?_
      refine a_iadd C (pc := 47) dX9_mend_47 ?_
      refine a_lload_n C (pc := 48) 1 dX9_mend_48 rfl rfl ?_
      refine a_bipush C (pc := 49) dX9_mend_49 bp_8 ?_
      refine a_iload_n C (pc := 51) 2 dX9_mend_51 rfl rfl ?_
      refine a_imul C (pc := 52) dX9_mend_52 ?_
      refine a_lshr C (pc := 53) dX9_mend_53 ?_
      refine a_ldc2 C (pc := 54) wC_X9_100 dX9_mend_54 ?_
      refine a_land C (pc := 57) dX9_mend_57 ?_
      refine a_l2i C (pc := 58) dX9_mend_58 ?_
      refine a_iast C (pc := 59) (ws1 := [(h0, oX9 d0 v_thrown v_taped v_at v_documents v_terms v_latest v_filed v_drafted v_place v_over v_clock v_askedTerms v_segments v_done v_postingsDone v_postingsAll v_why v_hits), ((d0 21), aI cs 16000 (upd v_file ((v_filed - 4) + l3 : Int32).toNatClampNeg ((((l1 >>> ((8 * l3).toInt64 &&& 63)) &&& 255) : Int64).toInt32)))]) 1 rfl h.1 dX9_mend_59 rfl ?_
      replace h := h.2
      refine a_iinc C (pc := 60) (lv1 := [(0, .ref h0), (1, .long l1), (3, .int (l3 + 1))]) 2 [1, 2, 0] dX9_mend_60 rfl (congrArg (fun z => l3 + z) ic_1) (by decide) rfl ?_
      refine a_goto C (pc := 63) 31 dX9_mend_63 (by decide) ?_
      exact ih v_thrown (upd v_file ((v_filed - 4) + l3 : Int32).toNatClampNeg ((((l1 >>> ((8 * l3).toInt64 &&& 63)) &&& 255) : Int64).toInt32)) l1 (l3 + 1) h hK_66
set_option maxRecDepth 100000 in
set_option maxHeartbeats 4000000 in
theorem m_X9_mend (Lx : Launch) (Dx : va_G) (cs : Nat → ClassId) (h0 : Nat) (d0 : Nat → Nat) (v_thrown : Int32) (v_taped : Int32) (v_at : Int32) (v_documents : Int32) (v_terms : Int32) (v_latest : Int32) (v_filed : Int32) (v_drafted : Int32) (v_place : Int32) (v_over : Int32) (v_clock : Int64) (v_askedTerms : Int32) (v_segments : Int32) (v_done : Int32) (v_postingsDone : Int32) (v_postingsAll : Int32) (v_why : Int32) (v_hits : Int32) (v_file : Nat → Int32) (Φ : Int32 → Int32 → (Nat → Int32) → Prop) (h : P_X9_mend v_thrown v_filed v_file Φ) : XMet Lx Dx cs yX9_mend cX9_mend 4 (some .boolean) 1 26 0 0 [.ref h0] [(h0, oX9 d0 v_thrown v_taped v_at v_documents v_terms v_latest v_filed v_drafted v_place v_over v_clock v_askedTerms v_segments v_done v_postingsDone v_postingsAll v_why v_hits), ((d0 21), aI cs 16000 v_file)] (R_X9_mend cs h0 d0 v_taped v_at v_documents v_terms v_latest v_filed v_drafted v_place v_over v_clock v_askedTerms v_segments v_done v_postingsDone v_postingsAll v_why v_hits Φ) (fun _ _ => False) := by
  refine XMet.of (own := RX9) (nm := "mend") (by decide) rfl rfl (Nat.le_of_ble_eq_true rfl) (fun Γ C => ?_)
  unfold P_X9_mend at h
  refine a_aload_n C (pc := 0) 0 dX9_mend_0 rfl rfl ?_
  refine a_iconst C (pc := 1) dX9_mend_1 ic_0 ?_
  refine a_put C (pc := 2) (ws1 := [(h0, oX9 d0 0 v_taped v_at v_documents v_terms v_latest v_filed v_drafted v_place v_over v_clock v_askedTerms v_segments v_done v_postingsDone v_postingsAll v_why v_hits), ((d0 21), aI cs 16000 v_file)]) 0 0 inW_X9 tyX9 tyX9_ok nmX9 rfl rfl (Nat.le_of_ble_eq_true rfl) wF_X9_83 rfl rfl rfl rfl rfl (Nat.le_of_ble_eq_true rfl) dX9_mend_2 rfl ?_
  refine a_aload_n C (pc := 5) 0 dX9_mend_5 rfl rfl ?_
  refine a_get C (pc := 6) 0 23 inW_X9 rfl rfl (Nat.le_of_ble_eq_true rfl) wF_X9_219 rfl rfl dX9_mend_6 ?_
  refine a_iconst C (pc := 9) dX9_mend_9 ic_4 ?_
  refine a_icmp_ge C (pc := 10) 15 dX9_mend_10 (by decide) (fun hc => ?_) (fun hc => ?_)
  · have h := h.1 hc
    refine a_aload_n C (pc := 15) 0 dX9_mend_15 rfl rfl ?_
    refine a_get C (pc := 16) 0 21 inW_X9 rfl rfl (Nat.le_of_ble_eq_true rfl) wF_X9_56 rfl rfl dX9_mend_16 ?_
    refine a_aload_n C (pc := 19) 0 dX9_mend_19 rfl rfl ?_
    refine a_get C (pc := 20) 0 23 inW_X9 rfl rfl (Nat.le_of_ble_eq_true rfl) wF_X9_219 rfl rfl dX9_mend_20 ?_
    refine a_iconst C (pc := 23) dX9_mend_23 ic_4 ?_
    refine a_isub C (pc := 24) dX9_mend_24 ?_
    refine a_callS C (pc := 25) (av := [.ref (d0 21), .int (v_filed - 4)]) (wr := [(h0, oX9 d0 0 v_taped v_at v_documents v_terms v_latest v_filed v_drafted v_place v_over v_clock v_askedTerms v_segments v_done v_postingsDone v_postingsAll v_why v_hits)]) (m_X9_check Lx Dx cs 16000 (d0 21) v_file (v_filed - 4) _ h) [1] [0] rfl rfl (by decide) (by decide) (by decide) wM_X9_201 wb_X9_check hy_X9_check rfl ⟨Nat.le_of_ble_eq_true rfl, Nat.le_of_ble_eq_true rfl⟩ (Nat.le_of_ble_eq_true rfl) (Nat.le_of_ble_eq_true rfl) (Nat.le_of_ble_eq_true rfl) rfl dX9_mend_25 (fun v w1 hw => ?_) [] rfl (fun _ _ h => h.elim)
    obtain ⟨r_1, rfl, rfl, h⟩ := hw
    refine a_ws (st1 := [.long r_1]) (ws1 := [(h0, oX9 d0 0 v_taped v_at v_documents v_terms v_latest v_filed v_drafted v_place v_over v_clock v_askedTerms v_segments v_done v_postingsDone v_postingsAll v_why v_hits), ((d0 21), aI cs 16000 v_file)]) 0 0 28 [0, 1] rfl rfl rfl rfl (by decide) rfl ?_
    refine a_lstore_n C (pc := 28) (lv1 := [(0, .ref h0), (1, .long r_1)]) [1, 0] dX9_mend_28 rfl (by decide) rfl ?_
    refine a_iconst C (pc := 29) dX9_mend_29 ic_0 ?_
    refine a_istore_n C (pc := 30) (lv1 := [(0, .ref h0), (1, .long r_1), (3, .int 0)]) [1, 2, 0] dX9_mend_30 rfl (by decide) rfl ?_
    obtain ⟨n0, h⟩ := h
    refine w_X9_mend_31 C (Nat.le_of_ble_eq_true rfl) (Nat.le_of_ble_eq_true rfl) n0 0 v_file r_1 0 h ?_
    intro v_thrown_4 v_file_5 h
    refine a_iconst C (pc := 66) dX9_mend_66 ic_1 ?_
    exact a_zreturn C (pc := 67) rfl rfl dX9_mend_67 (Nat.le_of_ble_eq_true rfl) (Nat.le_of_ble_eq_true rfl) ⟨_, _, _, rfl, rfl, h⟩
  · have h := h.2 hc
    refine a_iconst C (pc := 13) dX9_mend_13 ic_0 ?_
    exact a_zreturn C (pc := 14) rfl rfl dX9_mend_14 (Nat.le_of_ble_eq_true rfl) (Nat.le_of_ble_eq_true rfl) ⟨_, _, _, rfl, rfl, h⟩
set_option maxRecDepth 100000 in
set_option maxHeartbeats 4000000 in
theorem w_X9_take_16 {Γ : XG} {Lx : Launch} {Dx : va_G} {cs : Nat → ClassId} {h0 : Nat} {d0 : Nat → Nat} {v_thrown : Int32} {v_taped : Int32} {v_at : Int32} {v_documents : Int32} {v_terms : Int32} {v_latest : Int32} {v_filed : Int32} {v_drafted : Int32} {v_clock : Int64} {v_askedTerms : Int32} {v_segments : Int32} {v_done : Int32} {v_postingsDone : Int32} {v_postingsAll : Int32} {v_why : Int32} {v_hits : Int32} {v_file : Nat → Int32} {Φ : Int32 → Int32 → Int32 → Prop} {k n9 : Nat} (C : CX Γ Lx Dx cs cX9_take RX9 "take" 1 (some .int) 0 0 0 0 (qEC cs 0 0 [] (R_X9_take cs h0 d0 v_thrown v_taped v_at v_documents v_terms v_latest v_filed v_drafted v_clock v_askedTerms v_segments v_done v_postingsDone v_postingsAll v_why v_hits v_file Φ) (fun _ _ => False))) (hkm : k ≤ 0) (hnm : n9 ≤ 0) (v_place : Int32) (v_over : Int32) (h : J_X9_take_16 v_filed v_place v_over v_file Φ) : AW Γ k n9 16 [(0, .ref h0)] [] [(h0, oX9 d0 v_thrown v_taped v_at v_documents v_terms v_latest v_filed v_drafted v_place v_over v_clock v_askedTerms v_segments v_done v_postingsDone v_postingsAll v_why v_hits), ((d0 21), aI cs 16000 v_file)] := by
  unfold J_X9_take_16 at h
  refine a_aload_n C (pc := 16) 0 dX9_take_16 rfl rfl ?_
  refine a_dup C (pc := 17) dX9_take_17 rfl ?_
  refine a_get C (pc := 18) 0 25 inW_X9 rfl rfl (Nat.le_of_ble_eq_true rfl) wF_X9_222 rfl rfl dX9_take_18 ?_
  refine a_iconst C (pc := 21) dX9_take_21 ic_1 ?_
  refine a_iadd C (pc := 22) dX9_take_22 ?_
  refine a_put C (pc := 23) (ws1 := [(h0, oX9 d0 v_thrown v_taped v_at v_documents v_terms v_latest v_filed v_drafted (v_place + 1) v_over v_clock v_askedTerms v_segments v_done v_postingsDone v_postingsAll v_why v_hits), ((d0 21), aI cs 16000 v_file)]) 0 25 inW_X9 tyX9 tyX9_ok nmX9 rfl rfl (Nat.le_of_ble_eq_true rfl) wF_X9_222 rfl rfl rfl rfl rfl (Nat.le_of_ble_eq_true rfl) dX9_take_23 rfl ?_
  refine a_aload_n C (pc := 26) 0 dX9_take_26 rfl rfl ?_
  refine a_get C (pc := 27) 0 26 inW_X9 rfl rfl (Nat.le_of_ble_eq_true rfl) wF_X9_225 rfl rfl dX9_take_27 ?_
  refine a_if_eq C (pc := 30) 37 dX9_take_30 (by decide) (fun hc => ?_) (fun hc => ?_)
  · have h := h.1 hc
    refine a_aload_n C (pc := 37) 0 dX9_take_37 rfl rfl ?_
    refine a_get C (pc := 38) 0 21 inW_X9 rfl rfl (Nat.le_of_ble_eq_true rfl) wF_X9_56 rfl rfl dX9_take_38 ?_
    refine a_aload_n C (pc := 41) 0 dX9_take_41 rfl rfl ?_
    refine a_get C (pc := 42) 0 25 inW_X9 rfl rfl (Nat.le_of_ble_eq_true rfl) wF_X9_222 rfl rfl dX9_take_42 ?_
    refine a_iconst C (pc := 45) dX9_take_45 ic_1 ?_
    refine a_isub C (pc := 46) dX9_take_46 ?_
    refine a_iald C (pc := 47) 1 rfl h.1 dX9_take_47 ?_
    replace h := h.2
    exact a_ireturn C (pc := 48) rfl dX9_take_48 hkm hnm ⟨_, _, _, rfl, rfl, h⟩
  · have h := h.2 hc
    refine a_iconst C (pc := 33) dX9_take_33 ic_0 ?_
    refine a_goto C (pc := 34) 48 dX9_take_34 (by decide) ?_
    exact a_ireturn C (pc := 48) rfl dX9_take_48 hkm hnm ⟨_, _, _, rfl, rfl, h⟩
set_option maxRecDepth 100000 in
set_option maxHeartbeats 4000000 in
theorem m_X9_take (Lx : Launch) (Dx : va_G) (cs : Nat → ClassId) (h0 : Nat) (d0 : Nat → Nat) (v_thrown : Int32) (v_taped : Int32) (v_at : Int32) (v_documents : Int32) (v_terms : Int32) (v_latest : Int32) (v_filed : Int32) (v_drafted : Int32) (v_place : Int32) (v_over : Int32) (v_clock : Int64) (v_askedTerms : Int32) (v_segments : Int32) (v_done : Int32) (v_postingsDone : Int32) (v_postingsAll : Int32) (v_why : Int32) (v_hits : Int32) (v_file : Nat → Int32) (Φ : Int32 → Int32 → Int32 → Prop) (h : P_X9_take v_filed v_place v_over v_file Φ) : XMet Lx Dx cs yX9_take cX9_take 1 (some .int) 0 0 0 0 [.ref h0] [(h0, oX9 d0 v_thrown v_taped v_at v_documents v_terms v_latest v_filed v_drafted v_place v_over v_clock v_askedTerms v_segments v_done v_postingsDone v_postingsAll v_why v_hits), ((d0 21), aI cs 16000 v_file)] (R_X9_take cs h0 d0 v_thrown v_taped v_at v_documents v_terms v_latest v_filed v_drafted v_clock v_askedTerms v_segments v_done v_postingsDone v_postingsAll v_why v_hits v_file Φ) (fun _ _ => False) := by
  refine XMet.of (own := RX9) (nm := "take") (by decide) rfl rfl (Nat.le_of_ble_eq_true rfl) (fun Γ C => ?_)
  unfold P_X9_take at h
  refine a_aload_n C (pc := 0) 0 dX9_take_0 rfl rfl ?_
  refine a_get C (pc := 1) 0 25 inW_X9 rfl rfl (Nat.le_of_ble_eq_true rfl) wF_X9_222 rfl rfl dX9_take_1 ?_
  refine a_aload_n C (pc := 4) 0 dX9_take_4 rfl rfl ?_
  refine a_get C (pc := 5) 0 23 inW_X9 rfl rfl (Nat.le_of_ble_eq_true rfl) wF_X9_219 rfl rfl dX9_take_5 ?_
  refine a_icmp_lt C (pc := 8) 16 dX9_take_8 (by decide) (fun hc => ?_) (fun hc => ?_)
  · have h := h.1 hc
    exact w_X9_take_16 C (Nat.le_of_ble_eq_true rfl) (Nat.le_of_ble_eq_true rfl) v_place v_over h
  · have h := h.2 hc
    refine a_aload_n C (pc := 11) 0 dX9_take_11 rfl rfl ?_
    refine a_iconst C (pc := 12) dX9_take_12 ic_1 ?_
    refine a_put C (pc := 13) (ws1 := [(h0, oX9 d0 v_thrown v_taped v_at v_documents v_terms v_latest v_filed v_drafted v_place 1 v_clock v_askedTerms v_segments v_done v_postingsDone v_postingsAll v_why v_hits), ((d0 21), aI cs 16000 v_file)]) 0 26 inW_X9 tyX9 tyX9_ok nmX9 rfl rfl (Nat.le_of_ble_eq_true rfl) wF_X9_225 rfl rfl rfl rfl rfl (Nat.le_of_ble_eq_true rfl) dX9_take_13 rfl ?_
    exact w_X9_take_16 C (Nat.le_of_ble_eq_true rfl) (Nat.le_of_ble_eq_true rfl) v_place 1 h
set_option maxRecDepth 100000 in
set_option maxHeartbeats 4000000 in
theorem w_X9_takeBits_29 {Γ : XG} {Lx : Launch} {Dx : va_G} {cs : Nat → ClassId} {h0 : Nat} {d0 : Nat → Nat} {v_thrown : Int32} {v_taped : Int32} {v_at : Int32} {v_documents : Int32} {v_terms : Int32} {v_latest : Int32} {v_filed : Int32} {v_drafted : Int32} {v_clock : Int64} {v_askedTerms : Int32} {v_segments : Int32} {v_done : Int32} {v_postingsDone : Int32} {v_postingsAll : Int32} {v_why : Int32} {v_hits : Int32} {v_file : Nat → Int32} {K_47 : Int32 → Int32 → (Nat → Int32) → Int32 → Int32 → Prop} {Φ : Int32 → Int32 → (Nat → Int32) → Prop} {k n9 : Nat} (C : CX Γ Lx Dx cs cX9_takeBits RX9 "takeBits" 5 none 1 20 0 0 (qEC cs 0 0 [] (R_X9_takeBits cs h0 d0 v_thrown v_taped v_at v_documents v_terms v_latest v_filed v_drafted v_clock v_askedTerms v_segments v_done v_postingsDone v_postingsAll v_why v_hits v_file Φ) (fun _ _ => False))) (hkm : k ≤ 0) (hnm : n9 ≤ 0) : ∀ n : Nat, ∀ (v_place : Int32) (v_over : Int32) (v_gap : Nat → Int32) (l1 : Int32) (l2 : Int32) (l3 : Int32), L_X9_takeBits_29 n v_filed v_place v_over v_file v_gap l1 l2 l3 K_47 Φ → (∀ (v_place_4 : Int32) (v_over_5 : Int32) (v_gap_6 : Nat → Int32) (l1_7 : Int32) (l2_8 : Int32), K_47 v_place_4 v_over_5 v_gap_6 l1_7 l2_8 → AW Γ k n9 47 [(0, .ref h0), (1, .int l1_7), (2, .int l2_8)] [] [(h0, oX9 d0 v_thrown v_taped v_at v_documents v_terms v_latest v_filed v_drafted v_place_4 v_over_5 v_clock v_askedTerms v_segments v_done v_postingsDone v_postingsAll v_why v_hits), ((d0 21), aI cs 16000 v_file), ((d0 27), aI cs 40 v_gap_6)]) → AW Γ k n9 29 [(0, .ref h0), (1, .int l1), (2, .int l2), (3, .int l3)] [] [(h0, oX9 d0 v_thrown v_taped v_at v_documents v_terms v_latest v_filed v_drafted v_place v_over v_clock v_askedTerms v_segments v_done v_postingsDone v_postingsAll v_why v_hits), ((d0 21), aI cs 16000 v_file), ((d0 27), aI cs 40 v_gap)] := by
  intro n
  induction n with
  | zero =>
    intro v_place v_over v_gap l1 l2 l3 h
    exact False.elim h
  | succ n ih =>
    intro v_place v_over v_gap l1 l2 l3 h hK_47
    rw [L_X9_takeBits_29] at h
    refine a_iload_n C (pc := 29) 3 dX9_takeBits_29 rfl rfl ?_
    refine a_iload_n C (pc := 30) 1 dX9_takeBits_30 rfl rfl ?_
    refine a_icmp_ge C (pc := 31) 47 dX9_takeBits_31 (by decide) (fun hc => ?_) (fun hc => ?_)
    · have h := h.1 hc
      refine a_lv (lv1 := [(0, .ref h0), (1, .int l1), (2, .int l2)]) [0, 1, 2] rfl ?_
      exact hK_47 v_place v_over v_gap l1 l2 h
    · have h := h.2 hc
      refine a_aload_n C (pc := 34) 0 dX9_takeBits_34 rfl rfl ?_
      refine a_get C (pc := 35) 0 27 inW_X9 rfl rfl (Nat.le_of_ble_eq_true rfl) wF_X9_62 rfl rfl dX9_takeBits_35 ?_
      refine a_iload_n C (pc := 38) 3 dX9_takeBits_38 rfl rfl ?_
      refine a_iconst C (pc := 39) dX9_takeBits_39 ic_0 ?_
      refine a_iast C (pc := 40) (ws1 := [(h0, oX9 d0 v_thrown v_taped v_at v_documents v_terms v_latest v_filed v_drafted v_place v_over v_clock v_askedTerms v_segments v_done v_postingsDone v_postingsAll v_why v_hits), ((d0 21), aI cs 16000 v_file), ((d0 27), aI cs 40 (upd v_gap (l3 : Int32).toNatClampNeg 0))]) 2 rfl h.1 dX9_takeBits_40 rfl ?_
      replace h := h.2
      refine a_iinc C (pc := 41) (lv1 := [(0, .ref h0), (1, .int l1), (2, .int l2), (3, .int (l3 + 1))]) 3 [1, 2, 3, 0] dX9_takeBits_41 rfl (congrArg (fun z => l3 + z) ic_1) (by decide) rfl ?_
      refine a_goto C (pc := 44) 29 dX9_takeBits_44 (by decide) ?_
      exact ih v_place v_over (upd v_gap (l3 : Int32).toNatClampNeg 0) l1 l2 (l3 + 1) h hK_47
set_option maxRecDepth 100000 in
set_option maxHeartbeats 4000000 in
theorem w_X9_takeBits_80 {Γ : XG} {Lx : Launch} {Dx : va_G} {cs : Nat → ClassId} {h0 : Nat} {d0 : Nat → Nat} {v_thrown : Int32} {v_taped : Int32} {v_at : Int32} {v_documents : Int32} {v_terms : Int32} {v_latest : Int32} {v_filed : Int32} {v_drafted : Int32} {v_clock : Int64} {v_askedTerms : Int32} {v_segments : Int32} {v_done : Int32} {v_postingsDone : Int32} {v_postingsAll : Int32} {v_why : Int32} {v_hits : Int32} {v_file : Nat → Int32} {B_52 : Int32 → Int32 → (Nat → Int32) → Int32 → Int32 → Int32 → Int32 → Prop} {K_112 : Int32 → Int32 → (Nat → Int32) → Prop} {Φ : Int32 → Int32 → (Nat → Int32) → Prop} {k n9 : Nat} (C : CX Γ Lx Dx cs cX9_takeBits RX9 "takeBits" 5 none 1 20 0 0 (qEC cs 0 0 [] (R_X9_takeBits cs h0 d0 v_thrown v_taped v_at v_documents v_terms v_latest v_filed v_drafted v_clock v_askedTerms v_segments v_done v_postingsDone v_postingsAll v_why v_hits v_file Φ) (fun _ _ => False))) (hkm : k ≤ 0) (hnm : n9 ≤ 0) (v_place : Int32) (v_over : Int32) (v_gap : Nat → Int32) (l1 : Int32) (l2 : Int32) (l3 : Int32) (l4 : Int32) (h : J_X9_takeBits_80 v_filed v_place v_over v_file v_gap l1 l2 l3 l4 B_52 K_112 Φ) (hB_52 : ∀ (v_place_14 : Int32) (v_over_15 : Int32) (v_gap_16 : Nat → Int32) (l1_17 : Int32) (l2_18 : Int32) (l3_19 : Int32) (l4_20 : Int32), B_52 v_place_14 v_over_15 v_gap_16 l1_17 l2_18 l3_19 l4_20 → AW Γ k n9 52 [(0, .ref h0), (1, .int l1_17), (2, .int l2_18), (3, .int l3_19), (4, .int l4_20)] [] [(h0, oX9 d0 v_thrown v_taped v_at v_documents v_terms v_latest v_filed v_drafted v_place_14 v_over_15 v_clock v_askedTerms v_segments v_done v_postingsDone v_postingsAll v_why v_hits), ((d0 21), aI cs 16000 v_file), ((d0 27), aI cs 40 v_gap_16)]) (hK_112 : ∀ (v_place_21 : Int32) (v_over_22 : Int32) (v_gap_23 : Nat → Int32), K_112 v_place_21 v_over_22 v_gap_23 → AW Γ k n9 112 [] [] [(h0, oX9 d0 v_thrown v_taped v_at v_documents v_terms v_latest v_filed v_drafted v_place_21 v_over_22 v_clock v_askedTerms v_segments v_done v_postingsDone v_postingsAll v_why v_hits), ((d0 21), aI cs 16000 v_file), ((d0 27), aI cs 40 v_gap_23)]) : AW Γ k n9 80 [(0, .ref h0), (1, .int l1), (2, .int l2), (3, .int l3), (4, .int l4)] [] [(h0, oX9 d0 v_thrown v_taped v_at v_documents v_terms v_latest v_filed v_drafted v_place v_over v_clock v_askedTerms v_segments v_done v_postingsDone v_postingsAll v_why v_hits), ((d0 21), aI cs 16000 v_file), ((d0 27), aI cs 40 v_gap)] := by
  unfold J_X9_takeBits_80 at h
  refine a_aload_n C (pc := 80) 0 dX9_takeBits_80 rfl rfl ?_
  refine a_get C (pc := 81) 0 27 inW_X9 rfl rfl (Nat.le_of_ble_eq_true rfl) wF_X9_62 rfl rfl dX9_takeBits_81 ?_
  refine a_iload C (pc := 84) 4 dX9_takeBits_84 rfl ?_
  refine a_iload_n C (pc := 86) 2 dX9_takeBits_86 rfl rfl ?_
  refine a_idiv C (pc := 87) dX9_takeBits_87 h.1 ?_
  replace h := h.2
  refine a_dup2 C (pc := 88) dX9_takeBits_88 rfl rfl ?_
  refine a_iald C (pc := 89) 2 rfl h.1 dX9_takeBits_89 ?_
  replace h := h.2
  refine a_iload_n C (pc := 90) 3 dX9_takeBits_90 rfl rfl ?_
  refine a_iload C (pc := 91) 4 dX9_takeBits_91 rfl ?_
  refine a_bipush C (pc := 93) dX9_takeBits_93 bp_8 ?_
  refine a_irem C (pc := 95) dX9_takeBits_95 (by decide) ?_
  refine a_ishr C (pc := 96) dX9_takeBits_96 ?_
  refine a_iconst C (pc := 97) dX9_takeBits_97 ic_1 ?_
  refine a_iand C (pc := 98) dX9_takeBits_98 ?_
  refine a_iload C (pc := 99) 4 dX9_takeBits_99 rfl ?_
  refine a_iload_n C (pc := 101) 2 dX9_takeBits_101 rfl rfl ?_
  refine a_irem C (pc := 102) dX9_takeBits_102 h.1 ?_
  replace h := h.2
  refine a_ishl C (pc := 103) dX9_takeBits_103 ?_
  refine a_ior C (pc := 104) dX9_takeBits_104 ?_
  refine a_iast C (pc := 105) (ws1 := [(h0, oX9 d0 v_thrown v_taped v_at v_documents v_terms v_latest v_filed v_drafted v_place v_over v_clock v_askedTerms v_segments v_done v_postingsDone v_postingsAll v_why v_hits), ((d0 21), aI cs 16000 v_file), ((d0 27), aI cs 40 (upd v_gap (l4 / l2 : Int32).toNatClampNeg ((v_gap (l4 / l2 : Int32).toNatClampNeg) ||| (((l3 >>> ((l4 - l4 / 8 * 8) &&& 31)) &&& 1) <<< ((l4 - l4 / l2 * l2) &&& 31)))))]) 2 rfl h.1 dX9_takeBits_105 rfl ?_
  replace h := h.2
  refine a_iinc C (pc := 106) (lv1 := [(0, .ref h0), (1, .int l1), (2, .int l2), (3, .int l3), (4, .int (l4 + 1))]) 4 [1, 2, 3, 4, 0] dX9_takeBits_106 rfl (congrArg (fun z => l4 + z) ic_1) (by decide) rfl ?_
  refine a_goto C (pc := 109) 52 dX9_takeBits_109 (by decide) ?_
  exact hB_52 v_place v_over (upd v_gap (l4 / l2 : Int32).toNatClampNeg ((v_gap (l4 / l2 : Int32).toNatClampNeg) ||| (((l3 >>> ((l4 - l4 / 8 * 8) &&& 31)) &&& 1) <<< ((l4 - l4 / l2 * l2) &&& 31)))) l1 l2 l3 (l4 + 1) h
set_option maxRecDepth 100000 in
set_option maxHeartbeats 4000000 in
theorem w_X9_takeBits_52 {Γ : XG} {Lx : Launch} {Dx : va_G} {cs : Nat → ClassId} {h0 : Nat} {d0 : Nat → Nat} {v_thrown : Int32} {v_taped : Int32} {v_at : Int32} {v_documents : Int32} {v_terms : Int32} {v_latest : Int32} {v_filed : Int32} {v_drafted : Int32} {v_clock : Int64} {v_askedTerms : Int32} {v_segments : Int32} {v_done : Int32} {v_postingsDone : Int32} {v_postingsAll : Int32} {v_why : Int32} {v_hits : Int32} {v_file : Nat → Int32} {K_112 : Int32 → Int32 → (Nat → Int32) → Prop} {Φ : Int32 → Int32 → (Nat → Int32) → Prop} {k n9 : Nat} (C : CX Γ Lx Dx cs cX9_takeBits RX9 "takeBits" 5 none 1 20 0 0 (qEC cs 0 0 [] (R_X9_takeBits cs h0 d0 v_thrown v_taped v_at v_documents v_terms v_latest v_filed v_drafted v_clock v_askedTerms v_segments v_done v_postingsDone v_postingsAll v_why v_hits v_file Φ) (fun _ _ => False))) (hkm : k ≤ 0) (hnm : n9 ≤ 0) : ∀ n : Nat, ∀ (v_place : Int32) (v_over : Int32) (v_gap : Nat → Int32) (l1 : Int32) (l2 : Int32) (l3 : Int32) (l4 : Int32), L_X9_takeBits_52 n v_filed v_place v_over v_file v_gap l1 l2 l3 l4 K_112 Φ → (∀ (v_place_55 : Int32) (v_over_56 : Int32) (v_gap_57 : Nat → Int32), K_112 v_place_55 v_over_56 v_gap_57 → AW Γ k n9 112 [] [] [(h0, oX9 d0 v_thrown v_taped v_at v_documents v_terms v_latest v_filed v_drafted v_place_55 v_over_56 v_clock v_askedTerms v_segments v_done v_postingsDone v_postingsAll v_why v_hits), ((d0 21), aI cs 16000 v_file), ((d0 27), aI cs 40 v_gap_57)]) → AW Γ k n9 52 [(0, .ref h0), (1, .int l1), (2, .int l2), (3, .int l3), (4, .int l4)] [] [(h0, oX9 d0 v_thrown v_taped v_at v_documents v_terms v_latest v_filed v_drafted v_place v_over v_clock v_askedTerms v_segments v_done v_postingsDone v_postingsAll v_why v_hits), ((d0 21), aI cs 16000 v_file), ((d0 27), aI cs 40 v_gap)] := by
  intro n
  induction n with
  | zero =>
    intro v_place v_over v_gap l1 l2 l3 l4 h
    exact False.elim h
  | succ n ih =>
    intro v_place v_over v_gap l1 l2 l3 l4 h hK_112
    rw [L_X9_takeBits_52] at h
    refine a_iload C (pc := 52) 4 dX9_takeBits_52 rfl ?_
    refine a_iload_n C (pc := 54) 2 dX9_takeBits_54 rfl rfl ?_
    refine a_iload_n C (pc := 55) 1 dX9_takeBits_55 rfl rfl ?_
    refine a_imul C (pc := 56) dX9_takeBits_56 ?_
    refine a_icmp_ge C (pc := 57) 112 dX9_takeBits_57 (by decide) (fun hc => ?_) (fun hc => ?_)
    · have h := h.1 hc
      refine a_lv (lv1 := []) [] rfl ?_
      exact hK_112 v_place v_over v_gap h
    · have h := h.2 hc
      refine a_aload_n C (pc := 60) 0 dX9_takeBits_60 rfl rfl ?_
      refine a_get C (pc := 61) 0 26 inW_X9 rfl rfl (Nat.le_of_ble_eq_true rfl) wF_X9_225 rfl rfl dX9_takeBits_61 ?_
      refine a_if_ne C (pc := 64) 112 dX9_takeBits_64 (by decide) (fun hc => ?_) (fun hc => ?_)
      · have h := h.1 hc
        refine a_lv (lv1 := []) [] rfl ?_
        exact hK_112 v_place v_over v_gap h
      · have h := h.2 hc
        refine a_iload C (pc := 67) 4 dX9_takeBits_67 rfl ?_
        refine a_bipush C (pc := 69) dX9_takeBits_69 bp_8 ?_
        refine a_irem C (pc := 71) dX9_takeBits_71 (by decide) ?_
        refine a_if_ne C (pc := 72) 80 dX9_takeBits_72 (by decide) (fun hc => ?_) (fun hc => ?_)
        · have h := h.1 hc
          exact w_X9_takeBits_80 C hkm hnm v_place v_over v_gap l1 l2 l3 l4 h (fun v_place_31 v_over_32 v_gap_33 l1_34 l2_35 l3_36 l4_37 h => ih v_place_31 v_over_32 v_gap_33 l1_34 l2_35 l3_36 l4_37 h hK_112) hK_112
        · have h := h.2 hc
          refine a_aload_n C (pc := 75) 0 dX9_takeBits_75 rfl rfl ?_
          refine a_callV C (pc := 76) (av := []) (wr := [((d0 27), aI cs 40 v_gap)]) (m_X9_take Lx Dx cs h0 d0 v_thrown v_taped v_at v_documents v_terms v_latest v_filed v_drafted v_place v_over v_clock v_askedTerms v_segments v_done v_postingsDone v_postingsAll v_why v_hits v_file _ h) [0, 1] [2] rfl rfl (by decide) (by decide) (by decide) wM_X9_229 wb_X9_take hy_X9_take (q0 := 0) rfl rfl rfl ⟨Nat.le_of_ble_eq_true rfl, Nat.le_of_ble_eq_true rfl⟩ (Nat.le_of_ble_eq_true rfl) hkm hnm rfl dX9_takeBits_76 (fun v w1 hw => ?_) [] rfl (fun _ _ h => h.elim)
          obtain ⟨r_38, v_place_39, v_over_40, rfl, rfl, h⟩ := hw
          refine a_ws (st1 := [.int r_38]) (ws1 := [(h0, oX9 d0 v_thrown v_taped v_at v_documents v_terms v_latest v_filed v_drafted v_place_39 v_over_40 v_clock v_askedTerms v_segments v_done v_postingsDone v_postingsAll v_why v_hits), ((d0 21), aI cs 16000 v_file), ((d0 27), aI cs 40 v_gap)]) k n9 79 [1, 2, 0] rfl rfl rfl rfl (by decide) rfl ?_
          refine a_istore_n C (pc := 79) (lv1 := [(0, .ref h0), (1, .int l1), (2, .int l2), (3, .int r_38), (4, .int l4)]) [1, 2, 3, 0, 4] dX9_takeBits_79 rfl (by decide) rfl ?_
          exact w_X9_takeBits_80 C hkm hnm v_place_39 v_over_40 v_gap l1 l2 r_38 l4 h (fun v_place_48 v_over_49 v_gap_50 l1_51 l2_52 l3_53 l4_54 h => ih v_place_48 v_over_49 v_gap_50 l1_51 l2_52 l3_53 l4_54 h hK_112) hK_112
set_option maxRecDepth 100000 in
set_option maxHeartbeats 4000000 in
theorem m_X9_takeBits (Lx : Launch) (Dx : va_G) (cs : Nat → ClassId) (h0 : Nat) (d0 : Nat → Nat) (v_thrown : Int32) (v_taped : Int32) (v_at : Int32) (v_documents : Int32) (v_terms : Int32) (v_latest : Int32) (v_filed : Int32) (v_drafted : Int32) (v_place : Int32) (v_over : Int32) (v_clock : Int64) (v_askedTerms : Int32) (v_segments : Int32) (v_done : Int32) (v_postingsDone : Int32) (v_postingsAll : Int32) (v_why : Int32) (v_hits : Int32) (v_file : Nat → Int32) (v_gap : Nat → Int32) (l1 : Int32) (Φ : Int32 → Int32 → (Nat → Int32) → Prop) (h : P_X9_takeBits v_filed v_place v_over v_file v_gap l1 Φ) : XMet Lx Dx cs yX9_takeBits cX9_takeBits 5 none 1 20 0 0 [.ref h0, .int l1] [(h0, oX9 d0 v_thrown v_taped v_at v_documents v_terms v_latest v_filed v_drafted v_place v_over v_clock v_askedTerms v_segments v_done v_postingsDone v_postingsAll v_why v_hits), ((d0 21), aI cs 16000 v_file), ((d0 27), aI cs 40 v_gap)] (R_X9_takeBits cs h0 d0 v_thrown v_taped v_at v_documents v_terms v_latest v_filed v_drafted v_clock v_askedTerms v_segments v_done v_postingsDone v_postingsAll v_why v_hits v_file Φ) (fun _ _ => False) := by
  refine XMet.of (own := RX9) (nm := "takeBits") (by decide) rfl rfl (Nat.le_of_ble_eq_true rfl) (fun Γ C => ?_)
  unfold P_X9_takeBits at h
  refine a_aload_n C (pc := 0) 0 dX9_takeBits_0 rfl rfl ?_
  refine a_callV C (pc := 1) (av := []) (wr := [((d0 27), aI cs 40 v_gap)]) (m_X9_take Lx Dx cs h0 d0 v_thrown v_taped v_at v_documents v_terms v_latest v_filed v_drafted v_place v_over v_clock v_askedTerms v_segments v_done v_postingsDone v_postingsAll v_why v_hits v_file _ h) [0, 1] [2] rfl rfl (by decide) (by decide) (by decide) wM_X9_229 wb_X9_take hy_X9_take (q0 := 0) rfl rfl rfl ⟨Nat.le_of_ble_eq_true rfl, Nat.le_of_ble_eq_true rfl⟩ (Nat.le_of_ble_eq_true rfl) (Nat.le_of_ble_eq_true rfl) (Nat.le_of_ble_eq_true rfl) rfl dX9_takeBits_1 (fun v w1 hw => ?_) [] rfl (fun _ _ h => h.elim)
  obtain ⟨r_1, v_place_2, v_over_3, rfl, rfl, h⟩ := hw
  refine a_ws (st1 := [.int r_1]) (ws1 := [(h0, oX9 d0 v_thrown v_taped v_at v_documents v_terms v_latest v_filed v_drafted v_place_2 v_over_3 v_clock v_askedTerms v_segments v_done v_postingsDone v_postingsAll v_why v_hits), ((d0 21), aI cs 16000 v_file), ((d0 27), aI cs 40 v_gap)]) 0 0 4 [1, 2, 0] rfl rfl rfl rfl (by decide) rfl ?_
  refine a_istore_n C (pc := 4) (lv1 := [(0, .ref h0), (1, .int l1), (2, .int r_1)]) [1, 2, 0] dX9_takeBits_4 rfl (by decide) rfl ?_
  refine a_aload_n C (pc := 5) 0 dX9_takeBits_5 rfl rfl ?_
  refine a_aload_n C (pc := 6) 0 dX9_takeBits_6 rfl rfl ?_
  refine a_get C (pc := 7) 0 26 inW_X9 rfl rfl (Nat.le_of_ble_eq_true rfl) wF_X9_225 rfl rfl dX9_takeBits_7 ?_
  refine a_if_ne C (pc := 10) 19 dX9_takeBits_10 (by decide) (fun hc => ?_) (fun hc => ?_)
  · have h := h.1 hc
    refine a_iconst C (pc := 19) dX9_takeBits_19 ic_1 ?_
    refine a_goto C (pc := 20) 24 dX9_takeBits_20 (by decide) ?_
    refine a_put C (pc := 24) (ws1 := [(h0, oX9 d0 v_thrown v_taped v_at v_documents v_terms v_latest v_filed v_drafted v_place_2 1 v_clock v_askedTerms v_segments v_done v_postingsDone v_postingsAll v_why v_hits), ((d0 21), aI cs 16000 v_file), ((d0 27), aI cs 40 v_gap)]) 0 26 inW_X9 tyX9 tyX9_ok nmX9 rfl rfl (Nat.le_of_ble_eq_true rfl) wF_X9_225 rfl rfl rfl rfl rfl (Nat.le_of_ble_eq_true rfl) dX9_takeBits_24 rfl ?_
    refine a_iconst C (pc := 27) dX9_takeBits_27 ic_0 ?_
    refine a_istore_n C (pc := 28) (lv1 := [(0, .ref h0), (1, .int l1), (2, .int r_1), (3, .int 0)]) [1, 2, 3, 0] dX9_takeBits_28 rfl (by decide) rfl ?_
    obtain ⟨n0, h⟩ := h
    refine w_X9_takeBits_29 C (Nat.le_of_ble_eq_true rfl) (Nat.le_of_ble_eq_true rfl) n0 v_place_2 1 v_gap l1 r_1 0 h ?_
    intro v_place_9 v_over_10 v_gap_11 l1_12 l2_13 h
    refine a_iconst C (pc := 47) dX9_takeBits_47 ic_0 ?_
    refine a_istore_n C (pc := 48) (lv1 := [(0, .ref h0), (1, .int l1_12), (2, .int l2_13), (3, .int 0)]) [1, 2, 3, 0] dX9_takeBits_48 rfl (by decide) rfl ?_
    refine a_iconst C (pc := 49) dX9_takeBits_49 ic_0 ?_
    refine a_istore C (pc := 50) (lv1 := [(0, .ref h0), (1, .int l1_12), (2, .int l2_13), (3, .int 0), (4, .int 0)]) [1, 2, 3, 4, 0] dX9_takeBits_50 (by decide) rfl ?_
    obtain ⟨n0, h⟩ := h
    refine w_X9_takeBits_52 C (Nat.le_of_ble_eq_true rfl) (Nat.le_of_ble_eq_true rfl) n0 v_place_9 v_over_10 v_gap_11 l1_12 l2_13 0 0 h ?_
    intro v_place_58 v_over_59 v_gap_60 h
    exact a_return C (pc := 112) rfl dX9_takeBits_112 (Nat.le_of_ble_eq_true rfl) (Nat.le_of_ble_eq_true rfl) ⟨_, _, _, rfl, rfl, h⟩
  · have h := h.2 hc
    refine a_iload_n C (pc := 13) 2 dX9_takeBits_13 rfl rfl ?_
    refine a_bipush C (pc := 14) dX9_takeBits_14 bp_6 ?_
    refine a_icmp_le C (pc := 16) 23 dX9_takeBits_16 (by decide) (fun hc => ?_) (fun hc => ?_)
    · have h := h.1 hc
      refine a_iconst C (pc := 23) dX9_takeBits_23 ic_0 ?_
      refine a_put C (pc := 24) (ws1 := [(h0, oX9 d0 v_thrown v_taped v_at v_documents v_terms v_latest v_filed v_drafted v_place_2 0 v_clock v_askedTerms v_segments v_done v_postingsDone v_postingsAll v_why v_hits), ((d0 21), aI cs 16000 v_file), ((d0 27), aI cs 40 v_gap)]) 0 26 inW_X9 tyX9 tyX9_ok nmX9 rfl rfl (Nat.le_of_ble_eq_true rfl) wF_X9_225 rfl rfl rfl rfl rfl (Nat.le_of_ble_eq_true rfl) dX9_takeBits_24 rfl ?_
      refine a_iconst C (pc := 27) dX9_takeBits_27 ic_0 ?_
      refine a_istore_n C (pc := 28) (lv1 := [(0, .ref h0), (1, .int l1), (2, .int r_1), (3, .int 0)]) [1, 2, 3, 0] dX9_takeBits_28 rfl (by decide) rfl ?_
      obtain ⟨n0, h⟩ := h
      refine w_X9_takeBits_29 C (Nat.le_of_ble_eq_true rfl) (Nat.le_of_ble_eq_true rfl) n0 v_place_2 0 v_gap l1 r_1 0 h ?_
      intro v_place_61 v_over_62 v_gap_63 l1_64 l2_65 h
      refine a_iconst C (pc := 47) dX9_takeBits_47 ic_0 ?_
      refine a_istore_n C (pc := 48) (lv1 := [(0, .ref h0), (1, .int l1_64), (2, .int l2_65), (3, .int 0)]) [1, 2, 3, 0] dX9_takeBits_48 rfl (by decide) rfl ?_
      refine a_iconst C (pc := 49) dX9_takeBits_49 ic_0 ?_
      refine a_istore C (pc := 50) (lv1 := [(0, .ref h0), (1, .int l1_64), (2, .int l2_65), (3, .int 0), (4, .int 0)]) [1, 2, 3, 4, 0] dX9_takeBits_50 (by decide) rfl ?_
      obtain ⟨n0, h⟩ := h
      refine w_X9_takeBits_52 C (Nat.le_of_ble_eq_true rfl) (Nat.le_of_ble_eq_true rfl) n0 v_place_61 v_over_62 v_gap_63 l1_64 l2_65 0 0 h ?_
      intro v_place_66 v_over_67 v_gap_68 h
      exact a_return C (pc := 112) rfl dX9_takeBits_112 (Nat.le_of_ble_eq_true rfl) (Nat.le_of_ble_eq_true rfl) ⟨_, _, _, rfl, rfl, h⟩
    · have h := h.2 hc
      refine a_iconst C (pc := 19) dX9_takeBits_19 ic_1 ?_
      refine a_goto C (pc := 20) 24 dX9_takeBits_20 (by decide) ?_
      refine a_put C (pc := 24) (ws1 := [(h0, oX9 d0 v_thrown v_taped v_at v_documents v_terms v_latest v_filed v_drafted v_place_2 1 v_clock v_askedTerms v_segments v_done v_postingsDone v_postingsAll v_why v_hits), ((d0 21), aI cs 16000 v_file), ((d0 27), aI cs 40 v_gap)]) 0 26 inW_X9 tyX9 tyX9_ok nmX9 rfl rfl (Nat.le_of_ble_eq_true rfl) wF_X9_225 rfl rfl rfl rfl rfl (Nat.le_of_ble_eq_true rfl) dX9_takeBits_24 rfl ?_
      refine a_iconst C (pc := 27) dX9_takeBits_27 ic_0 ?_
      refine a_istore_n C (pc := 28) (lv1 := [(0, .ref h0), (1, .int l1), (2, .int r_1), (3, .int 0)]) [1, 2, 3, 0] dX9_takeBits_28 rfl (by decide) rfl ?_
      obtain ⟨n0, h⟩ := h
      refine w_X9_takeBits_29 C (Nat.le_of_ble_eq_true rfl) (Nat.le_of_ble_eq_true rfl) n0 v_place_2 1 v_gap l1 r_1 0 h ?_
      intro v_place_69 v_over_70 v_gap_71 l1_72 l2_73 h
      refine a_iconst C (pc := 47) dX9_takeBits_47 ic_0 ?_
      refine a_istore_n C (pc := 48) (lv1 := [(0, .ref h0), (1, .int l1_72), (2, .int l2_73), (3, .int 0)]) [1, 2, 3, 0] dX9_takeBits_48 rfl (by decide) rfl ?_
      refine a_iconst C (pc := 49) dX9_takeBits_49 ic_0 ?_
      refine a_istore C (pc := 50) (lv1 := [(0, .ref h0), (1, .int l1_72), (2, .int l2_73), (3, .int 0), (4, .int 0)]) [1, 2, 3, 4, 0] dX9_takeBits_50 (by decide) rfl ?_
      obtain ⟨n0, h⟩ := h
      refine w_X9_takeBits_52 C (Nat.le_of_ble_eq_true rfl) (Nat.le_of_ble_eq_true rfl) n0 v_place_69 v_over_70 v_gap_71 l1_72 l2_73 0 0 h ?_
      intro v_place_74 v_over_75 v_gap_76 h
      exact a_return C (pc := 112) rfl dX9_takeBits_112 (Nat.le_of_ble_eq_true rfl) (Nat.le_of_ble_eq_true rfl) ⟨_, _, _, rfl, rfl, h⟩
set_option maxRecDepth 100000 in
set_option maxHeartbeats 4000000 in
theorem w_X9_takeGaps_88 {Γ : XG} {Lx : Launch} {Dx : va_G} {cs : Nat → ClassId} {h0 : Nat} {d0 : Nat → Nat} {v_thrown : Int32} {v_taped : Int32} {v_at : Int32} {v_documents : Int32} {v_terms : Int32} {v_latest : Int32} {v_filed : Int32} {v_drafted : Int32} {v_clock : Int64} {v_askedTerms : Int32} {v_segments : Int32} {v_done : Int32} {v_postingsDone : Int32} {v_postingsAll : Int32} {v_why : Int32} {v_hits : Int32} {v_file : Nat → Int32} {K_117 : Int32 → Int32 → (Nat → Int32) → Int32 → Int32 → Int64 → Prop} {Φ : Int32 → Int32 → (Nat → Int32) → Prop} {k n9 : Nat} (C : CX Γ Lx Dx cs cX9_takeGaps RX9 "takeGaps" 10 none 2 44 0 0 (qEC cs 0 0 [] (R_X9_takeGaps cs h0 d0 v_thrown v_taped v_at v_documents v_terms v_latest v_filed v_drafted v_clock v_askedTerms v_segments v_done v_postingsDone v_postingsAll v_why v_hits v_file Φ) (fun _ _ => False))) (hkm : k ≤ 0) (hnm : n9 ≤ 0) : ∀ n : Nat, ∀ (v_place : Int32) (v_over : Int32) (v_gap : Nat → Int32) (l2 : Int32) (l3 : Int32) (l4 : Int64) (l6 : Int32), L_X9_takeGaps_88 n v_filed v_place v_over v_file v_gap l2 l3 l4 l6 K_117 Φ → (∀ (v_place_7 : Int32) (v_over_8 : Int32) (v_gap_9 : Nat → Int32) (l2_10 : Int32) (l3_11 : Int32) (l4_12 : Int64), K_117 v_place_7 v_over_8 v_gap_9 l2_10 l3_11 l4_12 → AW Γ k n9 117 [(0, .ref h0), (2, .int l2_10), (3, .int l3_11), (4, .long l4_12)] [] [(h0, oX9 d0 v_thrown v_taped v_at v_documents v_terms v_latest v_filed v_drafted v_place_7 v_over_8 v_clock v_askedTerms v_segments v_done v_postingsDone v_postingsAll v_why v_hits), ((d0 21), aI cs 16000 v_file), ((d0 27), aI cs 40 v_gap_9)]) → AW Γ k n9 88 [(0, .ref h0), (2, .int l2), (3, .int l3), (4, .long l4), (6, .int l6)] [] [(h0, oX9 d0 v_thrown v_taped v_at v_documents v_terms v_latest v_filed v_drafted v_place v_over v_clock v_askedTerms v_segments v_done v_postingsDone v_postingsAll v_why v_hits), ((d0 21), aI cs 16000 v_file), ((d0 27), aI cs 40 v_gap)] := by
  intro n
  induction n with
  | zero =>
    intro v_place v_over v_gap l2 l3 l4 l6 h
    exact False.elim h
  | succ n ih =>
    intro v_place v_over v_gap l2 l3 l4 l6 h hK_117
    rw [L_X9_takeGaps_88] at h
    refine a_iload C (pc := 88) 4 dX9_takeGaps_88 rfl ?_
    refine a_bipush C (pc := 90) dX9_takeGaps_90 bp_8 ?_
    refine a_icmp_ge C (pc := 92) 117 dX9_takeGaps_92 (by decide) (fun hc => ?_) (fun hc => ?_)
    · have h := h.1 hc
      refine a_lv (lv1 := [(0, .ref h0), (2, .int l2), (3, .int l3), (4, .long l4)]) [0, 1, 2, 3] rfl ?_
      exact hK_117 v_place v_over v_gap l2 l3 l4 h
    · have h := h.2 hc
      refine a_lload C (pc := 95) 3 dX9_takeGaps_95 rfl ?_
      refine a_aload_n C (pc := 97) 0 dX9_takeGaps_97 rfl rfl ?_
      refine a_callV C (pc := 98) (av := []) (wr := [((d0 27), aI cs 40 v_gap)]) (m_X9_take Lx Dx cs h0 d0 v_thrown v_taped v_at v_documents v_terms v_latest v_filed v_drafted v_place v_over v_clock v_askedTerms v_segments v_done v_postingsDone v_postingsAll v_why v_hits v_file _ h) [0, 1] [2] rfl rfl (by decide) (by decide) (by decide) wM_X9_229 wb_X9_take hy_X9_take (q0 := 0) rfl rfl rfl ⟨Nat.le_of_ble_eq_true rfl, Nat.le_of_ble_eq_true rfl⟩ (Nat.le_of_ble_eq_true rfl) hkm hnm rfl dX9_takeGaps_98 (fun v w1 hw => ?_) [] rfl (fun _ _ h => h.elim)
      obtain ⟨r_4, v_place_5, v_over_6, rfl, rfl, h⟩ := hw
      refine a_ws (st1 := [.int r_4, .long l4]) (ws1 := [(h0, oX9 d0 v_thrown v_taped v_at v_documents v_terms v_latest v_filed v_drafted v_place_5 v_over_6 v_clock v_askedTerms v_segments v_done v_postingsDone v_postingsAll v_why v_hits), ((d0 21), aI cs 16000 v_file), ((d0 27), aI cs 40 v_gap)]) k n9 101 [1, 2, 0] rfl rfl rfl rfl (by decide) rfl ?_
      refine a_i2l C (pc := 101) dX9_takeGaps_101 ?_
      refine a_bipush C (pc := 102) dX9_takeGaps_102 bp_8 ?_
      refine a_iload C (pc := 104) 4 dX9_takeGaps_104 rfl ?_
      refine a_imul C (pc := 106) dX9_takeGaps_106 ?_
      refine a_lshl C (pc := 107) dX9_takeGaps_107 ?_
      refine a_lor C (pc := 108) dX9_takeGaps_108 ?_
      refine a_lstore C (pc := 109) (lv1 := [(0, .ref h0), (2, .int l2), (3, .int l3), (4, .long (l4 ||| (((r_4 : Int32).toInt64) <<< ((8 * l6).toInt64 &&& 63)))), (6, .int l6)]) [1, 2, 3, 0, 4] dX9_takeGaps_109 (by decide) rfl ?_
      refine a_iinc C (pc := 111) (lv1 := [(0, .ref h0), (2, .int l2), (3, .int l3), (4, .long (l4 ||| (((r_4 : Int32).toInt64) <<< ((8 * l6).toInt64 &&& 63)))), (6, .int (l6 + 1))]) 4 [1, 2, 3, 4, 0] dX9_takeGaps_111 rfl (congrArg (fun z => l6 + z) ic_1) (by decide) rfl ?_
      refine a_goto C (pc := 114) 88 dX9_takeGaps_114 (by decide) ?_
      exact ih v_place_5 v_over_6 v_gap l2 l3 (l4 ||| (((r_4 : Int32).toInt64) <<< ((8 * l6).toInt64 &&& 63))) (l6 + 1) h hK_117
set_option maxRecDepth 100000 in
set_option maxHeartbeats 4000000 in
theorem w_X9_takeGaps_152 {Γ : XG} {Lx : Launch} {Dx : va_G} {cs : Nat → ClassId} {h0 : Nat} {d0 : Nat → Nat} {v_thrown : Int32} {v_taped : Int32} {v_at : Int32} {v_documents : Int32} {v_terms : Int32} {v_latest : Int32} {v_filed : Int32} {v_drafted : Int32} {v_clock : Int64} {v_askedTerms : Int32} {v_segments : Int32} {v_done : Int32} {v_postingsDone : Int32} {v_postingsAll : Int32} {v_why : Int32} {v_hits : Int32} {v_file : Nat → Int32} {K_227 : Int32 → Int32 → (Nat → Int32) → Int32 → Int32 → Prop} {Φ : Int32 → Int32 → (Nat → Int32) → Prop} {k n9 : Nat} (C : CX Γ Lx Dx cs cX9_takeGaps RX9 "takeGaps" 10 none 2 44 0 0 (qEC cs 0 0 [] (R_X9_takeGaps cs h0 d0 v_thrown v_taped v_at v_documents v_terms v_latest v_filed v_drafted v_clock v_askedTerms v_segments v_done v_postingsDone v_postingsAll v_why v_hits v_file Φ) (fun _ _ => False))) (hkm : k ≤ 0) (hnm : n9 ≤ 0) : ∀ n : Nat, ∀ (v_place : Int32) (v_over : Int32) (v_gap : Nat → Int32) (l2 : Int32) (l3 : Int32) (l4 : Int64) (l6 : Int32) (l7 : Int32), L_X9_takeGaps_152 n v_filed v_place v_over v_file v_gap l2 l3 l4 l6 l7 K_227 Φ → (∀ (v_place_22 : Int32) (v_over_23 : Int32) (v_gap_24 : Nat → Int32) (l2_25 : Int32) (l3_26 : Int32), K_227 v_place_22 v_over_23 v_gap_24 l2_25 l3_26 → AW Γ k n9 227 [(0, .ref h0), (2, .int l2_25), (3, .int l3_26)] [] [(h0, oX9 d0 v_thrown v_taped v_at v_documents v_terms v_latest v_filed v_drafted v_place_22 v_over_23 v_clock v_askedTerms v_segments v_done v_postingsDone v_postingsAll v_why v_hits), ((d0 21), aI cs 16000 v_file), ((d0 27), aI cs 40 v_gap_24)]) → AW Γ k n9 152 [(0, .ref h0), (2, .int l2), (3, .int l3), (4, .long l4), (6, .int l6), (7, .int l7)] [] [(h0, oX9 d0 v_thrown v_taped v_at v_documents v_terms v_latest v_filed v_drafted v_place v_over v_clock v_askedTerms v_segments v_done v_postingsDone v_postingsAll v_why v_hits), ((d0 21), aI cs 16000 v_file), ((d0 27), aI cs 40 v_gap)] := by
  intro n
  induction n with
  | zero =>
    intro v_place v_over v_gap l2 l3 l4 l6 l7 h
    exact False.elim h
  | succ n ih =>
    intro v_place v_over v_gap l2 l3 l4 l6 l7 h hK_227
    rw [L_X9_takeGaps_152] at h
    refine a_iload C (pc := 152) 5 dX9_takeGaps_152 rfl ?_
    refine a_bipush C (pc := 154) dX9_takeGaps_154 bp_60 ?_
    refine a_iload C (pc := 156) 4 dX9_takeGaps_156 rfl ?_
    refine a_callS C (pc := 158) (av := [.int l6]) (wr := [(h0, oX9 d0 v_thrown v_taped v_at v_documents v_terms v_latest v_filed v_drafted v_place v_over v_clock v_askedTerms v_segments v_done v_postingsDone v_postingsAll v_why v_hits), ((d0 21), aI cs 16000 v_file), ((d0 27), aI cs 40 v_gap)]) (m_X9_waySize Lx Dx cs l6 _ h) [] [0, 1, 2] rfl rfl (by decide) (by decide) (by decide) wM_X9_181 wb_X9_waySize hy_X9_waySize rfl ⟨Nat.le_of_ble_eq_true rfl, Nat.le_of_ble_eq_true rfl⟩ (Nat.le_of_ble_eq_true rfl) hkm hnm rfl dX9_takeGaps_158 (fun v w1 hw => ?_) [] rfl (fun _ _ h => h.elim)
    obtain ⟨r_19, rfl, rfl, h⟩ := hw
    refine a_ws (st1 := [.int r_19, .int 60, .int l7]) (ws1 := [(h0, oX9 d0 v_thrown v_taped v_at v_documents v_terms v_latest v_filed v_drafted v_place v_over v_clock v_askedTerms v_segments v_done v_postingsDone v_postingsAll v_why v_hits), ((d0 21), aI cs 16000 v_file), ((d0 27), aI cs 40 v_gap)]) k n9 161 [0, 1, 2] rfl rfl rfl rfl (by decide) rfl ?_
    refine a_idiv C (pc := 161) dX9_takeGaps_161 h.1 ?_
    replace h := h.2
    refine a_icmp_ge C (pc := 162) 227 dX9_takeGaps_162 (by decide) (fun hc => ?_) (fun hc => ?_)
    · have h := h.1 hc
      refine a_lv (lv1 := [(0, .ref h0), (2, .int l2), (3, .int l3)]) [0, 1, 2] rfl ?_
      exact hK_227 v_place v_over v_gap l2 l3 h
    · have h := h.2 hc
      refine a_iload_n C (pc := 165) 2 dX9_takeGaps_165 rfl rfl ?_
      refine a_iload_n C (pc := 166) 1 dX9_takeGaps_166 rfl rfl ?_
      refine a_icmp_ge C (pc := 167) 227 dX9_takeGaps_167 (by decide) (fun hc => ?_) (fun hc => ?_)
      · have h := h.1 hc
        refine a_lv (lv1 := [(0, .ref h0), (2, .int l2), (3, .int l3)]) [0, 1, 2] rfl ?_
        exact hK_227 v_place v_over v_gap l2 l3 h
      · have h := h.2 hc
        refine a_lload C (pc := 170) 3 dX9_takeGaps_170 rfl ?_
        refine a_iconst C (pc := 172) dX9_takeGaps_172 ic_4 ?_
        refine a_iload C (pc := 173) 4 dX9_takeGaps_173 rfl ?_
        refine a_callS C (pc := 175) (av := [.int l6]) (wr := [(h0, oX9 d0 v_thrown v_taped v_at v_documents v_terms v_latest v_filed v_drafted v_place v_over v_clock v_askedTerms v_segments v_done v_postingsDone v_postingsAll v_why v_hits), ((d0 21), aI cs 16000 v_file), ((d0 27), aI cs 40 v_gap)]) (m_X9_waySize Lx Dx cs l6 _ h) [] [0, 1, 2] rfl rfl (by decide) (by decide) (by decide) wM_X9_181 wb_X9_waySize hy_X9_waySize rfl ⟨Nat.le_of_ble_eq_true rfl, Nat.le_of_ble_eq_true rfl⟩ (Nat.le_of_ble_eq_true rfl) hkm hnm rfl dX9_takeGaps_175 (fun v w1 hw => ?_) [] rfl (fun _ _ h => h.elim)
        obtain ⟨r_20, rfl, rfl, h⟩ := hw
        refine a_ws (st1 := [.int r_20, .int 4, .long l4]) (ws1 := [(h0, oX9 d0 v_thrown v_taped v_at v_documents v_terms v_latest v_filed v_drafted v_place v_over v_clock v_askedTerms v_segments v_done v_postingsDone v_postingsAll v_why v_hits), ((d0 21), aI cs 16000 v_file), ((d0 27), aI cs 40 v_gap)]) k n9 178 [0, 1, 2] rfl rfl rfl rfl (by decide) rfl ?_
        refine a_iload C (pc := 178) 5 dX9_takeGaps_178 rfl ?_
        refine a_imul C (pc := 180) dX9_takeGaps_180 ?_
        refine a_iadd C (pc := 181) dX9_takeGaps_181 ?_
        refine a_lshr C (pc := 182) dX9_takeGaps_182 ?_
        refine a_lconst C (pc := 183) (v := 1) dX9_takeGaps_183 rfl ?_
        refine a_iload C (pc := 184) 4 dX9_takeGaps_184 rfl ?_
        refine a_callS C (pc := 186) (av := [.int l6]) (wr := [(h0, oX9 d0 v_thrown v_taped v_at v_documents v_terms v_latest v_filed v_drafted v_place v_over v_clock v_askedTerms v_segments v_done v_postingsDone v_postingsAll v_why v_hits), ((d0 21), aI cs 16000 v_file), ((d0 27), aI cs 40 v_gap)]) (m_X9_waySize Lx Dx cs l6 _ h) [] [0, 1, 2] rfl rfl (by decide) (by decide) (by decide) wM_X9_181 wb_X9_waySize hy_X9_waySize rfl ⟨Nat.le_of_ble_eq_true rfl, Nat.le_of_ble_eq_true rfl⟩ (Nat.le_of_ble_eq_true rfl) hkm hnm rfl dX9_takeGaps_186 (fun v w1 hw => ?_) [] rfl (fun _ _ h => h.elim)
        obtain ⟨r_21, rfl, rfl, h⟩ := hw
        refine a_ws (st1 := [.int r_21, .long 1, .long (l4 >>> ((4 + (r_20 * l7)).toInt64 &&& 63))]) (ws1 := [(h0, oX9 d0 v_thrown v_taped v_at v_documents v_terms v_latest v_filed v_drafted v_place v_over v_clock v_askedTerms v_segments v_done v_postingsDone v_postingsAll v_why v_hits), ((d0 21), aI cs 16000 v_file), ((d0 27), aI cs 40 v_gap)]) k n9 189 [0, 1, 2] rfl rfl rfl rfl (by decide) rfl ?_
        refine a_lshl C (pc := 189) dX9_takeGaps_189 ?_
        refine a_lconst C (pc := 190) (v := 1) dX9_takeGaps_190 rfl ?_
        refine a_lsub C (pc := 191) dX9_takeGaps_191 ?_
        refine a_land C (pc := 192) dX9_takeGaps_192 ?_
        refine a_lstore C (pc := 193) (lv1 := [(0, .ref h0), (2, .int l2), (3, .int l3), (4, .long l4), (6, .int l6), (7, .int l7), (8, .long ((l4 >>> ((4 + (r_20 * l7)).toInt64 &&& 63)) &&& (((1 : Int64) <<< (r_21.toInt64 &&& 63)) - 1)))]) [1, 2, 3, 4, 5, 6, 0] dX9_takeGaps_193 (by decide) rfl ?_
        refine a_aload_n C (pc := 195) 0 dX9_takeGaps_195 rfl rfl ?_
        refine a_get C (pc := 196) 0 27 inW_X9 rfl rfl (Nat.le_of_ble_eq_true rfl) wF_X9_62 rfl rfl dX9_takeGaps_196 ?_
        refine a_iload_n C (pc := 199) 2 dX9_takeGaps_199 rfl rfl ?_
        refine a_lload C (pc := 200) 6 dX9_takeGaps_200 rfl ?_
        refine a_ldc2 C (pc := 202) wC_X9_234 dX9_takeGaps_202 ?_
        refine a_lcmp_le C (pc := 205) 214 dX9_takeGaps_205 dX9_takeGaps_206 (by decide) (fun hc => ?_) (fun hc => ?_)
        · have h := h.1 hc
          refine a_lload C (pc := 214) 6 dX9_takeGaps_214 rfl ?_
          refine a_l2i C (pc := 216) dX9_takeGaps_216 ?_
          refine a_iast C (pc := 217) (ws1 := [(h0, oX9 d0 v_thrown v_taped v_at v_documents v_terms v_latest v_filed v_drafted v_place v_over v_clock v_askedTerms v_segments v_done v_postingsDone v_postingsAll v_why v_hits), ((d0 21), aI cs 16000 v_file), ((d0 27), aI cs 40 (upd v_gap (l3 : Int32).toNatClampNeg ((((l4 >>> ((4 + (r_20 * l7)).toInt64 &&& 63)) &&& (((1 : Int64) <<< (r_21.toInt64 &&& 63)) - 1)) : Int64).toInt32)))]) 2 rfl h.1 dX9_takeGaps_217 rfl ?_
          replace h := h.2
          refine a_iinc C (pc := 218) (lv1 := [(0, .ref h0), (2, .int l2), (3, .int (l3 + 1)), (4, .long l4), (6, .int l6), (7, .int l7), (8, .long ((l4 >>> ((4 + (r_20 * l7)).toInt64 &&& 63)) &&& (((1 : Int64) <<< (r_21.toInt64 &&& 63)) - 1)))]) 2 [1, 2, 0, 3, 4, 5, 6] dX9_takeGaps_218 rfl (congrArg (fun z => l3 + z) ic_1) (by decide) rfl ?_
          refine a_iinc C (pc := 221) (lv1 := [(0, .ref h0), (2, .int l2), (3, .int (l3 + 1)), (4, .long l4), (6, .int l6), (7, .int (l7 + 1)), (8, .long ((l4 >>> ((4 + (r_20 * l7)).toInt64 &&& 63)) &&& (((1 : Int64) <<< (r_21.toInt64 &&& 63)) - 1)))]) 5 [1, 2, 3, 4, 5, 0, 6] dX9_takeGaps_221 rfl (congrArg (fun z => l7 + z) ic_1) (by decide) rfl ?_
          refine a_goto C (pc := 224) 152 dX9_takeGaps_224 (by decide) ?_
          refine a_lv (lv1 := [(0, .ref h0), (2, .int l2), (3, .int (l3 + 1)), (4, .long l4), (6, .int l6), (7, .int (l7 + 1))]) [0, 1, 2, 3, 4, 5] rfl ?_
          exact ih v_place v_over (upd v_gap (l3 : Int32).toNatClampNeg ((((l4 >>> ((4 + (r_20 * l7)).toInt64 &&& 63)) &&& (((1 : Int64) <<< (r_21.toInt64 &&& 63)) - 1)) : Int64).toInt32)) l2 (l3 + 1) l4 l6 (l7 + 1) h hK_227
        · have h := h.2 hc
          refine a_bipush C (pc := 209) dX9_takeGaps_209 bp_100 ?_
          refine a_goto C (pc := 211) 217 dX9_takeGaps_211 (by decide) ?_
          refine a_iast C (pc := 217) (ws1 := [(h0, oX9 d0 v_thrown v_taped v_at v_documents v_terms v_latest v_filed v_drafted v_place v_over v_clock v_askedTerms v_segments v_done v_postingsDone v_postingsAll v_why v_hits), ((d0 21), aI cs 16000 v_file), ((d0 27), aI cs 40 (upd v_gap (l3 : Int32).toNatClampNeg 100))]) 2 rfl h.1 dX9_takeGaps_217 rfl ?_
          replace h := h.2
          refine a_iinc C (pc := 218) (lv1 := [(0, .ref h0), (2, .int l2), (3, .int (l3 + 1)), (4, .long l4), (6, .int l6), (7, .int l7), (8, .long ((l4 >>> ((4 + (r_20 * l7)).toInt64 &&& 63)) &&& (((1 : Int64) <<< (r_21.toInt64 &&& 63)) - 1)))]) 2 [1, 2, 0, 3, 4, 5, 6] dX9_takeGaps_218 rfl (congrArg (fun z => l3 + z) ic_1) (by decide) rfl ?_
          refine a_iinc C (pc := 221) (lv1 := [(0, .ref h0), (2, .int l2), (3, .int (l3 + 1)), (4, .long l4), (6, .int l6), (7, .int (l7 + 1)), (8, .long ((l4 >>> ((4 + (r_20 * l7)).toInt64 &&& 63)) &&& (((1 : Int64) <<< (r_21.toInt64 &&& 63)) - 1)))]) 5 [1, 2, 3, 4, 5, 0, 6] dX9_takeGaps_221 rfl (congrArg (fun z => l7 + z) ic_1) (by decide) rfl ?_
          refine a_goto C (pc := 224) 152 dX9_takeGaps_224 (by decide) ?_
          refine a_lv (lv1 := [(0, .ref h0), (2, .int l2), (3, .int (l3 + 1)), (4, .long l4), (6, .int l6), (7, .int (l7 + 1))]) [0, 1, 2, 3, 4, 5] rfl ?_
          exact ih v_place v_over (upd v_gap (l3 : Int32).toNatClampNeg 100) l2 (l3 + 1) l4 l6 (l7 + 1) h hK_227
set_option maxRecDepth 100000 in
set_option maxHeartbeats 4000000 in
theorem w_X9_takeGaps_70 {Γ : XG} {Lx : Launch} {Dx : va_G} {cs : Nat → ClassId} {h0 : Nat} {d0 : Nat → Nat} {v_thrown : Int32} {v_taped : Int32} {v_at : Int32} {v_documents : Int32} {v_terms : Int32} {v_latest : Int32} {v_filed : Int32} {v_drafted : Int32} {v_clock : Int64} {v_askedTerms : Int32} {v_segments : Int32} {v_done : Int32} {v_postingsDone : Int32} {v_postingsAll : Int32} {v_why : Int32} {v_hits : Int32} {v_file : Nat → Int32} {K_235 : Int32 → Int32 → (Nat → Int32) → Prop} {Φ : Int32 → Int32 → (Nat → Int32) → Prop} {k n9 : Nat} (C : CX Γ Lx Dx cs cX9_takeGaps RX9 "takeGaps" 10 none 2 44 0 0 (qEC cs 0 0 [] (R_X9_takeGaps cs h0 d0 v_thrown v_taped v_at v_documents v_terms v_latest v_filed v_drafted v_clock v_askedTerms v_segments v_done v_postingsDone v_postingsAll v_why v_hits v_file Φ) (fun _ _ => False))) (hkm : k ≤ 0) (hnm : n9 ≤ 0) : ∀ n : Nat, ∀ (v_place : Int32) (v_over : Int32) (v_gap : Nat → Int32) (l2 : Int32) (l3 : Int32), L_X9_takeGaps_70 n v_filed v_place v_over v_file v_gap l2 l3 K_235 Φ → (∀ (v_place_42 : Int32) (v_over_43 : Int32) (v_gap_44 : Nat → Int32), K_235 v_place_42 v_over_43 v_gap_44 → AW Γ k n9 235 [] [] [(h0, oX9 d0 v_thrown v_taped v_at v_documents v_terms v_latest v_filed v_drafted v_place_42 v_over_43 v_clock v_askedTerms v_segments v_done v_postingsDone v_postingsAll v_why v_hits), ((d0 21), aI cs 16000 v_file), ((d0 27), aI cs 40 v_gap_44)]) → AW Γ k n9 70 [(0, .ref h0), (2, .int l2), (3, .int l3)] [] [(h0, oX9 d0 v_thrown v_taped v_at v_documents v_terms v_latest v_filed v_drafted v_place v_over v_clock v_askedTerms v_segments v_done v_postingsDone v_postingsAll v_why v_hits), ((d0 21), aI cs 16000 v_file), ((d0 27), aI cs 40 v_gap)] := by
  intro n
  induction n with
  | zero =>
    intro v_place v_over v_gap l2 l3 h
    exact False.elim h
  | succ n ih =>
    intro v_place v_over v_gap l2 l3 h hK_235
    rw [L_X9_takeGaps_70] at h
    refine a_iload_n C (pc := 70) 2 dX9_takeGaps_70 rfl rfl ?_
    refine a_iload_n C (pc := 71) 1 dX9_takeGaps_71 rfl rfl ?_
    refine a_icmp_ge C (pc := 72) 235 dX9_takeGaps_72 (by decide) (fun hc => ?_) (fun hc => ?_)
    · have h := h.1 hc
      refine a_lv (lv1 := []) [] rfl ?_
      exact hK_235 v_place v_over v_gap h
    · have h := h.2 hc
      refine a_aload_n C (pc := 75) 0 dX9_takeGaps_75 rfl rfl ?_
      refine a_get C (pc := 76) 0 26 inW_X9 rfl rfl (Nat.le_of_ble_eq_true rfl) wF_X9_225 rfl rfl dX9_takeGaps_76 ?_
      refine a_if_ne C (pc := 79) 235 dX9_takeGaps_79 (by decide) (fun hc => ?_) (fun hc => ?_)
      · have h := h.1 hc
        refine a_lv (lv1 := []) [] rfl ?_
        exact hK_235 v_place v_over v_gap h
      · have h := h.2 hc
        refine a_lconst C (pc := 82) (v := 0) dX9_takeGaps_82 rfl ?_
        refine a_lstore C (pc := 83) (lv1 := [(0, .ref h0), (2, .int l2), (3, .int l3), (4, .long 0)]) [1, 2, 3, 0] dX9_takeGaps_83 (by decide) rfl ?_
        refine a_iconst C (pc := 85) dX9_takeGaps_85 ic_0 ?_
        refine a_istore C (pc := 86) (lv1 := [(0, .ref h0), (2, .int l2), (3, .int l3), (4, .long 0), (6, .int 0)]) [1, 2, 3, 4, 0] dX9_takeGaps_86 (by decide) rfl ?_
        obtain ⟨n0, h⟩ := h
        refine w_X9_takeGaps_88 C hkm hnm n0 v_place v_over v_gap l2 l3 0 0 h ?_
        intro v_place_13 v_over_14 v_gap_15 l2_16 l3_17 l4_18 h
        refine a_lload C (pc := 117) 3 dX9_takeGaps_117 rfl ?_
        refine a_ldc2 C (pc := 119) wC_X9_232 dX9_takeGaps_119 ?_
        refine a_land C (pc := 122) dX9_takeGaps_122 ?_
        refine a_l2i C (pc := 123) dX9_takeGaps_123 ?_
        refine a_istore C (pc := 124) (lv1 := [(0, .ref h0), (2, .int l2_16), (3, .int l3_17), (4, .long l4_18), (6, .int (((l4_18 &&& 15) : Int64).toInt32))]) [1, 2, 3, 4, 0] dX9_takeGaps_124 (by decide) rfl ?_
        refine a_aload_n C (pc := 126) 0 dX9_takeGaps_126 rfl rfl ?_
        refine a_aload_n C (pc := 127) 0 dX9_takeGaps_127 rfl rfl ?_
        refine a_get C (pc := 128) 0 26 inW_X9 rfl rfl (Nat.le_of_ble_eq_true rfl) wF_X9_225 rfl rfl dX9_takeGaps_128 ?_
        refine a_if_ne C (pc := 131) 141 dX9_takeGaps_131 (by decide) (fun hc => ?_) (fun hc => ?_)
        · have h := h.1 hc
          refine a_iconst C (pc := 141) dX9_takeGaps_141 ic_1 ?_
          refine a_goto C (pc := 142) 146 dX9_takeGaps_142 (by decide) ?_
          refine a_put C (pc := 146) (ws1 := [(h0, oX9 d0 v_thrown v_taped v_at v_documents v_terms v_latest v_filed v_drafted v_place_13 1 v_clock v_askedTerms v_segments v_done v_postingsDone v_postingsAll v_why v_hits), ((d0 21), aI cs 16000 v_file), ((d0 27), aI cs 40 v_gap_15)]) 0 26 inW_X9 tyX9 tyX9_ok nmX9 rfl rfl (Nat.le_of_ble_eq_true rfl) wF_X9_225 rfl rfl rfl rfl rfl (Nat.le_of_ble_eq_true rfl) dX9_takeGaps_146 rfl ?_
          refine a_iconst C (pc := 149) dX9_takeGaps_149 ic_0 ?_
          refine a_istore C (pc := 150) (lv1 := [(0, .ref h0), (2, .int l2_16), (3, .int l3_17), (4, .long l4_18), (6, .int (((l4_18 &&& 15) : Int64).toInt32)), (7, .int 0)]) [1, 2, 3, 4, 5, 0] dX9_takeGaps_150 (by decide) rfl ?_
          obtain ⟨n0, h⟩ := h
          refine w_X9_takeGaps_152 C hkm hnm n0 v_place_13 1 v_gap_15 l2_16 l3_17 l4_18 (((l4_18 &&& 15) : Int64).toInt32) 0 h ?_
          intro v_place_27 v_over_28 v_gap_29 l2_30 l3_31 h
          refine a_goto C (pc := 227) 70 dX9_takeGaps_227 (by decide) ?_
          exact ih v_place_27 v_over_28 v_gap_29 l2_30 l3_31 h hK_235
        · have h := h.2 hc
          refine a_iload C (pc := 134) 4 dX9_takeGaps_134 rfl ?_
          refine a_bipush C (pc := 136) dX9_takeGaps_136 bp_10 ?_
          refine a_icmp_le C (pc := 138) 145 dX9_takeGaps_138 (by decide) (fun hc => ?_) (fun hc => ?_)
          · have h := h.1 hc
            refine a_iconst C (pc := 145) dX9_takeGaps_145 ic_0 ?_
            refine a_put C (pc := 146) (ws1 := [(h0, oX9 d0 v_thrown v_taped v_at v_documents v_terms v_latest v_filed v_drafted v_place_13 0 v_clock v_askedTerms v_segments v_done v_postingsDone v_postingsAll v_why v_hits), ((d0 21), aI cs 16000 v_file), ((d0 27), aI cs 40 v_gap_15)]) 0 26 inW_X9 tyX9 tyX9_ok nmX9 rfl rfl (Nat.le_of_ble_eq_true rfl) wF_X9_225 rfl rfl rfl rfl rfl (Nat.le_of_ble_eq_true rfl) dX9_takeGaps_146 rfl ?_
            refine a_iconst C (pc := 149) dX9_takeGaps_149 ic_0 ?_
            refine a_istore C (pc := 150) (lv1 := [(0, .ref h0), (2, .int l2_16), (3, .int l3_17), (4, .long l4_18), (6, .int (((l4_18 &&& 15) : Int64).toInt32)), (7, .int 0)]) [1, 2, 3, 4, 5, 0] dX9_takeGaps_150 (by decide) rfl ?_
            obtain ⟨n0, h⟩ := h
            refine w_X9_takeGaps_152 C hkm hnm n0 v_place_13 0 v_gap_15 l2_16 l3_17 l4_18 (((l4_18 &&& 15) : Int64).toInt32) 0 h ?_
            intro v_place_32 v_over_33 v_gap_34 l2_35 l3_36 h
            refine a_goto C (pc := 227) 70 dX9_takeGaps_227 (by decide) ?_
            exact ih v_place_32 v_over_33 v_gap_34 l2_35 l3_36 h hK_235
          · have h := h.2 hc
            refine a_iconst C (pc := 141) dX9_takeGaps_141 ic_1 ?_
            refine a_goto C (pc := 142) 146 dX9_takeGaps_142 (by decide) ?_
            refine a_put C (pc := 146) (ws1 := [(h0, oX9 d0 v_thrown v_taped v_at v_documents v_terms v_latest v_filed v_drafted v_place_13 1 v_clock v_askedTerms v_segments v_done v_postingsDone v_postingsAll v_why v_hits), ((d0 21), aI cs 16000 v_file), ((d0 27), aI cs 40 v_gap_15)]) 0 26 inW_X9 tyX9 tyX9_ok nmX9 rfl rfl (Nat.le_of_ble_eq_true rfl) wF_X9_225 rfl rfl rfl rfl rfl (Nat.le_of_ble_eq_true rfl) dX9_takeGaps_146 rfl ?_
            refine a_iconst C (pc := 149) dX9_takeGaps_149 ic_0 ?_
            refine a_istore C (pc := 150) (lv1 := [(0, .ref h0), (2, .int l2_16), (3, .int l3_17), (4, .long l4_18), (6, .int (((l4_18 &&& 15) : Int64).toInt32)), (7, .int 0)]) [1, 2, 3, 4, 5, 0] dX9_takeGaps_150 (by decide) rfl ?_
            obtain ⟨n0, h⟩ := h
            refine w_X9_takeGaps_152 C hkm hnm n0 v_place_13 1 v_gap_15 l2_16 l3_17 l4_18 (((l4_18 &&& 15) : Int64).toInt32) 0 h ?_
            intro v_place_37 v_over_38 v_gap_39 l2_40 l3_41 h
            refine a_goto C (pc := 227) 70 dX9_takeGaps_227 (by decide) ?_
            exact ih v_place_37 v_over_38 v_gap_39 l2_40 l3_41 h hK_235
set_option maxRecDepth 100000 in
set_option maxHeartbeats 4000000 in
theorem w_X9_takeGaps_45 {Γ : XG} {Lx : Launch} {Dx : va_G} {cs : Nat → ClassId} {h0 : Nat} {d0 : Nat → Nat} {v_thrown : Int32} {v_taped : Int32} {v_at : Int32} {v_documents : Int32} {v_terms : Int32} {v_latest : Int32} {v_filed : Int32} {v_drafted : Int32} {v_clock : Int64} {v_askedTerms : Int32} {v_segments : Int32} {v_done : Int32} {v_postingsDone : Int32} {v_postingsAll : Int32} {v_why : Int32} {v_hits : Int32} {v_file : Nat → Int32} {B_6 : Int32 → Int32 → (Nat → Int32) → Int32 → Int32 → Prop} {K_235 : Int32 → Int32 → (Nat → Int32) → Prop} {Φ : Int32 → Int32 → (Nat → Int32) → Prop} {k n9 : Nat} (C : CX Γ Lx Dx cs cX9_takeGaps RX9 "takeGaps" 10 none 2 44 0 0 (qEC cs 0 0 [] (R_X9_takeGaps cs h0 d0 v_thrown v_taped v_at v_documents v_terms v_latest v_filed v_drafted v_clock v_askedTerms v_segments v_done v_postingsDone v_postingsAll v_why v_hits v_file Φ) (fun _ _ => False))) (hkm : k ≤ 0) (hnm : n9 ≤ 0) (v_place : Int32) (v_over : Int32) (v_gap : Nat → Int32) (l2 : Int32) (l3 : Int32) (l4 : Int32) (s1 : Int32) (h : J_X9_takeGaps_45 v_filed v_place v_over v_file v_gap l2 l3 l4 s1 B_6 K_235 Φ) (hB_6 : ∀ (v_place_51 : Int32) (v_over_52 : Int32) (v_gap_53 : Nat → Int32) (l2_54 : Int32) (l3_55 : Int32), B_6 v_place_51 v_over_52 v_gap_53 l2_54 l3_55 → AW Γ k n9 6 [(0, .ref h0), (2, .int l2_54), (3, .int l3_55)] [] [(h0, oX9 d0 v_thrown v_taped v_at v_documents v_terms v_latest v_filed v_drafted v_place_51 v_over_52 v_clock v_askedTerms v_segments v_done v_postingsDone v_postingsAll v_why v_hits), ((d0 21), aI cs 16000 v_file), ((d0 27), aI cs 40 v_gap_53)]) (hK_235 : ∀ (v_place_56 : Int32) (v_over_57 : Int32) (v_gap_58 : Nat → Int32), K_235 v_place_56 v_over_57 v_gap_58 → AW Γ k n9 235 [] [] [(h0, oX9 d0 v_thrown v_taped v_at v_documents v_terms v_latest v_filed v_drafted v_place_56 v_over_57 v_clock v_askedTerms v_segments v_done v_postingsDone v_postingsAll v_why v_hits), ((d0 21), aI cs 16000 v_file), ((d0 27), aI cs 40 v_gap_58)]) : AW Γ k n9 45 [(0, .ref h0), (2, .int l2), (3, .int l3), (4, .int l4)] [.int s1, .ref h0] [(h0, oX9 d0 v_thrown v_taped v_at v_documents v_terms v_latest v_filed v_drafted v_place v_over v_clock v_askedTerms v_segments v_done v_postingsDone v_postingsAll v_why v_hits), ((d0 21), aI cs 16000 v_file), ((d0 27), aI cs 40 v_gap)] := by
  unfold J_X9_takeGaps_45 at h
  refine a_put C (pc := 45) (ws1 := [(h0, oX9 d0 v_thrown v_taped v_at v_documents v_terms v_latest v_filed v_drafted v_place s1 v_clock v_askedTerms v_segments v_done v_postingsDone v_postingsAll v_why v_hits), ((d0 21), aI cs 16000 v_file), ((d0 27), aI cs 40 v_gap)]) 0 26 inW_X9 tyX9 tyX9_ok nmX9 rfl rfl (Nat.le_of_ble_eq_true rfl) wF_X9_225 rfl rfl rfl h.1.1 h.1.2 (Nat.le_of_ble_eq_true rfl) dX9_takeGaps_45 rfl ?_
  replace h := h.2
  refine a_aload_n C (pc := 48) 0 dX9_takeGaps_48 rfl rfl ?_
  refine a_get C (pc := 49) 0 27 inW_X9 rfl rfl (Nat.le_of_ble_eq_true rfl) wF_X9_62 rfl rfl dX9_takeGaps_49 ?_
  refine a_iload_n C (pc := 52) 2 dX9_takeGaps_52 rfl rfl ?_
  refine a_iload C (pc := 53) 3 dX9_takeGaps_53 rfl ?_
  refine a_bipush C (pc := 55) dX9_takeGaps_55 bp_127 ?_
  refine a_iand C (pc := 57) dX9_takeGaps_57 ?_
  refine a_iast C (pc := 58) (ws1 := [(h0, oX9 d0 v_thrown v_taped v_at v_documents v_terms v_latest v_filed v_drafted v_place s1 v_clock v_askedTerms v_segments v_done v_postingsDone v_postingsAll v_why v_hits), ((d0 21), aI cs 16000 v_file), ((d0 27), aI cs 40 (upd v_gap (l3 : Int32).toNatClampNeg (l4 &&& 127)))]) 2 rfl h.1 dX9_takeGaps_58 rfl ?_
  replace h := h.2
  refine a_iinc C (pc := 59) (lv1 := [(0, .ref h0), (2, .int l2), (3, .int (l3 + 1)), (4, .int l4)]) 2 [1, 2, 0, 3] dX9_takeGaps_59 rfl (congrArg (fun z => l3 + z) ic_1) (by decide) rfl ?_
  refine a_goto C (pc := 62) 6 dX9_takeGaps_62 (by decide) ?_
  refine a_lv (lv1 := [(0, .ref h0), (2, .int l2), (3, .int (l3 + 1))]) [0, 1, 2] rfl ?_
  exact hB_6 v_place s1 (upd v_gap (l3 : Int32).toNatClampNeg (l4 &&& 127)) l2 (l3 + 1) h
set_option maxRecDepth 100000 in
set_option maxHeartbeats 4000000 in
theorem w_X9_takeGaps_40 {Γ : XG} {Lx : Launch} {Dx : va_G} {cs : Nat → ClassId} {h0 : Nat} {d0 : Nat → Nat} {v_thrown : Int32} {v_taped : Int32} {v_at : Int32} {v_documents : Int32} {v_terms : Int32} {v_latest : Int32} {v_filed : Int32} {v_drafted : Int32} {v_clock : Int64} {v_askedTerms : Int32} {v_segments : Int32} {v_done : Int32} {v_postingsDone : Int32} {v_postingsAll : Int32} {v_why : Int32} {v_hits : Int32} {v_file : Nat → Int32} {B_6 : Int32 → Int32 → (Nat → Int32) → Int32 → Int32 → Prop} {K_235 : Int32 → Int32 → (Nat → Int32) → Prop} {Φ : Int32 → Int32 → (Nat → Int32) → Prop} {k n9 : Nat} (C : CX Γ Lx Dx cs cX9_takeGaps RX9 "takeGaps" 10 none 2 44 0 0 (qEC cs 0 0 [] (R_X9_takeGaps cs h0 d0 v_thrown v_taped v_at v_documents v_terms v_latest v_filed v_drafted v_clock v_askedTerms v_segments v_done v_postingsDone v_postingsAll v_why v_hits v_file Φ) (fun _ _ => False))) (hkm : k ≤ 0) (hnm : n9 ≤ 0) (v_place : Int32) (v_over : Int32) (v_gap : Nat → Int32) (l2 : Int32) (l3 : Int32) (l4 : Int32) (h : J_X9_takeGaps_40 v_filed v_place v_over v_file v_gap l2 l3 l4 B_6 K_235 Φ) (hB_6 : ∀ (v_place_59 : Int32) (v_over_60 : Int32) (v_gap_61 : Nat → Int32) (l2_62 : Int32) (l3_63 : Int32), B_6 v_place_59 v_over_60 v_gap_61 l2_62 l3_63 → AW Γ k n9 6 [(0, .ref h0), (2, .int l2_62), (3, .int l3_63)] [] [(h0, oX9 d0 v_thrown v_taped v_at v_documents v_terms v_latest v_filed v_drafted v_place_59 v_over_60 v_clock v_askedTerms v_segments v_done v_postingsDone v_postingsAll v_why v_hits), ((d0 21), aI cs 16000 v_file), ((d0 27), aI cs 40 v_gap_61)]) (hK_235 : ∀ (v_place_64 : Int32) (v_over_65 : Int32) (v_gap_66 : Nat → Int32), K_235 v_place_64 v_over_65 v_gap_66 → AW Γ k n9 235 [] [] [(h0, oX9 d0 v_thrown v_taped v_at v_documents v_terms v_latest v_filed v_drafted v_place_64 v_over_65 v_clock v_askedTerms v_segments v_done v_postingsDone v_postingsAll v_why v_hits), ((d0 21), aI cs 16000 v_file), ((d0 27), aI cs 40 v_gap_66)]) : AW Γ k n9 40 [(0, .ref h0), (2, .int l2), (3, .int l3), (4, .int l4)] [.ref h0] [(h0, oX9 d0 v_thrown v_taped v_at v_documents v_terms v_latest v_filed v_drafted v_place v_over v_clock v_askedTerms v_segments v_done v_postingsDone v_postingsAll v_why v_hits), ((d0 21), aI cs 16000 v_file), ((d0 27), aI cs 40 v_gap)] := by
  unfold J_X9_takeGaps_40 at h
  refine a_iconst C (pc := 40) dX9_takeGaps_40 ic_1 ?_
  refine a_goto C (pc := 41) 45 dX9_takeGaps_41 (by decide) ?_
  exact w_X9_takeGaps_45 C hkm hnm v_place v_over v_gap l2 l3 l4 1 h hB_6 hK_235
set_option maxRecDepth 100000 in
set_option maxHeartbeats 4000000 in
theorem w_X9_takeGaps_6 {Γ : XG} {Lx : Launch} {Dx : va_G} {cs : Nat → ClassId} {h0 : Nat} {d0 : Nat → Nat} {v_thrown : Int32} {v_taped : Int32} {v_at : Int32} {v_documents : Int32} {v_terms : Int32} {v_latest : Int32} {v_filed : Int32} {v_drafted : Int32} {v_clock : Int64} {v_askedTerms : Int32} {v_segments : Int32} {v_done : Int32} {v_postingsDone : Int32} {v_postingsAll : Int32} {v_why : Int32} {v_hits : Int32} {v_file : Nat → Int32} {K_235 : Int32 → Int32 → (Nat → Int32) → Prop} {Φ : Int32 → Int32 → (Nat → Int32) → Prop} {k n9 : Nat} (C : CX Γ Lx Dx cs cX9_takeGaps RX9 "takeGaps" 10 none 2 44 0 0 (qEC cs 0 0 [] (R_X9_takeGaps cs h0 d0 v_thrown v_taped v_at v_documents v_terms v_latest v_filed v_drafted v_clock v_askedTerms v_segments v_done v_postingsDone v_postingsAll v_why v_hits v_file Φ) (fun _ _ => False))) (hkm : k ≤ 0) (hnm : n9 ≤ 0) : ∀ n : Nat, ∀ (v_place : Int32) (v_over : Int32) (v_gap : Nat → Int32) (l2 : Int32) (l3 : Int32), L_X9_takeGaps_6 n v_filed v_place v_over v_file v_gap l2 l3 K_235 Φ → (∀ (v_place_97 : Int32) (v_over_98 : Int32) (v_gap_99 : Nat → Int32), K_235 v_place_97 v_over_98 v_gap_99 → AW Γ k n9 235 [] [] [(h0, oX9 d0 v_thrown v_taped v_at v_documents v_terms v_latest v_filed v_drafted v_place_97 v_over_98 v_clock v_askedTerms v_segments v_done v_postingsDone v_postingsAll v_why v_hits), ((d0 21), aI cs 16000 v_file), ((d0 27), aI cs 40 v_gap_99)]) → AW Γ k n9 6 [(0, .ref h0), (2, .int l2), (3, .int l3)] [] [(h0, oX9 d0 v_thrown v_taped v_at v_documents v_terms v_latest v_filed v_drafted v_place v_over v_clock v_askedTerms v_segments v_done v_postingsDone v_postingsAll v_why v_hits), ((d0 21), aI cs 16000 v_file), ((d0 27), aI cs 40 v_gap)] := by
  intro n
  induction n with
  | zero =>
    intro v_place v_over v_gap l2 l3 h
    exact False.elim h
  | succ n ih =>
    intro v_place v_over v_gap l2 l3 h hK_235
    rw [L_X9_takeGaps_6] at h
    refine a_iload_n C (pc := 6) 2 dX9_takeGaps_6 rfl rfl ?_
    refine a_iload_n C (pc := 7) 1 dX9_takeGaps_7 rfl rfl ?_
    refine a_icmp_ge C (pc := 8) 235 dX9_takeGaps_8 (by decide) (fun hc => ?_) (fun hc => ?_)
    · have h := h.1 hc
      refine a_lv (lv1 := []) [] rfl ?_
      exact hK_235 v_place v_over v_gap h
    · have h := h.2 hc
      refine a_aload_n C (pc := 11) 0 dX9_takeGaps_11 rfl rfl ?_
      refine a_get C (pc := 12) 0 26 inW_X9 rfl rfl (Nat.le_of_ble_eq_true rfl) wF_X9_225 rfl rfl dX9_takeGaps_12 ?_
      refine a_if_ne C (pc := 15) 235 dX9_takeGaps_15 (by decide) (fun hc => ?_) (fun hc => ?_)
      · have h := h.1 hc
        refine a_lv (lv1 := []) [] rfl ?_
        exact hK_235 v_place v_over v_gap h
      · have h := h.2 hc
        refine a_aload_n C (pc := 18) 0 dX9_takeGaps_18 rfl rfl ?_
        refine a_callV C (pc := 19) (av := []) (wr := [((d0 27), aI cs 40 v_gap)]) (m_X9_take Lx Dx cs h0 d0 v_thrown v_taped v_at v_documents v_terms v_latest v_filed v_drafted v_place v_over v_clock v_askedTerms v_segments v_done v_postingsDone v_postingsAll v_why v_hits v_file _ h) [0, 1] [2] rfl rfl (by decide) (by decide) (by decide) wM_X9_229 wb_X9_take hy_X9_take (q0 := 0) rfl rfl rfl ⟨Nat.le_of_ble_eq_true rfl, Nat.le_of_ble_eq_true rfl⟩ (Nat.le_of_ble_eq_true rfl) hkm hnm rfl dX9_takeGaps_19 (fun v w1 hw => ?_) [] rfl (fun _ _ h => h.elim)
        obtain ⟨r_48, v_place_49, v_over_50, rfl, rfl, h⟩ := hw
        refine a_ws (st1 := [.int r_48]) (ws1 := [(h0, oX9 d0 v_thrown v_taped v_at v_documents v_terms v_latest v_filed v_drafted v_place_49 v_over_50 v_clock v_askedTerms v_segments v_done v_postingsDone v_postingsAll v_why v_hits), ((d0 21), aI cs 16000 v_file), ((d0 27), aI cs 40 v_gap)]) k n9 22 [1, 2, 0] rfl rfl rfl rfl (by decide) rfl ?_
        refine a_istore C (pc := 22) (lv1 := [(0, .ref h0), (2, .int l2), (3, .int l3), (4, .int r_48)]) [1, 2, 3, 0] dX9_takeGaps_22 (by decide) rfl ?_
        refine a_aload_n C (pc := 24) 0 dX9_takeGaps_24 rfl rfl ?_
        refine a_aload_n C (pc := 25) 0 dX9_takeGaps_25 rfl rfl ?_
        refine a_get C (pc := 26) 0 26 inW_X9 rfl rfl (Nat.le_of_ble_eq_true rfl) wF_X9_225 rfl rfl dX9_takeGaps_26 ?_
        refine a_if_ne C (pc := 29) 40 dX9_takeGaps_29 (by decide) (fun hc => ?_) (fun hc => ?_)
        · have h := h.1 hc
          exact w_X9_takeGaps_40 C hkm hnm v_place_49 v_over_50 v_gap l2 l3 r_48 h (fun v_place_72 v_over_73 v_gap_74 l2_75 l3_76 h => ih v_place_72 v_over_73 v_gap_74 l2_75 l3_76 h hK_235) hK_235
        · have h := h.2 hc
          refine a_iload C (pc := 32) 3 dX9_takeGaps_32 rfl ?_
          refine a_sipush C (pc := 34) dX9_takeGaps_34 sp_128 ?_
          refine a_icmp_ge C (pc := 37) 44 dX9_takeGaps_37 (by decide) (fun hc => ?_) (fun hc => ?_)
          · have h := h.1 hc
            refine a_iconst C (pc := 44) dX9_takeGaps_44 ic_0 ?_
            exact w_X9_takeGaps_45 C hkm hnm v_place_49 v_over_50 v_gap l2 l3 r_48 0 h (fun v_place_82 v_over_83 v_gap_84 l2_85 l3_86 h => ih v_place_82 v_over_83 v_gap_84 l2_85 l3_86 h hK_235) hK_235
          · have h := h.2 hc
            exact w_X9_takeGaps_40 C hkm hnm v_place_49 v_over_50 v_gap l2 l3 r_48 h (fun v_place_92 v_over_93 v_gap_94 l2_95 l3_96 h => ih v_place_92 v_over_93 v_gap_94 l2_95 l3_96 h hK_235) hK_235
set_option maxRecDepth 100000 in
set_option maxHeartbeats 4000000 in
theorem m_X9_takeGaps (Lx : Launch) (Dx : va_G) (cs : Nat → ClassId) (h0 : Nat) (d0 : Nat → Nat) (v_thrown : Int32) (v_taped : Int32) (v_at : Int32) (v_documents : Int32) (v_terms : Int32) (v_latest : Int32) (v_filed : Int32) (v_drafted : Int32) (v_place : Int32) (v_over : Int32) (v_clock : Int64) (v_askedTerms : Int32) (v_segments : Int32) (v_done : Int32) (v_postingsDone : Int32) (v_postingsAll : Int32) (v_why : Int32) (v_hits : Int32) (v_file : Nat → Int32) (v_gap : Nat → Int32) (l1 : Int32) (l2 : Int32) (Φ : Int32 → Int32 → (Nat → Int32) → Prop) (h : P_X9_takeGaps v_filed v_place v_over v_file v_gap l1 l2 Φ) : XMet Lx Dx cs yX9_takeGaps cX9_takeGaps 10 none 2 44 0 0 [.ref h0, .int l1, .int l2] [(h0, oX9 d0 v_thrown v_taped v_at v_documents v_terms v_latest v_filed v_drafted v_place v_over v_clock v_askedTerms v_segments v_done v_postingsDone v_postingsAll v_why v_hits), ((d0 21), aI cs 16000 v_file), ((d0 27), aI cs 40 v_gap)] (R_X9_takeGaps cs h0 d0 v_thrown v_taped v_at v_documents v_terms v_latest v_filed v_drafted v_clock v_askedTerms v_segments v_done v_postingsDone v_postingsAll v_why v_hits v_file Φ) (fun _ _ => False) := by
  refine XMet.of (own := RX9) (nm := "takeGaps") (by decide) rfl rfl (Nat.le_of_ble_eq_true rfl) (fun Γ C => ?_)
  unfold P_X9_takeGaps at h
  refine a_iconst C (pc := 0) dX9_takeGaps_0 ic_0 ?_
  refine a_istore_n C (pc := 1) (lv1 := [(0, .ref h0), (1, .int l1), (2, .int l2), (3, .int 0)]) [1, 2, 3, 0] dX9_takeGaps_1 rfl (by decide) rfl ?_
  refine a_iload_n C (pc := 2) 1 dX9_takeGaps_2 rfl rfl ?_
  refine a_if_ne C (pc := 3) 65 dX9_takeGaps_3 (by decide) (fun hc => ?_) (fun hc => ?_)
  · have h := h.1 hc
    refine a_iload_n C (pc := 65) 1 dX9_takeGaps_65 rfl rfl ?_
    refine a_iconst C (pc := 66) dX9_takeGaps_66 ic_1 ?_
    refine a_icmp_ne C (pc := 67) 230 dX9_takeGaps_67 (by decide) (fun hc => ?_) (fun hc => ?_)
    · have h := h.1 hc
      refine a_aload_n C (pc := 230) 0 dX9_takeGaps_230 rfl rfl ?_
      refine a_iload_n C (pc := 231) 2 dX9_takeGaps_231 rfl rfl ?_
      refine a_callV C (pc := 232) (av := [.int l2]) (wr := []) (m_X9_takeBits Lx Dx cs h0 d0 v_thrown v_taped v_at v_documents v_terms v_latest v_filed v_drafted v_place v_over v_clock v_askedTerms v_segments v_done v_postingsDone v_postingsAll v_why v_hits v_file v_gap l2 _ h) [0, 1, 2] [] rfl rfl (by decide) (by decide) (by decide) wM_X9_236 wb_X9_takeBits hy_X9_takeBits (q0 := 0) rfl rfl rfl ⟨Nat.le_of_ble_eq_true rfl, Nat.le_of_ble_eq_true rfl⟩ (Nat.le_of_ble_eq_true rfl) (Nat.le_of_ble_eq_true rfl) (Nat.le_of_ble_eq_true rfl) rfl dX9_takeGaps_232 (fun v w1 hw => ?_) [] rfl (fun _ _ h => h.elim)
      obtain ⟨v_place_1, v_over_2, v_gap_3, rfl, rfl, h⟩ := hw
      refine a_ws (st1 := []) (ws1 := [(h0, oX9 d0 v_thrown v_taped v_at v_documents v_terms v_latest v_filed v_drafted v_place_1 v_over_2 v_clock v_askedTerms v_segments v_done v_postingsDone v_postingsAll v_why v_hits), ((d0 21), aI cs 16000 v_file), ((d0 27), aI cs 40 v_gap_3)]) 0 0 235 [0, 1, 2] rfl rfl rfl rfl (by decide) rfl ?_
      exact a_return C (pc := 235) rfl dX9_takeGaps_235 (Nat.le_of_ble_eq_true rfl) (Nat.le_of_ble_eq_true rfl) ⟨_, _, _, rfl, rfl, h⟩
    · have h := h.2 hc
      obtain ⟨n0, h⟩ := h
      refine a_lv (lv1 := [(0, .ref h0), (2, .int l2), (3, .int 0)]) [0, 2, 3] rfl ?_
      refine w_X9_takeGaps_70 C (Nat.le_of_ble_eq_true rfl) (Nat.le_of_ble_eq_true rfl) n0 v_place v_over v_gap l2 0 h ?_
      intro v_place_45 v_over_46 v_gap_47 h
      exact a_return C (pc := 235) rfl dX9_takeGaps_235 (Nat.le_of_ble_eq_true rfl) (Nat.le_of_ble_eq_true rfl) ⟨_, _, _, rfl, rfl, h⟩
  · have h := h.2 hc
    obtain ⟨n0, h⟩ := h
    refine a_lv (lv1 := [(0, .ref h0), (2, .int l2), (3, .int 0)]) [0, 2, 3] rfl ?_
    refine w_X9_takeGaps_6 C (Nat.le_of_ble_eq_true rfl) (Nat.le_of_ble_eq_true rfl) n0 v_place v_over v_gap l2 0 h ?_
    intro v_place_100 v_over_101 v_gap_102 h
    exact a_return C (pc := 235) rfl dX9_takeGaps_235 (Nat.le_of_ble_eq_true rfl) (Nat.le_of_ble_eq_true rfl) ⟨_, _, _, rfl, rfl, h⟩
