set_option maxRecDepth 100000 in
set_option maxHeartbeats 4000000 in
theorem w_X9_publish_98 {Γ : XG} {Lx : Launch} {Dx : va_G} {cs : Nat → ClassId} {h0 : Nat} {d0 : Nat → Nat} {v_taped : Int32} {v_at : Int32} {v_documents : Int32} {v_terms : Int32} {v_filed : Int32} {v_clock : Int64} {v_askedTerms : Int32} {v_segments : Int32} {v_done : Int32} {v_postingsDone : Int32} {v_postingsAll : Int32} {v_why : Int32} {v_hits : Int32} {v_file : Nat → Int32} {v_holds : Nat → Int32} {K_113 : Int32 → Int32 → Int32 → Int32 → Int32 → (Nat → Int32) → (Nat → Int32) → (Nat → Int32) → (Nat → Int32) → (Nat → Int32) → (Nat → Int32) → (Nat → Int32) → (Nat → Int32) → (Nat → Int32) → (Nat → Int32) → (Nat → Int32) → Int32 → Prop} {Φ : Int32 → Int32 → Int32 → Int32 → Int32 → Int32 → (Nat → Int32) → (Nat → Int32) → (Nat → Int32) → (Nat → Int32) → (Nat → Int32) → (Nat → Int32) → (Nat → Int32) → (Nat → Int32) → (Nat → Int32) → (Nat → Int32) → (Nat → Int32) → Prop} {k n9 : Nat} (C : CX Γ Lx Dx cs cX9_publish RX9 "publish" 4 (some .int) 5 127 0 0 (qEC cs 0 0 [] (R_X9_publish cs h0 d0 v_taped v_at v_documents v_terms v_filed v_clock v_askedTerms v_segments v_done v_postingsDone v_postingsAll v_why v_hits v_file v_holds Φ) (fun _ _ => False))) (hkm : k ≤ 0) (hnm : n9 ≤ 0) : ∀ n : Nat, ∀ (v_thrown : Int32) (v_latest : Int32) (v_drafted : Int32) (v_place : Int32) (v_over : Int32) (v_bits : Nat → Int32) (v_codec : Nat → Int32) (v_size : Nat → Int32) (v_words : Nat → Int32) (v_impact : Nat → Int32) (v_letter : Nat → Int32) (v_word : Nat → Int32) (v_gap : Nat → Int32) (v_draft : Nat → Int32) (v_kept : Nat → Int32) (v_generation : Nat → Int32) (l3 : Int32), L_X9_publish_98 n v_thrown v_latest v_filed v_drafted v_place v_over v_file v_bits v_codec v_size v_words v_impact v_letter v_word v_gap v_draft v_kept v_generation v_holds l3 K_113 Φ → (∀ (v_thrown_20 : Int32) (v_latest_21 : Int32) (v_drafted_22 : Int32) (v_place_23 : Int32) (v_over_24 : Int32) (v_bits_25 : Nat → Int32) (v_codec_26 : Nat → Int32) (v_size_27 : Nat → Int32) (v_words_28 : Nat → Int32) (v_impact_29 : Nat → Int32) (v_letter_30 : Nat → Int32) (v_word_31 : Nat → Int32) (v_gap_32 : Nat → Int32) (v_draft_33 : Nat → Int32) (v_kept_34 : Nat → Int32) (v_generation_35 : Nat → Int32) (l3_36 : Int32), K_113 v_thrown_20 v_latest_21 v_drafted_22 v_place_23 v_over_24 v_bits_25 v_codec_26 v_size_27 v_words_28 v_impact_29 v_letter_30 v_word_31 v_gap_32 v_draft_33 v_kept_34 v_generation_35 l3_36 → AW Γ k n9 113 [(0, .ref h0), (3, .int l3_36)] [] [(h0, oX9 d0 v_thrown_20 v_taped v_at v_documents v_terms v_latest_21 v_filed v_drafted_22 v_place_23 v_over_24 v_clock v_askedTerms v_segments v_done v_postingsDone v_postingsAll v_why v_hits), ((d0 21), aI cs 16000 v_file), ((d0 11), aI cs 5 v_bits_25), ((d0 12), aI cs 5 v_codec_26), ((d0 13), aI cs 5 v_size_27), ((d0 14), aI cs 5 v_words_28), ((d0 16), aI cs 12800 v_impact_29), ((d0 15), aI cs 2560 v_letter_30), ((d0 3), aI cs 8 v_word_31), ((d0 27), aI cs 40 v_gap_32), ((d0 22), aI cs 16000 v_draft_33), ((d0 18), aZ cs 5 v_kept_34), ((d0 17), aI cs 5 v_generation_35), ((d0 20), aI cs 4 v_holds)]) → AW Γ k n9 98 [(0, .ref h0), (3, .int l3)] [] [(h0, oX9 d0 v_thrown v_taped v_at v_documents v_terms v_latest v_filed v_drafted v_place v_over v_clock v_askedTerms v_segments v_done v_postingsDone v_postingsAll v_why v_hits), ((d0 21), aI cs 16000 v_file), ((d0 11), aI cs 5 v_bits), ((d0 12), aI cs 5 v_codec), ((d0 13), aI cs 5 v_size), ((d0 14), aI cs 5 v_words), ((d0 16), aI cs 12800 v_impact), ((d0 15), aI cs 2560 v_letter), ((d0 3), aI cs 8 v_word), ((d0 27), aI cs 40 v_gap), ((d0 22), aI cs 16000 v_draft), ((d0 18), aZ cs 5 v_kept), ((d0 17), aI cs 5 v_generation), ((d0 20), aI cs 4 v_holds)] := by
  intro n
  induction n with
  | zero =>
    intro v_thrown v_latest v_drafted v_place v_over v_bits v_codec v_size v_words v_impact v_letter v_word v_gap v_draft v_kept v_generation l3 h
    exact False.elim h
  | succ n ih =>
    intro v_thrown v_latest v_drafted v_place v_over v_bits v_codec v_size v_words v_impact v_letter v_word v_gap v_draft v_kept v_generation l3 h hK_113
    rw [L_X9_publish_98] at h
    refine a_aload_n C (pc := 98) 0 dX9_publish_98 rfl rfl ?_
    refine a_get C (pc := 99) 0 18 inW_X9 rfl rfl (Nat.le_of_ble_eq_true rfl) wF_X9_49 rfl rfl dX9_publish_99 ?_
    refine a_iload_n C (pc := 102) 1 dX9_publish_102 rfl rfl ?_
    refine a_zald C (pc := 103) 11 rfl h.1 dX9_publish_103 ?_
    replace h := h.2
    refine a_if_eq C (pc := 104) 113 dX9_publish_104 (by decide) (fun hc => ?_) (fun hc => ?_)
    · have h := h.1 hc
      exact hK_113 v_thrown v_latest v_drafted v_place v_over v_bits v_codec v_size v_words v_impact v_letter v_word v_gap v_draft v_kept v_generation l3 h
    · have h := h.2 hc
      refine a_iinc C (pc := 107) (lv1 := [(0, .ref h0), (3, .int (l3 + 1))]) 1 [1, 0] dX9_publish_107 rfl (congrArg (fun z => l3 + z) ic_1) (by decide) rfl ?_
      refine a_goto C (pc := 110) 98 dX9_publish_110 (by decide) ?_
      exact ih v_thrown v_latest v_drafted v_place v_over v_bits v_codec v_size v_words v_impact v_letter v_word v_gap v_draft v_kept v_generation (l3 + 1) h hK_113
set_option maxRecDepth 100000 in
set_option maxHeartbeats 4000000 in
theorem w_X9_publish_76 {Γ : XG} {Lx : Launch} {Dx : va_G} {cs : Nat → ClassId} {h0 : Nat} {d0 : Nat → Nat} {v_taped : Int32} {v_at : Int32} {v_documents : Int32} {v_terms : Int32} {v_filed : Int32} {v_clock : Int64} {v_askedTerms : Int32} {v_segments : Int32} {v_done : Int32} {v_postingsDone : Int32} {v_postingsAll : Int32} {v_why : Int32} {v_hits : Int32} {v_file : Nat → Int32} {v_holds : Nat → Int32} {Φ : Int32 → Int32 → Int32 → Int32 → Int32 → Int32 → (Nat → Int32) → (Nat → Int32) → (Nat → Int32) → (Nat → Int32) → (Nat → Int32) → (Nat → Int32) → (Nat → Int32) → (Nat → Int32) → (Nat → Int32) → (Nat → Int32) → (Nat → Int32) → Prop} {k n9 : Nat} (C : CX Γ Lx Dx cs cX9_publish RX9 "publish" 4 (some .int) 5 127 0 0 (qEC cs 0 0 [] (R_X9_publish cs h0 d0 v_taped v_at v_documents v_terms v_filed v_clock v_askedTerms v_segments v_done v_postingsDone v_postingsAll v_why v_hits v_file v_holds Φ) (fun _ _ => False))) (hkm : k ≤ 0) (hnm : n9 ≤ 0) (v_thrown : Int32) (v_latest : Int32) (v_drafted : Int32) (v_place : Int32) (v_over : Int32) (v_bits : Nat → Int32) (v_codec : Nat → Int32) (v_size : Nat → Int32) (v_words : Nat → Int32) (v_impact : Nat → Int32) (v_letter : Nat → Int32) (v_word : Nat → Int32) (v_gap : Nat → Int32) (v_draft : Nat → Int32) (v_kept : Nat → Int32) (v_generation : Nat → Int32) (l1 : Int32) (l2 : Int32) (s1 : Int32) (h : J_X9_publish_76 v_thrown v_latest v_filed v_drafted v_place v_over v_file v_bits v_codec v_size v_words v_impact v_letter v_word v_gap v_draft v_kept v_generation v_holds l1 l2 s1 Φ) : AW Γ k n9 76 [(0, .ref h0), (1, .int l1), (2, .int l2)] [.int s1, .ref h0] [(h0, oX9 d0 v_thrown v_taped v_at v_documents v_terms v_latest v_filed v_drafted v_place v_over v_clock v_askedTerms v_segments v_done v_postingsDone v_postingsAll v_why v_hits), ((d0 21), aI cs 16000 v_file), ((d0 11), aI cs 5 v_bits), ((d0 12), aI cs 5 v_codec), ((d0 13), aI cs 5 v_size), ((d0 14), aI cs 5 v_words), ((d0 16), aI cs 12800 v_impact), ((d0 15), aI cs 2560 v_letter), ((d0 3), aI cs 8 v_word), ((d0 27), aI cs 40 v_gap), ((d0 22), aI cs 16000 v_draft), ((d0 18), aZ cs 5 v_kept), ((d0 17), aI cs 5 v_generation), ((d0 20), aI cs 4 v_holds)] := by
  unfold J_X9_publish_76 at h
  refine a_iconst C (pc := 76) dX9_publish_76 ic_2 ?_
  refine a_callV C (pc := 77) (av := [.int s1, .int 2]) (wr := [((d0 21), aI cs 16000 v_file), ((d0 11), aI cs 5 v_bits), ((d0 12), aI cs 5 v_codec), ((d0 13), aI cs 5 v_size), ((d0 14), aI cs 5 v_words), ((d0 16), aI cs 12800 v_impact), ((d0 15), aI cs 2560 v_letter), ((d0 3), aI cs 8 v_word), ((d0 27), aI cs 40 v_gap), ((d0 22), aI cs 16000 v_draft), ((d0 18), aZ cs 5 v_kept), ((d0 17), aI cs 5 v_generation), ((d0 20), aI cs 4 v_holds)]) (m_X9_fails Lx Dx cs h0 d0 v_thrown v_taped v_at v_documents v_terms v_latest v_filed v_drafted v_place v_over v_clock v_askedTerms v_segments v_done v_postingsDone v_postingsAll v_why v_hits s1 2 _ h) [0] [1, 2, 3, 4, 5, 6, 7, 8, 9, 10, 11, 12, 13] rfl rfl (by decide) (by decide) (by decide) wM_X9_93 wb_X9_fails hy_X9_fails (q0 := 0) rfl rfl rfl ⟨Nat.le_of_ble_eq_true rfl, Nat.le_of_ble_eq_true rfl⟩ (Nat.le_of_ble_eq_true rfl) hkm hnm rfl dX9_publish_77 (fun v w1 hw => ?_) [] rfl (fun _ _ h => h.elim)
  obtain ⟨r_18, v_thrown_19, rfl, rfl, h⟩ := hw
  refine a_ws (st1 := [.int r_18]) (ws1 := [(h0, oX9 d0 v_thrown_19 v_taped v_at v_documents v_terms v_latest v_filed v_drafted v_place v_over v_clock v_askedTerms v_segments v_done v_postingsDone v_postingsAll v_why v_hits), ((d0 21), aI cs 16000 v_file), ((d0 11), aI cs 5 v_bits), ((d0 12), aI cs 5 v_codec), ((d0 13), aI cs 5 v_size), ((d0 14), aI cs 5 v_words), ((d0 16), aI cs 12800 v_impact), ((d0 15), aI cs 2560 v_letter), ((d0 3), aI cs 8 v_word), ((d0 27), aI cs 40 v_gap), ((d0 22), aI cs 16000 v_draft), ((d0 18), aZ cs 5 v_kept), ((d0 17), aI cs 5 v_generation), ((d0 20), aI cs 4 v_holds)]) k n9 80 [13, 0, 1, 2, 3, 4, 5, 6, 7, 8, 9, 10, 11, 12] rfl rfl rfl rfl (by decide) rfl ?_
  refine a_if_eq C (pc := 80) 85 dX9_publish_80 (by decide) (fun hc => ?_) (fun hc => ?_)
  · have h := h.1 hc
    refine a_iload_n C (pc := 85) 2 dX9_publish_85 rfl rfl ?_
    refine a_if_eq C (pc := 86) 96 dX9_publish_86 (by decide) (fun hc => ?_) (fun hc => ?_)
    · have h := h.1 hc
      refine a_iconst C (pc := 96) dX9_publish_96 ic_0 ?_
      refine a_istore_n C (pc := 97) (lv1 := [(0, .ref h0), (1, .int l1), (2, .int l2), (3, .int 0)]) [1, 2, 3, 0] dX9_publish_97 rfl (by decide) rfl ?_
      obtain ⟨n0, h⟩ := h
      refine a_lv (lv1 := [(0, .ref h0), (3, .int 0)]) [0, 3] rfl ?_
      refine w_X9_publish_98 C hkm hnm n0 v_thrown_19 v_latest v_drafted v_place v_over v_bits v_codec v_size v_words v_impact v_letter v_word v_gap v_draft v_kept v_generation 0 h ?_
      intro v_thrown_37 v_latest_38 v_drafted_39 v_place_40 v_over_41 v_bits_42 v_codec_43 v_size_44 v_words_45 v_impact_46 v_letter_47 v_word_48 v_gap_49 v_draft_50 v_kept_51 v_generation_52 l3_53 h
      refine a_aload_n C (pc := 113) 0 dX9_publish_113 rfl rfl ?_
      refine a_iconst C (pc := 114) dX9_publish_114 ic_4 ?_
      refine a_iload_n C (pc := 115) 1 dX9_publish_115 rfl rfl ?_
      refine a_callV C (pc := 116) (av := [.int 4, .int l3_53]) (wr := [((d0 21), aI cs 16000 v_file), ((d0 3), aI cs 8 v_word_48), ((d0 27), aI cs 40 v_gap_49), ((d0 22), aI cs 16000 v_draft_50), ((d0 18), aZ cs 5 v_kept_51), ((d0 17), aI cs 5 v_generation_52), ((d0 20), aI cs 4 v_holds)]) (m_X9_copies Lx Dx cs h0 d0 v_thrown_37 v_taped v_at v_documents v_terms v_latest_38 v_filed v_drafted_39 v_place_40 v_over_41 v_clock v_askedTerms v_segments v_done v_postingsDone v_postingsAll v_why v_hits v_bits_42 v_codec_43 v_size_44 v_words_45 v_letter_47 v_impact_46 4 l3_53 _ h) [0, 2, 3, 4, 5, 7, 6] [1, 8, 9, 10, 11, 12, 13] rfl rfl (by decide) (by decide) (by decide) wM_X9_269 wb_X9_copies hy_X9_copies (q0 := 0) rfl rfl rfl ⟨Nat.le_of_ble_eq_true rfl, Nat.le_of_ble_eq_true rfl⟩ (Nat.le_of_ble_eq_true rfl) hkm hnm rfl dX9_publish_116 (fun v w1 hw => ?_) [] rfl (fun _ _ h => h.elim)
      obtain ⟨v_bits_54, v_codec_55, v_size_56, v_words_57, v_letter_58, v_impact_59, rfl, rfl, h⟩ := hw
      refine a_ws (st1 := []) (ws1 := [(h0, oX9 d0 v_thrown_37 v_taped v_at v_documents v_terms v_latest_38 v_filed v_drafted_39 v_place_40 v_over_41 v_clock v_askedTerms v_segments v_done v_postingsDone v_postingsAll v_why v_hits), ((d0 21), aI cs 16000 v_file), ((d0 11), aI cs 5 v_bits_54), ((d0 12), aI cs 5 v_codec_55), ((d0 13), aI cs 5 v_size_56), ((d0 14), aI cs 5 v_words_57), ((d0 16), aI cs 12800 v_impact_59), ((d0 15), aI cs 2560 v_letter_58), ((d0 3), aI cs 8 v_word_48), ((d0 27), aI cs 40 v_gap_49), ((d0 22), aI cs 16000 v_draft_50), ((d0 18), aZ cs 5 v_kept_51), ((d0 17), aI cs 5 v_generation_52), ((d0 20), aI cs 4 v_holds)]) k n9 119 [7, 0, 8, 9, 10, 11, 13, 12, 1, 2, 3, 4, 5, 6] rfl rfl rfl rfl (by decide) rfl ?_
      refine a_aload_n C (pc := 119) 0 dX9_publish_119 rfl rfl ?_
      refine a_dup C (pc := 120) dX9_publish_120 rfl ?_
      refine a_get C (pc := 121) 0 19 inW_X9 rfl rfl (Nat.le_of_ble_eq_true rfl) wF_X9_257 rfl rfl dX9_publish_121 ?_
      refine a_iconst C (pc := 124) dX9_publish_124 ic_1 ?_
      refine a_iadd C (pc := 125) dX9_publish_125 ?_
      refine a_put C (pc := 126) (ws1 := [(h0, oX9 d0 v_thrown_37 v_taped v_at v_documents v_terms (v_latest_38 + 1) v_filed v_drafted_39 v_place_40 v_over_41 v_clock v_askedTerms v_segments v_done v_postingsDone v_postingsAll v_why v_hits), ((d0 21), aI cs 16000 v_file), ((d0 11), aI cs 5 v_bits_54), ((d0 12), aI cs 5 v_codec_55), ((d0 13), aI cs 5 v_size_56), ((d0 14), aI cs 5 v_words_57), ((d0 16), aI cs 12800 v_impact_59), ((d0 15), aI cs 2560 v_letter_58), ((d0 3), aI cs 8 v_word_48), ((d0 27), aI cs 40 v_gap_49), ((d0 22), aI cs 16000 v_draft_50), ((d0 18), aZ cs 5 v_kept_51), ((d0 17), aI cs 5 v_generation_52), ((d0 20), aI cs 4 v_holds)]) 0 19 inW_X9 tyX9 tyX9_ok nmX9 rfl rfl (Nat.le_of_ble_eq_true rfl) wF_X9_257 rfl rfl rfl rfl rfl (Nat.le_of_ble_eq_true rfl) dX9_publish_126 rfl ?_
      refine a_aload_n C (pc := 129) 0 dX9_publish_129 rfl rfl ?_
      refine a_get C (pc := 130) 0 18 inW_X9 rfl rfl (Nat.le_of_ble_eq_true rfl) wF_X9_49 rfl rfl dX9_publish_130 ?_
      refine a_iload_n C (pc := 133) 1 dX9_publish_133 rfl rfl ?_
      refine a_iconst C (pc := 134) dX9_publish_134 ic_1 ?_
      refine a_zast C (pc := 135) (ws1 := [(h0, oX9 d0 v_thrown_37 v_taped v_at v_documents v_terms (v_latest_38 + 1) v_filed v_drafted_39 v_place_40 v_over_41 v_clock v_askedTerms v_segments v_done v_postingsDone v_postingsAll v_why v_hits), ((d0 21), aI cs 16000 v_file), ((d0 11), aI cs 5 v_bits_54), ((d0 12), aI cs 5 v_codec_55), ((d0 13), aI cs 5 v_size_56), ((d0 14), aI cs 5 v_words_57), ((d0 16), aI cs 12800 v_impact_59), ((d0 15), aI cs 2560 v_letter_58), ((d0 3), aI cs 8 v_word_48), ((d0 27), aI cs 40 v_gap_49), ((d0 22), aI cs 16000 v_draft_50), ((d0 18), aZ cs 5 (upd v_kept_51 (l3_53 : Int32).toNatClampNeg (vp_nar .boolean 1))), ((d0 17), aI cs 5 v_generation_52), ((d0 20), aI cs 4 v_holds)]) 11 rfl h.1 dX9_publish_135 rfl ?_
      replace h := h.2
      refine a_aload_n C (pc := 136) 0 dX9_publish_136 rfl rfl ?_
      refine a_get C (pc := 137) 0 17 inW_X9 rfl rfl (Nat.le_of_ble_eq_true rfl) wF_X9_46 rfl rfl dX9_publish_137 ?_
      refine a_iload_n C (pc := 140) 1 dX9_publish_140 rfl rfl ?_
      refine a_aload_n C (pc := 141) 0 dX9_publish_141 rfl rfl ?_
      refine a_get C (pc := 142) 0 19 inW_X9 rfl rfl (Nat.le_of_ble_eq_true rfl) wF_X9_257 rfl rfl dX9_publish_142 ?_
      refine a_iast C (pc := 145) (ws1 := [(h0, oX9 d0 v_thrown_37 v_taped v_at v_documents v_terms (v_latest_38 + 1) v_filed v_drafted_39 v_place_40 v_over_41 v_clock v_askedTerms v_segments v_done v_postingsDone v_postingsAll v_why v_hits), ((d0 21), aI cs 16000 v_file), ((d0 11), aI cs 5 v_bits_54), ((d0 12), aI cs 5 v_codec_55), ((d0 13), aI cs 5 v_size_56), ((d0 14), aI cs 5 v_words_57), ((d0 16), aI cs 12800 v_impact_59), ((d0 15), aI cs 2560 v_letter_58), ((d0 3), aI cs 8 v_word_48), ((d0 27), aI cs 40 v_gap_49), ((d0 22), aI cs 16000 v_draft_50), ((d0 18), aZ cs 5 (upd v_kept_51 (l3_53 : Int32).toNatClampNeg (vp_nar .boolean 1))), ((d0 17), aI cs 5 (upd v_generation_52 (l3_53 : Int32).toNatClampNeg (v_latest_38 + 1))), ((d0 20), aI cs 4 v_holds)]) 12 rfl h.1 dX9_publish_145 rfl ?_
      replace h := h.2
      refine a_aload_n C (pc := 146) 0 dX9_publish_146 rfl rfl ?_
      refine a_get C (pc := 147) 0 19 inW_X9 rfl rfl (Nat.le_of_ble_eq_true rfl) wF_X9_257 rfl rfl dX9_publish_147 ?_
      exact a_ireturn C (pc := 150) rfl dX9_publish_150 hkm hnm ⟨_, _, _, _, _, _, _, _, _, _, _, _, _, _, _, _, _, rfl, rfl, h⟩
    · have h := h.2 hc
      refine a_aload_n C (pc := 89) 0 dX9_publish_89 rfl rfl ?_
      refine a_get C (pc := 90) 0 18 inW_X9 rfl rfl (Nat.le_of_ble_eq_true rfl) wF_X9_49 rfl rfl dX9_publish_90 ?_
      refine a_iload_n C (pc := 93) 1 dX9_publish_93 rfl rfl ?_
      refine a_iconst C (pc := 94) dX9_publish_94 ic_0 ?_
      refine a_zast C (pc := 95) (ws1 := [(h0, oX9 d0 v_thrown_19 v_taped v_at v_documents v_terms v_latest v_filed v_drafted v_place v_over v_clock v_askedTerms v_segments v_done v_postingsDone v_postingsAll v_why v_hits), ((d0 21), aI cs 16000 v_file), ((d0 11), aI cs 5 v_bits), ((d0 12), aI cs 5 v_codec), ((d0 13), aI cs 5 v_size), ((d0 14), aI cs 5 v_words), ((d0 16), aI cs 12800 v_impact), ((d0 15), aI cs 2560 v_letter), ((d0 3), aI cs 8 v_word), ((d0 27), aI cs 40 v_gap), ((d0 22), aI cs 16000 v_draft), ((d0 18), aZ cs 5 (upd v_kept (l1 : Int32).toNatClampNeg (vp_nar .boolean 0))), ((d0 17), aI cs 5 v_generation), ((d0 20), aI cs 4 v_holds)]) 11 rfl h.1 dX9_publish_95 rfl ?_
      replace h := h.2
      refine a_iconst C (pc := 96) dX9_publish_96 ic_0 ?_
      refine a_istore_n C (pc := 97) (lv1 := [(0, .ref h0), (1, .int l1), (2, .int l2), (3, .int 0)]) [1, 2, 3, 0] dX9_publish_97 rfl (by decide) rfl ?_
      obtain ⟨n0, h⟩ := h
      refine a_lv (lv1 := [(0, .ref h0), (3, .int 0)]) [0, 3] rfl ?_
      refine w_X9_publish_98 C hkm hnm n0 v_thrown_19 v_latest v_drafted v_place v_over v_bits v_codec v_size v_words v_impact v_letter v_word v_gap v_draft (upd v_kept (l1 : Int32).toNatClampNeg (vp_nar .boolean 0)) v_generation 0 h ?_
      intro v_thrown_60 v_latest_61 v_drafted_62 v_place_63 v_over_64 v_bits_65 v_codec_66 v_size_67 v_words_68 v_impact_69 v_letter_70 v_word_71 v_gap_72 v_draft_73 v_kept_74 v_generation_75 l3_76 h
      refine a_aload_n C (pc := 113) 0 dX9_publish_113 rfl rfl ?_
      refine a_iconst C (pc := 114) dX9_publish_114 ic_4 ?_
      refine a_iload_n C (pc := 115) 1 dX9_publish_115 rfl rfl ?_
      refine a_callV C (pc := 116) (av := [.int 4, .int l3_76]) (wr := [((d0 21), aI cs 16000 v_file), ((d0 3), aI cs 8 v_word_71), ((d0 27), aI cs 40 v_gap_72), ((d0 22), aI cs 16000 v_draft_73), ((d0 18), aZ cs 5 v_kept_74), ((d0 17), aI cs 5 v_generation_75), ((d0 20), aI cs 4 v_holds)]) (m_X9_copies Lx Dx cs h0 d0 v_thrown_60 v_taped v_at v_documents v_terms v_latest_61 v_filed v_drafted_62 v_place_63 v_over_64 v_clock v_askedTerms v_segments v_done v_postingsDone v_postingsAll v_why v_hits v_bits_65 v_codec_66 v_size_67 v_words_68 v_letter_70 v_impact_69 4 l3_76 _ h) [0, 2, 3, 4, 5, 7, 6] [1, 8, 9, 10, 11, 12, 13] rfl rfl (by decide) (by decide) (by decide) wM_X9_269 wb_X9_copies hy_X9_copies (q0 := 0) rfl rfl rfl ⟨Nat.le_of_ble_eq_true rfl, Nat.le_of_ble_eq_true rfl⟩ (Nat.le_of_ble_eq_true rfl) hkm hnm rfl dX9_publish_116 (fun v w1 hw => ?_) [] rfl (fun _ _ h => h.elim)
      obtain ⟨v_bits_77, v_codec_78, v_size_79, v_words_80, v_letter_81, v_impact_82, rfl, rfl, h⟩ := hw
      refine a_ws (st1 := []) (ws1 := [(h0, oX9 d0 v_thrown_60 v_taped v_at v_documents v_terms v_latest_61 v_filed v_drafted_62 v_place_63 v_over_64 v_clock v_askedTerms v_segments v_done v_postingsDone v_postingsAll v_why v_hits), ((d0 21), aI cs 16000 v_file), ((d0 11), aI cs 5 v_bits_77), ((d0 12), aI cs 5 v_codec_78), ((d0 13), aI cs 5 v_size_79), ((d0 14), aI cs 5 v_words_80), ((d0 16), aI cs 12800 v_impact_82), ((d0 15), aI cs 2560 v_letter_81), ((d0 3), aI cs 8 v_word_71), ((d0 27), aI cs 40 v_gap_72), ((d0 22), aI cs 16000 v_draft_73), ((d0 18), aZ cs 5 v_kept_74), ((d0 17), aI cs 5 v_generation_75), ((d0 20), aI cs 4 v_holds)]) k n9 119 [7, 0, 8, 9, 10, 11, 13, 12, 1, 2, 3, 4, 5, 6] rfl rfl rfl rfl (by decide) rfl ?_
      refine a_aload_n C (pc := 119) 0 dX9_publish_119 rfl rfl ?_
      refine a_dup C (pc := 120) dX9_publish_120 rfl ?_
      refine a_get C (pc := 121) 0 19 inW_X9 rfl rfl (Nat.le_of_ble_eq_true rfl) wF_X9_257 rfl rfl dX9_publish_121 ?_
      refine a_iconst C (pc := 124) dX9_publish_124 ic_1 ?_
      refine a_iadd C (pc := 125) dX9_publish_125 ?_
      refine a_put C (pc := 126) (ws1 := [(h0, oX9 d0 v_thrown_60 v_taped v_at v_documents v_terms (v_latest_61 + 1) v_filed v_drafted_62 v_place_63 v_over_64 v_clock v_askedTerms v_segments v_done v_postingsDone v_postingsAll v_why v_hits), ((d0 21), aI cs 16000 v_file), ((d0 11), aI cs 5 v_bits_77), ((d0 12), aI cs 5 v_codec_78), ((d0 13), aI cs 5 v_size_79), ((d0 14), aI cs 5 v_words_80), ((d0 16), aI cs 12800 v_impact_82), ((d0 15), aI cs 2560 v_letter_81), ((d0 3), aI cs 8 v_word_71), ((d0 27), aI cs 40 v_gap_72), ((d0 22), aI cs 16000 v_draft_73), ((d0 18), aZ cs 5 v_kept_74), ((d0 17), aI cs 5 v_generation_75), ((d0 20), aI cs 4 v_holds)]) 0 19 inW_X9 tyX9 tyX9_ok nmX9 rfl rfl (Nat.le_of_ble_eq_true rfl) wF_X9_257 rfl rfl rfl rfl rfl (Nat.le_of_ble_eq_true rfl) dX9_publish_126 rfl ?_
      refine a_aload_n C (pc := 129) 0 dX9_publish_129 rfl rfl ?_
      refine a_get C (pc := 130) 0 18 inW_X9 rfl rfl (Nat.le_of_ble_eq_true rfl) wF_X9_49 rfl rfl dX9_publish_130 ?_
      refine a_iload_n C (pc := 133) 1 dX9_publish_133 rfl rfl ?_
      refine a_iconst C (pc := 134) dX9_publish_134 ic_1 ?_
      refine a_zast C (pc := 135) (ws1 := [(h0, oX9 d0 v_thrown_60 v_taped v_at v_documents v_terms (v_latest_61 + 1) v_filed v_drafted_62 v_place_63 v_over_64 v_clock v_askedTerms v_segments v_done v_postingsDone v_postingsAll v_why v_hits), ((d0 21), aI cs 16000 v_file), ((d0 11), aI cs 5 v_bits_77), ((d0 12), aI cs 5 v_codec_78), ((d0 13), aI cs 5 v_size_79), ((d0 14), aI cs 5 v_words_80), ((d0 16), aI cs 12800 v_impact_82), ((d0 15), aI cs 2560 v_letter_81), ((d0 3), aI cs 8 v_word_71), ((d0 27), aI cs 40 v_gap_72), ((d0 22), aI cs 16000 v_draft_73), ((d0 18), aZ cs 5 (upd v_kept_74 (l3_76 : Int32).toNatClampNeg (vp_nar .boolean 1))), ((d0 17), aI cs 5 v_generation_75), ((d0 20), aI cs 4 v_holds)]) 11 rfl h.1 dX9_publish_135 rfl ?_
      replace h := h.2
      refine a_aload_n C (pc := 136) 0 dX9_publish_136 rfl rfl ?_
      refine a_get C (pc := 137) 0 17 inW_X9 rfl rfl (Nat.le_of_ble_eq_true rfl) wF_X9_46 rfl rfl dX9_publish_137 ?_
      refine a_iload_n C (pc := 140) 1 dX9_publish_140 rfl rfl ?_
      refine a_aload_n C (pc := 141) 0 dX9_publish_141 rfl rfl ?_
      refine a_get C (pc := 142) 0 19 inW_X9 rfl rfl (Nat.le_of_ble_eq_true rfl) wF_X9_257 rfl rfl dX9_publish_142 ?_
      refine a_iast C (pc := 145) (ws1 := [(h0, oX9 d0 v_thrown_60 v_taped v_at v_documents v_terms (v_latest_61 + 1) v_filed v_drafted_62 v_place_63 v_over_64 v_clock v_askedTerms v_segments v_done v_postingsDone v_postingsAll v_why v_hits), ((d0 21), aI cs 16000 v_file), ((d0 11), aI cs 5 v_bits_77), ((d0 12), aI cs 5 v_codec_78), ((d0 13), aI cs 5 v_size_79), ((d0 14), aI cs 5 v_words_80), ((d0 16), aI cs 12800 v_impact_82), ((d0 15), aI cs 2560 v_letter_81), ((d0 3), aI cs 8 v_word_71), ((d0 27), aI cs 40 v_gap_72), ((d0 22), aI cs 16000 v_draft_73), ((d0 18), aZ cs 5 (upd v_kept_74 (l3_76 : Int32).toNatClampNeg (vp_nar .boolean 1))), ((d0 17), aI cs 5 (upd v_generation_75 (l3_76 : Int32).toNatClampNeg (v_latest_61 + 1))), ((d0 20), aI cs 4 v_holds)]) 12 rfl h.1 dX9_publish_145 rfl ?_
      replace h := h.2
      refine a_aload_n C (pc := 146) 0 dX9_publish_146 rfl rfl ?_
      refine a_get C (pc := 147) 0 19 inW_X9 rfl rfl (Nat.le_of_ble_eq_true rfl) wF_X9_257 rfl rfl dX9_publish_147 ?_
      exact a_ireturn C (pc := 150) rfl dX9_publish_150 hkm hnm ⟨_, _, _, _, _, _, _, _, _, _, _, _, _, _, _, _, _, rfl, rfl, h⟩
  · have h := h.2 hc
    refine a_iconst C (pc := 83) dX9_publish_83 ic_0 ?_
    exact a_ireturn C (pc := 84) rfl dX9_publish_84 hkm hnm ⟨_, _, _, _, _, _, _, _, _, _, _, _, _, _, _, _, _, rfl, rfl, h⟩
set_option maxRecDepth 100000 in
set_option maxHeartbeats 4000000 in
theorem w_X9_publish_66 {Γ : XG} {Lx : Launch} {Dx : va_G} {cs : Nat → ClassId} {h0 : Nat} {d0 : Nat → Nat} {v_taped : Int32} {v_at : Int32} {v_documents : Int32} {v_terms : Int32} {v_filed : Int32} {v_clock : Int64} {v_askedTerms : Int32} {v_segments : Int32} {v_done : Int32} {v_postingsDone : Int32} {v_postingsAll : Int32} {v_why : Int32} {v_hits : Int32} {v_file : Nat → Int32} {v_holds : Nat → Int32} {Φ : Int32 → Int32 → Int32 → Int32 → Int32 → Int32 → (Nat → Int32) → (Nat → Int32) → (Nat → Int32) → (Nat → Int32) → (Nat → Int32) → (Nat → Int32) → (Nat → Int32) → (Nat → Int32) → (Nat → Int32) → (Nat → Int32) → (Nat → Int32) → Prop} {k n9 : Nat} (C : CX Γ Lx Dx cs cX9_publish RX9 "publish" 4 (some .int) 5 127 0 0 (qEC cs 0 0 [] (R_X9_publish cs h0 d0 v_taped v_at v_documents v_terms v_filed v_clock v_askedTerms v_segments v_done v_postingsDone v_postingsAll v_why v_hits v_file v_holds Φ) (fun _ _ => False))) (hkm : k ≤ 0) (hnm : n9 ≤ 0) (v_thrown : Int32) (v_latest : Int32) (v_drafted : Int32) (v_place : Int32) (v_over : Int32) (v_bits : Nat → Int32) (v_codec : Nat → Int32) (v_size : Nat → Int32) (v_words : Nat → Int32) (v_impact : Nat → Int32) (v_letter : Nat → Int32) (v_word : Nat → Int32) (v_gap : Nat → Int32) (v_draft : Nat → Int32) (v_kept : Nat → Int32) (v_generation : Nat → Int32) (l1 : Int32) (l2 : Int32) (s1 : Int32) (s2 : Int32) (h : J_X9_publish_66 v_thrown v_latest v_filed v_drafted v_place v_over v_file v_bits v_codec v_size v_words v_impact v_letter v_word v_gap v_draft v_kept v_generation v_holds l1 l2 s1 s2 Φ) : AW Γ k n9 66 [(0, .ref h0), (1, .int l1), (2, .int l2)] [.int s2, .int s1, .ref h0] [(h0, oX9 d0 v_thrown v_taped v_at v_documents v_terms v_latest v_filed v_drafted v_place v_over v_clock v_askedTerms v_segments v_done v_postingsDone v_postingsAll v_why v_hits), ((d0 21), aI cs 16000 v_file), ((d0 11), aI cs 5 v_bits), ((d0 12), aI cs 5 v_codec), ((d0 13), aI cs 5 v_size), ((d0 14), aI cs 5 v_words), ((d0 16), aI cs 12800 v_impact), ((d0 15), aI cs 2560 v_letter), ((d0 3), aI cs 8 v_word), ((d0 27), aI cs 40 v_gap), ((d0 22), aI cs 16000 v_draft), ((d0 18), aZ cs 5 v_kept), ((d0 17), aI cs 5 v_generation), ((d0 20), aI cs 4 v_holds)] := by
  unfold J_X9_publish_66 at h
  refine a_isub C (pc := 66) dX9_publish_66 ?_
  refine a_iconst C (pc := 67) dX9_publish_67 ic_3 ?_
  refine a_icmp_ne C (pc := 68) 75 dX9_publish_68 (by decide) (fun hc => ?_) (fun hc => ?_)
  · have h := h.1 hc
    refine a_iconst C (pc := 75) dX9_publish_75 ic_0 ?_
    exact w_X9_publish_76 C hkm hnm v_thrown v_latest v_drafted v_place v_over v_bits v_codec v_size v_words v_impact v_letter v_word v_gap v_draft v_kept v_generation l1 l2 0 h
  · have h := h.2 hc
    refine a_iconst C (pc := 71) dX9_publish_71 ic_1 ?_
    refine a_goto C (pc := 72) 76 dX9_publish_72 (by decide) ?_
    exact w_X9_publish_76 C hkm hnm v_thrown v_latest v_drafted v_place v_over v_bits v_codec v_size v_words v_impact v_letter v_word v_gap v_draft v_kept v_generation l1 l2 1 h
set_option maxRecDepth 100000 in
set_option maxHeartbeats 4000000 in
theorem w_X9_publish_51 {Γ : XG} {Lx : Launch} {Dx : va_G} {cs : Nat → ClassId} {h0 : Nat} {d0 : Nat → Nat} {v_taped : Int32} {v_at : Int32} {v_documents : Int32} {v_terms : Int32} {v_filed : Int32} {v_clock : Int64} {v_askedTerms : Int32} {v_segments : Int32} {v_done : Int32} {v_postingsDone : Int32} {v_postingsAll : Int32} {v_why : Int32} {v_hits : Int32} {v_file : Nat → Int32} {v_holds : Nat → Int32} {Φ : Int32 → Int32 → Int32 → Int32 → Int32 → Int32 → (Nat → Int32) → (Nat → Int32) → (Nat → Int32) → (Nat → Int32) → (Nat → Int32) → (Nat → Int32) → (Nat → Int32) → (Nat → Int32) → (Nat → Int32) → (Nat → Int32) → (Nat → Int32) → Prop} {k n9 : Nat} (C : CX Γ Lx Dx cs cX9_publish RX9 "publish" 4 (some .int) 5 127 0 0 (qEC cs 0 0 [] (R_X9_publish cs h0 d0 v_taped v_at v_documents v_terms v_filed v_clock v_askedTerms v_segments v_done v_postingsDone v_postingsAll v_why v_hits v_file v_holds Φ) (fun _ _ => False))) (hkm : k ≤ 0) (hnm : n9 ≤ 0) (v_thrown : Int32) (v_latest : Int32) (v_drafted : Int32) (v_place : Int32) (v_over : Int32) (v_bits : Nat → Int32) (v_codec : Nat → Int32) (v_size : Nat → Int32) (v_words : Nat → Int32) (v_impact : Nat → Int32) (v_letter : Nat → Int32) (v_word : Nat → Int32) (v_gap : Nat → Int32) (v_draft : Nat → Int32) (v_kept : Nat → Int32) (v_generation : Nat → Int32) (l1 : Int32) (s0 : Int32) (h : J_X9_publish_51 v_thrown v_latest v_filed v_drafted v_place v_over v_file v_bits v_codec v_size v_words v_impact v_letter v_word v_gap v_draft v_kept v_generation v_holds l1 s0 Φ) : AW Γ k n9 51 [(0, .ref h0), (1, .int l1)] [.int s0] [(h0, oX9 d0 v_thrown v_taped v_at v_documents v_terms v_latest v_filed v_drafted v_place v_over v_clock v_askedTerms v_segments v_done v_postingsDone v_postingsAll v_why v_hits), ((d0 21), aI cs 16000 v_file), ((d0 11), aI cs 5 v_bits), ((d0 12), aI cs 5 v_codec), ((d0 13), aI cs 5 v_size), ((d0 14), aI cs 5 v_words), ((d0 16), aI cs 12800 v_impact), ((d0 15), aI cs 2560 v_letter), ((d0 3), aI cs 8 v_word), ((d0 27), aI cs 40 v_gap), ((d0 22), aI cs 16000 v_draft), ((d0 18), aZ cs 5 v_kept), ((d0 17), aI cs 5 v_generation), ((d0 20), aI cs 4 v_holds)] := by
  unfold J_X9_publish_51 at h
  refine a_istore_n C (pc := 51) (lv1 := [(0, .ref h0), (1, .int l1), (2, .int s0)]) [1, 2, 0] dX9_publish_51 rfl (by decide) rfl ?_
  refine a_aload_n C (pc := 52) 0 dX9_publish_52 rfl rfl ?_
  refine a_aload_n C (pc := 53) 0 dX9_publish_53 rfl rfl ?_
  refine a_callV C (pc := 54) (av := []) (wr := [((d0 21), aI cs 16000 v_file), ((d0 11), aI cs 5 v_bits), ((d0 12), aI cs 5 v_codec), ((d0 13), aI cs 5 v_size), ((d0 14), aI cs 5 v_words), ((d0 16), aI cs 12800 v_impact), ((d0 15), aI cs 2560 v_letter), ((d0 3), aI cs 8 v_word), ((d0 27), aI cs 40 v_gap), ((d0 22), aI cs 16000 v_draft), ((d0 17), aI cs 5 v_generation), ((d0 20), aI cs 4 v_holds)]) (m_X9_keptMany Lx Dx cs h0 d0 v_thrown v_taped v_at v_documents v_terms v_latest v_filed v_drafted v_place v_over v_clock v_askedTerms v_segments v_done v_postingsDone v_postingsAll v_why v_hits v_kept _ h) [0, 11] [1, 2, 3, 4, 5, 6, 7, 8, 9, 10, 12, 13] rfl rfl (by decide) (by decide) (by decide) wM_X9_266 wb_X9_keptMany hy_X9_keptMany (q0 := 0) rfl rfl rfl ⟨Nat.le_of_ble_eq_true rfl, Nat.le_of_ble_eq_true rfl⟩ (Nat.le_of_ble_eq_true rfl) hkm hnm rfl dX9_publish_54 (fun v w1 hw => ?_) [] rfl (fun _ _ h => h.elim)
  obtain ⟨r_17, rfl, rfl, h⟩ := hw
  refine a_ws (st1 := [.int r_17, .ref h0]) (ws1 := [(h0, oX9 d0 v_thrown v_taped v_at v_documents v_terms v_latest v_filed v_drafted v_place v_over v_clock v_askedTerms v_segments v_done v_postingsDone v_postingsAll v_why v_hits), ((d0 21), aI cs 16000 v_file), ((d0 11), aI cs 5 v_bits), ((d0 12), aI cs 5 v_codec), ((d0 13), aI cs 5 v_size), ((d0 14), aI cs 5 v_words), ((d0 16), aI cs 12800 v_impact), ((d0 15), aI cs 2560 v_letter), ((d0 3), aI cs 8 v_word), ((d0 27), aI cs 40 v_gap), ((d0 22), aI cs 16000 v_draft), ((d0 18), aZ cs 5 v_kept), ((d0 17), aI cs 5 v_generation), ((d0 20), aI cs 4 v_holds)]) k n9 57 [12, 0, 1, 2, 3, 4, 5, 6, 7, 8, 9, 13, 10, 11] rfl rfl rfl rfl (by decide) rfl ?_
  refine a_iload_n C (pc := 57) 2 dX9_publish_57 rfl rfl ?_
  refine a_if_eq C (pc := 58) 65 dX9_publish_58 (by decide) (fun hc => ?_) (fun hc => ?_)
  · have h := h.1 hc
    refine a_iconst C (pc := 65) dX9_publish_65 ic_0 ?_
    exact w_X9_publish_66 C hkm hnm v_thrown v_latest v_drafted v_place v_over v_bits v_codec v_size v_words v_impact v_letter v_word v_gap v_draft v_kept v_generation l1 s0 r_17 0 h
  · have h := h.2 hc
    refine a_iconst C (pc := 61) dX9_publish_61 ic_1 ?_
    refine a_goto C (pc := 62) 66 dX9_publish_62 (by decide) ?_
    exact w_X9_publish_66 C hkm hnm v_thrown v_latest v_drafted v_place v_over v_bits v_codec v_size v_words v_impact v_letter v_word v_gap v_draft v_kept v_generation l1 s0 r_17 1 h
set_option maxRecDepth 100000 in
set_option maxHeartbeats 4000000 in
theorem w_X9_publish_50 {Γ : XG} {Lx : Launch} {Dx : va_G} {cs : Nat → ClassId} {h0 : Nat} {d0 : Nat → Nat} {v_taped : Int32} {v_at : Int32} {v_documents : Int32} {v_terms : Int32} {v_filed : Int32} {v_clock : Int64} {v_askedTerms : Int32} {v_segments : Int32} {v_done : Int32} {v_postingsDone : Int32} {v_postingsAll : Int32} {v_why : Int32} {v_hits : Int32} {v_file : Nat → Int32} {v_holds : Nat → Int32} {Φ : Int32 → Int32 → Int32 → Int32 → Int32 → Int32 → (Nat → Int32) → (Nat → Int32) → (Nat → Int32) → (Nat → Int32) → (Nat → Int32) → (Nat → Int32) → (Nat → Int32) → (Nat → Int32) → (Nat → Int32) → (Nat → Int32) → (Nat → Int32) → Prop} {k n9 : Nat} (C : CX Γ Lx Dx cs cX9_publish RX9 "publish" 4 (some .int) 5 127 0 0 (qEC cs 0 0 [] (R_X9_publish cs h0 d0 v_taped v_at v_documents v_terms v_filed v_clock v_askedTerms v_segments v_done v_postingsDone v_postingsAll v_why v_hits v_file v_holds Φ) (fun _ _ => False))) (hkm : k ≤ 0) (hnm : n9 ≤ 0) (v_thrown : Int32) (v_latest : Int32) (v_drafted : Int32) (v_place : Int32) (v_over : Int32) (v_bits : Nat → Int32) (v_codec : Nat → Int32) (v_size : Nat → Int32) (v_words : Nat → Int32) (v_impact : Nat → Int32) (v_letter : Nat → Int32) (v_word : Nat → Int32) (v_gap : Nat → Int32) (v_draft : Nat → Int32) (v_kept : Nat → Int32) (v_generation : Nat → Int32) (l1 : Int32) (h : J_X9_publish_50 v_thrown v_latest v_filed v_drafted v_place v_over v_file v_bits v_codec v_size v_words v_impact v_letter v_word v_gap v_draft v_kept v_generation v_holds l1 Φ) : AW Γ k n9 50 [(0, .ref h0), (1, .int l1)] [] [(h0, oX9 d0 v_thrown v_taped v_at v_documents v_terms v_latest v_filed v_drafted v_place v_over v_clock v_askedTerms v_segments v_done v_postingsDone v_postingsAll v_why v_hits), ((d0 21), aI cs 16000 v_file), ((d0 11), aI cs 5 v_bits), ((d0 12), aI cs 5 v_codec), ((d0 13), aI cs 5 v_size), ((d0 14), aI cs 5 v_words), ((d0 16), aI cs 12800 v_impact), ((d0 15), aI cs 2560 v_letter), ((d0 3), aI cs 8 v_word), ((d0 27), aI cs 40 v_gap), ((d0 22), aI cs 16000 v_draft), ((d0 18), aZ cs 5 v_kept), ((d0 17), aI cs 5 v_generation), ((d0 20), aI cs 4 v_holds)] := by
  unfold J_X9_publish_50 at h
  refine a_iconst C (pc := 50) dX9_publish_50 ic_0 ?_
  exact w_X9_publish_51 C hkm hnm v_thrown v_latest v_drafted v_place v_over v_bits v_codec v_size v_words v_impact v_letter v_word v_gap v_draft v_kept v_generation l1 0 h
set_option maxRecDepth 100000 in
set_option maxHeartbeats 4000000 in
theorem w_X9_publish_13 {Γ : XG} {Lx : Launch} {Dx : va_G} {cs : Nat → ClassId} {h0 : Nat} {d0 : Nat → Nat} {v_taped : Int32} {v_at : Int32} {v_documents : Int32} {v_terms : Int32} {v_filed : Int32} {v_clock : Int64} {v_askedTerms : Int32} {v_segments : Int32} {v_done : Int32} {v_postingsDone : Int32} {v_postingsAll : Int32} {v_why : Int32} {v_hits : Int32} {v_file : Nat → Int32} {v_holds : Nat → Int32} {Φ : Int32 → Int32 → Int32 → Int32 → Int32 → Int32 → (Nat → Int32) → (Nat → Int32) → (Nat → Int32) → (Nat → Int32) → (Nat → Int32) → (Nat → Int32) → (Nat → Int32) → (Nat → Int32) → (Nat → Int32) → (Nat → Int32) → (Nat → Int32) → Prop} {k n9 : Nat} (C : CX Γ Lx Dx cs cX9_publish RX9 "publish" 4 (some .int) 5 127 0 0 (qEC cs 0 0 [] (R_X9_publish cs h0 d0 v_taped v_at v_documents v_terms v_filed v_clock v_askedTerms v_segments v_done v_postingsDone v_postingsAll v_why v_hits v_file v_holds Φ) (fun _ _ => False))) (hkm : k ≤ 0) (hnm : n9 ≤ 0) (v_thrown : Int32) (v_latest : Int32) (v_drafted : Int32) (v_place : Int32) (v_over : Int32) (v_bits : Nat → Int32) (v_codec : Nat → Int32) (v_size : Nat → Int32) (v_words : Nat → Int32) (v_impact : Nat → Int32) (v_letter : Nat → Int32) (v_word : Nat → Int32) (v_gap : Nat → Int32) (v_draft : Nat → Int32) (v_kept : Nat → Int32) (v_generation : Nat → Int32) (s1 : Int32) (h : J_X9_publish_13 v_thrown v_latest v_filed v_drafted v_place v_over v_file v_bits v_codec v_size v_words v_impact v_letter v_word v_gap v_draft v_kept v_generation v_holds s1 Φ) : AW Γ k n9 13 [(0, .ref h0)] [.int s1, .ref h0] [(h0, oX9 d0 v_thrown v_taped v_at v_documents v_terms v_latest v_filed v_drafted v_place v_over v_clock v_askedTerms v_segments v_done v_postingsDone v_postingsAll v_why v_hits), ((d0 21), aI cs 16000 v_file), ((d0 11), aI cs 5 v_bits), ((d0 12), aI cs 5 v_codec), ((d0 13), aI cs 5 v_size), ((d0 14), aI cs 5 v_words), ((d0 16), aI cs 12800 v_impact), ((d0 15), aI cs 2560 v_letter), ((d0 3), aI cs 8 v_word), ((d0 27), aI cs 40 v_gap), ((d0 22), aI cs 16000 v_draft), ((d0 18), aZ cs 5 v_kept), ((d0 17), aI cs 5 v_generation), ((d0 20), aI cs 4 v_holds)] := by
  unfold J_X9_publish_13 at h
  refine a_iconst C (pc := 13) dX9_publish_13 ic_1 ?_
  refine a_callV C (pc := 14) (av := [.int s1, .int 1]) (wr := [((d0 21), aI cs 16000 v_file), ((d0 11), aI cs 5 v_bits), ((d0 12), aI cs 5 v_codec), ((d0 13), aI cs 5 v_size), ((d0 14), aI cs 5 v_words), ((d0 16), aI cs 12800 v_impact), ((d0 15), aI cs 2560 v_letter), ((d0 3), aI cs 8 v_word), ((d0 27), aI cs 40 v_gap), ((d0 22), aI cs 16000 v_draft), ((d0 18), aZ cs 5 v_kept), ((d0 17), aI cs 5 v_generation), ((d0 20), aI cs 4 v_holds)]) (m_X9_fails Lx Dx cs h0 d0 v_thrown v_taped v_at v_documents v_terms v_latest v_filed v_drafted v_place v_over v_clock v_askedTerms v_segments v_done v_postingsDone v_postingsAll v_why v_hits s1 1 _ h) [0] [1, 2, 3, 4, 5, 6, 7, 8, 9, 10, 11, 12, 13] rfl rfl (by decide) (by decide) (by decide) wM_X9_93 wb_X9_fails hy_X9_fails (q0 := 0) rfl rfl rfl ⟨Nat.le_of_ble_eq_true rfl, Nat.le_of_ble_eq_true rfl⟩ (Nat.le_of_ble_eq_true rfl) hkm hnm rfl dX9_publish_14 (fun v w1 hw => ?_) [] rfl (fun _ _ h => h.elim)
  obtain ⟨r_14, v_thrown_15, rfl, rfl, h⟩ := hw
  refine a_ws (st1 := [.int r_14]) (ws1 := [(h0, oX9 d0 v_thrown_15 v_taped v_at v_documents v_terms v_latest v_filed v_drafted v_place v_over v_clock v_askedTerms v_segments v_done v_postingsDone v_postingsAll v_why v_hits), ((d0 21), aI cs 16000 v_file), ((d0 11), aI cs 5 v_bits), ((d0 12), aI cs 5 v_codec), ((d0 13), aI cs 5 v_size), ((d0 14), aI cs 5 v_words), ((d0 16), aI cs 12800 v_impact), ((d0 15), aI cs 2560 v_letter), ((d0 3), aI cs 8 v_word), ((d0 27), aI cs 40 v_gap), ((d0 22), aI cs 16000 v_draft), ((d0 18), aZ cs 5 v_kept), ((d0 17), aI cs 5 v_generation), ((d0 20), aI cs 4 v_holds)]) k n9 17 [13, 0, 1, 2, 3, 4, 5, 6, 7, 8, 9, 10, 11, 12] rfl rfl rfl rfl (by decide) rfl ?_
  refine a_if_eq C (pc := 17) 22 dX9_publish_17 (by decide) (fun hc => ?_) (fun hc => ?_)
  · have h := h.1 hc
    refine a_aload_n C (pc := 22) 0 dX9_publish_22 rfl rfl ?_
    refine a_aload_n C (pc := 23) 0 dX9_publish_23 rfl rfl ?_
    refine a_get C (pc := 24) 0 19 inW_X9 rfl rfl (Nat.le_of_ble_eq_true rfl) wF_X9_257 rfl rfl dX9_publish_24 ?_
    refine a_callV C (pc := 27) (av := [.int v_latest]) (wr := [((d0 21), aI cs 16000 v_file), ((d0 11), aI cs 5 v_bits), ((d0 12), aI cs 5 v_codec), ((d0 13), aI cs 5 v_size), ((d0 14), aI cs 5 v_words), ((d0 16), aI cs 12800 v_impact), ((d0 15), aI cs 2560 v_letter), ((d0 3), aI cs 8 v_word), ((d0 27), aI cs 40 v_gap), ((d0 22), aI cs 16000 v_draft), ((d0 20), aI cs 4 v_holds)]) (m_X9_slotOf Lx Dx cs h0 d0 v_thrown_15 v_taped v_at v_documents v_terms v_latest v_filed v_drafted v_place v_over v_clock v_askedTerms v_segments v_done v_postingsDone v_postingsAll v_why v_hits v_kept v_generation v_latest _ h) [0, 11, 12] [1, 2, 3, 4, 5, 6, 7, 8, 9, 10, 13] rfl rfl (by decide) (by decide) (by decide) wM_X9_260 wb_X9_slotOf hy_X9_slotOf (q0 := 0) rfl rfl rfl ⟨Nat.le_of_ble_eq_true rfl, Nat.le_of_ble_eq_true rfl⟩ (Nat.le_of_ble_eq_true rfl) hkm hnm rfl dX9_publish_27 (fun v w1 hw => ?_) [] rfl (fun _ _ h => h.elim)
    obtain ⟨r_16, rfl, rfl, h⟩ := hw
    refine a_ws (st1 := [.int r_16]) (ws1 := [(h0, oX9 d0 v_thrown_15 v_taped v_at v_documents v_terms v_latest v_filed v_drafted v_place v_over v_clock v_askedTerms v_segments v_done v_postingsDone v_postingsAll v_why v_hits), ((d0 21), aI cs 16000 v_file), ((d0 11), aI cs 5 v_bits), ((d0 12), aI cs 5 v_codec), ((d0 13), aI cs 5 v_size), ((d0 14), aI cs 5 v_words), ((d0 16), aI cs 12800 v_impact), ((d0 15), aI cs 2560 v_letter), ((d0 3), aI cs 8 v_word), ((d0 27), aI cs 40 v_gap), ((d0 22), aI cs 16000 v_draft), ((d0 18), aZ cs 5 v_kept), ((d0 17), aI cs 5 v_generation), ((d0 20), aI cs 4 v_holds)]) k n9 30 [11, 0, 1, 2, 3, 4, 5, 6, 7, 8, 9, 12, 13, 10] rfl rfl rfl rfl (by decide) rfl ?_
    refine a_istore_n C (pc := 30) (lv1 := [(0, .ref h0), (1, .int r_16)]) [1, 0] dX9_publish_30 rfl (by decide) rfl ?_
    refine a_iload_n C (pc := 31) 1 dX9_publish_31 rfl rfl ?_
    refine a_if_lt C (pc := 32) 50 dX9_publish_32 (by decide) (fun hc => ?_) (fun hc => ?_)
    · have h := h.1 hc
      exact w_X9_publish_50 C hkm hnm v_thrown_15 v_latest v_drafted v_place v_over v_bits v_codec v_size v_words v_impact v_letter v_word v_gap v_draft v_kept v_generation r_16 h
    · have h := h.2 hc
      refine a_aload_n C (pc := 35) 0 dX9_publish_35 rfl rfl ?_
      refine a_aload_n C (pc := 36) 0 dX9_publish_36 rfl rfl ?_
      refine a_get C (pc := 37) 0 19 inW_X9 rfl rfl (Nat.le_of_ble_eq_true rfl) wF_X9_257 rfl rfl dX9_publish_37 ?_
      refine a_callV C (pc := 40) (av := [.int v_latest]) (wr := [((d0 21), aI cs 16000 v_file), ((d0 11), aI cs 5 v_bits), ((d0 12), aI cs 5 v_codec), ((d0 13), aI cs 5 v_size), ((d0 14), aI cs 5 v_words), ((d0 16), aI cs 12800 v_impact), ((d0 15), aI cs 2560 v_letter), ((d0 3), aI cs 8 v_word), ((d0 27), aI cs 40 v_gap), ((d0 22), aI cs 16000 v_draft), ((d0 18), aZ cs 5 v_kept), ((d0 17), aI cs 5 v_generation)]) (m_X9_isHeld Lx Dx cs h0 d0 v_thrown_15 v_taped v_at v_documents v_terms v_latest v_filed v_drafted v_place v_over v_clock v_askedTerms v_segments v_done v_postingsDone v_postingsAll v_why v_hits v_holds v_latest _ h) [0, 13] [1, 2, 3, 4, 5, 6, 7, 8, 9, 10, 11, 12] rfl rfl (by decide) (by decide) (by decide) wM_X9_263 wb_X9_isHeld hy_X9_isHeld (q0 := 0) rfl rfl rfl ⟨Nat.le_of_ble_eq_true rfl, Nat.le_of_ble_eq_true rfl⟩ (Nat.le_of_ble_eq_true rfl) hkm hnm rfl dX9_publish_40 (fun v w1 hw => ?_) [] rfl (fun _ _ h => h.elim)
      obtain ⟨r_83, rfl, rfl, h⟩ := hw
      refine a_ws (st1 := [.int r_83]) (ws1 := [(h0, oX9 d0 v_thrown_15 v_taped v_at v_documents v_terms v_latest v_filed v_drafted v_place v_over v_clock v_askedTerms v_segments v_done v_postingsDone v_postingsAll v_why v_hits), ((d0 21), aI cs 16000 v_file), ((d0 11), aI cs 5 v_bits), ((d0 12), aI cs 5 v_codec), ((d0 13), aI cs 5 v_size), ((d0 14), aI cs 5 v_words), ((d0 16), aI cs 12800 v_impact), ((d0 15), aI cs 2560 v_letter), ((d0 3), aI cs 8 v_word), ((d0 27), aI cs 40 v_gap), ((d0 22), aI cs 16000 v_draft), ((d0 18), aZ cs 5 v_kept), ((d0 17), aI cs 5 v_generation), ((d0 20), aI cs 4 v_holds)]) k n9 43 [12, 0, 1, 2, 3, 4, 5, 6, 7, 8, 9, 10, 11, 13] rfl rfl rfl rfl (by decide) rfl ?_
      refine a_if_ne C (pc := 43) 50 dX9_publish_43 (by decide) (fun hc => ?_) (fun hc => ?_)
      · have h := h.1 hc
        exact w_X9_publish_50 C hkm hnm v_thrown_15 v_latest v_drafted v_place v_over v_bits v_codec v_size v_words v_impact v_letter v_word v_gap v_draft v_kept v_generation r_16 h
      · have h := h.2 hc
        refine a_iconst C (pc := 46) dX9_publish_46 ic_1 ?_
        refine a_goto C (pc := 47) 51 dX9_publish_47 (by decide) ?_
        exact w_X9_publish_51 C hkm hnm v_thrown_15 v_latest v_drafted v_place v_over v_bits v_codec v_size v_words v_impact v_letter v_word v_gap v_draft v_kept v_generation r_16 1 h
  · have h := h.2 hc
    refine a_iconst C (pc := 20) dX9_publish_20 ic_0 ?_
    exact a_ireturn C (pc := 21) rfl dX9_publish_21 hkm hnm ⟨_, _, _, _, _, _, _, _, _, _, _, _, _, _, _, _, _, rfl, rfl, h⟩
set_option maxRecDepth 100000 in
set_option maxHeartbeats 4000000 in
theorem m_X9_publish (Lx : Launch) (Dx : va_G) (cs : Nat → ClassId) (h0 : Nat) (d0 : Nat → Nat) (v_thrown : Int32) (v_taped : Int32) (v_at : Int32) (v_documents : Int32) (v_terms : Int32) (v_latest : Int32) (v_filed : Int32) (v_drafted : Int32) (v_place : Int32) (v_over : Int32) (v_clock : Int64) (v_askedTerms : Int32) (v_segments : Int32) (v_done : Int32) (v_postingsDone : Int32) (v_postingsAll : Int32) (v_why : Int32) (v_hits : Int32) (v_file : Nat → Int32) (v_bits : Nat → Int32) (v_codec : Nat → Int32) (v_size : Nat → Int32) (v_words : Nat → Int32) (v_impact : Nat → Int32) (v_letter : Nat → Int32) (v_word : Nat → Int32) (v_gap : Nat → Int32) (v_draft : Nat → Int32) (v_kept : Nat → Int32) (v_generation : Nat → Int32) (v_holds : Nat → Int32) (Φ : Int32 → Int32 → Int32 → Int32 → Int32 → Int32 → (Nat → Int32) → (Nat → Int32) → (Nat → Int32) → (Nat → Int32) → (Nat → Int32) → (Nat → Int32) → (Nat → Int32) → (Nat → Int32) → (Nat → Int32) → (Nat → Int32) → (Nat → Int32) → Prop) (h : P_X9_publish v_thrown v_latest v_filed v_drafted v_place v_over v_file v_bits v_codec v_size v_words v_impact v_letter v_word v_gap v_draft v_kept v_generation v_holds Φ) : XMet Lx Dx cs yX9_publish cX9_publish 4 (some .int) 5 127 0 0 [.ref h0] [(h0, oX9 d0 v_thrown v_taped v_at v_documents v_terms v_latest v_filed v_drafted v_place v_over v_clock v_askedTerms v_segments v_done v_postingsDone v_postingsAll v_why v_hits), ((d0 21), aI cs 16000 v_file), ((d0 11), aI cs 5 v_bits), ((d0 12), aI cs 5 v_codec), ((d0 13), aI cs 5 v_size), ((d0 14), aI cs 5 v_words), ((d0 16), aI cs 12800 v_impact), ((d0 15), aI cs 2560 v_letter), ((d0 3), aI cs 8 v_word), ((d0 27), aI cs 40 v_gap), ((d0 22), aI cs 16000 v_draft), ((d0 18), aZ cs 5 v_kept), ((d0 17), aI cs 5 v_generation), ((d0 20), aI cs 4 v_holds)] (R_X9_publish cs h0 d0 v_taped v_at v_documents v_terms v_filed v_clock v_askedTerms v_segments v_done v_postingsDone v_postingsAll v_why v_hits v_file v_holds Φ) (fun _ _ => False) := by
  refine XMet.of (own := RX9) (nm := "publish") (by decide) rfl rfl (Nat.le_of_ble_eq_true rfl) (fun Γ C => ?_)
  unfold P_X9_publish at h
  refine a_aload_n C (pc := 0) 0 dX9_publish_0 rfl rfl ?_
  refine a_aload_n C (pc := 1) 0 dX9_publish_1 rfl rfl ?_
  refine a_callV C (pc := 2) (av := []) (wr := [((d0 18), aZ cs 5 v_kept), ((d0 17), aI cs 5 v_generation), ((d0 20), aI cs 4 v_holds)]) (m_X9_reads Lx Dx cs h0 d0 v_thrown v_taped v_at v_documents v_terms v_latest v_filed v_drafted v_place v_over v_clock v_askedTerms v_segments v_done v_postingsDone v_postingsAll v_why v_hits v_file v_bits v_codec v_size v_words v_impact v_letter v_word v_gap v_draft _ h) [0, 1, 2, 3, 4, 5, 6, 7, 8, 9, 10] [11, 12, 13] rfl rfl (by decide) (by decide) (by decide) wM_X9_253 wb_X9_reads hy_X9_reads (q0 := 0) rfl rfl rfl ⟨Nat.le_of_ble_eq_true rfl, Nat.le_of_ble_eq_true rfl⟩ (Nat.le_of_ble_eq_true rfl) (Nat.le_of_ble_eq_true rfl) (Nat.le_of_ble_eq_true rfl) rfl dX9_publish_2 (fun v w1 hw => ?_) [] rfl (fun _ _ h => h.elim)
  obtain ⟨r_1, v_drafted_2, v_place_3, v_over_4, v_bits_5, v_codec_6, v_size_7, v_words_8, v_impact_9, v_letter_10, v_word_11, v_gap_12, v_draft_13, rfl, rfl, h⟩ := hw
  refine a_ws (st1 := [.int r_1, .ref h0]) (ws1 := [(h0, oX9 d0 v_thrown v_taped v_at v_documents v_terms v_latest v_filed v_drafted_2 v_place_3 v_over_4 v_clock v_askedTerms v_segments v_done v_postingsDone v_postingsAll v_why v_hits), ((d0 21), aI cs 16000 v_file), ((d0 11), aI cs 5 v_bits_5), ((d0 12), aI cs 5 v_codec_6), ((d0 13), aI cs 5 v_size_7), ((d0 14), aI cs 5 v_words_8), ((d0 16), aI cs 12800 v_impact_9), ((d0 15), aI cs 2560 v_letter_10), ((d0 3), aI cs 8 v_word_11), ((d0 27), aI cs 40 v_gap_12), ((d0 22), aI cs 16000 v_draft_13), ((d0 18), aZ cs 5 v_kept), ((d0 17), aI cs 5 v_generation), ((d0 20), aI cs 4 v_holds)]) 0 0 5 [3, 4, 5, 6, 7, 8, 9, 10, 11, 12, 13, 0, 1, 2] rfl rfl rfl rfl (by decide) rfl ?_
  refine a_if_ne C (pc := 5) 12 dX9_publish_5 (by decide) (fun hc => ?_) (fun hc => ?_)
  · have h := h.1 hc
    refine a_iconst C (pc := 12) dX9_publish_12 ic_0 ?_
    exact w_X9_publish_13 C (Nat.le_of_ble_eq_true rfl) (Nat.le_of_ble_eq_true rfl) v_thrown v_latest v_drafted_2 v_place_3 v_over_4 v_bits_5 v_codec_6 v_size_7 v_words_8 v_impact_9 v_letter_10 v_word_11 v_gap_12 v_draft_13 v_kept v_generation 0 h
  · have h := h.2 hc
    refine a_iconst C (pc := 8) dX9_publish_8 ic_1 ?_
    refine a_goto C (pc := 9) 13 dX9_publish_9 (by decide) ?_
    exact w_X9_publish_13 C (Nat.le_of_ble_eq_true rfl) (Nat.le_of_ble_eq_true rfl) v_thrown v_latest v_drafted_2 v_place_3 v_over_4 v_bits_5 v_codec_6 v_size_7 v_words_8 v_impact_9 v_letter_10 v_word_11 v_gap_12 v_draft_13 v_kept v_generation 1 h
set_option maxRecDepth 100000 in
set_option maxHeartbeats 4000000 in
theorem m_X9_noReader (Lx : Launch) (Dx : va_G) (cs : Nat → ClassId) (l0 : Int32) (Φ : Int32 → Prop) (h : P_X9_noReader l0 Φ) : XMet Lx Dx cs yX9_noReader cX9_noReader 1 (some .boolean) 0 0 0 0 [.int l0] [] (R_X9_noReader cs Φ) (fun _ _ => False) := by
  refine XMet.of (own := RX9) (nm := "noReader") (by decide) rfl rfl (Nat.le_of_ble_eq_true rfl) (fun Γ C => ?_)
  unfold P_X9_noReader at h
  refine a_iload_n C (pc := 0) 0 dX9_noReader_0 rfl rfl ?_
  refine a_if_lt C (pc := 1) 9 dX9_noReader_1 (by decide) (fun hc => ?_) (fun hc => ?_)
  · have h := h.1 hc
    refine a_iconst C (pc := 9) dX9_noReader_9 ic_1 ?_
    refine a_goto C (pc := 10) 14 dX9_noReader_10 (by decide) ?_
    exact a_zreturn C (pc := 14) rfl rfl dX9_noReader_14 (Nat.le_of_ble_eq_true rfl) (Nat.le_of_ble_eq_true rfl) ⟨_, rfl, rfl, h⟩
  · have h := h.2 hc
    refine a_iload_n C (pc := 4) 0 dX9_noReader_4 rfl rfl ?_
    refine a_iconst C (pc := 5) dX9_noReader_5 ic_4 ?_
    refine a_icmp_lt C (pc := 6) 13 dX9_noReader_6 (by decide) (fun hc => ?_) (fun hc => ?_)
    · have h := h.1 hc
      refine a_iconst C (pc := 13) dX9_noReader_13 ic_0 ?_
      exact a_zreturn C (pc := 14) rfl rfl dX9_noReader_14 (Nat.le_of_ble_eq_true rfl) (Nat.le_of_ble_eq_true rfl) ⟨_, rfl, rfl, h⟩
    · have h := h.2 hc
      refine a_iconst C (pc := 9) dX9_noReader_9 ic_1 ?_
      refine a_goto C (pc := 10) 14 dX9_noReader_10 (by decide) ?_
      exact a_zreturn C (pc := 14) rfl rfl dX9_noReader_14 (Nat.le_of_ble_eq_true rfl) (Nat.le_of_ble_eq_true rfl) ⟨_, rfl, rfl, h⟩
set_option maxRecDepth 100000 in
set_option maxHeartbeats 4000000 in
theorem w_X9_open_27 {Γ : XG} {Lx : Launch} {Dx : va_G} {cs : Nat → ClassId} {h0 : Nat} {d0 : Nat → Nat} {v_taped : Int32} {v_at : Int32} {v_documents : Int32} {v_terms : Int32} {v_latest : Int32} {v_filed : Int32} {v_drafted : Int32} {v_place : Int32} {v_over : Int32} {v_clock : Int64} {v_askedTerms : Int32} {v_segments : Int32} {v_done : Int32} {v_postingsDone : Int32} {v_postingsAll : Int32} {v_why : Int32} {v_hits : Int32} {Φ : Int32 → Int32 → (Nat → Int32) → Prop} {k n9 : Nat} (C : CX Γ Lx Dx cs cX9_open RX9 "open" 2 (some .int) 1 22 0 0 (qEC cs 0 0 [] (R_X9_open cs h0 d0 v_taped v_at v_documents v_terms v_latest v_filed v_drafted v_place v_over v_clock v_askedTerms v_segments v_done v_postingsDone v_postingsAll v_why v_hits Φ) (fun _ _ => False))) (hkm : k ≤ 0) (hnm : n9 ≤ 0) (v_thrown : Int32) (v_holds : Nat → Int32) (l1 : Int32) (s1 : Int32) (h : J_X9_open_27 v_thrown v_latest v_holds l1 s1 Φ) : AW Γ k n9 27 [(0, .ref h0), (1, .int l1)] [.int s1, .ref h0] [(h0, oX9 d0 v_thrown v_taped v_at v_documents v_terms v_latest v_filed v_drafted v_place v_over v_clock v_askedTerms v_segments v_done v_postingsDone v_postingsAll v_why v_hits), ((d0 20), aI cs 4 v_holds)] := by
  unfold J_X9_open_27 at h
  refine a_iconst C (pc := 27) dX9_open_27 ic_2 ?_
  refine a_callV C (pc := 28) (av := [.int s1, .int 2]) (wr := [((d0 20), aI cs 4 v_holds)]) (m_X9_fails Lx Dx cs h0 d0 v_thrown v_taped v_at v_documents v_terms v_latest v_filed v_drafted v_place v_over v_clock v_askedTerms v_segments v_done v_postingsDone v_postingsAll v_why v_hits s1 2 _ h) [0] [1] rfl rfl (by decide) (by decide) (by decide) wM_X9_93 wb_X9_fails hy_X9_fails (q0 := 0) rfl rfl rfl ⟨Nat.le_of_ble_eq_true rfl, Nat.le_of_ble_eq_true rfl⟩ (Nat.le_of_ble_eq_true rfl) hkm hnm rfl dX9_open_28 (fun v w1 hw => ?_) [] rfl (fun _ _ h => h.elim)
  obtain ⟨r_4, v_thrown_5, rfl, rfl, h⟩ := hw
  refine a_ws (st1 := [.int r_4]) (ws1 := [(h0, oX9 d0 v_thrown_5 v_taped v_at v_documents v_terms v_latest v_filed v_drafted v_place v_over v_clock v_askedTerms v_segments v_done v_postingsDone v_postingsAll v_why v_hits), ((d0 20), aI cs 4 v_holds)]) k n9 31 [1, 0] rfl rfl rfl rfl (by decide) rfl ?_
  refine a_if_eq C (pc := 31) 36 dX9_open_31 (by decide) (fun hc => ?_) (fun hc => ?_)
  · have h := h.1 hc
    refine a_aload_n C (pc := 36) 0 dX9_open_36 rfl rfl ?_
    refine a_get C (pc := 37) 0 20 inW_X9 rfl rfl (Nat.le_of_ble_eq_true rfl) wF_X9_53 rfl rfl dX9_open_37 ?_
    refine a_iload_n C (pc := 40) 1 dX9_open_40 rfl rfl ?_
    refine a_aload_n C (pc := 41) 0 dX9_open_41 rfl rfl ?_
    refine a_get C (pc := 42) 0 19 inW_X9 rfl rfl (Nat.le_of_ble_eq_true rfl) wF_X9_257 rfl rfl dX9_open_42 ?_
    refine a_iast C (pc := 45) (ws1 := [(h0, oX9 d0 v_thrown_5 v_taped v_at v_documents v_terms v_latest v_filed v_drafted v_place v_over v_clock v_askedTerms v_segments v_done v_postingsDone v_postingsAll v_why v_hits), ((d0 20), aI cs 4 (upd v_holds (l1 : Int32).toNatClampNeg v_latest))]) 1 rfl h.1 dX9_open_45 rfl ?_
    replace h := h.2
    refine a_aload_n C (pc := 46) 0 dX9_open_46 rfl rfl ?_
    refine a_get C (pc := 47) 0 19 inW_X9 rfl rfl (Nat.le_of_ble_eq_true rfl) wF_X9_257 rfl rfl dX9_open_47 ?_
    exact a_ireturn C (pc := 50) rfl dX9_open_50 hkm hnm ⟨_, _, _, rfl, rfl, h⟩
  · have h := h.2 hc
    refine a_iconst C (pc := 34) dX9_open_34 ic_0 ?_
    exact a_ireturn C (pc := 35) rfl dX9_open_35 hkm hnm ⟨_, _, _, rfl, rfl, h⟩
set_option maxRecDepth 100000 in
set_option maxHeartbeats 4000000 in
theorem m_X9_open (Lx : Launch) (Dx : va_G) (cs : Nat → ClassId) (h0 : Nat) (d0 : Nat → Nat) (v_thrown : Int32) (v_taped : Int32) (v_at : Int32) (v_documents : Int32) (v_terms : Int32) (v_latest : Int32) (v_filed : Int32) (v_drafted : Int32) (v_place : Int32) (v_over : Int32) (v_clock : Int64) (v_askedTerms : Int32) (v_segments : Int32) (v_done : Int32) (v_postingsDone : Int32) (v_postingsAll : Int32) (v_why : Int32) (v_hits : Int32) (v_holds : Nat → Int32) (l1 : Int32) (Φ : Int32 → Int32 → (Nat → Int32) → Prop) (h : P_X9_open v_thrown v_latest v_holds l1 Φ) : XMet Lx Dx cs yX9_open cX9_open 2 (some .int) 1 22 0 0 [.ref h0, .int l1] [(h0, oX9 d0 v_thrown v_taped v_at v_documents v_terms v_latest v_filed v_drafted v_place v_over v_clock v_askedTerms v_segments v_done v_postingsDone v_postingsAll v_why v_hits), ((d0 20), aI cs 4 v_holds)] (R_X9_open cs h0 d0 v_taped v_at v_documents v_terms v_latest v_filed v_drafted v_place v_over v_clock v_askedTerms v_segments v_done v_postingsDone v_postingsAll v_why v_hits Φ) (fun _ _ => False) := by
  refine XMet.of (own := RX9) (nm := "open") (by decide) rfl rfl (Nat.le_of_ble_eq_true rfl) (fun Γ C => ?_)
  unfold P_X9_open at h
  refine a_aload_n C (pc := 0) 0 dX9_open_0 rfl rfl ?_
  refine a_iload_n C (pc := 1) 1 dX9_open_1 rfl rfl ?_
  refine a_callS C (pc := 2) (av := [.int l1]) (wr := [(h0, oX9 d0 v_thrown v_taped v_at v_documents v_terms v_latest v_filed v_drafted v_place v_over v_clock v_askedTerms v_segments v_done v_postingsDone v_postingsAll v_why v_hits), ((d0 20), aI cs 4 v_holds)]) (m_X9_noReader Lx Dx cs l1 _ h) [] [0, 1] rfl rfl (by decide) (by decide) (by decide) wM_X9_272 wb_X9_noReader hy_X9_noReader rfl ⟨Nat.le_of_ble_eq_true rfl, Nat.le_of_ble_eq_true rfl⟩ (Nat.le_of_ble_eq_true rfl) (Nat.le_of_ble_eq_true rfl) (Nat.le_of_ble_eq_true rfl) rfl dX9_open_2 (fun v w1 hw => ?_) [] rfl (fun _ _ h => h.elim)
  obtain ⟨r_1, rfl, rfl, h⟩ := hw
  refine a_ws (st1 := [.int r_1, .ref h0]) (ws1 := [(h0, oX9 d0 v_thrown v_taped v_at v_documents v_terms v_latest v_filed v_drafted v_place v_over v_clock v_askedTerms v_segments v_done v_postingsDone v_postingsAll v_why v_hits), ((d0 20), aI cs 4 v_holds)]) 0 0 5 [0, 1] rfl rfl rfl rfl (by decide) rfl ?_
  refine a_iconst C (pc := 5) dX9_open_5 ic_1 ?_
  refine a_callV C (pc := 6) (av := [.int r_1, .int 1]) (wr := [((d0 20), aI cs 4 v_holds)]) (m_X9_fails Lx Dx cs h0 d0 v_thrown v_taped v_at v_documents v_terms v_latest v_filed v_drafted v_place v_over v_clock v_askedTerms v_segments v_done v_postingsDone v_postingsAll v_why v_hits r_1 1 _ h) [0] [1] rfl rfl (by decide) (by decide) (by decide) wM_X9_93 wb_X9_fails hy_X9_fails (q0 := 0) rfl rfl rfl ⟨Nat.le_of_ble_eq_true rfl, Nat.le_of_ble_eq_true rfl⟩ (Nat.le_of_ble_eq_true rfl) (Nat.le_of_ble_eq_true rfl) (Nat.le_of_ble_eq_true rfl) rfl dX9_open_6 (fun v w1 hw => ?_) [] rfl (fun _ _ h => h.elim)
  obtain ⟨r_2, v_thrown_3, rfl, rfl, h⟩ := hw
  refine a_ws (st1 := [.int r_2]) (ws1 := [(h0, oX9 d0 v_thrown_3 v_taped v_at v_documents v_terms v_latest v_filed v_drafted v_place v_over v_clock v_askedTerms v_segments v_done v_postingsDone v_postingsAll v_why v_hits), ((d0 20), aI cs 4 v_holds)]) 0 0 9 [1, 0] rfl rfl rfl rfl (by decide) rfl ?_
  refine a_if_ne C (pc := 9) 34 dX9_open_9 (by decide) (fun hc => ?_) (fun hc => ?_)
  · have h := h.1 hc
    refine a_iconst C (pc := 34) dX9_open_34 ic_0 ?_
    exact a_ireturn C (pc := 35) rfl dX9_open_35 (Nat.le_of_ble_eq_true rfl) (Nat.le_of_ble_eq_true rfl) ⟨_, _, _, rfl, rfl, h⟩
  · have h := h.2 hc
    refine a_aload_n C (pc := 12) 0 dX9_open_12 rfl rfl ?_
    refine a_aload_n C (pc := 13) 0 dX9_open_13 rfl rfl ?_
    refine a_get C (pc := 14) 0 20 inW_X9 rfl rfl (Nat.le_of_ble_eq_true rfl) wF_X9_53 rfl rfl dX9_open_14 ?_
    refine a_iload_n C (pc := 17) 1 dX9_open_17 rfl rfl ?_
    refine a_iald C (pc := 18) 1 rfl h.1 dX9_open_18 ?_
    replace h := h.2
    refine a_if_lt C (pc := 19) 26 dX9_open_19 (by decide) (fun hc => ?_) (fun hc => ?_)
    · have h := h.1 hc
      refine a_iconst C (pc := 26) dX9_open_26 ic_0 ?_
      exact w_X9_open_27 C (Nat.le_of_ble_eq_true rfl) (Nat.le_of_ble_eq_true rfl) v_thrown_3 v_holds l1 0 h
    · have h := h.2 hc
      refine a_iconst C (pc := 22) dX9_open_22 ic_1 ?_
      refine a_goto C (pc := 23) 27 dX9_open_23 (by decide) ?_
      exact w_X9_open_27 C (Nat.le_of_ble_eq_true rfl) (Nat.le_of_ble_eq_true rfl) v_thrown_3 v_holds l1 1 h
set_option maxRecDepth 100000 in
set_option maxHeartbeats 4000000 in
theorem m_X9_close (Lx : Launch) (Dx : va_G) (cs : Nat → ClassId) (h0 : Nat) (d0 : Nat → Nat) (v_thrown : Int32) (v_taped : Int32) (v_at : Int32) (v_documents : Int32) (v_terms : Int32) (v_latest : Int32) (v_filed : Int32) (v_drafted : Int32) (v_place : Int32) (v_over : Int32) (v_clock : Int64) (v_askedTerms : Int32) (v_segments : Int32) (v_done : Int32) (v_postingsDone : Int32) (v_postingsAll : Int32) (v_why : Int32) (v_hits : Int32) (v_holds : Nat → Int32) (v_kept : Nat → Int32) (v_generation : Nat → Int32) (l1 : Int32) (Φ : Int32 → Int32 → (Nat → Int32) → (Nat → Int32) → Prop) (h : P_X9_close v_thrown v_latest v_holds v_kept v_generation l1 Φ) : XMet Lx Dx cs yX9_close cX9_close 4 (some .boolean) 1 23 0 0 [.ref h0, .int l1] [(h0, oX9 d0 v_thrown v_taped v_at v_documents v_terms v_latest v_filed v_drafted v_place v_over v_clock v_askedTerms v_segments v_done v_postingsDone v_postingsAll v_why v_hits), ((d0 20), aI cs 4 v_holds), ((d0 18), aZ cs 5 v_kept), ((d0 17), aI cs 5 v_generation)] (R_X9_close cs h0 d0 v_taped v_at v_documents v_terms v_latest v_filed v_drafted v_place v_over v_clock v_askedTerms v_segments v_done v_postingsDone v_postingsAll v_why v_hits v_generation Φ) (fun _ _ => False) := by
  refine XMet.of (own := RX9) (nm := "close") (by decide) rfl rfl (Nat.le_of_ble_eq_true rfl) (fun Γ C => ?_)
  unfold P_X9_close at h
  refine a_aload_n C (pc := 0) 0 dX9_close_0 rfl rfl ?_
  refine a_iload_n C (pc := 1) 1 dX9_close_1 rfl rfl ?_
  refine a_callS C (pc := 2) (av := [.int l1]) (wr := [(h0, oX9 d0 v_thrown v_taped v_at v_documents v_terms v_latest v_filed v_drafted v_place v_over v_clock v_askedTerms v_segments v_done v_postingsDone v_postingsAll v_why v_hits), ((d0 20), aI cs 4 v_holds), ((d0 18), aZ cs 5 v_kept), ((d0 17), aI cs 5 v_generation)]) (m_X9_noReader Lx Dx cs l1 _ h) [] [0, 1, 2, 3] rfl rfl (by decide) (by decide) (by decide) wM_X9_272 wb_X9_noReader hy_X9_noReader rfl ⟨Nat.le_of_ble_eq_true rfl, Nat.le_of_ble_eq_true rfl⟩ (Nat.le_of_ble_eq_true rfl) (Nat.le_of_ble_eq_true rfl) (Nat.le_of_ble_eq_true rfl) rfl dX9_close_2 (fun v w1 hw => ?_) [] rfl (fun _ _ h => h.elim)
  obtain ⟨r_1, rfl, rfl, h⟩ := hw
  refine a_ws (st1 := [.int r_1, .ref h0]) (ws1 := [(h0, oX9 d0 v_thrown v_taped v_at v_documents v_terms v_latest v_filed v_drafted v_place v_over v_clock v_askedTerms v_segments v_done v_postingsDone v_postingsAll v_why v_hits), ((d0 20), aI cs 4 v_holds), ((d0 18), aZ cs 5 v_kept), ((d0 17), aI cs 5 v_generation)]) 0 0 5 [0, 1, 2, 3] rfl rfl rfl rfl (by decide) rfl ?_
  refine a_iconst C (pc := 5) dX9_close_5 ic_1 ?_
  refine a_callV C (pc := 6) (av := [.int r_1, .int 1]) (wr := [((d0 20), aI cs 4 v_holds), ((d0 18), aZ cs 5 v_kept), ((d0 17), aI cs 5 v_generation)]) (m_X9_fails Lx Dx cs h0 d0 v_thrown v_taped v_at v_documents v_terms v_latest v_filed v_drafted v_place v_over v_clock v_askedTerms v_segments v_done v_postingsDone v_postingsAll v_why v_hits r_1 1 _ h) [0] [1, 2, 3] rfl rfl (by decide) (by decide) (by decide) wM_X9_93 wb_X9_fails hy_X9_fails (q0 := 0) rfl rfl rfl ⟨Nat.le_of_ble_eq_true rfl, Nat.le_of_ble_eq_true rfl⟩ (Nat.le_of_ble_eq_true rfl) (Nat.le_of_ble_eq_true rfl) (Nat.le_of_ble_eq_true rfl) rfl dX9_close_6 (fun v w1 hw => ?_) [] rfl (fun _ _ h => h.elim)
  obtain ⟨r_2, v_thrown_3, rfl, rfl, h⟩ := hw
  refine a_ws (st1 := [.int r_2]) (ws1 := [(h0, oX9 d0 v_thrown_3 v_taped v_at v_documents v_terms v_latest v_filed v_drafted v_place v_over v_clock v_askedTerms v_segments v_done v_postingsDone v_postingsAll v_why v_hits), ((d0 20), aI cs 4 v_holds), ((d0 18), aZ cs 5 v_kept), ((d0 17), aI cs 5 v_generation)]) 0 0 9 [3, 0, 1, 2] rfl rfl rfl rfl (by decide) rfl ?_
  refine a_if_ne C (pc := 9) 21 dX9_close_9 (by decide) (fun hc => ?_) (fun hc => ?_)
  · have h := h.1 hc
    refine a_iconst C (pc := 21) dX9_close_21 ic_0 ?_
    exact a_zreturn C (pc := 22) rfl rfl dX9_close_22 (Nat.le_of_ble_eq_true rfl) (Nat.le_of_ble_eq_true rfl) ⟨_, _, _, _, rfl, rfl, h⟩
  · have h := h.2 hc
    refine a_aload_n C (pc := 12) 0 dX9_close_12 rfl rfl ?_
    refine a_get C (pc := 13) 0 20 inW_X9 rfl rfl (Nat.le_of_ble_eq_true rfl) wF_X9_53 rfl rfl dX9_close_13 ?_
    refine a_iload_n C (pc := 16) 1 dX9_close_16 rfl rfl ?_
    refine a_iald C (pc := 17) 1 rfl h.1 dX9_close_17 ?_
    replace h := h.2
    refine a_if_ge C (pc := 18) 23 dX9_close_18 (by decide) (fun hc => ?_) (fun hc => ?_)
    · have h := h.1 hc
      refine a_aload_n C (pc := 23) 0 dX9_close_23 rfl rfl ?_
      refine a_get C (pc := 24) 0 20 inW_X9 rfl rfl (Nat.le_of_ble_eq_true rfl) wF_X9_53 rfl rfl dX9_close_24 ?_
      refine a_iload_n C (pc := 27) 1 dX9_close_27 rfl rfl ?_
      refine a_iald C (pc := 28) 1 rfl h.1 dX9_close_28 ?_
      replace h := h.2
      refine a_istore_n C (pc := 29) (lv1 := [(0, .ref h0), (1, .int l1), (2, .int (v_holds (l1 : Int32).toNatClampNeg))]) [1, 2, 0] dX9_close_29 rfl (by decide) rfl ?_
      refine a_aload_n C (pc := 30) 0 dX9_close_30 rfl rfl ?_
      refine a_get C (pc := 31) 0 20 inW_X9 rfl rfl (Nat.le_of_ble_eq_true rfl) wF_X9_53 rfl rfl dX9_close_31 ?_
      refine a_iload_n C (pc := 34) 1 dX9_close_34 rfl rfl ?_
      refine a_iconst C (pc := 35) dX9_close_35 ic_m1 ?_
      refine a_iast C (pc := 36) (ws1 := [(h0, oX9 d0 v_thrown_3 v_taped v_at v_documents v_terms v_latest v_filed v_drafted v_place v_over v_clock v_askedTerms v_segments v_done v_postingsDone v_postingsAll v_why v_hits), ((d0 20), aI cs 4 (upd v_holds (l1 : Int32).toNatClampNeg (-1))), ((d0 18), aZ cs 5 v_kept), ((d0 17), aI cs 5 v_generation)]) 1 rfl h.1 dX9_close_36 rfl ?_
      replace h := h.2
      refine a_aload_n C (pc := 37) 0 dX9_close_37 rfl rfl ?_
      refine a_iload_n C (pc := 38) 2 dX9_close_38 rfl rfl ?_
      refine a_callV C (pc := 39) (av := [.int (v_holds (l1 : Int32).toNatClampNeg)]) (wr := [((d0 20), aI cs 4 (upd v_holds (l1 : Int32).toNatClampNeg (-1)))]) (m_X9_slotOf Lx Dx cs h0 d0 v_thrown_3 v_taped v_at v_documents v_terms v_latest v_filed v_drafted v_place v_over v_clock v_askedTerms v_segments v_done v_postingsDone v_postingsAll v_why v_hits v_kept v_generation (v_holds (l1 : Int32).toNatClampNeg) _ h) [0, 2, 3] [1] rfl rfl (by decide) (by decide) (by decide) wM_X9_260 wb_X9_slotOf hy_X9_slotOf (q0 := 0) rfl rfl rfl ⟨Nat.le_of_ble_eq_true rfl, Nat.le_of_ble_eq_true rfl⟩ (Nat.le_of_ble_eq_true rfl) (Nat.le_of_ble_eq_true rfl) (Nat.le_of_ble_eq_true rfl) rfl dX9_close_39 (fun v w1 hw => ?_) [] rfl (fun _ _ h => h.elim)
      obtain ⟨r_4, rfl, rfl, h⟩ := hw
      refine a_ws (st1 := [.int r_4]) (ws1 := [(h0, oX9 d0 v_thrown_3 v_taped v_at v_documents v_terms v_latest v_filed v_drafted v_place v_over v_clock v_askedTerms v_segments v_done v_postingsDone v_postingsAll v_why v_hits), ((d0 20), aI cs 4 (upd v_holds (l1 : Int32).toNatClampNeg (-1))), ((d0 18), aZ cs 5 v_kept), ((d0 17), aI cs 5 v_generation)]) 0 0 42 [1, 0, 2, 3] rfl rfl rfl rfl (by decide) rfl ?_
      refine a_istore_n C (pc := 42) (lv1 := [(0, .ref h0), (1, .int l1), (2, .int (v_holds (l1 : Int32).toNatClampNeg)), (3, .int r_4)]) [1, 2, 3, 0] dX9_close_42 rfl (by decide) rfl ?_
      refine a_iload_n C (pc := 43) 3 dX9_close_43 rfl rfl ?_
      refine a_if_lt C (pc := 44) 70 dX9_close_44 (by decide) (fun hc => ?_) (fun hc => ?_)
      · have h := h.1 hc
        refine a_iconst C (pc := 70) dX9_close_70 ic_1 ?_
        exact a_zreturn C (pc := 71) rfl rfl dX9_close_71 (Nat.le_of_ble_eq_true rfl) (Nat.le_of_ble_eq_true rfl) ⟨_, _, _, _, rfl, rfl, h⟩
      · have h := h.2 hc
        refine a_iload_n C (pc := 47) 2 dX9_close_47 rfl rfl ?_
        refine a_aload_n C (pc := 48) 0 dX9_close_48 rfl rfl ?_
        refine a_get C (pc := 49) 0 19 inW_X9 rfl rfl (Nat.le_of_ble_eq_true rfl) wF_X9_257 rfl rfl dX9_close_49 ?_
        refine a_icmp_eq C (pc := 52) 70 dX9_close_52 (by decide) (fun hc => ?_) (fun hc => ?_)
        · have h := h.1 hc
          refine a_iconst C (pc := 70) dX9_close_70 ic_1 ?_
          exact a_zreturn C (pc := 71) rfl rfl dX9_close_71 (Nat.le_of_ble_eq_true rfl) (Nat.le_of_ble_eq_true rfl) ⟨_, _, _, _, rfl, rfl, h⟩
        · have h := h.2 hc
          refine a_aload_n C (pc := 55) 0 dX9_close_55 rfl rfl ?_
          refine a_iload_n C (pc := 56) 2 dX9_close_56 rfl rfl ?_
          refine a_callV C (pc := 57) (av := [.int (v_holds (l1 : Int32).toNatClampNeg)]) (wr := [((d0 18), aZ cs 5 v_kept), ((d0 17), aI cs 5 v_generation)]) (m_X9_isHeld Lx Dx cs h0 d0 v_thrown_3 v_taped v_at v_documents v_terms v_latest v_filed v_drafted v_place v_over v_clock v_askedTerms v_segments v_done v_postingsDone v_postingsAll v_why v_hits (upd v_holds (l1 : Int32).toNatClampNeg (-1)) (v_holds (l1 : Int32).toNatClampNeg) _ h) [0, 1] [2, 3] rfl rfl (by decide) (by decide) (by decide) wM_X9_263 wb_X9_isHeld hy_X9_isHeld (q0 := 0) rfl rfl rfl ⟨Nat.le_of_ble_eq_true rfl, Nat.le_of_ble_eq_true rfl⟩ (Nat.le_of_ble_eq_true rfl) (Nat.le_of_ble_eq_true rfl) (Nat.le_of_ble_eq_true rfl) rfl dX9_close_57 (fun v w1 hw => ?_) [] rfl (fun _ _ h => h.elim)
          obtain ⟨r_5, rfl, rfl, h⟩ := hw
          refine a_ws (st1 := [.int r_5]) (ws1 := [(h0, oX9 d0 v_thrown_3 v_taped v_at v_documents v_terms v_latest v_filed v_drafted v_place v_over v_clock v_askedTerms v_segments v_done v_postingsDone v_postingsAll v_why v_hits), ((d0 20), aI cs 4 (upd v_holds (l1 : Int32).toNatClampNeg (-1))), ((d0 18), aZ cs 5 v_kept), ((d0 17), aI cs 5 v_generation)]) 0 0 60 [2, 3, 0, 1] rfl rfl rfl rfl (by decide) rfl ?_
          refine a_if_ne C (pc := 60) 70 dX9_close_60 (by decide) (fun hc => ?_) (fun hc => ?_)
          · have h := h.1 hc
            refine a_iconst C (pc := 70) dX9_close_70 ic_1 ?_
            exact a_zreturn C (pc := 71) rfl rfl dX9_close_71 (Nat.le_of_ble_eq_true rfl) (Nat.le_of_ble_eq_true rfl) ⟨_, _, _, _, rfl, rfl, h⟩
          · have h := h.2 hc
            refine a_aload_n C (pc := 63) 0 dX9_close_63 rfl rfl ?_
            refine a_get C (pc := 64) 0 18 inW_X9 rfl rfl (Nat.le_of_ble_eq_true rfl) wF_X9_49 rfl rfl dX9_close_64 ?_
            refine a_iload_n C (pc := 67) 3 dX9_close_67 rfl rfl ?_
            refine a_iconst C (pc := 68) dX9_close_68 ic_0 ?_
            refine a_zast C (pc := 69) (ws1 := [(h0, oX9 d0 v_thrown_3 v_taped v_at v_documents v_terms v_latest v_filed v_drafted v_place v_over v_clock v_askedTerms v_segments v_done v_postingsDone v_postingsAll v_why v_hits), ((d0 20), aI cs 4 (upd v_holds (l1 : Int32).toNatClampNeg (-1))), ((d0 18), aZ cs 5 (upd v_kept (r_4 : Int32).toNatClampNeg (vp_nar .boolean 0))), ((d0 17), aI cs 5 v_generation)]) 2 rfl h.1 dX9_close_69 rfl ?_
            replace h := h.2
            refine a_iconst C (pc := 70) dX9_close_70 ic_1 ?_
            exact a_zreturn C (pc := 71) rfl rfl dX9_close_71 (Nat.le_of_ble_eq_true rfl) (Nat.le_of_ble_eq_true rfl) ⟨_, _, _, _, rfl, rfl, h⟩
    · have h := h.2 hc
      refine a_iconst C (pc := 21) dX9_close_21 ic_0 ?_
      exact a_zreturn C (pc := 22) rfl rfl dX9_close_22 (Nat.le_of_ble_eq_true rfl) (Nat.le_of_ble_eq_true rfl) ⟨_, _, _, _, rfl, rfl, h⟩
set_option maxRecDepth 100000 in
set_option maxHeartbeats 4000000 in
theorem w_X9_postingsOf_8 {Γ : XG} {Lx : Launch} {Dx : va_G} {cs : Nat → ClassId} {h0 : Nat} {d0 : Nat → Nat} {v_thrown : Int32} {v_taped : Int32} {v_at : Int32} {v_documents : Int32} {v_terms : Int32} {v_latest : Int32} {v_filed : Int32} {v_drafted : Int32} {v_place : Int32} {v_over : Int32} {v_clock : Int64} {v_askedTerms : Int32} {v_segments : Int32} {v_done : Int32} {v_postingsDone : Int32} {v_postingsAll : Int32} {v_why : Int32} {v_hits : Int32} {v_words : Nat → Int32} {v_impact : Nat → Int32} {K_50 : Int32 → Prop} {Φ : Int32 → Prop} {k n9 : Nat} (C : CX Γ Lx Dx cs cX9_postingsOf RX9 "postingsOf" 4 (some .int) 0 0 0 0 (qEC cs 0 0 [] (R_X9_postingsOf cs h0 d0 v_thrown v_taped v_at v_documents v_terms v_latest v_filed v_drafted v_place v_over v_clock v_askedTerms v_segments v_done v_postingsDone v_postingsAll v_why v_hits v_words v_impact Φ) (fun _ _ => False))) (hkm : k ≤ 0) (hnm : n9 ≤ 0) : ∀ n : Nat, ∀ (l1 : Int32) (l2 : Int32) (l3 : Int32), L_X9_postingsOf_8 n v_words v_impact l1 l2 l3 K_50 Φ → (∀ (l2_1 : Int32), K_50 l2_1 → AW Γ k n9 50 [(2, .int l2_1)] [] [(h0, oX9 d0 v_thrown v_taped v_at v_documents v_terms v_latest v_filed v_drafted v_place v_over v_clock v_askedTerms v_segments v_done v_postingsDone v_postingsAll v_why v_hits), ((d0 14), aI cs 5 v_words), ((d0 16), aI cs 12800 v_impact)]) → AW Γ k n9 8 [(0, .ref h0), (1, .int l1), (2, .int l2), (3, .int l3)] [] [(h0, oX9 d0 v_thrown v_taped v_at v_documents v_terms v_latest v_filed v_drafted v_place v_over v_clock v_askedTerms v_segments v_done v_postingsDone v_postingsAll v_why v_hits), ((d0 14), aI cs 5 v_words), ((d0 16), aI cs 12800 v_impact)] := by
  intro n
  induction n with
  | zero =>
    intro l1 l2 l3 h
    exact False.elim h
  | succ n ih =>
    intro l1 l2 l3 h hK_50
    rw [L_X9_postingsOf_8] at h
    refine a_iload_n C (pc := 8) 3 dX9_postingsOf_8 rfl rfl ?_
    refine a_sipush C (pc := 9) dX9_postingsOf_9 sp_2560 ?_
    refine a_iload_n C (pc := 12) 1 dX9_postingsOf_12 rfl rfl ?_
    refine a_imul C (pc := 13) dX9_postingsOf_13 ?_
    refine a_bipush C (pc := 14) dX9_postingsOf_14 bp_40 ?_
    refine a_aload_n C (pc := 16) 0 dX9_postingsOf_16 rfl rfl ?_
    refine a_get C (pc := 17) 0 14 inW_X9 rfl rfl (Nat.le_of_ble_eq_true rfl) wF_X9_37 rfl rfl dX9_postingsOf_17 ?_
    refine a_iload_n C (pc := 20) 1 dX9_postingsOf_20 rfl rfl ?_
    refine a_iald C (pc := 21) 1 rfl h.1 dX9_postingsOf_21 ?_
    replace h := h.2
    refine a_imul C (pc := 22) dX9_postingsOf_22 ?_
    refine a_iadd C (pc := 23) dX9_postingsOf_23 ?_
    refine a_icmp_ge C (pc := 24) 50 dX9_postingsOf_24 (by decide) (fun hc => ?_) (fun hc => ?_)
    · have h := h.1 hc
      refine a_lv (lv1 := [(2, .int l2)]) [2] rfl ?_
      exact hK_50 l2 h
    · have h := h.2 hc
      refine a_iload_n C (pc := 27) 2 dX9_postingsOf_27 rfl rfl ?_
      refine a_aload_n C (pc := 28) 0 dX9_postingsOf_28 rfl rfl ?_
      refine a_get C (pc := 29) 0 16 inW_X9 rfl rfl (Nat.le_of_ble_eq_true rfl) wF_X9_43 rfl rfl dX9_postingsOf_29 ?_
      refine a_iload_n C (pc := 32) 3 dX9_postingsOf_32 rfl rfl ?_
      refine a_iald C (pc := 33) 2 rfl h.1 dX9_postingsOf_33 ?_
      replace h := h.2
      refine a_if_le C (pc := 34) 41 dX9_postingsOf_34 (by decide) (fun hc => ?_) (fun hc => ?_)
      · have h := h.1 hc
        refine a_iconst C (pc := 41) dX9_postingsOf_41 ic_0 ?_
        refine a_iadd C (pc := 42) dX9_postingsOf_42 ?_
        refine a_istore_n C (pc := 43) (lv1 := [(0, .ref h0), (1, .int l1), (2, .int (l2 + 0)), (3, .int l3)]) [1, 2, 0, 3] dX9_postingsOf_43 rfl (by decide) rfl ?_
        refine a_iinc C (pc := 44) (lv1 := [(0, .ref h0), (1, .int l1), (2, .int (l2 + 0)), (3, .int (l3 + 1))]) 3 [1, 2, 3, 0] dX9_postingsOf_44 rfl (congrArg (fun z => l3 + z) ic_1) (by decide) rfl ?_
        refine a_goto C (pc := 47) 8 dX9_postingsOf_47 (by decide) ?_
        exact ih l1 (l2 + 0) (l3 + 1) h hK_50
      · have h := h.2 hc
        refine a_iconst C (pc := 37) dX9_postingsOf_37 ic_1 ?_
        refine a_goto C (pc := 38) 42 dX9_postingsOf_38 (by decide) ?_
        refine a_iadd C (pc := 42) dX9_postingsOf_42 ?_
        refine a_istore_n C (pc := 43) (lv1 := [(0, .ref h0), (1, .int l1), (2, .int (l2 + 1)), (3, .int l3)]) [1, 2, 0, 3] dX9_postingsOf_43 rfl (by decide) rfl ?_
        refine a_iinc C (pc := 44) (lv1 := [(0, .ref h0), (1, .int l1), (2, .int (l2 + 1)), (3, .int (l3 + 1))]) 3 [1, 2, 3, 0] dX9_postingsOf_44 rfl (congrArg (fun z => l3 + z) ic_1) (by decide) rfl ?_
        refine a_goto C (pc := 47) 8 dX9_postingsOf_47 (by decide) ?_
        exact ih l1 (l2 + 1) (l3 + 1) h hK_50
set_option maxRecDepth 100000 in
set_option maxHeartbeats 4000000 in
theorem m_X9_postingsOf (Lx : Launch) (Dx : va_G) (cs : Nat → ClassId) (h0 : Nat) (d0 : Nat → Nat) (v_thrown : Int32) (v_taped : Int32) (v_at : Int32) (v_documents : Int32) (v_terms : Int32) (v_latest : Int32) (v_filed : Int32) (v_drafted : Int32) (v_place : Int32) (v_over : Int32) (v_clock : Int64) (v_askedTerms : Int32) (v_segments : Int32) (v_done : Int32) (v_postingsDone : Int32) (v_postingsAll : Int32) (v_why : Int32) (v_hits : Int32) (v_words : Nat → Int32) (v_impact : Nat → Int32) (l1 : Int32) (Φ : Int32 → Prop) (h : P_X9_postingsOf v_words v_impact l1 Φ) : XMet Lx Dx cs yX9_postingsOf cX9_postingsOf 4 (some .int) 0 0 0 0 [.ref h0, .int l1] [(h0, oX9 d0 v_thrown v_taped v_at v_documents v_terms v_latest v_filed v_drafted v_place v_over v_clock v_askedTerms v_segments v_done v_postingsDone v_postingsAll v_why v_hits), ((d0 14), aI cs 5 v_words), ((d0 16), aI cs 12800 v_impact)] (R_X9_postingsOf cs h0 d0 v_thrown v_taped v_at v_documents v_terms v_latest v_filed v_drafted v_place v_over v_clock v_askedTerms v_segments v_done v_postingsDone v_postingsAll v_why v_hits v_words v_impact Φ) (fun _ _ => False) := by
  refine XMet.of (own := RX9) (nm := "postingsOf") (by decide) rfl rfl (Nat.le_of_ble_eq_true rfl) (fun Γ C => ?_)
  unfold P_X9_postingsOf at h
  refine a_iconst C (pc := 0) dX9_postingsOf_0 ic_0 ?_
  refine a_istore_n C (pc := 1) (lv1 := [(0, .ref h0), (1, .int l1), (2, .int 0)]) [1, 2, 0] dX9_postingsOf_1 rfl (by decide) rfl ?_
  refine a_sipush C (pc := 2) dX9_postingsOf_2 sp_2560 ?_
  refine a_iload_n C (pc := 5) 1 dX9_postingsOf_5 rfl rfl ?_
  refine a_imul C (pc := 6) dX9_postingsOf_6 ?_
  refine a_istore_n C (pc := 7) (lv1 := [(0, .ref h0), (1, .int l1), (2, .int 0), (3, .int (2560 * l1))]) [1, 2, 3, 0] dX9_postingsOf_7 rfl (by decide) rfl ?_
  obtain ⟨n0, h⟩ := h
  refine w_X9_postingsOf_8 C (Nat.le_of_ble_eq_true rfl) (Nat.le_of_ble_eq_true rfl) n0 l1 0 (2560 * l1) h ?_
  intro l2_2 h
  refine a_iload_n C (pc := 50) 0 dX9_postingsOf_50 rfl rfl ?_
  exact a_ireturn C (pc := 51) rfl dX9_postingsOf_51 (Nat.le_of_ble_eq_true rfl) (Nat.le_of_ble_eq_true rfl) ⟨_, rfl, rfl, h⟩
set_option maxRecDepth 100000 in
set_option maxHeartbeats 4000000 in
theorem w_X9_asks_2 {Γ : XG} {Lx : Launch} {Dx : va_G} {cs : Nat → ClassId} {h0 : Nat} {d0 : Nat → Nat} {v_thrown : Int32} {v_taped : Int32} {v_documents : Int32} {v_terms : Int32} {v_latest : Int32} {v_filed : Int32} {v_drafted : Int32} {v_place : Int32} {v_over : Int32} {v_clock : Int64} {v_askedTerms : Int32} {v_segments : Int32} {v_done : Int32} {v_postingsDone : Int32} {v_postingsAll : Int32} {v_why : Int32} {v_hits : Int32} {v_tape : Nat → Int32} {v_words : Nat → Int32} {v_letter : Nat → Int32} {K_21 : Int32 → (Nat → Int32) → (Nat → Int32) → Int32 → Int32 → Prop} {Φ : Int32 → Int32 → (Nat → Int32) → (Nat → Int32) → Prop} {k n9 : Nat} (C : CX Γ Lx Dx cs cX9_asks RX9 "asks" 5 (some .int) 2 47 0 0 (qEC cs 0 0 [] (R_X9_asks cs h0 d0 v_thrown v_taped v_documents v_terms v_latest v_filed v_drafted v_place v_over v_clock v_askedTerms v_segments v_done v_postingsDone v_postingsAll v_why v_hits v_tape v_words v_letter Φ) (fun _ _ => False))) (hkm : k ≤ 0) (hnm : n9 ≤ 0) : ∀ n : Nat, ∀ (v_at : Int32) (v_asked : Nat → Int32) (v_word : Nat → Int32) (l1 : Int32) (l2 : Int32) (l3 : Int32), L_X9_asks_2 n v_at v_asked v_tape v_word v_words v_letter l1 l2 l3 K_21 Φ → (∀ (v_at_1 : Int32) (v_asked_2 : Nat → Int32) (v_word_3 : Nat → Int32) (l1_4 : Int32) (l2_5 : Int32), K_21 v_at_1 v_asked_2 v_word_3 l1_4 l2_5 → AW Γ k n9 21 [(0, .ref h0), (1, .int l1_4), (2, .int l2_5)] [] [(h0, oX9 d0 v_thrown v_taped v_at_1 v_documents v_terms v_latest v_filed v_drafted v_place v_over v_clock v_askedTerms v_segments v_done v_postingsDone v_postingsAll v_why v_hits), ((d0 29), aI cs 64 v_asked_2), ((d0 1), aI cs 3000 v_tape), ((d0 3), aI cs 8 v_word_3), ((d0 14), aI cs 5 v_words), ((d0 15), aI cs 2560 v_letter)]) → AW Γ k n9 2 [(0, .ref h0), (1, .int l1), (2, .int l2), (3, .int l3)] [] [(h0, oX9 d0 v_thrown v_taped v_at v_documents v_terms v_latest v_filed v_drafted v_place v_over v_clock v_askedTerms v_segments v_done v_postingsDone v_postingsAll v_why v_hits), ((d0 29), aI cs 64 v_asked), ((d0 1), aI cs 3000 v_tape), ((d0 3), aI cs 8 v_word), ((d0 14), aI cs 5 v_words), ((d0 15), aI cs 2560 v_letter)] := by
  intro n
  induction n with
  | zero =>
    intro v_at v_asked v_word l1 l2 l3 h
    exact False.elim h
  | succ n ih =>
    intro v_at v_asked v_word l1 l2 l3 h hK_21
    rw [L_X9_asks_2] at h
    refine a_iload_n C (pc := 2) 3 dX9_asks_2 rfl rfl ?_
    refine a_bipush C (pc := 3) dX9_asks_3 bp_64 ?_
    refine a_icmp_ge C (pc := 5) 21 dX9_asks_5 (by decide) (fun hc => ?_) (fun hc => ?_)
    · have h := h.1 hc
      refine a_lv (lv1 := [(0, .ref h0), (1, .int l1), (2, .int l2)]) [0, 1, 2] rfl ?_
      exact hK_21 v_at v_asked v_word l1 l2 h
    · have h := h.2 hc
      refine a_aload_n C (pc := 8) 0 dX9_asks_8 rfl rfl ?_
      refine a_get C (pc := 9) 0 29 inW_X9 rfl rfl (Nat.le_of_ble_eq_true rfl) wF_X9_65 rfl rfl dX9_asks_9 ?_
      refine a_iload_n C (pc := 12) 3 dX9_asks_12 rfl rfl ?_
      refine a_iconst C (pc := 13) dX9_asks_13 ic_0 ?_
      refine a_iast C (pc := 14) (ws1 := [(h0, oX9 d0 v_thrown v_taped v_at v_documents v_terms v_latest v_filed v_drafted v_place v_over v_clock v_askedTerms v_segments v_done v_postingsDone v_postingsAll v_why v_hits), ((d0 29), aI cs 64 (upd v_asked (l3 : Int32).toNatClampNeg 0)), ((d0 1), aI cs 3000 v_tape), ((d0 3), aI cs 8 v_word), ((d0 14), aI cs 5 v_words), ((d0 15), aI cs 2560 v_letter)]) 1 rfl h.1 dX9_asks_14 rfl ?_
      replace h := h.2
      refine a_iinc C (pc := 15) (lv1 := [(0, .ref h0), (1, .int l1), (2, .int l2), (3, .int (l3 + 1))]) 3 [1, 2, 3, 0] dX9_asks_15 rfl (congrArg (fun z => l3 + z) ic_1) (by decide) rfl ?_
      refine a_goto C (pc := 18) 2 dX9_asks_18 (by decide) ?_
      exact ih v_at (upd v_asked (l3 : Int32).toNatClampNeg 0) v_word l1 l2 (l3 + 1) h hK_21
set_option maxRecDepth 100000 in
set_option maxHeartbeats 4000000 in
theorem w_X9_asks_63 {Γ : XG} {Lx : Launch} {Dx : va_G} {cs : Nat → ClassId} {h0 : Nat} {d0 : Nat → Nat} {v_thrown : Int32} {v_taped : Int32} {v_documents : Int32} {v_terms : Int32} {v_latest : Int32} {v_filed : Int32} {v_drafted : Int32} {v_place : Int32} {v_over : Int32} {v_clock : Int64} {v_askedTerms : Int32} {v_segments : Int32} {v_done : Int32} {v_postingsDone : Int32} {v_postingsAll : Int32} {v_why : Int32} {v_hits : Int32} {v_tape : Nat → Int32} {v_words : Nat → Int32} {v_letter : Nat → Int32} {B_28 : Int32 → (Nat → Int32) → (Nat → Int32) → Int32 → Int32 → Int32 → Prop} {K_98 : Int32 → (Nat → Int32) → (Nat → Int32) → Int32 → Prop} {Φ : Int32 → Int32 → (Nat → Int32) → (Nat → Int32) → Prop} {k n9 : Nat} (C : CX Γ Lx Dx cs cX9_asks RX9 "asks" 5 (some .int) 2 47 0 0 (qEC cs 0 0 [] (R_X9_asks cs h0 d0 v_thrown v_taped v_documents v_terms v_latest v_filed v_drafted v_place v_over v_clock v_askedTerms v_segments v_done v_postingsDone v_postingsAll v_why v_hits v_tape v_words v_letter Φ) (fun _ _ => False))) (hkm : k ≤ 0) (hnm : n9 ≤ 0) (v_at : Int32) (v_asked : Nat → Int32) (v_word : Nat → Int32) (l1 : Int32) (l2 : Int32) (l3 : Int32) (s0 : Int32) (h : J_X9_asks_63 v_at v_asked v_tape v_word v_words v_letter l1 l2 l3 s0 B_28 K_98 Φ) (hB_28 : ∀ (v_at_15 : Int32) (v_asked_16 : Nat → Int32) (v_word_17 : Nat → Int32) (l1_18 : Int32) (l2_19 : Int32) (l3_20 : Int32), B_28 v_at_15 v_asked_16 v_word_17 l1_18 l2_19 l3_20 → AW Γ k n9 28 [(0, .ref h0), (1, .int l1_18), (2, .int l2_19), (3, .int l3_20)] [] [(h0, oX9 d0 v_thrown v_taped v_at_15 v_documents v_terms v_latest v_filed v_drafted v_place v_over v_clock v_askedTerms v_segments v_done v_postingsDone v_postingsAll v_why v_hits), ((d0 29), aI cs 64 v_asked_16), ((d0 1), aI cs 3000 v_tape), ((d0 3), aI cs 8 v_word_17), ((d0 14), aI cs 5 v_words), ((d0 15), aI cs 2560 v_letter)]) (hK_98 : ∀ (v_at_21 : Int32) (v_asked_22 : Nat → Int32) (v_word_23 : Nat → Int32) (l3_24 : Int32), K_98 v_at_21 v_asked_22 v_word_23 l3_24 → AW Γ k n9 98 [(3, .int l3_24)] [] [(h0, oX9 d0 v_thrown v_taped v_at_21 v_documents v_terms v_latest v_filed v_drafted v_place v_over v_clock v_askedTerms v_segments v_done v_postingsDone v_postingsAll v_why v_hits), ((d0 29), aI cs 64 v_asked_22), ((d0 1), aI cs 3000 v_tape), ((d0 3), aI cs 8 v_word_23), ((d0 14), aI cs 5 v_words), ((d0 15), aI cs 2560 v_letter)]) : AW Γ k n9 63 [(0, .ref h0), (1, .int l1), (2, .int l2), (3, .int l3)] [.int s0] [(h0, oX9 d0 v_thrown v_taped v_at v_documents v_terms v_latest v_filed v_drafted v_place v_over v_clock v_askedTerms v_segments v_done v_postingsDone v_postingsAll v_why v_hits), ((d0 29), aI cs 64 v_asked), ((d0 1), aI cs 3000 v_tape), ((d0 3), aI cs 8 v_word), ((d0 14), aI cs 5 v_words), ((d0 15), aI cs 2560 v_letter)] := by
  unfold J_X9_asks_63 at h
  refine a_istore C (pc := 63) (lv1 := [(0, .ref h0), (1, .int l1), (2, .int l2), (3, .int l3), (4, .int s0)]) [1, 2, 3, 4, 0] dX9_asks_63 (by decide) rfl ?_
  refine a_iload C (pc := 65) 4 dX9_asks_65 rfl ?_
  refine a_if_lt C (pc := 67) 28 dX9_asks_67 (by decide) (fun hc => ?_) (fun hc => ?_)
  · have h := h.1 hc
    refine a_lv (lv1 := [(0, .ref h0), (1, .int l1), (2, .int l2), (3, .int l3)]) [0, 1, 2, 3] rfl ?_
    exact hB_28 v_at v_asked v_word l1 l2 l3 h
  · have h := h.2 hc
    refine a_aload_n C (pc := 70) 0 dX9_asks_70 rfl rfl ?_
    refine a_get C (pc := 71) 0 29 inW_X9 rfl rfl (Nat.le_of_ble_eq_true rfl) wF_X9_65 rfl rfl dX9_asks_71 ?_
    refine a_iload C (pc := 74) 4 dX9_asks_74 rfl ?_
    refine a_iald C (pc := 76) 1 rfl h.1 dX9_asks_76 ?_
    replace h := h.2
    refine a_iconst C (pc := 77) dX9_asks_77 ic_1 ?_
    refine a_icmp_ne C (pc := 78) 84 dX9_asks_78 (by decide) (fun hc => ?_) (fun hc => ?_)
    · have h := h.1 hc
      refine a_aload_n C (pc := 84) 0 dX9_asks_84 rfl rfl ?_
      refine a_get C (pc := 85) 0 29 inW_X9 rfl rfl (Nat.le_of_ble_eq_true rfl) wF_X9_65 rfl rfl dX9_asks_85 ?_
      refine a_iload C (pc := 88) 4 dX9_asks_88 rfl ?_
      refine a_iconst C (pc := 90) dX9_asks_90 ic_1 ?_
      refine a_iast C (pc := 91) (ws1 := [(h0, oX9 d0 v_thrown v_taped v_at v_documents v_terms v_latest v_filed v_drafted v_place v_over v_clock v_askedTerms v_segments v_done v_postingsDone v_postingsAll v_why v_hits), ((d0 29), aI cs 64 (upd v_asked (s0 : Int32).toNatClampNeg 1)), ((d0 1), aI cs 3000 v_tape), ((d0 3), aI cs 8 v_word), ((d0 14), aI cs 5 v_words), ((d0 15), aI cs 2560 v_letter)]) 1 rfl h.1 dX9_asks_91 rfl ?_
      replace h := h.2
      refine a_iinc C (pc := 92) (lv1 := [(0, .ref h0), (1, .int l1), (2, .int l2), (3, .int (l3 + 1)), (4, .int s0)]) 3 [1, 2, 3, 0, 4] dX9_asks_92 rfl (congrArg (fun z => l3 + z) ic_1) (by decide) rfl ?_
      refine a_goto C (pc := 95) 28 dX9_asks_95 (by decide) ?_
      refine a_lv (lv1 := [(0, .ref h0), (1, .int l1), (2, .int l2), (3, .int (l3 + 1))]) [0, 1, 2, 3] rfl ?_
      exact hB_28 v_at (upd v_asked (s0 : Int32).toNatClampNeg 1) v_word l1 l2 (l3 + 1) h
    · have h := h.2 hc
      refine a_goto C (pc := 81) 28 dX9_asks_81 (by decide) ?_
      refine a_lv (lv1 := [(0, .ref h0), (1, .int l1), (2, .int l2), (3, .int l3)]) [0, 1, 2, 3] rfl ?_
      exact hB_28 v_at v_asked v_word l1 l2 l3 h
set_option maxRecDepth 100000 in
set_option maxHeartbeats 4000000 in
theorem w_X9_asks_28 {Γ : XG} {Lx : Launch} {Dx : va_G} {cs : Nat → ClassId} {h0 : Nat} {d0 : Nat → Nat} {v_thrown : Int32} {v_taped : Int32} {v_documents : Int32} {v_terms : Int32} {v_latest : Int32} {v_filed : Int32} {v_drafted : Int32} {v_place : Int32} {v_over : Int32} {v_clock : Int64} {v_askedTerms : Int32} {v_segments : Int32} {v_done : Int32} {v_postingsDone : Int32} {v_postingsAll : Int32} {v_why : Int32} {v_hits : Int32} {v_tape : Nat → Int32} {v_words : Nat → Int32} {v_letter : Nat → Int32} {K_98 : Int32 → (Nat → Int32) → (Nat → Int32) → Int32 → Prop} {Φ : Int32 → Int32 → (Nat → Int32) → (Nat → Int32) → Prop} {k n9 : Nat} (C : CX Γ Lx Dx cs cX9_asks RX9 "asks" 5 (some .int) 2 47 0 0 (qEC cs 0 0 [] (R_X9_asks cs h0 d0 v_thrown v_taped v_documents v_terms v_latest v_filed v_drafted v_place v_over v_clock v_askedTerms v_segments v_done v_postingsDone v_postingsAll v_why v_hits v_tape v_words v_letter Φ) (fun _ _ => False))) (hkm : k ≤ 0) (hnm : n9 ≤ 0) : ∀ n : Nat, ∀ (v_at : Int32) (v_asked : Nat → Int32) (v_word : Nat → Int32) (l1 : Int32) (l2 : Int32) (l3 : Int32), L_X9_asks_28 n v_at v_asked v_tape v_word v_words v_letter l1 l2 l3 K_98 Φ → (∀ (v_at_49 : Int32) (v_asked_50 : Nat → Int32) (v_word_51 : Nat → Int32) (l3_52 : Int32), K_98 v_at_49 v_asked_50 v_word_51 l3_52 → AW Γ k n9 98 [(3, .int l3_52)] [] [(h0, oX9 d0 v_thrown v_taped v_at_49 v_documents v_terms v_latest v_filed v_drafted v_place v_over v_clock v_askedTerms v_segments v_done v_postingsDone v_postingsAll v_why v_hits), ((d0 29), aI cs 64 v_asked_50), ((d0 1), aI cs 3000 v_tape), ((d0 3), aI cs 8 v_word_51), ((d0 14), aI cs 5 v_words), ((d0 15), aI cs 2560 v_letter)]) → AW Γ k n9 28 [(0, .ref h0), (1, .int l1), (2, .int l2), (3, .int l3)] [] [(h0, oX9 d0 v_thrown v_taped v_at v_documents v_terms v_latest v_filed v_drafted v_place v_over v_clock v_askedTerms v_segments v_done v_postingsDone v_postingsAll v_why v_hits), ((d0 29), aI cs 64 v_asked), ((d0 1), aI cs 3000 v_tape), ((d0 3), aI cs 8 v_word), ((d0 14), aI cs 5 v_words), ((d0 15), aI cs 2560 v_letter)] := by
  intro n
  induction n with
  | zero =>
    intro v_at v_asked v_word l1 l2 l3 h
    exact False.elim h
  | succ n ih =>
    intro v_at v_asked v_word l1 l2 l3 h hK_98
    rw [L_X9_asks_28] at h
    refine a_aload_n C (pc := 28) 0 dX9_asks_28 rfl rfl ?_
    refine a_iload_n C (pc := 29) 2 dX9_asks_29 rfl rfl ?_
    refine a_callV C (pc := 30) (av := [.int l2]) (wr := [((d0 29), aI cs 64 v_asked), ((d0 14), aI cs 5 v_words), ((d0 15), aI cs 2560 v_letter)]) (m_X9_takesWord Lx Dx cs h0 d0 v_thrown v_taped v_at v_documents v_terms v_latest v_filed v_drafted v_place v_over v_clock v_askedTerms v_segments v_done v_postingsDone v_postingsAll v_why v_hits v_tape v_word l2 _ h) [0, 2, 3] [1, 4, 5] rfl rfl (by decide) (by decide) (by decide) wM_X9_123 wb_X9_takesWord hy_X9_takesWord (q0 := 0) rfl rfl rfl ⟨Nat.le_of_ble_eq_true rfl, Nat.le_of_ble_eq_true rfl⟩ (Nat.le_of_ble_eq_true rfl) hkm hnm rfl dX9_asks_30 (fun v w1 hw => ?_) [] rfl (fun _ _ h => h.elim)
    obtain ⟨r_11, v_at_12, v_word_13, rfl, rfl, h⟩ := hw
    refine a_ws (st1 := [.int r_11]) (ws1 := [(h0, oX9 d0 v_thrown v_taped v_at_12 v_documents v_terms v_latest v_filed v_drafted v_place v_over v_clock v_askedTerms v_segments v_done v_postingsDone v_postingsAll v_why v_hits), ((d0 29), aI cs 64 v_asked), ((d0 1), aI cs 3000 v_tape), ((d0 3), aI cs 8 v_word_13), ((d0 14), aI cs 5 v_words), ((d0 15), aI cs 2560 v_letter)]) k n9 33 [3, 0, 4, 5, 1, 2] rfl rfl rfl rfl (by decide) rfl ?_
    refine a_if_eq C (pc := 33) 98 dX9_asks_33 (by decide) (fun hc => ?_) (fun hc => ?_)
    · have h := h.1 hc
      refine a_lv (lv1 := [(3, .int l3)]) [3] rfl ?_
      exact hK_98 v_at_12 v_asked v_word_13 l3 h
    · have h := h.2 hc
      refine a_iload_n C (pc := 36) 1 dX9_asks_36 rfl rfl ?_
      refine a_if_ge C (pc := 37) 44 dX9_asks_37 (by decide) (fun hc => ?_) (fun hc => ?_)
      · have h := h.1 hc
        refine a_aload_n C (pc := 44) 0 dX9_asks_44 rfl rfl ?_
        refine a_aload_n C (pc := 45) 0 dX9_asks_45 rfl rfl ?_
        refine a_get C (pc := 46) 0 15 inW_X9 rfl rfl (Nat.le_of_ble_eq_true rfl) wF_X9_40 rfl rfl dX9_asks_46 ?_
        refine a_sipush C (pc := 49) dX9_asks_49 sp_512 ?_
        refine a_iload_n C (pc := 52) 1 dX9_asks_52 rfl rfl ?_
        refine a_imul C (pc := 53) dX9_asks_53 ?_
        refine a_aload_n C (pc := 54) 0 dX9_asks_54 rfl rfl ?_
        refine a_get C (pc := 55) 0 14 inW_X9 rfl rfl (Nat.le_of_ble_eq_true rfl) wF_X9_37 rfl rfl dX9_asks_55 ?_
        refine a_iload_n C (pc := 58) 1 dX9_asks_58 rfl rfl ?_
        refine a_iald C (pc := 59) 4 rfl h.1 dX9_asks_59 ?_
        replace h := h.2
        refine a_callV C (pc := 60) (av := [.ref (d0 15), .int (512 * l1), .int (v_words (l1 : Int32).toNatClampNeg)]) (wr := [((d0 29), aI cs 64 v_asked), ((d0 1), aI cs 3000 v_tape), ((d0 14), aI cs 5 v_words)]) (m_X9_finds Lx Dx cs 2560 h0 (d0 15) d0 v_thrown v_taped v_at_12 v_documents v_terms v_latest v_filed v_drafted v_place v_over v_clock v_askedTerms v_segments v_done v_postingsDone v_postingsAll v_why v_hits v_word_13 v_letter (512 * l1) (v_words (l1 : Int32).toNatClampNeg) _ h) [0, 3, 5] [1, 2, 4] rfl rfl (by decide) (by decide) (by decide) wM_X9_127 wb_X9_finds hy_X9_finds (q0 := 0) rfl rfl rfl ⟨Nat.le_of_ble_eq_true rfl, Nat.le_of_ble_eq_true rfl⟩ (Nat.le_of_ble_eq_true rfl) hkm hnm rfl dX9_asks_60 (fun v w1 hw => ?_) [] rfl (fun _ _ h => h.elim)
        obtain ⟨r_14, rfl, rfl, h⟩ := hw
        refine a_ws (st1 := [.int r_14]) (ws1 := [(h0, oX9 d0 v_thrown v_taped v_at_12 v_documents v_terms v_latest v_filed v_drafted v_place v_over v_clock v_askedTerms v_segments v_done v_postingsDone v_postingsAll v_why v_hits), ((d0 29), aI cs 64 v_asked), ((d0 1), aI cs 3000 v_tape), ((d0 3), aI cs 8 v_word_13), ((d0 14), aI cs 5 v_words), ((d0 15), aI cs 2560 v_letter)]) k n9 63 [3, 0, 1, 4, 2, 5] rfl rfl rfl rfl (by decide) rfl ?_
        exact w_X9_asks_63 C hkm hnm v_at_12 v_asked v_word_13 l1 l2 l3 r_14 h (fun v_at_31 v_asked_32 v_word_33 l1_34 l2_35 l3_36 h => ih v_at_31 v_asked_32 v_word_33 l1_34 l2_35 l3_36 h hK_98) hK_98
      · have h := h.2 hc
        refine a_iconst C (pc := 40) dX9_asks_40 ic_m1 ?_
        refine a_goto C (pc := 41) 63 dX9_asks_41 (by decide) ?_
        exact w_X9_asks_63 C hkm hnm v_at_12 v_asked v_word_13 l1 l2 l3 (-1) h (fun v_at_43 v_asked_44 v_word_45 l1_46 l2_47 l3_48 h => ih v_at_43 v_asked_44 v_word_45 l1_46 l2_47 l3_48 h hK_98) hK_98
set_option maxRecDepth 100000 in
set_option maxHeartbeats 4000000 in
theorem m_X9_asks (Lx : Launch) (Dx : va_G) (cs : Nat → ClassId) (h0 : Nat) (d0 : Nat → Nat) (v_thrown : Int32) (v_taped : Int32) (v_at : Int32) (v_documents : Int32) (v_terms : Int32) (v_latest : Int32) (v_filed : Int32) (v_drafted : Int32) (v_place : Int32) (v_over : Int32) (v_clock : Int64) (v_askedTerms : Int32) (v_segments : Int32) (v_done : Int32) (v_postingsDone : Int32) (v_postingsAll : Int32) (v_why : Int32) (v_hits : Int32) (v_asked : Nat → Int32) (v_tape : Nat → Int32) (v_word : Nat → Int32) (v_words : Nat → Int32) (v_letter : Nat → Int32) (l1 : Int32) (l2 : Int32) (Φ : Int32 → Int32 → (Nat → Int32) → (Nat → Int32) → Prop) (h : P_X9_asks v_at v_asked v_tape v_word v_words v_letter l1 l2 Φ) : XMet Lx Dx cs yX9_asks cX9_asks 5 (some .int) 2 47 0 0 [.ref h0, .int l1, .int l2] [(h0, oX9 d0 v_thrown v_taped v_at v_documents v_terms v_latest v_filed v_drafted v_place v_over v_clock v_askedTerms v_segments v_done v_postingsDone v_postingsAll v_why v_hits), ((d0 29), aI cs 64 v_asked), ((d0 1), aI cs 3000 v_tape), ((d0 3), aI cs 8 v_word), ((d0 14), aI cs 5 v_words), ((d0 15), aI cs 2560 v_letter)] (R_X9_asks cs h0 d0 v_thrown v_taped v_documents v_terms v_latest v_filed v_drafted v_place v_over v_clock v_askedTerms v_segments v_done v_postingsDone v_postingsAll v_why v_hits v_tape v_words v_letter Φ) (fun _ _ => False) := by
  refine XMet.of (own := RX9) (nm := "asks") (by decide) rfl rfl (Nat.le_of_ble_eq_true rfl) (fun Γ C => ?_)
  unfold P_X9_asks at h
  refine a_iconst C (pc := 0) dX9_asks_0 ic_0 ?_
  refine a_istore_n C (pc := 1) (lv1 := [(0, .ref h0), (1, .int l1), (2, .int l2), (3, .int 0)]) [1, 2, 3, 0] dX9_asks_1 rfl (by decide) rfl ?_
  obtain ⟨n0, h⟩ := h
  refine w_X9_asks_2 C (Nat.le_of_ble_eq_true rfl) (Nat.le_of_ble_eq_true rfl) n0 v_at v_asked v_word l1 l2 0 h ?_
  intro v_at_6 v_asked_7 v_word_8 l1_9 l2_10 h
  refine a_iconst C (pc := 21) dX9_asks_21 ic_0 ?_
  refine a_istore_n C (pc := 22) (lv1 := [(0, .ref h0), (1, .int l1_9), (2, .int l2_10), (3, .int 0)]) [1, 2, 3, 0] dX9_asks_22 rfl (by decide) rfl ?_
  refine a_aload_n C (pc := 23) 0 dX9_asks_23 rfl rfl ?_
  refine a_iconst C (pc := 24) dX9_asks_24 ic_0 ?_
  refine a_put C (pc := 25) (ws1 := [(h0, oX9 d0 v_thrown v_taped 0 v_documents v_terms v_latest v_filed v_drafted v_place v_over v_clock v_askedTerms v_segments v_done v_postingsDone v_postingsAll v_why v_hits), ((d0 29), aI cs 64 v_asked_7), ((d0 1), aI cs 3000 v_tape), ((d0 3), aI cs 8 v_word_8), ((d0 14), aI cs 5 v_words), ((d0 15), aI cs 2560 v_letter)]) 0 4 inW_X9 tyX9 tyX9_ok nmX9 rfl rfl (Nat.le_of_ble_eq_true rfl) wF_X9_102 rfl rfl rfl rfl rfl (Nat.le_of_ble_eq_true rfl) dX9_asks_25 rfl ?_
  obtain ⟨n0, h⟩ := h
  refine w_X9_asks_28 C (Nat.le_of_ble_eq_true rfl) (Nat.le_of_ble_eq_true rfl) n0 0 v_asked_7 v_word_8 l1_9 l2_10 0 h ?_
  intro v_at_53 v_asked_54 v_word_55 l3_56 h
  refine a_iload_n C (pc := 98) 0 dX9_asks_98 rfl rfl ?_
  exact a_ireturn C (pc := 99) rfl dX9_asks_99 (Nat.le_of_ble_eq_true rfl) (Nat.le_of_ble_eq_true rfl) ⟨_, _, _, _, rfl, rfl, h⟩
set_option maxRecDepth 100000 in
set_option maxHeartbeats 4000000 in
theorem w_X9_countAsked_10 {Γ : XG} {Lx : Launch} {Dx : va_G} {cs : Nat → ClassId} {h0 : Nat} {d0 : Nat → Nat} {v_thrown : Int32} {v_taped : Int32} {v_documents : Int32} {v_terms : Int32} {v_latest : Int32} {v_filed : Int32} {v_drafted : Int32} {v_place : Int32} {v_over : Int32} {v_clock : Int64} {v_askedTerms : Int32} {v_segments : Int32} {v_done : Int32} {v_postingsDone : Int32} {v_postingsAll : Int32} {v_why : Int32} {v_hits : Int32} {v_tape : Nat → Int32} {v_words : Nat → Int32} {v_letter : Nat → Int32} {K_31 : Int32 → (Nat → Int32) → (Nat → Int32) → Int32 → Int32 → Int32 → Prop} {Φ : Int32 → Int32 → (Nat → Int32) → (Nat → Int32) → Prop} {k n9 : Nat} (C : CX Γ Lx Dx cs cX9_countAsked RX9 "countAsked" 5 (some .int) 2 47 0 0 (qEC cs 0 0 [] (R_X9_countAsked cs h0 d0 v_thrown v_taped v_documents v_terms v_latest v_filed v_drafted v_place v_over v_clock v_askedTerms v_segments v_done v_postingsDone v_postingsAll v_why v_hits v_tape v_words v_letter Φ) (fun _ _ => False))) (hkm : k ≤ 0) (hnm : n9 ≤ 0) : ∀ n : Nat, ∀ (v_at : Int32) (v_fresh : Nat → Int32) (v_word : Nat → Int32) (l1 : Int32) (l2 : Int32) (l3 : Int32) (l4 : Int32), L_X9_countAsked_10 n v_at v_fresh v_tape v_word v_words v_letter l1 l2 l3 l4 K_31 Φ → (∀ (v_at_1 : Int32) (v_fresh_2 : Nat → Int32) (v_word_3 : Nat → Int32) (l1_4 : Int32) (l2_5 : Int32) (l3_6 : Int32), K_31 v_at_1 v_fresh_2 v_word_3 l1_4 l2_5 l3_6 → AW Γ k n9 31 [(0, .ref h0), (1, .int l1_4), (2, .int l2_5), (3, .int l3_6)] [] [(h0, oX9 d0 v_thrown v_taped v_at_1 v_documents v_terms v_latest v_filed v_drafted v_place v_over v_clock v_askedTerms v_segments v_done v_postingsDone v_postingsAll v_why v_hits), ((d0 10), aI cs 64 v_fresh_2), ((d0 1), aI cs 3000 v_tape), ((d0 3), aI cs 8 v_word_3), ((d0 14), aI cs 5 v_words), ((d0 15), aI cs 2560 v_letter)]) → AW Γ k n9 10 [(0, .ref h0), (1, .int l1), (2, .int l2), (3, .int l3), (4, .int l4)] [] [(h0, oX9 d0 v_thrown v_taped v_at v_documents v_terms v_latest v_filed v_drafted v_place v_over v_clock v_askedTerms v_segments v_done v_postingsDone v_postingsAll v_why v_hits), ((d0 10), aI cs 64 v_fresh), ((d0 1), aI cs 3000 v_tape), ((d0 3), aI cs 8 v_word), ((d0 14), aI cs 5 v_words), ((d0 15), aI cs 2560 v_letter)] := by
  intro n
  induction n with
  | zero =>
    intro v_at v_fresh v_word l1 l2 l3 l4 h
    exact False.elim h
  | succ n ih =>
    intro v_at v_fresh v_word l1 l2 l3 l4 h hK_31
    rw [L_X9_countAsked_10] at h
    refine a_iload C (pc := 10) 4 dX9_countAsked_10 rfl ?_
    refine a_bipush C (pc := 12) dX9_countAsked_12 bp_64 ?_
    refine a_icmp_ge C (pc := 14) 31 dX9_countAsked_14 (by decide) (fun hc => ?_) (fun hc => ?_)
    · have h := h.1 hc
      refine a_lv (lv1 := [(0, .ref h0), (1, .int l1), (2, .int l2), (3, .int l3)]) [0, 1, 2, 3] rfl ?_
      exact hK_31 v_at v_fresh v_word l1 l2 l3 h
    · have h := h.2 hc
      refine a_aload_n C (pc := 17) 0 dX9_countAsked_17 rfl rfl ?_
      refine a_get C (pc := 18) 0 10 inW_X9 rfl rfl (Nat.le_of_ble_eq_true rfl) wF_X9_25 rfl rfl dX9_countAsked_18 ?_
      refine a_iload C (pc := 21) 4 dX9_countAsked_21 rfl ?_
      refine a_iconst C (pc := 23) dX9_countAsked_23 ic_0 ?_
      refine a_iast C (pc := 24) (ws1 := [(h0, oX9 d0 v_thrown v_taped v_at v_documents v_terms v_latest v_filed v_drafted v_place v_over v_clock v_askedTerms v_segments v_done v_postingsDone v_postingsAll v_why v_hits), ((d0 10), aI cs 64 (upd v_fresh (l4 : Int32).toNatClampNeg 0)), ((d0 1), aI cs 3000 v_tape), ((d0 3), aI cs 8 v_word), ((d0 14), aI cs 5 v_words), ((d0 15), aI cs 2560 v_letter)]) 1 rfl h.1 dX9_countAsked_24 rfl ?_
      replace h := h.2
      refine a_iinc C (pc := 25) (lv1 := [(0, .ref h0), (1, .int l1), (2, .int l2), (3, .int l3), (4, .int (l4 + 1))]) 4 [1, 2, 3, 4, 0] dX9_countAsked_25 rfl (congrArg (fun z => l4 + z) ic_1) (by decide) rfl ?_
      refine a_goto C (pc := 28) 10 dX9_countAsked_28 (by decide) ?_
      exact ih v_at (upd v_fresh (l4 : Int32).toNatClampNeg 0) v_word l1 l2 l3 (l4 + 1) h hK_31
set_option maxRecDepth 100000 in
set_option maxHeartbeats 4000000 in
theorem w_X9_countAsked_66 {Γ : XG} {Lx : Launch} {Dx : va_G} {cs : Nat → ClassId} {h0 : Nat} {d0 : Nat → Nat} {v_thrown : Int32} {v_taped : Int32} {v_documents : Int32} {v_terms : Int32} {v_latest : Int32} {v_filed : Int32} {v_drafted : Int32} {v_place : Int32} {v_over : Int32} {v_clock : Int64} {v_askedTerms : Int32} {v_segments : Int32} {v_done : Int32} {v_postingsDone : Int32} {v_postingsAll : Int32} {v_why : Int32} {v_hits : Int32} {v_tape : Nat → Int32} {v_words : Nat → Int32} {v_letter : Nat → Int32} {B_31 : Int32 → (Nat → Int32) → (Nat → Int32) → Int32 → Int32 → Int32 → Prop} {K_101 : Int32 → (Nat → Int32) → (Nat → Int32) → Int32 → Prop} {Φ : Int32 → Int32 → (Nat → Int32) → (Nat → Int32) → Prop} {k n9 : Nat} (C : CX Γ Lx Dx cs cX9_countAsked RX9 "countAsked" 5 (some .int) 2 47 0 0 (qEC cs 0 0 [] (R_X9_countAsked cs h0 d0 v_thrown v_taped v_documents v_terms v_latest v_filed v_drafted v_place v_over v_clock v_askedTerms v_segments v_done v_postingsDone v_postingsAll v_why v_hits v_tape v_words v_letter Φ) (fun _ _ => False))) (hkm : k ≤ 0) (hnm : n9 ≤ 0) (v_at : Int32) (v_fresh : Nat → Int32) (v_word : Nat → Int32) (l1 : Int32) (l2 : Int32) (l3 : Int32) (s0 : Int32) (h : J_X9_countAsked_66 v_at v_fresh v_tape v_word v_words v_letter l1 l2 l3 s0 B_31 K_101 Φ) (hB_31 : ∀ (v_at_17 : Int32) (v_fresh_18 : Nat → Int32) (v_word_19 : Nat → Int32) (l1_20 : Int32) (l2_21 : Int32) (l3_22 : Int32), B_31 v_at_17 v_fresh_18 v_word_19 l1_20 l2_21 l3_22 → AW Γ k n9 31 [(0, .ref h0), (1, .int l1_20), (2, .int l2_21), (3, .int l3_22)] [] [(h0, oX9 d0 v_thrown v_taped v_at_17 v_documents v_terms v_latest v_filed v_drafted v_place v_over v_clock v_askedTerms v_segments v_done v_postingsDone v_postingsAll v_why v_hits), ((d0 10), aI cs 64 v_fresh_18), ((d0 1), aI cs 3000 v_tape), ((d0 3), aI cs 8 v_word_19), ((d0 14), aI cs 5 v_words), ((d0 15), aI cs 2560 v_letter)]) (hK_101 : ∀ (v_at_23 : Int32) (v_fresh_24 : Nat → Int32) (v_word_25 : Nat → Int32) (l3_26 : Int32), K_101 v_at_23 v_fresh_24 v_word_25 l3_26 → AW Γ k n9 101 [(3, .int l3_26)] [] [(h0, oX9 d0 v_thrown v_taped v_at_23 v_documents v_terms v_latest v_filed v_drafted v_place v_over v_clock v_askedTerms v_segments v_done v_postingsDone v_postingsAll v_why v_hits), ((d0 10), aI cs 64 v_fresh_24), ((d0 1), aI cs 3000 v_tape), ((d0 3), aI cs 8 v_word_25), ((d0 14), aI cs 5 v_words), ((d0 15), aI cs 2560 v_letter)]) : AW Γ k n9 66 [(0, .ref h0), (1, .int l1), (2, .int l2), (3, .int l3)] [.int s0] [(h0, oX9 d0 v_thrown v_taped v_at v_documents v_terms v_latest v_filed v_drafted v_place v_over v_clock v_askedTerms v_segments v_done v_postingsDone v_postingsAll v_why v_hits), ((d0 10), aI cs 64 v_fresh), ((d0 1), aI cs 3000 v_tape), ((d0 3), aI cs 8 v_word), ((d0 14), aI cs 5 v_words), ((d0 15), aI cs 2560 v_letter)] := by
  unfold J_X9_countAsked_66 at h
  refine a_istore C (pc := 66) (lv1 := [(0, .ref h0), (1, .int l1), (2, .int l2), (3, .int l3), (4, .int s0)]) [1, 2, 3, 4, 0] dX9_countAsked_66 (by decide) rfl ?_
  refine a_iload C (pc := 68) 4 dX9_countAsked_68 rfl ?_
  refine a_if_lt C (pc := 70) 31 dX9_countAsked_70 (by decide) (fun hc => ?_) (fun hc => ?_)
  · have h := h.1 hc
    refine a_lv (lv1 := [(0, .ref h0), (1, .int l1), (2, .int l2), (3, .int l3)]) [0, 1, 2, 3] rfl ?_
    exact hB_31 v_at v_fresh v_word l1 l2 l3 h
  · have h := h.2 hc
    refine a_aload_n C (pc := 73) 0 dX9_countAsked_73 rfl rfl ?_
    refine a_get C (pc := 74) 0 10 inW_X9 rfl rfl (Nat.le_of_ble_eq_true rfl) wF_X9_25 rfl rfl dX9_countAsked_74 ?_
    refine a_iload C (pc := 77) 4 dX9_countAsked_77 rfl ?_
    refine a_iald C (pc := 79) 1 rfl h.1 dX9_countAsked_79 ?_
    replace h := h.2
    refine a_iconst C (pc := 80) dX9_countAsked_80 ic_1 ?_
    refine a_icmp_ne C (pc := 81) 87 dX9_countAsked_81 (by decide) (fun hc => ?_) (fun hc => ?_)
    · have h := h.1 hc
      refine a_aload_n C (pc := 87) 0 dX9_countAsked_87 rfl rfl ?_
      refine a_get C (pc := 88) 0 10 inW_X9 rfl rfl (Nat.le_of_ble_eq_true rfl) wF_X9_25 rfl rfl dX9_countAsked_88 ?_
      refine a_iload C (pc := 91) 4 dX9_countAsked_91 rfl ?_
      refine a_iconst C (pc := 93) dX9_countAsked_93 ic_1 ?_
      refine a_iast C (pc := 94) (ws1 := [(h0, oX9 d0 v_thrown v_taped v_at v_documents v_terms v_latest v_filed v_drafted v_place v_over v_clock v_askedTerms v_segments v_done v_postingsDone v_postingsAll v_why v_hits), ((d0 10), aI cs 64 (upd v_fresh (s0 : Int32).toNatClampNeg 1)), ((d0 1), aI cs 3000 v_tape), ((d0 3), aI cs 8 v_word), ((d0 14), aI cs 5 v_words), ((d0 15), aI cs 2560 v_letter)]) 1 rfl h.1 dX9_countAsked_94 rfl ?_
      replace h := h.2
      refine a_iinc C (pc := 95) (lv1 := [(0, .ref h0), (1, .int l1), (2, .int l2), (3, .int (l3 + 1)), (4, .int s0)]) 3 [1, 2, 3, 0, 4] dX9_countAsked_95 rfl (congrArg (fun z => l3 + z) ic_1) (by decide) rfl ?_
      refine a_goto C (pc := 98) 31 dX9_countAsked_98 (by decide) ?_
      refine a_lv (lv1 := [(0, .ref h0), (1, .int l1), (2, .int l2), (3, .int (l3 + 1))]) [0, 1, 2, 3] rfl ?_
      exact hB_31 v_at (upd v_fresh (s0 : Int32).toNatClampNeg 1) v_word l1 l2 (l3 + 1) h
    · have h := h.2 hc
      refine a_goto C (pc := 84) 31 dX9_countAsked_84 (by decide) ?_
      refine a_lv (lv1 := [(0, .ref h0), (1, .int l1), (2, .int l2), (3, .int l3)]) [0, 1, 2, 3] rfl ?_
      exact hB_31 v_at v_fresh v_word l1 l2 l3 h
set_option maxRecDepth 100000 in
set_option maxHeartbeats 4000000 in
theorem w_X9_countAsked_31 {Γ : XG} {Lx : Launch} {Dx : va_G} {cs : Nat → ClassId} {h0 : Nat} {d0 : Nat → Nat} {v_thrown : Int32} {v_taped : Int32} {v_documents : Int32} {v_terms : Int32} {v_latest : Int32} {v_filed : Int32} {v_drafted : Int32} {v_place : Int32} {v_over : Int32} {v_clock : Int64} {v_askedTerms : Int32} {v_segments : Int32} {v_done : Int32} {v_postingsDone : Int32} {v_postingsAll : Int32} {v_why : Int32} {v_hits : Int32} {v_tape : Nat → Int32} {v_words : Nat → Int32} {v_letter : Nat → Int32} {K_101 : Int32 → (Nat → Int32) → (Nat → Int32) → Int32 → Prop} {Φ : Int32 → Int32 → (Nat → Int32) → (Nat → Int32) → Prop} {k n9 : Nat} (C : CX Γ Lx Dx cs cX9_countAsked RX9 "countAsked" 5 (some .int) 2 47 0 0 (qEC cs 0 0 [] (R_X9_countAsked cs h0 d0 v_thrown v_taped v_documents v_terms v_latest v_filed v_drafted v_place v_over v_clock v_askedTerms v_segments v_done v_postingsDone v_postingsAll v_why v_hits v_tape v_words v_letter Φ) (fun _ _ => False))) (hkm : k ≤ 0) (hnm : n9 ≤ 0) : ∀ n : Nat, ∀ (v_at : Int32) (v_fresh : Nat → Int32) (v_word : Nat → Int32) (l1 : Int32) (l2 : Int32) (l3 : Int32), L_X9_countAsked_31 n v_at v_fresh v_tape v_word v_words v_letter l1 l2 l3 K_101 Φ → (∀ (v_at_51 : Int32) (v_fresh_52 : Nat → Int32) (v_word_53 : Nat → Int32) (l3_54 : Int32), K_101 v_at_51 v_fresh_52 v_word_53 l3_54 → AW Γ k n9 101 [(3, .int l3_54)] [] [(h0, oX9 d0 v_thrown v_taped v_at_51 v_documents v_terms v_latest v_filed v_drafted v_place v_over v_clock v_askedTerms v_segments v_done v_postingsDone v_postingsAll v_why v_hits), ((d0 10), aI cs 64 v_fresh_52), ((d0 1), aI cs 3000 v_tape), ((d0 3), aI cs 8 v_word_53), ((d0 14), aI cs 5 v_words), ((d0 15), aI cs 2560 v_letter)]) → AW Γ k n9 31 [(0, .ref h0), (1, .int l1), (2, .int l2), (3, .int l3)] [] [(h0, oX9 d0 v_thrown v_taped v_at v_documents v_terms v_latest v_filed v_drafted v_place v_over v_clock v_askedTerms v_segments v_done v_postingsDone v_postingsAll v_why v_hits), ((d0 10), aI cs 64 v_fresh), ((d0 1), aI cs 3000 v_tape), ((d0 3), aI cs 8 v_word), ((d0 14), aI cs 5 v_words), ((d0 15), aI cs 2560 v_letter)] := by
  intro n
  induction n with
  | zero =>
    intro v_at v_fresh v_word l1 l2 l3 h
    exact False.elim h
  | succ n ih =>
    intro v_at v_fresh v_word l1 l2 l3 h hK_101
    rw [L_X9_countAsked_31] at h
    refine a_aload_n C (pc := 31) 0 dX9_countAsked_31 rfl rfl ?_
    refine a_iload_n C (pc := 32) 2 dX9_countAsked_32 rfl rfl ?_
    refine a_callV C (pc := 33) (av := [.int l2]) (wr := [((d0 10), aI cs 64 v_fresh), ((d0 14), aI cs 5 v_words), ((d0 15), aI cs 2560 v_letter)]) (m_X9_takesWord Lx Dx cs h0 d0 v_thrown v_taped v_at v_documents v_terms v_latest v_filed v_drafted v_place v_over v_clock v_askedTerms v_segments v_done v_postingsDone v_postingsAll v_why v_hits v_tape v_word l2 _ h) [0, 2, 3] [1, 4, 5] rfl rfl (by decide) (by decide) (by decide) wM_X9_123 wb_X9_takesWord hy_X9_takesWord (q0 := 0) rfl rfl rfl ⟨Nat.le_of_ble_eq_true rfl, Nat.le_of_ble_eq_true rfl⟩ (Nat.le_of_ble_eq_true rfl) hkm hnm rfl dX9_countAsked_33 (fun v w1 hw => ?_) [] rfl (fun _ _ h => h.elim)
    obtain ⟨r_13, v_at_14, v_word_15, rfl, rfl, h⟩ := hw
    refine a_ws (st1 := [.int r_13]) (ws1 := [(h0, oX9 d0 v_thrown v_taped v_at_14 v_documents v_terms v_latest v_filed v_drafted v_place v_over v_clock v_askedTerms v_segments v_done v_postingsDone v_postingsAll v_why v_hits), ((d0 10), aI cs 64 v_fresh), ((d0 1), aI cs 3000 v_tape), ((d0 3), aI cs 8 v_word_15), ((d0 14), aI cs 5 v_words), ((d0 15), aI cs 2560 v_letter)]) k n9 36 [3, 0, 4, 5, 1, 2] rfl rfl rfl rfl (by decide) rfl ?_
    refine a_if_eq C (pc := 36) 101 dX9_countAsked_36 (by decide) (fun hc => ?_) (fun hc => ?_)
    · have h := h.1 hc
      refine a_lv (lv1 := [(3, .int l3)]) [3] rfl ?_
      exact hK_101 v_at_14 v_fresh v_word_15 l3 h
    · have h := h.2 hc
      refine a_iload_n C (pc := 39) 1 dX9_countAsked_39 rfl rfl ?_
      refine a_if_ge C (pc := 40) 47 dX9_countAsked_40 (by decide) (fun hc => ?_) (fun hc => ?_)
      · have h := h.1 hc
        refine a_aload_n C (pc := 47) 0 dX9_countAsked_47 rfl rfl ?_
        refine a_aload_n C (pc := 48) 0 dX9_countAsked_48 rfl rfl ?_
        refine a_get C (pc := 49) 0 15 inW_X9 rfl rfl (Nat.le_of_ble_eq_true rfl) wF_X9_40 rfl rfl dX9_countAsked_49 ?_
        refine a_sipush C (pc := 52) dX9_countAsked_52 sp_512 ?_
        refine a_iload_n C (pc := 55) 1 dX9_countAsked_55 rfl rfl ?_
        refine a_imul C (pc := 56) dX9_countAsked_56 ?_
        refine a_aload_n C (pc := 57) 0 dX9_countAsked_57 rfl rfl ?_
        refine a_get C (pc := 58) 0 14 inW_X9 rfl rfl (Nat.le_of_ble_eq_true rfl) wF_X9_37 rfl rfl dX9_countAsked_58 ?_
        refine a_iload_n C (pc := 61) 1 dX9_countAsked_61 rfl rfl ?_
        refine a_iald C (pc := 62) 4 rfl h.1 dX9_countAsked_62 ?_
        replace h := h.2
        refine a_callV C (pc := 63) (av := [.ref (d0 15), .int (512 * l1), .int (v_words (l1 : Int32).toNatClampNeg)]) (wr := [((d0 10), aI cs 64 v_fresh), ((d0 1), aI cs 3000 v_tape), ((d0 14), aI cs 5 v_words)]) (m_X9_finds Lx Dx cs 2560 h0 (d0 15) d0 v_thrown v_taped v_at_14 v_documents v_terms v_latest v_filed v_drafted v_place v_over v_clock v_askedTerms v_segments v_done v_postingsDone v_postingsAll v_why v_hits v_word_15 v_letter (512 * l1) (v_words (l1 : Int32).toNatClampNeg) _ h) [0, 3, 5] [1, 2, 4] rfl rfl (by decide) (by decide) (by decide) wM_X9_127 wb_X9_finds hy_X9_finds (q0 := 0) rfl rfl rfl ⟨Nat.le_of_ble_eq_true rfl, Nat.le_of_ble_eq_true rfl⟩ (Nat.le_of_ble_eq_true rfl) hkm hnm rfl dX9_countAsked_63 (fun v w1 hw => ?_) [] rfl (fun _ _ h => h.elim)
        obtain ⟨r_16, rfl, rfl, h⟩ := hw
        refine a_ws (st1 := [.int r_16]) (ws1 := [(h0, oX9 d0 v_thrown v_taped v_at_14 v_documents v_terms v_latest v_filed v_drafted v_place v_over v_clock v_askedTerms v_segments v_done v_postingsDone v_postingsAll v_why v_hits), ((d0 10), aI cs 64 v_fresh), ((d0 1), aI cs 3000 v_tape), ((d0 3), aI cs 8 v_word_15), ((d0 14), aI cs 5 v_words), ((d0 15), aI cs 2560 v_letter)]) k n9 66 [3, 0, 1, 4, 2, 5] rfl rfl rfl rfl (by decide) rfl ?_
        exact w_X9_countAsked_66 C hkm hnm v_at_14 v_fresh v_word_15 l1 l2 l3 r_16 h (fun v_at_33 v_fresh_34 v_word_35 l1_36 l2_37 l3_38 h => ih v_at_33 v_fresh_34 v_word_35 l1_36 l2_37 l3_38 h hK_101) hK_101
      · have h := h.2 hc
        refine a_iconst C (pc := 43) dX9_countAsked_43 ic_m1 ?_
        refine a_goto C (pc := 44) 66 dX9_countAsked_44 (by decide) ?_
        exact w_X9_countAsked_66 C hkm hnm v_at_14 v_fresh v_word_15 l1 l2 l3 (-1) h (fun v_at_45 v_fresh_46 v_word_47 l1_48 l2_49 l3_50 h => ih v_at_45 v_fresh_46 v_word_47 l1_48 l2_49 l3_50 h hK_101) hK_101
set_option maxRecDepth 100000 in
set_option maxHeartbeats 4000000 in
theorem m_X9_countAsked (Lx : Launch) (Dx : va_G) (cs : Nat → ClassId) (h0 : Nat) (d0 : Nat → Nat) (v_thrown : Int32) (v_taped : Int32) (v_at : Int32) (v_documents : Int32) (v_terms : Int32) (v_latest : Int32) (v_filed : Int32) (v_drafted : Int32) (v_place : Int32) (v_over : Int32) (v_clock : Int64) (v_askedTerms : Int32) (v_segments : Int32) (v_done : Int32) (v_postingsDone : Int32) (v_postingsAll : Int32) (v_why : Int32) (v_hits : Int32) (v_fresh : Nat → Int32) (v_tape : Nat → Int32) (v_word : Nat → Int32) (v_words : Nat → Int32) (v_letter : Nat → Int32) (l1 : Int32) (l2 : Int32) (Φ : Int32 → Int32 → (Nat → Int32) → (Nat → Int32) → Prop) (h : P_X9_countAsked v_at v_fresh v_tape v_word v_words v_letter l1 l2 Φ) : XMet Lx Dx cs yX9_countAsked cX9_countAsked 5 (some .int) 2 47 0 0 [.ref h0, .int l1, .int l2] [(h0, oX9 d0 v_thrown v_taped v_at v_documents v_terms v_latest v_filed v_drafted v_place v_over v_clock v_askedTerms v_segments v_done v_postingsDone v_postingsAll v_why v_hits), ((d0 10), aI cs 64 v_fresh), ((d0 1), aI cs 3000 v_tape), ((d0 3), aI cs 8 v_word), ((d0 14), aI cs 5 v_words), ((d0 15), aI cs 2560 v_letter)] (R_X9_countAsked cs h0 d0 v_thrown v_taped v_documents v_terms v_latest v_filed v_drafted v_place v_over v_clock v_askedTerms v_segments v_done v_postingsDone v_postingsAll v_why v_hits v_tape v_words v_letter Φ) (fun _ _ => False) := by
  refine XMet.of (own := RX9) (nm := "countAsked") (by decide) rfl rfl (Nat.le_of_ble_eq_true rfl) (fun Γ C => ?_)
  unfold P_X9_countAsked at h
  refine a_iconst C (pc := 0) dX9_countAsked_0 ic_0 ?_
  refine a_istore_n C (pc := 1) (lv1 := [(0, .ref h0), (1, .int l1), (2, .int l2), (3, .int 0)]) [1, 2, 3, 0] dX9_countAsked_1 rfl (by decide) rfl ?_
  refine a_aload_n C (pc := 2) 0 dX9_countAsked_2 rfl rfl ?_
  refine a_iconst C (pc := 3) dX9_countAsked_3 ic_0 ?_
  refine a_put C (pc := 4) (ws1 := [(h0, oX9 d0 v_thrown v_taped 0 v_documents v_terms v_latest v_filed v_drafted v_place v_over v_clock v_askedTerms v_segments v_done v_postingsDone v_postingsAll v_why v_hits), ((d0 10), aI cs 64 v_fresh), ((d0 1), aI cs 3000 v_tape), ((d0 3), aI cs 8 v_word), ((d0 14), aI cs 5 v_words), ((d0 15), aI cs 2560 v_letter)]) 0 4 inW_X9 tyX9 tyX9_ok nmX9 rfl rfl (Nat.le_of_ble_eq_true rfl) wF_X9_102 rfl rfl rfl rfl rfl (Nat.le_of_ble_eq_true rfl) dX9_countAsked_4 rfl ?_
  refine a_iconst C (pc := 7) dX9_countAsked_7 ic_0 ?_
  refine a_istore C (pc := 8) (lv1 := [(0, .ref h0), (1, .int l1), (2, .int l2), (3, .int 0), (4, .int 0)]) [1, 2, 3, 4, 0] dX9_countAsked_8 (by decide) rfl ?_
  obtain ⟨n0, h⟩ := h
  refine w_X9_countAsked_10 C (Nat.le_of_ble_eq_true rfl) (Nat.le_of_ble_eq_true rfl) n0 0 v_fresh v_word l1 l2 0 0 h ?_
  intro v_at_7 v_fresh_8 v_word_9 l1_10 l2_11 l3_12 h
  obtain ⟨n0, h⟩ := h
  refine w_X9_countAsked_31 C (Nat.le_of_ble_eq_true rfl) (Nat.le_of_ble_eq_true rfl) n0 v_at_7 v_fresh_8 v_word_9 l1_10 l2_11 l3_12 h ?_
  intro v_at_55 v_fresh_56 v_word_57 l3_58 h
  refine a_iload_n C (pc := 101) 0 dX9_countAsked_101 rfl rfl ?_
  exact a_ireturn C (pc := 102) rfl dX9_countAsked_102 (Nat.le_of_ble_eq_true rfl) (Nat.le_of_ble_eq_true rfl) ⟨_, _, _, _, rfl, rfl, h⟩
