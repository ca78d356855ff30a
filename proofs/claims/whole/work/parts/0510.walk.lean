set_option maxRecDepth 100000 in
set_option maxHeartbeats 4000000 in
theorem w_X9_readsTerm_75 {Γ : XG} {Lx : Launch} {Dx : va_G} {cs : Nat → ClassId} {h0 : Nat} {d0 : Nat → Nat} {v_thrown : Int32} {v_taped : Int32} {v_at : Int32} {v_documents : Int32} {v_terms : Int32} {v_latest : Int32} {v_filed : Int32} {v_drafted : Int32} {v_clock : Int64} {v_askedTerms : Int32} {v_segments : Int32} {v_done : Int32} {v_postingsDone : Int32} {v_postingsAll : Int32} {v_why : Int32} {v_hits : Int32} {v_file : Nat → Int32} {v_bits : Nat → Int32} {v_size : Nat → Int32} {v_codec : Nat → Int32} {B_29 : Int32 → Int32 → (Nat → Int32) → (Nat → Int32) → (Nat → Int32) → (Nat → Int32) → Int32 → Int32 → Int32 → Int32 → Prop} {K_110 : Int32 → Int32 → (Nat → Int32) → (Nat → Int32) → (Nat → Int32) → (Nat → Int32) → Int32 → Int32 → Prop} {Φ : Int32 → Int32 → Int32 → (Nat → Int32) → (Nat → Int32) → (Nat → Int32) → (Nat → Int32) → Prop} {k n9 : Nat} (C : CX Γ Lx Dx cs cX9_readsTerm RX9 "readsTerm" 11 (some .int) 3 73 0 0 (qEC cs 0 0 [] (R_X9_readsTerm cs h0 d0 v_thrown v_taped v_at v_documents v_terms v_latest v_filed v_drafted v_clock v_askedTerms v_segments v_done v_postingsDone v_postingsAll v_why v_hits v_file v_bits v_size v_codec Φ) (fun _ _ => False))) (hkm : k ≤ 0) (hnm : n9 ≤ 0) (v_place : Int32) (v_over : Int32) (v_letter : Nat → Int32) (v_word : Nat → Int32) (v_gap : Nat → Int32) (v_impact : Nat → Int32) (l1 : Int32) (l2 : Int32) (l3 : Int32) (l4 : Int32) (l5 : Int32) (h : J_X9_readsTerm_75 v_filed v_place v_over v_file v_letter v_word v_bits v_size v_codec v_gap v_impact l1 l2 l3 l4 l5 B_29 K_110 Φ) (hB_29 : ∀ (v_place_5 : Int32) (v_over_6 : Int32) (v_letter_7 : Nat → Int32) (v_word_8 : Nat → Int32) (v_gap_9 : Nat → Int32) (v_impact_10 : Nat → Int32) (l1_11 : Int32) (l2_12 : Int32) (l3_13 : Int32) (l4_14 : Int32), B_29 v_place_5 v_over_6 v_letter_7 v_word_8 v_gap_9 v_impact_10 l1_11 l2_12 l3_13 l4_14 → AW Γ k n9 29 [(0, .ref h0), (1, .int l1_11), (2, .int l2_12), (3, .int l3_13), (4, .int l4_14)] [] [(h0, oX9 d0 v_thrown v_taped v_at v_documents v_terms v_latest v_filed v_drafted v_place_5 v_over_6 v_clock v_askedTerms v_segments v_done v_postingsDone v_postingsAll v_why v_hits), ((d0 21), aI cs 16000 v_file), ((d0 15), aI cs 2560 v_letter_7), ((d0 3), aI cs 8 v_word_8), ((d0 11), aI cs 5 v_bits), ((d0 13), aI cs 5 v_size), ((d0 12), aI cs 5 v_codec), ((d0 27), aI cs 40 v_gap_9), ((d0 16), aI cs 12800 v_impact_10)]) (hK_110 : ∀ (v_place_15 : Int32) (v_over_16 : Int32) (v_letter_17 : Nat → Int32) (v_word_18 : Nat → Int32) (v_gap_19 : Nat → Int32) (v_impact_20 : Nat → Int32) (l1_21 : Int32) (l2_22 : Int32), K_110 v_place_15 v_over_16 v_letter_17 v_word_18 v_gap_19 v_impact_20 l1_21 l2_22 → AW Γ k n9 110 [(0, .ref h0), (1, .int l1_21), (2, .int l2_22)] [] [(h0, oX9 d0 v_thrown v_taped v_at v_documents v_terms v_latest v_filed v_drafted v_place_15 v_over_16 v_clock v_askedTerms v_segments v_done v_postingsDone v_postingsAll v_why v_hits), ((d0 21), aI cs 16000 v_file), ((d0 15), aI cs 2560 v_letter_17), ((d0 3), aI cs 8 v_word_18), ((d0 11), aI cs 5 v_bits), ((d0 13), aI cs 5 v_size), ((d0 12), aI cs 5 v_codec), ((d0 27), aI cs 40 v_gap_19), ((d0 16), aI cs 12800 v_impact_20)]) : AW Γ k n9 75 [(0, .ref h0), (1, .int l1), (2, .int l2), (3, .int l3), (4, .int l4), (5, .int l5)] [] [(h0, oX9 d0 v_thrown v_taped v_at v_documents v_terms v_latest v_filed v_drafted v_place v_over v_clock v_askedTerms v_segments v_done v_postingsDone v_postingsAll v_why v_hits), ((d0 21), aI cs 16000 v_file), ((d0 15), aI cs 2560 v_letter), ((d0 3), aI cs 8 v_word), ((d0 11), aI cs 5 v_bits), ((d0 13), aI cs 5 v_size), ((d0 12), aI cs 5 v_codec), ((d0 27), aI cs 40 v_gap), ((d0 16), aI cs 12800 v_impact)] := by
  unfold J_X9_readsTerm_75 at h
  refine a_aload_n C (pc := 75) 0 dX9_readsTerm_75 rfl rfl ?_
  refine a_get C (pc := 76) 0 15 inW_X9 rfl rfl (Nat.le_of_ble_eq_true rfl) wF_X9_40 rfl rfl dX9_readsTerm_76 ?_
  refine a_sipush C (pc := 79) dX9_readsTerm_79 sp_512 ?_
  refine a_iload_n C (pc := 82) 1 dX9_readsTerm_82 rfl rfl ?_
  refine a_imul C (pc := 83) dX9_readsTerm_83 ?_
  refine a_bipush C (pc := 84) dX9_readsTerm_84 bp_8 ?_
  refine a_iload_n C (pc := 86) 2 dX9_readsTerm_86 rfl rfl ?_
  refine a_imul C (pc := 87) dX9_readsTerm_87 ?_
  refine a_iadd C (pc := 88) dX9_readsTerm_88 ?_
  refine a_iload C (pc := 89) 4 dX9_readsTerm_89 rfl ?_
  refine a_iadd C (pc := 91) dX9_readsTerm_91 ?_
  refine a_iload C (pc := 92) 5 dX9_readsTerm_92 rfl ?_
  refine a_iast C (pc := 94) (ws1 := [(h0, oX9 d0 v_thrown v_taped v_at v_documents v_terms v_latest v_filed v_drafted v_place v_over v_clock v_askedTerms v_segments v_done v_postingsDone v_postingsAll v_why v_hits), ((d0 21), aI cs 16000 v_file), ((d0 15), aI cs 2560 (upd v_letter (((512 * l1) + (8 * l2)) + l4 : Int32).toNatClampNeg l5)), ((d0 3), aI cs 8 v_word), ((d0 11), aI cs 5 v_bits), ((d0 13), aI cs 5 v_size), ((d0 12), aI cs 5 v_codec), ((d0 27), aI cs 40 v_gap), ((d0 16), aI cs 12800 v_impact)]) 2 rfl h.1 dX9_readsTerm_94 rfl ?_
  replace h := h.2
  refine a_aload_n C (pc := 95) 0 dX9_readsTerm_95 rfl rfl ?_
  refine a_get C (pc := 96) 0 3 inW_X9 rfl rfl (Nat.le_of_ble_eq_true rfl) wF_X9_13 rfl rfl dX9_readsTerm_96 ?_
  refine a_iload C (pc := 99) 4 dX9_readsTerm_99 rfl ?_
  refine a_iload C (pc := 101) 5 dX9_readsTerm_101 rfl ?_
  refine a_iast C (pc := 103) (ws1 := [(h0, oX9 d0 v_thrown v_taped v_at v_documents v_terms v_latest v_filed v_drafted v_place v_over v_clock v_askedTerms v_segments v_done v_postingsDone v_postingsAll v_why v_hits), ((d0 21), aI cs 16000 v_file), ((d0 15), aI cs 2560 (upd v_letter (((512 * l1) + (8 * l2)) + l4 : Int32).toNatClampNeg l5)), ((d0 3), aI cs 8 (upd v_word (l4 : Int32).toNatClampNeg l5)), ((d0 11), aI cs 5 v_bits), ((d0 13), aI cs 5 v_size), ((d0 12), aI cs 5 v_codec), ((d0 27), aI cs 40 v_gap), ((d0 16), aI cs 12800 v_impact)]) 3 rfl h.1 dX9_readsTerm_103 rfl ?_
  replace h := h.2
  refine a_iinc C (pc := 104) (lv1 := [(0, .ref h0), (1, .int l1), (2, .int l2), (3, .int l3), (4, .int (l4 + 1)), (5, .int l5)]) 4 [1, 2, 3, 4, 0, 5] dX9_readsTerm_104 rfl (congrArg (fun z => l4 + z) ic_1) (by decide) rfl ?_
  refine a_goto C (pc := 107) 29 dX9_readsTerm_107 (by decide) ?_
  refine a_lv (lv1 := [(0, .ref h0), (1, .int l1), (2, .int l2), (3, .int l3), (4, .int (l4 + 1))]) [0, 1, 2, 3, 4] rfl ?_
  exact hB_29 v_place v_over (upd v_letter (((512 * l1) + (8 * l2)) + l4 : Int32).toNatClampNeg l5) (upd v_word (l4 : Int32).toNatClampNeg l5) v_gap v_impact l1 l2 l3 (l4 + 1) h
set_option maxRecDepth 100000 in
set_option maxHeartbeats 4000000 in
theorem w_X9_readsTerm_50 {Γ : XG} {Lx : Launch} {Dx : va_G} {cs : Nat → ClassId} {h0 : Nat} {d0 : Nat → Nat} {v_thrown : Int32} {v_taped : Int32} {v_at : Int32} {v_documents : Int32} {v_terms : Int32} {v_latest : Int32} {v_filed : Int32} {v_drafted : Int32} {v_clock : Int64} {v_askedTerms : Int32} {v_segments : Int32} {v_done : Int32} {v_postingsDone : Int32} {v_postingsAll : Int32} {v_why : Int32} {v_hits : Int32} {v_file : Nat → Int32} {v_bits : Nat → Int32} {v_size : Nat → Int32} {v_codec : Nat → Int32} {B_29 : Int32 → Int32 → (Nat → Int32) → (Nat → Int32) → (Nat → Int32) → (Nat → Int32) → Int32 → Int32 → Int32 → Int32 → Prop} {K_110 : Int32 → Int32 → (Nat → Int32) → (Nat → Int32) → (Nat → Int32) → (Nat → Int32) → Int32 → Int32 → Prop} {Φ : Int32 → Int32 → Int32 → (Nat → Int32) → (Nat → Int32) → (Nat → Int32) → (Nat → Int32) → Prop} {k n9 : Nat} (C : CX Γ Lx Dx cs cX9_readsTerm RX9 "readsTerm" 11 (some .int) 3 73 0 0 (qEC cs 0 0 [] (R_X9_readsTerm cs h0 d0 v_thrown v_taped v_at v_documents v_terms v_latest v_filed v_drafted v_clock v_askedTerms v_segments v_done v_postingsDone v_postingsAll v_why v_hits v_file v_bits v_size v_codec Φ) (fun _ _ => False))) (hkm : k ≤ 0) (hnm : n9 ≤ 0) (v_place : Int32) (v_over : Int32) (v_letter : Nat → Int32) (v_word : Nat → Int32) (v_gap : Nat → Int32) (v_impact : Nat → Int32) (l1 : Int32) (l2 : Int32) (l3 : Int32) (l4 : Int32) (s0 : Int32) (h : J_X9_readsTerm_50 v_filed v_place v_over v_file v_letter v_word v_bits v_size v_codec v_gap v_impact l1 l2 l3 l4 s0 B_29 K_110 Φ) (hB_29 : ∀ (v_place_24 : Int32) (v_over_25 : Int32) (v_letter_26 : Nat → Int32) (v_word_27 : Nat → Int32) (v_gap_28 : Nat → Int32) (v_impact_29 : Nat → Int32) (l1_30 : Int32) (l2_31 : Int32) (l3_32 : Int32) (l4_33 : Int32), B_29 v_place_24 v_over_25 v_letter_26 v_word_27 v_gap_28 v_impact_29 l1_30 l2_31 l3_32 l4_33 → AW Γ k n9 29 [(0, .ref h0), (1, .int l1_30), (2, .int l2_31), (3, .int l3_32), (4, .int l4_33)] [] [(h0, oX9 d0 v_thrown v_taped v_at v_documents v_terms v_latest v_filed v_drafted v_place_24 v_over_25 v_clock v_askedTerms v_segments v_done v_postingsDone v_postingsAll v_why v_hits), ((d0 21), aI cs 16000 v_file), ((d0 15), aI cs 2560 v_letter_26), ((d0 3), aI cs 8 v_word_27), ((d0 11), aI cs 5 v_bits), ((d0 13), aI cs 5 v_size), ((d0 12), aI cs 5 v_codec), ((d0 27), aI cs 40 v_gap_28), ((d0 16), aI cs 12800 v_impact_29)]) (hK_110 : ∀ (v_place_34 : Int32) (v_over_35 : Int32) (v_letter_36 : Nat → Int32) (v_word_37 : Nat → Int32) (v_gap_38 : Nat → Int32) (v_impact_39 : Nat → Int32) (l1_40 : Int32) (l2_41 : Int32), K_110 v_place_34 v_over_35 v_letter_36 v_word_37 v_gap_38 v_impact_39 l1_40 l2_41 → AW Γ k n9 110 [(0, .ref h0), (1, .int l1_40), (2, .int l2_41)] [] [(h0, oX9 d0 v_thrown v_taped v_at v_documents v_terms v_latest v_filed v_drafted v_place_34 v_over_35 v_clock v_askedTerms v_segments v_done v_postingsDone v_postingsAll v_why v_hits), ((d0 21), aI cs 16000 v_file), ((d0 15), aI cs 2560 v_letter_36), ((d0 3), aI cs 8 v_word_37), ((d0 11), aI cs 5 v_bits), ((d0 13), aI cs 5 v_size), ((d0 12), aI cs 5 v_codec), ((d0 27), aI cs 40 v_gap_38), ((d0 16), aI cs 12800 v_impact_39)]) : AW Γ k n9 50 [(0, .ref h0), (1, .int l1), (2, .int l2), (3, .int l3), (4, .int l4)] [.int s0] [(h0, oX9 d0 v_thrown v_taped v_at v_documents v_terms v_latest v_filed v_drafted v_place v_over v_clock v_askedTerms v_segments v_done v_postingsDone v_postingsAll v_why v_hits), ((d0 21), aI cs 16000 v_file), ((d0 15), aI cs 2560 v_letter), ((d0 3), aI cs 8 v_word), ((d0 11), aI cs 5 v_bits), ((d0 13), aI cs 5 v_size), ((d0 12), aI cs 5 v_codec), ((d0 27), aI cs 40 v_gap), ((d0 16), aI cs 12800 v_impact)] := by
  unfold J_X9_readsTerm_50 at h
  refine a_istore C (pc := 50) (lv1 := [(0, .ref h0), (1, .int l1), (2, .int l2), (3, .int l3), (4, .int l4), (5, .int s0)]) [1, 2, 3, 4, 5, 0] dX9_readsTerm_50 (by decide) rfl ?_
  refine a_iload C (pc := 52) 4 dX9_readsTerm_52 rfl ?_
  refine a_iload_n C (pc := 54) 3 dX9_readsTerm_54 rfl rfl ?_
  refine a_icmp_ge C (pc := 55) 75 dX9_readsTerm_55 (by decide) (fun hc => ?_) (fun hc => ?_)
  · have h := h.1 hc
    exact w_X9_readsTerm_75 C hkm hnm v_place v_over v_letter v_word v_gap v_impact l1 l2 l3 l4 s0 h hB_29 hK_110
  · have h := h.2 hc
    refine a_iload C (pc := 58) 5 dX9_readsTerm_58 rfl ?_
    refine a_i2l C (pc := 60) dX9_readsTerm_60 ?_
    refine a_ldc2 C (pc := 61) wC_X9_246 dX9_readsTerm_61 ?_
    refine a_ldc2 C (pc := 64) wC_X9_248 dX9_readsTerm_64 ?_
    refine a_callS C (pc := 67) (av := [.long ((s0 : Int32).toInt64), .long 97, .long 122]) (wr := [(h0, oX9 d0 v_thrown v_taped v_at v_documents v_terms v_latest v_filed v_drafted v_place v_over v_clock v_askedTerms v_segments v_done v_postingsDone v_postingsAll v_why v_hits), ((d0 21), aI cs 16000 v_file), ((d0 15), aI cs 2560 v_letter), ((d0 3), aI cs 8 v_word), ((d0 11), aI cs 5 v_bits), ((d0 13), aI cs 5 v_size), ((d0 12), aI cs 5 v_codec), ((d0 27), aI cs 40 v_gap), ((d0 16), aI cs 12800 v_impact)]) (m_X9_within Lx Dx cs ((s0 : Int32).toInt64) 97 122 _ h) [] [0, 1, 2, 3, 4, 5, 6, 7, 8] rfl rfl (by decide) (by decide) (by decide) wM_X9_89 wb_X9_within hy_X9_within rfl ⟨Nat.le_of_ble_eq_true rfl, Nat.le_of_ble_eq_true rfl⟩ (Nat.le_of_ble_eq_true rfl) hkm hnm rfl dX9_readsTerm_67 (fun v w1 hw => ?_) [] rfl (fun _ _ h => h.elim)
    obtain ⟨r_23, rfl, rfl, h⟩ := hw
    refine a_ws (st1 := [.int r_23]) (ws1 := [(h0, oX9 d0 v_thrown v_taped v_at v_documents v_terms v_latest v_filed v_drafted v_place v_over v_clock v_askedTerms v_segments v_done v_postingsDone v_postingsAll v_why v_hits), ((d0 21), aI cs 16000 v_file), ((d0 15), aI cs 2560 v_letter), ((d0 3), aI cs 8 v_word), ((d0 11), aI cs 5 v_bits), ((d0 13), aI cs 5 v_size), ((d0 12), aI cs 5 v_codec), ((d0 27), aI cs 40 v_gap), ((d0 16), aI cs 12800 v_impact)]) k n9 70 [0, 1, 2, 3, 4, 5, 6, 7, 8] rfl rfl rfl rfl (by decide) rfl ?_
    refine a_if_ne C (pc := 70) 75 dX9_readsTerm_70 (by decide) (fun hc => ?_) (fun hc => ?_)
    · have h := h.1 hc
      exact w_X9_readsTerm_75 C hkm hnm v_place v_over v_letter v_word v_gap v_impact l1 l2 l3 l4 s0 h hB_29 hK_110
    · have h := h.2 hc
      refine a_iconst C (pc := 73) dX9_readsTerm_73 ic_m1 ?_
      exact a_ireturn C (pc := 74) rfl dX9_readsTerm_74 hkm hnm ⟨_, _, _, _, _, _, _, rfl, rfl, h⟩
set_option maxRecDepth 100000 in
set_option maxHeartbeats 4000000 in
theorem w_X9_readsTerm_29 {Γ : XG} {Lx : Launch} {Dx : va_G} {cs : Nat → ClassId} {h0 : Nat} {d0 : Nat → Nat} {v_thrown : Int32} {v_taped : Int32} {v_at : Int32} {v_documents : Int32} {v_terms : Int32} {v_latest : Int32} {v_filed : Int32} {v_drafted : Int32} {v_clock : Int64} {v_askedTerms : Int32} {v_segments : Int32} {v_done : Int32} {v_postingsDone : Int32} {v_postingsAll : Int32} {v_why : Int32} {v_hits : Int32} {v_file : Nat → Int32} {v_bits : Nat → Int32} {v_size : Nat → Int32} {v_codec : Nat → Int32} {K_110 : Int32 → Int32 → (Nat → Int32) → (Nat → Int32) → (Nat → Int32) → (Nat → Int32) → Int32 → Int32 → Prop} {Φ : Int32 → Int32 → Int32 → (Nat → Int32) → (Nat → Int32) → (Nat → Int32) → (Nat → Int32) → Prop} {k n9 : Nat} (C : CX Γ Lx Dx cs cX9_readsTerm RX9 "readsTerm" 11 (some .int) 3 73 0 0 (qEC cs 0 0 [] (R_X9_readsTerm cs h0 d0 v_thrown v_taped v_at v_documents v_terms v_latest v_filed v_drafted v_clock v_askedTerms v_segments v_done v_postingsDone v_postingsAll v_why v_hits v_file v_bits v_size v_codec Φ) (fun _ _ => False))) (hkm : k ≤ 0) (hnm : n9 ≤ 0) : ∀ n : Nat, ∀ (v_place : Int32) (v_over : Int32) (v_letter : Nat → Int32) (v_word : Nat → Int32) (v_gap : Nat → Int32) (v_impact : Nat → Int32) (l1 : Int32) (l2 : Int32) (l3 : Int32) (l4 : Int32), L_X9_readsTerm_29 n v_filed v_place v_over v_file v_letter v_word v_bits v_size v_codec v_gap v_impact l1 l2 l3 l4 K_110 Φ → (∀ (v_place_85 : Int32) (v_over_86 : Int32) (v_letter_87 : Nat → Int32) (v_word_88 : Nat → Int32) (v_gap_89 : Nat → Int32) (v_impact_90 : Nat → Int32) (l1_91 : Int32) (l2_92 : Int32), K_110 v_place_85 v_over_86 v_letter_87 v_word_88 v_gap_89 v_impact_90 l1_91 l2_92 → AW Γ k n9 110 [(0, .ref h0), (1, .int l1_91), (2, .int l2_92)] [] [(h0, oX9 d0 v_thrown v_taped v_at v_documents v_terms v_latest v_filed v_drafted v_place_85 v_over_86 v_clock v_askedTerms v_segments v_done v_postingsDone v_postingsAll v_why v_hits), ((d0 21), aI cs 16000 v_file), ((d0 15), aI cs 2560 v_letter_87), ((d0 3), aI cs 8 v_word_88), ((d0 11), aI cs 5 v_bits), ((d0 13), aI cs 5 v_size), ((d0 12), aI cs 5 v_codec), ((d0 27), aI cs 40 v_gap_89), ((d0 16), aI cs 12800 v_impact_90)]) → AW Γ k n9 29 [(0, .ref h0), (1, .int l1), (2, .int l2), (3, .int l3), (4, .int l4)] [] [(h0, oX9 d0 v_thrown v_taped v_at v_documents v_terms v_latest v_filed v_drafted v_place v_over v_clock v_askedTerms v_segments v_done v_postingsDone v_postingsAll v_why v_hits), ((d0 21), aI cs 16000 v_file), ((d0 15), aI cs 2560 v_letter), ((d0 3), aI cs 8 v_word), ((d0 11), aI cs 5 v_bits), ((d0 13), aI cs 5 v_size), ((d0 12), aI cs 5 v_codec), ((d0 27), aI cs 40 v_gap), ((d0 16), aI cs 12800 v_impact)] := by
  intro n
  induction n with
  | zero =>
    intro v_place v_over v_letter v_word v_gap v_impact l1 l2 l3 l4 h
    exact False.elim h
  | succ n ih =>
    intro v_place v_over v_letter v_word v_gap v_impact l1 l2 l3 l4 h hK_110
    rw [L_X9_readsTerm_29] at h
    refine a_iload C (pc := 29) 4 dX9_readsTerm_29 rfl ?_
    refine a_bipush C (pc := 31) dX9_readsTerm_31 bp_8 ?_
    refine a_icmp_ge C (pc := 33) 110 dX9_readsTerm_33 (by decide) (fun hc => ?_) (fun hc => ?_)
    · have h := h.1 hc
      refine a_lv (lv1 := [(0, .ref h0), (1, .int l1), (2, .int l2)]) [0, 1, 2] rfl ?_
      exact hK_110 v_place v_over v_letter v_word v_gap v_impact l1 l2 h
    · have h := h.2 hc
      refine a_iload C (pc := 36) 4 dX9_readsTerm_36 rfl ?_
      refine a_iload_n C (pc := 38) 3 dX9_readsTerm_38 rfl rfl ?_
      refine a_icmp_ge C (pc := 39) 49 dX9_readsTerm_39 (by decide) (fun hc => ?_) (fun hc => ?_)
      · have h := h.1 hc
        refine a_iconst C (pc := 49) dX9_readsTerm_49 ic_0 ?_
        exact w_X9_readsTerm_50 C hkm hnm v_place v_over v_letter v_word v_gap v_impact l1 l2 l3 l4 0 h (fun v_place_52 v_over_53 v_letter_54 v_word_55 v_gap_56 v_impact_57 l1_58 l2_59 l3_60 l4_61 h => ih v_place_52 v_over_53 v_letter_54 v_word_55 v_gap_56 v_impact_57 l1_58 l2_59 l3_60 l4_61 h hK_110) hK_110
      · have h := h.2 hc
        refine a_aload_n C (pc := 42) 0 dX9_readsTerm_42 rfl rfl ?_
        refine a_callV C (pc := 43) (av := []) (wr := [((d0 15), aI cs 2560 v_letter), ((d0 3), aI cs 8 v_word), ((d0 11), aI cs 5 v_bits), ((d0 13), aI cs 5 v_size), ((d0 12), aI cs 5 v_codec), ((d0 27), aI cs 40 v_gap), ((d0 16), aI cs 12800 v_impact)]) (m_X9_take Lx Dx cs h0 d0 v_thrown v_taped v_at v_documents v_terms v_latest v_filed v_drafted v_place v_over v_clock v_askedTerms v_segments v_done v_postingsDone v_postingsAll v_why v_hits v_file _ h) [0, 1] [2, 3, 4, 5, 6, 7, 8] rfl rfl (by decide) (by decide) (by decide) wM_X9_229 wb_X9_take hy_X9_take (q0 := 0) rfl rfl rfl ⟨Nat.le_of_ble_eq_true rfl, Nat.le_of_ble_eq_true rfl⟩ (Nat.le_of_ble_eq_true rfl) hkm hnm rfl dX9_readsTerm_43 (fun v w1 hw => ?_) [] rfl (fun _ _ h => h.elim)
        obtain ⟨r_62, v_place_63, v_over_64, rfl, rfl, h⟩ := hw
        refine a_ws (st1 := [.int r_62]) (ws1 := [(h0, oX9 d0 v_thrown v_taped v_at v_documents v_terms v_latest v_filed v_drafted v_place_63 v_over_64 v_clock v_askedTerms v_segments v_done v_postingsDone v_postingsAll v_why v_hits), ((d0 21), aI cs 16000 v_file), ((d0 15), aI cs 2560 v_letter), ((d0 3), aI cs 8 v_word), ((d0 11), aI cs 5 v_bits), ((d0 13), aI cs 5 v_size), ((d0 12), aI cs 5 v_codec), ((d0 27), aI cs 40 v_gap), ((d0 16), aI cs 12800 v_impact)]) k n9 46 [7, 8, 0, 1, 2, 3, 4, 5, 6] rfl rfl rfl rfl (by decide) rfl ?_
        refine a_goto C (pc := 46) 50 dX9_readsTerm_46 (by decide) ?_
        exact w_X9_readsTerm_50 C hkm hnm v_place_63 v_over_64 v_letter v_word v_gap v_impact l1 l2 l3 l4 r_62 h (fun v_place_75 v_over_76 v_letter_77 v_word_78 v_gap_79 v_impact_80 l1_81 l2_82 l3_83 l4_84 h => ih v_place_75 v_over_76 v_letter_77 v_word_78 v_gap_79 v_impact_80 l1_81 l2_82 l3_83 l4_84 h hK_110) hK_110
set_option maxRecDepth 100000 in
set_option maxHeartbeats 4000000 in
theorem w_X9_readsTerm_255 {Γ : XG} {Lx : Launch} {Dx : va_G} {cs : Nat → ClassId} {h0 : Nat} {d0 : Nat → Nat} {v_thrown : Int32} {v_taped : Int32} {v_at : Int32} {v_documents : Int32} {v_terms : Int32} {v_latest : Int32} {v_filed : Int32} {v_drafted : Int32} {v_clock : Int64} {v_askedTerms : Int32} {v_segments : Int32} {v_done : Int32} {v_postingsDone : Int32} {v_postingsAll : Int32} {v_why : Int32} {v_hits : Int32} {v_file : Nat → Int32} {v_bits : Nat → Int32} {v_size : Nat → Int32} {v_codec : Nat → Int32} {K_326 : Int32 → Int32 → (Nat → Int32) → (Nat → Int32) → (Nat → Int32) → (Nat → Int32) → Int32 → Int32 → Int32 → Int32 → Int32 → Int32 → Prop} {Φ : Int32 → Int32 → Int32 → (Nat → Int32) → (Nat → Int32) → (Nat → Int32) → (Nat → Int32) → Prop} {k n9 : Nat} (C : CX Γ Lx Dx cs cX9_readsTerm RX9 "readsTerm" 11 (some .int) 3 73 0 0 (qEC cs 0 0 [] (R_X9_readsTerm cs h0 d0 v_thrown v_taped v_at v_documents v_terms v_latest v_filed v_drafted v_clock v_askedTerms v_segments v_done v_postingsDone v_postingsAll v_why v_hits v_file v_bits v_size v_codec Φ) (fun _ _ => False))) (hkm : k ≤ 0) (hnm : n9 ≤ 0) : ∀ n : Nat, ∀ (v_place : Int32) (v_over : Int32) (v_letter : Nat → Int32) (v_word : Nat → Int32) (v_gap : Nat → Int32) (v_impact : Nat → Int32) (l1 : Int32) (l2 : Int32) (l4 : Int32) (l5 : Int32) (l6 : Int32) (l7 : Int32) (l8 : Int32) (l9 : Int32) (l10 : Int32), L_X9_readsTerm_255 n v_filed v_place v_over v_file v_letter v_word v_bits v_size v_codec v_gap v_impact l1 l2 l4 l5 l6 l7 l8 l9 l10 K_326 Φ → (∀ (v_place_116 : Int32) (v_over_117 : Int32) (v_letter_118 : Nat → Int32) (v_word_119 : Nat → Int32) (v_gap_120 : Nat → Int32) (v_impact_121 : Nat → Int32) (l1_122 : Int32) (l2_123 : Int32) (l4_124 : Int32) (l5_125 : Int32) (l6_126 : Int32) (l8_127 : Int32), K_326 v_place_116 v_over_117 v_letter_118 v_word_119 v_gap_120 v_impact_121 l1_122 l2_123 l4_124 l5_125 l6_126 l8_127 → AW Γ k n9 326 [(0, .ref h0), (1, .int l1_122), (2, .int l2_123), (4, .int l4_124), (5, .int l5_125), (6, .int l6_126), (8, .int l8_127)] [] [(h0, oX9 d0 v_thrown v_taped v_at v_documents v_terms v_latest v_filed v_drafted v_place_116 v_over_117 v_clock v_askedTerms v_segments v_done v_postingsDone v_postingsAll v_why v_hits), ((d0 21), aI cs 16000 v_file), ((d0 15), aI cs 2560 v_letter_118), ((d0 3), aI cs 8 v_word_119), ((d0 11), aI cs 5 v_bits), ((d0 13), aI cs 5 v_size), ((d0 12), aI cs 5 v_codec), ((d0 27), aI cs 40 v_gap_120), ((d0 16), aI cs 12800 v_impact_121)]) → AW Γ k n9 255 [(0, .ref h0), (1, .int l1), (2, .int l2), (4, .int l4), (5, .int l5), (6, .int l6), (7, .int l7), (8, .int l8), (9, .int l9), (10, .int l10)] [] [(h0, oX9 d0 v_thrown v_taped v_at v_documents v_terms v_latest v_filed v_drafted v_place v_over v_clock v_askedTerms v_segments v_done v_postingsDone v_postingsAll v_why v_hits), ((d0 21), aI cs 16000 v_file), ((d0 15), aI cs 2560 v_letter), ((d0 3), aI cs 8 v_word), ((d0 11), aI cs 5 v_bits), ((d0 13), aI cs 5 v_size), ((d0 12), aI cs 5 v_codec), ((d0 27), aI cs 40 v_gap), ((d0 16), aI cs 12800 v_impact)] := by
  intro n
  induction n with
  | zero =>
    intro v_place v_over v_letter v_word v_gap v_impact l1 l2 l4 l5 l6 l7 l8 l9 l10 h
    exact False.elim h
  | succ n ih =>
    intro v_place v_over v_letter v_word v_gap v_impact l1 l2 l4 l5 l6 l7 l8 l9 l10 h hK_326
    rw [L_X9_readsTerm_255] at h
    refine a_iload C (pc := 255) 9 dX9_readsTerm_255 rfl ?_
    refine a_iload C (pc := 257) 7 dX9_readsTerm_257 rfl ?_
    refine a_icmp_ge C (pc := 259) 326 dX9_readsTerm_259 (by decide) (fun hc => ?_) (fun hc => ?_)
    · have h := h.1 hc
      refine a_lv (lv1 := [(0, .ref h0), (1, .int l1), (2, .int l2), (4, .int l4), (5, .int l5), (6, .int l6), (8, .int l8)]) [0, 1, 2, 3, 4, 5, 7] rfl ?_
      exact hK_326 v_place v_over v_letter v_word v_gap v_impact l1 l2 l4 l5 l6 l8 h
    · have h := h.2 hc
      refine a_iload C (pc := 262) 8 dX9_readsTerm_262 rfl ?_
      refine a_iconst C (pc := 264) dX9_readsTerm_264 ic_1 ?_
      refine a_aload_n C (pc := 265) 0 dX9_readsTerm_265 rfl rfl ?_
      refine a_get C (pc := 266) 0 27 inW_X9 rfl rfl (Nat.le_of_ble_eq_true rfl) wF_X9_62 rfl rfl dX9_readsTerm_266 ?_
      refine a_iload C (pc := 269) 9 dX9_readsTerm_269 rfl ?_
      refine a_iald C (pc := 271) 7 rfl h.1 dX9_readsTerm_271 ?_
      replace h := h.2
      refine a_iadd C (pc := 272) dX9_readsTerm_272 ?_
      refine a_iadd C (pc := 273) dX9_readsTerm_273 ?_
      refine a_istore C (pc := 274) (lv1 := [(0, .ref h0), (1, .int l1), (2, .int l2), (4, .int l4), (5, .int l5), (6, .int l6), (7, .int l7), (8, .int l8), (9, .int (l9 + (1 + (v_gap (l10 : Int32).toNatClampNeg)))), (10, .int l10)]) [1, 2, 3, 4, 5, 6, 7, 8, 0, 9] dX9_readsTerm_274 (by decide) rfl ?_
      refine a_iload C (pc := 276) 8 dX9_readsTerm_276 rfl ?_
      refine a_aload_n C (pc := 278) 0 dX9_readsTerm_278 rfl rfl ?_
      refine a_get C (pc := 279) 0 13 inW_X9 rfl rfl (Nat.le_of_ble_eq_true rfl) wF_X9_34 rfl rfl dX9_readsTerm_279 ?_
      refine a_iload_n C (pc := 282) 1 dX9_readsTerm_282 rfl rfl ?_
      refine a_iald C (pc := 283) 5 rfl h.1 dX9_readsTerm_283 ?_
      replace h := h.2
      refine a_icmp_ge C (pc := 284) 303 dX9_readsTerm_284 (by decide) (fun hc => ?_) (fun hc => ?_)
      · have h := h.1 hc
        refine a_iconst C (pc := 303) dX9_readsTerm_303 ic_m1 ?_
        exact a_ireturn C (pc := 304) rfl dX9_readsTerm_304 hkm hnm ⟨_, _, _, _, _, _, _, rfl, rfl, h⟩
      · have h := h.2 hc
        refine a_aload_n C (pc := 287) 0 dX9_readsTerm_287 rfl rfl ?_
        refine a_get C (pc := 288) 0 16 inW_X9 rfl rfl (Nat.le_of_ble_eq_true rfl) wF_X9_43 rfl rfl dX9_readsTerm_288 ?_
        refine a_aload_n C (pc := 291) 0 dX9_readsTerm_291 rfl rfl ?_
        refine a_iload_n C (pc := 292) 1 dX9_readsTerm_292 rfl rfl ?_
        refine a_iload_n C (pc := 293) 2 dX9_readsTerm_293 rfl rfl ?_
        refine a_iload C (pc := 294) 8 dX9_readsTerm_294 rfl ?_
        refine a_callV C (pc := 296) (av := [.int l1, .int l2, .int (l9 + (1 + (v_gap (l10 : Int32).toNatClampNeg)))]) (wr := [(h0, oX9 d0 v_thrown v_taped v_at v_documents v_terms v_latest v_filed v_drafted v_place v_over v_clock v_askedTerms v_segments v_done v_postingsDone v_postingsAll v_why v_hits), ((d0 21), aI cs 16000 v_file), ((d0 15), aI cs 2560 v_letter), ((d0 3), aI cs 8 v_word), ((d0 11), aI cs 5 v_bits), ((d0 13), aI cs 5 v_size), ((d0 12), aI cs 5 v_codec), ((d0 27), aI cs 40 v_gap), ((d0 16), aI cs 12800 v_impact)]) (m_X9_cell Lx Dx cs h0 l1 l2 (l9 + (1 + (v_gap (l10 : Int32).toNatClampNeg))) _ h) [] [0, 1, 2, 3, 4, 5, 6, 7, 8] rfl rfl (by decide) (by decide) (by decide) wM_X9_162 wb_X9_cell hy_X9_cell (q0 := 0) rfl rfl rfl ⟨Nat.le_of_ble_eq_true rfl, Nat.le_of_ble_eq_true rfl⟩ (Nat.le_of_ble_eq_true rfl) hkm hnm rfl dX9_readsTerm_296 (fun v w1 hw => ?_) [] rfl (fun _ _ h => h.elim)
        obtain ⟨r_114, rfl, rfl, h⟩ := hw
        refine a_ws (st1 := [.int r_114, .ref (d0 16)]) (ws1 := [(h0, oX9 d0 v_thrown v_taped v_at v_documents v_terms v_latest v_filed v_drafted v_place v_over v_clock v_askedTerms v_segments v_done v_postingsDone v_postingsAll v_why v_hits), ((d0 21), aI cs 16000 v_file), ((d0 15), aI cs 2560 v_letter), ((d0 3), aI cs 8 v_word), ((d0 11), aI cs 5 v_bits), ((d0 13), aI cs 5 v_size), ((d0 12), aI cs 5 v_codec), ((d0 27), aI cs 40 v_gap), ((d0 16), aI cs 12800 v_impact)]) k n9 299 [0, 1, 2, 3, 4, 5, 6, 7, 8] rfl rfl rfl rfl (by decide) rfl ?_
        refine a_iald C (pc := 299) 8 rfl h.1 dX9_readsTerm_299 ?_
        replace h := h.2
        refine a_if_le C (pc := 300) 305 dX9_readsTerm_300 (by decide) (fun hc => ?_) (fun hc => ?_)
        · have h := h.1 hc
          refine a_aload_n C (pc := 305) 0 dX9_readsTerm_305 rfl rfl ?_
          refine a_get C (pc := 306) 0 16 inW_X9 rfl rfl (Nat.le_of_ble_eq_true rfl) wF_X9_43 rfl rfl dX9_readsTerm_306 ?_
          refine a_aload_n C (pc := 309) 0 dX9_readsTerm_309 rfl rfl ?_
          refine a_iload_n C (pc := 310) 1 dX9_readsTerm_310 rfl rfl ?_
          refine a_iload_n C (pc := 311) 2 dX9_readsTerm_311 rfl rfl ?_
          refine a_iload C (pc := 312) 8 dX9_readsTerm_312 rfl ?_
          refine a_callV C (pc := 314) (av := [.int l1, .int l2, .int (l9 + (1 + (v_gap (l10 : Int32).toNatClampNeg)))]) (wr := [(h0, oX9 d0 v_thrown v_taped v_at v_documents v_terms v_latest v_filed v_drafted v_place v_over v_clock v_askedTerms v_segments v_done v_postingsDone v_postingsAll v_why v_hits), ((d0 21), aI cs 16000 v_file), ((d0 15), aI cs 2560 v_letter), ((d0 3), aI cs 8 v_word), ((d0 11), aI cs 5 v_bits), ((d0 13), aI cs 5 v_size), ((d0 12), aI cs 5 v_codec), ((d0 27), aI cs 40 v_gap), ((d0 16), aI cs 12800 v_impact)]) (m_X9_cell Lx Dx cs h0 l1 l2 (l9 + (1 + (v_gap (l10 : Int32).toNatClampNeg))) _ h) [] [0, 1, 2, 3, 4, 5, 6, 7, 8] rfl rfl (by decide) (by decide) (by decide) wM_X9_162 wb_X9_cell hy_X9_cell (q0 := 0) rfl rfl rfl ⟨Nat.le_of_ble_eq_true rfl, Nat.le_of_ble_eq_true rfl⟩ (Nat.le_of_ble_eq_true rfl) hkm hnm rfl dX9_readsTerm_314 (fun v w1 hw => ?_) [] rfl (fun _ _ h => h.elim)
          obtain ⟨r_115, rfl, rfl, h⟩ := hw
          refine a_ws (st1 := [.int r_115, .ref (d0 16)]) (ws1 := [(h0, oX9 d0 v_thrown v_taped v_at v_documents v_terms v_latest v_filed v_drafted v_place v_over v_clock v_askedTerms v_segments v_done v_postingsDone v_postingsAll v_why v_hits), ((d0 21), aI cs 16000 v_file), ((d0 15), aI cs 2560 v_letter), ((d0 3), aI cs 8 v_word), ((d0 11), aI cs 5 v_bits), ((d0 13), aI cs 5 v_size), ((d0 12), aI cs 5 v_codec), ((d0 27), aI cs 40 v_gap), ((d0 16), aI cs 12800 v_impact)]) k n9 317 [0, 1, 2, 3, 4, 5, 6, 7, 8] rfl rfl rfl rfl (by decide) rfl ?_
          refine a_iload C (pc := 317) 6 dX9_readsTerm_317 rfl ?_
          refine a_iast C (pc := 319) (ws1 := [(h0, oX9 d0 v_thrown v_taped v_at v_documents v_terms v_latest v_filed v_drafted v_place v_over v_clock v_askedTerms v_segments v_done v_postingsDone v_postingsAll v_why v_hits), ((d0 21), aI cs 16000 v_file), ((d0 15), aI cs 2560 v_letter), ((d0 3), aI cs 8 v_word), ((d0 11), aI cs 5 v_bits), ((d0 13), aI cs 5 v_size), ((d0 12), aI cs 5 v_codec), ((d0 27), aI cs 40 v_gap), ((d0 16), aI cs 12800 (upd v_impact (r_115 : Int32).toNatClampNeg l7))]) 8 rfl h.1 dX9_readsTerm_319 rfl ?_
          replace h := h.2
          refine a_iinc C (pc := 320) (lv1 := [(0, .ref h0), (1, .int l1), (2, .int l2), (4, .int l4), (5, .int l5), (6, .int l6), (7, .int l7), (8, .int l8), (9, .int (l9 + (1 + (v_gap (l10 : Int32).toNatClampNeg)))), (10, .int (l10 + 1))]) 9 [1, 2, 3, 4, 5, 6, 7, 8, 9, 0] dX9_readsTerm_320 rfl (congrArg (fun z => l10 + z) ic_1) (by decide) rfl ?_
          refine a_goto C (pc := 323) 255 dX9_readsTerm_323 (by decide) ?_
          exact ih v_place v_over v_letter v_word v_gap (upd v_impact (r_115 : Int32).toNatClampNeg l7) l1 l2 l4 l5 l6 l7 l8 (l9 + (1 + (v_gap (l10 : Int32).toNatClampNeg))) (l10 + 1) h hK_326
        · have h := h.2 hc
          refine a_iconst C (pc := 303) dX9_readsTerm_303 ic_m1 ?_
          exact a_ireturn C (pc := 304) rfl dX9_readsTerm_304 hkm hnm ⟨_, _, _, _, _, _, _, rfl, rfl, h⟩
set_option maxRecDepth 100000 in
set_option maxHeartbeats 4000000 in
theorem w_X9_readsTerm_165 {Γ : XG} {Lx : Launch} {Dx : va_G} {cs : Nat → ClassId} {h0 : Nat} {d0 : Nat → Nat} {v_thrown : Int32} {v_taped : Int32} {v_at : Int32} {v_documents : Int32} {v_terms : Int32} {v_latest : Int32} {v_filed : Int32} {v_drafted : Int32} {v_clock : Int64} {v_askedTerms : Int32} {v_segments : Int32} {v_done : Int32} {v_postingsDone : Int32} {v_postingsAll : Int32} {v_why : Int32} {v_hits : Int32} {v_file : Nat → Int32} {v_bits : Nat → Int32} {v_size : Nat → Int32} {v_codec : Nat → Int32} {K_339 : Int32 → Int32 → (Nat → Int32) → (Nat → Int32) → (Nat → Int32) → (Nat → Int32) → Int32 → Prop} {Φ : Int32 → Int32 → Int32 → (Nat → Int32) → (Nat → Int32) → (Nat → Int32) → (Nat → Int32) → Prop} {k n9 : Nat} (C : CX Γ Lx Dx cs cX9_readsTerm RX9 "readsTerm" 11 (some .int) 3 73 0 0 (qEC cs 0 0 [] (R_X9_readsTerm cs h0 d0 v_thrown v_taped v_at v_documents v_terms v_latest v_filed v_drafted v_clock v_askedTerms v_segments v_done v_postingsDone v_postingsAll v_why v_hits v_file v_bits v_size v_codec Φ) (fun _ _ => False))) (hkm : k ≤ 0) (hnm : n9 ≤ 0) : ∀ n : Nat, ∀ (v_place : Int32) (v_over : Int32) (v_letter : Nat → Int32) (v_word : Nat → Int32) (v_gap : Nat → Int32) (v_impact : Nat → Int32) (l1 : Int32) (l2 : Int32) (l4 : Int32) (l5 : Int32) (l6 : Int32), L_X9_readsTerm_165 n v_filed v_place v_over v_file v_letter v_word v_bits v_size v_codec v_gap v_impact l1 l2 l4 l5 l6 K_339 Φ → (∀ (v_place_140 : Int32) (v_over_141 : Int32) (v_letter_142 : Nat → Int32) (v_word_143 : Nat → Int32) (v_gap_144 : Nat → Int32) (v_impact_145 : Nat → Int32) (l5_146 : Int32), K_339 v_place_140 v_over_141 v_letter_142 v_word_143 v_gap_144 v_impact_145 l5_146 → AW Γ k n9 339 [(5, .int l5_146)] [] [(h0, oX9 d0 v_thrown v_taped v_at v_documents v_terms v_latest v_filed v_drafted v_place_140 v_over_141 v_clock v_askedTerms v_segments v_done v_postingsDone v_postingsAll v_why v_hits), ((d0 21), aI cs 16000 v_file), ((d0 15), aI cs 2560 v_letter_142), ((d0 3), aI cs 8 v_word_143), ((d0 11), aI cs 5 v_bits), ((d0 13), aI cs 5 v_size), ((d0 12), aI cs 5 v_codec), ((d0 27), aI cs 40 v_gap_144), ((d0 16), aI cs 12800 v_impact_145)]) → AW Γ k n9 165 [(0, .ref h0), (1, .int l1), (2, .int l2), (4, .int l4), (5, .int l5), (6, .int l6)] [] [(h0, oX9 d0 v_thrown v_taped v_at v_documents v_terms v_latest v_filed v_drafted v_place v_over v_clock v_askedTerms v_segments v_done v_postingsDone v_postingsAll v_why v_hits), ((d0 21), aI cs 16000 v_file), ((d0 15), aI cs 2560 v_letter), ((d0 3), aI cs 8 v_word), ((d0 11), aI cs 5 v_bits), ((d0 13), aI cs 5 v_size), ((d0 12), aI cs 5 v_codec), ((d0 27), aI cs 40 v_gap), ((d0 16), aI cs 12800 v_impact)] := by
  intro n
  induction n with
  | zero =>
    intro v_place v_over v_letter v_word v_gap v_impact l1 l2 l4 l5 l6 h
    exact False.elim h
  | succ n ih =>
    intro v_place v_over v_letter v_word v_gap v_impact l1 l2 l4 l5 l6 h hK_339
    rw [L_X9_readsTerm_165] at h
    refine a_iload C (pc := 165) 5 dX9_readsTerm_165 rfl ?_
    refine a_iload C (pc := 167) 3 dX9_readsTerm_167 rfl ?_
    refine a_icmp_ge C (pc := 169) 339 dX9_readsTerm_169 (by decide) (fun hc => ?_) (fun hc => ?_)
    · have h := h.1 hc
      refine a_lv (lv1 := [(5, .int l5)]) [4] rfl ?_
      exact hK_339 v_place v_over v_letter v_word v_gap v_impact l5 h
    · have h := h.2 hc
      refine a_aload_n C (pc := 172) 0 dX9_readsTerm_172 rfl rfl ?_
      refine a_callV C (pc := 173) (av := []) (wr := [((d0 15), aI cs 2560 v_letter), ((d0 3), aI cs 8 v_word), ((d0 11), aI cs 5 v_bits), ((d0 13), aI cs 5 v_size), ((d0 12), aI cs 5 v_codec), ((d0 27), aI cs 40 v_gap), ((d0 16), aI cs 12800 v_impact)]) (m_X9_take Lx Dx cs h0 d0 v_thrown v_taped v_at v_documents v_terms v_latest v_filed v_drafted v_place v_over v_clock v_askedTerms v_segments v_done v_postingsDone v_postingsAll v_why v_hits v_file _ h) [0, 1] [2, 3, 4, 5, 6, 7, 8] rfl rfl (by decide) (by decide) (by decide) wM_X9_229 wb_X9_take hy_X9_take (q0 := 0) rfl rfl rfl ⟨Nat.le_of_ble_eq_true rfl, Nat.le_of_ble_eq_true rfl⟩ (Nat.le_of_ble_eq_true rfl) hkm hnm rfl dX9_readsTerm_173 (fun v w1 hw => ?_) [] rfl (fun _ _ h => h.elim)
      obtain ⟨r_104, v_place_105, v_over_106, rfl, rfl, h⟩ := hw
      refine a_ws (st1 := [.int r_104]) (ws1 := [(h0, oX9 d0 v_thrown v_taped v_at v_documents v_terms v_latest v_filed v_drafted v_place_105 v_over_106 v_clock v_askedTerms v_segments v_done v_postingsDone v_postingsAll v_why v_hits), ((d0 21), aI cs 16000 v_file), ((d0 15), aI cs 2560 v_letter), ((d0 3), aI cs 8 v_word), ((d0 11), aI cs 5 v_bits), ((d0 13), aI cs 5 v_size), ((d0 12), aI cs 5 v_codec), ((d0 27), aI cs 40 v_gap), ((d0 16), aI cs 12800 v_impact)]) k n9 176 [7, 8, 0, 1, 2, 3, 4, 5, 6] rfl rfl rfl rfl (by decide) rfl ?_
      refine a_istore C (pc := 176) (lv1 := [(0, .ref h0), (1, .int l1), (2, .int l2), (4, .int l4), (5, .int l5), (6, .int l6), (7, .int r_104)]) [1, 2, 3, 4, 5, 6, 0] dX9_readsTerm_176 (by decide) rfl ?_
      refine a_aload_n C (pc := 178) 0 dX9_readsTerm_178 rfl rfl ?_
      refine a_callV C (pc := 179) (av := []) (wr := [((d0 15), aI cs 2560 v_letter), ((d0 3), aI cs 8 v_word), ((d0 11), aI cs 5 v_bits), ((d0 13), aI cs 5 v_size), ((d0 12), aI cs 5 v_codec), ((d0 27), aI cs 40 v_gap), ((d0 16), aI cs 12800 v_impact)]) (m_X9_take Lx Dx cs h0 d0 v_thrown v_taped v_at v_documents v_terms v_latest v_filed v_drafted v_place_105 v_over_106 v_clock v_askedTerms v_segments v_done v_postingsDone v_postingsAll v_why v_hits v_file _ h) [0, 1] [2, 3, 4, 5, 6, 7, 8] rfl rfl (by decide) (by decide) (by decide) wM_X9_229 wb_X9_take hy_X9_take (q0 := 0) rfl rfl rfl ⟨Nat.le_of_ble_eq_true rfl, Nat.le_of_ble_eq_true rfl⟩ (Nat.le_of_ble_eq_true rfl) hkm hnm rfl dX9_readsTerm_179 (fun v w1 hw => ?_) [] rfl (fun _ _ h => h.elim)
      obtain ⟨r_107, v_place_108, v_over_109, rfl, rfl, h⟩ := hw
      refine a_ws (st1 := [.int r_107]) (ws1 := [(h0, oX9 d0 v_thrown v_taped v_at v_documents v_terms v_latest v_filed v_drafted v_place_108 v_over_109 v_clock v_askedTerms v_segments v_done v_postingsDone v_postingsAll v_why v_hits), ((d0 21), aI cs 16000 v_file), ((d0 15), aI cs 2560 v_letter), ((d0 3), aI cs 8 v_word), ((d0 11), aI cs 5 v_bits), ((d0 13), aI cs 5 v_size), ((d0 12), aI cs 5 v_codec), ((d0 27), aI cs 40 v_gap), ((d0 16), aI cs 12800 v_impact)]) k n9 182 [7, 8, 0, 1, 2, 3, 4, 5, 6] rfl rfl rfl rfl (by decide) rfl ?_
      refine a_istore C (pc := 182) (lv1 := [(0, .ref h0), (1, .int l1), (2, .int l2), (4, .int l4), (5, .int l5), (6, .int l6), (7, .int r_104), (8, .int r_107)]) [1, 2, 3, 4, 5, 6, 7, 0] dX9_readsTerm_182 (by decide) rfl ?_
      refine a_aload_n C (pc := 184) 0 dX9_readsTerm_184 rfl rfl ?_
      refine a_get C (pc := 185) 0 26 inW_X9 rfl rfl (Nat.le_of_ble_eq_true rfl) wF_X9_225 rfl rfl dX9_readsTerm_185 ?_
      refine a_if_ne C (pc := 188) 226 dX9_readsTerm_188 (by decide) (fun hc => ?_) (fun hc => ?_)
      · have h := h.1 hc
        refine a_iconst C (pc := 226) dX9_readsTerm_226 ic_m1 ?_
        exact a_ireturn C (pc := 227) rfl dX9_readsTerm_227 hkm hnm ⟨_, _, _, _, _, _, _, rfl, rfl, h⟩
      · have h := h.2 hc
        refine a_iload C (pc := 191) 6 dX9_readsTerm_191 rfl ?_
        refine a_if_eq C (pc := 193) 226 dX9_readsTerm_193 (by decide) (fun hc => ?_) (fun hc => ?_)
        · have h := h.1 hc
          refine a_iconst C (pc := 226) dX9_readsTerm_226 ic_m1 ?_
          exact a_ireturn C (pc := 227) rfl dX9_readsTerm_227 hkm hnm ⟨_, _, _, _, _, _, _, rfl, rfl, h⟩
        · have h := h.2 hc
          refine a_iload C (pc := 196) 6 dX9_readsTerm_196 rfl ?_
          refine a_iconst C (pc := 198) dX9_readsTerm_198 ic_1 ?_
          refine a_aload_n C (pc := 199) 0 dX9_readsTerm_199 rfl rfl ?_
          refine a_get C (pc := 200) 0 11 inW_X9 rfl rfl (Nat.le_of_ble_eq_true rfl) wF_X9_28 rfl rfl dX9_readsTerm_200 ?_
          refine a_iload_n C (pc := 203) 1 dX9_readsTerm_203 rfl rfl ?_
          refine a_iald C (pc := 204) 4 rfl h.1 dX9_readsTerm_204 ?_
          replace h := h.2
          refine a_ishl C (pc := 205) dX9_readsTerm_205 ?_
          refine a_icmp_ge C (pc := 206) 226 dX9_readsTerm_206 (by decide) (fun hc => ?_) (fun hc => ?_)
          · have h := h.1 hc
            refine a_iconst C (pc := 226) dX9_readsTerm_226 ic_m1 ?_
            exact a_ireturn C (pc := 227) rfl dX9_readsTerm_227 hkm hnm ⟨_, _, _, _, _, _, _, rfl, rfl, h⟩
          · have h := h.2 hc
            refine a_iload C (pc := 209) 7 dX9_readsTerm_209 rfl ?_
            refine a_i2l C (pc := 211) dX9_readsTerm_211 ?_
            refine a_lconst C (pc := 212) (v := 1) dX9_readsTerm_212 rfl ?_
            refine a_aload_n C (pc := 213) 0 dX9_readsTerm_213 rfl rfl ?_
            refine a_get C (pc := 214) 0 13 inW_X9 rfl rfl (Nat.le_of_ble_eq_true rfl) wF_X9_34 rfl rfl dX9_readsTerm_214 ?_
            refine a_iload_n C (pc := 217) 1 dX9_readsTerm_217 rfl rfl ?_
            refine a_iald C (pc := 218) 5 rfl h.1 dX9_readsTerm_218 ?_
            replace h := h.2
            refine a_i2l C (pc := 219) dX9_readsTerm_219 ?_
            refine a_callS C (pc := 220) (av := [.long ((r_107 : Int32).toInt64), .long 1, .long (((v_size (l1 : Int32).toNatClampNeg) : Int32).toInt64)]) (wr := [(h0, oX9 d0 v_thrown v_taped v_at v_documents v_terms v_latest v_filed v_drafted v_place_108 v_over_109 v_clock v_askedTerms v_segments v_done v_postingsDone v_postingsAll v_why v_hits), ((d0 21), aI cs 16000 v_file), ((d0 15), aI cs 2560 v_letter), ((d0 3), aI cs 8 v_word), ((d0 11), aI cs 5 v_bits), ((d0 13), aI cs 5 v_size), ((d0 12), aI cs 5 v_codec), ((d0 27), aI cs 40 v_gap), ((d0 16), aI cs 12800 v_impact)]) (m_X9_within Lx Dx cs ((r_107 : Int32).toInt64) 1 (((v_size (l1 : Int32).toNatClampNeg) : Int32).toInt64) _ h) [] [0, 1, 2, 3, 4, 5, 6, 7, 8] rfl rfl (by decide) (by decide) (by decide) wM_X9_89 wb_X9_within hy_X9_within rfl ⟨Nat.le_of_ble_eq_true rfl, Nat.le_of_ble_eq_true rfl⟩ (Nat.le_of_ble_eq_true rfl) hkm hnm rfl dX9_readsTerm_220 (fun v w1 hw => ?_) [] rfl (fun _ _ h => h.elim)
            obtain ⟨r_110, rfl, rfl, h⟩ := hw
            refine a_ws (st1 := [.int r_110]) (ws1 := [(h0, oX9 d0 v_thrown v_taped v_at v_documents v_terms v_latest v_filed v_drafted v_place_108 v_over_109 v_clock v_askedTerms v_segments v_done v_postingsDone v_postingsAll v_why v_hits), ((d0 21), aI cs 16000 v_file), ((d0 15), aI cs 2560 v_letter), ((d0 3), aI cs 8 v_word), ((d0 11), aI cs 5 v_bits), ((d0 13), aI cs 5 v_size), ((d0 12), aI cs 5 v_codec), ((d0 27), aI cs 40 v_gap), ((d0 16), aI cs 12800 v_impact)]) k n9 223 [0, 1, 2, 3, 4, 5, 6, 7, 8] rfl rfl rfl rfl (by decide) rfl ?_
            refine a_if_ne C (pc := 223) 228 dX9_readsTerm_223 (by decide) (fun hc => ?_) (fun hc => ?_)
            · have h := h.1 hc
              refine a_aload_n C (pc := 228) 0 dX9_readsTerm_228 rfl rfl ?_
              refine a_aload_n C (pc := 229) 0 dX9_readsTerm_229 rfl rfl ?_
              refine a_get C (pc := 230) 0 12 inW_X9 rfl rfl (Nat.le_of_ble_eq_true rfl) wF_X9_31 rfl rfl dX9_readsTerm_230 ?_
              refine a_iload_n C (pc := 233) 1 dX9_readsTerm_233 rfl rfl ?_
              refine a_iald C (pc := 234) 6 rfl h.1 dX9_readsTerm_234 ?_
              replace h := h.2
              refine a_iload C (pc := 235) 7 dX9_readsTerm_235 rfl ?_
              refine a_callV C (pc := 237) (av := [.int (v_codec (l1 : Int32).toNatClampNeg), .int r_107]) (wr := [((d0 15), aI cs 2560 v_letter), ((d0 3), aI cs 8 v_word), ((d0 11), aI cs 5 v_bits), ((d0 13), aI cs 5 v_size), ((d0 12), aI cs 5 v_codec), ((d0 16), aI cs 12800 v_impact)]) (m_X9_takeGaps Lx Dx cs h0 d0 v_thrown v_taped v_at v_documents v_terms v_latest v_filed v_drafted v_place_108 v_over_109 v_clock v_askedTerms v_segments v_done v_postingsDone v_postingsAll v_why v_hits v_file v_gap (v_codec (l1 : Int32).toNatClampNeg) r_107 _ h) [0, 1, 7] [2, 3, 4, 5, 6, 8] rfl rfl (by decide) (by decide) (by decide) wM_X9_250 wb_X9_takeGaps hy_X9_takeGaps (q0 := 0) rfl rfl rfl ⟨Nat.le_of_ble_eq_true rfl, Nat.le_of_ble_eq_true rfl⟩ (Nat.le_of_ble_eq_true rfl) hkm hnm rfl dX9_readsTerm_237 (fun v w1 hw => ?_) [] rfl (fun _ _ h => h.elim)
              obtain ⟨v_place_111, v_over_112, v_gap_113, rfl, rfl, h⟩ := hw
              refine a_ws (st1 := []) (ws1 := [(h0, oX9 d0 v_thrown v_taped v_at v_documents v_terms v_latest v_filed v_drafted v_place_111 v_over_112 v_clock v_askedTerms v_segments v_done v_postingsDone v_postingsAll v_why v_hits), ((d0 21), aI cs 16000 v_file), ((d0 15), aI cs 2560 v_letter), ((d0 3), aI cs 8 v_word), ((d0 11), aI cs 5 v_bits), ((d0 13), aI cs 5 v_size), ((d0 12), aI cs 5 v_codec), ((d0 27), aI cs 40 v_gap_113), ((d0 16), aI cs 12800 v_impact)]) k n9 240 [6, 7, 0, 1, 2, 3, 4, 8, 5] rfl rfl rfl rfl (by decide) rfl ?_
              refine a_aload_n C (pc := 240) 0 dX9_readsTerm_240 rfl rfl ?_
              refine a_get C (pc := 241) 0 26 inW_X9 rfl rfl (Nat.le_of_ble_eq_true rfl) wF_X9_225 rfl rfl dX9_readsTerm_241 ?_
              refine a_if_eq C (pc := 244) 249 dX9_readsTerm_244 (by decide) (fun hc => ?_) (fun hc => ?_)
              · have h := h.1 hc
                refine a_iconst C (pc := 249) dX9_readsTerm_249 ic_m1 ?_
                refine a_istore C (pc := 250) (lv1 := [(0, .ref h0), (1, .int l1), (2, .int l2), (4, .int l4), (5, .int l5), (6, .int l6), (7, .int r_104), (8, .int r_107), (9, .int (-1))]) [1, 2, 3, 4, 5, 6, 7, 8, 0] dX9_readsTerm_250 (by decide) rfl ?_
                refine a_iconst C (pc := 252) dX9_readsTerm_252 ic_0 ?_
                refine a_istore C (pc := 253) (lv1 := [(0, .ref h0), (1, .int l1), (2, .int l2), (4, .int l4), (5, .int l5), (6, .int l6), (7, .int r_104), (8, .int r_107), (9, .int (-1)), (10, .int 0)]) [1, 2, 3, 4, 5, 6, 7, 8, 9, 0] dX9_readsTerm_253 (by decide) rfl ?_
                obtain ⟨n0, h⟩ := h
                refine w_X9_readsTerm_255 C hkm hnm n0 v_place_111 v_over_112 v_letter v_word v_gap_113 v_impact l1 l2 l4 l5 l6 r_104 r_107 (-1) 0 h ?_
                intro v_place_128 v_over_129 v_letter_130 v_word_131 v_gap_132 v_impact_133 l1_134 l2_135 l4_136 l5_137 l6_138 l8_139 h
                refine a_iload C (pc := 326) 4 dX9_readsTerm_326 rfl ?_
                refine a_iload C (pc := 328) 6 dX9_readsTerm_328 rfl ?_
                refine a_iadd C (pc := 330) dX9_readsTerm_330 ?_
                refine a_istore C (pc := 331) (lv1 := [(0, .ref h0), (1, .int l1_134), (2, .int l2_135), (4, .int l4_136), (5, .int (l5_137 + l8_139)), (6, .int l6_138), (8, .int l8_139)]) [1, 2, 3, 4, 0, 5, 6] dX9_readsTerm_331 (by decide) rfl ?_
                refine a_iinc C (pc := 333) (lv1 := [(0, .ref h0), (1, .int l1_134), (2, .int l2_135), (4, .int l4_136), (5, .int (l5_137 + l8_139)), (6, .int (l6_138 + 1)), (8, .int l8_139)]) 5 [1, 2, 3, 4, 5, 0, 6] dX9_readsTerm_333 rfl (congrArg (fun z => l6_138 + z) ic_1) (by decide) rfl ?_
                refine a_goto C (pc := 336) 165 dX9_readsTerm_336 (by decide) ?_
                refine a_lv (lv1 := [(0, .ref h0), (1, .int l1_134), (2, .int l2_135), (4, .int l4_136), (5, .int (l5_137 + l8_139)), (6, .int (l6_138 + 1))]) [0, 1, 2, 3, 4, 5] rfl ?_
                exact ih v_place_128 v_over_129 v_letter_130 v_word_131 v_gap_132 v_impact_133 l1_134 l2_135 l4_136 (l5_137 + l8_139) (l6_138 + 1) h hK_339
              · have h := h.2 hc
                refine a_iconst C (pc := 247) dX9_readsTerm_247 ic_m1 ?_
                exact a_ireturn C (pc := 248) rfl dX9_readsTerm_248 hkm hnm ⟨_, _, _, _, _, _, _, rfl, rfl, h⟩
            · have h := h.2 hc
              refine a_iconst C (pc := 226) dX9_readsTerm_226 ic_m1 ?_
              exact a_ireturn C (pc := 227) rfl dX9_readsTerm_227 hkm hnm ⟨_, _, _, _, _, _, _, rfl, rfl, h⟩
set_option maxRecDepth 100000 in
set_option maxHeartbeats 4000000 in
theorem w_X9_readsTerm_139 {Γ : XG} {Lx : Launch} {Dx : va_G} {cs : Nat → ClassId} {h0 : Nat} {d0 : Nat → Nat} {v_thrown : Int32} {v_taped : Int32} {v_at : Int32} {v_documents : Int32} {v_terms : Int32} {v_latest : Int32} {v_filed : Int32} {v_drafted : Int32} {v_clock : Int64} {v_askedTerms : Int32} {v_segments : Int32} {v_done : Int32} {v_postingsDone : Int32} {v_postingsAll : Int32} {v_why : Int32} {v_hits : Int32} {v_file : Nat → Int32} {v_bits : Nat → Int32} {v_size : Nat → Int32} {v_codec : Nat → Int32} {Φ : Int32 → Int32 → Int32 → (Nat → Int32) → (Nat → Int32) → (Nat → Int32) → (Nat → Int32) → Prop} {k n9 : Nat} (C : CX Γ Lx Dx cs cX9_readsTerm RX9 "readsTerm" 11 (some .int) 3 73 0 0 (qEC cs 0 0 [] (R_X9_readsTerm cs h0 d0 v_thrown v_taped v_at v_documents v_terms v_latest v_filed v_drafted v_clock v_askedTerms v_segments v_done v_postingsDone v_postingsAll v_why v_hits v_file v_bits v_size v_codec Φ) (fun _ _ => False))) (hkm : k ≤ 0) (hnm : n9 ≤ 0) (v_place : Int32) (v_over : Int32) (v_letter : Nat → Int32) (v_word : Nat → Int32) (v_gap : Nat → Int32) (v_impact : Nat → Int32) (l1 : Int32) (l2 : Int32) (h : J_X9_readsTerm_139 v_filed v_place v_over v_file v_letter v_word v_bits v_size v_codec v_gap v_impact l1 l2 Φ) : AW Γ k n9 139 [(0, .ref h0), (1, .int l1), (2, .int l2)] [] [(h0, oX9 d0 v_thrown v_taped v_at v_documents v_terms v_latest v_filed v_drafted v_place v_over v_clock v_askedTerms v_segments v_done v_postingsDone v_postingsAll v_why v_hits), ((d0 21), aI cs 16000 v_file), ((d0 15), aI cs 2560 v_letter), ((d0 3), aI cs 8 v_word), ((d0 11), aI cs 5 v_bits), ((d0 13), aI cs 5 v_size), ((d0 12), aI cs 5 v_codec), ((d0 27), aI cs 40 v_gap), ((d0 16), aI cs 12800 v_impact)] := by
  unfold J_X9_readsTerm_139 at h
  refine a_aload_n C (pc := 139) 0 dX9_readsTerm_139 rfl rfl ?_
  refine a_callV C (pc := 140) (av := []) (wr := [((d0 15), aI cs 2560 v_letter), ((d0 3), aI cs 8 v_word), ((d0 11), aI cs 5 v_bits), ((d0 13), aI cs 5 v_size), ((d0 12), aI cs 5 v_codec), ((d0 27), aI cs 40 v_gap), ((d0 16), aI cs 12800 v_impact)]) (m_X9_take Lx Dx cs h0 d0 v_thrown v_taped v_at v_documents v_terms v_latest v_filed v_drafted v_place v_over v_clock v_askedTerms v_segments v_done v_postingsDone v_postingsAll v_why v_hits v_file _ h) [0, 1] [2, 3, 4, 5, 6, 7, 8] rfl rfl (by decide) (by decide) (by decide) wM_X9_229 wb_X9_take hy_X9_take (q0 := 0) rfl rfl rfl ⟨Nat.le_of_ble_eq_true rfl, Nat.le_of_ble_eq_true rfl⟩ (Nat.le_of_ble_eq_true rfl) hkm hnm rfl dX9_readsTerm_140 (fun v w1 hw => ?_) [] rfl (fun _ _ h => h.elim)
  obtain ⟨r_101, v_place_102, v_over_103, rfl, rfl, h⟩ := hw
  refine a_ws (st1 := [.int r_101]) (ws1 := [(h0, oX9 d0 v_thrown v_taped v_at v_documents v_terms v_latest v_filed v_drafted v_place_102 v_over_103 v_clock v_askedTerms v_segments v_done v_postingsDone v_postingsAll v_why v_hits), ((d0 21), aI cs 16000 v_file), ((d0 15), aI cs 2560 v_letter), ((d0 3), aI cs 8 v_word), ((d0 11), aI cs 5 v_bits), ((d0 13), aI cs 5 v_size), ((d0 12), aI cs 5 v_codec), ((d0 27), aI cs 40 v_gap), ((d0 16), aI cs 12800 v_impact)]) k n9 143 [7, 8, 0, 1, 2, 3, 4, 5, 6] rfl rfl rfl rfl (by decide) rfl ?_
  refine a_istore C (pc := 143) (lv1 := [(0, .ref h0), (1, .int l1), (2, .int l2), (4, .int r_101)]) [1, 2, 3, 0] dX9_readsTerm_143 (by decide) rfl ?_
  refine a_iconst C (pc := 145) dX9_readsTerm_145 ic_0 ?_
  refine a_istore C (pc := 146) (lv1 := [(0, .ref h0), (1, .int l1), (2, .int l2), (4, .int r_101), (5, .int 0)]) [1, 2, 3, 4, 0] dX9_readsTerm_146 (by decide) rfl ?_
  refine a_aload_n C (pc := 148) 0 dX9_readsTerm_148 rfl rfl ?_
  refine a_get C (pc := 149) 0 26 inW_X9 rfl rfl (Nat.le_of_ble_eq_true rfl) wF_X9_225 rfl rfl dX9_readsTerm_149 ?_
  refine a_if_ne C (pc := 152) 160 dX9_readsTerm_152 (by decide) (fun hc => ?_) (fun hc => ?_)
  · have h := h.1 hc
    refine a_iconst C (pc := 160) dX9_readsTerm_160 ic_m1 ?_
    exact a_ireturn C (pc := 161) rfl dX9_readsTerm_161 hkm hnm ⟨_, _, _, _, _, _, _, rfl, rfl, h⟩
  · have h := h.2 hc
    refine a_iload C (pc := 155) 3 dX9_readsTerm_155 rfl ?_
    refine a_if_ne C (pc := 157) 162 dX9_readsTerm_157 (by decide) (fun hc => ?_) (fun hc => ?_)
    · have h := h.1 hc
      refine a_iconst C (pc := 162) dX9_readsTerm_162 ic_0 ?_
      refine a_istore C (pc := 163) (lv1 := [(0, .ref h0), (1, .int l1), (2, .int l2), (4, .int r_101), (5, .int 0), (6, .int 0)]) [1, 2, 3, 4, 5, 0] dX9_readsTerm_163 (by decide) rfl ?_
      obtain ⟨n0, h⟩ := h
      refine w_X9_readsTerm_165 C hkm hnm n0 v_place_102 v_over_103 v_letter v_word v_gap v_impact l1 l2 r_101 0 0 h ?_
      intro v_place_147 v_over_148 v_letter_149 v_word_150 v_gap_151 v_impact_152 l5_153 h
      refine a_iload C (pc := 339) 0 dX9_readsTerm_339 rfl ?_
      exact a_ireturn C (pc := 341) rfl dX9_readsTerm_341 hkm hnm ⟨_, _, _, _, _, _, _, rfl, rfl, h⟩
    · have h := h.2 hc
      refine a_iconst C (pc := 160) dX9_readsTerm_160 ic_m1 ?_
      exact a_ireturn C (pc := 161) rfl dX9_readsTerm_161 hkm hnm ⟨_, _, _, _, _, _, _, rfl, rfl, h⟩
set_option maxRecDepth 100000 in
set_option maxHeartbeats 4000000 in
theorem m_X9_readsTerm (Lx : Launch) (Dx : va_G) (cs : Nat → ClassId) (h0 : Nat) (d0 : Nat → Nat) (v_thrown : Int32) (v_taped : Int32) (v_at : Int32) (v_documents : Int32) (v_terms : Int32) (v_latest : Int32) (v_filed : Int32) (v_drafted : Int32) (v_place : Int32) (v_over : Int32) (v_clock : Int64) (v_askedTerms : Int32) (v_segments : Int32) (v_done : Int32) (v_postingsDone : Int32) (v_postingsAll : Int32) (v_why : Int32) (v_hits : Int32) (v_file : Nat → Int32) (v_letter : Nat → Int32) (v_word : Nat → Int32) (v_bits : Nat → Int32) (v_size : Nat → Int32) (v_codec : Nat → Int32) (v_gap : Nat → Int32) (v_impact : Nat → Int32) (l1 : Int32) (l2 : Int32) (Φ : Int32 → Int32 → Int32 → (Nat → Int32) → (Nat → Int32) → (Nat → Int32) → (Nat → Int32) → Prop) (h : P_X9_readsTerm v_filed v_place v_over v_file v_letter v_word v_bits v_size v_codec v_gap v_impact l1 l2 Φ) : XMet Lx Dx cs yX9_readsTerm cX9_readsTerm 11 (some .int) 3 73 0 0 [.ref h0, .int l1, .int l2] [(h0, oX9 d0 v_thrown v_taped v_at v_documents v_terms v_latest v_filed v_drafted v_place v_over v_clock v_askedTerms v_segments v_done v_postingsDone v_postingsAll v_why v_hits), ((d0 21), aI cs 16000 v_file), ((d0 15), aI cs 2560 v_letter), ((d0 3), aI cs 8 v_word), ((d0 11), aI cs 5 v_bits), ((d0 13), aI cs 5 v_size), ((d0 12), aI cs 5 v_codec), ((d0 27), aI cs 40 v_gap), ((d0 16), aI cs 12800 v_impact)] (R_X9_readsTerm cs h0 d0 v_thrown v_taped v_at v_documents v_terms v_latest v_filed v_drafted v_clock v_askedTerms v_segments v_done v_postingsDone v_postingsAll v_why v_hits v_file v_bits v_size v_codec Φ) (fun _ _ => False) := by
  refine XMet.of (own := RX9) (nm := "readsTerm") (by decide) rfl rfl (Nat.le_of_ble_eq_true rfl) (fun Γ C => ?_)
  unfold P_X9_readsTerm at h
  refine a_aload_n C (pc := 0) 0 dX9_readsTerm_0 rfl rfl ?_
  refine a_callV C (pc := 1) (av := []) (wr := [((d0 15), aI cs 2560 v_letter), ((d0 3), aI cs 8 v_word), ((d0 11), aI cs 5 v_bits), ((d0 13), aI cs 5 v_size), ((d0 12), aI cs 5 v_codec), ((d0 27), aI cs 40 v_gap), ((d0 16), aI cs 12800 v_impact)]) (m_X9_take Lx Dx cs h0 d0 v_thrown v_taped v_at v_documents v_terms v_latest v_filed v_drafted v_place v_over v_clock v_askedTerms v_segments v_done v_postingsDone v_postingsAll v_why v_hits v_file _ h) [0, 1] [2, 3, 4, 5, 6, 7, 8] rfl rfl (by decide) (by decide) (by decide) wM_X9_229 wb_X9_take hy_X9_take (q0 := 0) rfl rfl rfl ⟨Nat.le_of_ble_eq_true rfl, Nat.le_of_ble_eq_true rfl⟩ (Nat.le_of_ble_eq_true rfl) (Nat.le_of_ble_eq_true rfl) (Nat.le_of_ble_eq_true rfl) rfl dX9_readsTerm_1 (fun v w1 hw => ?_) [] rfl (fun _ _ h => h.elim)
  obtain ⟨r_1, v_place_2, v_over_3, rfl, rfl, h⟩ := hw
  refine a_ws (st1 := [.int r_1]) (ws1 := [(h0, oX9 d0 v_thrown v_taped v_at v_documents v_terms v_latest v_filed v_drafted v_place_2 v_over_3 v_clock v_askedTerms v_segments v_done v_postingsDone v_postingsAll v_why v_hits), ((d0 21), aI cs 16000 v_file), ((d0 15), aI cs 2560 v_letter), ((d0 3), aI cs 8 v_word), ((d0 11), aI cs 5 v_bits), ((d0 13), aI cs 5 v_size), ((d0 12), aI cs 5 v_codec), ((d0 27), aI cs 40 v_gap), ((d0 16), aI cs 12800 v_impact)]) 0 0 4 [7, 8, 0, 1, 2, 3, 4, 5, 6] rfl rfl rfl rfl (by decide) rfl ?_
  refine a_istore_n C (pc := 4) (lv1 := [(0, .ref h0), (1, .int l1), (2, .int l2), (3, .int r_1)]) [1, 2, 3, 0] dX9_readsTerm_4 rfl (by decide) rfl ?_
  refine a_aload_n C (pc := 5) 0 dX9_readsTerm_5 rfl rfl ?_
  refine a_get C (pc := 6) 0 26 inW_X9 rfl rfl (Nat.le_of_ble_eq_true rfl) wF_X9_225 rfl rfl dX9_readsTerm_6 ?_
  refine a_if_ne C (pc := 9) 24 dX9_readsTerm_9 (by decide) (fun hc => ?_) (fun hc => ?_)
  · have h := h.1 hc
    refine a_iconst C (pc := 24) dX9_readsTerm_24 ic_m1 ?_
    exact a_ireturn C (pc := 25) rfl dX9_readsTerm_25 (Nat.le_of_ble_eq_true rfl) (Nat.le_of_ble_eq_true rfl) ⟨_, _, _, _, _, _, _, rfl, rfl, h⟩
  · have h := h.2 hc
    refine a_iload_n C (pc := 12) 3 dX9_readsTerm_12 rfl rfl ?_
    refine a_i2l C (pc := 13) dX9_readsTerm_13 ?_
    refine a_lconst C (pc := 14) (v := 1) dX9_readsTerm_14 rfl ?_
    refine a_ldc2 C (pc := 15) wC_X9_87 dX9_readsTerm_15 ?_
    refine a_callS C (pc := 18) (av := [.long ((r_1 : Int32).toInt64), .long 1, .long 8]) (wr := [(h0, oX9 d0 v_thrown v_taped v_at v_documents v_terms v_latest v_filed v_drafted v_place_2 v_over_3 v_clock v_askedTerms v_segments v_done v_postingsDone v_postingsAll v_why v_hits), ((d0 21), aI cs 16000 v_file), ((d0 15), aI cs 2560 v_letter), ((d0 3), aI cs 8 v_word), ((d0 11), aI cs 5 v_bits), ((d0 13), aI cs 5 v_size), ((d0 12), aI cs 5 v_codec), ((d0 27), aI cs 40 v_gap), ((d0 16), aI cs 12800 v_impact)]) (m_X9_within Lx Dx cs ((r_1 : Int32).toInt64) 1 8 _ h) [] [0, 1, 2, 3, 4, 5, 6, 7, 8] rfl rfl (by decide) (by decide) (by decide) wM_X9_89 wb_X9_within hy_X9_within rfl ⟨Nat.le_of_ble_eq_true rfl, Nat.le_of_ble_eq_true rfl⟩ (Nat.le_of_ble_eq_true rfl) (Nat.le_of_ble_eq_true rfl) (Nat.le_of_ble_eq_true rfl) rfl dX9_readsTerm_18 (fun v w1 hw => ?_) [] rfl (fun _ _ h => h.elim)
    obtain ⟨r_4, rfl, rfl, h⟩ := hw
    refine a_ws (st1 := [.int r_4]) (ws1 := [(h0, oX9 d0 v_thrown v_taped v_at v_documents v_terms v_latest v_filed v_drafted v_place_2 v_over_3 v_clock v_askedTerms v_segments v_done v_postingsDone v_postingsAll v_why v_hits), ((d0 21), aI cs 16000 v_file), ((d0 15), aI cs 2560 v_letter), ((d0 3), aI cs 8 v_word), ((d0 11), aI cs 5 v_bits), ((d0 13), aI cs 5 v_size), ((d0 12), aI cs 5 v_codec), ((d0 27), aI cs 40 v_gap), ((d0 16), aI cs 12800 v_impact)]) 0 0 21 [0, 1, 2, 3, 4, 5, 6, 7, 8] rfl rfl rfl rfl (by decide) rfl ?_
    refine a_if_ne C (pc := 21) 26 dX9_readsTerm_21 (by decide) (fun hc => ?_) (fun hc => ?_)
    · have h := h.1 hc
      refine a_iconst C (pc := 26) dX9_readsTerm_26 ic_0 ?_
      refine a_istore C (pc := 27) (lv1 := [(0, .ref h0), (1, .int l1), (2, .int l2), (3, .int r_1), (4, .int 0)]) [1, 2, 3, 4, 0] dX9_readsTerm_27 (by decide) rfl ?_
      obtain ⟨n0, h⟩ := h
      refine w_X9_readsTerm_29 C (Nat.le_of_ble_eq_true rfl) (Nat.le_of_ble_eq_true rfl) n0 v_place_2 v_over_3 v_letter v_word v_gap v_impact l1 l2 r_1 0 h ?_
      intro v_place_93 v_over_94 v_letter_95 v_word_96 v_gap_97 v_impact_98 l1_99 l2_100 h
      refine a_iload_n C (pc := 110) 2 dX9_readsTerm_110 rfl rfl ?_
      refine a_if_le C (pc := 111) 139 dX9_readsTerm_111 (by decide) (fun hc => ?_) (fun hc => ?_)
      · have h := h.1 hc
        exact w_X9_readsTerm_139 C (Nat.le_of_ble_eq_true rfl) (Nat.le_of_ble_eq_true rfl) v_place_93 v_over_94 v_letter_95 v_word_96 v_gap_97 v_impact_98 l1_99 l2_100 h
      · have h := h.2 hc
        refine a_aload_n C (pc := 114) 0 dX9_readsTerm_114 rfl rfl ?_
        refine a_aload_n C (pc := 115) 0 dX9_readsTerm_115 rfl rfl ?_
        refine a_get C (pc := 116) 0 15 inW_X9 rfl rfl (Nat.le_of_ble_eq_true rfl) wF_X9_40 rfl rfl dX9_readsTerm_116 ?_
        refine a_sipush C (pc := 119) dX9_readsTerm_119 sp_512 ?_
        refine a_iload_n C (pc := 122) 1 dX9_readsTerm_122 rfl rfl ?_
        refine a_imul C (pc := 123) dX9_readsTerm_123 ?_
        refine a_bipush C (pc := 124) dX9_readsTerm_124 bp_8 ?_
        refine a_iload_n C (pc := 126) 2 dX9_readsTerm_126 rfl rfl ?_
        refine a_iconst C (pc := 127) dX9_readsTerm_127 ic_1 ?_
        refine a_isub C (pc := 128) dX9_readsTerm_128 ?_
        refine a_imul C (pc := 129) dX9_readsTerm_129 ?_
        refine a_iadd C (pc := 130) dX9_readsTerm_130 ?_
        refine a_callV C (pc := 131) (av := [.ref (d0 15), .int ((512 * l1_99) + (8 * (l2_100 - 1)))]) (wr := [((d0 21), aI cs 16000 v_file), ((d0 11), aI cs 5 v_bits), ((d0 13), aI cs 5 v_size), ((d0 12), aI cs 5 v_codec), ((d0 27), aI cs 40 v_gap_97), ((d0 16), aI cs 12800 v_impact_98)]) (m_X9_compared Lx Dx cs 2560 h0 (d0 15) d0 v_thrown v_taped v_at v_documents v_terms v_latest v_filed v_drafted v_place_93 v_over_94 v_clock v_askedTerms v_segments v_done v_postingsDone v_postingsAll v_why v_hits v_word_96 v_letter_95 ((512 * l1_99) + (8 * (l2_100 - 1))) _ h) [0, 3, 2] [1, 4, 5, 6, 7, 8] rfl rfl (by decide) (by decide) (by decide) wM_X9_109 wb_X9_compared hy_X9_compared (q0 := 0) rfl rfl rfl ⟨Nat.le_of_ble_eq_true rfl, Nat.le_of_ble_eq_true rfl⟩ (Nat.le_of_ble_eq_true rfl) (Nat.le_of_ble_eq_true rfl) (Nat.le_of_ble_eq_true rfl) rfl dX9_readsTerm_131 (fun v w1 hw => ?_) [] rfl (fun _ _ h => h.elim)
        obtain ⟨r_154, rfl, rfl, h⟩ := hw
        refine a_ws (st1 := [.int r_154]) (ws1 := [(h0, oX9 d0 v_thrown v_taped v_at v_documents v_terms v_latest v_filed v_drafted v_place_93 v_over_94 v_clock v_askedTerms v_segments v_done v_postingsDone v_postingsAll v_why v_hits), ((d0 21), aI cs 16000 v_file), ((d0 15), aI cs 2560 v_letter_95), ((d0 3), aI cs 8 v_word_96), ((d0 11), aI cs 5 v_bits), ((d0 13), aI cs 5 v_size), ((d0 12), aI cs 5 v_codec), ((d0 27), aI cs 40 v_gap_97), ((d0 16), aI cs 12800 v_impact_98)]) 0 0 134 [6, 0, 8, 7, 1, 2, 3, 4, 5] rfl rfl rfl rfl (by decide) rfl ?_
        refine a_if_gt C (pc := 134) 139 dX9_readsTerm_134 (by decide) (fun hc => ?_) (fun hc => ?_)
        · have h := h.1 hc
          exact w_X9_readsTerm_139 C (Nat.le_of_ble_eq_true rfl) (Nat.le_of_ble_eq_true rfl) v_place_93 v_over_94 v_letter_95 v_word_96 v_gap_97 v_impact_98 l1_99 l2_100 h
        · have h := h.2 hc
          refine a_iconst C (pc := 137) dX9_readsTerm_137 ic_m1 ?_
          exact a_ireturn C (pc := 138) rfl dX9_readsTerm_138 (Nat.le_of_ble_eq_true rfl) (Nat.le_of_ble_eq_true rfl) ⟨_, _, _, _, _, _, _, rfl, rfl, h⟩
    · have h := h.2 hc
      refine a_iconst C (pc := 24) dX9_readsTerm_24 ic_m1 ?_
      exact a_ireturn C (pc := 25) rfl dX9_readsTerm_25 (Nat.le_of_ble_eq_true rfl) (Nat.le_of_ble_eq_true rfl) ⟨_, _, _, _, _, _, _, rfl, rfl, h⟩
set_option maxRecDepth 100000 in
set_option maxHeartbeats 4000000 in
theorem w_X9_reads_136 {Γ : XG} {Lx : Launch} {Dx : va_G} {cs : Nat → ClassId} {h0 : Nat} {d0 : Nat → Nat} {v_thrown : Int32} {v_taped : Int32} {v_at : Int32} {v_documents : Int32} {v_terms : Int32} {v_latest : Int32} {v_filed : Int32} {v_clock : Int64} {v_askedTerms : Int32} {v_segments : Int32} {v_done : Int32} {v_postingsDone : Int32} {v_postingsAll : Int32} {v_why : Int32} {v_hits : Int32} {v_file : Nat → Int32} {K_162 : Int32 → Int32 → Int32 → (Nat → Int32) → (Nat → Int32) → (Nat → Int32) → (Nat → Int32) → (Nat → Int32) → (Nat → Int32) → (Nat → Int32) → (Nat → Int32) → (Nat → Int32) → Int32 → Prop} {Φ : Int32 → Int32 → Int32 → Int32 → (Nat → Int32) → (Nat → Int32) → (Nat → Int32) → (Nat → Int32) → (Nat → Int32) → (Nat → Int32) → (Nat → Int32) → (Nat → Int32) → (Nat → Int32) → Prop} {k n9 : Nat} (C : CX Γ Lx Dx cs cX9_reads RX9 "reads" 5 (some .boolean) 4 103 0 0 (qEC cs 0 0 [] (R_X9_reads cs h0 d0 v_thrown v_taped v_at v_documents v_terms v_latest v_filed v_clock v_askedTerms v_segments v_done v_postingsDone v_postingsAll v_why v_hits v_file Φ) (fun _ _ => False))) (hkm : k ≤ 0) (hnm : n9 ≤ 0) : ∀ n : Nat, ∀ (v_drafted : Int32) (v_place : Int32) (v_over : Int32) (v_bits : Nat → Int32) (v_codec : Nat → Int32) (v_size : Nat → Int32) (v_words : Nat → Int32) (v_impact : Nat → Int32) (v_letter : Nat → Int32) (v_word : Nat → Int32) (v_gap : Nat → Int32) (v_draft : Nat → Int32) (l1 : Int32) (l2 : Int32), L_X9_reads_136 n v_filed v_drafted v_place v_over v_file v_bits v_codec v_size v_words v_impact v_letter v_word v_gap v_draft l1 l2 K_162 Φ → (∀ (v_drafted_22 : Int32) (v_place_23 : Int32) (v_over_24 : Int32) (v_bits_25 : Nat → Int32) (v_codec_26 : Nat → Int32) (v_size_27 : Nat → Int32) (v_words_28 : Nat → Int32) (v_impact_29 : Nat → Int32) (v_letter_30 : Nat → Int32) (v_word_31 : Nat → Int32) (v_gap_32 : Nat → Int32) (v_draft_33 : Nat → Int32) (l1_34 : Int32), K_162 v_drafted_22 v_place_23 v_over_24 v_bits_25 v_codec_26 v_size_27 v_words_28 v_impact_29 v_letter_30 v_word_31 v_gap_32 v_draft_33 l1_34 → AW Γ k n9 162 [(0, .ref h0), (1, .int l1_34)] [] [(h0, oX9 d0 v_thrown v_taped v_at v_documents v_terms v_latest v_filed v_drafted_22 v_place_23 v_over_24 v_clock v_askedTerms v_segments v_done v_postingsDone v_postingsAll v_why v_hits), ((d0 21), aI cs 16000 v_file), ((d0 11), aI cs 5 v_bits_25), ((d0 12), aI cs 5 v_codec_26), ((d0 13), aI cs 5 v_size_27), ((d0 14), aI cs 5 v_words_28), ((d0 16), aI cs 12800 v_impact_29), ((d0 15), aI cs 2560 v_letter_30), ((d0 3), aI cs 8 v_word_31), ((d0 27), aI cs 40 v_gap_32), ((d0 22), aI cs 16000 v_draft_33)]) → AW Γ k n9 136 [(0, .ref h0), (1, .int l1), (2, .int l2)] [] [(h0, oX9 d0 v_thrown v_taped v_at v_documents v_terms v_latest v_filed v_drafted v_place v_over v_clock v_askedTerms v_segments v_done v_postingsDone v_postingsAll v_why v_hits), ((d0 21), aI cs 16000 v_file), ((d0 11), aI cs 5 v_bits), ((d0 12), aI cs 5 v_codec), ((d0 13), aI cs 5 v_size), ((d0 14), aI cs 5 v_words), ((d0 16), aI cs 12800 v_impact), ((d0 15), aI cs 2560 v_letter), ((d0 3), aI cs 8 v_word), ((d0 27), aI cs 40 v_gap), ((d0 22), aI cs 16000 v_draft)] := by
  intro n
  induction n with
  | zero =>
    intro v_drafted v_place v_over v_bits v_codec v_size v_words v_impact v_letter v_word v_gap v_draft l1 l2 h
    exact False.elim h
  | succ n ih =>
    intro v_drafted v_place v_over v_bits v_codec v_size v_words v_impact v_letter v_word v_gap v_draft l1 l2 h hK_162
    rw [L_X9_reads_136] at h
    refine a_iload_n C (pc := 136) 2 dX9_reads_136 rfl rfl ?_
    refine a_sipush C (pc := 137) dX9_reads_137 sp_2560 ?_
    refine a_icmp_ge C (pc := 140) 162 dX9_reads_140 (by decide) (fun hc => ?_) (fun hc => ?_)
    · have h := h.1 hc
      refine a_lv (lv1 := [(0, .ref h0), (1, .int l1)]) [0, 1] rfl ?_
      exact hK_162 v_drafted v_place v_over v_bits v_codec v_size v_words v_impact v_letter v_word v_gap v_draft l1 h
    · have h := h.2 hc
      refine a_aload_n C (pc := 143) 0 dX9_reads_143 rfl rfl ?_
      refine a_get C (pc := 144) 0 16 inW_X9 rfl rfl (Nat.le_of_ble_eq_true rfl) wF_X9_43 rfl rfl dX9_reads_144 ?_
      refine a_sipush C (pc := 147) dX9_reads_147 sp_2560 ?_
      refine a_iload_n C (pc := 150) 1 dX9_reads_150 rfl rfl ?_
      refine a_imul C (pc := 151) dX9_reads_151 ?_
      refine a_iload_n C (pc := 152) 2 dX9_reads_152 rfl rfl ?_
      refine a_iadd C (pc := 153) dX9_reads_153 ?_
      refine a_iconst C (pc := 154) dX9_reads_154 ic_0 ?_
      refine a_iast C (pc := 155) (ws1 := [(h0, oX9 d0 v_thrown v_taped v_at v_documents v_terms v_latest v_filed v_drafted v_place v_over v_clock v_askedTerms v_segments v_done v_postingsDone v_postingsAll v_why v_hits), ((d0 21), aI cs 16000 v_file), ((d0 11), aI cs 5 v_bits), ((d0 12), aI cs 5 v_codec), ((d0 13), aI cs 5 v_size), ((d0 14), aI cs 5 v_words), ((d0 16), aI cs 12800 (upd v_impact ((2560 * l1) + l2 : Int32).toNatClampNeg 0)), ((d0 15), aI cs 2560 v_letter), ((d0 3), aI cs 8 v_word), ((d0 27), aI cs 40 v_gap), ((d0 22), aI cs 16000 v_draft)]) 6 rfl h.1 dX9_reads_155 rfl ?_
      replace h := h.2
      refine a_iinc C (pc := 156) (lv1 := [(0, .ref h0), (1, .int l1), (2, .int (l2 + 1))]) 2 [1, 2, 0] dX9_reads_156 rfl (congrArg (fun z => l2 + z) ic_1) (by decide) rfl ?_
      refine a_goto C (pc := 159) 136 dX9_reads_159 (by decide) ?_
      exact ih v_drafted v_place v_over v_bits v_codec v_size v_words (upd v_impact ((2560 * l1) + l2 : Int32).toNatClampNeg 0) v_letter v_word v_gap v_draft l1 (l2 + 1) h hK_162
set_option maxRecDepth 100000 in
set_option maxHeartbeats 4000000 in
theorem w_X9_reads_166 {Γ : XG} {Lx : Launch} {Dx : va_G} {cs : Nat → ClassId} {h0 : Nat} {d0 : Nat → Nat} {v_thrown : Int32} {v_taped : Int32} {v_at : Int32} {v_documents : Int32} {v_terms : Int32} {v_latest : Int32} {v_filed : Int32} {v_clock : Int64} {v_askedTerms : Int32} {v_segments : Int32} {v_done : Int32} {v_postingsDone : Int32} {v_postingsAll : Int32} {v_why : Int32} {v_hits : Int32} {v_file : Nat → Int32} {K_202 : Int32 → Int32 → Int32 → (Nat → Int32) → (Nat → Int32) → (Nat → Int32) → (Nat → Int32) → (Nat → Int32) → (Nat → Int32) → (Nat → Int32) → (Nat → Int32) → (Nat → Int32) → Int32 → Int32 → Prop} {Φ : Int32 → Int32 → Int32 → Int32 → (Nat → Int32) → (Nat → Int32) → (Nat → Int32) → (Nat → Int32) → (Nat → Int32) → (Nat → Int32) → (Nat → Int32) → (Nat → Int32) → (Nat → Int32) → Prop} {k n9 : Nat} (C : CX Γ Lx Dx cs cX9_reads RX9 "reads" 5 (some .boolean) 4 103 0 0 (qEC cs 0 0 [] (R_X9_reads cs h0 d0 v_thrown v_taped v_at v_documents v_terms v_latest v_filed v_clock v_askedTerms v_segments v_done v_postingsDone v_postingsAll v_why v_hits v_file Φ) (fun _ _ => False))) (hkm : k ≤ 0) (hnm : n9 ≤ 0) : ∀ n : Nat, ∀ (v_drafted : Int32) (v_place : Int32) (v_over : Int32) (v_bits : Nat → Int32) (v_codec : Nat → Int32) (v_size : Nat → Int32) (v_words : Nat → Int32) (v_impact : Nat → Int32) (v_letter : Nat → Int32) (v_word : Nat → Int32) (v_gap : Nat → Int32) (v_draft : Nat → Int32) (l1 : Int32) (l2 : Int32) (l3 : Int32), L_X9_reads_166 n v_filed v_drafted v_place v_over v_file v_bits v_codec v_size v_words v_impact v_letter v_word v_gap v_draft l1 l2 l3 K_202 Φ → (∀ (v_drafted_55 : Int32) (v_place_56 : Int32) (v_over_57 : Int32) (v_bits_58 : Nat → Int32) (v_codec_59 : Nat → Int32) (v_size_60 : Nat → Int32) (v_words_61 : Nat → Int32) (v_impact_62 : Nat → Int32) (v_letter_63 : Nat → Int32) (v_word_64 : Nat → Int32) (v_gap_65 : Nat → Int32) (v_draft_66 : Nat → Int32) (l1_67 : Int32) (l2_68 : Int32), K_202 v_drafted_55 v_place_56 v_over_57 v_bits_58 v_codec_59 v_size_60 v_words_61 v_impact_62 v_letter_63 v_word_64 v_gap_65 v_draft_66 l1_67 l2_68 → AW Γ k n9 202 [(0, .ref h0), (1, .int l1_67), (2, .int l2_68)] [] [(h0, oX9 d0 v_thrown v_taped v_at v_documents v_terms v_latest v_filed v_drafted_55 v_place_56 v_over_57 v_clock v_askedTerms v_segments v_done v_postingsDone v_postingsAll v_why v_hits), ((d0 21), aI cs 16000 v_file), ((d0 11), aI cs 5 v_bits_58), ((d0 12), aI cs 5 v_codec_59), ((d0 13), aI cs 5 v_size_60), ((d0 14), aI cs 5 v_words_61), ((d0 16), aI cs 12800 v_impact_62), ((d0 15), aI cs 2560 v_letter_63), ((d0 3), aI cs 8 v_word_64), ((d0 27), aI cs 40 v_gap_65), ((d0 22), aI cs 16000 v_draft_66)]) → AW Γ k n9 166 [(0, .ref h0), (1, .int l1), (2, .int l2), (3, .int l3)] [] [(h0, oX9 d0 v_thrown v_taped v_at v_documents v_terms v_latest v_filed v_drafted v_place v_over v_clock v_askedTerms v_segments v_done v_postingsDone v_postingsAll v_why v_hits), ((d0 21), aI cs 16000 v_file), ((d0 11), aI cs 5 v_bits), ((d0 12), aI cs 5 v_codec), ((d0 13), aI cs 5 v_size), ((d0 14), aI cs 5 v_words), ((d0 16), aI cs 12800 v_impact), ((d0 15), aI cs 2560 v_letter), ((d0 3), aI cs 8 v_word), ((d0 27), aI cs 40 v_gap), ((d0 22), aI cs 16000 v_draft)] := by
  intro n
  induction n with
  | zero =>
    intro v_drafted v_place v_over v_bits v_codec v_size v_words v_impact v_letter v_word v_gap v_draft l1 l2 l3 h
    exact False.elim h
  | succ n ih =>
    intro v_drafted v_place v_over v_bits v_codec v_size v_words v_impact v_letter v_word v_gap v_draft l1 l2 l3 h hK_202
    rw [L_X9_reads_166] at h
    refine a_iload_n C (pc := 166) 3 dX9_reads_166 rfl rfl ?_
    refine a_aload_n C (pc := 167) 0 dX9_reads_167 rfl rfl ?_
    refine a_get C (pc := 168) 0 14 inW_X9 rfl rfl (Nat.le_of_ble_eq_true rfl) wF_X9_37 rfl rfl dX9_reads_168 ?_
    refine a_iload_n C (pc := 171) 1 dX9_reads_171 rfl rfl ?_
    refine a_iald C (pc := 172) 5 rfl h.1 dX9_reads_172 ?_
    replace h := h.2
    refine a_icmp_ge C (pc := 173) 202 dX9_reads_173 (by decide) (fun hc => ?_) (fun hc => ?_)
    · have h := h.1 hc
      refine a_lv (lv1 := [(0, .ref h0), (1, .int l1), (2, .int l2)]) [0, 1, 2] rfl ?_
      exact hK_202 v_drafted v_place v_over v_bits v_codec v_size v_words v_impact v_letter v_word v_gap v_draft l1 l2 h
    · have h := h.2 hc
      refine a_aload_n C (pc := 176) 0 dX9_reads_176 rfl rfl ?_
      refine a_iload_n C (pc := 177) 1 dX9_reads_177 rfl rfl ?_
      refine a_iload_n C (pc := 178) 3 dX9_reads_178 rfl rfl ?_
      refine a_callV C (pc := 179) (av := [.int l1, .int l3]) (wr := [((d0 14), aI cs 5 v_words), ((d0 22), aI cs 16000 v_draft)]) (m_X9_readsTerm Lx Dx cs h0 d0 v_thrown v_taped v_at v_documents v_terms v_latest v_filed v_drafted v_place v_over v_clock v_askedTerms v_segments v_done v_postingsDone v_postingsAll v_why v_hits v_file v_letter v_word v_bits v_size v_codec v_gap v_impact l1 l3 _ h) [0, 1, 7, 8, 2, 4, 3, 9, 6] [5, 10] rfl rfl (by decide) (by decide) (by decide) wM_X9_243 wb_X9_readsTerm hy_X9_readsTerm (q0 := 0) rfl rfl rfl ⟨Nat.le_of_ble_eq_true rfl, Nat.le_of_ble_eq_true rfl⟩ (Nat.le_of_ble_eq_true rfl) hkm hnm rfl dX9_reads_179 (fun v w1 hw => ?_) [] rfl (fun _ _ h => h.elim)
      obtain ⟨r_48, v_place_49, v_over_50, v_letter_51, v_word_52, v_gap_53, v_impact_54, rfl, rfl, h⟩ := hw
      refine a_ws (st1 := [.int r_48]) (ws1 := [(h0, oX9 d0 v_thrown v_taped v_at v_documents v_terms v_latest v_filed v_drafted v_place_49 v_over_50 v_clock v_askedTerms v_segments v_done v_postingsDone v_postingsAll v_why v_hits), ((d0 21), aI cs 16000 v_file), ((d0 11), aI cs 5 v_bits), ((d0 12), aI cs 5 v_codec), ((d0 13), aI cs 5 v_size), ((d0 14), aI cs 5 v_words), ((d0 16), aI cs 12800 v_impact_54), ((d0 15), aI cs 2560 v_letter_51), ((d0 3), aI cs 8 v_word_52), ((d0 27), aI cs 40 v_gap_53), ((d0 22), aI cs 16000 v_draft)]) k n9 182 [2, 3, 6, 8, 7, 0, 10, 4, 5, 9, 1] rfl rfl rfl rfl (by decide) rfl ?_
      refine a_istore C (pc := 182) (lv1 := [(0, .ref h0), (1, .int l1), (2, .int l2), (3, .int l3), (4, .int r_48)]) [1, 2, 3, 4, 0] dX9_reads_182 (by decide) rfl ?_
      refine a_iload C (pc := 184) 4 dX9_reads_184 rfl ?_
      refine a_if_ge C (pc := 186) 191 dX9_reads_186 (by decide) (fun hc => ?_) (fun hc => ?_)
      · have h := h.1 hc
        refine a_iload_n C (pc := 191) 2 dX9_reads_191 rfl rfl ?_
        refine a_iload C (pc := 192) 4 dX9_reads_192 rfl ?_
        refine a_iadd C (pc := 194) dX9_reads_194 ?_
        refine a_istore_n C (pc := 195) (lv1 := [(0, .ref h0), (1, .int l1), (2, .int (l2 + r_48)), (3, .int l3), (4, .int r_48)]) [1, 2, 0, 3, 4] dX9_reads_195 rfl (by decide) rfl ?_
        refine a_iinc C (pc := 196) (lv1 := [(0, .ref h0), (1, .int l1), (2, .int (l2 + r_48)), (3, .int (l3 + 1)), (4, .int r_48)]) 3 [1, 2, 3, 0, 4] dX9_reads_196 rfl (congrArg (fun z => l3 + z) ic_1) (by decide) rfl ?_
        refine a_goto C (pc := 199) 166 dX9_reads_199 (by decide) ?_
        refine a_lv (lv1 := [(0, .ref h0), (1, .int l1), (2, .int (l2 + r_48)), (3, .int (l3 + 1))]) [0, 1, 2, 3] rfl ?_
        exact ih v_drafted v_place_49 v_over_50 v_bits v_codec v_size v_words v_impact_54 v_letter_51 v_word_52 v_gap_53 v_draft l1 (l2 + r_48) (l3 + 1) h hK_202
      · have h := h.2 hc
        refine a_iconst C (pc := 189) dX9_reads_189 ic_0 ?_
        exact a_zreturn C (pc := 190) rfl rfl dX9_reads_190 hkm hnm ⟨_, _, _, _, _, _, _, _, _, _, _, _, _, rfl, rfl, h⟩
set_option maxRecDepth 100000 in
set_option maxHeartbeats 4000000 in
theorem w_X9_reads_236 {Γ : XG} {Lx : Launch} {Dx : va_G} {cs : Nat → ClassId} {h0 : Nat} {d0 : Nat → Nat} {v_thrown : Int32} {v_taped : Int32} {v_at : Int32} {v_documents : Int32} {v_terms : Int32} {v_latest : Int32} {v_filed : Int32} {v_clock : Int64} {v_askedTerms : Int32} {v_segments : Int32} {v_done : Int32} {v_postingsDone : Int32} {v_postingsAll : Int32} {v_why : Int32} {v_hits : Int32} {v_file : Nat → Int32} {K_278 : Int32 → Int32 → Int32 → (Nat → Int32) → (Nat → Int32) → (Nat → Int32) → (Nat → Int32) → (Nat → Int32) → (Nat → Int32) → (Nat → Int32) → (Nat → Int32) → (Nat → Int32) → Int32 → Prop} {Φ : Int32 → Int32 → Int32 → Int32 → (Nat → Int32) → (Nat → Int32) → (Nat → Int32) → (Nat → Int32) → (Nat → Int32) → (Nat → Int32) → (Nat → Int32) → (Nat → Int32) → (Nat → Int32) → Prop} {k n9 : Nat} (C : CX Γ Lx Dx cs cX9_reads RX9 "reads" 5 (some .boolean) 4 103 0 0 (qEC cs 0 0 [] (R_X9_reads cs h0 d0 v_thrown v_taped v_at v_documents v_terms v_latest v_filed v_clock v_askedTerms v_segments v_done v_postingsDone v_postingsAll v_why v_hits v_file Φ) (fun _ _ => False))) (hkm : k ≤ 0) (hnm : n9 ≤ 0) : ∀ n : Nat, ∀ (v_drafted : Int32) (v_place : Int32) (v_over : Int32) (v_bits : Nat → Int32) (v_codec : Nat → Int32) (v_size : Nat → Int32) (v_words : Nat → Int32) (v_impact : Nat → Int32) (v_letter : Nat → Int32) (v_word : Nat → Int32) (v_gap : Nat → Int32) (v_draft : Nat → Int32) (l3 : Int32) (l4 : Int32), L_X9_reads_236 n v_filed v_drafted v_place v_over v_file v_bits v_codec v_size v_words v_impact v_letter v_word v_gap v_draft l3 l4 K_278 Φ → (∀ (v_drafted_86 : Int32) (v_place_87 : Int32) (v_over_88 : Int32) (v_bits_89 : Nat → Int32) (v_codec_90 : Nat → Int32) (v_size_91 : Nat → Int32) (v_words_92 : Nat → Int32) (v_impact_93 : Nat → Int32) (v_letter_94 : Nat → Int32) (v_word_95 : Nat → Int32) (v_gap_96 : Nat → Int32) (v_draft_97 : Nat → Int32) (l3_98 : Int32), K_278 v_drafted_86 v_place_87 v_over_88 v_bits_89 v_codec_90 v_size_91 v_words_92 v_impact_93 v_letter_94 v_word_95 v_gap_96 v_draft_97 l3_98 → AW Γ k n9 278 [(3, .int l3_98)] [] [(h0, oX9 d0 v_thrown v_taped v_at v_documents v_terms v_latest v_filed v_drafted_86 v_place_87 v_over_88 v_clock v_askedTerms v_segments v_done v_postingsDone v_postingsAll v_why v_hits), ((d0 21), aI cs 16000 v_file), ((d0 11), aI cs 5 v_bits_89), ((d0 12), aI cs 5 v_codec_90), ((d0 13), aI cs 5 v_size_91), ((d0 14), aI cs 5 v_words_92), ((d0 16), aI cs 12800 v_impact_93), ((d0 15), aI cs 2560 v_letter_94), ((d0 3), aI cs 8 v_word_95), ((d0 27), aI cs 40 v_gap_96), ((d0 22), aI cs 16000 v_draft_97)]) → AW Γ k n9 236 [(0, .ref h0), (3, .int l3), (4, .int l4)] [] [(h0, oX9 d0 v_thrown v_taped v_at v_documents v_terms v_latest v_filed v_drafted v_place v_over v_clock v_askedTerms v_segments v_done v_postingsDone v_postingsAll v_why v_hits), ((d0 21), aI cs 16000 v_file), ((d0 11), aI cs 5 v_bits), ((d0 12), aI cs 5 v_codec), ((d0 13), aI cs 5 v_size), ((d0 14), aI cs 5 v_words), ((d0 16), aI cs 12800 v_impact), ((d0 15), aI cs 2560 v_letter), ((d0 3), aI cs 8 v_word), ((d0 27), aI cs 40 v_gap), ((d0 22), aI cs 16000 v_draft)] := by
  intro n
  induction n with
  | zero =>
    intro v_drafted v_place v_over v_bits v_codec v_size v_words v_impact v_letter v_word v_gap v_draft l3 l4 h
    exact False.elim h
  | succ n ih =>
    intro v_drafted v_place v_over v_bits v_codec v_size v_words v_impact v_letter v_word v_gap v_draft l3 l4 h hK_278
    rw [L_X9_reads_236] at h
    refine a_iload C (pc := 236) 2 dX9_reads_236 rfl ?_
    refine a_aload_n C (pc := 238) 0 dX9_reads_238 rfl rfl ?_
    refine a_get C (pc := 239) 0 24 inW_X9 rfl rfl (Nat.le_of_ble_eq_true rfl) wF_X9_168 rfl rfl dX9_reads_239 ?_
    refine a_icmp_ge C (pc := 242) 278 dX9_reads_242 (by decide) (fun hc => ?_) (fun hc => ?_)
    · have h := h.1 hc
      refine a_lv (lv1 := [(3, .int l3)]) [1] rfl ?_
      exact hK_278 v_drafted v_place v_over v_bits v_codec v_size v_words v_impact v_letter v_word v_gap v_draft l3 h
    · have h := h.2 hc
      refine a_iload_n C (pc := 245) 1 dX9_reads_245 rfl rfl ?_
      refine a_if_eq C (pc := 246) 278 dX9_reads_246 (by decide) (fun hc => ?_) (fun hc => ?_)
      · have h := h.1 hc
        refine a_lv (lv1 := [(3, .int l3)]) [1] rfl ?_
        exact hK_278 v_drafted v_place v_over v_bits v_codec v_size v_words v_impact v_letter v_word v_gap v_draft l3 h
      · have h := h.2 hc
        refine a_aload_n C (pc := 249) 0 dX9_reads_249 rfl rfl ?_
        refine a_get C (pc := 250) 0 22 inW_X9 rfl rfl (Nat.le_of_ble_eq_true rfl) wF_X9_59 rfl rfl dX9_reads_250 ?_
        refine a_iload C (pc := 253) 2 dX9_reads_253 rfl ?_
        refine a_iald C (pc := 255) 10 rfl h.1 dX9_reads_255 ?_
        replace h := h.2
        refine a_aload_n C (pc := 256) 0 dX9_reads_256 rfl rfl ?_
        refine a_get C (pc := 257) 0 21 inW_X9 rfl rfl (Nat.le_of_ble_eq_true rfl) wF_X9_56 rfl rfl dX9_reads_257 ?_
        refine a_iload C (pc := 260) 2 dX9_reads_260 rfl ?_
        refine a_iald C (pc := 262) 1 rfl h.1 dX9_reads_262 ?_
        replace h := h.2
        refine a_icmp_ne C (pc := 263) 270 dX9_reads_263 (by decide) (fun hc => ?_) (fun hc => ?_)
        · have h := h.1 hc
          refine a_iconst C (pc := 270) dX9_reads_270 ic_0 ?_
          refine a_istore_n C (pc := 271) (lv1 := [(0, .ref h0), (3, .int 0), (4, .int l4)]) [1, 0, 2] dX9_reads_271 rfl (by decide) rfl ?_
          refine a_iinc C (pc := 272) (lv1 := [(0, .ref h0), (3, .int 0), (4, .int (l4 + 1))]) 2 [1, 2, 0] dX9_reads_272 rfl (congrArg (fun z => l4 + z) ic_1) (by decide) rfl ?_
          refine a_goto C (pc := 275) 236 dX9_reads_275 (by decide) ?_
          exact ih v_drafted v_place v_over v_bits v_codec v_size v_words v_impact v_letter v_word v_gap v_draft 0 (l4 + 1) h hK_278
        · have h := h.2 hc
          refine a_iconst C (pc := 266) dX9_reads_266 ic_1 ?_
          refine a_goto C (pc := 267) 271 dX9_reads_267 (by decide) ?_
          refine a_istore_n C (pc := 271) (lv1 := [(0, .ref h0), (3, .int 1), (4, .int l4)]) [1, 0, 2] dX9_reads_271 rfl (by decide) rfl ?_
          refine a_iinc C (pc := 272) (lv1 := [(0, .ref h0), (3, .int 1), (4, .int (l4 + 1))]) 2 [1, 2, 0] dX9_reads_272 rfl (congrArg (fun z => l4 + z) ic_1) (by decide) rfl ?_
          refine a_goto C (pc := 275) 236 dX9_reads_275 (by decide) ?_
          exact ih v_drafted v_place v_over v_bits v_codec v_size v_words v_impact v_letter v_word v_gap v_draft 1 (l4 + 1) h hK_278
set_option maxRecDepth 100000 in
set_option maxHeartbeats 4000000 in
theorem m_X9_reads (Lx : Launch) (Dx : va_G) (cs : Nat → ClassId) (h0 : Nat) (d0 : Nat → Nat) (v_thrown : Int32) (v_taped : Int32) (v_at : Int32) (v_documents : Int32) (v_terms : Int32) (v_latest : Int32) (v_filed : Int32) (v_drafted : Int32) (v_place : Int32) (v_over : Int32) (v_clock : Int64) (v_askedTerms : Int32) (v_segments : Int32) (v_done : Int32) (v_postingsDone : Int32) (v_postingsAll : Int32) (v_why : Int32) (v_hits : Int32) (v_file : Nat → Int32) (v_bits : Nat → Int32) (v_codec : Nat → Int32) (v_size : Nat → Int32) (v_words : Nat → Int32) (v_impact : Nat → Int32) (v_letter : Nat → Int32) (v_word : Nat → Int32) (v_gap : Nat → Int32) (v_draft : Nat → Int32) (Φ : Int32 → Int32 → Int32 → Int32 → (Nat → Int32) → (Nat → Int32) → (Nat → Int32) → (Nat → Int32) → (Nat → Int32) → (Nat → Int32) → (Nat → Int32) → (Nat → Int32) → (Nat → Int32) → Prop) (h : P_X9_reads v_filed v_drafted v_place v_over v_file v_bits v_codec v_size v_words v_impact v_letter v_word v_gap v_draft Φ) : XMet Lx Dx cs yX9_reads cX9_reads 5 (some .boolean) 4 103 0 0 [.ref h0] [(h0, oX9 d0 v_thrown v_taped v_at v_documents v_terms v_latest v_filed v_drafted v_place v_over v_clock v_askedTerms v_segments v_done v_postingsDone v_postingsAll v_why v_hits), ((d0 21), aI cs 16000 v_file), ((d0 11), aI cs 5 v_bits), ((d0 12), aI cs 5 v_codec), ((d0 13), aI cs 5 v_size), ((d0 14), aI cs 5 v_words), ((d0 16), aI cs 12800 v_impact), ((d0 15), aI cs 2560 v_letter), ((d0 3), aI cs 8 v_word), ((d0 27), aI cs 40 v_gap), ((d0 22), aI cs 16000 v_draft)] (R_X9_reads cs h0 d0 v_thrown v_taped v_at v_documents v_terms v_latest v_filed v_clock v_askedTerms v_segments v_done v_postingsDone v_postingsAll v_why v_hits v_file Φ) (fun _ _ => False) := by
  refine XMet.of (own := RX9) (nm := "reads") (by decide) rfl rfl (Nat.le_of_ble_eq_true rfl) (fun Γ C => ?_)
  unfold P_X9_reads at h
  refine a_iconst C (pc := 0) dX9_reads_0 ic_4 ?_
  refine a_istore_n C (pc := 1) (lv1 := [(0, .ref h0), (1, .int 4)]) [1, 0] dX9_reads_1 rfl (by decide) rfl ?_
  refine a_aload_n C (pc := 2) 0 dX9_reads_2 rfl rfl ?_
  refine a_iconst C (pc := 3) dX9_reads_3 ic_0 ?_
  refine a_put C (pc := 4) (ws1 := [(h0, oX9 d0 v_thrown v_taped v_at v_documents v_terms v_latest v_filed v_drafted 0 v_over v_clock v_askedTerms v_segments v_done v_postingsDone v_postingsAll v_why v_hits), ((d0 21), aI cs 16000 v_file), ((d0 11), aI cs 5 v_bits), ((d0 12), aI cs 5 v_codec), ((d0 13), aI cs 5 v_size), ((d0 14), aI cs 5 v_words), ((d0 16), aI cs 12800 v_impact), ((d0 15), aI cs 2560 v_letter), ((d0 3), aI cs 8 v_word), ((d0 27), aI cs 40 v_gap), ((d0 22), aI cs 16000 v_draft)]) 0 25 inW_X9 tyX9 tyX9_ok nmX9 rfl rfl (Nat.le_of_ble_eq_true rfl) wF_X9_222 rfl rfl rfl rfl rfl (Nat.le_of_ble_eq_true rfl) dX9_reads_4 rfl ?_
  refine a_aload_n C (pc := 7) 0 dX9_reads_7 rfl rfl ?_
  refine a_iconst C (pc := 8) dX9_reads_8 ic_0 ?_
  refine a_put C (pc := 9) (ws1 := [(h0, oX9 d0 v_thrown v_taped v_at v_documents v_terms v_latest v_filed v_drafted 0 0 v_clock v_askedTerms v_segments v_done v_postingsDone v_postingsAll v_why v_hits), ((d0 21), aI cs 16000 v_file), ((d0 11), aI cs 5 v_bits), ((d0 12), aI cs 5 v_codec), ((d0 13), aI cs 5 v_size), ((d0 14), aI cs 5 v_words), ((d0 16), aI cs 12800 v_impact), ((d0 15), aI cs 2560 v_letter), ((d0 3), aI cs 8 v_word), ((d0 27), aI cs 40 v_gap), ((d0 22), aI cs 16000 v_draft)]) 0 26 inW_X9 tyX9 tyX9_ok nmX9 rfl rfl (Nat.le_of_ble_eq_true rfl) wF_X9_225 rfl rfl rfl rfl rfl (Nat.le_of_ble_eq_true rfl) dX9_reads_9 rfl ?_
  refine a_aload_n C (pc := 12) 0 dX9_reads_12 rfl rfl ?_
  refine a_callV C (pc := 13) (av := []) (wr := [((d0 11), aI cs 5 v_bits), ((d0 12), aI cs 5 v_codec), ((d0 13), aI cs 5 v_size), ((d0 14), aI cs 5 v_words), ((d0 16), aI cs 12800 v_impact), ((d0 15), aI cs 2560 v_letter), ((d0 3), aI cs 8 v_word), ((d0 27), aI cs 40 v_gap), ((d0 22), aI cs 16000 v_draft)]) (m_X9_take Lx Dx cs h0 d0 v_thrown v_taped v_at v_documents v_terms v_latest v_filed v_drafted 0 0 v_clock v_askedTerms v_segments v_done v_postingsDone v_postingsAll v_why v_hits v_file _ h) [0, 1] [2, 3, 4, 5, 6, 7, 8, 9, 10] rfl rfl (by decide) (by decide) (by decide) wM_X9_229 wb_X9_take hy_X9_take (q0 := 0) rfl rfl rfl ⟨Nat.le_of_ble_eq_true rfl, Nat.le_of_ble_eq_true rfl⟩ (Nat.le_of_ble_eq_true rfl) (Nat.le_of_ble_eq_true rfl) (Nat.le_of_ble_eq_true rfl) rfl dX9_reads_13 (fun v w1 hw => ?_) [] rfl (fun _ _ h => h.elim)
  obtain ⟨r_1, v_place_2, v_over_3, rfl, rfl, h⟩ := hw
  refine a_ws (st1 := [.int r_1]) (ws1 := [(h0, oX9 d0 v_thrown v_taped v_at v_documents v_terms v_latest v_filed v_drafted v_place_2 v_over_3 v_clock v_askedTerms v_segments v_done v_postingsDone v_postingsAll v_why v_hits), ((d0 21), aI cs 16000 v_file), ((d0 11), aI cs 5 v_bits), ((d0 12), aI cs 5 v_codec), ((d0 13), aI cs 5 v_size), ((d0 14), aI cs 5 v_words), ((d0 16), aI cs 12800 v_impact), ((d0 15), aI cs 2560 v_letter), ((d0 3), aI cs 8 v_word), ((d0 27), aI cs 40 v_gap), ((d0 22), aI cs 16000 v_draft)]) 0 0 16 [9, 10, 0, 1, 2, 3, 4, 5, 6, 7, 8] rfl rfl rfl rfl (by decide) rfl ?_
  refine a_pop C (pc := 16) dX9_reads_16 rfl ?_
  refine a_aload_n C (pc := 17) 0 dX9_reads_17 rfl rfl ?_
  refine a_callV C (pc := 18) (av := []) (wr := [((d0 11), aI cs 5 v_bits), ((d0 12), aI cs 5 v_codec), ((d0 13), aI cs 5 v_size), ((d0 14), aI cs 5 v_words), ((d0 16), aI cs 12800 v_impact), ((d0 15), aI cs 2560 v_letter), ((d0 3), aI cs 8 v_word), ((d0 27), aI cs 40 v_gap), ((d0 22), aI cs 16000 v_draft)]) (m_X9_take Lx Dx cs h0 d0 v_thrown v_taped v_at v_documents v_terms v_latest v_filed v_drafted v_place_2 v_over_3 v_clock v_askedTerms v_segments v_done v_postingsDone v_postingsAll v_why v_hits v_file _ h) [0, 1] [2, 3, 4, 5, 6, 7, 8, 9, 10] rfl rfl (by decide) (by decide) (by decide) wM_X9_229 wb_X9_take hy_X9_take (q0 := 0) rfl rfl rfl ⟨Nat.le_of_ble_eq_true rfl, Nat.le_of_ble_eq_true rfl⟩ (Nat.le_of_ble_eq_true rfl) (Nat.le_of_ble_eq_true rfl) (Nat.le_of_ble_eq_true rfl) rfl dX9_reads_18 (fun v w1 hw => ?_) [] rfl (fun _ _ h => h.elim)
  obtain ⟨r_4, v_place_5, v_over_6, rfl, rfl, h⟩ := hw
  refine a_ws (st1 := [.int r_4]) (ws1 := [(h0, oX9 d0 v_thrown v_taped v_at v_documents v_terms v_latest v_filed v_drafted v_place_5 v_over_6 v_clock v_askedTerms v_segments v_done v_postingsDone v_postingsAll v_why v_hits), ((d0 21), aI cs 16000 v_file), ((d0 11), aI cs 5 v_bits), ((d0 12), aI cs 5 v_codec), ((d0 13), aI cs 5 v_size), ((d0 14), aI cs 5 v_words), ((d0 16), aI cs 12800 v_impact), ((d0 15), aI cs 2560 v_letter), ((d0 3), aI cs 8 v_word), ((d0 27), aI cs 40 v_gap), ((d0 22), aI cs 16000 v_draft)]) 0 0 21 [9, 10, 0, 1, 2, 3, 4, 5, 6, 7, 8] rfl rfl rfl rfl (by decide) rfl ?_
  refine a_pop C (pc := 21) dX9_reads_21 rfl ?_
  refine a_aload_n C (pc := 22) 0 dX9_reads_22 rfl rfl ?_
  refine a_get C (pc := 23) 0 11 inW_X9 rfl rfl (Nat.le_of_ble_eq_true rfl) wF_X9_28 rfl rfl dX9_reads_23 ?_
  refine a_iload_n C (pc := 26) 1 dX9_reads_26 rfl rfl ?_
  refine a_aload_n C (pc := 27) 0 dX9_reads_27 rfl rfl ?_
  refine a_callV C (pc := 28) (av := []) (wr := [((d0 11), aI cs 5 v_bits), ((d0 12), aI cs 5 v_codec), ((d0 13), aI cs 5 v_size), ((d0 14), aI cs 5 v_words), ((d0 16), aI cs 12800 v_impact), ((d0 15), aI cs 2560 v_letter), ((d0 3), aI cs 8 v_word), ((d0 27), aI cs 40 v_gap), ((d0 22), aI cs 16000 v_draft)]) (m_X9_take Lx Dx cs h0 d0 v_thrown v_taped v_at v_documents v_terms v_latest v_filed v_drafted v_place_5 v_over_6 v_clock v_askedTerms v_segments v_done v_postingsDone v_postingsAll v_why v_hits v_file _ h) [0, 1] [2, 3, 4, 5, 6, 7, 8, 9, 10] rfl rfl (by decide) (by decide) (by decide) wM_X9_229 wb_X9_take hy_X9_take (q0 := 0) rfl rfl rfl ⟨Nat.le_of_ble_eq_true rfl, Nat.le_of_ble_eq_true rfl⟩ (Nat.le_of_ble_eq_true rfl) (Nat.le_of_ble_eq_true rfl) (Nat.le_of_ble_eq_true rfl) rfl dX9_reads_28 (fun v w1 hw => ?_) [] rfl (fun _ _ h => h.elim)
  obtain ⟨r_7, v_place_8, v_over_9, rfl, rfl, h⟩ := hw
  refine a_ws (st1 := [.int r_7, .int 4, .ref (d0 11)]) (ws1 := [(h0, oX9 d0 v_thrown v_taped v_at v_documents v_terms v_latest v_filed v_drafted v_place_8 v_over_9 v_clock v_askedTerms v_segments v_done v_postingsDone v_postingsAll v_why v_hits), ((d0 21), aI cs 16000 v_file), ((d0 11), aI cs 5 v_bits), ((d0 12), aI cs 5 v_codec), ((d0 13), aI cs 5 v_size), ((d0 14), aI cs 5 v_words), ((d0 16), aI cs 12800 v_impact), ((d0 15), aI cs 2560 v_letter), ((d0 3), aI cs 8 v_word), ((d0 27), aI cs 40 v_gap), ((d0 22), aI cs 16000 v_draft)]) 0 0 31 [9, 10, 0, 1, 2, 3, 4, 5, 6, 7, 8] rfl rfl rfl rfl (by decide) rfl ?_
  refine a_iast C (pc := 31) (ws1 := [(h0, oX9 d0 v_thrown v_taped v_at v_documents v_terms v_latest v_filed v_drafted v_place_8 v_over_9 v_clock v_askedTerms v_segments v_done v_postingsDone v_postingsAll v_why v_hits), ((d0 21), aI cs 16000 v_file), ((d0 11), aI cs 5 (upd v_bits (4 : Int32).toNatClampNeg r_7)), ((d0 12), aI cs 5 v_codec), ((d0 13), aI cs 5 v_size), ((d0 14), aI cs 5 v_words), ((d0 16), aI cs 12800 v_impact), ((d0 15), aI cs 2560 v_letter), ((d0 3), aI cs 8 v_word), ((d0 27), aI cs 40 v_gap), ((d0 22), aI cs 16000 v_draft)]) 2 rfl h.1 dX9_reads_31 rfl ?_
  replace h := h.2
  refine a_aload_n C (pc := 32) 0 dX9_reads_32 rfl rfl ?_
  refine a_get C (pc := 33) 0 12 inW_X9 rfl rfl (Nat.le_of_ble_eq_true rfl) wF_X9_31 rfl rfl dX9_reads_33 ?_
  refine a_iload_n C (pc := 36) 1 dX9_reads_36 rfl rfl ?_
  refine a_aload_n C (pc := 37) 0 dX9_reads_37 rfl rfl ?_
  refine a_callV C (pc := 38) (av := []) (wr := [((d0 11), aI cs 5 (upd v_bits (4 : Int32).toNatClampNeg r_7)), ((d0 12), aI cs 5 v_codec), ((d0 13), aI cs 5 v_size), ((d0 14), aI cs 5 v_words), ((d0 16), aI cs 12800 v_impact), ((d0 15), aI cs 2560 v_letter), ((d0 3), aI cs 8 v_word), ((d0 27), aI cs 40 v_gap), ((d0 22), aI cs 16000 v_draft)]) (m_X9_take Lx Dx cs h0 d0 v_thrown v_taped v_at v_documents v_terms v_latest v_filed v_drafted v_place_8 v_over_9 v_clock v_askedTerms v_segments v_done v_postingsDone v_postingsAll v_why v_hits v_file _ h) [0, 1] [2, 3, 4, 5, 6, 7, 8, 9, 10] rfl rfl (by decide) (by decide) (by decide) wM_X9_229 wb_X9_take hy_X9_take (q0 := 0) rfl rfl rfl ⟨Nat.le_of_ble_eq_true rfl, Nat.le_of_ble_eq_true rfl⟩ (Nat.le_of_ble_eq_true rfl) (Nat.le_of_ble_eq_true rfl) (Nat.le_of_ble_eq_true rfl) rfl dX9_reads_38 (fun v w1 hw => ?_) [] rfl (fun _ _ h => h.elim)
  obtain ⟨r_10, v_place_11, v_over_12, rfl, rfl, h⟩ := hw
  refine a_ws (st1 := [.int r_10, .int 4, .ref (d0 12)]) (ws1 := [(h0, oX9 d0 v_thrown v_taped v_at v_documents v_terms v_latest v_filed v_drafted v_place_11 v_over_12 v_clock v_askedTerms v_segments v_done v_postingsDone v_postingsAll v_why v_hits), ((d0 21), aI cs 16000 v_file), ((d0 11), aI cs 5 (upd v_bits (4 : Int32).toNatClampNeg r_7)), ((d0 12), aI cs 5 v_codec), ((d0 13), aI cs 5 v_size), ((d0 14), aI cs 5 v_words), ((d0 16), aI cs 12800 v_impact), ((d0 15), aI cs 2560 v_letter), ((d0 3), aI cs 8 v_word), ((d0 27), aI cs 40 v_gap), ((d0 22), aI cs 16000 v_draft)]) 0 0 41 [9, 10, 0, 1, 2, 3, 4, 5, 6, 7, 8] rfl rfl rfl rfl (by decide) rfl ?_
  refine a_iast C (pc := 41) (ws1 := [(h0, oX9 d0 v_thrown v_taped v_at v_documents v_terms v_latest v_filed v_drafted v_place_11 v_over_12 v_clock v_askedTerms v_segments v_done v_postingsDone v_postingsAll v_why v_hits), ((d0 21), aI cs 16000 v_file), ((d0 11), aI cs 5 (upd v_bits (4 : Int32).toNatClampNeg r_7)), ((d0 12), aI cs 5 (upd v_codec (4 : Int32).toNatClampNeg r_10)), ((d0 13), aI cs 5 v_size), ((d0 14), aI cs 5 v_words), ((d0 16), aI cs 12800 v_impact), ((d0 15), aI cs 2560 v_letter), ((d0 3), aI cs 8 v_word), ((d0 27), aI cs 40 v_gap), ((d0 22), aI cs 16000 v_draft)]) 3 rfl h.1 dX9_reads_41 rfl ?_
  replace h := h.2
  refine a_aload_n C (pc := 42) 0 dX9_reads_42 rfl rfl ?_
  refine a_get C (pc := 43) 0 13 inW_X9 rfl rfl (Nat.le_of_ble_eq_true rfl) wF_X9_34 rfl rfl dX9_reads_43 ?_
  refine a_iload_n C (pc := 46) 1 dX9_reads_46 rfl rfl ?_
  refine a_aload_n C (pc := 47) 0 dX9_reads_47 rfl rfl ?_
  refine a_callV C (pc := 48) (av := []) (wr := [((d0 11), aI cs 5 (upd v_bits (4 : Int32).toNatClampNeg r_7)), ((d0 12), aI cs 5 (upd v_codec (4 : Int32).toNatClampNeg r_10)), ((d0 13), aI cs 5 v_size), ((d0 14), aI cs 5 v_words), ((d0 16), aI cs 12800 v_impact), ((d0 15), aI cs 2560 v_letter), ((d0 3), aI cs 8 v_word), ((d0 27), aI cs 40 v_gap), ((d0 22), aI cs 16000 v_draft)]) (m_X9_take Lx Dx cs h0 d0 v_thrown v_taped v_at v_documents v_terms v_latest v_filed v_drafted v_place_11 v_over_12 v_clock v_askedTerms v_segments v_done v_postingsDone v_postingsAll v_why v_hits v_file _ h) [0, 1] [2, 3, 4, 5, 6, 7, 8, 9, 10] rfl rfl (by decide) (by decide) (by decide) wM_X9_229 wb_X9_take hy_X9_take (q0 := 0) rfl rfl rfl ⟨Nat.le_of_ble_eq_true rfl, Nat.le_of_ble_eq_true rfl⟩ (Nat.le_of_ble_eq_true rfl) (Nat.le_of_ble_eq_true rfl) (Nat.le_of_ble_eq_true rfl) rfl dX9_reads_48 (fun v w1 hw => ?_) [] rfl (fun _ _ h => h.elim)
  obtain ⟨r_13, v_place_14, v_over_15, rfl, rfl, h⟩ := hw
  refine a_ws (st1 := [.int r_13, .int 4, .ref (d0 13)]) (ws1 := [(h0, oX9 d0 v_thrown v_taped v_at v_documents v_terms v_latest v_filed v_drafted v_place_14 v_over_15 v_clock v_askedTerms v_segments v_done v_postingsDone v_postingsAll v_why v_hits), ((d0 21), aI cs 16000 v_file), ((d0 11), aI cs 5 (upd v_bits (4 : Int32).toNatClampNeg r_7)), ((d0 12), aI cs 5 (upd v_codec (4 : Int32).toNatClampNeg r_10)), ((d0 13), aI cs 5 v_size), ((d0 14), aI cs 5 v_words), ((d0 16), aI cs 12800 v_impact), ((d0 15), aI cs 2560 v_letter), ((d0 3), aI cs 8 v_word), ((d0 27), aI cs 40 v_gap), ((d0 22), aI cs 16000 v_draft)]) 0 0 51 [9, 10, 0, 1, 2, 3, 4, 5, 6, 7, 8] rfl rfl rfl rfl (by decide) rfl ?_
  refine a_iast C (pc := 51) (ws1 := [(h0, oX9 d0 v_thrown v_taped v_at v_documents v_terms v_latest v_filed v_drafted v_place_14 v_over_15 v_clock v_askedTerms v_segments v_done v_postingsDone v_postingsAll v_why v_hits), ((d0 21), aI cs 16000 v_file), ((d0 11), aI cs 5 (upd v_bits (4 : Int32).toNatClampNeg r_7)), ((d0 12), aI cs 5 (upd v_codec (4 : Int32).toNatClampNeg r_10)), ((d0 13), aI cs 5 (upd v_size (4 : Int32).toNatClampNeg r_13)), ((d0 14), aI cs 5 v_words), ((d0 16), aI cs 12800 v_impact), ((d0 15), aI cs 2560 v_letter), ((d0 3), aI cs 8 v_word), ((d0 27), aI cs 40 v_gap), ((d0 22), aI cs 16000 v_draft)]) 4 rfl h.1 dX9_reads_51 rfl ?_
  replace h := h.2
  refine a_aload_n C (pc := 52) 0 dX9_reads_52 rfl rfl ?_
  refine a_get C (pc := 53) 0 14 inW_X9 rfl rfl (Nat.le_of_ble_eq_true rfl) wF_X9_37 rfl rfl dX9_reads_53 ?_
  refine a_iload_n C (pc := 56) 1 dX9_reads_56 rfl rfl ?_
  refine a_aload_n C (pc := 57) 0 dX9_reads_57 rfl rfl ?_
  refine a_callV C (pc := 58) (av := []) (wr := [((d0 11), aI cs 5 (upd v_bits (4 : Int32).toNatClampNeg r_7)), ((d0 12), aI cs 5 (upd v_codec (4 : Int32).toNatClampNeg r_10)), ((d0 13), aI cs 5 (upd v_size (4 : Int32).toNatClampNeg r_13)), ((d0 14), aI cs 5 v_words), ((d0 16), aI cs 12800 v_impact), ((d0 15), aI cs 2560 v_letter), ((d0 3), aI cs 8 v_word), ((d0 27), aI cs 40 v_gap), ((d0 22), aI cs 16000 v_draft)]) (m_X9_take Lx Dx cs h0 d0 v_thrown v_taped v_at v_documents v_terms v_latest v_filed v_drafted v_place_14 v_over_15 v_clock v_askedTerms v_segments v_done v_postingsDone v_postingsAll v_why v_hits v_file _ h) [0, 1] [2, 3, 4, 5, 6, 7, 8, 9, 10] rfl rfl (by decide) (by decide) (by decide) wM_X9_229 wb_X9_take hy_X9_take (q0 := 0) rfl rfl rfl ⟨Nat.le_of_ble_eq_true rfl, Nat.le_of_ble_eq_true rfl⟩ (Nat.le_of_ble_eq_true rfl) (Nat.le_of_ble_eq_true rfl) (Nat.le_of_ble_eq_true rfl) rfl dX9_reads_58 (fun v w1 hw => ?_) [] rfl (fun _ _ h => h.elim)
  obtain ⟨r_16, v_place_17, v_over_18, rfl, rfl, h⟩ := hw
  refine a_ws (st1 := [.int r_16, .int 4, .ref (d0 14)]) (ws1 := [(h0, oX9 d0 v_thrown v_taped v_at v_documents v_terms v_latest v_filed v_drafted v_place_17 v_over_18 v_clock v_askedTerms v_segments v_done v_postingsDone v_postingsAll v_why v_hits), ((d0 21), aI cs 16000 v_file), ((d0 11), aI cs 5 (upd v_bits (4 : Int32).toNatClampNeg r_7)), ((d0 12), aI cs 5 (upd v_codec (4 : Int32).toNatClampNeg r_10)), ((d0 13), aI cs 5 (upd v_size (4 : Int32).toNatClampNeg r_13)), ((d0 14), aI cs 5 v_words), ((d0 16), aI cs 12800 v_impact), ((d0 15), aI cs 2560 v_letter), ((d0 3), aI cs 8 v_word), ((d0 27), aI cs 40 v_gap), ((d0 22), aI cs 16000 v_draft)]) 0 0 61 [9, 10, 0, 1, 2, 3, 4, 5, 6, 7, 8] rfl rfl rfl rfl (by decide) rfl ?_
  refine a_iast C (pc := 61) (ws1 := [(h0, oX9 d0 v_thrown v_taped v_at v_documents v_terms v_latest v_filed v_drafted v_place_17 v_over_18 v_clock v_askedTerms v_segments v_done v_postingsDone v_postingsAll v_why v_hits), ((d0 21), aI cs 16000 v_file), ((d0 11), aI cs 5 (upd v_bits (4 : Int32).toNatClampNeg r_7)), ((d0 12), aI cs 5 (upd v_codec (4 : Int32).toNatClampNeg r_10)), ((d0 13), aI cs 5 (upd v_size (4 : Int32).toNatClampNeg r_13)), ((d0 14), aI cs 5 (upd v_words (4 : Int32).toNatClampNeg r_16)), ((d0 16), aI cs 12800 v_impact), ((d0 15), aI cs 2560 v_letter), ((d0 3), aI cs 8 v_word), ((d0 27), aI cs 40 v_gap), ((d0 22), aI cs 16000 v_draft)]) 5 rfl h.1 dX9_reads_61 rfl ?_
  replace h := h.2
  refine a_aload_n C (pc := 62) 0 dX9_reads_62 rfl rfl ?_
  refine a_get C (pc := 63) 0 26 inW_X9 rfl rfl (Nat.le_of_ble_eq_true rfl) wF_X9_225 rfl rfl dX9_reads_63 ?_
  refine a_if_ne C (pc := 66) 132 dX9_reads_66 (by decide) (fun hc => ?_) (fun hc => ?_)
  · have h := h.1 hc
    refine a_iconst C (pc := 132) dX9_reads_132 ic_0 ?_
    exact a_zreturn C (pc := 133) rfl rfl dX9_reads_133 (Nat.le_of_ble_eq_true rfl) (Nat.le_of_ble_eq_true rfl) ⟨_, _, _, _, _, _, _, _, _, _, _, _, _, rfl, rfl, h⟩
  · have h := h.2 hc
    refine a_aload_n C (pc := 69) 0 dX9_reads_69 rfl rfl ?_
    refine a_get C (pc := 70) 0 11 inW_X9 rfl rfl (Nat.le_of_ble_eq_true rfl) wF_X9_28 rfl rfl dX9_reads_70 ?_
    refine a_iload_n C (pc := 73) 1 dX9_reads_73 rfl rfl ?_
    refine a_iald C (pc := 74) 2 rfl h.1 dX9_reads_74 ?_
    replace h := h.2
    refine a_i2l C (pc := 75) dX9_reads_75 ?_
    refine a_ldc2 C (pc := 76) wC_X9_211 dX9_reads_76 ?_
    refine a_ldc2 C (pc := 79) wC_X9_87 dX9_reads_79 ?_
    refine a_callS C (pc := 82) (av := [.long ((((upd v_bits (4 : Int32).toNatClampNeg r_7) (4 : Int32).toNatClampNeg) : Int32).toInt64), .long 2, .long 8]) (wr := [(h0, oX9 d0 v_thrown v_taped v_at v_documents v_terms v_latest v_filed v_drafted v_place_17 v_over_18 v_clock v_askedTerms v_segments v_done v_postingsDone v_postingsAll v_why v_hits), ((d0 21), aI cs 16000 v_file), ((d0 11), aI cs 5 (upd v_bits (4 : Int32).toNatClampNeg r_7)), ((d0 12), aI cs 5 (upd v_codec (4 : Int32).toNatClampNeg r_10)), ((d0 13), aI cs 5 (upd v_size (4 : Int32).toNatClampNeg r_13)), ((d0 14), aI cs 5 (upd v_words (4 : Int32).toNatClampNeg r_16)), ((d0 16), aI cs 12800 v_impact), ((d0 15), aI cs 2560 v_letter), ((d0 3), aI cs 8 v_word), ((d0 27), aI cs 40 v_gap), ((d0 22), aI cs 16000 v_draft)]) (m_X9_within Lx Dx cs ((((upd v_bits (4 : Int32).toNatClampNeg r_7) (4 : Int32).toNatClampNeg) : Int32).toInt64) 2 8 _ h) [] [0, 1, 2, 3, 4, 5, 6, 7, 8, 9, 10] rfl rfl (by decide) (by decide) (by decide) wM_X9_89 wb_X9_within hy_X9_within rfl ⟨Nat.le_of_ble_eq_true rfl, Nat.le_of_ble_eq_true rfl⟩ (Nat.le_of_ble_eq_true rfl) (Nat.le_of_ble_eq_true rfl) (Nat.le_of_ble_eq_true rfl) rfl dX9_reads_82 (fun v w1 hw => ?_) [] rfl (fun _ _ h => h.elim)
    obtain ⟨r_19, rfl, rfl, h⟩ := hw
    refine a_ws (st1 := [.int r_19]) (ws1 := [(h0, oX9 d0 v_thrown v_taped v_at v_documents v_terms v_latest v_filed v_drafted v_place_17 v_over_18 v_clock v_askedTerms v_segments v_done v_postingsDone v_postingsAll v_why v_hits), ((d0 21), aI cs 16000 v_file), ((d0 11), aI cs 5 (upd v_bits (4 : Int32).toNatClampNeg r_7)), ((d0 12), aI cs 5 (upd v_codec (4 : Int32).toNatClampNeg r_10)), ((d0 13), aI cs 5 (upd v_size (4 : Int32).toNatClampNeg r_13)), ((d0 14), aI cs 5 (upd v_words (4 : Int32).toNatClampNeg r_16)), ((d0 16), aI cs 12800 v_impact), ((d0 15), aI cs 2560 v_letter), ((d0 3), aI cs 8 v_word), ((d0 27), aI cs 40 v_gap), ((d0 22), aI cs 16000 v_draft)]) 0 0 85 [0, 1, 2, 3, 4, 5, 6, 7, 8, 9, 10] rfl rfl rfl rfl (by decide) rfl ?_
    refine a_if_eq C (pc := 85) 132 dX9_reads_85 (by decide) (fun hc => ?_) (fun hc => ?_)
    · have h := h.1 hc
      refine a_iconst C (pc := 132) dX9_reads_132 ic_0 ?_
      exact a_zreturn C (pc := 133) rfl rfl dX9_reads_133 (Nat.le_of_ble_eq_true rfl) (Nat.le_of_ble_eq_true rfl) ⟨_, _, _, _, _, _, _, _, _, _, _, _, _, rfl, rfl, h⟩
    · have h := h.2 hc
      refine a_aload_n C (pc := 88) 0 dX9_reads_88 rfl rfl ?_
      refine a_get C (pc := 89) 0 12 inW_X9 rfl rfl (Nat.le_of_ble_eq_true rfl) wF_X9_31 rfl rfl dX9_reads_89 ?_
      refine a_iload_n C (pc := 92) 1 dX9_reads_92 rfl rfl ?_
      refine a_iald C (pc := 93) 3 rfl h.1 dX9_reads_93 ?_
      replace h := h.2
      refine a_iconst C (pc := 94) dX9_reads_94 ic_2 ?_
      refine a_icmp_gt C (pc := 95) 132 dX9_reads_95 (by decide) (fun hc => ?_) (fun hc => ?_)
      · have h := h.1 hc
        refine a_iconst C (pc := 132) dX9_reads_132 ic_0 ?_
        exact a_zreturn C (pc := 133) rfl rfl dX9_reads_133 (Nat.le_of_ble_eq_true rfl) (Nat.le_of_ble_eq_true rfl) ⟨_, _, _, _, _, _, _, _, _, _, _, _, _, rfl, rfl, h⟩
      · have h := h.2 hc
        refine a_aload_n C (pc := 98) 0 dX9_reads_98 rfl rfl ?_
        refine a_get C (pc := 99) 0 13 inW_X9 rfl rfl (Nat.le_of_ble_eq_true rfl) wF_X9_34 rfl rfl dX9_reads_99 ?_
        refine a_iload_n C (pc := 102) 1 dX9_reads_102 rfl rfl ?_
        refine a_iald C (pc := 103) 4 rfl h.1 dX9_reads_103 ?_
        replace h := h.2
        refine a_i2l C (pc := 104) dX9_reads_104 ?_
        refine a_lconst C (pc := 105) (v := 1) dX9_reads_105 rfl ?_
        refine a_ldc2 C (pc := 106) wC_X9_239 dX9_reads_106 ?_
        refine a_callS C (pc := 109) (av := [.long ((((upd v_size (4 : Int32).toNatClampNeg r_13) (4 : Int32).toNatClampNeg) : Int32).toInt64), .long 1, .long 40]) (wr := [(h0, oX9 d0 v_thrown v_taped v_at v_documents v_terms v_latest v_filed v_drafted v_place_17 v_over_18 v_clock v_askedTerms v_segments v_done v_postingsDone v_postingsAll v_why v_hits), ((d0 21), aI cs 16000 v_file), ((d0 11), aI cs 5 (upd v_bits (4 : Int32).toNatClampNeg r_7)), ((d0 12), aI cs 5 (upd v_codec (4 : Int32).toNatClampNeg r_10)), ((d0 13), aI cs 5 (upd v_size (4 : Int32).toNatClampNeg r_13)), ((d0 14), aI cs 5 (upd v_words (4 : Int32).toNatClampNeg r_16)), ((d0 16), aI cs 12800 v_impact), ((d0 15), aI cs 2560 v_letter), ((d0 3), aI cs 8 v_word), ((d0 27), aI cs 40 v_gap), ((d0 22), aI cs 16000 v_draft)]) (m_X9_within Lx Dx cs ((((upd v_size (4 : Int32).toNatClampNeg r_13) (4 : Int32).toNatClampNeg) : Int32).toInt64) 1 40 _ h) [] [0, 1, 2, 3, 4, 5, 6, 7, 8, 9, 10] rfl rfl (by decide) (by decide) (by decide) wM_X9_89 wb_X9_within hy_X9_within rfl ⟨Nat.le_of_ble_eq_true rfl, Nat.le_of_ble_eq_true rfl⟩ (Nat.le_of_ble_eq_true rfl) (Nat.le_of_ble_eq_true rfl) (Nat.le_of_ble_eq_true rfl) rfl dX9_reads_109 (fun v w1 hw => ?_) [] rfl (fun _ _ h => h.elim)
        obtain ⟨r_20, rfl, rfl, h⟩ := hw
        refine a_ws (st1 := [.int r_20]) (ws1 := [(h0, oX9 d0 v_thrown v_taped v_at v_documents v_terms v_latest v_filed v_drafted v_place_17 v_over_18 v_clock v_askedTerms v_segments v_done v_postingsDone v_postingsAll v_why v_hits), ((d0 21), aI cs 16000 v_file), ((d0 11), aI cs 5 (upd v_bits (4 : Int32).toNatClampNeg r_7)), ((d0 12), aI cs 5 (upd v_codec (4 : Int32).toNatClampNeg r_10)), ((d0 13), aI cs 5 (upd v_size (4 : Int32).toNatClampNeg r_13)), ((d0 14), aI cs 5 (upd v_words (4 : Int32).toNatClampNeg r_16)), ((d0 16), aI cs 12800 v_impact), ((d0 15), aI cs 2560 v_letter), ((d0 3), aI cs 8 v_word), ((d0 27), aI cs 40 v_gap), ((d0 22), aI cs 16000 v_draft)]) 0 0 112 [0, 1, 2, 3, 4, 5, 6, 7, 8, 9, 10] rfl rfl rfl rfl (by decide) rfl ?_
        refine a_if_eq C (pc := 112) 132 dX9_reads_112 (by decide) (fun hc => ?_) (fun hc => ?_)
        · have h := h.1 hc
          refine a_iconst C (pc := 132) dX9_reads_132 ic_0 ?_
          exact a_zreturn C (pc := 133) rfl rfl dX9_reads_133 (Nat.le_of_ble_eq_true rfl) (Nat.le_of_ble_eq_true rfl) ⟨_, _, _, _, _, _, _, _, _, _, _, _, _, rfl, rfl, h⟩
        · have h := h.2 hc
          refine a_aload_n C (pc := 115) 0 dX9_reads_115 rfl rfl ?_
          refine a_get C (pc := 116) 0 14 inW_X9 rfl rfl (Nat.le_of_ble_eq_true rfl) wF_X9_37 rfl rfl dX9_reads_116 ?_
          refine a_iload_n C (pc := 119) 1 dX9_reads_119 rfl rfl ?_
          refine a_iald C (pc := 120) 5 rfl h.1 dX9_reads_120 ?_
          replace h := h.2
          refine a_i2l C (pc := 121) dX9_reads_121 ?_
          refine a_lconst C (pc := 122) (v := 1) dX9_reads_122 rfl ?_
          refine a_ldc2 C (pc := 123) wC_X9_241 dX9_reads_123 ?_
          refine a_callS C (pc := 126) (av := [.long ((((upd v_words (4 : Int32).toNatClampNeg r_16) (4 : Int32).toNatClampNeg) : Int32).toInt64), .long 1, .long 64]) (wr := [(h0, oX9 d0 v_thrown v_taped v_at v_documents v_terms v_latest v_filed v_drafted v_place_17 v_over_18 v_clock v_askedTerms v_segments v_done v_postingsDone v_postingsAll v_why v_hits), ((d0 21), aI cs 16000 v_file), ((d0 11), aI cs 5 (upd v_bits (4 : Int32).toNatClampNeg r_7)), ((d0 12), aI cs 5 (upd v_codec (4 : Int32).toNatClampNeg r_10)), ((d0 13), aI cs 5 (upd v_size (4 : Int32).toNatClampNeg r_13)), ((d0 14), aI cs 5 (upd v_words (4 : Int32).toNatClampNeg r_16)), ((d0 16), aI cs 12800 v_impact), ((d0 15), aI cs 2560 v_letter), ((d0 3), aI cs 8 v_word), ((d0 27), aI cs 40 v_gap), ((d0 22), aI cs 16000 v_draft)]) (m_X9_within Lx Dx cs ((((upd v_words (4 : Int32).toNatClampNeg r_16) (4 : Int32).toNatClampNeg) : Int32).toInt64) 1 64 _ h) [] [0, 1, 2, 3, 4, 5, 6, 7, 8, 9, 10] rfl rfl (by decide) (by decide) (by decide) wM_X9_89 wb_X9_within hy_X9_within rfl ⟨Nat.le_of_ble_eq_true rfl, Nat.le_of_ble_eq_true rfl⟩ (Nat.le_of_ble_eq_true rfl) (Nat.le_of_ble_eq_true rfl) (Nat.le_of_ble_eq_true rfl) rfl dX9_reads_126 (fun v w1 hw => ?_) [] rfl (fun _ _ h => h.elim)
          obtain ⟨r_21, rfl, rfl, h⟩ := hw
          refine a_ws (st1 := [.int r_21]) (ws1 := [(h0, oX9 d0 v_thrown v_taped v_at v_documents v_terms v_latest v_filed v_drafted v_place_17 v_over_18 v_clock v_askedTerms v_segments v_done v_postingsDone v_postingsAll v_why v_hits), ((d0 21), aI cs 16000 v_file), ((d0 11), aI cs 5 (upd v_bits (4 : Int32).toNatClampNeg r_7)), ((d0 12), aI cs 5 (upd v_codec (4 : Int32).toNatClampNeg r_10)), ((d0 13), aI cs 5 (upd v_size (4 : Int32).toNatClampNeg r_13)), ((d0 14), aI cs 5 (upd v_words (4 : Int32).toNatClampNeg r_16)), ((d0 16), aI cs 12800 v_impact), ((d0 15), aI cs 2560 v_letter), ((d0 3), aI cs 8 v_word), ((d0 27), aI cs 40 v_gap), ((d0 22), aI cs 16000 v_draft)]) 0 0 129 [0, 1, 2, 3, 4, 5, 6, 7, 8, 9, 10] rfl rfl rfl rfl (by decide) rfl ?_
          refine a_if_ne C (pc := 129) 134 dX9_reads_129 (by decide) (fun hc => ?_) (fun hc => ?_)
          · have h := h.1 hc
            refine a_iconst C (pc := 134) dX9_reads_134 ic_0 ?_
            refine a_istore_n C (pc := 135) (lv1 := [(0, .ref h0), (1, .int 4), (2, .int 0)]) [1, 2, 0] dX9_reads_135 rfl (by decide) rfl ?_
            obtain ⟨n0, h⟩ := h
            refine w_X9_reads_136 C (Nat.le_of_ble_eq_true rfl) (Nat.le_of_ble_eq_true rfl) n0 v_drafted v_place_17 v_over_18 (upd v_bits (4 : Int32).toNatClampNeg r_7) (upd v_codec (4 : Int32).toNatClampNeg r_10) (upd v_size (4 : Int32).toNatClampNeg r_13) (upd v_words (4 : Int32).toNatClampNeg r_16) v_impact v_letter v_word v_gap v_draft 4 0 h ?_
            intro v_drafted_35 v_place_36 v_over_37 v_bits_38 v_codec_39 v_size_40 v_words_41 v_impact_42 v_letter_43 v_word_44 v_gap_45 v_draft_46 l1_47 h
            refine a_iconst C (pc := 162) dX9_reads_162 ic_0 ?_
            refine a_istore_n C (pc := 163) (lv1 := [(0, .ref h0), (1, .int l1_47), (2, .int 0)]) [1, 2, 0] dX9_reads_163 rfl (by decide) rfl ?_
            refine a_iconst C (pc := 164) dX9_reads_164 ic_0 ?_
            refine a_istore_n C (pc := 165) (lv1 := [(0, .ref h0), (1, .int l1_47), (2, .int 0), (3, .int 0)]) [1, 2, 3, 0] dX9_reads_165 rfl (by decide) rfl ?_
            obtain ⟨n0, h⟩ := h
            refine w_X9_reads_166 C (Nat.le_of_ble_eq_true rfl) (Nat.le_of_ble_eq_true rfl) n0 v_drafted_35 v_place_36 v_over_37 v_bits_38 v_codec_39 v_size_40 v_words_41 v_impact_42 v_letter_43 v_word_44 v_gap_45 v_draft_46 l1_47 0 0 h ?_
            intro v_drafted_69 v_place_70 v_over_71 v_bits_72 v_codec_73 v_size_74 v_words_75 v_impact_76 v_letter_77 v_word_78 v_gap_79 v_draft_80 l1_81 l2_82 h
            refine a_iload_n C (pc := 202) 2 dX9_reads_202 rfl rfl ?_
            refine a_sipush C (pc := 203) dX9_reads_203 sp_600 ?_
            refine a_icmp_le C (pc := 206) 211 dX9_reads_206 (by decide) (fun hc => ?_) (fun hc => ?_)
            · have h := h.1 hc
              refine a_aload_n C (pc := 211) 0 dX9_reads_211 rfl rfl ?_
              refine a_iload_n C (pc := 212) 1 dX9_reads_212 rfl rfl ?_
              refine a_callV C (pc := 213) (av := [.int l1_81]) (wr := [((d0 21), aI cs 16000 v_file), ((d0 3), aI cs 8 v_word_78)]) (m_X9_writes Lx Dx cs h0 d0 v_thrown v_taped v_at v_documents v_terms v_latest v_filed v_drafted_69 v_place_70 v_over_71 v_clock v_askedTerms v_segments v_done v_postingsDone v_postingsAll v_why v_hits v_draft_80 v_bits_72 v_codec_73 v_size_74 v_words_75 v_letter_77 v_impact_76 v_gap_79 l1_81 _ h) [0, 10, 2, 3, 4, 5, 7, 6, 9] [1, 8] rfl rfl (by decide) (by decide) (by decide) wM_X9_216 wb_X9_writes hy_X9_writes (q0 := 0) rfl rfl rfl ⟨Nat.le_of_ble_eq_true rfl, Nat.le_of_ble_eq_true rfl⟩ (Nat.le_of_ble_eq_true rfl) (Nat.le_of_ble_eq_true rfl) (Nat.le_of_ble_eq_true rfl) rfl dX9_reads_213 (fun v w1 hw => ?_) [] rfl (fun _ _ h => h.elim)
              obtain ⟨v_drafted_83, v_draft_84, v_gap_85, rfl, rfl, h⟩ := hw
              refine a_ws (st1 := []) (ws1 := [(h0, oX9 d0 v_thrown v_taped v_at v_documents v_terms v_latest v_filed v_drafted_83 v_place_70 v_over_71 v_clock v_askedTerms v_segments v_done v_postingsDone v_postingsAll v_why v_hits), ((d0 21), aI cs 16000 v_file), ((d0 11), aI cs 5 v_bits_72), ((d0 12), aI cs 5 v_codec_73), ((d0 13), aI cs 5 v_size_74), ((d0 14), aI cs 5 v_words_75), ((d0 16), aI cs 12800 v_impact_76), ((d0 15), aI cs 2560 v_letter_77), ((d0 3), aI cs 8 v_word_78), ((d0 27), aI cs 40 v_gap_85), ((d0 22), aI cs 16000 v_draft_84)]) 0 0 216 [2, 0, 4, 5, 6, 7, 9, 8, 1, 10, 3] rfl rfl rfl rfl (by decide) rfl ?_
              refine a_aload_n C (pc := 216) 0 dX9_reads_216 rfl rfl ?_
              refine a_get C (pc := 217) 0 24 inW_X9 rfl rfl (Nat.le_of_ble_eq_true rfl) wF_X9_168 rfl rfl dX9_reads_217 ?_
              refine a_aload_n C (pc := 220) 0 dX9_reads_220 rfl rfl ?_
              refine a_get C (pc := 221) 0 23 inW_X9 rfl rfl (Nat.le_of_ble_eq_true rfl) wF_X9_219 rfl rfl dX9_reads_221 ?_
              refine a_icmp_ne C (pc := 224) 231 dX9_reads_224 (by decide) (fun hc => ?_) (fun hc => ?_)
              · have h := h.1 hc
                refine a_iconst C (pc := 231) dX9_reads_231 ic_0 ?_
                refine a_istore_n C (pc := 232) (lv1 := [(0, .ref h0), (1, .int l1_81), (2, .int l2_82), (3, .int 0)]) [1, 2, 3, 0] dX9_reads_232 rfl (by decide) rfl ?_
                refine a_iconst C (pc := 233) dX9_reads_233 ic_0 ?_
                refine a_istore C (pc := 234) (lv1 := [(0, .ref h0), (1, .int l1_81), (2, .int l2_82), (3, .int 0), (4, .int 0)]) [1, 2, 3, 4, 0] dX9_reads_234 (by decide) rfl ?_
                obtain ⟨n0, h⟩ := h
                refine a_lv (lv1 := [(0, .ref h0), (3, .int 0), (4, .int 0)]) [0, 3, 4] rfl ?_
                refine w_X9_reads_236 C (Nat.le_of_ble_eq_true rfl) (Nat.le_of_ble_eq_true rfl) n0 v_drafted_83 v_place_70 v_over_71 v_bits_72 v_codec_73 v_size_74 v_words_75 v_impact_76 v_letter_77 v_word_78 v_gap_85 v_draft_84 0 0 h ?_
                intro v_drafted_99 v_place_100 v_over_101 v_bits_102 v_codec_103 v_size_104 v_words_105 v_impact_106 v_letter_107 v_word_108 v_gap_109 v_draft_110 l3_111 h
                refine a_iload_n C (pc := 278) 0 dX9_reads_278 rfl rfl ?_
                exact a_zreturn C (pc := 279) rfl h.1.1 dX9_reads_279 (Nat.le_of_ble_eq_true rfl) (Nat.le_of_ble_eq_true rfl) ⟨_, _, _, _, _, _, _, _, _, _, _, _, _, rfl, rfl, h.2⟩
              · have h := h.2 hc
                refine a_iconst C (pc := 227) dX9_reads_227 ic_1 ?_
                refine a_goto C (pc := 228) 232 dX9_reads_228 (by decide) ?_
                refine a_istore_n C (pc := 232) (lv1 := [(0, .ref h0), (1, .int l1_81), (2, .int l2_82), (3, .int 1)]) [1, 2, 3, 0] dX9_reads_232 rfl (by decide) rfl ?_
                refine a_iconst C (pc := 233) dX9_reads_233 ic_0 ?_
                refine a_istore C (pc := 234) (lv1 := [(0, .ref h0), (1, .int l1_81), (2, .int l2_82), (3, .int 1), (4, .int 0)]) [1, 2, 3, 4, 0] dX9_reads_234 (by decide) rfl ?_
                obtain ⟨n0, h⟩ := h
                refine a_lv (lv1 := [(0, .ref h0), (3, .int 1), (4, .int 0)]) [0, 3, 4] rfl ?_
                refine w_X9_reads_236 C (Nat.le_of_ble_eq_true rfl) (Nat.le_of_ble_eq_true rfl) n0 v_drafted_83 v_place_70 v_over_71 v_bits_72 v_codec_73 v_size_74 v_words_75 v_impact_76 v_letter_77 v_word_78 v_gap_85 v_draft_84 1 0 h ?_
                intro v_drafted_112 v_place_113 v_over_114 v_bits_115 v_codec_116 v_size_117 v_words_118 v_impact_119 v_letter_120 v_word_121 v_gap_122 v_draft_123 l3_124 h
                refine a_iload_n C (pc := 278) 0 dX9_reads_278 rfl rfl ?_
                exact a_zreturn C (pc := 279) rfl h.1.1 dX9_reads_279 (Nat.le_of_ble_eq_true rfl) (Nat.le_of_ble_eq_true rfl) ⟨_, _, _, _, _, _, _, _, _, _, _, _, _, rfl, rfl, h.2⟩
            · have h := h.2 hc
              refine a_iconst C (pc := 209) dX9_reads_209 ic_0 ?_
              exact a_zreturn C (pc := 210) rfl rfl dX9_reads_210 (Nat.le_of_ble_eq_true rfl) (Nat.le_of_ble_eq_true rfl) ⟨_, _, _, _, _, _, _, _, _, _, _, _, _, rfl, rfl, h⟩
          · have h := h.2 hc
            refine a_iconst C (pc := 132) dX9_reads_132 ic_0 ?_
            exact a_zreturn C (pc := 133) rfl rfl dX9_reads_133 (Nat.le_of_ble_eq_true rfl) (Nat.le_of_ble_eq_true rfl) ⟨_, _, _, _, _, _, _, _, _, _, _, _, _, rfl, rfl, h⟩
set_option maxRecDepth 100000 in
set_option maxHeartbeats 4000000 in
theorem w_X9_slotOf_2 {Γ : XG} {Lx : Launch} {Dx : va_G} {cs : Nat → ClassId} {h0 : Nat} {d0 : Nat → Nat} {v_thrown : Int32} {v_taped : Int32} {v_at : Int32} {v_documents : Int32} {v_terms : Int32} {v_latest : Int32} {v_filed : Int32} {v_drafted : Int32} {v_place : Int32} {v_over : Int32} {v_clock : Int64} {v_askedTerms : Int32} {v_segments : Int32} {v_done : Int32} {v_postingsDone : Int32} {v_postingsAll : Int32} {v_why : Int32} {v_hits : Int32} {v_kept : Nat → Int32} {v_generation : Nat → Int32} {K_34 : Prop} {Φ : Int32 → Prop} {k n9 : Nat} (C : CX Γ Lx Dx cs cX9_slotOf RX9 "slotOf" 3 (some .int) 0 0 0 0 (qEC cs 0 0 [] (R_X9_slotOf cs h0 d0 v_thrown v_taped v_at v_documents v_terms v_latest v_filed v_drafted v_place v_over v_clock v_askedTerms v_segments v_done v_postingsDone v_postingsAll v_why v_hits v_kept v_generation Φ) (fun _ _ => False))) (hkm : k ≤ 0) (hnm : n9 ≤ 0) : ∀ n : Nat, ∀ (l1 : Int32) (l2 : Int32), L_X9_slotOf_2 n v_kept v_generation l1 l2 K_34 Φ → (K_34 → AW Γ k n9 34 [] [] [(h0, oX9 d0 v_thrown v_taped v_at v_documents v_terms v_latest v_filed v_drafted v_place v_over v_clock v_askedTerms v_segments v_done v_postingsDone v_postingsAll v_why v_hits), ((d0 18), aZ cs 5 v_kept), ((d0 17), aI cs 5 v_generation)]) → AW Γ k n9 2 [(0, .ref h0), (1, .int l1), (2, .int l2)] [] [(h0, oX9 d0 v_thrown v_taped v_at v_documents v_terms v_latest v_filed v_drafted v_place v_over v_clock v_askedTerms v_segments v_done v_postingsDone v_postingsAll v_why v_hits), ((d0 18), aZ cs 5 v_kept), ((d0 17), aI cs 5 v_generation)] := by
  intro n
  induction n with
  | zero =>
    intro l1 l2 h
    exact False.elim h
  | succ n ih =>
    intro l1 l2 h hK_34
    rw [L_X9_slotOf_2] at h
    refine a_iload_n C (pc := 2) 2 dX9_slotOf_2 rfl rfl ?_
    refine a_iconst C (pc := 3) dX9_slotOf_3 ic_4 ?_
    refine a_icmp_ge C (pc := 4) 34 dX9_slotOf_4 (by decide) (fun hc => ?_) (fun hc => ?_)
    · have h := h.1 hc
      refine a_lv (lv1 := []) [] rfl ?_
      exact hK_34 h
    · have h := h.2 hc
      refine a_aload_n C (pc := 7) 0 dX9_slotOf_7 rfl rfl ?_
      refine a_get C (pc := 8) 0 18 inW_X9 rfl rfl (Nat.le_of_ble_eq_true rfl) wF_X9_49 rfl rfl dX9_slotOf_8 ?_
      refine a_iload_n C (pc := 11) 2 dX9_slotOf_11 rfl rfl ?_
      refine a_zald C (pc := 12) 1 rfl h.1 dX9_slotOf_12 ?_
      replace h := h.2
      refine a_if_eq C (pc := 13) 28 dX9_slotOf_13 (by decide) (fun hc => ?_) (fun hc => ?_)
      · have h := h.1 hc
        refine a_iinc C (pc := 28) (lv1 := [(0, .ref h0), (1, .int l1), (2, .int (l2 + 1))]) 2 [1, 2, 0] dX9_slotOf_28 rfl (congrArg (fun z => l2 + z) ic_1) (by decide) rfl ?_
        refine a_goto C (pc := 31) 2 dX9_slotOf_31 (by decide) ?_
        exact ih l1 (l2 + 1) h hK_34
      · have h := h.2 hc
        refine a_aload_n C (pc := 16) 0 dX9_slotOf_16 rfl rfl ?_
        refine a_get C (pc := 17) 0 17 inW_X9 rfl rfl (Nat.le_of_ble_eq_true rfl) wF_X9_46 rfl rfl dX9_slotOf_17 ?_
        refine a_iload_n C (pc := 20) 2 dX9_slotOf_20 rfl rfl ?_
        refine a_iald C (pc := 21) 2 rfl h.1 dX9_slotOf_21 ?_
        replace h := h.2
        refine a_iload_n C (pc := 22) 1 dX9_slotOf_22 rfl rfl ?_
        refine a_icmp_ne C (pc := 23) 28 dX9_slotOf_23 (by decide) (fun hc => ?_) (fun hc => ?_)
        · have h := h.1 hc
          refine a_iinc C (pc := 28) (lv1 := [(0, .ref h0), (1, .int l1), (2, .int (l2 + 1))]) 2 [1, 2, 0] dX9_slotOf_28 rfl (congrArg (fun z => l2 + z) ic_1) (by decide) rfl ?_
          refine a_goto C (pc := 31) 2 dX9_slotOf_31 (by decide) ?_
          exact ih l1 (l2 + 1) h hK_34
        · have h := h.2 hc
          refine a_iload_n C (pc := 26) 2 dX9_slotOf_26 rfl rfl ?_
          exact a_ireturn C (pc := 27) rfl dX9_slotOf_27 hkm hnm ⟨_, rfl, rfl, h⟩
set_option maxRecDepth 100000 in
set_option maxHeartbeats 4000000 in
theorem m_X9_slotOf (Lx : Launch) (Dx : va_G) (cs : Nat → ClassId) (h0 : Nat) (d0 : Nat → Nat) (v_thrown : Int32) (v_taped : Int32) (v_at : Int32) (v_documents : Int32) (v_terms : Int32) (v_latest : Int32) (v_filed : Int32) (v_drafted : Int32) (v_place : Int32) (v_over : Int32) (v_clock : Int64) (v_askedTerms : Int32) (v_segments : Int32) (v_done : Int32) (v_postingsDone : Int32) (v_postingsAll : Int32) (v_why : Int32) (v_hits : Int32) (v_kept : Nat → Int32) (v_generation : Nat → Int32) (l1 : Int32) (Φ : Int32 → Prop) (h : P_X9_slotOf v_kept v_generation l1 Φ) : XMet Lx Dx cs yX9_slotOf cX9_slotOf 3 (some .int) 0 0 0 0 [.ref h0, .int l1] [(h0, oX9 d0 v_thrown v_taped v_at v_documents v_terms v_latest v_filed v_drafted v_place v_over v_clock v_askedTerms v_segments v_done v_postingsDone v_postingsAll v_why v_hits), ((d0 18), aZ cs 5 v_kept), ((d0 17), aI cs 5 v_generation)] (R_X9_slotOf cs h0 d0 v_thrown v_taped v_at v_documents v_terms v_latest v_filed v_drafted v_place v_over v_clock v_askedTerms v_segments v_done v_postingsDone v_postingsAll v_why v_hits v_kept v_generation Φ) (fun _ _ => False) := by
  refine XMet.of (own := RX9) (nm := "slotOf") (by decide) rfl rfl (Nat.le_of_ble_eq_true rfl) (fun Γ C => ?_)
  unfold P_X9_slotOf at h
  refine a_iconst C (pc := 0) dX9_slotOf_0 ic_0 ?_
  refine a_istore_n C (pc := 1) (lv1 := [(0, .ref h0), (1, .int l1), (2, .int 0)]) [1, 2, 0] dX9_slotOf_1 rfl (by decide) rfl ?_
  obtain ⟨n0, h⟩ := h
  refine w_X9_slotOf_2 C (Nat.le_of_ble_eq_true rfl) (Nat.le_of_ble_eq_true rfl) n0 l1 0 h ?_
  intro h
  refine a_iconst C (pc := 34) dX9_slotOf_34 ic_m1 ?_
  exact a_ireturn C (pc := 35) rfl dX9_slotOf_35 (Nat.le_of_ble_eq_true rfl) (Nat.le_of_ble_eq_true rfl) ⟨_, rfl, rfl, h⟩
set_option maxRecDepth 100000 in
set_option maxHeartbeats 4000000 in
theorem w_X9_isHeld_4 {Γ : XG} {Lx : Launch} {Dx : va_G} {cs : Nat → ClassId} {h0 : Nat} {d0 : Nat → Nat} {v_thrown : Int32} {v_taped : Int32} {v_at : Int32} {v_documents : Int32} {v_terms : Int32} {v_latest : Int32} {v_filed : Int32} {v_drafted : Int32} {v_place : Int32} {v_over : Int32} {v_clock : Int64} {v_askedTerms : Int32} {v_segments : Int32} {v_done : Int32} {v_postingsDone : Int32} {v_postingsAll : Int32} {v_why : Int32} {v_hits : Int32} {v_holds : Nat → Int32} {K_35 : Int32 → Prop} {Φ : Int32 → Prop} {k n9 : Nat} (C : CX Γ Lx Dx cs cX9_isHeld RX9 "isHeld" 4 (some .boolean) 0 0 0 0 (qEC cs 0 0 [] (R_X9_isHeld cs h0 d0 v_thrown v_taped v_at v_documents v_terms v_latest v_filed v_drafted v_place v_over v_clock v_askedTerms v_segments v_done v_postingsDone v_postingsAll v_why v_hits v_holds Φ) (fun _ _ => False))) (hkm : k ≤ 0) (hnm : n9 ≤ 0) : ∀ n : Nat, ∀ (l1 : Int32) (l2 : Int32) (l3 : Int32), L_X9_isHeld_4 n v_holds l1 l2 l3 K_35 Φ → (∀ (l2_1 : Int32), K_35 l2_1 → AW Γ k n9 35 [(2, .int l2_1)] [] [(h0, oX9 d0 v_thrown v_taped v_at v_documents v_terms v_latest v_filed v_drafted v_place v_over v_clock v_askedTerms v_segments v_done v_postingsDone v_postingsAll v_why v_hits), ((d0 20), aI cs 4 v_holds)]) → AW Γ k n9 4 [(0, .ref h0), (1, .int l1), (2, .int l2), (3, .int l3)] [] [(h0, oX9 d0 v_thrown v_taped v_at v_documents v_terms v_latest v_filed v_drafted v_place v_over v_clock v_askedTerms v_segments v_done v_postingsDone v_postingsAll v_why v_hits), ((d0 20), aI cs 4 v_holds)] := by
  intro n
  induction n with
  | zero =>
    intro l1 l2 l3 h
    exact False.elim h
  | succ n ih =>
    intro l1 l2 l3 h hK_35
    rw [L_X9_isHeld_4] at h
    refine a_iload_n C (pc := 4) 3 dX9_isHeld_4 rfl rfl ?_
    refine a_iconst C (pc := 5) dX9_isHeld_5 ic_4 ?_
    refine a_icmp_ge C (pc := 6) 35 dX9_isHeld_6 (by decide) (fun hc => ?_) (fun hc => ?_)
    · have h := h.1 hc
      refine a_lv (lv1 := [(2, .int l2)]) [2] rfl ?_
      exact hK_35 l2 h
    · have h := h.2 hc
      refine a_iload_n C (pc := 9) 2 dX9_isHeld_9 rfl rfl ?_
      refine a_if_ne C (pc := 10) 23 dX9_isHeld_10 (by decide) (fun hc => ?_) (fun hc => ?_)
      · have h := h.1 hc
        refine a_iconst C (pc := 23) dX9_isHeld_23 ic_1 ?_
        refine a_goto C (pc := 24) 28 dX9_isHeld_24 (by decide) ?_
        refine a_istore_n C (pc := 28) (lv1 := [(0, .ref h0), (1, .int l1), (2, .int 1), (3, .int l3)]) [1, 2, 0, 3] dX9_isHeld_28 rfl (by decide) rfl ?_
        refine a_iinc C (pc := 29) (lv1 := [(0, .ref h0), (1, .int l1), (2, .int 1), (3, .int (l3 + 1))]) 3 [1, 2, 3, 0] dX9_isHeld_29 rfl (congrArg (fun z => l3 + z) ic_1) (by decide) rfl ?_
        refine a_goto C (pc := 32) 4 dX9_isHeld_32 (by decide) ?_
        exact ih l1 1 (l3 + 1) h hK_35
      · have h := h.2 hc
        refine a_aload_n C (pc := 13) 0 dX9_isHeld_13 rfl rfl ?_
        refine a_get C (pc := 14) 0 20 inW_X9 rfl rfl (Nat.le_of_ble_eq_true rfl) wF_X9_53 rfl rfl dX9_isHeld_14 ?_
        refine a_iload_n C (pc := 17) 3 dX9_isHeld_17 rfl rfl ?_
        refine a_iald C (pc := 18) 1 rfl h.1 dX9_isHeld_18 ?_
        replace h := h.2
        refine a_iload_n C (pc := 19) 1 dX9_isHeld_19 rfl rfl ?_
        refine a_icmp_ne C (pc := 20) 27 dX9_isHeld_20 (by decide) (fun hc => ?_) (fun hc => ?_)
        · have h := h.1 hc
          refine a_iconst C (pc := 27) dX9_isHeld_27 ic_0 ?_
          refine a_istore_n C (pc := 28) (lv1 := [(0, .ref h0), (1, .int l1), (2, .int 0), (3, .int l3)]) [1, 2, 0, 3] dX9_isHeld_28 rfl (by decide) rfl ?_
          refine a_iinc C (pc := 29) (lv1 := [(0, .ref h0), (1, .int l1), (2, .int 0), (3, .int (l3 + 1))]) 3 [1, 2, 3, 0] dX9_isHeld_29 rfl (congrArg (fun z => l3 + z) ic_1) (by decide) rfl ?_
          refine a_goto C (pc := 32) 4 dX9_isHeld_32 (by decide) ?_
          exact ih l1 0 (l3 + 1) h hK_35
        · have h := h.2 hc
          refine a_iconst C (pc := 23) dX9_isHeld_23 ic_1 ?_
          refine a_goto C (pc := 24) 28 dX9_isHeld_24 (by decide) ?_
          refine a_istore_n C (pc := 28) (lv1 := [(0, .ref h0), (1, .int l1), (2, .int 1), (3, .int l3)]) [1, 2, 0, 3] dX9_isHeld_28 rfl (by decide) rfl ?_
          refine a_iinc C (pc := 29) (lv1 := [(0, .ref h0), (1, .int l1), (2, .int 1), (3, .int (l3 + 1))]) 3 [1, 2, 3, 0] dX9_isHeld_29 rfl (congrArg (fun z => l3 + z) ic_1) (by decide) rfl ?_
          refine a_goto C (pc := 32) 4 dX9_isHeld_32 (by decide) ?_
          exact ih l1 1 (l3 + 1) h hK_35
set_option maxRecDepth 100000 in
set_option maxHeartbeats 4000000 in
theorem m_X9_isHeld (Lx : Launch) (Dx : va_G) (cs : Nat → ClassId) (h0 : Nat) (d0 : Nat → Nat) (v_thrown : Int32) (v_taped : Int32) (v_at : Int32) (v_documents : Int32) (v_terms : Int32) (v_latest : Int32) (v_filed : Int32) (v_drafted : Int32) (v_place : Int32) (v_over : Int32) (v_clock : Int64) (v_askedTerms : Int32) (v_segments : Int32) (v_done : Int32) (v_postingsDone : Int32) (v_postingsAll : Int32) (v_why : Int32) (v_hits : Int32) (v_holds : Nat → Int32) (l1 : Int32) (Φ : Int32 → Prop) (h : P_X9_isHeld v_holds l1 Φ) : XMet Lx Dx cs yX9_isHeld cX9_isHeld 4 (some .boolean) 0 0 0 0 [.ref h0, .int l1] [(h0, oX9 d0 v_thrown v_taped v_at v_documents v_terms v_latest v_filed v_drafted v_place v_over v_clock v_askedTerms v_segments v_done v_postingsDone v_postingsAll v_why v_hits), ((d0 20), aI cs 4 v_holds)] (R_X9_isHeld cs h0 d0 v_thrown v_taped v_at v_documents v_terms v_latest v_filed v_drafted v_place v_over v_clock v_askedTerms v_segments v_done v_postingsDone v_postingsAll v_why v_hits v_holds Φ) (fun _ _ => False) := by
  refine XMet.of (own := RX9) (nm := "isHeld") (by decide) rfl rfl (Nat.le_of_ble_eq_true rfl) (fun Γ C => ?_)
  unfold P_X9_isHeld at h
  refine a_iconst C (pc := 0) dX9_isHeld_0 ic_0 ?_
  refine a_istore_n C (pc := 1) (lv1 := [(0, .ref h0), (1, .int l1), (2, .int 0)]) [1, 2, 0] dX9_isHeld_1 rfl (by decide) rfl ?_
  refine a_iconst C (pc := 2) dX9_isHeld_2 ic_0 ?_
  refine a_istore_n C (pc := 3) (lv1 := [(0, .ref h0), (1, .int l1), (2, .int 0), (3, .int 0)]) [1, 2, 3, 0] dX9_isHeld_3 rfl (by decide) rfl ?_
  obtain ⟨n0, h⟩ := h
  refine w_X9_isHeld_4 C (Nat.le_of_ble_eq_true rfl) (Nat.le_of_ble_eq_true rfl) n0 l1 0 0 h ?_
  intro l2_2 h
  refine a_iload_n C (pc := 35) 0 dX9_isHeld_35 rfl rfl ?_
  exact a_zreturn C (pc := 36) rfl h.1.1 dX9_isHeld_36 (Nat.le_of_ble_eq_true rfl) (Nat.le_of_ble_eq_true rfl) ⟨_, rfl, rfl, h.2⟩
set_option maxRecDepth 100000 in
set_option maxHeartbeats 4000000 in
theorem w_X9_keptMany_4 {Γ : XG} {Lx : Launch} {Dx : va_G} {cs : Nat → ClassId} {h0 : Nat} {d0 : Nat → Nat} {v_thrown : Int32} {v_taped : Int32} {v_at : Int32} {v_documents : Int32} {v_terms : Int32} {v_latest : Int32} {v_filed : Int32} {v_drafted : Int32} {v_place : Int32} {v_over : Int32} {v_clock : Int64} {v_askedTerms : Int32} {v_segments : Int32} {v_done : Int32} {v_postingsDone : Int32} {v_postingsAll : Int32} {v_why : Int32} {v_hits : Int32} {v_kept : Nat → Int32} {K_32 : Int32 → Prop} {Φ : Int32 → Prop} {k n9 : Nat} (C : CX Γ Lx Dx cs cX9_keptMany RX9 "keptMany" 3 (some .int) 0 0 0 0 (qEC cs 0 0 [] (R_X9_keptMany cs h0 d0 v_thrown v_taped v_at v_documents v_terms v_latest v_filed v_drafted v_place v_over v_clock v_askedTerms v_segments v_done v_postingsDone v_postingsAll v_why v_hits v_kept Φ) (fun _ _ => False))) (hkm : k ≤ 0) (hnm : n9 ≤ 0) : ∀ n : Nat, ∀ (l1 : Int32) (l2 : Int32), L_X9_keptMany_4 n v_kept l1 l2 K_32 Φ → (∀ (l1_1 : Int32), K_32 l1_1 → AW Γ k n9 32 [(1, .int l1_1)] [] [(h0, oX9 d0 v_thrown v_taped v_at v_documents v_terms v_latest v_filed v_drafted v_place v_over v_clock v_askedTerms v_segments v_done v_postingsDone v_postingsAll v_why v_hits), ((d0 18), aZ cs 5 v_kept)]) → AW Γ k n9 4 [(0, .ref h0), (1, .int l1), (2, .int l2)] [] [(h0, oX9 d0 v_thrown v_taped v_at v_documents v_terms v_latest v_filed v_drafted v_place v_over v_clock v_askedTerms v_segments v_done v_postingsDone v_postingsAll v_why v_hits), ((d0 18), aZ cs 5 v_kept)] := by
  intro n
  induction n with
  | zero =>
    intro l1 l2 h
    exact False.elim h
  | succ n ih =>
    intro l1 l2 h hK_32
    rw [L_X9_keptMany_4] at h
    refine a_iload_n C (pc := 4) 2 dX9_keptMany_4 rfl rfl ?_
    refine a_iconst C (pc := 5) dX9_keptMany_5 ic_4 ?_
    refine a_icmp_ge C (pc := 6) 32 dX9_keptMany_6 (by decide) (fun hc => ?_) (fun hc => ?_)
    · have h := h.1 hc
      refine a_lv (lv1 := [(1, .int l1)]) [1] rfl ?_
      exact hK_32 l1 h
    · have h := h.2 hc
      refine a_iload_n C (pc := 9) 1 dX9_keptMany_9 rfl rfl ?_
      refine a_aload_n C (pc := 10) 0 dX9_keptMany_10 rfl rfl ?_
      refine a_get C (pc := 11) 0 18 inW_X9 rfl rfl (Nat.le_of_ble_eq_true rfl) wF_X9_49 rfl rfl dX9_keptMany_11 ?_
      refine a_iload_n C (pc := 14) 2 dX9_keptMany_14 rfl rfl ?_
      refine a_zald C (pc := 15) 1 rfl h.1 dX9_keptMany_15 ?_
      replace h := h.2
      refine a_if_eq C (pc := 16) 23 dX9_keptMany_16 (by decide) (fun hc => ?_) (fun hc => ?_)
      · have h := h.1 hc
        refine a_iconst C (pc := 23) dX9_keptMany_23 ic_0 ?_
        refine a_iadd C (pc := 24) dX9_keptMany_24 ?_
        refine a_istore_n C (pc := 25) (lv1 := [(0, .ref h0), (1, .int (l1 + 0)), (2, .int l2)]) [1, 0, 2] dX9_keptMany_25 rfl (by decide) rfl ?_
        refine a_iinc C (pc := 26) (lv1 := [(0, .ref h0), (1, .int (l1 + 0)), (2, .int (l2 + 1))]) 2 [1, 2, 0] dX9_keptMany_26 rfl (congrArg (fun z => l2 + z) ic_1) (by decide) rfl ?_
        refine a_goto C (pc := 29) 4 dX9_keptMany_29 (by decide) ?_
        exact ih (l1 + 0) (l2 + 1) h hK_32
      · have h := h.2 hc
        refine a_iconst C (pc := 19) dX9_keptMany_19 ic_1 ?_
        refine a_goto C (pc := 20) 24 dX9_keptMany_20 (by decide) ?_
        refine a_iadd C (pc := 24) dX9_keptMany_24 ?_
        refine a_istore_n C (pc := 25) (lv1 := [(0, .ref h0), (1, .int (l1 + 1)), (2, .int l2)]) [1, 0, 2] dX9_keptMany_25 rfl (by decide) rfl ?_
        refine a_iinc C (pc := 26) (lv1 := [(0, .ref h0), (1, .int (l1 + 1)), (2, .int (l2 + 1))]) 2 [1, 2, 0] dX9_keptMany_26 rfl (congrArg (fun z => l2 + z) ic_1) (by decide) rfl ?_
        refine a_goto C (pc := 29) 4 dX9_keptMany_29 (by decide) ?_
        exact ih (l1 + 1) (l2 + 1) h hK_32
set_option maxRecDepth 100000 in
set_option maxHeartbeats 4000000 in
theorem m_X9_keptMany (Lx : Launch) (Dx : va_G) (cs : Nat → ClassId) (h0 : Nat) (d0 : Nat → Nat) (v_thrown : Int32) (v_taped : Int32) (v_at : Int32) (v_documents : Int32) (v_terms : Int32) (v_latest : Int32) (v_filed : Int32) (v_drafted : Int32) (v_place : Int32) (v_over : Int32) (v_clock : Int64) (v_askedTerms : Int32) (v_segments : Int32) (v_done : Int32) (v_postingsDone : Int32) (v_postingsAll : Int32) (v_why : Int32) (v_hits : Int32) (v_kept : Nat → Int32) (Φ : Int32 → Prop) (h : P_X9_keptMany v_kept Φ) : XMet Lx Dx cs yX9_keptMany cX9_keptMany 3 (some .int) 0 0 0 0 [.ref h0] [(h0, oX9 d0 v_thrown v_taped v_at v_documents v_terms v_latest v_filed v_drafted v_place v_over v_clock v_askedTerms v_segments v_done v_postingsDone v_postingsAll v_why v_hits), ((d0 18), aZ cs 5 v_kept)] (R_X9_keptMany cs h0 d0 v_thrown v_taped v_at v_documents v_terms v_latest v_filed v_drafted v_place v_over v_clock v_askedTerms v_segments v_done v_postingsDone v_postingsAll v_why v_hits v_kept Φ) (fun _ _ => False) := by
  refine XMet.of (own := RX9) (nm := "keptMany") (by decide) rfl rfl (Nat.le_of_ble_eq_true rfl) (fun Γ C => ?_)
  unfold P_X9_keptMany at h
  refine a_iconst C (pc := 0) dX9_keptMany_0 ic_0 ?_
  refine a_istore_n C (pc := 1) (lv1 := [(0, .ref h0), (1, .int 0)]) [1, 0] dX9_keptMany_1 rfl (by decide) rfl ?_
  refine a_iconst C (pc := 2) dX9_keptMany_2 ic_0 ?_
  refine a_istore_n C (pc := 3) (lv1 := [(0, .ref h0), (1, .int 0), (2, .int 0)]) [1, 2, 0] dX9_keptMany_3 rfl (by decide) rfl ?_
  obtain ⟨n0, h⟩ := h
  refine w_X9_keptMany_4 C (Nat.le_of_ble_eq_true rfl) (Nat.le_of_ble_eq_true rfl) n0 0 0 h ?_
  intro l1_2 h
  refine a_iload_n C (pc := 32) 0 dX9_keptMany_32 rfl rfl ?_
  exact a_ireturn C (pc := 33) rfl dX9_keptMany_33 (Nat.le_of_ble_eq_true rfl) (Nat.le_of_ble_eq_true rfl) ⟨_, rfl, rfl, h⟩
set_option maxRecDepth 100000 in
set_option maxHeartbeats 4000000 in
theorem w_X9_copies_50 {Γ : XG} {Lx : Launch} {Dx : va_G} {cs : Nat → ClassId} {h0 : Nat} {d0 : Nat → Nat} {v_thrown : Int32} {v_taped : Int32} {v_at : Int32} {v_documents : Int32} {v_terms : Int32} {v_latest : Int32} {v_filed : Int32} {v_drafted : Int32} {v_place : Int32} {v_over : Int32} {v_clock : Int64} {v_askedTerms : Int32} {v_segments : Int32} {v_done : Int32} {v_postingsDone : Int32} {v_postingsAll : Int32} {v_why : Int32} {v_hits : Int32} {K_87 : (Nat → Int32) → (Nat → Int32) → (Nat → Int32) → (Nat → Int32) → (Nat → Int32) → (Nat → Int32) → Int32 → Int32 → Prop} {Φ : (Nat → Int32) → (Nat → Int32) → (Nat → Int32) → (Nat → Int32) → (Nat → Int32) → (Nat → Int32) → Prop} {k n9 : Nat} (C : CX Γ Lx Dx cs cX9_copies RX9 "copies" 4 none 0 0 0 0 (qEC cs 0 0 [] (R_X9_copies cs h0 d0 v_thrown v_taped v_at v_documents v_terms v_latest v_filed v_drafted v_place v_over v_clock v_askedTerms v_segments v_done v_postingsDone v_postingsAll v_why v_hits Φ) (fun _ _ => False))) (hkm : k ≤ 0) (hnm : n9 ≤ 0) : ∀ n : Nat, ∀ (v_bits : Nat → Int32) (v_codec : Nat → Int32) (v_size : Nat → Int32) (v_words : Nat → Int32) (v_letter : Nat → Int32) (v_impact : Nat → Int32) (l1 : Int32) (l2 : Int32) (l3 : Int32), L_X9_copies_50 n v_bits v_codec v_size v_words v_letter v_impact l1 l2 l3 K_87 Φ → (∀ (v_bits_1 : Nat → Int32) (v_codec_2 : Nat → Int32) (v_size_3 : Nat → Int32) (v_words_4 : Nat → Int32) (v_letter_5 : Nat → Int32) (v_impact_6 : Nat → Int32) (l1_7 : Int32) (l2_8 : Int32), K_87 v_bits_1 v_codec_2 v_size_3 v_words_4 v_letter_5 v_impact_6 l1_7 l2_8 → AW Γ k n9 87 [(0, .ref h0), (1, .int l1_7), (2, .int l2_8)] [] [(h0, oX9 d0 v_thrown v_taped v_at v_documents v_terms v_latest v_filed v_drafted v_place v_over v_clock v_askedTerms v_segments v_done v_postingsDone v_postingsAll v_why v_hits), ((d0 11), aI cs 5 v_bits_1), ((d0 12), aI cs 5 v_codec_2), ((d0 13), aI cs 5 v_size_3), ((d0 14), aI cs 5 v_words_4), ((d0 15), aI cs 2560 v_letter_5), ((d0 16), aI cs 12800 v_impact_6)]) → AW Γ k n9 50 [(0, .ref h0), (1, .int l1), (2, .int l2), (3, .int l3)] [] [(h0, oX9 d0 v_thrown v_taped v_at v_documents v_terms v_latest v_filed v_drafted v_place v_over v_clock v_askedTerms v_segments v_done v_postingsDone v_postingsAll v_why v_hits), ((d0 11), aI cs 5 v_bits), ((d0 12), aI cs 5 v_codec), ((d0 13), aI cs 5 v_size), ((d0 14), aI cs 5 v_words), ((d0 15), aI cs 2560 v_letter), ((d0 16), aI cs 12800 v_impact)] := by
  intro n
  induction n with
  | zero =>
    intro v_bits v_codec v_size v_words v_letter v_impact l1 l2 l3 h
    exact False.elim h
  | succ n ih =>
    intro v_bits v_codec v_size v_words v_letter v_impact l1 l2 l3 h hK_87
    rw [L_X9_copies_50] at h
    refine a_iload_n C (pc := 50) 3 dX9_copies_50 rfl rfl ?_
    refine a_sipush C (pc := 51) dX9_copies_51 sp_512 ?_
    refine a_icmp_ge C (pc := 54) 87 dX9_copies_54 (by decide) (fun hc => ?_) (fun hc => ?_)
    · have h := h.1 hc
      refine a_lv (lv1 := [(0, .ref h0), (1, .int l1), (2, .int l2)]) [0, 1, 2] rfl ?_
      exact hK_87 v_bits v_codec v_size v_words v_letter v_impact l1 l2 h
    · have h := h.2 hc
      refine a_aload_n C (pc := 57) 0 dX9_copies_57 rfl rfl ?_
      refine a_get C (pc := 58) 0 15 inW_X9 rfl rfl (Nat.le_of_ble_eq_true rfl) wF_X9_40 rfl rfl dX9_copies_58 ?_
      refine a_sipush C (pc := 61) dX9_copies_61 sp_512 ?_
      refine a_iload_n C (pc := 64) 2 dX9_copies_64 rfl rfl ?_
      refine a_imul C (pc := 65) dX9_copies_65 ?_
      refine a_iload_n C (pc := 66) 3 dX9_copies_66 rfl rfl ?_
      refine a_iadd C (pc := 67) dX9_copies_67 ?_
      refine a_aload_n C (pc := 68) 0 dX9_copies_68 rfl rfl ?_
      refine a_get C (pc := 69) 0 15 inW_X9 rfl rfl (Nat.le_of_ble_eq_true rfl) wF_X9_40 rfl rfl dX9_copies_69 ?_
      refine a_sipush C (pc := 72) dX9_copies_72 sp_512 ?_
      refine a_iload_n C (pc := 75) 1 dX9_copies_75 rfl rfl ?_
      refine a_imul C (pc := 76) dX9_copies_76 ?_
      refine a_iload_n C (pc := 77) 3 dX9_copies_77 rfl rfl ?_
      refine a_iadd C (pc := 78) dX9_copies_78 ?_
      refine a_iald C (pc := 79) 5 rfl h.1 dX9_copies_79 ?_
      replace h := h.2
      refine a_iast C (pc := 80) (ws1 := [(h0, oX9 d0 v_thrown v_taped v_at v_documents v_terms v_latest v_filed v_drafted v_place v_over v_clock v_askedTerms v_segments v_done v_postingsDone v_postingsAll v_why v_hits), ((d0 11), aI cs 5 v_bits), ((d0 12), aI cs 5 v_codec), ((d0 13), aI cs 5 v_size), ((d0 14), aI cs 5 v_words), ((d0 15), aI cs 2560 (upd v_letter ((512 * l2) + l3 : Int32).toNatClampNeg (v_letter ((512 * l1) + l3 : Int32).toNatClampNeg))), ((d0 16), aI cs 12800 v_impact)]) 5 rfl h.1 dX9_copies_80 rfl ?_
      replace h := h.2
      refine a_iinc C (pc := 81) (lv1 := [(0, .ref h0), (1, .int l1), (2, .int l2), (3, .int (l3 + 1))]) 3 [1, 2, 3, 0] dX9_copies_81 rfl (congrArg (fun z => l3 + z) ic_1) (by decide) rfl ?_
      refine a_goto C (pc := 84) 50 dX9_copies_84 (by decide) ?_
      exact ih v_bits v_codec v_size v_words (upd v_letter ((512 * l2) + l3 : Int32).toNatClampNeg (v_letter ((512 * l1) + l3 : Int32).toNatClampNeg)) v_impact l1 l2 (l3 + 1) h hK_87
set_option maxRecDepth 100000 in
set_option maxHeartbeats 4000000 in
theorem w_X9_copies_89 {Γ : XG} {Lx : Launch} {Dx : va_G} {cs : Nat → ClassId} {h0 : Nat} {d0 : Nat → Nat} {v_thrown : Int32} {v_taped : Int32} {v_at : Int32} {v_documents : Int32} {v_terms : Int32} {v_latest : Int32} {v_filed : Int32} {v_drafted : Int32} {v_place : Int32} {v_over : Int32} {v_clock : Int64} {v_askedTerms : Int32} {v_segments : Int32} {v_done : Int32} {v_postingsDone : Int32} {v_postingsAll : Int32} {v_why : Int32} {v_hits : Int32} {K_126 : (Nat → Int32) → (Nat → Int32) → (Nat → Int32) → (Nat → Int32) → (Nat → Int32) → (Nat → Int32) → Prop} {Φ : (Nat → Int32) → (Nat → Int32) → (Nat → Int32) → (Nat → Int32) → (Nat → Int32) → (Nat → Int32) → Prop} {k n9 : Nat} (C : CX Γ Lx Dx cs cX9_copies RX9 "copies" 4 none 0 0 0 0 (qEC cs 0 0 [] (R_X9_copies cs h0 d0 v_thrown v_taped v_at v_documents v_terms v_latest v_filed v_drafted v_place v_over v_clock v_askedTerms v_segments v_done v_postingsDone v_postingsAll v_why v_hits Φ) (fun _ _ => False))) (hkm : k ≤ 0) (hnm : n9 ≤ 0) : ∀ n : Nat, ∀ (v_bits : Nat → Int32) (v_codec : Nat → Int32) (v_size : Nat → Int32) (v_words : Nat → Int32) (v_letter : Nat → Int32) (v_impact : Nat → Int32) (l1 : Int32) (l2 : Int32) (l3 : Int32), L_X9_copies_89 n v_bits v_codec v_size v_words v_letter v_impact l1 l2 l3 K_126 Φ → (∀ (v_bits_17 : Nat → Int32) (v_codec_18 : Nat → Int32) (v_size_19 : Nat → Int32) (v_words_20 : Nat → Int32) (v_letter_21 : Nat → Int32) (v_impact_22 : Nat → Int32), K_126 v_bits_17 v_codec_18 v_size_19 v_words_20 v_letter_21 v_impact_22 → AW Γ k n9 126 [] [] [(h0, oX9 d0 v_thrown v_taped v_at v_documents v_terms v_latest v_filed v_drafted v_place v_over v_clock v_askedTerms v_segments v_done v_postingsDone v_postingsAll v_why v_hits), ((d0 11), aI cs 5 v_bits_17), ((d0 12), aI cs 5 v_codec_18), ((d0 13), aI cs 5 v_size_19), ((d0 14), aI cs 5 v_words_20), ((d0 15), aI cs 2560 v_letter_21), ((d0 16), aI cs 12800 v_impact_22)]) → AW Γ k n9 89 [(0, .ref h0), (1, .int l1), (2, .int l2), (3, .int l3)] [] [(h0, oX9 d0 v_thrown v_taped v_at v_documents v_terms v_latest v_filed v_drafted v_place v_over v_clock v_askedTerms v_segments v_done v_postingsDone v_postingsAll v_why v_hits), ((d0 11), aI cs 5 v_bits), ((d0 12), aI cs 5 v_codec), ((d0 13), aI cs 5 v_size), ((d0 14), aI cs 5 v_words), ((d0 15), aI cs 2560 v_letter), ((d0 16), aI cs 12800 v_impact)] := by
  intro n
  induction n with
  | zero =>
    intro v_bits v_codec v_size v_words v_letter v_impact l1 l2 l3 h
    exact False.elim h
  | succ n ih =>
    intro v_bits v_codec v_size v_words v_letter v_impact l1 l2 l3 h hK_126
    rw [L_X9_copies_89] at h
    refine a_iload_n C (pc := 89) 3 dX9_copies_89 rfl rfl ?_
    refine a_sipush C (pc := 90) dX9_copies_90 sp_2560 ?_
    refine a_icmp_ge C (pc := 93) 126 dX9_copies_93 (by decide) (fun hc => ?_) (fun hc => ?_)
    · have h := h.1 hc
      refine a_lv (lv1 := []) [] rfl ?_
      exact hK_126 v_bits v_codec v_size v_words v_letter v_impact h
    · have h := h.2 hc
      refine a_aload_n C (pc := 96) 0 dX9_copies_96 rfl rfl ?_
      refine a_get C (pc := 97) 0 16 inW_X9 rfl rfl (Nat.le_of_ble_eq_true rfl) wF_X9_43 rfl rfl dX9_copies_97 ?_
      refine a_sipush C (pc := 100) dX9_copies_100 sp_2560 ?_
      refine a_iload_n C (pc := 103) 2 dX9_copies_103 rfl rfl ?_
      refine a_imul C (pc := 104) dX9_copies_104 ?_
      refine a_iload_n C (pc := 105) 3 dX9_copies_105 rfl rfl ?_
      refine a_iadd C (pc := 106) dX9_copies_106 ?_
      refine a_aload_n C (pc := 107) 0 dX9_copies_107 rfl rfl ?_
      refine a_get C (pc := 108) 0 16 inW_X9 rfl rfl (Nat.le_of_ble_eq_true rfl) wF_X9_43 rfl rfl dX9_copies_108 ?_
      refine a_sipush C (pc := 111) dX9_copies_111 sp_2560 ?_
      refine a_iload_n C (pc := 114) 1 dX9_copies_114 rfl rfl ?_
      refine a_imul C (pc := 115) dX9_copies_115 ?_
      refine a_iload_n C (pc := 116) 3 dX9_copies_116 rfl rfl ?_
      refine a_iadd C (pc := 117) dX9_copies_117 ?_
      refine a_iald C (pc := 118) 6 rfl h.1 dX9_copies_118 ?_
      replace h := h.2
      refine a_iast C (pc := 119) (ws1 := [(h0, oX9 d0 v_thrown v_taped v_at v_documents v_terms v_latest v_filed v_drafted v_place v_over v_clock v_askedTerms v_segments v_done v_postingsDone v_postingsAll v_why v_hits), ((d0 11), aI cs 5 v_bits), ((d0 12), aI cs 5 v_codec), ((d0 13), aI cs 5 v_size), ((d0 14), aI cs 5 v_words), ((d0 15), aI cs 2560 v_letter), ((d0 16), aI cs 12800 (upd v_impact ((2560 * l2) + l3 : Int32).toNatClampNeg (v_impact ((2560 * l1) + l3 : Int32).toNatClampNeg)))]) 6 rfl h.1 dX9_copies_119 rfl ?_
      replace h := h.2
      refine a_iinc C (pc := 120) (lv1 := [(0, .ref h0), (1, .int l1), (2, .int l2), (3, .int (l3 + 1))]) 3 [1, 2, 3, 0] dX9_copies_120 rfl (congrArg (fun z => l3 + z) ic_1) (by decide) rfl ?_
      refine a_goto C (pc := 123) 89 dX9_copies_123 (by decide) ?_
      exact ih v_bits v_codec v_size v_words v_letter (upd v_impact ((2560 * l2) + l3 : Int32).toNatClampNeg (v_impact ((2560 * l1) + l3 : Int32).toNatClampNeg)) l1 l2 (l3 + 1) h hK_126
set_option maxRecDepth 100000 in
set_option maxHeartbeats 4000000 in
theorem m_X9_copies (Lx : Launch) (Dx : va_G) (cs : Nat → ClassId) (h0 : Nat) (d0 : Nat → Nat) (v_thrown : Int32) (v_taped : Int32) (v_at : Int32) (v_documents : Int32) (v_terms : Int32) (v_latest : Int32) (v_filed : Int32) (v_drafted : Int32) (v_place : Int32) (v_over : Int32) (v_clock : Int64) (v_askedTerms : Int32) (v_segments : Int32) (v_done : Int32) (v_postingsDone : Int32) (v_postingsAll : Int32) (v_why : Int32) (v_hits : Int32) (v_bits : Nat → Int32) (v_codec : Nat → Int32) (v_size : Nat → Int32) (v_words : Nat → Int32) (v_letter : Nat → Int32) (v_impact : Nat → Int32) (l1 : Int32) (l2 : Int32) (Φ : (Nat → Int32) → (Nat → Int32) → (Nat → Int32) → (Nat → Int32) → (Nat → Int32) → (Nat → Int32) → Prop) (h : P_X9_copies v_bits v_codec v_size v_words v_letter v_impact l1 l2 Φ) : XMet Lx Dx cs yX9_copies cX9_copies 4 none 0 0 0 0 [.ref h0, .int l1, .int l2] [(h0, oX9 d0 v_thrown v_taped v_at v_documents v_terms v_latest v_filed v_drafted v_place v_over v_clock v_askedTerms v_segments v_done v_postingsDone v_postingsAll v_why v_hits), ((d0 11), aI cs 5 v_bits), ((d0 12), aI cs 5 v_codec), ((d0 13), aI cs 5 v_size), ((d0 14), aI cs 5 v_words), ((d0 15), aI cs 2560 v_letter), ((d0 16), aI cs 12800 v_impact)] (R_X9_copies cs h0 d0 v_thrown v_taped v_at v_documents v_terms v_latest v_filed v_drafted v_place v_over v_clock v_askedTerms v_segments v_done v_postingsDone v_postingsAll v_why v_hits Φ) (fun _ _ => False) := by
  refine XMet.of (own := RX9) (nm := "copies") (by decide) rfl rfl (Nat.le_of_ble_eq_true rfl) (fun Γ C => ?_)
  unfold P_X9_copies at h
  refine a_aload_n C (pc := 0) 0 dX9_copies_0 rfl rfl ?_
  refine a_get C (pc := 1) 0 11 inW_X9 rfl rfl (Nat.le_of_ble_eq_true rfl) wF_X9_28 rfl rfl dX9_copies_1 ?_
  refine a_iload_n C (pc := 4) 2 dX9_copies_4 rfl rfl ?_
  refine a_aload_n C (pc := 5) 0 dX9_copies_5 rfl rfl ?_
  refine a_get C (pc := 6) 0 11 inW_X9 rfl rfl (Nat.le_of_ble_eq_true rfl) wF_X9_28 rfl rfl dX9_copies_6 ?_
  refine a_iload_n C (pc := 9) 1 dX9_copies_9 rfl rfl ?_
  refine a_iald C (pc := 10) 1 rfl h.1 dX9_copies_10 ?_
  replace h := h.2
  refine a_iast C (pc := 11) (ws1 := [(h0, oX9 d0 v_thrown v_taped v_at v_documents v_terms v_latest v_filed v_drafted v_place v_over v_clock v_askedTerms v_segments v_done v_postingsDone v_postingsAll v_why v_hits), ((d0 11), aI cs 5 (upd v_bits (l2 : Int32).toNatClampNeg (v_bits (l1 : Int32).toNatClampNeg))), ((d0 12), aI cs 5 v_codec), ((d0 13), aI cs 5 v_size), ((d0 14), aI cs 5 v_words), ((d0 15), aI cs 2560 v_letter), ((d0 16), aI cs 12800 v_impact)]) 1 rfl h.1 dX9_copies_11 rfl ?_
  replace h := h.2
  refine a_aload_n C (pc := 12) 0 dX9_copies_12 rfl rfl ?_
  refine a_get C (pc := 13) 0 12 inW_X9 rfl rfl (Nat.le_of_ble_eq_true rfl) wF_X9_31 rfl rfl dX9_copies_13 ?_
  refine a_iload_n C (pc := 16) 2 dX9_copies_16 rfl rfl ?_
  refine a_aload_n C (pc := 17) 0 dX9_copies_17 rfl rfl ?_
  refine a_get C (pc := 18) 0 12 inW_X9 rfl rfl (Nat.le_of_ble_eq_true rfl) wF_X9_31 rfl rfl dX9_copies_18 ?_
  refine a_iload_n C (pc := 21) 1 dX9_copies_21 rfl rfl ?_
  refine a_iald C (pc := 22) 2 rfl h.1 dX9_copies_22 ?_
  replace h := h.2
  refine a_iast C (pc := 23) (ws1 := [(h0, oX9 d0 v_thrown v_taped v_at v_documents v_terms v_latest v_filed v_drafted v_place v_over v_clock v_askedTerms v_segments v_done v_postingsDone v_postingsAll v_why v_hits), ((d0 11), aI cs 5 (upd v_bits (l2 : Int32).toNatClampNeg (v_bits (l1 : Int32).toNatClampNeg))), ((d0 12), aI cs 5 (upd v_codec (l2 : Int32).toNatClampNeg (v_codec (l1 : Int32).toNatClampNeg))), ((d0 13), aI cs 5 v_size), ((d0 14), aI cs 5 v_words), ((d0 15), aI cs 2560 v_letter), ((d0 16), aI cs 12800 v_impact)]) 2 rfl h.1 dX9_copies_23 rfl ?_
  replace h := h.2
  refine a_aload_n C (pc := 24) 0 dX9_copies_24 rfl rfl ?_
  refine a_get C (pc := 25) 0 13 inW_X9 rfl rfl (Nat.le_of_ble_eq_true rfl) wF_X9_34 rfl rfl dX9_copies_25 ?_
  refine a_iload_n C (pc := 28) 2 dX9_copies_28 rfl rfl ?_
  refine a_aload_n C (pc := 29) 0 dX9_copies_29 rfl rfl ?_
  refine a_get C (pc := 30) 0 13 inW_X9 rfl rfl (Nat.le_of_ble_eq_true rfl) wF_X9_34 rfl rfl dX9_copies_30 ?_
  refine a_iload_n C (pc := 33) 1 dX9_copies_33 rfl rfl ?_
  refine a_iald C (pc := 34) 3 rfl h.1 dX9_copies_34 ?_
  replace h := h.2
  refine a_iast C (pc := 35) (ws1 := [(h0, oX9 d0 v_thrown v_taped v_at v_documents v_terms v_latest v_filed v_drafted v_place v_over v_clock v_askedTerms v_segments v_done v_postingsDone v_postingsAll v_why v_hits), ((d0 11), aI cs 5 (upd v_bits (l2 : Int32).toNatClampNeg (v_bits (l1 : Int32).toNatClampNeg))), ((d0 12), aI cs 5 (upd v_codec (l2 : Int32).toNatClampNeg (v_codec (l1 : Int32).toNatClampNeg))), ((d0 13), aI cs 5 (upd v_size (l2 : Int32).toNatClampNeg (v_size (l1 : Int32).toNatClampNeg))), ((d0 14), aI cs 5 v_words), ((d0 15), aI cs 2560 v_letter), ((d0 16), aI cs 12800 v_impact)]) 3 rfl h.1 dX9_copies_35 rfl ?_
  replace h := h.2
  refine a_aload_n C (pc := 36) 0 dX9_copies_36 rfl rfl ?_
  refine a_get C (pc := 37) 0 14 inW_X9 rfl rfl (Nat.le_of_ble_eq_true rfl) wF_X9_37 rfl rfl dX9_copies_37 ?_
  refine a_iload_n C (pc := 40) 2 dX9_copies_40 rfl rfl ?_
  refine a_aload_n C (pc := 41) 0 dX9_copies_41 rfl rfl ?_
  refine a_get C (pc := 42) 0 14 inW_X9 rfl rfl (Nat.le_of_ble_eq_true rfl) wF_X9_37 rfl rfl dX9_copies_42 ?_
  refine a_iload_n C (pc := 45) 1 dX9_copies_45 rfl rfl ?_
  refine a_iald C (pc := 46) 4 rfl h.1 dX9_copies_46 ?_
  replace h := h.2
  refine a_iast C (pc := 47) (ws1 := [(h0, oX9 d0 v_thrown v_taped v_at v_documents v_terms v_latest v_filed v_drafted v_place v_over v_clock v_askedTerms v_segments v_done v_postingsDone v_postingsAll v_why v_hits), ((d0 11), aI cs 5 (upd v_bits (l2 : Int32).toNatClampNeg (v_bits (l1 : Int32).toNatClampNeg))), ((d0 12), aI cs 5 (upd v_codec (l2 : Int32).toNatClampNeg (v_codec (l1 : Int32).toNatClampNeg))), ((d0 13), aI cs 5 (upd v_size (l2 : Int32).toNatClampNeg (v_size (l1 : Int32).toNatClampNeg))), ((d0 14), aI cs 5 (upd v_words (l2 : Int32).toNatClampNeg (v_words (l1 : Int32).toNatClampNeg))), ((d0 15), aI cs 2560 v_letter), ((d0 16), aI cs 12800 v_impact)]) 4 rfl h.1 dX9_copies_47 rfl ?_
  replace h := h.2
  refine a_iconst C (pc := 48) dX9_copies_48 ic_0 ?_
  refine a_istore_n C (pc := 49) (lv1 := [(0, .ref h0), (1, .int l1), (2, .int l2), (3, .int 0)]) [1, 2, 3, 0] dX9_copies_49 rfl (by decide) rfl ?_
  obtain ⟨n0, h⟩ := h
  refine w_X9_copies_50 C (Nat.le_of_ble_eq_true rfl) (Nat.le_of_ble_eq_true rfl) n0 (upd v_bits (l2 : Int32).toNatClampNeg (v_bits (l1 : Int32).toNatClampNeg)) (upd v_codec (l2 : Int32).toNatClampNeg (v_codec (l1 : Int32).toNatClampNeg)) (upd v_size (l2 : Int32).toNatClampNeg (v_size (l1 : Int32).toNatClampNeg)) (upd v_words (l2 : Int32).toNatClampNeg (v_words (l1 : Int32).toNatClampNeg)) v_letter v_impact l1 l2 0 h ?_
  intro v_bits_9 v_codec_10 v_size_11 v_words_12 v_letter_13 v_impact_14 l1_15 l2_16 h
  refine a_iconst C (pc := 87) dX9_copies_87 ic_0 ?_
  refine a_istore_n C (pc := 88) (lv1 := [(0, .ref h0), (1, .int l1_15), (2, .int l2_16), (3, .int 0)]) [1, 2, 3, 0] dX9_copies_88 rfl (by decide) rfl ?_
  obtain ⟨n0, h⟩ := h
  refine w_X9_copies_89 C (Nat.le_of_ble_eq_true rfl) (Nat.le_of_ble_eq_true rfl) n0 v_bits_9 v_codec_10 v_size_11 v_words_12 v_letter_13 v_impact_14 l1_15 l2_16 0 h ?_
  intro v_bits_23 v_codec_24 v_size_25 v_words_26 v_letter_27 v_impact_28 h
  exact a_return C (pc := 126) rfl dX9_copies_126 (Nat.le_of_ble_eq_true rfl) (Nat.le_of_ble_eq_true rfl) ⟨_, _, _, _, _, _, rfl, rfl, h⟩
