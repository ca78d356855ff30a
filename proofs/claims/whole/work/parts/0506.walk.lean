set_option maxRecDepth 100000 in
set_option maxHeartbeats 4000000 in
theorem w_X9_takesWord_0 {Γ : XG} {Lx : Launch} {Dx : va_G} {cs : Nat → ClassId} {h0 : Nat} {d0 : Nat → Nat} {v_thrown : Int32} {v_taped : Int32} {v_documents : Int32} {v_terms : Int32} {v_latest : Int32} {v_filed : Int32} {v_drafted : Int32} {v_place : Int32} {v_over : Int32} {v_clock : Int64} {v_askedTerms : Int32} {v_segments : Int32} {v_done : Int32} {v_postingsDone : Int32} {v_postingsAll : Int32} {v_why : Int32} {v_hits : Int32} {v_tape : Nat → Int32} {K_36 : Int32 → (Nat → Int32) → Int32 → Prop} {Φ : Int32 → Int32 → (Nat → Int32) → Prop} {k n9 : Nat} (C : CX Γ Lx Dx cs cX9_takesWord RX9 "takesWord" 4 (some .boolean) 1 20 0 0 (qEC cs 0 0 [] (R_X9_takesWord cs h0 d0 v_thrown v_taped v_documents v_terms v_latest v_filed v_drafted v_place v_over v_clock v_askedTerms v_segments v_done v_postingsDone v_postingsAll v_why v_hits v_tape Φ) (fun _ _ => False))) (hkm : k ≤ 0) (hnm : n9 ≤ 0) : ∀ n : Nat, ∀ (v_at : Int32) (v_word : Nat → Int32) (l1 : Int32), L_X9_takesWord_0 n v_at v_tape v_word l1 K_36 Φ → (∀ (v_at_2 : Int32) (v_word_3 : Nat → Int32) (l1_4 : Int32), K_36 v_at_2 v_word_3 l1_4 → AW Γ k n9 36 [(0, .ref h0), (1, .int l1_4)] [] [(h0, oX9 d0 v_thrown v_taped v_at_2 v_documents v_terms v_latest v_filed v_drafted v_place v_over v_clock v_askedTerms v_segments v_done v_postingsDone v_postingsAll v_why v_hits), ((d0 1), aI cs 3000 v_tape), ((d0 3), aI cs 8 v_word_3)]) → AW Γ k n9 0 [(0, .ref h0), (1, .int l1)] [] [(h0, oX9 d0 v_thrown v_taped v_at v_documents v_terms v_latest v_filed v_drafted v_place v_over v_clock v_askedTerms v_segments v_done v_postingsDone v_postingsAll v_why v_hits), ((d0 1), aI cs 3000 v_tape), ((d0 3), aI cs 8 v_word)] := by
  intro n
  induction n with
  | zero =>
    intro v_at v_word l1 h
    exact False.elim h
  | succ n ih =>
    intro v_at v_word l1 h hK_36
    rw [L_X9_takesWord_0] at h
    refine a_aload_n C (pc := 0) 0 dX9_takesWord_0 rfl rfl ?_
    refine a_get C (pc := 1) 0 4 inW_X9 rfl rfl (Nat.le_of_ble_eq_true rfl) wF_X9_102 rfl rfl dX9_takesWord_1 ?_
    refine a_iload_n C (pc := 4) 1 dX9_takesWord_4 rfl rfl ?_
    refine a_icmp_ge C (pc := 5) 36 dX9_takesWord_5 (by decide) (fun hc => ?_) (fun hc => ?_)
    · have h := h.1 hc
      exact hK_36 v_at v_word l1 h
    · have h := h.2 hc
      refine a_aload_n C (pc := 8) 0 dX9_takesWord_8 rfl rfl ?_
      refine a_get C (pc := 9) 0 1 inW_X9 rfl rfl (Nat.le_of_ble_eq_true rfl) wF_X9_7 rfl rfl dX9_takesWord_9 ?_
      refine a_aload_n C (pc := 12) 0 dX9_takesWord_12 rfl rfl ?_
      refine a_get C (pc := 13) 0 4 inW_X9 rfl rfl (Nat.le_of_ble_eq_true rfl) wF_X9_102 rfl rfl dX9_takesWord_13 ?_
      refine a_iald C (pc := 16) 1 rfl h.1 dX9_takesWord_16 ?_
      replace h := h.2
      refine a_callS C (pc := 17) (av := [.int (v_tape (v_at : Int32).toNatClampNeg)]) (wr := [(h0, oX9 d0 v_thrown v_taped v_at v_documents v_terms v_latest v_filed v_drafted v_place v_over v_clock v_askedTerms v_segments v_done v_postingsDone v_postingsAll v_why v_hits), ((d0 1), aI cs 3000 v_tape), ((d0 3), aI cs 8 v_word)]) (m_X9_small Lx Dx cs (v_tape (v_at : Int32).toNatClampNeg) _ h) [] [0, 1, 2] rfl rfl (by decide) (by decide) (by decide) wM_X9_105 wb_X9_small hy_X9_small rfl ⟨Nat.le_of_ble_eq_true rfl, Nat.le_of_ble_eq_true rfl⟩ (Nat.le_of_ble_eq_true rfl) hkm hnm rfl dX9_takesWord_17 (fun v w1 hw => ?_) [] rfl (fun _ _ h => h.elim)
      obtain ⟨r_1, rfl, rfl, h⟩ := hw
      refine a_ws (st1 := [.int r_1]) (ws1 := [(h0, oX9 d0 v_thrown v_taped v_at v_documents v_terms v_latest v_filed v_drafted v_place v_over v_clock v_askedTerms v_segments v_done v_postingsDone v_postingsAll v_why v_hits), ((d0 1), aI cs 3000 v_tape), ((d0 3), aI cs 8 v_word)]) k n9 20 [0, 1, 2] rfl rfl rfl rfl (by decide) rfl ?_
      refine a_if_ne C (pc := 20) 36 dX9_takesWord_20 (by decide) (fun hc => ?_) (fun hc => ?_)
      · have h := h.1 hc
        exact hK_36 v_at v_word l1 h
      · have h := h.2 hc
        refine a_aload_n C (pc := 23) 0 dX9_takesWord_23 rfl rfl ?_
        refine a_dup C (pc := 24) dX9_takesWord_24 rfl ?_
        refine a_get C (pc := 25) 0 4 inW_X9 rfl rfl (Nat.le_of_ble_eq_true rfl) wF_X9_102 rfl rfl dX9_takesWord_25 ?_
        refine a_iconst C (pc := 28) dX9_takesWord_28 ic_1 ?_
        refine a_iadd C (pc := 29) dX9_takesWord_29 ?_
        refine a_put C (pc := 30) (ws1 := [(h0, oX9 d0 v_thrown v_taped (v_at + 1) v_documents v_terms v_latest v_filed v_drafted v_place v_over v_clock v_askedTerms v_segments v_done v_postingsDone v_postingsAll v_why v_hits), ((d0 1), aI cs 3000 v_tape), ((d0 3), aI cs 8 v_word)]) 0 4 inW_X9 tyX9 tyX9_ok nmX9 rfl rfl (Nat.le_of_ble_eq_true rfl) wF_X9_102 rfl rfl rfl rfl rfl (Nat.le_of_ble_eq_true rfl) dX9_takesWord_30 rfl ?_
        refine a_goto C (pc := 33) 0 dX9_takesWord_33 (by decide) ?_
        exact ih (v_at + 1) v_word l1 h hK_36
set_option maxRecDepth 100000 in
set_option maxHeartbeats 4000000 in
theorem w_X9_takesWord_50 {Γ : XG} {Lx : Launch} {Dx : va_G} {cs : Nat → ClassId} {h0 : Nat} {d0 : Nat → Nat} {v_thrown : Int32} {v_taped : Int32} {v_documents : Int32} {v_terms : Int32} {v_latest : Int32} {v_filed : Int32} {v_drafted : Int32} {v_place : Int32} {v_over : Int32} {v_clock : Int64} {v_askedTerms : Int32} {v_segments : Int32} {v_done : Int32} {v_postingsDone : Int32} {v_postingsAll : Int32} {v_why : Int32} {v_hits : Int32} {v_tape : Nat → Int32} {K_69 : Int32 → (Nat → Int32) → Int32 → Int32 → Prop} {Φ : Int32 → Int32 → (Nat → Int32) → Prop} {k n9 : Nat} (C : CX Γ Lx Dx cs cX9_takesWord RX9 "takesWord" 4 (some .boolean) 1 20 0 0 (qEC cs 0 0 [] (R_X9_takesWord cs h0 d0 v_thrown v_taped v_documents v_terms v_latest v_filed v_drafted v_place v_over v_clock v_askedTerms v_segments v_done v_postingsDone v_postingsAll v_why v_hits v_tape Φ) (fun _ _ => False))) (hkm : k ≤ 0) (hnm : n9 ≤ 0) : ∀ n : Nat, ∀ (v_at : Int32) (v_word : Nat → Int32) (l1 : Int32) (l2 : Int32) (l3 : Int32), L_X9_takesWord_50 n v_at v_tape v_word l1 l2 l3 K_69 Φ → (∀ (v_at_8 : Int32) (v_word_9 : Nat → Int32) (l1_10 : Int32) (l2_11 : Int32), K_69 v_at_8 v_word_9 l1_10 l2_11 → AW Γ k n9 69 [(0, .ref h0), (1, .int l1_10), (2, .int l2_11)] [] [(h0, oX9 d0 v_thrown v_taped v_at_8 v_documents v_terms v_latest v_filed v_drafted v_place v_over v_clock v_askedTerms v_segments v_done v_postingsDone v_postingsAll v_why v_hits), ((d0 1), aI cs 3000 v_tape), ((d0 3), aI cs 8 v_word_9)]) → AW Γ k n9 50 [(0, .ref h0), (1, .int l1), (2, .int l2), (3, .int l3)] [] [(h0, oX9 d0 v_thrown v_taped v_at v_documents v_terms v_latest v_filed v_drafted v_place v_over v_clock v_askedTerms v_segments v_done v_postingsDone v_postingsAll v_why v_hits), ((d0 1), aI cs 3000 v_tape), ((d0 3), aI cs 8 v_word)] := by
  intro n
  induction n with
  | zero =>
    intro v_at v_word l1 l2 l3 h
    exact False.elim h
  | succ n ih =>
    intro v_at v_word l1 l2 l3 h hK_69
    rw [L_X9_takesWord_50] at h
    refine a_iload_n C (pc := 50) 3 dX9_takesWord_50 rfl rfl ?_
    refine a_bipush C (pc := 51) dX9_takesWord_51 bp_8 ?_
    refine a_icmp_ge C (pc := 53) 69 dX9_takesWord_53 (by decide) (fun hc => ?_) (fun hc => ?_)
    · have h := h.1 hc
      refine a_lv (lv1 := [(0, .ref h0), (1, .int l1), (2, .int l2)]) [0, 1, 2] rfl ?_
      exact hK_69 v_at v_word l1 l2 h
    · have h := h.2 hc
      refine a_aload_n C (pc := 56) 0 dX9_takesWord_56 rfl rfl ?_
      refine a_get C (pc := 57) 0 3 inW_X9 rfl rfl (Nat.le_of_ble_eq_true rfl) wF_X9_13 rfl rfl dX9_takesWord_57 ?_
      refine a_iload_n C (pc := 60) 3 dX9_takesWord_60 rfl rfl ?_
      refine a_iconst C (pc := 61) dX9_takesWord_61 ic_0 ?_
      refine a_iast C (pc := 62) (ws1 := [(h0, oX9 d0 v_thrown v_taped v_at v_documents v_terms v_latest v_filed v_drafted v_place v_over v_clock v_askedTerms v_segments v_done v_postingsDone v_postingsAll v_why v_hits), ((d0 1), aI cs 3000 v_tape), ((d0 3), aI cs 8 (upd v_word (l3 : Int32).toNatClampNeg 0))]) 2 rfl h.1 dX9_takesWord_62 rfl ?_
      replace h := h.2
      refine a_iinc C (pc := 63) (lv1 := [(0, .ref h0), (1, .int l1), (2, .int l2), (3, .int (l3 + 1))]) 3 [1, 2, 3, 0] dX9_takesWord_63 rfl (congrArg (fun z => l3 + z) ic_1) (by decide) rfl ?_
      refine a_goto C (pc := 66) 50 dX9_takesWord_66 (by decide) ?_
      exact ih v_at (upd v_word (l3 : Int32).toNatClampNeg 0) l1 l2 (l3 + 1) h hK_69
set_option maxRecDepth 100000 in
set_option maxHeartbeats 4000000 in
theorem w_X9_takesWord_69 {Γ : XG} {Lx : Launch} {Dx : va_G} {cs : Nat → ClassId} {h0 : Nat} {d0 : Nat → Nat} {v_thrown : Int32} {v_taped : Int32} {v_documents : Int32} {v_terms : Int32} {v_latest : Int32} {v_filed : Int32} {v_drafted : Int32} {v_place : Int32} {v_over : Int32} {v_clock : Int64} {v_askedTerms : Int32} {v_segments : Int32} {v_done : Int32} {v_postingsDone : Int32} {v_postingsAll : Int32} {v_why : Int32} {v_hits : Int32} {v_tape : Nat → Int32} {K_132 : Int32 → (Nat → Int32) → Int32 → Prop} {Φ : Int32 → Int32 → (Nat → Int32) → Prop} {k n9 : Nat} (C : CX Γ Lx Dx cs cX9_takesWord RX9 "takesWord" 4 (some .boolean) 1 20 0 0 (qEC cs 0 0 [] (R_X9_takesWord cs h0 d0 v_thrown v_taped v_documents v_terms v_latest v_filed v_drafted v_place v_over v_clock v_askedTerms v_segments v_done v_postingsDone v_postingsAll v_why v_hits v_tape Φ) (fun _ _ => False))) (hkm : k ≤ 0) (hnm : n9 ≤ 0) : ∀ n : Nat, ∀ (v_at : Int32) (v_word : Nat → Int32) (l1 : Int32) (l2 : Int32), L_X9_takesWord_69 n v_at v_tape v_word l1 l2 K_132 Φ → (∀ (v_at_18 : Int32) (v_word_19 : Nat → Int32) (l2_20 : Int32), K_132 v_at_18 v_word_19 l2_20 → AW Γ k n9 132 [(0, .ref h0), (2, .int l2_20)] [] [(h0, oX9 d0 v_thrown v_taped v_at_18 v_documents v_terms v_latest v_filed v_drafted v_place v_over v_clock v_askedTerms v_segments v_done v_postingsDone v_postingsAll v_why v_hits), ((d0 1), aI cs 3000 v_tape), ((d0 3), aI cs 8 v_word_19)]) → AW Γ k n9 69 [(0, .ref h0), (1, .int l1), (2, .int l2)] [] [(h0, oX9 d0 v_thrown v_taped v_at v_documents v_terms v_latest v_filed v_drafted v_place v_over v_clock v_askedTerms v_segments v_done v_postingsDone v_postingsAll v_why v_hits), ((d0 1), aI cs 3000 v_tape), ((d0 3), aI cs 8 v_word)] := by
  intro n
  induction n with
  | zero =>
    intro v_at v_word l1 l2 h
    exact False.elim h
  | succ n ih =>
    intro v_at v_word l1 l2 h hK_132
    rw [L_X9_takesWord_69] at h
    refine a_aload_n C (pc := 69) 0 dX9_takesWord_69 rfl rfl ?_
    refine a_get C (pc := 70) 0 4 inW_X9 rfl rfl (Nat.le_of_ble_eq_true rfl) wF_X9_102 rfl rfl dX9_takesWord_70 ?_
    refine a_iload_n C (pc := 73) 1 dX9_takesWord_73 rfl rfl ?_
    refine a_icmp_ge C (pc := 74) 132 dX9_takesWord_74 (by decide) (fun hc => ?_) (fun hc => ?_)
    · have h := h.1 hc
      refine a_lv (lv1 := [(0, .ref h0), (2, .int l2)]) [0, 2] rfl ?_
      exact hK_132 v_at v_word l2 h
    · have h := h.2 hc
      refine a_aload_n C (pc := 77) 0 dX9_takesWord_77 rfl rfl ?_
      refine a_get C (pc := 78) 0 1 inW_X9 rfl rfl (Nat.le_of_ble_eq_true rfl) wF_X9_7 rfl rfl dX9_takesWord_78 ?_
      refine a_aload_n C (pc := 81) 0 dX9_takesWord_81 rfl rfl ?_
      refine a_get C (pc := 82) 0 4 inW_X9 rfl rfl (Nat.le_of_ble_eq_true rfl) wF_X9_102 rfl rfl dX9_takesWord_82 ?_
      refine a_iald C (pc := 85) 1 rfl h.1 dX9_takesWord_85 ?_
      replace h := h.2
      refine a_callS C (pc := 86) (av := [.int (v_tape (v_at : Int32).toNatClampNeg)]) (wr := [(h0, oX9 d0 v_thrown v_taped v_at v_documents v_terms v_latest v_filed v_drafted v_place v_over v_clock v_askedTerms v_segments v_done v_postingsDone v_postingsAll v_why v_hits), ((d0 1), aI cs 3000 v_tape), ((d0 3), aI cs 8 v_word)]) (m_X9_small Lx Dx cs (v_tape (v_at : Int32).toNatClampNeg) _ h) [] [0, 1, 2] rfl rfl (by decide) (by decide) (by decide) wM_X9_105 wb_X9_small hy_X9_small rfl ⟨Nat.le_of_ble_eq_true rfl, Nat.le_of_ble_eq_true rfl⟩ (Nat.le_of_ble_eq_true rfl) hkm hnm rfl dX9_takesWord_86 (fun v w1 hw => ?_) [] rfl (fun _ _ h => h.elim)
      obtain ⟨r_16, rfl, rfl, h⟩ := hw
      refine a_ws (st1 := [.int r_16]) (ws1 := [(h0, oX9 d0 v_thrown v_taped v_at v_documents v_terms v_latest v_filed v_drafted v_place v_over v_clock v_askedTerms v_segments v_done v_postingsDone v_postingsAll v_why v_hits), ((d0 1), aI cs 3000 v_tape), ((d0 3), aI cs 8 v_word)]) k n9 89 [0, 1, 2] rfl rfl rfl rfl (by decide) rfl ?_
      refine a_if_eq C (pc := 89) 132 dX9_takesWord_89 (by decide) (fun hc => ?_) (fun hc => ?_)
      · have h := h.1 hc
        refine a_lv (lv1 := [(0, .ref h0), (2, .int l2)]) [0, 2] rfl ?_
        exact hK_132 v_at v_word l2 h
      · have h := h.2 hc
        refine a_iload_n C (pc := 92) 2 dX9_takesWord_92 rfl rfl ?_
        refine a_bipush C (pc := 93) dX9_takesWord_93 bp_8 ?_
        refine a_icmp_ge C (pc := 95) 116 dX9_takesWord_95 (by decide) (fun hc => ?_) (fun hc => ?_)
        · have h := h.1 hc
          refine a_iinc C (pc := 116) (lv1 := [(0, .ref h0), (1, .int l1), (2, .int (l2 + 1))]) 2 [1, 2, 0] dX9_takesWord_116 rfl (congrArg (fun z => l2 + z) ic_1) (by decide) rfl ?_
          refine a_aload_n C (pc := 119) 0 dX9_takesWord_119 rfl rfl ?_
          refine a_dup C (pc := 120) dX9_takesWord_120 rfl ?_
          refine a_get C (pc := 121) 0 4 inW_X9 rfl rfl (Nat.le_of_ble_eq_true rfl) wF_X9_102 rfl rfl dX9_takesWord_121 ?_
          refine a_iconst C (pc := 124) dX9_takesWord_124 ic_1 ?_
          refine a_iadd C (pc := 125) dX9_takesWord_125 ?_
          refine a_put C (pc := 126) (ws1 := [(h0, oX9 d0 v_thrown v_taped (v_at + 1) v_documents v_terms v_latest v_filed v_drafted v_place v_over v_clock v_askedTerms v_segments v_done v_postingsDone v_postingsAll v_why v_hits), ((d0 1), aI cs 3000 v_tape), ((d0 3), aI cs 8 v_word)]) 0 4 inW_X9 tyX9 tyX9_ok nmX9 rfl rfl (Nat.le_of_ble_eq_true rfl) wF_X9_102 rfl rfl rfl rfl rfl (Nat.le_of_ble_eq_true rfl) dX9_takesWord_126 rfl ?_
          refine a_goto C (pc := 129) 69 dX9_takesWord_129 (by decide) ?_
          exact ih (v_at + 1) v_word l1 (l2 + 1) h hK_132
        · have h := h.2 hc
          refine a_aload_n C (pc := 98) 0 dX9_takesWord_98 rfl rfl ?_
          refine a_get C (pc := 99) 0 3 inW_X9 rfl rfl (Nat.le_of_ble_eq_true rfl) wF_X9_13 rfl rfl dX9_takesWord_99 ?_
          refine a_iload_n C (pc := 102) 2 dX9_takesWord_102 rfl rfl ?_
          refine a_aload_n C (pc := 103) 0 dX9_takesWord_103 rfl rfl ?_
          refine a_get C (pc := 104) 0 1 inW_X9 rfl rfl (Nat.le_of_ble_eq_true rfl) wF_X9_7 rfl rfl dX9_takesWord_104 ?_
          refine a_aload_n C (pc := 107) 0 dX9_takesWord_107 rfl rfl ?_
          refine a_get C (pc := 108) 0 4 inW_X9 rfl rfl (Nat.le_of_ble_eq_true rfl) wF_X9_102 rfl rfl dX9_takesWord_108 ?_
          refine a_iald C (pc := 111) 1 rfl h.1 dX9_takesWord_111 ?_
          replace h := h.2
          refine a_callS C (pc := 112) (av := [.int (v_tape (v_at : Int32).toNatClampNeg)]) (wr := [(h0, oX9 d0 v_thrown v_taped v_at v_documents v_terms v_latest v_filed v_drafted v_place v_over v_clock v_askedTerms v_segments v_done v_postingsDone v_postingsAll v_why v_hits), ((d0 1), aI cs 3000 v_tape), ((d0 3), aI cs 8 v_word)]) (m_X9_small Lx Dx cs (v_tape (v_at : Int32).toNatClampNeg) _ h) [] [0, 1, 2] rfl rfl (by decide) (by decide) (by decide) wM_X9_105 wb_X9_small hy_X9_small rfl ⟨Nat.le_of_ble_eq_true rfl, Nat.le_of_ble_eq_true rfl⟩ (Nat.le_of_ble_eq_true rfl) hkm hnm rfl dX9_takesWord_112 (fun v w1 hw => ?_) [] rfl (fun _ _ h => h.elim)
          obtain ⟨r_17, rfl, rfl, h⟩ := hw
          refine a_ws (st1 := [.int r_17, .int l2, .ref (d0 3)]) (ws1 := [(h0, oX9 d0 v_thrown v_taped v_at v_documents v_terms v_latest v_filed v_drafted v_place v_over v_clock v_askedTerms v_segments v_done v_postingsDone v_postingsAll v_why v_hits), ((d0 1), aI cs 3000 v_tape), ((d0 3), aI cs 8 v_word)]) k n9 115 [0, 1, 2] rfl rfl rfl rfl (by decide) rfl ?_
          refine a_iast C (pc := 115) (ws1 := [(h0, oX9 d0 v_thrown v_taped v_at v_documents v_terms v_latest v_filed v_drafted v_place v_over v_clock v_askedTerms v_segments v_done v_postingsDone v_postingsAll v_why v_hits), ((d0 1), aI cs 3000 v_tape), ((d0 3), aI cs 8 (upd v_word (l2 : Int32).toNatClampNeg r_17))]) 2 rfl h.1 dX9_takesWord_115 rfl ?_
          replace h := h.2
          refine a_iinc C (pc := 116) (lv1 := [(0, .ref h0), (1, .int l1), (2, .int (l2 + 1))]) 2 [1, 2, 0] dX9_takesWord_116 rfl (congrArg (fun z => l2 + z) ic_1) (by decide) rfl ?_
          refine a_aload_n C (pc := 119) 0 dX9_takesWord_119 rfl rfl ?_
          refine a_dup C (pc := 120) dX9_takesWord_120 rfl ?_
          refine a_get C (pc := 121) 0 4 inW_X9 rfl rfl (Nat.le_of_ble_eq_true rfl) wF_X9_102 rfl rfl dX9_takesWord_121 ?_
          refine a_iconst C (pc := 124) dX9_takesWord_124 ic_1 ?_
          refine a_iadd C (pc := 125) dX9_takesWord_125 ?_
          refine a_put C (pc := 126) (ws1 := [(h0, oX9 d0 v_thrown v_taped (v_at + 1) v_documents v_terms v_latest v_filed v_drafted v_place v_over v_clock v_askedTerms v_segments v_done v_postingsDone v_postingsAll v_why v_hits), ((d0 1), aI cs 3000 v_tape), ((d0 3), aI cs 8 (upd v_word (l2 : Int32).toNatClampNeg r_17))]) 0 4 inW_X9 tyX9 tyX9_ok nmX9 rfl rfl (Nat.le_of_ble_eq_true rfl) wF_X9_102 rfl rfl rfl rfl rfl (Nat.le_of_ble_eq_true rfl) dX9_takesWord_126 rfl ?_
          refine a_goto C (pc := 129) 69 dX9_takesWord_129 (by decide) ?_
          exact ih (v_at + 1) (upd v_word (l2 : Int32).toNatClampNeg r_17) l1 (l2 + 1) h hK_132
set_option maxRecDepth 100000 in
set_option maxHeartbeats 4000000 in
theorem w_X9_takesWord_144 {Γ : XG} {Lx : Launch} {Dx : va_G} {cs : Nat → ClassId} {h0 : Nat} {d0 : Nat → Nat} {v_thrown : Int32} {v_taped : Int32} {v_documents : Int32} {v_terms : Int32} {v_latest : Int32} {v_filed : Int32} {v_drafted : Int32} {v_place : Int32} {v_over : Int32} {v_clock : Int64} {v_askedTerms : Int32} {v_segments : Int32} {v_done : Int32} {v_postingsDone : Int32} {v_postingsAll : Int32} {v_why : Int32} {v_hits : Int32} {v_tape : Nat → Int32} {Φ : Int32 → Int32 → (Nat → Int32) → Prop} {k n9 : Nat} (C : CX Γ Lx Dx cs cX9_takesWord RX9 "takesWord" 4 (some .boolean) 1 20 0 0 (qEC cs 0 0 [] (R_X9_takesWord cs h0 d0 v_thrown v_taped v_documents v_terms v_latest v_filed v_drafted v_place v_over v_clock v_askedTerms v_segments v_done v_postingsDone v_postingsAll v_why v_hits v_tape Φ) (fun _ _ => False))) (hkm : k ≤ 0) (hnm : n9 ≤ 0) (v_at : Int32) (v_word : Nat → Int32) (s0 : Int32) (h : J_X9_takesWord_144 v_at v_tape v_word s0 Φ) : AW Γ k n9 144 [(0, .ref h0)] [.int s0] [(h0, oX9 d0 v_thrown v_taped v_at v_documents v_terms v_latest v_filed v_drafted v_place v_over v_clock v_askedTerms v_segments v_done v_postingsDone v_postingsAll v_why v_hits), ((d0 1), aI cs 3000 v_tape), ((d0 3), aI cs 8 v_word)] := by
  unfold J_X9_takesWord_144 at h
  refine a_istore_n C (pc := 144) (lv1 := [(0, .ref h0), (2, .int s0)]) [1, 0] dX9_takesWord_144 rfl (by decide) rfl ?_
  refine a_iload_n C (pc := 145) 1 dX9_takesWord_145 rfl rfl ?_
  refine a_iconst C (pc := 146) dX9_takesWord_146 ic_3 ?_
  refine a_icmp_le C (pc := 147) 185 dX9_takesWord_147 (by decide) (fun hc => ?_) (fun hc => ?_)
  · have h := h.1 hc
    refine a_iconst C (pc := 185) dX9_takesWord_185 ic_1 ?_
    exact a_zreturn C (pc := 186) rfl rfl dX9_takesWord_186 hkm hnm ⟨_, _, _, rfl, rfl, h⟩
  · have h := h.2 hc
    refine a_aload_n C (pc := 150) 0 dX9_takesWord_150 rfl rfl ?_
    refine a_get C (pc := 151) 0 3 inW_X9 rfl rfl (Nat.le_of_ble_eq_true rfl) wF_X9_13 rfl rfl dX9_takesWord_151 ?_
    refine a_iload_n C (pc := 154) 1 dX9_takesWord_154 rfl rfl ?_
    refine a_iconst C (pc := 155) dX9_takesWord_155 ic_1 ?_
    refine a_isub C (pc := 156) dX9_takesWord_156 ?_
    refine a_iald C (pc := 157) 2 rfl h.1 dX9_takesWord_157 ?_
    replace h := h.2
    refine a_bipush C (pc := 158) dX9_takesWord_158 bp_115 ?_
    refine a_icmp_ne C (pc := 160) 185 dX9_takesWord_160 (by decide) (fun hc => ?_) (fun hc => ?_)
    · have h := h.1 hc
      refine a_iconst C (pc := 185) dX9_takesWord_185 ic_1 ?_
      exact a_zreturn C (pc := 186) rfl rfl dX9_takesWord_186 hkm hnm ⟨_, _, _, rfl, rfl, h⟩
    · have h := h.2 hc
      refine a_aload_n C (pc := 163) 0 dX9_takesWord_163 rfl rfl ?_
      refine a_get C (pc := 164) 0 3 inW_X9 rfl rfl (Nat.le_of_ble_eq_true rfl) wF_X9_13 rfl rfl dX9_takesWord_164 ?_
      refine a_iload_n C (pc := 167) 1 dX9_takesWord_167 rfl rfl ?_
      refine a_iconst C (pc := 168) dX9_takesWord_168 ic_2 ?_
      refine a_isub C (pc := 169) dX9_takesWord_169 ?_
      refine a_iald C (pc := 170) 2 rfl h.1 dX9_takesWord_170 ?_
      replace h := h.2
      refine a_bipush C (pc := 171) dX9_takesWord_171 bp_115 ?_
      refine a_icmp_eq C (pc := 173) 185 dX9_takesWord_173 (by decide) (fun hc => ?_) (fun hc => ?_)
      · have h := h.1 hc
        refine a_iconst C (pc := 185) dX9_takesWord_185 ic_1 ?_
        exact a_zreturn C (pc := 186) rfl rfl dX9_takesWord_186 hkm hnm ⟨_, _, _, rfl, rfl, h⟩
      · have h := h.2 hc
        refine a_aload_n C (pc := 176) 0 dX9_takesWord_176 rfl rfl ?_
        refine a_get C (pc := 177) 0 3 inW_X9 rfl rfl (Nat.le_of_ble_eq_true rfl) wF_X9_13 rfl rfl dX9_takesWord_177 ?_
        refine a_iload_n C (pc := 180) 1 dX9_takesWord_180 rfl rfl ?_
        refine a_iconst C (pc := 181) dX9_takesWord_181 ic_1 ?_
        refine a_isub C (pc := 182) dX9_takesWord_182 ?_
        refine a_iconst C (pc := 183) dX9_takesWord_183 ic_0 ?_
        refine a_iast C (pc := 184) (ws1 := [(h0, oX9 d0 v_thrown v_taped v_at v_documents v_terms v_latest v_filed v_drafted v_place v_over v_clock v_askedTerms v_segments v_done v_postingsDone v_postingsAll v_why v_hits), ((d0 1), aI cs 3000 v_tape), ((d0 3), aI cs 8 (upd v_word (s0 - 1 : Int32).toNatClampNeg 0))]) 2 rfl h.1 dX9_takesWord_184 rfl ?_
        replace h := h.2
        refine a_iconst C (pc := 185) dX9_takesWord_185 ic_1 ?_
        exact a_zreturn C (pc := 186) rfl rfl dX9_takesWord_186 hkm hnm ⟨_, _, _, rfl, rfl, h⟩
set_option maxRecDepth 100000 in
set_option maxHeartbeats 4000000 in
theorem w_X9_takesWord_132 {Γ : XG} {Lx : Launch} {Dx : va_G} {cs : Nat → ClassId} {h0 : Nat} {d0 : Nat → Nat} {v_thrown : Int32} {v_taped : Int32} {v_documents : Int32} {v_terms : Int32} {v_latest : Int32} {v_filed : Int32} {v_drafted : Int32} {v_place : Int32} {v_over : Int32} {v_clock : Int64} {v_askedTerms : Int32} {v_segments : Int32} {v_done : Int32} {v_postingsDone : Int32} {v_postingsAll : Int32} {v_why : Int32} {v_hits : Int32} {v_tape : Nat → Int32} {Φ : Int32 → Int32 → (Nat → Int32) → Prop} {k n9 : Nat} (C : CX Γ Lx Dx cs cX9_takesWord RX9 "takesWord" 4 (some .boolean) 1 20 0 0 (qEC cs 0 0 [] (R_X9_takesWord cs h0 d0 v_thrown v_taped v_documents v_terms v_latest v_filed v_drafted v_place v_over v_clock v_askedTerms v_segments v_done v_postingsDone v_postingsAll v_why v_hits v_tape Φ) (fun _ _ => False))) (hkm : k ≤ 0) (hnm : n9 ≤ 0) (v_at : Int32) (v_word : Nat → Int32) (l2 : Int32) (h : J_X9_takesWord_132 v_at v_tape v_word l2 Φ) : AW Γ k n9 132 [(0, .ref h0), (2, .int l2)] [] [(h0, oX9 d0 v_thrown v_taped v_at v_documents v_terms v_latest v_filed v_drafted v_place v_over v_clock v_askedTerms v_segments v_done v_postingsDone v_postingsAll v_why v_hits), ((d0 1), aI cs 3000 v_tape), ((d0 3), aI cs 8 v_word)] := by
  unfold J_X9_takesWord_132 at h
  refine a_iload_n C (pc := 132) 1 dX9_takesWord_132 rfl rfl ?_
  refine a_bipush C (pc := 133) dX9_takesWord_133 bp_8 ?_
  refine a_icmp_le C (pc := 135) 143 dX9_takesWord_135 (by decide) (fun hc => ?_) (fun hc => ?_)
  · have h := h.1 hc
    refine a_iload_n C (pc := 143) 1 dX9_takesWord_143 rfl rfl ?_
    refine a_lv (lv1 := [(0, .ref h0)]) [0] rfl ?_
    exact w_X9_takesWord_144 C hkm hnm v_at v_word l2 h
  · have h := h.2 hc
    refine a_bipush C (pc := 138) dX9_takesWord_138 bp_8 ?_
    refine a_goto C (pc := 140) 144 dX9_takesWord_140 (by decide) ?_
    refine a_lv (lv1 := [(0, .ref h0)]) [0] rfl ?_
    exact w_X9_takesWord_144 C hkm hnm v_at v_word 8 h
set_option maxRecDepth 100000 in
set_option maxHeartbeats 4000000 in
theorem w_X9_takesWord_36 {Γ : XG} {Lx : Launch} {Dx : va_G} {cs : Nat → ClassId} {h0 : Nat} {d0 : Nat → Nat} {v_thrown : Int32} {v_taped : Int32} {v_documents : Int32} {v_terms : Int32} {v_latest : Int32} {v_filed : Int32} {v_drafted : Int32} {v_place : Int32} {v_over : Int32} {v_clock : Int64} {v_askedTerms : Int32} {v_segments : Int32} {v_done : Int32} {v_postingsDone : Int32} {v_postingsAll : Int32} {v_why : Int32} {v_hits : Int32} {v_tape : Nat → Int32} {Φ : Int32 → Int32 → (Nat → Int32) → Prop} {k n9 : Nat} (C : CX Γ Lx Dx cs cX9_takesWord RX9 "takesWord" 4 (some .boolean) 1 20 0 0 (qEC cs 0 0 [] (R_X9_takesWord cs h0 d0 v_thrown v_taped v_documents v_terms v_latest v_filed v_drafted v_place v_over v_clock v_askedTerms v_segments v_done v_postingsDone v_postingsAll v_why v_hits v_tape Φ) (fun _ _ => False))) (hkm : k ≤ 0) (hnm : n9 ≤ 0) (v_at : Int32) (v_word : Nat → Int32) (l1 : Int32) (h : J_X9_takesWord_36 v_at v_tape v_word l1 Φ) : AW Γ k n9 36 [(0, .ref h0), (1, .int l1)] [] [(h0, oX9 d0 v_thrown v_taped v_at v_documents v_terms v_latest v_filed v_drafted v_place v_over v_clock v_askedTerms v_segments v_done v_postingsDone v_postingsAll v_why v_hits), ((d0 1), aI cs 3000 v_tape), ((d0 3), aI cs 8 v_word)] := by
  unfold J_X9_takesWord_36 at h
  refine a_aload_n C (pc := 36) 0 dX9_takesWord_36 rfl rfl ?_
  refine a_get C (pc := 37) 0 4 inW_X9 rfl rfl (Nat.le_of_ble_eq_true rfl) wF_X9_102 rfl rfl dX9_takesWord_37 ?_
  refine a_iload_n C (pc := 40) 1 dX9_takesWord_40 rfl rfl ?_
  refine a_icmp_ne C (pc := 41) 46 dX9_takesWord_41 (by decide) (fun hc => ?_) (fun hc => ?_)
  · have h := h.1 hc
    refine a_iconst C (pc := 46) dX9_takesWord_46 ic_0 ?_
    refine a_istore_n C (pc := 47) (lv1 := [(0, .ref h0), (1, .int l1), (2, .int 0)]) [1, 2, 0] dX9_takesWord_47 rfl (by decide) rfl ?_
    refine a_iconst C (pc := 48) dX9_takesWord_48 ic_0 ?_
    refine a_istore_n C (pc := 49) (lv1 := [(0, .ref h0), (1, .int l1), (2, .int 0), (3, .int 0)]) [1, 2, 3, 0] dX9_takesWord_49 rfl (by decide) rfl ?_
    obtain ⟨n0, h⟩ := h
    refine w_X9_takesWord_50 C hkm hnm n0 v_at v_word l1 0 0 h ?_
    intro v_at_12 v_word_13 l1_14 l2_15 h
    obtain ⟨n0, h⟩ := h
    refine w_X9_takesWord_69 C hkm hnm n0 v_at_12 v_word_13 l1_14 l2_15 h ?_
    intro v_at_21 v_word_22 l2_23 h
    exact w_X9_takesWord_132 C hkm hnm v_at_21 v_word_22 l2_23 h
  · have h := h.2 hc
    refine a_iconst C (pc := 44) dX9_takesWord_44 ic_0 ?_
    exact a_zreturn C (pc := 45) rfl rfl dX9_takesWord_45 hkm hnm ⟨_, _, _, rfl, rfl, h⟩
set_option maxRecDepth 100000 in
set_option maxHeartbeats 4000000 in
theorem m_X9_takesWord (Lx : Launch) (Dx : va_G) (cs : Nat → ClassId) (h0 : Nat) (d0 : Nat → Nat) (v_thrown : Int32) (v_taped : Int32) (v_at : Int32) (v_documents : Int32) (v_terms : Int32) (v_latest : Int32) (v_filed : Int32) (v_drafted : Int32) (v_place : Int32) (v_over : Int32) (v_clock : Int64) (v_askedTerms : Int32) (v_segments : Int32) (v_done : Int32) (v_postingsDone : Int32) (v_postingsAll : Int32) (v_why : Int32) (v_hits : Int32) (v_tape : Nat → Int32) (v_word : Nat → Int32) (l1 : Int32) (Φ : Int32 → Int32 → (Nat → Int32) → Prop) (h : P_X9_takesWord v_at v_tape v_word l1 Φ) : XMet Lx Dx cs yX9_takesWord cX9_takesWord 4 (some .boolean) 1 20 0 0 [.ref h0, .int l1] [(h0, oX9 d0 v_thrown v_taped v_at v_documents v_terms v_latest v_filed v_drafted v_place v_over v_clock v_askedTerms v_segments v_done v_postingsDone v_postingsAll v_why v_hits), ((d0 1), aI cs 3000 v_tape), ((d0 3), aI cs 8 v_word)] (R_X9_takesWord cs h0 d0 v_thrown v_taped v_documents v_terms v_latest v_filed v_drafted v_place v_over v_clock v_askedTerms v_segments v_done v_postingsDone v_postingsAll v_why v_hits v_tape Φ) (fun _ _ => False) := by
  refine XMet.of (own := RX9) (nm := "takesWord") (by decide) rfl rfl (Nat.le_of_ble_eq_true rfl) (fun Γ C => ?_)
  unfold P_X9_takesWord at h
  obtain ⟨n0, h⟩ := h
  refine w_X9_takesWord_0 C (Nat.le_of_ble_eq_true rfl) (Nat.le_of_ble_eq_true rfl) n0 v_at v_word l1 h ?_
  intro v_at_5 v_word_6 l1_7 h
  exact w_X9_takesWord_36 C (Nat.le_of_ble_eq_true rfl) (Nat.le_of_ble_eq_true rfl) v_at_5 v_word_6 l1_7 h
set_option maxRecDepth 100000 in
set_option maxHeartbeats 4000000 in
theorem w_X9_compared_2 {Γ : XG} {Lx : Launch} {Dx : va_G} {cs : Nat → ClassId} {n_a1 : Nat} {h0 : Nat} {h1 : Nat} {d0 : Nat → Nat} {v_thrown : Int32} {v_taped : Int32} {v_at : Int32} {v_documents : Int32} {v_terms : Int32} {v_latest : Int32} {v_filed : Int32} {v_drafted : Int32} {v_place : Int32} {v_over : Int32} {v_clock : Int64} {v_askedTerms : Int32} {v_segments : Int32} {v_done : Int32} {v_postingsDone : Int32} {v_postingsAll : Int32} {v_why : Int32} {v_hits : Int32} {v_word : Nat → Int32} {v_a1 : Nat → Int32} {K_22 : Int32 → Int32 → Prop} {Φ : Int32 → Prop} {k n9 : Nat} (C : CX Γ Lx Dx cs cX9_compared RX9 "compared" 4 (some .int) 0 0 0 0 (qEC cs 0 0 [] (R_X9_compared cs n_a1 h0 h1 d0 v_thrown v_taped v_at v_documents v_terms v_latest v_filed v_drafted v_place v_over v_clock v_askedTerms v_segments v_done v_postingsDone v_postingsAll v_why v_hits v_word v_a1 Φ) (fun _ _ => False))) (hkm : k ≤ 0) (hnm : n9 ≤ 0) : ∀ n : Nat, ∀ (l2 : Int32) (l3 : Int32), L_X9_compared_2 n n_a1 v_word v_a1 l2 l3 K_22 Φ → (∀ (l2_1 : Int32) (l3_2 : Int32), K_22 l2_1 l3_2 → AW Γ k n9 22 [(0, .ref h0), (1, .ref h1), (2, .int l2_1), (3, .int l3_2)] [] [(h0, oX9 d0 v_thrown v_taped v_at v_documents v_terms v_latest v_filed v_drafted v_place v_over v_clock v_askedTerms v_segments v_done v_postingsDone v_postingsAll v_why v_hits), ((d0 3), aI cs 8 v_word), (h1, aI cs n_a1 v_a1)]) → AW Γ k n9 2 [(0, .ref h0), (1, .ref h1), (2, .int l2), (3, .int l3)] [] [(h0, oX9 d0 v_thrown v_taped v_at v_documents v_terms v_latest v_filed v_drafted v_place v_over v_clock v_askedTerms v_segments v_done v_postingsDone v_postingsAll v_why v_hits), ((d0 3), aI cs 8 v_word), (h1, aI cs n_a1 v_a1)] := by
  intro n
  induction n with
  | zero =>
    intro l2 l3 h
    exact False.elim h
  | succ n ih =>
    intro l2 l3 h hK_22
    rw [L_X9_compared_2] at h
    refine a_iload_n C (pc := 2) 3 dX9_compared_2 rfl rfl ?_
    refine a_bipush C (pc := 3) dX9_compared_3 bp_8 ?_
    refine a_icmp_ge C (pc := 5) 41 dX9_compared_5 (by decide) (fun hc => ?_) (fun hc => ?_)
    · have h := h.1 hc
      refine a_iconst C (pc := 41) dX9_compared_41 ic_0 ?_
      exact a_ireturn C (pc := 42) rfl dX9_compared_42 hkm hnm ⟨_, rfl, rfl, h⟩
    · have h := h.2 hc
      refine a_aload_n C (pc := 8) 0 dX9_compared_8 rfl rfl ?_
      refine a_get C (pc := 9) 0 3 inW_X9 rfl rfl (Nat.le_of_ble_eq_true rfl) wF_X9_13 rfl rfl dX9_compared_9 ?_
      refine a_iload_n C (pc := 12) 3 dX9_compared_12 rfl rfl ?_
      refine a_iald C (pc := 13) 1 rfl h.1 dX9_compared_13 ?_
      replace h := h.2
      refine a_aload_n C (pc := 14) 1 dX9_compared_14 rfl rfl ?_
      refine a_iload_n C (pc := 15) 2 dX9_compared_15 rfl rfl ?_
      refine a_iload_n C (pc := 16) 3 dX9_compared_16 rfl rfl ?_
      refine a_iadd C (pc := 17) dX9_compared_17 ?_
      refine a_iald C (pc := 18) 2 rfl h.1 dX9_compared_18 ?_
      replace h := h.2
      refine a_icmp_eq C (pc := 19) 35 dX9_compared_19 (by decide) (fun hc => ?_) (fun hc => ?_)
      · have h := h.1 hc
        refine a_iinc C (pc := 35) (lv1 := [(0, .ref h0), (1, .ref h1), (2, .int l2), (3, .int (l3 + 1))]) 3 [1, 2, 3, 0] dX9_compared_35 rfl (congrArg (fun z => l3 + z) ic_1) (by decide) rfl ?_
        refine a_goto C (pc := 38) 2 dX9_compared_38 (by decide) ?_
        exact ih l2 (l3 + 1) h hK_22
      · have h := h.2 hc
        exact hK_22 l2 l3 h
set_option maxRecDepth 100000 in
set_option maxHeartbeats 4000000 in
theorem m_X9_compared (Lx : Launch) (Dx : va_G) (cs : Nat → ClassId) (n_a1 : Nat) (h0 : Nat) (h1 : Nat) (d0 : Nat → Nat) (v_thrown : Int32) (v_taped : Int32) (v_at : Int32) (v_documents : Int32) (v_terms : Int32) (v_latest : Int32) (v_filed : Int32) (v_drafted : Int32) (v_place : Int32) (v_over : Int32) (v_clock : Int64) (v_askedTerms : Int32) (v_segments : Int32) (v_done : Int32) (v_postingsDone : Int32) (v_postingsAll : Int32) (v_why : Int32) (v_hits : Int32) (v_word : Nat → Int32) (v_a1 : Nat → Int32) (l2 : Int32) (Φ : Int32 → Prop) (h : P_X9_compared n_a1 v_word v_a1 l2 Φ) : XMet Lx Dx cs yX9_compared cX9_compared 4 (some .int) 0 0 0 0 [.ref h0, .ref h1, .int l2] [(h0, oX9 d0 v_thrown v_taped v_at v_documents v_terms v_latest v_filed v_drafted v_place v_over v_clock v_askedTerms v_segments v_done v_postingsDone v_postingsAll v_why v_hits), ((d0 3), aI cs 8 v_word), (h1, aI cs n_a1 v_a1)] (R_X9_compared cs n_a1 h0 h1 d0 v_thrown v_taped v_at v_documents v_terms v_latest v_filed v_drafted v_place v_over v_clock v_askedTerms v_segments v_done v_postingsDone v_postingsAll v_why v_hits v_word v_a1 Φ) (fun _ _ => False) := by
  refine XMet.of (own := RX9) (nm := "compared") (by decide) rfl rfl (Nat.le_of_ble_eq_true rfl) (fun Γ C => ?_)
  unfold P_X9_compared at h
  refine a_iconst C (pc := 0) dX9_compared_0 ic_0 ?_
  refine a_istore_n C (pc := 1) (lv1 := [(0, .ref h0), (1, .ref h1), (2, .int l2), (3, .int 0)]) [1, 2, 3, 0] dX9_compared_1 rfl (by decide) rfl ?_
  obtain ⟨n0, h⟩ := h
  refine w_X9_compared_2 C (Nat.le_of_ble_eq_true rfl) (Nat.le_of_ble_eq_true rfl) n0 l2 0 h ?_
  intro l2_3 l3_4 h
  refine a_aload_n C (pc := 22) 0 dX9_compared_22 rfl rfl ?_
  refine a_get C (pc := 23) 0 3 inW_X9 rfl rfl (Nat.le_of_ble_eq_true rfl) wF_X9_13 rfl rfl dX9_compared_23 ?_
  refine a_iload_n C (pc := 26) 3 dX9_compared_26 rfl rfl ?_
  refine a_iald C (pc := 27) 1 rfl h.1 dX9_compared_27 ?_
  replace h := h.2
  refine a_aload_n C (pc := 28) 1 dX9_compared_28 rfl rfl ?_
  refine a_iload_n C (pc := 29) 2 dX9_compared_29 rfl rfl ?_
  refine a_iload_n C (pc := 30) 3 dX9_compared_30 rfl rfl ?_
  refine a_iadd C (pc := 31) dX9_compared_31 ?_
  refine a_iald C (pc := 32) 2 rfl h.1 dX9_compared_32 ?_
  replace h := h.2
  refine a_isub C (pc := 33) dX9_compared_33 ?_
  exact a_ireturn C (pc := 34) rfl dX9_compared_34 (Nat.le_of_ble_eq_true rfl) (Nat.le_of_ble_eq_true rfl) ⟨_, rfl, rfl, h⟩
set_option maxRecDepth 100000 in
set_option maxHeartbeats 4000000 in
theorem w_X9_finds_3 {Γ : XG} {Lx : Launch} {Dx : va_G} {cs : Nat → ClassId} {n_a1 : Nat} {h0 : Nat} {h1 : Nat} {d0 : Nat → Nat} {v_thrown : Int32} {v_taped : Int32} {v_at : Int32} {v_documents : Int32} {v_terms : Int32} {v_latest : Int32} {v_filed : Int32} {v_drafted : Int32} {v_place : Int32} {v_over : Int32} {v_clock : Int64} {v_askedTerms : Int32} {v_segments : Int32} {v_done : Int32} {v_postingsDone : Int32} {v_postingsAll : Int32} {v_why : Int32} {v_hits : Int32} {v_word : Nat → Int32} {v_a1 : Nat → Int32} {K_33 : Prop} {Φ : Int32 → Prop} {k n9 : Nat} (C : CX Γ Lx Dx cs cX9_finds RX9 "finds" 5 (some .int) 1 23 0 0 (qEC cs 0 0 [] (R_X9_finds cs n_a1 h0 h1 d0 v_thrown v_taped v_at v_documents v_terms v_latest v_filed v_drafted v_place v_over v_clock v_askedTerms v_segments v_done v_postingsDone v_postingsAll v_why v_hits v_word v_a1 Φ) (fun _ _ => False))) (hkm : k ≤ 0) (hnm : n9 ≤ 0) : ∀ n : Nat, ∀ (l2 : Int32) (l3 : Int32) (l4 : Int32), L_X9_finds_3 n n_a1 v_word v_a1 l2 l3 l4 K_33 Φ → (K_33 → AW Γ k n9 33 [] [] [(h0, oX9 d0 v_thrown v_taped v_at v_documents v_terms v_latest v_filed v_drafted v_place v_over v_clock v_askedTerms v_segments v_done v_postingsDone v_postingsAll v_why v_hits), ((d0 3), aI cs 8 v_word), (h1, aI cs n_a1 v_a1)]) → AW Γ k n9 3 [(0, .ref h0), (1, .ref h1), (2, .int l2), (3, .int l3), (4, .int l4)] [] [(h0, oX9 d0 v_thrown v_taped v_at v_documents v_terms v_latest v_filed v_drafted v_place v_over v_clock v_askedTerms v_segments v_done v_postingsDone v_postingsAll v_why v_hits), ((d0 3), aI cs 8 v_word), (h1, aI cs n_a1 v_a1)] := by
  intro n
  induction n with
  | zero =>
    intro l2 l3 l4 h
    exact False.elim h
  | succ n ih =>
    intro l2 l3 l4 h hK_33
    rw [L_X9_finds_3] at h
    refine a_iload C (pc := 3) 4 dX9_finds_3 rfl ?_
    refine a_iload_n C (pc := 5) 3 dX9_finds_5 rfl rfl ?_
    refine a_icmp_ge C (pc := 6) 33 dX9_finds_6 (by decide) (fun hc => ?_) (fun hc => ?_)
    · have h := h.1 hc
      refine a_lv (lv1 := []) [] rfl ?_
      exact hK_33 h
    · have h := h.2 hc
      refine a_aload_n C (pc := 9) 0 dX9_finds_9 rfl rfl ?_
      refine a_aload_n C (pc := 10) 1 dX9_finds_10 rfl rfl ?_
      refine a_iload_n C (pc := 11) 2 dX9_finds_11 rfl rfl ?_
      refine a_bipush C (pc := 12) dX9_finds_12 bp_8 ?_
      refine a_iload C (pc := 14) 4 dX9_finds_14 rfl ?_
      refine a_imul C (pc := 16) dX9_finds_16 ?_
      refine a_iadd C (pc := 17) dX9_finds_17 ?_
      refine a_callV C (pc := 18) (av := [.ref h1, .int (l2 + (8 * l4))]) (wr := []) (m_X9_compared Lx Dx cs n_a1 h0 h1 d0 v_thrown v_taped v_at v_documents v_terms v_latest v_filed v_drafted v_place v_over v_clock v_askedTerms v_segments v_done v_postingsDone v_postingsAll v_why v_hits v_word v_a1 (l2 + (8 * l4)) _ h) [0, 1, 2] [] rfl rfl (by decide) (by decide) (by decide) wM_X9_109 wb_X9_compared hy_X9_compared (q0 := 0) rfl rfl rfl ⟨Nat.le_of_ble_eq_true rfl, Nat.le_of_ble_eq_true rfl⟩ (Nat.le_of_ble_eq_true rfl) hkm hnm rfl dX9_finds_18 (fun v w1 hw => ?_) [] rfl (fun _ _ h => h.elim)
      obtain ⟨r_1, rfl, rfl, h⟩ := hw
      refine a_ws (st1 := [.int r_1]) (ws1 := [(h0, oX9 d0 v_thrown v_taped v_at v_documents v_terms v_latest v_filed v_drafted v_place v_over v_clock v_askedTerms v_segments v_done v_postingsDone v_postingsAll v_why v_hits), ((d0 3), aI cs 8 v_word), (h1, aI cs n_a1 v_a1)]) k n9 21 [0, 1, 2] rfl rfl rfl rfl (by decide) rfl ?_
      refine a_if_ne C (pc := 21) 27 dX9_finds_21 (by decide) (fun hc => ?_) (fun hc => ?_)
      · have h := h.1 hc
        refine a_iinc C (pc := 27) (lv1 := [(0, .ref h0), (1, .ref h1), (2, .int l2), (3, .int l3), (4, .int (l4 + 1))]) 4 [1, 2, 3, 4, 0] dX9_finds_27 rfl (congrArg (fun z => l4 + z) ic_1) (by decide) rfl ?_
        refine a_goto C (pc := 30) 3 dX9_finds_30 (by decide) ?_
        exact ih l2 l3 (l4 + 1) h hK_33
      · have h := h.2 hc
        refine a_iload C (pc := 24) 4 dX9_finds_24 rfl ?_
        exact a_ireturn C (pc := 26) rfl dX9_finds_26 hkm hnm ⟨_, rfl, rfl, h⟩
set_option maxRecDepth 100000 in
set_option maxHeartbeats 4000000 in
theorem m_X9_finds (Lx : Launch) (Dx : va_G) (cs : Nat → ClassId) (n_a1 : Nat) (h0 : Nat) (h1 : Nat) (d0 : Nat → Nat) (v_thrown : Int32) (v_taped : Int32) (v_at : Int32) (v_documents : Int32) (v_terms : Int32) (v_latest : Int32) (v_filed : Int32) (v_drafted : Int32) (v_place : Int32) (v_over : Int32) (v_clock : Int64) (v_askedTerms : Int32) (v_segments : Int32) (v_done : Int32) (v_postingsDone : Int32) (v_postingsAll : Int32) (v_why : Int32) (v_hits : Int32) (v_word : Nat → Int32) (v_a1 : Nat → Int32) (l2 : Int32) (l3 : Int32) (Φ : Int32 → Prop) (h : P_X9_finds n_a1 v_word v_a1 l2 l3 Φ) : XMet Lx Dx cs yX9_finds cX9_finds 5 (some .int) 1 23 0 0 [.ref h0, .ref h1, .int l2, .int l3] [(h0, oX9 d0 v_thrown v_taped v_at v_documents v_terms v_latest v_filed v_drafted v_place v_over v_clock v_askedTerms v_segments v_done v_postingsDone v_postingsAll v_why v_hits), ((d0 3), aI cs 8 v_word), (h1, aI cs n_a1 v_a1)] (R_X9_finds cs n_a1 h0 h1 d0 v_thrown v_taped v_at v_documents v_terms v_latest v_filed v_drafted v_place v_over v_clock v_askedTerms v_segments v_done v_postingsDone v_postingsAll v_why v_hits v_word v_a1 Φ) (fun _ _ => False) := by
  refine XMet.of (own := RX9) (nm := "finds") (by decide) rfl rfl (Nat.le_of_ble_eq_true rfl) (fun Γ C => ?_)
  unfold P_X9_finds at h
  refine a_iconst C (pc := 0) dX9_finds_0 ic_0 ?_
  refine a_istore C (pc := 1) (lv1 := [(0, .ref h0), (1, .ref h1), (2, .int l2), (3, .int l3), (4, .int 0)]) [1, 2, 3, 4, 0] dX9_finds_1 (by decide) rfl ?_
  obtain ⟨n0, h⟩ := h
  refine w_X9_finds_3 C (Nat.le_of_ble_eq_true rfl) (Nat.le_of_ble_eq_true rfl) n0 l2 l3 0 h ?_
  intro h
  refine a_iconst C (pc := 33) dX9_finds_33 ic_m1 ?_
  exact a_ireturn C (pc := 34) rfl dX9_finds_34 (Nat.le_of_ble_eq_true rfl) (Nat.le_of_ble_eq_true rfl) ⟨_, rfl, rfl, h⟩
set_option maxRecDepth 100000 in
set_option maxHeartbeats 4000000 in
theorem w_X9_frequency_4 {Γ : XG} {Lx : Launch} {Dx : va_G} {cs : Nat → ClassId} {h0 : Nat} {d0 : Nat → Nat} {v_thrown : Int32} {v_taped : Int32} {v_at : Int32} {v_documents : Int32} {v_terms : Int32} {v_latest : Int32} {v_filed : Int32} {v_drafted : Int32} {v_place : Int32} {v_over : Int32} {v_clock : Int64} {v_askedTerms : Int32} {v_segments : Int32} {v_done : Int32} {v_postingsDone : Int32} {v_postingsAll : Int32} {v_why : Int32} {v_hits : Int32} {v_often : Nat → Int32} {K_40 : Int32 → Prop} {Φ : Int32 → Prop} {k n9 : Nat} (C : CX Γ Lx Dx cs cX9_frequency RX9 "frequency" 4 (some .int) 0 0 0 0 (qEC cs 0 0 [] (R_X9_frequency cs h0 d0 v_thrown v_taped v_at v_documents v_terms v_latest v_filed v_drafted v_place v_over v_clock v_askedTerms v_segments v_done v_postingsDone v_postingsAll v_why v_hits v_often Φ) (fun _ _ => False))) (hkm : k ≤ 0) (hnm : n9 ≤ 0) : ∀ n : Nat, ∀ (l1 : Int32) (l2 : Int32) (l3 : Int32), L_X9_frequency_4 n v_documents v_often l1 l2 l3 K_40 Φ → (∀ (l2_1 : Int32), K_40 l2_1 → AW Γ k n9 40 [(2, .int l2_1)] [] [(h0, oX9 d0 v_thrown v_taped v_at v_documents v_terms v_latest v_filed v_drafted v_place v_over v_clock v_askedTerms v_segments v_done v_postingsDone v_postingsAll v_why v_hits), ((d0 8), aI cs 2560 v_often)]) → AW Γ k n9 4 [(0, .ref h0), (1, .int l1), (2, .int l2), (3, .int l3)] [] [(h0, oX9 d0 v_thrown v_taped v_at v_documents v_terms v_latest v_filed v_drafted v_place v_over v_clock v_askedTerms v_segments v_done v_postingsDone v_postingsAll v_why v_hits), ((d0 8), aI cs 2560 v_often)] := by
  intro n
  induction n with
  | zero =>
    intro l1 l2 l3 h
    exact False.elim h
  | succ n ih =>
    intro l1 l2 l3 h hK_40
    rw [L_X9_frequency_4] at h
    refine a_iload_n C (pc := 4) 3 dX9_frequency_4 rfl rfl ?_
    refine a_aload_n C (pc := 5) 0 dX9_frequency_5 rfl rfl ?_
    refine a_get C (pc := 6) 0 5 inW_X9 rfl rfl (Nat.le_of_ble_eq_true rfl) wF_X9_120 rfl rfl dX9_frequency_6 ?_
    refine a_icmp_ge C (pc := 9) 40 dX9_frequency_9 (by decide) (fun hc => ?_) (fun hc => ?_)
    · have h := h.1 hc
      refine a_lv (lv1 := [(2, .int l2)]) [2] rfl ?_
      exact hK_40 l2 h
    · have h := h.2 hc
      refine a_iload_n C (pc := 12) 2 dX9_frequency_12 rfl rfl ?_
      refine a_aload_n C (pc := 13) 0 dX9_frequency_13 rfl rfl ?_
      refine a_get C (pc := 14) 0 8 inW_X9 rfl rfl (Nat.le_of_ble_eq_true rfl) wF_X9_19 rfl rfl dX9_frequency_14 ?_
      refine a_bipush C (pc := 17) dX9_frequency_17 bp_40 ?_
      refine a_iload_n C (pc := 19) 1 dX9_frequency_19 rfl rfl ?_
      refine a_imul C (pc := 20) dX9_frequency_20 ?_
      refine a_iload_n C (pc := 21) 3 dX9_frequency_21 rfl rfl ?_
      refine a_iadd C (pc := 22) dX9_frequency_22 ?_
      refine a_iald C (pc := 23) 1 rfl h.1 dX9_frequency_23 ?_
      replace h := h.2
      refine a_if_le C (pc := 24) 31 dX9_frequency_24 (by decide) (fun hc => ?_) (fun hc => ?_)
      · have h := h.1 hc
        refine a_iconst C (pc := 31) dX9_frequency_31 ic_0 ?_
        refine a_iadd C (pc := 32) dX9_frequency_32 ?_
        refine a_istore_n C (pc := 33) (lv1 := [(0, .ref h0), (1, .int l1), (2, .int (l2 + 0)), (3, .int l3)]) [1, 2, 0, 3] dX9_frequency_33 rfl (by decide) rfl ?_
        refine a_iinc C (pc := 34) (lv1 := [(0, .ref h0), (1, .int l1), (2, .int (l2 + 0)), (3, .int (l3 + 1))]) 3 [1, 2, 3, 0] dX9_frequency_34 rfl (congrArg (fun z => l3 + z) ic_1) (by decide) rfl ?_
        refine a_goto C (pc := 37) 4 dX9_frequency_37 (by decide) ?_
        exact ih l1 (l2 + 0) (l3 + 1) h hK_40
      · have h := h.2 hc
        refine a_iconst C (pc := 27) dX9_frequency_27 ic_1 ?_
        refine a_goto C (pc := 28) 32 dX9_frequency_28 (by decide) ?_
        refine a_iadd C (pc := 32) dX9_frequency_32 ?_
        refine a_istore_n C (pc := 33) (lv1 := [(0, .ref h0), (1, .int l1), (2, .int (l2 + 1)), (3, .int l3)]) [1, 2, 0, 3] dX9_frequency_33 rfl (by decide) rfl ?_
        refine a_iinc C (pc := 34) (lv1 := [(0, .ref h0), (1, .int l1), (2, .int (l2 + 1)), (3, .int (l3 + 1))]) 3 [1, 2, 3, 0] dX9_frequency_34 rfl (congrArg (fun z => l3 + z) ic_1) (by decide) rfl ?_
        refine a_goto C (pc := 37) 4 dX9_frequency_37 (by decide) ?_
        exact ih l1 (l2 + 1) (l3 + 1) h hK_40
set_option maxRecDepth 100000 in
set_option maxHeartbeats 4000000 in
theorem m_X9_frequency (Lx : Launch) (Dx : va_G) (cs : Nat → ClassId) (h0 : Nat) (d0 : Nat → Nat) (v_thrown : Int32) (v_taped : Int32) (v_at : Int32) (v_documents : Int32) (v_terms : Int32) (v_latest : Int32) (v_filed : Int32) (v_drafted : Int32) (v_place : Int32) (v_over : Int32) (v_clock : Int64) (v_askedTerms : Int32) (v_segments : Int32) (v_done : Int32) (v_postingsDone : Int32) (v_postingsAll : Int32) (v_why : Int32) (v_hits : Int32) (v_often : Nat → Int32) (l1 : Int32) (Φ : Int32 → Prop) (h : P_X9_frequency v_documents v_often l1 Φ) : XMet Lx Dx cs yX9_frequency cX9_frequency 4 (some .int) 0 0 0 0 [.ref h0, .int l1] [(h0, oX9 d0 v_thrown v_taped v_at v_documents v_terms v_latest v_filed v_drafted v_place v_over v_clock v_askedTerms v_segments v_done v_postingsDone v_postingsAll v_why v_hits), ((d0 8), aI cs 2560 v_often)] (R_X9_frequency cs h0 d0 v_thrown v_taped v_at v_documents v_terms v_latest v_filed v_drafted v_place v_over v_clock v_askedTerms v_segments v_done v_postingsDone v_postingsAll v_why v_hits v_often Φ) (fun _ _ => False) := by
  refine XMet.of (own := RX9) (nm := "frequency") (by decide) rfl rfl (Nat.le_of_ble_eq_true rfl) (fun Γ C => ?_)
  unfold P_X9_frequency at h
  refine a_iconst C (pc := 0) dX9_frequency_0 ic_0 ?_
  refine a_istore_n C (pc := 1) (lv1 := [(0, .ref h0), (1, .int l1), (2, .int 0)]) [1, 2, 0] dX9_frequency_1 rfl (by decide) rfl ?_
  refine a_iconst C (pc := 2) dX9_frequency_2 ic_0 ?_
  refine a_istore_n C (pc := 3) (lv1 := [(0, .ref h0), (1, .int l1), (2, .int 0), (3, .int 0)]) [1, 2, 3, 0] dX9_frequency_3 rfl (by decide) rfl ?_
  obtain ⟨n0, h⟩ := h
  refine w_X9_frequency_4 C (Nat.le_of_ble_eq_true rfl) (Nat.le_of_ble_eq_true rfl) n0 l1 0 0 h ?_
  intro l2_2 h
  refine a_iload_n C (pc := 40) 0 dX9_frequency_40 rfl rfl ?_
  exact a_ireturn C (pc := 41) rfl dX9_frequency_41 (Nat.le_of_ble_eq_true rfl) (Nat.le_of_ble_eq_true rfl) ⟨_, rfl, rfl, h⟩
set_option maxRecDepth 100000 in
set_option maxHeartbeats 4000000 in
theorem w_X9_countPostings_4 {Γ : XG} {Lx : Launch} {Dx : va_G} {cs : Nat → ClassId} {h0 : Nat} {d0 : Nat → Nat} {v_thrown : Int32} {v_taped : Int32} {v_at : Int32} {v_documents : Int32} {v_terms : Int32} {v_latest : Int32} {v_filed : Int32} {v_drafted : Int32} {v_place : Int32} {v_over : Int32} {v_clock : Int64} {v_askedTerms : Int32} {v_segments : Int32} {v_done : Int32} {v_postingsDone : Int32} {v_postingsAll : Int32} {v_why : Int32} {v_hits : Int32} {v_often : Nat → Int32} {K_26 : Int32 → Prop} {Φ : Int32 → Prop} {k n9 : Nat} (C : CX Γ Lx Dx cs cX9_countPostings RX9 "countPostings" 3 (some .int) 1 23 0 0 (qEC cs 0 0 [] (R_X9_countPostings cs h0 d0 v_thrown v_taped v_at v_documents v_terms v_latest v_filed v_drafted v_place v_over v_clock v_askedTerms v_segments v_done v_postingsDone v_postingsAll v_why v_hits v_often Φ) (fun _ _ => False))) (hkm : k ≤ 0) (hnm : n9 ≤ 0) : ∀ n : Nat, ∀ (l1 : Int32) (l2 : Int32), L_X9_countPostings_4 n v_documents v_terms v_often l1 l2 K_26 Φ → (∀ (l1_2 : Int32), K_26 l1_2 → AW Γ k n9 26 [(1, .int l1_2)] [] [(h0, oX9 d0 v_thrown v_taped v_at v_documents v_terms v_latest v_filed v_drafted v_place v_over v_clock v_askedTerms v_segments v_done v_postingsDone v_postingsAll v_why v_hits), ((d0 8), aI cs 2560 v_often)]) → AW Γ k n9 4 [(0, .ref h0), (1, .int l1), (2, .int l2)] [] [(h0, oX9 d0 v_thrown v_taped v_at v_documents v_terms v_latest v_filed v_drafted v_place v_over v_clock v_askedTerms v_segments v_done v_postingsDone v_postingsAll v_why v_hits), ((d0 8), aI cs 2560 v_often)] := by
  intro n
  induction n with
  | zero =>
    intro l1 l2 h
    exact False.elim h
  | succ n ih =>
    intro l1 l2 h hK_26
    rw [L_X9_countPostings_4] at h
    refine a_iload_n C (pc := 4) 2 dX9_countPostings_4 rfl rfl ?_
    refine a_aload_n C (pc := 5) 0 dX9_countPostings_5 rfl rfl ?_
    refine a_get C (pc := 6) 0 6 inW_X9 rfl rfl (Nat.le_of_ble_eq_true rfl) wF_X9_113 rfl rfl dX9_countPostings_6 ?_
    refine a_icmp_ge C (pc := 9) 26 dX9_countPostings_9 (by decide) (fun hc => ?_) (fun hc => ?_)
    · have h := h.1 hc
      refine a_lv (lv1 := [(1, .int l1)]) [1] rfl ?_
      exact hK_26 l1 h
    · have h := h.2 hc
      refine a_iload_n C (pc := 12) 1 dX9_countPostings_12 rfl rfl ?_
      refine a_aload_n C (pc := 13) 0 dX9_countPostings_13 rfl rfl ?_
      refine a_iload_n C (pc := 14) 2 dX9_countPostings_14 rfl rfl ?_
      refine a_callV C (pc := 15) (av := [.int l2]) (wr := []) (m_X9_frequency Lx Dx cs h0 d0 v_thrown v_taped v_at v_documents v_terms v_latest v_filed v_drafted v_place v_over v_clock v_askedTerms v_segments v_done v_postingsDone v_postingsAll v_why v_hits v_often l2 _ h) [0, 1] [] rfl rfl (by decide) (by decide) (by decide) wM_X9_131 wb_X9_frequency hy_X9_frequency (q0 := 0) rfl rfl rfl ⟨Nat.le_of_ble_eq_true rfl, Nat.le_of_ble_eq_true rfl⟩ (Nat.le_of_ble_eq_true rfl) hkm hnm rfl dX9_countPostings_15 (fun v w1 hw => ?_) [] rfl (fun _ _ h => h.elim)
      obtain ⟨r_1, rfl, rfl, h⟩ := hw
      refine a_ws (st1 := [.int r_1, .int l1]) (ws1 := [(h0, oX9 d0 v_thrown v_taped v_at v_documents v_terms v_latest v_filed v_drafted v_place v_over v_clock v_askedTerms v_segments v_done v_postingsDone v_postingsAll v_why v_hits), ((d0 8), aI cs 2560 v_often)]) k n9 18 [0, 1] rfl rfl rfl rfl (by decide) rfl ?_
      refine a_iadd C (pc := 18) dX9_countPostings_18 ?_
      refine a_istore_n C (pc := 19) (lv1 := [(0, .ref h0), (1, .int (l1 + r_1)), (2, .int l2)]) [1, 0, 2] dX9_countPostings_19 rfl (by decide) rfl ?_
      refine a_iinc C (pc := 20) (lv1 := [(0, .ref h0), (1, .int (l1 + r_1)), (2, .int (l2 + 1))]) 2 [1, 2, 0] dX9_countPostings_20 rfl (congrArg (fun z => l2 + z) ic_1) (by decide) rfl ?_
      refine a_goto C (pc := 23) 4 dX9_countPostings_23 (by decide) ?_
      exact ih (l1 + r_1) (l2 + 1) h hK_26
set_option maxRecDepth 100000 in
set_option maxHeartbeats 4000000 in
theorem m_X9_countPostings (Lx : Launch) (Dx : va_G) (cs : Nat → ClassId) (h0 : Nat) (d0 : Nat → Nat) (v_thrown : Int32) (v_taped : Int32) (v_at : Int32) (v_documents : Int32) (v_terms : Int32) (v_latest : Int32) (v_filed : Int32) (v_drafted : Int32) (v_place : Int32) (v_over : Int32) (v_clock : Int64) (v_askedTerms : Int32) (v_segments : Int32) (v_done : Int32) (v_postingsDone : Int32) (v_postingsAll : Int32) (v_why : Int32) (v_hits : Int32) (v_often : Nat → Int32) (Φ : Int32 → Prop) (h : P_X9_countPostings v_documents v_terms v_often Φ) : XMet Lx Dx cs yX9_countPostings cX9_countPostings 3 (some .int) 1 23 0 0 [.ref h0] [(h0, oX9 d0 v_thrown v_taped v_at v_documents v_terms v_latest v_filed v_drafted v_place v_over v_clock v_askedTerms v_segments v_done v_postingsDone v_postingsAll v_why v_hits), ((d0 8), aI cs 2560 v_often)] (R_X9_countPostings cs h0 d0 v_thrown v_taped v_at v_documents v_terms v_latest v_filed v_drafted v_place v_over v_clock v_askedTerms v_segments v_done v_postingsDone v_postingsAll v_why v_hits v_often Φ) (fun _ _ => False) := by
  refine XMet.of (own := RX9) (nm := "countPostings") (by decide) rfl rfl (Nat.le_of_ble_eq_true rfl) (fun Γ C => ?_)
  unfold P_X9_countPostings at h
  refine a_iconst C (pc := 0) dX9_countPostings_0 ic_0 ?_
  refine a_istore_n C (pc := 1) (lv1 := [(0, .ref h0), (1, .int 0)]) [1, 0] dX9_countPostings_1 rfl (by decide) rfl ?_
  refine a_iconst C (pc := 2) dX9_countPostings_2 ic_0 ?_
  refine a_istore_n C (pc := 3) (lv1 := [(0, .ref h0), (1, .int 0), (2, .int 0)]) [1, 2, 0] dX9_countPostings_3 rfl (by decide) rfl ?_
  obtain ⟨n0, h⟩ := h
  refine w_X9_countPostings_4 C (Nat.le_of_ble_eq_true rfl) (Nat.le_of_ble_eq_true rfl) n0 0 0 h ?_
  intro l1_3 h
  refine a_iload_n C (pc := 26) 0 dX9_countPostings_26 rfl rfl ?_
  exact a_ireturn C (pc := 27) rfl dX9_countPostings_27 (Nat.le_of_ble_eq_true rfl) (Nat.le_of_ble_eq_true rfl) ⟨_, rfl, rfl, h⟩
set_option maxRecDepth 100000 in
set_option maxHeartbeats 4000000 in
theorem w_X9_add_42 {Γ : XG} {Lx : Launch} {Dx : va_G} {cs : Nat → ClassId} {h0 : Nat} {d0 : Nat → Nat} {v_latest : Int32} {v_filed : Int32} {v_drafted : Int32} {v_place : Int32} {v_over : Int32} {v_clock : Int64} {v_askedTerms : Int32} {v_segments : Int32} {v_done : Int32} {v_postingsDone : Int32} {v_postingsAll : Int32} {v_why : Int32} {v_hits : Int32} {v_tape : Nat → Int32} {K_63 : Int32 → Int32 → Int32 → Int32 → Int32 → (Nat → Int32) → (Nat → Int32) → (Nat → Int32) → (Nat → Int32) → (Nat → Int32) → Int32 → Int32 → Int32 → Int32 → Int32 → Prop} {Φ : Int32 → Int32 → Int32 → Int32 → Int32 → Int32 → (Nat → Int32) → (Nat → Int32) → (Nat → Int32) → (Nat → Int32) → (Nat → Int32) → Prop} {k n9 : Nat} (C : CX Γ Lx Dx cs cX9_add RX9 "add" 8 (some .int) 2 47 0 0 (qEC cs 0 0 [] (R_X9_add cs h0 d0 v_latest v_filed v_drafted v_place v_over v_clock v_askedTerms v_segments v_done v_postingsDone v_postingsAll v_why v_hits v_tape Φ) (fun _ _ => False))) (hkm : k ≤ 0) (hnm : n9 ≤ 0) : ∀ n : Nat, ∀ (v_thrown : Int32) (v_taped : Int32) (v_at : Int32) (v_documents : Int32) (v_terms : Int32) (v_often : Nat → Int32) (v_fresh : Nat → Int32) (v_word : Nat → Int32) (v_term : Nat → Int32) (v_length : Nat → Int32) (l1 : Int32) (l2 : Int32) (l3 : Int32) (l4 : Int32) (l5 : Int32) (l6 : Int32), L_X9_add_42 n v_thrown v_taped v_at v_documents v_terms v_often v_fresh v_tape v_word v_term v_length l1 l2 l3 l4 l5 l6 K_63 Φ → (∀ (v_thrown_2 : Int32) (v_taped_3 : Int32) (v_at_4 : Int32) (v_documents_5 : Int32) (v_terms_6 : Int32) (v_often_7 : Nat → Int32) (v_fresh_8 : Nat → Int32) (v_word_9 : Nat → Int32) (v_term_10 : Nat → Int32) (v_length_11 : Nat → Int32) (l1_12 : Int32) (l2_13 : Int32) (l3_14 : Int32) (l4_15 : Int32) (l5_16 : Int32), K_63 v_thrown_2 v_taped_3 v_at_4 v_documents_5 v_terms_6 v_often_7 v_fresh_8 v_word_9 v_term_10 v_length_11 l1_12 l2_13 l3_14 l4_15 l5_16 → AW Γ k n9 63 [(0, .ref h0), (1, .int l1_12), (2, .int l2_13), (3, .int l3_14), (4, .int l4_15), (5, .int l5_16)] [] [(h0, oX9 d0 v_thrown_2 v_taped_3 v_at_4 v_documents_5 v_terms_6 v_latest v_filed v_drafted v_place v_over v_clock v_askedTerms v_segments v_done v_postingsDone v_postingsAll v_why v_hits), ((d0 8), aI cs 2560 v_often_7), ((d0 10), aI cs 64 v_fresh_8), ((d0 1), aI cs 3000 v_tape), ((d0 3), aI cs 8 v_word_9), ((d0 7), aI cs 512 v_term_10), ((d0 9), aI cs 40 v_length_11)]) → AW Γ k n9 42 [(0, .ref h0), (1, .int l1), (2, .int l2), (3, .int l3), (4, .int l4), (5, .int l5), (6, .int l6)] [] [(h0, oX9 d0 v_thrown v_taped v_at v_documents v_terms v_latest v_filed v_drafted v_place v_over v_clock v_askedTerms v_segments v_done v_postingsDone v_postingsAll v_why v_hits), ((d0 8), aI cs 2560 v_often), ((d0 10), aI cs 64 v_fresh), ((d0 1), aI cs 3000 v_tape), ((d0 3), aI cs 8 v_word), ((d0 7), aI cs 512 v_term), ((d0 9), aI cs 40 v_length)] := by
  intro n
  induction n with
  | zero =>
    intro v_thrown v_taped v_at v_documents v_terms v_often v_fresh v_word v_term v_length l1 l2 l3 l4 l5 l6 h
    exact False.elim h
  | succ n ih =>
    intro v_thrown v_taped v_at v_documents v_terms v_often v_fresh v_word v_term v_length l1 l2 l3 l4 l5 l6 h hK_63
    rw [L_X9_add_42] at h
    refine a_iload C (pc := 42) 6 dX9_add_42 rfl ?_
    refine a_bipush C (pc := 44) dX9_add_44 bp_64 ?_
    refine a_icmp_ge C (pc := 46) 63 dX9_add_46 (by decide) (fun hc => ?_) (fun hc => ?_)
    · have h := h.1 hc
      refine a_lv (lv1 := [(0, .ref h0), (1, .int l1), (2, .int l2), (3, .int l3), (4, .int l4), (5, .int l5)]) [0, 1, 2, 3, 4, 5] rfl ?_
      exact hK_63 v_thrown v_taped v_at v_documents v_terms v_often v_fresh v_word v_term v_length l1 l2 l3 l4 l5 h
    · have h := h.2 hc
      refine a_aload_n C (pc := 49) 0 dX9_add_49 rfl rfl ?_
      refine a_get C (pc := 50) 0 10 inW_X9 rfl rfl (Nat.le_of_ble_eq_true rfl) wF_X9_25 rfl rfl dX9_add_50 ?_
      refine a_iload C (pc := 53) 6 dX9_add_53 rfl ?_
      refine a_iconst C (pc := 55) dX9_add_55 ic_0 ?_
      refine a_iast C (pc := 56) (ws1 := [(h0, oX9 d0 v_thrown v_taped v_at v_documents v_terms v_latest v_filed v_drafted v_place v_over v_clock v_askedTerms v_segments v_done v_postingsDone v_postingsAll v_why v_hits), ((d0 8), aI cs 2560 v_often), ((d0 10), aI cs 64 (upd v_fresh (l6 : Int32).toNatClampNeg 0)), ((d0 1), aI cs 3000 v_tape), ((d0 3), aI cs 8 v_word), ((d0 7), aI cs 512 v_term), ((d0 9), aI cs 40 v_length)]) 2 rfl h.1 dX9_add_56 rfl ?_
      replace h := h.2
      refine a_iinc C (pc := 57) (lv1 := [(0, .ref h0), (1, .int l1), (2, .int l2), (3, .int l3), (4, .int l4), (5, .int l5), (6, .int (l6 + 1))]) 6 [1, 2, 3, 4, 5, 6, 0] dX9_add_57 rfl (congrArg (fun z => l6 + z) ic_1) (by decide) rfl ?_
      refine a_goto C (pc := 60) 42 dX9_add_60 (by decide) ?_
      exact ih v_thrown v_taped v_at v_documents v_terms v_often (upd v_fresh (l6 : Int32).toNatClampNeg 0) v_word v_term v_length l1 l2 l3 l4 l5 (l6 + 1) h hK_63
set_option maxRecDepth 100000 in
set_option maxHeartbeats 4000000 in
theorem w_X9_add_179 {Γ : XG} {Lx : Launch} {Dx : va_G} {cs : Nat → ClassId} {h0 : Nat} {d0 : Nat → Nat} {v_latest : Int32} {v_filed : Int32} {v_drafted : Int32} {v_place : Int32} {v_over : Int32} {v_clock : Int64} {v_askedTerms : Int32} {v_segments : Int32} {v_done : Int32} {v_postingsDone : Int32} {v_postingsAll : Int32} {v_why : Int32} {v_hits : Int32} {v_tape : Nat → Int32} {B_68 : Int32 → Int32 → Int32 → Int32 → Int32 → (Nat → Int32) → (Nat → Int32) → (Nat → Int32) → (Nat → Int32) → (Nat → Int32) → Int32 → Int32 → Int32 → Int32 → Int32 → Prop} {K_206 : Int32 → Int32 → Int32 → Int32 → Int32 → (Nat → Int32) → (Nat → Int32) → (Nat → Int32) → (Nat → Int32) → (Nat → Int32) → Int32 → Int32 → Int32 → Int32 → Prop} {Φ : Int32 → Int32 → Int32 → Int32 → Int32 → Int32 → (Nat → Int32) → (Nat → Int32) → (Nat → Int32) → (Nat → Int32) → (Nat → Int32) → Prop} {k n9 : Nat} (C : CX Γ Lx Dx cs cX9_add RX9 "add" 8 (some .int) 2 47 0 0 (qEC cs 0 0 [] (R_X9_add cs h0 d0 v_latest v_filed v_drafted v_place v_over v_clock v_askedTerms v_segments v_done v_postingsDone v_postingsAll v_why v_hits v_tape Φ) (fun _ _ => False))) (hkm : k ≤ 0) (hnm : n9 ≤ 0) (v_thrown : Int32) (v_taped : Int32) (v_at : Int32) (v_documents : Int32) (v_terms : Int32) (v_often : Nat → Int32) (v_fresh : Nat → Int32) (v_word : Nat → Int32) (v_term : Nat → Int32) (v_length : Nat → Int32) (l1 : Int32) (l2 : Int32) (l3 : Int32) (l4 : Int32) (l5 : Int32) (l6 : Int32) (h : J_X9_add_179 v_thrown v_taped v_at v_documents v_terms v_often v_fresh v_tape v_word v_term v_length l1 l2 l3 l4 l5 l6 B_68 K_206 Φ) (hB_68 : ∀ (v_thrown_36 : Int32) (v_taped_37 : Int32) (v_at_38 : Int32) (v_documents_39 : Int32) (v_terms_40 : Int32) (v_often_41 : Nat → Int32) (v_fresh_42 : Nat → Int32) (v_word_43 : Nat → Int32) (v_term_44 : Nat → Int32) (v_length_45 : Nat → Int32) (l1_46 : Int32) (l2_47 : Int32) (l3_48 : Int32) (l4_49 : Int32) (l5_50 : Int32), B_68 v_thrown_36 v_taped_37 v_at_38 v_documents_39 v_terms_40 v_often_41 v_fresh_42 v_word_43 v_term_44 v_length_45 l1_46 l2_47 l3_48 l4_49 l5_50 → AW Γ k n9 68 [(0, .ref h0), (1, .int l1_46), (2, .int l2_47), (3, .int l3_48), (4, .int l4_49), (5, .int l5_50)] [] [(h0, oX9 d0 v_thrown_36 v_taped_37 v_at_38 v_documents_39 v_terms_40 v_latest v_filed v_drafted v_place v_over v_clock v_askedTerms v_segments v_done v_postingsDone v_postingsAll v_why v_hits), ((d0 8), aI cs 2560 v_often_41), ((d0 10), aI cs 64 v_fresh_42), ((d0 1), aI cs 3000 v_tape), ((d0 3), aI cs 8 v_word_43), ((d0 7), aI cs 512 v_term_44), ((d0 9), aI cs 40 v_length_45)]) (hK_206 : ∀ (v_thrown_51 : Int32) (v_taped_52 : Int32) (v_at_53 : Int32) (v_documents_54 : Int32) (v_terms_55 : Int32) (v_often_56 : Nat → Int32) (v_fresh_57 : Nat → Int32) (v_word_58 : Nat → Int32) (v_term_59 : Nat → Int32) (v_length_60 : Nat → Int32) (l2_61 : Int32) (l3_62 : Int32) (l4_63 : Int32) (l5_64 : Int32), K_206 v_thrown_51 v_taped_52 v_at_53 v_documents_54 v_terms_55 v_often_56 v_fresh_57 v_word_58 v_term_59 v_length_60 l2_61 l3_62 l4_63 l5_64 → AW Γ k n9 206 [(0, .ref h0), (2, .int l2_61), (3, .int l3_62), (4, .int l4_63), (5, .int l5_64)] [] [(h0, oX9 d0 v_thrown_51 v_taped_52 v_at_53 v_documents_54 v_terms_55 v_latest v_filed v_drafted v_place v_over v_clock v_askedTerms v_segments v_done v_postingsDone v_postingsAll v_why v_hits), ((d0 8), aI cs 2560 v_often_56), ((d0 10), aI cs 64 v_fresh_57), ((d0 1), aI cs 3000 v_tape), ((d0 3), aI cs 8 v_word_58), ((d0 7), aI cs 512 v_term_59), ((d0 9), aI cs 40 v_length_60)]) : AW Γ k n9 179 [(0, .ref h0), (1, .int l1), (2, .int l2), (3, .int l3), (4, .int l4), (5, .int l5), (6, .int l6)] [] [(h0, oX9 d0 v_thrown v_taped v_at v_documents v_terms v_latest v_filed v_drafted v_place v_over v_clock v_askedTerms v_segments v_done v_postingsDone v_postingsAll v_why v_hits), ((d0 8), aI cs 2560 v_often), ((d0 10), aI cs 64 v_fresh), ((d0 1), aI cs 3000 v_tape), ((d0 3), aI cs 8 v_word), ((d0 7), aI cs 512 v_term), ((d0 9), aI cs 40 v_length)] := by
  unfold J_X9_add_179 at h
  refine a_aload_n C (pc := 179) 0 dX9_add_179 rfl rfl ?_
  refine a_get C (pc := 180) 0 10 inW_X9 rfl rfl (Nat.le_of_ble_eq_true rfl) wF_X9_25 rfl rfl dX9_add_180 ?_
  refine a_iload C (pc := 183) 6 dX9_add_183 rfl ?_
  refine a_iald C (pc := 185) 2 rfl h.1 dX9_add_185 ?_
  replace h := h.2
  refine a_if_ne C (pc := 186) 192 dX9_add_186 (by decide) (fun hc => ?_) (fun hc => ?_)
  · have h := h.1 hc
    refine a_aload_n C (pc := 192) 0 dX9_add_192 rfl rfl ?_
    refine a_get C (pc := 193) 0 10 inW_X9 rfl rfl (Nat.le_of_ble_eq_true rfl) wF_X9_25 rfl rfl dX9_add_193 ?_
    refine a_iload C (pc := 196) 6 dX9_add_196 rfl ?_
    refine a_dup2 C (pc := 198) dX9_add_198 rfl rfl ?_
    refine a_iald C (pc := 199) 2 rfl h.1 dX9_add_199 ?_
    replace h := h.2
    refine a_iconst C (pc := 200) dX9_add_200 ic_1 ?_
    refine a_iadd C (pc := 201) dX9_add_201 ?_
    refine a_iast C (pc := 202) (ws1 := [(h0, oX9 d0 v_thrown v_taped v_at v_documents v_terms v_latest v_filed v_drafted v_place v_over v_clock v_askedTerms v_segments v_done v_postingsDone v_postingsAll v_why v_hits), ((d0 8), aI cs 2560 v_often), ((d0 10), aI cs 64 (upd v_fresh (l6 : Int32).toNatClampNeg ((v_fresh (l6 : Int32).toNatClampNeg) + 1))), ((d0 1), aI cs 3000 v_tape), ((d0 3), aI cs 8 v_word), ((d0 7), aI cs 512 v_term), ((d0 9), aI cs 40 v_length)]) 2 rfl h.1 dX9_add_202 rfl ?_
    replace h := h.2
    refine a_goto C (pc := 203) 68 dX9_add_203 (by decide) ?_
    refine a_lv (lv1 := [(0, .ref h0), (1, .int l1), (2, .int l2), (3, .int l3), (4, .int l4), (5, .int l5)]) [0, 1, 2, 3, 4, 5] rfl ?_
    exact hB_68 v_thrown v_taped v_at v_documents v_terms v_often (upd v_fresh (l6 : Int32).toNatClampNeg ((v_fresh (l6 : Int32).toNatClampNeg) + 1)) v_word v_term v_length l1 l2 l3 l4 l5 h
  · have h := h.2 hc
    refine a_iinc C (pc := 189) (lv1 := [(0, .ref h0), (1, .int l1), (2, .int l2), (3, .int l3), (4, .int (l4 + 1)), (5, .int l5), (6, .int l6)]) 4 [1, 2, 3, 4, 0, 5, 6] dX9_add_189 rfl (congrArg (fun z => l4 + z) ic_1) (by decide) rfl ?_
    refine a_aload_n C (pc := 192) 0 dX9_add_192 rfl rfl ?_
    refine a_get C (pc := 193) 0 10 inW_X9 rfl rfl (Nat.le_of_ble_eq_true rfl) wF_X9_25 rfl rfl dX9_add_193 ?_
    refine a_iload C (pc := 196) 6 dX9_add_196 rfl ?_
    refine a_dup2 C (pc := 198) dX9_add_198 rfl rfl ?_
    refine a_iald C (pc := 199) 2 rfl h.1 dX9_add_199 ?_
    replace h := h.2
    refine a_iconst C (pc := 200) dX9_add_200 ic_1 ?_
    refine a_iadd C (pc := 201) dX9_add_201 ?_
    refine a_iast C (pc := 202) (ws1 := [(h0, oX9 d0 v_thrown v_taped v_at v_documents v_terms v_latest v_filed v_drafted v_place v_over v_clock v_askedTerms v_segments v_done v_postingsDone v_postingsAll v_why v_hits), ((d0 8), aI cs 2560 v_often), ((d0 10), aI cs 64 (upd v_fresh (l6 : Int32).toNatClampNeg ((v_fresh (l6 : Int32).toNatClampNeg) + 1))), ((d0 1), aI cs 3000 v_tape), ((d0 3), aI cs 8 v_word), ((d0 7), aI cs 512 v_term), ((d0 9), aI cs 40 v_length)]) 2 rfl h.1 dX9_add_202 rfl ?_
    replace h := h.2
    refine a_goto C (pc := 203) 68 dX9_add_203 (by decide) ?_
    refine a_lv (lv1 := [(0, .ref h0), (1, .int l1), (2, .int l2), (3, .int l3), (4, .int (l4 + 1)), (5, .int l5)]) [0, 1, 2, 3, 4, 5] rfl ?_
    exact hB_68 v_thrown v_taped v_at v_documents v_terms v_often (upd v_fresh (l6 : Int32).toNatClampNeg ((v_fresh (l6 : Int32).toNatClampNeg) + 1)) v_word v_term v_length l1 l2 l3 (l4 + 1) l5 h
set_option maxRecDepth 100000 in
set_option maxHeartbeats 4000000 in
theorem w_X9_add_136 {Γ : XG} {Lx : Launch} {Dx : va_G} {cs : Nat → ClassId} {h0 : Nat} {d0 : Nat → Nat} {v_latest : Int32} {v_filed : Int32} {v_drafted : Int32} {v_place : Int32} {v_over : Int32} {v_clock : Int64} {v_askedTerms : Int32} {v_segments : Int32} {v_done : Int32} {v_postingsDone : Int32} {v_postingsAll : Int32} {v_why : Int32} {v_hits : Int32} {v_tape : Nat → Int32} {K_169 : Int32 → Int32 → Int32 → Int32 → Int32 → (Nat → Int32) → (Nat → Int32) → (Nat → Int32) → (Nat → Int32) → (Nat → Int32) → Int32 → Int32 → Int32 → Int32 → Int32 → Int32 → Prop} {Φ : Int32 → Int32 → Int32 → Int32 → Int32 → Int32 → (Nat → Int32) → (Nat → Int32) → (Nat → Int32) → (Nat → Int32) → (Nat → Int32) → Prop} {k n9 : Nat} (C : CX Γ Lx Dx cs cX9_add RX9 "add" 8 (some .int) 2 47 0 0 (qEC cs 0 0 [] (R_X9_add cs h0 d0 v_latest v_filed v_drafted v_place v_over v_clock v_askedTerms v_segments v_done v_postingsDone v_postingsAll v_why v_hits v_tape Φ) (fun _ _ => False))) (hkm : k ≤ 0) (hnm : n9 ≤ 0) : ∀ n : Nat, ∀ (v_thrown : Int32) (v_taped : Int32) (v_at : Int32) (v_documents : Int32) (v_terms : Int32) (v_often : Nat → Int32) (v_fresh : Nat → Int32) (v_word : Nat → Int32) (v_term : Nat → Int32) (v_length : Nat → Int32) (l1 : Int32) (l2 : Int32) (l3 : Int32) (l4 : Int32) (l5 : Int32) (l6 : Int32) (l7 : Int32), L_X9_add_136 n v_thrown v_taped v_at v_documents v_terms v_often v_fresh v_tape v_word v_term v_length l1 l2 l3 l4 l5 l6 l7 K_169 Φ → (∀ (v_thrown_65 : Int32) (v_taped_66 : Int32) (v_at_67 : Int32) (v_documents_68 : Int32) (v_terms_69 : Int32) (v_often_70 : Nat → Int32) (v_fresh_71 : Nat → Int32) (v_word_72 : Nat → Int32) (v_term_73 : Nat → Int32) (v_length_74 : Nat → Int32) (l1_75 : Int32) (l2_76 : Int32) (l3_77 : Int32) (l4_78 : Int32) (l5_79 : Int32) (l6_80 : Int32), K_169 v_thrown_65 v_taped_66 v_at_67 v_documents_68 v_terms_69 v_often_70 v_fresh_71 v_word_72 v_term_73 v_length_74 l1_75 l2_76 l3_77 l4_78 l5_79 l6_80 → AW Γ k n9 169 [(0, .ref h0), (1, .int l1_75), (2, .int l2_76), (3, .int l3_77), (4, .int l4_78), (5, .int l5_79), (6, .int l6_80)] [] [(h0, oX9 d0 v_thrown_65 v_taped_66 v_at_67 v_documents_68 v_terms_69 v_latest v_filed v_drafted v_place v_over v_clock v_askedTerms v_segments v_done v_postingsDone v_postingsAll v_why v_hits), ((d0 8), aI cs 2560 v_often_70), ((d0 10), aI cs 64 v_fresh_71), ((d0 1), aI cs 3000 v_tape), ((d0 3), aI cs 8 v_word_72), ((d0 7), aI cs 512 v_term_73), ((d0 9), aI cs 40 v_length_74)]) → AW Γ k n9 136 [(0, .ref h0), (1, .int l1), (2, .int l2), (3, .int l3), (4, .int l4), (5, .int l5), (6, .int l6), (7, .int l7)] [] [(h0, oX9 d0 v_thrown v_taped v_at v_documents v_terms v_latest v_filed v_drafted v_place v_over v_clock v_askedTerms v_segments v_done v_postingsDone v_postingsAll v_why v_hits), ((d0 8), aI cs 2560 v_often), ((d0 10), aI cs 64 v_fresh), ((d0 1), aI cs 3000 v_tape), ((d0 3), aI cs 8 v_word), ((d0 7), aI cs 512 v_term), ((d0 9), aI cs 40 v_length)] := by
  intro n
  induction n with
  | zero =>
    intro v_thrown v_taped v_at v_documents v_terms v_often v_fresh v_word v_term v_length l1 l2 l3 l4 l5 l6 l7 h
    exact False.elim h
  | succ n ih =>
    intro v_thrown v_taped v_at v_documents v_terms v_often v_fresh v_word v_term v_length l1 l2 l3 l4 l5 l6 l7 h hK_169
    rw [L_X9_add_136] at h
    refine a_iload C (pc := 136) 7 dX9_add_136 rfl ?_
    refine a_bipush C (pc := 138) dX9_add_138 bp_8 ?_
    refine a_icmp_ge C (pc := 140) 169 dX9_add_140 (by decide) (fun hc => ?_) (fun hc => ?_)
    · have h := h.1 hc
      refine a_lv (lv1 := [(0, .ref h0), (1, .int l1), (2, .int l2), (3, .int l3), (4, .int l4), (5, .int l5), (6, .int l6)]) [0, 1, 2, 3, 4, 5, 6] rfl ?_
      exact hK_169 v_thrown v_taped v_at v_documents v_terms v_often v_fresh v_word v_term v_length l1 l2 l3 l4 l5 l6 h
    · have h := h.2 hc
      refine a_aload_n C (pc := 143) 0 dX9_add_143 rfl rfl ?_
      refine a_get C (pc := 144) 0 7 inW_X9 rfl rfl (Nat.le_of_ble_eq_true rfl) wF_X9_16 rfl rfl dX9_add_144 ?_
      refine a_bipush C (pc := 147) dX9_add_147 bp_8 ?_
      refine a_iload C (pc := 149) 6 dX9_add_149 rfl ?_
      refine a_imul C (pc := 151) dX9_add_151 ?_
      refine a_iload C (pc := 152) 7 dX9_add_152 rfl ?_
      refine a_iadd C (pc := 154) dX9_add_154 ?_
      refine a_aload_n C (pc := 155) 0 dX9_add_155 rfl rfl ?_
      refine a_get C (pc := 156) 0 3 inW_X9 rfl rfl (Nat.le_of_ble_eq_true rfl) wF_X9_13 rfl rfl dX9_add_156 ?_
      refine a_iload C (pc := 159) 7 dX9_add_159 rfl ?_
      refine a_iald C (pc := 161) 4 rfl h.1 dX9_add_161 ?_
      replace h := h.2
      refine a_iast C (pc := 162) (ws1 := [(h0, oX9 d0 v_thrown v_taped v_at v_documents v_terms v_latest v_filed v_drafted v_place v_over v_clock v_askedTerms v_segments v_done v_postingsDone v_postingsAll v_why v_hits), ((d0 8), aI cs 2560 v_often), ((d0 10), aI cs 64 v_fresh), ((d0 1), aI cs 3000 v_tape), ((d0 3), aI cs 8 v_word), ((d0 7), aI cs 512 (upd v_term ((8 * l6) + l7 : Int32).toNatClampNeg (v_word (l7 : Int32).toNatClampNeg))), ((d0 9), aI cs 40 v_length)]) 5 rfl h.1 dX9_add_162 rfl ?_
      replace h := h.2
      refine a_iinc C (pc := 163) (lv1 := [(0, .ref h0), (1, .int l1), (2, .int l2), (3, .int l3), (4, .int l4), (5, .int l5), (6, .int l6), (7, .int (l7 + 1))]) 7 [1, 2, 3, 4, 5, 6, 7, 0] dX9_add_163 rfl (congrArg (fun z => l7 + z) ic_1) (by decide) rfl ?_
      refine a_goto C (pc := 166) 136 dX9_add_166 (by decide) ?_
      exact ih v_thrown v_taped v_at v_documents v_terms v_often v_fresh v_word (upd v_term ((8 * l6) + l7 : Int32).toNatClampNeg (v_word (l7 : Int32).toNatClampNeg)) v_length l1 l2 l3 l4 l5 l6 (l7 + 1) h hK_169
set_option maxRecDepth 100000 in
set_option maxHeartbeats 4000000 in
theorem w_X9_add_122 {Γ : XG} {Lx : Launch} {Dx : va_G} {cs : Nat → ClassId} {h0 : Nat} {d0 : Nat → Nat} {v_latest : Int32} {v_filed : Int32} {v_drafted : Int32} {v_place : Int32} {v_over : Int32} {v_clock : Int64} {v_askedTerms : Int32} {v_segments : Int32} {v_done : Int32} {v_postingsDone : Int32} {v_postingsAll : Int32} {v_why : Int32} {v_hits : Int32} {v_tape : Nat → Int32} {B_68 : Int32 → Int32 → Int32 → Int32 → Int32 → (Nat → Int32) → (Nat → Int32) → (Nat → Int32) → (Nat → Int32) → (Nat → Int32) → Int32 → Int32 → Int32 → Int32 → Int32 → Prop} {K_206 : Int32 → Int32 → Int32 → Int32 → Int32 → (Nat → Int32) → (Nat → Int32) → (Nat → Int32) → (Nat → Int32) → (Nat → Int32) → Int32 → Int32 → Int32 → Int32 → Prop} {Φ : Int32 → Int32 → Int32 → Int32 → Int32 → Int32 → (Nat → Int32) → (Nat → Int32) → (Nat → Int32) → (Nat → Int32) → (Nat → Int32) → Prop} {k n9 : Nat} (C : CX Γ Lx Dx cs cX9_add RX9 "add" 8 (some .int) 2 47 0 0 (qEC cs 0 0 [] (R_X9_add cs h0 d0 v_latest v_filed v_drafted v_place v_over v_clock v_askedTerms v_segments v_done v_postingsDone v_postingsAll v_why v_hits v_tape Φ) (fun _ _ => False))) (hkm : k ≤ 0) (hnm : n9 ≤ 0) (v_thrown : Int32) (v_taped : Int32) (v_at : Int32) (v_documents : Int32) (v_terms : Int32) (v_often : Nat → Int32) (v_fresh : Nat → Int32) (v_word : Nat → Int32) (v_term : Nat → Int32) (v_length : Nat → Int32) (l1 : Int32) (l2 : Int32) (l3 : Int32) (l4 : Int32) (l5 : Int32) (l6 : Int32) (h : J_X9_add_122 v_thrown v_taped v_at v_documents v_terms v_often v_fresh v_tape v_word v_term v_length l1 l2 l3 l4 l5 l6 B_68 K_206 Φ) (hB_68 : ∀ (v_thrown_97 : Int32) (v_taped_98 : Int32) (v_at_99 : Int32) (v_documents_100 : Int32) (v_terms_101 : Int32) (v_often_102 : Nat → Int32) (v_fresh_103 : Nat → Int32) (v_word_104 : Nat → Int32) (v_term_105 : Nat → Int32) (v_length_106 : Nat → Int32) (l1_107 : Int32) (l2_108 : Int32) (l3_109 : Int32) (l4_110 : Int32) (l5_111 : Int32), B_68 v_thrown_97 v_taped_98 v_at_99 v_documents_100 v_terms_101 v_often_102 v_fresh_103 v_word_104 v_term_105 v_length_106 l1_107 l2_108 l3_109 l4_110 l5_111 → AW Γ k n9 68 [(0, .ref h0), (1, .int l1_107), (2, .int l2_108), (3, .int l3_109), (4, .int l4_110), (5, .int l5_111)] [] [(h0, oX9 d0 v_thrown_97 v_taped_98 v_at_99 v_documents_100 v_terms_101 v_latest v_filed v_drafted v_place v_over v_clock v_askedTerms v_segments v_done v_postingsDone v_postingsAll v_why v_hits), ((d0 8), aI cs 2560 v_often_102), ((d0 10), aI cs 64 v_fresh_103), ((d0 1), aI cs 3000 v_tape), ((d0 3), aI cs 8 v_word_104), ((d0 7), aI cs 512 v_term_105), ((d0 9), aI cs 40 v_length_106)]) (hK_206 : ∀ (v_thrown_112 : Int32) (v_taped_113 : Int32) (v_at_114 : Int32) (v_documents_115 : Int32) (v_terms_116 : Int32) (v_often_117 : Nat → Int32) (v_fresh_118 : Nat → Int32) (v_word_119 : Nat → Int32) (v_term_120 : Nat → Int32) (v_length_121 : Nat → Int32) (l2_122 : Int32) (l3_123 : Int32) (l4_124 : Int32) (l5_125 : Int32), K_206 v_thrown_112 v_taped_113 v_at_114 v_documents_115 v_terms_116 v_often_117 v_fresh_118 v_word_119 v_term_120 v_length_121 l2_122 l3_123 l4_124 l5_125 → AW Γ k n9 206 [(0, .ref h0), (2, .int l2_122), (3, .int l3_123), (4, .int l4_124), (5, .int l5_125)] [] [(h0, oX9 d0 v_thrown_112 v_taped_113 v_at_114 v_documents_115 v_terms_116 v_latest v_filed v_drafted v_place v_over v_clock v_askedTerms v_segments v_done v_postingsDone v_postingsAll v_why v_hits), ((d0 8), aI cs 2560 v_often_117), ((d0 10), aI cs 64 v_fresh_118), ((d0 1), aI cs 3000 v_tape), ((d0 3), aI cs 8 v_word_119), ((d0 7), aI cs 512 v_term_120), ((d0 9), aI cs 40 v_length_121)]) : AW Γ k n9 122 [(0, .ref h0), (1, .int l1), (2, .int l2), (3, .int l3), (4, .int l4), (5, .int l5), (6, .int l6)] [] [(h0, oX9 d0 v_thrown v_taped v_at v_documents v_terms v_latest v_filed v_drafted v_place v_over v_clock v_askedTerms v_segments v_done v_postingsDone v_postingsAll v_why v_hits), ((d0 8), aI cs 2560 v_often), ((d0 10), aI cs 64 v_fresh), ((d0 1), aI cs 3000 v_tape), ((d0 3), aI cs 8 v_word), ((d0 7), aI cs 512 v_term), ((d0 9), aI cs 40 v_length)] := by
  unfold J_X9_add_122 at h
  refine a_iload C (pc := 122) 6 dX9_add_122 rfl ?_
  refine a_if_ge C (pc := 124) 179 dX9_add_124 (by decide) (fun hc => ?_) (fun hc => ?_)
  · have h := h.1 hc
    exact w_X9_add_179 C hkm hnm v_thrown v_taped v_at v_documents v_terms v_often v_fresh v_word v_term v_length l1 l2 l3 l4 l5 l6 h hB_68 hK_206
  · have h := h.2 hc
    refine a_aload_n C (pc := 127) 0 dX9_add_127 rfl rfl ?_
    refine a_get C (pc := 128) 0 6 inW_X9 rfl rfl (Nat.le_of_ble_eq_true rfl) wF_X9_113 rfl rfl dX9_add_128 ?_
    refine a_istore C (pc := 131) (lv1 := [(0, .ref h0), (1, .int l1), (2, .int l2), (3, .int l3), (4, .int l4), (5, .int l5), (6, .int v_terms)]) [1, 2, 3, 4, 5, 6, 0] dX9_add_131 (by decide) rfl ?_
    refine a_iconst C (pc := 133) dX9_add_133 ic_0 ?_
    refine a_istore C (pc := 134) (lv1 := [(0, .ref h0), (1, .int l1), (2, .int l2), (3, .int l3), (4, .int l4), (5, .int l5), (6, .int v_terms), (7, .int 0)]) [1, 2, 3, 4, 5, 6, 7, 0] dX9_add_134 (by decide) rfl ?_
    obtain ⟨n0, h⟩ := h
    refine w_X9_add_136 C hkm hnm n0 v_thrown v_taped v_at v_documents v_terms v_often v_fresh v_word v_term v_length l1 l2 l3 l4 l5 v_terms 0 h ?_
    intro v_thrown_81 v_taped_82 v_at_83 v_documents_84 v_terms_85 v_often_86 v_fresh_87 v_word_88 v_term_89 v_length_90 l1_91 l2_92 l3_93 l4_94 l5_95 l6_96 h
    refine a_aload_n C (pc := 169) 0 dX9_add_169 rfl rfl ?_
    refine a_dup C (pc := 170) dX9_add_170 rfl ?_
    refine a_get C (pc := 171) 0 6 inW_X9 rfl rfl (Nat.le_of_ble_eq_true rfl) wF_X9_113 rfl rfl dX9_add_171 ?_
    refine a_iconst C (pc := 174) dX9_add_174 ic_1 ?_
    refine a_iadd C (pc := 175) dX9_add_175 ?_
    refine a_put C (pc := 176) (ws1 := [(h0, oX9 d0 v_thrown_81 v_taped_82 v_at_83 v_documents_84 (v_terms_85 + 1) v_latest v_filed v_drafted v_place v_over v_clock v_askedTerms v_segments v_done v_postingsDone v_postingsAll v_why v_hits), ((d0 8), aI cs 2560 v_often_86), ((d0 10), aI cs 64 v_fresh_87), ((d0 1), aI cs 3000 v_tape), ((d0 3), aI cs 8 v_word_88), ((d0 7), aI cs 512 v_term_89), ((d0 9), aI cs 40 v_length_90)]) 0 6 inW_X9 tyX9 tyX9_ok nmX9 rfl rfl (Nat.le_of_ble_eq_true rfl) wF_X9_113 rfl rfl rfl rfl rfl (Nat.le_of_ble_eq_true rfl) dX9_add_176 rfl ?_
    exact w_X9_add_179 C hkm hnm v_thrown_81 v_taped_82 v_at_83 v_documents_84 (v_terms_85 + 1) v_often_86 v_fresh_87 v_word_88 v_term_89 v_length_90 l1_91 l2_92 l3_93 l4_94 l5_95 l6_96 h hB_68 hK_206
set_option maxRecDepth 100000 in
set_option maxHeartbeats 4000000 in
theorem w_X9_add_68 {Γ : XG} {Lx : Launch} {Dx : va_G} {cs : Nat → ClassId} {h0 : Nat} {d0 : Nat → Nat} {v_latest : Int32} {v_filed : Int32} {v_drafted : Int32} {v_place : Int32} {v_over : Int32} {v_clock : Int64} {v_askedTerms : Int32} {v_segments : Int32} {v_done : Int32} {v_postingsDone : Int32} {v_postingsAll : Int32} {v_why : Int32} {v_hits : Int32} {v_tape : Nat → Int32} {K_206 : Int32 → Int32 → Int32 → Int32 → Int32 → (Nat → Int32) → (Nat → Int32) → (Nat → Int32) → (Nat → Int32) → (Nat → Int32) → Int32 → Int32 → Int32 → Int32 → Prop} {Φ : Int32 → Int32 → Int32 → Int32 → Int32 → Int32 → (Nat → Int32) → (Nat → Int32) → (Nat → Int32) → (Nat → Int32) → (Nat → Int32) → Prop} {k n9 : Nat} (C : CX Γ Lx Dx cs cX9_add RX9 "add" 8 (some .int) 2 47 0 0 (qEC cs 0 0 [] (R_X9_add cs h0 d0 v_latest v_filed v_drafted v_place v_over v_clock v_askedTerms v_segments v_done v_postingsDone v_postingsAll v_why v_hits v_tape Φ) (fun _ _ => False))) (hkm : k ≤ 0) (hnm : n9 ≤ 0) : ∀ n : Nat, ∀ (v_thrown : Int32) (v_taped : Int32) (v_at : Int32) (v_documents : Int32) (v_terms : Int32) (v_often : Nat → Int32) (v_fresh : Nat → Int32) (v_word : Nat → Int32) (v_term : Nat → Int32) (v_length : Nat → Int32) (l1 : Int32) (l2 : Int32) (l3 : Int32) (l4 : Int32) (l5 : Int32), L_X9_add_68 n v_thrown v_taped v_at v_documents v_terms v_often v_fresh v_tape v_word v_term v_length l1 l2 l3 l4 l5 K_206 Φ → (∀ (v_thrown_186 : Int32) (v_taped_187 : Int32) (v_at_188 : Int32) (v_documents_189 : Int32) (v_terms_190 : Int32) (v_often_191 : Nat → Int32) (v_fresh_192 : Nat → Int32) (v_word_193 : Nat → Int32) (v_term_194 : Nat → Int32) (v_length_195 : Nat → Int32) (l2_196 : Int32) (l3_197 : Int32) (l4_198 : Int32) (l5_199 : Int32), K_206 v_thrown_186 v_taped_187 v_at_188 v_documents_189 v_terms_190 v_often_191 v_fresh_192 v_word_193 v_term_194 v_length_195 l2_196 l3_197 l4_198 l5_199 → AW Γ k n9 206 [(0, .ref h0), (2, .int l2_196), (3, .int l3_197), (4, .int l4_198), (5, .int l5_199)] [] [(h0, oX9 d0 v_thrown_186 v_taped_187 v_at_188 v_documents_189 v_terms_190 v_latest v_filed v_drafted v_place v_over v_clock v_askedTerms v_segments v_done v_postingsDone v_postingsAll v_why v_hits), ((d0 8), aI cs 2560 v_often_191), ((d0 10), aI cs 64 v_fresh_192), ((d0 1), aI cs 3000 v_tape), ((d0 3), aI cs 8 v_word_193), ((d0 7), aI cs 512 v_term_194), ((d0 9), aI cs 40 v_length_195)]) → AW Γ k n9 68 [(0, .ref h0), (1, .int l1), (2, .int l2), (3, .int l3), (4, .int l4), (5, .int l5)] [] [(h0, oX9 d0 v_thrown v_taped v_at v_documents v_terms v_latest v_filed v_drafted v_place v_over v_clock v_askedTerms v_segments v_done v_postingsDone v_postingsAll v_why v_hits), ((d0 8), aI cs 2560 v_often), ((d0 10), aI cs 64 v_fresh), ((d0 1), aI cs 3000 v_tape), ((d0 3), aI cs 8 v_word), ((d0 7), aI cs 512 v_term), ((d0 9), aI cs 40 v_length)] := by
  intro n
  induction n with
  | zero =>
    intro v_thrown v_taped v_at v_documents v_terms v_often v_fresh v_word v_term v_length l1 l2 l3 l4 l5 h
    exact False.elim h
  | succ n ih =>
    intro v_thrown v_taped v_at v_documents v_terms v_often v_fresh v_word v_term v_length l1 l2 l3 l4 l5 h hK_206
    rw [L_X9_add_68] at h
    refine a_aload_n C (pc := 68) 0 dX9_add_68 rfl rfl ?_
    refine a_iload_n C (pc := 69) 1 dX9_add_69 rfl rfl ?_
    refine a_callV C (pc := 70) (av := [.int l1]) (wr := [((d0 8), aI cs 2560 v_often), ((d0 10), aI cs 64 v_fresh), ((d0 7), aI cs 512 v_term), ((d0 9), aI cs 40 v_length)]) (m_X9_takesWord Lx Dx cs h0 d0 v_thrown v_taped v_at v_documents v_terms v_latest v_filed v_drafted v_place v_over v_clock v_askedTerms v_segments v_done v_postingsDone v_postingsAll v_why v_hits v_tape v_word l1 _ h) [0, 3, 4] [1, 2, 5, 6] rfl rfl (by decide) (by decide) (by decide) wM_X9_123 wb_X9_takesWord hy_X9_takesWord (q0 := 0) rfl rfl rfl ⟨Nat.le_of_ble_eq_true rfl, Nat.le_of_ble_eq_true rfl⟩ (Nat.le_of_ble_eq_true rfl) hkm hnm rfl dX9_add_70 (fun v w1 hw => ?_) [] rfl (fun _ _ h => h.elim)
    obtain ⟨r_32, v_at_33, v_word_34, rfl, rfl, h⟩ := hw
    refine a_ws (st1 := [.int r_32]) (ws1 := [(h0, oX9 d0 v_thrown v_taped v_at_33 v_documents v_terms v_latest v_filed v_drafted v_place v_over v_clock v_askedTerms v_segments v_done v_postingsDone v_postingsAll v_why v_hits), ((d0 8), aI cs 2560 v_often), ((d0 10), aI cs 64 v_fresh), ((d0 1), aI cs 3000 v_tape), ((d0 3), aI cs 8 v_word_34), ((d0 7), aI cs 512 v_term), ((d0 9), aI cs 40 v_length)]) k n9 73 [4, 0, 1, 5, 6, 2, 3] rfl rfl rfl rfl (by decide) rfl ?_
    refine a_if_eq C (pc := 73) 206 dX9_add_73 (by decide) (fun hc => ?_) (fun hc => ?_)
    · have h := h.1 hc
      refine a_lv (lv1 := [(0, .ref h0), (2, .int l2), (3, .int l3), (4, .int l4), (5, .int l5)]) [0, 2, 3, 4, 5] rfl ?_
      exact hK_206 v_thrown v_taped v_at_33 v_documents v_terms v_often v_fresh v_word_34 v_term v_length l2 l3 l4 l5 h
    · have h := h.2 hc
      refine a_iinc C (pc := 76) (lv1 := [(0, .ref h0), (1, .int l1), (2, .int l2), (3, .int (l3 + 1)), (4, .int l4), (5, .int l5)]) 3 [1, 2, 3, 0, 4, 5] dX9_add_76 rfl (congrArg (fun z => l3 + z) ic_1) (by decide) rfl ?_
      refine a_iload C (pc := 79) 5 dX9_add_79 rfl ?_
      refine a_if_ne C (pc := 81) 87 dX9_add_81 (by decide) (fun hc => ?_) (fun hc => ?_)
      · have h := h.1 hc
        refine a_aload_n C (pc := 87) 0 dX9_add_87 rfl rfl ?_
        refine a_aload_n C (pc := 88) 0 dX9_add_88 rfl rfl ?_
        refine a_get C (pc := 89) 0 7 inW_X9 rfl rfl (Nat.le_of_ble_eq_true rfl) wF_X9_16 rfl rfl dX9_add_89 ?_
        refine a_iconst C (pc := 92) dX9_add_92 ic_0 ?_
        refine a_aload_n C (pc := 93) 0 dX9_add_93 rfl rfl ?_
        refine a_get C (pc := 94) 0 6 inW_X9 rfl rfl (Nat.le_of_ble_eq_true rfl) wF_X9_113 rfl rfl dX9_add_94 ?_
        refine a_callV C (pc := 97) (av := [.ref (d0 7), .int 0, .int v_terms]) (wr := [((d0 8), aI cs 2560 v_often), ((d0 10), aI cs 64 v_fresh), ((d0 1), aI cs 3000 v_tape), ((d0 9), aI cs 40 v_length)]) (m_X9_finds Lx Dx cs 512 h0 (d0 7) d0 v_thrown v_taped v_at_33 v_documents v_terms v_latest v_filed v_drafted v_place v_over v_clock v_askedTerms v_segments v_done v_postingsDone v_postingsAll v_why v_hits v_word_34 v_term 0 v_terms _ h) [0, 4, 5] [1, 2, 3, 6] rfl rfl (by decide) (by decide) (by decide) wM_X9_127 wb_X9_finds hy_X9_finds (q0 := 0) rfl rfl rfl ⟨Nat.le_of_ble_eq_true rfl, Nat.le_of_ble_eq_true rfl⟩ (Nat.le_of_ble_eq_true rfl) hkm hnm rfl dX9_add_97 (fun v w1 hw => ?_) [] rfl (fun _ _ h => h.elim)
        obtain ⟨r_35, rfl, rfl, h⟩ := hw
        refine a_ws (st1 := [.int r_35]) (ws1 := [(h0, oX9 d0 v_thrown v_taped v_at_33 v_documents v_terms v_latest v_filed v_drafted v_place v_over v_clock v_askedTerms v_segments v_done v_postingsDone v_postingsAll v_why v_hits), ((d0 8), aI cs 2560 v_often), ((d0 10), aI cs 64 v_fresh), ((d0 1), aI cs 3000 v_tape), ((d0 3), aI cs 8 v_word_34), ((d0 7), aI cs 512 v_term), ((d0 9), aI cs 40 v_length)]) k n9 100 [4, 0, 1, 2, 5, 6, 3] rfl rfl rfl rfl (by decide) rfl ?_
        refine a_istore C (pc := 100) (lv1 := [(0, .ref h0), (1, .int l1), (2, .int l2), (3, .int (l3 + 1)), (4, .int l4), (5, .int l5), (6, .int r_35)]) [1, 2, 3, 4, 5, 6, 0] dX9_add_100 (by decide) rfl ?_
        refine a_iload C (pc := 102) 6 dX9_add_102 rfl ?_
        refine a_if_ge C (pc := 104) 122 dX9_add_104 (by decide) (fun hc => ?_) (fun hc => ?_)
        · have h := h.1 hc
          exact w_X9_add_122 C hkm hnm v_thrown v_taped v_at_33 v_documents v_terms v_often v_fresh v_word_34 v_term v_length l1 l2 (l3 + 1) l4 l5 r_35 h (fun v_thrown_141 v_taped_142 v_at_143 v_documents_144 v_terms_145 v_often_146 v_fresh_147 v_word_148 v_term_149 v_length_150 l1_151 l2_152 l3_153 l4_154 l5_155 h => ih v_thrown_141 v_taped_142 v_at_143 v_documents_144 v_terms_145 v_often_146 v_fresh_147 v_word_148 v_term_149 v_length_150 l1_151 l2_152 l3_153 l4_154 l5_155 h hK_206) hK_206
        · have h := h.2 hc
          refine a_aload_n C (pc := 107) 0 dX9_add_107 rfl rfl ?_
          refine a_get C (pc := 108) 0 6 inW_X9 rfl rfl (Nat.le_of_ble_eq_true rfl) wF_X9_113 rfl rfl dX9_add_108 ?_
          refine a_bipush C (pc := 111) dX9_add_111 bp_64 ?_
          refine a_icmp_ne C (pc := 113) 122 dX9_add_113 (by decide) (fun hc => ?_) (fun hc => ?_)
          · have h := h.1 hc
            exact w_X9_add_122 C hkm hnm v_thrown v_taped v_at_33 v_documents v_terms v_often v_fresh v_word_34 v_term v_length l1 l2 (l3 + 1) l4 l5 r_35 h (fun v_thrown_171 v_taped_172 v_at_173 v_documents_174 v_terms_175 v_often_176 v_fresh_177 v_word_178 v_term_179 v_length_180 l1_181 l2_182 l3_183 l4_184 l5_185 h => ih v_thrown_171 v_taped_172 v_at_173 v_documents_174 v_terms_175 v_often_176 v_fresh_177 v_word_178 v_term_179 v_length_180 l1_181 l2_182 l3_183 l4_184 l5_185 h hK_206) hK_206
          · have h := h.2 hc
            refine a_iconst C (pc := 116) dX9_add_116 ic_0 ?_
            refine a_istore C (pc := 117) (lv1 := [(0, .ref h0), (1, .int l1), (2, .int l2), (3, .int (l3 + 1)), (4, .int l4), (5, .int 0), (6, .int r_35)]) [1, 2, 3, 4, 5, 0, 6] dX9_add_117 (by decide) rfl ?_
            refine a_goto C (pc := 119) 68 dX9_add_119 (by decide) ?_
            refine a_lv (lv1 := [(0, .ref h0), (1, .int l1), (2, .int l2), (3, .int (l3 + 1)), (4, .int l4), (5, .int 0)]) [0, 1, 2, 3, 4, 5] rfl ?_
            exact ih v_thrown v_taped v_at_33 v_documents v_terms v_often v_fresh v_word_34 v_term v_length l1 l2 (l3 + 1) l4 0 h hK_206
      · have h := h.2 hc
        refine a_goto C (pc := 84) 68 dX9_add_84 (by decide) ?_
        exact ih v_thrown v_taped v_at_33 v_documents v_terms v_often v_fresh v_word_34 v_term v_length l1 l2 (l3 + 1) l4 l5 h hK_206
set_option maxRecDepth 100000 in
set_option maxHeartbeats 4000000 in
theorem w_X9_add_280 {Γ : XG} {Lx : Launch} {Dx : va_G} {cs : Nat → ClassId} {h0 : Nat} {d0 : Nat → Nat} {v_latest : Int32} {v_filed : Int32} {v_drafted : Int32} {v_place : Int32} {v_over : Int32} {v_clock : Int64} {v_askedTerms : Int32} {v_segments : Int32} {v_done : Int32} {v_postingsDone : Int32} {v_postingsAll : Int32} {v_why : Int32} {v_hits : Int32} {v_tape : Nat → Int32} {K_315 : Int32 → Int32 → Int32 → Int32 → Int32 → (Nat → Int32) → (Nat → Int32) → (Nat → Int32) → (Nat → Int32) → (Nat → Int32) → Int32 → Prop} {Φ : Int32 → Int32 → Int32 → Int32 → Int32 → Int32 → (Nat → Int32) → (Nat → Int32) → (Nat → Int32) → (Nat → Int32) → (Nat → Int32) → Prop} {k n9 : Nat} (C : CX Γ Lx Dx cs cX9_add RX9 "add" 8 (some .int) 2 47 0 0 (qEC cs 0 0 [] (R_X9_add cs h0 d0 v_latest v_filed v_drafted v_place v_over v_clock v_askedTerms v_segments v_done v_postingsDone v_postingsAll v_why v_hits v_tape Φ) (fun _ _ => False))) (hkm : k ≤ 0) (hnm : n9 ≤ 0) : ∀ n : Nat, ∀ (v_thrown : Int32) (v_taped : Int32) (v_at : Int32) (v_documents : Int32) (v_terms : Int32) (v_often : Nat → Int32) (v_fresh : Nat → Int32) (v_word : Nat → Int32) (v_term : Nat → Int32) (v_length : Nat → Int32) (l3 : Int32) (l6 : Int32), L_X9_add_280 n v_thrown v_taped v_at v_documents v_terms v_often v_fresh v_tape v_word v_term v_length l3 l6 K_315 Φ → (∀ (v_thrown_218 : Int32) (v_taped_219 : Int32) (v_at_220 : Int32) (v_documents_221 : Int32) (v_terms_222 : Int32) (v_often_223 : Nat → Int32) (v_fresh_224 : Nat → Int32) (v_word_225 : Nat → Int32) (v_term_226 : Nat → Int32) (v_length_227 : Nat → Int32) (l3_228 : Int32), K_315 v_thrown_218 v_taped_219 v_at_220 v_documents_221 v_terms_222 v_often_223 v_fresh_224 v_word_225 v_term_226 v_length_227 l3_228 → AW Γ k n9 315 [(0, .ref h0), (3, .int l3_228)] [] [(h0, oX9 d0 v_thrown_218 v_taped_219 v_at_220 v_documents_221 v_terms_222 v_latest v_filed v_drafted v_place v_over v_clock v_askedTerms v_segments v_done v_postingsDone v_postingsAll v_why v_hits), ((d0 8), aI cs 2560 v_often_223), ((d0 10), aI cs 64 v_fresh_224), ((d0 1), aI cs 3000 v_tape), ((d0 3), aI cs 8 v_word_225), ((d0 7), aI cs 512 v_term_226), ((d0 9), aI cs 40 v_length_227)]) → AW Γ k n9 280 [(0, .ref h0), (3, .int l3), (6, .int l6)] [] [(h0, oX9 d0 v_thrown v_taped v_at v_documents v_terms v_latest v_filed v_drafted v_place v_over v_clock v_askedTerms v_segments v_done v_postingsDone v_postingsAll v_why v_hits), ((d0 8), aI cs 2560 v_often), ((d0 10), aI cs 64 v_fresh), ((d0 1), aI cs 3000 v_tape), ((d0 3), aI cs 8 v_word), ((d0 7), aI cs 512 v_term), ((d0 9), aI cs 40 v_length)] := by
  intro n
  induction n with
  | zero =>
    intro v_thrown v_taped v_at v_documents v_terms v_often v_fresh v_word v_term v_length l3 l6 h
    exact False.elim h
  | succ n ih =>
    intro v_thrown v_taped v_at v_documents v_terms v_often v_fresh v_word v_term v_length l3 l6 h hK_315
    rw [L_X9_add_280] at h
    refine a_iload C (pc := 280) 2 dX9_add_280 rfl ?_
    refine a_bipush C (pc := 282) dX9_add_282 bp_64 ?_
    refine a_icmp_ge C (pc := 284) 315 dX9_add_284 (by decide) (fun hc => ?_) (fun hc => ?_)
    · have h := h.1 hc
      refine a_lv (lv1 := [(0, .ref h0), (3, .int l3)]) [0, 1] rfl ?_
      exact hK_315 v_thrown v_taped v_at v_documents v_terms v_often v_fresh v_word v_term v_length l3 h
    · have h := h.2 hc
      refine a_aload_n C (pc := 287) 0 dX9_add_287 rfl rfl ?_
      refine a_get C (pc := 288) 0 8 inW_X9 rfl rfl (Nat.le_of_ble_eq_true rfl) wF_X9_19 rfl rfl dX9_add_288 ?_
      refine a_bipush C (pc := 291) dX9_add_291 bp_40 ?_
      refine a_iload C (pc := 293) 2 dX9_add_293 rfl ?_
      refine a_imul C (pc := 295) dX9_add_295 ?_
      refine a_aload_n C (pc := 296) 0 dX9_add_296 rfl rfl ?_
      refine a_get C (pc := 297) 0 5 inW_X9 rfl rfl (Nat.le_of_ble_eq_true rfl) wF_X9_120 rfl rfl dX9_add_297 ?_
      refine a_iadd C (pc := 300) dX9_add_300 ?_
      refine a_aload_n C (pc := 301) 0 dX9_add_301 rfl rfl ?_
      refine a_get C (pc := 302) 0 10 inW_X9 rfl rfl (Nat.le_of_ble_eq_true rfl) wF_X9_25 rfl rfl dX9_add_302 ?_
      refine a_iload C (pc := 305) 2 dX9_add_305 rfl ?_
      refine a_iald C (pc := 307) 2 rfl h.1 dX9_add_307 ?_
      replace h := h.2
      refine a_iast C (pc := 308) (ws1 := [(h0, oX9 d0 v_thrown v_taped v_at v_documents v_terms v_latest v_filed v_drafted v_place v_over v_clock v_askedTerms v_segments v_done v_postingsDone v_postingsAll v_why v_hits), ((d0 8), aI cs 2560 (upd v_often ((40 * l6) + v_documents : Int32).toNatClampNeg (v_fresh (l6 : Int32).toNatClampNeg))), ((d0 10), aI cs 64 v_fresh), ((d0 1), aI cs 3000 v_tape), ((d0 3), aI cs 8 v_word), ((d0 7), aI cs 512 v_term), ((d0 9), aI cs 40 v_length)]) 1 rfl h.1 dX9_add_308 rfl ?_
      replace h := h.2
      refine a_iinc C (pc := 309) (lv1 := [(0, .ref h0), (3, .int l3), (6, .int (l6 + 1))]) 2 [1, 2, 0] dX9_add_309 rfl (congrArg (fun z => l6 + z) ic_1) (by decide) rfl ?_
      refine a_goto C (pc := 312) 280 dX9_add_312 (by decide) ?_
      exact ih v_thrown v_taped v_at v_documents v_terms (upd v_often ((40 * l6) + v_documents : Int32).toNatClampNeg (v_fresh (l6 : Int32).toNatClampNeg)) v_fresh v_word v_term v_length l3 (l6 + 1) h hK_315
set_option maxRecDepth 100000 in
set_option maxHeartbeats 4000000 in
theorem w_X9_add_250 {Γ : XG} {Lx : Launch} {Dx : va_G} {cs : Nat → ClassId} {h0 : Nat} {d0 : Nat → Nat} {v_latest : Int32} {v_filed : Int32} {v_drafted : Int32} {v_place : Int32} {v_over : Int32} {v_clock : Int64} {v_askedTerms : Int32} {v_segments : Int32} {v_done : Int32} {v_postingsDone : Int32} {v_postingsAll : Int32} {v_why : Int32} {v_hits : Int32} {v_tape : Nat → Int32} {Φ : Int32 → Int32 → Int32 → Int32 → Int32 → Int32 → (Nat → Int32) → (Nat → Int32) → (Nat → Int32) → (Nat → Int32) → (Nat → Int32) → Prop} {k n9 : Nat} (C : CX Γ Lx Dx cs cX9_add RX9 "add" 8 (some .int) 2 47 0 0 (qEC cs 0 0 [] (R_X9_add cs h0 d0 v_latest v_filed v_drafted v_place v_over v_clock v_askedTerms v_segments v_done v_postingsDone v_postingsAll v_why v_hits v_tape Φ) (fun _ _ => False))) (hkm : k ≤ 0) (hnm : n9 ≤ 0) (v_thrown : Int32) (v_taped : Int32) (v_at : Int32) (v_documents : Int32) (v_terms : Int32) (v_often : Nat → Int32) (v_fresh : Nat → Int32) (v_word : Nat → Int32) (v_term : Nat → Int32) (v_length : Nat → Int32) (l3 : Int32) (l5 : Int32) (s1 : Int32) (h : J_X9_add_250 v_thrown v_taped v_at v_documents v_terms v_often v_fresh v_tape v_word v_term v_length l3 l5 s1 Φ) : AW Γ k n9 250 [(0, .ref h0), (3, .int l3), (5, .int l5)] [.int s1, .ref h0] [(h0, oX9 d0 v_thrown v_taped v_at v_documents v_terms v_latest v_filed v_drafted v_place v_over v_clock v_askedTerms v_segments v_done v_postingsDone v_postingsAll v_why v_hits), ((d0 8), aI cs 2560 v_often), ((d0 10), aI cs 64 v_fresh), ((d0 1), aI cs 3000 v_tape), ((d0 3), aI cs 8 v_word), ((d0 7), aI cs 512 v_term), ((d0 9), aI cs 40 v_length)] := by
  unfold J_X9_add_250 at h
  refine a_iconst C (pc := 250) dX9_add_250 ic_1 ?_
  refine a_callV C (pc := 251) (av := [.int s1, .int 1]) (wr := [((d0 8), aI cs 2560 v_often), ((d0 10), aI cs 64 v_fresh), ((d0 1), aI cs 3000 v_tape), ((d0 3), aI cs 8 v_word), ((d0 7), aI cs 512 v_term), ((d0 9), aI cs 40 v_length)]) (m_X9_fails Lx Dx cs h0 d0 v_thrown v_taped v_at v_documents v_terms v_latest v_filed v_drafted v_place v_over v_clock v_askedTerms v_segments v_done v_postingsDone v_postingsAll v_why v_hits s1 1 _ h) [0] [1, 2, 3, 4, 5, 6] rfl rfl (by decide) (by decide) (by decide) wM_X9_93 wb_X9_fails hy_X9_fails (q0 := 0) rfl rfl rfl ⟨Nat.le_of_ble_eq_true rfl, Nat.le_of_ble_eq_true rfl⟩ (Nat.le_of_ble_eq_true rfl) hkm hnm rfl dX9_add_251 (fun v w1 hw => ?_) [] rfl (fun _ _ h => h.elim)
  obtain ⟨r_214, v_thrown_215, rfl, rfl, h⟩ := hw
  refine a_ws (st1 := [.int r_214]) (ws1 := [(h0, oX9 d0 v_thrown_215 v_taped v_at v_documents v_terms v_latest v_filed v_drafted v_place v_over v_clock v_askedTerms v_segments v_done v_postingsDone v_postingsAll v_why v_hits), ((d0 8), aI cs 2560 v_often), ((d0 10), aI cs 64 v_fresh), ((d0 1), aI cs 3000 v_tape), ((d0 3), aI cs 8 v_word), ((d0 7), aI cs 512 v_term), ((d0 9), aI cs 40 v_length)]) k n9 254 [6, 0, 1, 2, 3, 4, 5] rfl rfl rfl rfl (by decide) rfl ?_
  refine a_if_ne C (pc := 254) 275 dX9_add_254 (by decide) (fun hc => ?_) (fun hc => ?_)
  · have h := h.1 hc
    refine a_iconst C (pc := 275) dX9_add_275 ic_0 ?_
    exact a_ireturn C (pc := 276) rfl dX9_add_276 hkm hnm ⟨_, _, _, _, _, _, _, _, _, _, _, rfl, rfl, h⟩
  · have h := h.2 hc
    refine a_aload_n C (pc := 257) 0 dX9_add_257 rfl rfl ?_
    refine a_iload C (pc := 258) 2 dX9_add_258 rfl ?_
    refine a_if_ne C (pc := 260) 267 dX9_add_260 (by decide) (fun hc => ?_) (fun hc => ?_)
    · have h := h.1 hc
      refine a_iconst C (pc := 267) dX9_add_267 ic_0 ?_
      refine a_iconst C (pc := 268) dX9_add_268 ic_2 ?_
      refine a_callV C (pc := 269) (av := [.int 0, .int 2]) (wr := [((d0 8), aI cs 2560 v_often), ((d0 10), aI cs 64 v_fresh), ((d0 1), aI cs 3000 v_tape), ((d0 3), aI cs 8 v_word), ((d0 7), aI cs 512 v_term), ((d0 9), aI cs 40 v_length)]) (m_X9_fails Lx Dx cs h0 d0 v_thrown_215 v_taped v_at v_documents v_terms v_latest v_filed v_drafted v_place v_over v_clock v_askedTerms v_segments v_done v_postingsDone v_postingsAll v_why v_hits 0 2 _ h) [0] [1, 2, 3, 4, 5, 6] rfl rfl (by decide) (by decide) (by decide) wM_X9_93 wb_X9_fails hy_X9_fails (q0 := 0) rfl rfl rfl ⟨Nat.le_of_ble_eq_true rfl, Nat.le_of_ble_eq_true rfl⟩ (Nat.le_of_ble_eq_true rfl) hkm hnm rfl dX9_add_269 (fun v w1 hw => ?_) [] rfl (fun _ _ h => h.elim)
      obtain ⟨r_216, v_thrown_217, rfl, rfl, h⟩ := hw
      refine a_ws (st1 := [.int r_216]) (ws1 := [(h0, oX9 d0 v_thrown_217 v_taped v_at v_documents v_terms v_latest v_filed v_drafted v_place v_over v_clock v_askedTerms v_segments v_done v_postingsDone v_postingsAll v_why v_hits), ((d0 8), aI cs 2560 v_often), ((d0 10), aI cs 64 v_fresh), ((d0 1), aI cs 3000 v_tape), ((d0 3), aI cs 8 v_word), ((d0 7), aI cs 512 v_term), ((d0 9), aI cs 40 v_length)]) k n9 272 [6, 0, 1, 2, 3, 4, 5] rfl rfl rfl rfl (by decide) rfl ?_
      refine a_if_eq C (pc := 272) 277 dX9_add_272 (by decide) (fun hc => ?_) (fun hc => ?_)
      · have h := h.1 hc
        refine a_iconst C (pc := 277) dX9_add_277 ic_0 ?_
        refine a_istore C (pc := 278) (lv1 := [(0, .ref h0), (3, .int l3), (5, .int l5), (6, .int 0)]) [1, 2, 3, 0] dX9_add_278 (by decide) rfl ?_
        obtain ⟨n0, h⟩ := h
        refine a_lv (lv1 := [(0, .ref h0), (3, .int l3), (6, .int 0)]) [0, 1, 3] rfl ?_
        refine w_X9_add_280 C hkm hnm n0 v_thrown_217 v_taped v_at v_documents v_terms v_often v_fresh v_word v_term v_length l3 0 h ?_
        intro v_thrown_229 v_taped_230 v_at_231 v_documents_232 v_terms_233 v_often_234 v_fresh_235 v_word_236 v_term_237 v_length_238 l3_239 h
        refine a_aload_n C (pc := 315) 0 dX9_add_315 rfl rfl ?_
        refine a_get C (pc := 316) 0 9 inW_X9 rfl rfl (Nat.le_of_ble_eq_true rfl) wF_X9_22 rfl rfl dX9_add_316 ?_
        refine a_aload_n C (pc := 319) 0 dX9_add_319 rfl rfl ?_
        refine a_get C (pc := 320) 0 5 inW_X9 rfl rfl (Nat.le_of_ble_eq_true rfl) wF_X9_120 rfl rfl dX9_add_320 ?_
        refine a_iload_n C (pc := 323) 1 dX9_add_323 rfl rfl ?_
        refine a_iast C (pc := 324) (ws1 := [(h0, oX9 d0 v_thrown_229 v_taped_230 v_at_231 v_documents_232 v_terms_233 v_latest v_filed v_drafted v_place v_over v_clock v_askedTerms v_segments v_done v_postingsDone v_postingsAll v_why v_hits), ((d0 8), aI cs 2560 v_often_234), ((d0 10), aI cs 64 v_fresh_235), ((d0 1), aI cs 3000 v_tape), ((d0 3), aI cs 8 v_word_236), ((d0 7), aI cs 512 v_term_237), ((d0 9), aI cs 40 (upd v_length_238 (v_documents_232 : Int32).toNatClampNeg l3_239))]) 6 rfl h.1 dX9_add_324 rfl ?_
        replace h := h.2
        refine a_aload_n C (pc := 325) 0 dX9_add_325 rfl rfl ?_
        refine a_dup C (pc := 326) dX9_add_326 rfl ?_
        refine a_get C (pc := 327) 0 5 inW_X9 rfl rfl (Nat.le_of_ble_eq_true rfl) wF_X9_120 rfl rfl dX9_add_327 ?_
        refine a_iconst C (pc := 330) dX9_add_330 ic_1 ?_
        refine a_iadd C (pc := 331) dX9_add_331 ?_
        refine a_put C (pc := 332) (ws1 := [(h0, oX9 d0 v_thrown_229 v_taped_230 v_at_231 (v_documents_232 + 1) v_terms_233 v_latest v_filed v_drafted v_place v_over v_clock v_askedTerms v_segments v_done v_postingsDone v_postingsAll v_why v_hits), ((d0 8), aI cs 2560 v_often_234), ((d0 10), aI cs 64 v_fresh_235), ((d0 1), aI cs 3000 v_tape), ((d0 3), aI cs 8 v_word_236), ((d0 7), aI cs 512 v_term_237), ((d0 9), aI cs 40 (upd v_length_238 (v_documents_232 : Int32).toNatClampNeg l3_239))]) 0 5 inW_X9 tyX9 tyX9_ok nmX9 rfl rfl (Nat.le_of_ble_eq_true rfl) wF_X9_120 rfl rfl rfl rfl rfl (Nat.le_of_ble_eq_true rfl) dX9_add_332 rfl ?_
        refine a_aload_n C (pc := 335) 0 dX9_add_335 rfl rfl ?_
        refine a_get C (pc := 336) 0 5 inW_X9 rfl rfl (Nat.le_of_ble_eq_true rfl) wF_X9_120 rfl rfl dX9_add_336 ?_
        refine a_iconst C (pc := 339) dX9_add_339 ic_1 ?_
        refine a_isub C (pc := 340) dX9_add_340 ?_
        exact a_ireturn C (pc := 341) rfl dX9_add_341 hkm hnm ⟨_, _, _, _, _, _, _, _, _, _, _, rfl, rfl, h⟩
      · have h := h.2 hc
        refine a_iconst C (pc := 275) dX9_add_275 ic_0 ?_
        exact a_ireturn C (pc := 276) rfl dX9_add_276 hkm hnm ⟨_, _, _, _, _, _, _, _, _, _, _, rfl, rfl, h⟩
    · have h := h.2 hc
      refine a_iconst C (pc := 263) dX9_add_263 ic_1 ?_
      refine a_goto C (pc := 264) 268 dX9_add_264 (by decide) ?_
      refine a_iconst C (pc := 268) dX9_add_268 ic_2 ?_
      refine a_callV C (pc := 269) (av := [.int 1, .int 2]) (wr := [((d0 8), aI cs 2560 v_often), ((d0 10), aI cs 64 v_fresh), ((d0 1), aI cs 3000 v_tape), ((d0 3), aI cs 8 v_word), ((d0 7), aI cs 512 v_term), ((d0 9), aI cs 40 v_length)]) (m_X9_fails Lx Dx cs h0 d0 v_thrown_215 v_taped v_at v_documents v_terms v_latest v_filed v_drafted v_place v_over v_clock v_askedTerms v_segments v_done v_postingsDone v_postingsAll v_why v_hits 1 2 _ h) [0] [1, 2, 3, 4, 5, 6] rfl rfl (by decide) (by decide) (by decide) wM_X9_93 wb_X9_fails hy_X9_fails (q0 := 0) rfl rfl rfl ⟨Nat.le_of_ble_eq_true rfl, Nat.le_of_ble_eq_true rfl⟩ (Nat.le_of_ble_eq_true rfl) hkm hnm rfl dX9_add_269 (fun v w1 hw => ?_) [] rfl (fun _ _ h => h.elim)
      obtain ⟨r_240, v_thrown_241, rfl, rfl, h⟩ := hw
      refine a_ws (st1 := [.int r_240]) (ws1 := [(h0, oX9 d0 v_thrown_241 v_taped v_at v_documents v_terms v_latest v_filed v_drafted v_place v_over v_clock v_askedTerms v_segments v_done v_postingsDone v_postingsAll v_why v_hits), ((d0 8), aI cs 2560 v_often), ((d0 10), aI cs 64 v_fresh), ((d0 1), aI cs 3000 v_tape), ((d0 3), aI cs 8 v_word), ((d0 7), aI cs 512 v_term), ((d0 9), aI cs 40 v_length)]) k n9 272 [6, 0, 1, 2, 3, 4, 5] rfl rfl rfl rfl (by decide) rfl ?_
      refine a_if_eq C (pc := 272) 277 dX9_add_272 (by decide) (fun hc => ?_) (fun hc => ?_)
      · have h := h.1 hc
        refine a_iconst C (pc := 277) dX9_add_277 ic_0 ?_
        refine a_istore C (pc := 278) (lv1 := [(0, .ref h0), (3, .int l3), (5, .int l5), (6, .int 0)]) [1, 2, 3, 0] dX9_add_278 (by decide) rfl ?_
        obtain ⟨n0, h⟩ := h
        refine a_lv (lv1 := [(0, .ref h0), (3, .int l3), (6, .int 0)]) [0, 1, 3] rfl ?_
        refine w_X9_add_280 C hkm hnm n0 v_thrown_241 v_taped v_at v_documents v_terms v_often v_fresh v_word v_term v_length l3 0 h ?_
        intro v_thrown_242 v_taped_243 v_at_244 v_documents_245 v_terms_246 v_often_247 v_fresh_248 v_word_249 v_term_250 v_length_251 l3_252 h
        refine a_aload_n C (pc := 315) 0 dX9_add_315 rfl rfl ?_
        refine a_get C (pc := 316) 0 9 inW_X9 rfl rfl (Nat.le_of_ble_eq_true rfl) wF_X9_22 rfl rfl dX9_add_316 ?_
        refine a_aload_n C (pc := 319) 0 dX9_add_319 rfl rfl ?_
        refine a_get C (pc := 320) 0 5 inW_X9 rfl rfl (Nat.le_of_ble_eq_true rfl) wF_X9_120 rfl rfl dX9_add_320 ?_
        refine a_iload_n C (pc := 323) 1 dX9_add_323 rfl rfl ?_
        refine a_iast C (pc := 324) (ws1 := [(h0, oX9 d0 v_thrown_242 v_taped_243 v_at_244 v_documents_245 v_terms_246 v_latest v_filed v_drafted v_place v_over v_clock v_askedTerms v_segments v_done v_postingsDone v_postingsAll v_why v_hits), ((d0 8), aI cs 2560 v_often_247), ((d0 10), aI cs 64 v_fresh_248), ((d0 1), aI cs 3000 v_tape), ((d0 3), aI cs 8 v_word_249), ((d0 7), aI cs 512 v_term_250), ((d0 9), aI cs 40 (upd v_length_251 (v_documents_245 : Int32).toNatClampNeg l3_252))]) 6 rfl h.1 dX9_add_324 rfl ?_
        replace h := h.2
        refine a_aload_n C (pc := 325) 0 dX9_add_325 rfl rfl ?_
        refine a_dup C (pc := 326) dX9_add_326 rfl ?_
        refine a_get C (pc := 327) 0 5 inW_X9 rfl rfl (Nat.le_of_ble_eq_true rfl) wF_X9_120 rfl rfl dX9_add_327 ?_
        refine a_iconst C (pc := 330) dX9_add_330 ic_1 ?_
        refine a_iadd C (pc := 331) dX9_add_331 ?_
        refine a_put C (pc := 332) (ws1 := [(h0, oX9 d0 v_thrown_242 v_taped_243 v_at_244 (v_documents_245 + 1) v_terms_246 v_latest v_filed v_drafted v_place v_over v_clock v_askedTerms v_segments v_done v_postingsDone v_postingsAll v_why v_hits), ((d0 8), aI cs 2560 v_often_247), ((d0 10), aI cs 64 v_fresh_248), ((d0 1), aI cs 3000 v_tape), ((d0 3), aI cs 8 v_word_249), ((d0 7), aI cs 512 v_term_250), ((d0 9), aI cs 40 (upd v_length_251 (v_documents_245 : Int32).toNatClampNeg l3_252))]) 0 5 inW_X9 tyX9 tyX9_ok nmX9 rfl rfl (Nat.le_of_ble_eq_true rfl) wF_X9_120 rfl rfl rfl rfl rfl (Nat.le_of_ble_eq_true rfl) dX9_add_332 rfl ?_
        refine a_aload_n C (pc := 335) 0 dX9_add_335 rfl rfl ?_
        refine a_get C (pc := 336) 0 5 inW_X9 rfl rfl (Nat.le_of_ble_eq_true rfl) wF_X9_120 rfl rfl dX9_add_336 ?_
        refine a_iconst C (pc := 339) dX9_add_339 ic_1 ?_
        refine a_isub C (pc := 340) dX9_add_340 ?_
        exact a_ireturn C (pc := 341) rfl dX9_add_341 hkm hnm ⟨_, _, _, _, _, _, _, _, _, _, _, rfl, rfl, h⟩
      · have h := h.2 hc
        refine a_iconst C (pc := 275) dX9_add_275 ic_0 ?_
        exact a_ireturn C (pc := 276) rfl dX9_add_276 hkm hnm ⟨_, _, _, _, _, _, _, _, _, _, _, rfl, rfl, h⟩
set_option maxRecDepth 100000 in
set_option maxHeartbeats 4000000 in
theorem w_X9_add_240 {Γ : XG} {Lx : Launch} {Dx : va_G} {cs : Nat → ClassId} {h0 : Nat} {d0 : Nat → Nat} {v_latest : Int32} {v_filed : Int32} {v_drafted : Int32} {v_place : Int32} {v_over : Int32} {v_clock : Int64} {v_askedTerms : Int32} {v_segments : Int32} {v_done : Int32} {v_postingsDone : Int32} {v_postingsAll : Int32} {v_why : Int32} {v_hits : Int32} {v_tape : Nat → Int32} {Φ : Int32 → Int32 → Int32 → Int32 → Int32 → Int32 → (Nat → Int32) → (Nat → Int32) → (Nat → Int32) → (Nat → Int32) → (Nat → Int32) → Prop} {k n9 : Nat} (C : CX Γ Lx Dx cs cX9_add RX9 "add" 8 (some .int) 2 47 0 0 (qEC cs 0 0 [] (R_X9_add cs h0 d0 v_latest v_filed v_drafted v_place v_over v_clock v_askedTerms v_segments v_done v_postingsDone v_postingsAll v_why v_hits v_tape Φ) (fun _ _ => False))) (hkm : k ≤ 0) (hnm : n9 ≤ 0) (v_thrown : Int32) (v_taped : Int32) (v_at : Int32) (v_documents : Int32) (v_terms : Int32) (v_often : Nat → Int32) (v_fresh : Nat → Int32) (v_word : Nat → Int32) (v_term : Nat → Int32) (v_length : Nat → Int32) (l3 : Int32) (l5 : Int32) (h : J_X9_add_240 v_thrown v_taped v_at v_documents v_terms v_often v_fresh v_tape v_word v_term v_length l3 l5 Φ) : AW Γ k n9 240 [(0, .ref h0), (3, .int l3), (5, .int l5)] [] [(h0, oX9 d0 v_thrown v_taped v_at v_documents v_terms v_latest v_filed v_drafted v_place v_over v_clock v_askedTerms v_segments v_done v_postingsDone v_postingsAll v_why v_hits), ((d0 8), aI cs 2560 v_often), ((d0 10), aI cs 64 v_fresh), ((d0 1), aI cs 3000 v_tape), ((d0 3), aI cs 8 v_word), ((d0 7), aI cs 512 v_term), ((d0 9), aI cs 40 v_length)] := by
  unfold J_X9_add_240 at h
  refine a_aload_n C (pc := 240) 0 dX9_add_240 rfl rfl ?_
  refine a_iload_n C (pc := 241) 1 dX9_add_241 rfl rfl ?_
  refine a_if_ne C (pc := 242) 249 dX9_add_242 (by decide) (fun hc => ?_) (fun hc => ?_)
  · have h := h.1 hc
    refine a_iconst C (pc := 249) dX9_add_249 ic_0 ?_
    exact w_X9_add_250 C hkm hnm v_thrown v_taped v_at v_documents v_terms v_often v_fresh v_word v_term v_length l3 l5 0 h
  · have h := h.2 hc
    refine a_iconst C (pc := 245) dX9_add_245 ic_1 ?_
    refine a_goto C (pc := 246) 250 dX9_add_246 (by decide) ?_
    exact w_X9_add_250 C hkm hnm v_thrown v_taped v_at v_documents v_terms v_often v_fresh v_word v_term v_length l3 l5 1 h
set_option maxRecDepth 100000 in
set_option maxHeartbeats 4000000 in
theorem w_X9_add_235 {Γ : XG} {Lx : Launch} {Dx : va_G} {cs : Nat → ClassId} {h0 : Nat} {d0 : Nat → Nat} {v_latest : Int32} {v_filed : Int32} {v_drafted : Int32} {v_place : Int32} {v_over : Int32} {v_clock : Int64} {v_askedTerms : Int32} {v_segments : Int32} {v_done : Int32} {v_postingsDone : Int32} {v_postingsAll : Int32} {v_why : Int32} {v_hits : Int32} {v_tape : Nat → Int32} {Φ : Int32 → Int32 → Int32 → Int32 → Int32 → Int32 → (Nat → Int32) → (Nat → Int32) → (Nat → Int32) → (Nat → Int32) → (Nat → Int32) → Prop} {k n9 : Nat} (C : CX Γ Lx Dx cs cX9_add RX9 "add" 8 (some .int) 2 47 0 0 (qEC cs 0 0 [] (R_X9_add cs h0 d0 v_latest v_filed v_drafted v_place v_over v_clock v_askedTerms v_segments v_done v_postingsDone v_postingsAll v_why v_hits v_tape Φ) (fun _ _ => False))) (hkm : k ≤ 0) (hnm : n9 ≤ 0) (v_thrown : Int32) (v_taped : Int32) (v_at : Int32) (v_documents : Int32) (v_terms : Int32) (v_often : Nat → Int32) (v_fresh : Nat → Int32) (v_word : Nat → Int32) (v_term : Nat → Int32) (v_length : Nat → Int32) (l2 : Int32) (l3 : Int32) (l5 : Int32) (h : J_X9_add_235 v_thrown v_taped v_at v_documents v_terms v_often v_fresh v_tape v_word v_term v_length l2 l3 l5 Φ) : AW Γ k n9 235 [(0, .ref h0), (2, .int l2), (3, .int l3), (5, .int l5)] [] [(h0, oX9 d0 v_thrown v_taped v_at v_documents v_terms v_latest v_filed v_drafted v_place v_over v_clock v_askedTerms v_segments v_done v_postingsDone v_postingsAll v_why v_hits), ((d0 8), aI cs 2560 v_often), ((d0 10), aI cs 64 v_fresh), ((d0 1), aI cs 3000 v_tape), ((d0 3), aI cs 8 v_word), ((d0 7), aI cs 512 v_term), ((d0 9), aI cs 40 v_length)] := by
  unfold J_X9_add_235 at h
  refine a_aload_n C (pc := 235) 0 dX9_add_235 rfl rfl ?_
  refine a_iload_n C (pc := 236) 1 dX9_add_236 rfl rfl ?_
  refine a_put C (pc := 237) (ws1 := [(h0, oX9 d0 v_thrown v_taped v_at v_documents l2 v_latest v_filed v_drafted v_place v_over v_clock v_askedTerms v_segments v_done v_postingsDone v_postingsAll v_why v_hits), ((d0 8), aI cs 2560 v_often), ((d0 10), aI cs 64 v_fresh), ((d0 1), aI cs 3000 v_tape), ((d0 3), aI cs 8 v_word), ((d0 7), aI cs 512 v_term), ((d0 9), aI cs 40 v_length)]) 0 6 inW_X9 tyX9 tyX9_ok nmX9 rfl rfl (Nat.le_of_ble_eq_true rfl) wF_X9_113 rfl rfl rfl rfl rfl (Nat.le_of_ble_eq_true rfl) dX9_add_237 rfl ?_
  refine a_lv (lv1 := [(0, .ref h0), (3, .int l3), (5, .int l5)]) [0, 2, 3] rfl ?_
  exact w_X9_add_240 C hkm hnm v_thrown v_taped v_at v_documents l2 v_often v_fresh v_word v_term v_length l3 l5 h
set_option maxRecDepth 100000 in
set_option maxHeartbeats 4000000 in
theorem w_X9_add_224 {Γ : XG} {Lx : Launch} {Dx : va_G} {cs : Nat → ClassId} {h0 : Nat} {d0 : Nat → Nat} {v_latest : Int32} {v_filed : Int32} {v_drafted : Int32} {v_place : Int32} {v_over : Int32} {v_clock : Int64} {v_askedTerms : Int32} {v_segments : Int32} {v_done : Int32} {v_postingsDone : Int32} {v_postingsAll : Int32} {v_why : Int32} {v_hits : Int32} {v_tape : Nat → Int32} {Φ : Int32 → Int32 → Int32 → Int32 → Int32 → Int32 → (Nat → Int32) → (Nat → Int32) → (Nat → Int32) → (Nat → Int32) → (Nat → Int32) → Prop} {k n9 : Nat} (C : CX Γ Lx Dx cs cX9_add RX9 "add" 8 (some .int) 2 47 0 0 (qEC cs 0 0 [] (R_X9_add cs h0 d0 v_latest v_filed v_drafted v_place v_over v_clock v_askedTerms v_segments v_done v_postingsDone v_postingsAll v_why v_hits v_tape Φ) (fun _ _ => False))) (hkm : k ≤ 0) (hnm : n9 ≤ 0) (v_thrown : Int32) (v_taped : Int32) (v_at : Int32) (v_documents : Int32) (v_terms : Int32) (v_often : Nat → Int32) (v_fresh : Nat → Int32) (v_word : Nat → Int32) (v_term : Nat → Int32) (v_length : Nat → Int32) (l2 : Int32) (l3 : Int32) (s0 : Int32) (h : J_X9_add_224 v_thrown v_taped v_at v_documents v_terms v_often v_fresh v_tape v_word v_term v_length l2 l3 s0 Φ) : AW Γ k n9 224 [(0, .ref h0), (2, .int l2), (3, .int l3)] [.int s0] [(h0, oX9 d0 v_thrown v_taped v_at v_documents v_terms v_latest v_filed v_drafted v_place v_over v_clock v_askedTerms v_segments v_done v_postingsDone v_postingsAll v_why v_hits), ((d0 8), aI cs 2560 v_often), ((d0 10), aI cs 64 v_fresh), ((d0 1), aI cs 3000 v_tape), ((d0 3), aI cs 8 v_word), ((d0 7), aI cs 512 v_term), ((d0 9), aI cs 40 v_length)] := by
  unfold J_X9_add_224 at h
  refine a_istore C (pc := 224) (lv1 := [(0, .ref h0), (2, .int l2), (3, .int l3), (5, .int s0)]) [1, 2, 3, 0] dX9_add_224 (by decide) rfl ?_
  refine a_iload_n C (pc := 226) 2 dX9_add_226 rfl rfl ?_
  refine a_if_eq C (pc := 227) 235 dX9_add_227 (by decide) (fun hc => ?_) (fun hc => ?_)
  · have h := h.1 hc
    exact w_X9_add_235 C hkm hnm v_thrown v_taped v_at v_documents v_terms v_often v_fresh v_word v_term v_length l2 l3 s0 h
  · have h := h.2 hc
    refine a_iload C (pc := 230) 3 dX9_add_230 rfl ?_
    refine a_if_ne C (pc := 232) 240 dX9_add_232 (by decide) (fun hc => ?_) (fun hc => ?_)
    · have h := h.1 hc
      refine a_lv (lv1 := [(0, .ref h0), (3, .int l3), (5, .int s0)]) [0, 2, 3] rfl ?_
      exact w_X9_add_240 C hkm hnm v_thrown v_taped v_at v_documents v_terms v_often v_fresh v_word v_term v_length l3 s0 h
    · have h := h.2 hc
      exact w_X9_add_235 C hkm hnm v_thrown v_taped v_at v_documents v_terms v_often v_fresh v_word v_term v_length l2 l3 s0 h
set_option maxRecDepth 100000 in
set_option maxHeartbeats 4000000 in
theorem w_X9_add_223 {Γ : XG} {Lx : Launch} {Dx : va_G} {cs : Nat → ClassId} {h0 : Nat} {d0 : Nat → Nat} {v_latest : Int32} {v_filed : Int32} {v_drafted : Int32} {v_place : Int32} {v_over : Int32} {v_clock : Int64} {v_askedTerms : Int32} {v_segments : Int32} {v_done : Int32} {v_postingsDone : Int32} {v_postingsAll : Int32} {v_why : Int32} {v_hits : Int32} {v_tape : Nat → Int32} {Φ : Int32 → Int32 → Int32 → Int32 → Int32 → Int32 → (Nat → Int32) → (Nat → Int32) → (Nat → Int32) → (Nat → Int32) → (Nat → Int32) → Prop} {k n9 : Nat} (C : CX Γ Lx Dx cs cX9_add RX9 "add" 8 (some .int) 2 47 0 0 (qEC cs 0 0 [] (R_X9_add cs h0 d0 v_latest v_filed v_drafted v_place v_over v_clock v_askedTerms v_segments v_done v_postingsDone v_postingsAll v_why v_hits v_tape Φ) (fun _ _ => False))) (hkm : k ≤ 0) (hnm : n9 ≤ 0) (v_thrown : Int32) (v_taped : Int32) (v_at : Int32) (v_documents : Int32) (v_terms : Int32) (v_often : Nat → Int32) (v_fresh : Nat → Int32) (v_word : Nat → Int32) (v_term : Nat → Int32) (v_length : Nat → Int32) (l2 : Int32) (l3 : Int32) (h : J_X9_add_223 v_thrown v_taped v_at v_documents v_terms v_often v_fresh v_tape v_word v_term v_length l2 l3 Φ) : AW Γ k n9 223 [(0, .ref h0), (2, .int l2), (3, .int l3)] [] [(h0, oX9 d0 v_thrown v_taped v_at v_documents v_terms v_latest v_filed v_drafted v_place v_over v_clock v_askedTerms v_segments v_done v_postingsDone v_postingsAll v_why v_hits), ((d0 8), aI cs 2560 v_often), ((d0 10), aI cs 64 v_fresh), ((d0 1), aI cs 3000 v_tape), ((d0 3), aI cs 8 v_word), ((d0 7), aI cs 512 v_term), ((d0 9), aI cs 40 v_length)] := by
  unfold J_X9_add_223 at h
  refine a_iconst C (pc := 223) dX9_add_223 ic_0 ?_
  exact w_X9_add_224 C hkm hnm v_thrown v_taped v_at v_documents v_terms v_often v_fresh v_word v_term v_length l2 l3 0 h
set_option maxRecDepth 100000 in
set_option maxHeartbeats 4000000 in
theorem m_X9_add (Lx : Launch) (Dx : va_G) (cs : Nat → ClassId) (h0 : Nat) (d0 : Nat → Nat) (v_thrown : Int32) (v_taped : Int32) (v_at : Int32) (v_documents : Int32) (v_terms : Int32) (v_latest : Int32) (v_filed : Int32) (v_drafted : Int32) (v_place : Int32) (v_over : Int32) (v_clock : Int64) (v_askedTerms : Int32) (v_segments : Int32) (v_done : Int32) (v_postingsDone : Int32) (v_postingsAll : Int32) (v_why : Int32) (v_hits : Int32) (v_often : Nat → Int32) (v_fresh : Nat → Int32) (v_tape : Nat → Int32) (v_word : Nat → Int32) (v_term : Nat → Int32) (v_length : Nat → Int32) (Φ : Int32 → Int32 → Int32 → Int32 → Int32 → Int32 → (Nat → Int32) → (Nat → Int32) → (Nat → Int32) → (Nat → Int32) → (Nat → Int32) → Prop) (h : P_X9_add v_thrown v_taped v_at v_documents v_terms v_often v_fresh v_tape v_word v_term v_length Φ) : XMet Lx Dx cs yX9_add cX9_add 8 (some .int) 2 47 0 0 [.ref h0] [(h0, oX9 d0 v_thrown v_taped v_at v_documents v_terms v_latest v_filed v_drafted v_place v_over v_clock v_askedTerms v_segments v_done v_postingsDone v_postingsAll v_why v_hits), ((d0 8), aI cs 2560 v_often), ((d0 10), aI cs 64 v_fresh), ((d0 1), aI cs 3000 v_tape), ((d0 3), aI cs 8 v_word), ((d0 7), aI cs 512 v_term), ((d0 9), aI cs 40 v_length)] (R_X9_add cs h0 d0 v_latest v_filed v_drafted v_place v_over v_clock v_askedTerms v_segments v_done v_postingsDone v_postingsAll v_why v_hits v_tape Φ) (fun _ _ => False) := by
  refine XMet.of (own := RX9) (nm := "add") (by decide) rfl rfl (Nat.le_of_ble_eq_true rfl) (fun Γ C => ?_)
  unfold P_X9_add at h
  refine a_aload_n C (pc := 0) 0 dX9_add_0 rfl rfl ?_
  refine a_get C (pc := 1) 0 2 inW_X9 rfl rfl (Nat.le_of_ble_eq_true rfl) wF_X9_97 rfl rfl dX9_add_1 ?_
  refine a_istore_n C (pc := 4) (lv1 := [(0, .ref h0), (1, .int v_taped)]) [1, 0] dX9_add_4 rfl (by decide) rfl ?_
  refine a_aload_n C (pc := 5) 0 dX9_add_5 rfl rfl ?_
  refine a_iconst C (pc := 6) dX9_add_6 ic_0 ?_
  refine a_put C (pc := 7) (ws1 := [(h0, oX9 d0 v_thrown 0 v_at v_documents v_terms v_latest v_filed v_drafted v_place v_over v_clock v_askedTerms v_segments v_done v_postingsDone v_postingsAll v_why v_hits), ((d0 8), aI cs 2560 v_often), ((d0 10), aI cs 64 v_fresh), ((d0 1), aI cs 3000 v_tape), ((d0 3), aI cs 8 v_word), ((d0 7), aI cs 512 v_term), ((d0 9), aI cs 40 v_length)]) 0 2 inW_X9 tyX9 tyX9_ok nmX9 rfl rfl (Nat.le_of_ble_eq_true rfl) wF_X9_97 rfl rfl rfl rfl rfl (Nat.le_of_ble_eq_true rfl) dX9_add_7 rfl ?_
  refine a_aload_n C (pc := 10) 0 dX9_add_10 rfl rfl ?_
  refine a_get C (pc := 11) 0 6 inW_X9 rfl rfl (Nat.le_of_ble_eq_true rfl) wF_X9_113 rfl rfl dX9_add_11 ?_
  refine a_istore_n C (pc := 14) (lv1 := [(0, .ref h0), (1, .int v_taped), (2, .int v_terms)]) [1, 2, 0] dX9_add_14 rfl (by decide) rfl ?_
  refine a_iconst C (pc := 15) dX9_add_15 ic_0 ?_
  refine a_istore_n C (pc := 16) (lv1 := [(0, .ref h0), (1, .int v_taped), (2, .int v_terms), (3, .int 0)]) [1, 2, 3, 0] dX9_add_16 rfl (by decide) rfl ?_
  refine a_aload_n C (pc := 17) 0 dX9_add_17 rfl rfl ?_
  refine a_callV C (pc := 18) (av := []) (wr := [((d0 10), aI cs 64 v_fresh), ((d0 1), aI cs 3000 v_tape), ((d0 3), aI cs 8 v_word), ((d0 7), aI cs 512 v_term), ((d0 9), aI cs 40 v_length)]) (m_X9_countPostings Lx Dx cs h0 d0 v_thrown 0 v_at v_documents v_terms v_latest v_filed v_drafted v_place v_over v_clock v_askedTerms v_segments v_done v_postingsDone v_postingsAll v_why v_hits v_often _ h) [0, 1] [2, 3, 4, 5, 6] rfl rfl (by decide) (by decide) (by decide) wM_X9_116 wb_X9_countPostings hy_X9_countPostings (q0 := 0) rfl rfl rfl ⟨Nat.le_of_ble_eq_true rfl, Nat.le_of_ble_eq_true rfl⟩ (Nat.le_of_ble_eq_true rfl) (Nat.le_of_ble_eq_true rfl) (Nat.le_of_ble_eq_true rfl) rfl dX9_add_18 (fun v w1 hw => ?_) [] rfl (fun _ _ h => h.elim)
  obtain ⟨r_1, rfl, rfl, h⟩ := hw
  refine a_ws (st1 := [.int r_1]) (ws1 := [(h0, oX9 d0 v_thrown 0 v_at v_documents v_terms v_latest v_filed v_drafted v_place v_over v_clock v_askedTerms v_segments v_done v_postingsDone v_postingsAll v_why v_hits), ((d0 8), aI cs 2560 v_often), ((d0 10), aI cs 64 v_fresh), ((d0 1), aI cs 3000 v_tape), ((d0 3), aI cs 8 v_word), ((d0 7), aI cs 512 v_term), ((d0 9), aI cs 40 v_length)]) 0 0 21 [5, 6, 0, 1, 2, 3, 4] rfl rfl rfl rfl (by decide) rfl ?_
  refine a_istore C (pc := 21) (lv1 := [(0, .ref h0), (1, .int v_taped), (2, .int v_terms), (3, .int 0), (4, .int r_1)]) [1, 2, 3, 4, 0] dX9_add_21 (by decide) rfl ?_
  refine a_aload_n C (pc := 23) 0 dX9_add_23 rfl rfl ?_
  refine a_get C (pc := 24) 0 5 inW_X9 rfl rfl (Nat.le_of_ble_eq_true rfl) wF_X9_120 rfl rfl dX9_add_24 ?_
  refine a_bipush C (pc := 27) dX9_add_27 bp_40 ?_
  refine a_icmp_ge C (pc := 29) 36 dX9_add_29 (by decide) (fun hc => ?_) (fun hc => ?_)
  · have h := h.1 hc
    refine a_iconst C (pc := 36) dX9_add_36 ic_0 ?_
    refine a_istore C (pc := 37) (lv1 := [(0, .ref h0), (1, .int v_taped), (2, .int v_terms), (3, .int 0), (4, .int r_1), (5, .int 0)]) [1, 2, 3, 4, 5, 0] dX9_add_37 (by decide) rfl ?_
    refine a_iconst C (pc := 39) dX9_add_39 ic_0 ?_
    refine a_istore C (pc := 40) (lv1 := [(0, .ref h0), (1, .int v_taped), (2, .int v_terms), (3, .int 0), (4, .int r_1), (5, .int 0), (6, .int 0)]) [1, 2, 3, 4, 5, 6, 0] dX9_add_40 (by decide) rfl ?_
    obtain ⟨n0, h⟩ := h
    refine w_X9_add_42 C (Nat.le_of_ble_eq_true rfl) (Nat.le_of_ble_eq_true rfl) n0 v_thrown 0 v_at v_documents v_terms v_often v_fresh v_word v_term v_length v_taped v_terms 0 r_1 0 0 h ?_
    intro v_thrown_17 v_taped_18 v_at_19 v_documents_20 v_terms_21 v_often_22 v_fresh_23 v_word_24 v_term_25 v_length_26 l1_27 l2_28 l3_29 l4_30 l5_31 h
    refine a_aload_n C (pc := 63) 0 dX9_add_63 rfl rfl ?_
    refine a_iconst C (pc := 64) dX9_add_64 ic_0 ?_
    refine a_put C (pc := 65) (ws1 := [(h0, oX9 d0 v_thrown_17 v_taped_18 0 v_documents_20 v_terms_21 v_latest v_filed v_drafted v_place v_over v_clock v_askedTerms v_segments v_done v_postingsDone v_postingsAll v_why v_hits), ((d0 8), aI cs 2560 v_often_22), ((d0 10), aI cs 64 v_fresh_23), ((d0 1), aI cs 3000 v_tape), ((d0 3), aI cs 8 v_word_24), ((d0 7), aI cs 512 v_term_25), ((d0 9), aI cs 40 v_length_26)]) 0 4 inW_X9 tyX9 tyX9_ok nmX9 rfl rfl (Nat.le_of_ble_eq_true rfl) wF_X9_102 rfl rfl rfl rfl rfl (Nat.le_of_ble_eq_true rfl) dX9_add_65 rfl ?_
    obtain ⟨n0, h⟩ := h
    refine w_X9_add_68 C (Nat.le_of_ble_eq_true rfl) (Nat.le_of_ble_eq_true rfl) n0 v_thrown_17 v_taped_18 0 v_documents_20 v_terms_21 v_often_22 v_fresh_23 v_word_24 v_term_25 v_length_26 l1_27 l2_28 l3_29 l4_30 l5_31 h ?_
    intro v_thrown_200 v_taped_201 v_at_202 v_documents_203 v_terms_204 v_often_205 v_fresh_206 v_word_207 v_term_208 v_length_209 l2_210 l3_211 l4_212 l5_213 h
    refine a_iload C (pc := 206) 4 dX9_add_206 rfl ?_
    refine a_if_eq C (pc := 208) 223 dX9_add_208 (by decide) (fun hc => ?_) (fun hc => ?_)
    · have h := h.1 hc
      refine a_lv (lv1 := [(0, .ref h0), (2, .int l2_210), (3, .int l3_211)]) [0, 1, 2] rfl ?_
      exact w_X9_add_223 C (Nat.le_of_ble_eq_true rfl) (Nat.le_of_ble_eq_true rfl) v_thrown_200 v_taped_201 v_at_202 v_documents_203 v_terms_204 v_often_205 v_fresh_206 v_word_207 v_term_208 v_length_209 l2_210 l3_211 h
    · have h := h.2 hc
      refine a_iload C (pc := 211) 3 dX9_add_211 rfl ?_
      refine a_sipush C (pc := 213) dX9_add_213 sp_600 ?_
      refine a_icmp_gt C (pc := 216) 223 dX9_add_216 (by decide) (fun hc => ?_) (fun hc => ?_)
      · have h := h.1 hc
        refine a_lv (lv1 := [(0, .ref h0), (2, .int l2_210), (3, .int l3_211)]) [0, 1, 2] rfl ?_
        exact w_X9_add_223 C (Nat.le_of_ble_eq_true rfl) (Nat.le_of_ble_eq_true rfl) v_thrown_200 v_taped_201 v_at_202 v_documents_203 v_terms_204 v_often_205 v_fresh_206 v_word_207 v_term_208 v_length_209 l2_210 l3_211 h
      · have h := h.2 hc
        refine a_iconst C (pc := 219) dX9_add_219 ic_1 ?_
        refine a_goto C (pc := 220) 224 dX9_add_220 (by decide) ?_
        refine a_lv (lv1 := [(0, .ref h0), (2, .int l2_210), (3, .int l3_211)]) [0, 1, 2] rfl ?_
        exact w_X9_add_224 C (Nat.le_of_ble_eq_true rfl) (Nat.le_of_ble_eq_true rfl) v_thrown_200 v_taped_201 v_at_202 v_documents_203 v_terms_204 v_often_205 v_fresh_206 v_word_207 v_term_208 v_length_209 l2_210 l3_211 1 h
  · have h := h.2 hc
    refine a_iconst C (pc := 32) dX9_add_32 ic_1 ?_
    refine a_goto C (pc := 33) 37 dX9_add_33 (by decide) ?_
    refine a_istore C (pc := 37) (lv1 := [(0, .ref h0), (1, .int v_taped), (2, .int v_terms), (3, .int 0), (4, .int r_1), (5, .int 1)]) [1, 2, 3, 4, 5, 0] dX9_add_37 (by decide) rfl ?_
    refine a_iconst C (pc := 39) dX9_add_39 ic_0 ?_
    refine a_istore C (pc := 40) (lv1 := [(0, .ref h0), (1, .int v_taped), (2, .int v_terms), (3, .int 0), (4, .int r_1), (5, .int 1), (6, .int 0)]) [1, 2, 3, 4, 5, 6, 0] dX9_add_40 (by decide) rfl ?_
    obtain ⟨n0, h⟩ := h
    refine w_X9_add_42 C (Nat.le_of_ble_eq_true rfl) (Nat.le_of_ble_eq_true rfl) n0 v_thrown 0 v_at v_documents v_terms v_often v_fresh v_word v_term v_length v_taped v_terms 0 r_1 1 0 h ?_
    intro v_thrown_253 v_taped_254 v_at_255 v_documents_256 v_terms_257 v_often_258 v_fresh_259 v_word_260 v_term_261 v_length_262 l1_263 l2_264 l3_265 l4_266 l5_267 h
    refine a_aload_n C (pc := 63) 0 dX9_add_63 rfl rfl ?_
    refine a_iconst C (pc := 64) dX9_add_64 ic_0 ?_
    refine a_put C (pc := 65) (ws1 := [(h0, oX9 d0 v_thrown_253 v_taped_254 0 v_documents_256 v_terms_257 v_latest v_filed v_drafted v_place v_over v_clock v_askedTerms v_segments v_done v_postingsDone v_postingsAll v_why v_hits), ((d0 8), aI cs 2560 v_often_258), ((d0 10), aI cs 64 v_fresh_259), ((d0 1), aI cs 3000 v_tape), ((d0 3), aI cs 8 v_word_260), ((d0 7), aI cs 512 v_term_261), ((d0 9), aI cs 40 v_length_262)]) 0 4 inW_X9 tyX9 tyX9_ok nmX9 rfl rfl (Nat.le_of_ble_eq_true rfl) wF_X9_102 rfl rfl rfl rfl rfl (Nat.le_of_ble_eq_true rfl) dX9_add_65 rfl ?_
    obtain ⟨n0, h⟩ := h
    refine w_X9_add_68 C (Nat.le_of_ble_eq_true rfl) (Nat.le_of_ble_eq_true rfl) n0 v_thrown_253 v_taped_254 0 v_documents_256 v_terms_257 v_often_258 v_fresh_259 v_word_260 v_term_261 v_length_262 l1_263 l2_264 l3_265 l4_266 l5_267 h ?_
    intro v_thrown_268 v_taped_269 v_at_270 v_documents_271 v_terms_272 v_often_273 v_fresh_274 v_word_275 v_term_276 v_length_277 l2_278 l3_279 l4_280 l5_281 h
    refine a_iload C (pc := 206) 4 dX9_add_206 rfl ?_
    refine a_if_eq C (pc := 208) 223 dX9_add_208 (by decide) (fun hc => ?_) (fun hc => ?_)
    · have h := h.1 hc
      refine a_lv (lv1 := [(0, .ref h0), (2, .int l2_278), (3, .int l3_279)]) [0, 1, 2] rfl ?_
      exact w_X9_add_223 C (Nat.le_of_ble_eq_true rfl) (Nat.le_of_ble_eq_true rfl) v_thrown_268 v_taped_269 v_at_270 v_documents_271 v_terms_272 v_often_273 v_fresh_274 v_word_275 v_term_276 v_length_277 l2_278 l3_279 h
    · have h := h.2 hc
      refine a_iload C (pc := 211) 3 dX9_add_211 rfl ?_
      refine a_sipush C (pc := 213) dX9_add_213 sp_600 ?_
      refine a_icmp_gt C (pc := 216) 223 dX9_add_216 (by decide) (fun hc => ?_) (fun hc => ?_)
      · have h := h.1 hc
        refine a_lv (lv1 := [(0, .ref h0), (2, .int l2_278), (3, .int l3_279)]) [0, 1, 2] rfl ?_
        exact w_X9_add_223 C (Nat.le_of_ble_eq_true rfl) (Nat.le_of_ble_eq_true rfl) v_thrown_268 v_taped_269 v_at_270 v_documents_271 v_terms_272 v_often_273 v_fresh_274 v_word_275 v_term_276 v_length_277 l2_278 l3_279 h
      · have h := h.2 hc
        refine a_iconst C (pc := 219) dX9_add_219 ic_1 ?_
        refine a_goto C (pc := 220) 224 dX9_add_220 (by decide) ?_
        refine a_lv (lv1 := [(0, .ref h0), (2, .int l2_278), (3, .int l3_279)]) [0, 1, 2] rfl ?_
        exact w_X9_add_224 C (Nat.le_of_ble_eq_true rfl) (Nat.le_of_ble_eq_true rfl) v_thrown_268 v_taped_269 v_at_270 v_documents_271 v_terms_272 v_often_273 v_fresh_274 v_word_275 v_term_276 v_length_277 l2_278 l3_279 1 h
set_option maxRecDepth 100000 in
set_option maxHeartbeats 4000000 in
theorem w_X9_lengths_4 {Γ : XG} {Lx : Launch} {Dx : va_G} {cs : Nat → ClassId} {h0 : Nat} {d0 : Nat → Nat} {v_thrown : Int32} {v_taped : Int32} {v_at : Int32} {v_documents : Int32} {v_terms : Int32} {v_latest : Int32} {v_filed : Int32} {v_drafted : Int32} {v_place : Int32} {v_over : Int32} {v_clock : Int64} {v_askedTerms : Int32} {v_segments : Int32} {v_done : Int32} {v_postingsDone : Int32} {v_postingsAll : Int32} {v_why : Int32} {v_hits : Int32} {v_length : Nat → Int32} {K_27 : Int32 → Prop} {Φ : Int32 → Prop} {k n9 : Nat} (C : CX Γ Lx Dx cs cX9_lengths RX9 "lengths" 3 (some .int) 0 0 0 0 (qEC cs 0 0 [] (R_X9_lengths cs h0 d0 v_thrown v_taped v_at v_documents v_terms v_latest v_filed v_drafted v_place v_over v_clock v_askedTerms v_segments v_done v_postingsDone v_postingsAll v_why v_hits v_length Φ) (fun _ _ => False))) (hkm : k ≤ 0) (hnm : n9 ≤ 0) : ∀ n : Nat, ∀ (l1 : Int32) (l2 : Int32), L_X9_lengths_4 n v_documents v_length l1 l2 K_27 Φ → (∀ (l1_1 : Int32), K_27 l1_1 → AW Γ k n9 27 [(1, .int l1_1)] [] [(h0, oX9 d0 v_thrown v_taped v_at v_documents v_terms v_latest v_filed v_drafted v_place v_over v_clock v_askedTerms v_segments v_done v_postingsDone v_postingsAll v_why v_hits), ((d0 9), aI cs 40 v_length)]) → AW Γ k n9 4 [(0, .ref h0), (1, .int l1), (2, .int l2)] [] [(h0, oX9 d0 v_thrown v_taped v_at v_documents v_terms v_latest v_filed v_drafted v_place v_over v_clock v_askedTerms v_segments v_done v_postingsDone v_postingsAll v_why v_hits), ((d0 9), aI cs 40 v_length)] := by
  intro n
  induction n with
  | zero =>
    intro l1 l2 h
    exact False.elim h
  | succ n ih =>
    intro l1 l2 h hK_27
    rw [L_X9_lengths_4] at h
    refine a_iload_n C (pc := 4) 2 dX9_lengths_4 rfl rfl ?_
    refine a_aload_n C (pc := 5) 0 dX9_lengths_5 rfl rfl ?_
    refine a_get C (pc := 6) 0 5 inW_X9 rfl rfl (Nat.le_of_ble_eq_true rfl) wF_X9_120 rfl rfl dX9_lengths_6 ?_
    refine a_icmp_ge C (pc := 9) 27 dX9_lengths_9 (by decide) (fun hc => ?_) (fun hc => ?_)
    · have h := h.1 hc
      refine a_lv (lv1 := [(1, .int l1)]) [1] rfl ?_
      exact hK_27 l1 h
    · have h := h.2 hc
      refine a_iload_n C (pc := 12) 1 dX9_lengths_12 rfl rfl ?_
      refine a_aload_n C (pc := 13) 0 dX9_lengths_13 rfl rfl ?_
      refine a_get C (pc := 14) 0 9 inW_X9 rfl rfl (Nat.le_of_ble_eq_true rfl) wF_X9_22 rfl rfl dX9_lengths_14 ?_
      refine a_iload_n C (pc := 17) 2 dX9_lengths_17 rfl rfl ?_
      refine a_iald C (pc := 18) 1 rfl h.1 dX9_lengths_18 ?_
      replace h := h.2
      refine a_iadd C (pc := 19) dX9_lengths_19 ?_
      refine a_istore_n C (pc := 20) (lv1 := [(0, .ref h0), (1, .int (l1 + (v_length (l2 : Int32).toNatClampNeg))), (2, .int l2)]) [1, 0, 2] dX9_lengths_20 rfl (by decide) rfl ?_
      refine a_iinc C (pc := 21) (lv1 := [(0, .ref h0), (1, .int (l1 + (v_length (l2 : Int32).toNatClampNeg))), (2, .int (l2 + 1))]) 2 [1, 2, 0] dX9_lengths_21 rfl (congrArg (fun z => l2 + z) ic_1) (by decide) rfl ?_
      refine a_goto C (pc := 24) 4 dX9_lengths_24 (by decide) ?_
      exact ih (l1 + (v_length (l2 : Int32).toNatClampNeg)) (l2 + 1) h hK_27
set_option maxRecDepth 100000 in
set_option maxHeartbeats 4000000 in
theorem m_X9_lengths (Lx : Launch) (Dx : va_G) (cs : Nat → ClassId) (h0 : Nat) (d0 : Nat → Nat) (v_thrown : Int32) (v_taped : Int32) (v_at : Int32) (v_documents : Int32) (v_terms : Int32) (v_latest : Int32) (v_filed : Int32) (v_drafted : Int32) (v_place : Int32) (v_over : Int32) (v_clock : Int64) (v_askedTerms : Int32) (v_segments : Int32) (v_done : Int32) (v_postingsDone : Int32) (v_postingsAll : Int32) (v_why : Int32) (v_hits : Int32) (v_length : Nat → Int32) (Φ : Int32 → Prop) (h : P_X9_lengths v_documents v_length Φ) : XMet Lx Dx cs yX9_lengths cX9_lengths 3 (some .int) 0 0 0 0 [.ref h0] [(h0, oX9 d0 v_thrown v_taped v_at v_documents v_terms v_latest v_filed v_drafted v_place v_over v_clock v_askedTerms v_segments v_done v_postingsDone v_postingsAll v_why v_hits), ((d0 9), aI cs 40 v_length)] (R_X9_lengths cs h0 d0 v_thrown v_taped v_at v_documents v_terms v_latest v_filed v_drafted v_place v_over v_clock v_askedTerms v_segments v_done v_postingsDone v_postingsAll v_why v_hits v_length Φ) (fun _ _ => False) := by
  refine XMet.of (own := RX9) (nm := "lengths") (by decide) rfl rfl (Nat.le_of_ble_eq_true rfl) (fun Γ C => ?_)
  unfold P_X9_lengths at h
  refine a_iconst C (pc := 0) dX9_lengths_0 ic_0 ?_
  refine a_istore_n C (pc := 1) (lv1 := [(0, .ref h0), (1, .int 0)]) [1, 0] dX9_lengths_1 rfl (by decide) rfl ?_
  refine a_iconst C (pc := 2) dX9_lengths_2 ic_0 ?_
  refine a_istore_n C (pc := 3) (lv1 := [(0, .ref h0), (1, .int 0), (2, .int 0)]) [1, 2, 0] dX9_lengths_3 rfl (by decide) rfl ?_
  obtain ⟨n0, h⟩ := h
  refine w_X9_lengths_4 C (Nat.le_of_ble_eq_true rfl) (Nat.le_of_ble_eq_true rfl) n0 0 0 h ?_
  intro l1_2 h
  refine a_iload_n C (pc := 27) 0 dX9_lengths_27 rfl rfl ?_
  exact a_ireturn C (pc := 28) rfl dX9_lengths_28 (Nat.le_of_ble_eq_true rfl) (Nat.le_of_ble_eq_true rfl) ⟨_, rfl, rfl, h⟩
set_option maxRecDepth 100000 in
set_option maxHeartbeats 4000000 in
theorem m_X9_clear (Lx : Launch) (Dx : va_G) (cs : Nat → ClassId) (h0 : Nat) (d0 : Nat → Nat) (v_thrown : Int32) (v_taped : Int32) (v_at : Int32) (v_documents : Int32) (v_terms : Int32) (v_latest : Int32) (v_filed : Int32) (v_drafted : Int32) (v_place : Int32) (v_over : Int32) (v_clock : Int64) (v_askedTerms : Int32) (v_segments : Int32) (v_done : Int32) (v_postingsDone : Int32) (v_postingsAll : Int32) (v_why : Int32) (v_hits : Int32) (Φ : Int32 → Int32 → Int32 → Int32 → Prop) (h : P_X9_clear v_thrown v_documents v_terms Φ) : XMet Lx Dx cs yX9_clear cX9_clear 2 (some .int) 0 0 0 0 [.ref h0] [(h0, oX9 d0 v_thrown v_taped v_at v_documents v_terms v_latest v_filed v_drafted v_place v_over v_clock v_askedTerms v_segments v_done v_postingsDone v_postingsAll v_why v_hits)] (R_X9_clear cs h0 d0 v_taped v_at v_latest v_filed v_drafted v_place v_over v_clock v_askedTerms v_segments v_done v_postingsDone v_postingsAll v_why v_hits Φ) (fun _ _ => False) := by
  refine XMet.of (own := RX9) (nm := "clear") (by decide) rfl rfl (Nat.le_of_ble_eq_true rfl) (fun Γ C => ?_)
  unfold P_X9_clear at h
  refine a_aload_n C (pc := 0) 0 dX9_clear_0 rfl rfl ?_
  refine a_iconst C (pc := 1) dX9_clear_1 ic_0 ?_
  refine a_put C (pc := 2) (ws1 := [(h0, oX9 d0 0 v_taped v_at v_documents v_terms v_latest v_filed v_drafted v_place v_over v_clock v_askedTerms v_segments v_done v_postingsDone v_postingsAll v_why v_hits)]) 0 0 inW_X9 tyX9 tyX9_ok nmX9 rfl rfl (Nat.le_of_ble_eq_true rfl) wF_X9_83 rfl rfl rfl rfl rfl (Nat.le_of_ble_eq_true rfl) dX9_clear_2 rfl ?_
  refine a_aload_n C (pc := 5) 0 dX9_clear_5 rfl rfl ?_
  refine a_get C (pc := 6) 0 5 inW_X9 rfl rfl (Nat.le_of_ble_eq_true rfl) wF_X9_120 rfl rfl dX9_clear_6 ?_
  refine a_istore_n C (pc := 9) (lv1 := [(0, .ref h0), (1, .int v_documents)]) [1, 0] dX9_clear_9 rfl (by decide) rfl ?_
  refine a_aload_n C (pc := 10) 0 dX9_clear_10 rfl rfl ?_
  refine a_iconst C (pc := 11) dX9_clear_11 ic_0 ?_
  refine a_put C (pc := 12) (ws1 := [(h0, oX9 d0 0 v_taped v_at 0 v_terms v_latest v_filed v_drafted v_place v_over v_clock v_askedTerms v_segments v_done v_postingsDone v_postingsAll v_why v_hits)]) 0 5 inW_X9 tyX9 tyX9_ok nmX9 rfl rfl (Nat.le_of_ble_eq_true rfl) wF_X9_120 rfl rfl rfl rfl rfl (Nat.le_of_ble_eq_true rfl) dX9_clear_12 rfl ?_
  refine a_aload_n C (pc := 15) 0 dX9_clear_15 rfl rfl ?_
  refine a_iconst C (pc := 16) dX9_clear_16 ic_0 ?_
  refine a_put C (pc := 17) (ws1 := [(h0, oX9 d0 0 v_taped v_at 0 0 v_latest v_filed v_drafted v_place v_over v_clock v_askedTerms v_segments v_done v_postingsDone v_postingsAll v_why v_hits)]) 0 6 inW_X9 tyX9 tyX9_ok nmX9 rfl rfl (Nat.le_of_ble_eq_true rfl) wF_X9_113 rfl rfl rfl rfl rfl (Nat.le_of_ble_eq_true rfl) dX9_clear_17 rfl ?_
  refine a_iload_n C (pc := 20) 1 dX9_clear_20 rfl rfl ?_
  exact a_ireturn C (pc := 21) rfl dX9_clear_21 (Nat.le_of_ble_eq_true rfl) (Nat.le_of_ble_eq_true rfl) ⟨_, _, _, _, rfl, rfl, h⟩
set_option maxRecDepth 100000 in
set_option maxHeartbeats 4000000 in
theorem w_X9_count_18 {Γ : XG} {Lx : Launch} {Dx : va_G} {cs : Nat → ClassId} {h0 : Nat} {d0 : Nat → Nat} {v_taped : Int32} {v_at : Int32} {v_documents : Int32} {v_terms : Int32} {v_latest : Int32} {v_filed : Int32} {v_drafted : Int32} {v_place : Int32} {v_over : Int32} {v_clock : Int64} {v_askedTerms : Int32} {v_segments : Int32} {v_done : Int32} {v_postingsDone : Int32} {v_postingsAll : Int32} {v_why : Int32} {v_hits : Int32} {v_often : Nat → Int32} {v_length : Nat → Int32} {Φ : Int32 → Int32 → Prop} {k n9 : Nat} (C : CX Γ Lx Dx cs cX9_count RX9 "count" 2 (some .int) 2 45 0 0 (qEC cs 0 0 [] (R_X9_count cs h0 d0 v_taped v_at v_documents v_terms v_latest v_filed v_drafted v_place v_over v_clock v_askedTerms v_segments v_done v_postingsDone v_postingsAll v_why v_hits v_often v_length Φ) (fun _ _ => False))) (hkm : k ≤ 0) (hnm : n9 ≤ 0) (v_thrown : Int32) (l1 : Int32) (s1 : Int32) (h : J_X9_count_18 v_thrown v_documents v_terms v_often v_length l1 s1 Φ) : AW Γ k n9 18 [(0, .ref h0), (1, .int l1)] [.int s1, .ref h0] [(h0, oX9 d0 v_thrown v_taped v_at v_documents v_terms v_latest v_filed v_drafted v_place v_over v_clock v_askedTerms v_segments v_done v_postingsDone v_postingsAll v_why v_hits), ((d0 8), aI cs 2560 v_often), ((d0 9), aI cs 40 v_length)] := by
  unfold J_X9_count_18 at h
  refine a_iconst C (pc := 18) dX9_count_18 ic_1 ?_
  refine a_callV C (pc := 19) (av := [.int s1, .int 1]) (wr := [((d0 8), aI cs 2560 v_often), ((d0 9), aI cs 40 v_length)]) (m_X9_fails Lx Dx cs h0 d0 v_thrown v_taped v_at v_documents v_terms v_latest v_filed v_drafted v_place v_over v_clock v_askedTerms v_segments v_done v_postingsDone v_postingsAll v_why v_hits s1 1 _ h) [0] [1, 2] rfl rfl (by decide) (by decide) (by decide) wM_X9_93 wb_X9_fails hy_X9_fails (q0 := 0) rfl rfl rfl ⟨Nat.le_of_ble_eq_true rfl, Nat.le_of_ble_eq_true rfl⟩ (Nat.le_of_ble_eq_true rfl) hkm hnm rfl dX9_count_19 (fun v w1 hw => ?_) [] rfl (fun _ _ h => h.elim)
  obtain ⟨r_2, v_thrown_3, rfl, rfl, h⟩ := hw
  refine a_ws (st1 := [.int r_2]) (ws1 := [(h0, oX9 d0 v_thrown_3 v_taped v_at v_documents v_terms v_latest v_filed v_drafted v_place v_over v_clock v_askedTerms v_segments v_done v_postingsDone v_postingsAll v_why v_hits), ((d0 8), aI cs 2560 v_often), ((d0 9), aI cs 40 v_length)]) k n9 22 [2, 0, 1] rfl rfl rfl rfl (by decide) rfl ?_
  refine a_if_eq C (pc := 22) 27 dX9_count_22 (by decide) (fun hc => ?_) (fun hc => ?_)
  · have h := h.1 hc
    refine a_iload_n C (pc := 27) 1 dX9_count_27 rfl rfl ?_
    refine a_if_ne C (pc := 28) 38 dX9_count_28 (by decide) (fun hc => ?_) (fun hc => ?_)
    · have h := h.1 hc
      refine a_iload_n C (pc := 38) 1 dX9_count_38 rfl rfl ?_
      refine a_iconst C (pc := 39) dX9_count_39 ic_1 ?_
      refine a_icmp_ne C (pc := 40) 50 dX9_count_40 (by decide) (fun hc => ?_) (fun hc => ?_)
      · have h := h.1 hc
        refine a_iload_n C (pc := 50) 1 dX9_count_50 rfl rfl ?_
        refine a_iconst C (pc := 51) dX9_count_51 ic_2 ?_
        refine a_icmp_ne C (pc := 52) 62 dX9_count_52 (by decide) (fun hc => ?_) (fun hc => ?_)
        · have h := h.1 hc
          refine a_aload_n C (pc := 62) 0 dX9_count_62 rfl rfl ?_
          refine a_callV C (pc := 63) (av := []) (wr := [((d0 8), aI cs 2560 v_often)]) (m_X9_lengths Lx Dx cs h0 d0 v_thrown_3 v_taped v_at v_documents v_terms v_latest v_filed v_drafted v_place v_over v_clock v_askedTerms v_segments v_done v_postingsDone v_postingsAll v_why v_hits v_length _ h) [0, 2] [1] rfl rfl (by decide) (by decide) (by decide) wM_X9_136 wb_X9_lengths hy_X9_lengths (q0 := 0) rfl rfl rfl ⟨Nat.le_of_ble_eq_true rfl, Nat.le_of_ble_eq_true rfl⟩ (Nat.le_of_ble_eq_true rfl) hkm hnm rfl dX9_count_63 (fun v w1 hw => ?_) [] rfl (fun _ _ h => h.elim)
          obtain ⟨r_4, rfl, rfl, h⟩ := hw
          refine a_ws (st1 := [.int r_4]) (ws1 := [(h0, oX9 d0 v_thrown_3 v_taped v_at v_documents v_terms v_latest v_filed v_drafted v_place v_over v_clock v_askedTerms v_segments v_done v_postingsDone v_postingsAll v_why v_hits), ((d0 8), aI cs 2560 v_often), ((d0 9), aI cs 40 v_length)]) k n9 66 [1, 0, 2] rfl rfl rfl rfl (by decide) rfl ?_
          exact a_ireturn C (pc := 66) rfl dX9_count_66 hkm hnm ⟨_, _, rfl, rfl, h⟩
        · have h := h.2 hc
          refine a_aload_n C (pc := 55) 0 dX9_count_55 rfl rfl ?_
          refine a_callV C (pc := 56) (av := []) (wr := [((d0 9), aI cs 40 v_length)]) (m_X9_countPostings Lx Dx cs h0 d0 v_thrown_3 v_taped v_at v_documents v_terms v_latest v_filed v_drafted v_place v_over v_clock v_askedTerms v_segments v_done v_postingsDone v_postingsAll v_why v_hits v_often _ h) [0, 1] [2] rfl rfl (by decide) (by decide) (by decide) wM_X9_116 wb_X9_countPostings hy_X9_countPostings (q0 := 0) rfl rfl rfl ⟨Nat.le_of_ble_eq_true rfl, Nat.le_of_ble_eq_true rfl⟩ (Nat.le_of_ble_eq_true rfl) hkm hnm rfl dX9_count_56 (fun v w1 hw => ?_) [] rfl (fun _ _ h => h.elim)
          obtain ⟨r_5, rfl, rfl, h⟩ := hw
          refine a_ws (st1 := [.int r_5]) (ws1 := [(h0, oX9 d0 v_thrown_3 v_taped v_at v_documents v_terms v_latest v_filed v_drafted v_place v_over v_clock v_askedTerms v_segments v_done v_postingsDone v_postingsAll v_why v_hits), ((d0 8), aI cs 2560 v_often), ((d0 9), aI cs 40 v_length)]) k n9 59 [1, 2, 0] rfl rfl rfl rfl (by decide) rfl ?_
          refine a_goto C (pc := 59) 66 dX9_count_59 (by decide) ?_
          exact a_ireturn C (pc := 66) rfl dX9_count_66 hkm hnm ⟨_, _, rfl, rfl, h⟩
      · have h := h.2 hc
        refine a_aload_n C (pc := 43) 0 dX9_count_43 rfl rfl ?_
        refine a_get C (pc := 44) 0 6 inW_X9 rfl rfl (Nat.le_of_ble_eq_true rfl) wF_X9_113 rfl rfl dX9_count_44 ?_
        refine a_goto C (pc := 47) 66 dX9_count_47 (by decide) ?_
        exact a_ireturn C (pc := 66) rfl dX9_count_66 hkm hnm ⟨_, _, rfl, rfl, h⟩
    · have h := h.2 hc
      refine a_aload_n C (pc := 31) 0 dX9_count_31 rfl rfl ?_
      refine a_get C (pc := 32) 0 5 inW_X9 rfl rfl (Nat.le_of_ble_eq_true rfl) wF_X9_120 rfl rfl dX9_count_32 ?_
      refine a_goto C (pc := 35) 66 dX9_count_35 (by decide) ?_
      exact a_ireturn C (pc := 66) rfl dX9_count_66 hkm hnm ⟨_, _, rfl, rfl, h⟩
  · have h := h.2 hc
    refine a_iconst C (pc := 25) dX9_count_25 ic_0 ?_
    exact a_ireturn C (pc := 26) rfl dX9_count_26 hkm hnm ⟨_, _, rfl, rfl, h⟩
set_option maxRecDepth 100000 in
set_option maxHeartbeats 4000000 in
theorem m_X9_count (Lx : Launch) (Dx : va_G) (cs : Nat → ClassId) (h0 : Nat) (d0 : Nat → Nat) (v_thrown : Int32) (v_taped : Int32) (v_at : Int32) (v_documents : Int32) (v_terms : Int32) (v_latest : Int32) (v_filed : Int32) (v_drafted : Int32) (v_place : Int32) (v_over : Int32) (v_clock : Int64) (v_askedTerms : Int32) (v_segments : Int32) (v_done : Int32) (v_postingsDone : Int32) (v_postingsAll : Int32) (v_why : Int32) (v_hits : Int32) (v_often : Nat → Int32) (v_length : Nat → Int32) (l1 : Int32) (Φ : Int32 → Int32 → Prop) (h : P_X9_count v_thrown v_documents v_terms v_often v_length l1 Φ) : XMet Lx Dx cs yX9_count cX9_count 2 (some .int) 2 45 0 0 [.ref h0, .int l1] [(h0, oX9 d0 v_thrown v_taped v_at v_documents v_terms v_latest v_filed v_drafted v_place v_over v_clock v_askedTerms v_segments v_done v_postingsDone v_postingsAll v_why v_hits), ((d0 8), aI cs 2560 v_often), ((d0 9), aI cs 40 v_length)] (R_X9_count cs h0 d0 v_taped v_at v_documents v_terms v_latest v_filed v_drafted v_place v_over v_clock v_askedTerms v_segments v_done v_postingsDone v_postingsAll v_why v_hits v_often v_length Φ) (fun _ _ => False) := by
  refine XMet.of (own := RX9) (nm := "count") (by decide) rfl rfl (Nat.le_of_ble_eq_true rfl) (fun Γ C => ?_)
  unfold P_X9_count at h
  refine a_aload_n C (pc := 0) 0 dX9_count_0 rfl rfl ?_
  refine a_iload_n C (pc := 1) 1 dX9_count_1 rfl rfl ?_
  refine a_i2l C (pc := 2) dX9_count_2 ?_
  refine a_lconst C (pc := 3) (v := 0) dX9_count_3 rfl ?_
  refine a_ldc2 C (pc := 4) wC_X9_134 dX9_count_4 ?_
  refine a_callS C (pc := 7) (av := [.long ((l1 : Int32).toInt64), .long 0, .long 3]) (wr := [(h0, oX9 d0 v_thrown v_taped v_at v_documents v_terms v_latest v_filed v_drafted v_place v_over v_clock v_askedTerms v_segments v_done v_postingsDone v_postingsAll v_why v_hits), ((d0 8), aI cs 2560 v_often), ((d0 9), aI cs 40 v_length)]) (m_X9_within Lx Dx cs ((l1 : Int32).toInt64) 0 3 _ h) [] [0, 1, 2] rfl rfl (by decide) (by decide) (by decide) wM_X9_89 wb_X9_within hy_X9_within rfl ⟨Nat.le_of_ble_eq_true rfl, Nat.le_of_ble_eq_true rfl⟩ (Nat.le_of_ble_eq_true rfl) (Nat.le_of_ble_eq_true rfl) (Nat.le_of_ble_eq_true rfl) rfl dX9_count_7 (fun v w1 hw => ?_) [] rfl (fun _ _ h => h.elim)
  obtain ⟨r_1, rfl, rfl, h⟩ := hw
  refine a_ws (st1 := [.int r_1, .ref h0]) (ws1 := [(h0, oX9 d0 v_thrown v_taped v_at v_documents v_terms v_latest v_filed v_drafted v_place v_over v_clock v_askedTerms v_segments v_done v_postingsDone v_postingsAll v_why v_hits), ((d0 8), aI cs 2560 v_often), ((d0 9), aI cs 40 v_length)]) 0 0 10 [0, 1, 2] rfl rfl rfl rfl (by decide) rfl ?_
  refine a_if_ne C (pc := 10) 17 dX9_count_10 (by decide) (fun hc => ?_) (fun hc => ?_)
  · have h := h.1 hc
    refine a_iconst C (pc := 17) dX9_count_17 ic_0 ?_
    exact w_X9_count_18 C (Nat.le_of_ble_eq_true rfl) (Nat.le_of_ble_eq_true rfl) v_thrown l1 0 h
  · have h := h.2 hc
    refine a_iconst C (pc := 13) dX9_count_13 ic_1 ?_
    refine a_goto C (pc := 14) 18 dX9_count_14 (by decide) ?_
    exact w_X9_count_18 C (Nat.le_of_ble_eq_true rfl) (Nat.le_of_ble_eq_true rfl) v_thrown l1 1 h
