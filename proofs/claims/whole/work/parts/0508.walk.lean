set_option maxRecDepth 100000 in
set_option maxHeartbeats 4000000 in
theorem w_X9_putWords_26 {Γ : XG} {Lx : Launch} {Dx : va_G} {cs : Nat → ClassId} {h0 : Nat} {d0 : Nat → Nat} {v_thrown : Int32} {v_taped : Int32} {v_at : Int32} {v_documents : Int32} {v_terms : Int32} {v_latest : Int32} {v_filed : Int32} {v_place : Int32} {v_over : Int32} {v_clock : Int64} {v_askedTerms : Int32} {v_segments : Int32} {v_done : Int32} {v_postingsDone : Int32} {v_postingsAll : Int32} {v_why : Int32} {v_hits : Int32} {v_gap : Nat → Int32} {K_83 : Int32 → (Nat → Int32) → Int32 → Int32 → Int32 → Int32 → Prop} {Φ : Int32 → (Nat → Int32) → Prop} {k n9 : Nat} (C : CX Γ Lx Dx cs cX9_putWords RX9 "putWords" 8 none 1 21 0 0 (qEC cs 0 0 [] (R_X9_putWords cs h0 d0 v_thrown v_taped v_at v_documents v_terms v_latest v_filed v_place v_over v_clock v_askedTerms v_segments v_done v_postingsDone v_postingsAll v_why v_hits v_gap Φ) (fun _ _ => False))) (hkm : k ≤ 0) (hnm : n9 ≤ 0) : ∀ n : Nat, ∀ (v_drafted : Int32) (v_draft : Nat → Int32) (l1 : Int32) (l2 : Int32) (l3 : Int32) (l4 : Int32) (l5 : Int32), L_X9_putWords_26 n v_drafted v_gap v_draft l1 l2 l3 l4 l5 K_83 Φ → (∀ (v_drafted_4 : Int32) (v_draft_5 : Nat → Int32) (l1_6 : Int32) (l2_7 : Int32) (l3_8 : Int32) (l4_9 : Int32), K_83 v_drafted_4 v_draft_5 l1_6 l2_7 l3_8 l4_9 → AW Γ k n9 83 [(0, .ref h0), (1, .int l1_6), (2, .int l2_7), (3, .int l3_8), (4, .int l4_9)] [] [(h0, oX9 d0 v_thrown v_taped v_at v_documents v_terms v_latest v_filed v_drafted_4 v_place v_over v_clock v_askedTerms v_segments v_done v_postingsDone v_postingsAll v_why v_hits), ((d0 27), aI cs 40 v_gap), ((d0 22), aI cs 16000 v_draft_5)]) → AW Γ k n9 26 [(0, .ref h0), (1, .int l1), (2, .int l2), (3, .int l3), (4, .int l4), (5, .int l5)] [] [(h0, oX9 d0 v_thrown v_taped v_at v_documents v_terms v_latest v_filed v_drafted v_place v_over v_clock v_askedTerms v_segments v_done v_postingsDone v_postingsAll v_why v_hits), ((d0 27), aI cs 40 v_gap), ((d0 22), aI cs 16000 v_draft)] := by
  intro n
  induction n with
  | zero =>
    intro v_drafted v_draft l1 l2 l3 l4 l5 h
    exact False.elim h
  | succ n ih =>
    intro v_drafted v_draft l1 l2 l3 l4 l5 h hK_83
    rw [L_X9_putWords_26] at h
    refine a_iload C (pc := 26) 5 dX9_putWords_26 rfl ?_
    refine a_bipush C (pc := 28) dX9_putWords_28 bp_60 ?_
    refine a_iload_n C (pc := 30) 3 dX9_putWords_30 rfl rfl ?_
    refine a_callS C (pc := 31) (av := [.int l3]) (wr := [(h0, oX9 d0 v_thrown v_taped v_at v_documents v_terms v_latest v_filed v_drafted v_place v_over v_clock v_askedTerms v_segments v_done v_postingsDone v_postingsAll v_why v_hits), ((d0 27), aI cs 40 v_gap), ((d0 22), aI cs 16000 v_draft)]) (m_X9_waySize Lx Dx cs l3 _ h) [] [0, 1, 2] rfl rfl (by decide) (by decide) (by decide) wM_X9_181 wb_X9_waySize hy_X9_waySize rfl ⟨Nat.le_of_ble_eq_true rfl, Nat.le_of_ble_eq_true rfl⟩ (Nat.le_of_ble_eq_true rfl) hkm hnm rfl dX9_putWords_31 (fun v w1 hw => ?_) [] rfl (fun _ _ h => h.elim)
    obtain ⟨r_1, rfl, rfl, h⟩ := hw
    refine a_ws (st1 := [.int r_1, .int 60, .int l5]) (ws1 := [(h0, oX9 d0 v_thrown v_taped v_at v_documents v_terms v_latest v_filed v_drafted v_place v_over v_clock v_askedTerms v_segments v_done v_postingsDone v_postingsAll v_why v_hits), ((d0 27), aI cs 40 v_gap), ((d0 22), aI cs 16000 v_draft)]) k n9 34 [0, 1, 2] rfl rfl rfl rfl (by decide) rfl ?_
    refine a_idiv C (pc := 34) dX9_putWords_34 h.1 ?_
    replace h := h.2
    refine a_icmp_ge C (pc := 35) 83 dX9_putWords_35 (by decide) (fun hc => ?_) (fun hc => ?_)
    · have h := h.1 hc
      refine a_lv (lv1 := [(0, .ref h0), (1, .int l1), (2, .int l2), (3, .int l3), (4, .int l4)]) [0, 1, 2, 3, 4] rfl ?_
      exact hK_83 v_drafted v_draft l1 l2 l3 l4 h
    · have h := h.2 hc
      refine a_iload_n C (pc := 38) 2 dX9_putWords_38 rfl rfl ?_
      refine a_iload C (pc := 39) 5 dX9_putWords_39 rfl ?_
      refine a_iadd C (pc := 41) dX9_putWords_41 ?_
      refine a_iload_n C (pc := 42) 1 dX9_putWords_42 rfl rfl ?_
      refine a_icmp_ge C (pc := 43) 83 dX9_putWords_43 (by decide) (fun hc => ?_) (fun hc => ?_)
      · have h := h.1 hc
        refine a_lv (lv1 := [(0, .ref h0), (1, .int l1), (2, .int l2), (3, .int l3), (4, .int l4)]) [0, 1, 2, 3, 4] rfl ?_
        exact hK_83 v_drafted v_draft l1 l2 l3 l4 h
      · have h := h.2 hc
        refine a_iload C (pc := 46) 4 dX9_putWords_46 rfl ?_
        refine a_if_eq C (pc := 48) 74 dX9_putWords_48 (by decide) (fun hc => ?_) (fun hc => ?_)
        · have h := h.1 hc
          refine a_iconst C (pc := 74) dX9_putWords_74 ic_0 ?_
          refine a_istore C (pc := 75) (lv1 := [(0, .ref h0), (1, .int l1), (2, .int l2), (3, .int l3), (4, .int 0), (5, .int l5)]) [1, 2, 3, 4, 0, 5] dX9_putWords_75 (by decide) rfl ?_
          refine a_iinc C (pc := 77) (lv1 := [(0, .ref h0), (1, .int l1), (2, .int l2), (3, .int l3), (4, .int 0), (5, .int (l5 + 1))]) 5 [1, 2, 3, 4, 5, 0] dX9_putWords_77 rfl (congrArg (fun z => l5 + z) ic_1) (by decide) rfl ?_
          refine a_goto C (pc := 80) 26 dX9_putWords_80 (by decide) ?_
          exact ih v_drafted v_draft l1 l2 l3 0 (l5 + 1) h hK_83
        · have h := h.2 hc
          refine a_aload_n C (pc := 51) 0 dX9_putWords_51 rfl rfl ?_
          refine a_get C (pc := 52) 0 27 inW_X9 rfl rfl (Nat.le_of_ble_eq_true rfl) wF_X9_62 rfl rfl dX9_putWords_52 ?_
          refine a_iload_n C (pc := 55) 2 dX9_putWords_55 rfl rfl ?_
          refine a_iload C (pc := 56) 5 dX9_putWords_56 rfl ?_
          refine a_iadd C (pc := 58) dX9_putWords_58 ?_
          refine a_iald C (pc := 59) 1 rfl h.1 dX9_putWords_59 ?_
          replace h := h.2
          refine a_callS C (pc := 60) (av := [.int (v_gap (l2 + l5 : Int32).toNatClampNeg)]) (wr := [(h0, oX9 d0 v_thrown v_taped v_at v_documents v_terms v_latest v_filed v_drafted v_place v_over v_clock v_askedTerms v_segments v_done v_postingsDone v_postingsAll v_why v_hits), ((d0 27), aI cs 40 v_gap), ((d0 22), aI cs 16000 v_draft)]) (m_X9_bitsOf Lx Dx cs (v_gap (l2 + l5 : Int32).toNatClampNeg) _ h) [] [0, 1, 2] rfl rfl (by decide) (by decide) (by decide) wM_X9_184 wb_X9_bitsOf hy_X9_bitsOf rfl ⟨Nat.le_of_ble_eq_true rfl, Nat.le_of_ble_eq_true rfl⟩ (Nat.le_of_ble_eq_true rfl) hkm hnm rfl dX9_putWords_60 (fun v w1 hw => ?_) [] rfl (fun _ _ h => h.elim)
          obtain ⟨r_2, rfl, rfl, h⟩ := hw
          refine a_ws (st1 := [.int r_2]) (ws1 := [(h0, oX9 d0 v_thrown v_taped v_at v_documents v_terms v_latest v_filed v_drafted v_place v_over v_clock v_askedTerms v_segments v_done v_postingsDone v_postingsAll v_why v_hits), ((d0 27), aI cs 40 v_gap), ((d0 22), aI cs 16000 v_draft)]) k n9 63 [0, 1, 2] rfl rfl rfl rfl (by decide) rfl ?_
          refine a_iload_n C (pc := 63) 3 dX9_putWords_63 rfl rfl ?_
          refine a_callS C (pc := 64) (av := [.int l3]) (wr := [(h0, oX9 d0 v_thrown v_taped v_at v_documents v_terms v_latest v_filed v_drafted v_place v_over v_clock v_askedTerms v_segments v_done v_postingsDone v_postingsAll v_why v_hits), ((d0 27), aI cs 40 v_gap), ((d0 22), aI cs 16000 v_draft)]) (m_X9_waySize Lx Dx cs l3 _ h) [] [0, 1, 2] rfl rfl (by decide) (by decide) (by decide) wM_X9_181 wb_X9_waySize hy_X9_waySize rfl ⟨Nat.le_of_ble_eq_true rfl, Nat.le_of_ble_eq_true rfl⟩ (Nat.le_of_ble_eq_true rfl) hkm hnm rfl dX9_putWords_64 (fun v w1 hw => ?_) [] rfl (fun _ _ h => h.elim)
          obtain ⟨r_3, rfl, rfl, h⟩ := hw
          refine a_ws (st1 := [.int r_3, .int r_2]) (ws1 := [(h0, oX9 d0 v_thrown v_taped v_at v_documents v_terms v_latest v_filed v_drafted v_place v_over v_clock v_askedTerms v_segments v_done v_postingsDone v_postingsAll v_why v_hits), ((d0 27), aI cs 40 v_gap), ((d0 22), aI cs 16000 v_draft)]) k n9 67 [0, 1, 2] rfl rfl rfl rfl (by decide) rfl ?_
          refine a_icmp_gt C (pc := 67) 74 dX9_putWords_67 (by decide) (fun hc => ?_) (fun hc => ?_)
          · have h := h.1 hc
            refine a_iconst C (pc := 74) dX9_putWords_74 ic_0 ?_
            refine a_istore C (pc := 75) (lv1 := [(0, .ref h0), (1, .int l1), (2, .int l2), (3, .int l3), (4, .int 0), (5, .int l5)]) [1, 2, 3, 4, 0, 5] dX9_putWords_75 (by decide) rfl ?_
            refine a_iinc C (pc := 77) (lv1 := [(0, .ref h0), (1, .int l1), (2, .int l2), (3, .int l3), (4, .int 0), (5, .int (l5 + 1))]) 5 [1, 2, 3, 4, 5, 0] dX9_putWords_77 rfl (congrArg (fun z => l5 + z) ic_1) (by decide) rfl ?_
            refine a_goto C (pc := 80) 26 dX9_putWords_80 (by decide) ?_
            exact ih v_drafted v_draft l1 l2 l3 0 (l5 + 1) h hK_83
          · have h := h.2 hc
            refine a_iconst C (pc := 70) dX9_putWords_70 ic_1 ?_
            refine a_goto C (pc := 71) 75 dX9_putWords_71 (by decide) ?_
            refine a_istore C (pc := 75) (lv1 := [(0, .ref h0), (1, .int l1), (2, .int l2), (3, .int l3), (4, .int 1), (5, .int l5)]) [1, 2, 3, 4, 0, 5] dX9_putWords_75 (by decide) rfl ?_
            refine a_iinc C (pc := 77) (lv1 := [(0, .ref h0), (1, .int l1), (2, .int l2), (3, .int l3), (4, .int 1), (5, .int (l5 + 1))]) 5 [1, 2, 3, 4, 5, 0] dX9_putWords_77 rfl (congrArg (fun z => l5 + z) ic_1) (by decide) rfl ?_
            refine a_goto C (pc := 80) 26 dX9_putWords_80 (by decide) ?_
            exact ih v_drafted v_draft l1 l2 l3 1 (l5 + 1) h hK_83
set_option maxRecDepth 100000 in
set_option maxHeartbeats 4000000 in
theorem w_X9_putWords_12 {Γ : XG} {Lx : Launch} {Dx : va_G} {cs : Nat → ClassId} {h0 : Nat} {d0 : Nat → Nat} {v_thrown : Int32} {v_taped : Int32} {v_at : Int32} {v_documents : Int32} {v_terms : Int32} {v_latest : Int32} {v_filed : Int32} {v_place : Int32} {v_over : Int32} {v_clock : Int64} {v_askedTerms : Int32} {v_segments : Int32} {v_done : Int32} {v_postingsDone : Int32} {v_postingsAll : Int32} {v_why : Int32} {v_hits : Int32} {v_gap : Nat → Int32} {K_86 : Int32 → (Nat → Int32) → Int32 → Int32 → Int32 → Prop} {Φ : Int32 → (Nat → Int32) → Prop} {k n9 : Nat} (C : CX Γ Lx Dx cs cX9_putWords RX9 "putWords" 8 none 1 21 0 0 (qEC cs 0 0 [] (R_X9_putWords cs h0 d0 v_thrown v_taped v_at v_documents v_terms v_latest v_filed v_place v_over v_clock v_askedTerms v_segments v_done v_postingsDone v_postingsAll v_why v_hits v_gap Φ) (fun _ _ => False))) (hkm : k ≤ 0) (hnm : n9 ≤ 0) : ∀ n : Nat, ∀ (v_drafted : Int32) (v_draft : Nat → Int32) (l1 : Int32) (l2 : Int32) (l3 : Int32) (l4 : Int32), L_X9_putWords_12 n v_drafted v_gap v_draft l1 l2 l3 l4 K_86 Φ → (∀ (v_drafted_16 : Int32) (v_draft_17 : Nat → Int32) (l1_18 : Int32) (l2_19 : Int32) (l3_20 : Int32), K_86 v_drafted_16 v_draft_17 l1_18 l2_19 l3_20 → AW Γ k n9 86 [(0, .ref h0), (1, .int l1_18), (2, .int l2_19), (3, .int l3_20)] [] [(h0, oX9 d0 v_thrown v_taped v_at v_documents v_terms v_latest v_filed v_drafted_16 v_place v_over v_clock v_askedTerms v_segments v_done v_postingsDone v_postingsAll v_why v_hits), ((d0 27), aI cs 40 v_gap), ((d0 22), aI cs 16000 v_draft_17)]) → AW Γ k n9 12 [(0, .ref h0), (1, .int l1), (2, .int l2), (3, .int l3), (4, .int l4)] [] [(h0, oX9 d0 v_thrown v_taped v_at v_documents v_terms v_latest v_filed v_drafted v_place v_over v_clock v_askedTerms v_segments v_done v_postingsDone v_postingsAll v_why v_hits), ((d0 27), aI cs 40 v_gap), ((d0 22), aI cs 16000 v_draft)] := by
  intro n
  induction n with
  | zero =>
    intro v_drafted v_draft l1 l2 l3 l4 h
    exact False.elim h
  | succ n ih =>
    intro v_drafted v_draft l1 l2 l3 l4 h hK_86
    rw [L_X9_putWords_12] at h
    refine a_iload C (pc := 12) 4 dX9_putWords_12 rfl ?_
    refine a_if_ne C (pc := 14) 86 dX9_putWords_14 (by decide) (fun hc => ?_) (fun hc => ?_)
    · have h := h.1 hc
      refine a_lv (lv1 := [(0, .ref h0), (1, .int l1), (2, .int l2), (3, .int l3)]) [0, 1, 2, 3] rfl ?_
      exact hK_86 v_drafted v_draft l1 l2 l3 h
    · have h := h.2 hc
      refine a_iinc C (pc := 17) (lv1 := [(0, .ref h0), (1, .int l1), (2, .int l2), (3, .int (l3 + 1)), (4, .int l4)]) 3 [1, 2, 3, 0, 4] dX9_putWords_17 rfl (congrArg (fun z => l3 + z) ic_1) (by decide) rfl ?_
      refine a_iconst C (pc := 20) dX9_putWords_20 ic_1 ?_
      refine a_istore C (pc := 21) (lv1 := [(0, .ref h0), (1, .int l1), (2, .int l2), (3, .int (l3 + 1)), (4, .int 1)]) [1, 2, 3, 4, 0] dX9_putWords_21 (by decide) rfl ?_
      refine a_iconst C (pc := 23) dX9_putWords_23 ic_0 ?_
      refine a_istore C (pc := 24) (lv1 := [(0, .ref h0), (1, .int l1), (2, .int l2), (3, .int (l3 + 1)), (4, .int 1), (5, .int 0)]) [1, 2, 3, 4, 5, 0] dX9_putWords_24 (by decide) rfl ?_
      obtain ⟨n0, h⟩ := h
      refine w_X9_putWords_26 C hkm hnm n0 v_drafted v_draft l1 l2 (l3 + 1) 1 0 h ?_
      intro v_drafted_10 v_draft_11 l1_12 l2_13 l3_14 l4_15 h
      refine a_goto C (pc := 83) 12 dX9_putWords_83 (by decide) ?_
      exact ih v_drafted_10 v_draft_11 l1_12 l2_13 l3_14 l4_15 h hK_86
set_option maxRecDepth 100000 in
set_option maxHeartbeats 4000000 in
theorem w_X9_putWords_93 {Γ : XG} {Lx : Launch} {Dx : va_G} {cs : Nat → ClassId} {h0 : Nat} {d0 : Nat → Nat} {v_thrown : Int32} {v_taped : Int32} {v_at : Int32} {v_documents : Int32} {v_terms : Int32} {v_latest : Int32} {v_filed : Int32} {v_place : Int32} {v_over : Int32} {v_clock : Int64} {v_askedTerms : Int32} {v_segments : Int32} {v_done : Int32} {v_postingsDone : Int32} {v_postingsAll : Int32} {v_why : Int32} {v_hits : Int32} {v_gap : Nat → Int32} {K_144 : Int32 → (Nat → Int32) → Int32 → Int32 → Int32 → Int64 → Prop} {Φ : Int32 → (Nat → Int32) → Prop} {k n9 : Nat} (C : CX Γ Lx Dx cs cX9_putWords RX9 "putWords" 8 none 1 21 0 0 (qEC cs 0 0 [] (R_X9_putWords cs h0 d0 v_thrown v_taped v_at v_documents v_terms v_latest v_filed v_place v_over v_clock v_askedTerms v_segments v_done v_postingsDone v_postingsAll v_why v_hits v_gap Φ) (fun _ _ => False))) (hkm : k ≤ 0) (hnm : n9 ≤ 0) : ∀ n : Nat, ∀ (v_drafted : Int32) (v_draft : Nat → Int32) (l1 : Int32) (l2 : Int32) (l3 : Int32) (l5 : Int64) (l7 : Int32), L_X9_putWords_93 n v_drafted v_gap v_draft l1 l2 l3 l5 l7 K_144 Φ → (∀ (v_drafted_28 : Int32) (v_draft_29 : Nat → Int32) (l1_30 : Int32) (l2_31 : Int32) (l3_32 : Int32) (l5_33 : Int64), K_144 v_drafted_28 v_draft_29 l1_30 l2_31 l3_32 l5_33 → AW Γ k n9 144 [(0, .ref h0), (1, .int l1_30), (2, .int l2_31), (3, .int l3_32), (5, .long l5_33)] [] [(h0, oX9 d0 v_thrown v_taped v_at v_documents v_terms v_latest v_filed v_drafted_28 v_place v_over v_clock v_askedTerms v_segments v_done v_postingsDone v_postingsAll v_why v_hits), ((d0 27), aI cs 40 v_gap), ((d0 22), aI cs 16000 v_draft_29)]) → AW Γ k n9 93 [(0, .ref h0), (1, .int l1), (2, .int l2), (3, .int l3), (5, .long l5), (7, .int l7)] [] [(h0, oX9 d0 v_thrown v_taped v_at v_documents v_terms v_latest v_filed v_drafted v_place v_over v_clock v_askedTerms v_segments v_done v_postingsDone v_postingsAll v_why v_hits), ((d0 27), aI cs 40 v_gap), ((d0 22), aI cs 16000 v_draft)] := by
  intro n
  induction n with
  | zero =>
    intro v_drafted v_draft l1 l2 l3 l5 l7 h
    exact False.elim h
  | succ n ih =>
    intro v_drafted v_draft l1 l2 l3 l5 l7 h hK_144
    rw [L_X9_putWords_93] at h
    refine a_iload C (pc := 93) 5 dX9_putWords_93 rfl ?_
    refine a_bipush C (pc := 95) dX9_putWords_95 bp_60 ?_
    refine a_iload_n C (pc := 97) 3 dX9_putWords_97 rfl rfl ?_
    refine a_callS C (pc := 98) (av := [.int l3]) (wr := [(h0, oX9 d0 v_thrown v_taped v_at v_documents v_terms v_latest v_filed v_drafted v_place v_over v_clock v_askedTerms v_segments v_done v_postingsDone v_postingsAll v_why v_hits), ((d0 27), aI cs 40 v_gap), ((d0 22), aI cs 16000 v_draft)]) (m_X9_waySize Lx Dx cs l3 _ h) [] [0, 1, 2] rfl rfl (by decide) (by decide) (by decide) wM_X9_181 wb_X9_waySize hy_X9_waySize rfl ⟨Nat.le_of_ble_eq_true rfl, Nat.le_of_ble_eq_true rfl⟩ (Nat.le_of_ble_eq_true rfl) hkm hnm rfl dX9_putWords_98 (fun v w1 hw => ?_) [] rfl (fun _ _ h => h.elim)
    obtain ⟨r_26, rfl, rfl, h⟩ := hw
    refine a_ws (st1 := [.int r_26, .int 60, .int l7]) (ws1 := [(h0, oX9 d0 v_thrown v_taped v_at v_documents v_terms v_latest v_filed v_drafted v_place v_over v_clock v_askedTerms v_segments v_done v_postingsDone v_postingsAll v_why v_hits), ((d0 27), aI cs 40 v_gap), ((d0 22), aI cs 16000 v_draft)]) k n9 101 [0, 1, 2] rfl rfl rfl rfl (by decide) rfl ?_
    refine a_idiv C (pc := 101) dX9_putWords_101 h.1 ?_
    replace h := h.2
    refine a_icmp_ge C (pc := 102) 144 dX9_putWords_102 (by decide) (fun hc => ?_) (fun hc => ?_)
    · have h := h.1 hc
      refine a_lv (lv1 := [(0, .ref h0), (1, .int l1), (2, .int l2), (3, .int l3), (5, .long l5)]) [0, 1, 2, 3, 4] rfl ?_
      exact hK_144 v_drafted v_draft l1 l2 l3 l5 h
    · have h := h.2 hc
      refine a_iload_n C (pc := 105) 2 dX9_putWords_105 rfl rfl ?_
      refine a_iload C (pc := 106) 5 dX9_putWords_106 rfl ?_
      refine a_iadd C (pc := 108) dX9_putWords_108 ?_
      refine a_iload_n C (pc := 109) 1 dX9_putWords_109 rfl rfl ?_
      refine a_icmp_ge C (pc := 110) 144 dX9_putWords_110 (by decide) (fun hc => ?_) (fun hc => ?_)
      · have h := h.1 hc
        refine a_lv (lv1 := [(0, .ref h0), (1, .int l1), (2, .int l2), (3, .int l3), (5, .long l5)]) [0, 1, 2, 3, 4] rfl ?_
        exact hK_144 v_drafted v_draft l1 l2 l3 l5 h
      · have h := h.2 hc
        refine a_lload C (pc := 113) 4 dX9_putWords_113 rfl ?_
        refine a_aload_n C (pc := 115) 0 dX9_putWords_115 rfl rfl ?_
        refine a_get C (pc := 116) 0 27 inW_X9 rfl rfl (Nat.le_of_ble_eq_true rfl) wF_X9_62 rfl rfl dX9_putWords_116 ?_
        refine a_iload_n C (pc := 119) 2 dX9_putWords_119 rfl rfl ?_
        refine a_iload C (pc := 120) 5 dX9_putWords_120 rfl ?_
        refine a_iadd C (pc := 122) dX9_putWords_122 ?_
        refine a_iald C (pc := 123) 1 rfl h.1 dX9_putWords_123 ?_
        replace h := h.2
        refine a_i2l C (pc := 124) dX9_putWords_124 ?_
        refine a_iconst C (pc := 125) dX9_putWords_125 ic_4 ?_
        refine a_iload_n C (pc := 126) 3 dX9_putWords_126 rfl rfl ?_
        refine a_callS C (pc := 127) (av := [.int l3]) (wr := [(h0, oX9 d0 v_thrown v_taped v_at v_documents v_terms v_latest v_filed v_drafted v_place v_over v_clock v_askedTerms v_segments v_done v_postingsDone v_postingsAll v_why v_hits), ((d0 27), aI cs 40 v_gap), ((d0 22), aI cs 16000 v_draft)]) (m_X9_waySize Lx Dx cs l3 _ h) [] [0, 1, 2] rfl rfl (by decide) (by decide) (by decide) wM_X9_181 wb_X9_waySize hy_X9_waySize rfl ⟨Nat.le_of_ble_eq_true rfl, Nat.le_of_ble_eq_true rfl⟩ (Nat.le_of_ble_eq_true rfl) hkm hnm rfl dX9_putWords_127 (fun v w1 hw => ?_) [] rfl (fun _ _ h => h.elim)
        obtain ⟨r_27, rfl, rfl, h⟩ := hw
        refine a_ws (st1 := [.int r_27, .int 4, .long (((v_gap (l2 + l7 : Int32).toNatClampNeg) : Int32).toInt64), .long l5]) (ws1 := [(h0, oX9 d0 v_thrown v_taped v_at v_documents v_terms v_latest v_filed v_drafted v_place v_over v_clock v_askedTerms v_segments v_done v_postingsDone v_postingsAll v_why v_hits), ((d0 27), aI cs 40 v_gap), ((d0 22), aI cs 16000 v_draft)]) k n9 130 [0, 1, 2] rfl rfl rfl rfl (by decide) rfl ?_
        refine a_iload C (pc := 130) 5 dX9_putWords_130 rfl ?_
        refine a_imul C (pc := 132) dX9_putWords_132 ?_
        refine a_iadd C (pc := 133) dX9_putWords_133 ?_
        refine a_lshl C (pc := 134) dX9_putWords_134 ?_
        refine a_lor C (pc := 135) dX9_putWords_135 ?_
        refine a_lstore C (pc := 136) (lv1 := [(0, .ref h0), (1, .int l1), (2, .int l2), (3, .int l3), (5, .long (l5 ||| ((((v_gap (l2 + l7 : Int32).toNatClampNeg) : Int32).toInt64) <<< ((4 + (r_27 * l7)).toInt64 &&& 63)))), (7, .int l7)]) [1, 2, 3, 4, 0, 5] dX9_putWords_136 (by decide) rfl ?_
        refine a_iinc C (pc := 138) (lv1 := [(0, .ref h0), (1, .int l1), (2, .int l2), (3, .int l3), (5, .long (l5 ||| ((((v_gap (l2 + l7 : Int32).toNatClampNeg) : Int32).toInt64) <<< ((4 + (r_27 * l7)).toInt64 &&& 63)))), (7, .int (l7 + 1))]) 5 [1, 2, 3, 4, 5, 0] dX9_putWords_138 rfl (congrArg (fun z => l7 + z) ic_1) (by decide) rfl ?_
        refine a_goto C (pc := 141) 93 dX9_putWords_141 (by decide) ?_
        exact ih v_drafted v_draft l1 l2 l3 (l5 ||| ((((v_gap (l2 + l7 : Int32).toNatClampNeg) : Int32).toInt64) <<< ((4 + (r_27 * l7)).toInt64 &&& 63))) (l7 + 1) h hK_144
set_option maxRecDepth 100000 in
set_option maxHeartbeats 4000000 in
theorem w_X9_putWords_147 {Γ : XG} {Lx : Launch} {Dx : va_G} {cs : Nat → ClassId} {h0 : Nat} {d0 : Nat → Nat} {v_thrown : Int32} {v_taped : Int32} {v_at : Int32} {v_documents : Int32} {v_terms : Int32} {v_latest : Int32} {v_filed : Int32} {v_place : Int32} {v_over : Int32} {v_clock : Int64} {v_askedTerms : Int32} {v_segments : Int32} {v_done : Int32} {v_postingsDone : Int32} {v_postingsAll : Int32} {v_why : Int32} {v_hits : Int32} {v_gap : Nat → Int32} {K_177 : Int32 → (Nat → Int32) → Int32 → Int32 → Int32 → Prop} {Φ : Int32 → (Nat → Int32) → Prop} {k n9 : Nat} (C : CX Γ Lx Dx cs cX9_putWords RX9 "putWords" 8 none 1 21 0 0 (qEC cs 0 0 [] (R_X9_putWords cs h0 d0 v_thrown v_taped v_at v_documents v_terms v_latest v_filed v_place v_over v_clock v_askedTerms v_segments v_done v_postingsDone v_postingsAll v_why v_hits v_gap Φ) (fun _ _ => False))) (hkm : k ≤ 0) (hnm : n9 ≤ 0) : ∀ n : Nat, ∀ (v_drafted : Int32) (v_draft : Nat → Int32) (l1 : Int32) (l2 : Int32) (l3 : Int32) (l5 : Int64) (l7 : Int32), L_X9_putWords_147 n v_drafted v_gap v_draft l1 l2 l3 l5 l7 K_177 Φ → (∀ (v_drafted_42 : Int32) (v_draft_43 : Nat → Int32) (l1_44 : Int32) (l2_45 : Int32) (l3_46 : Int32), K_177 v_drafted_42 v_draft_43 l1_44 l2_45 l3_46 → AW Γ k n9 177 [(0, .ref h0), (1, .int l1_44), (2, .int l2_45), (3, .int l3_46)] [] [(h0, oX9 d0 v_thrown v_taped v_at v_documents v_terms v_latest v_filed v_drafted_42 v_place v_over v_clock v_askedTerms v_segments v_done v_postingsDone v_postingsAll v_why v_hits), ((d0 27), aI cs 40 v_gap), ((d0 22), aI cs 16000 v_draft_43)]) → AW Γ k n9 147 [(0, .ref h0), (1, .int l1), (2, .int l2), (3, .int l3), (5, .long l5), (7, .int l7)] [] [(h0, oX9 d0 v_thrown v_taped v_at v_documents v_terms v_latest v_filed v_drafted v_place v_over v_clock v_askedTerms v_segments v_done v_postingsDone v_postingsAll v_why v_hits), ((d0 27), aI cs 40 v_gap), ((d0 22), aI cs 16000 v_draft)] := by
  intro n
  induction n with
  | zero =>
    intro v_drafted v_draft l1 l2 l3 l5 l7 h
    exact False.elim h
  | succ n ih =>
    intro v_drafted v_draft l1 l2 l3 l5 l7 h hK_177
    rw [L_X9_putWords_147] at h
    refine a_iload C (pc := 147) 5 dX9_putWords_147 rfl ?_
    refine a_bipush C (pc := 149) dX9_putWords_149 bp_8 ?_
    refine a_icmp_ge C (pc := 151) 177 dX9_putWords_151 (by decide) (fun hc => ?_) (fun hc => ?_)
    · have h := h.1 hc
      refine a_lv (lv1 := [(0, .ref h0), (1, .int l1), (2, .int l2), (3, .int l3)]) [0, 1, 2, 3] rfl ?_
      exact hK_177 v_drafted v_draft l1 l2 l3 h
    · have h := h.2 hc
      refine a_aload_n C (pc := 154) 0 dX9_putWords_154 rfl rfl ?_
      refine a_lload C (pc := 155) 4 dX9_putWords_155 rfl ?_
      refine a_bipush C (pc := 157) dX9_putWords_157 bp_8 ?_
      refine a_iload C (pc := 159) 5 dX9_putWords_159 rfl ?_
      refine a_imul C (pc := 161) dX9_putWords_161 ?_
      refine a_lshr C (pc := 162) dX9_putWords_162 ?_
      refine a_ldc2 C (pc := 163) wC_X9_100 dX9_putWords_163 ?_
      refine a_land C (pc := 166) dX9_putWords_166 ?_
      refine a_l2i C (pc := 167) dX9_putWords_167 ?_
      refine a_callV C (pc := 168) (av := [.int ((((l5 >>> ((8 * l7).toInt64 &&& 63)) &&& 255) : Int64).toInt32)]) (wr := [((d0 27), aI cs 40 v_gap)]) (m_X9_put Lx Dx cs h0 d0 v_thrown v_taped v_at v_documents v_terms v_latest v_filed v_drafted v_place v_over v_clock v_askedTerms v_segments v_done v_postingsDone v_postingsAll v_why v_hits v_draft ((((l5 >>> ((8 * l7).toInt64 &&& 63)) &&& 255) : Int64).toInt32) _ h) [0, 2] [1] rfl rfl (by decide) (by decide) (by decide) wM_X9_171 wb_X9_put hy_X9_put (q0 := 0) rfl rfl rfl ⟨Nat.le_of_ble_eq_true rfl, Nat.le_of_ble_eq_true rfl⟩ (Nat.le_of_ble_eq_true rfl) hkm hnm rfl dX9_putWords_168 (fun v w1 hw => ?_) [] rfl (fun _ _ h => h.elim)
      obtain ⟨v_drafted_40, v_draft_41, rfl, rfl, h⟩ := hw
      refine a_ws (st1 := []) (ws1 := [(h0, oX9 d0 v_thrown v_taped v_at v_documents v_terms v_latest v_filed v_drafted_40 v_place v_over v_clock v_askedTerms v_segments v_done v_postingsDone v_postingsAll v_why v_hits), ((d0 27), aI cs 40 v_gap), ((d0 22), aI cs 16000 v_draft_41)]) k n9 171 [1, 0, 2] rfl rfl rfl rfl (by decide) rfl ?_
      refine a_iinc C (pc := 171) (lv1 := [(0, .ref h0), (1, .int l1), (2, .int l2), (3, .int l3), (5, .long l5), (7, .int (l7 + 1))]) 5 [1, 2, 3, 4, 5, 0] dX9_putWords_171 rfl (congrArg (fun z => l7 + z) ic_1) (by decide) rfl ?_
      refine a_goto C (pc := 174) 147 dX9_putWords_174 (by decide) ?_
      exact ih v_drafted_40 v_draft_41 l1 l2 l3 l5 (l7 + 1) h hK_177
set_option maxRecDepth 100000 in
set_option maxHeartbeats 4000000 in
theorem w_X9_putWords_2 {Γ : XG} {Lx : Launch} {Dx : va_G} {cs : Nat → ClassId} {h0 : Nat} {d0 : Nat → Nat} {v_thrown : Int32} {v_taped : Int32} {v_at : Int32} {v_documents : Int32} {v_terms : Int32} {v_latest : Int32} {v_filed : Int32} {v_place : Int32} {v_over : Int32} {v_clock : Int64} {v_askedTerms : Int32} {v_segments : Int32} {v_done : Int32} {v_postingsDone : Int32} {v_postingsAll : Int32} {v_why : Int32} {v_hits : Int32} {v_gap : Nat → Int32} {K_190 : Int32 → (Nat → Int32) → Prop} {Φ : Int32 → (Nat → Int32) → Prop} {k n9 : Nat} (C : CX Γ Lx Dx cs cX9_putWords RX9 "putWords" 8 none 1 21 0 0 (qEC cs 0 0 [] (R_X9_putWords cs h0 d0 v_thrown v_taped v_at v_documents v_terms v_latest v_filed v_place v_over v_clock v_askedTerms v_segments v_done v_postingsDone v_postingsAll v_why v_hits v_gap Φ) (fun _ _ => False))) (hkm : k ≤ 0) (hnm : n9 ≤ 0) : ∀ n : Nat, ∀ (v_drafted : Int32) (v_draft : Nat → Int32) (l1 : Int32) (l2 : Int32), L_X9_putWords_2 n v_drafted v_gap v_draft l1 l2 K_190 Φ → (∀ (v_drafted_53 : Int32) (v_draft_54 : Nat → Int32), K_190 v_drafted_53 v_draft_54 → AW Γ k n9 190 [] [] [(h0, oX9 d0 v_thrown v_taped v_at v_documents v_terms v_latest v_filed v_drafted_53 v_place v_over v_clock v_askedTerms v_segments v_done v_postingsDone v_postingsAll v_why v_hits), ((d0 27), aI cs 40 v_gap), ((d0 22), aI cs 16000 v_draft_54)]) → AW Γ k n9 2 [(0, .ref h0), (1, .int l1), (2, .int l2)] [] [(h0, oX9 d0 v_thrown v_taped v_at v_documents v_terms v_latest v_filed v_drafted v_place v_over v_clock v_askedTerms v_segments v_done v_postingsDone v_postingsAll v_why v_hits), ((d0 27), aI cs 40 v_gap), ((d0 22), aI cs 16000 v_draft)] := by
  intro n
  induction n with
  | zero =>
    intro v_drafted v_draft l1 l2 h
    exact False.elim h
  | succ n ih =>
    intro v_drafted v_draft l1 l2 h hK_190
    rw [L_X9_putWords_2] at h
    refine a_iload_n C (pc := 2) 2 dX9_putWords_2 rfl rfl ?_
    refine a_iload_n C (pc := 3) 1 dX9_putWords_3 rfl rfl ?_
    refine a_icmp_ge C (pc := 4) 190 dX9_putWords_4 (by decide) (fun hc => ?_) (fun hc => ?_)
    · have h := h.1 hc
      refine a_lv (lv1 := []) [] rfl ?_
      exact hK_190 v_drafted v_draft h
    · have h := h.2 hc
      refine a_iconst C (pc := 7) dX9_putWords_7 ic_m1 ?_
      refine a_istore_n C (pc := 8) (lv1 := [(0, .ref h0), (1, .int l1), (2, .int l2), (3, .int (-1))]) [1, 2, 3, 0] dX9_putWords_8 rfl (by decide) rfl ?_
      refine a_iconst C (pc := 9) dX9_putWords_9 ic_0 ?_
      refine a_istore C (pc := 10) (lv1 := [(0, .ref h0), (1, .int l1), (2, .int l2), (3, .int (-1)), (4, .int 0)]) [1, 2, 3, 4, 0] dX9_putWords_10 (by decide) rfl ?_
      obtain ⟨n0, h⟩ := h
      refine w_X9_putWords_12 C hkm hnm n0 v_drafted v_draft l1 l2 (-1) 0 h ?_
      intro v_drafted_21 v_draft_22 l1_23 l2_24 l3_25 h
      refine a_iload_n C (pc := 86) 3 dX9_putWords_86 rfl rfl ?_
      refine a_i2l C (pc := 87) dX9_putWords_87 ?_
      refine a_lstore C (pc := 88) (lv1 := [(0, .ref h0), (1, .int l1_23), (2, .int l2_24), (3, .int l3_25), (5, .long ((l3_25 : Int32).toInt64))]) [1, 2, 3, 4, 0] dX9_putWords_88 (by decide) rfl ?_
      refine a_iconst C (pc := 90) dX9_putWords_90 ic_0 ?_
      refine a_istore C (pc := 91) (lv1 := [(0, .ref h0), (1, .int l1_23), (2, .int l2_24), (3, .int l3_25), (5, .long ((l3_25 : Int32).toInt64)), (7, .int 0)]) [1, 2, 3, 4, 5, 0] dX9_putWords_91 (by decide) rfl ?_
      obtain ⟨n0, h⟩ := h
      refine w_X9_putWords_93 C hkm hnm n0 v_drafted_21 v_draft_22 l1_23 l2_24 l3_25 ((l3_25 : Int32).toInt64) 0 h ?_
      intro v_drafted_34 v_draft_35 l1_36 l2_37 l3_38 l5_39 h
      refine a_iconst C (pc := 144) dX9_putWords_144 ic_0 ?_
      refine a_istore C (pc := 145) (lv1 := [(0, .ref h0), (1, .int l1_36), (2, .int l2_37), (3, .int l3_38), (5, .long l5_39), (7, .int 0)]) [1, 2, 3, 4, 5, 0] dX9_putWords_145 (by decide) rfl ?_
      obtain ⟨n0, h⟩ := h
      refine w_X9_putWords_147 C hkm hnm n0 v_drafted_34 v_draft_35 l1_36 l2_37 l3_38 l5_39 0 h ?_
      intro v_drafted_47 v_draft_48 l1_49 l2_50 l3_51 h
      refine a_iload_n C (pc := 177) 2 dX9_putWords_177 rfl rfl ?_
      refine a_bipush C (pc := 178) dX9_putWords_178 bp_60 ?_
      refine a_iload_n C (pc := 180) 3 dX9_putWords_180 rfl rfl ?_
      refine a_callS C (pc := 181) (av := [.int l3_51]) (wr := [(h0, oX9 d0 v_thrown v_taped v_at v_documents v_terms v_latest v_filed v_drafted_47 v_place v_over v_clock v_askedTerms v_segments v_done v_postingsDone v_postingsAll v_why v_hits), ((d0 27), aI cs 40 v_gap), ((d0 22), aI cs 16000 v_draft_48)]) (m_X9_waySize Lx Dx cs l3_51 _ h) [] [0, 1, 2] rfl rfl (by decide) (by decide) (by decide) wM_X9_181 wb_X9_waySize hy_X9_waySize rfl ⟨Nat.le_of_ble_eq_true rfl, Nat.le_of_ble_eq_true rfl⟩ (Nat.le_of_ble_eq_true rfl) hkm hnm rfl dX9_putWords_181 (fun v w1 hw => ?_) [] rfl (fun _ _ h => h.elim)
      obtain ⟨r_52, rfl, rfl, h⟩ := hw
      refine a_ws (st1 := [.int r_52, .int 60, .int l2_50]) (ws1 := [(h0, oX9 d0 v_thrown v_taped v_at v_documents v_terms v_latest v_filed v_drafted_47 v_place v_over v_clock v_askedTerms v_segments v_done v_postingsDone v_postingsAll v_why v_hits), ((d0 27), aI cs 40 v_gap), ((d0 22), aI cs 16000 v_draft_48)]) k n9 184 [0, 1, 2] rfl rfl rfl rfl (by decide) rfl ?_
      refine a_idiv C (pc := 184) dX9_putWords_184 h.1 ?_
      replace h := h.2
      refine a_iadd C (pc := 185) dX9_putWords_185 ?_
      refine a_istore_n C (pc := 186) (lv1 := [(0, .ref h0), (1, .int l1_49), (2, .int (l2_50 + (60 / r_52))), (3, .int l3_51)]) [1, 2, 0, 3] dX9_putWords_186 rfl (by decide) rfl ?_
      refine a_goto C (pc := 187) 2 dX9_putWords_187 (by decide) ?_
      refine a_lv (lv1 := [(0, .ref h0), (1, .int l1_49), (2, .int (l2_50 + (60 / r_52)))]) [0, 1, 2] rfl ?_
      exact ih v_drafted_47 v_draft_48 l1_49 (l2_50 + (60 / r_52)) h hK_190
set_option maxRecDepth 100000 in
set_option maxHeartbeats 4000000 in
theorem m_X9_putWords (Lx : Launch) (Dx : va_G) (cs : Nat → ClassId) (h0 : Nat) (d0 : Nat → Nat) (v_thrown : Int32) (v_taped : Int32) (v_at : Int32) (v_documents : Int32) (v_terms : Int32) (v_latest : Int32) (v_filed : Int32) (v_drafted : Int32) (v_place : Int32) (v_over : Int32) (v_clock : Int64) (v_askedTerms : Int32) (v_segments : Int32) (v_done : Int32) (v_postingsDone : Int32) (v_postingsAll : Int32) (v_why : Int32) (v_hits : Int32) (v_gap : Nat → Int32) (v_draft : Nat → Int32) (l1 : Int32) (Φ : Int32 → (Nat → Int32) → Prop) (h : P_X9_putWords v_drafted v_gap v_draft l1 Φ) : XMet Lx Dx cs yX9_putWords cX9_putWords 8 none 1 21 0 0 [.ref h0, .int l1] [(h0, oX9 d0 v_thrown v_taped v_at v_documents v_terms v_latest v_filed v_drafted v_place v_over v_clock v_askedTerms v_segments v_done v_postingsDone v_postingsAll v_why v_hits), ((d0 27), aI cs 40 v_gap), ((d0 22), aI cs 16000 v_draft)] (R_X9_putWords cs h0 d0 v_thrown v_taped v_at v_documents v_terms v_latest v_filed v_place v_over v_clock v_askedTerms v_segments v_done v_postingsDone v_postingsAll v_why v_hits v_gap Φ) (fun _ _ => False) := by
  refine XMet.of (own := RX9) (nm := "putWords") (by decide) rfl rfl (Nat.le_of_ble_eq_true rfl) (fun Γ C => ?_)
  unfold P_X9_putWords at h
  refine a_iconst C (pc := 0) dX9_putWords_0 ic_0 ?_
  refine a_istore_n C (pc := 1) (lv1 := [(0, .ref h0), (1, .int l1), (2, .int 0)]) [1, 2, 0] dX9_putWords_1 rfl (by decide) rfl ?_
  obtain ⟨n0, h⟩ := h
  refine w_X9_putWords_2 C (Nat.le_of_ble_eq_true rfl) (Nat.le_of_ble_eq_true rfl) n0 v_drafted v_draft l1 0 h ?_
  intro v_drafted_55 v_draft_56 h
  exact a_return C (pc := 190) rfl dX9_putWords_190 (Nat.le_of_ble_eq_true rfl) (Nat.le_of_ble_eq_true rfl) ⟨_, _, rfl, rfl, h⟩
set_option maxRecDepth 100000 in
set_option maxHeartbeats 4000000 in
theorem w_X9_putBits_4 {Γ : XG} {Lx : Launch} {Dx : va_G} {cs : Nat → ClassId} {h0 : Nat} {d0 : Nat → Nat} {v_thrown : Int32} {v_taped : Int32} {v_at : Int32} {v_documents : Int32} {v_terms : Int32} {v_latest : Int32} {v_filed : Int32} {v_place : Int32} {v_over : Int32} {v_clock : Int64} {v_askedTerms : Int32} {v_segments : Int32} {v_done : Int32} {v_postingsDone : Int32} {v_postingsAll : Int32} {v_why : Int32} {v_hits : Int32} {v_gap : Nat → Int32} {K_42 : Int32 → (Nat → Int32) → Int32 → Int32 → Prop} {Φ : Int32 → (Nat → Int32) → Prop} {k n9 : Nat} (C : CX Γ Lx Dx cs cX9_putBits RX9 "putBits" 6 none 1 21 0 0 (qEC cs 0 0 [] (R_X9_putBits cs h0 d0 v_thrown v_taped v_at v_documents v_terms v_latest v_filed v_place v_over v_clock v_askedTerms v_segments v_done v_postingsDone v_postingsAll v_why v_hits v_gap Φ) (fun _ _ => False))) (hkm : k ≤ 0) (hnm : n9 ≤ 0) : ∀ n : Nat, ∀ (v_drafted : Int32) (v_draft : Nat → Int32) (l1 : Int32) (l2 : Int32) (l3 : Int32), L_X9_putBits_4 n v_drafted v_gap v_draft l1 l2 l3 K_42 Φ → (∀ (v_drafted_3 : Int32) (v_draft_4 : Nat → Int32) (l1_5 : Int32) (l2_6 : Int32), K_42 v_drafted_3 v_draft_4 l1_5 l2_6 → AW Γ k n9 42 [(0, .ref h0), (1, .int l1_5), (2, .int l2_6)] [] [(h0, oX9 d0 v_thrown v_taped v_at v_documents v_terms v_latest v_filed v_drafted_3 v_place v_over v_clock v_askedTerms v_segments v_done v_postingsDone v_postingsAll v_why v_hits), ((d0 27), aI cs 40 v_gap), ((d0 22), aI cs 16000 v_draft_4)]) → AW Γ k n9 4 [(0, .ref h0), (1, .int l1), (2, .int l2), (3, .int l3)] [] [(h0, oX9 d0 v_thrown v_taped v_at v_documents v_terms v_latest v_filed v_drafted v_place v_over v_clock v_askedTerms v_segments v_done v_postingsDone v_postingsAll v_why v_hits), ((d0 27), aI cs 40 v_gap), ((d0 22), aI cs 16000 v_draft)] := by
  intro n
  induction n with
  | zero =>
    intro v_drafted v_draft l1 l2 l3 h
    exact False.elim h
  | succ n ih =>
    intro v_drafted v_draft l1 l2 l3 h hK_42
    rw [L_X9_putBits_4] at h
    refine a_iload_n C (pc := 4) 3 dX9_putBits_4 rfl rfl ?_
    refine a_iload_n C (pc := 5) 1 dX9_putBits_5 rfl rfl ?_
    refine a_icmp_ge C (pc := 6) 42 dX9_putBits_6 (by decide) (fun hc => ?_) (fun hc => ?_)
    · have h := h.1 hc
      refine a_lv (lv1 := [(0, .ref h0), (1, .int l1), (2, .int l2)]) [0, 1, 2] rfl ?_
      exact hK_42 v_drafted v_draft l1 l2 h
    · have h := h.2 hc
      refine a_aload_n C (pc := 9) 0 dX9_putBits_9 rfl rfl ?_
      refine a_get C (pc := 10) 0 27 inW_X9 rfl rfl (Nat.le_of_ble_eq_true rfl) wF_X9_62 rfl rfl dX9_putBits_10 ?_
      refine a_iload_n C (pc := 13) 3 dX9_putBits_13 rfl rfl ?_
      refine a_iald C (pc := 14) 1 rfl h.1 dX9_putBits_14 ?_
      replace h := h.2
      refine a_callS C (pc := 15) (av := [.int (v_gap (l3 : Int32).toNatClampNeg)]) (wr := [(h0, oX9 d0 v_thrown v_taped v_at v_documents v_terms v_latest v_filed v_drafted v_place v_over v_clock v_askedTerms v_segments v_done v_postingsDone v_postingsAll v_why v_hits), ((d0 27), aI cs 40 v_gap), ((d0 22), aI cs 16000 v_draft)]) (m_X9_bitsOf Lx Dx cs (v_gap (l3 : Int32).toNatClampNeg) _ h) [] [0, 1, 2] rfl rfl (by decide) (by decide) (by decide) wM_X9_184 wb_X9_bitsOf hy_X9_bitsOf rfl ⟨Nat.le_of_ble_eq_true rfl, Nat.le_of_ble_eq_true rfl⟩ (Nat.le_of_ble_eq_true rfl) hkm hnm rfl dX9_putBits_15 (fun v w1 hw => ?_) [] rfl (fun _ _ h => h.elim)
      obtain ⟨r_1, rfl, rfl, h⟩ := hw
      refine a_ws (st1 := [.int r_1]) (ws1 := [(h0, oX9 d0 v_thrown v_taped v_at v_documents v_terms v_latest v_filed v_drafted v_place v_over v_clock v_askedTerms v_segments v_done v_postingsDone v_postingsAll v_why v_hits), ((d0 27), aI cs 40 v_gap), ((d0 22), aI cs 16000 v_draft)]) k n9 18 [0, 1, 2] rfl rfl rfl rfl (by decide) rfl ?_
      refine a_iload_n C (pc := 18) 2 dX9_putBits_18 rfl rfl ?_
      refine a_icmp_le C (pc := 19) 34 dX9_putBits_19 (by decide) (fun hc => ?_) (fun hc => ?_)
      · have h := h.1 hc
        refine a_iload_n C (pc := 34) 2 dX9_putBits_34 rfl rfl ?_
        refine a_istore_n C (pc := 35) (lv1 := [(0, .ref h0), (1, .int l1), (2, .int l2), (3, .int l3)]) [1, 2, 0, 3] dX9_putBits_35 rfl (by decide) rfl ?_
        refine a_iinc C (pc := 36) (lv1 := [(0, .ref h0), (1, .int l1), (2, .int l2), (3, .int (l3 + 1))]) 3 [1, 2, 3, 0] dX9_putBits_36 rfl (congrArg (fun z => l3 + z) ic_1) (by decide) rfl ?_
        refine a_goto C (pc := 39) 4 dX9_putBits_39 (by decide) ?_
        exact ih v_drafted v_draft l1 l2 (l3 + 1) h hK_42
      · have h := h.2 hc
        refine a_aload_n C (pc := 22) 0 dX9_putBits_22 rfl rfl ?_
        refine a_get C (pc := 23) 0 27 inW_X9 rfl rfl (Nat.le_of_ble_eq_true rfl) wF_X9_62 rfl rfl dX9_putBits_23 ?_
        refine a_iload_n C (pc := 26) 3 dX9_putBits_26 rfl rfl ?_
        refine a_iald C (pc := 27) 1 rfl h.1 dX9_putBits_27 ?_
        replace h := h.2
        refine a_callS C (pc := 28) (av := [.int (v_gap (l3 : Int32).toNatClampNeg)]) (wr := [(h0, oX9 d0 v_thrown v_taped v_at v_documents v_terms v_latest v_filed v_drafted v_place v_over v_clock v_askedTerms v_segments v_done v_postingsDone v_postingsAll v_why v_hits), ((d0 27), aI cs 40 v_gap), ((d0 22), aI cs 16000 v_draft)]) (m_X9_bitsOf Lx Dx cs (v_gap (l3 : Int32).toNatClampNeg) _ h) [] [0, 1, 2] rfl rfl (by decide) (by decide) (by decide) wM_X9_184 wb_X9_bitsOf hy_X9_bitsOf rfl ⟨Nat.le_of_ble_eq_true rfl, Nat.le_of_ble_eq_true rfl⟩ (Nat.le_of_ble_eq_true rfl) hkm hnm rfl dX9_putBits_28 (fun v w1 hw => ?_) [] rfl (fun _ _ h => h.elim)
        obtain ⟨r_2, rfl, rfl, h⟩ := hw
        refine a_ws (st1 := [.int r_2]) (ws1 := [(h0, oX9 d0 v_thrown v_taped v_at v_documents v_terms v_latest v_filed v_drafted v_place v_over v_clock v_askedTerms v_segments v_done v_postingsDone v_postingsAll v_why v_hits), ((d0 27), aI cs 40 v_gap), ((d0 22), aI cs 16000 v_draft)]) k n9 31 [0, 1, 2] rfl rfl rfl rfl (by decide) rfl ?_
        refine a_goto C (pc := 31) 35 dX9_putBits_31 (by decide) ?_
        refine a_istore_n C (pc := 35) (lv1 := [(0, .ref h0), (1, .int l1), (2, .int r_2), (3, .int l3)]) [1, 2, 0, 3] dX9_putBits_35 rfl (by decide) rfl ?_
        refine a_iinc C (pc := 36) (lv1 := [(0, .ref h0), (1, .int l1), (2, .int r_2), (3, .int (l3 + 1))]) 3 [1, 2, 3, 0] dX9_putBits_36 rfl (congrArg (fun z => l3 + z) ic_1) (by decide) rfl ?_
        refine a_goto C (pc := 39) 4 dX9_putBits_39 (by decide) ?_
        exact ih v_drafted v_draft l1 r_2 (l3 + 1) h hK_42
set_option maxRecDepth 100000 in
set_option maxHeartbeats 4000000 in
theorem w_X9_putBits_62 {Γ : XG} {Lx : Launch} {Dx : va_G} {cs : Nat → ClassId} {h0 : Nat} {d0 : Nat → Nat} {v_thrown : Int32} {v_taped : Int32} {v_at : Int32} {v_documents : Int32} {v_terms : Int32} {v_latest : Int32} {v_filed : Int32} {v_place : Int32} {v_over : Int32} {v_clock : Int64} {v_askedTerms : Int32} {v_segments : Int32} {v_done : Int32} {v_postingsDone : Int32} {v_postingsAll : Int32} {v_why : Int32} {v_hits : Int32} {v_gap : Nat → Int32} {K_111 : Int32 → (Nat → Int32) → Int32 → Int32 → Int32 → Int32 → Prop} {Φ : Int32 → (Nat → Int32) → Prop} {k n9 : Nat} (C : CX Γ Lx Dx cs cX9_putBits RX9 "putBits" 6 none 1 21 0 0 (qEC cs 0 0 [] (R_X9_putBits cs h0 d0 v_thrown v_taped v_at v_documents v_terms v_latest v_filed v_place v_over v_clock v_askedTerms v_segments v_done v_postingsDone v_postingsAll v_why v_hits v_gap Φ) (fun _ _ => False))) (hkm : k ≤ 0) (hnm : n9 ≤ 0) : ∀ n : Nat, ∀ (v_drafted : Int32) (v_draft : Nat → Int32) (l1 : Int32) (l2 : Int32) (l3 : Int32) (l4 : Int32) (l5 : Int32), L_X9_putBits_62 n v_drafted v_gap v_draft l1 l2 l3 l4 l5 K_111 Φ → (∀ (v_drafted_13 : Int32) (v_draft_14 : Nat → Int32) (l1_15 : Int32) (l2_16 : Int32) (l3_17 : Int32) (l4_18 : Int32), K_111 v_drafted_13 v_draft_14 l1_15 l2_16 l3_17 l4_18 → AW Γ k n9 111 [(0, .ref h0), (1, .int l1_15), (2, .int l2_16), (3, .int l3_17), (4, .int l4_18)] [] [(h0, oX9 d0 v_thrown v_taped v_at v_documents v_terms v_latest v_filed v_drafted_13 v_place v_over v_clock v_askedTerms v_segments v_done v_postingsDone v_postingsAll v_why v_hits), ((d0 27), aI cs 40 v_gap), ((d0 22), aI cs 16000 v_draft_14)]) → AW Γ k n9 62 [(0, .ref h0), (1, .int l1), (2, .int l2), (3, .int l3), (4, .int l4), (5, .int l5)] [] [(h0, oX9 d0 v_thrown v_taped v_at v_documents v_terms v_latest v_filed v_drafted v_place v_over v_clock v_askedTerms v_segments v_done v_postingsDone v_postingsAll v_why v_hits), ((d0 27), aI cs 40 v_gap), ((d0 22), aI cs 16000 v_draft)] := by
  intro n
  induction n with
  | zero =>
    intro v_drafted v_draft l1 l2 l3 l4 l5 h
    exact False.elim h
  | succ n ih =>
    intro v_drafted v_draft l1 l2 l3 l4 l5 h hK_111
    rw [L_X9_putBits_62] at h
    refine a_iload C (pc := 62) 5 dX9_putBits_62 rfl ?_
    refine a_iload_n C (pc := 64) 3 dX9_putBits_64 rfl rfl ?_
    refine a_bipush C (pc := 65) dX9_putBits_65 bp_8 ?_
    refine a_iadd C (pc := 67) dX9_putBits_67 ?_
    refine a_icmp_ge C (pc := 68) 111 dX9_putBits_68 (by decide) (fun hc => ?_) (fun hc => ?_)
    · have h := h.1 hc
      refine a_lv (lv1 := [(0, .ref h0), (1, .int l1), (2, .int l2), (3, .int l3), (4, .int l4)]) [0, 1, 2, 3, 4] rfl ?_
      exact hK_111 v_drafted v_draft l1 l2 l3 l4 h
    · have h := h.2 hc
      refine a_iload C (pc := 71) 5 dX9_putBits_71 rfl ?_
      refine a_iload_n C (pc := 73) 2 dX9_putBits_73 rfl rfl ?_
      refine a_iload_n C (pc := 74) 1 dX9_putBits_74 rfl rfl ?_
      refine a_imul C (pc := 75) dX9_putBits_75 ?_
      refine a_icmp_ge C (pc := 76) 111 dX9_putBits_76 (by decide) (fun hc => ?_) (fun hc => ?_)
      · have h := h.1 hc
        refine a_lv (lv1 := [(0, .ref h0), (1, .int l1), (2, .int l2), (3, .int l3), (4, .int l4)]) [0, 1, 2, 3, 4] rfl ?_
        exact hK_111 v_drafted v_draft l1 l2 l3 l4 h
      · have h := h.2 hc
        refine a_iload C (pc := 79) 4 dX9_putBits_79 rfl ?_
        refine a_aload_n C (pc := 81) 0 dX9_putBits_81 rfl rfl ?_
        refine a_get C (pc := 82) 0 27 inW_X9 rfl rfl (Nat.le_of_ble_eq_true rfl) wF_X9_62 rfl rfl dX9_putBits_82 ?_
        refine a_iload C (pc := 85) 5 dX9_putBits_85 rfl ?_
        refine a_iload_n C (pc := 87) 2 dX9_putBits_87 rfl rfl ?_
        refine a_idiv C (pc := 88) dX9_putBits_88 h.1 ?_
        replace h := h.2
        refine a_iald C (pc := 89) 1 rfl h.1 dX9_putBits_89 ?_
        replace h := h.2
        refine a_iload C (pc := 90) 5 dX9_putBits_90 rfl ?_
        refine a_iload_n C (pc := 92) 2 dX9_putBits_92 rfl rfl ?_
        refine a_irem C (pc := 93) dX9_putBits_93 h.1 ?_
        replace h := h.2
        refine a_ishr C (pc := 94) dX9_putBits_94 ?_
        refine a_iconst C (pc := 95) dX9_putBits_95 ic_1 ?_
        refine a_iand C (pc := 96) dX9_putBits_96 ?_
        refine a_iload C (pc := 97) 5 dX9_putBits_97 rfl ?_
        refine a_iload_n C (pc := 99) 3 dX9_putBits_99 rfl rfl ?_
        refine a_isub C (pc := 100) dX9_putBits_100 ?_
        refine a_ishl C (pc := 101) dX9_putBits_101 ?_
        refine a_ior C (pc := 102) dX9_putBits_102 ?_
        refine a_istore C (pc := 103) (lv1 := [(0, .ref h0), (1, .int l1), (2, .int l2), (3, .int l3), (4, .int (l4 ||| ((((v_gap (l5 / l2 : Int32).toNatClampNeg) >>> ((l5 - l5 / l2 * l2) &&& 31)) &&& 1) <<< ((l5 - l3) &&& 31)))), (5, .int l5)]) [1, 2, 3, 4, 0, 5] dX9_putBits_103 (by decide) rfl ?_
        refine a_iinc C (pc := 105) (lv1 := [(0, .ref h0), (1, .int l1), (2, .int l2), (3, .int l3), (4, .int (l4 ||| ((((v_gap (l5 / l2 : Int32).toNatClampNeg) >>> ((l5 - l5 / l2 * l2) &&& 31)) &&& 1) <<< ((l5 - l3) &&& 31)))), (5, .int (l5 + 1))]) 5 [1, 2, 3, 4, 5, 0] dX9_putBits_105 rfl (congrArg (fun z => l5 + z) ic_1) (by decide) rfl ?_
        refine a_goto C (pc := 108) 62 dX9_putBits_108 (by decide) ?_
        exact ih v_drafted v_draft l1 l2 l3 (l4 ||| ((((v_gap (l5 / l2 : Int32).toNatClampNeg) >>> ((l5 - l5 / l2 * l2) &&& 31)) &&& 1) <<< ((l5 - l3) &&& 31))) (l5 + 1) h hK_111
set_option maxRecDepth 100000 in
set_option maxHeartbeats 4000000 in
theorem w_X9_putBits_49 {Γ : XG} {Lx : Launch} {Dx : va_G} {cs : Nat → ClassId} {h0 : Nat} {d0 : Nat → Nat} {v_thrown : Int32} {v_taped : Int32} {v_at : Int32} {v_documents : Int32} {v_terms : Int32} {v_latest : Int32} {v_filed : Int32} {v_place : Int32} {v_over : Int32} {v_clock : Int64} {v_askedTerms : Int32} {v_segments : Int32} {v_done : Int32} {v_postingsDone : Int32} {v_postingsAll : Int32} {v_why : Int32} {v_hits : Int32} {v_gap : Nat → Int32} {K_123 : Int32 → (Nat → Int32) → Prop} {Φ : Int32 → (Nat → Int32) → Prop} {k n9 : Nat} (C : CX Γ Lx Dx cs cX9_putBits RX9 "putBits" 6 none 1 21 0 0 (qEC cs 0 0 [] (R_X9_putBits cs h0 d0 v_thrown v_taped v_at v_documents v_terms v_latest v_filed v_place v_over v_clock v_askedTerms v_segments v_done v_postingsDone v_postingsAll v_why v_hits v_gap Φ) (fun _ _ => False))) (hkm : k ≤ 0) (hnm : n9 ≤ 0) : ∀ n : Nat, ∀ (v_drafted : Int32) (v_draft : Nat → Int32) (l1 : Int32) (l2 : Int32) (l3 : Int32), L_X9_putBits_49 n v_drafted v_gap v_draft l1 l2 l3 K_123 Φ → (∀ (v_drafted_27 : Int32) (v_draft_28 : Nat → Int32), K_123 v_drafted_27 v_draft_28 → AW Γ k n9 123 [] [] [(h0, oX9 d0 v_thrown v_taped v_at v_documents v_terms v_latest v_filed v_drafted_27 v_place v_over v_clock v_askedTerms v_segments v_done v_postingsDone v_postingsAll v_why v_hits), ((d0 27), aI cs 40 v_gap), ((d0 22), aI cs 16000 v_draft_28)]) → AW Γ k n9 49 [(0, .ref h0), (1, .int l1), (2, .int l2), (3, .int l3)] [] [(h0, oX9 d0 v_thrown v_taped v_at v_documents v_terms v_latest v_filed v_drafted v_place v_over v_clock v_askedTerms v_segments v_done v_postingsDone v_postingsAll v_why v_hits), ((d0 27), aI cs 40 v_gap), ((d0 22), aI cs 16000 v_draft)] := by
  intro n
  induction n with
  | zero =>
    intro v_drafted v_draft l1 l2 l3 h
    exact False.elim h
  | succ n ih =>
    intro v_drafted v_draft l1 l2 l3 h hK_123
    rw [L_X9_putBits_49] at h
    refine a_iload_n C (pc := 49) 3 dX9_putBits_49 rfl rfl ?_
    refine a_iload_n C (pc := 50) 2 dX9_putBits_50 rfl rfl ?_
    refine a_iload_n C (pc := 51) 1 dX9_putBits_51 rfl rfl ?_
    refine a_imul C (pc := 52) dX9_putBits_52 ?_
    refine a_icmp_ge C (pc := 53) 123 dX9_putBits_53 (by decide) (fun hc => ?_) (fun hc => ?_)
    · have h := h.1 hc
      refine a_lv (lv1 := []) [] rfl ?_
      exact hK_123 v_drafted v_draft h
    · have h := h.2 hc
      refine a_iconst C (pc := 56) dX9_putBits_56 ic_0 ?_
      refine a_istore C (pc := 57) (lv1 := [(0, .ref h0), (1, .int l1), (2, .int l2), (3, .int l3), (4, .int 0)]) [1, 2, 3, 4, 0] dX9_putBits_57 (by decide) rfl ?_
      refine a_iload_n C (pc := 59) 3 dX9_putBits_59 rfl rfl ?_
      refine a_istore C (pc := 60) (lv1 := [(0, .ref h0), (1, .int l1), (2, .int l2), (3, .int l3), (4, .int 0), (5, .int l3)]) [1, 2, 3, 4, 5, 0] dX9_putBits_60 (by decide) rfl ?_
      obtain ⟨n0, h⟩ := h
      refine w_X9_putBits_62 C hkm hnm n0 v_drafted v_draft l1 l2 l3 0 l3 h ?_
      intro v_drafted_19 v_draft_20 l1_21 l2_22 l3_23 l4_24 h
      refine a_aload_n C (pc := 111) 0 dX9_putBits_111 rfl rfl ?_
      refine a_iload C (pc := 112) 4 dX9_putBits_112 rfl ?_
      refine a_callV C (pc := 114) (av := [.int l4_24]) (wr := [((d0 27), aI cs 40 v_gap)]) (m_X9_put Lx Dx cs h0 d0 v_thrown v_taped v_at v_documents v_terms v_latest v_filed v_drafted_19 v_place v_over v_clock v_askedTerms v_segments v_done v_postingsDone v_postingsAll v_why v_hits v_draft_20 l4_24 _ h) [0, 2] [1] rfl rfl (by decide) (by decide) (by decide) wM_X9_171 wb_X9_put hy_X9_put (q0 := 0) rfl rfl rfl ⟨Nat.le_of_ble_eq_true rfl, Nat.le_of_ble_eq_true rfl⟩ (Nat.le_of_ble_eq_true rfl) hkm hnm rfl dX9_putBits_114 (fun v w1 hw => ?_) [] rfl (fun _ _ h => h.elim)
      obtain ⟨v_drafted_25, v_draft_26, rfl, rfl, h⟩ := hw
      refine a_ws (st1 := []) (ws1 := [(h0, oX9 d0 v_thrown v_taped v_at v_documents v_terms v_latest v_filed v_drafted_25 v_place v_over v_clock v_askedTerms v_segments v_done v_postingsDone v_postingsAll v_why v_hits), ((d0 27), aI cs 40 v_gap), ((d0 22), aI cs 16000 v_draft_26)]) k n9 117 [1, 0, 2] rfl rfl rfl rfl (by decide) rfl ?_
      refine a_iinc C (pc := 117) (lv1 := [(0, .ref h0), (1, .int l1_21), (2, .int l2_22), (3, .int (l3_23 + 8)), (4, .int l4_24)]) 3 [1, 2, 3, 0, 4] dX9_putBits_117 rfl (congrArg (fun z => l3_23 + z) ic_8) (by decide) rfl ?_
      refine a_goto C (pc := 120) 49 dX9_putBits_120 (by decide) ?_
      refine a_lv (lv1 := [(0, .ref h0), (1, .int l1_21), (2, .int l2_22), (3, .int (l3_23 + 8))]) [0, 1, 2, 3] rfl ?_
      exact ih v_drafted_25 v_draft_26 l1_21 l2_22 (l3_23 + 8) h hK_123
set_option maxRecDepth 100000 in
set_option maxHeartbeats 4000000 in
theorem m_X9_putBits (Lx : Launch) (Dx : va_G) (cs : Nat → ClassId) (h0 : Nat) (d0 : Nat → Nat) (v_thrown : Int32) (v_taped : Int32) (v_at : Int32) (v_documents : Int32) (v_terms : Int32) (v_latest : Int32) (v_filed : Int32) (v_drafted : Int32) (v_place : Int32) (v_over : Int32) (v_clock : Int64) (v_askedTerms : Int32) (v_segments : Int32) (v_done : Int32) (v_postingsDone : Int32) (v_postingsAll : Int32) (v_why : Int32) (v_hits : Int32) (v_gap : Nat → Int32) (v_draft : Nat → Int32) (l1 : Int32) (Φ : Int32 → (Nat → Int32) → Prop) (h : P_X9_putBits v_drafted v_gap v_draft l1 Φ) : XMet Lx Dx cs yX9_putBits cX9_putBits 6 none 1 21 0 0 [.ref h0, .int l1] [(h0, oX9 d0 v_thrown v_taped v_at v_documents v_terms v_latest v_filed v_drafted v_place v_over v_clock v_askedTerms v_segments v_done v_postingsDone v_postingsAll v_why v_hits), ((d0 27), aI cs 40 v_gap), ((d0 22), aI cs 16000 v_draft)] (R_X9_putBits cs h0 d0 v_thrown v_taped v_at v_documents v_terms v_latest v_filed v_place v_over v_clock v_askedTerms v_segments v_done v_postingsDone v_postingsAll v_why v_hits v_gap Φ) (fun _ _ => False) := by
  refine XMet.of (own := RX9) (nm := "putBits") (by decide) rfl rfl (Nat.le_of_ble_eq_true rfl) (fun Γ C => ?_)
  unfold P_X9_putBits at h
  refine a_iconst C (pc := 0) dX9_putBits_0 ic_0 ?_
  refine a_istore_n C (pc := 1) (lv1 := [(0, .ref h0), (1, .int l1), (2, .int 0)]) [1, 2, 0] dX9_putBits_1 rfl (by decide) rfl ?_
  refine a_iconst C (pc := 2) dX9_putBits_2 ic_0 ?_
  refine a_istore_n C (pc := 3) (lv1 := [(0, .ref h0), (1, .int l1), (2, .int 0), (3, .int 0)]) [1, 2, 3, 0] dX9_putBits_3 rfl (by decide) rfl ?_
  obtain ⟨n0, h⟩ := h
  refine w_X9_putBits_4 C (Nat.le_of_ble_eq_true rfl) (Nat.le_of_ble_eq_true rfl) n0 v_drafted v_draft l1 0 0 h ?_
  intro v_drafted_7 v_draft_8 l1_9 l2_10 h
  refine a_aload_n C (pc := 42) 0 dX9_putBits_42 rfl rfl ?_
  refine a_iload_n C (pc := 43) 2 dX9_putBits_43 rfl rfl ?_
  refine a_callV C (pc := 44) (av := [.int l2_10]) (wr := [((d0 27), aI cs 40 v_gap)]) (m_X9_put Lx Dx cs h0 d0 v_thrown v_taped v_at v_documents v_terms v_latest v_filed v_drafted_7 v_place v_over v_clock v_askedTerms v_segments v_done v_postingsDone v_postingsAll v_why v_hits v_draft_8 l2_10 _ h) [0, 2] [1] rfl rfl (by decide) (by decide) (by decide) wM_X9_171 wb_X9_put hy_X9_put (q0 := 0) rfl rfl rfl ⟨Nat.le_of_ble_eq_true rfl, Nat.le_of_ble_eq_true rfl⟩ (Nat.le_of_ble_eq_true rfl) (Nat.le_of_ble_eq_true rfl) (Nat.le_of_ble_eq_true rfl) rfl dX9_putBits_44 (fun v w1 hw => ?_) [] rfl (fun _ _ h => h.elim)
  obtain ⟨v_drafted_11, v_draft_12, rfl, rfl, h⟩ := hw
  refine a_ws (st1 := []) (ws1 := [(h0, oX9 d0 v_thrown v_taped v_at v_documents v_terms v_latest v_filed v_drafted_11 v_place v_over v_clock v_askedTerms v_segments v_done v_postingsDone v_postingsAll v_why v_hits), ((d0 27), aI cs 40 v_gap), ((d0 22), aI cs 16000 v_draft_12)]) 0 0 47 [1, 0, 2] rfl rfl rfl rfl (by decide) rfl ?_
  refine a_iconst C (pc := 47) dX9_putBits_47 ic_0 ?_
  refine a_istore_n C (pc := 48) (lv1 := [(0, .ref h0), (1, .int l1_9), (2, .int l2_10), (3, .int 0)]) [1, 2, 3, 0] dX9_putBits_48 rfl (by decide) rfl ?_
  obtain ⟨n0, h⟩ := h
  refine w_X9_putBits_49 C (Nat.le_of_ble_eq_true rfl) (Nat.le_of_ble_eq_true rfl) n0 v_drafted_11 v_draft_12 l1_9 l2_10 0 h ?_
  intro v_drafted_29 v_draft_30 h
  exact a_return C (pc := 123) rfl dX9_putBits_123 (Nat.le_of_ble_eq_true rfl) (Nat.le_of_ble_eq_true rfl) ⟨_, _, rfl, rfl, h⟩
set_option maxRecDepth 100000 in
set_option maxHeartbeats 4000000 in
theorem w_X9_putGaps_6 {Γ : XG} {Lx : Launch} {Dx : va_G} {cs : Nat → ClassId} {h0 : Nat} {d0 : Nat → Nat} {v_thrown : Int32} {v_taped : Int32} {v_at : Int32} {v_documents : Int32} {v_terms : Int32} {v_latest : Int32} {v_filed : Int32} {v_place : Int32} {v_over : Int32} {v_clock : Int64} {v_askedTerms : Int32} {v_segments : Int32} {v_done : Int32} {v_postingsDone : Int32} {v_postingsAll : Int32} {v_why : Int32} {v_hits : Int32} {v_gap : Nat → Int32} {K_31 : Int32 → (Nat → Int32) → Prop} {Φ : Int32 → (Nat → Int32) → Prop} {k n9 : Nat} (C : CX Γ Lx Dx cs cX9_putGaps RX9 "putGaps" 4 none 2 48 0 0 (qEC cs 0 0 [] (R_X9_putGaps cs h0 d0 v_thrown v_taped v_at v_documents v_terms v_latest v_filed v_place v_over v_clock v_askedTerms v_segments v_done v_postingsDone v_postingsAll v_why v_hits v_gap Φ) (fun _ _ => False))) (hkm : k ≤ 0) (hnm : n9 ≤ 0) : ∀ n : Nat, ∀ (v_drafted : Int32) (v_draft : Nat → Int32) (l2 : Int32) (l3 : Int32), L_X9_putGaps_6 n v_drafted v_gap v_draft l2 l3 K_31 Φ → (∀ (v_drafted_7 : Int32) (v_draft_8 : Nat → Int32), K_31 v_drafted_7 v_draft_8 → AW Γ k n9 31 [] [] [(h0, oX9 d0 v_thrown v_taped v_at v_documents v_terms v_latest v_filed v_drafted_7 v_place v_over v_clock v_askedTerms v_segments v_done v_postingsDone v_postingsAll v_why v_hits), ((d0 27), aI cs 40 v_gap), ((d0 22), aI cs 16000 v_draft_8)]) → AW Γ k n9 6 [(0, .ref h0), (2, .int l2), (3, .int l3)] [] [(h0, oX9 d0 v_thrown v_taped v_at v_documents v_terms v_latest v_filed v_drafted v_place v_over v_clock v_askedTerms v_segments v_done v_postingsDone v_postingsAll v_why v_hits), ((d0 27), aI cs 40 v_gap), ((d0 22), aI cs 16000 v_draft)] := by
  intro n
  induction n with
  | zero =>
    intro v_drafted v_draft l2 l3 h
    exact False.elim h
  | succ n ih =>
    intro v_drafted v_draft l2 l3 h hK_31
    rw [L_X9_putGaps_6] at h
    refine a_iload_n C (pc := 6) 2 dX9_putGaps_6 rfl rfl ?_
    refine a_iload_n C (pc := 7) 1 dX9_putGaps_7 rfl rfl ?_
    refine a_icmp_ge C (pc := 8) 31 dX9_putGaps_8 (by decide) (fun hc => ?_) (fun hc => ?_)
    · have h := h.1 hc
      refine a_lv (lv1 := []) [] rfl ?_
      exact hK_31 v_drafted v_draft h
    · have h := h.2 hc
      refine a_aload_n C (pc := 11) 0 dX9_putGaps_11 rfl rfl ?_
      refine a_aload_n C (pc := 12) 0 dX9_putGaps_12 rfl rfl ?_
      refine a_get C (pc := 13) 0 27 inW_X9 rfl rfl (Nat.le_of_ble_eq_true rfl) wF_X9_62 rfl rfl dX9_putGaps_13 ?_
      refine a_iload_n C (pc := 16) 2 dX9_putGaps_16 rfl rfl ?_
      refine a_iald C (pc := 17) 1 rfl h.1 dX9_putGaps_17 ?_
      replace h := h.2
      refine a_sipush C (pc := 18) dX9_putGaps_18 sp_128 ?_
      refine a_iadd C (pc := 21) dX9_putGaps_21 ?_
      refine a_callV C (pc := 22) (av := [.int ((v_gap (l3 : Int32).toNatClampNeg) + 128)]) (wr := [((d0 27), aI cs 40 v_gap)]) (m_X9_put Lx Dx cs h0 d0 v_thrown v_taped v_at v_documents v_terms v_latest v_filed v_drafted v_place v_over v_clock v_askedTerms v_segments v_done v_postingsDone v_postingsAll v_why v_hits v_draft ((v_gap (l3 : Int32).toNatClampNeg) + 128) _ h) [0, 2] [1] rfl rfl (by decide) (by decide) (by decide) wM_X9_171 wb_X9_put hy_X9_put (q0 := 0) rfl rfl rfl ⟨Nat.le_of_ble_eq_true rfl, Nat.le_of_ble_eq_true rfl⟩ (Nat.le_of_ble_eq_true rfl) hkm hnm rfl dX9_putGaps_22 (fun v w1 hw => ?_) [] rfl (fun _ _ h => h.elim)
      obtain ⟨v_drafted_5, v_draft_6, rfl, rfl, h⟩ := hw
      refine a_ws (st1 := []) (ws1 := [(h0, oX9 d0 v_thrown v_taped v_at v_documents v_terms v_latest v_filed v_drafted_5 v_place v_over v_clock v_askedTerms v_segments v_done v_postingsDone v_postingsAll v_why v_hits), ((d0 27), aI cs 40 v_gap), ((d0 22), aI cs 16000 v_draft_6)]) k n9 25 [1, 0, 2] rfl rfl rfl rfl (by decide) rfl ?_
      refine a_iinc C (pc := 25) (lv1 := [(0, .ref h0), (2, .int l2), (3, .int (l3 + 1))]) 2 [1, 2, 0] dX9_putGaps_25 rfl (congrArg (fun z => l3 + z) ic_1) (by decide) rfl ?_
      refine a_goto C (pc := 28) 6 dX9_putGaps_28 (by decide) ?_
      exact ih v_drafted_5 v_draft_6 l2 (l3 + 1) h hK_31
set_option maxRecDepth 100000 in
set_option maxHeartbeats 4000000 in
theorem m_X9_putGaps (Lx : Launch) (Dx : va_G) (cs : Nat → ClassId) (h0 : Nat) (d0 : Nat → Nat) (v_thrown : Int32) (v_taped : Int32) (v_at : Int32) (v_documents : Int32) (v_terms : Int32) (v_latest : Int32) (v_filed : Int32) (v_drafted : Int32) (v_place : Int32) (v_over : Int32) (v_clock : Int64) (v_askedTerms : Int32) (v_segments : Int32) (v_done : Int32) (v_postingsDone : Int32) (v_postingsAll : Int32) (v_why : Int32) (v_hits : Int32) (v_gap : Nat → Int32) (v_draft : Nat → Int32) (l1 : Int32) (l2 : Int32) (Φ : Int32 → (Nat → Int32) → Prop) (h : P_X9_putGaps v_drafted v_gap v_draft l1 l2 Φ) : XMet Lx Dx cs yX9_putGaps cX9_putGaps 4 none 2 48 0 0 [.ref h0, .int l1, .int l2] [(h0, oX9 d0 v_thrown v_taped v_at v_documents v_terms v_latest v_filed v_drafted v_place v_over v_clock v_askedTerms v_segments v_done v_postingsDone v_postingsAll v_why v_hits), ((d0 27), aI cs 40 v_gap), ((d0 22), aI cs 16000 v_draft)] (R_X9_putGaps cs h0 d0 v_thrown v_taped v_at v_documents v_terms v_latest v_filed v_place v_over v_clock v_askedTerms v_segments v_done v_postingsDone v_postingsAll v_why v_hits v_gap Φ) (fun _ _ => False) := by
  refine XMet.of (own := RX9) (nm := "putGaps") (by decide) rfl rfl (Nat.le_of_ble_eq_true rfl) (fun Γ C => ?_)
  unfold P_X9_putGaps at h
  refine a_iload_n C (pc := 0) 1 dX9_putGaps_0 rfl rfl ?_
  refine a_if_ne C (pc := 1) 34 dX9_putGaps_1 (by decide) (fun hc => ?_) (fun hc => ?_)
  · have h := h.1 hc
    refine a_iload_n C (pc := 34) 1 dX9_putGaps_34 rfl rfl ?_
    refine a_iconst C (pc := 35) dX9_putGaps_35 ic_1 ?_
    refine a_icmp_ne C (pc := 36) 47 dX9_putGaps_36 (by decide) (fun hc => ?_) (fun hc => ?_)
    · have h := h.1 hc
      refine a_aload_n C (pc := 47) 0 dX9_putGaps_47 rfl rfl ?_
      refine a_iload_n C (pc := 48) 2 dX9_putGaps_48 rfl rfl ?_
      refine a_callV C (pc := 49) (av := [.int l2]) (wr := []) (m_X9_putBits Lx Dx cs h0 d0 v_thrown v_taped v_at v_documents v_terms v_latest v_filed v_drafted v_place v_over v_clock v_askedTerms v_segments v_done v_postingsDone v_postingsAll v_why v_hits v_gap v_draft l2 _ h) [0, 1, 2] [] rfl rfl (by decide) (by decide) (by decide) wM_X9_178 wb_X9_putBits hy_X9_putBits (q0 := 0) rfl rfl rfl ⟨Nat.le_of_ble_eq_true rfl, Nat.le_of_ble_eq_true rfl⟩ (Nat.le_of_ble_eq_true rfl) (Nat.le_of_ble_eq_true rfl) (Nat.le_of_ble_eq_true rfl) rfl dX9_putGaps_49 (fun v w1 hw => ?_) [] rfl (fun _ _ h => h.elim)
      obtain ⟨v_drafted_1, v_draft_2, rfl, rfl, h⟩ := hw
      refine a_ws (st1 := []) (ws1 := [(h0, oX9 d0 v_thrown v_taped v_at v_documents v_terms v_latest v_filed v_drafted_1 v_place v_over v_clock v_askedTerms v_segments v_done v_postingsDone v_postingsAll v_why v_hits), ((d0 27), aI cs 40 v_gap), ((d0 22), aI cs 16000 v_draft_2)]) 0 0 52 [0, 1, 2] rfl rfl rfl rfl (by decide) rfl ?_
      exact a_return C (pc := 52) rfl dX9_putGaps_52 (Nat.le_of_ble_eq_true rfl) (Nat.le_of_ble_eq_true rfl) ⟨_, _, rfl, rfl, h⟩
    · have h := h.2 hc
      refine a_aload_n C (pc := 39) 0 dX9_putGaps_39 rfl rfl ?_
      refine a_iload_n C (pc := 40) 2 dX9_putGaps_40 rfl rfl ?_
      refine a_callV C (pc := 41) (av := [.int l2]) (wr := []) (m_X9_putWords Lx Dx cs h0 d0 v_thrown v_taped v_at v_documents v_terms v_latest v_filed v_drafted v_place v_over v_clock v_askedTerms v_segments v_done v_postingsDone v_postingsAll v_why v_hits v_gap v_draft l2 _ h) [0, 1, 2] [] rfl rfl (by decide) (by decide) (by decide) wM_X9_175 wb_X9_putWords hy_X9_putWords (q0 := 0) rfl rfl rfl ⟨Nat.le_of_ble_eq_true rfl, Nat.le_of_ble_eq_true rfl⟩ (Nat.le_of_ble_eq_true rfl) (Nat.le_of_ble_eq_true rfl) (Nat.le_of_ble_eq_true rfl) rfl dX9_putGaps_41 (fun v w1 hw => ?_) [] rfl (fun _ _ h => h.elim)
      obtain ⟨v_drafted_3, v_draft_4, rfl, rfl, h⟩ := hw
      refine a_ws (st1 := []) (ws1 := [(h0, oX9 d0 v_thrown v_taped v_at v_documents v_terms v_latest v_filed v_drafted_3 v_place v_over v_clock v_askedTerms v_segments v_done v_postingsDone v_postingsAll v_why v_hits), ((d0 27), aI cs 40 v_gap), ((d0 22), aI cs 16000 v_draft_4)]) 0 0 44 [0, 1, 2] rfl rfl rfl rfl (by decide) rfl ?_
      refine a_goto C (pc := 44) 52 dX9_putGaps_44 (by decide) ?_
      exact a_return C (pc := 52) rfl dX9_putGaps_52 (Nat.le_of_ble_eq_true rfl) (Nat.le_of_ble_eq_true rfl) ⟨_, _, rfl, rfl, h⟩
  · have h := h.2 hc
    refine a_iconst C (pc := 4) dX9_putGaps_4 ic_0 ?_
    refine a_istore_n C (pc := 5) (lv1 := [(0, .ref h0), (1, .int l1), (2, .int l2), (3, .int 0)]) [1, 2, 3, 0] dX9_putGaps_5 rfl (by decide) rfl ?_
    obtain ⟨n0, h⟩ := h
    refine a_lv (lv1 := [(0, .ref h0), (2, .int l2), (3, .int 0)]) [0, 2, 3] rfl ?_
    refine w_X9_putGaps_6 C (Nat.le_of_ble_eq_true rfl) (Nat.le_of_ble_eq_true rfl) n0 v_drafted v_draft l2 0 h ?_
    intro v_drafted_9 v_draft_10 h
    refine a_goto C (pc := 31) 52 dX9_putGaps_31 (by decide) ?_
    exact a_return C (pc := 52) rfl dX9_putGaps_52 (Nat.le_of_ble_eq_true rfl) (Nat.le_of_ble_eq_true rfl) ⟨_, _, rfl, rfl, h⟩
set_option maxRecDepth 100000 in
set_option maxHeartbeats 4000000 in
theorem w_X9_gaps_9 {Γ : XG} {Lx : Launch} {Dx : va_G} {cs : Nat → ClassId} {h0 : Nat} {d0 : Nat → Nat} {v_thrown : Int32} {v_taped : Int32} {v_at : Int32} {v_documents : Int32} {v_terms : Int32} {v_latest : Int32} {v_filed : Int32} {v_drafted : Int32} {v_place : Int32} {v_over : Int32} {v_clock : Int64} {v_askedTerms : Int32} {v_segments : Int32} {v_done : Int32} {v_postingsDone : Int32} {v_postingsAll : Int32} {v_why : Int32} {v_hits : Int32} {v_size : Nat → Int32} {v_impact : Nat → Int32} {K_67 : (Nat → Int32) → Int32 → Prop} {Φ : Int32 → (Nat → Int32) → Prop} {k n9 : Nat} (C : CX Γ Lx Dx cs cX9_gaps RX9 "gaps" 7 (some .int) 1 23 0 0 (qEC cs 0 0 [] (R_X9_gaps cs h0 d0 v_thrown v_taped v_at v_documents v_terms v_latest v_filed v_drafted v_place v_over v_clock v_askedTerms v_segments v_done v_postingsDone v_postingsAll v_why v_hits v_size v_impact Φ) (fun _ _ => False))) (hkm : k ≤ 0) (hnm : n9 ≤ 0) : ∀ n : Nat, ∀ (v_gap : Nat → Int32) (l1 : Int32) (l2 : Int32) (l3 : Int32) (l4 : Int32) (l5 : Int32) (l6 : Int32), L_X9_gaps_9 n v_size v_impact v_gap l1 l2 l3 l4 l5 l6 K_67 Φ → (∀ (v_gap_2 : Nat → Int32) (l4_3 : Int32), K_67 v_gap_2 l4_3 → AW Γ k n9 67 [(4, .int l4_3)] [] [(h0, oX9 d0 v_thrown v_taped v_at v_documents v_terms v_latest v_filed v_drafted v_place v_over v_clock v_askedTerms v_segments v_done v_postingsDone v_postingsAll v_why v_hits), ((d0 13), aI cs 5 v_size), ((d0 16), aI cs 12800 v_impact), ((d0 27), aI cs 40 v_gap_2)]) → AW Γ k n9 9 [(0, .ref h0), (1, .int l1), (2, .int l2), (3, .int l3), (4, .int l4), (5, .int l5), (6, .int l6)] [] [(h0, oX9 d0 v_thrown v_taped v_at v_documents v_terms v_latest v_filed v_drafted v_place v_over v_clock v_askedTerms v_segments v_done v_postingsDone v_postingsAll v_why v_hits), ((d0 13), aI cs 5 v_size), ((d0 16), aI cs 12800 v_impact), ((d0 27), aI cs 40 v_gap)] := by
  intro n
  induction n with
  | zero =>
    intro v_gap l1 l2 l3 l4 l5 l6 h
    exact False.elim h
  | succ n ih =>
    intro v_gap l1 l2 l3 l4 l5 l6 h hK_67
    rw [L_X9_gaps_9] at h
    refine a_iload C (pc := 9) 6 dX9_gaps_9 rfl ?_
    refine a_aload_n C (pc := 11) 0 dX9_gaps_11 rfl rfl ?_
    refine a_get C (pc := 12) 0 13 inW_X9 rfl rfl (Nat.le_of_ble_eq_true rfl) wF_X9_34 rfl rfl dX9_gaps_12 ?_
    refine a_iload_n C (pc := 15) 1 dX9_gaps_15 rfl rfl ?_
    refine a_iald C (pc := 16) 1 rfl h.1 dX9_gaps_16 ?_
    replace h := h.2
    refine a_icmp_ge C (pc := 17) 67 dX9_gaps_17 (by decide) (fun hc => ?_) (fun hc => ?_)
    · have h := h.1 hc
      refine a_lv (lv1 := [(4, .int l4)]) [4] rfl ?_
      exact hK_67 v_gap l4 h
    · have h := h.2 hc
      refine a_aload_n C (pc := 20) 0 dX9_gaps_20 rfl rfl ?_
      refine a_get C (pc := 21) 0 16 inW_X9 rfl rfl (Nat.le_of_ble_eq_true rfl) wF_X9_43 rfl rfl dX9_gaps_21 ?_
      refine a_aload_n C (pc := 24) 0 dX9_gaps_24 rfl rfl ?_
      refine a_iload_n C (pc := 25) 1 dX9_gaps_25 rfl rfl ?_
      refine a_iload_n C (pc := 26) 2 dX9_gaps_26 rfl rfl ?_
      refine a_iload C (pc := 27) 6 dX9_gaps_27 rfl ?_
      refine a_callV C (pc := 29) (av := [.int l1, .int l2, .int l6]) (wr := [(h0, oX9 d0 v_thrown v_taped v_at v_documents v_terms v_latest v_filed v_drafted v_place v_over v_clock v_askedTerms v_segments v_done v_postingsDone v_postingsAll v_why v_hits), ((d0 13), aI cs 5 v_size), ((d0 16), aI cs 12800 v_impact), ((d0 27), aI cs 40 v_gap)]) (m_X9_cell Lx Dx cs h0 l1 l2 l6 _ h) [] [0, 1, 2, 3] rfl rfl (by decide) (by decide) (by decide) wM_X9_162 wb_X9_cell hy_X9_cell (q0 := 0) rfl rfl rfl ⟨Nat.le_of_ble_eq_true rfl, Nat.le_of_ble_eq_true rfl⟩ (Nat.le_of_ble_eq_true rfl) hkm hnm rfl dX9_gaps_29 (fun v w1 hw => ?_) [] rfl (fun _ _ h => h.elim)
      obtain ⟨r_1, rfl, rfl, h⟩ := hw
      refine a_ws (st1 := [.int r_1, .ref (d0 16)]) (ws1 := [(h0, oX9 d0 v_thrown v_taped v_at v_documents v_terms v_latest v_filed v_drafted v_place v_over v_clock v_askedTerms v_segments v_done v_postingsDone v_postingsAll v_why v_hits), ((d0 13), aI cs 5 v_size), ((d0 16), aI cs 12800 v_impact), ((d0 27), aI cs 40 v_gap)]) k n9 32 [0, 1, 2, 3] rfl rfl rfl rfl (by decide) rfl ?_
      refine a_iald C (pc := 32) 2 rfl h.1 dX9_gaps_32 ?_
      replace h := h.2
      refine a_iload_n C (pc := 33) 3 dX9_gaps_33 rfl rfl ?_
      refine a_icmp_eq C (pc := 34) 40 dX9_gaps_34 (by decide) (fun hc => ?_) (fun hc => ?_)
      · have h := h.1 hc
        refine a_aload_n C (pc := 40) 0 dX9_gaps_40 rfl rfl ?_
        refine a_get C (pc := 41) 0 27 inW_X9 rfl rfl (Nat.le_of_ble_eq_true rfl) wF_X9_62 rfl rfl dX9_gaps_41 ?_
        refine a_iload C (pc := 44) 4 dX9_gaps_44 rfl ?_
        refine a_iload C (pc := 46) 6 dX9_gaps_46 rfl ?_
        refine a_iload C (pc := 48) 5 dX9_gaps_48 rfl ?_
        refine a_isub C (pc := 50) dX9_gaps_50 ?_
        refine a_iconst C (pc := 51) dX9_gaps_51 ic_1 ?_
        refine a_isub C (pc := 52) dX9_gaps_52 ?_
        refine a_iast C (pc := 53) (ws1 := [(h0, oX9 d0 v_thrown v_taped v_at v_documents v_terms v_latest v_filed v_drafted v_place v_over v_clock v_askedTerms v_segments v_done v_postingsDone v_postingsAll v_why v_hits), ((d0 13), aI cs 5 v_size), ((d0 16), aI cs 12800 v_impact), ((d0 27), aI cs 40 (upd v_gap (l4 : Int32).toNatClampNeg ((l6 - l5) - 1)))]) 3 rfl h.1 dX9_gaps_53 rfl ?_
        replace h := h.2
        refine a_iload C (pc := 54) 6 dX9_gaps_54 rfl ?_
        refine a_istore C (pc := 56) (lv1 := [(0, .ref h0), (1, .int l1), (2, .int l2), (3, .int l3), (4, .int l4), (5, .int l6), (6, .int l6)]) [1, 2, 3, 4, 5, 0, 6] dX9_gaps_56 (by decide) rfl ?_
        refine a_iinc C (pc := 58) (lv1 := [(0, .ref h0), (1, .int l1), (2, .int l2), (3, .int l3), (4, .int (l4 + 1)), (5, .int l6), (6, .int l6)]) 4 [1, 2, 3, 4, 0, 5, 6] dX9_gaps_58 rfl (congrArg (fun z => l4 + z) ic_1) (by decide) rfl ?_
        refine a_iinc C (pc := 61) (lv1 := [(0, .ref h0), (1, .int l1), (2, .int l2), (3, .int l3), (4, .int (l4 + 1)), (5, .int l6), (6, .int (l6 + 1))]) 6 [1, 2, 3, 4, 5, 6, 0] dX9_gaps_61 rfl (congrArg (fun z => l6 + z) ic_1) (by decide) rfl ?_
        refine a_goto C (pc := 64) 9 dX9_gaps_64 (by decide) ?_
        exact ih (upd v_gap (l4 : Int32).toNatClampNeg ((l6 - l5) - 1)) l1 l2 l3 (l4 + 1) l6 (l6 + 1) h hK_67
      · have h := h.2 hc
        refine a_goto C (pc := 37) 61 dX9_gaps_37 (by decide) ?_
        refine a_iinc C (pc := 61) (lv1 := [(0, .ref h0), (1, .int l1), (2, .int l2), (3, .int l3), (4, .int l4), (5, .int l5), (6, .int (l6 + 1))]) 6 [1, 2, 3, 4, 5, 6, 0] dX9_gaps_61 rfl (congrArg (fun z => l6 + z) ic_1) (by decide) rfl ?_
        refine a_goto C (pc := 64) 9 dX9_gaps_64 (by decide) ?_
        exact ih v_gap l1 l2 l3 l4 l5 (l6 + 1) h hK_67
set_option maxRecDepth 100000 in
set_option maxHeartbeats 4000000 in
theorem m_X9_gaps (Lx : Launch) (Dx : va_G) (cs : Nat → ClassId) (h0 : Nat) (d0 : Nat → Nat) (v_thrown : Int32) (v_taped : Int32) (v_at : Int32) (v_documents : Int32) (v_terms : Int32) (v_latest : Int32) (v_filed : Int32) (v_drafted : Int32) (v_place : Int32) (v_over : Int32) (v_clock : Int64) (v_askedTerms : Int32) (v_segments : Int32) (v_done : Int32) (v_postingsDone : Int32) (v_postingsAll : Int32) (v_why : Int32) (v_hits : Int32) (v_size : Nat → Int32) (v_impact : Nat → Int32) (v_gap : Nat → Int32) (l1 : Int32) (l2 : Int32) (l3 : Int32) (Φ : Int32 → (Nat → Int32) → Prop) (h : P_X9_gaps v_size v_impact v_gap l1 l2 l3 Φ) : XMet Lx Dx cs yX9_gaps cX9_gaps 7 (some .int) 1 23 0 0 [.ref h0, .int l1, .int l2, .int l3] [(h0, oX9 d0 v_thrown v_taped v_at v_documents v_terms v_latest v_filed v_drafted v_place v_over v_clock v_askedTerms v_segments v_done v_postingsDone v_postingsAll v_why v_hits), ((d0 13), aI cs 5 v_size), ((d0 16), aI cs 12800 v_impact), ((d0 27), aI cs 40 v_gap)] (R_X9_gaps cs h0 d0 v_thrown v_taped v_at v_documents v_terms v_latest v_filed v_drafted v_place v_over v_clock v_askedTerms v_segments v_done v_postingsDone v_postingsAll v_why v_hits v_size v_impact Φ) (fun _ _ => False) := by
  refine XMet.of (own := RX9) (nm := "gaps") (by decide) rfl rfl (Nat.le_of_ble_eq_true rfl) (fun Γ C => ?_)
  unfold P_X9_gaps at h
  refine a_iconst C (pc := 0) dX9_gaps_0 ic_0 ?_
  refine a_istore C (pc := 1) (lv1 := [(0, .ref h0), (1, .int l1), (2, .int l2), (3, .int l3), (4, .int 0)]) [1, 2, 3, 4, 0] dX9_gaps_1 (by decide) rfl ?_
  refine a_iconst C (pc := 3) dX9_gaps_3 ic_m1 ?_
  refine a_istore C (pc := 4) (lv1 := [(0, .ref h0), (1, .int l1), (2, .int l2), (3, .int l3), (4, .int 0), (5, .int (-1))]) [1, 2, 3, 4, 5, 0] dX9_gaps_4 (by decide) rfl ?_
  refine a_iconst C (pc := 6) dX9_gaps_6 ic_0 ?_
  refine a_istore C (pc := 7) (lv1 := [(0, .ref h0), (1, .int l1), (2, .int l2), (3, .int l3), (4, .int 0), (5, .int (-1)), (6, .int 0)]) [1, 2, 3, 4, 5, 6, 0] dX9_gaps_7 (by decide) rfl ?_
  obtain ⟨n0, h⟩ := h
  refine w_X9_gaps_9 C (Nat.le_of_ble_eq_true rfl) (Nat.le_of_ble_eq_true rfl) n0 v_gap l1 l2 l3 0 (-1) 0 h ?_
  intro v_gap_4 l4_5 h
  refine a_iload C (pc := 67) 0 dX9_gaps_67 rfl ?_
  exact a_ireturn C (pc := 69) rfl dX9_gaps_69 (Nat.le_of_ble_eq_true rfl) (Nat.le_of_ble_eq_true rfl) ⟨_, _, rfl, rfl, h⟩
set_option maxRecDepth 100000 in
set_option maxHeartbeats 4000000 in
theorem w_X9_segmentsOf_7 {Γ : XG} {Lx : Launch} {Dx : va_G} {cs : Nat → ClassId} {h0 : Nat} {d0 : Nat → Nat} {v_thrown : Int32} {v_taped : Int32} {v_at : Int32} {v_documents : Int32} {v_terms : Int32} {v_latest : Int32} {v_filed : Int32} {v_drafted : Int32} {v_place : Int32} {v_over : Int32} {v_clock : Int64} {v_askedTerms : Int32} {v_segments : Int32} {v_done : Int32} {v_postingsDone : Int32} {v_postingsAll : Int32} {v_why : Int32} {v_hits : Int32} {v_size : Nat → Int32} {v_impact : Nat → Int32} {K_37 : (Nat → Int32) → Int32 → Prop} {Φ : Int32 → (Nat → Int32) → Prop} {k n9 : Nat} (C : CX Γ Lx Dx cs cX9_segmentsOf RX9 "segmentsOf" 5 (some .int) 2 49 0 0 (qEC cs 0 0 [] (R_X9_segmentsOf cs h0 d0 v_thrown v_taped v_at v_documents v_terms v_latest v_filed v_drafted v_place v_over v_clock v_askedTerms v_segments v_done v_postingsDone v_postingsAll v_why v_hits v_size v_impact Φ) (fun _ _ => False))) (hkm : k ≤ 0) (hnm : n9 ≤ 0) : ∀ n : Nat, ∀ (v_gap : Nat → Int32) (l1 : Int32) (l2 : Int32) (l3 : Int32) (l4 : Int32), L_X9_segmentsOf_7 n v_size v_impact v_gap l1 l2 l3 l4 K_37 Φ → (∀ (v_gap_3 : Nat → Int32) (l3_4 : Int32), K_37 v_gap_3 l3_4 → AW Γ k n9 37 [(3, .int l3_4)] [] [(h0, oX9 d0 v_thrown v_taped v_at v_documents v_terms v_latest v_filed v_drafted v_place v_over v_clock v_askedTerms v_segments v_done v_postingsDone v_postingsAll v_why v_hits), ((d0 13), aI cs 5 v_size), ((d0 16), aI cs 12800 v_impact), ((d0 27), aI cs 40 v_gap_3)]) → AW Γ k n9 7 [(0, .ref h0), (1, .int l1), (2, .int l2), (3, .int l3), (4, .int l4)] [] [(h0, oX9 d0 v_thrown v_taped v_at v_documents v_terms v_latest v_filed v_drafted v_place v_over v_clock v_askedTerms v_segments v_done v_postingsDone v_postingsAll v_why v_hits), ((d0 13), aI cs 5 v_size), ((d0 16), aI cs 12800 v_impact), ((d0 27), aI cs 40 v_gap)] := by
  intro n
  induction n with
  | zero =>
    intro v_gap l1 l2 l3 l4 h
    exact False.elim h
  | succ n ih =>
    intro v_gap l1 l2 l3 l4 h hK_37
    rw [L_X9_segmentsOf_7] at h
    refine a_iload C (pc := 7) 4 dX9_segmentsOf_7 rfl ?_
    refine a_if_le C (pc := 9) 37 dX9_segmentsOf_9 (by decide) (fun hc => ?_) (fun hc => ?_)
    · have h := h.1 hc
      refine a_lv (lv1 := [(3, .int l3)]) [3] rfl ?_
      exact hK_37 v_gap l3 h
    · have h := h.2 hc
      refine a_iload_n C (pc := 12) 3 dX9_segmentsOf_12 rfl rfl ?_
      refine a_aload_n C (pc := 13) 0 dX9_segmentsOf_13 rfl rfl ?_
      refine a_iload_n C (pc := 14) 1 dX9_segmentsOf_14 rfl rfl ?_
      refine a_iload_n C (pc := 15) 2 dX9_segmentsOf_15 rfl rfl ?_
      refine a_iload C (pc := 16) 4 dX9_segmentsOf_16 rfl ?_
      refine a_callV C (pc := 18) (av := [.int l1, .int l2, .int l4]) (wr := []) (m_X9_gaps Lx Dx cs h0 d0 v_thrown v_taped v_at v_documents v_terms v_latest v_filed v_drafted v_place v_over v_clock v_askedTerms v_segments v_done v_postingsDone v_postingsAll v_why v_hits v_size v_impact v_gap l1 l2 l4 _ h) [0, 1, 2, 3] [] rfl rfl (by decide) (by decide) (by decide) wM_X9_187 wb_X9_gaps hy_X9_gaps (q0 := 0) rfl rfl rfl ⟨Nat.le_of_ble_eq_true rfl, Nat.le_of_ble_eq_true rfl⟩ (Nat.le_of_ble_eq_true rfl) hkm hnm rfl dX9_segmentsOf_18 (fun v w1 hw => ?_) [] rfl (fun _ _ h => h.elim)
      obtain ⟨r_1, v_gap_2, rfl, rfl, h⟩ := hw
      refine a_ws (st1 := [.int r_1, .int l3]) (ws1 := [(h0, oX9 d0 v_thrown v_taped v_at v_documents v_terms v_latest v_filed v_drafted v_place v_over v_clock v_askedTerms v_segments v_done v_postingsDone v_postingsAll v_why v_hits), ((d0 13), aI cs 5 v_size), ((d0 16), aI cs 12800 v_impact), ((d0 27), aI cs 40 v_gap_2)]) k n9 21 [0, 1, 2, 3] rfl rfl rfl rfl (by decide) rfl ?_
      refine a_if_le C (pc := 21) 28 dX9_segmentsOf_21 (by decide) (fun hc => ?_) (fun hc => ?_)
      · have h := h.1 hc
        refine a_iconst C (pc := 28) dX9_segmentsOf_28 ic_0 ?_
        refine a_iadd C (pc := 29) dX9_segmentsOf_29 ?_
        refine a_istore_n C (pc := 30) (lv1 := [(0, .ref h0), (1, .int l1), (2, .int l2), (3, .int (l3 + 0)), (4, .int l4)]) [1, 2, 3, 0, 4] dX9_segmentsOf_30 rfl (by decide) rfl ?_
        refine a_iinc C (pc := 31) (lv1 := [(0, .ref h0), (1, .int l1), (2, .int l2), (3, .int (l3 + 0)), (4, .int (l4 + (-1)))]) 4 [1, 2, 3, 4, 0] dX9_segmentsOf_31 rfl (congrArg (fun z => l4 + z) ic_m1) (by decide) rfl ?_
        refine a_goto C (pc := 34) 7 dX9_segmentsOf_34 (by decide) ?_
        exact ih v_gap_2 l1 l2 (l3 + 0) (l4 + (-1)) h hK_37
      · have h := h.2 hc
        refine a_iconst C (pc := 24) dX9_segmentsOf_24 ic_1 ?_
        refine a_goto C (pc := 25) 29 dX9_segmentsOf_25 (by decide) ?_
        refine a_iadd C (pc := 29) dX9_segmentsOf_29 ?_
        refine a_istore_n C (pc := 30) (lv1 := [(0, .ref h0), (1, .int l1), (2, .int l2), (3, .int (l3 + 1)), (4, .int l4)]) [1, 2, 3, 0, 4] dX9_segmentsOf_30 rfl (by decide) rfl ?_
        refine a_iinc C (pc := 31) (lv1 := [(0, .ref h0), (1, .int l1), (2, .int l2), (3, .int (l3 + 1)), (4, .int (l4 + (-1)))]) 4 [1, 2, 3, 4, 0] dX9_segmentsOf_31 rfl (congrArg (fun z => l4 + z) ic_m1) (by decide) rfl ?_
        refine a_goto C (pc := 34) 7 dX9_segmentsOf_34 (by decide) ?_
        exact ih v_gap_2 l1 l2 (l3 + 1) (l4 + (-1)) h hK_37
set_option maxRecDepth 100000 in
set_option maxHeartbeats 4000000 in
theorem m_X9_segmentsOf (Lx : Launch) (Dx : va_G) (cs : Nat → ClassId) (h0 : Nat) (d0 : Nat → Nat) (v_thrown : Int32) (v_taped : Int32) (v_at : Int32) (v_documents : Int32) (v_terms : Int32) (v_latest : Int32) (v_filed : Int32) (v_drafted : Int32) (v_place : Int32) (v_over : Int32) (v_clock : Int64) (v_askedTerms : Int32) (v_segments : Int32) (v_done : Int32) (v_postingsDone : Int32) (v_postingsAll : Int32) (v_why : Int32) (v_hits : Int32) (v_size : Nat → Int32) (v_impact : Nat → Int32) (v_gap : Nat → Int32) (l1 : Int32) (l2 : Int32) (Φ : Int32 → (Nat → Int32) → Prop) (h : P_X9_segmentsOf v_size v_impact v_gap l1 l2 Φ) : XMet Lx Dx cs yX9_segmentsOf cX9_segmentsOf 5 (some .int) 2 49 0 0 [.ref h0, .int l1, .int l2] [(h0, oX9 d0 v_thrown v_taped v_at v_documents v_terms v_latest v_filed v_drafted v_place v_over v_clock v_askedTerms v_segments v_done v_postingsDone v_postingsAll v_why v_hits), ((d0 13), aI cs 5 v_size), ((d0 16), aI cs 12800 v_impact), ((d0 27), aI cs 40 v_gap)] (R_X9_segmentsOf cs h0 d0 v_thrown v_taped v_at v_documents v_terms v_latest v_filed v_drafted v_place v_over v_clock v_askedTerms v_segments v_done v_postingsDone v_postingsAll v_why v_hits v_size v_impact Φ) (fun _ _ => False) := by
  refine XMet.of (own := RX9) (nm := "segmentsOf") (by decide) rfl rfl (Nat.le_of_ble_eq_true rfl) (fun Γ C => ?_)
  unfold P_X9_segmentsOf at h
  refine a_iconst C (pc := 0) dX9_segmentsOf_0 ic_0 ?_
  refine a_istore_n C (pc := 1) (lv1 := [(0, .ref h0), (1, .int l1), (2, .int l2), (3, .int 0)]) [1, 2, 3, 0] dX9_segmentsOf_1 rfl (by decide) rfl ?_
  refine a_sipush C (pc := 2) dX9_segmentsOf_2 sp_255 ?_
  refine a_istore C (pc := 5) (lv1 := [(0, .ref h0), (1, .int l1), (2, .int l2), (3, .int 0), (4, .int 255)]) [1, 2, 3, 4, 0] dX9_segmentsOf_5 (by decide) rfl ?_
  obtain ⟨n0, h⟩ := h
  refine w_X9_segmentsOf_7 C (Nat.le_of_ble_eq_true rfl) (Nat.le_of_ble_eq_true rfl) n0 v_gap l1 l2 0 255 h ?_
  intro v_gap_5 l3_6 h
  refine a_iload_n C (pc := 37) 0 dX9_segmentsOf_37 rfl rfl ?_
  exact a_ireturn C (pc := 38) rfl dX9_segmentsOf_38 (Nat.le_of_ble_eq_true rfl) (Nat.le_of_ble_eq_true rfl) ⟨_, _, rfl, rfl, h⟩
set_option maxRecDepth 100000 in
set_option maxHeartbeats 4000000 in
theorem w_X9_lettersOf_2 {Γ : XG} {Lx : Launch} {Dx : va_G} {cs : Nat → ClassId} {h0 : Nat} {d0 : Nat → Nat} {v_thrown : Int32} {v_taped : Int32} {v_at : Int32} {v_documents : Int32} {v_terms : Int32} {v_latest : Int32} {v_filed : Int32} {v_drafted : Int32} {v_place : Int32} {v_over : Int32} {v_clock : Int64} {v_askedTerms : Int32} {v_segments : Int32} {v_done : Int32} {v_postingsDone : Int32} {v_postingsAll : Int32} {v_why : Int32} {v_hits : Int32} {v_letter : Nat → Int32} {K_34 : Int32 → Prop} {Φ : Int32 → Prop} {k n9 : Nat} (C : CX Γ Lx Dx cs cX9_lettersOf RX9 "lettersOf" 4 (some .int) 0 0 0 0 (qEC cs 0 0 [] (R_X9_lettersOf cs h0 d0 v_thrown v_taped v_at v_documents v_terms v_latest v_filed v_drafted v_place v_over v_clock v_askedTerms v_segments v_done v_postingsDone v_postingsAll v_why v_hits v_letter Φ) (fun _ _ => False))) (hkm : k ≤ 0) (hnm : n9 ≤ 0) : ∀ n : Nat, ∀ (l1 : Int32) (l2 : Int32) (l3 : Int32), L_X9_lettersOf_2 n v_letter l1 l2 l3 K_34 Φ → (∀ (l3_1 : Int32), K_34 l3_1 → AW Γ k n9 34 [(3, .int l3_1)] [] [(h0, oX9 d0 v_thrown v_taped v_at v_documents v_terms v_latest v_filed v_drafted v_place v_over v_clock v_askedTerms v_segments v_done v_postingsDone v_postingsAll v_why v_hits), ((d0 15), aI cs 2560 v_letter)]) → AW Γ k n9 2 [(0, .ref h0), (1, .int l1), (2, .int l2), (3, .int l3)] [] [(h0, oX9 d0 v_thrown v_taped v_at v_documents v_terms v_latest v_filed v_drafted v_place v_over v_clock v_askedTerms v_segments v_done v_postingsDone v_postingsAll v_why v_hits), ((d0 15), aI cs 2560 v_letter)] := by
  intro n
  induction n with
  | zero =>
    intro l1 l2 l3 h
    exact False.elim h
  | succ n ih =>
    intro l1 l2 l3 h hK_34
    rw [L_X9_lettersOf_2] at h
    refine a_iload_n C (pc := 2) 3 dX9_lettersOf_2 rfl rfl ?_
    refine a_bipush C (pc := 3) dX9_lettersOf_3 bp_8 ?_
    refine a_icmp_ge C (pc := 5) 34 dX9_lettersOf_5 (by decide) (fun hc => ?_) (fun hc => ?_)
    · have h := h.1 hc
      refine a_lv (lv1 := [(3, .int l3)]) [3] rfl ?_
      exact hK_34 l3 h
    · have h := h.2 hc
      refine a_aload_n C (pc := 8) 0 dX9_lettersOf_8 rfl rfl ?_
      refine a_get C (pc := 9) 0 15 inW_X9 rfl rfl (Nat.le_of_ble_eq_true rfl) wF_X9_40 rfl rfl dX9_lettersOf_9 ?_
      refine a_sipush C (pc := 12) dX9_lettersOf_12 sp_512 ?_
      refine a_iload_n C (pc := 15) 1 dX9_lettersOf_15 rfl rfl ?_
      refine a_imul C (pc := 16) dX9_lettersOf_16 ?_
      refine a_bipush C (pc := 17) dX9_lettersOf_17 bp_8 ?_
      refine a_iload_n C (pc := 19) 2 dX9_lettersOf_19 rfl rfl ?_
      refine a_imul C (pc := 20) dX9_lettersOf_20 ?_
      refine a_iadd C (pc := 21) dX9_lettersOf_21 ?_
      refine a_iload_n C (pc := 22) 3 dX9_lettersOf_22 rfl rfl ?_
      refine a_iadd C (pc := 23) dX9_lettersOf_23 ?_
      refine a_iald C (pc := 24) 1 rfl h.1 dX9_lettersOf_24 ?_
      replace h := h.2
      refine a_if_eq C (pc := 25) 34 dX9_lettersOf_25 (by decide) (fun hc => ?_) (fun hc => ?_)
      · have h := h.1 hc
        refine a_lv (lv1 := [(3, .int l3)]) [3] rfl ?_
        exact hK_34 l3 h
      · have h := h.2 hc
        refine a_iinc C (pc := 28) (lv1 := [(0, .ref h0), (1, .int l1), (2, .int l2), (3, .int (l3 + 1))]) 3 [1, 2, 3, 0] dX9_lettersOf_28 rfl (congrArg (fun z => l3 + z) ic_1) (by decide) rfl ?_
        refine a_goto C (pc := 31) 2 dX9_lettersOf_31 (by decide) ?_
        exact ih l1 l2 (l3 + 1) h hK_34
set_option maxRecDepth 100000 in
set_option maxHeartbeats 4000000 in
theorem m_X9_lettersOf (Lx : Launch) (Dx : va_G) (cs : Nat → ClassId) (h0 : Nat) (d0 : Nat → Nat) (v_thrown : Int32) (v_taped : Int32) (v_at : Int32) (v_documents : Int32) (v_terms : Int32) (v_latest : Int32) (v_filed : Int32) (v_drafted : Int32) (v_place : Int32) (v_over : Int32) (v_clock : Int64) (v_askedTerms : Int32) (v_segments : Int32) (v_done : Int32) (v_postingsDone : Int32) (v_postingsAll : Int32) (v_why : Int32) (v_hits : Int32) (v_letter : Nat → Int32) (l1 : Int32) (l2 : Int32) (Φ : Int32 → Prop) (h : P_X9_lettersOf v_letter l1 l2 Φ) : XMet Lx Dx cs yX9_lettersOf cX9_lettersOf 4 (some .int) 0 0 0 0 [.ref h0, .int l1, .int l2] [(h0, oX9 d0 v_thrown v_taped v_at v_documents v_terms v_latest v_filed v_drafted v_place v_over v_clock v_askedTerms v_segments v_done v_postingsDone v_postingsAll v_why v_hits), ((d0 15), aI cs 2560 v_letter)] (R_X9_lettersOf cs h0 d0 v_thrown v_taped v_at v_documents v_terms v_latest v_filed v_drafted v_place v_over v_clock v_askedTerms v_segments v_done v_postingsDone v_postingsAll v_why v_hits v_letter Φ) (fun _ _ => False) := by
  refine XMet.of (own := RX9) (nm := "lettersOf") (by decide) rfl rfl (Nat.le_of_ble_eq_true rfl) (fun Γ C => ?_)
  unfold P_X9_lettersOf at h
  refine a_iconst C (pc := 0) dX9_lettersOf_0 ic_0 ?_
  refine a_istore_n C (pc := 1) (lv1 := [(0, .ref h0), (1, .int l1), (2, .int l2), (3, .int 0)]) [1, 2, 3, 0] dX9_lettersOf_1 rfl (by decide) rfl ?_
  obtain ⟨n0, h⟩ := h
  refine w_X9_lettersOf_2 C (Nat.le_of_ble_eq_true rfl) (Nat.le_of_ble_eq_true rfl) n0 l1 l2 0 h ?_
  intro l3_2 h
  refine a_iload_n C (pc := 34) 0 dX9_lettersOf_34 rfl rfl ?_
  exact a_ireturn C (pc := 35) rfl dX9_lettersOf_35 (Nat.le_of_ble_eq_true rfl) (Nat.le_of_ble_eq_true rfl) ⟨_, rfl, rfl, h⟩
set_option maxRecDepth 100000 in
set_option maxHeartbeats 4000000 in
theorem w_X9_check_8 {Γ : XG} {Lx : Launch} {Dx : va_G} {cs : Nat → ClassId} {n_a0 : Nat} {h0 : Nat} {v_a0 : Nat → Int32} {K_42 : Int64 → Int64 → Prop} {Φ : Int64 → Prop} {k n9 : Nat} (C : CX Γ Lx Dx cs cX9_check RX9 "check" 7 (some .long) 0 0 0 0 (qEC cs 0 0 [] (R_X9_check cs n_a0 h0 v_a0 Φ) (fun _ _ => False))) (hkm : k ≤ 0) (hnm : n9 ≤ 0) : ∀ n : Nat, ∀ (l1 : Int32) (l2 : Int64) (l4 : Int64) (l6 : Int32), L_X9_check_8 n n_a0 v_a0 l1 l2 l4 l6 K_42 Φ → (∀ (l2_1 : Int64) (l4_2 : Int64), K_42 l2_1 l4_2 → AW Γ k n9 42 [(2, .long l2_1), (4, .long l4_2)] [] [(h0, aI cs n_a0 v_a0)]) → AW Γ k n9 8 [(0, .ref h0), (1, .int l1), (2, .long l2), (4, .long l4), (6, .int l6)] [] [(h0, aI cs n_a0 v_a0)] := by
  intro n
  induction n with
  | zero =>
    intro l1 l2 l4 l6 h
    exact False.elim h
  | succ n ih =>
    intro l1 l2 l4 l6 h hK_42
    rw [L_X9_check_8] at h
    refine a_iload C (pc := 8) 4 dX9_check_8 rfl ?_
    refine a_iload_n C (pc := 10) 1 dX9_check_10 rfl rfl ?_
    refine a_icmp_ge C (pc := 11) 42 dX9_check_11 (by decide) (fun hc => ?_) (fun hc => ?_)
    · have h := h.1 hc
      refine a_lv (lv1 := [(2, .long l2), (4, .long l4)]) [2, 3] rfl ?_
      exact hK_42 l2 l4 h
    · have h := h.2 hc
      refine a_lload_n C (pc := 14) 2 dX9_check_14 rfl rfl ?_
      refine a_aload_n C (pc := 15) 0 dX9_check_15 rfl rfl ?_
      refine a_iload C (pc := 16) 4 dX9_check_16 rfl ?_
      refine a_iald C (pc := 18) 0 rfl h.1 dX9_check_18 ?_
      replace h := h.2
      refine a_i2l C (pc := 19) dX9_check_19 ?_
      refine a_ladd C (pc := 20) dX9_check_20 ?_
      refine a_ldc2 C (pc := 21) wC_X9_205 dX9_check_21 ?_
      refine a_lrem C (pc := 24) dX9_check_24 (by decide) ?_
      refine a_lstore_n C (pc := 25) (lv1 := [(0, .ref h0), (1, .int l1), (2, .long ((l2 + (((v_a0 (l6 : Int32).toNatClampNeg) : Int32).toInt64)) - (l2 + (((v_a0 (l6 : Int32).toNatClampNeg) : Int32).toInt64)) / 65521 * 65521)), (4, .long l4), (6, .int l6)]) [1, 2, 0, 3, 4] dX9_check_25 rfl (by decide) rfl ?_
      refine a_lload C (pc := 26) 3 dX9_check_26 rfl ?_
      refine a_lload_n C (pc := 28) 2 dX9_check_28 rfl rfl ?_
      refine a_ladd C (pc := 29) dX9_check_29 ?_
      refine a_ldc2 C (pc := 30) wC_X9_205 dX9_check_30 ?_
      refine a_lrem C (pc := 33) dX9_check_33 (by decide) ?_
      refine a_lstore C (pc := 34) (lv1 := [(0, .ref h0), (1, .int l1), (2, .long ((l2 + (((v_a0 (l6 : Int32).toNatClampNeg) : Int32).toInt64)) - (l2 + (((v_a0 (l6 : Int32).toNatClampNeg) : Int32).toInt64)) / 65521 * 65521)), (4, .long ((l4 + ((l2 + (((v_a0 (l6 : Int32).toNatClampNeg) : Int32).toInt64)) - (l2 + (((v_a0 (l6 : Int32).toNatClampNeg) : Int32).toInt64)) / 65521 * 65521)) - (l4 + ((l2 + (((v_a0 (l6 : Int32).toNatClampNeg) : Int32).toInt64)) - (l2 + (((v_a0 (l6 : Int32).toNatClampNeg) : Int32).toInt64)) / 65521 * 65521)) / 65521 * 65521)), (6, .int l6)]) [1, 2, 3, 0, 4] dX9_check_34 (by decide) rfl ?_
      refine a_iinc C (pc := 36) (lv1 := [(0, .ref h0), (1, .int l1), (2, .long ((l2 + (((v_a0 (l6 : Int32).toNatClampNeg) : Int32).toInt64)) - (l2 + (((v_a0 (l6 : Int32).toNatClampNeg) : Int32).toInt64)) / 65521 * 65521)), (4, .long ((l4 + ((l2 + (((v_a0 (l6 : Int32).toNatClampNeg) : Int32).toInt64)) - (l2 + (((v_a0 (l6 : Int32).toNatClampNeg) : Int32).toInt64)) / 65521 * 65521)) - (l4 + ((l2 + (((v_a0 (l6 : Int32).toNatClampNeg) : Int32).toInt64)) - (l2 + (((v_a0 (l6 : Int32).toNatClampNeg) : Int32).toInt64)) / 65521 * 65521)) / 65521 * 65521)), (6, .int (l6 + 1))]) 4 [1, 2, 3, 4, 0] dX9_check_36 rfl (congrArg (fun z => l6 + z) ic_1) (by decide) rfl ?_
      refine a_goto C (pc := 39) 8 dX9_check_39 (by decide) ?_
      exact ih l1 ((l2 + (((v_a0 (l6 : Int32).toNatClampNeg) : Int32).toInt64)) - (l2 + (((v_a0 (l6 : Int32).toNatClampNeg) : Int32).toInt64)) / 65521 * 65521) ((l4 + ((l2 + (((v_a0 (l6 : Int32).toNatClampNeg) : Int32).toInt64)) - (l2 + (((v_a0 (l6 : Int32).toNatClampNeg) : Int32).toInt64)) / 65521 * 65521)) - (l4 + ((l2 + (((v_a0 (l6 : Int32).toNatClampNeg) : Int32).toInt64)) - (l2 + (((v_a0 (l6 : Int32).toNatClampNeg) : Int32).toInt64)) / 65521 * 65521)) / 65521 * 65521) (l6 + 1) h hK_42
set_option maxRecDepth 100000 in
set_option maxHeartbeats 4000000 in
theorem m_X9_check (Lx : Launch) (Dx : va_G) (cs : Nat → ClassId) (n_a0 : Nat) (h0 : Nat) (v_a0 : Nat → Int32) (l1 : Int32) (Φ : Int64 → Prop) (h : P_X9_check n_a0 v_a0 l1 Φ) : XMet Lx Dx cs yX9_check cX9_check 7 (some .long) 0 0 0 0 [.ref h0, .int l1] [(h0, aI cs n_a0 v_a0)] (R_X9_check cs n_a0 h0 v_a0 Φ) (fun _ _ => False) := by
  refine XMet.of (own := RX9) (nm := "check") (by decide) rfl rfl (Nat.le_of_ble_eq_true rfl) (fun Γ C => ?_)
  unfold P_X9_check at h
  refine a_lconst C (pc := 0) (v := 1) dX9_check_0 rfl ?_
  refine a_lstore_n C (pc := 1) (lv1 := [(0, .ref h0), (1, .int l1), (2, .long 1)]) [1, 2, 0] dX9_check_1 rfl (by decide) rfl ?_
  refine a_lconst C (pc := 2) (v := 0) dX9_check_2 rfl ?_
  refine a_lstore C (pc := 3) (lv1 := [(0, .ref h0), (1, .int l1), (2, .long 1), (4, .long 0)]) [1, 2, 3, 0] dX9_check_3 (by decide) rfl ?_
  refine a_iconst C (pc := 5) dX9_check_5 ic_0 ?_
  refine a_istore C (pc := 6) (lv1 := [(0, .ref h0), (1, .int l1), (2, .long 1), (4, .long 0), (6, .int 0)]) [1, 2, 3, 4, 0] dX9_check_6 (by decide) rfl ?_
  obtain ⟨n0, h⟩ := h
  refine w_X9_check_8 C (Nat.le_of_ble_eq_true rfl) (Nat.le_of_ble_eq_true rfl) n0 l1 1 0 0 h ?_
  intro l2_3 l4_4 h
  refine a_lload_n C (pc := 42) 0 dX9_check_42 rfl rfl ?_
  refine a_ldc2 C (pc := 43) wC_X9_207 dX9_check_43 ?_
  refine a_lload C (pc := 46) 1 dX9_check_46 rfl ?_
  refine a_lmul C (pc := 48) dX9_check_48 ?_
  refine a_ladd C (pc := 49) dX9_check_49 ?_
  refine a_ldc2 C (pc := 50) wC_X9_209 dX9_check_50 ?_
  refine a_land C (pc := 53) dX9_check_53 ?_
  exact a_lreturn C (pc := 54) rfl dX9_check_54 (Nat.le_of_ble_eq_true rfl) (Nat.le_of_ble_eq_true rfl) ⟨_, rfl, rfl, h⟩
set_option maxRecDepth 100000 in
set_option maxHeartbeats 4000000 in
theorem w_X9_writes_81 {Γ : XG} {Lx : Launch} {Dx : va_G} {cs : Nat → ClassId} {h0 : Nat} {d0 : Nat → Nat} {v_thrown : Int32} {v_taped : Int32} {v_at : Int32} {v_documents : Int32} {v_terms : Int32} {v_latest : Int32} {v_filed : Int32} {v_place : Int32} {v_over : Int32} {v_clock : Int64} {v_askedTerms : Int32} {v_segments : Int32} {v_done : Int32} {v_postingsDone : Int32} {v_postingsAll : Int32} {v_why : Int32} {v_hits : Int32} {v_bits : Nat → Int32} {v_codec : Nat → Int32} {v_size : Nat → Int32} {v_words : Nat → Int32} {v_letter : Nat → Int32} {v_impact : Nat → Int32} {K_118 : Int32 → (Nat → Int32) → (Nat → Int32) → Int32 → Int32 → Prop} {Φ : Int32 → (Nat → Int32) → (Nat → Int32) → Prop} {k n9 : Nat} (C : CX Γ Lx Dx cs cX9_writes RX9 "writes" 5 none 3 73 0 0 (qEC cs 0 0 [] (R_X9_writes cs h0 d0 v_thrown v_taped v_at v_documents v_terms v_latest v_filed v_place v_over v_clock v_askedTerms v_segments v_done v_postingsDone v_postingsAll v_why v_hits v_bits v_codec v_size v_words v_letter v_impact Φ) (fun _ _ => False))) (hkm : k ≤ 0) (hnm : n9 ≤ 0) : ∀ n : Nat, ∀ (v_drafted : Int32) (v_draft : Nat → Int32) (v_gap : Nat → Int32) (l1 : Int32) (l2 : Int32) (l3 : Int32), L_X9_writes_81 n v_drafted v_draft v_bits v_codec v_size v_words v_letter v_impact v_gap l1 l2 l3 K_118 Φ → (∀ (v_drafted_19 : Int32) (v_draft_20 : Nat → Int32) (v_gap_21 : Nat → Int32) (l1_22 : Int32) (l2_23 : Int32), K_118 v_drafted_19 v_draft_20 v_gap_21 l1_22 l2_23 → AW Γ k n9 118 [(0, .ref h0), (1, .int l1_22), (2, .int l2_23)] [] [(h0, oX9 d0 v_thrown v_taped v_at v_documents v_terms v_latest v_filed v_drafted_19 v_place v_over v_clock v_askedTerms v_segments v_done v_postingsDone v_postingsAll v_why v_hits), ((d0 22), aI cs 16000 v_draft_20), ((d0 11), aI cs 5 v_bits), ((d0 12), aI cs 5 v_codec), ((d0 13), aI cs 5 v_size), ((d0 14), aI cs 5 v_words), ((d0 15), aI cs 2560 v_letter), ((d0 16), aI cs 12800 v_impact), ((d0 27), aI cs 40 v_gap_21)]) → AW Γ k n9 81 [(0, .ref h0), (1, .int l1), (2, .int l2), (3, .int l3)] [] [(h0, oX9 d0 v_thrown v_taped v_at v_documents v_terms v_latest v_filed v_drafted v_place v_over v_clock v_askedTerms v_segments v_done v_postingsDone v_postingsAll v_why v_hits), ((d0 22), aI cs 16000 v_draft), ((d0 11), aI cs 5 v_bits), ((d0 12), aI cs 5 v_codec), ((d0 13), aI cs 5 v_size), ((d0 14), aI cs 5 v_words), ((d0 15), aI cs 2560 v_letter), ((d0 16), aI cs 12800 v_impact), ((d0 27), aI cs 40 v_gap)] := by
  intro n
  induction n with
  | zero =>
    intro v_drafted v_draft v_gap l1 l2 l3 h
    exact False.elim h
  | succ n ih =>
    intro v_drafted v_draft v_gap l1 l2 l3 h hK_118
    rw [L_X9_writes_81] at h
    refine a_iload_n C (pc := 81) 3 dX9_writes_81 rfl rfl ?_
    refine a_aload_n C (pc := 82) 0 dX9_writes_82 rfl rfl ?_
    refine a_iload_n C (pc := 83) 1 dX9_writes_83 rfl rfl ?_
    refine a_iload_n C (pc := 84) 2 dX9_writes_84 rfl rfl ?_
    refine a_callV C (pc := 85) (av := [.int l1, .int l2]) (wr := [((d0 22), aI cs 16000 v_draft), ((d0 11), aI cs 5 v_bits), ((d0 12), aI cs 5 v_codec), ((d0 13), aI cs 5 v_size), ((d0 14), aI cs 5 v_words), ((d0 16), aI cs 12800 v_impact), ((d0 27), aI cs 40 v_gap)]) (m_X9_lettersOf Lx Dx cs h0 d0 v_thrown v_taped v_at v_documents v_terms v_latest v_filed v_drafted v_place v_over v_clock v_askedTerms v_segments v_done v_postingsDone v_postingsAll v_why v_hits v_letter l1 l2 _ h) [0, 6] [1, 2, 3, 4, 5, 7, 8] rfl rfl (by decide) (by decide) (by decide) wM_X9_190 wb_X9_lettersOf hy_X9_lettersOf (q0 := 0) rfl rfl rfl ⟨Nat.le_of_ble_eq_true rfl, Nat.le_of_ble_eq_true rfl⟩ (Nat.le_of_ble_eq_true rfl) hkm hnm rfl dX9_writes_85 (fun v w1 hw => ?_) [] rfl (fun _ _ h => h.elim)
    obtain ⟨r_16, rfl, rfl, h⟩ := hw
    refine a_ws (st1 := [.int r_16, .int l3]) (ws1 := [(h0, oX9 d0 v_thrown v_taped v_at v_documents v_terms v_latest v_filed v_drafted v_place v_over v_clock v_askedTerms v_segments v_done v_postingsDone v_postingsAll v_why v_hits), ((d0 22), aI cs 16000 v_draft), ((d0 11), aI cs 5 v_bits), ((d0 12), aI cs 5 v_codec), ((d0 13), aI cs 5 v_size), ((d0 14), aI cs 5 v_words), ((d0 15), aI cs 2560 v_letter), ((d0 16), aI cs 12800 v_impact), ((d0 27), aI cs 40 v_gap)]) k n9 88 [7, 0, 1, 2, 3, 4, 8, 5, 6] rfl rfl rfl rfl (by decide) rfl ?_
    refine a_icmp_ge C (pc := 88) 118 dX9_writes_88 (by decide) (fun hc => ?_) (fun hc => ?_)
    · have h := h.1 hc
      refine a_lv (lv1 := [(0, .ref h0), (1, .int l1), (2, .int l2)]) [0, 1, 2] rfl ?_
      exact hK_118 v_drafted v_draft v_gap l1 l2 h
    · have h := h.2 hc
      refine a_aload_n C (pc := 91) 0 dX9_writes_91 rfl rfl ?_
      refine a_aload_n C (pc := 92) 0 dX9_writes_92 rfl rfl ?_
      refine a_get C (pc := 93) 0 15 inW_X9 rfl rfl (Nat.le_of_ble_eq_true rfl) wF_X9_40 rfl rfl dX9_writes_93 ?_
      refine a_sipush C (pc := 96) dX9_writes_96 sp_512 ?_
      refine a_iload_n C (pc := 99) 1 dX9_writes_99 rfl rfl ?_
      refine a_imul C (pc := 100) dX9_writes_100 ?_
      refine a_bipush C (pc := 101) dX9_writes_101 bp_8 ?_
      refine a_iload_n C (pc := 103) 2 dX9_writes_103 rfl rfl ?_
      refine a_imul C (pc := 104) dX9_writes_104 ?_
      refine a_iadd C (pc := 105) dX9_writes_105 ?_
      refine a_iload_n C (pc := 106) 3 dX9_writes_106 rfl rfl ?_
      refine a_iadd C (pc := 107) dX9_writes_107 ?_
      refine a_iald C (pc := 108) 6 rfl h.1 dX9_writes_108 ?_
      replace h := h.2
      refine a_callV C (pc := 109) (av := [.int (v_letter (((512 * l1) + (8 * l2)) + l3 : Int32).toNatClampNeg)]) (wr := [((d0 11), aI cs 5 v_bits), ((d0 12), aI cs 5 v_codec), ((d0 13), aI cs 5 v_size), ((d0 14), aI cs 5 v_words), ((d0 15), aI cs 2560 v_letter), ((d0 16), aI cs 12800 v_impact), ((d0 27), aI cs 40 v_gap)]) (m_X9_put Lx Dx cs h0 d0 v_thrown v_taped v_at v_documents v_terms v_latest v_filed v_drafted v_place v_over v_clock v_askedTerms v_segments v_done v_postingsDone v_postingsAll v_why v_hits v_draft (v_letter (((512 * l1) + (8 * l2)) + l3 : Int32).toNatClampNeg) _ h) [0, 1] [2, 3, 4, 5, 6, 7, 8] rfl rfl (by decide) (by decide) (by decide) wM_X9_171 wb_X9_put hy_X9_put (q0 := 0) rfl rfl rfl ⟨Nat.le_of_ble_eq_true rfl, Nat.le_of_ble_eq_true rfl⟩ (Nat.le_of_ble_eq_true rfl) hkm hnm rfl dX9_writes_109 (fun v w1 hw => ?_) [] rfl (fun _ _ h => h.elim)
      obtain ⟨v_drafted_17, v_draft_18, rfl, rfl, h⟩ := hw
      refine a_ws (st1 := []) (ws1 := [(h0, oX9 d0 v_thrown v_taped v_at v_documents v_terms v_latest v_filed v_drafted_17 v_place v_over v_clock v_askedTerms v_segments v_done v_postingsDone v_postingsAll v_why v_hits), ((d0 22), aI cs 16000 v_draft_18), ((d0 11), aI cs 5 v_bits), ((d0 12), aI cs 5 v_codec), ((d0 13), aI cs 5 v_size), ((d0 14), aI cs 5 v_words), ((d0 15), aI cs 2560 v_letter), ((d0 16), aI cs 12800 v_impact), ((d0 27), aI cs 40 v_gap)]) k n9 112 [7, 8, 0, 1, 2, 3, 4, 5, 6] rfl rfl rfl rfl (by decide) rfl ?_
      refine a_iinc C (pc := 112) (lv1 := [(0, .ref h0), (1, .int l1), (2, .int l2), (3, .int (l3 + 1))]) 3 [1, 2, 3, 0] dX9_writes_112 rfl (congrArg (fun z => l3 + z) ic_1) (by decide) rfl ?_
      refine a_goto C (pc := 115) 81 dX9_writes_115 (by decide) ?_
      exact ih v_drafted_17 v_draft_18 v_gap l1 l2 (l3 + 1) h hK_118
set_option maxRecDepth 100000 in
set_option maxHeartbeats 4000000 in
theorem w_X9_writes_132 {Γ : XG} {Lx : Launch} {Dx : va_G} {cs : Nat → ClassId} {h0 : Nat} {d0 : Nat → Nat} {v_thrown : Int32} {v_taped : Int32} {v_at : Int32} {v_documents : Int32} {v_terms : Int32} {v_latest : Int32} {v_filed : Int32} {v_place : Int32} {v_over : Int32} {v_clock : Int64} {v_askedTerms : Int32} {v_segments : Int32} {v_done : Int32} {v_postingsDone : Int32} {v_postingsAll : Int32} {v_why : Int32} {v_hits : Int32} {v_bits : Nat → Int32} {v_codec : Nat → Int32} {v_size : Nat → Int32} {v_words : Nat → Int32} {v_letter : Nat → Int32} {v_impact : Nat → Int32} {K_182 : Int32 → (Nat → Int32) → (Nat → Int32) → Int32 → Int32 → Prop} {Φ : Int32 → (Nat → Int32) → (Nat → Int32) → Prop} {k n9 : Nat} (C : CX Γ Lx Dx cs cX9_writes RX9 "writes" 5 none 3 73 0 0 (qEC cs 0 0 [] (R_X9_writes cs h0 d0 v_thrown v_taped v_at v_documents v_terms v_latest v_filed v_place v_over v_clock v_askedTerms v_segments v_done v_postingsDone v_postingsAll v_why v_hits v_bits v_codec v_size v_words v_letter v_impact Φ) (fun _ _ => False))) (hkm : k ≤ 0) (hnm : n9 ≤ 0) : ∀ n : Nat, ∀ (v_drafted : Int32) (v_draft : Nat → Int32) (v_gap : Nat → Int32) (l1 : Int32) (l2 : Int32) (l3 : Int32), L_X9_writes_132 n v_drafted v_draft v_bits v_codec v_size v_words v_letter v_impact v_gap l1 l2 l3 K_182 Φ → (∀ (v_drafted_41 : Int32) (v_draft_42 : Nat → Int32) (v_gap_43 : Nat → Int32) (l1_44 : Int32) (l2_45 : Int32), K_182 v_drafted_41 v_draft_42 v_gap_43 l1_44 l2_45 → AW Γ k n9 182 [(0, .ref h0), (1, .int l1_44), (2, .int l2_45)] [] [(h0, oX9 d0 v_thrown v_taped v_at v_documents v_terms v_latest v_filed v_drafted_41 v_place v_over v_clock v_askedTerms v_segments v_done v_postingsDone v_postingsAll v_why v_hits), ((d0 22), aI cs 16000 v_draft_42), ((d0 11), aI cs 5 v_bits), ((d0 12), aI cs 5 v_codec), ((d0 13), aI cs 5 v_size), ((d0 14), aI cs 5 v_words), ((d0 15), aI cs 2560 v_letter), ((d0 16), aI cs 12800 v_impact), ((d0 27), aI cs 40 v_gap_43)]) → AW Γ k n9 132 [(0, .ref h0), (1, .int l1), (2, .int l2), (3, .int l3)] [] [(h0, oX9 d0 v_thrown v_taped v_at v_documents v_terms v_latest v_filed v_drafted v_place v_over v_clock v_askedTerms v_segments v_done v_postingsDone v_postingsAll v_why v_hits), ((d0 22), aI cs 16000 v_draft), ((d0 11), aI cs 5 v_bits), ((d0 12), aI cs 5 v_codec), ((d0 13), aI cs 5 v_size), ((d0 14), aI cs 5 v_words), ((d0 15), aI cs 2560 v_letter), ((d0 16), aI cs 12800 v_impact), ((d0 27), aI cs 40 v_gap)] := by
  intro n
  induction n with
  | zero =>
    intro v_drafted v_draft v_gap l1 l2 l3 h
    exact False.elim h
  | succ n ih =>
    intro v_drafted v_draft v_gap l1 l2 l3 h hK_182
    rw [L_X9_writes_132] at h
    refine a_iload_n C (pc := 132) 3 dX9_writes_132 rfl rfl ?_
    refine a_if_le C (pc := 133) 182 dX9_writes_133 (by decide) (fun hc => ?_) (fun hc => ?_)
    · have h := h.1 hc
      refine a_lv (lv1 := [(0, .ref h0), (1, .int l1), (2, .int l2)]) [0, 1, 2] rfl ?_
      exact hK_182 v_drafted v_draft v_gap l1 l2 h
    · have h := h.2 hc
      refine a_aload_n C (pc := 136) 0 dX9_writes_136 rfl rfl ?_
      refine a_iload_n C (pc := 137) 1 dX9_writes_137 rfl rfl ?_
      refine a_iload_n C (pc := 138) 2 dX9_writes_138 rfl rfl ?_
      refine a_iload_n C (pc := 139) 3 dX9_writes_139 rfl rfl ?_
      refine a_callV C (pc := 140) (av := [.int l1, .int l2, .int l3]) (wr := [((d0 22), aI cs 16000 v_draft), ((d0 11), aI cs 5 v_bits), ((d0 12), aI cs 5 v_codec), ((d0 14), aI cs 5 v_words), ((d0 15), aI cs 2560 v_letter)]) (m_X9_gaps Lx Dx cs h0 d0 v_thrown v_taped v_at v_documents v_terms v_latest v_filed v_drafted v_place v_over v_clock v_askedTerms v_segments v_done v_postingsDone v_postingsAll v_why v_hits v_size v_impact v_gap l1 l2 l3 _ h) [0, 4, 7, 8] [1, 2, 3, 5, 6] rfl rfl (by decide) (by decide) (by decide) wM_X9_187 wb_X9_gaps hy_X9_gaps (q0 := 0) rfl rfl rfl ⟨Nat.le_of_ble_eq_true rfl, Nat.le_of_ble_eq_true rfl⟩ (Nat.le_of_ble_eq_true rfl) hkm hnm rfl dX9_writes_140 (fun v w1 hw => ?_) [] rfl (fun _ _ h => h.elim)
      obtain ⟨r_33, v_gap_34, rfl, rfl, h⟩ := hw
      refine a_ws (st1 := [.int r_33]) (ws1 := [(h0, oX9 d0 v_thrown v_taped v_at v_documents v_terms v_latest v_filed v_drafted v_place v_over v_clock v_askedTerms v_segments v_done v_postingsDone v_postingsAll v_why v_hits), ((d0 22), aI cs 16000 v_draft), ((d0 11), aI cs 5 v_bits), ((d0 12), aI cs 5 v_codec), ((d0 13), aI cs 5 v_size), ((d0 14), aI cs 5 v_words), ((d0 15), aI cs 2560 v_letter), ((d0 16), aI cs 12800 v_impact), ((d0 27), aI cs 40 v_gap_34)]) k n9 143 [5, 0, 1, 2, 6, 3, 4, 7, 8] rfl rfl rfl rfl (by decide) rfl ?_
      refine a_istore C (pc := 143) (lv1 := [(0, .ref h0), (1, .int l1), (2, .int l2), (3, .int l3), (4, .int r_33)]) [1, 2, 3, 4, 0] dX9_writes_143 (by decide) rfl ?_
      refine a_iload C (pc := 145) 4 dX9_writes_145 rfl ?_
      refine a_if_ne C (pc := 147) 153 dX9_writes_147 (by decide) (fun hc => ?_) (fun hc => ?_)
      · have h := h.1 hc
        refine a_aload_n C (pc := 153) 0 dX9_writes_153 rfl rfl ?_
        refine a_iload_n C (pc := 154) 3 dX9_writes_154 rfl rfl ?_
        refine a_callV C (pc := 155) (av := [.int l3]) (wr := [((d0 11), aI cs 5 v_bits), ((d0 12), aI cs 5 v_codec), ((d0 13), aI cs 5 v_size), ((d0 14), aI cs 5 v_words), ((d0 15), aI cs 2560 v_letter), ((d0 16), aI cs 12800 v_impact), ((d0 27), aI cs 40 v_gap_34)]) (m_X9_put Lx Dx cs h0 d0 v_thrown v_taped v_at v_documents v_terms v_latest v_filed v_drafted v_place v_over v_clock v_askedTerms v_segments v_done v_postingsDone v_postingsAll v_why v_hits v_draft l3 _ h) [0, 1] [2, 3, 4, 5, 6, 7, 8] rfl rfl (by decide) (by decide) (by decide) wM_X9_171 wb_X9_put hy_X9_put (q0 := 0) rfl rfl rfl ⟨Nat.le_of_ble_eq_true rfl, Nat.le_of_ble_eq_true rfl⟩ (Nat.le_of_ble_eq_true rfl) hkm hnm rfl dX9_writes_155 (fun v w1 hw => ?_) [] rfl (fun _ _ h => h.elim)
        obtain ⟨v_drafted_35, v_draft_36, rfl, rfl, h⟩ := hw
        refine a_ws (st1 := []) (ws1 := [(h0, oX9 d0 v_thrown v_taped v_at v_documents v_terms v_latest v_filed v_drafted_35 v_place v_over v_clock v_askedTerms v_segments v_done v_postingsDone v_postingsAll v_why v_hits), ((d0 22), aI cs 16000 v_draft_36), ((d0 11), aI cs 5 v_bits), ((d0 12), aI cs 5 v_codec), ((d0 13), aI cs 5 v_size), ((d0 14), aI cs 5 v_words), ((d0 15), aI cs 2560 v_letter), ((d0 16), aI cs 12800 v_impact), ((d0 27), aI cs 40 v_gap_34)]) k n9 158 [7, 8, 0, 1, 2, 3, 4, 5, 6] rfl rfl rfl rfl (by decide) rfl ?_
        refine a_aload_n C (pc := 158) 0 dX9_writes_158 rfl rfl ?_
        refine a_iload C (pc := 159) 4 dX9_writes_159 rfl ?_
        refine a_callV C (pc := 161) (av := [.int r_33]) (wr := [((d0 11), aI cs 5 v_bits), ((d0 12), aI cs 5 v_codec), ((d0 13), aI cs 5 v_size), ((d0 14), aI cs 5 v_words), ((d0 15), aI cs 2560 v_letter), ((d0 16), aI cs 12800 v_impact), ((d0 27), aI cs 40 v_gap_34)]) (m_X9_put Lx Dx cs h0 d0 v_thrown v_taped v_at v_documents v_terms v_latest v_filed v_drafted_35 v_place v_over v_clock v_askedTerms v_segments v_done v_postingsDone v_postingsAll v_why v_hits v_draft_36 r_33 _ h) [0, 1] [2, 3, 4, 5, 6, 7, 8] rfl rfl (by decide) (by decide) (by decide) wM_X9_171 wb_X9_put hy_X9_put (q0 := 0) rfl rfl rfl ⟨Nat.le_of_ble_eq_true rfl, Nat.le_of_ble_eq_true rfl⟩ (Nat.le_of_ble_eq_true rfl) hkm hnm rfl dX9_writes_161 (fun v w1 hw => ?_) [] rfl (fun _ _ h => h.elim)
        obtain ⟨v_drafted_37, v_draft_38, rfl, rfl, h⟩ := hw
        refine a_ws (st1 := []) (ws1 := [(h0, oX9 d0 v_thrown v_taped v_at v_documents v_terms v_latest v_filed v_drafted_37 v_place v_over v_clock v_askedTerms v_segments v_done v_postingsDone v_postingsAll v_why v_hits), ((d0 22), aI cs 16000 v_draft_38), ((d0 11), aI cs 5 v_bits), ((d0 12), aI cs 5 v_codec), ((d0 13), aI cs 5 v_size), ((d0 14), aI cs 5 v_words), ((d0 15), aI cs 2560 v_letter), ((d0 16), aI cs 12800 v_impact), ((d0 27), aI cs 40 v_gap_34)]) k n9 164 [7, 8, 0, 1, 2, 3, 4, 5, 6] rfl rfl rfl rfl (by decide) rfl ?_
        refine a_aload_n C (pc := 164) 0 dX9_writes_164 rfl rfl ?_
        refine a_aload_n C (pc := 165) 0 dX9_writes_165 rfl rfl ?_
        refine a_get C (pc := 166) 0 12 inW_X9 rfl rfl (Nat.le_of_ble_eq_true rfl) wF_X9_31 rfl rfl dX9_writes_166 ?_
        refine a_iload_n C (pc := 169) 1 dX9_writes_169 rfl rfl ?_
        refine a_iald C (pc := 170) 3 rfl h.1 dX9_writes_170 ?_
        replace h := h.2
        refine a_iload C (pc := 171) 4 dX9_writes_171 rfl ?_
        refine a_callV C (pc := 173) (av := [.int (v_codec (l1 : Int32).toNatClampNeg), .int r_33]) (wr := [((d0 11), aI cs 5 v_bits), ((d0 12), aI cs 5 v_codec), ((d0 13), aI cs 5 v_size), ((d0 14), aI cs 5 v_words), ((d0 15), aI cs 2560 v_letter), ((d0 16), aI cs 12800 v_impact)]) (m_X9_putGaps Lx Dx cs h0 d0 v_thrown v_taped v_at v_documents v_terms v_latest v_filed v_drafted_37 v_place v_over v_clock v_askedTerms v_segments v_done v_postingsDone v_postingsAll v_why v_hits v_gap_34 v_draft_38 (v_codec (l1 : Int32).toNatClampNeg) r_33 _ h) [0, 8, 1] [2, 3, 4, 5, 6, 7] rfl rfl (by decide) (by decide) (by decide) wM_X9_197 wb_X9_putGaps hy_X9_putGaps (q0 := 0) rfl rfl rfl ⟨Nat.le_of_ble_eq_true rfl, Nat.le_of_ble_eq_true rfl⟩ (Nat.le_of_ble_eq_true rfl) hkm hnm rfl dX9_writes_173 (fun v w1 hw => ?_) [] rfl (fun _ _ h => h.elim)
        obtain ⟨v_drafted_39, v_draft_40, rfl, rfl, h⟩ := hw
        refine a_ws (st1 := []) (ws1 := [(h0, oX9 d0 v_thrown v_taped v_at v_documents v_terms v_latest v_filed v_drafted_39 v_place v_over v_clock v_askedTerms v_segments v_done v_postingsDone v_postingsAll v_why v_hits), ((d0 22), aI cs 16000 v_draft_40), ((d0 11), aI cs 5 v_bits), ((d0 12), aI cs 5 v_codec), ((d0 13), aI cs 5 v_size), ((d0 14), aI cs 5 v_words), ((d0 15), aI cs 2560 v_letter), ((d0 16), aI cs 12800 v_impact), ((d0 27), aI cs 40 v_gap_34)]) k n9 176 [6, 8, 0, 1, 2, 3, 4, 5, 7] rfl rfl rfl rfl (by decide) rfl ?_
        refine a_iinc C (pc := 176) (lv1 := [(0, .ref h0), (1, .int l1), (2, .int l2), (3, .int (l3 + (-1))), (4, .int r_33)]) 3 [1, 2, 3, 0, 4] dX9_writes_176 rfl (congrArg (fun z => l3 + z) ic_m1) (by decide) rfl ?_
        refine a_goto C (pc := 179) 132 dX9_writes_179 (by decide) ?_
        refine a_lv (lv1 := [(0, .ref h0), (1, .int l1), (2, .int l2), (3, .int (l3 + (-1)))]) [0, 1, 2, 3] rfl ?_
        exact ih v_drafted_39 v_draft_40 v_gap_34 l1 l2 (l3 + (-1)) h hK_182
      · have h := h.2 hc
        refine a_goto C (pc := 150) 176 dX9_writes_150 (by decide) ?_
        refine a_iinc C (pc := 176) (lv1 := [(0, .ref h0), (1, .int l1), (2, .int l2), (3, .int (l3 + (-1))), (4, .int r_33)]) 3 [1, 2, 3, 0, 4] dX9_writes_176 rfl (congrArg (fun z => l3 + z) ic_m1) (by decide) rfl ?_
        refine a_goto C (pc := 179) 132 dX9_writes_179 (by decide) ?_
        refine a_lv (lv1 := [(0, .ref h0), (1, .int l1), (2, .int l2), (3, .int (l3 + (-1)))]) [0, 1, 2, 3] rfl ?_
        exact ih v_drafted v_draft v_gap_34 l1 l2 (l3 + (-1)) h hK_182
set_option maxRecDepth 100000 in
set_option maxHeartbeats 4000000 in
theorem w_X9_writes_59 {Γ : XG} {Lx : Launch} {Dx : va_G} {cs : Nat → ClassId} {h0 : Nat} {d0 : Nat → Nat} {v_thrown : Int32} {v_taped : Int32} {v_at : Int32} {v_documents : Int32} {v_terms : Int32} {v_latest : Int32} {v_filed : Int32} {v_place : Int32} {v_over : Int32} {v_clock : Int64} {v_askedTerms : Int32} {v_segments : Int32} {v_done : Int32} {v_postingsDone : Int32} {v_postingsAll : Int32} {v_why : Int32} {v_hits : Int32} {v_bits : Nat → Int32} {v_codec : Nat → Int32} {v_size : Nat → Int32} {v_words : Nat → Int32} {v_letter : Nat → Int32} {v_impact : Nat → Int32} {K_188 : Int32 → (Nat → Int32) → (Nat → Int32) → Prop} {Φ : Int32 → (Nat → Int32) → (Nat → Int32) → Prop} {k n9 : Nat} (C : CX Γ Lx Dx cs cX9_writes RX9 "writes" 5 none 3 73 0 0 (qEC cs 0 0 [] (R_X9_writes cs h0 d0 v_thrown v_taped v_at v_documents v_terms v_latest v_filed v_place v_over v_clock v_askedTerms v_segments v_done v_postingsDone v_postingsAll v_why v_hits v_bits v_codec v_size v_words v_letter v_impact Φ) (fun _ _ => False))) (hkm : k ≤ 0) (hnm : n9 ≤ 0) : ∀ n : Nat, ∀ (v_drafted : Int32) (v_draft : Nat → Int32) (v_gap : Nat → Int32) (l1 : Int32) (l2 : Int32), L_X9_writes_59 n v_drafted v_draft v_bits v_codec v_size v_words v_letter v_impact v_gap l1 l2 K_188 Φ → (∀ (v_drafted_51 : Int32) (v_draft_52 : Nat → Int32) (v_gap_53 : Nat → Int32), K_188 v_drafted_51 v_draft_52 v_gap_53 → AW Γ k n9 188 [(0, .ref h0)] [] [(h0, oX9 d0 v_thrown v_taped v_at v_documents v_terms v_latest v_filed v_drafted_51 v_place v_over v_clock v_askedTerms v_segments v_done v_postingsDone v_postingsAll v_why v_hits), ((d0 22), aI cs 16000 v_draft_52), ((d0 11), aI cs 5 v_bits), ((d0 12), aI cs 5 v_codec), ((d0 13), aI cs 5 v_size), ((d0 14), aI cs 5 v_words), ((d0 15), aI cs 2560 v_letter), ((d0 16), aI cs 12800 v_impact), ((d0 27), aI cs 40 v_gap_53)]) → AW Γ k n9 59 [(0, .ref h0), (1, .int l1), (2, .int l2)] [] [(h0, oX9 d0 v_thrown v_taped v_at v_documents v_terms v_latest v_filed v_drafted v_place v_over v_clock v_askedTerms v_segments v_done v_postingsDone v_postingsAll v_why v_hits), ((d0 22), aI cs 16000 v_draft), ((d0 11), aI cs 5 v_bits), ((d0 12), aI cs 5 v_codec), ((d0 13), aI cs 5 v_size), ((d0 14), aI cs 5 v_words), ((d0 15), aI cs 2560 v_letter), ((d0 16), aI cs 12800 v_impact), ((d0 27), aI cs 40 v_gap)] := by
  intro n
  induction n with
  | zero =>
    intro v_drafted v_draft v_gap l1 l2 h
    exact False.elim h
  | succ n ih =>
    intro v_drafted v_draft v_gap l1 l2 h hK_188
    rw [L_X9_writes_59] at h
    refine a_iload_n C (pc := 59) 2 dX9_writes_59 rfl rfl ?_
    refine a_aload_n C (pc := 60) 0 dX9_writes_60 rfl rfl ?_
    refine a_get C (pc := 61) 0 14 inW_X9 rfl rfl (Nat.le_of_ble_eq_true rfl) wF_X9_37 rfl rfl dX9_writes_61 ?_
    refine a_iload_n C (pc := 64) 1 dX9_writes_64 rfl rfl ?_
    refine a_iald C (pc := 65) 5 rfl h.1 dX9_writes_65 ?_
    replace h := h.2
    refine a_icmp_ge C (pc := 66) 188 dX9_writes_66 (by decide) (fun hc => ?_) (fun hc => ?_)
    · have h := h.1 hc
      refine a_lv (lv1 := [(0, .ref h0)]) [0] rfl ?_
      exact hK_188 v_drafted v_draft v_gap h
    · have h := h.2 hc
      refine a_aload_n C (pc := 69) 0 dX9_writes_69 rfl rfl ?_
      refine a_aload_n C (pc := 70) 0 dX9_writes_70 rfl rfl ?_
      refine a_iload_n C (pc := 71) 1 dX9_writes_71 rfl rfl ?_
      refine a_iload_n C (pc := 72) 2 dX9_writes_72 rfl rfl ?_
      refine a_callV C (pc := 73) (av := [.int l1, .int l2]) (wr := [((d0 22), aI cs 16000 v_draft), ((d0 11), aI cs 5 v_bits), ((d0 12), aI cs 5 v_codec), ((d0 13), aI cs 5 v_size), ((d0 14), aI cs 5 v_words), ((d0 16), aI cs 12800 v_impact), ((d0 27), aI cs 40 v_gap)]) (m_X9_lettersOf Lx Dx cs h0 d0 v_thrown v_taped v_at v_documents v_terms v_latest v_filed v_drafted v_place v_over v_clock v_askedTerms v_segments v_done v_postingsDone v_postingsAll v_why v_hits v_letter l1 l2 _ h) [0, 6] [1, 2, 3, 4, 5, 7, 8] rfl rfl (by decide) (by decide) (by decide) wM_X9_190 wb_X9_lettersOf hy_X9_lettersOf (q0 := 0) rfl rfl rfl ⟨Nat.le_of_ble_eq_true rfl, Nat.le_of_ble_eq_true rfl⟩ (Nat.le_of_ble_eq_true rfl) hkm hnm rfl dX9_writes_73 (fun v w1 hw => ?_) [] rfl (fun _ _ h => h.elim)
      obtain ⟨r_13, rfl, rfl, h⟩ := hw
      refine a_ws (st1 := [.int r_13, .ref h0]) (ws1 := [(h0, oX9 d0 v_thrown v_taped v_at v_documents v_terms v_latest v_filed v_drafted v_place v_over v_clock v_askedTerms v_segments v_done v_postingsDone v_postingsAll v_why v_hits), ((d0 22), aI cs 16000 v_draft), ((d0 11), aI cs 5 v_bits), ((d0 12), aI cs 5 v_codec), ((d0 13), aI cs 5 v_size), ((d0 14), aI cs 5 v_words), ((d0 15), aI cs 2560 v_letter), ((d0 16), aI cs 12800 v_impact), ((d0 27), aI cs 40 v_gap)]) k n9 76 [7, 0, 1, 2, 3, 4, 8, 5, 6] rfl rfl rfl rfl (by decide) rfl ?_
      refine a_callV C (pc := 76) (av := [.int r_13]) (wr := [((d0 11), aI cs 5 v_bits), ((d0 12), aI cs 5 v_codec), ((d0 13), aI cs 5 v_size), ((d0 14), aI cs 5 v_words), ((d0 15), aI cs 2560 v_letter), ((d0 16), aI cs 12800 v_impact), ((d0 27), aI cs 40 v_gap)]) (m_X9_put Lx Dx cs h0 d0 v_thrown v_taped v_at v_documents v_terms v_latest v_filed v_drafted v_place v_over v_clock v_askedTerms v_segments v_done v_postingsDone v_postingsAll v_why v_hits v_draft r_13 _ h) [0, 1] [2, 3, 4, 5, 6, 7, 8] rfl rfl (by decide) (by decide) (by decide) wM_X9_171 wb_X9_put hy_X9_put (q0 := 0) rfl rfl rfl ⟨Nat.le_of_ble_eq_true rfl, Nat.le_of_ble_eq_true rfl⟩ (Nat.le_of_ble_eq_true rfl) hkm hnm rfl dX9_writes_76 (fun v w1 hw => ?_) [] rfl (fun _ _ h => h.elim)
      obtain ⟨v_drafted_14, v_draft_15, rfl, rfl, h⟩ := hw
      refine a_ws (st1 := []) (ws1 := [(h0, oX9 d0 v_thrown v_taped v_at v_documents v_terms v_latest v_filed v_drafted_14 v_place v_over v_clock v_askedTerms v_segments v_done v_postingsDone v_postingsAll v_why v_hits), ((d0 22), aI cs 16000 v_draft_15), ((d0 11), aI cs 5 v_bits), ((d0 12), aI cs 5 v_codec), ((d0 13), aI cs 5 v_size), ((d0 14), aI cs 5 v_words), ((d0 15), aI cs 2560 v_letter), ((d0 16), aI cs 12800 v_impact), ((d0 27), aI cs 40 v_gap)]) k n9 79 [7, 8, 0, 1, 2, 3, 4, 5, 6] rfl rfl rfl rfl (by decide) rfl ?_
      refine a_iconst C (pc := 79) dX9_writes_79 ic_0 ?_
      refine a_istore_n C (pc := 80) (lv1 := [(0, .ref h0), (1, .int l1), (2, .int l2), (3, .int 0)]) [1, 2, 3, 0] dX9_writes_80 rfl (by decide) rfl ?_
      obtain ⟨n0, h⟩ := h
      refine w_X9_writes_81 C hkm hnm n0 v_drafted_14 v_draft_15 v_gap l1 l2 0 h ?_
      intro v_drafted_24 v_draft_25 v_gap_26 l1_27 l2_28 h
      refine a_aload_n C (pc := 118) 0 dX9_writes_118 rfl rfl ?_
      refine a_aload_n C (pc := 119) 0 dX9_writes_119 rfl rfl ?_
      refine a_iload_n C (pc := 120) 1 dX9_writes_120 rfl rfl ?_
      refine a_iload_n C (pc := 121) 2 dX9_writes_121 rfl rfl ?_
      refine a_callV C (pc := 122) (av := [.int l1_27, .int l2_28]) (wr := [((d0 22), aI cs 16000 v_draft_25), ((d0 11), aI cs 5 v_bits), ((d0 12), aI cs 5 v_codec), ((d0 14), aI cs 5 v_words), ((d0 15), aI cs 2560 v_letter)]) (m_X9_segmentsOf Lx Dx cs h0 d0 v_thrown v_taped v_at v_documents v_terms v_latest v_filed v_drafted_24 v_place v_over v_clock v_askedTerms v_segments v_done v_postingsDone v_postingsAll v_why v_hits v_size v_impact v_gap_26 l1_27 l2_28 _ h) [0, 4, 7, 8] [1, 2, 3, 5, 6] rfl rfl (by decide) (by decide) (by decide) wM_X9_194 wb_X9_segmentsOf hy_X9_segmentsOf (q0 := 0) rfl rfl rfl ⟨Nat.le_of_ble_eq_true rfl, Nat.le_of_ble_eq_true rfl⟩ (Nat.le_of_ble_eq_true rfl) hkm hnm rfl dX9_writes_122 (fun v w1 hw => ?_) [] rfl (fun _ _ h => h.elim)
      obtain ⟨r_29, v_gap_30, rfl, rfl, h⟩ := hw
      refine a_ws (st1 := [.int r_29, .ref h0]) (ws1 := [(h0, oX9 d0 v_thrown v_taped v_at v_documents v_terms v_latest v_filed v_drafted_24 v_place v_over v_clock v_askedTerms v_segments v_done v_postingsDone v_postingsAll v_why v_hits), ((d0 22), aI cs 16000 v_draft_25), ((d0 11), aI cs 5 v_bits), ((d0 12), aI cs 5 v_codec), ((d0 13), aI cs 5 v_size), ((d0 14), aI cs 5 v_words), ((d0 15), aI cs 2560 v_letter), ((d0 16), aI cs 12800 v_impact), ((d0 27), aI cs 40 v_gap_30)]) k n9 125 [5, 0, 1, 2, 6, 3, 4, 7, 8] rfl rfl rfl rfl (by decide) rfl ?_
      refine a_callV C (pc := 125) (av := [.int r_29]) (wr := [((d0 11), aI cs 5 v_bits), ((d0 12), aI cs 5 v_codec), ((d0 13), aI cs 5 v_size), ((d0 14), aI cs 5 v_words), ((d0 15), aI cs 2560 v_letter), ((d0 16), aI cs 12800 v_impact), ((d0 27), aI cs 40 v_gap_30)]) (m_X9_put Lx Dx cs h0 d0 v_thrown v_taped v_at v_documents v_terms v_latest v_filed v_drafted_24 v_place v_over v_clock v_askedTerms v_segments v_done v_postingsDone v_postingsAll v_why v_hits v_draft_25 r_29 _ h) [0, 1] [2, 3, 4, 5, 6, 7, 8] rfl rfl (by decide) (by decide) (by decide) wM_X9_171 wb_X9_put hy_X9_put (q0 := 0) rfl rfl rfl ⟨Nat.le_of_ble_eq_true rfl, Nat.le_of_ble_eq_true rfl⟩ (Nat.le_of_ble_eq_true rfl) hkm hnm rfl dX9_writes_125 (fun v w1 hw => ?_) [] rfl (fun _ _ h => h.elim)
      obtain ⟨v_drafted_31, v_draft_32, rfl, rfl, h⟩ := hw
      refine a_ws (st1 := []) (ws1 := [(h0, oX9 d0 v_thrown v_taped v_at v_documents v_terms v_latest v_filed v_drafted_31 v_place v_over v_clock v_askedTerms v_segments v_done v_postingsDone v_postingsAll v_why v_hits), ((d0 22), aI cs 16000 v_draft_32), ((d0 11), aI cs 5 v_bits), ((d0 12), aI cs 5 v_codec), ((d0 13), aI cs 5 v_size), ((d0 14), aI cs 5 v_words), ((d0 15), aI cs 2560 v_letter), ((d0 16), aI cs 12800 v_impact), ((d0 27), aI cs 40 v_gap_30)]) k n9 128 [7, 8, 0, 1, 2, 3, 4, 5, 6] rfl rfl rfl rfl (by decide) rfl ?_
      refine a_sipush C (pc := 128) dX9_writes_128 sp_255 ?_
      refine a_istore_n C (pc := 131) (lv1 := [(0, .ref h0), (1, .int l1_27), (2, .int l2_28), (3, .int 255)]) [1, 2, 3, 0] dX9_writes_131 rfl (by decide) rfl ?_
      obtain ⟨n0, h⟩ := h
      refine w_X9_writes_132 C hkm hnm n0 v_drafted_31 v_draft_32 v_gap_30 l1_27 l2_28 255 h ?_
      intro v_drafted_46 v_draft_47 v_gap_48 l1_49 l2_50 h
      refine a_iinc C (pc := 182) (lv1 := [(0, .ref h0), (1, .int l1_49), (2, .int (l2_50 + 1))]) 2 [1, 2, 0] dX9_writes_182 rfl (congrArg (fun z => l2_50 + z) ic_1) (by decide) rfl ?_
      refine a_goto C (pc := 185) 59 dX9_writes_185 (by decide) ?_
      exact ih v_drafted_46 v_draft_47 v_gap_48 l1_49 (l2_50 + 1) h hK_188
set_option maxRecDepth 100000 in
set_option maxHeartbeats 4000000 in
theorem w_X9_writes_203 {Γ : XG} {Lx : Launch} {Dx : va_G} {cs : Nat → ClassId} {h0 : Nat} {d0 : Nat → Nat} {v_thrown : Int32} {v_taped : Int32} {v_at : Int32} {v_documents : Int32} {v_terms : Int32} {v_latest : Int32} {v_filed : Int32} {v_place : Int32} {v_over : Int32} {v_clock : Int64} {v_askedTerms : Int32} {v_segments : Int32} {v_done : Int32} {v_postingsDone : Int32} {v_postingsAll : Int32} {v_why : Int32} {v_hits : Int32} {v_bits : Nat → Int32} {v_codec : Nat → Int32} {v_size : Nat → Int32} {v_words : Nat → Int32} {v_letter : Nat → Int32} {v_impact : Nat → Int32} {K_231 : Int32 → (Nat → Int32) → (Nat → Int32) → Prop} {Φ : Int32 → (Nat → Int32) → (Nat → Int32) → Prop} {k n9 : Nat} (C : CX Γ Lx Dx cs cX9_writes RX9 "writes" 5 none 3 73 0 0 (qEC cs 0 0 [] (R_X9_writes cs h0 d0 v_thrown v_taped v_at v_documents v_terms v_latest v_filed v_place v_over v_clock v_askedTerms v_segments v_done v_postingsDone v_postingsAll v_why v_hits v_bits v_codec v_size v_words v_letter v_impact Φ) (fun _ _ => False))) (hkm : k ≤ 0) (hnm : n9 ≤ 0) : ∀ n : Nat, ∀ (v_drafted : Int32) (v_draft : Nat → Int32) (v_gap : Nat → Int32) (l2 : Int64) (l4 : Int32), L_X9_writes_203 n v_drafted v_draft v_bits v_codec v_size v_words v_letter v_impact v_gap l2 l4 K_231 Φ → (∀ (v_drafted_60 : Int32) (v_draft_61 : Nat → Int32) (v_gap_62 : Nat → Int32), K_231 v_drafted_60 v_draft_61 v_gap_62 → AW Γ k n9 231 [] [] [(h0, oX9 d0 v_thrown v_taped v_at v_documents v_terms v_latest v_filed v_drafted_60 v_place v_over v_clock v_askedTerms v_segments v_done v_postingsDone v_postingsAll v_why v_hits), ((d0 22), aI cs 16000 v_draft_61), ((d0 11), aI cs 5 v_bits), ((d0 12), aI cs 5 v_codec), ((d0 13), aI cs 5 v_size), ((d0 14), aI cs 5 v_words), ((d0 15), aI cs 2560 v_letter), ((d0 16), aI cs 12800 v_impact), ((d0 27), aI cs 40 v_gap_62)]) → AW Γ k n9 203 [(0, .ref h0), (2, .long l2), (4, .int l4)] [] [(h0, oX9 d0 v_thrown v_taped v_at v_documents v_terms v_latest v_filed v_drafted v_place v_over v_clock v_askedTerms v_segments v_done v_postingsDone v_postingsAll v_why v_hits), ((d0 22), aI cs 16000 v_draft), ((d0 11), aI cs 5 v_bits), ((d0 12), aI cs 5 v_codec), ((d0 13), aI cs 5 v_size), ((d0 14), aI cs 5 v_words), ((d0 15), aI cs 2560 v_letter), ((d0 16), aI cs 12800 v_impact), ((d0 27), aI cs 40 v_gap)] := by
  intro n
  induction n with
  | zero =>
    intro v_drafted v_draft v_gap l2 l4 h
    exact False.elim h
  | succ n ih =>
    intro v_drafted v_draft v_gap l2 l4 h hK_231
    rw [L_X9_writes_203] at h
    refine a_iload C (pc := 203) 2 dX9_writes_203 rfl ?_
    refine a_iconst C (pc := 205) dX9_writes_205 ic_4 ?_
    refine a_icmp_ge C (pc := 206) 231 dX9_writes_206 (by decide) (fun hc => ?_) (fun hc => ?_)
    · have h := h.1 hc
      refine a_lv (lv1 := []) [] rfl ?_
      exact hK_231 v_drafted v_draft v_gap h
    · have h := h.2 hc
      refine a_aload_n C (pc := 209) 0 dX9_writes_209 rfl rfl ?_
      refine a_lload_n C (pc := 210) 1 dX9_writes_210 rfl rfl ?_
      refine a_bipush C (pc := 211) dX9_writes_211 bp_8 ?_
      refine a_iload C (pc := 213) 2 dX9_writes_213 rfl ?_
      refine a_imul C (pc := 215) dX9_writes_215 ?_
      refine a_lshr C (pc := 216) dX9_writes_216 ?_
      refine a_ldc2 C (pc := 217) wC_X9_100 dX9_writes_217 ?_
      refine a_land C (pc := 220) dX9_writes_220 ?_
      refine a_l2i C (pc := 221) dX9_writes_221 ?_
      refine a_callV C (pc := 222) (av := [.int ((((l2 >>> ((8 * l4).toInt64 &&& 63)) &&& 255) : Int64).toInt32)]) (wr := [((d0 11), aI cs 5 v_bits), ((d0 12), aI cs 5 v_codec), ((d0 13), aI cs 5 v_size), ((d0 14), aI cs 5 v_words), ((d0 15), aI cs 2560 v_letter), ((d0 16), aI cs 12800 v_impact), ((d0 27), aI cs 40 v_gap)]) (m_X9_put Lx Dx cs h0 d0 v_thrown v_taped v_at v_documents v_terms v_latest v_filed v_drafted v_place v_over v_clock v_askedTerms v_segments v_done v_postingsDone v_postingsAll v_why v_hits v_draft ((((l2 >>> ((8 * l4).toInt64 &&& 63)) &&& 255) : Int64).toInt32) _ h) [0, 1] [2, 3, 4, 5, 6, 7, 8] rfl rfl (by decide) (by decide) (by decide) wM_X9_171 wb_X9_put hy_X9_put (q0 := 0) rfl rfl rfl ⟨Nat.le_of_ble_eq_true rfl, Nat.le_of_ble_eq_true rfl⟩ (Nat.le_of_ble_eq_true rfl) hkm hnm rfl dX9_writes_222 (fun v w1 hw => ?_) [] rfl (fun _ _ h => h.elim)
      obtain ⟨v_drafted_58, v_draft_59, rfl, rfl, h⟩ := hw
      refine a_ws (st1 := []) (ws1 := [(h0, oX9 d0 v_thrown v_taped v_at v_documents v_terms v_latest v_filed v_drafted_58 v_place v_over v_clock v_askedTerms v_segments v_done v_postingsDone v_postingsAll v_why v_hits), ((d0 22), aI cs 16000 v_draft_59), ((d0 11), aI cs 5 v_bits), ((d0 12), aI cs 5 v_codec), ((d0 13), aI cs 5 v_size), ((d0 14), aI cs 5 v_words), ((d0 15), aI cs 2560 v_letter), ((d0 16), aI cs 12800 v_impact), ((d0 27), aI cs 40 v_gap)]) k n9 225 [7, 8, 0, 1, 2, 3, 4, 5, 6] rfl rfl rfl rfl (by decide) rfl ?_
      refine a_iinc C (pc := 225) (lv1 := [(0, .ref h0), (2, .long l2), (4, .int (l4 + 1))]) 2 [1, 2, 0] dX9_writes_225 rfl (congrArg (fun z => l4 + z) ic_1) (by decide) rfl ?_
      refine a_goto C (pc := 228) 203 dX9_writes_228 (by decide) ?_
      exact ih v_drafted_58 v_draft_59 v_gap l2 (l4 + 1) h hK_231
set_option maxRecDepth 100000 in
set_option maxHeartbeats 4000000 in
theorem m_X9_writes (Lx : Launch) (Dx : va_G) (cs : Nat → ClassId) (h0 : Nat) (d0 : Nat → Nat) (v_thrown : Int32) (v_taped : Int32) (v_at : Int32) (v_documents : Int32) (v_terms : Int32) (v_latest : Int32) (v_filed : Int32) (v_drafted : Int32) (v_place : Int32) (v_over : Int32) (v_clock : Int64) (v_askedTerms : Int32) (v_segments : Int32) (v_done : Int32) (v_postingsDone : Int32) (v_postingsAll : Int32) (v_why : Int32) (v_hits : Int32) (v_draft : Nat → Int32) (v_bits : Nat → Int32) (v_codec : Nat → Int32) (v_size : Nat → Int32) (v_words : Nat → Int32) (v_letter : Nat → Int32) (v_impact : Nat → Int32) (v_gap : Nat → Int32) (l1 : Int32) (Φ : Int32 → (Nat → Int32) → (Nat → Int32) → Prop) (h : P_X9_writes v_drafted v_draft v_bits v_codec v_size v_words v_letter v_impact v_gap l1 Φ) : XMet Lx Dx cs yX9_writes cX9_writes 5 none 3 73 0 0 [.ref h0, .int l1] [(h0, oX9 d0 v_thrown v_taped v_at v_documents v_terms v_latest v_filed v_drafted v_place v_over v_clock v_askedTerms v_segments v_done v_postingsDone v_postingsAll v_why v_hits), ((d0 22), aI cs 16000 v_draft), ((d0 11), aI cs 5 v_bits), ((d0 12), aI cs 5 v_codec), ((d0 13), aI cs 5 v_size), ((d0 14), aI cs 5 v_words), ((d0 15), aI cs 2560 v_letter), ((d0 16), aI cs 12800 v_impact), ((d0 27), aI cs 40 v_gap)] (R_X9_writes cs h0 d0 v_thrown v_taped v_at v_documents v_terms v_latest v_filed v_place v_over v_clock v_askedTerms v_segments v_done v_postingsDone v_postingsAll v_why v_hits v_bits v_codec v_size v_words v_letter v_impact Φ) (fun _ _ => False) := by
  refine XMet.of (own := RX9) (nm := "writes") (by decide) rfl rfl (Nat.le_of_ble_eq_true rfl) (fun Γ C => ?_)
  unfold P_X9_writes at h
  refine a_aload_n C (pc := 0) 0 dX9_writes_0 rfl rfl ?_
  refine a_iconst C (pc := 1) dX9_writes_1 ic_0 ?_
  refine a_put C (pc := 2) (ws1 := [(h0, oX9 d0 v_thrown v_taped v_at v_documents v_terms v_latest v_filed 0 v_place v_over v_clock v_askedTerms v_segments v_done v_postingsDone v_postingsAll v_why v_hits), ((d0 22), aI cs 16000 v_draft), ((d0 11), aI cs 5 v_bits), ((d0 12), aI cs 5 v_codec), ((d0 13), aI cs 5 v_size), ((d0 14), aI cs 5 v_words), ((d0 15), aI cs 2560 v_letter), ((d0 16), aI cs 12800 v_impact), ((d0 27), aI cs 40 v_gap)]) 0 24 inW_X9 tyX9 tyX9_ok nmX9 rfl rfl (Nat.le_of_ble_eq_true rfl) wF_X9_168 rfl rfl rfl rfl rfl (Nat.le_of_ble_eq_true rfl) dX9_writes_2 rfl ?_
  refine a_aload_n C (pc := 5) 0 dX9_writes_5 rfl rfl ?_
  refine a_bipush C (pc := 6) dX9_writes_6 bp_73 ?_
  refine a_callV C (pc := 8) (av := [.int 73]) (wr := [((d0 11), aI cs 5 v_bits), ((d0 12), aI cs 5 v_codec), ((d0 13), aI cs 5 v_size), ((d0 14), aI cs 5 v_words), ((d0 15), aI cs 2560 v_letter), ((d0 16), aI cs 12800 v_impact), ((d0 27), aI cs 40 v_gap)]) (m_X9_put Lx Dx cs h0 d0 v_thrown v_taped v_at v_documents v_terms v_latest v_filed 0 v_place v_over v_clock v_askedTerms v_segments v_done v_postingsDone v_postingsAll v_why v_hits v_draft 73 _ h) [0, 1] [2, 3, 4, 5, 6, 7, 8] rfl rfl (by decide) (by decide) (by decide) wM_X9_171 wb_X9_put hy_X9_put (q0 := 0) rfl rfl rfl ⟨Nat.le_of_ble_eq_true rfl, Nat.le_of_ble_eq_true rfl⟩ (Nat.le_of_ble_eq_true rfl) (Nat.le_of_ble_eq_true rfl) (Nat.le_of_ble_eq_true rfl) rfl dX9_writes_8 (fun v w1 hw => ?_) [] rfl (fun _ _ h => h.elim)
  obtain ⟨v_drafted_1, v_draft_2, rfl, rfl, h⟩ := hw
  refine a_ws (st1 := []) (ws1 := [(h0, oX9 d0 v_thrown v_taped v_at v_documents v_terms v_latest v_filed v_drafted_1 v_place v_over v_clock v_askedTerms v_segments v_done v_postingsDone v_postingsAll v_why v_hits), ((d0 22), aI cs 16000 v_draft_2), ((d0 11), aI cs 5 v_bits), ((d0 12), aI cs 5 v_codec), ((d0 13), aI cs 5 v_size), ((d0 14), aI cs 5 v_words), ((d0 15), aI cs 2560 v_letter), ((d0 16), aI cs 12800 v_impact), ((d0 27), aI cs 40 v_gap)]) 0 0 11 [7, 8, 0, 1, 2, 3, 4, 5, 6] rfl rfl rfl rfl (by decide) rfl ?_
  refine a_aload_n C (pc := 11) 0 dX9_writes_11 rfl rfl ?_
  refine a_bipush C (pc := 12) dX9_writes_12 bp_109 ?_
  refine a_callV C (pc := 14) (av := [.int 109]) (wr := [((d0 11), aI cs 5 v_bits), ((d0 12), aI cs 5 v_codec), ((d0 13), aI cs 5 v_size), ((d0 14), aI cs 5 v_words), ((d0 15), aI cs 2560 v_letter), ((d0 16), aI cs 12800 v_impact), ((d0 27), aI cs 40 v_gap)]) (m_X9_put Lx Dx cs h0 d0 v_thrown v_taped v_at v_documents v_terms v_latest v_filed v_drafted_1 v_place v_over v_clock v_askedTerms v_segments v_done v_postingsDone v_postingsAll v_why v_hits v_draft_2 109 _ h) [0, 1] [2, 3, 4, 5, 6, 7, 8] rfl rfl (by decide) (by decide) (by decide) wM_X9_171 wb_X9_put hy_X9_put (q0 := 0) rfl rfl rfl ⟨Nat.le_of_ble_eq_true rfl, Nat.le_of_ble_eq_true rfl⟩ (Nat.le_of_ble_eq_true rfl) (Nat.le_of_ble_eq_true rfl) (Nat.le_of_ble_eq_true rfl) rfl dX9_writes_14 (fun v w1 hw => ?_) [] rfl (fun _ _ h => h.elim)
  obtain ⟨v_drafted_3, v_draft_4, rfl, rfl, h⟩ := hw
  refine a_ws (st1 := []) (ws1 := [(h0, oX9 d0 v_thrown v_taped v_at v_documents v_terms v_latest v_filed v_drafted_3 v_place v_over v_clock v_askedTerms v_segments v_done v_postingsDone v_postingsAll v_why v_hits), ((d0 22), aI cs 16000 v_draft_4), ((d0 11), aI cs 5 v_bits), ((d0 12), aI cs 5 v_codec), ((d0 13), aI cs 5 v_size), ((d0 14), aI cs 5 v_words), ((d0 15), aI cs 2560 v_letter), ((d0 16), aI cs 12800 v_impact), ((d0 27), aI cs 40 v_gap)]) 0 0 17 [7, 8, 0, 1, 2, 3, 4, 5, 6] rfl rfl rfl rfl (by decide) rfl ?_
  refine a_aload_n C (pc := 17) 0 dX9_writes_17 rfl rfl ?_
  refine a_aload_n C (pc := 18) 0 dX9_writes_18 rfl rfl ?_
  refine a_get C (pc := 19) 0 11 inW_X9 rfl rfl (Nat.le_of_ble_eq_true rfl) wF_X9_28 rfl rfl dX9_writes_19 ?_
  refine a_iload_n C (pc := 22) 1 dX9_writes_22 rfl rfl ?_
  refine a_iald C (pc := 23) 2 rfl h.1 dX9_writes_23 ?_
  replace h := h.2
  refine a_callV C (pc := 24) (av := [.int (v_bits (l1 : Int32).toNatClampNeg)]) (wr := [((d0 11), aI cs 5 v_bits), ((d0 12), aI cs 5 v_codec), ((d0 13), aI cs 5 v_size), ((d0 14), aI cs 5 v_words), ((d0 15), aI cs 2560 v_letter), ((d0 16), aI cs 12800 v_impact), ((d0 27), aI cs 40 v_gap)]) (m_X9_put Lx Dx cs h0 d0 v_thrown v_taped v_at v_documents v_terms v_latest v_filed v_drafted_3 v_place v_over v_clock v_askedTerms v_segments v_done v_postingsDone v_postingsAll v_why v_hits v_draft_4 (v_bits (l1 : Int32).toNatClampNeg) _ h) [0, 1] [2, 3, 4, 5, 6, 7, 8] rfl rfl (by decide) (by decide) (by decide) wM_X9_171 wb_X9_put hy_X9_put (q0 := 0) rfl rfl rfl ⟨Nat.le_of_ble_eq_true rfl, Nat.le_of_ble_eq_true rfl⟩ (Nat.le_of_ble_eq_true rfl) (Nat.le_of_ble_eq_true rfl) (Nat.le_of_ble_eq_true rfl) rfl dX9_writes_24 (fun v w1 hw => ?_) [] rfl (fun _ _ h => h.elim)
  obtain ⟨v_drafted_5, v_draft_6, rfl, rfl, h⟩ := hw
  refine a_ws (st1 := []) (ws1 := [(h0, oX9 d0 v_thrown v_taped v_at v_documents v_terms v_latest v_filed v_drafted_5 v_place v_over v_clock v_askedTerms v_segments v_done v_postingsDone v_postingsAll v_why v_hits), ((d0 22), aI cs 16000 v_draft_6), ((d0 11), aI cs 5 v_bits), ((d0 12), aI cs 5 v_codec), ((d0 13), aI cs 5 v_size), ((d0 14), aI cs 5 v_words), ((d0 15), aI cs 2560 v_letter), ((d0 16), aI cs 12800 v_impact), ((d0 27), aI cs 40 v_gap)]) 0 0 27 [7, 8, 0, 1, 2, 3, 4, 5, 6] rfl rfl rfl rfl (by decide) rfl ?_
  refine a_aload_n C (pc := 27) 0 dX9_writes_27 rfl rfl ?_
  refine a_aload_n C (pc := 28) 0 dX9_writes_28 rfl rfl ?_
  refine a_get C (pc := 29) 0 12 inW_X9 rfl rfl (Nat.le_of_ble_eq_true rfl) wF_X9_31 rfl rfl dX9_writes_29 ?_
  refine a_iload_n C (pc := 32) 1 dX9_writes_32 rfl rfl ?_
  refine a_iald C (pc := 33) 3 rfl h.1 dX9_writes_33 ?_
  replace h := h.2
  refine a_callV C (pc := 34) (av := [.int (v_codec (l1 : Int32).toNatClampNeg)]) (wr := [((d0 11), aI cs 5 v_bits), ((d0 12), aI cs 5 v_codec), ((d0 13), aI cs 5 v_size), ((d0 14), aI cs 5 v_words), ((d0 15), aI cs 2560 v_letter), ((d0 16), aI cs 12800 v_impact), ((d0 27), aI cs 40 v_gap)]) (m_X9_put Lx Dx cs h0 d0 v_thrown v_taped v_at v_documents v_terms v_latest v_filed v_drafted_5 v_place v_over v_clock v_askedTerms v_segments v_done v_postingsDone v_postingsAll v_why v_hits v_draft_6 (v_codec (l1 : Int32).toNatClampNeg) _ h) [0, 1] [2, 3, 4, 5, 6, 7, 8] rfl rfl (by decide) (by decide) (by decide) wM_X9_171 wb_X9_put hy_X9_put (q0 := 0) rfl rfl rfl ⟨Nat.le_of_ble_eq_true rfl, Nat.le_of_ble_eq_true rfl⟩ (Nat.le_of_ble_eq_true rfl) (Nat.le_of_ble_eq_true rfl) (Nat.le_of_ble_eq_true rfl) rfl dX9_writes_34 (fun v w1 hw => ?_) [] rfl (fun _ _ h => h.elim)
  obtain ⟨v_drafted_7, v_draft_8, rfl, rfl, h⟩ := hw
  refine a_ws (st1 := []) (ws1 := [(h0, oX9 d0 v_thrown v_taped v_at v_documents v_terms v_latest v_filed v_drafted_7 v_place v_over v_clock v_askedTerms v_segments v_done v_postingsDone v_postingsAll v_why v_hits), ((d0 22), aI cs 16000 v_draft_8), ((d0 11), aI cs 5 v_bits), ((d0 12), aI cs 5 v_codec), ((d0 13), aI cs 5 v_size), ((d0 14), aI cs 5 v_words), ((d0 15), aI cs 2560 v_letter), ((d0 16), aI cs 12800 v_impact), ((d0 27), aI cs 40 v_gap)]) 0 0 37 [7, 8, 0, 1, 2, 3, 4, 5, 6] rfl rfl rfl rfl (by decide) rfl ?_
  refine a_aload_n C (pc := 37) 0 dX9_writes_37 rfl rfl ?_
  refine a_aload_n C (pc := 38) 0 dX9_writes_38 rfl rfl ?_
  refine a_get C (pc := 39) 0 13 inW_X9 rfl rfl (Nat.le_of_ble_eq_true rfl) wF_X9_34 rfl rfl dX9_writes_39 ?_
  refine a_iload_n C (pc := 42) 1 dX9_writes_42 rfl rfl ?_
  refine a_iald C (pc := 43) 4 rfl h.1 dX9_writes_43 ?_
  replace h := h.2
  refine a_callV C (pc := 44) (av := [.int (v_size (l1 : Int32).toNatClampNeg)]) (wr := [((d0 11), aI cs 5 v_bits), ((d0 12), aI cs 5 v_codec), ((d0 13), aI cs 5 v_size), ((d0 14), aI cs 5 v_words), ((d0 15), aI cs 2560 v_letter), ((d0 16), aI cs 12800 v_impact), ((d0 27), aI cs 40 v_gap)]) (m_X9_put Lx Dx cs h0 d0 v_thrown v_taped v_at v_documents v_terms v_latest v_filed v_drafted_7 v_place v_over v_clock v_askedTerms v_segments v_done v_postingsDone v_postingsAll v_why v_hits v_draft_8 (v_size (l1 : Int32).toNatClampNeg) _ h) [0, 1] [2, 3, 4, 5, 6, 7, 8] rfl rfl (by decide) (by decide) (by decide) wM_X9_171 wb_X9_put hy_X9_put (q0 := 0) rfl rfl rfl ⟨Nat.le_of_ble_eq_true rfl, Nat.le_of_ble_eq_true rfl⟩ (Nat.le_of_ble_eq_true rfl) (Nat.le_of_ble_eq_true rfl) (Nat.le_of_ble_eq_true rfl) rfl dX9_writes_44 (fun v w1 hw => ?_) [] rfl (fun _ _ h => h.elim)
  obtain ⟨v_drafted_9, v_draft_10, rfl, rfl, h⟩ := hw
  refine a_ws (st1 := []) (ws1 := [(h0, oX9 d0 v_thrown v_taped v_at v_documents v_terms v_latest v_filed v_drafted_9 v_place v_over v_clock v_askedTerms v_segments v_done v_postingsDone v_postingsAll v_why v_hits), ((d0 22), aI cs 16000 v_draft_10), ((d0 11), aI cs 5 v_bits), ((d0 12), aI cs 5 v_codec), ((d0 13), aI cs 5 v_size), ((d0 14), aI cs 5 v_words), ((d0 15), aI cs 2560 v_letter), ((d0 16), aI cs 12800 v_impact), ((d0 27), aI cs 40 v_gap)]) 0 0 47 [7, 8, 0, 1, 2, 3, 4, 5, 6] rfl rfl rfl rfl (by decide) rfl ?_
  refine a_aload_n C (pc := 47) 0 dX9_writes_47 rfl rfl ?_
  refine a_aload_n C (pc := 48) 0 dX9_writes_48 rfl rfl ?_
  refine a_get C (pc := 49) 0 14 inW_X9 rfl rfl (Nat.le_of_ble_eq_true rfl) wF_X9_37 rfl rfl dX9_writes_49 ?_
  refine a_iload_n C (pc := 52) 1 dX9_writes_52 rfl rfl ?_
  refine a_iald C (pc := 53) 5 rfl h.1 dX9_writes_53 ?_
  replace h := h.2
  refine a_callV C (pc := 54) (av := [.int (v_words (l1 : Int32).toNatClampNeg)]) (wr := [((d0 11), aI cs 5 v_bits), ((d0 12), aI cs 5 v_codec), ((d0 13), aI cs 5 v_size), ((d0 14), aI cs 5 v_words), ((d0 15), aI cs 2560 v_letter), ((d0 16), aI cs 12800 v_impact), ((d0 27), aI cs 40 v_gap)]) (m_X9_put Lx Dx cs h0 d0 v_thrown v_taped v_at v_documents v_terms v_latest v_filed v_drafted_9 v_place v_over v_clock v_askedTerms v_segments v_done v_postingsDone v_postingsAll v_why v_hits v_draft_10 (v_words (l1 : Int32).toNatClampNeg) _ h) [0, 1] [2, 3, 4, 5, 6, 7, 8] rfl rfl (by decide) (by decide) (by decide) wM_X9_171 wb_X9_put hy_X9_put (q0 := 0) rfl rfl rfl ⟨Nat.le_of_ble_eq_true rfl, Nat.le_of_ble_eq_true rfl⟩ (Nat.le_of_ble_eq_true rfl) (Nat.le_of_ble_eq_true rfl) (Nat.le_of_ble_eq_true rfl) rfl dX9_writes_54 (fun v w1 hw => ?_) [] rfl (fun _ _ h => h.elim)
  obtain ⟨v_drafted_11, v_draft_12, rfl, rfl, h⟩ := hw
  refine a_ws (st1 := []) (ws1 := [(h0, oX9 d0 v_thrown v_taped v_at v_documents v_terms v_latest v_filed v_drafted_11 v_place v_over v_clock v_askedTerms v_segments v_done v_postingsDone v_postingsAll v_why v_hits), ((d0 22), aI cs 16000 v_draft_12), ((d0 11), aI cs 5 v_bits), ((d0 12), aI cs 5 v_codec), ((d0 13), aI cs 5 v_size), ((d0 14), aI cs 5 v_words), ((d0 15), aI cs 2560 v_letter), ((d0 16), aI cs 12800 v_impact), ((d0 27), aI cs 40 v_gap)]) 0 0 57 [7, 8, 0, 1, 2, 3, 4, 5, 6] rfl rfl rfl rfl (by decide) rfl ?_
  refine a_iconst C (pc := 57) dX9_writes_57 ic_0 ?_
  refine a_istore_n C (pc := 58) (lv1 := [(0, .ref h0), (1, .int l1), (2, .int 0)]) [1, 2, 0] dX9_writes_58 rfl (by decide) rfl ?_
  obtain ⟨n0, h⟩ := h
  refine w_X9_writes_59 C (Nat.le_of_ble_eq_true rfl) (Nat.le_of_ble_eq_true rfl) n0 v_drafted_11 v_draft_12 v_gap l1 0 h ?_
  intro v_drafted_54 v_draft_55 v_gap_56 h
  refine a_aload_n C (pc := 188) 0 dX9_writes_188 rfl rfl ?_
  refine a_get C (pc := 189) 0 22 inW_X9 rfl rfl (Nat.le_of_ble_eq_true rfl) wF_X9_59 rfl rfl dX9_writes_189 ?_
  refine a_aload_n C (pc := 192) 0 dX9_writes_192 rfl rfl ?_
  refine a_get C (pc := 193) 0 24 inW_X9 rfl rfl (Nat.le_of_ble_eq_true rfl) wF_X9_168 rfl rfl dX9_writes_193 ?_
  refine a_callS C (pc := 196) (av := [.ref (d0 22), .int v_drafted_54]) (wr := [(h0, oX9 d0 v_thrown v_taped v_at v_documents v_terms v_latest v_filed v_drafted_54 v_place v_over v_clock v_askedTerms v_segments v_done v_postingsDone v_postingsAll v_why v_hits), ((d0 11), aI cs 5 v_bits), ((d0 12), aI cs 5 v_codec), ((d0 13), aI cs 5 v_size), ((d0 14), aI cs 5 v_words), ((d0 15), aI cs 2560 v_letter), ((d0 16), aI cs 12800 v_impact), ((d0 27), aI cs 40 v_gap_56)]) (m_X9_check Lx Dx cs 16000 (d0 22) v_draft_55 v_drafted_54 _ h) [1] [0, 2, 3, 4, 5, 6, 7, 8] rfl rfl (by decide) (by decide) (by decide) wM_X9_201 wb_X9_check hy_X9_check rfl ⟨Nat.le_of_ble_eq_true rfl, Nat.le_of_ble_eq_true rfl⟩ (Nat.le_of_ble_eq_true rfl) (Nat.le_of_ble_eq_true rfl) (Nat.le_of_ble_eq_true rfl) rfl dX9_writes_196 (fun v w1 hw => ?_) [] rfl (fun _ _ h => h.elim)
  obtain ⟨r_57, rfl, rfl, h⟩ := hw
  refine a_ws (st1 := [.long r_57]) (ws1 := [(h0, oX9 d0 v_thrown v_taped v_at v_documents v_terms v_latest v_filed v_drafted_54 v_place v_over v_clock v_askedTerms v_segments v_done v_postingsDone v_postingsAll v_why v_hits), ((d0 22), aI cs 16000 v_draft_55), ((d0 11), aI cs 5 v_bits), ((d0 12), aI cs 5 v_codec), ((d0 13), aI cs 5 v_size), ((d0 14), aI cs 5 v_words), ((d0 15), aI cs 2560 v_letter), ((d0 16), aI cs 12800 v_impact), ((d0 27), aI cs 40 v_gap_56)]) 0 0 199 [0, 8, 1, 2, 3, 4, 5, 6, 7] rfl rfl rfl rfl (by decide) rfl ?_
  refine a_lstore_n C (pc := 199) (lv1 := [(0, .ref h0), (2, .long r_57)]) [1, 0] dX9_writes_199 rfl (by decide) rfl ?_
  refine a_iconst C (pc := 200) dX9_writes_200 ic_0 ?_
  refine a_istore C (pc := 201) (lv1 := [(0, .ref h0), (2, .long r_57), (4, .int 0)]) [1, 2, 0] dX9_writes_201 (by decide) rfl ?_
  obtain ⟨n0, h⟩ := h
  refine w_X9_writes_203 C (Nat.le_of_ble_eq_true rfl) (Nat.le_of_ble_eq_true rfl) n0 v_drafted_54 v_draft_55 v_gap_56 r_57 0 h ?_
  intro v_drafted_63 v_draft_64 v_gap_65 h
  exact a_return C (pc := 231) rfl dX9_writes_231 (Nat.le_of_ble_eq_true rfl) (Nat.le_of_ble_eq_true rfl) ⟨_, _, _, rfl, rfl, h⟩
