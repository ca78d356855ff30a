set_option maxRecDepth 100000 in
set_option maxHeartbeats 4000000 in
theorem w_X9_plans_65 {Γ : XG} {Lx : Launch} {Dx : va_G} {cs : Nat → ClassId} {h0 : Nat} {d0 : Nat → Nat} {v_thrown : Int32} {v_taped : Int32} {v_at : Int32} {v_documents : Int32} {v_terms : Int32} {v_latest : Int32} {v_filed : Int32} {v_drafted : Int32} {v_place : Int32} {v_over : Int32} {v_clock : Int64} {v_askedTerms : Int32} {v_done : Int32} {v_postingsDone : Int32} {v_why : Int32} {v_hits : Int32} {v_asked : Nat → Int32} {v_size : Nat → Int32} {v_impact : Nat → Int32} {B_30 : Int32 → Int32 → (Nat → Int32) → (Nat → Int32) → (Nat → Int32) → (Nat → Int32) → (Nat → Int32) → Int32 → Int32 → Int32 → Int32 → Prop} {K_95 : Int32 → Int32 → (Nat → Int32) → (Nat → Int32) → (Nat → Int32) → (Nat → Int32) → (Nat → Int32) → Int32 → Int32 → Int32 → Prop} {Φ : Int32 → Int32 → (Nat → Int32) → (Nat → Int32) → (Nat → Int32) → (Nat → Int32) → (Nat → Int32) → Prop} {k n9 : Nat} (C : CX Γ Lx Dx cs cX9_plans RX9 "plans" 7 none 2 49 0 0 (qEC cs 0 0 [] (R_X9_plans cs h0 d0 v_thrown v_taped v_at v_documents v_terms v_latest v_filed v_drafted v_place v_over v_clock v_askedTerms v_done v_postingsDone v_why v_hits v_asked v_size v_impact Φ) (fun _ _ => False))) (hkm : k ≤ 0) (hnm : n9 ≤ 0) (v_segments : Int32) (v_postingsAll : Int32) (v_fresh : Nat → Int32) (v_gap : Nat → Int32) (v_planTerm : Nat → Int32) (v_planImpact : Nat → Int32) (v_planSize : Nat → Int32) (l1 : Int32) (l2 : Int32) (l3 : Int32) (l4 : Int32) (s1 : Int32) (s2 : Int32) (h : J_X9_plans_65 v_askedTerms v_segments v_postingsAll v_asked v_fresh v_size v_impact v_gap v_planTerm v_planImpact v_planSize l1 l2 l3 l4 s1 s2 B_30 K_95 Φ) (hB_30 : ∀ (v_segments_3 : Int32) (v_postingsAll_4 : Int32) (v_fresh_5 : Nat → Int32) (v_gap_6 : Nat → Int32) (v_planTerm_7 : Nat → Int32) (v_planImpact_8 : Nat → Int32) (v_planSize_9 : Nat → Int32) (l1_10 : Int32) (l2_11 : Int32) (l3_12 : Int32) (l4_13 : Int32), B_30 v_segments_3 v_postingsAll_4 v_fresh_5 v_gap_6 v_planTerm_7 v_planImpact_8 v_planSize_9 l1_10 l2_11 l3_12 l4_13 → AW Γ k n9 30 [(0, .ref h0), (1, .int l1_10), (2, .int l2_11), (3, .int l3_12), (4, .int l4_13)] [] [(h0, oX9 d0 v_thrown v_taped v_at v_documents v_terms v_latest v_filed v_drafted v_place v_over v_clock v_askedTerms v_segments_3 v_done v_postingsDone v_postingsAll_4 v_why v_hits), ((d0 29), aI cs 64 v_asked), ((d0 10), aI cs 64 v_fresh_5), ((d0 13), aI cs 5 v_size), ((d0 16), aI cs 12800 v_impact), ((d0 27), aI cs 40 v_gap_6), ((d0 37), aI cs 600 v_planTerm_7), ((d0 38), aI cs 600 v_planImpact_8), ((d0 39), aI cs 600 v_planSize_9)]) (hK_95 : ∀ (v_segments_14 : Int32) (v_postingsAll_15 : Int32) (v_fresh_16 : Nat → Int32) (v_gap_17 : Nat → Int32) (v_planTerm_18 : Nat → Int32) (v_planImpact_19 : Nat → Int32) (v_planSize_20 : Nat → Int32) (l1_21 : Int32) (l2_22 : Int32) (l3_23 : Int32), K_95 v_segments_14 v_postingsAll_15 v_fresh_16 v_gap_17 v_planTerm_18 v_planImpact_19 v_planSize_20 l1_21 l2_22 l3_23 → AW Γ k n9 95 [(0, .ref h0), (1, .int l1_21), (2, .int l2_22), (3, .int l3_23)] [] [(h0, oX9 d0 v_thrown v_taped v_at v_documents v_terms v_latest v_filed v_drafted v_place v_over v_clock v_askedTerms v_segments_14 v_done v_postingsDone v_postingsAll_15 v_why v_hits), ((d0 29), aI cs 64 v_asked), ((d0 10), aI cs 64 v_fresh_16), ((d0 13), aI cs 5 v_size), ((d0 16), aI cs 12800 v_impact), ((d0 27), aI cs 40 v_gap_17), ((d0 37), aI cs 600 v_planTerm_18), ((d0 38), aI cs 600 v_planImpact_19), ((d0 39), aI cs 600 v_planSize_20)]) : AW Γ k n9 65 [(0, .ref h0), (1, .int l1), (2, .int l2), (3, .int l3), (4, .int l4)] [.int s2, .int s1, .ref (d0 10)] [(h0, oX9 d0 v_thrown v_taped v_at v_documents v_terms v_latest v_filed v_drafted v_place v_over v_clock v_askedTerms v_segments v_done v_postingsDone v_postingsAll v_why v_hits), ((d0 29), aI cs 64 v_asked), ((d0 10), aI cs 64 v_fresh), ((d0 13), aI cs 5 v_size), ((d0 16), aI cs 12800 v_impact), ((d0 27), aI cs 40 v_gap), ((d0 37), aI cs 600 v_planTerm), ((d0 38), aI cs 600 v_planImpact), ((d0 39), aI cs 600 v_planSize)] := by
  unfold J_X9_plans_65 at h
  refine a_iast C (pc := 65) (ws1 := [(h0, oX9 d0 v_thrown v_taped v_at v_documents v_terms v_latest v_filed v_drafted v_place v_over v_clock v_askedTerms v_segments v_done v_postingsDone v_postingsAll v_why v_hits), ((d0 29), aI cs 64 v_asked), ((d0 10), aI cs 64 (upd v_fresh (s1 : Int32).toNatClampNeg s2)), ((d0 13), aI cs 5 v_size), ((d0 16), aI cs 12800 v_impact), ((d0 27), aI cs 40 v_gap), ((d0 37), aI cs 600 v_planTerm), ((d0 38), aI cs 600 v_planImpact), ((d0 39), aI cs 600 v_planSize)]) 2 rfl h.1 dX9_plans_65 rfl ?_
  replace h := h.2
  refine a_aload_n C (pc := 66) 0 dX9_plans_66 rfl rfl ?_
  refine a_get C (pc := 67) 0 10 inW_X9 rfl rfl (Nat.le_of_ble_eq_true rfl) wF_X9_25 rfl rfl dX9_plans_67 ?_
  refine a_iload C (pc := 70) 4 dX9_plans_70 rfl ?_
  refine a_iald C (pc := 72) 2 rfl h.1 dX9_plans_72 ?_
  replace h := h.2
  refine a_iload_n C (pc := 73) 3 dX9_plans_73 rfl rfl ?_
  refine a_icmp_le C (pc := 74) 87 dX9_plans_74 (by decide) (fun hc => ?_) (fun hc => ?_)
  · have h := h.1 hc
    refine a_iload_n C (pc := 87) 3 dX9_plans_87 rfl rfl ?_
    refine a_istore_n C (pc := 88) (lv1 := [(0, .ref h0), (1, .int l1), (2, .int l2), (3, .int l3), (4, .int l4)]) [1, 2, 3, 0, 4] dX9_plans_88 rfl (by decide) rfl ?_
    refine a_iinc C (pc := 89) (lv1 := [(0, .ref h0), (1, .int l1), (2, .int l2), (3, .int l3), (4, .int (l4 + 1))]) 4 [1, 2, 3, 4, 0] dX9_plans_89 rfl (congrArg (fun z => l4 + z) ic_1) (by decide) rfl ?_
    refine a_goto C (pc := 92) 30 dX9_plans_92 (by decide) ?_
    exact hB_30 v_segments v_postingsAll (upd v_fresh (s1 : Int32).toNatClampNeg s2) v_gap v_planTerm v_planImpact v_planSize l1 l2 l3 (l4 + 1) h
  · have h := h.2 hc
    refine a_aload_n C (pc := 77) 0 dX9_plans_77 rfl rfl ?_
    refine a_get C (pc := 78) 0 10 inW_X9 rfl rfl (Nat.le_of_ble_eq_true rfl) wF_X9_25 rfl rfl dX9_plans_78 ?_
    refine a_iload C (pc := 81) 4 dX9_plans_81 rfl ?_
    refine a_iald C (pc := 83) 2 rfl h.1 dX9_plans_83 ?_
    replace h := h.2
    refine a_goto C (pc := 84) 88 dX9_plans_84 (by decide) ?_
    refine a_istore_n C (pc := 88) (lv1 := [(0, .ref h0), (1, .int l1), (2, .int l2), (3, .int ((upd v_fresh (s1 : Int32).toNatClampNeg s2) (l4 : Int32).toNatClampNeg)), (4, .int l4)]) [1, 2, 3, 0, 4] dX9_plans_88 rfl (by decide) rfl ?_
    refine a_iinc C (pc := 89) (lv1 := [(0, .ref h0), (1, .int l1), (2, .int l2), (3, .int ((upd v_fresh (s1 : Int32).toNatClampNeg s2) (l4 : Int32).toNatClampNeg)), (4, .int (l4 + 1))]) 4 [1, 2, 3, 4, 0] dX9_plans_89 rfl (congrArg (fun z => l4 + z) ic_1) (by decide) rfl ?_
    refine a_goto C (pc := 92) 30 dX9_plans_92 (by decide) ?_
    exact hB_30 v_segments v_postingsAll (upd v_fresh (s1 : Int32).toNatClampNeg s2) v_gap v_planTerm v_planImpact v_planSize l1 l2 ((upd v_fresh (s1 : Int32).toNatClampNeg s2) (l4 : Int32).toNatClampNeg) (l4 + 1) h
set_option maxRecDepth 100000 in
set_option maxHeartbeats 4000000 in
theorem w_X9_plans_30 {Γ : XG} {Lx : Launch} {Dx : va_G} {cs : Nat → ClassId} {h0 : Nat} {d0 : Nat → Nat} {v_thrown : Int32} {v_taped : Int32} {v_at : Int32} {v_documents : Int32} {v_terms : Int32} {v_latest : Int32} {v_filed : Int32} {v_drafted : Int32} {v_place : Int32} {v_over : Int32} {v_clock : Int64} {v_askedTerms : Int32} {v_done : Int32} {v_postingsDone : Int32} {v_why : Int32} {v_hits : Int32} {v_asked : Nat → Int32} {v_size : Nat → Int32} {v_impact : Nat → Int32} {K_95 : Int32 → Int32 → (Nat → Int32) → (Nat → Int32) → (Nat → Int32) → (Nat → Int32) → (Nat → Int32) → Int32 → Int32 → Int32 → Prop} {Φ : Int32 → Int32 → (Nat → Int32) → (Nat → Int32) → (Nat → Int32) → (Nat → Int32) → (Nat → Int32) → Prop} {k n9 : Nat} (C : CX Γ Lx Dx cs cX9_plans RX9 "plans" 7 none 2 49 0 0 (qEC cs 0 0 [] (R_X9_plans cs h0 d0 v_thrown v_taped v_at v_documents v_terms v_latest v_filed v_drafted v_place v_over v_clock v_askedTerms v_done v_postingsDone v_why v_hits v_asked v_size v_impact Φ) (fun _ _ => False))) (hkm : k ≤ 0) (hnm : n9 ≤ 0) : ∀ n : Nat, ∀ (v_segments : Int32) (v_postingsAll : Int32) (v_fresh : Nat → Int32) (v_gap : Nat → Int32) (v_planTerm : Nat → Int32) (v_planImpact : Nat → Int32) (v_planSize : Nat → Int32) (l1 : Int32) (l2 : Int32) (l3 : Int32) (l4 : Int32), L_X9_plans_30 n v_askedTerms v_segments v_postingsAll v_asked v_fresh v_size v_impact v_gap v_planTerm v_planImpact v_planSize l1 l2 l3 l4 K_95 Φ → (∀ (v_segments_68 : Int32) (v_postingsAll_69 : Int32) (v_fresh_70 : Nat → Int32) (v_gap_71 : Nat → Int32) (v_planTerm_72 : Nat → Int32) (v_planImpact_73 : Nat → Int32) (v_planSize_74 : Nat → Int32) (l1_75 : Int32) (l2_76 : Int32) (l3_77 : Int32), K_95 v_segments_68 v_postingsAll_69 v_fresh_70 v_gap_71 v_planTerm_72 v_planImpact_73 v_planSize_74 l1_75 l2_76 l3_77 → AW Γ k n9 95 [(0, .ref h0), (1, .int l1_75), (2, .int l2_76), (3, .int l3_77)] [] [(h0, oX9 d0 v_thrown v_taped v_at v_documents v_terms v_latest v_filed v_drafted v_place v_over v_clock v_askedTerms v_segments_68 v_done v_postingsDone v_postingsAll_69 v_why v_hits), ((d0 29), aI cs 64 v_asked), ((d0 10), aI cs 64 v_fresh_70), ((d0 13), aI cs 5 v_size), ((d0 16), aI cs 12800 v_impact), ((d0 27), aI cs 40 v_gap_71), ((d0 37), aI cs 600 v_planTerm_72), ((d0 38), aI cs 600 v_planImpact_73), ((d0 39), aI cs 600 v_planSize_74)]) → AW Γ k n9 30 [(0, .ref h0), (1, .int l1), (2, .int l2), (3, .int l3), (4, .int l4)] [] [(h0, oX9 d0 v_thrown v_taped v_at v_documents v_terms v_latest v_filed v_drafted v_place v_over v_clock v_askedTerms v_segments v_done v_postingsDone v_postingsAll v_why v_hits), ((d0 29), aI cs 64 v_asked), ((d0 10), aI cs 64 v_fresh), ((d0 13), aI cs 5 v_size), ((d0 16), aI cs 12800 v_impact), ((d0 27), aI cs 40 v_gap), ((d0 37), aI cs 600 v_planTerm), ((d0 38), aI cs 600 v_planImpact), ((d0 39), aI cs 600 v_planSize)] := by
  intro n
  induction n with
  | zero =>
    intro v_segments v_postingsAll v_fresh v_gap v_planTerm v_planImpact v_planSize l1 l2 l3 l4 h
    exact False.elim h
  | succ n ih =>
    intro v_segments v_postingsAll v_fresh v_gap v_planTerm v_planImpact v_planSize l1 l2 l3 l4 h hK_95
    rw [L_X9_plans_30] at h
    refine a_iload C (pc := 30) 4 dX9_plans_30 rfl ?_
    refine a_bipush C (pc := 32) dX9_plans_32 bp_64 ?_
    refine a_icmp_ge C (pc := 34) 95 dX9_plans_34 (by decide) (fun hc => ?_) (fun hc => ?_)
    · have h := h.1 hc
      refine a_lv (lv1 := [(0, .ref h0), (1, .int l1), (2, .int l2), (3, .int l3)]) [0, 1, 2, 3] rfl ?_
      exact hK_95 v_segments v_postingsAll v_fresh v_gap v_planTerm v_planImpact v_planSize l1 l2 l3 h
    · have h := h.2 hc
      refine a_aload_n C (pc := 37) 0 dX9_plans_37 rfl rfl ?_
      refine a_get C (pc := 38) 0 10 inW_X9 rfl rfl (Nat.le_of_ble_eq_true rfl) wF_X9_25 rfl rfl dX9_plans_38 ?_
      refine a_iload C (pc := 41) 4 dX9_plans_41 rfl ?_
      refine a_aload_n C (pc := 43) 0 dX9_plans_43 rfl rfl ?_
      refine a_get C (pc := 44) 0 29 inW_X9 rfl rfl (Nat.le_of_ble_eq_true rfl) wF_X9_65 rfl rfl dX9_plans_44 ?_
      refine a_iload C (pc := 47) 4 dX9_plans_47 rfl ?_
      refine a_iald C (pc := 49) 1 rfl h.1 dX9_plans_49 ?_
      replace h := h.2
      refine a_if_ne C (pc := 50) 57 dX9_plans_50 (by decide) (fun hc => ?_) (fun hc => ?_)
      · have h := h.1 hc
        refine a_aload_n C (pc := 57) 0 dX9_plans_57 rfl rfl ?_
        refine a_iload_n C (pc := 58) 1 dX9_plans_58 rfl rfl ?_
        refine a_iload C (pc := 59) 4 dX9_plans_59 rfl ?_
        refine a_iload_n C (pc := 61) 2 dX9_plans_61 rfl rfl ?_
        refine a_callV C (pc := 62) (av := [.int l1, .int l4, .int l2]) (wr := [((d0 29), aI cs 64 v_asked), ((d0 10), aI cs 64 v_fresh), ((d0 37), aI cs 600 v_planTerm), ((d0 38), aI cs 600 v_planImpact), ((d0 39), aI cs 600 v_planSize)]) (m_X9_gaps Lx Dx cs h0 d0 v_thrown v_taped v_at v_documents v_terms v_latest v_filed v_drafted v_place v_over v_clock v_askedTerms v_segments v_done v_postingsDone v_postingsAll v_why v_hits v_size v_impact v_gap l1 l4 l2 _ h) [0, 3, 4, 5] [1, 2, 6, 7, 8] rfl rfl (by decide) (by decide) (by decide) wM_X9_187 wb_X9_gaps hy_X9_gaps (q0 := 0) rfl rfl rfl ⟨Nat.le_of_ble_eq_true rfl, Nat.le_of_ble_eq_true rfl⟩ (Nat.le_of_ble_eq_true rfl) hkm hnm rfl dX9_plans_62 (fun v w1 hw => ?_) [] rfl (fun _ _ h => h.elim)
        obtain ⟨r_1, v_gap_2, rfl, rfl, h⟩ := hw
        refine a_ws (st1 := [.int r_1, .int l4, .ref (d0 10)]) (ws1 := [(h0, oX9 d0 v_thrown v_taped v_at v_documents v_terms v_latest v_filed v_drafted v_place v_over v_clock v_askedTerms v_segments v_done v_postingsDone v_postingsAll v_why v_hits), ((d0 29), aI cs 64 v_asked), ((d0 10), aI cs 64 v_fresh), ((d0 13), aI cs 5 v_size), ((d0 16), aI cs 12800 v_impact), ((d0 27), aI cs 40 v_gap_2), ((d0 37), aI cs 600 v_planTerm), ((d0 38), aI cs 600 v_planImpact), ((d0 39), aI cs 600 v_planSize)]) k n9 65 [5, 0, 1, 6, 7, 8, 2, 3, 4] rfl rfl rfl rfl (by decide) rfl ?_
        exact w_X9_plans_65 C hkm hnm v_segments v_postingsAll v_fresh v_gap_2 v_planTerm v_planImpact v_planSize l1 l2 l3 l4 l4 r_1 h (fun v_segments_35 v_postingsAll_36 v_fresh_37 v_gap_38 v_planTerm_39 v_planImpact_40 v_planSize_41 l1_42 l2_43 l3_44 l4_45 h => ih v_segments_35 v_postingsAll_36 v_fresh_37 v_gap_38 v_planTerm_39 v_planImpact_40 v_planSize_41 l1_42 l2_43 l3_44 l4_45 h hK_95) hK_95
      · have h := h.2 hc
        refine a_iconst C (pc := 53) dX9_plans_53 ic_0 ?_
        refine a_goto C (pc := 54) 65 dX9_plans_54 (by decide) ?_
        exact w_X9_plans_65 C hkm hnm v_segments v_postingsAll v_fresh v_gap v_planTerm v_planImpact v_planSize l1 l2 l3 l4 l4 0 h (fun v_segments_57 v_postingsAll_58 v_fresh_59 v_gap_60 v_planTerm_61 v_planImpact_62 v_planSize_63 l1_64 l2_65 l3_66 l4_67 h => ih v_segments_57 v_postingsAll_58 v_fresh_59 v_gap_60 v_planTerm_61 v_planImpact_62 v_planSize_63 l1_64 l2_65 l3_66 l4_67 h hK_95) hK_95
set_option maxRecDepth 100000 in
set_option maxHeartbeats 4000000 in
theorem w_X9_plans_110 {Γ : XG} {Lx : Launch} {Dx : va_G} {cs : Nat → ClassId} {h0 : Nat} {d0 : Nat → Nat} {v_thrown : Int32} {v_taped : Int32} {v_at : Int32} {v_documents : Int32} {v_terms : Int32} {v_latest : Int32} {v_filed : Int32} {v_drafted : Int32} {v_place : Int32} {v_over : Int32} {v_clock : Int64} {v_askedTerms : Int32} {v_done : Int32} {v_postingsDone : Int32} {v_why : Int32} {v_hits : Int32} {v_asked : Nat → Int32} {v_size : Nat → Int32} {v_impact : Nat → Int32} {K_204 : Int32 → Int32 → (Nat → Int32) → (Nat → Int32) → (Nat → Int32) → (Nat → Int32) → (Nat → Int32) → Int32 → Int32 → Int32 → Int32 → Prop} {Φ : Int32 → Int32 → (Nat → Int32) → (Nat → Int32) → (Nat → Int32) → (Nat → Int32) → (Nat → Int32) → Prop} {k n9 : Nat} (C : CX Γ Lx Dx cs cX9_plans RX9 "plans" 7 none 2 49 0 0 (qEC cs 0 0 [] (R_X9_plans cs h0 d0 v_thrown v_taped v_at v_documents v_terms v_latest v_filed v_drafted v_place v_over v_clock v_askedTerms v_done v_postingsDone v_why v_hits v_asked v_size v_impact Φ) (fun _ _ => False))) (hkm : k ≤ 0) (hnm : n9 ≤ 0) : ∀ n : Nat, ∀ (v_segments : Int32) (v_postingsAll : Int32) (v_fresh : Nat → Int32) (v_gap : Nat → Int32) (v_planTerm : Nat → Int32) (v_planImpact : Nat → Int32) (v_planSize : Nat → Int32) (l1 : Int32) (l2 : Int32) (l3 : Int32) (l4 : Int32) (l5 : Int32) (l6 : Int32), L_X9_plans_110 n v_askedTerms v_segments v_postingsAll v_asked v_fresh v_size v_impact v_gap v_planTerm v_planImpact v_planSize l1 l2 l3 l4 l5 l6 K_204 Φ → (∀ (v_segments_88 : Int32) (v_postingsAll_89 : Int32) (v_fresh_90 : Nat → Int32) (v_gap_91 : Nat → Int32) (v_planTerm_92 : Nat → Int32) (v_planImpact_93 : Nat → Int32) (v_planSize_94 : Nat → Int32) (l1_95 : Int32) (l2_96 : Int32) (l3_97 : Int32) (l4_98 : Int32), K_204 v_segments_88 v_postingsAll_89 v_fresh_90 v_gap_91 v_planTerm_92 v_planImpact_93 v_planSize_94 l1_95 l2_96 l3_97 l4_98 → AW Γ k n9 204 [(0, .ref h0), (1, .int l1_95), (2, .int l2_96), (3, .int l3_97), (4, .int l4_98)] [] [(h0, oX9 d0 v_thrown v_taped v_at v_documents v_terms v_latest v_filed v_drafted v_place v_over v_clock v_askedTerms v_segments_88 v_done v_postingsDone v_postingsAll_89 v_why v_hits), ((d0 29), aI cs 64 v_asked), ((d0 10), aI cs 64 v_fresh_90), ((d0 13), aI cs 5 v_size), ((d0 16), aI cs 12800 v_impact), ((d0 27), aI cs 40 v_gap_91), ((d0 37), aI cs 600 v_planTerm_92), ((d0 38), aI cs 600 v_planImpact_93), ((d0 39), aI cs 600 v_planSize_94)]) → AW Γ k n9 110 [(0, .ref h0), (1, .int l1), (2, .int l2), (3, .int l3), (4, .int l4), (5, .int l5), (6, .int l6)] [] [(h0, oX9 d0 v_thrown v_taped v_at v_documents v_terms v_latest v_filed v_drafted v_place v_over v_clock v_askedTerms v_segments v_done v_postingsDone v_postingsAll v_why v_hits), ((d0 29), aI cs 64 v_asked), ((d0 10), aI cs 64 v_fresh), ((d0 13), aI cs 5 v_size), ((d0 16), aI cs 12800 v_impact), ((d0 27), aI cs 40 v_gap), ((d0 37), aI cs 600 v_planTerm), ((d0 38), aI cs 600 v_planImpact), ((d0 39), aI cs 600 v_planSize)] := by
  intro n
  induction n with
  | zero =>
    intro v_segments v_postingsAll v_fresh v_gap v_planTerm v_planImpact v_planSize l1 l2 l3 l4 l5 l6 h
    exact False.elim h
  | succ n ih =>
    intro v_segments v_postingsAll v_fresh v_gap v_planTerm v_planImpact v_planSize l1 l2 l3 l4 l5 l6 h hK_204
    rw [L_X9_plans_110] at h
    refine a_iload C (pc := 110) 6 dX9_plans_110 rfl ?_
    refine a_bipush C (pc := 112) dX9_plans_112 bp_64 ?_
    refine a_icmp_ge C (pc := 114) 204 dX9_plans_114 (by decide) (fun hc => ?_) (fun hc => ?_)
    · have h := h.1 hc
      refine a_lv (lv1 := [(0, .ref h0), (1, .int l1), (2, .int l2), (3, .int l3), (4, .int l4)]) [0, 1, 2, 3, 4] rfl ?_
      exact hK_204 v_segments v_postingsAll v_fresh v_gap v_planTerm v_planImpact v_planSize l1 l2 l3 l4 h
    · have h := h.2 hc
      refine a_aload_n C (pc := 117) 0 dX9_plans_117 rfl rfl ?_
      refine a_get C (pc := 118) 0 29 inW_X9 rfl rfl (Nat.le_of_ble_eq_true rfl) wF_X9_65 rfl rfl dX9_plans_118 ?_
      refine a_iload C (pc := 121) 6 dX9_plans_121 rfl ?_
      refine a_iald C (pc := 123) 1 rfl h.1 dX9_plans_123 ?_
      replace h := h.2
      refine a_if_ne C (pc := 124) 130 dX9_plans_124 (by decide) (fun hc => ?_) (fun hc => ?_)
      · have h := h.1 hc
        refine a_aload_n C (pc := 130) 0 dX9_plans_130 rfl rfl ?_
        refine a_get C (pc := 131) 0 10 inW_X9 rfl rfl (Nat.le_of_ble_eq_true rfl) wF_X9_25 rfl rfl dX9_plans_131 ?_
        refine a_iload C (pc := 134) 6 dX9_plans_134 rfl ?_
        refine a_iald C (pc := 136) 2 rfl h.1 dX9_plans_136 ?_
        replace h := h.2
        refine a_iload C (pc := 137) 4 dX9_plans_137 rfl ?_
        refine a_icmp_ne C (pc := 139) 195 dX9_plans_139 (by decide) (fun hc => ?_) (fun hc => ?_)
        · have h := h.1 hc
          refine a_iinc C (pc := 195) (lv1 := [(0, .ref h0), (1, .int l1), (2, .int l2), (3, .int l3), (4, .int l4), (5, .int (l5 + 1)), (6, .int l6)]) 5 [1, 2, 3, 4, 5, 0, 6] dX9_plans_195 rfl (congrArg (fun z => l5 + z) ic_1) (by decide) rfl ?_
          refine a_iinc C (pc := 198) (lv1 := [(0, .ref h0), (1, .int l1), (2, .int l2), (3, .int l3), (4, .int l4), (5, .int (l5 + 1)), (6, .int (l6 + 1))]) 6 [1, 2, 3, 4, 5, 6, 0] dX9_plans_198 rfl (congrArg (fun z => l6 + z) ic_1) (by decide) rfl ?_
          refine a_goto C (pc := 201) 110 dX9_plans_201 (by decide) ?_
          exact ih v_segments v_postingsAll v_fresh v_gap v_planTerm v_planImpact v_planSize l1 l2 l3 l4 (l5 + 1) (l6 + 1) h hK_204
        · have h := h.2 hc
          refine a_aload_n C (pc := 142) 0 dX9_plans_142 rfl rfl ?_
          refine a_get C (pc := 143) 0 37 inW_X9 rfl rfl (Nat.le_of_ble_eq_true rfl) wF_X9_68 rfl rfl dX9_plans_143 ?_
          refine a_aload_n C (pc := 146) 0 dX9_plans_146 rfl rfl ?_
          refine a_get C (pc := 147) 0 31 inW_X9 rfl rfl (Nat.le_of_ble_eq_true rfl) wF_X9_296 rfl rfl dX9_plans_147 ?_
          refine a_iload C (pc := 150) 5 dX9_plans_150 rfl ?_
          refine a_iast C (pc := 152) (ws1 := [(h0, oX9 d0 v_thrown v_taped v_at v_documents v_terms v_latest v_filed v_drafted v_place v_over v_clock v_askedTerms v_segments v_done v_postingsDone v_postingsAll v_why v_hits), ((d0 29), aI cs 64 v_asked), ((d0 10), aI cs 64 v_fresh), ((d0 13), aI cs 5 v_size), ((d0 16), aI cs 12800 v_impact), ((d0 27), aI cs 40 v_gap), ((d0 37), aI cs 600 (upd v_planTerm (v_segments : Int32).toNatClampNeg l5)), ((d0 38), aI cs 600 v_planImpact), ((d0 39), aI cs 600 v_planSize)]) 6 rfl h.1 dX9_plans_152 rfl ?_
          replace h := h.2
          refine a_aload_n C (pc := 153) 0 dX9_plans_153 rfl rfl ?_
          refine a_get C (pc := 154) 0 38 inW_X9 rfl rfl (Nat.le_of_ble_eq_true rfl) wF_X9_71 rfl rfl dX9_plans_154 ?_
          refine a_aload_n C (pc := 157) 0 dX9_plans_157 rfl rfl ?_
          refine a_get C (pc := 158) 0 31 inW_X9 rfl rfl (Nat.le_of_ble_eq_true rfl) wF_X9_296 rfl rfl dX9_plans_158 ?_
          refine a_iload_n C (pc := 161) 2 dX9_plans_161 rfl rfl ?_
          refine a_iast C (pc := 162) (ws1 := [(h0, oX9 d0 v_thrown v_taped v_at v_documents v_terms v_latest v_filed v_drafted v_place v_over v_clock v_askedTerms v_segments v_done v_postingsDone v_postingsAll v_why v_hits), ((d0 29), aI cs 64 v_asked), ((d0 10), aI cs 64 v_fresh), ((d0 13), aI cs 5 v_size), ((d0 16), aI cs 12800 v_impact), ((d0 27), aI cs 40 v_gap), ((d0 37), aI cs 600 (upd v_planTerm (v_segments : Int32).toNatClampNeg l5)), ((d0 38), aI cs 600 (upd v_planImpact (v_segments : Int32).toNatClampNeg l2)), ((d0 39), aI cs 600 v_planSize)]) 7 rfl h.1 dX9_plans_162 rfl ?_
          replace h := h.2
          refine a_aload_n C (pc := 163) 0 dX9_plans_163 rfl rfl ?_
          refine a_get C (pc := 164) 0 39 inW_X9 rfl rfl (Nat.le_of_ble_eq_true rfl) wF_X9_74 rfl rfl dX9_plans_164 ?_
          refine a_aload_n C (pc := 167) 0 dX9_plans_167 rfl rfl ?_
          refine a_get C (pc := 168) 0 31 inW_X9 rfl rfl (Nat.le_of_ble_eq_true rfl) wF_X9_296 rfl rfl dX9_plans_168 ?_
          refine a_iload C (pc := 171) 4 dX9_plans_171 rfl ?_
          refine a_iast C (pc := 173) (ws1 := [(h0, oX9 d0 v_thrown v_taped v_at v_documents v_terms v_latest v_filed v_drafted v_place v_over v_clock v_askedTerms v_segments v_done v_postingsDone v_postingsAll v_why v_hits), ((d0 29), aI cs 64 v_asked), ((d0 10), aI cs 64 v_fresh), ((d0 13), aI cs 5 v_size), ((d0 16), aI cs 12800 v_impact), ((d0 27), aI cs 40 v_gap), ((d0 37), aI cs 600 (upd v_planTerm (v_segments : Int32).toNatClampNeg l5)), ((d0 38), aI cs 600 (upd v_planImpact (v_segments : Int32).toNatClampNeg l2)), ((d0 39), aI cs 600 (upd v_planSize (v_segments : Int32).toNatClampNeg l4))]) 8 rfl h.1 dX9_plans_173 rfl ?_
          replace h := h.2
          refine a_aload_n C (pc := 174) 0 dX9_plans_174 rfl rfl ?_
          refine a_dup C (pc := 175) dX9_plans_175 rfl ?_
          refine a_get C (pc := 176) 0 31 inW_X9 rfl rfl (Nat.le_of_ble_eq_true rfl) wF_X9_296 rfl rfl dX9_plans_176 ?_
          refine a_iconst C (pc := 179) dX9_plans_179 ic_1 ?_
          refine a_iadd C (pc := 180) dX9_plans_180 ?_
          refine a_put C (pc := 181) (ws1 := [(h0, oX9 d0 v_thrown v_taped v_at v_documents v_terms v_latest v_filed v_drafted v_place v_over v_clock v_askedTerms (v_segments + 1) v_done v_postingsDone v_postingsAll v_why v_hits), ((d0 29), aI cs 64 v_asked), ((d0 10), aI cs 64 v_fresh), ((d0 13), aI cs 5 v_size), ((d0 16), aI cs 12800 v_impact), ((d0 27), aI cs 40 v_gap), ((d0 37), aI cs 600 (upd v_planTerm (v_segments : Int32).toNatClampNeg l5)), ((d0 38), aI cs 600 (upd v_planImpact (v_segments : Int32).toNatClampNeg l2)), ((d0 39), aI cs 600 (upd v_planSize (v_segments : Int32).toNatClampNeg l4))]) 0 31 inW_X9 tyX9 tyX9_ok nmX9 rfl rfl (Nat.le_of_ble_eq_true rfl) wF_X9_296 rfl rfl rfl rfl rfl (Nat.le_of_ble_eq_true rfl) dX9_plans_181 rfl ?_
          refine a_aload_n C (pc := 184) 0 dX9_plans_184 rfl rfl ?_
          refine a_dup C (pc := 185) dX9_plans_185 rfl ?_
          refine a_get C (pc := 186) 0 34 inW_X9 rfl rfl (Nat.le_of_ble_eq_true rfl) wF_X9_312 rfl rfl dX9_plans_186 ?_
          refine a_iload C (pc := 189) 4 dX9_plans_189 rfl ?_
          refine a_iadd C (pc := 191) dX9_plans_191 ?_
          refine a_put C (pc := 192) (ws1 := [(h0, oX9 d0 v_thrown v_taped v_at v_documents v_terms v_latest v_filed v_drafted v_place v_over v_clock v_askedTerms (v_segments + 1) v_done v_postingsDone (v_postingsAll + l4) v_why v_hits), ((d0 29), aI cs 64 v_asked), ((d0 10), aI cs 64 v_fresh), ((d0 13), aI cs 5 v_size), ((d0 16), aI cs 12800 v_impact), ((d0 27), aI cs 40 v_gap), ((d0 37), aI cs 600 (upd v_planTerm (v_segments : Int32).toNatClampNeg l5)), ((d0 38), aI cs 600 (upd v_planImpact (v_segments : Int32).toNatClampNeg l2)), ((d0 39), aI cs 600 (upd v_planSize (v_segments : Int32).toNatClampNeg l4))]) 0 34 inW_X9 tyX9 tyX9_ok nmX9 rfl rfl (Nat.le_of_ble_eq_true rfl) wF_X9_312 rfl rfl rfl rfl rfl (Nat.le_of_ble_eq_true rfl) dX9_plans_192 rfl ?_
          refine a_iinc C (pc := 195) (lv1 := [(0, .ref h0), (1, .int l1), (2, .int l2), (3, .int l3), (4, .int l4), (5, .int (l5 + 1)), (6, .int l6)]) 5 [1, 2, 3, 4, 5, 0, 6] dX9_plans_195 rfl (congrArg (fun z => l5 + z) ic_1) (by decide) rfl ?_
          refine a_iinc C (pc := 198) (lv1 := [(0, .ref h0), (1, .int l1), (2, .int l2), (3, .int l3), (4, .int l4), (5, .int (l5 + 1)), (6, .int (l6 + 1))]) 6 [1, 2, 3, 4, 5, 6, 0] dX9_plans_198 rfl (congrArg (fun z => l6 + z) ic_1) (by decide) rfl ?_
          refine a_goto C (pc := 201) 110 dX9_plans_201 (by decide) ?_
          exact ih (v_segments + 1) (v_postingsAll + l4) v_fresh v_gap (upd v_planTerm (v_segments : Int32).toNatClampNeg l5) (upd v_planImpact (v_segments : Int32).toNatClampNeg l2) (upd v_planSize (v_segments : Int32).toNatClampNeg l4) l1 l2 l3 l4 (l5 + 1) (l6 + 1) h hK_204
      · have h := h.2 hc
        refine a_goto C (pc := 127) 198 dX9_plans_127 (by decide) ?_
        refine a_iinc C (pc := 198) (lv1 := [(0, .ref h0), (1, .int l1), (2, .int l2), (3, .int l3), (4, .int l4), (5, .int l5), (6, .int (l6 + 1))]) 6 [1, 2, 3, 4, 5, 6, 0] dX9_plans_198 rfl (congrArg (fun z => l6 + z) ic_1) (by decide) rfl ?_
        refine a_goto C (pc := 201) 110 dX9_plans_201 (by decide) ?_
        exact ih v_segments v_postingsAll v_fresh v_gap v_planTerm v_planImpact v_planSize l1 l2 l3 l4 l5 (l6 + 1) h hK_204
set_option maxRecDepth 100000 in
set_option maxHeartbeats 4000000 in
theorem w_X9_plans_98 {Γ : XG} {Lx : Launch} {Dx : va_G} {cs : Nat → ClassId} {h0 : Nat} {d0 : Nat → Nat} {v_thrown : Int32} {v_taped : Int32} {v_at : Int32} {v_documents : Int32} {v_terms : Int32} {v_latest : Int32} {v_filed : Int32} {v_drafted : Int32} {v_place : Int32} {v_over : Int32} {v_clock : Int64} {v_askedTerms : Int32} {v_done : Int32} {v_postingsDone : Int32} {v_why : Int32} {v_hits : Int32} {v_asked : Nat → Int32} {v_size : Nat → Int32} {v_impact : Nat → Int32} {K_210 : Int32 → Int32 → (Nat → Int32) → (Nat → Int32) → (Nat → Int32) → (Nat → Int32) → (Nat → Int32) → Int32 → Int32 → Prop} {Φ : Int32 → Int32 → (Nat → Int32) → (Nat → Int32) → (Nat → Int32) → (Nat → Int32) → (Nat → Int32) → Prop} {k n9 : Nat} (C : CX Γ Lx Dx cs cX9_plans RX9 "plans" 7 none 2 49 0 0 (qEC cs 0 0 [] (R_X9_plans cs h0 d0 v_thrown v_taped v_at v_documents v_terms v_latest v_filed v_drafted v_place v_over v_clock v_askedTerms v_done v_postingsDone v_why v_hits v_asked v_size v_impact Φ) (fun _ _ => False))) (hkm : k ≤ 0) (hnm : n9 ≤ 0) : ∀ n : Nat, ∀ (v_segments : Int32) (v_postingsAll : Int32) (v_fresh : Nat → Int32) (v_gap : Nat → Int32) (v_planTerm : Nat → Int32) (v_planImpact : Nat → Int32) (v_planSize : Nat → Int32) (l1 : Int32) (l2 : Int32) (l3 : Int32) (l4 : Int32), L_X9_plans_98 n v_askedTerms v_segments v_postingsAll v_asked v_fresh v_size v_impact v_gap v_planTerm v_planImpact v_planSize l1 l2 l3 l4 K_210 Φ → (∀ (v_segments_110 : Int32) (v_postingsAll_111 : Int32) (v_fresh_112 : Nat → Int32) (v_gap_113 : Nat → Int32) (v_planTerm_114 : Nat → Int32) (v_planImpact_115 : Nat → Int32) (v_planSize_116 : Nat → Int32) (l1_117 : Int32) (l2_118 : Int32), K_210 v_segments_110 v_postingsAll_111 v_fresh_112 v_gap_113 v_planTerm_114 v_planImpact_115 v_planSize_116 l1_117 l2_118 → AW Γ k n9 210 [(0, .ref h0), (1, .int l1_117), (2, .int l2_118)] [] [(h0, oX9 d0 v_thrown v_taped v_at v_documents v_terms v_latest v_filed v_drafted v_place v_over v_clock v_askedTerms v_segments_110 v_done v_postingsDone v_postingsAll_111 v_why v_hits), ((d0 29), aI cs 64 v_asked), ((d0 10), aI cs 64 v_fresh_112), ((d0 13), aI cs 5 v_size), ((d0 16), aI cs 12800 v_impact), ((d0 27), aI cs 40 v_gap_113), ((d0 37), aI cs 600 v_planTerm_114), ((d0 38), aI cs 600 v_planImpact_115), ((d0 39), aI cs 600 v_planSize_116)]) → AW Γ k n9 98 [(0, .ref h0), (1, .int l1), (2, .int l2), (3, .int l3), (4, .int l4)] [] [(h0, oX9 d0 v_thrown v_taped v_at v_documents v_terms v_latest v_filed v_drafted v_place v_over v_clock v_askedTerms v_segments v_done v_postingsDone v_postingsAll v_why v_hits), ((d0 29), aI cs 64 v_asked), ((d0 10), aI cs 64 v_fresh), ((d0 13), aI cs 5 v_size), ((d0 16), aI cs 12800 v_impact), ((d0 27), aI cs 40 v_gap), ((d0 37), aI cs 600 v_planTerm), ((d0 38), aI cs 600 v_planImpact), ((d0 39), aI cs 600 v_planSize)] := by
  intro n
  induction n with
  | zero =>
    intro v_segments v_postingsAll v_fresh v_gap v_planTerm v_planImpact v_planSize l1 l2 l3 l4 h
    exact False.elim h
  | succ n ih =>
    intro v_segments v_postingsAll v_fresh v_gap v_planTerm v_planImpact v_planSize l1 l2 l3 l4 h hK_210
    rw [L_X9_plans_98] at h
    refine a_iload C (pc := 98) 4 dX9_plans_98 rfl ?_
    refine a_iload_n C (pc := 100) 3 dX9_plans_100 rfl rfl ?_
    refine a_icmp_gt C (pc := 101) 210 dX9_plans_101 (by decide) (fun hc => ?_) (fun hc => ?_)
    · have h := h.1 hc
      refine a_lv (lv1 := [(0, .ref h0), (1, .int l1), (2, .int l2)]) [0, 1, 2] rfl ?_
      exact hK_210 v_segments v_postingsAll v_fresh v_gap v_planTerm v_planImpact v_planSize l1 l2 h
    · have h := h.2 hc
      refine a_iconst C (pc := 104) dX9_plans_104 ic_0 ?_
      refine a_istore C (pc := 105) (lv1 := [(0, .ref h0), (1, .int l1), (2, .int l2), (3, .int l3), (4, .int l4), (5, .int 0)]) [1, 2, 3, 4, 5, 0] dX9_plans_105 (by decide) rfl ?_
      refine a_iconst C (pc := 107) dX9_plans_107 ic_0 ?_
      refine a_istore C (pc := 108) (lv1 := [(0, .ref h0), (1, .int l1), (2, .int l2), (3, .int l3), (4, .int l4), (5, .int 0), (6, .int 0)]) [1, 2, 3, 4, 5, 6, 0] dX9_plans_108 (by decide) rfl ?_
      obtain ⟨n0, h⟩ := h
      refine w_X9_plans_110 C hkm hnm n0 v_segments v_postingsAll v_fresh v_gap v_planTerm v_planImpact v_planSize l1 l2 l3 l4 0 0 h ?_
      intro v_segments_99 v_postingsAll_100 v_fresh_101 v_gap_102 v_planTerm_103 v_planImpact_104 v_planSize_105 l1_106 l2_107 l3_108 l4_109 h
      refine a_iinc C (pc := 204) (lv1 := [(0, .ref h0), (1, .int l1_106), (2, .int l2_107), (3, .int l3_108), (4, .int (l4_109 + 1))]) 4 [1, 2, 3, 4, 0] dX9_plans_204 rfl (congrArg (fun z => l4_109 + z) ic_1) (by decide) rfl ?_
      refine a_goto C (pc := 207) 98 dX9_plans_207 (by decide) ?_
      exact ih v_segments_99 v_postingsAll_100 v_fresh_101 v_gap_102 v_planTerm_103 v_planImpact_104 v_planSize_105 l1_106 l2_107 l3_108 (l4_109 + 1) h hK_210
set_option maxRecDepth 100000 in
set_option maxHeartbeats 4000000 in
theorem w_X9_plans_14 {Γ : XG} {Lx : Launch} {Dx : va_G} {cs : Nat → ClassId} {h0 : Nat} {d0 : Nat → Nat} {v_thrown : Int32} {v_taped : Int32} {v_at : Int32} {v_documents : Int32} {v_terms : Int32} {v_latest : Int32} {v_filed : Int32} {v_drafted : Int32} {v_place : Int32} {v_over : Int32} {v_clock : Int64} {v_askedTerms : Int32} {v_done : Int32} {v_postingsDone : Int32} {v_why : Int32} {v_hits : Int32} {v_asked : Nat → Int32} {v_size : Nat → Int32} {v_impact : Nat → Int32} {K_216 : Int32 → Int32 → (Nat → Int32) → (Nat → Int32) → (Nat → Int32) → (Nat → Int32) → (Nat → Int32) → Prop} {Φ : Int32 → Int32 → (Nat → Int32) → (Nat → Int32) → (Nat → Int32) → (Nat → Int32) → (Nat → Int32) → Prop} {k n9 : Nat} (C : CX Γ Lx Dx cs cX9_plans RX9 "plans" 7 none 2 49 0 0 (qEC cs 0 0 [] (R_X9_plans cs h0 d0 v_thrown v_taped v_at v_documents v_terms v_latest v_filed v_drafted v_place v_over v_clock v_askedTerms v_done v_postingsDone v_why v_hits v_asked v_size v_impact Φ) (fun _ _ => False))) (hkm : k ≤ 0) (hnm : n9 ≤ 0) : ∀ n : Nat, ∀ (v_segments : Int32) (v_postingsAll : Int32) (v_fresh : Nat → Int32) (v_gap : Nat → Int32) (v_planTerm : Nat → Int32) (v_planImpact : Nat → Int32) (v_planSize : Nat → Int32) (l1 : Int32) (l2 : Int32), L_X9_plans_14 n v_askedTerms v_segments v_postingsAll v_asked v_fresh v_size v_impact v_gap v_planTerm v_planImpact v_planSize l1 l2 K_216 Φ → (∀ (v_segments_128 : Int32) (v_postingsAll_129 : Int32) (v_fresh_130 : Nat → Int32) (v_gap_131 : Nat → Int32) (v_planTerm_132 : Nat → Int32) (v_planImpact_133 : Nat → Int32) (v_planSize_134 : Nat → Int32), K_216 v_segments_128 v_postingsAll_129 v_fresh_130 v_gap_131 v_planTerm_132 v_planImpact_133 v_planSize_134 → AW Γ k n9 216 [] [] [(h0, oX9 d0 v_thrown v_taped v_at v_documents v_terms v_latest v_filed v_drafted v_place v_over v_clock v_askedTerms v_segments_128 v_done v_postingsDone v_postingsAll_129 v_why v_hits), ((d0 29), aI cs 64 v_asked), ((d0 10), aI cs 64 v_fresh_130), ((d0 13), aI cs 5 v_size), ((d0 16), aI cs 12800 v_impact), ((d0 27), aI cs 40 v_gap_131), ((d0 37), aI cs 600 v_planTerm_132), ((d0 38), aI cs 600 v_planImpact_133), ((d0 39), aI cs 600 v_planSize_134)]) → AW Γ k n9 14 [(0, .ref h0), (1, .int l1), (2, .int l2)] [] [(h0, oX9 d0 v_thrown v_taped v_at v_documents v_terms v_latest v_filed v_drafted v_place v_over v_clock v_askedTerms v_segments v_done v_postingsDone v_postingsAll v_why v_hits), ((d0 29), aI cs 64 v_asked), ((d0 10), aI cs 64 v_fresh), ((d0 13), aI cs 5 v_size), ((d0 16), aI cs 12800 v_impact), ((d0 27), aI cs 40 v_gap), ((d0 37), aI cs 600 v_planTerm), ((d0 38), aI cs 600 v_planImpact), ((d0 39), aI cs 600 v_planSize)] := by
  intro n
  induction n with
  | zero =>
    intro v_segments v_postingsAll v_fresh v_gap v_planTerm v_planImpact v_planSize l1 l2 h
    exact False.elim h
  | succ n ih =>
    intro v_segments v_postingsAll v_fresh v_gap v_planTerm v_planImpact v_planSize l1 l2 h hK_216
    rw [L_X9_plans_14] at h
    refine a_iload_n C (pc := 14) 2 dX9_plans_14 rfl rfl ?_
    refine a_if_le C (pc := 15) 216 dX9_plans_15 (by decide) (fun hc => ?_) (fun hc => ?_)
    · have h := h.1 hc
      refine a_lv (lv1 := []) [] rfl ?_
      exact hK_216 v_segments v_postingsAll v_fresh v_gap v_planTerm v_planImpact v_planSize h
    · have h := h.2 hc
      refine a_aload_n C (pc := 18) 0 dX9_plans_18 rfl rfl ?_
      refine a_get C (pc := 19) 0 30 inW_X9 rfl rfl (Nat.le_of_ble_eq_true rfl) wF_X9_281 rfl rfl dX9_plans_19 ?_
      refine a_if_le C (pc := 22) 216 dX9_plans_22 (by decide) (fun hc => ?_) (fun hc => ?_)
      · have h := h.1 hc
        refine a_lv (lv1 := []) [] rfl ?_
        exact hK_216 v_segments v_postingsAll v_fresh v_gap v_planTerm v_planImpact v_planSize h
      · have h := h.2 hc
        refine a_iconst C (pc := 25) dX9_plans_25 ic_0 ?_
        refine a_istore_n C (pc := 26) (lv1 := [(0, .ref h0), (1, .int l1), (2, .int l2), (3, .int 0)]) [1, 2, 3, 0] dX9_plans_26 rfl (by decide) rfl ?_
        refine a_iconst C (pc := 27) dX9_plans_27 ic_0 ?_
        refine a_istore C (pc := 28) (lv1 := [(0, .ref h0), (1, .int l1), (2, .int l2), (3, .int 0), (4, .int 0)]) [1, 2, 3, 4, 0] dX9_plans_28 (by decide) rfl ?_
        obtain ⟨n0, h⟩ := h
        refine w_X9_plans_30 C hkm hnm n0 v_segments v_postingsAll v_fresh v_gap v_planTerm v_planImpact v_planSize l1 l2 0 0 h ?_
        intro v_segments_78 v_postingsAll_79 v_fresh_80 v_gap_81 v_planTerm_82 v_planImpact_83 v_planSize_84 l1_85 l2_86 l3_87 h
        refine a_iconst C (pc := 95) dX9_plans_95 ic_1 ?_
        refine a_istore C (pc := 96) (lv1 := [(0, .ref h0), (1, .int l1_85), (2, .int l2_86), (3, .int l3_87), (4, .int 1)]) [1, 2, 3, 4, 0] dX9_plans_96 (by decide) rfl ?_
        obtain ⟨n0, h⟩ := h
        refine w_X9_plans_98 C hkm hnm n0 v_segments_78 v_postingsAll_79 v_fresh_80 v_gap_81 v_planTerm_82 v_planImpact_83 v_planSize_84 l1_85 l2_86 l3_87 1 h ?_
        intro v_segments_119 v_postingsAll_120 v_fresh_121 v_gap_122 v_planTerm_123 v_planImpact_124 v_planSize_125 l1_126 l2_127 h
        refine a_iinc C (pc := 210) (lv1 := [(0, .ref h0), (1, .int l1_126), (2, .int (l2_127 + (-1)))]) 2 [1, 2, 0] dX9_plans_210 rfl (congrArg (fun z => l2_127 + z) ic_m1) (by decide) rfl ?_
        refine a_goto C (pc := 213) 14 dX9_plans_213 (by decide) ?_
        exact ih v_segments_119 v_postingsAll_120 v_fresh_121 v_gap_122 v_planTerm_123 v_planImpact_124 v_planSize_125 l1_126 (l2_127 + (-1)) h hK_216
set_option maxRecDepth 100000 in
set_option maxHeartbeats 4000000 in
theorem m_X9_plans (Lx : Launch) (Dx : va_G) (cs : Nat → ClassId) (h0 : Nat) (d0 : Nat → Nat) (v_thrown : Int32) (v_taped : Int32) (v_at : Int32) (v_documents : Int32) (v_terms : Int32) (v_latest : Int32) (v_filed : Int32) (v_drafted : Int32) (v_place : Int32) (v_over : Int32) (v_clock : Int64) (v_askedTerms : Int32) (v_segments : Int32) (v_done : Int32) (v_postingsDone : Int32) (v_postingsAll : Int32) (v_why : Int32) (v_hits : Int32) (v_asked : Nat → Int32) (v_fresh : Nat → Int32) (v_size : Nat → Int32) (v_impact : Nat → Int32) (v_gap : Nat → Int32) (v_planTerm : Nat → Int32) (v_planImpact : Nat → Int32) (v_planSize : Nat → Int32) (l1 : Int32) (Φ : Int32 → Int32 → (Nat → Int32) → (Nat → Int32) → (Nat → Int32) → (Nat → Int32) → (Nat → Int32) → Prop) (h : P_X9_plans v_askedTerms v_segments v_postingsAll v_asked v_fresh v_size v_impact v_gap v_planTerm v_planImpact v_planSize l1 Φ) : XMet Lx Dx cs yX9_plans cX9_plans 7 none 2 49 0 0 [.ref h0, .int l1] [(h0, oX9 d0 v_thrown v_taped v_at v_documents v_terms v_latest v_filed v_drafted v_place v_over v_clock v_askedTerms v_segments v_done v_postingsDone v_postingsAll v_why v_hits), ((d0 29), aI cs 64 v_asked), ((d0 10), aI cs 64 v_fresh), ((d0 13), aI cs 5 v_size), ((d0 16), aI cs 12800 v_impact), ((d0 27), aI cs 40 v_gap), ((d0 37), aI cs 600 v_planTerm), ((d0 38), aI cs 600 v_planImpact), ((d0 39), aI cs 600 v_planSize)] (R_X9_plans cs h0 d0 v_thrown v_taped v_at v_documents v_terms v_latest v_filed v_drafted v_place v_over v_clock v_askedTerms v_done v_postingsDone v_why v_hits v_asked v_size v_impact Φ) (fun _ _ => False) := by
  refine XMet.of (own := RX9) (nm := "plans") (by decide) rfl rfl (Nat.le_of_ble_eq_true rfl) (fun Γ C => ?_)
  unfold P_X9_plans at h
  refine a_aload_n C (pc := 0) 0 dX9_plans_0 rfl rfl ?_
  refine a_iconst C (pc := 1) dX9_plans_1 ic_0 ?_
  refine a_put C (pc := 2) (ws1 := [(h0, oX9 d0 v_thrown v_taped v_at v_documents v_terms v_latest v_filed v_drafted v_place v_over v_clock v_askedTerms 0 v_done v_postingsDone v_postingsAll v_why v_hits), ((d0 29), aI cs 64 v_asked), ((d0 10), aI cs 64 v_fresh), ((d0 13), aI cs 5 v_size), ((d0 16), aI cs 12800 v_impact), ((d0 27), aI cs 40 v_gap), ((d0 37), aI cs 600 v_planTerm), ((d0 38), aI cs 600 v_planImpact), ((d0 39), aI cs 600 v_planSize)]) 0 31 inW_X9 tyX9 tyX9_ok nmX9 rfl rfl (Nat.le_of_ble_eq_true rfl) wF_X9_296 rfl rfl rfl rfl rfl (Nat.le_of_ble_eq_true rfl) dX9_plans_2 rfl ?_
  refine a_aload_n C (pc := 5) 0 dX9_plans_5 rfl rfl ?_
  refine a_iconst C (pc := 6) dX9_plans_6 ic_0 ?_
  refine a_put C (pc := 7) (ws1 := [(h0, oX9 d0 v_thrown v_taped v_at v_documents v_terms v_latest v_filed v_drafted v_place v_over v_clock v_askedTerms 0 v_done v_postingsDone 0 v_why v_hits), ((d0 29), aI cs 64 v_asked), ((d0 10), aI cs 64 v_fresh), ((d0 13), aI cs 5 v_size), ((d0 16), aI cs 12800 v_impact), ((d0 27), aI cs 40 v_gap), ((d0 37), aI cs 600 v_planTerm), ((d0 38), aI cs 600 v_planImpact), ((d0 39), aI cs 600 v_planSize)]) 0 34 inW_X9 tyX9 tyX9_ok nmX9 rfl rfl (Nat.le_of_ble_eq_true rfl) wF_X9_312 rfl rfl rfl rfl rfl (Nat.le_of_ble_eq_true rfl) dX9_plans_7 rfl ?_
  refine a_sipush C (pc := 10) dX9_plans_10 sp_255 ?_
  refine a_istore_n C (pc := 13) (lv1 := [(0, .ref h0), (1, .int l1), (2, .int 255)]) [1, 2, 0] dX9_plans_13 rfl (by decide) rfl ?_
  obtain ⟨n0, h⟩ := h
  refine w_X9_plans_14 C (Nat.le_of_ble_eq_true rfl) (Nat.le_of_ble_eq_true rfl) n0 0 0 v_fresh v_gap v_planTerm v_planImpact v_planSize l1 255 h ?_
  intro v_segments_135 v_postingsAll_136 v_fresh_137 v_gap_138 v_planTerm_139 v_planImpact_140 v_planSize_141 h
  exact a_return C (pc := 216) rfl dX9_plans_216 (Nat.le_of_ble_eq_true rfl) (Nat.le_of_ble_eq_true rfl) ⟨_, _, _, _, _, _, _, rfl, rfl, h⟩
set_option maxRecDepth 100000 in
set_option maxHeartbeats 4000000 in
theorem w_X9_works_12 {Γ : XG} {Lx : Launch} {Dx : va_G} {cs : Nat → ClassId} {h0 : Nat} {d0 : Nat → Nat} {v_thrown : Int32} {v_taped : Int32} {v_at : Int32} {v_documents : Int32} {v_terms : Int32} {v_latest : Int32} {v_filed : Int32} {v_drafted : Int32} {v_place : Int32} {v_over : Int32} {v_askedTerms : Int32} {v_segments : Int32} {v_postingsAll : Int32} {v_why : Int32} {v_hits : Int32} {v_planTerm : Nat → Int32} {v_asked : Nat → Int32} {v_size : Nat → Int32} {v_impact : Nat → Int32} {v_planImpact : Nat → Int32} {v_planSize : Nat → Int32} {K_35 : Int64 → Int32 → Int32 → (Nat → Int32) → Int32 → Int32 → Prop} {Φ : Int64 → Int32 → Int32 → (Nat → Int32) → Prop} {k n9 : Nat} (C : CX Γ Lx Dx cs cX9_works RX9 "works" 5 none 1 23 0 0 (qEC cs 0 0 [] (R_X9_works cs h0 d0 v_thrown v_taped v_at v_documents v_terms v_latest v_filed v_drafted v_place v_over v_askedTerms v_segments v_postingsAll v_why v_hits v_planTerm v_asked v_size v_impact v_planImpact v_planSize Φ) (fun _ _ => False))) (hkm : k ≤ 0) (hnm : n9 ≤ 0) : ∀ n : Nat, ∀ (v_clock : Int64) (v_done : Int32) (v_postingsDone : Int32) (v_sums : Nat → Int32) (l1 : Int32) (l2 : Int32) (l3 : Int32), L_X9_works_12 n v_clock v_done v_postingsDone v_planTerm v_asked v_size v_impact v_planImpact v_sums v_planSize l1 l2 l3 K_35 Φ → (∀ (v_clock_1 : Int64) (v_done_2 : Int32) (v_postingsDone_3 : Int32) (v_sums_4 : Nat → Int32) (l1_5 : Int32) (l3_6 : Int32), K_35 v_clock_1 v_done_2 v_postingsDone_3 v_sums_4 l1_5 l3_6 → AW Γ k n9 35 [(0, .ref h0), (1, .int l1_5), (3, .int l3_6)] [] [(h0, oX9 d0 v_thrown v_taped v_at v_documents v_terms v_latest v_filed v_drafted v_place v_over v_clock_1 v_askedTerms v_segments v_done_2 v_postingsDone_3 v_postingsAll v_why v_hits), ((d0 37), aI cs 600 v_planTerm), ((d0 29), aI cs 64 v_asked), ((d0 13), aI cs 5 v_size), ((d0 16), aI cs 12800 v_impact), ((d0 38), aI cs 600 v_planImpact), ((d0 40), aI cs 40 v_sums_4), ((d0 39), aI cs 600 v_planSize)]) → AW Γ k n9 12 [(0, .ref h0), (1, .int l1), (2, .int l2), (3, .int l3)] [] [(h0, oX9 d0 v_thrown v_taped v_at v_documents v_terms v_latest v_filed v_drafted v_place v_over v_clock v_askedTerms v_segments v_done v_postingsDone v_postingsAll v_why v_hits), ((d0 37), aI cs 600 v_planTerm), ((d0 29), aI cs 64 v_asked), ((d0 13), aI cs 5 v_size), ((d0 16), aI cs 12800 v_impact), ((d0 38), aI cs 600 v_planImpact), ((d0 40), aI cs 40 v_sums), ((d0 39), aI cs 600 v_planSize)] := by
  intro n
  induction n with
  | zero =>
    intro v_clock v_done v_postingsDone v_sums l1 l2 l3 h
    exact False.elim h
  | succ n ih =>
    intro v_clock v_done v_postingsDone v_sums l1 l2 l3 h hK_35
    rw [L_X9_works_12] at h
    refine a_iload_n C (pc := 12) 2 dX9_works_12 rfl rfl ?_
    refine a_if_lt C (pc := 13) 35 dX9_works_13 (by decide) (fun hc => ?_) (fun hc => ?_)
    · have h := h.1 hc
      refine a_lv (lv1 := [(0, .ref h0), (1, .int l1), (3, .int l3)]) [0, 1, 3] rfl ?_
      exact hK_35 v_clock v_done v_postingsDone v_sums l1 l3 h
    · have h := h.2 hc
      refine a_iinc C (pc := 16) (lv1 := [(0, .ref h0), (1, .int l1), (2, .int l2), (3, .int (l3 + 1))]) 3 [1, 2, 3, 0] dX9_works_16 rfl (congrArg (fun z => l3 + z) ic_1) (by decide) rfl ?_
      refine a_aload_n C (pc := 19) 0 dX9_works_19 rfl rfl ?_
      refine a_get C (pc := 20) 0 29 inW_X9 rfl rfl (Nat.le_of_ble_eq_true rfl) wF_X9_65 rfl rfl dX9_works_20 ?_
      refine a_iload_n C (pc := 23) 3 dX9_works_23 rfl rfl ?_
      refine a_iald C (pc := 24) 2 rfl h.1 dX9_works_24 ?_
      replace h := h.2
      refine a_iconst C (pc := 25) dX9_works_25 ic_1 ?_
      refine a_icmp_ne C (pc := 26) 12 dX9_works_26 (by decide) (fun hc => ?_) (fun hc => ?_)
      · have h := h.1 hc
        exact ih v_clock v_done v_postingsDone v_sums l1 l2 (l3 + 1) h hK_35
      · have h := h.2 hc
        refine a_iinc C (pc := 29) (lv1 := [(0, .ref h0), (1, .int l1), (2, .int (l2 + (-1))), (3, .int (l3 + 1))]) 2 [1, 2, 0, 3] dX9_works_29 rfl (congrArg (fun z => l2 + z) ic_m1) (by decide) rfl ?_
        refine a_goto C (pc := 32) 12 dX9_works_32 (by decide) ?_
        exact ih v_clock v_done v_postingsDone v_sums l1 (l2 + (-1)) (l3 + 1) h hK_35
set_option maxRecDepth 100000 in
set_option maxHeartbeats 4000000 in
theorem w_X9_works_38 {Γ : XG} {Lx : Launch} {Dx : va_G} {cs : Nat → ClassId} {h0 : Nat} {d0 : Nat → Nat} {v_thrown : Int32} {v_taped : Int32} {v_at : Int32} {v_documents : Int32} {v_terms : Int32} {v_latest : Int32} {v_filed : Int32} {v_drafted : Int32} {v_place : Int32} {v_over : Int32} {v_askedTerms : Int32} {v_segments : Int32} {v_postingsAll : Int32} {v_why : Int32} {v_hits : Int32} {v_planTerm : Nat → Int32} {v_asked : Nat → Int32} {v_size : Nat → Int32} {v_impact : Nat → Int32} {v_planImpact : Nat → Int32} {v_planSize : Nat → Int32} {K_99 : Int64 → Int32 → Int32 → (Nat → Int32) → Prop} {Φ : Int64 → Int32 → Int32 → (Nat → Int32) → Prop} {k n9 : Nat} (C : CX Γ Lx Dx cs cX9_works RX9 "works" 5 none 1 23 0 0 (qEC cs 0 0 [] (R_X9_works cs h0 d0 v_thrown v_taped v_at v_documents v_terms v_latest v_filed v_drafted v_place v_over v_askedTerms v_segments v_postingsAll v_why v_hits v_planTerm v_asked v_size v_impact v_planImpact v_planSize Φ) (fun _ _ => False))) (hkm : k ≤ 0) (hnm : n9 ≤ 0) : ∀ n : Nat, ∀ (v_clock : Int64) (v_done : Int32) (v_postingsDone : Int32) (v_sums : Nat → Int32) (l1 : Int32) (l3 : Int32) (l4 : Int32), L_X9_works_38 n v_clock v_done v_postingsDone v_planTerm v_asked v_size v_impact v_planImpact v_sums v_planSize l1 l3 l4 K_99 Φ → (∀ (v_clock_14 : Int64) (v_done_15 : Int32) (v_postingsDone_16 : Int32) (v_sums_17 : Nat → Int32), K_99 v_clock_14 v_done_15 v_postingsDone_16 v_sums_17 → AW Γ k n9 99 [(0, .ref h0)] [] [(h0, oX9 d0 v_thrown v_taped v_at v_documents v_terms v_latest v_filed v_drafted v_place v_over v_clock_14 v_askedTerms v_segments v_done_15 v_postingsDone_16 v_postingsAll v_why v_hits), ((d0 37), aI cs 600 v_planTerm), ((d0 29), aI cs 64 v_asked), ((d0 13), aI cs 5 v_size), ((d0 16), aI cs 12800 v_impact), ((d0 38), aI cs 600 v_planImpact), ((d0 40), aI cs 40 v_sums_17), ((d0 39), aI cs 600 v_planSize)]) → AW Γ k n9 38 [(0, .ref h0), (1, .int l1), (3, .int l3), (4, .int l4)] [] [(h0, oX9 d0 v_thrown v_taped v_at v_documents v_terms v_latest v_filed v_drafted v_place v_over v_clock v_askedTerms v_segments v_done v_postingsDone v_postingsAll v_why v_hits), ((d0 37), aI cs 600 v_planTerm), ((d0 29), aI cs 64 v_asked), ((d0 13), aI cs 5 v_size), ((d0 16), aI cs 12800 v_impact), ((d0 38), aI cs 600 v_planImpact), ((d0 40), aI cs 40 v_sums), ((d0 39), aI cs 600 v_planSize)] := by
  intro n
  induction n with
  | zero =>
    intro v_clock v_done v_postingsDone v_sums l1 l3 l4 h
    exact False.elim h
  | succ n ih =>
    intro v_clock v_done v_postingsDone v_sums l1 l3 l4 h hK_99
    rw [L_X9_works_38] at h
    refine a_iload C (pc := 38) 3 dX9_works_38 rfl ?_
    refine a_aload_n C (pc := 40) 0 dX9_works_40 rfl rfl ?_
    refine a_get C (pc := 41) 0 13 inW_X9 rfl rfl (Nat.le_of_ble_eq_true rfl) wF_X9_34 rfl rfl dX9_works_41 ?_
    refine a_iload_n C (pc := 44) 1 dX9_works_44 rfl rfl ?_
    refine a_iald C (pc := 45) 3 rfl h.1 dX9_works_45 ?_
    replace h := h.2
    refine a_icmp_ge C (pc := 46) 99 dX9_works_46 (by decide) (fun hc => ?_) (fun hc => ?_)
    · have h := h.1 hc
      refine a_lv (lv1 := [(0, .ref h0)]) [0] rfl ?_
      exact hK_99 v_clock v_done v_postingsDone v_sums h
    · have h := h.2 hc
      refine a_aload_n C (pc := 49) 0 dX9_works_49 rfl rfl ?_
      refine a_get C (pc := 50) 0 16 inW_X9 rfl rfl (Nat.le_of_ble_eq_true rfl) wF_X9_43 rfl rfl dX9_works_50 ?_
      refine a_aload_n C (pc := 53) 0 dX9_works_53 rfl rfl ?_
      refine a_iload_n C (pc := 54) 1 dX9_works_54 rfl rfl ?_
      refine a_iload_n C (pc := 55) 2 dX9_works_55 rfl rfl ?_
      refine a_iload C (pc := 56) 3 dX9_works_56 rfl ?_
      refine a_callV C (pc := 58) (av := [.int l1, .int l3, .int l4]) (wr := [(h0, oX9 d0 v_thrown v_taped v_at v_documents v_terms v_latest v_filed v_drafted v_place v_over v_clock v_askedTerms v_segments v_done v_postingsDone v_postingsAll v_why v_hits), ((d0 37), aI cs 600 v_planTerm), ((d0 29), aI cs 64 v_asked), ((d0 13), aI cs 5 v_size), ((d0 16), aI cs 12800 v_impact), ((d0 38), aI cs 600 v_planImpact), ((d0 40), aI cs 40 v_sums), ((d0 39), aI cs 600 v_planSize)]) (m_X9_cell Lx Dx cs h0 l1 l3 l4 _ h) [] [0, 1, 2, 3, 4, 5, 6, 7] rfl rfl (by decide) (by decide) (by decide) wM_X9_162 wb_X9_cell hy_X9_cell (q0 := 0) rfl rfl rfl ⟨Nat.le_of_ble_eq_true rfl, Nat.le_of_ble_eq_true rfl⟩ (Nat.le_of_ble_eq_true rfl) hkm hnm rfl dX9_works_58 (fun v w1 hw => ?_) [] rfl (fun _ _ h => h.elim)
      obtain ⟨r_13, rfl, rfl, h⟩ := hw
      refine a_ws (st1 := [.int r_13, .ref (d0 16)]) (ws1 := [(h0, oX9 d0 v_thrown v_taped v_at v_documents v_terms v_latest v_filed v_drafted v_place v_over v_clock v_askedTerms v_segments v_done v_postingsDone v_postingsAll v_why v_hits), ((d0 37), aI cs 600 v_planTerm), ((d0 29), aI cs 64 v_asked), ((d0 13), aI cs 5 v_size), ((d0 16), aI cs 12800 v_impact), ((d0 38), aI cs 600 v_planImpact), ((d0 40), aI cs 40 v_sums), ((d0 39), aI cs 600 v_planSize)]) k n9 61 [0, 1, 2, 3, 4, 5, 6, 7] rfl rfl rfl rfl (by decide) rfl ?_
      refine a_iald C (pc := 61) 4 rfl h.1 dX9_works_61 ?_
      replace h := h.2
      refine a_aload_n C (pc := 62) 0 dX9_works_62 rfl rfl ?_
      refine a_get C (pc := 63) 0 38 inW_X9 rfl rfl (Nat.le_of_ble_eq_true rfl) wF_X9_71 rfl rfl dX9_works_63 ?_
      refine a_aload_n C (pc := 66) 0 dX9_works_66 rfl rfl ?_
      refine a_get C (pc := 67) 0 32 inW_X9 rfl rfl (Nat.le_of_ble_eq_true rfl) wF_X9_287 rfl rfl dX9_works_67 ?_
      refine a_iald C (pc := 70) 5 rfl h.1 dX9_works_70 ?_
      replace h := h.2
      refine a_icmp_ne C (pc := 71) 93 dX9_works_71 (by decide) (fun hc => ?_) (fun hc => ?_)
      · have h := h.1 hc
        refine a_iinc C (pc := 93) (lv1 := [(0, .ref h0), (1, .int l1), (3, .int l3), (4, .int (l4 + 1))]) 3 [1, 2, 3, 0] dX9_works_93 rfl (congrArg (fun z => l4 + z) ic_1) (by decide) rfl ?_
        refine a_goto C (pc := 96) 38 dX9_works_96 (by decide) ?_
        exact ih v_clock v_done v_postingsDone v_sums l1 l3 (l4 + 1) h hK_99
      · have h := h.2 hc
        refine a_aload_n C (pc := 74) 0 dX9_works_74 rfl rfl ?_
        refine a_get C (pc := 75) 0 40 inW_X9 rfl rfl (Nat.le_of_ble_eq_true rfl) wF_X9_77 rfl rfl dX9_works_75 ?_
        refine a_iload C (pc := 78) 3 dX9_works_78 rfl ?_
        refine a_dup2 C (pc := 80) dX9_works_80 rfl rfl ?_
        refine a_iald C (pc := 81) 6 rfl h.1 dX9_works_81 ?_
        replace h := h.2
        refine a_aload_n C (pc := 82) 0 dX9_works_82 rfl rfl ?_
        refine a_get C (pc := 83) 0 38 inW_X9 rfl rfl (Nat.le_of_ble_eq_true rfl) wF_X9_71 rfl rfl dX9_works_83 ?_
        refine a_aload_n C (pc := 86) 0 dX9_works_86 rfl rfl ?_
        refine a_get C (pc := 87) 0 32 inW_X9 rfl rfl (Nat.le_of_ble_eq_true rfl) wF_X9_287 rfl rfl dX9_works_87 ?_
        refine a_iald C (pc := 90) 5 rfl h.1 dX9_works_90 ?_
        replace h := h.2
        refine a_iadd C (pc := 91) dX9_works_91 ?_
        refine a_iast C (pc := 92) (ws1 := [(h0, oX9 d0 v_thrown v_taped v_at v_documents v_terms v_latest v_filed v_drafted v_place v_over v_clock v_askedTerms v_segments v_done v_postingsDone v_postingsAll v_why v_hits), ((d0 37), aI cs 600 v_planTerm), ((d0 29), aI cs 64 v_asked), ((d0 13), aI cs 5 v_size), ((d0 16), aI cs 12800 v_impact), ((d0 38), aI cs 600 v_planImpact), ((d0 40), aI cs 40 (upd v_sums (l4 : Int32).toNatClampNeg ((v_sums (l4 : Int32).toNatClampNeg) + (v_planImpact (v_done : Int32).toNatClampNeg)))), ((d0 39), aI cs 600 v_planSize)]) 6 rfl h.1 dX9_works_92 rfl ?_
        replace h := h.2
        refine a_iinc C (pc := 93) (lv1 := [(0, .ref h0), (1, .int l1), (3, .int l3), (4, .int (l4 + 1))]) 3 [1, 2, 3, 0] dX9_works_93 rfl (congrArg (fun z => l4 + z) ic_1) (by decide) rfl ?_
        refine a_goto C (pc := 96) 38 dX9_works_96 (by decide) ?_
        exact ih v_clock v_done v_postingsDone (upd v_sums (l4 : Int32).toNatClampNeg ((v_sums (l4 : Int32).toNatClampNeg) + (v_planImpact (v_done : Int32).toNatClampNeg))) l1 l3 (l4 + 1) h hK_99
set_option maxRecDepth 100000 in
set_option maxHeartbeats 4000000 in
theorem m_X9_works (Lx : Launch) (Dx : va_G) (cs : Nat → ClassId) (h0 : Nat) (d0 : Nat → Nat) (v_thrown : Int32) (v_taped : Int32) (v_at : Int32) (v_documents : Int32) (v_terms : Int32) (v_latest : Int32) (v_filed : Int32) (v_drafted : Int32) (v_place : Int32) (v_over : Int32) (v_clock : Int64) (v_askedTerms : Int32) (v_segments : Int32) (v_done : Int32) (v_postingsDone : Int32) (v_postingsAll : Int32) (v_why : Int32) (v_hits : Int32) (v_planTerm : Nat → Int32) (v_asked : Nat → Int32) (v_size : Nat → Int32) (v_impact : Nat → Int32) (v_planImpact : Nat → Int32) (v_sums : Nat → Int32) (v_planSize : Nat → Int32) (l1 : Int32) (Φ : Int64 → Int32 → Int32 → (Nat → Int32) → Prop) (h : P_X9_works v_clock v_done v_postingsDone v_planTerm v_asked v_size v_impact v_planImpact v_sums v_planSize l1 Φ) : XMet Lx Dx cs yX9_works cX9_works 5 none 1 23 0 0 [.ref h0, .int l1] [(h0, oX9 d0 v_thrown v_taped v_at v_documents v_terms v_latest v_filed v_drafted v_place v_over v_clock v_askedTerms v_segments v_done v_postingsDone v_postingsAll v_why v_hits), ((d0 37), aI cs 600 v_planTerm), ((d0 29), aI cs 64 v_asked), ((d0 13), aI cs 5 v_size), ((d0 16), aI cs 12800 v_impact), ((d0 38), aI cs 600 v_planImpact), ((d0 40), aI cs 40 v_sums), ((d0 39), aI cs 600 v_planSize)] (R_X9_works cs h0 d0 v_thrown v_taped v_at v_documents v_terms v_latest v_filed v_drafted v_place v_over v_askedTerms v_segments v_postingsAll v_why v_hits v_planTerm v_asked v_size v_impact v_planImpact v_planSize Φ) (fun _ _ => False) := by
  refine XMet.of (own := RX9) (nm := "works") (by decide) rfl rfl (Nat.le_of_ble_eq_true rfl) (fun Γ C => ?_)
  unfold P_X9_works at h
  refine a_aload_n C (pc := 0) 0 dX9_works_0 rfl rfl ?_
  refine a_get C (pc := 1) 0 37 inW_X9 rfl rfl (Nat.le_of_ble_eq_true rfl) wF_X9_68 rfl rfl dX9_works_1 ?_
  refine a_aload_n C (pc := 4) 0 dX9_works_4 rfl rfl ?_
  refine a_get C (pc := 5) 0 32 inW_X9 rfl rfl (Nat.le_of_ble_eq_true rfl) wF_X9_287 rfl rfl dX9_works_5 ?_
  refine a_iald C (pc := 8) 1 rfl h.1 dX9_works_8 ?_
  replace h := h.2
  refine a_istore_n C (pc := 9) (lv1 := [(0, .ref h0), (1, .int l1), (2, .int (v_planTerm (v_done : Int32).toNatClampNeg))]) [1, 2, 0] dX9_works_9 rfl (by decide) rfl ?_
  refine a_iconst C (pc := 10) dX9_works_10 ic_m1 ?_
  refine a_istore_n C (pc := 11) (lv1 := [(0, .ref h0), (1, .int l1), (2, .int (v_planTerm (v_done : Int32).toNatClampNeg)), (3, .int (-1))]) [1, 2, 3, 0] dX9_works_11 rfl (by decide) rfl ?_
  obtain ⟨n0, h⟩ := h
  refine w_X9_works_12 C (Nat.le_of_ble_eq_true rfl) (Nat.le_of_ble_eq_true rfl) n0 v_clock v_done v_postingsDone v_sums l1 (v_planTerm (v_done : Int32).toNatClampNeg) (-1) h ?_
  intro v_clock_7 v_done_8 v_postingsDone_9 v_sums_10 l1_11 l3_12 h
  refine a_iconst C (pc := 35) dX9_works_35 ic_0 ?_
  refine a_istore C (pc := 36) (lv1 := [(0, .ref h0), (1, .int l1_11), (3, .int l3_12), (4, .int 0)]) [1, 2, 3, 0] dX9_works_36 (by decide) rfl ?_
  obtain ⟨n0, h⟩ := h
  refine w_X9_works_38 C (Nat.le_of_ble_eq_true rfl) (Nat.le_of_ble_eq_true rfl) n0 v_clock_7 v_done_8 v_postingsDone_9 v_sums_10 l1_11 l3_12 0 h ?_
  intro v_clock_18 v_done_19 v_postingsDone_20 v_sums_21 h
  refine a_aload_n C (pc := 99) 0 dX9_works_99 rfl rfl ?_
  refine a_dup C (pc := 100) dX9_works_100 rfl ?_
  refine a_get C (pc := 101) 0 28 inW_X9 rfl rfl (Nat.le_of_ble_eq_true rfl) wF_X9_299 rfl rfl dX9_works_101 ?_
  refine a_aload_n C (pc := 104) 0 dX9_works_104 rfl rfl ?_
  refine a_get C (pc := 105) 0 39 inW_X9 rfl rfl (Nat.le_of_ble_eq_true rfl) wF_X9_74 rfl rfl dX9_works_105 ?_
  refine a_aload_n C (pc := 108) 0 dX9_works_108 rfl rfl ?_
  refine a_get C (pc := 109) 0 32 inW_X9 rfl rfl (Nat.le_of_ble_eq_true rfl) wF_X9_287 rfl rfl dX9_works_109 ?_
  refine a_iald C (pc := 112) 7 rfl h.1 dX9_works_112 ?_
  replace h := h.2
  refine a_i2l C (pc := 113) dX9_works_113 ?_
  refine a_ladd C (pc := 114) dX9_works_114 ?_
  refine a_put C (pc := 115) (ws1 := [(h0, oX9 d0 v_thrown v_taped v_at v_documents v_terms v_latest v_filed v_drafted v_place v_over (v_clock_18 + (((v_planSize (v_done_19 : Int32).toNatClampNeg) : Int32).toInt64)) v_askedTerms v_segments v_done_19 v_postingsDone_20 v_postingsAll v_why v_hits), ((d0 37), aI cs 600 v_planTerm), ((d0 29), aI cs 64 v_asked), ((d0 13), aI cs 5 v_size), ((d0 16), aI cs 12800 v_impact), ((d0 38), aI cs 600 v_planImpact), ((d0 40), aI cs 40 v_sums_21), ((d0 39), aI cs 600 v_planSize)]) 0 28 inW_X9 tyX9 tyX9_ok nmX9 rfl rfl (Nat.le_of_ble_eq_true rfl) wF_X9_299 rfl rfl rfl rfl rfl (Nat.le_of_ble_eq_true rfl) dX9_works_115 rfl ?_
  refine a_aload_n C (pc := 118) 0 dX9_works_118 rfl rfl ?_
  refine a_dup C (pc := 119) dX9_works_119 rfl ?_
  refine a_get C (pc := 120) 0 33 inW_X9 rfl rfl (Nat.le_of_ble_eq_true rfl) wF_X9_290 rfl rfl dX9_works_120 ?_
  refine a_aload_n C (pc := 123) 0 dX9_works_123 rfl rfl ?_
  refine a_get C (pc := 124) 0 39 inW_X9 rfl rfl (Nat.le_of_ble_eq_true rfl) wF_X9_74 rfl rfl dX9_works_124 ?_
  refine a_aload_n C (pc := 127) 0 dX9_works_127 rfl rfl ?_
  refine a_get C (pc := 128) 0 32 inW_X9 rfl rfl (Nat.le_of_ble_eq_true rfl) wF_X9_287 rfl rfl dX9_works_128 ?_
  refine a_iald C (pc := 131) 7 rfl h.1 dX9_works_131 ?_
  replace h := h.2
  refine a_iadd C (pc := 132) dX9_works_132 ?_
  refine a_put C (pc := 133) (ws1 := [(h0, oX9 d0 v_thrown v_taped v_at v_documents v_terms v_latest v_filed v_drafted v_place v_over (v_clock_18 + (((v_planSize (v_done_19 : Int32).toNatClampNeg) : Int32).toInt64)) v_askedTerms v_segments v_done_19 (v_postingsDone_20 + (v_planSize (v_done_19 : Int32).toNatClampNeg)) v_postingsAll v_why v_hits), ((d0 37), aI cs 600 v_planTerm), ((d0 29), aI cs 64 v_asked), ((d0 13), aI cs 5 v_size), ((d0 16), aI cs 12800 v_impact), ((d0 38), aI cs 600 v_planImpact), ((d0 40), aI cs 40 v_sums_21), ((d0 39), aI cs 600 v_planSize)]) 0 33 inW_X9 tyX9 tyX9_ok nmX9 rfl rfl (Nat.le_of_ble_eq_true rfl) wF_X9_290 rfl rfl rfl rfl rfl (Nat.le_of_ble_eq_true rfl) dX9_works_133 rfl ?_
  refine a_aload_n C (pc := 136) 0 dX9_works_136 rfl rfl ?_
  refine a_dup C (pc := 137) dX9_works_137 rfl ?_
  refine a_get C (pc := 138) 0 32 inW_X9 rfl rfl (Nat.le_of_ble_eq_true rfl) wF_X9_287 rfl rfl dX9_works_138 ?_
  refine a_iconst C (pc := 141) dX9_works_141 ic_1 ?_
  refine a_iadd C (pc := 142) dX9_works_142 ?_
  refine a_put C (pc := 143) (ws1 := [(h0, oX9 d0 v_thrown v_taped v_at v_documents v_terms v_latest v_filed v_drafted v_place v_over (v_clock_18 + (((v_planSize (v_done_19 : Int32).toNatClampNeg) : Int32).toInt64)) v_askedTerms v_segments (v_done_19 + 1) (v_postingsDone_20 + (v_planSize (v_done_19 : Int32).toNatClampNeg)) v_postingsAll v_why v_hits), ((d0 37), aI cs 600 v_planTerm), ((d0 29), aI cs 64 v_asked), ((d0 13), aI cs 5 v_size), ((d0 16), aI cs 12800 v_impact), ((d0 38), aI cs 600 v_planImpact), ((d0 40), aI cs 40 v_sums_21), ((d0 39), aI cs 600 v_planSize)]) 0 32 inW_X9 tyX9 tyX9_ok nmX9 rfl rfl (Nat.le_of_ble_eq_true rfl) wF_X9_287 rfl rfl rfl rfl rfl (Nat.le_of_ble_eq_true rfl) dX9_works_143 rfl ?_
  exact a_return C (pc := 146) rfl dX9_works_146 (Nat.le_of_ble_eq_true rfl) (Nat.le_of_ble_eq_true rfl) ⟨_, _, _, _, rfl, rfl, h⟩
set_option maxRecDepth 100000 in
set_option maxHeartbeats 4000000 in
theorem w_X9_ranks_18 {Γ : XG} {Lx : Launch} {Dx : va_G} {cs : Nat → ClassId} {h0 : Nat} {d0 : Nat → Nat} {v_thrown : Int32} {v_taped : Int32} {v_at : Int32} {v_documents : Int32} {v_terms : Int32} {v_latest : Int32} {v_filed : Int32} {v_drafted : Int32} {v_place : Int32} {v_over : Int32} {v_clock : Int64} {v_askedTerms : Int32} {v_segments : Int32} {v_done : Int32} {v_postingsDone : Int32} {v_postingsAll : Int32} {v_why : Int32} {v_sums : Nat → Int32} {K_77 : Int32 → (Nat → Int32) → Int32 → Int32 → Int32 → Prop} {Φ : Int32 → (Nat → Int32) → Prop} {k n9 : Nat} (C : CX Γ Lx Dx cs cX9_ranks RX9 "ranks" 5 none 0 0 0 0 (qEC cs 0 0 [] (R_X9_ranks cs h0 d0 v_thrown v_taped v_at v_documents v_terms v_latest v_filed v_drafted v_place v_over v_clock v_askedTerms v_segments v_done v_postingsDone v_postingsAll v_why v_sums Φ) (fun _ _ => False))) (hkm : k ≤ 0) (hnm : n9 ≤ 0) : ∀ n : Nat, ∀ (v_hits : Int32) (v_hit : Nat → Int32) (l1 : Int32) (l2 : Int32) (l3 : Int32) (l4 : Int32), L_X9_ranks_18 n v_hits v_sums v_hit l1 l2 l3 l4 K_77 Φ → (∀ (v_hits_1 : Int32) (v_hit_2 : Nat → Int32) (l1_3 : Int32) (l2_4 : Int32) (l3_5 : Int32), K_77 v_hits_1 v_hit_2 l1_3 l2_4 l3_5 → AW Γ k n9 77 [(0, .ref h0), (1, .int l1_3), (2, .int l2_4), (3, .int l3_5)] [] [(h0, oX9 d0 v_thrown v_taped v_at v_documents v_terms v_latest v_filed v_drafted v_place v_over v_clock v_askedTerms v_segments v_done v_postingsDone v_postingsAll v_why v_hits_1), ((d0 40), aI cs 40 v_sums), ((d0 41), aI cs 40 v_hit_2)]) → AW Γ k n9 18 [(0, .ref h0), (1, .int l1), (2, .int l2), (3, .int l3), (4, .int l4)] [] [(h0, oX9 d0 v_thrown v_taped v_at v_documents v_terms v_latest v_filed v_drafted v_place v_over v_clock v_askedTerms v_segments v_done v_postingsDone v_postingsAll v_why v_hits), ((d0 40), aI cs 40 v_sums), ((d0 41), aI cs 40 v_hit)] := by
  intro n
  induction n with
  | zero =>
    intro v_hits v_hit l1 l2 l3 l4 h
    exact False.elim h
  | succ n ih =>
    intro v_hits v_hit l1 l2 l3 l4 h hK_77
    rw [L_X9_ranks_18] at h
    refine a_iload C (pc := 18) 4 dX9_ranks_18 rfl ?_
    refine a_bipush C (pc := 20) dX9_ranks_20 bp_40 ?_
    refine a_icmp_ge C (pc := 22) 77 dX9_ranks_22 (by decide) (fun hc => ?_) (fun hc => ?_)
    · have h := h.1 hc
      refine a_lv (lv1 := [(0, .ref h0), (1, .int l1), (2, .int l2), (3, .int l3)]) [0, 1, 2, 3] rfl ?_
      exact hK_77 v_hits v_hit l1 l2 l3 h
    · have h := h.2 hc
      refine a_iload_n C (pc := 25) 3 dX9_ranks_25 rfl rfl ?_
      refine a_aload_n C (pc := 26) 0 dX9_ranks_26 rfl rfl ?_
      refine a_get C (pc := 27) 0 40 inW_X9 rfl rfl (Nat.le_of_ble_eq_true rfl) wF_X9_77 rfl rfl dX9_ranks_27 ?_
      refine a_iload C (pc := 30) 4 dX9_ranks_30 rfl ?_
      refine a_iald C (pc := 32) 1 rfl h.1 dX9_ranks_32 ?_
      replace h := h.2
      refine a_aload_n C (pc := 33) 0 dX9_ranks_33 rfl rfl ?_
      refine a_get C (pc := 34) 0 40 inW_X9 rfl rfl (Nat.le_of_ble_eq_true rfl) wF_X9_77 rfl rfl dX9_ranks_34 ?_
      refine a_iload_n C (pc := 37) 2 dX9_ranks_37 rfl rfl ?_
      refine a_iald C (pc := 38) 1 rfl h.1 dX9_ranks_38 ?_
      replace h := h.2
      refine a_icmp_gt C (pc := 39) 64 dX9_ranks_39 (by decide) (fun hc => ?_) (fun hc => ?_)
      · have h := h.1 hc
        refine a_iconst C (pc := 64) dX9_ranks_64 ic_1 ?_
        refine a_goto C (pc := 65) 69 dX9_ranks_65 (by decide) ?_
        refine a_iadd C (pc := 69) dX9_ranks_69 ?_
        refine a_istore_n C (pc := 70) (lv1 := [(0, .ref h0), (1, .int l1), (2, .int l2), (3, .int (l3 + 1)), (4, .int l4)]) [1, 2, 3, 0, 4] dX9_ranks_70 rfl (by decide) rfl ?_
        refine a_iinc C (pc := 71) (lv1 := [(0, .ref h0), (1, .int l1), (2, .int l2), (3, .int (l3 + 1)), (4, .int (l4 + 1))]) 4 [1, 2, 3, 4, 0] dX9_ranks_71 rfl (congrArg (fun z => l4 + z) ic_1) (by decide) rfl ?_
        refine a_goto C (pc := 74) 18 dX9_ranks_74 (by decide) ?_
        exact ih v_hits v_hit l1 l2 (l3 + 1) (l4 + 1) h hK_77
      · have h := h.2 hc
        refine a_aload_n C (pc := 42) 0 dX9_ranks_42 rfl rfl ?_
        refine a_get C (pc := 43) 0 40 inW_X9 rfl rfl (Nat.le_of_ble_eq_true rfl) wF_X9_77 rfl rfl dX9_ranks_43 ?_
        refine a_iload C (pc := 46) 4 dX9_ranks_46 rfl ?_
        refine a_iald C (pc := 48) 1 rfl h.1 dX9_ranks_48 ?_
        replace h := h.2
        refine a_aload_n C (pc := 49) 0 dX9_ranks_49 rfl rfl ?_
        refine a_get C (pc := 50) 0 40 inW_X9 rfl rfl (Nat.le_of_ble_eq_true rfl) wF_X9_77 rfl rfl dX9_ranks_50 ?_
        refine a_iload_n C (pc := 53) 2 dX9_ranks_53 rfl rfl ?_
        refine a_iald C (pc := 54) 1 rfl h.1 dX9_ranks_54 ?_
        replace h := h.2
        refine a_icmp_ne C (pc := 55) 68 dX9_ranks_55 (by decide) (fun hc => ?_) (fun hc => ?_)
        · have h := h.1 hc
          refine a_iconst C (pc := 68) dX9_ranks_68 ic_0 ?_
          refine a_iadd C (pc := 69) dX9_ranks_69 ?_
          refine a_istore_n C (pc := 70) (lv1 := [(0, .ref h0), (1, .int l1), (2, .int l2), (3, .int (l3 + 0)), (4, .int l4)]) [1, 2, 3, 0, 4] dX9_ranks_70 rfl (by decide) rfl ?_
          refine a_iinc C (pc := 71) (lv1 := [(0, .ref h0), (1, .int l1), (2, .int l2), (3, .int (l3 + 0)), (4, .int (l4 + 1))]) 4 [1, 2, 3, 4, 0] dX9_ranks_71 rfl (congrArg (fun z => l4 + z) ic_1) (by decide) rfl ?_
          refine a_goto C (pc := 74) 18 dX9_ranks_74 (by decide) ?_
          exact ih v_hits v_hit l1 l2 (l3 + 0) (l4 + 1) h hK_77
        · have h := h.2 hc
          refine a_iload C (pc := 58) 4 dX9_ranks_58 rfl ?_
          refine a_iload_n C (pc := 60) 2 dX9_ranks_60 rfl rfl ?_
          refine a_icmp_ge C (pc := 61) 68 dX9_ranks_61 (by decide) (fun hc => ?_) (fun hc => ?_)
          · have h := h.1 hc
            refine a_iconst C (pc := 68) dX9_ranks_68 ic_0 ?_
            refine a_iadd C (pc := 69) dX9_ranks_69 ?_
            refine a_istore_n C (pc := 70) (lv1 := [(0, .ref h0), (1, .int l1), (2, .int l2), (3, .int (l3 + 0)), (4, .int l4)]) [1, 2, 3, 0, 4] dX9_ranks_70 rfl (by decide) rfl ?_
            refine a_iinc C (pc := 71) (lv1 := [(0, .ref h0), (1, .int l1), (2, .int l2), (3, .int (l3 + 0)), (4, .int (l4 + 1))]) 4 [1, 2, 3, 4, 0] dX9_ranks_71 rfl (congrArg (fun z => l4 + z) ic_1) (by decide) rfl ?_
            refine a_goto C (pc := 74) 18 dX9_ranks_74 (by decide) ?_
            exact ih v_hits v_hit l1 l2 (l3 + 0) (l4 + 1) h hK_77
          · have h := h.2 hc
            refine a_iconst C (pc := 64) dX9_ranks_64 ic_1 ?_
            refine a_goto C (pc := 65) 69 dX9_ranks_65 (by decide) ?_
            refine a_iadd C (pc := 69) dX9_ranks_69 ?_
            refine a_istore_n C (pc := 70) (lv1 := [(0, .ref h0), (1, .int l1), (2, .int l2), (3, .int (l3 + 1)), (4, .int l4)]) [1, 2, 3, 0, 4] dX9_ranks_70 rfl (by decide) rfl ?_
            refine a_iinc C (pc := 71) (lv1 := [(0, .ref h0), (1, .int l1), (2, .int l2), (3, .int (l3 + 1)), (4, .int (l4 + 1))]) 4 [1, 2, 3, 4, 0] dX9_ranks_71 rfl (congrArg (fun z => l4 + z) ic_1) (by decide) rfl ?_
            refine a_goto C (pc := 74) 18 dX9_ranks_74 (by decide) ?_
            exact ih v_hits v_hit l1 l2 (l3 + 1) (l4 + 1) h hK_77
set_option maxRecDepth 100000 in
set_option maxHeartbeats 4000000 in
theorem w_X9_ranks_7 {Γ : XG} {Lx : Launch} {Dx : va_G} {cs : Nat → ClassId} {h0 : Nat} {d0 : Nat → Nat} {v_thrown : Int32} {v_taped : Int32} {v_at : Int32} {v_documents : Int32} {v_terms : Int32} {v_latest : Int32} {v_filed : Int32} {v_drafted : Int32} {v_place : Int32} {v_over : Int32} {v_clock : Int64} {v_askedTerms : Int32} {v_segments : Int32} {v_done : Int32} {v_postingsDone : Int32} {v_postingsAll : Int32} {v_why : Int32} {v_sums : Nat → Int32} {K_117 : Int32 → (Nat → Int32) → Prop} {Φ : Int32 → (Nat → Int32) → Prop} {k n9 : Nat} (C : CX Γ Lx Dx cs cX9_ranks RX9 "ranks" 5 none 0 0 0 0 (qEC cs 0 0 [] (R_X9_ranks cs h0 d0 v_thrown v_taped v_at v_documents v_terms v_latest v_filed v_drafted v_place v_over v_clock v_askedTerms v_segments v_done v_postingsDone v_postingsAll v_why v_sums Φ) (fun _ _ => False))) (hkm : k ≤ 0) (hnm : n9 ≤ 0) : ∀ n : Nat, ∀ (v_hits : Int32) (v_hit : Nat → Int32) (l1 : Int32) (l2 : Int32), L_X9_ranks_7 n v_hits v_sums v_hit l1 l2 K_117 Φ → (∀ (v_hits_11 : Int32) (v_hit_12 : Nat → Int32), K_117 v_hits_11 v_hit_12 → AW Γ k n9 117 [] [] [(h0, oX9 d0 v_thrown v_taped v_at v_documents v_terms v_latest v_filed v_drafted v_place v_over v_clock v_askedTerms v_segments v_done v_postingsDone v_postingsAll v_why v_hits_11), ((d0 40), aI cs 40 v_sums), ((d0 41), aI cs 40 v_hit_12)]) → AW Γ k n9 7 [(0, .ref h0), (1, .int l1), (2, .int l2)] [] [(h0, oX9 d0 v_thrown v_taped v_at v_documents v_terms v_latest v_filed v_drafted v_place v_over v_clock v_askedTerms v_segments v_done v_postingsDone v_postingsAll v_why v_hits), ((d0 40), aI cs 40 v_sums), ((d0 41), aI cs 40 v_hit)] := by
  intro n
  induction n with
  | zero =>
    intro v_hits v_hit l1 l2 h
    exact False.elim h
  | succ n ih =>
    intro v_hits v_hit l1 l2 h hK_117
    rw [L_X9_ranks_7] at h
    refine a_iload_n C (pc := 7) 2 dX9_ranks_7 rfl rfl ?_
    refine a_bipush C (pc := 8) dX9_ranks_8 bp_40 ?_
    refine a_icmp_ge C (pc := 10) 117 dX9_ranks_10 (by decide) (fun hc => ?_) (fun hc => ?_)
    · have h := h.1 hc
      refine a_lv (lv1 := []) [] rfl ?_
      exact hK_117 v_hits v_hit h
    · have h := h.2 hc
      refine a_iconst C (pc := 13) dX9_ranks_13 ic_0 ?_
      refine a_istore_n C (pc := 14) (lv1 := [(0, .ref h0), (1, .int l1), (2, .int l2), (3, .int 0)]) [1, 2, 3, 0] dX9_ranks_14 rfl (by decide) rfl ?_
      refine a_iconst C (pc := 15) dX9_ranks_15 ic_0 ?_
      refine a_istore C (pc := 16) (lv1 := [(0, .ref h0), (1, .int l1), (2, .int l2), (3, .int 0), (4, .int 0)]) [1, 2, 3, 4, 0] dX9_ranks_16 (by decide) rfl ?_
      obtain ⟨n0, h⟩ := h
      refine w_X9_ranks_18 C hkm hnm n0 v_hits v_hit l1 l2 0 0 h ?_
      intro v_hits_6 v_hit_7 l1_8 l2_9 l3_10 h
      refine a_aload_n C (pc := 77) 0 dX9_ranks_77 rfl rfl ?_
      refine a_get C (pc := 78) 0 40 inW_X9 rfl rfl (Nat.le_of_ble_eq_true rfl) wF_X9_77 rfl rfl dX9_ranks_78 ?_
      refine a_iload_n C (pc := 81) 2 dX9_ranks_81 rfl rfl ?_
      refine a_iald C (pc := 82) 1 rfl h.1 dX9_ranks_82 ?_
      replace h := h.2
      refine a_if_eq C (pc := 83) 111 dX9_ranks_83 (by decide) (fun hc => ?_) (fun hc => ?_)
      · have h := h.1 hc
        refine a_iinc C (pc := 111) (lv1 := [(0, .ref h0), (1, .int l1_8), (2, .int (l2_9 + 1)), (3, .int l3_10)]) 2 [1, 2, 0, 3] dX9_ranks_111 rfl (congrArg (fun z => l2_9 + z) ic_1) (by decide) rfl ?_
        refine a_goto C (pc := 114) 7 dX9_ranks_114 (by decide) ?_
        refine a_lv (lv1 := [(0, .ref h0), (1, .int l1_8), (2, .int (l2_9 + 1))]) [0, 1, 2] rfl ?_
        exact ih v_hits_6 v_hit_7 l1_8 (l2_9 + 1) h hK_117
      · have h := h.2 hc
        refine a_iload_n C (pc := 86) 3 dX9_ranks_86 rfl rfl ?_
        refine a_iload_n C (pc := 87) 1 dX9_ranks_87 rfl rfl ?_
        refine a_icmp_lt C (pc := 88) 94 dX9_ranks_88 (by decide) (fun hc => ?_) (fun hc => ?_)
        · have h := h.1 hc
          refine a_aload_n C (pc := 94) 0 dX9_ranks_94 rfl rfl ?_
          refine a_get C (pc := 95) 0 41 inW_X9 rfl rfl (Nat.le_of_ble_eq_true rfl) wF_X9_80 rfl rfl dX9_ranks_95 ?_
          refine a_iload_n C (pc := 98) 3 dX9_ranks_98 rfl rfl ?_
          refine a_iload_n C (pc := 99) 2 dX9_ranks_99 rfl rfl ?_
          refine a_iast C (pc := 100) (ws1 := [(h0, oX9 d0 v_thrown v_taped v_at v_documents v_terms v_latest v_filed v_drafted v_place v_over v_clock v_askedTerms v_segments v_done v_postingsDone v_postingsAll v_why v_hits_6), ((d0 40), aI cs 40 v_sums), ((d0 41), aI cs 40 (upd v_hit_7 (l3_10 : Int32).toNatClampNeg l2_9))]) 2 rfl h.1 dX9_ranks_100 rfl ?_
          replace h := h.2
          refine a_aload_n C (pc := 101) 0 dX9_ranks_101 rfl rfl ?_
          refine a_dup C (pc := 102) dX9_ranks_102 rfl ?_
          refine a_get C (pc := 103) 0 36 inW_X9 rfl rfl (Nat.le_of_ble_eq_true rfl) wF_X9_309 rfl rfl dX9_ranks_103 ?_
          refine a_iconst C (pc := 106) dX9_ranks_106 ic_1 ?_
          refine a_iadd C (pc := 107) dX9_ranks_107 ?_
          refine a_put C (pc := 108) (ws1 := [(h0, oX9 d0 v_thrown v_taped v_at v_documents v_terms v_latest v_filed v_drafted v_place v_over v_clock v_askedTerms v_segments v_done v_postingsDone v_postingsAll v_why (v_hits_6 + 1)), ((d0 40), aI cs 40 v_sums), ((d0 41), aI cs 40 (upd v_hit_7 (l3_10 : Int32).toNatClampNeg l2_9))]) 0 36 inW_X9 tyX9 tyX9_ok nmX9 rfl rfl (Nat.le_of_ble_eq_true rfl) wF_X9_309 rfl rfl rfl rfl rfl (Nat.le_of_ble_eq_true rfl) dX9_ranks_108 rfl ?_
          refine a_iinc C (pc := 111) (lv1 := [(0, .ref h0), (1, .int l1_8), (2, .int (l2_9 + 1)), (3, .int l3_10)]) 2 [1, 2, 0, 3] dX9_ranks_111 rfl (congrArg (fun z => l2_9 + z) ic_1) (by decide) rfl ?_
          refine a_goto C (pc := 114) 7 dX9_ranks_114 (by decide) ?_
          refine a_lv (lv1 := [(0, .ref h0), (1, .int l1_8), (2, .int (l2_9 + 1))]) [0, 1, 2] rfl ?_
          exact ih (v_hits_6 + 1) (upd v_hit_7 (l3_10 : Int32).toNatClampNeg l2_9) l1_8 (l2_9 + 1) h hK_117
        · have h := h.2 hc
          refine a_goto C (pc := 91) 111 dX9_ranks_91 (by decide) ?_
          refine a_iinc C (pc := 111) (lv1 := [(0, .ref h0), (1, .int l1_8), (2, .int (l2_9 + 1)), (3, .int l3_10)]) 2 [1, 2, 0, 3] dX9_ranks_111 rfl (congrArg (fun z => l2_9 + z) ic_1) (by decide) rfl ?_
          refine a_goto C (pc := 114) 7 dX9_ranks_114 (by decide) ?_
          refine a_lv (lv1 := [(0, .ref h0), (1, .int l1_8), (2, .int (l2_9 + 1))]) [0, 1, 2] rfl ?_
          exact ih v_hits_6 v_hit_7 l1_8 (l2_9 + 1) h hK_117
set_option maxRecDepth 100000 in
set_option maxHeartbeats 4000000 in
theorem m_X9_ranks (Lx : Launch) (Dx : va_G) (cs : Nat → ClassId) (h0 : Nat) (d0 : Nat → Nat) (v_thrown : Int32) (v_taped : Int32) (v_at : Int32) (v_documents : Int32) (v_terms : Int32) (v_latest : Int32) (v_filed : Int32) (v_drafted : Int32) (v_place : Int32) (v_over : Int32) (v_clock : Int64) (v_askedTerms : Int32) (v_segments : Int32) (v_done : Int32) (v_postingsDone : Int32) (v_postingsAll : Int32) (v_why : Int32) (v_hits : Int32) (v_sums : Nat → Int32) (v_hit : Nat → Int32) (l1 : Int32) (Φ : Int32 → (Nat → Int32) → Prop) (h : P_X9_ranks v_hits v_sums v_hit l1 Φ) : XMet Lx Dx cs yX9_ranks cX9_ranks 5 none 0 0 0 0 [.ref h0, .int l1] [(h0, oX9 d0 v_thrown v_taped v_at v_documents v_terms v_latest v_filed v_drafted v_place v_over v_clock v_askedTerms v_segments v_done v_postingsDone v_postingsAll v_why v_hits), ((d0 40), aI cs 40 v_sums), ((d0 41), aI cs 40 v_hit)] (R_X9_ranks cs h0 d0 v_thrown v_taped v_at v_documents v_terms v_latest v_filed v_drafted v_place v_over v_clock v_askedTerms v_segments v_done v_postingsDone v_postingsAll v_why v_sums Φ) (fun _ _ => False) := by
  refine XMet.of (own := RX9) (nm := "ranks") (by decide) rfl rfl (Nat.le_of_ble_eq_true rfl) (fun Γ C => ?_)
  unfold P_X9_ranks at h
  refine a_aload_n C (pc := 0) 0 dX9_ranks_0 rfl rfl ?_
  refine a_iconst C (pc := 1) dX9_ranks_1 ic_0 ?_
  refine a_put C (pc := 2) (ws1 := [(h0, oX9 d0 v_thrown v_taped v_at v_documents v_terms v_latest v_filed v_drafted v_place v_over v_clock v_askedTerms v_segments v_done v_postingsDone v_postingsAll v_why 0), ((d0 40), aI cs 40 v_sums), ((d0 41), aI cs 40 v_hit)]) 0 36 inW_X9 tyX9 tyX9_ok nmX9 rfl rfl (Nat.le_of_ble_eq_true rfl) wF_X9_309 rfl rfl rfl rfl rfl (Nat.le_of_ble_eq_true rfl) dX9_ranks_2 rfl ?_
  refine a_iconst C (pc := 5) dX9_ranks_5 ic_0 ?_
  refine a_istore_n C (pc := 6) (lv1 := [(0, .ref h0), (1, .int l1), (2, .int 0)]) [1, 2, 0] dX9_ranks_6 rfl (by decide) rfl ?_
  obtain ⟨n0, h⟩ := h
  refine w_X9_ranks_7 C (Nat.le_of_ble_eq_true rfl) (Nat.le_of_ble_eq_true rfl) n0 0 v_hit l1 0 h ?_
  intro v_hits_13 v_hit_14 h
  exact a_return C (pc := 117) rfl dX9_ranks_117 (Nat.le_of_ble_eq_true rfl) (Nat.le_of_ble_eq_true rfl) ⟨_, _, rfl, rfl, h⟩
