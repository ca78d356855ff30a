set_option maxRecDepth 100000 in
set_option maxHeartbeats 4000000 in
theorem w_X9_ln_5 {Γ : XG} {Lx : Launch} {Dx : va_G} {cs : Nat → ClassId} {K_25 : UInt64 → Int32 → Prop} {Φ : UInt64 → Prop} {k n9 : Nat} (C : CX Γ Lx Dx cs cX9_ln RX9 "ln" 12 (some .double) 0 0 0 0 (qEC cs 0 0 [] (R_X9_ln cs Φ) (fun _ _ => False))) (hkm : k ≤ 0) (hnm : n9 ≤ 0) : ∀ n : Nat, ∀ (l2 : UInt64) (l4 : Int32), L_X9_ln_5 n l2 l4 K_25 Φ → (∀ (l2_1 : UInt64) (l4_2 : Int32), K_25 l2_1 l4_2 → AW Γ k n9 25 [(2, .double l2_1), (4, .int l4_2)] [] []) → AW Γ k n9 5 [(2, .double l2), (4, .int l4)] [] [] := by
  intro n
  induction n with
  | zero =>
    intro l2 l4 h
    exact False.elim h
  | succ n ih =>
    intro l2 l4 h hK_25
    rw [L_X9_ln_5] at h
    refine a_dload_n C (pc := 5) 0 dX9_ln_5 rfl rfl ?_
    refine a_ldc2d C (pc := 6) wC_X9_139 dX9_ln_6 ?_
    refine a_dcmp C (pc := 9) dX9_ln_9 ?_
    refine a_if_lt C (pc := 10) 25 dX9_ln_10 (by decide) (fun hc => ?_) (fun hc => ?_)
    · have h := h.1 hc
      exact hK_25 l2 l4 h
    · have h := h.2 hc
      refine a_dload_n C (pc := 13) 0 dX9_ln_13 rfl rfl ?_
      refine a_ldc2d C (pc := 14) wC_X9_139 dX9_ln_14 ?_
      refine a_ddiv C (pc := 17) dX9_ln_17 h.1 ?_
      replace h := h.2
      refine a_dstore_n C (pc := 18) (lv1 := [(2, .double (FP.ddiv l2 4611686018427387904)), (4, .int l4)]) [0, 1] dX9_ln_18 rfl (by decide) rfl ?_
      refine a_iinc C (pc := 19) (lv1 := [(2, .double (FP.ddiv l2 4611686018427387904)), (4, .int (l4 + 1))]) 1 [1, 0] dX9_ln_19 rfl (congrArg (fun z => l4 + z) ic_1) (by decide) rfl ?_
      refine a_goto C (pc := 22) 5 dX9_ln_22 (by decide) ?_
      exact ih (FP.ddiv l2 4611686018427387904) (l4 + 1) h hK_25
set_option maxRecDepth 100000 in
set_option maxHeartbeats 4000000 in
theorem w_X9_ln_44 {Γ : XG} {Lx : Launch} {Dx : va_G} {cs : Nat → ClassId} {K_78 : Int32 → UInt64 → Prop} {Φ : UInt64 → Prop} {k n9 : Nat} (C : CX Γ Lx Dx cs cX9_ln RX9 "ln" 12 (some .double) 0 0 0 0 (qEC cs 0 0 [] (R_X9_ln cs Φ) (fun _ _ => False))) (hkm : k ≤ 0) (hnm : n9 ≤ 0) : ∀ n : Nat, ∀ (l4 : Int32) (l5 : UInt64) (l7 : UInt64) (l9 : UInt64) (l11 : Int32), L_X9_ln_44 n l4 l5 l7 l9 l11 K_78 Φ → (∀ (l4_5 : Int32) (l9_6 : UInt64), K_78 l4_5 l9_6 → AW Γ k n9 78 [(4, .int l4_5), (9, .double l9_6)] [] []) → AW Γ k n9 44 [(4, .int l4), (5, .double l5), (7, .double l7), (9, .double l9), (11, .int l11)] [] [] := by
  intro n
  induction n with
  | zero =>
    intro l4 l5 l7 l9 l11 h
    exact False.elim h
  | succ n ih =>
    intro l4 l5 l7 l9 l11 h hK_78
    rw [L_X9_ln_44] at h
    refine a_iload C (pc := 44) 4 dX9_ln_44 rfl ?_
    refine a_bipush C (pc := 46) dX9_ln_46 bp_24 ?_
    refine a_icmp_ge C (pc := 48) 78 dX9_ln_48 (by decide) (fun hc => ?_) (fun hc => ?_)
    · have h := h.1 hc
      refine a_lv (lv1 := [(4, .int l4), (9, .double l9)]) [0, 3] rfl ?_
      exact hK_78 l4 l9 h
    · have h := h.2 hc
      refine a_dload C (pc := 51) 3 dX9_ln_51 rfl ?_
      refine a_dload C (pc := 53) 2 dX9_ln_53 rfl ?_
      refine a_iload C (pc := 55) 4 dX9_ln_55 rfl ?_
      refine a_i2d C (pc := 57) dX9_ln_57 ?_
      refine a_ddiv C (pc := 58) dX9_ln_58 h.1 ?_
      replace h := h.2
      refine a_dadd C (pc := 59) dX9_ln_59 h.1 ?_
      replace h := h.2
      refine a_dstore C (pc := 60) (lv1 := [(4, .int l4), (5, .double l5), (7, .double l7), (9, .double (FP.dadd l9 (FP.ddiv l7 (FP.i2d l11)))), (11, .int l11)]) [1, 2, 3, 0, 4] dX9_ln_60 (by decide) rfl ?_
      refine a_dload C (pc := 62) 2 dX9_ln_62 rfl ?_
      refine a_dload C (pc := 64) 1 dX9_ln_64 rfl ?_
      refine a_dmul C (pc := 66) dX9_ln_66 h.1 ?_
      replace h := h.2
      refine a_dload C (pc := 67) 1 dX9_ln_67 rfl ?_
      refine a_dmul C (pc := 69) dX9_ln_69 h.1 ?_
      replace h := h.2
      refine a_dstore C (pc := 70) (lv1 := [(4, .int l4), (5, .double l5), (7, .double (FP.dmul (FP.dmul l7 l5) l5)), (9, .double (FP.dadd l9 (FP.ddiv l7 (FP.i2d l11)))), (11, .int l11)]) [1, 2, 0, 3, 4] dX9_ln_70 (by decide) rfl ?_
      refine a_iinc C (pc := 72) (lv1 := [(4, .int l4), (5, .double l5), (7, .double (FP.dmul (FP.dmul l7 l5) l5)), (9, .double (FP.dadd l9 (FP.ddiv l7 (FP.i2d l11)))), (11, .int (l11 + 2))]) 4 [1, 2, 3, 4, 0] dX9_ln_72 rfl (congrArg (fun z => l11 + z) ic_2) (by decide) rfl ?_
      refine a_goto C (pc := 75) 44 dX9_ln_75 (by decide) ?_
      exact ih l4 l5 (FP.dmul (FP.dmul l7 l5) l5) (FP.dadd l9 (FP.ddiv l7 (FP.i2d l11))) (l11 + 2) h hK_78
set_option maxRecDepth 100000 in
set_option maxHeartbeats 4000000 in
theorem m_X9_ln (Lx : Launch) (Dx : va_G) (cs : Nat → ClassId) (l0 : UInt64) (Φ : UInt64 → Prop) (h : P_X9_ln l0 Φ) : XMet Lx Dx cs yX9_ln cX9_ln 12 (some .double) 0 0 0 0 [.double l0] [] (R_X9_ln cs Φ) (fun _ _ => False) := by
  refine XMet.of (own := RX9) (nm := "ln") (by decide) rfl rfl (Nat.le_of_ble_eq_true rfl) (fun Γ C => ?_)
  unfold P_X9_ln at h
  refine a_dload_n C (pc := 0) 0 dX9_ln_0 rfl rfl ?_
  refine a_dstore_n C (pc := 1) (lv1 := [(0, .double l0), (2, .double l0)]) [1, 0] dX9_ln_1 rfl (by decide) rfl ?_
  refine a_iconst C (pc := 2) dX9_ln_2 ic_0 ?_
  refine a_istore C (pc := 3) (lv1 := [(0, .double l0), (2, .double l0), (4, .int 0)]) [1, 2, 0] dX9_ln_3 (by decide) rfl ?_
  obtain ⟨n0, h⟩ := h
  refine a_lv (lv1 := [(2, .double l0), (4, .int 0)]) [1, 2] rfl ?_
  refine w_X9_ln_5 C (Nat.le_of_ble_eq_true rfl) (Nat.le_of_ble_eq_true rfl) n0 l0 0 h ?_
  intro l2_3 l4_4 h
  refine a_dload_n C (pc := 25) 0 dX9_ln_25 rfl rfl ?_
  refine a_dconst1 C (pc := 26) dX9_ln_26 ?_
  refine a_dsub C (pc := 27) dX9_ln_27 h.1 ?_
  replace h := h.2
  refine a_dload_n C (pc := 28) 0 dX9_ln_28 rfl rfl ?_
  refine a_dconst1 C (pc := 29) dX9_ln_29 ?_
  refine a_dadd C (pc := 30) dX9_ln_30 h.1 ?_
  replace h := h.2
  refine a_ddiv C (pc := 31) dX9_ln_31 h.1 ?_
  replace h := h.2
  refine a_dstore C (pc := 32) (lv1 := [(2, .double l2_3), (4, .int l4_4), (5, .double (FP.ddiv (FP.dsub l2_3 FP.dconst1) (FP.dadd l2_3 FP.dconst1)))]) [1, 2, 0] dX9_ln_32 (by decide) rfl ?_
  refine a_dload C (pc := 34) 2 dX9_ln_34 rfl ?_
  refine a_dstore C (pc := 36) (lv1 := [(2, .double l2_3), (4, .int l4_4), (5, .double (FP.ddiv (FP.dsub l2_3 FP.dconst1) (FP.dadd l2_3 FP.dconst1))), (7, .double (FP.ddiv (FP.dsub l2_3 FP.dconst1) (FP.dadd l2_3 FP.dconst1)))]) [1, 2, 3, 0] dX9_ln_36 (by decide) rfl ?_
  refine a_dconst0 C (pc := 38) dX9_ln_38 ?_
  refine a_dstore C (pc := 39) (lv1 := [(2, .double l2_3), (4, .int l4_4), (5, .double (FP.ddiv (FP.dsub l2_3 FP.dconst1) (FP.dadd l2_3 FP.dconst1))), (7, .double (FP.ddiv (FP.dsub l2_3 FP.dconst1) (FP.dadd l2_3 FP.dconst1))), (9, .double FP.dconst0)]) [1, 2, 3, 4, 0] dX9_ln_39 (by decide) rfl ?_
  refine a_iconst C (pc := 41) dX9_ln_41 ic_1 ?_
  refine a_istore C (pc := 42) (lv1 := [(2, .double l2_3), (4, .int l4_4), (5, .double (FP.ddiv (FP.dsub l2_3 FP.dconst1) (FP.dadd l2_3 FP.dconst1))), (7, .double (FP.ddiv (FP.dsub l2_3 FP.dconst1) (FP.dadd l2_3 FP.dconst1))), (9, .double FP.dconst0), (11, .int 1)]) [1, 2, 3, 4, 5, 0] dX9_ln_42 (by decide) rfl ?_
  obtain ⟨n0, h⟩ := h
  refine a_lv (lv1 := [(4, .int l4_4), (5, .double (FP.ddiv (FP.dsub l2_3 FP.dconst1) (FP.dadd l2_3 FP.dconst1))), (7, .double (FP.ddiv (FP.dsub l2_3 FP.dconst1) (FP.dadd l2_3 FP.dconst1))), (9, .double FP.dconst0), (11, .int 1)]) [1, 2, 3, 4, 5] rfl ?_
  refine w_X9_ln_44 C (Nat.le_of_ble_eq_true rfl) (Nat.le_of_ble_eq_true rfl) n0 l4_4 (FP.ddiv (FP.dsub l2_3 FP.dconst1) (FP.dadd l2_3 FP.dconst1)) (FP.ddiv (FP.dsub l2_3 FP.dconst1) (FP.dadd l2_3 FP.dconst1)) FP.dconst0 1 h ?_
  intro l4_7 l9_8 h
  refine a_ldc2d C (pc := 78) wC_X9_139 dX9_ln_78 ?_
  refine a_dload C (pc := 81) 1 dX9_ln_81 rfl ?_
  refine a_dmul C (pc := 83) dX9_ln_83 h.1 ?_
  replace h := h.2
  refine a_iload C (pc := 84) 0 dX9_ln_84 rfl ?_
  refine a_i2d C (pc := 86) dX9_ln_86 ?_
  refine a_ldc2d C (pc := 87) wC_X9_141 dX9_ln_87 ?_
  refine a_dmul C (pc := 90) dX9_ln_90 h.1 ?_
  replace h := h.2
  refine a_dadd C (pc := 91) dX9_ln_91 h.1 ?_
  replace h := h.2
  exact a_dreturn C (pc := 92) rfl dX9_ln_92 (Nat.le_of_ble_eq_true rfl) (Nat.le_of_ble_eq_true rfl) ⟨_, rfl, rfl, h⟩
set_option maxRecDepth 100000 in
set_option maxHeartbeats 4000000 in
theorem m_X9_scoreOf (Lx : Launch) (Dx : va_G) (cs : Nat → ClassId) (h0 : Nat) (d0 : Nat → Nat) (v_thrown : Int32) (v_taped : Int32) (v_at : Int32) (v_documents : Int32) (v_terms : Int32) (v_latest : Int32) (v_filed : Int32) (v_drafted : Int32) (v_place : Int32) (v_over : Int32) (v_clock : Int64) (v_askedTerms : Int32) (v_segments : Int32) (v_done : Int32) (v_postingsDone : Int32) (v_postingsAll : Int32) (v_why : Int32) (v_hits : Int32) (v_length : Nat → Int32) (v_often : Nat → Int32) (l1 : Int32) (l2 : Int32) (Φ : UInt64 → Prop) (h : P_X9_scoreOf v_documents v_length v_often l1 l2 Φ) : XMet Lx Dx cs yX9_scoreOf cX9_scoreOf 9 (some .double) 1 31 0 0 [.ref h0, .int l1, .int l2] [(h0, oX9 d0 v_thrown v_taped v_at v_documents v_terms v_latest v_filed v_drafted v_place v_over v_clock v_askedTerms v_segments v_done v_postingsDone v_postingsAll v_why v_hits), ((d0 9), aI cs 40 v_length), ((d0 8), aI cs 2560 v_often)] (R_X9_scoreOf cs h0 d0 v_thrown v_taped v_at v_documents v_terms v_latest v_filed v_drafted v_place v_over v_clock v_askedTerms v_segments v_done v_postingsDone v_postingsAll v_why v_hits v_length v_often Φ) (fun _ _ => False) := by
  refine XMet.of (own := RX9) (nm := "scoreOf") (by decide) rfl rfl (Nat.le_of_ble_eq_true rfl) (fun Γ C => ?_)
  unfold P_X9_scoreOf at h
  refine a_aload_n C (pc := 0) 0 dX9_scoreOf_0 rfl rfl ?_
  refine a_get C (pc := 1) 0 5 inW_X9 rfl rfl (Nat.le_of_ble_eq_true rfl) wF_X9_120 rfl rfl dX9_scoreOf_1 ?_
  refine a_i2d C (pc := 4) dX9_scoreOf_4 ?_
  refine a_dstore_n C (pc := 5) (lv1 := [(0, .ref h0), (1, .int l1), (2, .int l2), (3, .double (FP.i2d v_documents))]) [1, 2, 3, 0] dX9_scoreOf_5 rfl (by decide) rfl ?_
  refine a_aload_n C (pc := 6) 0 dX9_scoreOf_6 rfl rfl ?_
  refine a_callV C (pc := 7) (av := []) (wr := [((d0 8), aI cs 2560 v_often)]) (m_X9_lengths Lx Dx cs h0 d0 v_thrown v_taped v_at v_documents v_terms v_latest v_filed v_drafted v_place v_over v_clock v_askedTerms v_segments v_done v_postingsDone v_postingsAll v_why v_hits v_length _ h) [0, 1] [2] rfl rfl (by decide) (by decide) (by decide) wM_X9_136 wb_X9_lengths hy_X9_lengths (q0 := 0) rfl rfl rfl ⟨Nat.le_of_ble_eq_true rfl, Nat.le_of_ble_eq_true rfl⟩ (Nat.le_of_ble_eq_true rfl) (Nat.le_of_ble_eq_true rfl) (Nat.le_of_ble_eq_true rfl) rfl dX9_scoreOf_7 (fun v w1 hw => ?_) [] rfl (fun _ _ h => h.elim)
  obtain ⟨r_1, rfl, rfl, h⟩ := hw
  refine a_ws (st1 := [.int r_1]) (ws1 := [(h0, oX9 d0 v_thrown v_taped v_at v_documents v_terms v_latest v_filed v_drafted v_place v_over v_clock v_askedTerms v_segments v_done v_postingsDone v_postingsAll v_why v_hits), ((d0 9), aI cs 40 v_length), ((d0 8), aI cs 2560 v_often)]) 0 0 10 [1, 2, 0] rfl rfl rfl rfl (by decide) rfl ?_
  refine a_i2d C (pc := 10) dX9_scoreOf_10 ?_
  refine a_dload_n C (pc := 11) 3 dX9_scoreOf_11 rfl rfl ?_
  refine a_ddiv C (pc := 12) dX9_scoreOf_12 h.1 ?_
  replace h := h.2
  refine a_dstore C (pc := 13) (lv1 := [(0, .ref h0), (1, .int l1), (2, .int l2), (3, .double (FP.i2d v_documents)), (5, .double (FP.ddiv (FP.i2d r_1) (FP.i2d v_documents)))]) [1, 2, 3, 4, 0] dX9_scoreOf_13 (by decide) rfl ?_
  refine a_aload_n C (pc := 15) 0 dX9_scoreOf_15 rfl rfl ?_
  refine a_get C (pc := 16) 0 8 inW_X9 rfl rfl (Nat.le_of_ble_eq_true rfl) wF_X9_19 rfl rfl dX9_scoreOf_16 ?_
  refine a_bipush C (pc := 19) dX9_scoreOf_19 bp_40 ?_
  refine a_iload_n C (pc := 21) 1 dX9_scoreOf_21 rfl rfl ?_
  refine a_imul C (pc := 22) dX9_scoreOf_22 ?_
  refine a_iload_n C (pc := 23) 2 dX9_scoreOf_23 rfl rfl ?_
  refine a_iadd C (pc := 24) dX9_scoreOf_24 ?_
  refine a_iald C (pc := 25) 2 rfl h.1 dX9_scoreOf_25 ?_
  replace h := h.2
  refine a_i2d C (pc := 26) dX9_scoreOf_26 ?_
  refine a_dstore C (pc := 27) (lv1 := [(0, .ref h0), (1, .int l1), (2, .int l2), (3, .double (FP.i2d v_documents)), (5, .double (FP.ddiv (FP.i2d r_1) (FP.i2d v_documents))), (7, .double (FP.i2d (v_often ((40 * l1) + l2 : Int32).toNatClampNeg)))]) [1, 2, 3, 4, 5, 0] dX9_scoreOf_27 (by decide) rfl ?_
  refine a_dload_n C (pc := 29) 3 dX9_scoreOf_29 rfl rfl ?_
  refine a_aload_n C (pc := 30) 0 dX9_scoreOf_30 rfl rfl ?_
  refine a_iload_n C (pc := 31) 1 dX9_scoreOf_31 rfl rfl ?_
  refine a_callV C (pc := 32) (av := [.int l1]) (wr := [((d0 9), aI cs 40 v_length)]) (m_X9_frequency Lx Dx cs h0 d0 v_thrown v_taped v_at v_documents v_terms v_latest v_filed v_drafted v_place v_over v_clock v_askedTerms v_segments v_done v_postingsDone v_postingsAll v_why v_hits v_often l1 _ h) [0, 2] [1] rfl rfl (by decide) (by decide) (by decide) wM_X9_131 wb_X9_frequency hy_X9_frequency (q0 := 0) rfl rfl rfl ⟨Nat.le_of_ble_eq_true rfl, Nat.le_of_ble_eq_true rfl⟩ (Nat.le_of_ble_eq_true rfl) (Nat.le_of_ble_eq_true rfl) (Nat.le_of_ble_eq_true rfl) rfl dX9_scoreOf_32 (fun v w1 hw => ?_) [] rfl (fun _ _ h => h.elim)
  obtain ⟨r_2, rfl, rfl, h⟩ := hw
  refine a_ws (st1 := [.int r_2, .double (FP.i2d v_documents)]) (ws1 := [(h0, oX9 d0 v_thrown v_taped v_at v_documents v_terms v_latest v_filed v_drafted v_place v_over v_clock v_askedTerms v_segments v_done v_postingsDone v_postingsAll v_why v_hits), ((d0 9), aI cs 40 v_length), ((d0 8), aI cs 2560 v_often)]) 0 0 35 [1, 0, 2] rfl rfl rfl rfl (by decide) rfl ?_
  refine a_i2d C (pc := 35) dX9_scoreOf_35 ?_
  refine a_ddiv C (pc := 36) dX9_scoreOf_36 h.1 ?_
  replace h := h.2
  refine a_callS C (pc := 37) (av := [.double (FP.ddiv (FP.i2d v_documents) (FP.i2d r_2))]) (wr := [(h0, oX9 d0 v_thrown v_taped v_at v_documents v_terms v_latest v_filed v_drafted v_place v_over v_clock v_askedTerms v_segments v_done v_postingsDone v_postingsAll v_why v_hits), ((d0 9), aI cs 40 v_length), ((d0 8), aI cs 2560 v_often)]) (m_X9_ln Lx Dx cs (FP.ddiv (FP.i2d v_documents) (FP.i2d r_2)) _ h) [] [0, 1, 2] rfl rfl (by decide) (by decide) (by decide) wM_X9_143 wb_X9_ln hy_X9_ln rfl ⟨Nat.le_of_ble_eq_true rfl, Nat.le_of_ble_eq_true rfl⟩ (Nat.le_of_ble_eq_true rfl) (Nat.le_of_ble_eq_true rfl) (Nat.le_of_ble_eq_true rfl) rfl dX9_scoreOf_37 (fun v w1 hw => ?_) [] rfl (fun _ _ h => h.elim)
  obtain ⟨r_3, rfl, rfl, h⟩ := hw
  refine a_ws (st1 := [.double r_3]) (ws1 := [(h0, oX9 d0 v_thrown v_taped v_at v_documents v_terms v_latest v_filed v_drafted v_place v_over v_clock v_askedTerms v_segments v_done v_postingsDone v_postingsAll v_why v_hits), ((d0 9), aI cs 40 v_length), ((d0 8), aI cs 2560 v_often)]) 0 0 40 [0, 1, 2] rfl rfl rfl rfl (by decide) rfl ?_
  refine a_ldc2d C (pc := 40) wC_X9_147 dX9_scoreOf_40 ?_
  refine a_dload C (pc := 43) 5 dX9_scoreOf_43 rfl ?_
  refine a_dmul C (pc := 45) dX9_scoreOf_45 h.1 ?_
  replace h := h.2
  refine a_ldc2d C (pc := 46) wC_X9_149 dX9_scoreOf_46 ?_
  refine a_ldc2d C (pc := 49) wC_X9_151 dX9_scoreOf_49 ?_
  refine a_ldc2d C (pc := 52) wC_X9_153 dX9_scoreOf_52 ?_
  refine a_aload_n C (pc := 55) 0 dX9_scoreOf_55 rfl rfl ?_
  refine a_get C (pc := 56) 0 9 inW_X9 rfl rfl (Nat.le_of_ble_eq_true rfl) wF_X9_22 rfl rfl dX9_scoreOf_56 ?_
  refine a_iload_n C (pc := 59) 2 dX9_scoreOf_59 rfl rfl ?_
  refine a_iald C (pc := 60) 1 rfl h.1 dX9_scoreOf_60 ?_
  replace h := h.2
  refine a_i2d C (pc := 61) dX9_scoreOf_61 ?_
  refine a_dmul C (pc := 62) dX9_scoreOf_62 h.1 ?_
  replace h := h.2
  refine a_dload C (pc := 63) 4 dX9_scoreOf_63 rfl ?_
  refine a_ddiv C (pc := 65) dX9_scoreOf_65 h.1 ?_
  replace h := h.2
  refine a_dadd C (pc := 66) dX9_scoreOf_66 h.1 ?_
  replace h := h.2
  refine a_dmul C (pc := 67) dX9_scoreOf_67 h.1 ?_
  replace h := h.2
  refine a_dload C (pc := 68) 5 dX9_scoreOf_68 rfl ?_
  refine a_dadd C (pc := 70) dX9_scoreOf_70 h.1 ?_
  replace h := h.2
  refine a_ddiv C (pc := 71) dX9_scoreOf_71 h.1 ?_
  replace h := h.2
  refine a_dmul C (pc := 72) dX9_scoreOf_72 h.1 ?_
  replace h := h.2
  exact a_dreturn C (pc := 73) rfl dX9_scoreOf_73 (Nat.le_of_ble_eq_true rfl) (Nat.le_of_ble_eq_true rfl) ⟨_, rfl, rfl, h⟩
set_option maxRecDepth 100000 in
set_option maxHeartbeats 4000000 in
theorem w_X9_score_101 {Γ : XG} {Lx : Launch} {Dx : va_G} {cs : Nat → ClassId} {h0 : Nat} {d0 : Nat → Nat} {v_documents : Int32} {v_terms : Int32} {v_latest : Int32} {v_filed : Int32} {v_drafted : Int32} {v_place : Int32} {v_over : Int32} {v_clock : Int64} {v_askedTerms : Int32} {v_segments : Int32} {v_done : Int32} {v_postingsDone : Int32} {v_postingsAll : Int32} {v_why : Int32} {v_hits : Int32} {v_tape : Nat → Int32} {v_term : Nat → Int32} {v_often : Nat → Int32} {v_length : Nat → Int32} {Φ : UInt64 → Int32 → Int32 → Int32 → (Nat → Int32) → Prop} {k n9 : Nat} (C : CX Γ Lx Dx cs cX9_score RX9 "score" 5 (some .double) 2 59 0 0 (qEC cs 0 0 [] (R_X9_score cs h0 d0 v_documents v_terms v_latest v_filed v_drafted v_place v_over v_clock v_askedTerms v_segments v_done v_postingsDone v_postingsAll v_why v_hits v_tape v_term v_often v_length Φ) (fun _ _ => False))) (hkm : k ≤ 0) (hnm : n9 ≤ 0) (v_thrown : Int32) (v_taped : Int32) (v_at : Int32) (v_word : Nat → Int32) (l1 : Int32) (l4 : Int32) (s1 : Int32) (h : J_X9_score_101 v_thrown v_taped v_at v_documents v_terms v_tape v_word v_term v_often v_length l1 l4 s1 Φ) : AW Γ k n9 101 [(0, .ref h0), (1, .int l1), (4, .int l4)] [.int s1, .ref h0] [(h0, oX9 d0 v_thrown v_taped v_at v_documents v_terms v_latest v_filed v_drafted v_place v_over v_clock v_askedTerms v_segments v_done v_postingsDone v_postingsAll v_why v_hits), ((d0 1), aI cs 3000 v_tape), ((d0 3), aI cs 8 v_word), ((d0 7), aI cs 512 v_term), ((d0 8), aI cs 2560 v_often), ((d0 9), aI cs 40 v_length)] := by
  unfold J_X9_score_101 at h
  refine a_iconst C (pc := 101) dX9_score_101 ic_2 ?_
  refine a_callV C (pc := 102) (av := [.int s1, .int 2]) (wr := [((d0 1), aI cs 3000 v_tape), ((d0 3), aI cs 8 v_word), ((d0 7), aI cs 512 v_term), ((d0 8), aI cs 2560 v_often), ((d0 9), aI cs 40 v_length)]) (m_X9_fails Lx Dx cs h0 d0 v_thrown v_taped v_at v_documents v_terms v_latest v_filed v_drafted v_place v_over v_clock v_askedTerms v_segments v_done v_postingsDone v_postingsAll v_why v_hits s1 2 _ h) [0] [1, 2, 3, 4, 5] rfl rfl (by decide) (by decide) (by decide) wM_X9_93 wb_X9_fails hy_X9_fails (q0 := 0) rfl rfl rfl ⟨Nat.le_of_ble_eq_true rfl, Nat.le_of_ble_eq_true rfl⟩ (Nat.le_of_ble_eq_true rfl) hkm hnm rfl dX9_score_102 (fun v w1 hw => ?_) [] rfl (fun _ _ h => h.elim)
  obtain ⟨r_7, v_thrown_8, rfl, rfl, h⟩ := hw
  refine a_ws (st1 := [.int r_7]) (ws1 := [(h0, oX9 d0 v_thrown_8 v_taped v_at v_documents v_terms v_latest v_filed v_drafted v_place v_over v_clock v_askedTerms v_segments v_done v_postingsDone v_postingsAll v_why v_hits), ((d0 1), aI cs 3000 v_tape), ((d0 3), aI cs 8 v_word), ((d0 7), aI cs 512 v_term), ((d0 8), aI cs 2560 v_often), ((d0 9), aI cs 40 v_length)]) k n9 105 [5, 0, 1, 2, 3, 4] rfl rfl rfl rfl (by decide) rfl ?_
  refine a_if_eq C (pc := 105) 110 dX9_score_105 (by decide) (fun hc => ?_) (fun hc => ?_)
  · have h := h.1 hc
    refine a_iload C (pc := 110) 2 dX9_score_110 rfl ?_
    refine a_if_lt C (pc := 112) 130 dX9_score_112 (by decide) (fun hc => ?_) (fun hc => ?_)
    · have h := h.1 hc
      refine a_dconst0 C (pc := 130) dX9_score_130 ?_
      refine a_goto C (pc := 131) 141 dX9_score_131 (by decide) ?_
      exact a_dreturn C (pc := 141) rfl dX9_score_141 hkm hnm ⟨_, _, _, _, _, rfl, rfl, h⟩
    · have h := h.2 hc
      refine a_aload_n C (pc := 115) 0 dX9_score_115 rfl rfl ?_
      refine a_get C (pc := 116) 0 8 inW_X9 rfl rfl (Nat.le_of_ble_eq_true rfl) wF_X9_19 rfl rfl dX9_score_116 ?_
      refine a_bipush C (pc := 119) dX9_score_119 bp_40 ?_
      refine a_iload C (pc := 121) 2 dX9_score_121 rfl ?_
      refine a_imul C (pc := 123) dX9_score_123 ?_
      refine a_iload_n C (pc := 124) 1 dX9_score_124 rfl rfl ?_
      refine a_iadd C (pc := 125) dX9_score_125 ?_
      refine a_iald C (pc := 126) 4 rfl h.1 dX9_score_126 ?_
      replace h := h.2
      refine a_if_ne C (pc := 127) 134 dX9_score_127 (by decide) (fun hc => ?_) (fun hc => ?_)
      · have h := h.1 hc
        refine a_aload_n C (pc := 134) 0 dX9_score_134 rfl rfl ?_
        refine a_iload C (pc := 135) 2 dX9_score_135 rfl ?_
        refine a_iload_n C (pc := 137) 1 dX9_score_137 rfl rfl ?_
        refine a_callV C (pc := 138) (av := [.int l4, .int l1]) (wr := [((d0 1), aI cs 3000 v_tape), ((d0 3), aI cs 8 v_word), ((d0 7), aI cs 512 v_term)]) (m_X9_scoreOf Lx Dx cs h0 d0 v_thrown_8 v_taped v_at v_documents v_terms v_latest v_filed v_drafted v_place v_over v_clock v_askedTerms v_segments v_done v_postingsDone v_postingsAll v_why v_hits v_length v_often l4 l1 _ h) [0, 5, 4] [1, 2, 3] rfl rfl (by decide) (by decide) (by decide) wM_X9_155 wb_X9_scoreOf hy_X9_scoreOf (q0 := 0) rfl rfl rfl ⟨Nat.le_of_ble_eq_true rfl, Nat.le_of_ble_eq_true rfl⟩ (Nat.le_of_ble_eq_true rfl) hkm hnm rfl dX9_score_138 (fun v w1 hw => ?_) [] rfl (fun _ _ h => h.elim)
        obtain ⟨r_9, rfl, rfl, h⟩ := hw
        refine a_ws (st1 := [.double r_9]) (ws1 := [(h0, oX9 d0 v_thrown_8 v_taped v_at v_documents v_terms v_latest v_filed v_drafted v_place v_over v_clock v_askedTerms v_segments v_done v_postingsDone v_postingsAll v_why v_hits), ((d0 1), aI cs 3000 v_tape), ((d0 3), aI cs 8 v_word), ((d0 7), aI cs 512 v_term), ((d0 8), aI cs 2560 v_often), ((d0 9), aI cs 40 v_length)]) k n9 141 [3, 0, 1, 2, 5, 4] rfl rfl rfl rfl (by decide) rfl ?_
        exact a_dreturn C (pc := 141) rfl dX9_score_141 hkm hnm ⟨_, _, _, _, _, rfl, rfl, h⟩
      · have h := h.2 hc
        refine a_dconst0 C (pc := 130) dX9_score_130 ?_
        refine a_goto C (pc := 131) 141 dX9_score_131 (by decide) ?_
        exact a_dreturn C (pc := 141) rfl dX9_score_141 hkm hnm ⟨_, _, _, _, _, rfl, rfl, h⟩
  · have h := h.2 hc
    refine a_dconst0 C (pc := 108) dX9_score_108 ?_
    exact a_dreturn C (pc := 109) rfl dX9_score_109 hkm hnm ⟨_, _, _, _, _, rfl, rfl, h⟩
set_option maxRecDepth 100000 in
set_option maxHeartbeats 4000000 in
theorem w_X9_score_72 {Γ : XG} {Lx : Launch} {Dx : va_G} {cs : Nat → ClassId} {h0 : Nat} {d0 : Nat → Nat} {v_documents : Int32} {v_terms : Int32} {v_latest : Int32} {v_filed : Int32} {v_drafted : Int32} {v_place : Int32} {v_over : Int32} {v_clock : Int64} {v_askedTerms : Int32} {v_segments : Int32} {v_done : Int32} {v_postingsDone : Int32} {v_postingsAll : Int32} {v_why : Int32} {v_hits : Int32} {v_tape : Nat → Int32} {v_term : Nat → Int32} {v_often : Nat → Int32} {v_length : Nat → Int32} {Φ : UInt64 → Int32 → Int32 → Int32 → (Nat → Int32) → Prop} {k n9 : Nat} (C : CX Γ Lx Dx cs cX9_score RX9 "score" 5 (some .double) 2 59 0 0 (qEC cs 0 0 [] (R_X9_score cs h0 d0 v_documents v_terms v_latest v_filed v_drafted v_place v_over v_clock v_askedTerms v_segments v_done v_postingsDone v_postingsAll v_why v_hits v_tape v_term v_often v_length Φ) (fun _ _ => False))) (hkm : k ≤ 0) (hnm : n9 ≤ 0) (v_thrown : Int32) (v_taped : Int32) (v_at : Int32) (v_word : Nat → Int32) (l1 : Int32) (l4 : Int32) (s1 : Int32) (h : J_X9_score_72 v_thrown v_taped v_at v_documents v_terms v_tape v_word v_term v_often v_length l1 l4 s1 Φ) : AW Γ k n9 72 [(0, .ref h0), (1, .int l1), (4, .int l4)] [.int s1, .ref h0] [(h0, oX9 d0 v_thrown v_taped v_at v_documents v_terms v_latest v_filed v_drafted v_place v_over v_clock v_askedTerms v_segments v_done v_postingsDone v_postingsAll v_why v_hits), ((d0 1), aI cs 3000 v_tape), ((d0 3), aI cs 8 v_word), ((d0 7), aI cs 512 v_term), ((d0 8), aI cs 2560 v_often), ((d0 9), aI cs 40 v_length)] := by
  unfold J_X9_score_72 at h
  refine a_iconst C (pc := 72) dX9_score_72 ic_1 ?_
  refine a_callV C (pc := 73) (av := [.int s1, .int 1]) (wr := [((d0 1), aI cs 3000 v_tape), ((d0 3), aI cs 8 v_word), ((d0 7), aI cs 512 v_term), ((d0 8), aI cs 2560 v_often), ((d0 9), aI cs 40 v_length)]) (m_X9_fails Lx Dx cs h0 d0 v_thrown v_taped v_at v_documents v_terms v_latest v_filed v_drafted v_place v_over v_clock v_askedTerms v_segments v_done v_postingsDone v_postingsAll v_why v_hits s1 1 _ h) [0] [1, 2, 3, 4, 5] rfl rfl (by decide) (by decide) (by decide) wM_X9_93 wb_X9_fails hy_X9_fails (q0 := 0) rfl rfl rfl ⟨Nat.le_of_ble_eq_true rfl, Nat.le_of_ble_eq_true rfl⟩ (Nat.le_of_ble_eq_true rfl) hkm hnm rfl dX9_score_73 (fun v w1 hw => ?_) [] rfl (fun _ _ h => h.elim)
  obtain ⟨r_4, v_thrown_5, rfl, rfl, h⟩ := hw
  refine a_ws (st1 := [.int r_4]) (ws1 := [(h0, oX9 d0 v_thrown_5 v_taped v_at v_documents v_terms v_latest v_filed v_drafted v_place v_over v_clock v_askedTerms v_segments v_done v_postingsDone v_postingsAll v_why v_hits), ((d0 1), aI cs 3000 v_tape), ((d0 3), aI cs 8 v_word), ((d0 7), aI cs 512 v_term), ((d0 8), aI cs 2560 v_often), ((d0 9), aI cs 40 v_length)]) k n9 76 [5, 0, 1, 2, 3, 4] rfl rfl rfl rfl (by decide) rfl ?_
  refine a_if_ne C (pc := 76) 108 dX9_score_76 (by decide) (fun hc => ?_) (fun hc => ?_)
  · have h := h.1 hc
    refine a_dconst0 C (pc := 108) dX9_score_108 ?_
    exact a_dreturn C (pc := 109) rfl dX9_score_109 hkm hnm ⟨_, _, _, _, _, rfl, rfl, h⟩
  · have h := h.2 hc
    refine a_aload_n C (pc := 79) 0 dX9_score_79 rfl rfl ?_
    refine a_iload_n C (pc := 80) 1 dX9_score_80 rfl rfl ?_
    refine a_i2l C (pc := 81) dX9_score_81 ?_
    refine a_lconst C (pc := 82) (v := 0) dX9_score_82 rfl ?_
    refine a_aload_n C (pc := 83) 0 dX9_score_83 rfl rfl ?_
    refine a_get C (pc := 84) 0 5 inW_X9 rfl rfl (Nat.le_of_ble_eq_true rfl) wF_X9_120 rfl rfl dX9_score_84 ?_
    refine a_iconst C (pc := 87) dX9_score_87 ic_1 ?_
    refine a_isub C (pc := 88) dX9_score_88 ?_
    refine a_i2l C (pc := 89) dX9_score_89 ?_
    refine a_callS C (pc := 90) (av := [.long ((l1 : Int32).toInt64), .long 0, .long (((v_documents - 1) : Int32).toInt64)]) (wr := [(h0, oX9 d0 v_thrown_5 v_taped v_at v_documents v_terms v_latest v_filed v_drafted v_place v_over v_clock v_askedTerms v_segments v_done v_postingsDone v_postingsAll v_why v_hits), ((d0 1), aI cs 3000 v_tape), ((d0 3), aI cs 8 v_word), ((d0 7), aI cs 512 v_term), ((d0 8), aI cs 2560 v_often), ((d0 9), aI cs 40 v_length)]) (m_X9_within Lx Dx cs ((l1 : Int32).toInt64) 0 (((v_documents - 1) : Int32).toInt64) _ h) [] [0, 1, 2, 3, 4, 5] rfl rfl (by decide) (by decide) (by decide) wM_X9_89 wb_X9_within hy_X9_within rfl ⟨Nat.le_of_ble_eq_true rfl, Nat.le_of_ble_eq_true rfl⟩ (Nat.le_of_ble_eq_true rfl) hkm hnm rfl dX9_score_90 (fun v w1 hw => ?_) [] rfl (fun _ _ h => h.elim)
    obtain ⟨r_6, rfl, rfl, h⟩ := hw
    refine a_ws (st1 := [.int r_6, .ref h0]) (ws1 := [(h0, oX9 d0 v_thrown_5 v_taped v_at v_documents v_terms v_latest v_filed v_drafted v_place v_over v_clock v_askedTerms v_segments v_done v_postingsDone v_postingsAll v_why v_hits), ((d0 1), aI cs 3000 v_tape), ((d0 3), aI cs 8 v_word), ((d0 7), aI cs 512 v_term), ((d0 8), aI cs 2560 v_often), ((d0 9), aI cs 40 v_length)]) k n9 93 [0, 1, 2, 3, 4, 5] rfl rfl rfl rfl (by decide) rfl ?_
    refine a_if_ne C (pc := 93) 100 dX9_score_93 (by decide) (fun hc => ?_) (fun hc => ?_)
    · have h := h.1 hc
      refine a_iconst C (pc := 100) dX9_score_100 ic_0 ?_
      exact w_X9_score_101 C hkm hnm v_thrown_5 v_taped v_at v_word l1 l4 0 h
    · have h := h.2 hc
      refine a_iconst C (pc := 96) dX9_score_96 ic_1 ?_
      refine a_goto C (pc := 97) 101 dX9_score_97 (by decide) ?_
      exact w_X9_score_101 C hkm hnm v_thrown_5 v_taped v_at v_word l1 l4 1 h
set_option maxRecDepth 100000 in
set_option maxHeartbeats 4000000 in
theorem w_X9_score_62 {Γ : XG} {Lx : Launch} {Dx : va_G} {cs : Nat → ClassId} {h0 : Nat} {d0 : Nat → Nat} {v_documents : Int32} {v_terms : Int32} {v_latest : Int32} {v_filed : Int32} {v_drafted : Int32} {v_place : Int32} {v_over : Int32} {v_clock : Int64} {v_askedTerms : Int32} {v_segments : Int32} {v_done : Int32} {v_postingsDone : Int32} {v_postingsAll : Int32} {v_why : Int32} {v_hits : Int32} {v_tape : Nat → Int32} {v_term : Nat → Int32} {v_often : Nat → Int32} {v_length : Nat → Int32} {Φ : UInt64 → Int32 → Int32 → Int32 → (Nat → Int32) → Prop} {k n9 : Nat} (C : CX Γ Lx Dx cs cX9_score RX9 "score" 5 (some .double) 2 59 0 0 (qEC cs 0 0 [] (R_X9_score cs h0 d0 v_documents v_terms v_latest v_filed v_drafted v_place v_over v_clock v_askedTerms v_segments v_done v_postingsDone v_postingsAll v_why v_hits v_tape v_term v_often v_length Φ) (fun _ _ => False))) (hkm : k ≤ 0) (hnm : n9 ≤ 0) (v_thrown : Int32) (v_taped : Int32) (v_at : Int32) (v_word : Nat → Int32) (l1 : Int32) (l3 : Int32) (l4 : Int32) (h : J_X9_score_62 v_thrown v_taped v_at v_documents v_terms v_tape v_word v_term v_often v_length l1 l3 l4 Φ) : AW Γ k n9 62 [(0, .ref h0), (1, .int l1), (3, .int l3), (4, .int l4)] [] [(h0, oX9 d0 v_thrown v_taped v_at v_documents v_terms v_latest v_filed v_drafted v_place v_over v_clock v_askedTerms v_segments v_done v_postingsDone v_postingsAll v_why v_hits), ((d0 1), aI cs 3000 v_tape), ((d0 3), aI cs 8 v_word), ((d0 7), aI cs 512 v_term), ((d0 8), aI cs 2560 v_often), ((d0 9), aI cs 40 v_length)] := by
  unfold J_X9_score_62 at h
  refine a_aload_n C (pc := 62) 0 dX9_score_62 rfl rfl ?_
  refine a_iload_n C (pc := 63) 2 dX9_score_63 rfl rfl ?_
  refine a_if_ne C (pc := 64) 71 dX9_score_64 (by decide) (fun hc => ?_) (fun hc => ?_)
  · have h := h.1 hc
    refine a_iconst C (pc := 71) dX9_score_71 ic_0 ?_
    refine a_lv (lv1 := [(0, .ref h0), (1, .int l1), (4, .int l4)]) [0, 1, 3] rfl ?_
    exact w_X9_score_72 C hkm hnm v_thrown v_taped v_at v_word l1 l4 0 h
  · have h := h.2 hc
    refine a_iconst C (pc := 67) dX9_score_67 ic_1 ?_
    refine a_goto C (pc := 68) 72 dX9_score_68 (by decide) ?_
    refine a_lv (lv1 := [(0, .ref h0), (1, .int l1), (4, .int l4)]) [0, 1, 3] rfl ?_
    exact w_X9_score_72 C hkm hnm v_thrown v_taped v_at v_word l1 l4 1 h
set_option maxRecDepth 100000 in
set_option maxHeartbeats 4000000 in
theorem w_X9_score_61 {Γ : XG} {Lx : Launch} {Dx : va_G} {cs : Nat → ClassId} {h0 : Nat} {d0 : Nat → Nat} {v_documents : Int32} {v_terms : Int32} {v_latest : Int32} {v_filed : Int32} {v_drafted : Int32} {v_place : Int32} {v_over : Int32} {v_clock : Int64} {v_askedTerms : Int32} {v_segments : Int32} {v_done : Int32} {v_postingsDone : Int32} {v_postingsAll : Int32} {v_why : Int32} {v_hits : Int32} {v_tape : Nat → Int32} {v_term : Nat → Int32} {v_often : Nat → Int32} {v_length : Nat → Int32} {Φ : UInt64 → Int32 → Int32 → Int32 → (Nat → Int32) → Prop} {k n9 : Nat} (C : CX Γ Lx Dx cs cX9_score RX9 "score" 5 (some .double) 2 59 0 0 (qEC cs 0 0 [] (R_X9_score cs h0 d0 v_documents v_terms v_latest v_filed v_drafted v_place v_over v_clock v_askedTerms v_segments v_done v_postingsDone v_postingsAll v_why v_hits v_tape v_term v_often v_length Φ) (fun _ _ => False))) (hkm : k ≤ 0) (hnm : n9 ≤ 0) (v_thrown : Int32) (v_taped : Int32) (v_at : Int32) (v_word : Nat → Int32) (l1 : Int32) (l4 : Int32) (s0 : Int32) (h : J_X9_score_61 v_thrown v_taped v_at v_documents v_terms v_tape v_word v_term v_often v_length l1 l4 s0 Φ) : AW Γ k n9 61 [(0, .ref h0), (1, .int l1), (4, .int l4)] [.int s0] [(h0, oX9 d0 v_thrown v_taped v_at v_documents v_terms v_latest v_filed v_drafted v_place v_over v_clock v_askedTerms v_segments v_done v_postingsDone v_postingsAll v_why v_hits), ((d0 1), aI cs 3000 v_tape), ((d0 3), aI cs 8 v_word), ((d0 7), aI cs 512 v_term), ((d0 8), aI cs 2560 v_often), ((d0 9), aI cs 40 v_length)] := by
  unfold J_X9_score_61 at h
  refine a_istore_n C (pc := 61) (lv1 := [(0, .ref h0), (1, .int l1), (3, .int s0), (4, .int l4)]) [1, 2, 0, 3] dX9_score_61 rfl (by decide) rfl ?_
  exact w_X9_score_62 C hkm hnm v_thrown v_taped v_at v_word l1 s0 l4 h
set_option maxRecDepth 100000 in
set_option maxHeartbeats 4000000 in
theorem w_X9_score_42 {Γ : XG} {Lx : Launch} {Dx : va_G} {cs : Nat → ClassId} {h0 : Nat} {d0 : Nat → Nat} {v_documents : Int32} {v_terms : Int32} {v_latest : Int32} {v_filed : Int32} {v_drafted : Int32} {v_place : Int32} {v_over : Int32} {v_clock : Int64} {v_askedTerms : Int32} {v_segments : Int32} {v_done : Int32} {v_postingsDone : Int32} {v_postingsAll : Int32} {v_why : Int32} {v_hits : Int32} {v_tape : Nat → Int32} {v_term : Nat → Int32} {v_often : Nat → Int32} {v_length : Nat → Int32} {Φ : UInt64 → Int32 → Int32 → Int32 → (Nat → Int32) → Prop} {k n9 : Nat} (C : CX Γ Lx Dx cs cX9_score RX9 "score" 5 (some .double) 2 59 0 0 (qEC cs 0 0 [] (R_X9_score cs h0 d0 v_documents v_terms v_latest v_filed v_drafted v_place v_over v_clock v_askedTerms v_segments v_done v_postingsDone v_postingsAll v_why v_hits v_tape v_term v_often v_length Φ) (fun _ _ => False))) (hkm : k ≤ 0) (hnm : n9 ≤ 0) (v_thrown : Int32) (v_taped : Int32) (v_at : Int32) (v_word : Nat → Int32) (l1 : Int32) (l2 : Int32) (l3 : Int32) (s0 : Int32) (h : J_X9_score_42 v_thrown v_taped v_at v_documents v_terms v_tape v_word v_term v_often v_length l1 l2 l3 s0 Φ) : AW Γ k n9 42 [(0, .ref h0), (1, .int l1), (2, .int l2), (3, .int l3)] [.int s0] [(h0, oX9 d0 v_thrown v_taped v_at v_documents v_terms v_latest v_filed v_drafted v_place v_over v_clock v_askedTerms v_segments v_done v_postingsDone v_postingsAll v_why v_hits), ((d0 1), aI cs 3000 v_tape), ((d0 3), aI cs 8 v_word), ((d0 7), aI cs 512 v_term), ((d0 8), aI cs 2560 v_often), ((d0 9), aI cs 40 v_length)] := by
  unfold J_X9_score_42 at h
  refine a_istore C (pc := 42) (lv1 := [(0, .ref h0), (1, .int l1), (2, .int l2), (3, .int l3), (4, .int s0)]) [1, 2, 3, 4, 0] dX9_score_42 (by decide) rfl ?_
  refine a_iload_n C (pc := 44) 3 dX9_score_44 rfl rfl ?_
  refine a_if_eq C (pc := 45) 62 dX9_score_45 (by decide) (fun hc => ?_) (fun hc => ?_)
  · have h := h.1 hc
    refine a_lv (lv1 := [(0, .ref h0), (1, .int l1), (3, .int l3), (4, .int s0)]) [0, 1, 3, 4] rfl ?_
    exact w_X9_score_62 C hkm hnm v_thrown v_taped v_at v_word l1 l3 s0 h
  · have h := h.2 hc
    refine a_aload_n C (pc := 48) 0 dX9_score_48 rfl rfl ?_
    refine a_iload_n C (pc := 49) 2 dX9_score_49 rfl rfl ?_
    refine a_callV C (pc := 50) (av := [.int l2]) (wr := [((d0 7), aI cs 512 v_term), ((d0 8), aI cs 2560 v_often), ((d0 9), aI cs 40 v_length)]) (m_X9_takesWord Lx Dx cs h0 d0 v_thrown v_taped v_at v_documents v_terms v_latest v_filed v_drafted v_place v_over v_clock v_askedTerms v_segments v_done v_postingsDone v_postingsAll v_why v_hits v_tape v_word l2 _ h) [0, 1, 2] [3, 4, 5] rfl rfl (by decide) (by decide) (by decide) wM_X9_123 wb_X9_takesWord hy_X9_takesWord (q0 := 0) rfl rfl rfl ⟨Nat.le_of_ble_eq_true rfl, Nat.le_of_ble_eq_true rfl⟩ (Nat.le_of_ble_eq_true rfl) hkm hnm rfl dX9_score_50 (fun v w1 hw => ?_) [] rfl (fun _ _ h => h.elim)
    obtain ⟨r_10, v_at_11, v_word_12, rfl, rfl, h⟩ := hw
    refine a_ws (st1 := [.int r_10]) (ws1 := [(h0, oX9 d0 v_thrown v_taped v_at_11 v_documents v_terms v_latest v_filed v_drafted v_place v_over v_clock v_askedTerms v_segments v_done v_postingsDone v_postingsAll v_why v_hits), ((d0 1), aI cs 3000 v_tape), ((d0 3), aI cs 8 v_word_12), ((d0 7), aI cs 512 v_term), ((d0 8), aI cs 2560 v_often), ((d0 9), aI cs 40 v_length)]) k n9 53 [3, 4, 5, 0, 1, 2] rfl rfl rfl rfl (by decide) rfl ?_
    refine a_if_ne C (pc := 53) 60 dX9_score_53 (by decide) (fun hc => ?_) (fun hc => ?_)
    · have h := h.1 hc
      refine a_iconst C (pc := 60) dX9_score_60 ic_0 ?_
      refine a_lv (lv1 := [(0, .ref h0), (1, .int l1), (4, .int s0)]) [0, 1, 4] rfl ?_
      exact w_X9_score_61 C hkm hnm v_thrown v_taped v_at_11 v_word_12 l1 s0 0 h
    · have h := h.2 hc
      refine a_iconst C (pc := 56) dX9_score_56 ic_1 ?_
      refine a_goto C (pc := 57) 61 dX9_score_57 (by decide) ?_
      refine a_lv (lv1 := [(0, .ref h0), (1, .int l1), (4, .int s0)]) [0, 1, 4] rfl ?_
      exact w_X9_score_61 C hkm hnm v_thrown v_taped v_at_11 v_word_12 l1 s0 1 h
set_option maxRecDepth 100000 in
set_option maxHeartbeats 4000000 in
theorem m_X9_score (Lx : Launch) (Dx : va_G) (cs : Nat → ClassId) (h0 : Nat) (d0 : Nat → Nat) (v_thrown : Int32) (v_taped : Int32) (v_at : Int32) (v_documents : Int32) (v_terms : Int32) (v_latest : Int32) (v_filed : Int32) (v_drafted : Int32) (v_place : Int32) (v_over : Int32) (v_clock : Int64) (v_askedTerms : Int32) (v_segments : Int32) (v_done : Int32) (v_postingsDone : Int32) (v_postingsAll : Int32) (v_why : Int32) (v_hits : Int32) (v_tape : Nat → Int32) (v_word : Nat → Int32) (v_term : Nat → Int32) (v_often : Nat → Int32) (v_length : Nat → Int32) (l1 : Int32) (Φ : UInt64 → Int32 → Int32 → Int32 → (Nat → Int32) → Prop) (h : P_X9_score v_thrown v_taped v_at v_documents v_terms v_tape v_word v_term v_often v_length l1 Φ) : XMet Lx Dx cs yX9_score cX9_score 5 (some .double) 2 59 0 0 [.ref h0, .int l1] [(h0, oX9 d0 v_thrown v_taped v_at v_documents v_terms v_latest v_filed v_drafted v_place v_over v_clock v_askedTerms v_segments v_done v_postingsDone v_postingsAll v_why v_hits), ((d0 1), aI cs 3000 v_tape), ((d0 3), aI cs 8 v_word), ((d0 7), aI cs 512 v_term), ((d0 8), aI cs 2560 v_often), ((d0 9), aI cs 40 v_length)] (R_X9_score cs h0 d0 v_documents v_terms v_latest v_filed v_drafted v_place v_over v_clock v_askedTerms v_segments v_done v_postingsDone v_postingsAll v_why v_hits v_tape v_term v_often v_length Φ) (fun _ _ => False) := by
  refine XMet.of (own := RX9) (nm := "score") (by decide) rfl rfl (Nat.le_of_ble_eq_true rfl) (fun Γ C => ?_)
  unfold P_X9_score at h
  refine a_aload_n C (pc := 0) 0 dX9_score_0 rfl rfl ?_
  refine a_get C (pc := 1) 0 2 inW_X9 rfl rfl (Nat.le_of_ble_eq_true rfl) wF_X9_97 rfl rfl dX9_score_1 ?_
  refine a_istore_n C (pc := 4) (lv1 := [(0, .ref h0), (1, .int l1), (2, .int v_taped)]) [1, 2, 0] dX9_score_4 rfl (by decide) rfl ?_
  refine a_aload_n C (pc := 5) 0 dX9_score_5 rfl rfl ?_
  refine a_iconst C (pc := 6) dX9_score_6 ic_0 ?_
  refine a_put C (pc := 7) (ws1 := [(h0, oX9 d0 v_thrown 0 v_at v_documents v_terms v_latest v_filed v_drafted v_place v_over v_clock v_askedTerms v_segments v_done v_postingsDone v_postingsAll v_why v_hits), ((d0 1), aI cs 3000 v_tape), ((d0 3), aI cs 8 v_word), ((d0 7), aI cs 512 v_term), ((d0 8), aI cs 2560 v_often), ((d0 9), aI cs 40 v_length)]) 0 2 inW_X9 tyX9 tyX9_ok nmX9 rfl rfl (Nat.le_of_ble_eq_true rfl) wF_X9_97 rfl rfl rfl rfl rfl (Nat.le_of_ble_eq_true rfl) dX9_score_7 rfl ?_
  refine a_aload_n C (pc := 10) 0 dX9_score_10 rfl rfl ?_
  refine a_iconst C (pc := 11) dX9_score_11 ic_0 ?_
  refine a_put C (pc := 12) (ws1 := [(h0, oX9 d0 v_thrown 0 0 v_documents v_terms v_latest v_filed v_drafted v_place v_over v_clock v_askedTerms v_segments v_done v_postingsDone v_postingsAll v_why v_hits), ((d0 1), aI cs 3000 v_tape), ((d0 3), aI cs 8 v_word), ((d0 7), aI cs 512 v_term), ((d0 8), aI cs 2560 v_often), ((d0 9), aI cs 40 v_length)]) 0 4 inW_X9 tyX9 tyX9_ok nmX9 rfl rfl (Nat.le_of_ble_eq_true rfl) wF_X9_102 rfl rfl rfl rfl rfl (Nat.le_of_ble_eq_true rfl) dX9_score_12 rfl ?_
  refine a_aload_n C (pc := 15) 0 dX9_score_15 rfl rfl ?_
  refine a_iload_n C (pc := 16) 2 dX9_score_16 rfl rfl ?_
  refine a_callV C (pc := 17) (av := [.int v_taped]) (wr := [((d0 7), aI cs 512 v_term), ((d0 8), aI cs 2560 v_often), ((d0 9), aI cs 40 v_length)]) (m_X9_takesWord Lx Dx cs h0 d0 v_thrown 0 0 v_documents v_terms v_latest v_filed v_drafted v_place v_over v_clock v_askedTerms v_segments v_done v_postingsDone v_postingsAll v_why v_hits v_tape v_word v_taped _ h) [0, 1, 2] [3, 4, 5] rfl rfl (by decide) (by decide) (by decide) wM_X9_123 wb_X9_takesWord hy_X9_takesWord (q0 := 0) rfl rfl rfl ⟨Nat.le_of_ble_eq_true rfl, Nat.le_of_ble_eq_true rfl⟩ (Nat.le_of_ble_eq_true rfl) (Nat.le_of_ble_eq_true rfl) (Nat.le_of_ble_eq_true rfl) rfl dX9_score_17 (fun v w1 hw => ?_) [] rfl (fun _ _ h => h.elim)
  obtain ⟨r_1, v_at_2, v_word_3, rfl, rfl, h⟩ := hw
  refine a_ws (st1 := [.int r_1]) (ws1 := [(h0, oX9 d0 v_thrown 0 v_at_2 v_documents v_terms v_latest v_filed v_drafted v_place v_over v_clock v_askedTerms v_segments v_done v_postingsDone v_postingsAll v_why v_hits), ((d0 1), aI cs 3000 v_tape), ((d0 3), aI cs 8 v_word_3), ((d0 7), aI cs 512 v_term), ((d0 8), aI cs 2560 v_often), ((d0 9), aI cs 40 v_length)]) 0 0 20 [3, 4, 5, 0, 1, 2] rfl rfl rfl rfl (by decide) rfl ?_
  refine a_istore_n C (pc := 20) (lv1 := [(0, .ref h0), (1, .int l1), (2, .int v_taped), (3, .int r_1)]) [1, 2, 3, 0] dX9_score_20 rfl (by decide) rfl ?_
  refine a_iload_n C (pc := 21) 3 dX9_score_21 rfl rfl ?_
  refine a_if_eq C (pc := 22) 41 dX9_score_22 (by decide) (fun hc => ?_) (fun hc => ?_)
  · have h := h.1 hc
    refine a_iconst C (pc := 41) dX9_score_41 ic_m1 ?_
    exact w_X9_score_42 C (Nat.le_of_ble_eq_true rfl) (Nat.le_of_ble_eq_true rfl) v_thrown 0 v_at_2 v_word_3 l1 v_taped r_1 (-1) h
  · have h := h.2 hc
    refine a_aload_n C (pc := 25) 0 dX9_score_25 rfl rfl ?_
    refine a_aload_n C (pc := 26) 0 dX9_score_26 rfl rfl ?_
    refine a_get C (pc := 27) 0 7 inW_X9 rfl rfl (Nat.le_of_ble_eq_true rfl) wF_X9_16 rfl rfl dX9_score_27 ?_
    refine a_iconst C (pc := 30) dX9_score_30 ic_0 ?_
    refine a_aload_n C (pc := 31) 0 dX9_score_31 rfl rfl ?_
    refine a_get C (pc := 32) 0 6 inW_X9 rfl rfl (Nat.le_of_ble_eq_true rfl) wF_X9_113 rfl rfl dX9_score_32 ?_
    refine a_callV C (pc := 35) (av := [.ref (d0 7), .int 0, .int v_terms]) (wr := [((d0 1), aI cs 3000 v_tape), ((d0 8), aI cs 2560 v_often), ((d0 9), aI cs 40 v_length)]) (m_X9_finds Lx Dx cs 512 h0 (d0 7) d0 v_thrown 0 v_at_2 v_documents v_terms v_latest v_filed v_drafted v_place v_over v_clock v_askedTerms v_segments v_done v_postingsDone v_postingsAll v_why v_hits v_word_3 v_term 0 v_terms _ h) [0, 2, 3] [1, 4, 5] rfl rfl (by decide) (by decide) (by decide) wM_X9_127 wb_X9_finds hy_X9_finds (q0 := 0) rfl rfl rfl ⟨Nat.le_of_ble_eq_true rfl, Nat.le_of_ble_eq_true rfl⟩ (Nat.le_of_ble_eq_true rfl) (Nat.le_of_ble_eq_true rfl) (Nat.le_of_ble_eq_true rfl) rfl dX9_score_35 (fun v w1 hw => ?_) [] rfl (fun _ _ h => h.elim)
    obtain ⟨r_13, rfl, rfl, h⟩ := hw
    refine a_ws (st1 := [.int r_13]) (ws1 := [(h0, oX9 d0 v_thrown 0 v_at_2 v_documents v_terms v_latest v_filed v_drafted v_place v_over v_clock v_askedTerms v_segments v_done v_postingsDone v_postingsAll v_why v_hits), ((d0 1), aI cs 3000 v_tape), ((d0 3), aI cs 8 v_word_3), ((d0 7), aI cs 512 v_term), ((d0 8), aI cs 2560 v_often), ((d0 9), aI cs 40 v_length)]) 0 0 38 [3, 0, 4, 5, 1, 2] rfl rfl rfl rfl (by decide) rfl ?_
    refine a_goto C (pc := 38) 42 dX9_score_38 (by decide) ?_
    exact w_X9_score_42 C (Nat.le_of_ble_eq_true rfl) (Nat.le_of_ble_eq_true rfl) v_thrown 0 v_at_2 v_word_3 l1 v_taped r_1 r_13 h
set_option maxRecDepth 100000 in
set_option maxHeartbeats 4000000 in
theorem m_X9_cell (Lx : Launch) (Dx : va_G) (cs : Nat → ClassId) (h0 : Nat) (l1 : Int32) (l2 : Int32) (l3 : Int32) (Φ : Int32 → Prop) (h : P_X9_cell l1 l2 l3 Φ) : XMet Lx Dx cs yX9_cell cX9_cell 4 (some .int) 0 0 0 0 [.ref h0, .int l1, .int l2, .int l3] [] (R_X9_cell cs h0 Φ) (fun _ _ => False) := by
  refine XMet.of (own := RX9) (nm := "cell") (by decide) rfl rfl (Nat.le_of_ble_eq_true rfl) (fun Γ C => ?_)
  unfold P_X9_cell at h
  refine a_sipush C (pc := 0) dX9_cell_0 sp_2560 ?_
  refine a_iload_n C (pc := 3) 1 dX9_cell_3 rfl rfl ?_
  refine a_imul C (pc := 4) dX9_cell_4 ?_
  refine a_bipush C (pc := 5) dX9_cell_5 bp_40 ?_
  refine a_iload_n C (pc := 7) 2 dX9_cell_7 rfl rfl ?_
  refine a_imul C (pc := 8) dX9_cell_8 ?_
  refine a_iadd C (pc := 9) dX9_cell_9 ?_
  refine a_iload_n C (pc := 10) 3 dX9_cell_10 rfl rfl ?_
  refine a_iadd C (pc := 11) dX9_cell_11 ?_
  exact a_ireturn C (pc := 12) rfl dX9_cell_12 (Nat.le_of_ble_eq_true rfl) (Nat.le_of_ble_eq_true rfl) ⟨_, rfl, rfl, h⟩
set_option maxRecDepth 100000 in
set_option maxHeartbeats 4000000 in
theorem w_X9_rank_4 {Γ : XG} {Lx : Launch} {Dx : va_G} {cs : Nat → ClassId} {h0 : Nat} {d0 : Nat → Nat} {v_thrown : Int32} {v_taped : Int32} {v_at : Int32} {v_documents : Int32} {v_terms : Int32} {v_latest : Int32} {v_filed : Int32} {v_drafted : Int32} {v_place : Int32} {v_over : Int32} {v_clock : Int64} {v_askedTerms : Int32} {v_segments : Int32} {v_done : Int32} {v_postingsDone : Int32} {v_postingsAll : Int32} {v_why : Int32} {v_hits : Int32} {v_term : Nat → Int32} {K_33 : (Nat → Int32) → Int32 → Prop} {Φ : Int32 → (Nat → Int32) → Prop} {k n9 : Nat} (C : CX Γ Lx Dx cs cX9_rank RX9 "rank" 4 (some .int) 1 23 0 0 (qEC cs 0 0 [] (R_X9_rank cs h0 d0 v_thrown v_taped v_at v_documents v_terms v_latest v_filed v_drafted v_place v_over v_clock v_askedTerms v_segments v_done v_postingsDone v_postingsAll v_why v_hits v_term Φ) (fun _ _ => False))) (hkm : k ≤ 0) (hnm : n9 ≤ 0) : ∀ n : Nat, ∀ (v_word : Nat → Int32) (l1 : Int32) (l2 : Int32) (l3 : Int32), L_X9_rank_4 n v_terms v_term v_word l1 l2 l3 K_33 Φ → (∀ (v_word_1 : Nat → Int32) (l2_2 : Int32), K_33 v_word_1 l2_2 → AW Γ k n9 33 [(0, .ref h0), (2, .int l2_2)] [] [(h0, oX9 d0 v_thrown v_taped v_at v_documents v_terms v_latest v_filed v_drafted v_place v_over v_clock v_askedTerms v_segments v_done v_postingsDone v_postingsAll v_why v_hits), ((d0 7), aI cs 512 v_term), ((d0 3), aI cs 8 v_word_1)]) → AW Γ k n9 4 [(0, .ref h0), (1, .int l1), (2, .int l2), (3, .int l3)] [] [(h0, oX9 d0 v_thrown v_taped v_at v_documents v_terms v_latest v_filed v_drafted v_place v_over v_clock v_askedTerms v_segments v_done v_postingsDone v_postingsAll v_why v_hits), ((d0 7), aI cs 512 v_term), ((d0 3), aI cs 8 v_word)] := by
  intro n
  induction n with
  | zero =>
    intro v_word l1 l2 l3 h
    exact False.elim h
  | succ n ih =>
    intro v_word l1 l2 l3 h hK_33
    rw [L_X9_rank_4] at h
    refine a_iload_n C (pc := 4) 3 dX9_rank_4 rfl rfl ?_
    refine a_bipush C (pc := 5) dX9_rank_5 bp_8 ?_
    refine a_icmp_ge C (pc := 7) 33 dX9_rank_7 (by decide) (fun hc => ?_) (fun hc => ?_)
    · have h := h.1 hc
      refine a_lv (lv1 := [(0, .ref h0), (2, .int l2)]) [0, 2] rfl ?_
      exact hK_33 v_word l2 h
    · have h := h.2 hc
      refine a_aload_n C (pc := 10) 0 dX9_rank_10 rfl rfl ?_
      refine a_get C (pc := 11) 0 3 inW_X9 rfl rfl (Nat.le_of_ble_eq_true rfl) wF_X9_13 rfl rfl dX9_rank_11 ?_
      refine a_iload_n C (pc := 14) 3 dX9_rank_14 rfl rfl ?_
      refine a_aload_n C (pc := 15) 0 dX9_rank_15 rfl rfl ?_
      refine a_get C (pc := 16) 0 7 inW_X9 rfl rfl (Nat.le_of_ble_eq_true rfl) wF_X9_16 rfl rfl dX9_rank_16 ?_
      refine a_bipush C (pc := 19) dX9_rank_19 bp_8 ?_
      refine a_iload_n C (pc := 21) 1 dX9_rank_21 rfl rfl ?_
      refine a_imul C (pc := 22) dX9_rank_22 ?_
      refine a_iload_n C (pc := 23) 3 dX9_rank_23 rfl rfl ?_
      refine a_iadd C (pc := 24) dX9_rank_24 ?_
      refine a_iald C (pc := 25) 1 rfl h.1 dX9_rank_25 ?_
      replace h := h.2
      refine a_iast C (pc := 26) (ws1 := [(h0, oX9 d0 v_thrown v_taped v_at v_documents v_terms v_latest v_filed v_drafted v_place v_over v_clock v_askedTerms v_segments v_done v_postingsDone v_postingsAll v_why v_hits), ((d0 7), aI cs 512 v_term), ((d0 3), aI cs 8 (upd v_word (l3 : Int32).toNatClampNeg (v_term ((8 * l1) + l3 : Int32).toNatClampNeg)))]) 2 rfl h.1 dX9_rank_26 rfl ?_
      replace h := h.2
      refine a_iinc C (pc := 27) (lv1 := [(0, .ref h0), (1, .int l1), (2, .int l2), (3, .int (l3 + 1))]) 3 [1, 2, 3, 0] dX9_rank_27 rfl (congrArg (fun z => l3 + z) ic_1) (by decide) rfl ?_
      refine a_goto C (pc := 30) 4 dX9_rank_30 (by decide) ?_
      exact ih (upd v_word (l3 : Int32).toNatClampNeg (v_term ((8 * l1) + l3 : Int32).toNatClampNeg)) l1 l2 (l3 + 1) h hK_33
set_option maxRecDepth 100000 in
set_option maxHeartbeats 4000000 in
theorem w_X9_rank_35 {Γ : XG} {Lx : Launch} {Dx : va_G} {cs : Nat → ClassId} {h0 : Nat} {d0 : Nat → Nat} {v_thrown : Int32} {v_taped : Int32} {v_at : Int32} {v_documents : Int32} {v_terms : Int32} {v_latest : Int32} {v_filed : Int32} {v_drafted : Int32} {v_place : Int32} {v_over : Int32} {v_clock : Int64} {v_askedTerms : Int32} {v_segments : Int32} {v_done : Int32} {v_postingsDone : Int32} {v_postingsAll : Int32} {v_why : Int32} {v_hits : Int32} {v_term : Nat → Int32} {K_72 : (Nat → Int32) → Int32 → Prop} {Φ : Int32 → (Nat → Int32) → Prop} {k n9 : Nat} (C : CX Γ Lx Dx cs cX9_rank RX9 "rank" 4 (some .int) 1 23 0 0 (qEC cs 0 0 [] (R_X9_rank cs h0 d0 v_thrown v_taped v_at v_documents v_terms v_latest v_filed v_drafted v_place v_over v_clock v_askedTerms v_segments v_done v_postingsDone v_postingsAll v_why v_hits v_term Φ) (fun _ _ => False))) (hkm : k ≤ 0) (hnm : n9 ≤ 0) : ∀ n : Nat, ∀ (v_word : Nat → Int32) (l2 : Int32) (l3 : Int32), L_X9_rank_35 n v_terms v_term v_word l2 l3 K_72 Φ → (∀ (v_word_6 : Nat → Int32) (l2_7 : Int32), K_72 v_word_6 l2_7 → AW Γ k n9 72 [(2, .int l2_7)] [] [(h0, oX9 d0 v_thrown v_taped v_at v_documents v_terms v_latest v_filed v_drafted v_place v_over v_clock v_askedTerms v_segments v_done v_postingsDone v_postingsAll v_why v_hits), ((d0 7), aI cs 512 v_term), ((d0 3), aI cs 8 v_word_6)]) → AW Γ k n9 35 [(0, .ref h0), (2, .int l2), (3, .int l3)] [] [(h0, oX9 d0 v_thrown v_taped v_at v_documents v_terms v_latest v_filed v_drafted v_place v_over v_clock v_askedTerms v_segments v_done v_postingsDone v_postingsAll v_why v_hits), ((d0 7), aI cs 512 v_term), ((d0 3), aI cs 8 v_word)] := by
  intro n
  induction n with
  | zero =>
    intro v_word l2 l3 h
    exact False.elim h
  | succ n ih =>
    intro v_word l2 l3 h hK_72
    rw [L_X9_rank_35] at h
    refine a_iload_n C (pc := 35) 2 dX9_rank_35 rfl rfl ?_
    refine a_aload_n C (pc := 36) 0 dX9_rank_36 rfl rfl ?_
    refine a_get C (pc := 37) 0 6 inW_X9 rfl rfl (Nat.le_of_ble_eq_true rfl) wF_X9_113 rfl rfl dX9_rank_37 ?_
    refine a_icmp_ge C (pc := 40) 72 dX9_rank_40 (by decide) (fun hc => ?_) (fun hc => ?_)
    · have h := h.1 hc
      refine a_lv (lv1 := [(2, .int l2)]) [1] rfl ?_
      exact hK_72 v_word l2 h
    · have h := h.2 hc
      refine a_iload_n C (pc := 43) 1 dX9_rank_43 rfl rfl ?_
      refine a_aload_n C (pc := 44) 0 dX9_rank_44 rfl rfl ?_
      refine a_aload_n C (pc := 45) 0 dX9_rank_45 rfl rfl ?_
      refine a_get C (pc := 46) 0 7 inW_X9 rfl rfl (Nat.le_of_ble_eq_true rfl) wF_X9_16 rfl rfl dX9_rank_46 ?_
      refine a_bipush C (pc := 49) dX9_rank_49 bp_8 ?_
      refine a_iload_n C (pc := 51) 2 dX9_rank_51 rfl rfl ?_
      refine a_imul C (pc := 52) dX9_rank_52 ?_
      refine a_callV C (pc := 53) (av := [.ref (d0 7), .int (8 * l3)]) (wr := []) (m_X9_compared Lx Dx cs 512 h0 (d0 7) d0 v_thrown v_taped v_at v_documents v_terms v_latest v_filed v_drafted v_place v_over v_clock v_askedTerms v_segments v_done v_postingsDone v_postingsAll v_why v_hits v_word v_term (8 * l3) _ h) [0, 2, 1] [] rfl rfl (by decide) (by decide) (by decide) wM_X9_109 wb_X9_compared hy_X9_compared (q0 := 0) rfl rfl rfl ⟨Nat.le_of_ble_eq_true rfl, Nat.le_of_ble_eq_true rfl⟩ (Nat.le_of_ble_eq_true rfl) hkm hnm rfl dX9_rank_53 (fun v w1 hw => ?_) [] rfl (fun _ _ h => h.elim)
      obtain ⟨r_5, rfl, rfl, h⟩ := hw
      refine a_ws (st1 := [.int r_5, .int l2]) (ws1 := [(h0, oX9 d0 v_thrown v_taped v_at v_documents v_terms v_latest v_filed v_drafted v_place v_over v_clock v_askedTerms v_segments v_done v_postingsDone v_postingsAll v_why v_hits), ((d0 7), aI cs 512 v_term), ((d0 3), aI cs 8 v_word)]) k n9 56 [0, 2, 1] rfl rfl rfl rfl (by decide) rfl ?_
      refine a_if_le C (pc := 56) 63 dX9_rank_56 (by decide) (fun hc => ?_) (fun hc => ?_)
      · have h := h.1 hc
        refine a_iconst C (pc := 63) dX9_rank_63 ic_0 ?_
        refine a_iadd C (pc := 64) dX9_rank_64 ?_
        refine a_istore_n C (pc := 65) (lv1 := [(0, .ref h0), (2, .int (l2 + 0)), (3, .int l3)]) [1, 0, 2] dX9_rank_65 rfl (by decide) rfl ?_
        refine a_iinc C (pc := 66) (lv1 := [(0, .ref h0), (2, .int (l2 + 0)), (3, .int (l3 + 1))]) 2 [1, 2, 0] dX9_rank_66 rfl (congrArg (fun z => l3 + z) ic_1) (by decide) rfl ?_
        refine a_goto C (pc := 69) 35 dX9_rank_69 (by decide) ?_
        exact ih v_word (l2 + 0) (l3 + 1) h hK_72
      · have h := h.2 hc
        refine a_iconst C (pc := 59) dX9_rank_59 ic_1 ?_
        refine a_goto C (pc := 60) 64 dX9_rank_60 (by decide) ?_
        refine a_iadd C (pc := 64) dX9_rank_64 ?_
        refine a_istore_n C (pc := 65) (lv1 := [(0, .ref h0), (2, .int (l2 + 1)), (3, .int l3)]) [1, 0, 2] dX9_rank_65 rfl (by decide) rfl ?_
        refine a_iinc C (pc := 66) (lv1 := [(0, .ref h0), (2, .int (l2 + 1)), (3, .int (l3 + 1))]) 2 [1, 2, 0] dX9_rank_66 rfl (congrArg (fun z => l3 + z) ic_1) (by decide) rfl ?_
        refine a_goto C (pc := 69) 35 dX9_rank_69 (by decide) ?_
        exact ih v_word (l2 + 1) (l3 + 1) h hK_72
set_option maxRecDepth 100000 in
set_option maxHeartbeats 4000000 in
theorem m_X9_rank (Lx : Launch) (Dx : va_G) (cs : Nat → ClassId) (h0 : Nat) (d0 : Nat → Nat) (v_thrown : Int32) (v_taped : Int32) (v_at : Int32) (v_documents : Int32) (v_terms : Int32) (v_latest : Int32) (v_filed : Int32) (v_drafted : Int32) (v_place : Int32) (v_over : Int32) (v_clock : Int64) (v_askedTerms : Int32) (v_segments : Int32) (v_done : Int32) (v_postingsDone : Int32) (v_postingsAll : Int32) (v_why : Int32) (v_hits : Int32) (v_term : Nat → Int32) (v_word : Nat → Int32) (l1 : Int32) (Φ : Int32 → (Nat → Int32) → Prop) (h : P_X9_rank v_terms v_term v_word l1 Φ) : XMet Lx Dx cs yX9_rank cX9_rank 4 (some .int) 1 23 0 0 [.ref h0, .int l1] [(h0, oX9 d0 v_thrown v_taped v_at v_documents v_terms v_latest v_filed v_drafted v_place v_over v_clock v_askedTerms v_segments v_done v_postingsDone v_postingsAll v_why v_hits), ((d0 7), aI cs 512 v_term), ((d0 3), aI cs 8 v_word)] (R_X9_rank cs h0 d0 v_thrown v_taped v_at v_documents v_terms v_latest v_filed v_drafted v_place v_over v_clock v_askedTerms v_segments v_done v_postingsDone v_postingsAll v_why v_hits v_term Φ) (fun _ _ => False) := by
  refine XMet.of (own := RX9) (nm := "rank") (by decide) rfl rfl (Nat.le_of_ble_eq_true rfl) (fun Γ C => ?_)
  unfold P_X9_rank at h
  refine a_iconst C (pc := 0) dX9_rank_0 ic_0 ?_
  refine a_istore_n C (pc := 1) (lv1 := [(0, .ref h0), (1, .int l1), (2, .int 0)]) [1, 2, 0] dX9_rank_1 rfl (by decide) rfl ?_
  refine a_iconst C (pc := 2) dX9_rank_2 ic_0 ?_
  refine a_istore_n C (pc := 3) (lv1 := [(0, .ref h0), (1, .int l1), (2, .int 0), (3, .int 0)]) [1, 2, 3, 0] dX9_rank_3 rfl (by decide) rfl ?_
  obtain ⟨n0, h⟩ := h
  refine w_X9_rank_4 C (Nat.le_of_ble_eq_true rfl) (Nat.le_of_ble_eq_true rfl) n0 v_word l1 0 0 h ?_
  intro v_word_3 l2_4 h
  refine a_iconst C (pc := 33) dX9_rank_33 ic_0 ?_
  refine a_istore_n C (pc := 34) (lv1 := [(0, .ref h0), (2, .int l2_4), (3, .int 0)]) [1, 2, 0] dX9_rank_34 rfl (by decide) rfl ?_
  obtain ⟨n0, h⟩ := h
  refine w_X9_rank_35 C (Nat.le_of_ble_eq_true rfl) (Nat.le_of_ble_eq_true rfl) n0 v_word_3 l2_4 0 h ?_
  intro v_word_8 l2_9 h
  refine a_iload_n C (pc := 72) 0 dX9_rank_72 rfl rfl ?_
  exact a_ireturn C (pc := 73) rfl dX9_rank_73 (Nat.le_of_ble_eq_true rfl) (Nat.le_of_ble_eq_true rfl) ⟨_, _, rfl, rfl, h⟩
set_option maxRecDepth 100000 in
set_option maxHeartbeats 4000000 in
theorem w_X9_makes_121 {Γ : XG} {Lx : Launch} {Dx : va_G} {cs : Nat → ClassId} {h0 : Nat} {d0 : Nat → Nat} {v_thrown : Int32} {v_taped : Int32} {v_at : Int32} {v_documents : Int32} {v_terms : Int32} {v_latest : Int32} {v_filed : Int32} {v_drafted : Int32} {v_place : Int32} {v_over : Int32} {v_clock : Int64} {v_askedTerms : Int32} {v_segments : Int32} {v_done : Int32} {v_postingsDone : Int32} {v_postingsAll : Int32} {v_why : Int32} {v_hits : Int32} {v_often : Nat → Int32} {v_length : Nat → Int32} {v_term : Nat → Int32} {B_48 : (Nat → Int32) → (Nat → Int32) → (Nat → Int32) → (Nat → Int32) → (Nat → Int32) → (Nat → Int32) → (Nat → Int32) → Int32 → Int32 → UInt64 → UInt64 → Int32 → Int32 → Prop} {K_154 : (Nat → Int32) → (Nat → Int32) → (Nat → Int32) → (Nat → Int32) → (Nat → Int32) → (Nat → Int32) → (Nat → Int32) → Int32 → Int32 → UInt64 → UInt64 → Prop} {Φ : (Nat → Int32) → (Nat → Int32) → (Nat → Int32) → (Nat → Int32) → (Nat → Int32) → (Nat → Int32) → (Nat → Int32) → Prop} {k n9 : Nat} (C : CX Γ Lx Dx cs cX9_makes RX9 "makes" 16 none 2 59 0 0 (qEC cs 0 0 [] (R_X9_makes cs h0 d0 v_thrown v_taped v_at v_documents v_terms v_latest v_filed v_drafted v_place v_over v_clock v_askedTerms v_segments v_done v_postingsDone v_postingsAll v_why v_hits v_often v_length v_term Φ) (fun _ _ => False))) (hkm : k ≤ 0) (hnm : n9 ≤ 0) (v_bits : Nat → Int32) (v_codec : Nat → Int32) (v_size : Nat → Int32) (v_words : Nat → Int32) (v_word : Nat → Int32) (v_letter : Nat → Int32) (v_impact : Nat → Int32) (l1 : Int32) (l3 : Int32) (l6 : UInt64) (l8 : Int32) (l9 : Int32) (l10 : UInt64) (s0 : UInt64) (h : J_X9_makes_121 v_documents v_terms v_bits v_codec v_size v_words v_often v_length v_term v_word v_letter v_impact l1 l3 l6 l8 l9 l10 s0 B_48 K_154 Φ) (hB_48 : ∀ (v_bits_2 : Nat → Int32) (v_codec_3 : Nat → Int32) (v_size_4 : Nat → Int32) (v_words_5 : Nat → Int32) (v_word_6 : Nat → Int32) (v_letter_7 : Nat → Int32) (v_impact_8 : Nat → Int32) (l1_9 : Int32) (l3_10 : Int32) (l4_11 : UInt64) (l6_12 : UInt64) (l8_13 : Int32) (l9_14 : Int32), B_48 v_bits_2 v_codec_3 v_size_4 v_words_5 v_word_6 v_letter_7 v_impact_8 l1_9 l3_10 l4_11 l6_12 l8_13 l9_14 → AW Γ k n9 48 [(0, .ref h0), (1, .int l1_9), (3, .int l3_10), (4, .double l4_11), (6, .double l6_12), (8, .int l8_13), (9, .int l9_14)] [] [(h0, oX9 d0 v_thrown v_taped v_at v_documents v_terms v_latest v_filed v_drafted v_place v_over v_clock v_askedTerms v_segments v_done v_postingsDone v_postingsAll v_why v_hits), ((d0 11), aI cs 5 v_bits_2), ((d0 12), aI cs 5 v_codec_3), ((d0 13), aI cs 5 v_size_4), ((d0 14), aI cs 5 v_words_5), ((d0 8), aI cs 2560 v_often), ((d0 9), aI cs 40 v_length), ((d0 7), aI cs 512 v_term), ((d0 3), aI cs 8 v_word_6), ((d0 15), aI cs 2560 v_letter_7), ((d0 16), aI cs 12800 v_impact_8)]) (hK_154 : ∀ (v_bits_15 : Nat → Int32) (v_codec_16 : Nat → Int32) (v_size_17 : Nat → Int32) (v_words_18 : Nat → Int32) (v_word_19 : Nat → Int32) (v_letter_20 : Nat → Int32) (v_impact_21 : Nat → Int32) (l1_22 : Int32) (l3_23 : Int32) (l4_24 : UInt64) (l6_25 : UInt64), K_154 v_bits_15 v_codec_16 v_size_17 v_words_18 v_word_19 v_letter_20 v_impact_21 l1_22 l3_23 l4_24 l6_25 → AW Γ k n9 154 [(0, .ref h0), (1, .int l1_22), (3, .int l3_23), (4, .double l4_24), (6, .double l6_25)] [] [(h0, oX9 d0 v_thrown v_taped v_at v_documents v_terms v_latest v_filed v_drafted v_place v_over v_clock v_askedTerms v_segments v_done v_postingsDone v_postingsAll v_why v_hits), ((d0 11), aI cs 5 v_bits_15), ((d0 12), aI cs 5 v_codec_16), ((d0 13), aI cs 5 v_size_17), ((d0 14), aI cs 5 v_words_18), ((d0 8), aI cs 2560 v_often), ((d0 9), aI cs 40 v_length), ((d0 7), aI cs 512 v_term), ((d0 3), aI cs 8 v_word_19), ((d0 15), aI cs 2560 v_letter_20), ((d0 16), aI cs 12800 v_impact_21)]) : AW Γ k n9 121 [(0, .ref h0), (1, .int l1), (3, .int l3), (6, .double l6), (8, .int l8), (9, .int l9), (10, .double l10)] [.double s0] [(h0, oX9 d0 v_thrown v_taped v_at v_documents v_terms v_latest v_filed v_drafted v_place v_over v_clock v_askedTerms v_segments v_done v_postingsDone v_postingsAll v_why v_hits), ((d0 11), aI cs 5 v_bits), ((d0 12), aI cs 5 v_codec), ((d0 13), aI cs 5 v_size), ((d0 14), aI cs 5 v_words), ((d0 8), aI cs 2560 v_often), ((d0 9), aI cs 40 v_length), ((d0 7), aI cs 512 v_term), ((d0 3), aI cs 8 v_word), ((d0 15), aI cs 2560 v_letter), ((d0 16), aI cs 12800 v_impact)] := by
  unfold J_X9_makes_121 at h
  refine a_dstore C (pc := 121) (lv1 := [(0, .ref h0), (1, .int l1), (3, .int l3), (4, .double s0), (6, .double l6), (8, .int l8), (9, .int l9), (10, .double l10)]) [1, 2, 3, 0, 4, 5, 6, 7] dX9_makes_121 (by decide) rfl ?_
  refine a_iload C (pc := 123) 5 dX9_makes_123 rfl ?_
  refine a_if_eq C (pc := 125) 136 dX9_makes_125 (by decide) (fun hc => ?_) (fun hc => ?_)
  · have h := h.1 hc
    refine a_dload C (pc := 136) 7 dX9_makes_136 rfl ?_
    refine a_goto C (pc := 138) 143 dX9_makes_138 (by decide) ?_
    refine a_dstore C (pc := 143) (lv1 := [(0, .ref h0), (1, .int l1), (3, .int l3), (4, .double s0), (6, .double l10), (8, .int l8), (9, .int l9), (10, .double l10)]) [1, 2, 3, 4, 0, 5, 6, 7] dX9_makes_143 (by decide) rfl ?_
    refine a_iconst C (pc := 145) dX9_makes_145 ic_1 ?_
    refine a_istore C (pc := 146) (lv1 := [(0, .ref h0), (1, .int l1), (3, .int l3), (4, .double s0), (6, .double l10), (8, .int 1), (9, .int l9), (10, .double l10)]) [1, 2, 3, 4, 5, 0, 6, 7] dX9_makes_146 (by decide) rfl ?_
    refine a_iinc C (pc := 148) (lv1 := [(0, .ref h0), (1, .int l1), (3, .int l3), (4, .double s0), (6, .double l10), (8, .int 1), (9, .int (l9 + 1)), (10, .double l10)]) 6 [1, 2, 3, 4, 5, 6, 0, 7] dX9_makes_148 rfl (congrArg (fun z => l9 + z) ic_1) (by decide) rfl ?_
    refine a_goto C (pc := 151) 48 dX9_makes_151 (by decide) ?_
    refine a_lv (lv1 := [(0, .ref h0), (1, .int l1), (3, .int l3), (4, .double s0), (6, .double l10), (8, .int 1), (9, .int (l9 + 1))]) [0, 1, 2, 3, 4, 5, 6] rfl ?_
    exact hB_48 v_bits v_codec v_size v_words v_word v_letter v_impact l1 l3 s0 l10 1 (l9 + 1) h
  · have h := h.2 hc
    refine a_dload C (pc := 128) 7 dX9_makes_128 rfl ?_
    refine a_dload C (pc := 130) 4 dX9_makes_130 rfl ?_
    refine a_dcmp C (pc := 132) dX9_makes_132 ?_
    refine a_if_le C (pc := 133) 141 dX9_makes_133 (by decide) (fun hc => ?_) (fun hc => ?_)
    · have h := h.1 hc
      refine a_dload C (pc := 141) 4 dX9_makes_141 rfl ?_
      refine a_dstore C (pc := 143) (lv1 := [(0, .ref h0), (1, .int l1), (3, .int l3), (4, .double s0), (6, .double l6), (8, .int l8), (9, .int l9), (10, .double l10)]) [1, 2, 3, 4, 0, 5, 6, 7] dX9_makes_143 (by decide) rfl ?_
      refine a_iconst C (pc := 145) dX9_makes_145 ic_1 ?_
      refine a_istore C (pc := 146) (lv1 := [(0, .ref h0), (1, .int l1), (3, .int l3), (4, .double s0), (6, .double l6), (8, .int 1), (9, .int l9), (10, .double l10)]) [1, 2, 3, 4, 5, 0, 6, 7] dX9_makes_146 (by decide) rfl ?_
      refine a_iinc C (pc := 148) (lv1 := [(0, .ref h0), (1, .int l1), (3, .int l3), (4, .double s0), (6, .double l6), (8, .int 1), (9, .int (l9 + 1)), (10, .double l10)]) 6 [1, 2, 3, 4, 5, 6, 0, 7] dX9_makes_148 rfl (congrArg (fun z => l9 + z) ic_1) (by decide) rfl ?_
      refine a_goto C (pc := 151) 48 dX9_makes_151 (by decide) ?_
      refine a_lv (lv1 := [(0, .ref h0), (1, .int l1), (3, .int l3), (4, .double s0), (6, .double l6), (8, .int 1), (9, .int (l9 + 1))]) [0, 1, 2, 3, 4, 5, 6] rfl ?_
      exact hB_48 v_bits v_codec v_size v_words v_word v_letter v_impact l1 l3 s0 l6 1 (l9 + 1) h
    · have h := h.2 hc
      refine a_dload C (pc := 136) 7 dX9_makes_136 rfl ?_
      refine a_goto C (pc := 138) 143 dX9_makes_138 (by decide) ?_
      refine a_dstore C (pc := 143) (lv1 := [(0, .ref h0), (1, .int l1), (3, .int l3), (4, .double s0), (6, .double l10), (8, .int l8), (9, .int l9), (10, .double l10)]) [1, 2, 3, 4, 0, 5, 6, 7] dX9_makes_143 (by decide) rfl ?_
      refine a_iconst C (pc := 145) dX9_makes_145 ic_1 ?_
      refine a_istore C (pc := 146) (lv1 := [(0, .ref h0), (1, .int l1), (3, .int l3), (4, .double s0), (6, .double l10), (8, .int 1), (9, .int l9), (10, .double l10)]) [1, 2, 3, 4, 5, 0, 6, 7] dX9_makes_146 (by decide) rfl ?_
      refine a_iinc C (pc := 148) (lv1 := [(0, .ref h0), (1, .int l1), (3, .int l3), (4, .double s0), (6, .double l10), (8, .int 1), (9, .int (l9 + 1)), (10, .double l10)]) 6 [1, 2, 3, 4, 5, 6, 0, 7] dX9_makes_148 rfl (congrArg (fun z => l9 + z) ic_1) (by decide) rfl ?_
      refine a_goto C (pc := 151) 48 dX9_makes_151 (by decide) ?_
      refine a_lv (lv1 := [(0, .ref h0), (1, .int l1), (3, .int l3), (4, .double s0), (6, .double l10), (8, .int 1), (9, .int (l9 + 1))]) [0, 1, 2, 3, 4, 5, 6] rfl ?_
      exact hB_48 v_bits v_codec v_size v_words v_word v_letter v_impact l1 l3 s0 l10 1 (l9 + 1) h
set_option maxRecDepth 100000 in
set_option maxHeartbeats 4000000 in
theorem w_X9_makes_114 {Γ : XG} {Lx : Launch} {Dx : va_G} {cs : Nat → ClassId} {h0 : Nat} {d0 : Nat → Nat} {v_thrown : Int32} {v_taped : Int32} {v_at : Int32} {v_documents : Int32} {v_terms : Int32} {v_latest : Int32} {v_filed : Int32} {v_drafted : Int32} {v_place : Int32} {v_over : Int32} {v_clock : Int64} {v_askedTerms : Int32} {v_segments : Int32} {v_done : Int32} {v_postingsDone : Int32} {v_postingsAll : Int32} {v_why : Int32} {v_hits : Int32} {v_often : Nat → Int32} {v_length : Nat → Int32} {v_term : Nat → Int32} {B_48 : (Nat → Int32) → (Nat → Int32) → (Nat → Int32) → (Nat → Int32) → (Nat → Int32) → (Nat → Int32) → (Nat → Int32) → Int32 → Int32 → UInt64 → UInt64 → Int32 → Int32 → Prop} {K_154 : (Nat → Int32) → (Nat → Int32) → (Nat → Int32) → (Nat → Int32) → (Nat → Int32) → (Nat → Int32) → (Nat → Int32) → Int32 → Int32 → UInt64 → UInt64 → Prop} {Φ : (Nat → Int32) → (Nat → Int32) → (Nat → Int32) → (Nat → Int32) → (Nat → Int32) → (Nat → Int32) → (Nat → Int32) → Prop} {k n9 : Nat} (C : CX Γ Lx Dx cs cX9_makes RX9 "makes" 16 none 2 59 0 0 (qEC cs 0 0 [] (R_X9_makes cs h0 d0 v_thrown v_taped v_at v_documents v_terms v_latest v_filed v_drafted v_place v_over v_clock v_askedTerms v_segments v_done v_postingsDone v_postingsAll v_why v_hits v_often v_length v_term Φ) (fun _ _ => False))) (hkm : k ≤ 0) (hnm : n9 ≤ 0) (v_bits : Nat → Int32) (v_codec : Nat → Int32) (v_size : Nat → Int32) (v_words : Nat → Int32) (v_word : Nat → Int32) (v_letter : Nat → Int32) (v_impact : Nat → Int32) (l1 : Int32) (l3 : Int32) (l6 : UInt64) (l8 : Int32) (l9 : Int32) (l10 : UInt64) (h : J_X9_makes_114 v_documents v_terms v_bits v_codec v_size v_words v_often v_length v_term v_word v_letter v_impact l1 l3 l6 l8 l9 l10 B_48 K_154 Φ) (hB_48 : ∀ (v_bits_26 : Nat → Int32) (v_codec_27 : Nat → Int32) (v_size_28 : Nat → Int32) (v_words_29 : Nat → Int32) (v_word_30 : Nat → Int32) (v_letter_31 : Nat → Int32) (v_impact_32 : Nat → Int32) (l1_33 : Int32) (l3_34 : Int32) (l4_35 : UInt64) (l6_36 : UInt64) (l8_37 : Int32) (l9_38 : Int32), B_48 v_bits_26 v_codec_27 v_size_28 v_words_29 v_word_30 v_letter_31 v_impact_32 l1_33 l3_34 l4_35 l6_36 l8_37 l9_38 → AW Γ k n9 48 [(0, .ref h0), (1, .int l1_33), (3, .int l3_34), (4, .double l4_35), (6, .double l6_36), (8, .int l8_37), (9, .int l9_38)] [] [(h0, oX9 d0 v_thrown v_taped v_at v_documents v_terms v_latest v_filed v_drafted v_place v_over v_clock v_askedTerms v_segments v_done v_postingsDone v_postingsAll v_why v_hits), ((d0 11), aI cs 5 v_bits_26), ((d0 12), aI cs 5 v_codec_27), ((d0 13), aI cs 5 v_size_28), ((d0 14), aI cs 5 v_words_29), ((d0 8), aI cs 2560 v_often), ((d0 9), aI cs 40 v_length), ((d0 7), aI cs 512 v_term), ((d0 3), aI cs 8 v_word_30), ((d0 15), aI cs 2560 v_letter_31), ((d0 16), aI cs 12800 v_impact_32)]) (hK_154 : ∀ (v_bits_39 : Nat → Int32) (v_codec_40 : Nat → Int32) (v_size_41 : Nat → Int32) (v_words_42 : Nat → Int32) (v_word_43 : Nat → Int32) (v_letter_44 : Nat → Int32) (v_impact_45 : Nat → Int32) (l1_46 : Int32) (l3_47 : Int32) (l4_48 : UInt64) (l6_49 : UInt64), K_154 v_bits_39 v_codec_40 v_size_41 v_words_42 v_word_43 v_letter_44 v_impact_45 l1_46 l3_47 l4_48 l6_49 → AW Γ k n9 154 [(0, .ref h0), (1, .int l1_46), (3, .int l3_47), (4, .double l4_48), (6, .double l6_49)] [] [(h0, oX9 d0 v_thrown v_taped v_at v_documents v_terms v_latest v_filed v_drafted v_place v_over v_clock v_askedTerms v_segments v_done v_postingsDone v_postingsAll v_why v_hits), ((d0 11), aI cs 5 v_bits_39), ((d0 12), aI cs 5 v_codec_40), ((d0 13), aI cs 5 v_size_41), ((d0 14), aI cs 5 v_words_42), ((d0 8), aI cs 2560 v_often), ((d0 9), aI cs 40 v_length), ((d0 7), aI cs 512 v_term), ((d0 3), aI cs 8 v_word_43), ((d0 15), aI cs 2560 v_letter_44), ((d0 16), aI cs 12800 v_impact_45)]) : AW Γ k n9 114 [(0, .ref h0), (1, .int l1), (3, .int l3), (6, .double l6), (8, .int l8), (9, .int l9), (10, .double l10)] [] [(h0, oX9 d0 v_thrown v_taped v_at v_documents v_terms v_latest v_filed v_drafted v_place v_over v_clock v_askedTerms v_segments v_done v_postingsDone v_postingsAll v_why v_hits), ((d0 11), aI cs 5 v_bits), ((d0 12), aI cs 5 v_codec), ((d0 13), aI cs 5 v_size), ((d0 14), aI cs 5 v_words), ((d0 8), aI cs 2560 v_often), ((d0 9), aI cs 40 v_length), ((d0 7), aI cs 512 v_term), ((d0 3), aI cs 8 v_word), ((d0 15), aI cs 2560 v_letter), ((d0 16), aI cs 12800 v_impact)] := by
  unfold J_X9_makes_114 at h
  refine a_dload C (pc := 114) 6 dX9_makes_114 rfl ?_
  refine a_goto C (pc := 116) 121 dX9_makes_116 (by decide) ?_
  exact w_X9_makes_121 C hkm hnm v_bits v_codec v_size v_words v_word v_letter v_impact l1 l3 l6 l8 l9 l10 l10 h hB_48 hK_154
set_option maxRecDepth 100000 in
set_option maxHeartbeats 4000000 in
theorem w_X9_makes_48 {Γ : XG} {Lx : Launch} {Dx : va_G} {cs : Nat → ClassId} {h0 : Nat} {d0 : Nat → Nat} {v_thrown : Int32} {v_taped : Int32} {v_at : Int32} {v_documents : Int32} {v_terms : Int32} {v_latest : Int32} {v_filed : Int32} {v_drafted : Int32} {v_place : Int32} {v_over : Int32} {v_clock : Int64} {v_askedTerms : Int32} {v_segments : Int32} {v_done : Int32} {v_postingsDone : Int32} {v_postingsAll : Int32} {v_why : Int32} {v_hits : Int32} {v_often : Nat → Int32} {v_length : Nat → Int32} {v_term : Nat → Int32} {K_154 : (Nat → Int32) → (Nat → Int32) → (Nat → Int32) → (Nat → Int32) → (Nat → Int32) → (Nat → Int32) → (Nat → Int32) → Int32 → Int32 → UInt64 → UInt64 → Prop} {Φ : (Nat → Int32) → (Nat → Int32) → (Nat → Int32) → (Nat → Int32) → (Nat → Int32) → (Nat → Int32) → (Nat → Int32) → Prop} {k n9 : Nat} (C : CX Γ Lx Dx cs cX9_makes RX9 "makes" 16 none 2 59 0 0 (qEC cs 0 0 [] (R_X9_makes cs h0 d0 v_thrown v_taped v_at v_documents v_terms v_latest v_filed v_drafted v_place v_over v_clock v_askedTerms v_segments v_done v_postingsDone v_postingsAll v_why v_hits v_often v_length v_term Φ) (fun _ _ => False))) (hkm : k ≤ 0) (hnm : n9 ≤ 0) : ∀ n : Nat, ∀ (v_bits : Nat → Int32) (v_codec : Nat → Int32) (v_size : Nat → Int32) (v_words : Nat → Int32) (v_word : Nat → Int32) (v_letter : Nat → Int32) (v_impact : Nat → Int32) (l1 : Int32) (l3 : Int32) (l4 : UInt64) (l6 : UInt64) (l8 : Int32) (l9 : Int32), L_X9_makes_48 n v_documents v_terms v_bits v_codec v_size v_words v_often v_length v_term v_word v_letter v_impact l1 l3 l4 l6 l8 l9 K_154 Φ → (∀ (v_bits_128 : Nat → Int32) (v_codec_129 : Nat → Int32) (v_size_130 : Nat → Int32) (v_words_131 : Nat → Int32) (v_word_132 : Nat → Int32) (v_letter_133 : Nat → Int32) (v_impact_134 : Nat → Int32) (l1_135 : Int32) (l3_136 : Int32) (l4_137 : UInt64) (l6_138 : UInt64), K_154 v_bits_128 v_codec_129 v_size_130 v_words_131 v_word_132 v_letter_133 v_impact_134 l1_135 l3_136 l4_137 l6_138 → AW Γ k n9 154 [(0, .ref h0), (1, .int l1_135), (3, .int l3_136), (4, .double l4_137), (6, .double l6_138)] [] [(h0, oX9 d0 v_thrown v_taped v_at v_documents v_terms v_latest v_filed v_drafted v_place v_over v_clock v_askedTerms v_segments v_done v_postingsDone v_postingsAll v_why v_hits), ((d0 11), aI cs 5 v_bits_128), ((d0 12), aI cs 5 v_codec_129), ((d0 13), aI cs 5 v_size_130), ((d0 14), aI cs 5 v_words_131), ((d0 8), aI cs 2560 v_often), ((d0 9), aI cs 40 v_length), ((d0 7), aI cs 512 v_term), ((d0 3), aI cs 8 v_word_132), ((d0 15), aI cs 2560 v_letter_133), ((d0 16), aI cs 12800 v_impact_134)]) → AW Γ k n9 48 [(0, .ref h0), (1, .int l1), (3, .int l3), (4, .double l4), (6, .double l6), (8, .int l8), (9, .int l9)] [] [(h0, oX9 d0 v_thrown v_taped v_at v_documents v_terms v_latest v_filed v_drafted v_place v_over v_clock v_askedTerms v_segments v_done v_postingsDone v_postingsAll v_why v_hits), ((d0 11), aI cs 5 v_bits), ((d0 12), aI cs 5 v_codec), ((d0 13), aI cs 5 v_size), ((d0 14), aI cs 5 v_words), ((d0 8), aI cs 2560 v_often), ((d0 9), aI cs 40 v_length), ((d0 7), aI cs 512 v_term), ((d0 3), aI cs 8 v_word), ((d0 15), aI cs 2560 v_letter), ((d0 16), aI cs 12800 v_impact)] := by
  intro n
  induction n with
  | zero =>
    intro v_bits v_codec v_size v_words v_word v_letter v_impact l1 l3 l4 l6 l8 l9 h
    exact False.elim h
  | succ n ih =>
    intro v_bits v_codec v_size v_words v_word v_letter v_impact l1 l3 l4 l6 l8 l9 h hK_154
    rw [L_X9_makes_48] at h
    refine a_iload C (pc := 48) 6 dX9_makes_48 rfl ?_
    refine a_bipush C (pc := 50) dX9_makes_50 bp_40 ?_
    refine a_aload_n C (pc := 52) 0 dX9_makes_52 rfl rfl ?_
    refine a_get C (pc := 53) 0 6 inW_X9 rfl rfl (Nat.le_of_ble_eq_true rfl) wF_X9_113 rfl rfl dX9_makes_53 ?_
    refine a_imul C (pc := 56) dX9_makes_56 ?_
    refine a_icmp_ge C (pc := 57) 154 dX9_makes_57 (by decide) (fun hc => ?_) (fun hc => ?_)
    · have h := h.1 hc
      refine a_lv (lv1 := [(0, .ref h0), (1, .int l1), (3, .int l3), (4, .double l4), (6, .double l6)]) [0, 1, 2, 3, 4] rfl ?_
      exact hK_154 v_bits v_codec v_size v_words v_word v_letter v_impact l1 l3 l4 l6 h
    · have h := h.2 hc
      refine a_iload C (pc := 60) 6 dX9_makes_60 rfl ?_
      refine a_bipush C (pc := 62) dX9_makes_62 bp_40 ?_
      refine a_irem C (pc := 64) dX9_makes_64 (by decide) ?_
      refine a_aload_n C (pc := 65) 0 dX9_makes_65 rfl rfl ?_
      refine a_get C (pc := 66) 0 5 inW_X9 rfl rfl (Nat.le_of_ble_eq_true rfl) wF_X9_120 rfl rfl dX9_makes_66 ?_
      refine a_icmp_ge C (pc := 69) 148 dX9_makes_69 (by decide) (fun hc => ?_) (fun hc => ?_)
      · have h := h.1 hc
        refine a_iinc C (pc := 148) (lv1 := [(0, .ref h0), (1, .int l1), (3, .int l3), (4, .double l4), (6, .double l6), (8, .int l8), (9, .int (l9 + 1))]) 6 [1, 2, 3, 4, 5, 6, 0] dX9_makes_148 rfl (congrArg (fun z => l9 + z) ic_1) (by decide) rfl ?_
        refine a_goto C (pc := 151) 48 dX9_makes_151 (by decide) ?_
        exact ih v_bits v_codec v_size v_words v_word v_letter v_impact l1 l3 l4 l6 l8 (l9 + 1) h hK_154
      · have h := h.2 hc
        refine a_aload_n C (pc := 72) 0 dX9_makes_72 rfl rfl ?_
        refine a_get C (pc := 73) 0 8 inW_X9 rfl rfl (Nat.le_of_ble_eq_true rfl) wF_X9_19 rfl rfl dX9_makes_73 ?_
        refine a_iload C (pc := 76) 6 dX9_makes_76 rfl ?_
        refine a_iald C (pc := 78) 5 rfl h.1 dX9_makes_78 ?_
        replace h := h.2
        refine a_if_ne C (pc := 79) 85 dX9_makes_79 (by decide) (fun hc => ?_) (fun hc => ?_)
        · have h := h.1 hc
          refine a_aload_n C (pc := 85) 0 dX9_makes_85 rfl rfl ?_
          refine a_iload C (pc := 86) 6 dX9_makes_86 rfl ?_
          refine a_bipush C (pc := 88) dX9_makes_88 bp_40 ?_
          refine a_idiv C (pc := 90) dX9_makes_90 (by decide) ?_
          refine a_iload C (pc := 91) 6 dX9_makes_91 rfl ?_
          refine a_bipush C (pc := 93) dX9_makes_93 bp_40 ?_
          refine a_irem C (pc := 95) dX9_makes_95 (by decide) ?_
          refine a_callV C (pc := 96) (av := [.int (l9 / 40), .int (l9 - l9 / 40 * 40)]) (wr := [((d0 11), aI cs 5 v_bits), ((d0 12), aI cs 5 v_codec), ((d0 13), aI cs 5 v_size), ((d0 14), aI cs 5 v_words), ((d0 7), aI cs 512 v_term), ((d0 3), aI cs 8 v_word), ((d0 15), aI cs 2560 v_letter), ((d0 16), aI cs 12800 v_impact)]) (m_X9_scoreOf Lx Dx cs h0 d0 v_thrown v_taped v_at v_documents v_terms v_latest v_filed v_drafted v_place v_over v_clock v_askedTerms v_segments v_done v_postingsDone v_postingsAll v_why v_hits v_length v_often (l9 / 40) (l9 - l9 / 40 * 40) _ h) [0, 6, 5] [1, 2, 3, 4, 7, 8, 9, 10] rfl rfl (by decide) (by decide) (by decide) wM_X9_155 wb_X9_scoreOf hy_X9_scoreOf (q0 := 0) rfl rfl rfl ⟨Nat.le_of_ble_eq_true rfl, Nat.le_of_ble_eq_true rfl⟩ (Nat.le_of_ble_eq_true rfl) hkm hnm rfl dX9_makes_96 (fun v w1 hw => ?_) [] rfl (fun _ _ h => h.elim)
          obtain ⟨r_1, rfl, rfl, h⟩ := hw
          refine a_ws (st1 := [.double r_1]) (ws1 := [(h0, oX9 d0 v_thrown v_taped v_at v_documents v_terms v_latest v_filed v_drafted v_place v_over v_clock v_askedTerms v_segments v_done v_postingsDone v_postingsAll v_why v_hits), ((d0 11), aI cs 5 v_bits), ((d0 12), aI cs 5 v_codec), ((d0 13), aI cs 5 v_size), ((d0 14), aI cs 5 v_words), ((d0 8), aI cs 2560 v_often), ((d0 9), aI cs 40 v_length), ((d0 7), aI cs 512 v_term), ((d0 3), aI cs 8 v_word), ((d0 15), aI cs 2560 v_letter), ((d0 16), aI cs 12800 v_impact)]) k n9 99 [8, 0, 1, 2, 3, 10, 9, 4, 5, 6, 7] rfl rfl rfl rfl (by decide) rfl ?_
          refine a_dstore C (pc := 99) (lv1 := [(0, .ref h0), (1, .int l1), (3, .int l3), (4, .double l4), (6, .double l6), (8, .int l8), (9, .int l9), (10, .double r_1)]) [1, 2, 3, 4, 5, 6, 7, 0] dX9_makes_99 (by decide) rfl ?_
          refine a_iload C (pc := 101) 5 dX9_makes_101 rfl ?_
          refine a_if_eq C (pc := 103) 114 dX9_makes_103 (by decide) (fun hc => ?_) (fun hc => ?_)
          · have h := h.1 hc
            refine a_lv (lv1 := [(0, .ref h0), (1, .int l1), (3, .int l3), (6, .double l6), (8, .int l8), (9, .int l9), (10, .double r_1)]) [0, 1, 2, 4, 5, 6, 7] rfl ?_
            exact w_X9_makes_114 C hkm hnm v_bits v_codec v_size v_words v_word v_letter v_impact l1 l3 l6 l8 l9 r_1 h (fun v_bits_63 v_codec_64 v_size_65 v_words_66 v_word_67 v_letter_68 v_impact_69 l1_70 l3_71 l4_72 l6_73 l8_74 l9_75 h => ih v_bits_63 v_codec_64 v_size_65 v_words_66 v_word_67 v_letter_68 v_impact_69 l1_70 l3_71 l4_72 l6_73 l8_74 l9_75 h hK_154) hK_154
          · have h := h.2 hc
            refine a_dload C (pc := 106) 7 dX9_makes_106 rfl ?_
            refine a_dload C (pc := 108) 3 dX9_makes_108 rfl ?_
            refine a_dcmp C (pc := 110) dX9_makes_110 ?_
            refine a_if_ge C (pc := 111) 119 dX9_makes_111 (by decide) (fun hc => ?_) (fun hc => ?_)
            · have h := h.1 hc
              refine a_dload C (pc := 119) 3 dX9_makes_119 rfl ?_
              refine a_lv (lv1 := [(0, .ref h0), (1, .int l1), (3, .int l3), (6, .double l6), (8, .int l8), (9, .int l9), (10, .double r_1)]) [0, 1, 2, 4, 5, 6, 7] rfl ?_
              exact w_X9_makes_121 C hkm hnm v_bits v_codec v_size v_words v_word v_letter v_impact l1 l3 l6 l8 l9 r_1 l4 h (fun v_bits_89 v_codec_90 v_size_91 v_words_92 v_word_93 v_letter_94 v_impact_95 l1_96 l3_97 l4_98 l6_99 l8_100 l9_101 h => ih v_bits_89 v_codec_90 v_size_91 v_words_92 v_word_93 v_letter_94 v_impact_95 l1_96 l3_97 l4_98 l6_99 l8_100 l9_101 h hK_154) hK_154
            · have h := h.2 hc
              refine a_lv (lv1 := [(0, .ref h0), (1, .int l1), (3, .int l3), (6, .double l6), (8, .int l8), (9, .int l9), (10, .double r_1)]) [0, 1, 2, 4, 5, 6, 7] rfl ?_
              exact w_X9_makes_114 C hkm hnm v_bits v_codec v_size v_words v_word v_letter v_impact l1 l3 l6 l8 l9 r_1 h (fun v_bits_115 v_codec_116 v_size_117 v_words_118 v_word_119 v_letter_120 v_impact_121 l1_122 l3_123 l4_124 l6_125 l8_126 l9_127 h => ih v_bits_115 v_codec_116 v_size_117 v_words_118 v_word_119 v_letter_120 v_impact_121 l1_122 l3_123 l4_124 l6_125 l8_126 l9_127 h hK_154) hK_154
        · have h := h.2 hc
          refine a_goto C (pc := 82) 148 dX9_makes_82 (by decide) ?_
          refine a_iinc C (pc := 148) (lv1 := [(0, .ref h0), (1, .int l1), (3, .int l3), (4, .double l4), (6, .double l6), (8, .int l8), (9, .int (l9 + 1))]) 6 [1, 2, 3, 4, 5, 6, 0] dX9_makes_148 rfl (congrArg (fun z => l9 + z) ic_1) (by decide) rfl ?_
          refine a_goto C (pc := 151) 48 dX9_makes_151 (by decide) ?_
          exact ih v_bits v_codec v_size v_words v_word v_letter v_impact l1 l3 l4 l6 l8 (l9 + 1) h hK_154
set_option maxRecDepth 100000 in
set_option maxHeartbeats 4000000 in
theorem w_X9_makes_184 {Γ : XG} {Lx : Launch} {Dx : va_G} {cs : Nat → ClassId} {h0 : Nat} {d0 : Nat → Nat} {v_thrown : Int32} {v_taped : Int32} {v_at : Int32} {v_documents : Int32} {v_terms : Int32} {v_latest : Int32} {v_filed : Int32} {v_drafted : Int32} {v_place : Int32} {v_over : Int32} {v_clock : Int64} {v_askedTerms : Int32} {v_segments : Int32} {v_done : Int32} {v_postingsDone : Int32} {v_postingsAll : Int32} {v_why : Int32} {v_hits : Int32} {v_often : Nat → Int32} {v_length : Nat → Int32} {v_term : Nat → Int32} {K_229 : (Nat → Int32) → (Nat → Int32) → (Nat → Int32) → (Nat → Int32) → (Nat → Int32) → (Nat → Int32) → (Nat → Int32) → Int32 → UInt64 → UInt64 → Int32 → Int32 → Int32 → Prop} {Φ : (Nat → Int32) → (Nat → Int32) → (Nat → Int32) → (Nat → Int32) → (Nat → Int32) → (Nat → Int32) → (Nat → Int32) → Prop} {k n9 : Nat} (C : CX Γ Lx Dx cs cX9_makes RX9 "makes" 16 none 2 59 0 0 (qEC cs 0 0 [] (R_X9_makes cs h0 d0 v_thrown v_taped v_at v_documents v_terms v_latest v_filed v_drafted v_place v_over v_clock v_askedTerms v_segments v_done v_postingsDone v_postingsAll v_why v_hits v_often v_length v_term Φ) (fun _ _ => False))) (hkm : k ≤ 0) (hnm : n9 ≤ 0) : ∀ n : Nat, ∀ (v_bits : Nat → Int32) (v_codec : Nat → Int32) (v_size : Nat → Int32) (v_words : Nat → Int32) (v_word : Nat → Int32) (v_letter : Nat → Int32) (v_impact : Nat → Int32) (l3 : Int32) (l4 : UInt64) (l6 : UInt64) (l9 : Int32) (l10 : Int32) (l11 : Int32) (l12 : Int32), L_X9_makes_184 n v_documents v_terms v_bits v_codec v_size v_words v_often v_length v_term v_word v_letter v_impact l3 l4 l6 l9 l10 l11 l12 K_229 Φ → (∀ (v_bits_152 : Nat → Int32) (v_codec_153 : Nat → Int32) (v_size_154 : Nat → Int32) (v_words_155 : Nat → Int32) (v_word_156 : Nat → Int32) (v_letter_157 : Nat → Int32) (v_impact_158 : Nat → Int32) (l3_159 : Int32) (l4_160 : UInt64) (l6_161 : UInt64) (l9_162 : Int32) (l10_163 : Int32) (l11_164 : Int32), K_229 v_bits_152 v_codec_153 v_size_154 v_words_155 v_word_156 v_letter_157 v_impact_158 l3_159 l4_160 l6_161 l9_162 l10_163 l11_164 → AW Γ k n9 229 [(0, .ref h0), (3, .int l3_159), (4, .double l4_160), (6, .double l6_161), (9, .int l9_162), (10, .int l10_163), (11, .int l11_164)] [] [(h0, oX9 d0 v_thrown v_taped v_at v_documents v_terms v_latest v_filed v_drafted v_place v_over v_clock v_askedTerms v_segments v_done v_postingsDone v_postingsAll v_why v_hits), ((d0 11), aI cs 5 v_bits_152), ((d0 12), aI cs 5 v_codec_153), ((d0 13), aI cs 5 v_size_154), ((d0 14), aI cs 5 v_words_155), ((d0 8), aI cs 2560 v_often), ((d0 9), aI cs 40 v_length), ((d0 7), aI cs 512 v_term), ((d0 3), aI cs 8 v_word_156), ((d0 15), aI cs 2560 v_letter_157), ((d0 16), aI cs 12800 v_impact_158)]) → AW Γ k n9 184 [(0, .ref h0), (3, .int l3), (4, .double l4), (6, .double l6), (9, .int l9), (10, .int l10), (11, .int l11), (12, .int l12)] [] [(h0, oX9 d0 v_thrown v_taped v_at v_documents v_terms v_latest v_filed v_drafted v_place v_over v_clock v_askedTerms v_segments v_done v_postingsDone v_postingsAll v_why v_hits), ((d0 11), aI cs 5 v_bits), ((d0 12), aI cs 5 v_codec), ((d0 13), aI cs 5 v_size), ((d0 14), aI cs 5 v_words), ((d0 8), aI cs 2560 v_often), ((d0 9), aI cs 40 v_length), ((d0 7), aI cs 512 v_term), ((d0 3), aI cs 8 v_word), ((d0 15), aI cs 2560 v_letter), ((d0 16), aI cs 12800 v_impact)] := by
  intro n
  induction n with
  | zero =>
    intro v_bits v_codec v_size v_words v_word v_letter v_impact l3 l4 l6 l9 l10 l11 l12 h
    exact False.elim h
  | succ n ih =>
    intro v_bits v_codec v_size v_words v_word v_letter v_impact l3 l4 l6 l9 l10 l11 l12 h hK_229
    rw [L_X9_makes_184] at h
    refine a_iload C (pc := 184) 7 dX9_makes_184 rfl ?_
    refine a_bipush C (pc := 186) dX9_makes_186 bp_8 ?_
    refine a_icmp_ge C (pc := 188) 229 dX9_makes_188 (by decide) (fun hc => ?_) (fun hc => ?_)
    · have h := h.1 hc
      refine a_lv (lv1 := [(0, .ref h0), (3, .int l3), (4, .double l4), (6, .double l6), (9, .int l9), (10, .int l10), (11, .int l11)]) [0, 1, 2, 3, 4, 5, 6] rfl ?_
      exact hK_229 v_bits v_codec v_size v_words v_word v_letter v_impact l3 l4 l6 l9 l10 l11 h
    · have h := h.2 hc
      refine a_aload_n C (pc := 191) 0 dX9_makes_191 rfl rfl ?_
      refine a_get C (pc := 192) 0 15 inW_X9 rfl rfl (Nat.le_of_ble_eq_true rfl) wF_X9_40 rfl rfl dX9_makes_192 ?_
      refine a_sipush C (pc := 195) dX9_makes_195 sp_512 ?_
      refine a_iload_n C (pc := 198) 1 dX9_makes_198 rfl rfl ?_
      refine a_imul C (pc := 199) dX9_makes_199 ?_
      refine a_bipush C (pc := 200) dX9_makes_200 bp_8 ?_
      refine a_iload C (pc := 202) 6 dX9_makes_202 rfl ?_
      refine a_imul C (pc := 204) dX9_makes_204 ?_
      refine a_iadd C (pc := 205) dX9_makes_205 ?_
      refine a_iload C (pc := 206) 7 dX9_makes_206 rfl ?_
      refine a_iadd C (pc := 208) dX9_makes_208 ?_
      refine a_aload_n C (pc := 209) 0 dX9_makes_209 rfl rfl ?_
      refine a_get C (pc := 210) 0 7 inW_X9 rfl rfl (Nat.le_of_ble_eq_true rfl) wF_X9_16 rfl rfl dX9_makes_210 ?_
      refine a_bipush C (pc := 213) dX9_makes_213 bp_8 ?_
      refine a_iload C (pc := 215) 5 dX9_makes_215 rfl ?_
      refine a_imul C (pc := 217) dX9_makes_217 ?_
      refine a_iload C (pc := 218) 7 dX9_makes_218 rfl ?_
      refine a_iadd C (pc := 220) dX9_makes_220 ?_
      refine a_iald C (pc := 221) 7 rfl h.1 dX9_makes_221 ?_
      replace h := h.2
      refine a_iast C (pc := 222) (ws1 := [(h0, oX9 d0 v_thrown v_taped v_at v_documents v_terms v_latest v_filed v_drafted v_place v_over v_clock v_askedTerms v_segments v_done v_postingsDone v_postingsAll v_why v_hits), ((d0 11), aI cs 5 v_bits), ((d0 12), aI cs 5 v_codec), ((d0 13), aI cs 5 v_size), ((d0 14), aI cs 5 v_words), ((d0 8), aI cs 2560 v_often), ((d0 9), aI cs 40 v_length), ((d0 7), aI cs 512 v_term), ((d0 3), aI cs 8 v_word), ((d0 15), aI cs 2560 (upd v_letter (((512 * l3) + (8 * l11)) + l12 : Int32).toNatClampNeg (v_term ((8 * l10) + l12 : Int32).toNatClampNeg))), ((d0 16), aI cs 12800 v_impact)]) 9 rfl h.1 dX9_makes_222 rfl ?_
      replace h := h.2
      refine a_iinc C (pc := 223) (lv1 := [(0, .ref h0), (3, .int l3), (4, .double l4), (6, .double l6), (9, .int l9), (10, .int l10), (11, .int l11), (12, .int (l12 + 1))]) 7 [1, 2, 3, 4, 5, 6, 7, 0] dX9_makes_223 rfl (congrArg (fun z => l12 + z) ic_1) (by decide) rfl ?_
      refine a_goto C (pc := 226) 184 dX9_makes_226 (by decide) ?_
      exact ih v_bits v_codec v_size v_words v_word (upd v_letter (((512 * l3) + (8 * l11)) + l12 : Int32).toNatClampNeg (v_term ((8 * l10) + l12 : Int32).toNatClampNeg)) v_impact l3 l4 l6 l9 l10 l11 (l12 + 1) h hK_229
set_option maxRecDepth 100000 in
set_option maxHeartbeats 4000000 in
theorem w_X9_makes_288 {Γ : XG} {Lx : Launch} {Dx : va_G} {cs : Nat → ClassId} {h0 : Nat} {d0 : Nat → Nat} {v_thrown : Int32} {v_taped : Int32} {v_at : Int32} {v_documents : Int32} {v_terms : Int32} {v_latest : Int32} {v_filed : Int32} {v_drafted : Int32} {v_place : Int32} {v_over : Int32} {v_clock : Int64} {v_askedTerms : Int32} {v_segments : Int32} {v_done : Int32} {v_postingsDone : Int32} {v_postingsAll : Int32} {v_why : Int32} {v_hits : Int32} {v_often : Nat → Int32} {v_length : Nat → Int32} {v_term : Nat → Int32} {B_232 : (Nat → Int32) → (Nat → Int32) → (Nat → Int32) → (Nat → Int32) → (Nat → Int32) → (Nat → Int32) → (Nat → Int32) → Int32 → UInt64 → UInt64 → Int32 → Int32 → Int32 → Int32 → Prop} {K_356 : (Nat → Int32) → (Nat → Int32) → (Nat → Int32) → (Nat → Int32) → (Nat → Int32) → (Nat → Int32) → (Nat → Int32) → Int32 → UInt64 → UInt64 → Int32 → Int32 → Prop} {Φ : (Nat → Int32) → (Nat → Int32) → (Nat → Int32) → (Nat → Int32) → (Nat → Int32) → (Nat → Int32) → (Nat → Int32) → Prop} {k n9 : Nat} (C : CX Γ Lx Dx cs cX9_makes RX9 "makes" 16 none 2 59 0 0 (qEC cs 0 0 [] (R_X9_makes cs h0 d0 v_thrown v_taped v_at v_documents v_terms v_latest v_filed v_drafted v_place v_over v_clock v_askedTerms v_segments v_done v_postingsDone v_postingsAll v_why v_hits v_often v_length v_term Φ) (fun _ _ => False))) (hkm : k ≤ 0) (hnm : n9 ≤ 0) (v_bits : Nat → Int32) (v_codec : Nat → Int32) (v_size : Nat → Int32) (v_words : Nat → Int32) (v_word : Nat → Int32) (v_letter : Nat → Int32) (v_impact : Nat → Int32) (l3 : Int32) (l4 : UInt64) (l6 : UInt64) (l9 : Int32) (l10 : Int32) (l11 : Int32) (l12 : Int32) (l13 : Int32) (s0 : UInt64) (h : J_X9_makes_288 v_documents v_terms v_bits v_codec v_size v_words v_often v_length v_term v_word v_letter v_impact l3 l4 l6 l9 l10 l11 l12 l13 s0 B_232 K_356 Φ) (hB_232 : ∀ (v_bits_179 : Nat → Int32) (v_codec_180 : Nat → Int32) (v_size_181 : Nat → Int32) (v_words_182 : Nat → Int32) (v_word_183 : Nat → Int32) (v_letter_184 : Nat → Int32) (v_impact_185 : Nat → Int32) (l3_186 : Int32) (l4_187 : UInt64) (l6_188 : UInt64) (l9_189 : Int32) (l10_190 : Int32) (l11_191 : Int32) (l12_192 : Int32), B_232 v_bits_179 v_codec_180 v_size_181 v_words_182 v_word_183 v_letter_184 v_impact_185 l3_186 l4_187 l6_188 l9_189 l10_190 l11_191 l12_192 → AW Γ k n9 232 [(0, .ref h0), (3, .int l3_186), (4, .double l4_187), (6, .double l6_188), (9, .int l9_189), (10, .int l10_190), (11, .int l11_191), (12, .int l12_192)] [] [(h0, oX9 d0 v_thrown v_taped v_at v_documents v_terms v_latest v_filed v_drafted v_place v_over v_clock v_askedTerms v_segments v_done v_postingsDone v_postingsAll v_why v_hits), ((d0 11), aI cs 5 v_bits_179), ((d0 12), aI cs 5 v_codec_180), ((d0 13), aI cs 5 v_size_181), ((d0 14), aI cs 5 v_words_182), ((d0 8), aI cs 2560 v_often), ((d0 9), aI cs 40 v_length), ((d0 7), aI cs 512 v_term), ((d0 3), aI cs 8 v_word_183), ((d0 15), aI cs 2560 v_letter_184), ((d0 16), aI cs 12800 v_impact_185)]) (hK_356 : ∀ (v_bits_193 : Nat → Int32) (v_codec_194 : Nat → Int32) (v_size_195 : Nat → Int32) (v_words_196 : Nat → Int32) (v_word_197 : Nat → Int32) (v_letter_198 : Nat → Int32) (v_impact_199 : Nat → Int32) (l3_200 : Int32) (l4_201 : UInt64) (l6_202 : UInt64) (l9_203 : Int32) (l10_204 : Int32), K_356 v_bits_193 v_codec_194 v_size_195 v_words_196 v_word_197 v_letter_198 v_impact_199 l3_200 l4_201 l6_202 l9_203 l10_204 → AW Γ k n9 356 [(0, .ref h0), (3, .int l3_200), (4, .double l4_201), (6, .double l6_202), (9, .int l9_203), (10, .int l10_204)] [] [(h0, oX9 d0 v_thrown v_taped v_at v_documents v_terms v_latest v_filed v_drafted v_place v_over v_clock v_askedTerms v_segments v_done v_postingsDone v_postingsAll v_why v_hits), ((d0 11), aI cs 5 v_bits_193), ((d0 12), aI cs 5 v_codec_194), ((d0 13), aI cs 5 v_size_195), ((d0 14), aI cs 5 v_words_196), ((d0 8), aI cs 2560 v_often), ((d0 9), aI cs 40 v_length), ((d0 7), aI cs 512 v_term), ((d0 3), aI cs 8 v_word_197), ((d0 15), aI cs 2560 v_letter_198), ((d0 16), aI cs 12800 v_impact_199)]) : AW Γ k n9 288 [(0, .ref h0), (3, .int l3), (4, .double l4), (6, .double l6), (9, .int l9), (10, .int l10), (11, .int l11), (12, .int l12), (13, .int l13)] [.double s0] [(h0, oX9 d0 v_thrown v_taped v_at v_documents v_terms v_latest v_filed v_drafted v_place v_over v_clock v_askedTerms v_segments v_done v_postingsDone v_postingsAll v_why v_hits), ((d0 11), aI cs 5 v_bits), ((d0 12), aI cs 5 v_codec), ((d0 13), aI cs 5 v_size), ((d0 14), aI cs 5 v_words), ((d0 8), aI cs 2560 v_often), ((d0 9), aI cs 40 v_length), ((d0 7), aI cs 512 v_term), ((d0 3), aI cs 8 v_word), ((d0 15), aI cs 2560 v_letter), ((d0 16), aI cs 12800 v_impact)] := by
  unfold J_X9_makes_288 at h
  refine a_dstore C (pc := 288) (lv1 := [(0, .ref h0), (3, .int l3), (4, .double l4), (6, .double l6), (9, .int l9), (10, .int l10), (11, .int l11), (12, .int l12), (13, .int l13), (14, .double s0)]) [1, 2, 3, 4, 5, 6, 7, 8, 9, 0] dX9_makes_288 (by decide) rfl ?_
  refine a_aload_n C (pc := 290) 0 dX9_makes_290 rfl rfl ?_
  refine a_get C (pc := 291) 0 16 inW_X9 rfl rfl (Nat.le_of_ble_eq_true rfl) wF_X9_43 rfl rfl dX9_makes_291 ?_
  refine a_aload_n C (pc := 294) 0 dX9_makes_294 rfl rfl ?_
  refine a_iload_n C (pc := 295) 1 dX9_makes_295 rfl rfl ?_
  refine a_iload C (pc := 296) 6 dX9_makes_296 rfl ?_
  refine a_iload C (pc := 298) 7 dX9_makes_298 rfl ?_
  refine a_callV C (pc := 300) (av := [.int l3, .int l11, .int l12]) (wr := [(h0, oX9 d0 v_thrown v_taped v_at v_documents v_terms v_latest v_filed v_drafted v_place v_over v_clock v_askedTerms v_segments v_done v_postingsDone v_postingsAll v_why v_hits), ((d0 11), aI cs 5 v_bits), ((d0 12), aI cs 5 v_codec), ((d0 13), aI cs 5 v_size), ((d0 14), aI cs 5 v_words), ((d0 8), aI cs 2560 v_often), ((d0 9), aI cs 40 v_length), ((d0 7), aI cs 512 v_term), ((d0 3), aI cs 8 v_word), ((d0 15), aI cs 2560 v_letter), ((d0 16), aI cs 12800 v_impact)]) (m_X9_cell Lx Dx cs h0 l3 l11 l12 _ h) [] [0, 1, 2, 3, 4, 5, 6, 7, 8, 9, 10] rfl rfl (by decide) (by decide) (by decide) wM_X9_162 wb_X9_cell hy_X9_cell (q0 := 0) rfl rfl rfl ⟨Nat.le_of_ble_eq_true rfl, Nat.le_of_ble_eq_true rfl⟩ (Nat.le_of_ble_eq_true rfl) hkm hnm rfl dX9_makes_300 (fun v w1 hw => ?_) [] rfl (fun _ _ h => h.elim)
  obtain ⟨r_178, rfl, rfl, h⟩ := hw
  refine a_ws (st1 := [.int r_178, .ref (d0 16)]) (ws1 := [(h0, oX9 d0 v_thrown v_taped v_at v_documents v_terms v_latest v_filed v_drafted v_place v_over v_clock v_askedTerms v_segments v_done v_postingsDone v_postingsAll v_why v_hits), ((d0 11), aI cs 5 v_bits), ((d0 12), aI cs 5 v_codec), ((d0 13), aI cs 5 v_size), ((d0 14), aI cs 5 v_words), ((d0 8), aI cs 2560 v_often), ((d0 9), aI cs 40 v_length), ((d0 7), aI cs 512 v_term), ((d0 3), aI cs 8 v_word), ((d0 15), aI cs 2560 v_letter), ((d0 16), aI cs 12800 v_impact)]) k n9 303 [0, 1, 2, 3, 4, 5, 6, 7, 8, 9, 10] rfl rfl rfl rfl (by decide) rfl ?_
  refine a_iload C (pc := 303) 8 dX9_makes_303 rfl ?_
  refine a_if_ne C (pc := 305) 312 dX9_makes_305 (by decide) (fun hc => ?_) (fun hc => ?_)
  · have h := h.1 hc
    refine a_dload C (pc := 312) 2 dX9_makes_312 rfl ?_
    refine a_dload C (pc := 314) 3 dX9_makes_314 rfl ?_
    refine a_dcmp C (pc := 316) dX9_makes_316 ?_
    refine a_if_ne C (pc := 317) 325 dX9_makes_317 (by decide) (fun hc => ?_) (fun hc => ?_)
    · have h := h.1 hc
      refine a_dconst1 C (pc := 325) dX9_makes_325 ?_
      refine a_dload C (pc := 326) 9 dX9_makes_326 rfl ?_
      refine a_dload C (pc := 328) 2 dX9_makes_328 rfl ?_
      refine a_dsub C (pc := 330) dX9_makes_330 h.1 ?_
      replace h := h.2
      refine a_iload C (pc := 331) 4 dX9_makes_331 rfl ?_
      refine a_iconst C (pc := 333) dX9_makes_333 ic_1 ?_
      refine a_isub C (pc := 334) dX9_makes_334 ?_
      refine a_i2d C (pc := 335) dX9_makes_335 ?_
      refine a_dmul C (pc := 336) dX9_makes_336 h.1 ?_
      replace h := h.2
      refine a_dload C (pc := 337) 3 dX9_makes_337 rfl ?_
      refine a_dload C (pc := 339) 2 dX9_makes_339 rfl ?_
      refine a_dsub C (pc := 341) dX9_makes_341 h.1 ?_
      replace h := h.2
      refine a_ddiv C (pc := 342) dX9_makes_342 h.1 ?_
      replace h := h.2
      refine a_dadd C (pc := 343) dX9_makes_343 h.1 ?_
      replace h := h.2
      refine a_ldc2d C (pc := 344) wC_X9_166 dX9_makes_344 ?_
      refine a_dadd C (pc := 347) dX9_makes_347 h.1 ?_
      replace h := h.2
      refine a_d2i C (pc := 348) dX9_makes_348 ?_
      refine a_iast C (pc := 349) (ws1 := [(h0, oX9 d0 v_thrown v_taped v_at v_documents v_terms v_latest v_filed v_drafted v_place v_over v_clock v_askedTerms v_segments v_done v_postingsDone v_postingsAll v_why v_hits), ((d0 11), aI cs 5 v_bits), ((d0 12), aI cs 5 v_codec), ((d0 13), aI cs 5 v_size), ((d0 14), aI cs 5 v_words), ((d0 8), aI cs 2560 v_often), ((d0 9), aI cs 40 v_length), ((d0 7), aI cs 512 v_term), ((d0 3), aI cs 8 v_word), ((d0 15), aI cs 2560 v_letter), ((d0 16), aI cs 12800 (upd v_impact (r_178 : Int32).toNatClampNeg (FP.d2i (FP.dadd (FP.dadd FP.dconst1 (FP.ddiv (FP.dmul (FP.dsub s0 l4) (FP.i2d (l9 - 1))) (FP.dsub l6 l4))) 4602678819172646912))))]) 10 rfl h.1 dX9_makes_349 rfl ?_
      replace h := h.2
      refine a_iinc C (pc := 350) (lv1 := [(0, .ref h0), (3, .int l3), (4, .double l4), (6, .double l6), (9, .int l9), (10, .int l10), (11, .int l11), (12, .int (l12 + 1)), (13, .int l13), (14, .double s0)]) 7 [1, 2, 3, 4, 5, 6, 7, 0, 8, 9] dX9_makes_350 rfl (congrArg (fun z => l12 + z) ic_1) (by decide) rfl ?_
      refine a_goto C (pc := 353) 232 dX9_makes_353 (by decide) ?_
      refine a_lv (lv1 := [(0, .ref h0), (3, .int l3), (4, .double l4), (6, .double l6), (9, .int l9), (10, .int l10), (11, .int l11), (12, .int (l12 + 1))]) [0, 1, 2, 3, 4, 5, 6, 7] rfl ?_
      exact hB_232 v_bits v_codec v_size v_words v_word v_letter (upd v_impact (r_178 : Int32).toNatClampNeg (FP.d2i (FP.dadd (FP.dadd FP.dconst1 (FP.ddiv (FP.dmul (FP.dsub s0 l4) (FP.i2d (l9 - 1))) (FP.dsub l6 l4))) 4602678819172646912))) l3 l4 l6 l9 l10 l11 (l12 + 1) h
    · have h := h.2 hc
      refine a_iload C (pc := 320) 4 dX9_makes_320 rfl ?_
      refine a_goto C (pc := 322) 349 dX9_makes_322 (by decide) ?_
      refine a_iast C (pc := 349) (ws1 := [(h0, oX9 d0 v_thrown v_taped v_at v_documents v_terms v_latest v_filed v_drafted v_place v_over v_clock v_askedTerms v_segments v_done v_postingsDone v_postingsAll v_why v_hits), ((d0 11), aI cs 5 v_bits), ((d0 12), aI cs 5 v_codec), ((d0 13), aI cs 5 v_size), ((d0 14), aI cs 5 v_words), ((d0 8), aI cs 2560 v_often), ((d0 9), aI cs 40 v_length), ((d0 7), aI cs 512 v_term), ((d0 3), aI cs 8 v_word), ((d0 15), aI cs 2560 v_letter), ((d0 16), aI cs 12800 (upd v_impact (r_178 : Int32).toNatClampNeg l9))]) 10 rfl h.1 dX9_makes_349 rfl ?_
      replace h := h.2
      refine a_iinc C (pc := 350) (lv1 := [(0, .ref h0), (3, .int l3), (4, .double l4), (6, .double l6), (9, .int l9), (10, .int l10), (11, .int l11), (12, .int (l12 + 1)), (13, .int l13), (14, .double s0)]) 7 [1, 2, 3, 4, 5, 6, 7, 0, 8, 9] dX9_makes_350 rfl (congrArg (fun z => l12 + z) ic_1) (by decide) rfl ?_
      refine a_goto C (pc := 353) 232 dX9_makes_353 (by decide) ?_
      refine a_lv (lv1 := [(0, .ref h0), (3, .int l3), (4, .double l4), (6, .double l6), (9, .int l9), (10, .int l10), (11, .int l11), (12, .int (l12 + 1))]) [0, 1, 2, 3, 4, 5, 6, 7] rfl ?_
      exact hB_232 v_bits v_codec v_size v_words v_word v_letter (upd v_impact (r_178 : Int32).toNatClampNeg l9) l3 l4 l6 l9 l10 l11 (l12 + 1) h
  · have h := h.2 hc
    refine a_iconst C (pc := 308) dX9_makes_308 ic_0 ?_
    refine a_goto C (pc := 309) 349 dX9_makes_309 (by decide) ?_
    refine a_iast C (pc := 349) (ws1 := [(h0, oX9 d0 v_thrown v_taped v_at v_documents v_terms v_latest v_filed v_drafted v_place v_over v_clock v_askedTerms v_segments v_done v_postingsDone v_postingsAll v_why v_hits), ((d0 11), aI cs 5 v_bits), ((d0 12), aI cs 5 v_codec), ((d0 13), aI cs 5 v_size), ((d0 14), aI cs 5 v_words), ((d0 8), aI cs 2560 v_often), ((d0 9), aI cs 40 v_length), ((d0 7), aI cs 512 v_term), ((d0 3), aI cs 8 v_word), ((d0 15), aI cs 2560 v_letter), ((d0 16), aI cs 12800 (upd v_impact (r_178 : Int32).toNatClampNeg 0))]) 10 rfl h.1 dX9_makes_349 rfl ?_
    replace h := h.2
    refine a_iinc C (pc := 350) (lv1 := [(0, .ref h0), (3, .int l3), (4, .double l4), (6, .double l6), (9, .int l9), (10, .int l10), (11, .int l11), (12, .int (l12 + 1)), (13, .int l13), (14, .double s0)]) 7 [1, 2, 3, 4, 5, 6, 7, 0, 8, 9] dX9_makes_350 rfl (congrArg (fun z => l12 + z) ic_1) (by decide) rfl ?_
    refine a_goto C (pc := 353) 232 dX9_makes_353 (by decide) ?_
    refine a_lv (lv1 := [(0, .ref h0), (3, .int l3), (4, .double l4), (6, .double l6), (9, .int l9), (10, .int l10), (11, .int l11), (12, .int (l12 + 1))]) [0, 1, 2, 3, 4, 5, 6, 7] rfl ?_
    exact hB_232 v_bits v_codec v_size v_words v_word v_letter (upd v_impact (r_178 : Int32).toNatClampNeg 0) l3 l4 l6 l9 l10 l11 (l12 + 1) h
set_option maxRecDepth 100000 in
set_option maxHeartbeats 4000000 in
theorem w_X9_makes_269 {Γ : XG} {Lx : Launch} {Dx : va_G} {cs : Nat → ClassId} {h0 : Nat} {d0 : Nat → Nat} {v_thrown : Int32} {v_taped : Int32} {v_at : Int32} {v_documents : Int32} {v_terms : Int32} {v_latest : Int32} {v_filed : Int32} {v_drafted : Int32} {v_place : Int32} {v_over : Int32} {v_clock : Int64} {v_askedTerms : Int32} {v_segments : Int32} {v_done : Int32} {v_postingsDone : Int32} {v_postingsAll : Int32} {v_why : Int32} {v_hits : Int32} {v_often : Nat → Int32} {v_length : Nat → Int32} {v_term : Nat → Int32} {B_232 : (Nat → Int32) → (Nat → Int32) → (Nat → Int32) → (Nat → Int32) → (Nat → Int32) → (Nat → Int32) → (Nat → Int32) → Int32 → UInt64 → UInt64 → Int32 → Int32 → Int32 → Int32 → Prop} {K_356 : (Nat → Int32) → (Nat → Int32) → (Nat → Int32) → (Nat → Int32) → (Nat → Int32) → (Nat → Int32) → (Nat → Int32) → Int32 → UInt64 → UInt64 → Int32 → Int32 → Prop} {Φ : (Nat → Int32) → (Nat → Int32) → (Nat → Int32) → (Nat → Int32) → (Nat → Int32) → (Nat → Int32) → (Nat → Int32) → Prop} {k n9 : Nat} (C : CX Γ Lx Dx cs cX9_makes RX9 "makes" 16 none 2 59 0 0 (qEC cs 0 0 [] (R_X9_makes cs h0 d0 v_thrown v_taped v_at v_documents v_terms v_latest v_filed v_drafted v_place v_over v_clock v_askedTerms v_segments v_done v_postingsDone v_postingsAll v_why v_hits v_often v_length v_term Φ) (fun _ _ => False))) (hkm : k ≤ 0) (hnm : n9 ≤ 0) (v_bits : Nat → Int32) (v_codec : Nat → Int32) (v_size : Nat → Int32) (v_words : Nat → Int32) (v_word : Nat → Int32) (v_letter : Nat → Int32) (v_impact : Nat → Int32) (l3 : Int32) (l4 : UInt64) (l6 : UInt64) (l9 : Int32) (l10 : Int32) (l11 : Int32) (l12 : Int32) (s0 : Int32) (h : J_X9_makes_269 v_documents v_terms v_bits v_codec v_size v_words v_often v_length v_term v_word v_letter v_impact l3 l4 l6 l9 l10 l11 l12 s0 B_232 K_356 Φ) (hB_232 : ∀ (v_bits_206 : Nat → Int32) (v_codec_207 : Nat → Int32) (v_size_208 : Nat → Int32) (v_words_209 : Nat → Int32) (v_word_210 : Nat → Int32) (v_letter_211 : Nat → Int32) (v_impact_212 : Nat → Int32) (l3_213 : Int32) (l4_214 : UInt64) (l6_215 : UInt64) (l9_216 : Int32) (l10_217 : Int32) (l11_218 : Int32) (l12_219 : Int32), B_232 v_bits_206 v_codec_207 v_size_208 v_words_209 v_word_210 v_letter_211 v_impact_212 l3_213 l4_214 l6_215 l9_216 l10_217 l11_218 l12_219 → AW Γ k n9 232 [(0, .ref h0), (3, .int l3_213), (4, .double l4_214), (6, .double l6_215), (9, .int l9_216), (10, .int l10_217), (11, .int l11_218), (12, .int l12_219)] [] [(h0, oX9 d0 v_thrown v_taped v_at v_documents v_terms v_latest v_filed v_drafted v_place v_over v_clock v_askedTerms v_segments v_done v_postingsDone v_postingsAll v_why v_hits), ((d0 11), aI cs 5 v_bits_206), ((d0 12), aI cs 5 v_codec_207), ((d0 13), aI cs 5 v_size_208), ((d0 14), aI cs 5 v_words_209), ((d0 8), aI cs 2560 v_often), ((d0 9), aI cs 40 v_length), ((d0 7), aI cs 512 v_term), ((d0 3), aI cs 8 v_word_210), ((d0 15), aI cs 2560 v_letter_211), ((d0 16), aI cs 12800 v_impact_212)]) (hK_356 : ∀ (v_bits_220 : Nat → Int32) (v_codec_221 : Nat → Int32) (v_size_222 : Nat → Int32) (v_words_223 : Nat → Int32) (v_word_224 : Nat → Int32) (v_letter_225 : Nat → Int32) (v_impact_226 : Nat → Int32) (l3_227 : Int32) (l4_228 : UInt64) (l6_229 : UInt64) (l9_230 : Int32) (l10_231 : Int32), K_356 v_bits_220 v_codec_221 v_size_222 v_words_223 v_word_224 v_letter_225 v_impact_226 l3_227 l4_228 l6_229 l9_230 l10_231 → AW Γ k n9 356 [(0, .ref h0), (3, .int l3_227), (4, .double l4_228), (6, .double l6_229), (9, .int l9_230), (10, .int l10_231)] [] [(h0, oX9 d0 v_thrown v_taped v_at v_documents v_terms v_latest v_filed v_drafted v_place v_over v_clock v_askedTerms v_segments v_done v_postingsDone v_postingsAll v_why v_hits), ((d0 11), aI cs 5 v_bits_220), ((d0 12), aI cs 5 v_codec_221), ((d0 13), aI cs 5 v_size_222), ((d0 14), aI cs 5 v_words_223), ((d0 8), aI cs 2560 v_often), ((d0 9), aI cs 40 v_length), ((d0 7), aI cs 512 v_term), ((d0 3), aI cs 8 v_word_224), ((d0 15), aI cs 2560 v_letter_225), ((d0 16), aI cs 12800 v_impact_226)]) : AW Γ k n9 269 [(0, .ref h0), (3, .int l3), (4, .double l4), (6, .double l6), (9, .int l9), (10, .int l10), (11, .int l11), (12, .int l12)] [.int s0] [(h0, oX9 d0 v_thrown v_taped v_at v_documents v_terms v_latest v_filed v_drafted v_place v_over v_clock v_askedTerms v_segments v_done v_postingsDone v_postingsAll v_why v_hits), ((d0 11), aI cs 5 v_bits), ((d0 12), aI cs 5 v_codec), ((d0 13), aI cs 5 v_size), ((d0 14), aI cs 5 v_words), ((d0 8), aI cs 2560 v_often), ((d0 9), aI cs 40 v_length), ((d0 7), aI cs 512 v_term), ((d0 3), aI cs 8 v_word), ((d0 15), aI cs 2560 v_letter), ((d0 16), aI cs 12800 v_impact)] := by
  unfold J_X9_makes_269 at h
  refine a_istore C (pc := 269) (lv1 := [(0, .ref h0), (3, .int l3), (4, .double l4), (6, .double l6), (9, .int l9), (10, .int l10), (11, .int l11), (12, .int l12), (13, .int s0)]) [1, 2, 3, 4, 5, 6, 7, 8, 0] dX9_makes_269 (by decide) rfl ?_
  refine a_iload C (pc := 271) 8 dX9_makes_271 rfl ?_
  refine a_if_eq C (pc := 273) 287 dX9_makes_273 (by decide) (fun hc => ?_) (fun hc => ?_)
  · have h := h.1 hc
    refine a_dconst0 C (pc := 287) dX9_makes_287 ?_
    exact w_X9_makes_288 C hkm hnm v_bits v_codec v_size v_words v_word v_letter v_impact l3 l4 l6 l9 l10 l11 l12 s0 FP.dconst0 h hB_232 hK_356
  · have h := h.2 hc
    refine a_aload_n C (pc := 276) 0 dX9_makes_276 rfl rfl ?_
    refine a_iload C (pc := 277) 5 dX9_makes_277 rfl ?_
    refine a_iload C (pc := 279) 7 dX9_makes_279 rfl ?_
    refine a_callV C (pc := 281) (av := [.int l10, .int l12]) (wr := [((d0 11), aI cs 5 v_bits), ((d0 12), aI cs 5 v_codec), ((d0 13), aI cs 5 v_size), ((d0 14), aI cs 5 v_words), ((d0 7), aI cs 512 v_term), ((d0 3), aI cs 8 v_word), ((d0 15), aI cs 2560 v_letter), ((d0 16), aI cs 12800 v_impact)]) (m_X9_scoreOf Lx Dx cs h0 d0 v_thrown v_taped v_at v_documents v_terms v_latest v_filed v_drafted v_place v_over v_clock v_askedTerms v_segments v_done v_postingsDone v_postingsAll v_why v_hits v_length v_often l10 l12 _ h) [0, 6, 5] [1, 2, 3, 4, 7, 8, 9, 10] rfl rfl (by decide) (by decide) (by decide) wM_X9_155 wb_X9_scoreOf hy_X9_scoreOf (q0 := 0) rfl rfl rfl ⟨Nat.le_of_ble_eq_true rfl, Nat.le_of_ble_eq_true rfl⟩ (Nat.le_of_ble_eq_true rfl) hkm hnm rfl dX9_makes_281 (fun v w1 hw => ?_) [] rfl (fun _ _ h => h.elim)
    obtain ⟨r_205, rfl, rfl, h⟩ := hw
    refine a_ws (st1 := [.double r_205]) (ws1 := [(h0, oX9 d0 v_thrown v_taped v_at v_documents v_terms v_latest v_filed v_drafted v_place v_over v_clock v_askedTerms v_segments v_done v_postingsDone v_postingsAll v_why v_hits), ((d0 11), aI cs 5 v_bits), ((d0 12), aI cs 5 v_codec), ((d0 13), aI cs 5 v_size), ((d0 14), aI cs 5 v_words), ((d0 8), aI cs 2560 v_often), ((d0 9), aI cs 40 v_length), ((d0 7), aI cs 512 v_term), ((d0 3), aI cs 8 v_word), ((d0 15), aI cs 2560 v_letter), ((d0 16), aI cs 12800 v_impact)]) k n9 284 [8, 0, 1, 2, 3, 10, 9, 4, 5, 6, 7] rfl rfl rfl rfl (by decide) rfl ?_
    refine a_goto C (pc := 284) 288 dX9_makes_284 (by decide) ?_
    exact w_X9_makes_288 C hkm hnm v_bits v_codec v_size v_words v_word v_letter v_impact l3 l4 l6 l9 l10 l11 l12 s0 r_205 h hB_232 hK_356
set_option maxRecDepth 100000 in
set_option maxHeartbeats 4000000 in
theorem w_X9_makes_268 {Γ : XG} {Lx : Launch} {Dx : va_G} {cs : Nat → ClassId} {h0 : Nat} {d0 : Nat → Nat} {v_thrown : Int32} {v_taped : Int32} {v_at : Int32} {v_documents : Int32} {v_terms : Int32} {v_latest : Int32} {v_filed : Int32} {v_drafted : Int32} {v_place : Int32} {v_over : Int32} {v_clock : Int64} {v_askedTerms : Int32} {v_segments : Int32} {v_done : Int32} {v_postingsDone : Int32} {v_postingsAll : Int32} {v_why : Int32} {v_hits : Int32} {v_often : Nat → Int32} {v_length : Nat → Int32} {v_term : Nat → Int32} {B_232 : (Nat → Int32) → (Nat → Int32) → (Nat → Int32) → (Nat → Int32) → (Nat → Int32) → (Nat → Int32) → (Nat → Int32) → Int32 → UInt64 → UInt64 → Int32 → Int32 → Int32 → Int32 → Prop} {K_356 : (Nat → Int32) → (Nat → Int32) → (Nat → Int32) → (Nat → Int32) → (Nat → Int32) → (Nat → Int32) → (Nat → Int32) → Int32 → UInt64 → UInt64 → Int32 → Int32 → Prop} {Φ : (Nat → Int32) → (Nat → Int32) → (Nat → Int32) → (Nat → Int32) → (Nat → Int32) → (Nat → Int32) → (Nat → Int32) → Prop} {k n9 : Nat} (C : CX Γ Lx Dx cs cX9_makes RX9 "makes" 16 none 2 59 0 0 (qEC cs 0 0 [] (R_X9_makes cs h0 d0 v_thrown v_taped v_at v_documents v_terms v_latest v_filed v_drafted v_place v_over v_clock v_askedTerms v_segments v_done v_postingsDone v_postingsAll v_why v_hits v_often v_length v_term Φ) (fun _ _ => False))) (hkm : k ≤ 0) (hnm : n9 ≤ 0) (v_bits : Nat → Int32) (v_codec : Nat → Int32) (v_size : Nat → Int32) (v_words : Nat → Int32) (v_word : Nat → Int32) (v_letter : Nat → Int32) (v_impact : Nat → Int32) (l3 : Int32) (l4 : UInt64) (l6 : UInt64) (l9 : Int32) (l10 : Int32) (l11 : Int32) (l12 : Int32) (h : J_X9_makes_268 v_documents v_terms v_bits v_codec v_size v_words v_often v_length v_term v_word v_letter v_impact l3 l4 l6 l9 l10 l11 l12 B_232 K_356 Φ) (hB_232 : ∀ (v_bits_232 : Nat → Int32) (v_codec_233 : Nat → Int32) (v_size_234 : Nat → Int32) (v_words_235 : Nat → Int32) (v_word_236 : Nat → Int32) (v_letter_237 : Nat → Int32) (v_impact_238 : Nat → Int32) (l3_239 : Int32) (l4_240 : UInt64) (l6_241 : UInt64) (l9_242 : Int32) (l10_243 : Int32) (l11_244 : Int32) (l12_245 : Int32), B_232 v_bits_232 v_codec_233 v_size_234 v_words_235 v_word_236 v_letter_237 v_impact_238 l3_239 l4_240 l6_241 l9_242 l10_243 l11_244 l12_245 → AW Γ k n9 232 [(0, .ref h0), (3, .int l3_239), (4, .double l4_240), (6, .double l6_241), (9, .int l9_242), (10, .int l10_243), (11, .int l11_244), (12, .int l12_245)] [] [(h0, oX9 d0 v_thrown v_taped v_at v_documents v_terms v_latest v_filed v_drafted v_place v_over v_clock v_askedTerms v_segments v_done v_postingsDone v_postingsAll v_why v_hits), ((d0 11), aI cs 5 v_bits_232), ((d0 12), aI cs 5 v_codec_233), ((d0 13), aI cs 5 v_size_234), ((d0 14), aI cs 5 v_words_235), ((d0 8), aI cs 2560 v_often), ((d0 9), aI cs 40 v_length), ((d0 7), aI cs 512 v_term), ((d0 3), aI cs 8 v_word_236), ((d0 15), aI cs 2560 v_letter_237), ((d0 16), aI cs 12800 v_impact_238)]) (hK_356 : ∀ (v_bits_246 : Nat → Int32) (v_codec_247 : Nat → Int32) (v_size_248 : Nat → Int32) (v_words_249 : Nat → Int32) (v_word_250 : Nat → Int32) (v_letter_251 : Nat → Int32) (v_impact_252 : Nat → Int32) (l3_253 : Int32) (l4_254 : UInt64) (l6_255 : UInt64) (l9_256 : Int32) (l10_257 : Int32), K_356 v_bits_246 v_codec_247 v_size_248 v_words_249 v_word_250 v_letter_251 v_impact_252 l3_253 l4_254 l6_255 l9_256 l10_257 → AW Γ k n9 356 [(0, .ref h0), (3, .int l3_253), (4, .double l4_254), (6, .double l6_255), (9, .int l9_256), (10, .int l10_257)] [] [(h0, oX9 d0 v_thrown v_taped v_at v_documents v_terms v_latest v_filed v_drafted v_place v_over v_clock v_askedTerms v_segments v_done v_postingsDone v_postingsAll v_why v_hits), ((d0 11), aI cs 5 v_bits_246), ((d0 12), aI cs 5 v_codec_247), ((d0 13), aI cs 5 v_size_248), ((d0 14), aI cs 5 v_words_249), ((d0 8), aI cs 2560 v_often), ((d0 9), aI cs 40 v_length), ((d0 7), aI cs 512 v_term), ((d0 3), aI cs 8 v_word_250), ((d0 15), aI cs 2560 v_letter_251), ((d0 16), aI cs 12800 v_impact_252)]) : AW Γ k n9 268 [(0, .ref h0), (3, .int l3), (4, .double l4), (6, .double l6), (9, .int l9), (10, .int l10), (11, .int l11), (12, .int l12)] [] [(h0, oX9 d0 v_thrown v_taped v_at v_documents v_terms v_latest v_filed v_drafted v_place v_over v_clock v_askedTerms v_segments v_done v_postingsDone v_postingsAll v_why v_hits), ((d0 11), aI cs 5 v_bits), ((d0 12), aI cs 5 v_codec), ((d0 13), aI cs 5 v_size), ((d0 14), aI cs 5 v_words), ((d0 8), aI cs 2560 v_often), ((d0 9), aI cs 40 v_length), ((d0 7), aI cs 512 v_term), ((d0 3), aI cs 8 v_word), ((d0 15), aI cs 2560 v_letter), ((d0 16), aI cs 12800 v_impact)] := by
  unfold J_X9_makes_268 at h
  refine a_iconst C (pc := 268) dX9_makes_268 ic_0 ?_
  exact w_X9_makes_269 C hkm hnm v_bits v_codec v_size v_words v_word v_letter v_impact l3 l4 l6 l9 l10 l11 l12 0 h hB_232 hK_356
set_option maxRecDepth 100000 in
set_option maxHeartbeats 4000000 in
theorem w_X9_makes_232 {Γ : XG} {Lx : Launch} {Dx : va_G} {cs : Nat → ClassId} {h0 : Nat} {d0 : Nat → Nat} {v_thrown : Int32} {v_taped : Int32} {v_at : Int32} {v_documents : Int32} {v_terms : Int32} {v_latest : Int32} {v_filed : Int32} {v_drafted : Int32} {v_place : Int32} {v_over : Int32} {v_clock : Int64} {v_askedTerms : Int32} {v_segments : Int32} {v_done : Int32} {v_postingsDone : Int32} {v_postingsAll : Int32} {v_why : Int32} {v_hits : Int32} {v_often : Nat → Int32} {v_length : Nat → Int32} {v_term : Nat → Int32} {K_356 : (Nat → Int32) → (Nat → Int32) → (Nat → Int32) → (Nat → Int32) → (Nat → Int32) → (Nat → Int32) → (Nat → Int32) → Int32 → UInt64 → UInt64 → Int32 → Int32 → Prop} {Φ : (Nat → Int32) → (Nat → Int32) → (Nat → Int32) → (Nat → Int32) → (Nat → Int32) → (Nat → Int32) → (Nat → Int32) → Prop} {k n9 : Nat} (C : CX Γ Lx Dx cs cX9_makes RX9 "makes" 16 none 2 59 0 0 (qEC cs 0 0 [] (R_X9_makes cs h0 d0 v_thrown v_taped v_at v_documents v_terms v_latest v_filed v_drafted v_place v_over v_clock v_askedTerms v_segments v_done v_postingsDone v_postingsAll v_why v_hits v_often v_length v_term Φ) (fun _ _ => False))) (hkm : k ≤ 0) (hnm : n9 ≤ 0) : ∀ n : Nat, ∀ (v_bits : Nat → Int32) (v_codec : Nat → Int32) (v_size : Nat → Int32) (v_words : Nat → Int32) (v_word : Nat → Int32) (v_letter : Nat → Int32) (v_impact : Nat → Int32) (l3 : Int32) (l4 : UInt64) (l6 : UInt64) (l9 : Int32) (l10 : Int32) (l11 : Int32) (l12 : Int32), L_X9_makes_232 n v_documents v_terms v_bits v_codec v_size v_words v_often v_length v_term v_word v_letter v_impact l3 l4 l6 l9 l10 l11 l12 K_356 Φ → (∀ (v_bits_342 : Nat → Int32) (v_codec_343 : Nat → Int32) (v_size_344 : Nat → Int32) (v_words_345 : Nat → Int32) (v_word_346 : Nat → Int32) (v_letter_347 : Nat → Int32) (v_impact_348 : Nat → Int32) (l3_349 : Int32) (l4_350 : UInt64) (l6_351 : UInt64) (l9_352 : Int32) (l10_353 : Int32), K_356 v_bits_342 v_codec_343 v_size_344 v_words_345 v_word_346 v_letter_347 v_impact_348 l3_349 l4_350 l6_351 l9_352 l10_353 → AW Γ k n9 356 [(0, .ref h0), (3, .int l3_349), (4, .double l4_350), (6, .double l6_351), (9, .int l9_352), (10, .int l10_353)] [] [(h0, oX9 d0 v_thrown v_taped v_at v_documents v_terms v_latest v_filed v_drafted v_place v_over v_clock v_askedTerms v_segments v_done v_postingsDone v_postingsAll v_why v_hits), ((d0 11), aI cs 5 v_bits_342), ((d0 12), aI cs 5 v_codec_343), ((d0 13), aI cs 5 v_size_344), ((d0 14), aI cs 5 v_words_345), ((d0 8), aI cs 2560 v_often), ((d0 9), aI cs 40 v_length), ((d0 7), aI cs 512 v_term), ((d0 3), aI cs 8 v_word_346), ((d0 15), aI cs 2560 v_letter_347), ((d0 16), aI cs 12800 v_impact_348)]) → AW Γ k n9 232 [(0, .ref h0), (3, .int l3), (4, .double l4), (6, .double l6), (9, .int l9), (10, .int l10), (11, .int l11), (12, .int l12)] [] [(h0, oX9 d0 v_thrown v_taped v_at v_documents v_terms v_latest v_filed v_drafted v_place v_over v_clock v_askedTerms v_segments v_done v_postingsDone v_postingsAll v_why v_hits), ((d0 11), aI cs 5 v_bits), ((d0 12), aI cs 5 v_codec), ((d0 13), aI cs 5 v_size), ((d0 14), aI cs 5 v_words), ((d0 8), aI cs 2560 v_often), ((d0 9), aI cs 40 v_length), ((d0 7), aI cs 512 v_term), ((d0 3), aI cs 8 v_word), ((d0 15), aI cs 2560 v_letter), ((d0 16), aI cs 12800 v_impact)] := by
  intro n
  induction n with
  | zero =>
    intro v_bits v_codec v_size v_words v_word v_letter v_impact l3 l4 l6 l9 l10 l11 l12 h
    exact False.elim h
  | succ n ih =>
    intro v_bits v_codec v_size v_words v_word v_letter v_impact l3 l4 l6 l9 l10 l11 l12 h hK_356
    rw [L_X9_makes_232] at h
    refine a_iload C (pc := 232) 7 dX9_makes_232 rfl ?_
    refine a_bipush C (pc := 234) dX9_makes_234 bp_40 ?_
    refine a_icmp_ge C (pc := 236) 356 dX9_makes_236 (by decide) (fun hc => ?_) (fun hc => ?_)
    · have h := h.1 hc
      refine a_lv (lv1 := [(0, .ref h0), (3, .int l3), (4, .double l4), (6, .double l6), (9, .int l9), (10, .int l10)]) [0, 1, 2, 3, 4, 5] rfl ?_
      exact hK_356 v_bits v_codec v_size v_words v_word v_letter v_impact l3 l4 l6 l9 l10 h
    · have h := h.2 hc
      refine a_iload C (pc := 239) 7 dX9_makes_239 rfl ?_
      refine a_aload_n C (pc := 241) 0 dX9_makes_241 rfl rfl ?_
      refine a_get C (pc := 242) 0 5 inW_X9 rfl rfl (Nat.le_of_ble_eq_true rfl) wF_X9_120 rfl rfl dX9_makes_242 ?_
      refine a_icmp_ge C (pc := 245) 268 dX9_makes_245 (by decide) (fun hc => ?_) (fun hc => ?_)
      · have h := h.1 hc
        exact w_X9_makes_268 C hkm hnm v_bits v_codec v_size v_words v_word v_letter v_impact l3 l4 l6 l9 l10 l11 l12 h (fun v_bits_272 v_codec_273 v_size_274 v_words_275 v_word_276 v_letter_277 v_impact_278 l3_279 l4_280 l6_281 l9_282 l10_283 l11_284 l12_285 h => ih v_bits_272 v_codec_273 v_size_274 v_words_275 v_word_276 v_letter_277 v_impact_278 l3_279 l4_280 l6_281 l9_282 l10_283 l11_284 l12_285 h hK_356) hK_356
      · have h := h.2 hc
        refine a_aload_n C (pc := 248) 0 dX9_makes_248 rfl rfl ?_
        refine a_get C (pc := 249) 0 8 inW_X9 rfl rfl (Nat.le_of_ble_eq_true rfl) wF_X9_19 rfl rfl dX9_makes_249 ?_
        refine a_bipush C (pc := 252) dX9_makes_252 bp_40 ?_
        refine a_iload C (pc := 254) 5 dX9_makes_254 rfl ?_
        refine a_imul C (pc := 256) dX9_makes_256 ?_
        refine a_iload C (pc := 257) 7 dX9_makes_257 rfl ?_
        refine a_iadd C (pc := 259) dX9_makes_259 ?_
        refine a_iald C (pc := 260) 5 rfl h.1 dX9_makes_260 ?_
        replace h := h.2
        refine a_if_le C (pc := 261) 268 dX9_makes_261 (by decide) (fun hc => ?_) (fun hc => ?_)
        · have h := h.1 hc
          exact w_X9_makes_268 C hkm hnm v_bits v_codec v_size v_words v_word v_letter v_impact l3 l4 l6 l9 l10 l11 l12 h (fun v_bits_300 v_codec_301 v_size_302 v_words_303 v_word_304 v_letter_305 v_impact_306 l3_307 l4_308 l6_309 l9_310 l10_311 l11_312 l12_313 h => ih v_bits_300 v_codec_301 v_size_302 v_words_303 v_word_304 v_letter_305 v_impact_306 l3_307 l4_308 l6_309 l9_310 l10_311 l11_312 l12_313 h hK_356) hK_356
        · have h := h.2 hc
          refine a_iconst C (pc := 264) dX9_makes_264 ic_1 ?_
          refine a_goto C (pc := 265) 269 dX9_makes_265 (by decide) ?_
          exact w_X9_makes_269 C hkm hnm v_bits v_codec v_size v_words v_word v_letter v_impact l3 l4 l6 l9 l10 l11 l12 1 h (fun v_bits_328 v_codec_329 v_size_330 v_words_331 v_word_332 v_letter_333 v_impact_334 l3_335 l4_336 l6_337 l9_338 l10_339 l11_340 l12_341 h => ih v_bits_328 v_codec_329 v_size_330 v_words_331 v_word_332 v_letter_333 v_impact_334 l3_335 l4_336 l6_337 l9_338 l10_339 l11_340 l12_341 h hK_356) hK_356
set_option maxRecDepth 100000 in
set_option maxHeartbeats 4000000 in
theorem w_X9_makes_164 {Γ : XG} {Lx : Launch} {Dx : va_G} {cs : Nat → ClassId} {h0 : Nat} {d0 : Nat → Nat} {v_thrown : Int32} {v_taped : Int32} {v_at : Int32} {v_documents : Int32} {v_terms : Int32} {v_latest : Int32} {v_filed : Int32} {v_drafted : Int32} {v_place : Int32} {v_over : Int32} {v_clock : Int64} {v_askedTerms : Int32} {v_segments : Int32} {v_done : Int32} {v_postingsDone : Int32} {v_postingsAll : Int32} {v_why : Int32} {v_hits : Int32} {v_often : Nat → Int32} {v_length : Nat → Int32} {v_term : Nat → Int32} {K_362 : (Nat → Int32) → (Nat → Int32) → (Nat → Int32) → (Nat → Int32) → (Nat → Int32) → (Nat → Int32) → (Nat → Int32) → Prop} {Φ : (Nat → Int32) → (Nat → Int32) → (Nat → Int32) → (Nat → Int32) → (Nat → Int32) → (Nat → Int32) → (Nat → Int32) → Prop} {k n9 : Nat} (C : CX Γ Lx Dx cs cX9_makes RX9 "makes" 16 none 2 59 0 0 (qEC cs 0 0 [] (R_X9_makes cs h0 d0 v_thrown v_taped v_at v_documents v_terms v_latest v_filed v_drafted v_place v_over v_clock v_askedTerms v_segments v_done v_postingsDone v_postingsAll v_why v_hits v_often v_length v_term Φ) (fun _ _ => False))) (hkm : k ≤ 0) (hnm : n9 ≤ 0) : ∀ n : Nat, ∀ (v_bits : Nat → Int32) (v_codec : Nat → Int32) (v_size : Nat → Int32) (v_words : Nat → Int32) (v_word : Nat → Int32) (v_letter : Nat → Int32) (v_impact : Nat → Int32) (l3 : Int32) (l4 : UInt64) (l6 : UInt64) (l9 : Int32) (l10 : Int32), L_X9_makes_164 n v_documents v_terms v_bits v_codec v_size v_words v_often v_length v_term v_word v_letter v_impact l3 l4 l6 l9 l10 K_362 Φ → (∀ (v_bits_366 : Nat → Int32) (v_codec_367 : Nat → Int32) (v_size_368 : Nat → Int32) (v_words_369 : Nat → Int32) (v_word_370 : Nat → Int32) (v_letter_371 : Nat → Int32) (v_impact_372 : Nat → Int32), K_362 v_bits_366 v_codec_367 v_size_368 v_words_369 v_word_370 v_letter_371 v_impact_372 → AW Γ k n9 362 [] [] [(h0, oX9 d0 v_thrown v_taped v_at v_documents v_terms v_latest v_filed v_drafted v_place v_over v_clock v_askedTerms v_segments v_done v_postingsDone v_postingsAll v_why v_hits), ((d0 11), aI cs 5 v_bits_366), ((d0 12), aI cs 5 v_codec_367), ((d0 13), aI cs 5 v_size_368), ((d0 14), aI cs 5 v_words_369), ((d0 8), aI cs 2560 v_often), ((d0 9), aI cs 40 v_length), ((d0 7), aI cs 512 v_term), ((d0 3), aI cs 8 v_word_370), ((d0 15), aI cs 2560 v_letter_371), ((d0 16), aI cs 12800 v_impact_372)]) → AW Γ k n9 164 [(0, .ref h0), (3, .int l3), (4, .double l4), (6, .double l6), (9, .int l9), (10, .int l10)] [] [(h0, oX9 d0 v_thrown v_taped v_at v_documents v_terms v_latest v_filed v_drafted v_place v_over v_clock v_askedTerms v_segments v_done v_postingsDone v_postingsAll v_why v_hits), ((d0 11), aI cs 5 v_bits), ((d0 12), aI cs 5 v_codec), ((d0 13), aI cs 5 v_size), ((d0 14), aI cs 5 v_words), ((d0 8), aI cs 2560 v_often), ((d0 9), aI cs 40 v_length), ((d0 7), aI cs 512 v_term), ((d0 3), aI cs 8 v_word), ((d0 15), aI cs 2560 v_letter), ((d0 16), aI cs 12800 v_impact)] := by
  intro n
  induction n with
  | zero =>
    intro v_bits v_codec v_size v_words v_word v_letter v_impact l3 l4 l6 l9 l10 h
    exact False.elim h
  | succ n ih =>
    intro v_bits v_codec v_size v_words v_word v_letter v_impact l3 l4 l6 l9 l10 h hK_362
    rw [L_X9_makes_164] at h
    refine a_iload C (pc := 164) 5 dX9_makes_164 rfl ?_
    refine a_aload_n C (pc := 166) 0 dX9_makes_166 rfl rfl ?_
    refine a_get C (pc := 167) 0 6 inW_X9 rfl rfl (Nat.le_of_ble_eq_true rfl) wF_X9_113 rfl rfl dX9_makes_167 ?_
    refine a_icmp_ge C (pc := 170) 362 dX9_makes_170 (by decide) (fun hc => ?_) (fun hc => ?_)
    · have h := h.1 hc
      refine a_lv (lv1 := []) [] rfl ?_
      exact hK_362 v_bits v_codec v_size v_words v_word v_letter v_impact h
    · have h := h.2 hc
      refine a_aload_n C (pc := 173) 0 dX9_makes_173 rfl rfl ?_
      refine a_iload C (pc := 174) 5 dX9_makes_174 rfl ?_
      refine a_callV C (pc := 176) (av := [.int l10]) (wr := [((d0 11), aI cs 5 v_bits), ((d0 12), aI cs 5 v_codec), ((d0 13), aI cs 5 v_size), ((d0 14), aI cs 5 v_words), ((d0 8), aI cs 2560 v_often), ((d0 9), aI cs 40 v_length), ((d0 15), aI cs 2560 v_letter), ((d0 16), aI cs 12800 v_impact)]) (m_X9_rank Lx Dx cs h0 d0 v_thrown v_taped v_at v_documents v_terms v_latest v_filed v_drafted v_place v_over v_clock v_askedTerms v_segments v_done v_postingsDone v_postingsAll v_why v_hits v_term v_word l10 _ h) [0, 7, 8] [1, 2, 3, 4, 5, 6, 9, 10] rfl rfl (by decide) (by decide) (by decide) wM_X9_159 wb_X9_rank hy_X9_rank (q0 := 0) rfl rfl rfl ⟨Nat.le_of_ble_eq_true rfl, Nat.le_of_ble_eq_true rfl⟩ (Nat.le_of_ble_eq_true rfl) hkm hnm rfl dX9_makes_176 (fun v w1 hw => ?_) [] rfl (fun _ _ h => h.elim)
      obtain ⟨r_150, v_word_151, rfl, rfl, h⟩ := hw
      refine a_ws (st1 := [.int r_150]) (ws1 := [(h0, oX9 d0 v_thrown v_taped v_at v_documents v_terms v_latest v_filed v_drafted v_place v_over v_clock v_askedTerms v_segments v_done v_postingsDone v_postingsAll v_why v_hits), ((d0 11), aI cs 5 v_bits), ((d0 12), aI cs 5 v_codec), ((d0 13), aI cs 5 v_size), ((d0 14), aI cs 5 v_words), ((d0 8), aI cs 2560 v_often), ((d0 9), aI cs 40 v_length), ((d0 7), aI cs 512 v_term), ((d0 3), aI cs 8 v_word_151), ((d0 15), aI cs 2560 v_letter), ((d0 16), aI cs 12800 v_impact)]) k n9 179 [8, 0, 1, 2, 3, 4, 5, 9, 10, 6, 7] rfl rfl rfl rfl (by decide) rfl ?_
      refine a_istore C (pc := 179) (lv1 := [(0, .ref h0), (3, .int l3), (4, .double l4), (6, .double l6), (9, .int l9), (10, .int l10), (11, .int r_150)]) [1, 2, 3, 4, 5, 6, 0] dX9_makes_179 (by decide) rfl ?_
      refine a_iconst C (pc := 181) dX9_makes_181 ic_0 ?_
      refine a_istore C (pc := 182) (lv1 := [(0, .ref h0), (3, .int l3), (4, .double l4), (6, .double l6), (9, .int l9), (10, .int l10), (11, .int r_150), (12, .int 0)]) [1, 2, 3, 4, 5, 6, 7, 0] dX9_makes_182 (by decide) rfl ?_
      obtain ⟨n0, h⟩ := h
      refine w_X9_makes_184 C hkm hnm n0 v_bits v_codec v_size v_words v_word_151 v_letter v_impact l3 l4 l6 l9 l10 r_150 0 h ?_
      intro v_bits_165 v_codec_166 v_size_167 v_words_168 v_word_169 v_letter_170 v_impact_171 l3_172 l4_173 l6_174 l9_175 l10_176 l11_177 h
      refine a_iconst C (pc := 229) dX9_makes_229 ic_0 ?_
      refine a_istore C (pc := 230) (lv1 := [(0, .ref h0), (3, .int l3_172), (4, .double l4_173), (6, .double l6_174), (9, .int l9_175), (10, .int l10_176), (11, .int l11_177), (12, .int 0)]) [1, 2, 3, 4, 5, 6, 7, 0] dX9_makes_230 (by decide) rfl ?_
      obtain ⟨n0, h⟩ := h
      refine w_X9_makes_232 C hkm hnm n0 v_bits_165 v_codec_166 v_size_167 v_words_168 v_word_169 v_letter_170 v_impact_171 l3_172 l4_173 l6_174 l9_175 l10_176 l11_177 0 h ?_
      intro v_bits_354 v_codec_355 v_size_356 v_words_357 v_word_358 v_letter_359 v_impact_360 l3_361 l4_362 l6_363 l9_364 l10_365 h
      refine a_iinc C (pc := 356) (lv1 := [(0, .ref h0), (3, .int l3_361), (4, .double l4_362), (6, .double l6_363), (9, .int l9_364), (10, .int (l10_365 + 1))]) 5 [1, 2, 3, 4, 5, 0] dX9_makes_356 rfl (congrArg (fun z => l10_365 + z) ic_1) (by decide) rfl ?_
      refine a_goto C (pc := 359) 164 dX9_makes_359 (by decide) ?_
      exact ih v_bits_354 v_codec_355 v_size_356 v_words_357 v_word_358 v_letter_359 v_impact_360 l3_361 l4_362 l6_363 l9_364 (l10_365 + 1) h hK_362
set_option maxRecDepth 100000 in
set_option maxHeartbeats 4000000 in
theorem m_X9_makes (Lx : Launch) (Dx : va_G) (cs : Nat → ClassId) (h0 : Nat) (d0 : Nat → Nat) (v_thrown : Int32) (v_taped : Int32) (v_at : Int32) (v_documents : Int32) (v_terms : Int32) (v_latest : Int32) (v_filed : Int32) (v_drafted : Int32) (v_place : Int32) (v_over : Int32) (v_clock : Int64) (v_askedTerms : Int32) (v_segments : Int32) (v_done : Int32) (v_postingsDone : Int32) (v_postingsAll : Int32) (v_why : Int32) (v_hits : Int32) (v_bits : Nat → Int32) (v_codec : Nat → Int32) (v_size : Nat → Int32) (v_words : Nat → Int32) (v_often : Nat → Int32) (v_length : Nat → Int32) (v_term : Nat → Int32) (v_word : Nat → Int32) (v_letter : Nat → Int32) (v_impact : Nat → Int32) (l1 : Int32) (l2 : Int32) (Φ : (Nat → Int32) → (Nat → Int32) → (Nat → Int32) → (Nat → Int32) → (Nat → Int32) → (Nat → Int32) → (Nat → Int32) → Prop) (h : P_X9_makes v_documents v_terms v_bits v_codec v_size v_words v_often v_length v_term v_word v_letter v_impact l1 l2 Φ) : XMet Lx Dx cs yX9_makes cX9_makes 16 none 2 59 0 0 [.ref h0, .int l1, .int l2] [(h0, oX9 d0 v_thrown v_taped v_at v_documents v_terms v_latest v_filed v_drafted v_place v_over v_clock v_askedTerms v_segments v_done v_postingsDone v_postingsAll v_why v_hits), ((d0 11), aI cs 5 v_bits), ((d0 12), aI cs 5 v_codec), ((d0 13), aI cs 5 v_size), ((d0 14), aI cs 5 v_words), ((d0 8), aI cs 2560 v_often), ((d0 9), aI cs 40 v_length), ((d0 7), aI cs 512 v_term), ((d0 3), aI cs 8 v_word), ((d0 15), aI cs 2560 v_letter), ((d0 16), aI cs 12800 v_impact)] (R_X9_makes cs h0 d0 v_thrown v_taped v_at v_documents v_terms v_latest v_filed v_drafted v_place v_over v_clock v_askedTerms v_segments v_done v_postingsDone v_postingsAll v_why v_hits v_often v_length v_term Φ) (fun _ _ => False) := by
  refine XMet.of (own := RX9) (nm := "makes") (by decide) rfl rfl (Nat.le_of_ble_eq_true rfl) (fun Γ C => ?_)
  unfold P_X9_makes at h
  refine a_iconst C (pc := 0) dX9_makes_0 ic_4 ?_
  refine a_istore_n C (pc := 1) (lv1 := [(0, .ref h0), (1, .int l1), (2, .int l2), (3, .int 4)]) [1, 2, 3, 0] dX9_makes_1 rfl (by decide) rfl ?_
  refine a_aload_n C (pc := 2) 0 dX9_makes_2 rfl rfl ?_
  refine a_get C (pc := 3) 0 11 inW_X9 rfl rfl (Nat.le_of_ble_eq_true rfl) wF_X9_28 rfl rfl dX9_makes_3 ?_
  refine a_iload_n C (pc := 6) 3 dX9_makes_6 rfl rfl ?_
  refine a_iload_n C (pc := 7) 1 dX9_makes_7 rfl rfl ?_
  refine a_iast C (pc := 8) (ws1 := [(h0, oX9 d0 v_thrown v_taped v_at v_documents v_terms v_latest v_filed v_drafted v_place v_over v_clock v_askedTerms v_segments v_done v_postingsDone v_postingsAll v_why v_hits), ((d0 11), aI cs 5 (upd v_bits (4 : Int32).toNatClampNeg l1)), ((d0 12), aI cs 5 v_codec), ((d0 13), aI cs 5 v_size), ((d0 14), aI cs 5 v_words), ((d0 8), aI cs 2560 v_often), ((d0 9), aI cs 40 v_length), ((d0 7), aI cs 512 v_term), ((d0 3), aI cs 8 v_word), ((d0 15), aI cs 2560 v_letter), ((d0 16), aI cs 12800 v_impact)]) 1 rfl h.1 dX9_makes_8 rfl ?_
  replace h := h.2
  refine a_aload_n C (pc := 9) 0 dX9_makes_9 rfl rfl ?_
  refine a_get C (pc := 10) 0 12 inW_X9 rfl rfl (Nat.le_of_ble_eq_true rfl) wF_X9_31 rfl rfl dX9_makes_10 ?_
  refine a_iload_n C (pc := 13) 3 dX9_makes_13 rfl rfl ?_
  refine a_iload_n C (pc := 14) 2 dX9_makes_14 rfl rfl ?_
  refine a_iast C (pc := 15) (ws1 := [(h0, oX9 d0 v_thrown v_taped v_at v_documents v_terms v_latest v_filed v_drafted v_place v_over v_clock v_askedTerms v_segments v_done v_postingsDone v_postingsAll v_why v_hits), ((d0 11), aI cs 5 (upd v_bits (4 : Int32).toNatClampNeg l1)), ((d0 12), aI cs 5 (upd v_codec (4 : Int32).toNatClampNeg l2)), ((d0 13), aI cs 5 v_size), ((d0 14), aI cs 5 v_words), ((d0 8), aI cs 2560 v_often), ((d0 9), aI cs 40 v_length), ((d0 7), aI cs 512 v_term), ((d0 3), aI cs 8 v_word), ((d0 15), aI cs 2560 v_letter), ((d0 16), aI cs 12800 v_impact)]) 2 rfl h.1 dX9_makes_15 rfl ?_
  replace h := h.2
  refine a_aload_n C (pc := 16) 0 dX9_makes_16 rfl rfl ?_
  refine a_get C (pc := 17) 0 13 inW_X9 rfl rfl (Nat.le_of_ble_eq_true rfl) wF_X9_34 rfl rfl dX9_makes_17 ?_
  refine a_iload_n C (pc := 20) 3 dX9_makes_20 rfl rfl ?_
  refine a_aload_n C (pc := 21) 0 dX9_makes_21 rfl rfl ?_
  refine a_get C (pc := 22) 0 5 inW_X9 rfl rfl (Nat.le_of_ble_eq_true rfl) wF_X9_120 rfl rfl dX9_makes_22 ?_
  refine a_iast C (pc := 25) (ws1 := [(h0, oX9 d0 v_thrown v_taped v_at v_documents v_terms v_latest v_filed v_drafted v_place v_over v_clock v_askedTerms v_segments v_done v_postingsDone v_postingsAll v_why v_hits), ((d0 11), aI cs 5 (upd v_bits (4 : Int32).toNatClampNeg l1)), ((d0 12), aI cs 5 (upd v_codec (4 : Int32).toNatClampNeg l2)), ((d0 13), aI cs 5 (upd v_size (4 : Int32).toNatClampNeg v_documents)), ((d0 14), aI cs 5 v_words), ((d0 8), aI cs 2560 v_often), ((d0 9), aI cs 40 v_length), ((d0 7), aI cs 512 v_term), ((d0 3), aI cs 8 v_word), ((d0 15), aI cs 2560 v_letter), ((d0 16), aI cs 12800 v_impact)]) 3 rfl h.1 dX9_makes_25 rfl ?_
  replace h := h.2
  refine a_aload_n C (pc := 26) 0 dX9_makes_26 rfl rfl ?_
  refine a_get C (pc := 27) 0 14 inW_X9 rfl rfl (Nat.le_of_ble_eq_true rfl) wF_X9_37 rfl rfl dX9_makes_27 ?_
  refine a_iload_n C (pc := 30) 3 dX9_makes_30 rfl rfl ?_
  refine a_aload_n C (pc := 31) 0 dX9_makes_31 rfl rfl ?_
  refine a_get C (pc := 32) 0 6 inW_X9 rfl rfl (Nat.le_of_ble_eq_true rfl) wF_X9_113 rfl rfl dX9_makes_32 ?_
  refine a_iast C (pc := 35) (ws1 := [(h0, oX9 d0 v_thrown v_taped v_at v_documents v_terms v_latest v_filed v_drafted v_place v_over v_clock v_askedTerms v_segments v_done v_postingsDone v_postingsAll v_why v_hits), ((d0 11), aI cs 5 (upd v_bits (4 : Int32).toNatClampNeg l1)), ((d0 12), aI cs 5 (upd v_codec (4 : Int32).toNatClampNeg l2)), ((d0 13), aI cs 5 (upd v_size (4 : Int32).toNatClampNeg v_documents)), ((d0 14), aI cs 5 (upd v_words (4 : Int32).toNatClampNeg v_terms)), ((d0 8), aI cs 2560 v_often), ((d0 9), aI cs 40 v_length), ((d0 7), aI cs 512 v_term), ((d0 3), aI cs 8 v_word), ((d0 15), aI cs 2560 v_letter), ((d0 16), aI cs 12800 v_impact)]) 4 rfl h.1 dX9_makes_35 rfl ?_
  replace h := h.2
  refine a_dconst0 C (pc := 36) dX9_makes_36 ?_
  refine a_dstore C (pc := 37) (lv1 := [(0, .ref h0), (1, .int l1), (2, .int l2), (3, .int 4), (4, .double FP.dconst0)]) [1, 2, 3, 4, 0] dX9_makes_37 (by decide) rfl ?_
  refine a_dconst0 C (pc := 39) dX9_makes_39 ?_
  refine a_dstore C (pc := 40) (lv1 := [(0, .ref h0), (1, .int l1), (2, .int l2), (3, .int 4), (4, .double FP.dconst0), (6, .double FP.dconst0)]) [1, 2, 3, 4, 5, 0] dX9_makes_40 (by decide) rfl ?_
  refine a_iconst C (pc := 42) dX9_makes_42 ic_0 ?_
  refine a_istore C (pc := 43) (lv1 := [(0, .ref h0), (1, .int l1), (2, .int l2), (3, .int 4), (4, .double FP.dconst0), (6, .double FP.dconst0), (8, .int 0)]) [1, 2, 3, 4, 5, 6, 0] dX9_makes_43 (by decide) rfl ?_
  refine a_iconst C (pc := 45) dX9_makes_45 ic_0 ?_
  refine a_istore C (pc := 46) (lv1 := [(0, .ref h0), (1, .int l1), (2, .int l2), (3, .int 4), (4, .double FP.dconst0), (6, .double FP.dconst0), (8, .int 0), (9, .int 0)]) [1, 2, 3, 4, 5, 6, 7, 0] dX9_makes_46 (by decide) rfl ?_
  obtain ⟨n0, h⟩ := h
  refine a_lv (lv1 := [(0, .ref h0), (1, .int l1), (3, .int 4), (4, .double FP.dconst0), (6, .double FP.dconst0), (8, .int 0), (9, .int 0)]) [0, 1, 3, 4, 5, 6, 7] rfl ?_
  refine w_X9_makes_48 C (Nat.le_of_ble_eq_true rfl) (Nat.le_of_ble_eq_true rfl) n0 (upd v_bits (4 : Int32).toNatClampNeg l1) (upd v_codec (4 : Int32).toNatClampNeg l2) (upd v_size (4 : Int32).toNatClampNeg v_documents) (upd v_words (4 : Int32).toNatClampNeg v_terms) v_word v_letter v_impact l1 4 FP.dconst0 FP.dconst0 0 0 h ?_
  intro v_bits_139 v_codec_140 v_size_141 v_words_142 v_word_143 v_letter_144 v_impact_145 l1_146 l3_147 l4_148 l6_149 h
  refine a_iconst C (pc := 154) dX9_makes_154 ic_1 ?_
  refine a_iload_n C (pc := 155) 1 dX9_makes_155 rfl rfl ?_
  refine a_ishl C (pc := 156) dX9_makes_156 ?_
  refine a_iconst C (pc := 157) dX9_makes_157 ic_1 ?_
  refine a_isub C (pc := 158) dX9_makes_158 ?_
  refine a_istore C (pc := 159) (lv1 := [(0, .ref h0), (1, .int l1_146), (3, .int l3_147), (4, .double l4_148), (6, .double l6_149), (9, .int (((1 : Int32) <<< (l1_146 &&& 31)) - 1))]) [1, 2, 3, 4, 5, 0] dX9_makes_159 (by decide) rfl ?_
  refine a_iconst C (pc := 161) dX9_makes_161 ic_0 ?_
  refine a_istore C (pc := 162) (lv1 := [(0, .ref h0), (1, .int l1_146), (3, .int l3_147), (4, .double l4_148), (6, .double l6_149), (9, .int (((1 : Int32) <<< (l1_146 &&& 31)) - 1)), (10, .int 0)]) [1, 2, 3, 4, 5, 6, 0] dX9_makes_162 (by decide) rfl ?_
  obtain ⟨n0, h⟩ := h
  refine a_lv (lv1 := [(0, .ref h0), (3, .int l3_147), (4, .double l4_148), (6, .double l6_149), (9, .int (((1 : Int32) <<< (l1_146 &&& 31)) - 1)), (10, .int 0)]) [0, 2, 3, 4, 5, 6] rfl ?_
  refine w_X9_makes_164 C (Nat.le_of_ble_eq_true rfl) (Nat.le_of_ble_eq_true rfl) n0 v_bits_139 v_codec_140 v_size_141 v_words_142 v_word_143 v_letter_144 v_impact_145 l3_147 l4_148 l6_149 (((1 : Int32) <<< (l1_146 &&& 31)) - 1) 0 h ?_
  intro v_bits_373 v_codec_374 v_size_375 v_words_376 v_word_377 v_letter_378 v_impact_379 h
  exact a_return C (pc := 362) rfl dX9_makes_362 (Nat.le_of_ble_eq_true rfl) (Nat.le_of_ble_eq_true rfl) ⟨_, _, _, _, _, _, _, rfl, rfl, h⟩
set_option maxRecDepth 100000 in
set_option maxHeartbeats 4000000 in
theorem m_X9_put (Lx : Launch) (Dx : va_G) (cs : Nat → ClassId) (h0 : Nat) (d0 : Nat → Nat) (v_thrown : Int32) (v_taped : Int32) (v_at : Int32) (v_documents : Int32) (v_terms : Int32) (v_latest : Int32) (v_filed : Int32) (v_drafted : Int32) (v_place : Int32) (v_over : Int32) (v_clock : Int64) (v_askedTerms : Int32) (v_segments : Int32) (v_done : Int32) (v_postingsDone : Int32) (v_postingsAll : Int32) (v_why : Int32) (v_hits : Int32) (v_draft : Nat → Int32) (l1 : Int32) (Φ : Int32 → (Nat → Int32) → Prop) (h : P_X9_put v_drafted v_draft l1 Φ) : XMet Lx Dx cs yX9_put cX9_put 2 none 0 0 0 0 [.ref h0, .int l1] [(h0, oX9 d0 v_thrown v_taped v_at v_documents v_terms v_latest v_filed v_drafted v_place v_over v_clock v_askedTerms v_segments v_done v_postingsDone v_postingsAll v_why v_hits), ((d0 22), aI cs 16000 v_draft)] (R_X9_put cs h0 d0 v_thrown v_taped v_at v_documents v_terms v_latest v_filed v_place v_over v_clock v_askedTerms v_segments v_done v_postingsDone v_postingsAll v_why v_hits Φ) (fun _ _ => False) := by
  refine XMet.of (own := RX9) (nm := "put") (by decide) rfl rfl (Nat.le_of_ble_eq_true rfl) (fun Γ C => ?_)
  unfold P_X9_put at h
  refine a_aload_n C (pc := 0) 0 dX9_put_0 rfl rfl ?_
  refine a_get C (pc := 1) 0 22 inW_X9 rfl rfl (Nat.le_of_ble_eq_true rfl) wF_X9_59 rfl rfl dX9_put_1 ?_
  refine a_aload_n C (pc := 4) 0 dX9_put_4 rfl rfl ?_
  refine a_get C (pc := 5) 0 24 inW_X9 rfl rfl (Nat.le_of_ble_eq_true rfl) wF_X9_168 rfl rfl dX9_put_5 ?_
  refine a_iload_n C (pc := 8) 1 dX9_put_8 rfl rfl ?_
  refine a_iast C (pc := 9) (ws1 := [(h0, oX9 d0 v_thrown v_taped v_at v_documents v_terms v_latest v_filed v_drafted v_place v_over v_clock v_askedTerms v_segments v_done v_postingsDone v_postingsAll v_why v_hits), ((d0 22), aI cs 16000 (upd v_draft (v_drafted : Int32).toNatClampNeg l1))]) 1 rfl h.1 dX9_put_9 rfl ?_
  replace h := h.2
  refine a_aload_n C (pc := 10) 0 dX9_put_10 rfl rfl ?_
  refine a_dup C (pc := 11) dX9_put_11 rfl ?_
  refine a_get C (pc := 12) 0 24 inW_X9 rfl rfl (Nat.le_of_ble_eq_true rfl) wF_X9_168 rfl rfl dX9_put_12 ?_
  refine a_iconst C (pc := 15) dX9_put_15 ic_1 ?_
  refine a_iadd C (pc := 16) dX9_put_16 ?_
  refine a_put C (pc := 17) (ws1 := [(h0, oX9 d0 v_thrown v_taped v_at v_documents v_terms v_latest v_filed (v_drafted + 1) v_place v_over v_clock v_askedTerms v_segments v_done v_postingsDone v_postingsAll v_why v_hits), ((d0 22), aI cs 16000 (upd v_draft (v_drafted : Int32).toNatClampNeg l1))]) 0 24 inW_X9 tyX9 tyX9_ok nmX9 rfl rfl (Nat.le_of_ble_eq_true rfl) wF_X9_168 rfl rfl rfl rfl rfl (Nat.le_of_ble_eq_true rfl) dX9_put_17 rfl ?_
  exact a_return C (pc := 20) rfl dX9_put_20 (Nat.le_of_ble_eq_true rfl) (Nat.le_of_ble_eq_true rfl) ⟨_, _, rfl, rfl, h⟩
set_option maxRecDepth 100000 in
set_option maxHeartbeats 4000000 in
theorem w_X9_bitsOf_2 {Γ : XG} {Lx : Launch} {Dx : va_G} {cs : Nat → ClassId} {K_14 : Int32 → Prop} {Φ : Int32 → Prop} {k n9 : Nat} (C : CX Γ Lx Dx cs cX9_bitsOf RX9 "bitsOf" 2 (some .int) 0 0 0 0 (qEC cs 0 0 [] (R_X9_bitsOf cs Φ) (fun _ _ => False))) (hkm : k ≤ 0) (hnm : n9 ≤ 0) : ∀ n : Nat, ∀ (l0 : Int32) (l1 : Int32), L_X9_bitsOf_2 n l0 l1 K_14 Φ → (∀ (l1_1 : Int32), K_14 l1_1 → AW Γ k n9 14 [(1, .int l1_1)] [] []) → AW Γ k n9 2 [(0, .int l0), (1, .int l1)] [] [] := by
  intro n
  induction n with
  | zero =>
    intro l0 l1 h
    exact False.elim h
  | succ n ih =>
    intro l0 l1 h hK_14
    rw [L_X9_bitsOf_2] at h
    refine a_iload_n C (pc := 2) 0 dX9_bitsOf_2 rfl rfl ?_
    refine a_iload_n C (pc := 3) 1 dX9_bitsOf_3 rfl rfl ?_
    refine a_ishr C (pc := 4) dX9_bitsOf_4 ?_
    refine a_if_le C (pc := 5) 14 dX9_bitsOf_5 (by decide) (fun hc => ?_) (fun hc => ?_)
    · have h := h.1 hc
      refine a_lv (lv1 := [(1, .int l1)]) [1] rfl ?_
      exact hK_14 l1 h
    · have h := h.2 hc
      refine a_iinc C (pc := 8) (lv1 := [(0, .int l0), (1, .int (l1 + 1))]) 1 [1, 0] dX9_bitsOf_8 rfl (congrArg (fun z => l1 + z) ic_1) (by decide) rfl ?_
      refine a_goto C (pc := 11) 2 dX9_bitsOf_11 (by decide) ?_
      exact ih l0 (l1 + 1) h hK_14
set_option maxRecDepth 100000 in
set_option maxHeartbeats 4000000 in
theorem m_X9_bitsOf (Lx : Launch) (Dx : va_G) (cs : Nat → ClassId) (l0 : Int32) (Φ : Int32 → Prop) (h : P_X9_bitsOf l0 Φ) : XMet Lx Dx cs yX9_bitsOf cX9_bitsOf 2 (some .int) 0 0 0 0 [.int l0] [] (R_X9_bitsOf cs Φ) (fun _ _ => False) := by
  refine XMet.of (own := RX9) (nm := "bitsOf") (by decide) rfl rfl (Nat.le_of_ble_eq_true rfl) (fun Γ C => ?_)
  unfold P_X9_bitsOf at h
  refine a_iconst C (pc := 0) dX9_bitsOf_0 ic_0 ?_
  refine a_istore_n C (pc := 1) (lv1 := [(0, .int l0), (1, .int 0)]) [1, 0] dX9_bitsOf_1 rfl (by decide) rfl ?_
  obtain ⟨n0, h⟩ := h
  refine w_X9_bitsOf_2 C (Nat.le_of_ble_eq_true rfl) (Nat.le_of_ble_eq_true rfl) n0 l0 0 h ?_
  intro l1_2 h
  refine a_iload_n C (pc := 14) 0 dX9_bitsOf_14 rfl rfl ?_
  exact a_ireturn C (pc := 15) rfl dX9_bitsOf_15 (Nat.le_of_ble_eq_true rfl) (Nat.le_of_ble_eq_true rfl) ⟨_, rfl, rfl, h⟩
set_option maxRecDepth 100000 in
set_option maxHeartbeats 4000000 in
theorem m_X9_waySize (Lx : Launch) (Dx : va_G) (cs : Nat → ClassId) (l0 : Int32) (Φ : Int32 → Prop) (h : P_X9_waySize l0 Φ) : XMet Lx Dx cs yX9_waySize cX9_waySize 1 (some .int) 0 0 0 0 [.int l0] [] (R_X9_waySize cs Φ) (fun _ _ => False) := by
  refine XMet.of (own := RX9) (nm := "waySize") (by decide) rfl rfl (Nat.le_of_ble_eq_true rfl) (fun Γ C => ?_)
  unfold P_X9_waySize at h
  refine a_iload_n C (pc := 0) 0 dX9_waySize_0 rfl rfl ?_
  by_cases hc0 : l0 = 0
  · have h := h.1 hc0
    refine a_tableIn C (pc := 1) 56 dX9_waySize_1 (by rw [hc0]; decide) (by rw [hc0]; decide) (by rw [hc0]; rfl) (by decide) ?_
    refine a_iconst C (pc := 56) dX9_waySize_56 ic_1 ?_
    exact a_ireturn C (pc := 57) rfl dX9_waySize_57 (Nat.le_of_ble_eq_true rfl) (Nat.le_of_ble_eq_true rfl) ⟨_, rfl, rfl, h⟩
  · by_cases hc1 : l0 = 1
    · have h := h.2.1 hc1
      refine a_tableIn C (pc := 1) 58 dX9_waySize_1 (by rw [hc1]; decide) (by rw [hc1]; decide) (by rw [hc1]; rfl) (by decide) ?_
      refine a_iconst C (pc := 58) dX9_waySize_58 ic_2 ?_
      exact a_ireturn C (pc := 59) rfl dX9_waySize_59 (Nat.le_of_ble_eq_true rfl) (Nat.le_of_ble_eq_true rfl) ⟨_, rfl, rfl, h⟩
    · by_cases hc2 : l0 = 2
      · have h := h.2.2.1 hc2
        refine a_tableIn C (pc := 1) 60 dX9_waySize_1 (by rw [hc2]; decide) (by rw [hc2]; decide) (by rw [hc2]; rfl) (by decide) ?_
        refine a_iconst C (pc := 60) dX9_waySize_60 ic_3 ?_
        exact a_ireturn C (pc := 61) rfl dX9_waySize_61 (Nat.le_of_ble_eq_true rfl) (Nat.le_of_ble_eq_true rfl) ⟨_, rfl, rfl, h⟩
      · by_cases hc3 : l0 = 3
        · have h := h.2.2.2.1 hc3
          refine a_tableIn C (pc := 1) 62 dX9_waySize_1 (by rw [hc3]; decide) (by rw [hc3]; decide) (by rw [hc3]; rfl) (by decide) ?_
          refine a_iconst C (pc := 62) dX9_waySize_62 ic_4 ?_
          exact a_ireturn C (pc := 63) rfl dX9_waySize_63 (Nat.le_of_ble_eq_true rfl) (Nat.le_of_ble_eq_true rfl) ⟨_, rfl, rfl, h⟩
        · by_cases hc4 : l0 = 4
          · have h := h.2.2.2.2.1 hc4
            refine a_tableIn C (pc := 1) 64 dX9_waySize_1 (by rw [hc4]; decide) (by rw [hc4]; decide) (by rw [hc4]; rfl) (by decide) ?_
            refine a_iconst C (pc := 64) dX9_waySize_64 ic_5 ?_
            exact a_ireturn C (pc := 65) rfl dX9_waySize_65 (Nat.le_of_ble_eq_true rfl) (Nat.le_of_ble_eq_true rfl) ⟨_, rfl, rfl, h⟩
          · by_cases hc5 : l0 = 5
            · have h := h.2.2.2.2.2.1 hc5
              refine a_tableIn C (pc := 1) 66 dX9_waySize_1 (by rw [hc5]; decide) (by rw [hc5]; decide) (by rw [hc5]; rfl) (by decide) ?_
              refine a_bipush C (pc := 66) dX9_waySize_66 bp_6 ?_
              exact a_ireturn C (pc := 68) rfl dX9_waySize_68 (Nat.le_of_ble_eq_true rfl) (Nat.le_of_ble_eq_true rfl) ⟨_, rfl, rfl, h⟩
            · by_cases hc6 : l0 = 6
              · have h := h.2.2.2.2.2.2.1 hc6
                refine a_tableIn C (pc := 1) 69 dX9_waySize_1 (by rw [hc6]; decide) (by rw [hc6]; decide) (by rw [hc6]; rfl) (by decide) ?_
                refine a_bipush C (pc := 69) dX9_waySize_69 bp_10 ?_
                exact a_ireturn C (pc := 71) rfl dX9_waySize_71 (Nat.le_of_ble_eq_true rfl) (Nat.le_of_ble_eq_true rfl) ⟨_, rfl, rfl, h⟩
              · by_cases hc7 : l0 = 7
                · have h := h.2.2.2.2.2.2.2.1 hc7
                  refine a_tableIn C (pc := 1) 72 dX9_waySize_1 (by rw [hc7]; decide) (by rw [hc7]; decide) (by rw [hc7]; rfl) (by decide) ?_
                  refine a_bipush C (pc := 72) dX9_waySize_72 bp_15 ?_
                  exact a_ireturn C (pc := 74) rfl dX9_waySize_74 (Nat.le_of_ble_eq_true rfl) (Nat.le_of_ble_eq_true rfl) ⟨_, rfl, rfl, h⟩
                · by_cases hc8 : l0 = 8
                  · have h := h.2.2.2.2.2.2.2.2.1 hc8
                    refine a_tableIn C (pc := 1) 75 dX9_waySize_1 (by rw [hc8]; decide) (by rw [hc8]; decide) (by rw [hc8]; rfl) (by decide) ?_
                    refine a_bipush C (pc := 75) dX9_waySize_75 bp_20 ?_
                    exact a_ireturn C (pc := 77) rfl dX9_waySize_77 (Nat.le_of_ble_eq_true rfl) (Nat.le_of_ble_eq_true rfl) ⟨_, rfl, rfl, h⟩
                  · by_cases hc9 : l0 = 9
                    · have h := h.2.2.2.2.2.2.2.2.2.1 hc9
                      refine a_tableIn C (pc := 1) 78 dX9_waySize_1 (by rw [hc9]; decide) (by rw [hc9]; decide) (by rw [hc9]; rfl) (by decide) ?_
                      refine a_bipush C (pc := 78) dX9_waySize_78 bp_30 ?_
                      exact a_ireturn C (pc := 80) rfl dX9_waySize_80 (Nat.le_of_ble_eq_true rfl) (Nat.le_of_ble_eq_true rfl) ⟨_, rfl, rfl, h⟩
                    · have h := h.2.2.2.2.2.2.2.2.2.2 hc0 hc1 hc2 hc3 hc4 hc5 hc6 hc7 hc8 hc9
                      refine a_tableOut C (pc := 1) 81 dX9_waySize_1 (swo_9 hc0 hc1 hc2 hc3 hc4 hc5 hc6 hc7 hc8 hc9) (by decide) ?_
                      refine a_bipush C (pc := 81) dX9_waySize_81 bp_60 ?_
                      exact a_ireturn C (pc := 83) rfl dX9_waySize_83 (Nat.le_of_ble_eq_true rfl) (Nat.le_of_ble_eq_true rfl) ⟨_, rfl, rfl, h⟩
