set_option maxRecDepth 100000 in
set_option maxHeartbeats 4000000 in
theorem w_X2_readWords_77 {Γ : XG} {Lx : Launch} {Dx : va_G} {cs : Nat → ClassId} {n_a1_row : Nat} {h0 : Nat} {h1 : Nat} {d0 : Nat → Nat} {d1 : Nat → Nat} {v_many : Int32} {v_a1_size : Int32} {v_a1_row : Nat → Int32} {K_140 : Int32 → (Nat → Int32) → Int32 → Int32 → Int32 → Prop} {Φ : Int32 → Int32 → (Nat → Int32) → Prop} {k n9 : Nat} (C : CX Γ Lx Dx cs cX2_readWords RX2 "readWords" 11 (some .boolean) 2 46 0 0 (qEC cs 0 0 [] (R_X2_readWords cs n_a1_row h0 h1 d0 d1 v_many v_a1_size v_a1_row Φ) (fun _ _ => False))) (hkm : k ≤ 0) (hnm : n9 ≤ 0) : ∀ n : Nat, ∀ (v_a1_place : Int32) (v_gap : Nat → Int32) (l2 : Int32) (l3 : Int32) (l4 : Int64) (l6 : Int32) (l7 : Int32) (l8 : Int32), L_X2_readWords_77 n n_a1_row v_many v_a1_size v_a1_place v_a1_row v_gap l2 l3 l4 l6 l7 l8 K_140 Φ → (∀ (v_a1_place_8 : Int32) (v_gap_9 : Nat → Int32) (l2_10 : Int32) (l3_11 : Int32) (l7_12 : Int32), K_140 v_a1_place_8 v_gap_9 l2_10 l3_11 l7_12 → AW Γ k n9 140 [(0, .ref h0), (1, .ref h1), (2, .int l2_10), (3, .int l3_11), (7, .int l7_12)] [] [(h0, oX2 d0 v_many), (h1, oX0 d1 v_a1_size v_a1_place_8), ((d1 0), aB cs n_a1_row v_a1_row), ((d0 0), aI cs 40 v_gap_9)]) → AW Γ k n9 77 [(0, .ref h0), (1, .ref h1), (2, .int l2), (3, .int l3), (4, .long l4), (6, .int l6), (7, .int l7), (8, .int l8)] [] [(h0, oX2 d0 v_many), (h1, oX0 d1 v_a1_size v_a1_place), ((d1 0), aB cs n_a1_row v_a1_row), ((d0 0), aI cs 40 v_gap)] := by
  intro n
  induction n with
  | zero =>
    intro v_a1_place v_gap l2 l3 l4 l6 l7 l8 h
    exact False.elim h
  | succ n ih =>
    intro v_a1_place v_gap l2 l3 l4 l6 l7 l8 h hK_140
    rw [L_X2_readWords_77] at h
    refine a_iload C (pc := 77) 7 dX2_readWords_77 rfl ?_
    refine a_iload C (pc := 79) 6 dX2_readWords_79 rfl ?_
    refine a_icmp_ge C (pc := 81) 140 dX2_readWords_81 (by decide) (fun hc => ?_) (fun hc => ?_)
    · have h := h.1 hc
      refine a_lv (lv1 := [(0, .ref h0), (1, .ref h1), (2, .int l2), (3, .int l3), (7, .int l7)]) [0, 1, 2, 3, 6] rfl ?_
      exact hK_140 v_a1_place v_gap l2 l3 l7 h
    · have h := h.2 hc
      refine a_lload C (pc := 84) 4 dX2_readWords_84 rfl ?_
      refine a_iconst C (pc := 86) dX2_readWords_86 ic_4 ?_
      refine a_iload C (pc := 87) 7 dX2_readWords_87 rfl ?_
      refine a_wayB C (pc := 89) wFn_X2_73 dX2_readWords_89 (fun aw_6 haw_6 => ?_)
      refine a_iload C (pc := 92) 5 dX2_readWords_92 rfl ?_
      refine a_wald C (pc := 94) haw_6 h.1 dX2_readWords_94 ?_
      replace h := h.2
      refine a_imul C (pc := 95) dX2_readWords_95 ?_
      refine a_iadd C (pc := 96) dX2_readWords_96 ?_
      refine a_lushr C (pc := 97) dX2_readWords_97 ?_
      refine a_lconst C (pc := 98) (v := 1) dX2_readWords_98 rfl ?_
      refine a_wayB C (pc := 99) wFn_X2_73 dX2_readWords_99 (fun aw_7 haw_7 => ?_)
      refine a_iload C (pc := 102) 5 dX2_readWords_102 rfl ?_
      refine a_wald C (pc := 104) haw_7 h.1 dX2_readWords_104 ?_
      replace h := h.2
      refine a_lshl C (pc := 105) dX2_readWords_105 ?_
      refine a_lconst C (pc := 106) (v := 1) dX2_readWords_106 rfl ?_
      refine a_lsub C (pc := 107) dX2_readWords_107 ?_
      refine a_land C (pc := 108) dX2_readWords_108 ?_
      refine a_lstore C (pc := 109) (lv1 := [(0, .ref h0), (1, .ref h1), (2, .int l2), (3, .int l3), (4, .long l4), (6, .int l6), (7, .int l7), (8, .int l8), (9, .long (((l4.toUInt64 >>> ((4 + (l8 * (wayB (l6).toNatClampNeg))).toInt64.toUInt64 &&& Int64.toUInt64 63)).toInt64) &&& (((1 : Int64) <<< ((wayB (l6).toNatClampNeg).toInt64 &&& 63)) - 1)))]) [1, 2, 3, 4, 5, 6, 7, 8, 0] dX2_readWords_109 (by decide) rfl ?_
      refine a_lload C (pc := 111) 8 dX2_readWords_111 rfl ?_
      refine a_ldc2 C (pc := 113) wC_X2_89 dX2_readWords_113 ?_
      refine a_lcmp_lt C (pc := 116) 122 dX2_readWords_116 dX2_readWords_117 (by decide) (fun hc => ?_) (fun hc => ?_)
      · have h := h.1 hc
        refine a_aload_n C (pc := 122) 0 dX2_readWords_122 rfl rfl ?_
        refine a_get C (pc := 123) 0 0 inW_X2 rfl rfl (Nat.le_of_ble_eq_true rfl) wF_X2_9 rfl rfl dX2_readWords_123 ?_
        refine a_iload_n C (pc := 126) 2 dX2_readWords_126 rfl rfl ?_
        refine a_iload C (pc := 127) 7 dX2_readWords_127 rfl ?_
        refine a_iadd C (pc := 129) dX2_readWords_129 ?_
        refine a_lload C (pc := 130) 8 dX2_readWords_130 rfl ?_
        refine a_l2i C (pc := 132) dX2_readWords_132 ?_
        refine a_iast C (pc := 133) (ws1 := [(h0, oX2 d0 v_many), (h1, oX0 d1 v_a1_size v_a1_place), ((d1 0), aB cs n_a1_row v_a1_row), ((d0 0), aI cs 40 (upd v_gap (l2 + l8 : Int32).toNatClampNeg (((((l4.toUInt64 >>> ((4 + (l8 * (wayB (l6).toNatClampNeg))).toInt64.toUInt64 &&& Int64.toUInt64 63)).toInt64) &&& (((1 : Int64) <<< ((wayB (l6).toNatClampNeg).toInt64 &&& 63)) - 1)) : Int64).toInt32)))]) 3 rfl h.1 dX2_readWords_133 rfl ?_
        replace h := h.2
        refine a_iinc C (pc := 134) (lv1 := [(0, .ref h0), (1, .ref h1), (2, .int l2), (3, .int l3), (4, .long l4), (6, .int l6), (7, .int l7), (8, .int (l8 + 1)), (9, .long (((l4.toUInt64 >>> ((4 + (l8 * (wayB (l6).toNatClampNeg))).toInt64.toUInt64 &&& Int64.toUInt64 63)).toInt64) &&& (((1 : Int64) <<< ((wayB (l6).toNatClampNeg).toInt64 &&& 63)) - 1)))]) 7 [1, 2, 3, 4, 5, 6, 7, 0, 8] dX2_readWords_134 rfl (congrArg (fun z => l8 + z) ic_1) (by decide) rfl ?_
        refine a_goto C (pc := 137) 77 dX2_readWords_137 (by decide) ?_
        refine a_lv (lv1 := [(0, .ref h0), (1, .ref h1), (2, .int l2), (3, .int l3), (4, .long l4), (6, .int l6), (7, .int l7), (8, .int (l8 + 1))]) [0, 1, 2, 3, 4, 5, 6, 7] rfl ?_
        exact ih v_a1_place (upd v_gap (l2 + l8 : Int32).toNatClampNeg (((((l4.toUInt64 >>> ((4 + (l8 * (wayB (l6).toNatClampNeg))).toInt64.toUInt64 &&& Int64.toUInt64 63)).toInt64) &&& (((1 : Int64) <<< ((wayB (l6).toNatClampNeg).toInt64 &&& 63)) - 1)) : Int64).toInt32)) l2 l3 l4 l6 l7 (l8 + 1) h hK_140
      · have h := h.2 hc
        refine a_iconst C (pc := 120) dX2_readWords_120 ic_0 ?_
        exact a_zreturn C (pc := 121) rfl rfl dX2_readWords_121 hkm hnm ⟨_, _, _, rfl, rfl, h⟩
set_option maxRecDepth 100000 in
set_option maxHeartbeats 4000000 in
theorem w_X2_readWords_4 {Γ : XG} {Lx : Launch} {Dx : va_G} {cs : Nat → ClassId} {n_a1_row : Nat} {h0 : Nat} {h1 : Nat} {d0 : Nat → Nat} {d1 : Nat → Nat} {v_many : Int32} {v_a1_size : Int32} {v_a1_row : Nat → Int32} {K_151 : Int32 → (Nat → Int32) → Prop} {Φ : Int32 → Int32 → (Nat → Int32) → Prop} {k n9 : Nat} (C : CX Γ Lx Dx cs cX2_readWords RX2 "readWords" 11 (some .boolean) 2 46 0 0 (qEC cs 0 0 [] (R_X2_readWords cs n_a1_row h0 h1 d0 d1 v_many v_a1_size v_a1_row Φ) (fun _ _ => False))) (hkm : k ≤ 0) (hnm : n9 ≤ 0) : ∀ n : Nat, ∀ (v_a1_place : Int32) (v_gap : Nat → Int32) (l2 : Int32) (l3 : Int32), L_X2_readWords_4 n n_a1_row v_many v_a1_size v_a1_place v_a1_row v_gap l2 l3 K_151 Φ → (∀ (v_a1_place_18 : Int32) (v_gap_19 : Nat → Int32), K_151 v_a1_place_18 v_gap_19 → AW Γ k n9 151 [] [] [(h0, oX2 d0 v_many), (h1, oX0 d1 v_a1_size v_a1_place_18), ((d1 0), aB cs n_a1_row v_a1_row), ((d0 0), aI cs 40 v_gap_19)]) → AW Γ k n9 4 [(0, .ref h0), (1, .ref h1), (2, .int l2), (3, .int l3)] [] [(h0, oX2 d0 v_many), (h1, oX0 d1 v_a1_size v_a1_place), ((d1 0), aB cs n_a1_row v_a1_row), ((d0 0), aI cs 40 v_gap)] := by
  intro n
  induction n with
  | zero =>
    intro v_a1_place v_gap l2 l3 h
    exact False.elim h
  | succ n ih =>
    intro v_a1_place v_gap l2 l3 h hK_151
    rw [L_X2_readWords_4] at h
    refine a_iload_n C (pc := 4) 3 dX2_readWords_4 rfl rfl ?_
    refine a_aload_n C (pc := 5) 0 dX2_readWords_5 rfl rfl ?_
    refine a_get C (pc := 6) 0 1 inW_X2 rfl rfl (Nat.le_of_ble_eq_true rfl) wF_X2_15 rfl rfl dX2_readWords_6 ?_
    refine a_icmp_ge C (pc := 9) 151 dX2_readWords_9 (by decide) (fun hc => ?_) (fun hc => ?_)
    · have h := h.1 hc
      refine a_lv (lv1 := []) [] rfl ?_
      exact hK_151 v_a1_place v_gap h
    · have h := h.2 hc
      refine a_iload_n C (pc := 12) 2 dX2_readWords_12 rfl rfl ?_
      refine a_aload_n C (pc := 13) 0 dX2_readWords_13 rfl rfl ?_
      refine a_get C (pc := 14) 0 1 inW_X2 rfl rfl (Nat.le_of_ble_eq_true rfl) wF_X2_15 rfl rfl dX2_readWords_14 ?_
      refine a_icmp_ge C (pc := 17) 151 dX2_readWords_17 (by decide) (fun hc => ?_) (fun hc => ?_)
      · have h := h.1 hc
        refine a_lv (lv1 := []) [] rfl ?_
        exact hK_151 v_a1_place v_gap h
      · have h := h.2 hc
        refine a_aload_n C (pc := 20) 1 dX2_readWords_20 rfl rfl ?_
        refine a_callV C (pc := 21) (av := []) (wr := [(h0, oX2 d0 v_many), ((d1 0), aB cs n_a1_row v_a1_row), ((d0 0), aI cs 40 v_gap)]) (m_X0_left Lx Dx cs h1 d1 v_a1_size v_a1_place _ h) [1] [0, 2, 3] rfl rfl (by decide) (by decide) (by decide) wM_X2_80 wb_X0_left hy_X0_left (q0 := 1) rfl rfl rfl ⟨Nat.le_of_ble_eq_true rfl, Nat.le_of_ble_eq_true rfl⟩ (Nat.le_of_ble_eq_true rfl) hkm hnm rfl dX2_readWords_21 (fun v w1 hw => ?_) [] rfl (fun _ _ h => h.elim)
        obtain ⟨r_1, rfl, rfl, h⟩ := hw
        refine a_ws (st1 := [.int r_1]) (ws1 := [(h0, oX2 d0 v_many), (h1, oX0 d1 v_a1_size v_a1_place), ((d1 0), aB cs n_a1_row v_a1_row), ((d0 0), aI cs 40 v_gap)]) k n9 24 [0, 3, 1, 2] rfl rfl rfl rfl (by decide) rfl ?_
        refine a_bipush C (pc := 24) dX2_readWords_24 bp_8 ?_
        refine a_icmp_ge C (pc := 26) 31 dX2_readWords_26 (by decide) (fun hc => ?_) (fun hc => ?_)
        · have h := h.1 hc
          refine a_aload_n C (pc := 31) 1 dX2_readWords_31 rfl rfl ?_
          refine a_callV C (pc := 32) (av := []) (wr := [(h0, oX2 d0 v_many), ((d0 0), aI cs 40 v_gap)]) (m_X0_nextEight Lx Dx cs n_a1_row h1 d1 v_a1_size v_a1_place v_a1_row _ h) [1, 2] [0, 3] rfl rfl (by decide) (by decide) (by decide) wM_X2_83 wb_X0_nextEight hy_X0_nextEight (q0 := 1) rfl rfl rfl ⟨Nat.le_of_ble_eq_true rfl, Nat.le_of_ble_eq_true rfl⟩ (Nat.le_of_ble_eq_true rfl) hkm hnm rfl dX2_readWords_32 (fun v w1 hw => ?_) [] rfl (fun _ _ h => h.elim)
          obtain ⟨r_2, v_a1_place_3, rfl, rfl, h⟩ := hw
          refine a_ws (st1 := [.long r_2]) (ws1 := [(h0, oX2 d0 v_many), (h1, oX0 d1 v_a1_size v_a1_place_3), ((d1 0), aB cs n_a1_row v_a1_row), ((d0 0), aI cs 40 v_gap)]) k n9 35 [0, 2, 3, 1] rfl rfl rfl rfl (by decide) rfl ?_
          refine a_lstore C (pc := 35) (lv1 := [(0, .ref h0), (1, .ref h1), (2, .int l2), (3, .int l3), (4, .long r_2)]) [1, 2, 3, 4, 0] dX2_readWords_35 (by decide) rfl ?_
          refine a_lload C (pc := 37) 4 dX2_readWords_37 rfl ?_
          refine a_ldc2 C (pc := 39) wC_X2_87 dX2_readWords_39 ?_
          refine a_land C (pc := 42) dX2_readWords_42 ?_
          refine a_l2i C (pc := 43) dX2_readWords_43 ?_
          refine a_istore C (pc := 44) (lv1 := [(0, .ref h0), (1, .ref h1), (2, .int l2), (3, .int l3), (4, .long r_2), (6, .int (((r_2 &&& 15) : Int64).toInt32))]) [1, 2, 3, 4, 5, 0] dX2_readWords_44 (by decide) rfl ?_
          refine a_iload C (pc := 46) 5 dX2_readWords_46 rfl ?_
          refine a_wayG C (pc := 48) wFn_X2_70 dX2_readWords_48 (fun aw_4 haw_4 => ?_)
          refine a_walen C (pc := 51) haw_4 dX2_readWords_51 ?_
          refine a_icmp_lt C (pc := 52) 57 dX2_readWords_52 (by decide) (fun hc => ?_) (fun hc => ?_)
          · have h := h.1 hc
            refine a_wayG C (pc := 57) wFn_X2_70 dX2_readWords_57 (fun aw_5 haw_5 => ?_)
            refine a_iload C (pc := 60) 5 dX2_readWords_60 rfl ?_
            refine a_wald C (pc := 62) haw_5 h.1 dX2_readWords_62 ?_
            replace h := h.2
            refine a_aload_n C (pc := 63) 0 dX2_readWords_63 rfl rfl ?_
            refine a_get C (pc := 64) 0 1 inW_X2 rfl rfl (Nat.le_of_ble_eq_true rfl) wF_X2_15 rfl rfl dX2_readWords_64 ?_
            refine a_iload_n C (pc := 67) 2 dX2_readWords_67 rfl rfl ?_
            refine a_isub C (pc := 68) dX2_readWords_68 ?_
            refine a_min C (pc := 69) wM_X2_28 wX_min (Nat.le_of_ble_eq_true rfl) (Nat.le_of_ble_eq_true rfl) hkm hnm dX2_readWords_69 ?_
            refine a_istore C (pc := 72) (lv1 := [(0, .ref h0), (1, .ref h1), (2, .int l2), (3, .int l3), (4, .long r_2), (6, .int (((r_2 &&& 15) : Int64).toInt32)), (7, .int (imin (wayG ((((r_2 &&& 15) : Int64).toInt32)).toNatClampNeg) (v_many - l2)))]) [1, 2, 3, 4, 5, 6, 0] dX2_readWords_72 (by decide) rfl ?_
            refine a_iconst C (pc := 74) dX2_readWords_74 ic_0 ?_
            refine a_istore C (pc := 75) (lv1 := [(0, .ref h0), (1, .ref h1), (2, .int l2), (3, .int l3), (4, .long r_2), (6, .int (((r_2 &&& 15) : Int64).toInt32)), (7, .int (imin (wayG ((((r_2 &&& 15) : Int64).toInt32)).toNatClampNeg) (v_many - l2))), (8, .int 0)]) [1, 2, 3, 4, 5, 6, 7, 0] dX2_readWords_75 (by decide) rfl ?_
            obtain ⟨n0, h⟩ := h
            refine w_X2_readWords_77 C hkm hnm n0 v_a1_place_3 v_gap l2 l3 r_2 (((r_2 &&& 15) : Int64).toInt32) (imin (wayG ((((r_2 &&& 15) : Int64).toInt32)).toNatClampNeg) (v_many - l2)) 0 h ?_
            intro v_a1_place_13 v_gap_14 l2_15 l3_16 l7_17 h
            refine a_iload_n C (pc := 140) 2 dX2_readWords_140 rfl rfl ?_
            refine a_iload C (pc := 141) 4 dX2_readWords_141 rfl ?_
            refine a_iadd C (pc := 143) dX2_readWords_143 ?_
            refine a_istore_n C (pc := 144) (lv1 := [(0, .ref h0), (1, .ref h1), (2, .int (l2_15 + l7_17)), (3, .int l3_16), (7, .int l7_17)]) [1, 2, 0, 3, 4] dX2_readWords_144 rfl (by decide) rfl ?_
            refine a_iinc C (pc := 145) (lv1 := [(0, .ref h0), (1, .ref h1), (2, .int (l2_15 + l7_17)), (3, .int (l3_16 + 1)), (7, .int l7_17)]) 3 [1, 2, 3, 0, 4] dX2_readWords_145 rfl (congrArg (fun z => l3_16 + z) ic_1) (by decide) rfl ?_
            refine a_goto C (pc := 148) 4 dX2_readWords_148 (by decide) ?_
            refine a_lv (lv1 := [(0, .ref h0), (1, .ref h1), (2, .int (l2_15 + l7_17)), (3, .int (l3_16 + 1))]) [0, 1, 2, 3] rfl ?_
            exact ih v_a1_place_13 v_gap_14 (l2_15 + l7_17) (l3_16 + 1) h hK_151
          · have h := h.2 hc
            refine a_iconst C (pc := 55) dX2_readWords_55 ic_0 ?_
            exact a_zreturn C (pc := 56) rfl rfl dX2_readWords_56 hkm hnm ⟨_, _, _, rfl, rfl, h⟩
        · have h := h.2 hc
          refine a_iconst C (pc := 29) dX2_readWords_29 ic_0 ?_
          exact a_zreturn C (pc := 30) rfl rfl dX2_readWords_30 hkm hnm ⟨_, _, _, rfl, rfl, h⟩
set_option maxRecDepth 100000 in
set_option maxHeartbeats 4000000 in
theorem m_X2_readWords (Lx : Launch) (Dx : va_G) (cs : Nat → ClassId) (n_a1_row : Nat) (h0 : Nat) (h1 : Nat) (d0 : Nat → Nat) (d1 : Nat → Nat) (v_many : Int32) (v_a1_size : Int32) (v_a1_place : Int32) (v_a1_row : Nat → Int32) (v_gap : Nat → Int32) (Φ : Int32 → Int32 → (Nat → Int32) → Prop) (h : P_X2_readWords n_a1_row v_many v_a1_size v_a1_place v_a1_row v_gap Φ) : XMet Lx Dx cs yX2_readWords cX2_readWords 11 (some .boolean) 2 46 0 0 [.ref h0, .ref h1] [(h0, oX2 d0 v_many), (h1, oX0 d1 v_a1_size v_a1_place), ((d1 0), aB cs n_a1_row v_a1_row), ((d0 0), aI cs 40 v_gap)] (R_X2_readWords cs n_a1_row h0 h1 d0 d1 v_many v_a1_size v_a1_row Φ) (fun _ _ => False) := by
  refine XMet.of (own := RX2) (nm := "readWords") (by decide) rfl rfl (Nat.le_of_ble_eq_true rfl) (fun Γ C => ?_)
  unfold P_X2_readWords at h
  refine a_iconst C (pc := 0) dX2_readWords_0 ic_0 ?_
  refine a_istore_n C (pc := 1) (lv1 := [(0, .ref h0), (1, .ref h1), (2, .int 0)]) [1, 2, 0] dX2_readWords_1 rfl (by decide) rfl ?_
  refine a_iconst C (pc := 2) dX2_readWords_2 ic_0 ?_
  refine a_istore_n C (pc := 3) (lv1 := [(0, .ref h0), (1, .ref h1), (2, .int 0), (3, .int 0)]) [1, 2, 3, 0] dX2_readWords_3 rfl (by decide) rfl ?_
  obtain ⟨n0, h⟩ := h
  refine w_X2_readWords_4 C (Nat.le_of_ble_eq_true rfl) (Nat.le_of_ble_eq_true rfl) n0 v_a1_place v_gap 0 0 h ?_
  intro v_a1_place_20 v_gap_21 h
  refine a_iconst C (pc := 151) dX2_readWords_151 ic_1 ?_
  exact a_zreturn C (pc := 152) rfl rfl dX2_readWords_152 (Nat.le_of_ble_eq_true rfl) (Nat.le_of_ble_eq_true rfl) ⟨_, _, _, rfl, rfl, h⟩
set_option maxRecDepth 100000 in
set_option maxHeartbeats 4000000 in
theorem w_X2_readEven_64 {Γ : XG} {Lx : Launch} {Dx : va_G} {cs : Nat → ClassId} {n_a1_row : Nat} {h0 : Nat} {h1 : Nat} {d1 : Nat → Nat} {d0 : Nat → Nat} {v_a1_size : Int32} {v_a1_row : Nat → Int32} {v_many : Int32} {B_25 : Int32 → (Nat → Int32) → Int32 → Int32 → Int32 → Int32 → Prop} {K_94 : Int32 → (Nat → Int32) → Prop} {Φ : Int32 → Int32 → (Nat → Int32) → Prop} {k n9 : Nat} (C : CX Γ Lx Dx cs cX2_readEven RX2 "readEven" 7 (some .boolean) 2 41 0 0 (qEC cs 0 0 [] (R_X2_readEven cs n_a1_row h0 h1 d1 d0 v_a1_size v_a1_row v_many Φ) (fun _ _ => False))) (hkm : k ≤ 0) (hnm : n9 ≤ 0) (v_a1_place : Int32) (v_gap : Nat → Int32) (l2 : Int32) (l3 : Int32) (l4 : Int32) (l5 : Int32) (h : J_X2_readEven_64 n_a1_row v_a1_size v_a1_place v_a1_row v_many v_gap l2 l3 l4 l5 B_25 K_94 Φ) (hB_25 : ∀ (v_a1_place_3 : Int32) (v_gap_4 : Nat → Int32) (l2_5 : Int32) (l3_6 : Int32) (l4_7 : Int32) (l5_8 : Int32), B_25 v_a1_place_3 v_gap_4 l2_5 l3_6 l4_7 l5_8 → AW Γ k n9 25 [(0, .ref h0), (1, .ref h1), (2, .int l2_5), (3, .int l3_6), (4, .int l4_7), (5, .int l5_8)] [] [(h1, oX0 d1 v_a1_size v_a1_place_3), ((d1 0), aB cs n_a1_row v_a1_row), (h0, oX2 d0 v_many), ((d0 0), aI cs 40 v_gap_4)]) (hK_94 : ∀ (v_a1_place_9 : Int32) (v_gap_10 : Nat → Int32), K_94 v_a1_place_9 v_gap_10 → AW Γ k n9 94 [] [] [(h1, oX0 d1 v_a1_size v_a1_place_9), ((d1 0), aB cs n_a1_row v_a1_row), (h0, oX2 d0 v_many), ((d0 0), aI cs 40 v_gap_10)]) : AW Γ k n9 64 [(0, .ref h0), (1, .ref h1), (2, .int l2), (3, .int l3), (4, .int l4), (5, .int l5)] [] [(h1, oX0 d1 v_a1_size v_a1_place), ((d1 0), aB cs n_a1_row v_a1_row), (h0, oX2 d0 v_many), ((d0 0), aI cs 40 v_gap)] := by
  unfold J_X2_readEven_64 at h
  refine a_aload_n C (pc := 64) 0 dX2_readEven_64 rfl rfl ?_
  refine a_get C (pc := 65) 2 0 inW_X2 rfl rfl (Nat.le_of_ble_eq_true rfl) wF_X2_9 rfl rfl dX2_readEven_65 ?_
  refine a_iload C (pc := 68) 5 dX2_readEven_68 rfl ?_
  refine a_iload_n C (pc := 70) 3 dX2_readEven_70 rfl rfl ?_
  refine a_iconst C (pc := 71) dX2_readEven_71 ic_1 ?_
  refine a_iload_n C (pc := 72) 2 dX2_readEven_72 rfl rfl ?_
  refine a_ishl C (pc := 73) dX2_readEven_73 ?_
  refine a_iconst C (pc := 74) dX2_readEven_74 ic_1 ?_
  refine a_isub C (pc := 75) dX2_readEven_75 ?_
  refine a_iand C (pc := 76) dX2_readEven_76 ?_
  refine a_iast C (pc := 77) (ws1 := [(h1, oX0 d1 v_a1_size v_a1_place), ((d1 0), aB cs n_a1_row v_a1_row), (h0, oX2 d0 v_many), ((d0 0), aI cs 40 (upd v_gap (l5 : Int32).toNatClampNeg (l3 &&& (((1 : Int32) <<< (l2 &&& 31)) - 1))))]) 3 rfl h.1 dX2_readEven_77 rfl ?_
  replace h := h.2
  refine a_iload_n C (pc := 78) 3 dX2_readEven_78 rfl rfl ?_
  refine a_iload_n C (pc := 79) 2 dX2_readEven_79 rfl rfl ?_
  refine a_iushr C (pc := 80) dX2_readEven_80 ?_
  refine a_istore_n C (pc := 81) (lv1 := [(0, .ref h0), (1, .ref h1), (2, .int l2), (3, .int ((l3.toUInt32 >>> (l2.toUInt32 &&& Int32.toUInt32 31)).toInt32)), (4, .int l4), (5, .int l5)]) [1, 2, 3, 0, 4, 5] dX2_readEven_81 rfl (by decide) rfl ?_
  refine a_iload C (pc := 82) 4 dX2_readEven_82 rfl ?_
  refine a_iload_n C (pc := 84) 2 dX2_readEven_84 rfl rfl ?_
  refine a_isub C (pc := 85) dX2_readEven_85 ?_
  refine a_istore C (pc := 86) (lv1 := [(0, .ref h0), (1, .ref h1), (2, .int l2), (3, .int ((l3.toUInt32 >>> (l2.toUInt32 &&& Int32.toUInt32 31)).toInt32)), (4, .int (l4 - l2)), (5, .int l5)]) [1, 2, 3, 4, 0, 5] dX2_readEven_86 (by decide) rfl ?_
  refine a_iinc C (pc := 88) (lv1 := [(0, .ref h0), (1, .ref h1), (2, .int l2), (3, .int ((l3.toUInt32 >>> (l2.toUInt32 &&& Int32.toUInt32 31)).toInt32)), (4, .int (l4 - l2)), (5, .int (l5 + 1))]) 5 [1, 2, 3, 4, 5, 0] dX2_readEven_88 rfl (congrArg (fun z => l5 + z) ic_1) (by decide) rfl ?_
  refine a_goto C (pc := 91) 25 dX2_readEven_91 (by decide) ?_
  exact hB_25 v_a1_place (upd v_gap (l5 : Int32).toNatClampNeg (l3 &&& (((1 : Int32) <<< (l2 &&& 31)) - 1))) l2 ((l3.toUInt32 >>> (l2.toUInt32 &&& Int32.toUInt32 31)).toInt32) (l4 - l2) (l5 + 1) h
set_option maxRecDepth 100000 in
set_option maxHeartbeats 4000000 in
theorem w_X2_readEven_25 {Γ : XG} {Lx : Launch} {Dx : va_G} {cs : Nat → ClassId} {n_a1_row : Nat} {h0 : Nat} {h1 : Nat} {d1 : Nat → Nat} {d0 : Nat → Nat} {v_a1_size : Int32} {v_a1_row : Nat → Int32} {v_many : Int32} {K_94 : Int32 → (Nat → Int32) → Prop} {Φ : Int32 → Int32 → (Nat → Int32) → Prop} {k n9 : Nat} (C : CX Γ Lx Dx cs cX2_readEven RX2 "readEven" 7 (some .boolean) 2 41 0 0 (qEC cs 0 0 [] (R_X2_readEven cs n_a1_row h0 h1 d1 d0 v_a1_size v_a1_row v_many Φ) (fun _ _ => False))) (hkm : k ≤ 0) (hnm : n9 ≤ 0) : ∀ n : Nat, ∀ (v_a1_place : Int32) (v_gap : Nat → Int32) (l2 : Int32) (l3 : Int32) (l4 : Int32) (l5 : Int32), L_X2_readEven_25 n n_a1_row v_a1_size v_a1_place v_a1_row v_many v_gap l2 l3 l4 l5 K_94 Φ → (∀ (v_a1_place_37 : Int32) (v_gap_38 : Nat → Int32), K_94 v_a1_place_37 v_gap_38 → AW Γ k n9 94 [] [] [(h1, oX0 d1 v_a1_size v_a1_place_37), ((d1 0), aB cs n_a1_row v_a1_row), (h0, oX2 d0 v_many), ((d0 0), aI cs 40 v_gap_38)]) → AW Γ k n9 25 [(0, .ref h0), (1, .ref h1), (2, .int l2), (3, .int l3), (4, .int l4), (5, .int l5)] [] [(h1, oX0 d1 v_a1_size v_a1_place), ((d1 0), aB cs n_a1_row v_a1_row), (h0, oX2 d0 v_many), ((d0 0), aI cs 40 v_gap)] := by
  intro n
  induction n with
  | zero =>
    intro v_a1_place v_gap l2 l3 l4 l5 h
    exact False.elim h
  | succ n ih =>
    intro v_a1_place v_gap l2 l3 l4 l5 h hK_94
    rw [L_X2_readEven_25] at h
    refine a_iload C (pc := 25) 5 dX2_readEven_25 rfl ?_
    refine a_aload_n C (pc := 27) 0 dX2_readEven_27 rfl rfl ?_
    refine a_get C (pc := 28) 2 1 inW_X2 rfl rfl (Nat.le_of_ble_eq_true rfl) wF_X2_15 rfl rfl dX2_readEven_28 ?_
    refine a_icmp_ge C (pc := 31) 94 dX2_readEven_31 (by decide) (fun hc => ?_) (fun hc => ?_)
    · have h := h.1 hc
      refine a_lv (lv1 := []) [] rfl ?_
      exact hK_94 v_a1_place v_gap h
    · have h := h.2 hc
      refine a_iload C (pc := 34) 4 dX2_readEven_34 rfl ?_
      refine a_iload_n C (pc := 36) 2 dX2_readEven_36 rfl rfl ?_
      refine a_icmp_ge C (pc := 37) 64 dX2_readEven_37 (by decide) (fun hc => ?_) (fun hc => ?_)
      · have h := h.1 hc
        exact w_X2_readEven_64 C hkm hnm v_a1_place v_gap l2 l3 l4 l5 h (fun v_a1_place_17 v_gap_18 l2_19 l3_20 l4_21 l5_22 h => ih v_a1_place_17 v_gap_18 l2_19 l3_20 l4_21 l5_22 h hK_94) hK_94
      · have h := h.2 hc
        refine a_aload_n C (pc := 40) 1 dX2_readEven_40 rfl rfl ?_
        refine a_callV C (pc := 41) (av := []) (wr := [(h0, oX2 d0 v_many), ((d0 0), aI cs 40 v_gap)]) (m_X0_next Lx Dx cs n_a1_row h1 d1 v_a1_size v_a1_place v_a1_row _ h) [0, 1] [2, 3] rfl rfl (by decide) (by decide) (by decide) wM_X2_63 wb_X0_next hy_X0_next (q0 := 0) rfl rfl rfl ⟨Nat.le_of_ble_eq_true rfl, Nat.le_of_ble_eq_true rfl⟩ (Nat.le_of_ble_eq_true rfl) hkm hnm rfl dX2_readEven_41 (fun v w1 hw => ?_) [] rfl (fun _ _ h => h.elim)
        obtain ⟨r_23, v_a1_place_24, rfl, rfl, h⟩ := hw
        refine a_ws (st1 := [.int r_23]) (ws1 := [(h1, oX0 d1 v_a1_size v_a1_place_24), ((d1 0), aB cs n_a1_row v_a1_row), (h0, oX2 d0 v_many), ((d0 0), aI cs 40 v_gap)]) k n9 44 [2, 3, 0, 1] rfl rfl rfl rfl (by decide) rfl ?_
        refine a_istore C (pc := 44) (lv1 := [(0, .ref h0), (1, .ref h1), (2, .int l2), (3, .int l3), (4, .int l4), (5, .int l5), (6, .int r_23)]) [1, 2, 3, 4, 5, 6, 0] dX2_readEven_44 (by decide) rfl ?_
        refine a_iload C (pc := 46) 6 dX2_readEven_46 rfl ?_
        refine a_if_ge C (pc := 48) 53 dX2_readEven_48 (by decide) (fun hc => ?_) (fun hc => ?_)
        · have h := h.1 hc
          refine a_iload_n C (pc := 53) 3 dX2_readEven_53 rfl rfl ?_
          refine a_iload C (pc := 54) 6 dX2_readEven_54 rfl ?_
          refine a_iload C (pc := 56) 4 dX2_readEven_56 rfl ?_
          refine a_ishl C (pc := 58) dX2_readEven_58 ?_
          refine a_ior C (pc := 59) dX2_readEven_59 ?_
          refine a_istore_n C (pc := 60) (lv1 := [(0, .ref h0), (1, .ref h1), (2, .int l2), (3, .int (l3 ||| (r_23 <<< (l4 &&& 31)))), (4, .int l4), (5, .int l5), (6, .int r_23)]) [1, 2, 3, 0, 4, 5, 6] dX2_readEven_60 rfl (by decide) rfl ?_
          refine a_iinc C (pc := 61) (lv1 := [(0, .ref h0), (1, .ref h1), (2, .int l2), (3, .int (l3 ||| (r_23 <<< (l4 &&& 31)))), (4, .int (l4 + 8)), (5, .int l5), (6, .int r_23)]) 4 [1, 2, 3, 4, 0, 5, 6] dX2_readEven_61 rfl (congrArg (fun z => l4 + z) ic_8) (by decide) rfl ?_
          refine a_lv (lv1 := [(0, .ref h0), (1, .ref h1), (2, .int l2), (3, .int (l3 ||| (r_23 <<< (l4 &&& 31)))), (4, .int (l4 + 8)), (5, .int l5)]) [0, 1, 2, 3, 4, 5] rfl ?_
          exact w_X2_readEven_64 C hkm hnm v_a1_place_24 v_gap l2 (l3 ||| (r_23 <<< (l4 &&& 31))) (l4 + 8) l5 h (fun v_a1_place_31 v_gap_32 l2_33 l3_34 l4_35 l5_36 h => ih v_a1_place_31 v_gap_32 l2_33 l3_34 l4_35 l5_36 h hK_94) hK_94
        · have h := h.2 hc
          refine a_iconst C (pc := 51) dX2_readEven_51 ic_0 ?_
          exact a_zreturn C (pc := 52) rfl rfl dX2_readEven_52 hkm hnm ⟨_, _, _, rfl, rfl, h⟩
set_option maxRecDepth 100000 in
set_option maxHeartbeats 4000000 in
theorem m_X2_readEven (Lx : Launch) (Dx : va_G) (cs : Nat → ClassId) (n_a1_row : Nat) (h0 : Nat) (h1 : Nat) (d1 : Nat → Nat) (d0 : Nat → Nat) (v_a1_size : Int32) (v_a1_place : Int32) (v_a1_row : Nat → Int32) (v_many : Int32) (v_gap : Nat → Int32) (Φ : Int32 → Int32 → (Nat → Int32) → Prop) (h : P_X2_readEven n_a1_row v_a1_size v_a1_place v_a1_row v_many v_gap Φ) : XMet Lx Dx cs yX2_readEven cX2_readEven 7 (some .boolean) 2 41 0 0 [.ref h0, .ref h1] [(h1, oX0 d1 v_a1_size v_a1_place), ((d1 0), aB cs n_a1_row v_a1_row), (h0, oX2 d0 v_many), ((d0 0), aI cs 40 v_gap)] (R_X2_readEven cs n_a1_row h0 h1 d1 d0 v_a1_size v_a1_row v_many Φ) (fun _ _ => False) := by
  refine XMet.of (own := RX2) (nm := "readEven") (by decide) rfl rfl (Nat.le_of_ble_eq_true rfl) (fun Γ C => ?_)
  unfold P_X2_readEven at h
  refine a_aload_n C (pc := 0) 1 dX2_readEven_0 rfl rfl ?_
  refine a_callV C (pc := 1) (av := []) (wr := [(h0, oX2 d0 v_many), ((d0 0), aI cs 40 v_gap)]) (m_X0_next Lx Dx cs n_a1_row h1 d1 v_a1_size v_a1_place v_a1_row _ h) [0, 1] [2, 3] rfl rfl (by decide) (by decide) (by decide) wM_X2_63 wb_X0_next hy_X0_next (q0 := 0) rfl rfl rfl ⟨Nat.le_of_ble_eq_true rfl, Nat.le_of_ble_eq_true rfl⟩ (Nat.le_of_ble_eq_true rfl) (Nat.le_of_ble_eq_true rfl) (Nat.le_of_ble_eq_true rfl) rfl dX2_readEven_1 (fun v w1 hw => ?_) [] rfl (fun _ _ h => h.elim)
  obtain ⟨r_1, v_a1_place_2, rfl, rfl, h⟩ := hw
  refine a_ws (st1 := [.int r_1]) (ws1 := [(h1, oX0 d1 v_a1_size v_a1_place_2), ((d1 0), aB cs n_a1_row v_a1_row), (h0, oX2 d0 v_many), ((d0 0), aI cs 40 v_gap)]) 0 0 4 [2, 3, 0, 1] rfl rfl rfl rfl (by decide) rfl ?_
  refine a_istore_n C (pc := 4) (lv1 := [(0, .ref h0), (1, .ref h1), (2, .int r_1)]) [1, 2, 0] dX2_readEven_4 rfl (by decide) rfl ?_
  refine a_iload_n C (pc := 5) 2 dX2_readEven_5 rfl rfl ?_
  refine a_if_lt C (pc := 6) 15 dX2_readEven_6 (by decide) (fun hc => ?_) (fun hc => ?_)
  · have h := h.1 hc
    refine a_iconst C (pc := 15) dX2_readEven_15 ic_0 ?_
    exact a_zreturn C (pc := 16) rfl rfl dX2_readEven_16 (Nat.le_of_ble_eq_true rfl) (Nat.le_of_ble_eq_true rfl) ⟨_, _, _, rfl, rfl, h⟩
  · have h := h.2 hc
    refine a_iload_n C (pc := 9) 2 dX2_readEven_9 rfl rfl ?_
    refine a_bipush C (pc := 10) dX2_readEven_10 bp_6 ?_
    refine a_icmp_le C (pc := 12) 17 dX2_readEven_12 (by decide) (fun hc => ?_) (fun hc => ?_)
    · have h := h.1 hc
      refine a_iconst C (pc := 17) dX2_readEven_17 ic_0 ?_
      refine a_istore_n C (pc := 18) (lv1 := [(0, .ref h0), (1, .ref h1), (2, .int r_1), (3, .int 0)]) [1, 2, 3, 0] dX2_readEven_18 rfl (by decide) rfl ?_
      refine a_iconst C (pc := 19) dX2_readEven_19 ic_0 ?_
      refine a_istore C (pc := 20) (lv1 := [(0, .ref h0), (1, .ref h1), (2, .int r_1), (3, .int 0), (4, .int 0)]) [1, 2, 3, 4, 0] dX2_readEven_20 (by decide) rfl ?_
      refine a_iconst C (pc := 22) dX2_readEven_22 ic_0 ?_
      refine a_istore C (pc := 23) (lv1 := [(0, .ref h0), (1, .ref h1), (2, .int r_1), (3, .int 0), (4, .int 0), (5, .int 0)]) [1, 2, 3, 4, 5, 0] dX2_readEven_23 (by decide) rfl ?_
      obtain ⟨n0, h⟩ := h
      refine w_X2_readEven_25 C (Nat.le_of_ble_eq_true rfl) (Nat.le_of_ble_eq_true rfl) n0 v_a1_place_2 v_gap r_1 0 0 0 h ?_
      intro v_a1_place_39 v_gap_40 h
      refine a_iconst C (pc := 94) dX2_readEven_94 ic_1 ?_
      exact a_zreturn C (pc := 95) rfl rfl dX2_readEven_95 (Nat.le_of_ble_eq_true rfl) (Nat.le_of_ble_eq_true rfl) ⟨_, _, _, rfl, rfl, h⟩
    · have h := h.2 hc
      refine a_iconst C (pc := 15) dX2_readEven_15 ic_0 ?_
      exact a_zreturn C (pc := 16) rfl rfl dX2_readEven_16 (Nat.le_of_ble_eq_true rfl) (Nat.le_of_ble_eq_true rfl) ⟨_, _, _, rfl, rfl, h⟩
set_option maxRecDepth 100000 in
set_option maxHeartbeats 4000000 in
theorem m_X2_read (Lx : Launch) (Dx : va_G) (cs : Nat → ClassId) (n_a3_row : Nat) (h0 : Nat) (h3 : Nat) (d0 : Nat → Nat) (d3 : Nat → Nat) (v_many : Int32) (v_a3_size : Int32) (v_a3_place : Int32) (v_a3_row : Nat → Int32) (v_gap : Nat → Int32) (l1 : Int32) (l2 : Int32) (Φ : Int32 → Int32 → Int32 → (Nat → Int32) → Prop) (h : P_X2_read n_a3_row v_many v_a3_size v_a3_place v_a3_row v_gap l1 l2 Φ) : XMet Lx Dx cs yX2_read cX2_read 4 (some .boolean) 3 76 0 0 [.ref h0, .int l1, .int l2, .ref h3] [(h0, oX2 d0 v_many), (h3, oX0 d3 v_a3_size v_a3_place), ((d3 0), aB cs n_a3_row v_a3_row), ((d0 0), aI cs 40 v_gap)] (R_X2_read cs n_a3_row h0 h3 d0 d3 v_a3_size v_a3_row Φ) (fun _ _ => False) := by
  refine XMet.of (own := RX2) (nm := "read") (by decide) rfl rfl (Nat.le_of_ble_eq_true rfl) (fun Γ C => ?_)
  unfold P_X2_read at h
  refine a_aload_n C (pc := 0) 0 dX2_read_0 rfl rfl ?_
  refine a_iload_n C (pc := 1) 2 dX2_read_1 rfl rfl ?_
  refine a_put C (pc := 2) (ws1 := [(h0, oX2 d0 l2), (h3, oX0 d3 v_a3_size v_a3_place), ((d3 0), aB cs n_a3_row v_a3_row), ((d0 0), aI cs 40 v_gap)]) 0 1 inW_X2 tyX2 tyX2_ok nmX2 rfl rfl (Nat.le_of_ble_eq_true rfl) wF_X2_15 rfl rfl rfl rfl rfl (Nat.le_of_ble_eq_true rfl) dX2_read_2 rfl ?_
  refine a_iload_n C (pc := 5) 1 dX2_read_5 rfl rfl ?_
  by_cases hc0 : l1 = 0
  · have h := h.1 hc0
    refine a_lookup C (pc := 6) (o := 26) 32 dX2_read_6 (by decide) (by rw [hc0] <;> rfl) (by decide) ?_
    refine a_aload_n C (pc := 32) 0 dX2_read_32 rfl rfl ?_
    refine a_aload_n C (pc := 33) 3 dX2_read_33 rfl rfl ?_
    refine a_callV C (pc := 34) (av := [.ref h3]) (wr := []) (m_X2_readSevens Lx Dx cs n_a3_row h0 h3 d0 d3 l2 v_a3_size v_a3_place v_a3_row v_gap _ h) [0, 1, 2, 3] [] rfl rfl (by decide) (by decide) (by decide) wM_X2_47 wb_X2_readSevens hy_X2_readSevens (q0 := 0) rfl rfl rfl ⟨Nat.le_of_ble_eq_true rfl, Nat.le_of_ble_eq_true rfl⟩ (Nat.le_of_ble_eq_true rfl) (Nat.le_of_ble_eq_true rfl) (Nat.le_of_ble_eq_true rfl) rfl dX2_read_34 (fun v w1 hw => ?_) [] rfl (fun _ _ h => h.elim)
    obtain ⟨r_1, v_a3_place_2, v_gap_3, rfl, rfl, h⟩ := hw
    refine a_ws (st1 := [.int r_1]) (ws1 := [(h0, oX2 d0 l2), (h3, oX0 d3 v_a3_size v_a3_place_2), ((d3 0), aB cs n_a3_row v_a3_row), ((d0 0), aI cs 40 v_gap_3)]) 0 0 37 [0, 1, 2, 3] rfl rfl rfl rfl (by decide) rfl ?_
    exact a_zreturn C (pc := 37) rfl h.1.1 dX2_read_37 (Nat.le_of_ble_eq_true rfl) (Nat.le_of_ble_eq_true rfl) ⟨_, _, _, _, rfl, rfl, h.2⟩
  · by_cases hc1 : l1 = 1
    · have h := h.2.1 hc1
      refine a_lookup C (pc := 6) (o := 32) 38 dX2_read_6 (by decide) (by rw [hc1] <;> rfl) (by decide) ?_
      refine a_aload_n C (pc := 38) 0 dX2_read_38 rfl rfl ?_
      refine a_aload_n C (pc := 39) 3 dX2_read_39 rfl rfl ?_
      refine a_callV C (pc := 40) (av := [.ref h3]) (wr := []) (m_X2_readWords Lx Dx cs n_a3_row h0 h3 d0 d3 l2 v_a3_size v_a3_place v_a3_row v_gap _ h) [0, 1, 2, 3] [] rfl rfl (by decide) (by decide) (by decide) wM_X2_51 wb_X2_readWords hy_X2_readWords (q0 := 0) rfl rfl rfl ⟨Nat.le_of_ble_eq_true rfl, Nat.le_of_ble_eq_true rfl⟩ (Nat.le_of_ble_eq_true rfl) (Nat.le_of_ble_eq_true rfl) (Nat.le_of_ble_eq_true rfl) rfl dX2_read_40 (fun v w1 hw => ?_) [] rfl (fun _ _ h => h.elim)
      obtain ⟨r_4, v_a3_place_5, v_gap_6, rfl, rfl, h⟩ := hw
      refine a_ws (st1 := [.int r_4]) (ws1 := [(h0, oX2 d0 l2), (h3, oX0 d3 v_a3_size v_a3_place_5), ((d3 0), aB cs n_a3_row v_a3_row), ((d0 0), aI cs 40 v_gap_6)]) 0 0 43 [0, 1, 2, 3] rfl rfl rfl rfl (by decide) rfl ?_
      exact a_zreturn C (pc := 43) rfl h.1.1 dX2_read_43 (Nat.le_of_ble_eq_true rfl) (Nat.le_of_ble_eq_true rfl) ⟨_, _, _, _, rfl, rfl, h.2⟩
    · have h := h.2.2 hc0 hc1
      refine a_lookup C (pc := 6) (o := 38) 44 dX2_read_6 (by decide) ((lv_osw hc0 rfl).trans ((lv_osw hc1 rfl).trans rfl)) (by decide) ?_
      refine a_aload_n C (pc := 44) 0 dX2_read_44 rfl rfl ?_
      refine a_aload_n C (pc := 45) 3 dX2_read_45 rfl rfl ?_
      refine a_callV C (pc := 46) (av := [.ref h3]) (wr := []) (m_X2_readEven Lx Dx cs n_a3_row h0 h3 d3 d0 v_a3_size v_a3_place v_a3_row l2 v_gap _ h) [1, 2, 0, 3] [] rfl rfl (by decide) (by decide) (by decide) wM_X2_54 wb_X2_readEven hy_X2_readEven (q0 := 0) rfl rfl rfl ⟨Nat.le_of_ble_eq_true rfl, Nat.le_of_ble_eq_true rfl⟩ (Nat.le_of_ble_eq_true rfl) (Nat.le_of_ble_eq_true rfl) (Nat.le_of_ble_eq_true rfl) rfl dX2_read_46 (fun v w1 hw => ?_) [] rfl (fun _ _ h => h.elim)
      obtain ⟨r_7, v_a3_place_8, v_gap_9, rfl, rfl, h⟩ := hw
      refine a_ws (st1 := [.int r_7]) (ws1 := [(h0, oX2 d0 l2), (h3, oX0 d3 v_a3_size v_a3_place_8), ((d3 0), aB cs n_a3_row v_a3_row), ((d0 0), aI cs 40 v_gap_9)]) 0 0 49 [2, 0, 1, 3] rfl rfl rfl rfl (by decide) rfl ?_
      exact a_zreturn C (pc := 49) rfl h.1.1 dX2_read_49 (Nat.le_of_ble_eq_true rfl) (Nat.le_of_ble_eq_true rfl) ⟨_, _, _, _, rfl, rfl, h.2⟩
set_option maxRecDepth 100000 in
set_option maxHeartbeats 4000000 in
theorem w_X5_appendDocuments_8 {Γ : XG} {Lx : Launch} {Dx : va_G} {cs : Nat → ClassId} {h0 : Nat} {h1 : Nat} {d0 : Nat → Nat} {d_gaps : Nat → Nat} {d1 : Nat → Nat} {v_gaps_many : Int32} {v_gaps_gap : Nat → Int32} {v_a1_bits : Int32} {v_a1_documents : Int32} {v_a1_terms : Int32} {v_a1_segments : Int32} {K_70 : Int32 → (Nat → Int32) → (Nat → Int32) → Int64 → Prop} {Φ : Int64 → Int32 → (Nat → Int32) → (Nat → Int32) → Prop} {k n9 : Nat} (C : CX Γ Lx Dx cs cX5_appendDocuments RX5 "appendDocuments" 6 (some .long) 1 21 0 0 (qEC cs 0 0 [] (R_X5_appendDocuments cs h0 h1 d0 d_gaps d1 v_gaps_many v_gaps_gap v_a1_bits v_a1_documents v_a1_terms v_a1_segments Φ) (fun _ _ => False))) (hkm : k ≤ 0) (hnm : n9 ≤ 0) : ∀ n : Nat, ∀ (v_a1_postings : Int32) (v_a1_document : Nat → Int32) (v_a1_firstPosting : Nat → Int32) (l2 : Int64) (l4 : Int32) (l5 : Int32), L_X5_appendDocuments_8 n v_gaps_many v_gaps_gap v_a1_documents v_a1_segments v_a1_postings v_a1_document v_a1_firstPosting l2 l4 l5 K_70 Φ → (∀ (v_a1_postings_5 : Int32) (v_a1_document_6 : Nat → Int32) (v_a1_firstPosting_7 : Nat → Int32) (l2_8 : Int64), K_70 v_a1_postings_5 v_a1_document_6 v_a1_firstPosting_7 l2_8 → AW Γ k n9 70 [(2, .long l2_8)] [] [(h0, oX5 d0), ((d0 0), oX2 d_gaps v_gaps_many), ((d_gaps 0), aI cs 40 v_gaps_gap), (h1, oX4 d1 v_a1_bits v_a1_documents v_a1_terms v_a1_segments v_a1_postings_5), ((d1 4), aI cs 600 v_a1_document_6), ((d1 3), aI cs 601 v_a1_firstPosting_7)]) → AW Γ k n9 8 [(0, .ref h0), (1, .ref h1), (2, .long l2), (4, .int l4), (5, .int l5)] [] [(h0, oX5 d0), ((d0 0), oX2 d_gaps v_gaps_many), ((d_gaps 0), aI cs 40 v_gaps_gap), (h1, oX4 d1 v_a1_bits v_a1_documents v_a1_terms v_a1_segments v_a1_postings), ((d1 4), aI cs 600 v_a1_document), ((d1 3), aI cs 601 v_a1_firstPosting)] := by
  intro n
  induction n with
  | zero =>
    intro v_a1_postings v_a1_document v_a1_firstPosting l2 l4 l5 h
    exact False.elim h
  | succ n ih =>
    intro v_a1_postings v_a1_document v_a1_firstPosting l2 l4 l5 h hK_70
    rw [L_X5_appendDocuments_8] at h
    refine a_iload C (pc := 8) 4 dX5_appendDocuments_8 rfl ?_
    refine a_aload_n C (pc := 10) 0 dX5_appendDocuments_10 rfl rfl ?_
    refine a_get C (pc := 11) 0 0 inW_X5 rfl rfl (Nat.le_of_ble_eq_true rfl) wF_X5_12 rfl rfl dX5_appendDocuments_11 ?_
    refine a_get C (pc := 14) 1 1 inW_X2 rfl rfl (Nat.le_of_ble_eq_true rfl) wF_X5_139 rfl rfl dX5_appendDocuments_14 ?_
    refine a_icmp_ge C (pc := 17) 70 dX5_appendDocuments_17 (by decide) (fun hc => ?_) (fun hc => ?_)
    · have h := h.1 hc
      refine a_lv (lv1 := [(2, .long l2)]) [2] rfl ?_
      exact hK_70 v_a1_postings v_a1_document v_a1_firstPosting l2 h
    · have h := h.2 hc
      refine a_iload C (pc := 20) 3 dX5_appendDocuments_20 rfl ?_
      refine a_aload_n C (pc := 22) 0 dX5_appendDocuments_22 rfl rfl ?_
      refine a_get C (pc := 23) 0 0 inW_X5 rfl rfl (Nat.le_of_ble_eq_true rfl) wF_X5_12 rfl rfl dX5_appendDocuments_23 ?_
      refine a_get C (pc := 26) 1 0 inW_X2 rfl rfl (Nat.le_of_ble_eq_true rfl) wF_X5_142 rfl rfl dX5_appendDocuments_26 ?_
      refine a_iload C (pc := 29) 4 dX5_appendDocuments_29 rfl ?_
      refine a_iald C (pc := 31) 2 rfl h.1 dX5_appendDocuments_31 ?_
      replace h := h.2
      refine a_iconst C (pc := 32) dX5_appendDocuments_32 ic_1 ?_
      refine a_iadd C (pc := 33) dX5_appendDocuments_33 ?_
      refine a_iadd C (pc := 34) dX5_appendDocuments_34 ?_
      refine a_istore C (pc := 35) (lv1 := [(0, .ref h0), (1, .ref h1), (2, .long l2), (4, .int (l4 + ((v_gaps_gap (l5 : Int32).toNatClampNeg) + 1))), (5, .int l5)]) [1, 2, 3, 0, 4] dX5_appendDocuments_35 (by decide) rfl ?_
      refine a_iload C (pc := 37) 3 dX5_appendDocuments_37 rfl ?_
      refine a_aload_n C (pc := 39) 1 dX5_appendDocuments_39 rfl rfl ?_
      refine a_get C (pc := 40) 3 6 inW_X4 rfl rfl (Nat.le_of_ble_eq_true rfl) wF_X5_40 rfl rfl dX5_appendDocuments_40 ?_
      refine a_icmp_ge C (pc := 43) 55 dX5_appendDocuments_43 (by decide) (fun hc => ?_) (fun hc => ?_)
      · have h := h.1 hc
        refine a_lconst C (pc := 55) (v := 0) dX5_appendDocuments_55 rfl ?_
        exact a_lreturn C (pc := 56) rfl dX5_appendDocuments_56 hkm hnm ⟨_, _, _, _, rfl, rfl, h⟩
      · have h := h.2 hc
        refine a_aload_n C (pc := 46) 1 dX5_appendDocuments_46 rfl rfl ?_
        refine a_iload C (pc := 47) 3 dX5_appendDocuments_47 rfl ?_
        refine a_callV C (pc := 49) (av := [.int (l4 + ((v_gaps_gap (l5 : Int32).toNatClampNeg) + 1))]) (wr := [(h0, oX5 d0), ((d0 0), oX2 d_gaps v_gaps_many), ((d_gaps 0), aI cs 40 v_gaps_gap)]) (m_X4_appendPosting Lx Dx cs h1 d1 v_a1_bits v_a1_documents v_a1_terms v_a1_segments v_a1_postings v_a1_document v_a1_firstPosting (l4 + ((v_gaps_gap (l5 : Int32).toNatClampNeg) + 1)) _ h) [3, 4, 5] [0, 1, 2] rfl rfl (by decide) (by decide) (by decide) wM_X5_145 wb_X4_appendPosting hy_X4_appendPosting (q0 := 3) rfl rfl rfl ⟨Nat.le_of_ble_eq_true rfl, Nat.le_of_ble_eq_true rfl⟩ (Nat.le_of_ble_eq_true rfl) hkm hnm rfl dX5_appendDocuments_49 (fun v w1 hw => ?_) [] rfl (fun _ _ h => h.elim)
        obtain ⟨r_1, v_a1_postings_2, v_a1_document_3, v_a1_firstPosting_4, rfl, rfl, h⟩ := hw
        refine a_ws (st1 := [.int r_1]) (ws1 := [(h0, oX5 d0), ((d0 0), oX2 d_gaps v_gaps_many), ((d_gaps 0), aI cs 40 v_gaps_gap), (h1, oX4 d1 v_a1_bits v_a1_documents v_a1_terms v_a1_segments v_a1_postings_2), ((d1 4), aI cs 600 v_a1_document_3), ((d1 3), aI cs 601 v_a1_firstPosting_4)]) k n9 52 [0, 1, 2, 3, 4, 5] rfl rfl rfl rfl (by decide) rfl ?_
        refine a_if_ne C (pc := 52) 57 dX5_appendDocuments_52 (by decide) (fun hc => ?_) (fun hc => ?_)
        · have h := h.1 hc
          refine a_lload_n C (pc := 57) 2 dX5_appendDocuments_57 rfl rfl ?_
          refine a_lconst C (pc := 58) (v := 1) dX5_appendDocuments_58 rfl ?_
          refine a_iload C (pc := 59) 3 dX5_appendDocuments_59 rfl ?_
          refine a_lshl C (pc := 61) dX5_appendDocuments_61 ?_
          refine a_lor C (pc := 62) dX5_appendDocuments_62 ?_
          refine a_lstore_n C (pc := 63) (lv1 := [(0, .ref h0), (1, .ref h1), (2, .long (l2 ||| ((1 : Int64) <<< ((l4 + ((v_gaps_gap (l5 : Int32).toNatClampNeg) + 1)).toInt64 &&& 63)))), (4, .int (l4 + ((v_gaps_gap (l5 : Int32).toNatClampNeg) + 1))), (5, .int l5)]) [1, 2, 0, 3, 4] dX5_appendDocuments_63 rfl (by decide) rfl ?_
          refine a_iinc C (pc := 64) (lv1 := [(0, .ref h0), (1, .ref h1), (2, .long (l2 ||| ((1 : Int64) <<< ((l4 + ((v_gaps_gap (l5 : Int32).toNatClampNeg) + 1)).toInt64 &&& 63)))), (4, .int (l4 + ((v_gaps_gap (l5 : Int32).toNatClampNeg) + 1))), (5, .int (l5 + 1))]) 4 [1, 2, 3, 4, 0] dX5_appendDocuments_64 rfl (congrArg (fun z => l5 + z) ic_1) (by decide) rfl ?_
          refine a_goto C (pc := 67) 8 dX5_appendDocuments_67 (by decide) ?_
          exact ih v_a1_postings_2 v_a1_document_3 v_a1_firstPosting_4 (l2 ||| ((1 : Int64) <<< ((l4 + ((v_gaps_gap (l5 : Int32).toNatClampNeg) + 1)).toInt64 &&& 63))) (l4 + ((v_gaps_gap (l5 : Int32).toNatClampNeg) + 1)) (l5 + 1) h hK_70
        · have h := h.2 hc
          refine a_lconst C (pc := 55) (v := 0) dX5_appendDocuments_55 rfl ?_
          exact a_lreturn C (pc := 56) rfl dX5_appendDocuments_56 hkm hnm ⟨_, _, _, _, rfl, rfl, h⟩
set_option maxRecDepth 100000 in
set_option maxHeartbeats 4000000 in
theorem m_X5_appendDocuments (Lx : Launch) (Dx : va_G) (cs : Nat → ClassId) (h0 : Nat) (h1 : Nat) (d0 : Nat → Nat) (d_gaps : Nat → Nat) (d1 : Nat → Nat) (v_gaps_many : Int32) (v_gaps_gap : Nat → Int32) (v_a1_bits : Int32) (v_a1_documents : Int32) (v_a1_terms : Int32) (v_a1_segments : Int32) (v_a1_postings : Int32) (v_a1_document : Nat → Int32) (v_a1_firstPosting : Nat → Int32) (Φ : Int64 → Int32 → (Nat → Int32) → (Nat → Int32) → Prop) (h : P_X5_appendDocuments v_gaps_many v_gaps_gap v_a1_documents v_a1_segments v_a1_postings v_a1_document v_a1_firstPosting Φ) : XMet Lx Dx cs yX5_appendDocuments cX5_appendDocuments 6 (some .long) 1 21 0 0 [.ref h0, .ref h1] [(h0, oX5 d0), ((d0 0), oX2 d_gaps v_gaps_many), ((d_gaps 0), aI cs 40 v_gaps_gap), (h1, oX4 d1 v_a1_bits v_a1_documents v_a1_terms v_a1_segments v_a1_postings), ((d1 4), aI cs 600 v_a1_document), ((d1 3), aI cs 601 v_a1_firstPosting)] (R_X5_appendDocuments cs h0 h1 d0 d_gaps d1 v_gaps_many v_gaps_gap v_a1_bits v_a1_documents v_a1_terms v_a1_segments Φ) (fun _ _ => False) := by
  refine XMet.of (own := RX5) (nm := "appendDocuments") (by decide) rfl rfl (Nat.le_of_ble_eq_true rfl) (fun Γ C => ?_)
  unfold P_X5_appendDocuments at h
  refine a_lconst C (pc := 0) (v := 0) dX5_appendDocuments_0 rfl ?_
  refine a_lstore_n C (pc := 1) (lv1 := [(0, .ref h0), (1, .ref h1), (2, .long 0)]) [1, 2, 0] dX5_appendDocuments_1 rfl (by decide) rfl ?_
  refine a_iconst C (pc := 2) dX5_appendDocuments_2 ic_m1 ?_
  refine a_istore C (pc := 3) (lv1 := [(0, .ref h0), (1, .ref h1), (2, .long 0), (4, .int (-1))]) [1, 2, 3, 0] dX5_appendDocuments_3 (by decide) rfl ?_
  refine a_iconst C (pc := 5) dX5_appendDocuments_5 ic_0 ?_
  refine a_istore C (pc := 6) (lv1 := [(0, .ref h0), (1, .ref h1), (2, .long 0), (4, .int (-1)), (5, .int 0)]) [1, 2, 3, 4, 0] dX5_appendDocuments_6 (by decide) rfl ?_
  obtain ⟨n0, h⟩ := h
  refine w_X5_appendDocuments_8 C (Nat.le_of_ble_eq_true rfl) (Nat.le_of_ble_eq_true rfl) n0 v_a1_postings v_a1_document v_a1_firstPosting 0 (-1) 0 h ?_
  intro v_a1_postings_9 v_a1_document_10 v_a1_firstPosting_11 l2_12 h
  refine a_lload_n C (pc := 70) 0 dX5_appendDocuments_70 rfl rfl ?_
  exact a_lreturn C (pc := 71) rfl dX5_appendDocuments_71 (Nat.le_of_ble_eq_true rfl) (Nat.le_of_ble_eq_true rfl) ⟨_, _, _, _, rfl, rfl, h⟩
set_option maxRecDepth 100000 in
set_option maxHeartbeats 4000000 in
theorem w_X5_readTerm_55 {Γ : XG} {Lx : Launch} {Dx : va_G} {cs : Nat → ClassId} {n_a1_row : Nat} {h0 : Nat} {h1 : Nat} {h3 : Nat} {d1 : Nat → Nat} {d3 : Nat → Nat} {d0 : Nat → Nat} {d_gaps : Nat → Nat} {v_a1_size : Int32} {v_a1_row : Nat → Int32} {v_a3_bits : Int32} {v_a3_documents : Int32} {K_166 : Int32 → Int32 → Int32 → Int32 → (Nat → Int64) → (Nat → Int32) → Int32 → (Nat → Int32) → (Nat → Int32) → (Nat → Int32) → (Nat → Int32) → Prop} {Φ : Int32 → Int32 → Int32 → Int32 → Int32 → (Nat → Int64) → (Nat → Int32) → Int32 → (Nat → Int32) → (Nat → Int32) → (Nat → Int32) → (Nat → Int32) → Prop} {k n9 : Nat} (C : CX Γ Lx Dx cs cX5_readTerm RX5 "readTerm" 15 (some .boolean) 4 99 0 0 (qEC cs 0 0 [] (R_X5_readTerm cs n_a1_row h0 h1 h3 d1 d3 d0 d_gaps v_a1_size v_a1_row v_a3_bits v_a3_documents Φ) (fun _ _ => False))) (hkm : k ≤ 0) (hnm : n9 ≤ 0) : ∀ n : Nat, ∀ (v_a1_place : Int32) (v_a3_terms : Int32) (v_a3_segments : Int32) (v_a3_postings : Int32) (v_a3_term : Nat → Int64) (v_a3_firstSegment : Nat → Int32) (v_gaps_many : Int32) (v_gaps_gap : Nat → Int32) (v_a3_impact : Nat → Int32) (v_a3_firstPosting : Nat → Int32) (v_a3_document : Nat → Int32) (l2 : Int32) (l6 : Int32) (l7 : Int32) (l8 : Int64) (l10 : Int32), L_X5_readTerm_55 n n_a1_row v_a1_size v_a1_place v_a1_row v_a3_bits v_a3_documents v_a3_terms v_a3_segments v_a3_postings v_a3_term v_a3_firstSegment v_gaps_many v_gaps_gap v_a3_impact v_a3_firstPosting v_a3_document l2 l6 l7 l8 l10 K_166 Φ → (∀ (v_a1_place_29 : Int32) (v_a3_terms_30 : Int32) (v_a3_segments_31 : Int32) (v_a3_postings_32 : Int32) (v_a3_term_33 : Nat → Int64) (v_a3_firstSegment_34 : Nat → Int32) (v_gaps_many_35 : Int32) (v_gaps_gap_36 : Nat → Int32) (v_a3_impact_37 : Nat → Int32) (v_a3_firstPosting_38 : Nat → Int32) (v_a3_document_39 : Nat → Int32), K_166 v_a1_place_29 v_a3_terms_30 v_a3_segments_31 v_a3_postings_32 v_a3_term_33 v_a3_firstSegment_34 v_gaps_many_35 v_gaps_gap_36 v_a3_impact_37 v_a3_firstPosting_38 v_a3_document_39 → AW Γ k n9 166 [] [] [(h1, oX0 d1 v_a1_size v_a1_place_29), ((d1 0), aB cs n_a1_row v_a1_row), (h3, oX4 d3 v_a3_bits v_a3_documents v_a3_terms_30 v_a3_segments_31 v_a3_postings_32), ((d3 0), aJ cs 64 v_a3_term_33), ((d3 1), aI cs 65 v_a3_firstSegment_34), (h0, oX5 d0), ((d0 0), oX2 d_gaps v_gaps_many_35), ((d_gaps 0), aI cs 40 v_gaps_gap_36), ((d3 2), aI cs 600 v_a3_impact_37), ((d3 3), aI cs 601 v_a3_firstPosting_38), ((d3 4), aI cs 600 v_a3_document_39)]) → AW Γ k n9 55 [(0, .ref h0), (1, .ref h1), (2, .int l2), (3, .ref h3), (6, .int l6), (7, .int l7), (8, .long l8), (10, .int l10)] [] [(h1, oX0 d1 v_a1_size v_a1_place), ((d1 0), aB cs n_a1_row v_a1_row), (h3, oX4 d3 v_a3_bits v_a3_documents v_a3_terms v_a3_segments v_a3_postings), ((d3 0), aJ cs 64 v_a3_term), ((d3 1), aI cs 65 v_a3_firstSegment), (h0, oX5 d0), ((d0 0), oX2 d_gaps v_gaps_many), ((d_gaps 0), aI cs 40 v_gaps_gap), ((d3 2), aI cs 600 v_a3_impact), ((d3 3), aI cs 601 v_a3_firstPosting), ((d3 4), aI cs 600 v_a3_document)] := by
  intro n
  induction n with
  | zero =>
    intro v_a1_place v_a3_terms v_a3_segments v_a3_postings v_a3_term v_a3_firstSegment v_gaps_many v_gaps_gap v_a3_impact v_a3_firstPosting v_a3_document l2 l6 l7 l8 l10 h
    exact False.elim h
  | succ n ih =>
    intro v_a1_place v_a3_terms v_a3_segments v_a3_postings v_a3_term v_a3_firstSegment v_gaps_many v_gaps_gap v_a3_impact v_a3_firstPosting v_a3_document l2 l6 l7 l8 l10 h hK_166
    rw [L_X5_readTerm_55] at h
    refine a_iload C (pc := 55) 7 dX5_readTerm_55 rfl ?_
    refine a_iload C (pc := 57) 4 dX5_readTerm_57 rfl ?_
    refine a_icmp_ge C (pc := 59) 166 dX5_readTerm_59 (by decide) (fun hc => ?_) (fun hc => ?_)
    · have h := h.1 hc
      refine a_lv (lv1 := []) [] rfl ?_
      exact hK_166 v_a1_place v_a3_terms v_a3_segments v_a3_postings v_a3_term v_a3_firstSegment v_gaps_many v_gaps_gap v_a3_impact v_a3_firstPosting v_a3_document h
    · have h := h.2 hc
      refine a_aload_n C (pc := 62) 1 dX5_readTerm_62 rfl rfl ?_
      refine a_callV C (pc := 63) (av := []) (wr := [(h3, oX4 d3 v_a3_bits v_a3_documents v_a3_terms v_a3_segments v_a3_postings), ((d3 0), aJ cs 64 v_a3_term), ((d3 1), aI cs 65 v_a3_firstSegment), (h0, oX5 d0), ((d0 0), oX2 d_gaps v_gaps_many), ((d_gaps 0), aI cs 40 v_gaps_gap), ((d3 2), aI cs 600 v_a3_impact), ((d3 3), aI cs 601 v_a3_firstPosting), ((d3 4), aI cs 600 v_a3_document)]) (m_X0_next Lx Dx cs n_a1_row h1 d1 v_a1_size v_a1_place v_a1_row _ h) [0, 1] [2, 3, 4, 5, 6, 7, 8, 9, 10] rfl rfl (by decide) (by decide) (by decide) wM_X5_56 wb_X0_next hy_X0_next (q0 := 0) rfl rfl rfl ⟨Nat.le_of_ble_eq_true rfl, Nat.le_of_ble_eq_true rfl⟩ (Nat.le_of_ble_eq_true rfl) hkm hnm rfl dX5_readTerm_63 (fun v w1 hw => ?_) [] rfl (fun _ _ h => h.elim)
      obtain ⟨r_10, v_a1_place_11, rfl, rfl, h⟩ := hw
      refine a_ws (st1 := [.int r_10]) (ws1 := [(h1, oX0 d1 v_a1_size v_a1_place_11), ((d1 0), aB cs n_a1_row v_a1_row), (h3, oX4 d3 v_a3_bits v_a3_documents v_a3_terms v_a3_segments v_a3_postings), ((d3 0), aJ cs 64 v_a3_term), ((d3 1), aI cs 65 v_a3_firstSegment), (h0, oX5 d0), ((d0 0), oX2 d_gaps v_gaps_many), ((d_gaps 0), aI cs 40 v_gaps_gap), ((d3 2), aI cs 600 v_a3_impact), ((d3 3), aI cs 601 v_a3_firstPosting), ((d3 4), aI cs 600 v_a3_document)]) k n9 66 [9, 10, 0, 1, 2, 3, 4, 5, 6, 7, 8] rfl rfl rfl rfl (by decide) rfl ?_
      refine a_istore C (pc := 66) (lv1 := [(0, .ref h0), (1, .ref h1), (2, .int l2), (3, .ref h3), (6, .int l6), (7, .int l7), (8, .long l8), (10, .int l10), (11, .int r_10)]) [1, 2, 3, 4, 5, 6, 7, 8, 0] dX5_readTerm_66 (by decide) rfl ?_
      refine a_aload_n C (pc := 68) 1 dX5_readTerm_68 rfl rfl ?_
      refine a_callV C (pc := 69) (av := []) (wr := [(h3, oX4 d3 v_a3_bits v_a3_documents v_a3_terms v_a3_segments v_a3_postings), ((d3 0), aJ cs 64 v_a3_term), ((d3 1), aI cs 65 v_a3_firstSegment), (h0, oX5 d0), ((d0 0), oX2 d_gaps v_gaps_many), ((d_gaps 0), aI cs 40 v_gaps_gap), ((d3 2), aI cs 600 v_a3_impact), ((d3 3), aI cs 601 v_a3_firstPosting), ((d3 4), aI cs 600 v_a3_document)]) (m_X0_next Lx Dx cs n_a1_row h1 d1 v_a1_size v_a1_place_11 v_a1_row _ h) [0, 1] [2, 3, 4, 5, 6, 7, 8, 9, 10] rfl rfl (by decide) (by decide) (by decide) wM_X5_56 wb_X0_next hy_X0_next (q0 := 0) rfl rfl rfl ⟨Nat.le_of_ble_eq_true rfl, Nat.le_of_ble_eq_true rfl⟩ (Nat.le_of_ble_eq_true rfl) hkm hnm rfl dX5_readTerm_69 (fun v w1 hw => ?_) [] rfl (fun _ _ h => h.elim)
      obtain ⟨r_12, v_a1_place_13, rfl, rfl, h⟩ := hw
      refine a_ws (st1 := [.int r_12]) (ws1 := [(h1, oX0 d1 v_a1_size v_a1_place_13), ((d1 0), aB cs n_a1_row v_a1_row), (h3, oX4 d3 v_a3_bits v_a3_documents v_a3_terms v_a3_segments v_a3_postings), ((d3 0), aJ cs 64 v_a3_term), ((d3 1), aI cs 65 v_a3_firstSegment), (h0, oX5 d0), ((d0 0), oX2 d_gaps v_gaps_many), ((d_gaps 0), aI cs 40 v_gaps_gap), ((d3 2), aI cs 600 v_a3_impact), ((d3 3), aI cs 601 v_a3_firstPosting), ((d3 4), aI cs 600 v_a3_document)]) k n9 72 [9, 10, 0, 1, 2, 3, 4, 5, 6, 7, 8] rfl rfl rfl rfl (by decide) rfl ?_
      refine a_istore C (pc := 72) (lv1 := [(0, .ref h0), (1, .ref h1), (2, .int l2), (3, .ref h3), (6, .int l6), (7, .int l7), (8, .long l8), (10, .int l10), (11, .int r_10), (12, .int r_12)]) [1, 2, 3, 4, 5, 6, 7, 8, 9, 0] dX5_readTerm_72 (by decide) rfl ?_
      refine a_iload C (pc := 74) 8 dX5_readTerm_74 rfl ?_
      refine a_iconst C (pc := 76) dX5_readTerm_76 ic_1 ?_
      refine a_iload C (pc := 77) 5 dX5_readTerm_77 rfl ?_
      refine a_iconst C (pc := 79) dX5_readTerm_79 ic_1 ?_
      refine a_isub C (pc := 80) dX5_readTerm_80 ?_
      refine a_callS C (pc := 81) (av := [.int r_10, .int 1, .int (l7 - 1)]) (wr := [(h1, oX0 d1 v_a1_size v_a1_place_13), ((d1 0), aB cs n_a1_row v_a1_row), (h3, oX4 d3 v_a3_bits v_a3_documents v_a3_terms v_a3_segments v_a3_postings), ((d3 0), aJ cs 64 v_a3_term), ((d3 1), aI cs 65 v_a3_firstSegment), (h0, oX5 d0), ((d0 0), oX2 d_gaps v_gaps_many), ((d_gaps 0), aI cs 40 v_gaps_gap), ((d3 2), aI cs 600 v_a3_impact), ((d3 3), aI cs 601 v_a3_firstPosting), ((d3 4), aI cs 600 v_a3_document)]) (m_X5_isWithin Lx Dx cs r_10 1 (l7 - 1) _ h) [] [0, 1, 2, 3, 4, 5, 6, 7, 8, 9, 10] rfl rfl (by decide) (by decide) (by decide) wM_X5_60 wb_X5_isWithin hy_X5_isWithin rfl ⟨Nat.le_of_ble_eq_true rfl, Nat.le_of_ble_eq_true rfl⟩ (Nat.le_of_ble_eq_true rfl) hkm hnm rfl dX5_readTerm_81 (fun v w1 hw => ?_) [] rfl (fun _ _ h => h.elim)
      obtain ⟨r_14, rfl, rfl, h⟩ := hw
      refine a_ws (st1 := [.int r_14]) (ws1 := [(h1, oX0 d1 v_a1_size v_a1_place_13), ((d1 0), aB cs n_a1_row v_a1_row), (h3, oX4 d3 v_a3_bits v_a3_documents v_a3_terms v_a3_segments v_a3_postings), ((d3 0), aJ cs 64 v_a3_term), ((d3 1), aI cs 65 v_a3_firstSegment), (h0, oX5 d0), ((d0 0), oX2 d_gaps v_gaps_many), ((d_gaps 0), aI cs 40 v_gaps_gap), ((d3 2), aI cs 600 v_a3_impact), ((d3 3), aI cs 601 v_a3_firstPosting), ((d3 4), aI cs 600 v_a3_document)]) k n9 84 [0, 1, 2, 3, 4, 5, 6, 7, 8, 9, 10] rfl rfl rfl rfl (by decide) rfl ?_
      refine a_if_eq C (pc := 84) 121 dX5_readTerm_84 (by decide) (fun hc => ?_) (fun hc => ?_)
      · have h := h.1 hc
        refine a_iconst C (pc := 121) dX5_readTerm_121 ic_0 ?_
        exact a_zreturn C (pc := 122) rfl rfl dX5_readTerm_122 hkm hnm ⟨_, _, _, _, _, _, _, _, _, _, _, _, rfl, rfl, h⟩
      · have h := h.2 hc
        refine a_iload C (pc := 87) 9 dX5_readTerm_87 rfl ?_
        refine a_iconst C (pc := 89) dX5_readTerm_89 ic_1 ?_
        refine a_bipush C (pc := 90) dX5_readTerm_90 bp_40 ?_
        refine a_callS C (pc := 92) (av := [.int r_12, .int 1, .int 40]) (wr := [(h1, oX0 d1 v_a1_size v_a1_place_13), ((d1 0), aB cs n_a1_row v_a1_row), (h3, oX4 d3 v_a3_bits v_a3_documents v_a3_terms v_a3_segments v_a3_postings), ((d3 0), aJ cs 64 v_a3_term), ((d3 1), aI cs 65 v_a3_firstSegment), (h0, oX5 d0), ((d0 0), oX2 d_gaps v_gaps_many), ((d_gaps 0), aI cs 40 v_gaps_gap), ((d3 2), aI cs 600 v_a3_impact), ((d3 3), aI cs 601 v_a3_firstPosting), ((d3 4), aI cs 600 v_a3_document)]) (m_X5_isWithin Lx Dx cs r_12 1 40 _ h) [] [0, 1, 2, 3, 4, 5, 6, 7, 8, 9, 10] rfl rfl (by decide) (by decide) (by decide) wM_X5_60 wb_X5_isWithin hy_X5_isWithin rfl ⟨Nat.le_of_ble_eq_true rfl, Nat.le_of_ble_eq_true rfl⟩ (Nat.le_of_ble_eq_true rfl) hkm hnm rfl dX5_readTerm_92 (fun v w1 hw => ?_) [] rfl (fun _ _ h => h.elim)
        obtain ⟨r_15, rfl, rfl, h⟩ := hw
        refine a_ws (st1 := [.int r_15]) (ws1 := [(h1, oX0 d1 v_a1_size v_a1_place_13), ((d1 0), aB cs n_a1_row v_a1_row), (h3, oX4 d3 v_a3_bits v_a3_documents v_a3_terms v_a3_segments v_a3_postings), ((d3 0), aJ cs 64 v_a3_term), ((d3 1), aI cs 65 v_a3_firstSegment), (h0, oX5 d0), ((d0 0), oX2 d_gaps v_gaps_many), ((d_gaps 0), aI cs 40 v_gaps_gap), ((d3 2), aI cs 600 v_a3_impact), ((d3 3), aI cs 601 v_a3_firstPosting), ((d3 4), aI cs 600 v_a3_document)]) k n9 95 [0, 1, 2, 3, 4, 5, 6, 7, 8, 9, 10] rfl rfl rfl rfl (by decide) rfl ?_
        refine a_if_eq C (pc := 95) 121 dX5_readTerm_95 (by decide) (fun hc => ?_) (fun hc => ?_)
        · have h := h.1 hc
          refine a_iconst C (pc := 121) dX5_readTerm_121 ic_0 ?_
          exact a_zreturn C (pc := 122) rfl rfl dX5_readTerm_122 hkm hnm ⟨_, _, _, _, _, _, _, _, _, _, _, _, rfl, rfl, h⟩
        · have h := h.2 hc
          refine a_aload_n C (pc := 98) 0 dX5_readTerm_98 rfl rfl ?_
          refine a_get C (pc := 99) 5 0 inW_X5 rfl rfl (Nat.le_of_ble_eq_true rfl) wF_X5_12 rfl rfl dX5_readTerm_99 ?_
          refine a_iload_n C (pc := 102) 2 dX5_readTerm_102 rfl rfl ?_
          refine a_iload C (pc := 103) 9 dX5_readTerm_103 rfl ?_
          refine a_aload_n C (pc := 105) 1 dX5_readTerm_105 rfl rfl ?_
          refine a_callV C (pc := 106) (av := [.int l2, .int r_12, .ref h1]) (wr := [(h3, oX4 d3 v_a3_bits v_a3_documents v_a3_terms v_a3_segments v_a3_postings), ((d3 0), aJ cs 64 v_a3_term), ((d3 1), aI cs 65 v_a3_firstSegment), (h0, oX5 d0), ((d3 2), aI cs 600 v_a3_impact), ((d3 3), aI cs 601 v_a3_firstPosting), ((d3 4), aI cs 600 v_a3_document)]) (m_X2_read Lx Dx cs n_a1_row (d0 0) h1 d_gaps d1 v_gaps_many v_a1_size v_a1_place_13 v_a1_row v_gaps_gap l2 r_12 _ h) [6, 0, 1, 7] [2, 3, 4, 5, 8, 9, 10] rfl rfl (by decide) (by decide) (by decide) wM_X5_124 wb_X2_read hy_X2_read (q0 := 6) rfl rfl rfl ⟨Nat.le_of_ble_eq_true rfl, Nat.le_of_ble_eq_true rfl⟩ (Nat.le_of_ble_eq_true rfl) hkm hnm rfl dX5_readTerm_106 (fun v w1 hw => ?_) [] rfl (fun _ _ h => h.elim)
          obtain ⟨r_16, v_gaps_many_17, v_a1_place_18, v_gaps_gap_19, rfl, rfl, h⟩ := hw
          refine a_ws (st1 := [.int r_16]) (ws1 := [(h1, oX0 d1 v_a1_size v_a1_place_18), ((d1 0), aB cs n_a1_row v_a1_row), (h3, oX4 d3 v_a3_bits v_a3_documents v_a3_terms v_a3_segments v_a3_postings), ((d3 0), aJ cs 64 v_a3_term), ((d3 1), aI cs 65 v_a3_firstSegment), (h0, oX5 d0), ((d0 0), oX2 d_gaps v_gaps_many_17), ((d_gaps 0), aI cs 40 v_gaps_gap_19), ((d3 2), aI cs 600 v_a3_impact), ((d3 3), aI cs 601 v_a3_firstPosting), ((d3 4), aI cs 600 v_a3_document)]) k n9 109 [8, 9, 0, 1, 2, 3, 7, 10, 4, 5, 6] rfl rfl rfl rfl (by decide) rfl ?_
          refine a_if_eq C (pc := 109) 121 dX5_readTerm_109 (by decide) (fun hc => ?_) (fun hc => ?_)
          · have h := h.1 hc
            refine a_iconst C (pc := 121) dX5_readTerm_121 ic_0 ?_
            exact a_zreturn C (pc := 122) rfl rfl dX5_readTerm_122 hkm hnm ⟨_, _, _, _, _, _, _, _, _, _, _, _, rfl, rfl, h⟩
          · have h := h.2 hc
            refine a_aload_n C (pc := 112) 3 dX5_readTerm_112 rfl rfl ?_
            refine a_iload C (pc := 113) 8 dX5_readTerm_113 rfl ?_
            refine a_callV C (pc := 115) (av := [.int r_10]) (wr := [(h1, oX0 d1 v_a1_size v_a1_place_18), ((d1 0), aB cs n_a1_row v_a1_row), ((d3 0), aJ cs 64 v_a3_term), (h0, oX5 d0), ((d0 0), oX2 d_gaps v_gaps_many_17), ((d_gaps 0), aI cs 40 v_gaps_gap_19), ((d3 4), aI cs 600 v_a3_document)]) (m_X4_startSegment Lx Dx cs h3 d3 v_a3_bits v_a3_documents v_a3_terms v_a3_segments v_a3_postings v_a3_impact v_a3_firstSegment v_a3_firstPosting r_10 _ h) [2, 8, 4, 9] [0, 1, 3, 5, 6, 7, 10] rfl rfl (by decide) (by decide) (by decide) wM_X5_128 wb_X4_startSegment hy_X4_startSegment (q0 := 2) rfl rfl rfl ⟨Nat.le_of_ble_eq_true rfl, Nat.le_of_ble_eq_true rfl⟩ (Nat.le_of_ble_eq_true rfl) hkm hnm rfl dX5_readTerm_115 (fun v w1 hw => ?_) [] rfl (fun _ _ h => h.elim)
            obtain ⟨r_20, v_a3_segments_21, v_a3_impact_22, v_a3_firstSegment_23, v_a3_firstPosting_24, rfl, rfl, h⟩ := hw
            refine a_ws (st1 := [.int r_20]) (ws1 := [(h1, oX0 d1 v_a1_size v_a1_place_18), ((d1 0), aB cs n_a1_row v_a1_row), (h3, oX4 d3 v_a3_bits v_a3_documents v_a3_terms v_a3_segments_21 v_a3_postings), ((d3 0), aJ cs 64 v_a3_term), ((d3 1), aI cs 65 v_a3_firstSegment_23), (h0, oX5 d0), ((d0 0), oX2 d_gaps v_gaps_many_17), ((d_gaps 0), aI cs 40 v_gaps_gap_19), ((d3 2), aI cs 600 v_a3_impact_22), ((d3 3), aI cs 601 v_a3_firstPosting_24), ((d3 4), aI cs 600 v_a3_document)]) k n9 118 [0, 1, 7, 2, 9, 3, 4, 5, 8, 10, 6] rfl rfl rfl rfl (by decide) rfl ?_
            refine a_if_ne C (pc := 118) 123 dX5_readTerm_118 (by decide) (fun hc => ?_) (fun hc => ?_)
            · have h := h.1 hc
              refine a_aload_n C (pc := 123) 0 dX5_readTerm_123 rfl rfl ?_
              refine a_aload_n C (pc := 124) 3 dX5_readTerm_124 rfl rfl ?_
              refine a_callV C (pc := 125) (av := [.ref h3]) (wr := [(h1, oX0 d1 v_a1_size v_a1_place_18), ((d1 0), aB cs n_a1_row v_a1_row), ((d3 0), aJ cs 64 v_a3_term), ((d3 1), aI cs 65 v_a3_firstSegment_23), ((d3 2), aI cs 600 v_a3_impact_22)]) (m_X5_appendDocuments Lx Dx cs h0 h3 d0 d_gaps d3 v_gaps_many_17 v_gaps_gap_19 v_a3_bits v_a3_documents v_a3_terms v_a3_segments_21 v_a3_postings v_a3_document v_a3_firstPosting_24 _ h) [5, 6, 7, 2, 10, 9] [0, 1, 3, 4, 8] rfl rfl (by decide) (by decide) (by decide) wM_X5_131 wb_X5_appendDocuments hy_X5_appendDocuments (q0 := 5) rfl rfl rfl ⟨Nat.le_of_ble_eq_true rfl, Nat.le_of_ble_eq_true rfl⟩ (Nat.le_of_ble_eq_true rfl) hkm hnm rfl dX5_readTerm_125 (fun v w1 hw => ?_) [] rfl (fun _ _ h => h.elim)
              obtain ⟨r_25, v_a3_postings_26, v_a3_document_27, v_a3_firstPosting_28, rfl, rfl, h⟩ := hw
              refine a_ws (st1 := [.long r_25]) (ws1 := [(h1, oX0 d1 v_a1_size v_a1_place_18), ((d1 0), aB cs n_a1_row v_a1_row), (h3, oX4 d3 v_a3_bits v_a3_documents v_a3_terms v_a3_segments_21 v_a3_postings_26), ((d3 0), aJ cs 64 v_a3_term), ((d3 1), aI cs 65 v_a3_firstSegment_23), (h0, oX5 d0), ((d0 0), oX2 d_gaps v_gaps_many_17), ((d_gaps 0), aI cs 40 v_gaps_gap_19), ((d3 2), aI cs 600 v_a3_impact_22), ((d3 3), aI cs 601 v_a3_firstPosting_28), ((d3 4), aI cs 600 v_a3_document_27)]) k n9 128 [0, 1, 8, 2, 3, 5, 6, 7, 4, 10, 9] rfl rfl rfl rfl (by decide) rfl ?_
              refine a_lstore C (pc := 128) (lv1 := [(0, .ref h0), (1, .ref h1), (2, .int l2), (3, .ref h3), (6, .int l6), (7, .int l7), (8, .long l8), (10, .int l10), (11, .int r_10), (12, .int r_12), (13, .long r_25)]) [1, 2, 3, 4, 5, 6, 7, 8, 9, 10, 0] dX5_readTerm_128 (by decide) rfl ?_
              refine a_lload C (pc := 130) 10 dX5_readTerm_130 rfl ?_
              refine a_lconst C (pc := 132) (v := 0) dX5_readTerm_132 rfl ?_
              refine a_lcmp_eq C (pc := 133) 147 dX5_readTerm_133 dX5_readTerm_134 (by decide) (fun hc => ?_) (fun hc => ?_)
              · have h := h.1 hc
                refine a_iconst C (pc := 147) dX5_readTerm_147 ic_0 ?_
                exact a_zreturn C (pc := 148) rfl rfl dX5_readTerm_148 hkm hnm ⟨_, _, _, _, _, _, _, _, _, _, _, _, rfl, rfl, h⟩
              · have h := h.2 hc
                refine a_lload C (pc := 137) 10 dX5_readTerm_137 rfl ?_
                refine a_lload C (pc := 139) 6 dX5_readTerm_139 rfl ?_
                refine a_land C (pc := 141) dX5_readTerm_141 ?_
                refine a_lconst C (pc := 142) (v := 0) dX5_readTerm_142 rfl ?_
                refine a_lcmp_eq C (pc := 143) 149 dX5_readTerm_143 dX5_readTerm_144 (by decide) (fun hc => ?_) (fun hc => ?_)
                · have h := h.1 hc
                  refine a_lload C (pc := 149) 6 dX5_readTerm_149 rfl ?_
                  refine a_lload C (pc := 151) 10 dX5_readTerm_151 rfl ?_
                  refine a_lor C (pc := 153) dX5_readTerm_153 ?_
                  refine a_lstore C (pc := 154) (lv1 := [(0, .ref h0), (1, .ref h1), (2, .int l2), (3, .ref h3), (6, .int l6), (7, .int l7), (8, .long (l8 ||| r_25)), (10, .int l10), (11, .int r_10), (12, .int r_12), (13, .long r_25)]) [1, 2, 3, 4, 5, 6, 0, 7, 8, 9, 10] dX5_readTerm_154 (by decide) rfl ?_
                  refine a_iload C (pc := 156) 8 dX5_readTerm_156 rfl ?_
                  refine a_istore C (pc := 158) (lv1 := [(0, .ref h0), (1, .ref h1), (2, .int l2), (3, .ref h3), (6, .int l6), (7, .int r_10), (8, .long (l8 ||| r_25)), (10, .int l10), (11, .int r_10), (12, .int r_12), (13, .long r_25)]) [1, 2, 3, 4, 5, 0, 6, 7, 8, 9, 10] dX5_readTerm_158 (by decide) rfl ?_
                  refine a_iinc C (pc := 160) (lv1 := [(0, .ref h0), (1, .ref h1), (2, .int l2), (3, .ref h3), (6, .int l6), (7, .int r_10), (8, .long (l8 ||| r_25)), (10, .int (l10 + 1)), (11, .int r_10), (12, .int r_12), (13, .long r_25)]) 7 [1, 2, 3, 4, 5, 6, 7, 0, 8, 9, 10] dX5_readTerm_160 rfl (congrArg (fun z => l10 + z) ic_1) (by decide) rfl ?_
                  refine a_goto C (pc := 163) 55 dX5_readTerm_163 (by decide) ?_
                  refine a_lv (lv1 := [(0, .ref h0), (1, .ref h1), (2, .int l2), (3, .ref h3), (6, .int l6), (7, .int r_10), (8, .long (l8 ||| r_25)), (10, .int (l10 + 1))]) [0, 1, 2, 3, 4, 5, 6, 7] rfl ?_
                  exact ih v_a1_place_18 v_a3_terms v_a3_segments_21 v_a3_postings_26 v_a3_term v_a3_firstSegment_23 v_gaps_many_17 v_gaps_gap_19 v_a3_impact_22 v_a3_firstPosting_28 v_a3_document_27 l2 l6 r_10 (l8 ||| r_25) (l10 + 1) h hK_166
                · have h := h.2 hc
                  refine a_iconst C (pc := 147) dX5_readTerm_147 ic_0 ?_
                  exact a_zreturn C (pc := 148) rfl rfl dX5_readTerm_148 hkm hnm ⟨_, _, _, _, _, _, _, _, _, _, _, _, rfl, rfl, h⟩
            · have h := h.2 hc
              refine a_iconst C (pc := 121) dX5_readTerm_121 ic_0 ?_
              exact a_zreturn C (pc := 122) rfl rfl dX5_readTerm_122 hkm hnm ⟨_, _, _, _, _, _, _, _, _, _, _, _, rfl, rfl, h⟩
set_option maxRecDepth 100000 in
set_option maxHeartbeats 4000000 in
theorem m_X5_readTerm (Lx : Launch) (Dx : va_G) (cs : Nat → ClassId) (n_a1_row : Nat) (h0 : Nat) (h1 : Nat) (h3 : Nat) (d1 : Nat → Nat) (d3 : Nat → Nat) (d0 : Nat → Nat) (d_gaps : Nat → Nat) (v_a1_size : Int32) (v_a1_place : Int32) (v_a1_row : Nat → Int32) (v_a3_bits : Int32) (v_a3_documents : Int32) (v_a3_terms : Int32) (v_a3_segments : Int32) (v_a3_postings : Int32) (v_a3_term : Nat → Int64) (v_a3_firstSegment : Nat → Int32) (v_gaps_many : Int32) (v_gaps_gap : Nat → Int32) (v_a3_impact : Nat → Int32) (v_a3_firstPosting : Nat → Int32) (v_a3_document : Nat → Int32) (l2 : Int32) (Φ : Int32 → Int32 → Int32 → Int32 → Int32 → (Nat → Int64) → (Nat → Int32) → Int32 → (Nat → Int32) → (Nat → Int32) → (Nat → Int32) → (Nat → Int32) → Prop) (h : P_X5_readTerm n_a1_row v_a1_size v_a1_place v_a1_row v_a3_bits v_a3_documents v_a3_terms v_a3_segments v_a3_postings v_a3_term v_a3_firstSegment v_gaps_many v_gaps_gap v_a3_impact v_a3_firstPosting v_a3_document l2 Φ) : XMet Lx Dx cs yX5_readTerm cX5_readTerm 15 (some .boolean) 4 99 0 0 [.ref h0, .ref h1, .int l2, .ref h3] [(h1, oX0 d1 v_a1_size v_a1_place), ((d1 0), aB cs n_a1_row v_a1_row), (h3, oX4 d3 v_a3_bits v_a3_documents v_a3_terms v_a3_segments v_a3_postings), ((d3 0), aJ cs 64 v_a3_term), ((d3 1), aI cs 65 v_a3_firstSegment), (h0, oX5 d0), ((d0 0), oX2 d_gaps v_gaps_many), ((d_gaps 0), aI cs 40 v_gaps_gap), ((d3 2), aI cs 600 v_a3_impact), ((d3 3), aI cs 601 v_a3_firstPosting), ((d3 4), aI cs 600 v_a3_document)] (R_X5_readTerm cs n_a1_row h0 h1 h3 d1 d3 d0 d_gaps v_a1_size v_a1_row v_a3_bits v_a3_documents Φ) (fun _ _ => False) := by
  refine XMet.of (own := RX5) (nm := "readTerm") (by decide) rfl rfl (Nat.le_of_ble_eq_true rfl) (fun Γ C => ?_)
  unfold P_X5_readTerm at h
  refine a_aload_n C (pc := 0) 1 dX5_readTerm_0 rfl rfl ?_
  refine a_callS C (pc := 1) (av := [.ref h1]) (wr := [(h3, oX4 d3 v_a3_bits v_a3_documents v_a3_terms v_a3_segments v_a3_postings), ((d3 0), aJ cs 64 v_a3_term), ((d3 1), aI cs 65 v_a3_firstSegment), (h0, oX5 d0), ((d0 0), oX2 d_gaps v_gaps_many), ((d_gaps 0), aI cs 40 v_gaps_gap), ((d3 2), aI cs 600 v_a3_impact), ((d3 3), aI cs 601 v_a3_firstPosting), ((d3 4), aI cs 600 v_a3_document)]) (m_X5_readWord Lx Dx cs n_a1_row h1 d1 v_a1_size v_a1_place v_a1_row _ h) [0, 1] [2, 3, 4, 5, 6, 7, 8, 9, 10] rfl rfl (by decide) (by decide) (by decide) wM_X5_112 wb_X5_readWord hy_X5_readWord rfl ⟨Nat.le_of_ble_eq_true rfl, Nat.le_of_ble_eq_true rfl⟩ (Nat.le_of_ble_eq_true rfl) (Nat.le_of_ble_eq_true rfl) (Nat.le_of_ble_eq_true rfl) rfl dX5_readTerm_1 (fun v w1 hw => ?_) [] rfl (fun _ _ h => h.elim)
  obtain ⟨r_1, v_a1_place_2, rfl, rfl, h⟩ := hw
  refine a_ws (st1 := [.long r_1]) (ws1 := [(h1, oX0 d1 v_a1_size v_a1_place_2), ((d1 0), aB cs n_a1_row v_a1_row), (h3, oX4 d3 v_a3_bits v_a3_documents v_a3_terms v_a3_segments v_a3_postings), ((d3 0), aJ cs 64 v_a3_term), ((d3 1), aI cs 65 v_a3_firstSegment), (h0, oX5 d0), ((d0 0), oX2 d_gaps v_gaps_many), ((d_gaps 0), aI cs 40 v_gaps_gap), ((d3 2), aI cs 600 v_a3_impact), ((d3 3), aI cs 601 v_a3_firstPosting), ((d3 4), aI cs 600 v_a3_document)]) 0 0 4 [9, 10, 0, 1, 2, 3, 4, 5, 6, 7, 8] rfl rfl rfl rfl (by decide) rfl ?_
  refine a_lstore C (pc := 4) (lv1 := [(0, .ref h0), (1, .ref h1), (2, .int l2), (3, .ref h3), (4, .long r_1)]) [1, 2, 3, 4, 0] dX5_readTerm_4 (by decide) rfl ?_
  refine a_lload C (pc := 6) 4 dX5_readTerm_6 rfl ?_
  refine a_aload_n C (pc := 8) 3 dX5_readTerm_8 rfl rfl ?_
  refine a_callV C (pc := 9) (av := []) (wr := [(h1, oX0 d1 v_a1_size v_a1_place_2), ((d1 0), aB cs n_a1_row v_a1_row), ((d3 1), aI cs 65 v_a3_firstSegment), (h0, oX5 d0), ((d0 0), oX2 d_gaps v_gaps_many), ((d_gaps 0), aI cs 40 v_gaps_gap), ((d3 2), aI cs 600 v_a3_impact), ((d3 3), aI cs 601 v_a3_firstPosting), ((d3 4), aI cs 600 v_a3_document)]) (m_X4_greatestTerm Lx Dx cs h3 d3 v_a3_bits v_a3_documents v_a3_terms v_a3_segments v_a3_postings v_a3_term _ h) [2, 3] [0, 1, 4, 5, 6, 7, 8, 9, 10] rfl rfl (by decide) (by decide) (by decide) wM_X5_116 wb_X4_greatestTerm hy_X4_greatestTerm (q0 := 2) rfl rfl rfl ⟨Nat.le_of_ble_eq_true rfl, Nat.le_of_ble_eq_true rfl⟩ (Nat.le_of_ble_eq_true rfl) (Nat.le_of_ble_eq_true rfl) (Nat.le_of_ble_eq_true rfl) rfl dX5_readTerm_9 (fun v w1 hw => ?_) [] rfl (fun _ _ h => h.elim)
  obtain ⟨r_3, rfl, rfl, h⟩ := hw
  refine a_ws (st1 := [.long r_3, .long r_1]) (ws1 := [(h1, oX0 d1 v_a1_size v_a1_place_2), ((d1 0), aB cs n_a1_row v_a1_row), (h3, oX4 d3 v_a3_bits v_a3_documents v_a3_terms v_a3_segments v_a3_postings), ((d3 0), aJ cs 64 v_a3_term), ((d3 1), aI cs 65 v_a3_firstSegment), (h0, oX5 d0), ((d0 0), oX2 d_gaps v_gaps_many), ((d_gaps 0), aI cs 40 v_gaps_gap), ((d3 2), aI cs 600 v_a3_impact), ((d3 3), aI cs 601 v_a3_firstPosting), ((d3 4), aI cs 600 v_a3_document)]) 0 0 12 [0, 1, 9, 10, 2, 3, 4, 5, 6, 7, 8] rfl rfl rfl rfl (by decide) rfl ?_
  refine a_lcmp_le C (pc := 12) 25 dX5_readTerm_12 dX5_readTerm_13 (by decide) (fun hc => ?_) (fun hc => ?_)
  · have h := h.1 hc
    refine a_iconst C (pc := 25) dX5_readTerm_25 ic_0 ?_
    exact a_zreturn C (pc := 26) rfl rfl dX5_readTerm_26 (Nat.le_of_ble_eq_true rfl) (Nat.le_of_ble_eq_true rfl) ⟨_, _, _, _, _, _, _, _, _, _, _, _, rfl, rfl, h⟩
  · have h := h.2 hc
    refine a_aload_n C (pc := 16) 3 dX5_readTerm_16 rfl rfl ?_
    refine a_lload C (pc := 17) 4 dX5_readTerm_17 rfl ?_
    refine a_callV C (pc := 19) (av := [.long r_1]) (wr := [(h1, oX0 d1 v_a1_size v_a1_place_2), ((d1 0), aB cs n_a1_row v_a1_row), (h0, oX5 d0), ((d0 0), oX2 d_gaps v_gaps_many), ((d_gaps 0), aI cs 40 v_gaps_gap), ((d3 2), aI cs 600 v_a3_impact), ((d3 3), aI cs 601 v_a3_firstPosting), ((d3 4), aI cs 600 v_a3_document)]) (m_X4_startTerm Lx Dx cs h3 d3 v_a3_bits v_a3_documents v_a3_terms v_a3_segments v_a3_postings v_a3_term v_a3_firstSegment r_1 _ h) [2, 3, 4] [0, 1, 5, 6, 7, 8, 9, 10] rfl rfl (by decide) (by decide) (by decide) wM_X5_120 wb_X4_startTerm hy_X4_startTerm (q0 := 2) rfl rfl rfl ⟨Nat.le_of_ble_eq_true rfl, Nat.le_of_ble_eq_true rfl⟩ (Nat.le_of_ble_eq_true rfl) (Nat.le_of_ble_eq_true rfl) (Nat.le_of_ble_eq_true rfl) rfl dX5_readTerm_19 (fun v w1 hw => ?_) [] rfl (fun _ _ h => h.elim)
    obtain ⟨r_4, v_a3_terms_5, v_a3_term_6, v_a3_firstSegment_7, rfl, rfl, h⟩ := hw
    refine a_ws (st1 := [.int r_4]) (ws1 := [(h1, oX0 d1 v_a1_size v_a1_place_2), ((d1 0), aB cs n_a1_row v_a1_row), (h3, oX4 d3 v_a3_bits v_a3_documents v_a3_terms_5 v_a3_segments v_a3_postings), ((d3 0), aJ cs 64 v_a3_term_6), ((d3 1), aI cs 65 v_a3_firstSegment_7), (h0, oX5 d0), ((d0 0), oX2 d_gaps v_gaps_many), ((d_gaps 0), aI cs 40 v_gaps_gap), ((d3 2), aI cs 600 v_a3_impact), ((d3 3), aI cs 601 v_a3_firstPosting), ((d3 4), aI cs 600 v_a3_document)]) 0 0 22 [0, 1, 8, 9, 10, 2, 3, 4, 5, 6, 7] rfl rfl rfl rfl (by decide) rfl ?_
    refine a_if_ne C (pc := 22) 27 dX5_readTerm_22 (by decide) (fun hc => ?_) (fun hc => ?_)
    · have h := h.1 hc
      refine a_aload_n C (pc := 27) 1 dX5_readTerm_27 rfl rfl ?_
      refine a_callV C (pc := 28) (av := []) (wr := [(h3, oX4 d3 v_a3_bits v_a3_documents v_a3_terms_5 v_a3_segments v_a3_postings), ((d3 0), aJ cs 64 v_a3_term_6), ((d3 1), aI cs 65 v_a3_firstSegment_7), (h0, oX5 d0), ((d0 0), oX2 d_gaps v_gaps_many), ((d_gaps 0), aI cs 40 v_gaps_gap), ((d3 2), aI cs 600 v_a3_impact), ((d3 3), aI cs 601 v_a3_firstPosting), ((d3 4), aI cs 600 v_a3_document)]) (m_X0_next Lx Dx cs n_a1_row h1 d1 v_a1_size v_a1_place_2 v_a1_row _ h) [0, 1] [2, 3, 4, 5, 6, 7, 8, 9, 10] rfl rfl (by decide) (by decide) (by decide) wM_X5_56 wb_X0_next hy_X0_next (q0 := 0) rfl rfl rfl ⟨Nat.le_of_ble_eq_true rfl, Nat.le_of_ble_eq_true rfl⟩ (Nat.le_of_ble_eq_true rfl) (Nat.le_of_ble_eq_true rfl) (Nat.le_of_ble_eq_true rfl) rfl dX5_readTerm_28 (fun v w1 hw => ?_) [] rfl (fun _ _ h => h.elim)
      obtain ⟨r_8, v_a1_place_9, rfl, rfl, h⟩ := hw
      refine a_ws (st1 := [.int r_8]) (ws1 := [(h1, oX0 d1 v_a1_size v_a1_place_9), ((d1 0), aB cs n_a1_row v_a1_row), (h3, oX4 d3 v_a3_bits v_a3_documents v_a3_terms_5 v_a3_segments v_a3_postings), ((d3 0), aJ cs 64 v_a3_term_6), ((d3 1), aI cs 65 v_a3_firstSegment_7), (h0, oX5 d0), ((d0 0), oX2 d_gaps v_gaps_many), ((d_gaps 0), aI cs 40 v_gaps_gap), ((d3 2), aI cs 600 v_a3_impact), ((d3 3), aI cs 601 v_a3_firstPosting), ((d3 4), aI cs 600 v_a3_document)]) 0 0 31 [9, 10, 0, 1, 2, 3, 4, 5, 6, 7, 8] rfl rfl rfl rfl (by decide) rfl ?_
      refine a_istore C (pc := 31) (lv1 := [(0, .ref h0), (1, .ref h1), (2, .int l2), (3, .ref h3), (4, .long r_1), (6, .int r_8)]) [1, 2, 3, 4, 5, 0] dX5_readTerm_31 (by decide) rfl ?_
      refine a_iload C (pc := 33) 5 dX5_readTerm_33 rfl ?_
      refine a_iconst C (pc := 35) dX5_readTerm_35 ic_1 ?_
      refine a_icmp_ge C (pc := 36) 41 dX5_readTerm_36 (by decide) (fun hc => ?_) (fun hc => ?_)
      · have h := h.1 hc
        refine a_iconst C (pc := 41) dX5_readTerm_41 ic_1 ?_
        refine a_aload_n C (pc := 42) 3 dX5_readTerm_42 rfl rfl ?_
        refine a_get C (pc := 43) 2 5 inW_X4 rfl rfl (Nat.le_of_ble_eq_true rfl) wF_X5_34 rfl rfl dX5_readTerm_43 ?_
        refine a_ishl C (pc := 46) dX5_readTerm_46 ?_
        refine a_istore C (pc := 47) (lv1 := [(0, .ref h0), (1, .ref h1), (2, .int l2), (3, .ref h3), (4, .long r_1), (6, .int r_8), (7, .int ((1 : Int32) <<< (v_a3_bits &&& 31)))]) [1, 2, 3, 4, 5, 6, 0] dX5_readTerm_47 (by decide) rfl ?_
        refine a_lconst C (pc := 49) (v := 0) dX5_readTerm_49 rfl ?_
        refine a_lstore C (pc := 50) (lv1 := [(0, .ref h0), (1, .ref h1), (2, .int l2), (3, .ref h3), (4, .long r_1), (6, .int r_8), (7, .int ((1 : Int32) <<< (v_a3_bits &&& 31))), (8, .long 0)]) [1, 2, 3, 4, 5, 6, 7, 0] dX5_readTerm_50 (by decide) rfl ?_
        refine a_iconst C (pc := 52) dX5_readTerm_52 ic_0 ?_
        refine a_istore C (pc := 53) (lv1 := [(0, .ref h0), (1, .ref h1), (2, .int l2), (3, .ref h3), (4, .long r_1), (6, .int r_8), (7, .int ((1 : Int32) <<< (v_a3_bits &&& 31))), (8, .long 0), (10, .int 0)]) [1, 2, 3, 4, 5, 6, 7, 8, 0] dX5_readTerm_53 (by decide) rfl ?_
        obtain ⟨n0, h⟩ := h
        refine a_lv (lv1 := [(0, .ref h0), (1, .ref h1), (2, .int l2), (3, .ref h3), (6, .int r_8), (7, .int ((1 : Int32) <<< (v_a3_bits &&& 31))), (8, .long 0), (10, .int 0)]) [0, 1, 2, 3, 5, 6, 7, 8] rfl ?_
        refine w_X5_readTerm_55 C (Nat.le_of_ble_eq_true rfl) (Nat.le_of_ble_eq_true rfl) n0 v_a1_place_9 v_a3_terms_5 v_a3_segments v_a3_postings v_a3_term_6 v_a3_firstSegment_7 v_gaps_many v_gaps_gap v_a3_impact v_a3_firstPosting v_a3_document l2 r_8 ((1 : Int32) <<< (v_a3_bits &&& 31)) 0 0 h ?_
        intro v_a1_place_40 v_a3_terms_41 v_a3_segments_42 v_a3_postings_43 v_a3_term_44 v_a3_firstSegment_45 v_gaps_many_46 v_gaps_gap_47 v_a3_impact_48 v_a3_firstPosting_49 v_a3_document_50 h
        refine a_iconst C (pc := 166) dX5_readTerm_166 ic_1 ?_
        exact a_zreturn C (pc := 167) rfl rfl dX5_readTerm_167 (Nat.le_of_ble_eq_true rfl) (Nat.le_of_ble_eq_true rfl) ⟨_, _, _, _, _, _, _, _, _, _, _, _, rfl, rfl, h⟩
      · have h := h.2 hc
        refine a_iconst C (pc := 39) dX5_readTerm_39 ic_0 ?_
        exact a_zreturn C (pc := 40) rfl rfl dX5_readTerm_40 (Nat.le_of_ble_eq_true rfl) (Nat.le_of_ble_eq_true rfl) ⟨_, _, _, _, _, _, _, _, _, _, _, _, rfl, rfl, h⟩
    · have h := h.2 hc
      refine a_iconst C (pc := 25) dX5_readTerm_25 ic_0 ?_
      exact a_zreturn C (pc := 26) rfl rfl dX5_readTerm_26 (Nat.le_of_ble_eq_true rfl) (Nat.le_of_ble_eq_true rfl) ⟨_, _, _, _, _, _, _, _, _, _, _, _, rfl, rfl, h⟩
set_option maxRecDepth 100000 in
set_option maxHeartbeats 4000000 in
theorem w_X0_isSameAs_15 {Γ : XG} {Lx : Launch} {Dx : va_G} {cs : Nat → ClassId} {n_row : Nat} {n_a1_row : Nat} {h0 : Nat} {h1 : Nat} {d0 : Nat → Nat} {d1 : Nat → Nat} {v_size : Int32} {v_place : Int32} {v_a1_size : Int32} {v_a1_place : Int32} {v_row : Nat → Int32} {v_a1_row : Nat → Int32} {K_44 : Prop} {Φ : Int32 → Prop} {k n9 : Nat} (C : CX Γ Lx Dx cs cX0_isSameAs RX0 "isSameAs" 3 (some .boolean) 1 21 0 0 (qEC cs 0 0 [] (R_X0_isSameAs cs n_row n_a1_row h0 h1 d0 d1 v_size v_place v_a1_size v_a1_place v_row v_a1_row Φ) (fun _ _ => False))) (hkm : k ≤ 0) (hnm : n9 ≤ 0) : ∀ n : Nat, ∀ (l2 : Int32), L_X0_isSameAs_15 n n_row n_a1_row v_size v_a1_size v_row v_a1_row l2 K_44 Φ → (K_44 → AW Γ k n9 44 [] [] [(h0, oX0 d0 v_size v_place), (h1, oX0 d1 v_a1_size v_a1_place), ((d0 0), aB cs n_row v_row), ((d1 0), aB cs n_a1_row v_a1_row)]) → AW Γ k n9 15 [(0, .ref h0), (1, .ref h1), (2, .int l2)] [] [(h0, oX0 d0 v_size v_place), (h1, oX0 d1 v_a1_size v_a1_place), ((d0 0), aB cs n_row v_row), ((d1 0), aB cs n_a1_row v_a1_row)] := by
  intro n
  induction n with
  | zero =>
    intro l2 h
    exact False.elim h
  | succ n ih =>
    intro l2 h hK_44
    rw [L_X0_isSameAs_15] at h
    refine a_iload_n C (pc := 15) 2 dX0_isSameAs_15 rfl rfl ?_
    refine a_aload_n C (pc := 16) 0 dX0_isSameAs_16 rfl rfl ?_
    refine a_get C (pc := 17) 0 1 inW_X0 rfl rfl (Nat.le_of_ble_eq_true rfl) wF_X0_7 rfl rfl dX0_isSameAs_17 ?_
    refine a_icmp_ge C (pc := 20) 44 dX0_isSameAs_20 (by decide) (fun hc => ?_) (fun hc => ?_)
    · have h := h.1 hc
      refine a_lv (lv1 := []) [] rfl ?_
      exact hK_44 h
    · have h := h.2 hc
      refine a_aload_n C (pc := 23) 0 dX0_isSameAs_23 rfl rfl ?_
      refine a_iload_n C (pc := 24) 2 dX0_isSameAs_24 rfl rfl ?_
      refine a_callV C (pc := 25) (av := [.int l2]) (wr := [(h1, oX0 d1 v_a1_size v_a1_place), ((d1 0), aB cs n_a1_row v_a1_row)]) (m_X0_at Lx Dx cs n_row h0 d0 v_size v_place v_row l2 _ h) [0, 2] [1, 3] rfl rfl (by decide) (by decide) (by decide) wM_X0_26 wb_X0_at hy_X0_at (q0 := 0) rfl rfl rfl ⟨Nat.le_of_ble_eq_true rfl, Nat.le_of_ble_eq_true rfl⟩ (Nat.le_of_ble_eq_true rfl) hkm hnm rfl dX0_isSameAs_25 (fun v w1 hw => ?_) [] rfl (fun _ _ h => h.elim)
      obtain ⟨r_1, rfl, rfl, h⟩ := hw
      refine a_ws (st1 := [.int r_1]) (ws1 := [(h0, oX0 d0 v_size v_place), (h1, oX0 d1 v_a1_size v_a1_place), ((d0 0), aB cs n_row v_row), ((d1 0), aB cs n_a1_row v_a1_row)]) k n9 28 [2, 0, 3, 1] rfl rfl rfl rfl (by decide) rfl ?_
      refine a_aload_n C (pc := 28) 1 dX0_isSameAs_28 rfl rfl ?_
      refine a_iload_n C (pc := 29) 2 dX0_isSameAs_29 rfl rfl ?_
      refine a_callV C (pc := 30) (av := [.int l2]) (wr := [(h0, oX0 d0 v_size v_place), ((d0 0), aB cs n_row v_row)]) (m_X0_at Lx Dx cs n_a1_row h1 d1 v_a1_size v_a1_place v_a1_row l2 _ h) [1, 3] [0, 2] rfl rfl (by decide) (by decide) (by decide) wM_X0_26 wb_X0_at hy_X0_at (q0 := 1) rfl rfl rfl ⟨Nat.le_of_ble_eq_true rfl, Nat.le_of_ble_eq_true rfl⟩ (Nat.le_of_ble_eq_true rfl) hkm hnm rfl dX0_isSameAs_30 (fun v w1 hw => ?_) [] rfl (fun _ _ h => h.elim)
      obtain ⟨r_2, rfl, rfl, h⟩ := hw
      refine a_ws (st1 := [.int r_2, .int r_1]) (ws1 := [(h0, oX0 d0 v_size v_place), (h1, oX0 d1 v_a1_size v_a1_place), ((d0 0), aB cs n_row v_row), ((d1 0), aB cs n_a1_row v_a1_row)]) k n9 33 [0, 2, 1, 3] rfl rfl rfl rfl (by decide) rfl ?_
      refine a_icmp_eq C (pc := 33) 38 dX0_isSameAs_33 (by decide) (fun hc => ?_) (fun hc => ?_)
      · have h := h.1 hc
        refine a_iinc C (pc := 38) (lv1 := [(0, .ref h0), (1, .ref h1), (2, .int (l2 + 1))]) 2 [1, 2, 0] dX0_isSameAs_38 rfl (congrArg (fun z => l2 + z) ic_1) (by decide) rfl ?_
        refine a_goto C (pc := 41) 15 dX0_isSameAs_41 (by decide) ?_
        exact ih (l2 + 1) h hK_44
      · have h := h.2 hc
        refine a_iconst C (pc := 36) dX0_isSameAs_36 ic_0 ?_
        exact a_zreturn C (pc := 37) rfl rfl dX0_isSameAs_37 hkm hnm ⟨_, rfl, rfl, h⟩
set_option maxRecDepth 100000 in
set_option maxHeartbeats 4000000 in
theorem m_X0_isSameAs (Lx : Launch) (Dx : va_G) (cs : Nat → ClassId) (n_row : Nat) (n_a1_row : Nat) (h0 : Nat) (h1 : Nat) (d0 : Nat → Nat) (d1 : Nat → Nat) (v_size : Int32) (v_place : Int32) (v_a1_size : Int32) (v_a1_place : Int32) (v_row : Nat → Int32) (v_a1_row : Nat → Int32) (Φ : Int32 → Prop) (h : P_X0_isSameAs n_row n_a1_row v_size v_a1_size v_row v_a1_row Φ) : XMet Lx Dx cs yX0_isSameAs cX0_isSameAs 3 (some .boolean) 1 21 0 0 [.ref h0, .ref h1] [(h0, oX0 d0 v_size v_place), (h1, oX0 d1 v_a1_size v_a1_place), ((d0 0), aB cs n_row v_row), ((d1 0), aB cs n_a1_row v_a1_row)] (R_X0_isSameAs cs n_row n_a1_row h0 h1 d0 d1 v_size v_place v_a1_size v_a1_place v_row v_a1_row Φ) (fun _ _ => False) := by
  refine XMet.of (own := RX0) (nm := "isSameAs") (by decide) rfl rfl (Nat.le_of_ble_eq_true rfl) (fun Γ C => ?_)
  unfold P_X0_isSameAs at h
  refine a_aload_n C (pc := 0) 0 dX0_isSameAs_0 rfl rfl ?_
  refine a_get C (pc := 1) 0 1 inW_X0 rfl rfl (Nat.le_of_ble_eq_true rfl) wF_X0_7 rfl rfl dX0_isSameAs_1 ?_
  refine a_aload_n C (pc := 4) 1 dX0_isSameAs_4 rfl rfl ?_
  refine a_get C (pc := 5) 1 1 inW_X0 rfl rfl (Nat.le_of_ble_eq_true rfl) wF_X0_7 rfl rfl dX0_isSameAs_5 ?_
  refine a_icmp_eq C (pc := 8) 13 dX0_isSameAs_8 (by decide) (fun hc => ?_) (fun hc => ?_)
  · have h := h.1 hc
    refine a_iconst C (pc := 13) dX0_isSameAs_13 ic_0 ?_
    refine a_istore_n C (pc := 14) (lv1 := [(0, .ref h0), (1, .ref h1), (2, .int 0)]) [1, 2, 0] dX0_isSameAs_14 rfl (by decide) rfl ?_
    obtain ⟨n0, h⟩ := h
    refine w_X0_isSameAs_15 C (Nat.le_of_ble_eq_true rfl) (Nat.le_of_ble_eq_true rfl) n0 0 h ?_
    intro h
    refine a_iconst C (pc := 44) dX0_isSameAs_44 ic_1 ?_
    exact a_zreturn C (pc := 45) rfl rfl dX0_isSameAs_45 (Nat.le_of_ble_eq_true rfl) (Nat.le_of_ble_eq_true rfl) ⟨_, rfl, rfl, h⟩
  · have h := h.2 hc
    refine a_iconst C (pc := 11) dX0_isSameAs_11 ic_0 ?_
    exact a_zreturn C (pc := 12) rfl rfl dX0_isSameAs_12 (Nat.le_of_ble_eq_true rfl) (Nat.le_of_ble_eq_true rfl) ⟨_, rfl, rfl, h⟩
set_option maxRecDepth 100000 in
set_option maxHeartbeats 4000000 in
theorem w_X5_read_91 {Γ : XG} {Lx : Launch} {Dx : va_G} {cs : Nat → ClassId} {n_a1_row : Nat} {h0 : Nat} {h1 : Nat} {h2 : Nat} {d1 : Nat → Nat} {d2 : Nat → Nat} {d0 : Nat → Nat} {d_gaps : Nat → Nat} {d_proof : Nat → Nat} {v_a1_size : Int32} {v_a1_row : Nat → Int32} {v_proof_place : Int32} {K_117 : Int32 → Int32 → Int32 → Int32 → Int32 → Int32 → (Nat → Int64) → (Nat → Int32) → Int32 → (Nat → Int32) → (Nat → Int32) → (Nat → Int32) → (Nat → Int32) → Int32 → (Nat → Int32) → Int32 → Prop} {Φ : Int32 → Int32 → Int32 → Int32 → Int32 → Int32 → Int32 → (Nat → Int64) → (Nat → Int32) → Int32 → (Nat → Int32) → (Nat → Int32) → (Nat → Int32) → (Nat → Int32) → Int32 → (Nat → Int32) → Prop} {k n9 : Nat} (C : CX Γ Lx Dx cs cX5_read RX5 "read" 8 (some .boolean) 6 144 0 0 (qEC cs 0 0 [] (R_X5_read cs n_a1_row h0 h1 h2 d1 d2 d0 d_gaps d_proof v_a1_size v_a1_row v_proof_place Φ) (fun _ _ => False))) (hkm : k ≤ 0) (hnm : n9 ≤ 0) : ∀ n : Nat, ∀ (v_a1_place : Int32) (v_a2_bits : Int32) (v_a2_documents : Int32) (v_a2_terms : Int32) (v_a2_segments : Int32) (v_a2_postings : Int32) (v_a2_term : Nat → Int64) (v_a2_firstSegment : Nat → Int32) (v_gaps_many : Int32) (v_gaps_gap : Nat → Int32) (v_a2_impact : Nat → Int32) (v_a2_firstPosting : Nat → Int32) (v_a2_document : Nat → Int32) (v_proof_size : Int32) (v_proof_row : Nat → Int32) (l4 : Int32) (l6 : Int32) (l7 : Int32), L_X5_read_91 n n_a1_row v_a1_size v_a1_place v_a1_row v_a2_bits v_a2_documents v_a2_terms v_a2_segments v_a2_postings v_a2_term v_a2_firstSegment v_gaps_many v_gaps_gap v_a2_impact v_a2_firstPosting v_a2_document v_proof_size v_proof_row l4 l6 l7 K_117 Φ → (∀ (v_a1_place_35 : Int32) (v_a2_bits_36 : Int32) (v_a2_documents_37 : Int32) (v_a2_terms_38 : Int32) (v_a2_segments_39 : Int32) (v_a2_postings_40 : Int32) (v_a2_term_41 : Nat → Int64) (v_a2_firstSegment_42 : Nat → Int32) (v_gaps_many_43 : Int32) (v_gaps_gap_44 : Nat → Int32) (v_a2_impact_45 : Nat → Int32) (v_a2_firstPosting_46 : Nat → Int32) (v_a2_document_47 : Nat → Int32) (v_proof_size_48 : Int32) (v_proof_row_49 : Nat → Int32) (l4_50 : Int32), K_117 v_a1_place_35 v_a2_bits_36 v_a2_documents_37 v_a2_terms_38 v_a2_segments_39 v_a2_postings_40 v_a2_term_41 v_a2_firstSegment_42 v_gaps_many_43 v_gaps_gap_44 v_a2_impact_45 v_a2_firstPosting_46 v_a2_document_47 v_proof_size_48 v_proof_row_49 l4_50 → AW Γ k n9 117 [(0, .ref h0), (1, .ref h1), (2, .ref h2), (4, .int l4_50)] [] [(h1, oX0 d1 v_a1_size v_a1_place_35), ((d1 0), aB cs n_a1_row v_a1_row), (h2, oX4 d2 v_a2_bits_36 v_a2_documents_37 v_a2_terms_38 v_a2_segments_39 v_a2_postings_40), ((d2 0), aJ cs 64 v_a2_term_41), ((d2 1), aI cs 65 v_a2_firstSegment_42), (h0, oX5 d0), ((d0 0), oX2 d_gaps v_gaps_many_43), ((d_gaps 0), aI cs 40 v_gaps_gap_44), ((d2 2), aI cs 600 v_a2_impact_45), ((d2 3), aI cs 601 v_a2_firstPosting_46), ((d2 4), aI cs 600 v_a2_document_47), ((d0 1), oX0 d_proof v_proof_size_48 v_proof_place), ((d_proof 0), aB cs 6650 v_proof_row_49)]) → AW Γ k n9 91 [(0, .ref h0), (1, .ref h1), (2, .ref h2), (4, .int l4), (6, .int l6), (7, .int l7)] [] [(h1, oX0 d1 v_a1_size v_a1_place), ((d1 0), aB cs n_a1_row v_a1_row), (h2, oX4 d2 v_a2_bits v_a2_documents v_a2_terms v_a2_segments v_a2_postings), ((d2 0), aJ cs 64 v_a2_term), ((d2 1), aI cs 65 v_a2_firstSegment), (h0, oX5 d0), ((d0 0), oX2 d_gaps v_gaps_many), ((d_gaps 0), aI cs 40 v_gaps_gap), ((d2 2), aI cs 600 v_a2_impact), ((d2 3), aI cs 601 v_a2_firstPosting), ((d2 4), aI cs 600 v_a2_document), ((d0 1), oX0 d_proof v_proof_size v_proof_place), ((d_proof 0), aB cs 6650 v_proof_row)] := by
  intro n
  induction n with
  | zero =>
    intro v_a1_place v_a2_bits v_a2_documents v_a2_terms v_a2_segments v_a2_postings v_a2_term v_a2_firstSegment v_gaps_many v_gaps_gap v_a2_impact v_a2_firstPosting v_a2_document v_proof_size v_proof_row l4 l6 l7 h
    exact False.elim h
  | succ n ih =>
    intro v_a1_place v_a2_bits v_a2_documents v_a2_terms v_a2_segments v_a2_postings v_a2_term v_a2_firstSegment v_gaps_many v_gaps_gap v_a2_impact v_a2_firstPosting v_a2_document v_proof_size v_proof_row l4 l6 l7 h hK_117
    rw [L_X5_read_91] at h
    refine a_iload C (pc := 91) 5 dX5_read_91 rfl ?_
    refine a_iload C (pc := 93) 4 dX5_read_93 rfl ?_
    refine a_icmp_ge C (pc := 95) 117 dX5_read_95 (by decide) (fun hc => ?_) (fun hc => ?_)
    · have h := h.1 hc
      refine a_lv (lv1 := [(0, .ref h0), (1, .ref h1), (2, .ref h2), (4, .int l4)]) [0, 1, 2, 3] rfl ?_
      exact hK_117 v_a1_place v_a2_bits v_a2_documents v_a2_terms v_a2_segments v_a2_postings v_a2_term v_a2_firstSegment v_gaps_many v_gaps_gap v_a2_impact v_a2_firstPosting v_a2_document v_proof_size v_proof_row l4 h
    · have h := h.2 hc
      refine a_aload_n C (pc := 98) 0 dX5_read_98 rfl rfl ?_
      refine a_aload_n C (pc := 99) 1 dX5_read_99 rfl rfl ?_
      refine a_iload C (pc := 100) 3 dX5_read_100 rfl ?_
      refine a_aload_n C (pc := 102) 2 dX5_read_102 rfl rfl ?_
      refine a_callV C (pc := 103) (av := [.ref h1, .int l4, .ref h2]) (wr := [((d0 1), oX0 d_proof v_proof_size v_proof_place), ((d_proof 0), aB cs 6650 v_proof_row)]) (m_X5_readTerm Lx Dx cs n_a1_row h0 h1 h2 d1 d2 d0 d_gaps v_a1_size v_a1_place v_a1_row v_a2_bits v_a2_documents v_a2_terms v_a2_segments v_a2_postings v_a2_term v_a2_firstSegment v_gaps_many v_gaps_gap v_a2_impact v_a2_firstPosting v_a2_document l4 _ h) [0, 1, 2, 3, 4, 5, 6, 7, 8, 9, 10] [11, 12] rfl rfl (by decide) (by decide) (by decide) wM_X5_68 wb_X5_readTerm hy_X5_readTerm (q0 := 5) rfl rfl rfl ⟨Nat.le_of_ble_eq_true rfl, Nat.le_of_ble_eq_true rfl⟩ (Nat.le_of_ble_eq_true rfl) hkm hnm rfl dX5_read_103 (fun v w1 hw => ?_) [] rfl (fun _ _ h => h.elim)
      obtain ⟨r_23, v_a1_place_24, v_a2_terms_25, v_a2_segments_26, v_a2_postings_27, v_a2_term_28, v_a2_firstSegment_29, v_gaps_many_30, v_gaps_gap_31, v_a2_impact_32, v_a2_firstPosting_33, v_a2_document_34, rfl, rfl, h⟩ := hw
      refine a_ws (st1 := [.int r_23]) (ws1 := [(h1, oX0 d1 v_a1_size v_a1_place_24), ((d1 0), aB cs n_a1_row v_a1_row), (h2, oX4 d2 v_a2_bits v_a2_documents v_a2_terms_25 v_a2_segments_26 v_a2_postings_27), ((d2 0), aJ cs 64 v_a2_term_28), ((d2 1), aI cs 65 v_a2_firstSegment_29), (h0, oX5 d0), ((d0 0), oX2 d_gaps v_gaps_many_30), ((d_gaps 0), aI cs 40 v_gaps_gap_31), ((d2 2), aI cs 600 v_a2_impact_32), ((d2 3), aI cs 601 v_a2_firstPosting_33), ((d2 4), aI cs 600 v_a2_document_34), ((d0 1), oX0 d_proof v_proof_size v_proof_place), ((d_proof 0), aB cs 6650 v_proof_row)]) k n9 106 [2, 3, 4, 5, 6, 7, 8, 9, 10, 11, 12, 0, 1] rfl rfl rfl rfl (by decide) rfl ?_
      refine a_if_ne C (pc := 106) 111 dX5_read_106 (by decide) (fun hc => ?_) (fun hc => ?_)
      · have h := h.1 hc
        refine a_iinc C (pc := 111) (lv1 := [(0, .ref h0), (1, .ref h1), (2, .ref h2), (4, .int l4), (6, .int l6), (7, .int (l7 + 1))]) 5 [1, 2, 3, 4, 5, 0] dX5_read_111 rfl (congrArg (fun z => l7 + z) ic_1) (by decide) rfl ?_
        refine a_goto C (pc := 114) 91 dX5_read_114 (by decide) ?_
        exact ih v_a1_place_24 v_a2_bits v_a2_documents v_a2_terms_25 v_a2_segments_26 v_a2_postings_27 v_a2_term_28 v_a2_firstSegment_29 v_gaps_many_30 v_gaps_gap_31 v_a2_impact_32 v_a2_firstPosting_33 v_a2_document_34 v_proof_size v_proof_row l4 l6 (l7 + 1) h hK_117
      · have h := h.2 hc
        refine a_iconst C (pc := 109) dX5_read_109 ic_0 ?_
        exact a_zreturn C (pc := 110) rfl rfl dX5_read_110 hkm hnm ⟨_, _, _, _, _, _, _, _, _, _, _, _, _, _, _, _, rfl, rfl, h⟩
set_option maxRecDepth 100000 in
set_option maxHeartbeats 4000000 in
theorem m_X5_read (Lx : Launch) (Dx : va_G) (cs : Nat → ClassId) (n_a1_row : Nat) (h0 : Nat) (h1 : Nat) (h2 : Nat) (d1 : Nat → Nat) (d2 : Nat → Nat) (d0 : Nat → Nat) (d_gaps : Nat → Nat) (d_proof : Nat → Nat) (v_a1_size : Int32) (v_a1_place : Int32) (v_a1_row : Nat → Int32) (v_a2_bits : Int32) (v_a2_documents : Int32) (v_a2_terms : Int32) (v_a2_segments : Int32) (v_a2_postings : Int32) (v_a2_term : Nat → Int64) (v_a2_firstSegment : Nat → Int32) (v_gaps_many : Int32) (v_gaps_gap : Nat → Int32) (v_a2_impact : Nat → Int32) (v_a2_firstPosting : Nat → Int32) (v_a2_document : Nat → Int32) (v_proof_size : Int32) (v_proof_place : Int32) (v_proof_row : Nat → Int32) (Φ : Int32 → Int32 → Int32 → Int32 → Int32 → Int32 → Int32 → (Nat → Int64) → (Nat → Int32) → Int32 → (Nat → Int32) → (Nat → Int32) → (Nat → Int32) → (Nat → Int32) → Int32 → (Nat → Int32) → Prop) (h : P_X5_read n_a1_row v_a1_size v_a1_place v_a1_row v_a2_bits v_a2_documents v_a2_terms v_a2_segments v_a2_postings v_a2_term v_a2_firstSegment v_gaps_many v_gaps_gap v_a2_impact v_a2_firstPosting v_a2_document v_proof_size v_proof_row Φ) : XMet Lx Dx cs yX5_read cX5_read 8 (some .boolean) 6 144 0 0 [.ref h0, .ref h1, .ref h2] [(h1, oX0 d1 v_a1_size v_a1_place), ((d1 0), aB cs n_a1_row v_a1_row), (h2, oX4 d2 v_a2_bits v_a2_documents v_a2_terms v_a2_segments v_a2_postings), ((d2 0), aJ cs 64 v_a2_term), ((d2 1), aI cs 65 v_a2_firstSegment), (h0, oX5 d0), ((d0 0), oX2 d_gaps v_gaps_many), ((d_gaps 0), aI cs 40 v_gaps_gap), ((d2 2), aI cs 600 v_a2_impact), ((d2 3), aI cs 601 v_a2_firstPosting), ((d2 4), aI cs 600 v_a2_document), ((d0 1), oX0 d_proof v_proof_size v_proof_place), ((d_proof 0), aB cs 6650 v_proof_row)] (R_X5_read cs n_a1_row h0 h1 h2 d1 d2 d0 d_gaps d_proof v_a1_size v_a1_row v_proof_place Φ) (fun _ _ => False) := by
  refine XMet.of (own := RX5) (nm := "read") (by decide) rfl rfl (Nat.le_of_ble_eq_true rfl) (fun Γ C => ?_)
  unfold P_X5_read at h
  refine a_aload_n C (pc := 0) 1 dX5_read_0 rfl rfl ?_
  refine a_callV C (pc := 1) (av := []) (wr := [((d1 0), aB cs n_a1_row v_a1_row), (h2, oX4 d2 v_a2_bits v_a2_documents v_a2_terms v_a2_segments v_a2_postings), ((d2 0), aJ cs 64 v_a2_term), ((d2 1), aI cs 65 v_a2_firstSegment), (h0, oX5 d0), ((d0 0), oX2 d_gaps v_gaps_many), ((d_gaps 0), aI cs 40 v_gaps_gap), ((d2 2), aI cs 600 v_a2_impact), ((d2 3), aI cs 601 v_a2_firstPosting), ((d2 4), aI cs 600 v_a2_document), ((d0 1), oX0 d_proof v_proof_size v_proof_place), ((d_proof 0), aB cs 6650 v_proof_row)]) (m_X0_rewind Lx Dx cs h1 d1 v_a1_size v_a1_place _ h) [0] [1, 2, 3, 4, 5, 6, 7, 8, 9, 10, 11, 12] rfl rfl (by decide) (by decide) (by decide) wM_X5_53 wb_X0_rewind hy_X0_rewind (q0 := 0) rfl rfl rfl ⟨Nat.le_of_ble_eq_true rfl, Nat.le_of_ble_eq_true rfl⟩ (Nat.le_of_ble_eq_true rfl) (Nat.le_of_ble_eq_true rfl) (Nat.le_of_ble_eq_true rfl) rfl dX5_read_1 (fun v w1 hw => ?_) [] rfl (fun _ _ h => h.elim)
  obtain ⟨v_a1_place_1, rfl, rfl, h⟩ := hw
  refine a_ws (st1 := []) (ws1 := [(h1, oX0 d1 v_a1_size v_a1_place_1), ((d1 0), aB cs n_a1_row v_a1_row), (h2, oX4 d2 v_a2_bits v_a2_documents v_a2_terms v_a2_segments v_a2_postings), ((d2 0), aJ cs 64 v_a2_term), ((d2 1), aI cs 65 v_a2_firstSegment), (h0, oX5 d0), ((d0 0), oX2 d_gaps v_gaps_many), ((d_gaps 0), aI cs 40 v_gaps_gap), ((d2 2), aI cs 600 v_a2_impact), ((d2 3), aI cs 601 v_a2_firstPosting), ((d2 4), aI cs 600 v_a2_document), ((d0 1), oX0 d_proof v_proof_size v_proof_place), ((d_proof 0), aB cs 6650 v_proof_row)]) 0 0 4 [12, 0, 1, 2, 3, 4, 5, 6, 7, 8, 9, 10, 11] rfl rfl rfl rfl (by decide) rfl ?_
  refine a_aload_n C (pc := 4) 1 dX5_read_4 rfl rfl ?_
  refine a_callV C (pc := 5) (av := []) (wr := [(h2, oX4 d2 v_a2_bits v_a2_documents v_a2_terms v_a2_segments v_a2_postings), ((d2 0), aJ cs 64 v_a2_term), ((d2 1), aI cs 65 v_a2_firstSegment), (h0, oX5 d0), ((d0 0), oX2 d_gaps v_gaps_many), ((d_gaps 0), aI cs 40 v_gaps_gap), ((d2 2), aI cs 600 v_a2_impact), ((d2 3), aI cs 601 v_a2_firstPosting), ((d2 4), aI cs 600 v_a2_document), ((d0 1), oX0 d_proof v_proof_size v_proof_place), ((d_proof 0), aB cs 6650 v_proof_row)]) (m_X0_next Lx Dx cs n_a1_row h1 d1 v_a1_size v_a1_place_1 v_a1_row _ h) [0, 1] [2, 3, 4, 5, 6, 7, 8, 9, 10, 11, 12] rfl rfl (by decide) (by decide) (by decide) wM_X5_56 wb_X0_next hy_X0_next (q0 := 0) rfl rfl rfl ⟨Nat.le_of_ble_eq_true rfl, Nat.le_of_ble_eq_true rfl⟩ (Nat.le_of_ble_eq_true rfl) (Nat.le_of_ble_eq_true rfl) (Nat.le_of_ble_eq_true rfl) rfl dX5_read_5 (fun v w1 hw => ?_) [] rfl (fun _ _ h => h.elim)
  obtain ⟨r_2, v_a1_place_3, rfl, rfl, h⟩ := hw
  refine a_ws (st1 := [.int r_2]) (ws1 := [(h1, oX0 d1 v_a1_size v_a1_place_3), ((d1 0), aB cs n_a1_row v_a1_row), (h2, oX4 d2 v_a2_bits v_a2_documents v_a2_terms v_a2_segments v_a2_postings), ((d2 0), aJ cs 64 v_a2_term), ((d2 1), aI cs 65 v_a2_firstSegment), (h0, oX5 d0), ((d0 0), oX2 d_gaps v_gaps_many), ((d_gaps 0), aI cs 40 v_gaps_gap), ((d2 2), aI cs 600 v_a2_impact), ((d2 3), aI cs 601 v_a2_firstPosting), ((d2 4), aI cs 600 v_a2_document), ((d0 1), oX0 d_proof v_proof_size v_proof_place), ((d_proof 0), aB cs 6650 v_proof_row)]) 0 0 8 [11, 12, 0, 1, 2, 3, 4, 5, 6, 7, 8, 9, 10] rfl rfl rfl rfl (by decide) rfl ?_
  refine a_pop C (pc := 8) dX5_read_8 rfl ?_
  refine a_aload_n C (pc := 9) 1 dX5_read_9 rfl rfl ?_
  refine a_callV C (pc := 10) (av := []) (wr := [(h2, oX4 d2 v_a2_bits v_a2_documents v_a2_terms v_a2_segments v_a2_postings), ((d2 0), aJ cs 64 v_a2_term), ((d2 1), aI cs 65 v_a2_firstSegment), (h0, oX5 d0), ((d0 0), oX2 d_gaps v_gaps_many), ((d_gaps 0), aI cs 40 v_gaps_gap), ((d2 2), aI cs 600 v_a2_impact), ((d2 3), aI cs 601 v_a2_firstPosting), ((d2 4), aI cs 600 v_a2_document), ((d0 1), oX0 d_proof v_proof_size v_proof_place), ((d_proof 0), aB cs 6650 v_proof_row)]) (m_X0_next Lx Dx cs n_a1_row h1 d1 v_a1_size v_a1_place_3 v_a1_row _ h) [0, 1] [2, 3, 4, 5, 6, 7, 8, 9, 10, 11, 12] rfl rfl (by decide) (by decide) (by decide) wM_X5_56 wb_X0_next hy_X0_next (q0 := 0) rfl rfl rfl ⟨Nat.le_of_ble_eq_true rfl, Nat.le_of_ble_eq_true rfl⟩ (Nat.le_of_ble_eq_true rfl) (Nat.le_of_ble_eq_true rfl) (Nat.le_of_ble_eq_true rfl) rfl dX5_read_10 (fun v w1 hw => ?_) [] rfl (fun _ _ h => h.elim)
  obtain ⟨r_4, v_a1_place_5, rfl, rfl, h⟩ := hw
  refine a_ws (st1 := [.int r_4]) (ws1 := [(h1, oX0 d1 v_a1_size v_a1_place_5), ((d1 0), aB cs n_a1_row v_a1_row), (h2, oX4 d2 v_a2_bits v_a2_documents v_a2_terms v_a2_segments v_a2_postings), ((d2 0), aJ cs 64 v_a2_term), ((d2 1), aI cs 65 v_a2_firstSegment), (h0, oX5 d0), ((d0 0), oX2 d_gaps v_gaps_many), ((d_gaps 0), aI cs 40 v_gaps_gap), ((d2 2), aI cs 600 v_a2_impact), ((d2 3), aI cs 601 v_a2_firstPosting), ((d2 4), aI cs 600 v_a2_document), ((d0 1), oX0 d_proof v_proof_size v_proof_place), ((d_proof 0), aB cs 6650 v_proof_row)]) 0 0 13 [11, 12, 0, 1, 2, 3, 4, 5, 6, 7, 8, 9, 10] rfl rfl rfl rfl (by decide) rfl ?_
  refine a_pop C (pc := 13) dX5_read_13 rfl ?_
  refine a_aload_n C (pc := 14) 1 dX5_read_14 rfl rfl ?_
  refine a_callV C (pc := 15) (av := []) (wr := [(h2, oX4 d2 v_a2_bits v_a2_documents v_a2_terms v_a2_segments v_a2_postings), ((d2 0), aJ cs 64 v_a2_term), ((d2 1), aI cs 65 v_a2_firstSegment), (h0, oX5 d0), ((d0 0), oX2 d_gaps v_gaps_many), ((d_gaps 0), aI cs 40 v_gaps_gap), ((d2 2), aI cs 600 v_a2_impact), ((d2 3), aI cs 601 v_a2_firstPosting), ((d2 4), aI cs 600 v_a2_document), ((d0 1), oX0 d_proof v_proof_size v_proof_place), ((d_proof 0), aB cs 6650 v_proof_row)]) (m_X0_next Lx Dx cs n_a1_row h1 d1 v_a1_size v_a1_place_5 v_a1_row _ h) [0, 1] [2, 3, 4, 5, 6, 7, 8, 9, 10, 11, 12] rfl rfl (by decide) (by decide) (by decide) wM_X5_56 wb_X0_next hy_X0_next (q0 := 0) rfl rfl rfl ⟨Nat.le_of_ble_eq_true rfl, Nat.le_of_ble_eq_true rfl⟩ (Nat.le_of_ble_eq_true rfl) (Nat.le_of_ble_eq_true rfl) (Nat.le_of_ble_eq_true rfl) rfl dX5_read_15 (fun v w1 hw => ?_) [] rfl (fun _ _ h => h.elim)
  obtain ⟨r_6, v_a1_place_7, rfl, rfl, h⟩ := hw
  refine a_ws (st1 := [.int r_6]) (ws1 := [(h1, oX0 d1 v_a1_size v_a1_place_7), ((d1 0), aB cs n_a1_row v_a1_row), (h2, oX4 d2 v_a2_bits v_a2_documents v_a2_terms v_a2_segments v_a2_postings), ((d2 0), aJ cs 64 v_a2_term), ((d2 1), aI cs 65 v_a2_firstSegment), (h0, oX5 d0), ((d0 0), oX2 d_gaps v_gaps_many), ((d_gaps 0), aI cs 40 v_gaps_gap), ((d2 2), aI cs 600 v_a2_impact), ((d2 3), aI cs 601 v_a2_firstPosting), ((d2 4), aI cs 600 v_a2_document), ((d0 1), oX0 d_proof v_proof_size v_proof_place), ((d_proof 0), aB cs 6650 v_proof_row)]) 0 0 18 [11, 12, 0, 1, 2, 3, 4, 5, 6, 7, 8, 9, 10] rfl rfl rfl rfl (by decide) rfl ?_
  refine a_istore_n C (pc := 18) (lv1 := [(0, .ref h0), (1, .ref h1), (2, .ref h2), (3, .int r_6)]) [1, 2, 3, 0] dX5_read_18 rfl (by decide) rfl ?_
  refine a_aload_n C (pc := 19) 1 dX5_read_19 rfl rfl ?_
  refine a_callV C (pc := 20) (av := []) (wr := [(h2, oX4 d2 v_a2_bits v_a2_documents v_a2_terms v_a2_segments v_a2_postings), ((d2 0), aJ cs 64 v_a2_term), ((d2 1), aI cs 65 v_a2_firstSegment), (h0, oX5 d0), ((d0 0), oX2 d_gaps v_gaps_many), ((d_gaps 0), aI cs 40 v_gaps_gap), ((d2 2), aI cs 600 v_a2_impact), ((d2 3), aI cs 601 v_a2_firstPosting), ((d2 4), aI cs 600 v_a2_document), ((d0 1), oX0 d_proof v_proof_size v_proof_place), ((d_proof 0), aB cs 6650 v_proof_row)]) (m_X0_next Lx Dx cs n_a1_row h1 d1 v_a1_size v_a1_place_7 v_a1_row _ h) [0, 1] [2, 3, 4, 5, 6, 7, 8, 9, 10, 11, 12] rfl rfl (by decide) (by decide) (by decide) wM_X5_56 wb_X0_next hy_X0_next (q0 := 0) rfl rfl rfl ⟨Nat.le_of_ble_eq_true rfl, Nat.le_of_ble_eq_true rfl⟩ (Nat.le_of_ble_eq_true rfl) (Nat.le_of_ble_eq_true rfl) (Nat.le_of_ble_eq_true rfl) rfl dX5_read_20 (fun v w1 hw => ?_) [] rfl (fun _ _ h => h.elim)
  obtain ⟨r_8, v_a1_place_9, rfl, rfl, h⟩ := hw
  refine a_ws (st1 := [.int r_8]) (ws1 := [(h1, oX0 d1 v_a1_size v_a1_place_9), ((d1 0), aB cs n_a1_row v_a1_row), (h2, oX4 d2 v_a2_bits v_a2_documents v_a2_terms v_a2_segments v_a2_postings), ((d2 0), aJ cs 64 v_a2_term), ((d2 1), aI cs 65 v_a2_firstSegment), (h0, oX5 d0), ((d0 0), oX2 d_gaps v_gaps_many), ((d_gaps 0), aI cs 40 v_gaps_gap), ((d2 2), aI cs 600 v_a2_impact), ((d2 3), aI cs 601 v_a2_firstPosting), ((d2 4), aI cs 600 v_a2_document), ((d0 1), oX0 d_proof v_proof_size v_proof_place), ((d_proof 0), aB cs 6650 v_proof_row)]) 0 0 23 [11, 12, 0, 1, 2, 3, 4, 5, 6, 7, 8, 9, 10] rfl rfl rfl rfl (by decide) rfl ?_
  refine a_istore C (pc := 23) (lv1 := [(0, .ref h0), (1, .ref h1), (2, .ref h2), (3, .int r_6), (4, .int r_8)]) [1, 2, 3, 4, 0] dX5_read_23 (by decide) rfl ?_
  refine a_aload_n C (pc := 25) 1 dX5_read_25 rfl rfl ?_
  refine a_callV C (pc := 26) (av := []) (wr := [(h2, oX4 d2 v_a2_bits v_a2_documents v_a2_terms v_a2_segments v_a2_postings), ((d2 0), aJ cs 64 v_a2_term), ((d2 1), aI cs 65 v_a2_firstSegment), (h0, oX5 d0), ((d0 0), oX2 d_gaps v_gaps_many), ((d_gaps 0), aI cs 40 v_gaps_gap), ((d2 2), aI cs 600 v_a2_impact), ((d2 3), aI cs 601 v_a2_firstPosting), ((d2 4), aI cs 600 v_a2_document), ((d0 1), oX0 d_proof v_proof_size v_proof_place), ((d_proof 0), aB cs 6650 v_proof_row)]) (m_X0_next Lx Dx cs n_a1_row h1 d1 v_a1_size v_a1_place_9 v_a1_row _ h) [0, 1] [2, 3, 4, 5, 6, 7, 8, 9, 10, 11, 12] rfl rfl (by decide) (by decide) (by decide) wM_X5_56 wb_X0_next hy_X0_next (q0 := 0) rfl rfl rfl ⟨Nat.le_of_ble_eq_true rfl, Nat.le_of_ble_eq_true rfl⟩ (Nat.le_of_ble_eq_true rfl) (Nat.le_of_ble_eq_true rfl) (Nat.le_of_ble_eq_true rfl) rfl dX5_read_26 (fun v w1 hw => ?_) [] rfl (fun _ _ h => h.elim)
  obtain ⟨r_10, v_a1_place_11, rfl, rfl, h⟩ := hw
  refine a_ws (st1 := [.int r_10]) (ws1 := [(h1, oX0 d1 v_a1_size v_a1_place_11), ((d1 0), aB cs n_a1_row v_a1_row), (h2, oX4 d2 v_a2_bits v_a2_documents v_a2_terms v_a2_segments v_a2_postings), ((d2 0), aJ cs 64 v_a2_term), ((d2 1), aI cs 65 v_a2_firstSegment), (h0, oX5 d0), ((d0 0), oX2 d_gaps v_gaps_many), ((d_gaps 0), aI cs 40 v_gaps_gap), ((d2 2), aI cs 600 v_a2_impact), ((d2 3), aI cs 601 v_a2_firstPosting), ((d2 4), aI cs 600 v_a2_document), ((d0 1), oX0 d_proof v_proof_size v_proof_place), ((d_proof 0), aB cs 6650 v_proof_row)]) 0 0 29 [11, 12, 0, 1, 2, 3, 4, 5, 6, 7, 8, 9, 10] rfl rfl rfl rfl (by decide) rfl ?_
  refine a_istore C (pc := 29) (lv1 := [(0, .ref h0), (1, .ref h1), (2, .ref h2), (3, .int r_6), (4, .int r_8), (5, .int r_10)]) [1, 2, 3, 4, 5, 0] dX5_read_29 (by decide) rfl ?_
  refine a_aload_n C (pc := 31) 1 dX5_read_31 rfl rfl ?_
  refine a_callV C (pc := 32) (av := []) (wr := [(h2, oX4 d2 v_a2_bits v_a2_documents v_a2_terms v_a2_segments v_a2_postings), ((d2 0), aJ cs 64 v_a2_term), ((d2 1), aI cs 65 v_a2_firstSegment), (h0, oX5 d0), ((d0 0), oX2 d_gaps v_gaps_many), ((d_gaps 0), aI cs 40 v_gaps_gap), ((d2 2), aI cs 600 v_a2_impact), ((d2 3), aI cs 601 v_a2_firstPosting), ((d2 4), aI cs 600 v_a2_document), ((d0 1), oX0 d_proof v_proof_size v_proof_place), ((d_proof 0), aB cs 6650 v_proof_row)]) (m_X0_next Lx Dx cs n_a1_row h1 d1 v_a1_size v_a1_place_11 v_a1_row _ h) [0, 1] [2, 3, 4, 5, 6, 7, 8, 9, 10, 11, 12] rfl rfl (by decide) (by decide) (by decide) wM_X5_56 wb_X0_next hy_X0_next (q0 := 0) rfl rfl rfl ⟨Nat.le_of_ble_eq_true rfl, Nat.le_of_ble_eq_true rfl⟩ (Nat.le_of_ble_eq_true rfl) (Nat.le_of_ble_eq_true rfl) (Nat.le_of_ble_eq_true rfl) rfl dX5_read_32 (fun v w1 hw => ?_) [] rfl (fun _ _ h => h.elim)
  obtain ⟨r_12, v_a1_place_13, rfl, rfl, h⟩ := hw
  refine a_ws (st1 := [.int r_12]) (ws1 := [(h1, oX0 d1 v_a1_size v_a1_place_13), ((d1 0), aB cs n_a1_row v_a1_row), (h2, oX4 d2 v_a2_bits v_a2_documents v_a2_terms v_a2_segments v_a2_postings), ((d2 0), aJ cs 64 v_a2_term), ((d2 1), aI cs 65 v_a2_firstSegment), (h0, oX5 d0), ((d0 0), oX2 d_gaps v_gaps_many), ((d_gaps 0), aI cs 40 v_gaps_gap), ((d2 2), aI cs 600 v_a2_impact), ((d2 3), aI cs 601 v_a2_firstPosting), ((d2 4), aI cs 600 v_a2_document), ((d0 1), oX0 d_proof v_proof_size v_proof_place), ((d_proof 0), aB cs 6650 v_proof_row)]) 0 0 35 [11, 12, 0, 1, 2, 3, 4, 5, 6, 7, 8, 9, 10] rfl rfl rfl rfl (by decide) rfl ?_
  refine a_istore C (pc := 35) (lv1 := [(0, .ref h0), (1, .ref h1), (2, .ref h2), (3, .int r_6), (4, .int r_8), (5, .int r_10), (6, .int r_12)]) [1, 2, 3, 4, 5, 6, 0] dX5_read_35 (by decide) rfl ?_
  refine a_iload_n C (pc := 37) 3 dX5_read_37 rfl rfl ?_
  refine a_iconst C (pc := 38) dX5_read_38 ic_2 ?_
  refine a_bipush C (pc := 39) dX5_read_39 bp_8 ?_
  refine a_callS C (pc := 41) (av := [.int r_6, .int 2, .int 8]) (wr := [(h1, oX0 d1 v_a1_size v_a1_place_13), ((d1 0), aB cs n_a1_row v_a1_row), (h2, oX4 d2 v_a2_bits v_a2_documents v_a2_terms v_a2_segments v_a2_postings), ((d2 0), aJ cs 64 v_a2_term), ((d2 1), aI cs 65 v_a2_firstSegment), (h0, oX5 d0), ((d0 0), oX2 d_gaps v_gaps_many), ((d_gaps 0), aI cs 40 v_gaps_gap), ((d2 2), aI cs 600 v_a2_impact), ((d2 3), aI cs 601 v_a2_firstPosting), ((d2 4), aI cs 600 v_a2_document), ((d0 1), oX0 d_proof v_proof_size v_proof_place), ((d_proof 0), aB cs 6650 v_proof_row)]) (m_X5_isWithin Lx Dx cs r_6 2 8 _ h) [] [0, 1, 2, 3, 4, 5, 6, 7, 8, 9, 10, 11, 12] rfl rfl (by decide) (by decide) (by decide) wM_X5_60 wb_X5_isWithin hy_X5_isWithin rfl ⟨Nat.le_of_ble_eq_true rfl, Nat.le_of_ble_eq_true rfl⟩ (Nat.le_of_ble_eq_true rfl) (Nat.le_of_ble_eq_true rfl) (Nat.le_of_ble_eq_true rfl) rfl dX5_read_41 (fun v w1 hw => ?_) [] rfl (fun _ _ h => h.elim)
  obtain ⟨r_14, rfl, rfl, h⟩ := hw
  refine a_ws (st1 := [.int r_14]) (ws1 := [(h1, oX0 d1 v_a1_size v_a1_place_13), ((d1 0), aB cs n_a1_row v_a1_row), (h2, oX4 d2 v_a2_bits v_a2_documents v_a2_terms v_a2_segments v_a2_postings), ((d2 0), aJ cs 64 v_a2_term), ((d2 1), aI cs 65 v_a2_firstSegment), (h0, oX5 d0), ((d0 0), oX2 d_gaps v_gaps_many), ((d_gaps 0), aI cs 40 v_gaps_gap), ((d2 2), aI cs 600 v_a2_impact), ((d2 3), aI cs 601 v_a2_firstPosting), ((d2 4), aI cs 600 v_a2_document), ((d0 1), oX0 d_proof v_proof_size v_proof_place), ((d_proof 0), aB cs 6650 v_proof_row)]) 0 0 44 [0, 1, 2, 3, 4, 5, 6, 7, 8, 9, 10, 11, 12] rfl rfl rfl rfl (by decide) rfl ?_
  refine a_if_eq C (pc := 44) 79 dX5_read_44 (by decide) (fun hc => ?_) (fun hc => ?_)
  · have h := h.1 hc
    refine a_iconst C (pc := 79) dX5_read_79 ic_0 ?_
    exact a_zreturn C (pc := 80) rfl rfl dX5_read_80 (Nat.le_of_ble_eq_true rfl) (Nat.le_of_ble_eq_true rfl) ⟨_, _, _, _, _, _, _, _, _, _, _, _, _, _, _, _, rfl, rfl, h⟩
  · have h := h.2 hc
    refine a_iload C (pc := 47) 4 dX5_read_47 rfl ?_
    refine a_iconst C (pc := 49) dX5_read_49 ic_0 ?_
    refine a_iconst C (pc := 50) dX5_read_50 ic_2 ?_
    refine a_callS C (pc := 51) (av := [.int r_8, .int 0, .int 2]) (wr := [(h1, oX0 d1 v_a1_size v_a1_place_13), ((d1 0), aB cs n_a1_row v_a1_row), (h2, oX4 d2 v_a2_bits v_a2_documents v_a2_terms v_a2_segments v_a2_postings), ((d2 0), aJ cs 64 v_a2_term), ((d2 1), aI cs 65 v_a2_firstSegment), (h0, oX5 d0), ((d0 0), oX2 d_gaps v_gaps_many), ((d_gaps 0), aI cs 40 v_gaps_gap), ((d2 2), aI cs 600 v_a2_impact), ((d2 3), aI cs 601 v_a2_firstPosting), ((d2 4), aI cs 600 v_a2_document), ((d0 1), oX0 d_proof v_proof_size v_proof_place), ((d_proof 0), aB cs 6650 v_proof_row)]) (m_X5_isWithin Lx Dx cs r_8 0 2 _ h) [] [0, 1, 2, 3, 4, 5, 6, 7, 8, 9, 10, 11, 12] rfl rfl (by decide) (by decide) (by decide) wM_X5_60 wb_X5_isWithin hy_X5_isWithin rfl ⟨Nat.le_of_ble_eq_true rfl, Nat.le_of_ble_eq_true rfl⟩ (Nat.le_of_ble_eq_true rfl) (Nat.le_of_ble_eq_true rfl) (Nat.le_of_ble_eq_true rfl) rfl dX5_read_51 (fun v w1 hw => ?_) [] rfl (fun _ _ h => h.elim)
    obtain ⟨r_15, rfl, rfl, h⟩ := hw
    refine a_ws (st1 := [.int r_15]) (ws1 := [(h1, oX0 d1 v_a1_size v_a1_place_13), ((d1 0), aB cs n_a1_row v_a1_row), (h2, oX4 d2 v_a2_bits v_a2_documents v_a2_terms v_a2_segments v_a2_postings), ((d2 0), aJ cs 64 v_a2_term), ((d2 1), aI cs 65 v_a2_firstSegment), (h0, oX5 d0), ((d0 0), oX2 d_gaps v_gaps_many), ((d_gaps 0), aI cs 40 v_gaps_gap), ((d2 2), aI cs 600 v_a2_impact), ((d2 3), aI cs 601 v_a2_firstPosting), ((d2 4), aI cs 600 v_a2_document), ((d0 1), oX0 d_proof v_proof_size v_proof_place), ((d_proof 0), aB cs 6650 v_proof_row)]) 0 0 54 [0, 1, 2, 3, 4, 5, 6, 7, 8, 9, 10, 11, 12] rfl rfl rfl rfl (by decide) rfl ?_
    refine a_if_eq C (pc := 54) 79 dX5_read_54 (by decide) (fun hc => ?_) (fun hc => ?_)
    · have h := h.1 hc
      refine a_iconst C (pc := 79) dX5_read_79 ic_0 ?_
      exact a_zreturn C (pc := 80) rfl rfl dX5_read_80 (Nat.le_of_ble_eq_true rfl) (Nat.le_of_ble_eq_true rfl) ⟨_, _, _, _, _, _, _, _, _, _, _, _, _, _, _, _, rfl, rfl, h⟩
    · have h := h.2 hc
      refine a_iload C (pc := 57) 5 dX5_read_57 rfl ?_
      refine a_iconst C (pc := 59) dX5_read_59 ic_1 ?_
      refine a_bipush C (pc := 60) dX5_read_60 bp_40 ?_
      refine a_callS C (pc := 62) (av := [.int r_10, .int 1, .int 40]) (wr := [(h1, oX0 d1 v_a1_size v_a1_place_13), ((d1 0), aB cs n_a1_row v_a1_row), (h2, oX4 d2 v_a2_bits v_a2_documents v_a2_terms v_a2_segments v_a2_postings), ((d2 0), aJ cs 64 v_a2_term), ((d2 1), aI cs 65 v_a2_firstSegment), (h0, oX5 d0), ((d0 0), oX2 d_gaps v_gaps_many), ((d_gaps 0), aI cs 40 v_gaps_gap), ((d2 2), aI cs 600 v_a2_impact), ((d2 3), aI cs 601 v_a2_firstPosting), ((d2 4), aI cs 600 v_a2_document), ((d0 1), oX0 d_proof v_proof_size v_proof_place), ((d_proof 0), aB cs 6650 v_proof_row)]) (m_X5_isWithin Lx Dx cs r_10 1 40 _ h) [] [0, 1, 2, 3, 4, 5, 6, 7, 8, 9, 10, 11, 12] rfl rfl (by decide) (by decide) (by decide) wM_X5_60 wb_X5_isWithin hy_X5_isWithin rfl ⟨Nat.le_of_ble_eq_true rfl, Nat.le_of_ble_eq_true rfl⟩ (Nat.le_of_ble_eq_true rfl) (Nat.le_of_ble_eq_true rfl) (Nat.le_of_ble_eq_true rfl) rfl dX5_read_62 (fun v w1 hw => ?_) [] rfl (fun _ _ h => h.elim)
      obtain ⟨r_16, rfl, rfl, h⟩ := hw
      refine a_ws (st1 := [.int r_16]) (ws1 := [(h1, oX0 d1 v_a1_size v_a1_place_13), ((d1 0), aB cs n_a1_row v_a1_row), (h2, oX4 d2 v_a2_bits v_a2_documents v_a2_terms v_a2_segments v_a2_postings), ((d2 0), aJ cs 64 v_a2_term), ((d2 1), aI cs 65 v_a2_firstSegment), (h0, oX5 d0), ((d0 0), oX2 d_gaps v_gaps_many), ((d_gaps 0), aI cs 40 v_gaps_gap), ((d2 2), aI cs 600 v_a2_impact), ((d2 3), aI cs 601 v_a2_firstPosting), ((d2 4), aI cs 600 v_a2_document), ((d0 1), oX0 d_proof v_proof_size v_proof_place), ((d_proof 0), aB cs 6650 v_proof_row)]) 0 0 65 [0, 1, 2, 3, 4, 5, 6, 7, 8, 9, 10, 11, 12] rfl rfl rfl rfl (by decide) rfl ?_
      refine a_if_eq C (pc := 65) 79 dX5_read_65 (by decide) (fun hc => ?_) (fun hc => ?_)
      · have h := h.1 hc
        refine a_iconst C (pc := 79) dX5_read_79 ic_0 ?_
        exact a_zreturn C (pc := 80) rfl rfl dX5_read_80 (Nat.le_of_ble_eq_true rfl) (Nat.le_of_ble_eq_true rfl) ⟨_, _, _, _, _, _, _, _, _, _, _, _, _, _, _, _, rfl, rfl, h⟩
      · have h := h.2 hc
        refine a_iload C (pc := 68) 6 dX5_read_68 rfl ?_
        refine a_iconst C (pc := 70) dX5_read_70 ic_1 ?_
        refine a_bipush C (pc := 71) dX5_read_71 bp_64 ?_
        refine a_callS C (pc := 73) (av := [.int r_12, .int 1, .int 64]) (wr := [(h1, oX0 d1 v_a1_size v_a1_place_13), ((d1 0), aB cs n_a1_row v_a1_row), (h2, oX4 d2 v_a2_bits v_a2_documents v_a2_terms v_a2_segments v_a2_postings), ((d2 0), aJ cs 64 v_a2_term), ((d2 1), aI cs 65 v_a2_firstSegment), (h0, oX5 d0), ((d0 0), oX2 d_gaps v_gaps_many), ((d_gaps 0), aI cs 40 v_gaps_gap), ((d2 2), aI cs 600 v_a2_impact), ((d2 3), aI cs 601 v_a2_firstPosting), ((d2 4), aI cs 600 v_a2_document), ((d0 1), oX0 d_proof v_proof_size v_proof_place), ((d_proof 0), aB cs 6650 v_proof_row)]) (m_X5_isWithin Lx Dx cs r_12 1 64 _ h) [] [0, 1, 2, 3, 4, 5, 6, 7, 8, 9, 10, 11, 12] rfl rfl (by decide) (by decide) (by decide) wM_X5_60 wb_X5_isWithin hy_X5_isWithin rfl ⟨Nat.le_of_ble_eq_true rfl, Nat.le_of_ble_eq_true rfl⟩ (Nat.le_of_ble_eq_true rfl) (Nat.le_of_ble_eq_true rfl) (Nat.le_of_ble_eq_true rfl) rfl dX5_read_73 (fun v w1 hw => ?_) [] rfl (fun _ _ h => h.elim)
        obtain ⟨r_17, rfl, rfl, h⟩ := hw
        refine a_ws (st1 := [.int r_17]) (ws1 := [(h1, oX0 d1 v_a1_size v_a1_place_13), ((d1 0), aB cs n_a1_row v_a1_row), (h2, oX4 d2 v_a2_bits v_a2_documents v_a2_terms v_a2_segments v_a2_postings), ((d2 0), aJ cs 64 v_a2_term), ((d2 1), aI cs 65 v_a2_firstSegment), (h0, oX5 d0), ((d0 0), oX2 d_gaps v_gaps_many), ((d_gaps 0), aI cs 40 v_gaps_gap), ((d2 2), aI cs 600 v_a2_impact), ((d2 3), aI cs 601 v_a2_firstPosting), ((d2 4), aI cs 600 v_a2_document), ((d0 1), oX0 d_proof v_proof_size v_proof_place), ((d_proof 0), aB cs 6650 v_proof_row)]) 0 0 76 [0, 1, 2, 3, 4, 5, 6, 7, 8, 9, 10, 11, 12] rfl rfl rfl rfl (by decide) rfl ?_
        refine a_if_ne C (pc := 76) 81 dX5_read_76 (by decide) (fun hc => ?_) (fun hc => ?_)
        · have h := h.1 hc
          refine a_aload_n C (pc := 81) 2 dX5_read_81 rfl rfl ?_
          refine a_iload_n C (pc := 82) 3 dX5_read_82 rfl rfl ?_
          refine a_iload C (pc := 83) 5 dX5_read_83 rfl ?_
          refine a_callV C (pc := 85) (av := [.int r_6, .int r_10]) (wr := [(h1, oX0 d1 v_a1_size v_a1_place_13), ((d1 0), aB cs n_a1_row v_a1_row), ((d2 0), aJ cs 64 v_a2_term), ((d2 1), aI cs 65 v_a2_firstSegment), (h0, oX5 d0), ((d0 0), oX2 d_gaps v_gaps_many), ((d_gaps 0), aI cs 40 v_gaps_gap), ((d2 2), aI cs 600 v_a2_impact), ((d2 3), aI cs 601 v_a2_firstPosting), ((d2 4), aI cs 600 v_a2_document), ((d0 1), oX0 d_proof v_proof_size v_proof_place), ((d_proof 0), aB cs 6650 v_proof_row)]) (m_X4_start Lx Dx cs h2 d2 v_a2_bits v_a2_documents v_a2_terms v_a2_segments v_a2_postings r_6 r_10 _ h) [2] [0, 1, 3, 4, 5, 6, 7, 8, 9, 10, 11, 12] rfl rfl (by decide) (by decide) (by decide) wM_X5_64 wb_X4_start hy_X4_start (q0 := 2) rfl rfl rfl ⟨Nat.le_of_ble_eq_true rfl, Nat.le_of_ble_eq_true rfl⟩ (Nat.le_of_ble_eq_true rfl) (Nat.le_of_ble_eq_true rfl) (Nat.le_of_ble_eq_true rfl) rfl dX5_read_85 (fun v w1 hw => ?_) [] rfl (fun _ _ h => h.elim)
          obtain ⟨v_a2_bits_18, v_a2_documents_19, v_a2_terms_20, v_a2_segments_21, v_a2_postings_22, rfl, rfl, h⟩ := hw
          refine a_ws (st1 := []) (ws1 := [(h1, oX0 d1 v_a1_size v_a1_place_13), ((d1 0), aB cs n_a1_row v_a1_row), (h2, oX4 d2 v_a2_bits_18 v_a2_documents_19 v_a2_terms_20 v_a2_segments_21 v_a2_postings_22), ((d2 0), aJ cs 64 v_a2_term), ((d2 1), aI cs 65 v_a2_firstSegment), (h0, oX5 d0), ((d0 0), oX2 d_gaps v_gaps_many), ((d_gaps 0), aI cs 40 v_gaps_gap), ((d2 2), aI cs 600 v_a2_impact), ((d2 3), aI cs 601 v_a2_firstPosting), ((d2 4), aI cs 600 v_a2_document), ((d0 1), oX0 d_proof v_proof_size v_proof_place), ((d_proof 0), aB cs 6650 v_proof_row)]) 0 0 88 [0, 1, 12, 2, 3, 4, 5, 6, 7, 8, 9, 10, 11] rfl rfl rfl rfl (by decide) rfl ?_
          refine a_iconst C (pc := 88) dX5_read_88 ic_0 ?_
          refine a_istore C (pc := 89) (lv1 := [(0, .ref h0), (1, .ref h1), (2, .ref h2), (3, .int r_6), (4, .int r_8), (5, .int r_10), (6, .int r_12), (7, .int 0)]) [1, 2, 3, 4, 5, 6, 7, 0] dX5_read_89 (by decide) rfl ?_
          obtain ⟨n0, h⟩ := h
          refine a_lv (lv1 := [(0, .ref h0), (1, .ref h1), (2, .ref h2), (4, .int r_8), (6, .int r_12), (7, .int 0)]) [0, 1, 2, 4, 6, 7] rfl ?_
          refine w_X5_read_91 C (Nat.le_of_ble_eq_true rfl) (Nat.le_of_ble_eq_true rfl) n0 v_a1_place_13 v_a2_bits_18 v_a2_documents_19 v_a2_terms_20 v_a2_segments_21 v_a2_postings_22 v_a2_term v_a2_firstSegment v_gaps_many v_gaps_gap v_a2_impact v_a2_firstPosting v_a2_document v_proof_size v_proof_row r_8 r_12 0 h ?_
          intro v_a1_place_51 v_a2_bits_52 v_a2_documents_53 v_a2_terms_54 v_a2_segments_55 v_a2_postings_56 v_a2_term_57 v_a2_firstSegment_58 v_gaps_many_59 v_gaps_gap_60 v_a2_impact_61 v_a2_firstPosting_62 v_a2_document_63 v_proof_size_64 v_proof_row_65 l4_66 h
          refine a_aload_n C (pc := 117) 0 dX5_read_117 rfl rfl ?_
          refine a_aload_n C (pc := 118) 2 dX5_read_118 rfl rfl ?_
          refine a_iload C (pc := 119) 3 dX5_read_119 rfl ?_
          refine a_aload_n C (pc := 121) 0 dX5_read_121 rfl rfl ?_
          refine a_get C (pc := 122) 5 1 inW_X5 rfl rfl (Nat.le_of_ble_eq_true rfl) wF_X5_23 rfl rfl dX5_read_122 ?_
          refine a_callV C (pc := 125) (av := [.ref h2, .int l4_66, .ref (d0 1)]) (wr := [(h1, oX0 d1 v_a1_size v_a1_place_51), ((d1 0), aB cs n_a1_row v_a1_row)]) (m_X5_write Lx Dx cs 6650 h0 h2 (d0 1) d_proof d2 d0 d_gaps v_proof_size_64 v_proof_place v_proof_row_65 v_a2_bits_52 v_a2_documents_53 v_a2_terms_54 v_a2_segments_55 v_a2_postings_56 v_a2_term_57 v_a2_firstSegment_58 v_a2_impact_61 v_a2_firstPosting_62 v_gaps_many_59 v_a2_document_63 v_gaps_gap_60 l4_66 _ h) [11, 12, 2, 3, 4, 8, 9, 5, 6, 10, 7] [0, 1] rfl rfl (by decide) (by decide) (by decide) wM_X5_72 wb_X5_write hy_X5_write (q0 := 5) rfl rfl rfl ⟨Nat.le_of_ble_eq_true rfl, Nat.le_of_ble_eq_true rfl⟩ (Nat.le_of_ble_eq_true rfl) (Nat.le_of_ble_eq_true rfl) (Nat.le_of_ble_eq_true rfl) rfl dX5_read_125 (fun v w1 hw => ?_) [] rfl (fun _ _ h => h.elim)
          obtain ⟨v_proof_size_67, v_proof_row_68, v_gaps_many_69, v_gaps_gap_70, rfl, rfl, h⟩ := hw
          refine a_ws (st1 := []) (ws1 := [(h1, oX0 d1 v_a1_size v_a1_place_51), ((d1 0), aB cs n_a1_row v_a1_row), (h2, oX4 d2 v_a2_bits_52 v_a2_documents_53 v_a2_terms_54 v_a2_segments_55 v_a2_postings_56), ((d2 0), aJ cs 64 v_a2_term_57), ((d2 1), aI cs 65 v_a2_firstSegment_58), (h0, oX5 d0), ((d0 0), oX2 d_gaps v_gaps_many_69), ((d_gaps 0), aI cs 40 v_gaps_gap_70), ((d2 2), aI cs 600 v_a2_impact_61), ((d2 3), aI cs 601 v_a2_firstPosting_62), ((d2 4), aI cs 600 v_a2_document_63), ((d0 1), oX0 d_proof v_proof_size_67 v_proof_place), ((d_proof 0), aB cs 6650 v_proof_row_68)]) 0 0 128 [0, 1, 4, 5, 6, 9, 10, 12, 7, 8, 11, 2, 3] rfl rfl rfl rfl (by decide) rfl ?_
          refine a_aload_n C (pc := 128) 0 dX5_read_128 rfl rfl ?_
          refine a_get C (pc := 129) 5 1 inW_X5 rfl rfl (Nat.le_of_ble_eq_true rfl) wF_X5_23 rfl rfl dX5_read_129 ?_
          refine a_aload_n C (pc := 132) 1 dX5_read_132 rfl rfl ?_
          refine a_callV C (pc := 133) (av := [.ref h1]) (wr := [(h2, oX4 d2 v_a2_bits_52 v_a2_documents_53 v_a2_terms_54 v_a2_segments_55 v_a2_postings_56), ((d2 0), aJ cs 64 v_a2_term_57), ((d2 1), aI cs 65 v_a2_firstSegment_58), (h0, oX5 d0), ((d0 0), oX2 d_gaps v_gaps_many_69), ((d_gaps 0), aI cs 40 v_gaps_gap_70), ((d2 2), aI cs 600 v_a2_impact_61), ((d2 3), aI cs 601 v_a2_firstPosting_62), ((d2 4), aI cs 600 v_a2_document_63)]) (m_X0_isSameAs Lx Dx cs 6650 n_a1_row (d0 1) h1 d_proof d1 v_proof_size_67 v_proof_place v_a1_size v_a1_place_51 v_proof_row_68 v_a1_row _ h) [11, 0, 12, 1] [2, 3, 4, 5, 6, 7, 8, 9, 10] rfl rfl (by decide) (by decide) (by decide) wM_X5_76 wb_X0_isSameAs hy_X0_isSameAs (q0 := 11) rfl rfl rfl ⟨Nat.le_of_ble_eq_true rfl, Nat.le_of_ble_eq_true rfl⟩ (Nat.le_of_ble_eq_true rfl) (Nat.le_of_ble_eq_true rfl) (Nat.le_of_ble_eq_true rfl) rfl dX5_read_133 (fun v w1 hw => ?_) [] rfl (fun _ _ h => h.elim)
          obtain ⟨r_71, rfl, rfl, h⟩ := hw
          refine a_ws (st1 := [.int r_71]) (ws1 := [(h1, oX0 d1 v_a1_size v_a1_place_51), ((d1 0), aB cs n_a1_row v_a1_row), (h2, oX4 d2 v_a2_bits_52 v_a2_documents_53 v_a2_terms_54 v_a2_segments_55 v_a2_postings_56), ((d2 0), aJ cs 64 v_a2_term_57), ((d2 1), aI cs 65 v_a2_firstSegment_58), (h0, oX5 d0), ((d0 0), oX2 d_gaps v_gaps_many_69), ((d_gaps 0), aI cs 40 v_gaps_gap_70), ((d2 2), aI cs 600 v_a2_impact_61), ((d2 3), aI cs 601 v_a2_firstPosting_62), ((d2 4), aI cs 600 v_a2_document_63), ((d0 1), oX0 d_proof v_proof_size_67 v_proof_place), ((d_proof 0), aB cs 6650 v_proof_row_68)]) 0 0 136 [10, 12, 0, 1, 2, 3, 4, 5, 6, 7, 8, 9, 11] rfl rfl rfl rfl (by decide) rfl ?_
          exact a_zreturn C (pc := 136) rfl h.1.1 dX5_read_136 (Nat.le_of_ble_eq_true rfl) (Nat.le_of_ble_eq_true rfl) ⟨_, _, _, _, _, _, _, _, _, _, _, _, _, _, _, _, rfl, rfl, h.2⟩
        · have h := h.2 hc
          refine a_iconst C (pc := 79) dX5_read_79 ic_0 ?_
          exact a_zreturn C (pc := 80) rfl rfl dX5_read_80 (Nat.le_of_ble_eq_true rfl) (Nat.le_of_ble_eq_true rfl) ⟨_, _, _, _, _, _, _, _, _, _, _, _, _, _, _, _, rfl, rfl, h⟩
set_option maxRecDepth 100000 in
set_option maxHeartbeats 4000000 in
theorem w_X3_isHeld_2 {Γ : XG} {Lx : Launch} {Dx : va_G} {cs : Nat → ClassId} {h0 : Nat} {d0 : Nat → Nat} {v_latest : Int32} {v_held : Nat → Int32} {K_25 : Prop} {Φ : Int32 → Prop} {k n9 : Nat} (C : CX Γ Lx Dx cs cX3_isHeld RX3 "isHeld" 3 (some .boolean) 0 0 0 0 (qEC cs 0 0 [] (R_X3_isHeld cs h0 d0 v_latest v_held Φ) (fun _ _ => False))) (hkm : k ≤ 0) (hnm : n9 ≤ 0) : ∀ n : Nat, ∀ (l1 : Int32) (l2 : Int32), L_X3_isHeld_2 n v_held l1 l2 K_25 Φ → (K_25 → AW Γ k n9 25 [] [] [(h0, oX3 d0 v_latest), ((d0 3), aI cs 4 v_held)]) → AW Γ k n9 2 [(0, .ref h0), (1, .int l1), (2, .int l2)] [] [(h0, oX3 d0 v_latest), ((d0 3), aI cs 4 v_held)] := by
  intro n
  induction n with
  | zero =>
    intro l1 l2 h
    exact False.elim h
  | succ n ih =>
    intro l1 l2 h hK_25
    rw [L_X3_isHeld_2] at h
    refine a_iload_n C (pc := 2) 2 dX3_isHeld_2 rfl rfl ?_
    refine a_iconst C (pc := 3) dX3_isHeld_3 ic_4 ?_
    refine a_icmp_ge C (pc := 4) 25 dX3_isHeld_4 (by decide) (fun hc => ?_) (fun hc => ?_)
    · have h := h.1 hc
      refine a_lv (lv1 := []) [] rfl ?_
      exact hK_25 h
    · have h := h.2 hc
      refine a_aload_n C (pc := 7) 0 dX3_isHeld_7 rfl rfl ?_
      refine a_get C (pc := 8) 0 3 inW_X3 rfl rfl (Nat.le_of_ble_eq_true rfl) wF_X3_26 rfl rfl dX3_isHeld_8 ?_
      refine a_iload_n C (pc := 11) 2 dX3_isHeld_11 rfl rfl ?_
      refine a_iald C (pc := 12) 1 rfl h.1 dX3_isHeld_12 ?_
      replace h := h.2
      refine a_iload_n C (pc := 13) 1 dX3_isHeld_13 rfl rfl ?_
      refine a_icmp_ne C (pc := 14) 19 dX3_isHeld_14 (by decide) (fun hc => ?_) (fun hc => ?_)
      · have h := h.1 hc
        refine a_iinc C (pc := 19) (lv1 := [(0, .ref h0), (1, .int l1), (2, .int (l2 + 1))]) 2 [1, 2, 0] dX3_isHeld_19 rfl (congrArg (fun z => l2 + z) ic_1) (by decide) rfl ?_
        refine a_goto C (pc := 22) 2 dX3_isHeld_22 (by decide) ?_
        exact ih l1 (l2 + 1) h hK_25
      · have h := h.2 hc
        refine a_iconst C (pc := 17) dX3_isHeld_17 ic_1 ?_
        exact a_zreturn C (pc := 18) rfl rfl dX3_isHeld_18 hkm hnm ⟨_, rfl, rfl, h⟩
set_option maxRecDepth 100000 in
set_option maxHeartbeats 4000000 in
theorem m_X3_isHeld (Lx : Launch) (Dx : va_G) (cs : Nat → ClassId) (h0 : Nat) (d0 : Nat → Nat) (v_latest : Int32) (v_held : Nat → Int32) (l1 : Int32) (Φ : Int32 → Prop) (h : P_X3_isHeld v_held l1 Φ) : XMet Lx Dx cs yX3_isHeld cX3_isHeld 3 (some .boolean) 0 0 0 0 [.ref h0, .int l1] [(h0, oX3 d0 v_latest), ((d0 3), aI cs 4 v_held)] (R_X3_isHeld cs h0 d0 v_latest v_held Φ) (fun _ _ => False) := by
  refine XMet.of (own := RX3) (nm := "isHeld") (by decide) rfl rfl (Nat.le_of_ble_eq_true rfl) (fun Γ C => ?_)
  unfold P_X3_isHeld at h
  refine a_iconst C (pc := 0) dX3_isHeld_0 ic_0 ?_
  refine a_istore_n C (pc := 1) (lv1 := [(0, .ref h0), (1, .int l1), (2, .int 0)]) [1, 2, 0] dX3_isHeld_1 rfl (by decide) rfl ?_
  obtain ⟨n0, h⟩ := h
  refine w_X3_isHeld_2 C (Nat.le_of_ble_eq_true rfl) (Nat.le_of_ble_eq_true rfl) n0 l1 0 h ?_
  intro h
  refine a_iconst C (pc := 25) dX3_isHeld_25 ic_0 ?_
  exact a_zreturn C (pc := 26) rfl rfl dX3_isHeld_26 (Nat.le_of_ble_eq_true rfl) (Nat.le_of_ble_eq_true rfl) ⟨_, rfl, rfl, h⟩
set_option maxRecDepth 100000 in
set_option maxHeartbeats 4000000 in
theorem w_X3_placeForNext_2 {Γ : XG} {Lx : Launch} {Dx : va_G} {cs : Nat → ClassId} {h0 : Nat} {d0 : Nat → Nat} {v_latest : Int32} {v_number : Nat → Int32} {v_held : Nat → Int32} {K_37 : Prop} {Φ : Int32 → Prop} {k n9 : Nat} (C : CX Γ Lx Dx cs cX3_placeForNext RX3 "placeForNext" 2 (some .int) 1 22 0 0 (qEC cs 0 0 [] (R_X3_placeForNext cs h0 d0 v_latest v_number v_held Φ) (fun _ _ => False))) (hkm : k ≤ 0) (hnm : n9 ≤ 0) : ∀ n : Nat, ∀ (l1 : Int32), L_X3_placeForNext_2 n v_number v_held l1 K_37 Φ → (K_37 → AW Γ k n9 37 [(0, .ref h0)] [] [(h0, oX3 d0 v_latest), ((d0 1), aI cs 3 v_number), ((d0 3), aI cs 4 v_held)]) → AW Γ k n9 2 [(0, .ref h0), (1, .int l1)] [] [(h0, oX3 d0 v_latest), ((d0 1), aI cs 3 v_number), ((d0 3), aI cs 4 v_held)] := by
  intro n
  induction n with
  | zero =>
    intro l1 h
    exact False.elim h
  | succ n ih =>
    intro l1 h hK_37
    rw [L_X3_placeForNext_2] at h
    refine a_iload_n C (pc := 2) 1 dX3_placeForNext_2 rfl rfl ?_
    refine a_iconst C (pc := 3) dX3_placeForNext_3 ic_3 ?_
    refine a_icmp_ge C (pc := 4) 37 dX3_placeForNext_4 (by decide) (fun hc => ?_) (fun hc => ?_)
    · have h := h.1 hc
      refine a_lv (lv1 := [(0, .ref h0)]) [0] rfl ?_
      exact hK_37 h
    · have h := h.2 hc
      refine a_aload_n C (pc := 7) 0 dX3_placeForNext_7 rfl rfl ?_
      refine a_get C (pc := 8) 0 1 inW_X3 rfl rfl (Nat.le_of_ble_eq_true rfl) wF_X3_17 rfl rfl dX3_placeForNext_8 ?_
      refine a_iload_n C (pc := 11) 1 dX3_placeForNext_11 rfl rfl ?_
      refine a_iald C (pc := 12) 1 rfl h.1 dX3_placeForNext_12 ?_
      replace h := h.2
      refine a_if_eq C (pc := 13) 31 dX3_placeForNext_13 (by decide) (fun hc => ?_) (fun hc => ?_)
      · have h := h.1 hc
        refine a_iinc C (pc := 31) (lv1 := [(0, .ref h0), (1, .int (l1 + 1))]) 1 [1, 0] dX3_placeForNext_31 rfl (congrArg (fun z => l1 + z) ic_1) (by decide) rfl ?_
        refine a_goto C (pc := 34) 2 dX3_placeForNext_34 (by decide) ?_
        exact ih (l1 + 1) h hK_37
      · have h := h.2 hc
        refine a_aload_n C (pc := 16) 0 dX3_placeForNext_16 rfl rfl ?_
        refine a_aload_n C (pc := 17) 0 dX3_placeForNext_17 rfl rfl ?_
        refine a_get C (pc := 18) 0 1 inW_X3 rfl rfl (Nat.le_of_ble_eq_true rfl) wF_X3_17 rfl rfl dX3_placeForNext_18 ?_
        refine a_iload_n C (pc := 21) 1 dX3_placeForNext_21 rfl rfl ?_
        refine a_iald C (pc := 22) 1 rfl h.1 dX3_placeForNext_22 ?_
        replace h := h.2
        refine a_callV C (pc := 23) (av := [.int (v_number (l1 : Int32).toNatClampNeg)]) (wr := [((d0 1), aI cs 3 v_number)]) (m_X3_isHeld Lx Dx cs h0 d0 v_latest v_held (v_number (l1 : Int32).toNatClampNeg) _ h) [0, 2] [1] rfl rfl (by decide) (by decide) (by decide) wM_X3_33 wb_X3_isHeld hy_X3_isHeld (q0 := 0) rfl rfl rfl ⟨Nat.le_of_ble_eq_true rfl, Nat.le_of_ble_eq_true rfl⟩ (Nat.le_of_ble_eq_true rfl) hkm hnm rfl dX3_placeForNext_23 (fun v w1 hw => ?_) [] rfl (fun _ _ h => h.elim)
        obtain ⟨r_1, rfl, rfl, h⟩ := hw
        refine a_ws (st1 := [.int r_1]) (ws1 := [(h0, oX3 d0 v_latest), ((d0 1), aI cs 3 v_number), ((d0 3), aI cs 4 v_held)]) k n9 26 [1, 0, 2] rfl rfl rfl rfl (by decide) rfl ?_
        refine a_if_ne C (pc := 26) 31 dX3_placeForNext_26 (by decide) (fun hc => ?_) (fun hc => ?_)
        · have h := h.1 hc
          refine a_iinc C (pc := 31) (lv1 := [(0, .ref h0), (1, .int (l1 + 1))]) 1 [1, 0] dX3_placeForNext_31 rfl (congrArg (fun z => l1 + z) ic_1) (by decide) rfl ?_
          refine a_goto C (pc := 34) 2 dX3_placeForNext_34 (by decide) ?_
          exact ih (l1 + 1) h hK_37
        · have h := h.2 hc
          refine a_iload_n C (pc := 29) 1 dX3_placeForNext_29 rfl rfl ?_
          exact a_ireturn C (pc := 30) rfl dX3_placeForNext_30 hkm hnm ⟨_, rfl, rfl, h⟩
set_option maxRecDepth 100000 in
set_option maxHeartbeats 4000000 in
theorem w_X3_placeForNext_39 {Γ : XG} {Lx : Launch} {Dx : va_G} {cs : Nat → ClassId} {h0 : Nat} {d0 : Nat → Nat} {v_latest : Int32} {v_number : Nat → Int32} {v_held : Nat → Int32} {K_61 : Prop} {Φ : Int32 → Prop} {k n9 : Nat} (C : CX Γ Lx Dx cs cX3_placeForNext RX3 "placeForNext" 2 (some .int) 1 22 0 0 (qEC cs 0 0 [] (R_X3_placeForNext cs h0 d0 v_latest v_number v_held Φ) (fun _ _ => False))) (hkm : k ≤ 0) (hnm : n9 ≤ 0) : ∀ n : Nat, ∀ (l1 : Int32), L_X3_placeForNext_39 n v_number v_held l1 K_61 Φ → (K_61 → AW Γ k n9 61 [] [] [(h0, oX3 d0 v_latest), ((d0 1), aI cs 3 v_number), ((d0 3), aI cs 4 v_held)]) → AW Γ k n9 39 [(0, .ref h0), (1, .int l1)] [] [(h0, oX3 d0 v_latest), ((d0 1), aI cs 3 v_number), ((d0 3), aI cs 4 v_held)] := by
  intro n
  induction n with
  | zero =>
    intro l1 h
    exact False.elim h
  | succ n ih =>
    intro l1 h hK_61
    rw [L_X3_placeForNext_39] at h
    refine a_iload_n C (pc := 39) 1 dX3_placeForNext_39 rfl rfl ?_
    refine a_iconst C (pc := 40) dX3_placeForNext_40 ic_3 ?_
    refine a_icmp_ge C (pc := 41) 61 dX3_placeForNext_41 (by decide) (fun hc => ?_) (fun hc => ?_)
    · have h := h.1 hc
      refine a_lv (lv1 := []) [] rfl ?_
      exact hK_61 h
    · have h := h.2 hc
      refine a_aload_n C (pc := 44) 0 dX3_placeForNext_44 rfl rfl ?_
      refine a_get C (pc := 45) 0 1 inW_X3 rfl rfl (Nat.le_of_ble_eq_true rfl) wF_X3_17 rfl rfl dX3_placeForNext_45 ?_
      refine a_iload_n C (pc := 48) 1 dX3_placeForNext_48 rfl rfl ?_
      refine a_iald C (pc := 49) 1 rfl h.1 dX3_placeForNext_49 ?_
      replace h := h.2
      refine a_if_ne C (pc := 50) 55 dX3_placeForNext_50 (by decide) (fun hc => ?_) (fun hc => ?_)
      · have h := h.1 hc
        refine a_iinc C (pc := 55) (lv1 := [(0, .ref h0), (1, .int (l1 + 1))]) 1 [1, 0] dX3_placeForNext_55 rfl (congrArg (fun z => l1 + z) ic_1) (by decide) rfl ?_
        refine a_goto C (pc := 58) 39 dX3_placeForNext_58 (by decide) ?_
        exact ih (l1 + 1) h hK_61
      · have h := h.2 hc
        refine a_iload_n C (pc := 53) 1 dX3_placeForNext_53 rfl rfl ?_
        exact a_ireturn C (pc := 54) rfl dX3_placeForNext_54 hkm hnm ⟨_, rfl, rfl, h⟩
set_option maxRecDepth 100000 in
set_option maxHeartbeats 4000000 in
theorem m_X3_placeForNext (Lx : Launch) (Dx : va_G) (cs : Nat → ClassId) (h0 : Nat) (d0 : Nat → Nat) (v_latest : Int32) (v_number : Nat → Int32) (v_held : Nat → Int32) (Φ : Int32 → Prop) (h : P_X3_placeForNext v_number v_held Φ) : XMet Lx Dx cs yX3_placeForNext cX3_placeForNext 2 (some .int) 1 22 0 0 [.ref h0] [(h0, oX3 d0 v_latest), ((d0 1), aI cs 3 v_number), ((d0 3), aI cs 4 v_held)] (R_X3_placeForNext cs h0 d0 v_latest v_number v_held Φ) (fun _ _ => False) := by
  refine XMet.of (own := RX3) (nm := "placeForNext") (by decide) rfl rfl (Nat.le_of_ble_eq_true rfl) (fun Γ C => ?_)
  unfold P_X3_placeForNext at h
  refine a_iconst C (pc := 0) dX3_placeForNext_0 ic_0 ?_
  refine a_istore_n C (pc := 1) (lv1 := [(0, .ref h0), (1, .int 0)]) [1, 0] dX3_placeForNext_1 rfl (by decide) rfl ?_
  obtain ⟨n0, h⟩ := h
  refine w_X3_placeForNext_2 C (Nat.le_of_ble_eq_true rfl) (Nat.le_of_ble_eq_true rfl) n0 0 h ?_
  intro h
  refine a_iconst C (pc := 37) dX3_placeForNext_37 ic_0 ?_
  refine a_istore_n C (pc := 38) (lv1 := [(0, .ref h0), (1, .int 0)]) [1, 0] dX3_placeForNext_38 rfl (by decide) rfl ?_
  obtain ⟨n0, h⟩ := h
  refine w_X3_placeForNext_39 C (Nat.le_of_ble_eq_true rfl) (Nat.le_of_ble_eq_true rfl) n0 0 h ?_
  intro h
  refine a_iconst C (pc := 61) dX3_placeForNext_61 ic_m1 ?_
  exact a_ireturn C (pc := 62) rfl dX3_placeForNext_62 (Nat.le_of_ble_eq_true rfl) (Nat.le_of_ble_eq_true rfl) ⟨_, rfl, rfl, h⟩
set_option maxRecDepth 100000 in
set_option maxHeartbeats 4000000 in
theorem m_X3_install (Lx : Launch) (Dx : va_G) (cs : Nat → ClassId) (h0 : Nat) (h2 : Nat) (d0 : Nat → Nat) (d2 : Nat → Nat) (v_latest : Int32) (v_kept : Nat → Option Nat) (v_a2_bits : Int32) (v_a2_documents : Int32) (v_a2_terms : Int32) (v_a2_segments : Int32) (v_a2_postings : Int32) (v_number : Nat → Int32) (l1 : Int32) (Φ : Nat → Int32 → (Nat → Option Nat) → (Nat → Int32) → Prop) (h : P_X3_install h2 v_latest v_kept v_number l1 Φ) : XMet Lx Dx cs yX3_install cX3_install 4 (some (.object "ImpactShelf$Index")) 0 0 0 0 [.ref h0, .int l1, .ref h2] [(h0, oX3 d0 v_latest), ((d0 0), aQ cs 3 v_kept), (h2, oX4 d2 v_a2_bits v_a2_documents v_a2_terms v_a2_segments v_a2_postings), ((d0 1), aI cs 3 v_number)] (R_X3_install cs h0 h2 d0 d2 v_a2_bits v_a2_documents v_a2_terms v_a2_segments v_a2_postings Φ) (fun _ _ => False) := by
  refine XMet.of (own := RX3) (nm := "install") (by decide) rfl rfl (Nat.le_of_ble_eq_true rfl) (fun Γ C => ?_)
  unfold P_X3_install at h
  refine a_aload_n C (pc := 0) 0 dX3_install_0 rfl rfl ?_
  refine a_get C (pc := 1) 0 0 inW_X3 rfl rfl (Nat.le_of_ble_eq_true rfl) wF_X3_11 rfl rfl dX3_install_1 ?_
  refine a_iload_n C (pc := 4) 1 dX3_install_4 rfl rfl ?_
  obtain ⟨hi9, ra_1, ha9, h⟩ := h
  refine a_aldq C (pc := 5) 1 rfl hi9 (v := .ref ra_1) (by rw [ha9]; rfl) dX3_install_5 ?_
  refine a_astore_n C (pc := 6) (lv1 := [(0, .ref h0), (1, .int l1), (2, .ref h2), (3, .ref ra_1)]) [1, 2, 3, 0] dX3_install_6 rfl (by decide) rfl ?_
  refine a_aload_n C (pc := 7) 0 dX3_install_7 rfl rfl ?_
  refine a_dup C (pc := 8) dX3_install_8 rfl ?_
  refine a_get C (pc := 9) 0 4 inW_X3 rfl rfl (Nat.le_of_ble_eq_true rfl) wF_X3_29 rfl rfl dX3_install_9 ?_
  refine a_iconst C (pc := 12) dX3_install_12 ic_1 ?_
  refine a_iadd C (pc := 13) dX3_install_13 ?_
  refine a_put C (pc := 14) (ws1 := [(h0, oX3 d0 (v_latest + 1)), ((d0 0), aQ cs 3 v_kept), (h2, oX4 d2 v_a2_bits v_a2_documents v_a2_terms v_a2_segments v_a2_postings), ((d0 1), aI cs 3 v_number)]) 0 4 inW_X3 tyX3 tyX3_ok nmX3 rfl rfl (Nat.le_of_ble_eq_true rfl) wF_X3_29 rfl rfl rfl rfl rfl (Nat.le_of_ble_eq_true rfl) dX3_install_14 rfl ?_
  refine a_aload_n C (pc := 17) 0 dX3_install_17 rfl rfl ?_
  refine a_get C (pc := 18) 0 0 inW_X3 rfl rfl (Nat.le_of_ble_eq_true rfl) wF_X3_11 rfl rfl dX3_install_18 ?_
  refine a_iload_n C (pc := 21) 1 dX3_install_21 rfl rfl ?_
  refine a_aload_n C (pc := 22) 2 dX3_install_22 rfl rfl ?_
  refine a_astq C (pc := 23) (ws1 := [(h0, oX3 d0 (v_latest + 1)), ((d0 0), aQ cs 3 (va_up v_kept (l1 : Int32).toNatClampNeg (some h2))), (h2, oX4 d2 v_a2_bits v_a2_documents v_a2_terms v_a2_segments v_a2_postings), ((d0 1), aI cs 3 v_number)]) 1 2 rfl rfl h.1 dX3_install_23 rfl ?_
  replace h := h.2
  refine a_aload_n C (pc := 24) 0 dX3_install_24 rfl rfl ?_
  refine a_get C (pc := 25) 0 1 inW_X3 rfl rfl (Nat.le_of_ble_eq_true rfl) wF_X3_17 rfl rfl dX3_install_25 ?_
  refine a_iload_n C (pc := 28) 1 dX3_install_28 rfl rfl ?_
  refine a_aload_n C (pc := 29) 0 dX3_install_29 rfl rfl ?_
  refine a_get C (pc := 30) 0 4 inW_X3 rfl rfl (Nat.le_of_ble_eq_true rfl) wF_X3_29 rfl rfl dX3_install_30 ?_
  refine a_iast C (pc := 33) (ws1 := [(h0, oX3 d0 (v_latest + 1)), ((d0 0), aQ cs 3 (va_up v_kept (l1 : Int32).toNatClampNeg (some h2))), (h2, oX4 d2 v_a2_bits v_a2_documents v_a2_terms v_a2_segments v_a2_postings), ((d0 1), aI cs 3 (upd v_number (l1 : Int32).toNatClampNeg (v_latest + 1)))]) 3 rfl h.1 dX3_install_33 rfl ?_
  replace h := h.2
  refine a_aload_n C (pc := 34) 3 dX3_install_34 rfl rfl ?_
  exact a_areturn C (pc := 35) rfl dX3_install_35 (Nat.le_of_ble_eq_true rfl) (Nat.le_of_ble_eq_true rfl) ⟨_, _, _, _, rfl, rfl, h⟩
set_option maxRecDepth 100000 in
set_option maxHeartbeats 4000000 in
theorem m_X8_publish (Lx : Launch) (Dx : va_G) (cs : Nat → ClassId) (h0 : Nat) (hdr : Nat) (d0 : Nat → Nat) (d_file : Nat → Nat) (d_draft : Nat → Nat) (d_indexFile : Nat → Nat) (d_indexFile_gaps : Nat → Nat) (d_indexFile_proof : Nat → Nat) (d_generations : Nat → Nat) (v_ticks : Int64) (v_file_size : Int32) (v_file_place : Int32) (v_file_row : Nat → Int32) (v_draft_bits : Int32) (v_draft_documents : Int32) (v_draft_terms : Int32) (v_draft_segments : Int32) (v_draft_postings : Int32) (v_draft_term : Nat → Int64) (v_draft_firstSegment : Nat → Int32) (v_indexFile_gaps_many : Int32) (v_indexFile_gaps_gap : Nat → Int32) (v_draft_impact : Nat → Int32) (v_draft_firstPosting : Nat → Int32) (v_draft_document : Nat → Int32) (v_indexFile_proof_size : Int32) (v_indexFile_proof_place : Int32) (v_indexFile_proof_row : Nat → Int32) (v_generations_latest : Int32) (v_generations_number : Nat → Int32) (v_generations_held : Nat → Int32) (v_generations_kept : Nat → Option Nat) (Φ : Int32 → Nat → Int32 → Int32 → Int32 → Int32 → Int32 → Int32 → (Nat → Int64) → (Nat → Int32) → Int32 → (Nat → Int32) → (Nat → Int32) → (Nat → Int32) → (Nat → Int32) → Int32 → (Nat → Int32) → Int32 → (Nat → Int32) → (Nat → Option Nat) → Prop) (X : String → Nat → Int32 → Int32 → Int32 → Int32 → Int32 → Int32 → (Nat → Int64) → (Nat → Int32) → Int32 → (Nat → Int32) → (Nat → Int32) → (Nat → Int32) → (Nat → Int32) → Int32 → (Nat → Int32) → Int32 → (Nat → Int32) → (Nat → Option Nat) → Prop) (h : P_X8_publish hdr hdr v_file_size v_file_place v_file_row v_draft_bits v_draft_documents v_draft_terms v_draft_segments v_draft_postings v_draft_term v_draft_firstSegment v_indexFile_gaps_many v_indexFile_gaps_gap v_draft_impact v_draft_firstPosting v_draft_document v_indexFile_proof_size v_indexFile_proof_row v_generations_latest v_generations_number v_generations_held v_generations_kept Φ X) : XMet Lx Dx cs yX8_publish cX8_publish 2 (some .int) 7 171 1 6 [.ref h0] [(h0, oX8 d0 hdr v_ticks), ((d0 3), oX0 d_file v_file_size v_file_place), ((d_file 0), aB cs 6650 v_file_row), (hdr, oX4 d_draft v_draft_bits v_draft_documents v_draft_terms v_draft_segments v_draft_postings), ((d_draft 0), aJ cs 64 v_draft_term), ((d_draft 1), aI cs 65 v_draft_firstSegment), ((d0 4), oX5 d_indexFile), ((d_indexFile 0), oX2 d_indexFile_gaps v_indexFile_gaps_many), ((d_indexFile_gaps 0), aI cs 40 v_indexFile_gaps_gap), ((d_draft 2), aI cs 600 v_draft_impact), ((d_draft 3), aI cs 601 v_draft_firstPosting), ((d_draft 4), aI cs 600 v_draft_document), ((d_indexFile 1), oX0 d_indexFile_proof v_indexFile_proof_size v_indexFile_proof_place), ((d_indexFile_proof 0), aB cs 6650 v_indexFile_proof_row), ((d0 5), oX3 d_generations v_generations_latest), ((d_generations 1), aI cs 3 v_generations_number), ((d_generations 3), aI cs 4 v_generations_held), ((d_generations 0), aQ cs 3 v_generations_kept)] (R_X8_publish cs h0 hdr d0 d_file d_draft d_indexFile d_indexFile_gaps d_indexFile_proof d_generations v_ticks v_file_size v_file_row v_indexFile_proof_place v_generations_held Φ) (Y_X8_publish cs h0 hdr d0 d_file d_draft d_indexFile d_indexFile_gaps d_indexFile_proof d_generations v_ticks v_file_size v_file_row v_indexFile_proof_place v_generations_held X) := by
  refine XMet.of (own := RX8) (nm := "publish") (by decide) rfl rfl (Nat.le_of_ble_eq_true rfl) (fun Γ C => ?_)
  unfold P_X8_publish at h
  refine a_aload_n C (pc := 0) 0 dX8_publish_0 rfl rfl ?_
  refine a_get C (pc := 1) 0 4 inW_X8 rfl rfl (Nat.le_of_ble_eq_true rfl) wF_X8_38 rfl rfl dX8_publish_1 ?_
  refine a_aload_n C (pc := 4) 0 dX8_publish_4 rfl rfl ?_
  refine a_get C (pc := 5) 0 3 inW_X8 rfl rfl (Nat.le_of_ble_eq_true rfl) wF_X8_32 rfl rfl dX8_publish_5 ?_
  refine a_aload_n C (pc := 8) 0 dX8_publish_8 rfl rfl ?_
  refine a_get C (pc := 9) 0 7 inW_X8 rfl rfl (Nat.le_of_ble_eq_true rfl) wF_X8_59 rfl rfl dX8_publish_9 ?_
  refine a_callV C (pc := 12) (av := [.ref (d0 3), .ref hdr]) (wr := [(h0, oX8 d0 hdr v_ticks), ((d0 5), oX3 d_generations v_generations_latest), ((d_generations 1), aI cs 3 v_generations_number), ((d_generations 3), aI cs 4 v_generations_held), ((d_generations 0), aQ cs 3 v_generations_kept)]) (m_X5_read Lx Dx cs 6650 (d0 4) (d0 3) hdr d_file d_draft d_indexFile d_indexFile_gaps d_indexFile_proof v_file_size v_file_place v_file_row v_draft_bits v_draft_documents v_draft_terms v_draft_segments v_draft_postings v_draft_term v_draft_firstSegment v_indexFile_gaps_many v_indexFile_gaps_gap v_draft_impact v_draft_firstPosting v_draft_document v_indexFile_proof_size v_indexFile_proof_place v_indexFile_proof_row _ h) [1, 2, 3, 4, 5, 6, 7, 8, 9, 10, 11, 12, 13] [0, 14, 15, 16, 17] rfl rfl (by decide) (by decide) (by decide) wM_X8_151 wb_X5_read hy_X5_read (q0 := 6) rfl rfl rfl ⟨Nat.le_of_ble_eq_true rfl, Nat.le_of_ble_eq_true rfl⟩ (Nat.le_of_ble_eq_true rfl) (Nat.le_of_ble_eq_true rfl) (Nat.le_of_ble_eq_true rfl) rfl dX8_publish_12 (fun v w1 hw => ?_) [] rfl (fun _ _ h => h.elim)
  obtain ⟨r_1, v_file_place_2, v_draft_bits_3, v_draft_documents_4, v_draft_terms_5, v_draft_segments_6, v_draft_postings_7, v_draft_term_8, v_draft_firstSegment_9, v_indexFile_gaps_many_10, v_indexFile_gaps_gap_11, v_draft_impact_12, v_draft_firstPosting_13, v_draft_document_14, v_indexFile_proof_size_15, v_indexFile_proof_row_16, rfl, rfl, h⟩ := hw
  refine a_ws (st1 := [.int r_1]) (ws1 := [(h0, oX8 d0 hdr v_ticks), ((d0 3), oX0 d_file v_file_size v_file_place_2), ((d_file 0), aB cs 6650 v_file_row), (hdr, oX4 d_draft v_draft_bits_3 v_draft_documents_4 v_draft_terms_5 v_draft_segments_6 v_draft_postings_7), ((d_draft 0), aJ cs 64 v_draft_term_8), ((d_draft 1), aI cs 65 v_draft_firstSegment_9), ((d0 4), oX5 d_indexFile), ((d_indexFile 0), oX2 d_indexFile_gaps v_indexFile_gaps_many_10), ((d_indexFile_gaps 0), aI cs 40 v_indexFile_gaps_gap_11), ((d_draft 2), aI cs 600 v_draft_impact_12), ((d_draft 3), aI cs 601 v_draft_firstPosting_13), ((d_draft 4), aI cs 600 v_draft_document_14), ((d_indexFile 1), oX0 d_indexFile_proof v_indexFile_proof_size_15 v_indexFile_proof_place), ((d_indexFile_proof 0), aB cs 6650 v_indexFile_proof_row_16), ((d0 5), oX3 d_generations v_generations_latest), ((d_generations 1), aI cs 3 v_generations_number), ((d_generations 3), aI cs 4 v_generations_held), ((d_generations 0), aQ cs 3 v_generations_kept)]) 0 0 15 [0, 5, 6, 7, 8, 9, 10, 11, 12, 13, 14, 15, 16, 17, 1, 2, 3, 4] rfl rfl rfl rfl (by decide) rfl ?_
  refine a_if_ne C (pc := 15) 26 dX8_publish_15 (by decide) (fun hc => ?_) (fun hc => ?_)
  · have h := h.1 hc
    refine a_aload_n C (pc := 26) 0 dX8_publish_26 rfl rfl ?_
    refine a_get C (pc := 27) 0 5 inW_X8 rfl rfl (Nat.le_of_ble_eq_true rfl) wF_X8_45 rfl rfl dX8_publish_27 ?_
    refine a_callV C (pc := 30) (av := []) (wr := [(h0, oX8 d0 hdr v_ticks), ((d0 3), oX0 d_file v_file_size v_file_place_2), ((d_file 0), aB cs 6650 v_file_row), (hdr, oX4 d_draft v_draft_bits_3 v_draft_documents_4 v_draft_terms_5 v_draft_segments_6 v_draft_postings_7), ((d_draft 0), aJ cs 64 v_draft_term_8), ((d_draft 1), aI cs 65 v_draft_firstSegment_9), ((d0 4), oX5 d_indexFile), ((d_indexFile 0), oX2 d_indexFile_gaps v_indexFile_gaps_many_10), ((d_indexFile_gaps 0), aI cs 40 v_indexFile_gaps_gap_11), ((d_draft 2), aI cs 600 v_draft_impact_12), ((d_draft 3), aI cs 601 v_draft_firstPosting_13), ((d_draft 4), aI cs 600 v_draft_document_14), ((d_indexFile 1), oX0 d_indexFile_proof v_indexFile_proof_size_15 v_indexFile_proof_place), ((d_indexFile_proof 0), aB cs 6650 v_indexFile_proof_row_16), ((d_generations 0), aQ cs 3 v_generations_kept)]) (m_X3_placeForNext Lx Dx cs (d0 5) d_generations v_generations_latest v_generations_number v_generations_held _ h) [14, 15, 16] [0, 1, 2, 3, 4, 5, 6, 7, 8, 9, 10, 11, 12, 13, 17] rfl rfl (by decide) (by decide) (by decide) wM_X8_155 wb_X3_placeForNext hy_X3_placeForNext (q0 := 14) rfl rfl rfl ⟨Nat.le_of_ble_eq_true rfl, Nat.le_of_ble_eq_true rfl⟩ (Nat.le_of_ble_eq_true rfl) (Nat.le_of_ble_eq_true rfl) (Nat.le_of_ble_eq_true rfl) rfl dX8_publish_30 (fun v w1 hw => ?_) [] rfl (fun _ _ h => h.elim)
    obtain ⟨r_17, rfl, rfl, h⟩ := hw
    refine a_ws (st1 := [.int r_17]) (ws1 := [(h0, oX8 d0 hdr v_ticks), ((d0 3), oX0 d_file v_file_size v_file_place_2), ((d_file 0), aB cs 6650 v_file_row), (hdr, oX4 d_draft v_draft_bits_3 v_draft_documents_4 v_draft_terms_5 v_draft_segments_6 v_draft_postings_7), ((d_draft 0), aJ cs 64 v_draft_term_8), ((d_draft 1), aI cs 65 v_draft_firstSegment_9), ((d0 4), oX5 d_indexFile), ((d_indexFile 0), oX2 d_indexFile_gaps v_indexFile_gaps_many_10), ((d_indexFile_gaps 0), aI cs 40 v_indexFile_gaps_gap_11), ((d_draft 2), aI cs 600 v_draft_impact_12), ((d_draft 3), aI cs 601 v_draft_firstPosting_13), ((d_draft 4), aI cs 600 v_draft_document_14), ((d_indexFile 1), oX0 d_indexFile_proof v_indexFile_proof_size_15 v_indexFile_proof_place), ((d_indexFile_proof 0), aB cs 6650 v_indexFile_proof_row_16), ((d0 5), oX3 d_generations v_generations_latest), ((d_generations 1), aI cs 3 v_generations_number), ((d_generations 3), aI cs 4 v_generations_held), ((d_generations 0), aQ cs 3 v_generations_kept)]) 0 0 33 [0, 1, 2, 3, 4, 5, 6, 7, 8, 9, 10, 11, 12, 13, 15, 16, 17, 14] rfl rfl rfl rfl (by decide) rfl ?_
    refine a_istore_n C (pc := 33) (lv1 := [(0, .ref h0), (1, .int r_17)]) [1, 0] dX8_publish_33 rfl (by decide) rfl ?_
    refine a_iload_n C (pc := 34) 1 dX8_publish_34 rfl rfl ?_
    refine a_if_ge C (pc := 35) 46 dX8_publish_35 (by decide) (fun hc => ?_) (fun hc => ?_)
    · have h := h.1 hc
      refine a_aload_n C (pc := 46) 0 dX8_publish_46 rfl rfl ?_
      refine a_aload_n C (pc := 47) 0 dX8_publish_47 rfl rfl ?_
      refine a_get C (pc := 48) 0 5 inW_X8 rfl rfl (Nat.le_of_ble_eq_true rfl) wF_X8_45 rfl rfl dX8_publish_48 ?_
      refine a_iload_n C (pc := 51) 1 dX8_publish_51 rfl rfl ?_
      refine a_aload_n C (pc := 52) 0 dX8_publish_52 rfl rfl ?_
      refine a_get C (pc := 53) 0 7 inW_X8 rfl rfl (Nat.le_of_ble_eq_true rfl) wF_X8_59 rfl rfl dX8_publish_53 ?_
      refine a_callV C (pc := 56) (av := [.int r_17, .ref hdr]) (wr := [(h0, oX8 d0 hdr v_ticks), ((d0 3), oX0 d_file v_file_size v_file_place_2), ((d_file 0), aB cs 6650 v_file_row), ((d_draft 0), aJ cs 64 v_draft_term_8), ((d_draft 1), aI cs 65 v_draft_firstSegment_9), ((d0 4), oX5 d_indexFile), ((d_indexFile 0), oX2 d_indexFile_gaps v_indexFile_gaps_many_10), ((d_indexFile_gaps 0), aI cs 40 v_indexFile_gaps_gap_11), ((d_draft 2), aI cs 600 v_draft_impact_12), ((d_draft 3), aI cs 601 v_draft_firstPosting_13), ((d_draft 4), aI cs 600 v_draft_document_14), ((d_indexFile 1), oX0 d_indexFile_proof v_indexFile_proof_size_15 v_indexFile_proof_place), ((d_indexFile_proof 0), aB cs 6650 v_indexFile_proof_row_16), ((d_generations 3), aI cs 4 v_generations_held)]) (m_X3_install Lx Dx cs (d0 5) hdr d_generations d_draft v_generations_latest v_generations_kept v_draft_bits_3 v_draft_documents_4 v_draft_terms_5 v_draft_segments_6 v_draft_postings_7 v_generations_number r_17 _ h) [14, 17, 3, 15] [0, 1, 2, 4, 5, 6, 7, 8, 9, 10, 11, 12, 13, 16] rfl rfl (by decide) (by decide) (by decide) wM_X8_158 wb_X3_install hy_X3_install (q0 := 14) rfl rfl rfl ⟨Nat.le_of_ble_eq_true rfl, Nat.le_of_ble_eq_true rfl⟩ (Nat.le_of_ble_eq_true rfl) (Nat.le_of_ble_eq_true rfl) (Nat.le_of_ble_eq_true rfl) rfl dX8_publish_56 (fun v w1 hw => ?_) [] rfl (fun _ _ h => h.elim)
      obtain ⟨r_18, v_generations_latest_19, v_generations_kept_20, v_generations_number_21, rfl, rfl, h⟩ := hw
      refine a_ws (st1 := [.ref r_18, .ref h0]) (ws1 := [(h0, oX8 d0 hdr v_ticks), ((d0 3), oX0 d_file v_file_size v_file_place_2), ((d_file 0), aB cs 6650 v_file_row), (hdr, oX4 d_draft v_draft_bits_3 v_draft_documents_4 v_draft_terms_5 v_draft_segments_6 v_draft_postings_7), ((d_draft 0), aJ cs 64 v_draft_term_8), ((d_draft 1), aI cs 65 v_draft_firstSegment_9), ((d0 4), oX5 d_indexFile), ((d_indexFile 0), oX2 d_indexFile_gaps v_indexFile_gaps_many_10), ((d_indexFile_gaps 0), aI cs 40 v_indexFile_gaps_gap_11), ((d_draft 2), aI cs 600 v_draft_impact_12), ((d_draft 3), aI cs 601 v_draft_firstPosting_13), ((d_draft 4), aI cs 600 v_draft_document_14), ((d_indexFile 1), oX0 d_indexFile_proof v_indexFile_proof_size_15 v_indexFile_proof_place), ((d_indexFile_proof 0), aB cs 6650 v_indexFile_proof_row_16), ((d0 5), oX3 d_generations v_generations_latest_19), ((d_generations 1), aI cs 3 v_generations_number_21), ((d_generations 3), aI cs 4 v_generations_held), ((d_generations 0), aQ cs 3 v_generations_kept_20)]) 0 0 59 [0, 1, 2, 16, 3, 4, 5, 6, 7, 8, 9, 10, 11, 12, 14, 17, 13, 15] rfl rfl rfl rfl (by decide) rfl ?_
      refine a_put C (pc := 59) (ws1 := [(h0, oX8 d0 r_18 v_ticks), ((d0 3), oX0 d_file v_file_size v_file_place_2), ((d_file 0), aB cs 6650 v_file_row), (hdr, oX4 d_draft v_draft_bits_3 v_draft_documents_4 v_draft_terms_5 v_draft_segments_6 v_draft_postings_7), ((d_draft 0), aJ cs 64 v_draft_term_8), ((d_draft 1), aI cs 65 v_draft_firstSegment_9), ((d0 4), oX5 d_indexFile), ((d_indexFile 0), oX2 d_indexFile_gaps v_indexFile_gaps_many_10), ((d_indexFile_gaps 0), aI cs 40 v_indexFile_gaps_gap_11), ((d_draft 2), aI cs 600 v_draft_impact_12), ((d_draft 3), aI cs 601 v_draft_firstPosting_13), ((d_draft 4), aI cs 600 v_draft_document_14), ((d_indexFile 1), oX0 d_indexFile_proof v_indexFile_proof_size_15 v_indexFile_proof_place), ((d_indexFile_proof 0), aB cs 6650 v_indexFile_proof_row_16), ((d0 5), oX3 d_generations v_generations_latest_19), ((d_generations 1), aI cs 3 v_generations_number_21), ((d_generations 3), aI cs 4 v_generations_held), ((d_generations 0), aQ cs 3 v_generations_kept_20)]) 0 7 inW_X8 tyX8 tyX8_ok nmX8 rfl rfl (Nat.le_of_ble_eq_true rfl) wF_X8_59 rfl rfl rfl rfl rfl (Nat.le_of_ble_eq_true rfl) dX8_publish_59 rfl ?_
      refine a_aload_n C (pc := 62) 0 dX8_publish_62 rfl rfl ?_
      refine a_get C (pc := 63) 0 5 inW_X8 rfl rfl (Nat.le_of_ble_eq_true rfl) wF_X8_45 rfl rfl dX8_publish_63 ?_
      refine a_get C (pc := 66) 14 4 inW_X3 rfl rfl (Nat.le_of_ble_eq_true rfl) wF_X8_162 rfl rfl dX8_publish_66 ?_
      exact a_ireturn C (pc := 69) rfl dX8_publish_69 (Nat.le_of_ble_eq_true rfl) (Nat.le_of_ble_eq_true rfl) ⟨_, _, _, _, _, _, _, _, _, _, _, _, _, _, _, _, _, _, _, _, rfl, rfl, h⟩
    · have h := h.2 hc
      exact a_throw C (pc := 38) (by decide +kernel) wK_X8_74 wI_IllegalStateException atg_X8_76 atn_X8_76 (by decide +kernel) dX8_publish_38 dX8_publish_41 dX8_publish_42 dX8_publish_45 (Nat.le_of_ble_eq_true rfl) (Nat.le_of_ble_eq_true rfl) (Nat.le_of_ble_eq_true rfl) (Nat.le_of_ble_eq_true rfl) ⟨_, _, _, _, _, _, _, _, _, _, _, _, _, _, _, _, _, _, _, rfl, h⟩
  · have h := h.2 hc
    exact a_throw C (pc := 18) (by decide +kernel) wK_X8_67 wI_IllegalArgumentException atg_X8_69 atn_X8_69 (by decide +kernel) dX8_publish_18 dX8_publish_21 dX8_publish_22 dX8_publish_25 (Nat.le_of_ble_eq_true rfl) (Nat.le_of_ble_eq_true rfl) (Nat.le_of_ble_eq_true rfl) (Nat.le_of_ble_eq_true rfl) ⟨_, _, _, _, _, _, _, _, _, _, _, _, _, _, _, _, _, _, _, rfl, h⟩
set_option maxRecDepth 100000 in
set_option maxHeartbeats 4000000 in
theorem m_X8_requireReader (Lx : Launch) (Dx : va_G) (cs : Nat → ClassId) (h0 : Nat) (l1 : Int32) (Φ : Prop) (X : String → Prop) (h : P_X8_requireReader l1 Φ X) : XMet Lx Dx cs yX8_requireReader cX8_requireReader 2 none 6 85 1 6 [.ref h0, .int l1] [] (R_X8_requireReader cs h0 Φ) (Y_X8_requireReader cs h0 X) := by
  refine XMet.of (own := RX8) (nm := "requireReader") (by decide) rfl rfl (Nat.le_of_ble_eq_true rfl) (fun Γ C => ?_)
  unfold P_X8_requireReader at h
  refine a_iload_n C (pc := 0) 1 dX8_requireReader_0 rfl rfl ?_
  refine a_if_lt C (pc := 1) 9 dX8_requireReader_1 (by decide) (fun hc => ?_) (fun hc => ?_)
  · have h := h.1 hc
    exact a_throw C (pc := 9) (by decide +kernel) wK_X8_67 wI_IllegalArgumentException atg_X8_69 atn_X8_69 (by decide +kernel) dX8_requireReader_9 dX8_requireReader_12 dX8_requireReader_13 dX8_requireReader_16 (Nat.le_of_ble_eq_true rfl) (Nat.le_of_ble_eq_true rfl) (Nat.le_of_ble_eq_true rfl) (Nat.le_of_ble_eq_true rfl) ⟨rfl, h⟩
  · have h := h.2 hc
    refine a_iload_n C (pc := 4) 1 dX8_requireReader_4 rfl rfl ?_
    refine a_iconst C (pc := 5) dX8_requireReader_5 ic_4 ?_
    refine a_icmp_lt C (pc := 6) 17 dX8_requireReader_6 (by decide) (fun hc => ?_) (fun hc => ?_)
    · have h := h.1 hc
      exact a_return C (pc := 17) rfl dX8_requireReader_17 (Nat.le_of_ble_eq_true rfl) (Nat.le_of_ble_eq_true rfl) ⟨rfl, rfl, h⟩
    · have h := h.2 hc
      exact a_throw C (pc := 9) (by decide +kernel) wK_X8_67 wI_IllegalArgumentException atg_X8_69 atn_X8_69 (by decide +kernel) dX8_requireReader_9 dX8_requireReader_12 dX8_requireReader_13 dX8_requireReader_16 (Nat.le_of_ble_eq_true rfl) (Nat.le_of_ble_eq_true rfl) (Nat.le_of_ble_eq_true rfl) (Nat.le_of_ble_eq_true rfl) ⟨rfl, h⟩
