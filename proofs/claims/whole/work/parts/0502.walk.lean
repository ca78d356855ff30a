set_option maxRecDepth 100000 in
set_option maxHeartbeats 4000000 in
theorem w_X2_bitsOfGreatest_4 {Γ : XG} {Lx : Launch} {Dx : va_G} {cs : Nat → ClassId} {h0 : Nat} {d0 : Nat → Nat} {v_many : Int32} {v_gap : Nat → Int32} {K_27 : Int32 → Prop} {Φ : Int32 → Prop} {k n9 : Nat} (C : CX Γ Lx Dx cs cX2_bitsOfGreatest RX2 "bitsOfGreatest" 3 (some .int) 0 0 0 0 (qEC cs 0 0 [] (R_X2_bitsOfGreatest cs h0 d0 v_many v_gap Φ) (fun _ _ => False))) (hkm : k ≤ 0) (hnm : n9 ≤ 0) : ∀ n : Nat, ∀ (l1 : Int32) (l2 : Int32), L_X2_bitsOfGreatest_4 n v_many v_gap l1 l2 K_27 Φ → (∀ (l1_1 : Int32), K_27 l1_1 → AW Γ k n9 27 [(1, .int l1_1)] [] [(h0, oX2 d0 v_many), ((d0 0), aI cs 40 v_gap)]) → AW Γ k n9 4 [(0, .ref h0), (1, .int l1), (2, .int l2)] [] [(h0, oX2 d0 v_many), ((d0 0), aI cs 40 v_gap)] := by
  intro n
  induction n with
  | zero =>
    intro l1 l2 h
    exact False.elim h
  | succ n ih =>
    intro l1 l2 h hK_27
    rw [L_X2_bitsOfGreatest_4] at h
    refine a_iload_n C (pc := 4) 2 dX2_bitsOfGreatest_4 rfl rfl ?_
    refine a_aload_n C (pc := 5) 0 dX2_bitsOfGreatest_5 rfl rfl ?_
    refine a_get C (pc := 6) 0 1 inW_X2 rfl rfl (Nat.le_of_ble_eq_true rfl) wF_X2_15 rfl rfl dX2_bitsOfGreatest_6 ?_
    refine a_icmp_ge C (pc := 9) 27 dX2_bitsOfGreatest_9 (by decide) (fun hc => ?_) (fun hc => ?_)
    · have h := h.1 hc
      refine a_lv (lv1 := [(1, .int l1)]) [1] rfl ?_
      exact hK_27 l1 h
    · have h := h.2 hc
      refine a_iload_n C (pc := 12) 1 dX2_bitsOfGreatest_12 rfl rfl ?_
      refine a_aload_n C (pc := 13) 0 dX2_bitsOfGreatest_13 rfl rfl ?_
      refine a_get C (pc := 14) 0 0 inW_X2 rfl rfl (Nat.le_of_ble_eq_true rfl) wF_X2_9 rfl rfl dX2_bitsOfGreatest_14 ?_
      refine a_iload_n C (pc := 17) 2 dX2_bitsOfGreatest_17 rfl rfl ?_
      refine a_iald C (pc := 18) 1 rfl h.1 dX2_bitsOfGreatest_18 ?_
      replace h := h.2
      refine a_ior C (pc := 19) dX2_bitsOfGreatest_19 ?_
      refine a_istore_n C (pc := 20) (lv1 := [(0, .ref h0), (1, .int (l1 ||| (v_gap (l2 : Int32).toNatClampNeg))), (2, .int l2)]) [1, 0, 2] dX2_bitsOfGreatest_20 rfl (by decide) rfl ?_
      refine a_iinc C (pc := 21) (lv1 := [(0, .ref h0), (1, .int (l1 ||| (v_gap (l2 : Int32).toNatClampNeg))), (2, .int (l2 + 1))]) 2 [1, 2, 0] dX2_bitsOfGreatest_21 rfl (congrArg (fun z => l2 + z) ic_1) (by decide) rfl ?_
      refine a_goto C (pc := 24) 4 dX2_bitsOfGreatest_24 (by decide) ?_
      exact ih (l1 ||| (v_gap (l2 : Int32).toNatClampNeg)) (l2 + 1) h hK_27
set_option maxRecDepth 100000 in
set_option maxHeartbeats 4000000 in
theorem w_X2_bitsOfGreatest_29 {Γ : XG} {Lx : Launch} {Dx : va_G} {cs : Nat → ClassId} {h0 : Nat} {d0 : Nat → Nat} {v_many : Int32} {v_gap : Nat → Int32} {K_47 : Int32 → Prop} {Φ : Int32 → Prop} {k n9 : Nat} (C : CX Γ Lx Dx cs cX2_bitsOfGreatest RX2 "bitsOfGreatest" 3 (some .int) 0 0 0 0 (qEC cs 0 0 [] (R_X2_bitsOfGreatest cs h0 d0 v_many v_gap Φ) (fun _ _ => False))) (hkm : k ≤ 0) (hnm : n9 ≤ 0) : ∀ n : Nat, ∀ (l1 : Int32) (l2 : Int32), L_X2_bitsOfGreatest_29 n v_many v_gap l1 l2 K_47 Φ → (∀ (l2_3 : Int32), K_47 l2_3 → AW Γ k n9 47 [(2, .int l2_3)] [] [(h0, oX2 d0 v_many), ((d0 0), aI cs 40 v_gap)]) → AW Γ k n9 29 [(1, .int l1), (2, .int l2)] [] [(h0, oX2 d0 v_many), ((d0 0), aI cs 40 v_gap)] := by
  intro n
  induction n with
  | zero =>
    intro l1 l2 h
    exact False.elim h
  | succ n ih =>
    intro l1 l2 h hK_47
    rw [L_X2_bitsOfGreatest_29] at h
    refine a_iload_n C (pc := 29) 1 dX2_bitsOfGreatest_29 rfl rfl ?_
    refine a_bipush C (pc := 30) dX2_bitsOfGreatest_30 bp_31 ?_
    refine a_icmp_ge C (pc := 32) 47 dX2_bitsOfGreatest_32 (by decide) (fun hc => ?_) (fun hc => ?_)
    · have h := h.1 hc
      refine a_lv (lv1 := [(2, .int l2)]) [1] rfl ?_
      exact hK_47 l2 h
    · have h := h.2 hc
      refine a_iload_n C (pc := 35) 0 dX2_bitsOfGreatest_35 rfl rfl ?_
      refine a_iload_n C (pc := 36) 1 dX2_bitsOfGreatest_36 rfl rfl ?_
      refine a_ishr C (pc := 37) dX2_bitsOfGreatest_37 ?_
      refine a_if_eq C (pc := 38) 47 dX2_bitsOfGreatest_38 (by decide) (fun hc => ?_) (fun hc => ?_)
      · have h := h.1 hc
        refine a_lv (lv1 := [(2, .int l2)]) [1] rfl ?_
        exact hK_47 l2 h
      · have h := h.2 hc
        refine a_iinc C (pc := 41) (lv1 := [(1, .int l1), (2, .int (l2 + 1))]) 1 [1, 0] dX2_bitsOfGreatest_41 rfl (congrArg (fun z => l2 + z) ic_1) (by decide) rfl ?_
        refine a_goto C (pc := 44) 29 dX2_bitsOfGreatest_44 (by decide) ?_
        exact ih l1 (l2 + 1) h hK_47
set_option maxRecDepth 100000 in
set_option maxHeartbeats 4000000 in
theorem m_X2_bitsOfGreatest (Lx : Launch) (Dx : va_G) (cs : Nat → ClassId) (h0 : Nat) (d0 : Nat → Nat) (v_many : Int32) (v_gap : Nat → Int32) (Φ : Int32 → Prop) (h : P_X2_bitsOfGreatest v_many v_gap Φ) : XMet Lx Dx cs yX2_bitsOfGreatest cX2_bitsOfGreatest 3 (some .int) 0 0 0 0 [.ref h0] [(h0, oX2 d0 v_many), ((d0 0), aI cs 40 v_gap)] (R_X2_bitsOfGreatest cs h0 d0 v_many v_gap Φ) (fun _ _ => False) := by
  refine XMet.of (own := RX2) (nm := "bitsOfGreatest") (by decide) rfl rfl (Nat.le_of_ble_eq_true rfl) (fun Γ C => ?_)
  unfold P_X2_bitsOfGreatest at h
  refine a_iconst C (pc := 0) dX2_bitsOfGreatest_0 ic_0 ?_
  refine a_istore_n C (pc := 1) (lv1 := [(0, .ref h0), (1, .int 0)]) [1, 0] dX2_bitsOfGreatest_1 rfl (by decide) rfl ?_
  refine a_iconst C (pc := 2) dX2_bitsOfGreatest_2 ic_0 ?_
  refine a_istore_n C (pc := 3) (lv1 := [(0, .ref h0), (1, .int 0), (2, .int 0)]) [1, 2, 0] dX2_bitsOfGreatest_3 rfl (by decide) rfl ?_
  obtain ⟨n0, h⟩ := h
  refine w_X2_bitsOfGreatest_4 C (Nat.le_of_ble_eq_true rfl) (Nat.le_of_ble_eq_true rfl) n0 0 0 h ?_
  intro l1_2 h
  refine a_iconst C (pc := 27) dX2_bitsOfGreatest_27 ic_0 ?_
  refine a_istore_n C (pc := 28) (lv1 := [(1, .int l1_2), (2, .int 0)]) [1, 0] dX2_bitsOfGreatest_28 rfl (by decide) rfl ?_
  obtain ⟨n0, h⟩ := h
  refine w_X2_bitsOfGreatest_29 C (Nat.le_of_ble_eq_true rfl) (Nat.le_of_ble_eq_true rfl) n0 l1_2 0 h ?_
  intro l2_4 h
  refine a_iload_n C (pc := 47) 0 dX2_bitsOfGreatest_47 rfl rfl ?_
  exact a_ireturn C (pc := 48) rfl dX2_bitsOfGreatest_48 (Nat.le_of_ble_eq_true rfl) (Nat.le_of_ble_eq_true rfl) ⟨_, rfl, rfl, h⟩
set_option maxRecDepth 100000 in
set_option maxHeartbeats 4000000 in
theorem w_X2_writeEven_18 {Γ : XG} {Lx : Launch} {Dx : va_G} {cs : Nat → ClassId} {n_a1_row : Nat} {h0 : Nat} {h1 : Nat} {d0 : Nat → Nat} {d1 : Nat → Nat} {v_many : Int32} {v_gap : Nat → Int32} {v_a1_place : Int32} {K_72 : Int32 → (Nat → Int32) → Int32 → Int32 → Prop} {Φ : Int32 → (Nat → Int32) → Prop} {k n9 : Nat} (C : CX Γ Lx Dx cs cX2_writeEven RX2 "writeEven" 6 none 1 22 0 0 (qEC cs 0 0 [] (R_X2_writeEven cs n_a1_row h0 h1 d0 d1 v_many v_gap v_a1_place Φ) (fun _ _ => False))) (hkm : k ≤ 0) (hnm : n9 ≤ 0) : ∀ n : Nat, ∀ (v_a1_size : Int32) (v_a1_row : Nat → Int32) (l2 : Int32) (l3 : Int32) (l4 : Int32) (l5 : Int32), L_X2_writeEven_18 n n_a1_row v_many v_gap v_a1_size v_a1_row l2 l3 l4 l5 K_72 Φ → (∀ (v_a1_size_6 : Int32) (v_a1_row_7 : Nat → Int32) (l3_8 : Int32) (l4_9 : Int32), K_72 v_a1_size_6 v_a1_row_7 l3_8 l4_9 → AW Γ k n9 72 [(1, .ref h1), (3, .int l3_8), (4, .int l4_9)] [] [(h0, oX2 d0 v_many), ((d0 0), aI cs 40 v_gap), (h1, oX0 d1 v_a1_size_6 v_a1_place), ((d1 0), aB cs n_a1_row v_a1_row_7)]) → AW Γ k n9 18 [(0, .ref h0), (1, .ref h1), (2, .int l2), (3, .int l3), (4, .int l4), (5, .int l5)] [] [(h0, oX2 d0 v_many), ((d0 0), aI cs 40 v_gap), (h1, oX0 d1 v_a1_size v_a1_place), ((d1 0), aB cs n_a1_row v_a1_row)] := by
  intro n
  induction n with
  | zero =>
    intro v_a1_size v_a1_row l2 l3 l4 l5 h
    exact False.elim h
  | succ n ih =>
    intro v_a1_size v_a1_row l2 l3 l4 l5 h hK_72
    rw [L_X2_writeEven_18] at h
    refine a_iload C (pc := 18) 5 dX2_writeEven_18 rfl ?_
    refine a_aload_n C (pc := 20) 0 dX2_writeEven_20 rfl rfl ?_
    refine a_get C (pc := 21) 0 1 inW_X2 rfl rfl (Nat.le_of_ble_eq_true rfl) wF_X2_15 rfl rfl dX2_writeEven_21 ?_
    refine a_icmp_ge C (pc := 24) 72 dX2_writeEven_24 (by decide) (fun hc => ?_) (fun hc => ?_)
    · have h := h.1 hc
      refine a_lv (lv1 := [(1, .ref h1), (3, .int l3), (4, .int l4)]) [1, 3, 4] rfl ?_
      exact hK_72 v_a1_size v_a1_row l3 l4 h
    · have h := h.2 hc
      refine a_iload_n C (pc := 27) 3 dX2_writeEven_27 rfl rfl ?_
      refine a_aload_n C (pc := 28) 0 dX2_writeEven_28 rfl rfl ?_
      refine a_get C (pc := 29) 0 0 inW_X2 rfl rfl (Nat.le_of_ble_eq_true rfl) wF_X2_9 rfl rfl dX2_writeEven_29 ?_
      refine a_iload C (pc := 32) 5 dX2_writeEven_32 rfl ?_
      refine a_iald C (pc := 34) 1 rfl h.1 dX2_writeEven_34 ?_
      replace h := h.2
      refine a_iload C (pc := 35) 4 dX2_writeEven_35 rfl ?_
      refine a_ishl C (pc := 37) dX2_writeEven_37 ?_
      refine a_ior C (pc := 38) dX2_writeEven_38 ?_
      refine a_istore_n C (pc := 39) (lv1 := [(0, .ref h0), (1, .ref h1), (2, .int l2), (3, .int (l3 ||| ((v_gap (l5 : Int32).toNatClampNeg) <<< (l4 &&& 31)))), (4, .int l4), (5, .int l5)]) [1, 2, 3, 0, 4, 5] dX2_writeEven_39 rfl (by decide) rfl ?_
      refine a_iload C (pc := 40) 4 dX2_writeEven_40 rfl ?_
      refine a_iload_n C (pc := 42) 2 dX2_writeEven_42 rfl rfl ?_
      refine a_iadd C (pc := 43) dX2_writeEven_43 ?_
      refine a_istore C (pc := 44) (lv1 := [(0, .ref h0), (1, .ref h1), (2, .int l2), (3, .int (l3 ||| ((v_gap (l5 : Int32).toNatClampNeg) <<< (l4 &&& 31)))), (4, .int (l4 + l2)), (5, .int l5)]) [1, 2, 3, 4, 0, 5] dX2_writeEven_44 (by decide) rfl ?_
      refine a_iload C (pc := 46) 4 dX2_writeEven_46 rfl ?_
      refine a_bipush C (pc := 48) dX2_writeEven_48 bp_8 ?_
      refine a_icmp_lt C (pc := 50) 66 dX2_writeEven_50 (by decide) (fun hc => ?_) (fun hc => ?_)
      · have h := h.1 hc
        refine a_iinc C (pc := 66) (lv1 := [(0, .ref h0), (1, .ref h1), (2, .int l2), (3, .int (l3 ||| ((v_gap (l5 : Int32).toNatClampNeg) <<< (l4 &&& 31)))), (4, .int (l4 + l2)), (5, .int (l5 + 1))]) 5 [1, 2, 3, 4, 5, 0] dX2_writeEven_66 rfl (congrArg (fun z => l5 + z) ic_1) (by decide) rfl ?_
        refine a_goto C (pc := 69) 18 dX2_writeEven_69 (by decide) ?_
        exact ih v_a1_size v_a1_row l2 (l3 ||| ((v_gap (l5 : Int32).toNatClampNeg) <<< (l4 &&& 31))) (l4 + l2) (l5 + 1) h hK_72
      · have h := h.2 hc
        refine a_aload_n C (pc := 53) 1 dX2_writeEven_53 rfl rfl ?_
        refine a_iload_n C (pc := 54) 3 dX2_writeEven_54 rfl rfl ?_
        refine a_callV C (pc := 55) (av := [.int (l3 ||| ((v_gap (l5 : Int32).toNatClampNeg) <<< (l4 &&& 31)))]) (wr := [(h0, oX2 d0 v_many), ((d0 0), aI cs 40 v_gap)]) (m_X0_put Lx Dx cs n_a1_row h1 d1 v_a1_size v_a1_place v_a1_row (l3 ||| ((v_gap (l5 : Int32).toNatClampNeg) <<< (l4 &&& 31))) _ h) [2, 3] [0, 1] rfl rfl (by decide) (by decide) (by decide) wM_X2_57 wb_X0_put hy_X0_put (q0 := 2) rfl rfl rfl ⟨Nat.le_of_ble_eq_true rfl, Nat.le_of_ble_eq_true rfl⟩ (Nat.le_of_ble_eq_true rfl) hkm hnm rfl dX2_writeEven_55 (fun v w1 hw => ?_) [] rfl (fun _ _ h => h.elim)
        obtain ⟨v_a1_size_4, v_a1_row_5, rfl, rfl, h⟩ := hw
        refine a_ws (st1 := []) (ws1 := [(h0, oX2 d0 v_many), ((d0 0), aI cs 40 v_gap), (h1, oX0 d1 v_a1_size_4 v_a1_place), ((d1 0), aB cs n_a1_row v_a1_row_5)]) k n9 58 [0, 1, 2, 3] rfl rfl rfl rfl (by decide) rfl ?_
        refine a_iload_n C (pc := 58) 3 dX2_writeEven_58 rfl rfl ?_
        refine a_bipush C (pc := 59) dX2_writeEven_59 bp_8 ?_
        refine a_iushr C (pc := 61) dX2_writeEven_61 ?_
        refine a_istore_n C (pc := 62) (lv1 := [(0, .ref h0), (1, .ref h1), (2, .int l2), (3, .int (((l3 ||| ((v_gap (l5 : Int32).toNatClampNeg) <<< (l4 &&& 31))).toUInt32 >>> ((8 : Int32).toUInt32 &&& Int32.toUInt32 31)).toInt32)), (4, .int (l4 + l2)), (5, .int l5)]) [1, 2, 3, 0, 4, 5] dX2_writeEven_62 rfl (by decide) rfl ?_
        refine a_iinc C (pc := 63) (lv1 := [(0, .ref h0), (1, .ref h1), (2, .int l2), (3, .int (((l3 ||| ((v_gap (l5 : Int32).toNatClampNeg) <<< (l4 &&& 31))).toUInt32 >>> ((8 : Int32).toUInt32 &&& Int32.toUInt32 31)).toInt32)), (4, .int ((l4 + l2) + (-8))), (5, .int l5)]) 4 [1, 2, 3, 4, 0, 5] dX2_writeEven_63 rfl (congrArg (fun z => (l4 + l2) + z) ic_m8) (by decide) rfl ?_
        refine a_iinc C (pc := 66) (lv1 := [(0, .ref h0), (1, .ref h1), (2, .int l2), (3, .int (((l3 ||| ((v_gap (l5 : Int32).toNatClampNeg) <<< (l4 &&& 31))).toUInt32 >>> ((8 : Int32).toUInt32 &&& Int32.toUInt32 31)).toInt32)), (4, .int ((l4 + l2) + (-8))), (5, .int (l5 + 1))]) 5 [1, 2, 3, 4, 5, 0] dX2_writeEven_66 rfl (congrArg (fun z => l5 + z) ic_1) (by decide) rfl ?_
        refine a_goto C (pc := 69) 18 dX2_writeEven_69 (by decide) ?_
        exact ih v_a1_size_4 v_a1_row_5 l2 (((l3 ||| ((v_gap (l5 : Int32).toNatClampNeg) <<< (l4 &&& 31))).toUInt32 >>> ((8 : Int32).toUInt32 &&& Int32.toUInt32 31)).toInt32) ((l4 + l2) + (-8)) (l5 + 1) h hK_72
set_option maxRecDepth 100000 in
set_option maxHeartbeats 4000000 in
theorem m_X2_writeEven (Lx : Launch) (Dx : va_G) (cs : Nat → ClassId) (n_a1_row : Nat) (h0 : Nat) (h1 : Nat) (d0 : Nat → Nat) (d1 : Nat → Nat) (v_many : Int32) (v_gap : Nat → Int32) (v_a1_size : Int32) (v_a1_place : Int32) (v_a1_row : Nat → Int32) (Φ : Int32 → (Nat → Int32) → Prop) (h : P_X2_writeEven n_a1_row v_many v_gap v_a1_size v_a1_row Φ) : XMet Lx Dx cs yX2_writeEven cX2_writeEven 6 none 1 22 0 0 [.ref h0, .ref h1] [(h0, oX2 d0 v_many), ((d0 0), aI cs 40 v_gap), (h1, oX0 d1 v_a1_size v_a1_place), ((d1 0), aB cs n_a1_row v_a1_row)] (R_X2_writeEven cs n_a1_row h0 h1 d0 d1 v_many v_gap v_a1_place Φ) (fun _ _ => False) := by
  refine XMet.of (own := RX2) (nm := "writeEven") (by decide) rfl rfl (Nat.le_of_ble_eq_true rfl) (fun Γ C => ?_)
  unfold P_X2_writeEven at h
  refine a_aload_n C (pc := 0) 0 dX2_writeEven_0 rfl rfl ?_
  refine a_callV C (pc := 1) (av := []) (wr := [(h1, oX0 d1 v_a1_size v_a1_place), ((d1 0), aB cs n_a1_row v_a1_row)]) (m_X2_bitsOfGreatest Lx Dx cs h0 d0 v_many v_gap _ h) [0, 1] [2, 3] rfl rfl (by decide) (by decide) (by decide) wM_X2_91 wb_X2_bitsOfGreatest hy_X2_bitsOfGreatest (q0 := 0) rfl rfl rfl ⟨Nat.le_of_ble_eq_true rfl, Nat.le_of_ble_eq_true rfl⟩ (Nat.le_of_ble_eq_true rfl) (Nat.le_of_ble_eq_true rfl) (Nat.le_of_ble_eq_true rfl) rfl dX2_writeEven_1 (fun v w1 hw => ?_) [] rfl (fun _ _ h => h.elim)
  obtain ⟨r_1, rfl, rfl, h⟩ := hw
  refine a_ws (st1 := [.int r_1]) (ws1 := [(h0, oX2 d0 v_many), ((d0 0), aI cs 40 v_gap), (h1, oX0 d1 v_a1_size v_a1_place), ((d1 0), aB cs n_a1_row v_a1_row)]) 0 0 4 [2, 3, 0, 1] rfl rfl rfl rfl (by decide) rfl ?_
  refine a_istore_n C (pc := 4) (lv1 := [(0, .ref h0), (1, .ref h1), (2, .int r_1)]) [1, 2, 0] dX2_writeEven_4 rfl (by decide) rfl ?_
  refine a_aload_n C (pc := 5) 1 dX2_writeEven_5 rfl rfl ?_
  refine a_iload_n C (pc := 6) 2 dX2_writeEven_6 rfl rfl ?_
  refine a_callV C (pc := 7) (av := [.int r_1]) (wr := [(h0, oX2 d0 v_many), ((d0 0), aI cs 40 v_gap)]) (m_X0_put Lx Dx cs n_a1_row h1 d1 v_a1_size v_a1_place v_a1_row r_1 _ h) [2, 3] [0, 1] rfl rfl (by decide) (by decide) (by decide) wM_X2_57 wb_X0_put hy_X0_put (q0 := 2) rfl rfl rfl ⟨Nat.le_of_ble_eq_true rfl, Nat.le_of_ble_eq_true rfl⟩ (Nat.le_of_ble_eq_true rfl) (Nat.le_of_ble_eq_true rfl) (Nat.le_of_ble_eq_true rfl) rfl dX2_writeEven_7 (fun v w1 hw => ?_) [] rfl (fun _ _ h => h.elim)
  obtain ⟨v_a1_size_2, v_a1_row_3, rfl, rfl, h⟩ := hw
  refine a_ws (st1 := []) (ws1 := [(h0, oX2 d0 v_many), ((d0 0), aI cs 40 v_gap), (h1, oX0 d1 v_a1_size_2 v_a1_place), ((d1 0), aB cs n_a1_row v_a1_row_3)]) 0 0 10 [0, 1, 2, 3] rfl rfl rfl rfl (by decide) rfl ?_
  refine a_iconst C (pc := 10) dX2_writeEven_10 ic_0 ?_
  refine a_istore_n C (pc := 11) (lv1 := [(0, .ref h0), (1, .ref h1), (2, .int r_1), (3, .int 0)]) [1, 2, 3, 0] dX2_writeEven_11 rfl (by decide) rfl ?_
  refine a_iconst C (pc := 12) dX2_writeEven_12 ic_0 ?_
  refine a_istore C (pc := 13) (lv1 := [(0, .ref h0), (1, .ref h1), (2, .int r_1), (3, .int 0), (4, .int 0)]) [1, 2, 3, 4, 0] dX2_writeEven_13 (by decide) rfl ?_
  refine a_iconst C (pc := 15) dX2_writeEven_15 ic_0 ?_
  refine a_istore C (pc := 16) (lv1 := [(0, .ref h0), (1, .ref h1), (2, .int r_1), (3, .int 0), (4, .int 0), (5, .int 0)]) [1, 2, 3, 4, 5, 0] dX2_writeEven_16 (by decide) rfl ?_
  obtain ⟨n0, h⟩ := h
  refine w_X2_writeEven_18 C (Nat.le_of_ble_eq_true rfl) (Nat.le_of_ble_eq_true rfl) n0 v_a1_size_2 v_a1_row_3 r_1 0 0 0 h ?_
  intro v_a1_size_10 v_a1_row_11 l3_12 l4_13 h
  refine a_iload C (pc := 72) 2 dX2_writeEven_72 rfl ?_
  refine a_if_le C (pc := 74) 82 dX2_writeEven_74 (by decide) (fun hc => ?_) (fun hc => ?_)
  · have h := h.1 hc
    exact a_return C (pc := 82) rfl dX2_writeEven_82 (Nat.le_of_ble_eq_true rfl) (Nat.le_of_ble_eq_true rfl) ⟨_, _, rfl, rfl, h⟩
  · have h := h.2 hc
    refine a_aload_n C (pc := 77) 0 dX2_writeEven_77 rfl rfl ?_
    refine a_iload_n C (pc := 78) 1 dX2_writeEven_78 rfl rfl ?_
    refine a_callV C (pc := 79) (av := [.int l3_12]) (wr := [(h0, oX2 d0 v_many), ((d0 0), aI cs 40 v_gap)]) (m_X0_put Lx Dx cs n_a1_row h1 d1 v_a1_size_10 v_a1_place v_a1_row_11 l3_12 _ h) [2, 3] [0, 1] rfl rfl (by decide) (by decide) (by decide) wM_X2_57 wb_X0_put hy_X0_put (q0 := 2) rfl rfl rfl ⟨Nat.le_of_ble_eq_true rfl, Nat.le_of_ble_eq_true rfl⟩ (Nat.le_of_ble_eq_true rfl) (Nat.le_of_ble_eq_true rfl) (Nat.le_of_ble_eq_true rfl) rfl dX2_writeEven_79 (fun v w1 hw => ?_) [] rfl (fun _ _ h => h.elim)
    obtain ⟨v_a1_size_14, v_a1_row_15, rfl, rfl, h⟩ := hw
    refine a_ws (st1 := []) (ws1 := [(h0, oX2 d0 v_many), ((d0 0), aI cs 40 v_gap), (h1, oX0 d1 v_a1_size_14 v_a1_place), ((d1 0), aB cs n_a1_row v_a1_row_15)]) 0 0 82 [0, 1, 2, 3] rfl rfl rfl rfl (by decide) rfl ?_
    exact a_return C (pc := 82) rfl dX2_writeEven_82 (Nat.le_of_ble_eq_true rfl) (Nat.le_of_ble_eq_true rfl) ⟨_, _, rfl, rfl, h⟩
set_option maxRecDepth 100000 in
set_option maxHeartbeats 4000000 in
theorem m_X2_write (Lx : Launch) (Dx : va_G) (cs : Nat → ClassId) (n_a2_row : Nat) (h0 : Nat) (h2 : Nat) (d0 : Nat → Nat) (d2 : Nat → Nat) (v_many : Int32) (v_gap : Nat → Int32) (v_a2_size : Int32) (v_a2_place : Int32) (v_a2_row : Nat → Int32) (l1 : Int32) (Φ : Int32 → (Nat → Int32) → Prop) (h : P_X2_write n_a2_row v_many v_gap v_a2_size v_a2_row l1 Φ) : XMet Lx Dx cs yX2_write cX2_write 3 none 3 72 0 0 [.ref h0, .int l1, .ref h2] [(h0, oX2 d0 v_many), ((d0 0), aI cs 40 v_gap), (h2, oX0 d2 v_a2_size v_a2_place), ((d2 0), aB cs n_a2_row v_a2_row)] (R_X2_write cs n_a2_row h0 h2 d0 d2 v_many v_gap v_a2_place Φ) (fun _ _ => False) := by
  refine XMet.of (own := RX2) (nm := "write") (by decide) rfl rfl (Nat.le_of_ble_eq_true rfl) (fun Γ C => ?_)
  unfold P_X2_write at h
  refine a_iload_n C (pc := 0) 1 dX2_write_0 rfl rfl ?_
  by_cases hc0 : l1 = 0
  · have h := h.1 hc0
    refine a_lookup C (pc := 1) (o := 27) 28 dX2_write_1 (by decide) (by rw [hc0] <;> rfl) (by decide) ?_
    refine a_aload_n C (pc := 28) 0 dX2_write_28 rfl rfl ?_
    refine a_aload_n C (pc := 29) 2 dX2_write_29 rfl rfl ?_
    refine a_callV C (pc := 30) (av := [.ref h2]) (wr := []) (m_X2_writeSevens Lx Dx cs n_a2_row h0 h2 d0 d2 v_many v_gap v_a2_size v_a2_place v_a2_row _ h) [0, 1, 2, 3] [] rfl rfl (by decide) (by decide) (by decide) wM_X2_37 wb_X2_writeSevens hy_X2_writeSevens (q0 := 0) rfl rfl rfl ⟨Nat.le_of_ble_eq_true rfl, Nat.le_of_ble_eq_true rfl⟩ (Nat.le_of_ble_eq_true rfl) (Nat.le_of_ble_eq_true rfl) (Nat.le_of_ble_eq_true rfl) rfl dX2_write_30 (fun v w1 hw => ?_) [] rfl (fun _ _ h => h.elim)
    obtain ⟨v_a2_size_1, v_a2_row_2, rfl, rfl, h⟩ := hw
    refine a_ws (st1 := []) (ws1 := [(h0, oX2 d0 v_many), ((d0 0), aI cs 40 v_gap), (h2, oX0 d2 v_a2_size_1 v_a2_place), ((d2 0), aB cs n_a2_row v_a2_row_2)]) 0 0 33 [0, 1, 2, 3] rfl rfl rfl rfl (by decide) rfl ?_
    refine a_goto C (pc := 33) 49 dX2_write_33 (by decide) ?_
    exact a_return C (pc := 49) rfl dX2_write_49 (Nat.le_of_ble_eq_true rfl) (Nat.le_of_ble_eq_true rfl) ⟨_, _, rfl, rfl, h⟩
  · by_cases hc1 : l1 = 1
    · have h := h.2.1 hc1
      refine a_lookup C (pc := 1) (o := 35) 36 dX2_write_1 (by decide) (by rw [hc1] <;> rfl) (by decide) ?_
      refine a_aload_n C (pc := 36) 0 dX2_write_36 rfl rfl ?_
      refine a_aload_n C (pc := 37) 2 dX2_write_37 rfl rfl ?_
      refine a_callV C (pc := 38) (av := [.ref h2]) (wr := []) (m_X2_writeWords Lx Dx cs n_a2_row h0 h2 d0 d2 v_many v_gap v_a2_size v_a2_place v_a2_row _ h) [0, 1, 2, 3] [] rfl rfl (by decide) (by decide) (by decide) wM_X2_41 wb_X2_writeWords hy_X2_writeWords (q0 := 0) rfl rfl rfl ⟨Nat.le_of_ble_eq_true rfl, Nat.le_of_ble_eq_true rfl⟩ (Nat.le_of_ble_eq_true rfl) (Nat.le_of_ble_eq_true rfl) (Nat.le_of_ble_eq_true rfl) rfl dX2_write_38 (fun v w1 hw => ?_) [] rfl (fun _ _ h => h.elim)
      obtain ⟨v_a2_size_3, v_a2_row_4, rfl, rfl, h⟩ := hw
      refine a_ws (st1 := []) (ws1 := [(h0, oX2 d0 v_many), ((d0 0), aI cs 40 v_gap), (h2, oX0 d2 v_a2_size_3 v_a2_place), ((d2 0), aB cs n_a2_row v_a2_row_4)]) 0 0 41 [0, 1, 2, 3] rfl rfl rfl rfl (by decide) rfl ?_
      refine a_goto C (pc := 41) 49 dX2_write_41 (by decide) ?_
      exact a_return C (pc := 49) rfl dX2_write_49 (Nat.le_of_ble_eq_true rfl) (Nat.le_of_ble_eq_true rfl) ⟨_, _, rfl, rfl, h⟩
    · have h := h.2.2 hc0 hc1
      refine a_lookup C (pc := 1) (o := 43) 44 dX2_write_1 (by decide) ((lv_osw hc0 rfl).trans ((lv_osw hc1 rfl).trans rfl)) (by decide) ?_
      refine a_aload_n C (pc := 44) 0 dX2_write_44 rfl rfl ?_
      refine a_aload_n C (pc := 45) 2 dX2_write_45 rfl rfl ?_
      refine a_callV C (pc := 46) (av := [.ref h2]) (wr := []) (m_X2_writeEven Lx Dx cs n_a2_row h0 h2 d0 d2 v_many v_gap v_a2_size v_a2_place v_a2_row _ h) [0, 1, 2, 3] [] rfl rfl (by decide) (by decide) (by decide) wM_X2_44 wb_X2_writeEven hy_X2_writeEven (q0 := 0) rfl rfl rfl ⟨Nat.le_of_ble_eq_true rfl, Nat.le_of_ble_eq_true rfl⟩ (Nat.le_of_ble_eq_true rfl) (Nat.le_of_ble_eq_true rfl) (Nat.le_of_ble_eq_true rfl) rfl dX2_write_46 (fun v w1 hw => ?_) [] rfl (fun _ _ h => h.elim)
      obtain ⟨v_a2_size_5, v_a2_row_6, rfl, rfl, h⟩ := hw
      refine a_ws (st1 := []) (ws1 := [(h0, oX2 d0 v_many), ((d0 0), aI cs 40 v_gap), (h2, oX0 d2 v_a2_size_5 v_a2_place), ((d2 0), aB cs n_a2_row v_a2_row_6)]) 0 0 49 [0, 1, 2, 3] rfl rfl rfl rfl (by decide) rfl ?_
      exact a_return C (pc := 49) rfl dX2_write_49 (Nat.le_of_ble_eq_true rfl) (Nat.le_of_ble_eq_true rfl) ⟨_, _, rfl, rfl, h⟩
set_option maxRecDepth 100000 in
set_option maxHeartbeats 4000000 in
theorem w_X5_writeTerm_21 {Γ : XG} {Lx : Launch} {Dx : va_G} {cs : Nat → ClassId} {n_a4_row : Nat} {h0 : Nat} {h1 : Nat} {h4 : Nat} {d1 : Nat → Nat} {d4 : Nat → Nat} {d0 : Nat → Nat} {d_gaps : Nat → Nat} {v_a1_bits : Int32} {v_a1_documents : Int32} {v_a1_terms : Int32} {v_a1_segments : Int32} {v_a1_postings : Int32} {v_a1_term : Nat → Int64} {v_a4_place : Int32} {v_a1_firstSegment : Nat → Int32} {v_a1_impact : Nat → Int32} {v_a1_firstPosting : Nat → Int32} {v_a1_document : Nat → Int32} {K_50 : Int32 → (Nat → Int32) → Int32 → (Nat → Int32) → Int32 → Int32 → Prop} {Φ : Int32 → (Nat → Int32) → Int32 → (Nat → Int32) → Prop} {k n9 : Nat} (C : CX Γ Lx Dx cs cX5_writeTerm RX5 "writeTerm" 7 none 4 94 0 0 (qEC cs 0 0 [] (R_X5_writeTerm cs n_a4_row h0 h1 h4 d1 d4 d0 d_gaps v_a1_bits v_a1_documents v_a1_terms v_a1_segments v_a1_postings v_a1_term v_a4_place v_a1_firstSegment v_a1_impact v_a1_firstPosting v_a1_document Φ) (fun _ _ => False))) (hkm : k ≤ 0) (hnm : n9 ≤ 0) : ∀ n : Nat, ∀ (v_a4_size : Int32) (v_a4_row : Nat → Int32) (v_gaps_many : Int32) (v_gaps_gap : Nat → Int32) (l2 : Int32) (l3 : Int32) (l5 : Int32) (l6 : Int32), L_X5_writeTerm_21 n n_a4_row v_a1_term v_a4_size v_a4_row v_a1_firstSegment v_a1_impact v_a1_firstPosting v_gaps_many v_a1_document v_gaps_gap l2 l3 l5 l6 K_50 Φ → (∀ (v_a4_size_7 : Int32) (v_a4_row_8 : Nat → Int32) (v_gaps_many_9 : Int32) (v_gaps_gap_10 : Nat → Int32) (l2_11 : Int32) (l3_12 : Int32), K_50 v_a4_size_7 v_a4_row_8 v_gaps_many_9 v_gaps_gap_10 l2_11 l3_12 → AW Γ k n9 50 [(0, .ref h0), (1, .ref h1), (2, .int l2_11), (3, .int l3_12), (4, .ref h4)] [] [(h1, oX4 d1 v_a1_bits v_a1_documents v_a1_terms v_a1_segments v_a1_postings), ((d1 0), aJ cs 64 v_a1_term), (h4, oX0 d4 v_a4_size_7 v_a4_place), ((d4 0), aB cs n_a4_row v_a4_row_8), ((d1 1), aI cs 65 v_a1_firstSegment), ((d1 2), aI cs 600 v_a1_impact), ((d1 3), aI cs 601 v_a1_firstPosting), (h0, oX5 d0), ((d0 0), oX2 d_gaps v_gaps_many_9), ((d1 4), aI cs 600 v_a1_document), ((d_gaps 0), aI cs 40 v_gaps_gap_10)]) → AW Γ k n9 21 [(0, .ref h0), (1, .ref h1), (2, .int l2), (3, .int l3), (4, .ref h4), (5, .int l5), (6, .int l6)] [] [(h1, oX4 d1 v_a1_bits v_a1_documents v_a1_terms v_a1_segments v_a1_postings), ((d1 0), aJ cs 64 v_a1_term), (h4, oX0 d4 v_a4_size v_a4_place), ((d4 0), aB cs n_a4_row v_a4_row), ((d1 1), aI cs 65 v_a1_firstSegment), ((d1 2), aI cs 600 v_a1_impact), ((d1 3), aI cs 601 v_a1_firstPosting), (h0, oX5 d0), ((d0 0), oX2 d_gaps v_gaps_many), ((d1 4), aI cs 600 v_a1_document), ((d_gaps 0), aI cs 40 v_gaps_gap)] := by
  intro n
  induction n with
  | zero =>
    intro v_a4_size v_a4_row v_gaps_many v_gaps_gap l2 l3 l5 l6 h
    exact False.elim h
  | succ n ih =>
    intro v_a4_size v_a4_row v_gaps_many v_gaps_gap l2 l3 l5 l6 h hK_50
    rw [L_X5_writeTerm_21] at h
    refine a_iload C (pc := 21) 6 dX5_writeTerm_21 rfl ?_
    refine a_iload C (pc := 23) 5 dX5_writeTerm_23 rfl ?_
    refine a_icmp_ge C (pc := 25) 50 dX5_writeTerm_25 (by decide) (fun hc => ?_) (fun hc => ?_)
    · have h := h.1 hc
      refine a_lv (lv1 := [(0, .ref h0), (1, .ref h1), (2, .int l2), (3, .int l3), (4, .ref h4)]) [0, 1, 2, 3, 4] rfl ?_
      exact hK_50 v_a4_size v_a4_row v_gaps_many v_gaps_gap l2 l3 h
    · have h := h.2 hc
      refine a_aload C (pc := 28) 4 dX5_writeTerm_28 rfl ?_
      refine a_aload_n C (pc := 30) 1 dX5_writeTerm_30 rfl rfl ?_
      refine a_get C (pc := 31) 0 0 inW_X4 rfl rfl (Nat.le_of_ble_eq_true rfl) wF_X5_80 rfl rfl dX5_writeTerm_31 ?_
      refine a_iload_n C (pc := 34) 2 dX5_writeTerm_34 rfl rfl ?_
      refine a_lald C (pc := 35) 1 rfl h.1 dX5_writeTerm_35 ?_
      replace h := h.2
      refine a_iload C (pc := 36) 6 dX5_writeTerm_36 rfl ?_
      refine a_callS C (pc := 38) (av := [.long (v_a1_term (l2 : Int32).toNatClampNeg), .int l6]) (wr := [(h1, oX4 d1 v_a1_bits v_a1_documents v_a1_terms v_a1_segments v_a1_postings), ((d1 0), aJ cs 64 v_a1_term), (h4, oX0 d4 v_a4_size v_a4_place), ((d4 0), aB cs n_a4_row v_a4_row), ((d1 1), aI cs 65 v_a1_firstSegment), ((d1 2), aI cs 600 v_a1_impact), ((d1 3), aI cs 601 v_a1_firstPosting), (h0, oX5 d0), ((d0 0), oX2 d_gaps v_gaps_many), ((d1 4), aI cs 600 v_a1_document), ((d_gaps 0), aI cs 40 v_gaps_gap)]) (m_X7_letterAt Lx Dx cs (v_a1_term (l2 : Int32).toNatClampNeg) l6 _ h) [] [0, 1, 2, 3, 4, 5, 6, 7, 8, 9, 10] rfl rfl (by decide) (by decide) (by decide) wM_X5_90 wb_X7_letterAt hy_X7_letterAt rfl ⟨Nat.le_of_ble_eq_true rfl, Nat.le_of_ble_eq_true rfl⟩ (Nat.le_of_ble_eq_true rfl) hkm hnm rfl dX5_writeTerm_38 (fun v w1 hw => ?_) [] rfl (fun _ _ h => h.elim)
      obtain ⟨r_4, rfl, rfl, h⟩ := hw
      refine a_ws (st1 := [.int r_4, .ref h4]) (ws1 := [(h1, oX4 d1 v_a1_bits v_a1_documents v_a1_terms v_a1_segments v_a1_postings), ((d1 0), aJ cs 64 v_a1_term), (h4, oX0 d4 v_a4_size v_a4_place), ((d4 0), aB cs n_a4_row v_a4_row), ((d1 1), aI cs 65 v_a1_firstSegment), ((d1 2), aI cs 600 v_a1_impact), ((d1 3), aI cs 601 v_a1_firstPosting), (h0, oX5 d0), ((d0 0), oX2 d_gaps v_gaps_many), ((d1 4), aI cs 600 v_a1_document), ((d_gaps 0), aI cs 40 v_gaps_gap)]) k n9 41 [0, 1, 2, 3, 4, 5, 6, 7, 8, 9, 10] rfl rfl rfl rfl (by decide) rfl ?_
      refine a_callV C (pc := 41) (av := [.int r_4]) (wr := [(h1, oX4 d1 v_a1_bits v_a1_documents v_a1_terms v_a1_segments v_a1_postings), ((d1 0), aJ cs 64 v_a1_term), ((d1 1), aI cs 65 v_a1_firstSegment), ((d1 2), aI cs 600 v_a1_impact), ((d1 3), aI cs 601 v_a1_firstPosting), (h0, oX5 d0), ((d0 0), oX2 d_gaps v_gaps_many), ((d1 4), aI cs 600 v_a1_document), ((d_gaps 0), aI cs 40 v_gaps_gap)]) (m_X0_put Lx Dx cs n_a4_row h4 d4 v_a4_size v_a4_place v_a4_row r_4 _ h) [2, 3] [0, 1, 4, 5, 6, 7, 8, 9, 10] rfl rfl (by decide) (by decide) (by decide) wM_X5_31 wb_X0_put hy_X0_put (q0 := 2) rfl rfl rfl ⟨Nat.le_of_ble_eq_true rfl, Nat.le_of_ble_eq_true rfl⟩ (Nat.le_of_ble_eq_true rfl) hkm hnm rfl dX5_writeTerm_41 (fun v w1 hw => ?_) [] rfl (fun _ _ h => h.elim)
      obtain ⟨v_a4_size_5, v_a4_row_6, rfl, rfl, h⟩ := hw
      refine a_ws (st1 := []) (ws1 := [(h1, oX4 d1 v_a1_bits v_a1_documents v_a1_terms v_a1_segments v_a1_postings), ((d1 0), aJ cs 64 v_a1_term), (h4, oX0 d4 v_a4_size_5 v_a4_place), ((d4 0), aB cs n_a4_row v_a4_row_6), ((d1 1), aI cs 65 v_a1_firstSegment), ((d1 2), aI cs 600 v_a1_impact), ((d1 3), aI cs 601 v_a1_firstPosting), (h0, oX5 d0), ((d0 0), oX2 d_gaps v_gaps_many), ((d1 4), aI cs 600 v_a1_document), ((d_gaps 0), aI cs 40 v_gaps_gap)]) k n9 44 [0, 1, 9, 10, 2, 3, 4, 5, 6, 7, 8] rfl rfl rfl rfl (by decide) rfl ?_
      refine a_iinc C (pc := 44) (lv1 := [(0, .ref h0), (1, .ref h1), (2, .int l2), (3, .int l3), (4, .ref h4), (5, .int l5), (6, .int (l6 + 1))]) 6 [1, 2, 3, 4, 5, 6, 0] dX5_writeTerm_44 rfl (congrArg (fun z => l6 + z) ic_1) (by decide) rfl ?_
      refine a_goto C (pc := 47) 21 dX5_writeTerm_47 (by decide) ?_
      exact ih v_a4_size_5 v_a4_row_6 v_gaps_many v_gaps_gap l2 l3 l5 (l6 + 1) h hK_50
set_option maxRecDepth 100000 in
set_option maxHeartbeats 4000000 in
theorem w_X5_writeTerm_78 {Γ : XG} {Lx : Launch} {Dx : va_G} {cs : Nat → ClassId} {n_a4_row : Nat} {h0 : Nat} {h1 : Nat} {h4 : Nat} {d1 : Nat → Nat} {d4 : Nat → Nat} {d0 : Nat → Nat} {d_gaps : Nat → Nat} {v_a1_bits : Int32} {v_a1_documents : Int32} {v_a1_terms : Int32} {v_a1_segments : Int32} {v_a1_postings : Int32} {v_a1_term : Nat → Int64} {v_a4_place : Int32} {v_a1_firstSegment : Nat → Int32} {v_a1_impact : Nat → Int32} {v_a1_firstPosting : Nat → Int32} {v_a1_document : Nat → Int32} {K_140 : Int32 → (Nat → Int32) → Int32 → (Nat → Int32) → Prop} {Φ : Int32 → (Nat → Int32) → Int32 → (Nat → Int32) → Prop} {k n9 : Nat} (C : CX Γ Lx Dx cs cX5_writeTerm RX5 "writeTerm" 7 none 4 94 0 0 (qEC cs 0 0 [] (R_X5_writeTerm cs n_a4_row h0 h1 h4 d1 d4 d0 d_gaps v_a1_bits v_a1_documents v_a1_terms v_a1_segments v_a1_postings v_a1_term v_a4_place v_a1_firstSegment v_a1_impact v_a1_firstPosting v_a1_document Φ) (fun _ _ => False))) (hkm : k ≤ 0) (hnm : n9 ≤ 0) : ∀ n : Nat, ∀ (v_a4_size : Int32) (v_a4_row : Nat → Int32) (v_gaps_many : Int32) (v_gaps_gap : Nat → Int32) (l2 : Int32) (l3 : Int32) (l6 : Int32), L_X5_writeTerm_78 n n_a4_row v_a1_term v_a4_size v_a4_row v_a1_firstSegment v_a1_impact v_a1_firstPosting v_gaps_many v_a1_document v_gaps_gap l2 l3 l6 K_140 Φ → (∀ (v_a4_size_30 : Int32) (v_a4_row_31 : Nat → Int32) (v_gaps_many_32 : Int32) (v_gaps_gap_33 : Nat → Int32), K_140 v_a4_size_30 v_a4_row_31 v_gaps_many_32 v_gaps_gap_33 → AW Γ k n9 140 [] [] [(h1, oX4 d1 v_a1_bits v_a1_documents v_a1_terms v_a1_segments v_a1_postings), ((d1 0), aJ cs 64 v_a1_term), (h4, oX0 d4 v_a4_size_30 v_a4_place), ((d4 0), aB cs n_a4_row v_a4_row_31), ((d1 1), aI cs 65 v_a1_firstSegment), ((d1 2), aI cs 600 v_a1_impact), ((d1 3), aI cs 601 v_a1_firstPosting), (h0, oX5 d0), ((d0 0), oX2 d_gaps v_gaps_many_32), ((d1 4), aI cs 600 v_a1_document), ((d_gaps 0), aI cs 40 v_gaps_gap_33)]) → AW Γ k n9 78 [(0, .ref h0), (1, .ref h1), (2, .int l2), (3, .int l3), (4, .ref h4), (6, .int l6)] [] [(h1, oX4 d1 v_a1_bits v_a1_documents v_a1_terms v_a1_segments v_a1_postings), ((d1 0), aJ cs 64 v_a1_term), (h4, oX0 d4 v_a4_size v_a4_place), ((d4 0), aB cs n_a4_row v_a4_row), ((d1 1), aI cs 65 v_a1_firstSegment), ((d1 2), aI cs 600 v_a1_impact), ((d1 3), aI cs 601 v_a1_firstPosting), (h0, oX5 d0), ((d0 0), oX2 d_gaps v_gaps_many), ((d1 4), aI cs 600 v_a1_document), ((d_gaps 0), aI cs 40 v_gaps_gap)] := by
  intro n
  induction n with
  | zero =>
    intro v_a4_size v_a4_row v_gaps_many v_gaps_gap l2 l3 l6 h
    exact False.elim h
  | succ n ih =>
    intro v_a4_size v_a4_row v_gaps_many v_gaps_gap l2 l3 l6 h hK_140
    rw [L_X5_writeTerm_78] at h
    refine a_iload C (pc := 78) 5 dX5_writeTerm_78 rfl ?_
    refine a_aload_n C (pc := 80) 1 dX5_writeTerm_80 rfl rfl ?_
    refine a_get C (pc := 81) 0 1 inW_X4 rfl rfl (Nat.le_of_ble_eq_true rfl) wF_X5_94 rfl rfl dX5_writeTerm_81 ?_
    refine a_iload_n C (pc := 84) 2 dX5_writeTerm_84 rfl rfl ?_
    refine a_iconst C (pc := 85) dX5_writeTerm_85 ic_1 ?_
    refine a_iadd C (pc := 86) dX5_writeTerm_86 ?_
    refine a_iald C (pc := 87) 4 rfl h.1 dX5_writeTerm_87 ?_
    replace h := h.2
    refine a_icmp_ge C (pc := 88) 140 dX5_writeTerm_88 (by decide) (fun hc => ?_) (fun hc => ?_)
    · have h := h.1 hc
      refine a_lv (lv1 := []) [] rfl ?_
      exact hK_140 v_a4_size v_a4_row v_gaps_many v_gaps_gap h
    · have h := h.2 hc
      refine a_aload C (pc := 91) 4 dX5_writeTerm_91 rfl ?_
      refine a_aload_n C (pc := 93) 1 dX5_writeTerm_93 rfl rfl ?_
      refine a_get C (pc := 94) 0 2 inW_X4 rfl rfl (Nat.le_of_ble_eq_true rfl) wF_X5_98 rfl rfl dX5_writeTerm_94 ?_
      refine a_iload C (pc := 97) 5 dX5_writeTerm_97 rfl ?_
      refine a_iald C (pc := 99) 5 rfl h.1 dX5_writeTerm_99 ?_
      replace h := h.2
      refine a_callV C (pc := 100) (av := [.int (v_a1_impact (l6 : Int32).toNatClampNeg)]) (wr := [(h1, oX4 d1 v_a1_bits v_a1_documents v_a1_terms v_a1_segments v_a1_postings), ((d1 0), aJ cs 64 v_a1_term), ((d1 1), aI cs 65 v_a1_firstSegment), ((d1 2), aI cs 600 v_a1_impact), ((d1 3), aI cs 601 v_a1_firstPosting), (h0, oX5 d0), ((d0 0), oX2 d_gaps v_gaps_many), ((d1 4), aI cs 600 v_a1_document), ((d_gaps 0), aI cs 40 v_gaps_gap)]) (m_X0_put Lx Dx cs n_a4_row h4 d4 v_a4_size v_a4_place v_a4_row (v_a1_impact (l6 : Int32).toNatClampNeg) _ h) [2, 3] [0, 1, 4, 5, 6, 7, 8, 9, 10] rfl rfl (by decide) (by decide) (by decide) wM_X5_31 wb_X0_put hy_X0_put (q0 := 2) rfl rfl rfl ⟨Nat.le_of_ble_eq_true rfl, Nat.le_of_ble_eq_true rfl⟩ (Nat.le_of_ble_eq_true rfl) hkm hnm rfl dX5_writeTerm_100 (fun v w1 hw => ?_) [] rfl (fun _ _ h => h.elim)
      obtain ⟨v_a4_size_21, v_a4_row_22, rfl, rfl, h⟩ := hw
      refine a_ws (st1 := []) (ws1 := [(h1, oX4 d1 v_a1_bits v_a1_documents v_a1_terms v_a1_segments v_a1_postings), ((d1 0), aJ cs 64 v_a1_term), (h4, oX0 d4 v_a4_size_21 v_a4_place), ((d4 0), aB cs n_a4_row v_a4_row_22), ((d1 1), aI cs 65 v_a1_firstSegment), ((d1 2), aI cs 600 v_a1_impact), ((d1 3), aI cs 601 v_a1_firstPosting), (h0, oX5 d0), ((d0 0), oX2 d_gaps v_gaps_many), ((d1 4), aI cs 600 v_a1_document), ((d_gaps 0), aI cs 40 v_gaps_gap)]) k n9 103 [0, 1, 9, 10, 2, 3, 4, 5, 6, 7, 8] rfl rfl rfl rfl (by decide) rfl ?_
      refine a_aload C (pc := 103) 4 dX5_writeTerm_103 rfl ?_
      refine a_aload_n C (pc := 105) 1 dX5_writeTerm_105 rfl rfl ?_
      refine a_iload C (pc := 106) 5 dX5_writeTerm_106 rfl ?_
      refine a_callV C (pc := 108) (av := [.int l6]) (wr := [((d1 0), aJ cs 64 v_a1_term), (h4, oX0 d4 v_a4_size_21 v_a4_place), ((d4 0), aB cs n_a4_row v_a4_row_22), ((d1 1), aI cs 65 v_a1_firstSegment), ((d1 2), aI cs 600 v_a1_impact), (h0, oX5 d0), ((d0 0), oX2 d_gaps v_gaps_many), ((d1 4), aI cs 600 v_a1_document), ((d_gaps 0), aI cs 40 v_gaps_gap)]) (m_X4_size Lx Dx cs h1 d1 v_a1_bits v_a1_documents v_a1_terms v_a1_segments v_a1_postings v_a1_firstPosting l6 _ h) [0, 6] [1, 2, 3, 4, 5, 7, 8, 9, 10] rfl rfl (by decide) (by decide) (by decide) wM_X5_101 wb_X4_size hy_X4_size (q0 := 0) rfl rfl rfl ⟨Nat.le_of_ble_eq_true rfl, Nat.le_of_ble_eq_true rfl⟩ (Nat.le_of_ble_eq_true rfl) hkm hnm rfl dX5_writeTerm_108 (fun v w1 hw => ?_) [] rfl (fun _ _ h => h.elim)
      obtain ⟨r_23, rfl, rfl, h⟩ := hw
      refine a_ws (st1 := [.int r_23, .ref h4]) (ws1 := [(h1, oX4 d1 v_a1_bits v_a1_documents v_a1_terms v_a1_segments v_a1_postings), ((d1 0), aJ cs 64 v_a1_term), (h4, oX0 d4 v_a4_size_21 v_a4_place), ((d4 0), aB cs n_a4_row v_a4_row_22), ((d1 1), aI cs 65 v_a1_firstSegment), ((d1 2), aI cs 600 v_a1_impact), ((d1 3), aI cs 601 v_a1_firstPosting), (h0, oX5 d0), ((d0 0), oX2 d_gaps v_gaps_many), ((d1 4), aI cs 600 v_a1_document), ((d_gaps 0), aI cs 40 v_gaps_gap)]) k n9 111 [9, 0, 1, 2, 3, 4, 10, 5, 6, 7, 8] rfl rfl rfl rfl (by decide) rfl ?_
      refine a_callV C (pc := 111) (av := [.int r_23]) (wr := [(h1, oX4 d1 v_a1_bits v_a1_documents v_a1_terms v_a1_segments v_a1_postings), ((d1 0), aJ cs 64 v_a1_term), ((d1 1), aI cs 65 v_a1_firstSegment), ((d1 2), aI cs 600 v_a1_impact), ((d1 3), aI cs 601 v_a1_firstPosting), (h0, oX5 d0), ((d0 0), oX2 d_gaps v_gaps_many), ((d1 4), aI cs 600 v_a1_document), ((d_gaps 0), aI cs 40 v_gaps_gap)]) (m_X0_put Lx Dx cs n_a4_row h4 d4 v_a4_size_21 v_a4_place v_a4_row_22 r_23 _ h) [2, 3] [0, 1, 4, 5, 6, 7, 8, 9, 10] rfl rfl (by decide) (by decide) (by decide) wM_X5_31 wb_X0_put hy_X0_put (q0 := 2) rfl rfl rfl ⟨Nat.le_of_ble_eq_true rfl, Nat.le_of_ble_eq_true rfl⟩ (Nat.le_of_ble_eq_true rfl) hkm hnm rfl dX5_writeTerm_111 (fun v w1 hw => ?_) [] rfl (fun _ _ h => h.elim)
      obtain ⟨v_a4_size_24, v_a4_row_25, rfl, rfl, h⟩ := hw
      refine a_ws (st1 := []) (ws1 := [(h1, oX4 d1 v_a1_bits v_a1_documents v_a1_terms v_a1_segments v_a1_postings), ((d1 0), aJ cs 64 v_a1_term), (h4, oX0 d4 v_a4_size_24 v_a4_place), ((d4 0), aB cs n_a4_row v_a4_row_25), ((d1 1), aI cs 65 v_a1_firstSegment), ((d1 2), aI cs 600 v_a1_impact), ((d1 3), aI cs 601 v_a1_firstPosting), (h0, oX5 d0), ((d0 0), oX2 d_gaps v_gaps_many), ((d1 4), aI cs 600 v_a1_document), ((d_gaps 0), aI cs 40 v_gaps_gap)]) k n9 114 [0, 1, 9, 10, 2, 3, 4, 5, 6, 7, 8] rfl rfl rfl rfl (by decide) rfl ?_
      refine a_aload_n C (pc := 114) 0 dX5_writeTerm_114 rfl rfl ?_
      refine a_get C (pc := 115) 7 0 inW_X5 rfl rfl (Nat.le_of_ble_eq_true rfl) wF_X5_12 rfl rfl dX5_writeTerm_115 ?_
      refine a_aload_n C (pc := 118) 1 dX5_writeTerm_118 rfl rfl ?_
      refine a_iload C (pc := 119) 5 dX5_writeTerm_119 rfl ?_
      refine a_callV C (pc := 121) (av := [.ref h1, .int l6]) (wr := [((d1 0), aJ cs 64 v_a1_term), (h4, oX0 d4 v_a4_size_24 v_a4_place), ((d4 0), aB cs n_a4_row v_a4_row_25), ((d1 1), aI cs 65 v_a1_firstSegment), ((d1 2), aI cs 600 v_a1_impact), (h0, oX5 d0)]) (m_X2_take Lx Dx cs (d0 0) h1 d1 d_gaps v_a1_bits v_a1_documents v_a1_terms v_a1_segments v_a1_postings v_a1_firstPosting v_gaps_many v_a1_document v_gaps_gap l6 _ h) [0, 6, 8, 9, 10] [1, 2, 3, 4, 5, 7] rfl rfl (by decide) (by decide) (by decide) wM_X5_105 wb_X2_take hy_X2_take (q0 := 8) rfl rfl rfl ⟨Nat.le_of_ble_eq_true rfl, Nat.le_of_ble_eq_true rfl⟩ (Nat.le_of_ble_eq_true rfl) hkm hnm rfl dX5_writeTerm_121 (fun v w1 hw => ?_) [] rfl (fun _ _ h => h.elim)
      obtain ⟨v_gaps_many_26, v_gaps_gap_27, rfl, rfl, h⟩ := hw
      refine a_ws (st1 := []) (ws1 := [(h1, oX4 d1 v_a1_bits v_a1_documents v_a1_terms v_a1_segments v_a1_postings), ((d1 0), aJ cs 64 v_a1_term), (h4, oX0 d4 v_a4_size_24 v_a4_place), ((d4 0), aB cs n_a4_row v_a4_row_25), ((d1 1), aI cs 65 v_a1_firstSegment), ((d1 2), aI cs 600 v_a1_impact), ((d1 3), aI cs 601 v_a1_firstPosting), (h0, oX5 d0), ((d0 0), oX2 d_gaps v_gaps_many_26), ((d1 4), aI cs 600 v_a1_document), ((d_gaps 0), aI cs 40 v_gaps_gap_27)]) k n9 124 [6, 0, 1, 2, 3, 4, 7, 5, 8, 9, 10] rfl rfl rfl rfl (by decide) rfl ?_
      refine a_aload_n C (pc := 124) 0 dX5_writeTerm_124 rfl rfl ?_
      refine a_get C (pc := 125) 7 0 inW_X5 rfl rfl (Nat.le_of_ble_eq_true rfl) wF_X5_12 rfl rfl dX5_writeTerm_125 ?_
      refine a_iload_n C (pc := 128) 3 dX5_writeTerm_128 rfl rfl ?_
      refine a_aload C (pc := 129) 4 dX5_writeTerm_129 rfl ?_
      refine a_callV C (pc := 131) (av := [.int l3, .ref h4]) (wr := [(h1, oX4 d1 v_a1_bits v_a1_documents v_a1_terms v_a1_segments v_a1_postings), ((d1 0), aJ cs 64 v_a1_term), ((d1 1), aI cs 65 v_a1_firstSegment), ((d1 2), aI cs 600 v_a1_impact), ((d1 3), aI cs 601 v_a1_firstPosting), (h0, oX5 d0), ((d1 4), aI cs 600 v_a1_document)]) (m_X2_write Lx Dx cs n_a4_row (d0 0) h4 d_gaps d4 v_gaps_many_26 v_gaps_gap_27 v_a4_size_24 v_a4_place v_a4_row_25 l3 _ h) [8, 10, 2, 3] [0, 1, 4, 5, 6, 7, 9] rfl rfl (by decide) (by decide) (by decide) wM_X5_109 wb_X2_write hy_X2_write (q0 := 8) rfl rfl rfl ⟨Nat.le_of_ble_eq_true rfl, Nat.le_of_ble_eq_true rfl⟩ (Nat.le_of_ble_eq_true rfl) hkm hnm rfl dX5_writeTerm_131 (fun v w1 hw => ?_) [] rfl (fun _ _ h => h.elim)
      obtain ⟨v_a4_size_28, v_a4_row_29, rfl, rfl, h⟩ := hw
      refine a_ws (st1 := []) (ws1 := [(h1, oX4 d1 v_a1_bits v_a1_documents v_a1_terms v_a1_segments v_a1_postings), ((d1 0), aJ cs 64 v_a1_term), (h4, oX0 d4 v_a4_size_28 v_a4_place), ((d4 0), aB cs n_a4_row v_a4_row_29), ((d1 1), aI cs 65 v_a1_firstSegment), ((d1 2), aI cs 600 v_a1_impact), ((d1 3), aI cs 601 v_a1_firstPosting), (h0, oX5 d0), ((d0 0), oX2 d_gaps v_gaps_many_26), ((d1 4), aI cs 600 v_a1_document), ((d_gaps 0), aI cs 40 v_gaps_gap_27)]) k n9 134 [0, 1, 9, 10, 2, 3, 4, 5, 7, 6, 8] rfl rfl rfl rfl (by decide) rfl ?_
      refine a_iinc C (pc := 134) (lv1 := [(0, .ref h0), (1, .ref h1), (2, .int l2), (3, .int l3), (4, .ref h4), (6, .int (l6 + 1))]) 5 [1, 2, 3, 4, 5, 0] dX5_writeTerm_134 rfl (congrArg (fun z => l6 + z) ic_1) (by decide) rfl ?_
      refine a_goto C (pc := 137) 78 dX5_writeTerm_137 (by decide) ?_
      exact ih v_a4_size_28 v_a4_row_29 v_gaps_many_26 v_gaps_gap_27 l2 l3 (l6 + 1) h hK_140
set_option maxRecDepth 100000 in
set_option maxHeartbeats 4000000 in
theorem m_X5_writeTerm (Lx : Launch) (Dx : va_G) (cs : Nat → ClassId) (n_a4_row : Nat) (h0 : Nat) (h1 : Nat) (h4 : Nat) (d1 : Nat → Nat) (d4 : Nat → Nat) (d0 : Nat → Nat) (d_gaps : Nat → Nat) (v_a1_bits : Int32) (v_a1_documents : Int32) (v_a1_terms : Int32) (v_a1_segments : Int32) (v_a1_postings : Int32) (v_a1_term : Nat → Int64) (v_a4_size : Int32) (v_a4_place : Int32) (v_a4_row : Nat → Int32) (v_a1_firstSegment : Nat → Int32) (v_a1_impact : Nat → Int32) (v_a1_firstPosting : Nat → Int32) (v_gaps_many : Int32) (v_a1_document : Nat → Int32) (v_gaps_gap : Nat → Int32) (l2 : Int32) (l3 : Int32) (Φ : Int32 → (Nat → Int32) → Int32 → (Nat → Int32) → Prop) (h : P_X5_writeTerm n_a4_row v_a1_term v_a4_size v_a4_row v_a1_firstSegment v_a1_impact v_a1_firstPosting v_gaps_many v_a1_document v_gaps_gap l2 l3 Φ) : XMet Lx Dx cs yX5_writeTerm cX5_writeTerm 7 none 4 94 0 0 [.ref h0, .ref h1, .int l2, .int l3, .ref h4] [(h1, oX4 d1 v_a1_bits v_a1_documents v_a1_terms v_a1_segments v_a1_postings), ((d1 0), aJ cs 64 v_a1_term), (h4, oX0 d4 v_a4_size v_a4_place), ((d4 0), aB cs n_a4_row v_a4_row), ((d1 1), aI cs 65 v_a1_firstSegment), ((d1 2), aI cs 600 v_a1_impact), ((d1 3), aI cs 601 v_a1_firstPosting), (h0, oX5 d0), ((d0 0), oX2 d_gaps v_gaps_many), ((d1 4), aI cs 600 v_a1_document), ((d_gaps 0), aI cs 40 v_gaps_gap)] (R_X5_writeTerm cs n_a4_row h0 h1 h4 d1 d4 d0 d_gaps v_a1_bits v_a1_documents v_a1_terms v_a1_segments v_a1_postings v_a1_term v_a4_place v_a1_firstSegment v_a1_impact v_a1_firstPosting v_a1_document Φ) (fun _ _ => False) := by
  refine XMet.of (own := RX5) (nm := "writeTerm") (by decide) rfl rfl (Nat.le_of_ble_eq_true rfl) (fun Γ C => ?_)
  unfold P_X5_writeTerm at h
  refine a_aload_n C (pc := 0) 1 dX5_writeTerm_0 rfl rfl ?_
  refine a_get C (pc := 1) 0 0 inW_X4 rfl rfl (Nat.le_of_ble_eq_true rfl) wF_X5_80 rfl rfl dX5_writeTerm_1 ?_
  refine a_iload_n C (pc := 4) 2 dX5_writeTerm_4 rfl rfl ?_
  refine a_lald C (pc := 5) 1 rfl h.1 dX5_writeTerm_5 ?_
  replace h := h.2
  refine a_callS C (pc := 6) (av := [.long (v_a1_term (l2 : Int32).toNatClampNeg)]) (wr := [(h1, oX4 d1 v_a1_bits v_a1_documents v_a1_terms v_a1_segments v_a1_postings), ((d1 0), aJ cs 64 v_a1_term), (h4, oX0 d4 v_a4_size v_a4_place), ((d4 0), aB cs n_a4_row v_a4_row), ((d1 1), aI cs 65 v_a1_firstSegment), ((d1 2), aI cs 600 v_a1_impact), ((d1 3), aI cs 601 v_a1_firstPosting), (h0, oX5 d0), ((d0 0), oX2 d_gaps v_gaps_many), ((d1 4), aI cs 600 v_a1_document), ((d_gaps 0), aI cs 40 v_gaps_gap)]) (m_X7_lettersOf Lx Dx cs (v_a1_term (l2 : Int32).toNatClampNeg) _ h) [] [0, 1, 2, 3, 4, 5, 6, 7, 8, 9, 10] rfl rfl (by decide) (by decide) (by decide) wM_X5_84 wb_X7_lettersOf hy_X7_lettersOf rfl ⟨Nat.le_of_ble_eq_true rfl, Nat.le_of_ble_eq_true rfl⟩ (Nat.le_of_ble_eq_true rfl) (Nat.le_of_ble_eq_true rfl) (Nat.le_of_ble_eq_true rfl) rfl dX5_writeTerm_6 (fun v w1 hw => ?_) [] rfl (fun _ _ h => h.elim)
  obtain ⟨r_1, rfl, rfl, h⟩ := hw
  refine a_ws (st1 := [.int r_1]) (ws1 := [(h1, oX4 d1 v_a1_bits v_a1_documents v_a1_terms v_a1_segments v_a1_postings), ((d1 0), aJ cs 64 v_a1_term), (h4, oX0 d4 v_a4_size v_a4_place), ((d4 0), aB cs n_a4_row v_a4_row), ((d1 1), aI cs 65 v_a1_firstSegment), ((d1 2), aI cs 600 v_a1_impact), ((d1 3), aI cs 601 v_a1_firstPosting), (h0, oX5 d0), ((d0 0), oX2 d_gaps v_gaps_many), ((d1 4), aI cs 600 v_a1_document), ((d_gaps 0), aI cs 40 v_gaps_gap)]) 0 0 9 [0, 1, 2, 3, 4, 5, 6, 7, 8, 9, 10] rfl rfl rfl rfl (by decide) rfl ?_
  refine a_istore C (pc := 9) (lv1 := [(0, .ref h0), (1, .ref h1), (2, .int l2), (3, .int l3), (4, .ref h4), (5, .int r_1)]) [1, 2, 3, 4, 5, 0] dX5_writeTerm_9 (by decide) rfl ?_
  refine a_aload C (pc := 11) 4 dX5_writeTerm_11 rfl ?_
  refine a_iload C (pc := 13) 5 dX5_writeTerm_13 rfl ?_
  refine a_callV C (pc := 15) (av := [.int r_1]) (wr := [(h1, oX4 d1 v_a1_bits v_a1_documents v_a1_terms v_a1_segments v_a1_postings), ((d1 0), aJ cs 64 v_a1_term), ((d1 1), aI cs 65 v_a1_firstSegment), ((d1 2), aI cs 600 v_a1_impact), ((d1 3), aI cs 601 v_a1_firstPosting), (h0, oX5 d0), ((d0 0), oX2 d_gaps v_gaps_many), ((d1 4), aI cs 600 v_a1_document), ((d_gaps 0), aI cs 40 v_gaps_gap)]) (m_X0_put Lx Dx cs n_a4_row h4 d4 v_a4_size v_a4_place v_a4_row r_1 _ h) [2, 3] [0, 1, 4, 5, 6, 7, 8, 9, 10] rfl rfl (by decide) (by decide) (by decide) wM_X5_31 wb_X0_put hy_X0_put (q0 := 2) rfl rfl rfl ⟨Nat.le_of_ble_eq_true rfl, Nat.le_of_ble_eq_true rfl⟩ (Nat.le_of_ble_eq_true rfl) (Nat.le_of_ble_eq_true rfl) (Nat.le_of_ble_eq_true rfl) rfl dX5_writeTerm_15 (fun v w1 hw => ?_) [] rfl (fun _ _ h => h.elim)
  obtain ⟨v_a4_size_2, v_a4_row_3, rfl, rfl, h⟩ := hw
  refine a_ws (st1 := []) (ws1 := [(h1, oX4 d1 v_a1_bits v_a1_documents v_a1_terms v_a1_segments v_a1_postings), ((d1 0), aJ cs 64 v_a1_term), (h4, oX0 d4 v_a4_size_2 v_a4_place), ((d4 0), aB cs n_a4_row v_a4_row_3), ((d1 1), aI cs 65 v_a1_firstSegment), ((d1 2), aI cs 600 v_a1_impact), ((d1 3), aI cs 601 v_a1_firstPosting), (h0, oX5 d0), ((d0 0), oX2 d_gaps v_gaps_many), ((d1 4), aI cs 600 v_a1_document), ((d_gaps 0), aI cs 40 v_gaps_gap)]) 0 0 18 [0, 1, 9, 10, 2, 3, 4, 5, 6, 7, 8] rfl rfl rfl rfl (by decide) rfl ?_
  refine a_iconst C (pc := 18) dX5_writeTerm_18 ic_0 ?_
  refine a_istore C (pc := 19) (lv1 := [(0, .ref h0), (1, .ref h1), (2, .int l2), (3, .int l3), (4, .ref h4), (5, .int r_1), (6, .int 0)]) [1, 2, 3, 4, 5, 6, 0] dX5_writeTerm_19 (by decide) rfl ?_
  obtain ⟨n0, h⟩ := h
  refine w_X5_writeTerm_21 C (Nat.le_of_ble_eq_true rfl) (Nat.le_of_ble_eq_true rfl) n0 v_a4_size_2 v_a4_row_3 v_gaps_many v_gaps_gap l2 l3 r_1 0 h ?_
  intro v_a4_size_13 v_a4_row_14 v_gaps_many_15 v_gaps_gap_16 l2_17 l3_18 h
  refine a_aload C (pc := 50) 4 dX5_writeTerm_50 rfl ?_
  refine a_aload_n C (pc := 52) 1 dX5_writeTerm_52 rfl rfl ?_
  refine a_get C (pc := 53) 0 1 inW_X4 rfl rfl (Nat.le_of_ble_eq_true rfl) wF_X5_94 rfl rfl dX5_writeTerm_53 ?_
  refine a_iload_n C (pc := 56) 2 dX5_writeTerm_56 rfl rfl ?_
  refine a_iconst C (pc := 57) dX5_writeTerm_57 ic_1 ?_
  refine a_iadd C (pc := 58) dX5_writeTerm_58 ?_
  refine a_iald C (pc := 59) 4 rfl h.1 dX5_writeTerm_59 ?_
  replace h := h.2
  refine a_aload_n C (pc := 60) 1 dX5_writeTerm_60 rfl rfl ?_
  refine a_get C (pc := 61) 0 1 inW_X4 rfl rfl (Nat.le_of_ble_eq_true rfl) wF_X5_94 rfl rfl dX5_writeTerm_61 ?_
  refine a_iload_n C (pc := 64) 2 dX5_writeTerm_64 rfl rfl ?_
  refine a_iald C (pc := 65) 4 rfl h.1 dX5_writeTerm_65 ?_
  replace h := h.2
  refine a_isub C (pc := 66) dX5_writeTerm_66 ?_
  refine a_callV C (pc := 67) (av := [.int ((v_a1_firstSegment (l2_17 + 1 : Int32).toNatClampNeg) - (v_a1_firstSegment (l2_17 : Int32).toNatClampNeg))]) (wr := [(h1, oX4 d1 v_a1_bits v_a1_documents v_a1_terms v_a1_segments v_a1_postings), ((d1 0), aJ cs 64 v_a1_term), ((d1 1), aI cs 65 v_a1_firstSegment), ((d1 2), aI cs 600 v_a1_impact), ((d1 3), aI cs 601 v_a1_firstPosting), (h0, oX5 d0), ((d0 0), oX2 d_gaps v_gaps_many_15), ((d1 4), aI cs 600 v_a1_document), ((d_gaps 0), aI cs 40 v_gaps_gap_16)]) (m_X0_put Lx Dx cs n_a4_row h4 d4 v_a4_size_13 v_a4_place v_a4_row_14 ((v_a1_firstSegment (l2_17 + 1 : Int32).toNatClampNeg) - (v_a1_firstSegment (l2_17 : Int32).toNatClampNeg)) _ h) [2, 3] [0, 1, 4, 5, 6, 7, 8, 9, 10] rfl rfl (by decide) (by decide) (by decide) wM_X5_31 wb_X0_put hy_X0_put (q0 := 2) rfl rfl rfl ⟨Nat.le_of_ble_eq_true rfl, Nat.le_of_ble_eq_true rfl⟩ (Nat.le_of_ble_eq_true rfl) (Nat.le_of_ble_eq_true rfl) (Nat.le_of_ble_eq_true rfl) rfl dX5_writeTerm_67 (fun v w1 hw => ?_) [] rfl (fun _ _ h => h.elim)
  obtain ⟨v_a4_size_19, v_a4_row_20, rfl, rfl, h⟩ := hw
  refine a_ws (st1 := []) (ws1 := [(h1, oX4 d1 v_a1_bits v_a1_documents v_a1_terms v_a1_segments v_a1_postings), ((d1 0), aJ cs 64 v_a1_term), (h4, oX0 d4 v_a4_size_19 v_a4_place), ((d4 0), aB cs n_a4_row v_a4_row_20), ((d1 1), aI cs 65 v_a1_firstSegment), ((d1 2), aI cs 600 v_a1_impact), ((d1 3), aI cs 601 v_a1_firstPosting), (h0, oX5 d0), ((d0 0), oX2 d_gaps v_gaps_many_15), ((d1 4), aI cs 600 v_a1_document), ((d_gaps 0), aI cs 40 v_gaps_gap_16)]) 0 0 70 [0, 1, 9, 10, 2, 3, 4, 5, 6, 7, 8] rfl rfl rfl rfl (by decide) rfl ?_
  refine a_aload_n C (pc := 70) 1 dX5_writeTerm_70 rfl rfl ?_
  refine a_get C (pc := 71) 0 1 inW_X4 rfl rfl (Nat.le_of_ble_eq_true rfl) wF_X5_94 rfl rfl dX5_writeTerm_71 ?_
  refine a_iload_n C (pc := 74) 2 dX5_writeTerm_74 rfl rfl ?_
  refine a_iald C (pc := 75) 4 rfl h.1 dX5_writeTerm_75 ?_
  replace h := h.2
  refine a_istore C (pc := 76) (lv1 := [(0, .ref h0), (1, .ref h1), (2, .int l2_17), (3, .int l3_18), (4, .ref h4), (6, .int (v_a1_firstSegment (l2_17 : Int32).toNatClampNeg))]) [1, 2, 3, 4, 5, 0] dX5_writeTerm_76 (by decide) rfl ?_
  obtain ⟨n0, h⟩ := h
  refine w_X5_writeTerm_78 C (Nat.le_of_ble_eq_true rfl) (Nat.le_of_ble_eq_true rfl) n0 v_a4_size_19 v_a4_row_20 v_gaps_many_15 v_gaps_gap_16 l2_17 l3_18 (v_a1_firstSegment (l2_17 : Int32).toNatClampNeg) h ?_
  intro v_a4_size_34 v_a4_row_35 v_gaps_many_36 v_gaps_gap_37 h
  exact a_return C (pc := 140) rfl dX5_writeTerm_140 (Nat.le_of_ble_eq_true rfl) (Nat.le_of_ble_eq_true rfl) ⟨_, _, _, _, rfl, rfl, h⟩
set_option maxRecDepth 100000 in
set_option maxHeartbeats 4000000 in
theorem w_X0_putSum_6 {Γ : XG} {Lx : Launch} {Dx : va_G} {cs : Nat → ClassId} {n_row : Nat} {h0 : Nat} {d0 : Nat → Nat} {v_place : Int32} {K_38 : Int32 → (Nat → Int32) → Int32 → Int32 → Prop} {Φ : Int32 → (Nat → Int32) → Prop} {k n9 : Nat} (C : CX Γ Lx Dx cs cX0_putSum RX0 "putSum" 4 none 1 21 0 0 (qEC cs 0 0 [] (R_X0_putSum cs n_row h0 d0 v_place Φ) (fun _ _ => False))) (hkm : k ≤ 0) (hnm : n9 ≤ 0) : ∀ n : Nat, ∀ (v_size : Int32) (v_row : Nat → Int32) (l1 : Int32) (l2 : Int32) (l3 : Int32), L_X0_putSum_6 n n_row v_size v_row l1 l2 l3 K_38 Φ → (∀ (v_size_2 : Int32) (v_row_3 : Nat → Int32) (l1_4 : Int32) (l2_5 : Int32), K_38 v_size_2 v_row_3 l1_4 l2_5 → AW Γ k n9 38 [(0, .ref h0), (1, .int l1_4), (2, .int l2_5)] [] [(h0, oX0 d0 v_size_2 v_place), ((d0 0), aB cs n_row v_row_3)]) → AW Γ k n9 6 [(0, .ref h0), (1, .int l1), (2, .int l2), (3, .int l3)] [] [(h0, oX0 d0 v_size v_place), ((d0 0), aB cs n_row v_row)] := by
  intro n
  induction n with
  | zero =>
    intro v_size v_row l1 l2 l3 h
    exact False.elim h
  | succ n ih =>
    intro v_size v_row l1 l2 l3 h hK_38
    rw [L_X0_putSum_6] at h
    refine a_iload_n C (pc := 6) 3 dX0_putSum_6 rfl rfl ?_
    refine a_aload_n C (pc := 7) 0 dX0_putSum_7 rfl rfl ?_
    refine a_get C (pc := 8) 0 1 inW_X0 rfl rfl (Nat.le_of_ble_eq_true rfl) wF_X0_7 rfl rfl dX0_putSum_8 ?_
    refine a_icmp_ge C (pc := 11) 38 dX0_putSum_11 (by decide) (fun hc => ?_) (fun hc => ?_)
    · have h := h.1 hc
      refine a_lv (lv1 := [(0, .ref h0), (1, .int l1), (2, .int l2)]) [0, 1, 2] rfl ?_
      exact hK_38 v_size v_row l1 l2 h
    · have h := h.2 hc
      refine a_iload_n C (pc := 14) 1 dX0_putSum_14 rfl rfl ?_
      refine a_aload_n C (pc := 15) 0 dX0_putSum_15 rfl rfl ?_
      refine a_iload_n C (pc := 16) 3 dX0_putSum_16 rfl rfl ?_
      refine a_callV C (pc := 17) (av := [.int l3]) (wr := []) (m_X0_at Lx Dx cs n_row h0 d0 v_size v_place v_row l3 _ h) [0, 1] [] rfl rfl (by decide) (by decide) (by decide) wM_X0_26 wb_X0_at hy_X0_at (q0 := 0) rfl rfl rfl ⟨Nat.le_of_ble_eq_true rfl, Nat.le_of_ble_eq_true rfl⟩ (Nat.le_of_ble_eq_true rfl) hkm hnm rfl dX0_putSum_17 (fun v w1 hw => ?_) [] rfl (fun _ _ h => h.elim)
      obtain ⟨r_1, rfl, rfl, h⟩ := hw
      refine a_ws (st1 := [.int r_1, .int l1]) (ws1 := [(h0, oX0 d0 v_size v_place), ((d0 0), aB cs n_row v_row)]) k n9 20 [0, 1] rfl rfl rfl rfl (by decide) rfl ?_
      refine a_iadd C (pc := 20) dX0_putSum_20 ?_
      refine a_ldc C (pc := 21) wC_X0_40 dX0_putSum_21 ?_
      refine a_irem C (pc := 23) dX0_putSum_23 (by decide) ?_
      refine a_istore_n C (pc := 24) (lv1 := [(0, .ref h0), (1, .int ((l1 + r_1) - (l1 + r_1) / 65521 * 65521)), (2, .int l2), (3, .int l3)]) [1, 0, 2, 3] dX0_putSum_24 rfl (by decide) rfl ?_
      refine a_iload_n C (pc := 25) 2 dX0_putSum_25 rfl rfl ?_
      refine a_iload_n C (pc := 26) 1 dX0_putSum_26 rfl rfl ?_
      refine a_iadd C (pc := 27) dX0_putSum_27 ?_
      refine a_ldc C (pc := 28) wC_X0_40 dX0_putSum_28 ?_
      refine a_irem C (pc := 30) dX0_putSum_30 (by decide) ?_
      refine a_istore_n C (pc := 31) (lv1 := [(0, .ref h0), (1, .int ((l1 + r_1) - (l1 + r_1) / 65521 * 65521)), (2, .int ((l2 + ((l1 + r_1) - (l1 + r_1) / 65521 * 65521)) - (l2 + ((l1 + r_1) - (l1 + r_1) / 65521 * 65521)) / 65521 * 65521)), (3, .int l3)]) [1, 2, 0, 3] dX0_putSum_31 rfl (by decide) rfl ?_
      refine a_iinc C (pc := 32) (lv1 := [(0, .ref h0), (1, .int ((l1 + r_1) - (l1 + r_1) / 65521 * 65521)), (2, .int ((l2 + ((l1 + r_1) - (l1 + r_1) / 65521 * 65521)) - (l2 + ((l1 + r_1) - (l1 + r_1) / 65521 * 65521)) / 65521 * 65521)), (3, .int (l3 + 1))]) 3 [1, 2, 3, 0] dX0_putSum_32 rfl (congrArg (fun z => l3 + z) ic_1) (by decide) rfl ?_
      refine a_goto C (pc := 35) 6 dX0_putSum_35 (by decide) ?_
      exact ih v_size v_row ((l1 + r_1) - (l1 + r_1) / 65521 * 65521) ((l2 + ((l1 + r_1) - (l1 + r_1) / 65521 * 65521)) - (l2 + ((l1 + r_1) - (l1 + r_1) / 65521 * 65521)) / 65521 * 65521) (l3 + 1) h hK_38
set_option maxRecDepth 100000 in
set_option maxHeartbeats 4000000 in
theorem m_X0_putSum (Lx : Launch) (Dx : va_G) (cs : Nat → ClassId) (n_row : Nat) (h0 : Nat) (d0 : Nat → Nat) (v_size : Int32) (v_place : Int32) (v_row : Nat → Int32) (Φ : Int32 → (Nat → Int32) → Prop) (h : P_X0_putSum n_row v_size v_row Φ) : XMet Lx Dx cs yX0_putSum cX0_putSum 4 none 1 21 0 0 [.ref h0] [(h0, oX0 d0 v_size v_place), ((d0 0), aB cs n_row v_row)] (R_X0_putSum cs n_row h0 d0 v_place Φ) (fun _ _ => False) := by
  refine XMet.of (own := RX0) (nm := "putSum") (by decide) rfl rfl (Nat.le_of_ble_eq_true rfl) (fun Γ C => ?_)
  unfold P_X0_putSum at h
  refine a_iconst C (pc := 0) dX0_putSum_0 ic_1 ?_
  refine a_istore_n C (pc := 1) (lv1 := [(0, .ref h0), (1, .int 1)]) [1, 0] dX0_putSum_1 rfl (by decide) rfl ?_
  refine a_iconst C (pc := 2) dX0_putSum_2 ic_0 ?_
  refine a_istore_n C (pc := 3) (lv1 := [(0, .ref h0), (1, .int 1), (2, .int 0)]) [1, 2, 0] dX0_putSum_3 rfl (by decide) rfl ?_
  refine a_iconst C (pc := 4) dX0_putSum_4 ic_0 ?_
  refine a_istore_n C (pc := 5) (lv1 := [(0, .ref h0), (1, .int 1), (2, .int 0), (3, .int 0)]) [1, 2, 3, 0] dX0_putSum_5 rfl (by decide) rfl ?_
  obtain ⟨n0, h⟩ := h
  refine w_X0_putSum_6 C (Nat.le_of_ble_eq_true rfl) (Nat.le_of_ble_eq_true rfl) n0 v_size v_row 1 0 0 h ?_
  intro v_size_6 v_row_7 l1_8 l2_9 h
  refine a_aload_n C (pc := 38) 0 dX0_putSum_38 rfl rfl ?_
  refine a_iload_n C (pc := 39) 1 dX0_putSum_39 rfl rfl ?_
  refine a_callV C (pc := 40) (av := [.int l1_8]) (wr := []) (m_X0_put Lx Dx cs n_row h0 d0 v_size_6 v_place v_row_7 l1_8 _ h) [0, 1] [] rfl rfl (by decide) (by decide) (by decide) wM_X0_20 wb_X0_put hy_X0_put (q0 := 0) rfl rfl rfl ⟨Nat.le_of_ble_eq_true rfl, Nat.le_of_ble_eq_true rfl⟩ (Nat.le_of_ble_eq_true rfl) (Nat.le_of_ble_eq_true rfl) (Nat.le_of_ble_eq_true rfl) rfl dX0_putSum_40 (fun v w1 hw => ?_) [] rfl (fun _ _ h => h.elim)
  obtain ⟨v_size_10, v_row_11, rfl, rfl, h⟩ := hw
  refine a_ws (st1 := []) (ws1 := [(h0, oX0 d0 v_size_10 v_place), ((d0 0), aB cs n_row v_row_11)]) 0 0 43 [0, 1] rfl rfl rfl rfl (by decide) rfl ?_
  refine a_aload_n C (pc := 43) 0 dX0_putSum_43 rfl rfl ?_
  refine a_iload_n C (pc := 44) 1 dX0_putSum_44 rfl rfl ?_
  refine a_bipush C (pc := 45) dX0_putSum_45 bp_8 ?_
  refine a_iushr C (pc := 47) dX0_putSum_47 ?_
  refine a_callV C (pc := 48) (av := [.int ((l1_8.toUInt32 >>> ((8 : Int32).toUInt32 &&& Int32.toUInt32 31)).toInt32)]) (wr := []) (m_X0_put Lx Dx cs n_row h0 d0 v_size_10 v_place v_row_11 ((l1_8.toUInt32 >>> ((8 : Int32).toUInt32 &&& Int32.toUInt32 31)).toInt32) _ h) [0, 1] [] rfl rfl (by decide) (by decide) (by decide) wM_X0_20 wb_X0_put hy_X0_put (q0 := 0) rfl rfl rfl ⟨Nat.le_of_ble_eq_true rfl, Nat.le_of_ble_eq_true rfl⟩ (Nat.le_of_ble_eq_true rfl) (Nat.le_of_ble_eq_true rfl) (Nat.le_of_ble_eq_true rfl) rfl dX0_putSum_48 (fun v w1 hw => ?_) [] rfl (fun _ _ h => h.elim)
  obtain ⟨v_size_12, v_row_13, rfl, rfl, h⟩ := hw
  refine a_ws (st1 := []) (ws1 := [(h0, oX0 d0 v_size_12 v_place), ((d0 0), aB cs n_row v_row_13)]) 0 0 51 [0, 1] rfl rfl rfl rfl (by decide) rfl ?_
  refine a_aload_n C (pc := 51) 0 dX0_putSum_51 rfl rfl ?_
  refine a_iload_n C (pc := 52) 2 dX0_putSum_52 rfl rfl ?_
  refine a_callV C (pc := 53) (av := [.int l2_9]) (wr := []) (m_X0_put Lx Dx cs n_row h0 d0 v_size_12 v_place v_row_13 l2_9 _ h) [0, 1] [] rfl rfl (by decide) (by decide) (by decide) wM_X0_20 wb_X0_put hy_X0_put (q0 := 0) rfl rfl rfl ⟨Nat.le_of_ble_eq_true rfl, Nat.le_of_ble_eq_true rfl⟩ (Nat.le_of_ble_eq_true rfl) (Nat.le_of_ble_eq_true rfl) (Nat.le_of_ble_eq_true rfl) rfl dX0_putSum_53 (fun v w1 hw => ?_) [] rfl (fun _ _ h => h.elim)
  obtain ⟨v_size_14, v_row_15, rfl, rfl, h⟩ := hw
  refine a_ws (st1 := []) (ws1 := [(h0, oX0 d0 v_size_14 v_place), ((d0 0), aB cs n_row v_row_15)]) 0 0 56 [0, 1] rfl rfl rfl rfl (by decide) rfl ?_
  refine a_aload_n C (pc := 56) 0 dX0_putSum_56 rfl rfl ?_
  refine a_iload_n C (pc := 57) 2 dX0_putSum_57 rfl rfl ?_
  refine a_bipush C (pc := 58) dX0_putSum_58 bp_8 ?_
  refine a_iushr C (pc := 60) dX0_putSum_60 ?_
  refine a_callV C (pc := 61) (av := [.int ((l2_9.toUInt32 >>> ((8 : Int32).toUInt32 &&& Int32.toUInt32 31)).toInt32)]) (wr := []) (m_X0_put Lx Dx cs n_row h0 d0 v_size_14 v_place v_row_15 ((l2_9.toUInt32 >>> ((8 : Int32).toUInt32 &&& Int32.toUInt32 31)).toInt32) _ h) [0, 1] [] rfl rfl (by decide) (by decide) (by decide) wM_X0_20 wb_X0_put hy_X0_put (q0 := 0) rfl rfl rfl ⟨Nat.le_of_ble_eq_true rfl, Nat.le_of_ble_eq_true rfl⟩ (Nat.le_of_ble_eq_true rfl) (Nat.le_of_ble_eq_true rfl) (Nat.le_of_ble_eq_true rfl) rfl dX0_putSum_61 (fun v w1 hw => ?_) [] rfl (fun _ _ h => h.elim)
  obtain ⟨v_size_16, v_row_17, rfl, rfl, h⟩ := hw
  refine a_ws (st1 := []) (ws1 := [(h0, oX0 d0 v_size_16 v_place), ((d0 0), aB cs n_row v_row_17)]) 0 0 64 [0, 1] rfl rfl rfl rfl (by decide) rfl ?_
  exact a_return C (pc := 64) rfl dX0_putSum_64 (Nat.le_of_ble_eq_true rfl) (Nat.le_of_ble_eq_true rfl) ⟨_, _, rfl, rfl, h⟩
set_option maxRecDepth 100000 in
set_option maxHeartbeats 4000000 in
theorem w_X5_write_50 {Γ : XG} {Lx : Launch} {Dx : va_G} {cs : Nat → ClassId} {n_a3_row : Nat} {h0 : Nat} {h1 : Nat} {h3 : Nat} {d3 : Nat → Nat} {d1 : Nat → Nat} {d0 : Nat → Nat} {d_gaps : Nat → Nat} {v_a3_place : Int32} {v_a1_bits : Int32} {v_a1_documents : Int32} {v_a1_terms : Int32} {v_a1_segments : Int32} {v_a1_postings : Int32} {v_a1_term : Nat → Int64} {v_a1_firstSegment : Nat → Int32} {v_a1_impact : Nat → Int32} {v_a1_firstPosting : Nat → Int32} {v_a1_document : Nat → Int32} {K_74 : Int32 → (Nat → Int32) → Int32 → (Nat → Int32) → Prop} {Φ : Int32 → (Nat → Int32) → Int32 → (Nat → Int32) → Prop} {k n9 : Nat} (C : CX Γ Lx Dx cs cX5_write RX5 "write" 5 none 5 120 0 0 (qEC cs 0 0 [] (R_X5_write cs n_a3_row h0 h1 h3 d3 d1 d0 d_gaps v_a3_place v_a1_bits v_a1_documents v_a1_terms v_a1_segments v_a1_postings v_a1_term v_a1_firstSegment v_a1_impact v_a1_firstPosting v_a1_document Φ) (fun _ _ => False))) (hkm : k ≤ 0) (hnm : n9 ≤ 0) : ∀ n : Nat, ∀ (v_a3_size : Int32) (v_a3_row : Nat → Int32) (v_gaps_many : Int32) (v_gaps_gap : Nat → Int32) (l2 : Int32) (l4 : Int32), L_X5_write_50 n n_a3_row v_a3_size v_a3_row v_a1_bits v_a1_documents v_a1_terms v_a1_term v_a1_firstSegment v_a1_impact v_a1_firstPosting v_gaps_many v_a1_document v_gaps_gap l2 l4 K_74 Φ → (∀ (v_a3_size_19 : Int32) (v_a3_row_20 : Nat → Int32) (v_gaps_many_21 : Int32) (v_gaps_gap_22 : Nat → Int32), K_74 v_a3_size_19 v_a3_row_20 v_gaps_many_21 v_gaps_gap_22 → AW Γ k n9 74 [(3, .ref h3)] [] [(h3, oX0 d3 v_a3_size_19 v_a3_place), ((d3 0), aB cs n_a3_row v_a3_row_20), (h1, oX4 d1 v_a1_bits v_a1_documents v_a1_terms v_a1_segments v_a1_postings), ((d1 0), aJ cs 64 v_a1_term), ((d1 1), aI cs 65 v_a1_firstSegment), ((d1 2), aI cs 600 v_a1_impact), ((d1 3), aI cs 601 v_a1_firstPosting), (h0, oX5 d0), ((d0 0), oX2 d_gaps v_gaps_many_21), ((d1 4), aI cs 600 v_a1_document), ((d_gaps 0), aI cs 40 v_gaps_gap_22)]) → AW Γ k n9 50 [(0, .ref h0), (1, .ref h1), (2, .int l2), (3, .ref h3), (4, .int l4)] [] [(h3, oX0 d3 v_a3_size v_a3_place), ((d3 0), aB cs n_a3_row v_a3_row), (h1, oX4 d1 v_a1_bits v_a1_documents v_a1_terms v_a1_segments v_a1_postings), ((d1 0), aJ cs 64 v_a1_term), ((d1 1), aI cs 65 v_a1_firstSegment), ((d1 2), aI cs 600 v_a1_impact), ((d1 3), aI cs 601 v_a1_firstPosting), (h0, oX5 d0), ((d0 0), oX2 d_gaps v_gaps_many), ((d1 4), aI cs 600 v_a1_document), ((d_gaps 0), aI cs 40 v_gaps_gap)] := by
  intro n
  induction n with
  | zero =>
    intro v_a3_size v_a3_row v_gaps_many v_gaps_gap l2 l4 h
    exact False.elim h
  | succ n ih =>
    intro v_a3_size v_a3_row v_gaps_many v_gaps_gap l2 l4 h hK_74
    rw [L_X5_write_50] at h
    refine a_iload C (pc := 50) 4 dX5_write_50 rfl ?_
    refine a_aload_n C (pc := 52) 1 dX5_write_52 rfl rfl ?_
    refine a_get C (pc := 53) 2 7 inW_X4 rfl rfl (Nat.le_of_ble_eq_true rfl) wF_X5_43 rfl rfl dX5_write_53 ?_
    refine a_icmp_ge C (pc := 56) 74 dX5_write_56 (by decide) (fun hc => ?_) (fun hc => ?_)
    · have h := h.1 hc
      refine a_lv (lv1 := [(3, .ref h3)]) [3] rfl ?_
      exact hK_74 v_a3_size v_a3_row v_gaps_many v_gaps_gap h
    · have h := h.2 hc
      refine a_aload_n C (pc := 59) 0 dX5_write_59 rfl rfl ?_
      refine a_aload_n C (pc := 60) 1 dX5_write_60 rfl rfl ?_
      refine a_iload C (pc := 61) 4 dX5_write_61 rfl ?_
      refine a_iload_n C (pc := 63) 2 dX5_write_63 rfl rfl ?_
      refine a_aload_n C (pc := 64) 3 dX5_write_64 rfl rfl ?_
      refine a_callV C (pc := 65) (av := [.ref h1, .int l4, .int l2, .ref h3]) (wr := []) (m_X5_writeTerm Lx Dx cs n_a3_row h0 h1 h3 d1 d3 d0 d_gaps v_a1_bits v_a1_documents v_a1_terms v_a1_segments v_a1_postings v_a1_term v_a3_size v_a3_place v_a3_row v_a1_firstSegment v_a1_impact v_a1_firstPosting v_gaps_many v_a1_document v_gaps_gap l4 l2 _ h) [2, 3, 0, 1, 4, 5, 6, 7, 8, 9, 10] [] rfl rfl (by decide) (by decide) (by decide) wM_X5_46 wb_X5_writeTerm hy_X5_writeTerm (q0 := 7) rfl rfl rfl ⟨Nat.le_of_ble_eq_true rfl, Nat.le_of_ble_eq_true rfl⟩ (Nat.le_of_ble_eq_true rfl) hkm hnm rfl dX5_write_65 (fun v w1 hw => ?_) [] rfl (fun _ _ h => h.elim)
      obtain ⟨v_a3_size_15, v_a3_row_16, v_gaps_many_17, v_gaps_gap_18, rfl, rfl, h⟩ := hw
      refine a_ws (st1 := []) (ws1 := [(h3, oX0 d3 v_a3_size_15 v_a3_place), ((d3 0), aB cs n_a3_row v_a3_row_16), (h1, oX4 d1 v_a1_bits v_a1_documents v_a1_terms v_a1_segments v_a1_postings), ((d1 0), aJ cs 64 v_a1_term), ((d1 1), aI cs 65 v_a1_firstSegment), ((d1 2), aI cs 600 v_a1_impact), ((d1 3), aI cs 601 v_a1_firstPosting), (h0, oX5 d0), ((d0 0), oX2 d_gaps v_gaps_many_17), ((d1 4), aI cs 600 v_a1_document), ((d_gaps 0), aI cs 40 v_gaps_gap_18)]) k n9 68 [2, 3, 0, 1, 4, 5, 6, 7, 8, 9, 10] rfl rfl rfl rfl (by decide) rfl ?_
      refine a_iinc C (pc := 68) (lv1 := [(0, .ref h0), (1, .ref h1), (2, .int l2), (3, .ref h3), (4, .int (l4 + 1))]) 4 [1, 2, 3, 4, 0] dX5_write_68 rfl (congrArg (fun z => l4 + z) ic_1) (by decide) rfl ?_
      refine a_goto C (pc := 71) 50 dX5_write_71 (by decide) ?_
      exact ih v_a3_size_15 v_a3_row_16 v_gaps_many_17 v_gaps_gap_18 l2 (l4 + 1) h hK_74
set_option maxRecDepth 100000 in
set_option maxHeartbeats 4000000 in
theorem m_X5_write (Lx : Launch) (Dx : va_G) (cs : Nat → ClassId) (n_a3_row : Nat) (h0 : Nat) (h1 : Nat) (h3 : Nat) (d3 : Nat → Nat) (d1 : Nat → Nat) (d0 : Nat → Nat) (d_gaps : Nat → Nat) (v_a3_size : Int32) (v_a3_place : Int32) (v_a3_row : Nat → Int32) (v_a1_bits : Int32) (v_a1_documents : Int32) (v_a1_terms : Int32) (v_a1_segments : Int32) (v_a1_postings : Int32) (v_a1_term : Nat → Int64) (v_a1_firstSegment : Nat → Int32) (v_a1_impact : Nat → Int32) (v_a1_firstPosting : Nat → Int32) (v_gaps_many : Int32) (v_a1_document : Nat → Int32) (v_gaps_gap : Nat → Int32) (l2 : Int32) (Φ : Int32 → (Nat → Int32) → Int32 → (Nat → Int32) → Prop) (h : P_X5_write n_a3_row v_a3_size v_a3_row v_a1_bits v_a1_documents v_a1_terms v_a1_term v_a1_firstSegment v_a1_impact v_a1_firstPosting v_gaps_many v_a1_document v_gaps_gap l2 Φ) : XMet Lx Dx cs yX5_write cX5_write 5 none 5 120 0 0 [.ref h0, .ref h1, .int l2, .ref h3] [(h3, oX0 d3 v_a3_size v_a3_place), ((d3 0), aB cs n_a3_row v_a3_row), (h1, oX4 d1 v_a1_bits v_a1_documents v_a1_terms v_a1_segments v_a1_postings), ((d1 0), aJ cs 64 v_a1_term), ((d1 1), aI cs 65 v_a1_firstSegment), ((d1 2), aI cs 600 v_a1_impact), ((d1 3), aI cs 601 v_a1_firstPosting), (h0, oX5 d0), ((d0 0), oX2 d_gaps v_gaps_many), ((d1 4), aI cs 600 v_a1_document), ((d_gaps 0), aI cs 40 v_gaps_gap)] (R_X5_write cs n_a3_row h0 h1 h3 d3 d1 d0 d_gaps v_a3_place v_a1_bits v_a1_documents v_a1_terms v_a1_segments v_a1_postings v_a1_term v_a1_firstSegment v_a1_impact v_a1_firstPosting v_a1_document Φ) (fun _ _ => False) := by
  refine XMet.of (own := RX5) (nm := "write") (by decide) rfl rfl (Nat.le_of_ble_eq_true rfl) (fun Γ C => ?_)
  unfold P_X5_write at h
  refine a_aload_n C (pc := 0) 3 dX5_write_0 rfl rfl ?_
  refine a_iconst C (pc := 1) dX5_write_1 ic_0 ?_
  refine a_callV C (pc := 2) (av := [.int 0]) (wr := [((d3 0), aB cs n_a3_row v_a3_row), (h1, oX4 d1 v_a1_bits v_a1_documents v_a1_terms v_a1_segments v_a1_postings), ((d1 0), aJ cs 64 v_a1_term), ((d1 1), aI cs 65 v_a1_firstSegment), ((d1 2), aI cs 600 v_a1_impact), ((d1 3), aI cs 601 v_a1_firstPosting), (h0, oX5 d0), ((d0 0), oX2 d_gaps v_gaps_many), ((d1 4), aI cs 600 v_a1_document), ((d_gaps 0), aI cs 40 v_gaps_gap)]) (m_X0_shorten Lx Dx cs h3 d3 v_a3_size v_a3_place 0 _ h) [0] [1, 2, 3, 4, 5, 6, 7, 8, 9, 10] rfl rfl (by decide) (by decide) (by decide) wM_X5_27 wb_X0_shorten hy_X0_shorten (q0 := 0) rfl rfl rfl ⟨Nat.le_of_ble_eq_true rfl, Nat.le_of_ble_eq_true rfl⟩ (Nat.le_of_ble_eq_true rfl) (Nat.le_of_ble_eq_true rfl) (Nat.le_of_ble_eq_true rfl) rfl dX5_write_2 (fun v w1 hw => ?_) [] rfl (fun _ _ h => h.elim)
  obtain ⟨r_1, v_a3_size_2, rfl, rfl, h⟩ := hw
  refine a_ws (st1 := [.int r_1]) (ws1 := [(h3, oX0 d3 v_a3_size_2 v_a3_place), ((d3 0), aB cs n_a3_row v_a3_row), (h1, oX4 d1 v_a1_bits v_a1_documents v_a1_terms v_a1_segments v_a1_postings), ((d1 0), aJ cs 64 v_a1_term), ((d1 1), aI cs 65 v_a1_firstSegment), ((d1 2), aI cs 600 v_a1_impact), ((d1 3), aI cs 601 v_a1_firstPosting), (h0, oX5 d0), ((d0 0), oX2 d_gaps v_gaps_many), ((d1 4), aI cs 600 v_a1_document), ((d_gaps 0), aI cs 40 v_gaps_gap)]) 0 0 5 [10, 0, 1, 2, 3, 4, 5, 6, 7, 8, 9] rfl rfl rfl rfl (by decide) rfl ?_
  refine a_pop C (pc := 5) dX5_write_5 rfl ?_
  refine a_aload_n C (pc := 6) 3 dX5_write_6 rfl rfl ?_
  refine a_bipush C (pc := 7) dX5_write_7 bp_73 ?_
  refine a_callV C (pc := 9) (av := [.int 73]) (wr := [(h1, oX4 d1 v_a1_bits v_a1_documents v_a1_terms v_a1_segments v_a1_postings), ((d1 0), aJ cs 64 v_a1_term), ((d1 1), aI cs 65 v_a1_firstSegment), ((d1 2), aI cs 600 v_a1_impact), ((d1 3), aI cs 601 v_a1_firstPosting), (h0, oX5 d0), ((d0 0), oX2 d_gaps v_gaps_many), ((d1 4), aI cs 600 v_a1_document), ((d_gaps 0), aI cs 40 v_gaps_gap)]) (m_X0_put Lx Dx cs n_a3_row h3 d3 v_a3_size_2 v_a3_place v_a3_row 73 _ h) [0, 1] [2, 3, 4, 5, 6, 7, 8, 9, 10] rfl rfl (by decide) (by decide) (by decide) wM_X5_31 wb_X0_put hy_X0_put (q0 := 0) rfl rfl rfl ⟨Nat.le_of_ble_eq_true rfl, Nat.le_of_ble_eq_true rfl⟩ (Nat.le_of_ble_eq_true rfl) (Nat.le_of_ble_eq_true rfl) (Nat.le_of_ble_eq_true rfl) rfl dX5_write_9 (fun v w1 hw => ?_) [] rfl (fun _ _ h => h.elim)
  obtain ⟨v_a3_size_3, v_a3_row_4, rfl, rfl, h⟩ := hw
  refine a_ws (st1 := []) (ws1 := [(h3, oX0 d3 v_a3_size_3 v_a3_place), ((d3 0), aB cs n_a3_row v_a3_row_4), (h1, oX4 d1 v_a1_bits v_a1_documents v_a1_terms v_a1_segments v_a1_postings), ((d1 0), aJ cs 64 v_a1_term), ((d1 1), aI cs 65 v_a1_firstSegment), ((d1 2), aI cs 600 v_a1_impact), ((d1 3), aI cs 601 v_a1_firstPosting), (h0, oX5 d0), ((d0 0), oX2 d_gaps v_gaps_many), ((d1 4), aI cs 600 v_a1_document), ((d_gaps 0), aI cs 40 v_gaps_gap)]) 0 0 12 [9, 10, 0, 1, 2, 3, 4, 5, 6, 7, 8] rfl rfl rfl rfl (by decide) rfl ?_
  refine a_aload_n C (pc := 12) 3 dX5_write_12 rfl rfl ?_
  refine a_bipush C (pc := 13) dX5_write_13 bp_109 ?_
  refine a_callV C (pc := 15) (av := [.int 109]) (wr := [(h1, oX4 d1 v_a1_bits v_a1_documents v_a1_terms v_a1_segments v_a1_postings), ((d1 0), aJ cs 64 v_a1_term), ((d1 1), aI cs 65 v_a1_firstSegment), ((d1 2), aI cs 600 v_a1_impact), ((d1 3), aI cs 601 v_a1_firstPosting), (h0, oX5 d0), ((d0 0), oX2 d_gaps v_gaps_many), ((d1 4), aI cs 600 v_a1_document), ((d_gaps 0), aI cs 40 v_gaps_gap)]) (m_X0_put Lx Dx cs n_a3_row h3 d3 v_a3_size_3 v_a3_place v_a3_row_4 109 _ h) [0, 1] [2, 3, 4, 5, 6, 7, 8, 9, 10] rfl rfl (by decide) (by decide) (by decide) wM_X5_31 wb_X0_put hy_X0_put (q0 := 0) rfl rfl rfl ⟨Nat.le_of_ble_eq_true rfl, Nat.le_of_ble_eq_true rfl⟩ (Nat.le_of_ble_eq_true rfl) (Nat.le_of_ble_eq_true rfl) (Nat.le_of_ble_eq_true rfl) rfl dX5_write_15 (fun v w1 hw => ?_) [] rfl (fun _ _ h => h.elim)
  obtain ⟨v_a3_size_5, v_a3_row_6, rfl, rfl, h⟩ := hw
  refine a_ws (st1 := []) (ws1 := [(h3, oX0 d3 v_a3_size_5 v_a3_place), ((d3 0), aB cs n_a3_row v_a3_row_6), (h1, oX4 d1 v_a1_bits v_a1_documents v_a1_terms v_a1_segments v_a1_postings), ((d1 0), aJ cs 64 v_a1_term), ((d1 1), aI cs 65 v_a1_firstSegment), ((d1 2), aI cs 600 v_a1_impact), ((d1 3), aI cs 601 v_a1_firstPosting), (h0, oX5 d0), ((d0 0), oX2 d_gaps v_gaps_many), ((d1 4), aI cs 600 v_a1_document), ((d_gaps 0), aI cs 40 v_gaps_gap)]) 0 0 18 [9, 10, 0, 1, 2, 3, 4, 5, 6, 7, 8] rfl rfl rfl rfl (by decide) rfl ?_
  refine a_aload_n C (pc := 18) 3 dX5_write_18 rfl rfl ?_
  refine a_aload_n C (pc := 19) 1 dX5_write_19 rfl rfl ?_
  refine a_get C (pc := 20) 2 5 inW_X4 rfl rfl (Nat.le_of_ble_eq_true rfl) wF_X5_34 rfl rfl dX5_write_20 ?_
  refine a_callV C (pc := 23) (av := [.int v_a1_bits]) (wr := [(h1, oX4 d1 v_a1_bits v_a1_documents v_a1_terms v_a1_segments v_a1_postings), ((d1 0), aJ cs 64 v_a1_term), ((d1 1), aI cs 65 v_a1_firstSegment), ((d1 2), aI cs 600 v_a1_impact), ((d1 3), aI cs 601 v_a1_firstPosting), (h0, oX5 d0), ((d0 0), oX2 d_gaps v_gaps_many), ((d1 4), aI cs 600 v_a1_document), ((d_gaps 0), aI cs 40 v_gaps_gap)]) (m_X0_put Lx Dx cs n_a3_row h3 d3 v_a3_size_5 v_a3_place v_a3_row_6 v_a1_bits _ h) [0, 1] [2, 3, 4, 5, 6, 7, 8, 9, 10] rfl rfl (by decide) (by decide) (by decide) wM_X5_31 wb_X0_put hy_X0_put (q0 := 0) rfl rfl rfl ⟨Nat.le_of_ble_eq_true rfl, Nat.le_of_ble_eq_true rfl⟩ (Nat.le_of_ble_eq_true rfl) (Nat.le_of_ble_eq_true rfl) (Nat.le_of_ble_eq_true rfl) rfl dX5_write_23 (fun v w1 hw => ?_) [] rfl (fun _ _ h => h.elim)
  obtain ⟨v_a3_size_7, v_a3_row_8, rfl, rfl, h⟩ := hw
  refine a_ws (st1 := []) (ws1 := [(h3, oX0 d3 v_a3_size_7 v_a3_place), ((d3 0), aB cs n_a3_row v_a3_row_8), (h1, oX4 d1 v_a1_bits v_a1_documents v_a1_terms v_a1_segments v_a1_postings), ((d1 0), aJ cs 64 v_a1_term), ((d1 1), aI cs 65 v_a1_firstSegment), ((d1 2), aI cs 600 v_a1_impact), ((d1 3), aI cs 601 v_a1_firstPosting), (h0, oX5 d0), ((d0 0), oX2 d_gaps v_gaps_many), ((d1 4), aI cs 600 v_a1_document), ((d_gaps 0), aI cs 40 v_gaps_gap)]) 0 0 26 [9, 10, 0, 1, 2, 3, 4, 5, 6, 7, 8] rfl rfl rfl rfl (by decide) rfl ?_
  refine a_aload_n C (pc := 26) 3 dX5_write_26 rfl rfl ?_
  refine a_iload_n C (pc := 27) 2 dX5_write_27 rfl rfl ?_
  refine a_callV C (pc := 28) (av := [.int l2]) (wr := [(h1, oX4 d1 v_a1_bits v_a1_documents v_a1_terms v_a1_segments v_a1_postings), ((d1 0), aJ cs 64 v_a1_term), ((d1 1), aI cs 65 v_a1_firstSegment), ((d1 2), aI cs 600 v_a1_impact), ((d1 3), aI cs 601 v_a1_firstPosting), (h0, oX5 d0), ((d0 0), oX2 d_gaps v_gaps_many), ((d1 4), aI cs 600 v_a1_document), ((d_gaps 0), aI cs 40 v_gaps_gap)]) (m_X0_put Lx Dx cs n_a3_row h3 d3 v_a3_size_7 v_a3_place v_a3_row_8 l2 _ h) [0, 1] [2, 3, 4, 5, 6, 7, 8, 9, 10] rfl rfl (by decide) (by decide) (by decide) wM_X5_31 wb_X0_put hy_X0_put (q0 := 0) rfl rfl rfl ⟨Nat.le_of_ble_eq_true rfl, Nat.le_of_ble_eq_true rfl⟩ (Nat.le_of_ble_eq_true rfl) (Nat.le_of_ble_eq_true rfl) (Nat.le_of_ble_eq_true rfl) rfl dX5_write_28 (fun v w1 hw => ?_) [] rfl (fun _ _ h => h.elim)
  obtain ⟨v_a3_size_9, v_a3_row_10, rfl, rfl, h⟩ := hw
  refine a_ws (st1 := []) (ws1 := [(h3, oX0 d3 v_a3_size_9 v_a3_place), ((d3 0), aB cs n_a3_row v_a3_row_10), (h1, oX4 d1 v_a1_bits v_a1_documents v_a1_terms v_a1_segments v_a1_postings), ((d1 0), aJ cs 64 v_a1_term), ((d1 1), aI cs 65 v_a1_firstSegment), ((d1 2), aI cs 600 v_a1_impact), ((d1 3), aI cs 601 v_a1_firstPosting), (h0, oX5 d0), ((d0 0), oX2 d_gaps v_gaps_many), ((d1 4), aI cs 600 v_a1_document), ((d_gaps 0), aI cs 40 v_gaps_gap)]) 0 0 31 [9, 10, 0, 1, 2, 3, 4, 5, 6, 7, 8] rfl rfl rfl rfl (by decide) rfl ?_
  refine a_aload_n C (pc := 31) 3 dX5_write_31 rfl rfl ?_
  refine a_aload_n C (pc := 32) 1 dX5_write_32 rfl rfl ?_
  refine a_get C (pc := 33) 2 6 inW_X4 rfl rfl (Nat.le_of_ble_eq_true rfl) wF_X5_40 rfl rfl dX5_write_33 ?_
  refine a_callV C (pc := 36) (av := [.int v_a1_documents]) (wr := [(h1, oX4 d1 v_a1_bits v_a1_documents v_a1_terms v_a1_segments v_a1_postings), ((d1 0), aJ cs 64 v_a1_term), ((d1 1), aI cs 65 v_a1_firstSegment), ((d1 2), aI cs 600 v_a1_impact), ((d1 3), aI cs 601 v_a1_firstPosting), (h0, oX5 d0), ((d0 0), oX2 d_gaps v_gaps_many), ((d1 4), aI cs 600 v_a1_document), ((d_gaps 0), aI cs 40 v_gaps_gap)]) (m_X0_put Lx Dx cs n_a3_row h3 d3 v_a3_size_9 v_a3_place v_a3_row_10 v_a1_documents _ h) [0, 1] [2, 3, 4, 5, 6, 7, 8, 9, 10] rfl rfl (by decide) (by decide) (by decide) wM_X5_31 wb_X0_put hy_X0_put (q0 := 0) rfl rfl rfl ⟨Nat.le_of_ble_eq_true rfl, Nat.le_of_ble_eq_true rfl⟩ (Nat.le_of_ble_eq_true rfl) (Nat.le_of_ble_eq_true rfl) (Nat.le_of_ble_eq_true rfl) rfl dX5_write_36 (fun v w1 hw => ?_) [] rfl (fun _ _ h => h.elim)
  obtain ⟨v_a3_size_11, v_a3_row_12, rfl, rfl, h⟩ := hw
  refine a_ws (st1 := []) (ws1 := [(h3, oX0 d3 v_a3_size_11 v_a3_place), ((d3 0), aB cs n_a3_row v_a3_row_12), (h1, oX4 d1 v_a1_bits v_a1_documents v_a1_terms v_a1_segments v_a1_postings), ((d1 0), aJ cs 64 v_a1_term), ((d1 1), aI cs 65 v_a1_firstSegment), ((d1 2), aI cs 600 v_a1_impact), ((d1 3), aI cs 601 v_a1_firstPosting), (h0, oX5 d0), ((d0 0), oX2 d_gaps v_gaps_many), ((d1 4), aI cs 600 v_a1_document), ((d_gaps 0), aI cs 40 v_gaps_gap)]) 0 0 39 [9, 10, 0, 1, 2, 3, 4, 5, 6, 7, 8] rfl rfl rfl rfl (by decide) rfl ?_
  refine a_aload_n C (pc := 39) 3 dX5_write_39 rfl rfl ?_
  refine a_aload_n C (pc := 40) 1 dX5_write_40 rfl rfl ?_
  refine a_get C (pc := 41) 2 7 inW_X4 rfl rfl (Nat.le_of_ble_eq_true rfl) wF_X5_43 rfl rfl dX5_write_41 ?_
  refine a_callV C (pc := 44) (av := [.int v_a1_terms]) (wr := [(h1, oX4 d1 v_a1_bits v_a1_documents v_a1_terms v_a1_segments v_a1_postings), ((d1 0), aJ cs 64 v_a1_term), ((d1 1), aI cs 65 v_a1_firstSegment), ((d1 2), aI cs 600 v_a1_impact), ((d1 3), aI cs 601 v_a1_firstPosting), (h0, oX5 d0), ((d0 0), oX2 d_gaps v_gaps_many), ((d1 4), aI cs 600 v_a1_document), ((d_gaps 0), aI cs 40 v_gaps_gap)]) (m_X0_put Lx Dx cs n_a3_row h3 d3 v_a3_size_11 v_a3_place v_a3_row_12 v_a1_terms _ h) [0, 1] [2, 3, 4, 5, 6, 7, 8, 9, 10] rfl rfl (by decide) (by decide) (by decide) wM_X5_31 wb_X0_put hy_X0_put (q0 := 0) rfl rfl rfl ⟨Nat.le_of_ble_eq_true rfl, Nat.le_of_ble_eq_true rfl⟩ (Nat.le_of_ble_eq_true rfl) (Nat.le_of_ble_eq_true rfl) (Nat.le_of_ble_eq_true rfl) rfl dX5_write_44 (fun v w1 hw => ?_) [] rfl (fun _ _ h => h.elim)
  obtain ⟨v_a3_size_13, v_a3_row_14, rfl, rfl, h⟩ := hw
  refine a_ws (st1 := []) (ws1 := [(h3, oX0 d3 v_a3_size_13 v_a3_place), ((d3 0), aB cs n_a3_row v_a3_row_14), (h1, oX4 d1 v_a1_bits v_a1_documents v_a1_terms v_a1_segments v_a1_postings), ((d1 0), aJ cs 64 v_a1_term), ((d1 1), aI cs 65 v_a1_firstSegment), ((d1 2), aI cs 600 v_a1_impact), ((d1 3), aI cs 601 v_a1_firstPosting), (h0, oX5 d0), ((d0 0), oX2 d_gaps v_gaps_many), ((d1 4), aI cs 600 v_a1_document), ((d_gaps 0), aI cs 40 v_gaps_gap)]) 0 0 47 [9, 10, 0, 1, 2, 3, 4, 5, 6, 7, 8] rfl rfl rfl rfl (by decide) rfl ?_
  refine a_iconst C (pc := 47) dX5_write_47 ic_0 ?_
  refine a_istore C (pc := 48) (lv1 := [(0, .ref h0), (1, .ref h1), (2, .int l2), (3, .ref h3), (4, .int 0)]) [1, 2, 3, 4, 0] dX5_write_48 (by decide) rfl ?_
  obtain ⟨n0, h⟩ := h
  refine w_X5_write_50 C (Nat.le_of_ble_eq_true rfl) (Nat.le_of_ble_eq_true rfl) n0 v_a3_size_13 v_a3_row_14 v_gaps_many v_gaps_gap l2 0 h ?_
  intro v_a3_size_23 v_a3_row_24 v_gaps_many_25 v_gaps_gap_26 h
  refine a_aload_n C (pc := 74) 0 dX5_write_74 rfl rfl ?_
  refine a_callV C (pc := 75) (av := []) (wr := [(h1, oX4 d1 v_a1_bits v_a1_documents v_a1_terms v_a1_segments v_a1_postings), ((d1 0), aJ cs 64 v_a1_term), ((d1 1), aI cs 65 v_a1_firstSegment), ((d1 2), aI cs 600 v_a1_impact), ((d1 3), aI cs 601 v_a1_firstPosting), (h0, oX5 d0), ((d0 0), oX2 d_gaps v_gaps_many_25), ((d1 4), aI cs 600 v_a1_document), ((d_gaps 0), aI cs 40 v_gaps_gap_26)]) (m_X0_putSum Lx Dx cs n_a3_row h3 d3 v_a3_size_23 v_a3_place v_a3_row_24 _ h) [0, 1] [2, 3, 4, 5, 6, 7, 8, 9, 10] rfl rfl (by decide) (by decide) (by decide) wM_X5_50 wb_X0_putSum hy_X0_putSum (q0 := 0) rfl rfl rfl ⟨Nat.le_of_ble_eq_true rfl, Nat.le_of_ble_eq_true rfl⟩ (Nat.le_of_ble_eq_true rfl) (Nat.le_of_ble_eq_true rfl) (Nat.le_of_ble_eq_true rfl) rfl dX5_write_75 (fun v w1 hw => ?_) [] rfl (fun _ _ h => h.elim)
  obtain ⟨v_a3_size_27, v_a3_row_28, rfl, rfl, h⟩ := hw
  refine a_ws (st1 := []) (ws1 := [(h3, oX0 d3 v_a3_size_27 v_a3_place), ((d3 0), aB cs n_a3_row v_a3_row_28), (h1, oX4 d1 v_a1_bits v_a1_documents v_a1_terms v_a1_segments v_a1_postings), ((d1 0), aJ cs 64 v_a1_term), ((d1 1), aI cs 65 v_a1_firstSegment), ((d1 2), aI cs 600 v_a1_impact), ((d1 3), aI cs 601 v_a1_firstPosting), (h0, oX5 d0), ((d0 0), oX2 d_gaps v_gaps_many_25), ((d1 4), aI cs 600 v_a1_document), ((d_gaps 0), aI cs 40 v_gaps_gap_26)]) 0 0 78 [9, 10, 0, 1, 2, 3, 4, 5, 6, 7, 8] rfl rfl rfl rfl (by decide) rfl ?_
  exact a_return C (pc := 78) rfl dX5_write_78 (Nat.le_of_ble_eq_true rfl) (Nat.le_of_ble_eq_true rfl) ⟨_, _, _, _, rfl, rfl, h⟩
set_option maxRecDepth 100000 in
set_option maxHeartbeats 4000000 in
theorem m_X8_build (Lx : Launch) (Dx : va_G) (cs : Nat → ClassId) (h0 : Nat) (hdr : Nat) (d0 : Nat → Nat) (d_collection : Nat → Nat) (d_draft : Nat → Nat) (d_file : Nat → Nat) (d_indexFile : Nat → Nat) (d_indexFile_gaps : Nat → Nat) (v_ticks : Int64) (v_collection_documents : Int32) (v_collection_terms : Int32) (v_collection_postings : Int32) (v_collection_lengthOfAll : Int32) (v_collection_times : Nat → Int32) (v_collection_inDocuments : Nat → Int32) (v_collection_length : Nat → Int32) (v_collection_scores : Nat → UInt64) (v_draft_bits : Int32) (v_draft_documents : Int32) (v_draft_terms : Int32) (v_draft_segments : Int32) (v_draft_postings : Int32) (v_collection_impacts : Nat → Int32) (v_collection_term : Nat → Int64) (v_draft_term : Nat → Int64) (v_draft_firstSegment : Nat → Int32) (v_draft_impact : Nat → Int32) (v_draft_firstPosting : Nat → Int32) (v_draft_document : Nat → Int32) (v_file_size : Int32) (v_file_place : Int32) (v_file_row : Nat → Int32) (v_indexFile_gaps_many : Int32) (v_indexFile_gaps_gap : Nat → Int32) (l1 : Int32) (l2 : Int32) (Φ : Int32 → (Nat → UInt64) → Int32 → Int32 → Int32 → Int32 → Int32 → (Nat → Int32) → (Nat → Int64) → (Nat → Int32) → (Nat → Int32) → (Nat → Int32) → (Nat → Int32) → Int32 → (Nat → Int32) → Int32 → (Nat → Int32) → Prop) (X : String → (Nat → UInt64) → Int32 → Int32 → Int32 → Int32 → Int32 → (Nat → Int32) → (Nat → Int64) → (Nat → Int32) → (Nat → Int32) → (Nat → Int32) → (Nat → Int32) → Int32 → (Nat → Int32) → Int32 → (Nat → Int32) → Prop) (h : P_X8_build v_collection_documents v_collection_terms v_collection_lengthOfAll v_collection_times v_collection_inDocuments v_collection_length v_collection_scores v_draft_bits v_draft_documents v_draft_terms v_draft_segments v_draft_postings v_collection_impacts v_collection_term v_draft_term v_draft_firstSegment v_draft_impact v_draft_firstPosting v_draft_document v_file_size v_file_row v_indexFile_gaps_many v_indexFile_gaps_gap l1 l2 Φ X) : XMet Lx Dx cs yX8_build cX8_build 3 (some .int) 6 144 1 6 [.ref h0, .int l1, .int l2] [(h0, oX8 d0 hdr v_ticks), ((d0 2), oX1 d_collection v_collection_documents v_collection_terms v_collection_postings v_collection_lengthOfAll), ((d_collection 2), aI cs 2560 v_collection_times), ((d_collection 1), aI cs 64 v_collection_inDocuments), ((d_collection 5), aI cs 40 v_collection_length), ((d_collection 3), aD cs 2560 v_collection_scores), (hdr, oX4 d_draft v_draft_bits v_draft_documents v_draft_terms v_draft_segments v_draft_postings), ((d_collection 4), aI cs 40 v_collection_impacts), ((d_collection 0), aJ cs 64 v_collection_term), ((d_draft 0), aJ cs 64 v_draft_term), ((d_draft 1), aI cs 65 v_draft_firstSegment), ((d_draft 2), aI cs 600 v_draft_impact), ((d_draft 3), aI cs 601 v_draft_firstPosting), ((d_draft 4), aI cs 600 v_draft_document), ((d0 3), oX0 d_file v_file_size v_file_place), ((d_file 0), aB cs 6650 v_file_row), ((d0 4), oX5 d_indexFile), ((d_indexFile 0), oX2 d_indexFile_gaps v_indexFile_gaps_many), ((d_indexFile_gaps 0), aI cs 40 v_indexFile_gaps_gap)] (R_X8_build cs h0 hdr d0 d_collection d_draft d_file d_indexFile d_indexFile_gaps v_ticks v_collection_documents v_collection_terms v_collection_postings v_collection_lengthOfAll v_collection_times v_collection_inDocuments v_collection_length v_collection_term v_file_place Φ) (Y_X8_build cs h0 hdr d0 d_collection d_draft d_file d_indexFile d_indexFile_gaps v_ticks v_collection_documents v_collection_terms v_collection_postings v_collection_lengthOfAll v_collection_times v_collection_inDocuments v_collection_length v_collection_term v_file_place X) := by
  refine XMet.of (own := RX8) (nm := "build") (by decide) rfl rfl (Nat.le_of_ble_eq_true rfl) (fun Γ C => ?_)
  unfold P_X8_build at h
  refine a_iload_n C (pc := 0) 1 dX8_build_0 rfl rfl ?_
  refine a_iconst C (pc := 1) dX8_build_1 ic_2 ?_
  refine a_icmp_lt C (pc := 2) 20 dX8_build_2 (by decide) (fun hc => ?_) (fun hc => ?_)
  · have h := h.1 hc
    exact a_throw C (pc := 20) (by decide +kernel) wK_X8_67 wI_IllegalArgumentException atg_X8_69 atn_X8_69 (by decide +kernel) dX8_build_20 dX8_build_23 dX8_build_24 dX8_build_27 (Nat.le_of_ble_eq_true rfl) (Nat.le_of_ble_eq_true rfl) (Nat.le_of_ble_eq_true rfl) (Nat.le_of_ble_eq_true rfl) ⟨_, _, _, _, _, _, _, _, _, _, _, _, _, _, _, _, rfl, h⟩
  · have h := h.2 hc
    refine a_iload_n C (pc := 5) 1 dX8_build_5 rfl rfl ?_
    refine a_bipush C (pc := 6) dX8_build_6 bp_8 ?_
    refine a_icmp_gt C (pc := 8) 20 dX8_build_8 (by decide) (fun hc => ?_) (fun hc => ?_)
    · have h := h.1 hc
      exact a_throw C (pc := 20) (by decide +kernel) wK_X8_67 wI_IllegalArgumentException atg_X8_69 atn_X8_69 (by decide +kernel) dX8_build_20 dX8_build_23 dX8_build_24 dX8_build_27 (Nat.le_of_ble_eq_true rfl) (Nat.le_of_ble_eq_true rfl) (Nat.le_of_ble_eq_true rfl) (Nat.le_of_ble_eq_true rfl) ⟨_, _, _, _, _, _, _, _, _, _, _, _, _, _, _, _, rfl, h⟩
    · have h := h.2 hc
      refine a_iload_n C (pc := 11) 2 dX8_build_11 rfl rfl ?_
      refine a_if_lt C (pc := 12) 20 dX8_build_12 (by decide) (fun hc => ?_) (fun hc => ?_)
      · have h := h.1 hc
        exact a_throw C (pc := 20) (by decide +kernel) wK_X8_67 wI_IllegalArgumentException atg_X8_69 atn_X8_69 (by decide +kernel) dX8_build_20 dX8_build_23 dX8_build_24 dX8_build_27 (Nat.le_of_ble_eq_true rfl) (Nat.le_of_ble_eq_true rfl) (Nat.le_of_ble_eq_true rfl) (Nat.le_of_ble_eq_true rfl) ⟨_, _, _, _, _, _, _, _, _, _, _, _, _, _, _, _, rfl, h⟩
      · have h := h.2 hc
        refine a_iload_n C (pc := 15) 2 dX8_build_15 rfl rfl ?_
        refine a_iconst C (pc := 16) dX8_build_16 ic_3 ?_
        refine a_icmp_lt C (pc := 17) 28 dX8_build_17 (by decide) (fun hc => ?_) (fun hc => ?_)
        · have h := h.1 hc
          refine a_aload_n C (pc := 28) 0 dX8_build_28 rfl rfl ?_
          refine a_get C (pc := 29) 0 2 inW_X8 rfl rfl (Nat.le_of_ble_eq_true rfl) wF_X8_28 rfl rfl dX8_build_29 ?_
          refine a_get C (pc := 32) 1 6 inW_X1 rfl rfl (Nat.le_of_ble_eq_true rfl) wF_X8_98 rfl rfl dX8_build_32 ?_
          refine a_if_ne C (pc := 35) 46 dX8_build_35 (by decide) (fun hc => ?_) (fun hc => ?_)
          · have h := h.1 hc
            refine a_aload_n C (pc := 46) 0 dX8_build_46 rfl rfl ?_
            refine a_get C (pc := 47) 0 2 inW_X8 rfl rfl (Nat.le_of_ble_eq_true rfl) wF_X8_28 rfl rfl dX8_build_47 ?_
            refine a_iload_n C (pc := 50) 1 dX8_build_50 rfl rfl ?_
            refine a_aload_n C (pc := 51) 0 dX8_build_51 rfl rfl ?_
            refine a_get C (pc := 52) 0 7 inW_X8 rfl rfl (Nat.le_of_ble_eq_true rfl) wF_X8_59 rfl rfl dX8_build_52 ?_
            refine a_callV C (pc := 55) (av := [.int l1, .ref hdr]) (wr := [(h0, oX8 d0 hdr v_ticks), ((d0 3), oX0 d_file v_file_size v_file_place), ((d_file 0), aB cs 6650 v_file_row), ((d0 4), oX5 d_indexFile), ((d_indexFile 0), oX2 d_indexFile_gaps v_indexFile_gaps_many), ((d_indexFile_gaps 0), aI cs 40 v_indexFile_gaps_gap)]) (m_X1_makeIndex Lx Dx cs (d0 2) hdr d_collection d_draft v_collection_documents v_collection_terms v_collection_postings v_collection_lengthOfAll v_collection_times v_collection_inDocuments v_collection_length v_collection_scores v_draft_bits v_draft_documents v_draft_terms v_draft_segments v_draft_postings v_collection_impacts v_collection_term v_draft_term v_draft_firstSegment v_draft_impact v_draft_firstPosting v_draft_document l1 _ h) [1, 2, 3, 4, 5, 6, 7, 8, 9, 10, 11, 12, 13] [0, 14, 15, 16, 17, 18] rfl rfl (by decide) (by decide) (by decide) wM_X8_121 wb_X1_makeIndex hy_X1_makeIndex (q0 := 1) rfl rfl rfl ⟨Nat.le_of_ble_eq_true rfl, Nat.le_of_ble_eq_true rfl⟩ (Nat.le_of_ble_eq_true rfl) (Nat.le_of_ble_eq_true rfl) (Nat.le_of_ble_eq_true rfl) rfl dX8_build_55 (fun v w1 hw => ?_) [] rfl (fun _ _ h => h.elim)
            obtain ⟨v_collection_scores_1, v_draft_bits_2, v_draft_documents_3, v_draft_terms_4, v_draft_segments_5, v_draft_postings_6, v_collection_impacts_7, v_draft_term_8, v_draft_firstSegment_9, v_draft_impact_10, v_draft_firstPosting_11, v_draft_document_12, rfl, rfl, h⟩ := hw
            refine a_ws (st1 := []) (ws1 := [(h0, oX8 d0 hdr v_ticks), ((d0 2), oX1 d_collection v_collection_documents v_collection_terms v_collection_postings v_collection_lengthOfAll), ((d_collection 2), aI cs 2560 v_collection_times), ((d_collection 1), aI cs 64 v_collection_inDocuments), ((d_collection 5), aI cs 40 v_collection_length), ((d_collection 3), aD cs 2560 v_collection_scores_1), (hdr, oX4 d_draft v_draft_bits_2 v_draft_documents_3 v_draft_terms_4 v_draft_segments_5 v_draft_postings_6), ((d_collection 4), aI cs 40 v_collection_impacts_7), ((d_collection 0), aJ cs 64 v_collection_term), ((d_draft 0), aJ cs 64 v_draft_term_8), ((d_draft 1), aI cs 65 v_draft_firstSegment_9), ((d_draft 2), aI cs 600 v_draft_impact_10), ((d_draft 3), aI cs 601 v_draft_firstPosting_11), ((d_draft 4), aI cs 600 v_draft_document_12), ((d0 3), oX0 d_file v_file_size v_file_place), ((d_file 0), aB cs 6650 v_file_row), ((d0 4), oX5 d_indexFile), ((d_indexFile 0), oX2 d_indexFile_gaps v_indexFile_gaps_many), ((d_indexFile_gaps 0), aI cs 40 v_indexFile_gaps_gap)]) 0 0 58 [0, 6, 7, 8, 9, 10, 11, 12, 13, 14, 15, 16, 17, 18, 1, 2, 3, 4, 5] rfl rfl rfl rfl (by decide) rfl ?_
            refine a_aload_n C (pc := 58) 0 dX8_build_58 rfl rfl ?_
            refine a_get C (pc := 59) 0 4 inW_X8 rfl rfl (Nat.le_of_ble_eq_true rfl) wF_X8_38 rfl rfl dX8_build_59 ?_
            refine a_aload_n C (pc := 62) 0 dX8_build_62 rfl rfl ?_
            refine a_get C (pc := 63) 0 7 inW_X8 rfl rfl (Nat.le_of_ble_eq_true rfl) wF_X8_59 rfl rfl dX8_build_63 ?_
            refine a_iload_n C (pc := 66) 2 dX8_build_66 rfl rfl ?_
            refine a_aload_n C (pc := 67) 0 dX8_build_67 rfl rfl ?_
            refine a_get C (pc := 68) 0 3 inW_X8 rfl rfl (Nat.le_of_ble_eq_true rfl) wF_X8_32 rfl rfl dX8_build_68 ?_
            refine a_callV C (pc := 71) (av := [.ref hdr, .int l2, .ref (d0 3)]) (wr := [(h0, oX8 d0 hdr v_ticks), ((d0 2), oX1 d_collection v_collection_documents v_collection_terms v_collection_postings v_collection_lengthOfAll), ((d_collection 2), aI cs 2560 v_collection_times), ((d_collection 1), aI cs 64 v_collection_inDocuments), ((d_collection 5), aI cs 40 v_collection_length), ((d_collection 3), aD cs 2560 v_collection_scores_1), ((d_collection 4), aI cs 40 v_collection_impacts_7), ((d_collection 0), aJ cs 64 v_collection_term)]) (m_X5_write Lx Dx cs 6650 (d0 4) hdr (d0 3) d_file d_draft d_indexFile d_indexFile_gaps v_file_size v_file_place v_file_row v_draft_bits_2 v_draft_documents_3 v_draft_terms_4 v_draft_segments_5 v_draft_postings_6 v_draft_term_8 v_draft_firstSegment_9 v_draft_impact_10 v_draft_firstPosting_11 v_indexFile_gaps_many v_draft_document_12 v_indexFile_gaps_gap l2 _ h) [14, 15, 6, 9, 10, 11, 12, 16, 17, 13, 18] [0, 1, 2, 3, 4, 5, 7, 8] rfl rfl (by decide) (by decide) (by decide) wM_X8_125 wb_X5_write hy_X5_write (q0 := 16) rfl rfl rfl ⟨Nat.le_of_ble_eq_true rfl, Nat.le_of_ble_eq_true rfl⟩ (Nat.le_of_ble_eq_true rfl) (Nat.le_of_ble_eq_true rfl) (Nat.le_of_ble_eq_true rfl) rfl dX8_build_71 (fun v w1 hw => ?_) [] rfl (fun _ _ h => h.elim)
            obtain ⟨v_file_size_13, v_file_row_14, v_indexFile_gaps_many_15, v_indexFile_gaps_gap_16, rfl, rfl, h⟩ := hw
            refine a_ws (st1 := []) (ws1 := [(h0, oX8 d0 hdr v_ticks), ((d0 2), oX1 d_collection v_collection_documents v_collection_terms v_collection_postings v_collection_lengthOfAll), ((d_collection 2), aI cs 2560 v_collection_times), ((d_collection 1), aI cs 64 v_collection_inDocuments), ((d_collection 5), aI cs 40 v_collection_length), ((d_collection 3), aD cs 2560 v_collection_scores_1), (hdr, oX4 d_draft v_draft_bits_2 v_draft_documents_3 v_draft_terms_4 v_draft_segments_5 v_draft_postings_6), ((d_collection 4), aI cs 40 v_collection_impacts_7), ((d_collection 0), aJ cs 64 v_collection_term), ((d_draft 0), aJ cs 64 v_draft_term_8), ((d_draft 1), aI cs 65 v_draft_firstSegment_9), ((d_draft 2), aI cs 600 v_draft_impact_10), ((d_draft 3), aI cs 601 v_draft_firstPosting_11), ((d_draft 4), aI cs 600 v_draft_document_12), ((d0 3), oX0 d_file v_file_size_13 v_file_place), ((d_file 0), aB cs 6650 v_file_row_14), ((d0 4), oX5 d_indexFile), ((d_indexFile 0), oX2 d_indexFile_gaps v_indexFile_gaps_many_15), ((d_indexFile_gaps 0), aI cs 40 v_indexFile_gaps_gap_16)]) 0 0 74 [0, 1, 2, 3, 4, 5, 10, 6, 7, 11, 12, 13, 14, 17, 8, 9, 15, 16, 18] rfl rfl rfl rfl (by decide) rfl ?_
            refine a_aload_n C (pc := 74) 0 dX8_build_74 rfl rfl ?_
            refine a_get C (pc := 75) 0 3 inW_X8 rfl rfl (Nat.le_of_ble_eq_true rfl) wF_X8_32 rfl rfl dX8_build_75 ?_
            refine a_callV C (pc := 78) (av := []) (wr := [(h0, oX8 d0 hdr v_ticks), ((d0 2), oX1 d_collection v_collection_documents v_collection_terms v_collection_postings v_collection_lengthOfAll), ((d_collection 2), aI cs 2560 v_collection_times), ((d_collection 1), aI cs 64 v_collection_inDocuments), ((d_collection 5), aI cs 40 v_collection_length), ((d_collection 3), aD cs 2560 v_collection_scores_1), (hdr, oX4 d_draft v_draft_bits_2 v_draft_documents_3 v_draft_terms_4 v_draft_segments_5 v_draft_postings_6), ((d_collection 4), aI cs 40 v_collection_impacts_7), ((d_collection 0), aJ cs 64 v_collection_term), ((d_draft 0), aJ cs 64 v_draft_term_8), ((d_draft 1), aI cs 65 v_draft_firstSegment_9), ((d_draft 2), aI cs 600 v_draft_impact_10), ((d_draft 3), aI cs 601 v_draft_firstPosting_11), ((d_draft 4), aI cs 600 v_draft_document_12), ((d_file 0), aB cs 6650 v_file_row_14), ((d0 4), oX5 d_indexFile), ((d_indexFile 0), oX2 d_indexFile_gaps v_indexFile_gaps_many_15), ((d_indexFile_gaps 0), aI cs 40 v_indexFile_gaps_gap_16)]) (m_X0_size Lx Dx cs (d0 3) d_file v_file_size_13 v_file_place _ h) [14] [0, 1, 2, 3, 4, 5, 6, 7, 8, 9, 10, 11, 12, 13, 15, 16, 17, 18] rfl rfl (by decide) (by decide) (by decide) wM_X8_70 wb_X0_size hy_X0_size (q0 := 14) rfl rfl rfl ⟨Nat.le_of_ble_eq_true rfl, Nat.le_of_ble_eq_true rfl⟩ (Nat.le_of_ble_eq_true rfl) (Nat.le_of_ble_eq_true rfl) (Nat.le_of_ble_eq_true rfl) rfl dX8_build_78 (fun v w1 hw => ?_) [] rfl (fun _ _ h => h.elim)
            obtain ⟨r_17, rfl, rfl, h⟩ := hw
            refine a_ws (st1 := [.int r_17]) (ws1 := [(h0, oX8 d0 hdr v_ticks), ((d0 2), oX1 d_collection v_collection_documents v_collection_terms v_collection_postings v_collection_lengthOfAll), ((d_collection 2), aI cs 2560 v_collection_times), ((d_collection 1), aI cs 64 v_collection_inDocuments), ((d_collection 5), aI cs 40 v_collection_length), ((d_collection 3), aD cs 2560 v_collection_scores_1), (hdr, oX4 d_draft v_draft_bits_2 v_draft_documents_3 v_draft_terms_4 v_draft_segments_5 v_draft_postings_6), ((d_collection 4), aI cs 40 v_collection_impacts_7), ((d_collection 0), aJ cs 64 v_collection_term), ((d_draft 0), aJ cs 64 v_draft_term_8), ((d_draft 1), aI cs 65 v_draft_firstSegment_9), ((d_draft 2), aI cs 600 v_draft_impact_10), ((d_draft 3), aI cs 601 v_draft_firstPosting_11), ((d_draft 4), aI cs 600 v_draft_document_12), ((d0 3), oX0 d_file v_file_size_13 v_file_place), ((d_file 0), aB cs 6650 v_file_row_14), ((d0 4), oX5 d_indexFile), ((d_indexFile 0), oX2 d_indexFile_gaps v_indexFile_gaps_many_15), ((d_indexFile_gaps 0), aI cs 40 v_indexFile_gaps_gap_16)]) 0 0 81 [0, 1, 2, 3, 4, 5, 6, 7, 8, 9, 10, 11, 12, 13, 18, 14, 15, 16, 17] rfl rfl rfl rfl (by decide) rfl ?_
            exact a_ireturn C (pc := 81) rfl dX8_build_81 (Nat.le_of_ble_eq_true rfl) (Nat.le_of_ble_eq_true rfl) ⟨_, _, _, _, _, _, _, _, _, _, _, _, _, _, _, _, _, rfl, rfl, h⟩
          · have h := h.2 hc
            exact a_throw C (pc := 38) (by decide +kernel) wK_X8_74 wI_IllegalStateException atg_X8_76 atn_X8_76 (by decide +kernel) dX8_build_38 dX8_build_41 dX8_build_42 dX8_build_45 (Nat.le_of_ble_eq_true rfl) (Nat.le_of_ble_eq_true rfl) (Nat.le_of_ble_eq_true rfl) (Nat.le_of_ble_eq_true rfl) ⟨_, _, _, _, _, _, _, _, _, _, _, _, _, _, _, _, rfl, h⟩
        · have h := h.2 hc
          exact a_throw C (pc := 20) (by decide +kernel) wK_X8_67 wI_IllegalArgumentException atg_X8_69 atn_X8_69 (by decide +kernel) dX8_build_20 dX8_build_23 dX8_build_24 dX8_build_27 (Nat.le_of_ble_eq_true rfl) (Nat.le_of_ble_eq_true rfl) (Nat.le_of_ble_eq_true rfl) (Nat.le_of_ble_eq_true rfl) ⟨_, _, _, _, _, _, _, _, _, _, _, _, _, _, _, _, rfl, h⟩
set_option maxRecDepth 100000 in
set_option maxHeartbeats 4000000 in
theorem m_X8_requireByte (Lx : Launch) (Dx : va_G) (cs : Nat → ClassId) (h0 : Nat) (hdr : Nat) (d0 : Nat → Nat) (d_file : Nat → Nat) (v_ticks : Int64) (v_file_size : Int32) (v_file_place : Int32) (l1 : Int32) (Φ : Prop) (X : String → Prop) (h : P_X8_requireByte v_file_size l1 Φ X) : XMet Lx Dx cs yX8_requireByte cX8_requireByte 2 none 6 85 1 6 [.ref h0, .int l1] [(h0, oX8 d0 hdr v_ticks), ((d0 3), oX0 d_file v_file_size v_file_place)] (R_X8_requireByte cs h0 hdr d0 d_file v_ticks v_file_size v_file_place Φ) (Y_X8_requireByte cs h0 hdr d0 d_file v_ticks v_file_size v_file_place X) := by
  refine XMet.of (own := RX8) (nm := "requireByte") (by decide) rfl rfl (Nat.le_of_ble_eq_true rfl) (fun Γ C => ?_)
  unfold P_X8_requireByte at h
  refine a_iload_n C (pc := 0) 1 dX8_requireByte_0 rfl rfl ?_
  refine a_if_lt C (pc := 1) 15 dX8_requireByte_1 (by decide) (fun hc => ?_) (fun hc => ?_)
  · have h := h.1 hc
    exact a_throw C (pc := 15) (by decide +kernel) wK_X8_110 wI_NoSuchElementException atg_X8_112 atn_X8_112 (by decide +kernel) dX8_requireByte_15 dX8_requireByte_18 dX8_requireByte_19 dX8_requireByte_22 (Nat.le_of_ble_eq_true rfl) (Nat.le_of_ble_eq_true rfl) (Nat.le_of_ble_eq_true rfl) (Nat.le_of_ble_eq_true rfl) ⟨rfl, h⟩
  · have h := h.2 hc
    refine a_iload_n C (pc := 4) 1 dX8_requireByte_4 rfl rfl ?_
    refine a_aload_n C (pc := 5) 0 dX8_requireByte_5 rfl rfl ?_
    refine a_get C (pc := 6) 0 3 inW_X8 rfl rfl (Nat.le_of_ble_eq_true rfl) wF_X8_32 rfl rfl dX8_requireByte_6 ?_
    refine a_callV C (pc := 9) (av := []) (wr := [(h0, oX8 d0 hdr v_ticks)]) (m_X0_size Lx Dx cs (d0 3) d_file v_file_size v_file_place _ h) [1] [0] rfl rfl (by decide) (by decide) (by decide) wM_X8_70 wb_X0_size hy_X0_size (q0 := 1) rfl rfl rfl ⟨Nat.le_of_ble_eq_true rfl, Nat.le_of_ble_eq_true rfl⟩ (Nat.le_of_ble_eq_true rfl) (Nat.le_of_ble_eq_true rfl) (Nat.le_of_ble_eq_true rfl) rfl dX8_requireByte_9 (fun v w1 hw => ?_) [] rfl (fun _ _ h => h.elim)
    obtain ⟨r_1, rfl, rfl, h⟩ := hw
    refine a_ws (st1 := [.int r_1, .int l1]) (ws1 := [(h0, oX8 d0 hdr v_ticks), ((d0 3), oX0 d_file v_file_size v_file_place)]) 0 0 12 [0, 1] rfl rfl rfl rfl (by decide) rfl ?_
    refine a_icmp_lt C (pc := 12) 23 dX8_requireByte_12 (by decide) (fun hc => ?_) (fun hc => ?_)
    · have h := h.1 hc
      exact a_return C (pc := 23) rfl dX8_requireByte_23 (Nat.le_of_ble_eq_true rfl) (Nat.le_of_ble_eq_true rfl) ⟨rfl, rfl, h⟩
    · have h := h.2 hc
      exact a_throw C (pc := 15) (by decide +kernel) wK_X8_110 wI_NoSuchElementException atg_X8_112 atn_X8_112 (by decide +kernel) dX8_requireByte_15 dX8_requireByte_18 dX8_requireByte_19 dX8_requireByte_22 (Nat.le_of_ble_eq_true rfl) (Nat.le_of_ble_eq_true rfl) (Nat.le_of_ble_eq_true rfl) (Nat.le_of_ble_eq_true rfl) ⟨rfl, h⟩
set_option maxRecDepth 100000 in
set_option maxHeartbeats 4000000 in
theorem w_X0_eightFrom_5 {Γ : XG} {Lx : Launch} {Dx : va_G} {cs : Nat → ClassId} {n_row : Nat} {h0 : Nat} {d0 : Nat → Nat} {v_size : Int32} {v_place : Int32} {v_row : Nat → Int32} {K_52 : Int64 → Prop} {Φ : Int64 → Prop} {k n9 : Nat} (C : CX Γ Lx Dx cs cX0_eightFrom RX0 "eightFrom" 5 (some .long) 0 0 0 0 (qEC cs 0 0 [] (R_X0_eightFrom cs n_row h0 d0 v_size v_place v_row Φ) (fun _ _ => False))) (hkm : k ≤ 0) (hnm : n9 ≤ 0) : ∀ n : Nat, ∀ (l1 : Int32) (l2 : Int64) (l4 : Int32), L_X0_eightFrom_5 n n_row v_size v_row l1 l2 l4 K_52 Φ → (∀ (l2_1 : Int64), K_52 l2_1 → AW Γ k n9 52 [(2, .long l2_1)] [] [(h0, oX0 d0 v_size v_place), ((d0 0), aB cs n_row v_row)]) → AW Γ k n9 5 [(0, .ref h0), (1, .int l1), (2, .long l2), (4, .int l4)] [] [(h0, oX0 d0 v_size v_place), ((d0 0), aB cs n_row v_row)] := by
  intro n
  induction n with
  | zero =>
    intro l1 l2 l4 h
    exact False.elim h
  | succ n ih =>
    intro l1 l2 l4 h hK_52
    rw [L_X0_eightFrom_5] at h
    refine a_iload C (pc := 5) 3 dX0_eightFrom_5 rfl ?_
    refine a_bipush C (pc := 7) dX0_eightFrom_7 bp_8 ?_
    refine a_icmp_ge C (pc := 9) 52 dX0_eightFrom_9 (by decide) (fun hc => ?_) (fun hc => ?_)
    · have h := h.1 hc
      refine a_lv (lv1 := [(2, .long l2)]) [2] rfl ?_
      exact hK_52 l2 h
    · have h := h.2 hc
      refine a_iload_n C (pc := 12) 1 dX0_eightFrom_12 rfl rfl ?_
      refine a_aload_n C (pc := 13) 0 dX0_eightFrom_13 rfl rfl ?_
      refine a_get C (pc := 14) 0 1 inW_X0 rfl rfl (Nat.le_of_ble_eq_true rfl) wF_X0_7 rfl rfl dX0_eightFrom_14 ?_
      refine a_iload C (pc := 17) 3 dX0_eightFrom_17 rfl ?_
      refine a_isub C (pc := 19) dX0_eightFrom_19 ?_
      refine a_icmp_ge C (pc := 20) 52 dX0_eightFrom_20 (by decide) (fun hc => ?_) (fun hc => ?_)
      · have h := h.1 hc
        refine a_lv (lv1 := [(2, .long l2)]) [2] rfl ?_
        exact hK_52 l2 h
      · have h := h.2 hc
        refine a_lload_n C (pc := 23) 2 dX0_eightFrom_23 rfl rfl ?_
        refine a_aload_n C (pc := 24) 0 dX0_eightFrom_24 rfl rfl ?_
        refine a_get C (pc := 25) 0 0 inW_X0 rfl rfl (Nat.le_of_ble_eq_true rfl) wF_X0_16 rfl rfl dX0_eightFrom_25 ?_
        refine a_iload_n C (pc := 28) 1 dX0_eightFrom_28 rfl rfl ?_
        refine a_iload C (pc := 29) 3 dX0_eightFrom_29 rfl ?_
        refine a_iadd C (pc := 31) dX0_eightFrom_31 ?_
        refine a_bald C (pc := 32) 1 rfl h.1 dX0_eightFrom_32 ?_
        replace h := h.2
        refine a_i2l C (pc := 33) dX0_eightFrom_33 ?_
        refine a_ldc2 C (pc := 34) wC_X0_24 dX0_eightFrom_34 ?_
        refine a_land C (pc := 37) dX0_eightFrom_37 ?_
        refine a_bipush C (pc := 38) dX0_eightFrom_38 bp_8 ?_
        refine a_iload C (pc := 40) 3 dX0_eightFrom_40 rfl ?_
        refine a_imul C (pc := 42) dX0_eightFrom_42 ?_
        refine a_lshl C (pc := 43) dX0_eightFrom_43 ?_
        refine a_lor C (pc := 44) dX0_eightFrom_44 ?_
        refine a_lstore_n C (pc := 45) (lv1 := [(0, .ref h0), (1, .int l1), (2, .long (l2 ||| (((((v_row (l1 + l4 : Int32).toNatClampNeg) : Int32).toInt64) &&& 255) <<< ((8 * l4).toInt64 &&& 63)))), (4, .int l4)]) [1, 2, 0, 3] dX0_eightFrom_45 rfl (by decide) rfl ?_
        refine a_iinc C (pc := 46) (lv1 := [(0, .ref h0), (1, .int l1), (2, .long (l2 ||| (((((v_row (l1 + l4 : Int32).toNatClampNeg) : Int32).toInt64) &&& 255) <<< ((8 * l4).toInt64 &&& 63)))), (4, .int (l4 + 1))]) 3 [1, 2, 3, 0] dX0_eightFrom_46 rfl (congrArg (fun z => l4 + z) ic_1) (by decide) rfl ?_
        refine a_goto C (pc := 49) 5 dX0_eightFrom_49 (by decide) ?_
        exact ih l1 (l2 ||| (((((v_row (l1 + l4 : Int32).toNatClampNeg) : Int32).toInt64) &&& 255) <<< ((8 * l4).toInt64 &&& 63))) (l4 + 1) h hK_52
set_option maxRecDepth 100000 in
set_option maxHeartbeats 4000000 in
theorem m_X0_eightFrom (Lx : Launch) (Dx : va_G) (cs : Nat → ClassId) (n_row : Nat) (h0 : Nat) (d0 : Nat → Nat) (v_size : Int32) (v_place : Int32) (v_row : Nat → Int32) (l1 : Int32) (Φ : Int64 → Prop) (h : P_X0_eightFrom n_row v_size v_row l1 Φ) : XMet Lx Dx cs yX0_eightFrom cX0_eightFrom 5 (some .long) 0 0 0 0 [.ref h0, .int l1] [(h0, oX0 d0 v_size v_place), ((d0 0), aB cs n_row v_row)] (R_X0_eightFrom cs n_row h0 d0 v_size v_place v_row Φ) (fun _ _ => False) := by
  refine XMet.of (own := RX0) (nm := "eightFrom") (by decide) rfl rfl (Nat.le_of_ble_eq_true rfl) (fun Γ C => ?_)
  unfold P_X0_eightFrom at h
  refine a_lconst C (pc := 0) (v := 0) dX0_eightFrom_0 rfl ?_
  refine a_lstore_n C (pc := 1) (lv1 := [(0, .ref h0), (1, .int l1), (2, .long 0)]) [1, 2, 0] dX0_eightFrom_1 rfl (by decide) rfl ?_
  refine a_iconst C (pc := 2) dX0_eightFrom_2 ic_0 ?_
  refine a_istore C (pc := 3) (lv1 := [(0, .ref h0), (1, .int l1), (2, .long 0), (4, .int 0)]) [1, 2, 3, 0] dX0_eightFrom_3 (by decide) rfl ?_
  obtain ⟨n0, h⟩ := h
  refine w_X0_eightFrom_5 C (Nat.le_of_ble_eq_true rfl) (Nat.le_of_ble_eq_true rfl) n0 l1 0 0 h ?_
  intro l2_2 h
  refine a_lload_n C (pc := 52) 0 dX0_eightFrom_52 rfl rfl ?_
  exact a_lreturn C (pc := 53) rfl dX0_eightFrom_53 (Nat.le_of_ble_eq_true rfl) (Nat.le_of_ble_eq_true rfl) ⟨_, rfl, rfl, h⟩
set_option maxRecDepth 100000 in
set_option maxHeartbeats 4000000 in
theorem m_X8_file (Lx : Launch) (Dx : va_G) (cs : Nat → ClassId) (h0 : Nat) (hdr : Nat) (d0 : Nat → Nat) (d_file : Nat → Nat) (v_ticks : Int64) (v_file_size : Int32) (v_file_place : Int32) (v_file_row : Nat → Int32) (l1 : Int32) (Φ : Int64 → Prop) (X : String → Prop) (h : P_X8_file v_file_size v_file_row l1 Φ X) : XMet Lx Dx cs yX8_file cX8_file 2 (some .long) 7 106 1 6 [.ref h0, .int l1] [(h0, oX8 d0 hdr v_ticks), ((d0 3), oX0 d_file v_file_size v_file_place), ((d_file 0), aB cs 6650 v_file_row)] (R_X8_file cs h0 hdr d0 d_file v_ticks v_file_size v_file_place v_file_row Φ) (Y_X8_file cs h0 hdr d0 d_file v_ticks v_file_size v_file_place v_file_row X) := by
  refine XMet.of (own := RX8) (nm := "file") (by decide) rfl rfl (Nat.le_of_ble_eq_true rfl) (fun Γ C => ?_)
  unfold P_X8_file at h
  refine a_aload_n C (pc := 0) 0 dX8_file_0 rfl rfl ?_
  refine a_iload_n C (pc := 1) 1 dX8_file_1 rfl rfl ?_
  refine a_callV C (pc := 2) (av := [.int l1]) (wr := [((d_file 0), aB cs 6650 v_file_row)]) (m_X8_requireByte Lx Dx cs h0 hdr d0 d_file v_ticks v_file_size v_file_place l1 _ _ h) [0, 1] [2] rfl rfl (by decide) (by decide) (by decide) wM_X8_129 wb_X8_requireByte hy_X8_requireByte (q0 := 0) rfl rfl rfl ⟨Nat.le_of_ble_eq_true rfl, Nat.le_of_ble_eq_true rfl⟩ (Nat.le_of_ble_eq_true rfl) (Nat.le_of_ble_eq_true rfl) (Nat.le_of_ble_eq_true rfl) rfl dX8_file_2 (fun v w1 hw => ?_) [1, 2, 0] (by decide) (fun E w1 hx => by obtain ⟨rfl, hx⟩ := hx; exact ⟨[(h0, oX8 d0 hdr v_ticks), ((d0 3), oX0 d_file v_file_size v_file_place), ((d_file 0), aB cs 6650 v_file_row)], rfl, rfl, hx⟩)
  obtain ⟨rfl, rfl, h⟩ := hw
  refine a_ws (st1 := []) (ws1 := [(h0, oX8 d0 hdr v_ticks), ((d0 3), oX0 d_file v_file_size v_file_place), ((d_file 0), aB cs 6650 v_file_row)]) 1 6 5 [1, 2, 0] rfl rfl rfl rfl (by decide) rfl ?_
  refine a_aload_n C (pc := 5) 0 dX8_file_5 rfl rfl ?_
  refine a_get C (pc := 6) 0 3 inW_X8 rfl rfl (Nat.le_of_ble_eq_true rfl) wF_X8_32 rfl rfl dX8_file_6 ?_
  refine a_iload_n C (pc := 9) 1 dX8_file_9 rfl rfl ?_
  refine a_callV C (pc := 10) (av := [.int l1]) (wr := [(h0, oX8 d0 hdr v_ticks)]) (m_X0_eightFrom Lx Dx cs 6650 (d0 3) d_file v_file_size v_file_place v_file_row l1 _ h) [1, 2] [0] rfl rfl (by decide) (by decide) (by decide) wM_X8_132 wb_X0_eightFrom hy_X0_eightFrom (q0 := 1) rfl rfl rfl ⟨Nat.le_of_ble_eq_true rfl, Nat.le_of_ble_eq_true rfl⟩ (Nat.le_of_ble_eq_true rfl) (Nat.le_of_ble_eq_true rfl) (Nat.le_of_ble_eq_true rfl) rfl dX8_file_10 (fun v w1 hw => ?_) [] rfl (fun _ _ h => h.elim)
  obtain ⟨r_1, rfl, rfl, h⟩ := hw
  refine a_ws (st1 := [.long r_1]) (ws1 := [(h0, oX8 d0 hdr v_ticks), ((d0 3), oX0 d_file v_file_size v_file_place), ((d_file 0), aB cs 6650 v_file_row)]) 1 6 13 [0, 1, 2] rfl rfl rfl rfl (by decide) rfl ?_
  exact a_lreturn C (pc := 13) rfl dX8_file_13 (Nat.le_of_ble_eq_true rfl) (Nat.le_of_ble_eq_true rfl) ⟨_, rfl, rfl, h⟩
set_option maxRecDepth 100000 in
set_option maxHeartbeats 4000000 in
theorem m_X0_set (Lx : Launch) (Dx : va_G) (cs : Nat → ClassId) (n_row : Nat) (h0 : Nat) (d0 : Nat → Nat) (v_size : Int32) (v_place : Int32) (v_row : Nat → Int32) (l1 : Int32) (l2 : Int32) (Φ : (Nat → Int32) → Prop) (h : P_X0_set n_row v_size v_row l1 l2 Φ) : XMet Lx Dx cs yX0_set cX0_set 3 none 0 0 0 0 [.ref h0, .int l1, .int l2] [(h0, oX0 d0 v_size v_place), ((d0 0), aB cs n_row v_row)] (R_X0_set cs n_row h0 d0 v_size v_place Φ) (fun _ _ => False) := by
  refine XMet.of (own := RX0) (nm := "set") (by decide) rfl rfl (Nat.le_of_ble_eq_true rfl) (fun Γ C => ?_)
  unfold P_X0_set at h
  refine a_iload_n C (pc := 0) 1 dX0_set_0 rfl rfl ?_
  refine a_if_lt C (pc := 1) 20 dX0_set_1 (by decide) (fun hc => ?_) (fun hc => ?_)
  · have h := h.1 hc
    exact a_return C (pc := 20) rfl dX0_set_20 (Nat.le_of_ble_eq_true rfl) (Nat.le_of_ble_eq_true rfl) ⟨_, rfl, rfl, h⟩
  · have h := h.2 hc
    refine a_iload_n C (pc := 4) 1 dX0_set_4 rfl rfl ?_
    refine a_aload_n C (pc := 5) 0 dX0_set_5 rfl rfl ?_
    refine a_get C (pc := 6) 0 1 inW_X0 rfl rfl (Nat.le_of_ble_eq_true rfl) wF_X0_7 rfl rfl dX0_set_6 ?_
    refine a_icmp_ge C (pc := 9) 20 dX0_set_9 (by decide) (fun hc => ?_) (fun hc => ?_)
    · have h := h.1 hc
      exact a_return C (pc := 20) rfl dX0_set_20 (Nat.le_of_ble_eq_true rfl) (Nat.le_of_ble_eq_true rfl) ⟨_, rfl, rfl, h⟩
    · have h := h.2 hc
      refine a_aload_n C (pc := 12) 0 dX0_set_12 rfl rfl ?_
      refine a_get C (pc := 13) 0 0 inW_X0 rfl rfl (Nat.le_of_ble_eq_true rfl) wF_X0_16 rfl rfl dX0_set_13 ?_
      refine a_iload_n C (pc := 16) 1 dX0_set_16 rfl rfl ?_
      refine a_iload_n C (pc := 17) 2 dX0_set_17 rfl rfl ?_
      refine a_i2b C (pc := 18) dX0_set_18 ?_
      refine a_bast C (pc := 19) (ws1 := [(h0, oX0 d0 v_size v_place), ((d0 0), aB cs n_row (upd v_row (l1 : Int32).toNatClampNeg (vp_nar .byte ((l2 : Int32).toInt8.toInt32))))]) 1 rfl h.1 dX0_set_19 rfl ?_
      replace h := h.2
      exact a_return C (pc := 20) rfl dX0_set_20 (Nat.le_of_ble_eq_true rfl) (Nat.le_of_ble_eq_true rfl) ⟨_, rfl, rfl, h⟩
set_option maxRecDepth 100000 in
set_option maxHeartbeats 4000000 in
theorem m_X8_spoil (Lx : Launch) (Dx : va_G) (cs : Nat → ClassId) (h0 : Nat) (hdr : Nat) (d0 : Nat → Nat) (d_file : Nat → Nat) (v_ticks : Int64) (v_file_size : Int32) (v_file_place : Int32) (v_file_row : Nat → Int32) (l1 : Int32) (l2 : Int32) (Φ : Int32 → (Nat → Int32) → Prop) (X : String → (Nat → Int32) → Prop) (h : P_X8_spoil v_file_size v_file_row l1 l2 Φ X) : XMet Lx Dx cs yX8_spoil cX8_spoil 4 (some .int) 7 106 1 6 [.ref h0, .int l1, .int l2] [(h0, oX8 d0 hdr v_ticks), ((d0 3), oX0 d_file v_file_size v_file_place), ((d_file 0), aB cs 6650 v_file_row)] (R_X8_spoil cs h0 hdr d0 d_file v_ticks v_file_size v_file_place Φ) (Y_X8_spoil cs h0 hdr d0 d_file v_ticks v_file_size v_file_place X) := by
  refine XMet.of (own := RX8) (nm := "spoil") (by decide) rfl rfl (Nat.le_of_ble_eq_true rfl) (fun Γ C => ?_)
  unfold P_X8_spoil at h
  refine a_aload_n C (pc := 0) 0 dX8_spoil_0 rfl rfl ?_
  refine a_iload_n C (pc := 1) 1 dX8_spoil_1 rfl rfl ?_
  refine a_callV C (pc := 2) (av := [.int l1]) (wr := [((d_file 0), aB cs 6650 v_file_row)]) (m_X8_requireByte Lx Dx cs h0 hdr d0 d_file v_ticks v_file_size v_file_place l1 _ _ h) [0, 1] [2] rfl rfl (by decide) (by decide) (by decide) wM_X8_129 wb_X8_requireByte hy_X8_requireByte (q0 := 0) rfl rfl rfl ⟨Nat.le_of_ble_eq_true rfl, Nat.le_of_ble_eq_true rfl⟩ (Nat.le_of_ble_eq_true rfl) (Nat.le_of_ble_eq_true rfl) (Nat.le_of_ble_eq_true rfl) rfl dX8_spoil_2 (fun v w1 hw => ?_) [1, 2, 0] (by decide) (fun E w1 hx => by obtain ⟨rfl, hx⟩ := hx; exact ⟨[(h0, oX8 d0 hdr v_ticks), ((d0 3), oX0 d_file v_file_size v_file_place), ((d_file 0), aB cs 6650 v_file_row)], rfl, _, rfl, hx⟩)
  obtain ⟨rfl, rfl, h⟩ := hw
  refine a_ws (st1 := []) (ws1 := [(h0, oX8 d0 hdr v_ticks), ((d0 3), oX0 d_file v_file_size v_file_place), ((d_file 0), aB cs 6650 v_file_row)]) 1 6 5 [1, 2, 0] rfl rfl rfl rfl (by decide) rfl ?_
  refine a_aload_n C (pc := 5) 0 dX8_spoil_5 rfl rfl ?_
  refine a_get C (pc := 6) 0 3 inW_X8 rfl rfl (Nat.le_of_ble_eq_true rfl) wF_X8_32 rfl rfl dX8_spoil_6 ?_
  refine a_iload_n C (pc := 9) 1 dX8_spoil_9 rfl rfl ?_
  refine a_callV C (pc := 10) (av := [.int l1]) (wr := [(h0, oX8 d0 hdr v_ticks)]) (m_X0_at Lx Dx cs 6650 (d0 3) d_file v_file_size v_file_place v_file_row l1 _ h) [1, 2] [0] rfl rfl (by decide) (by decide) (by decide) wM_X8_136 wb_X0_at hy_X0_at (q0 := 1) rfl rfl rfl ⟨Nat.le_of_ble_eq_true rfl, Nat.le_of_ble_eq_true rfl⟩ (Nat.le_of_ble_eq_true rfl) (Nat.le_of_ble_eq_true rfl) (Nat.le_of_ble_eq_true rfl) rfl dX8_spoil_10 (fun v w1 hw => ?_) [] rfl (fun _ _ h => h.elim)
  obtain ⟨r_1, rfl, rfl, h⟩ := hw
  refine a_ws (st1 := [.int r_1]) (ws1 := [(h0, oX8 d0 hdr v_ticks), ((d0 3), oX0 d_file v_file_size v_file_place), ((d_file 0), aB cs 6650 v_file_row)]) 1 6 13 [0, 1, 2] rfl rfl rfl rfl (by decide) rfl ?_
  refine a_istore_n C (pc := 13) (lv1 := [(0, .ref h0), (1, .int l1), (2, .int l2), (3, .int r_1)]) [1, 2, 3, 0] dX8_spoil_13 rfl (by decide) rfl ?_
  refine a_aload_n C (pc := 14) 0 dX8_spoil_14 rfl rfl ?_
  refine a_get C (pc := 15) 0 3 inW_X8 rfl rfl (Nat.le_of_ble_eq_true rfl) wF_X8_32 rfl rfl dX8_spoil_15 ?_
  refine a_iload_n C (pc := 18) 1 dX8_spoil_18 rfl rfl ?_
  refine a_iload_n C (pc := 19) 2 dX8_spoil_19 rfl rfl ?_
  refine a_callV C (pc := 20) (av := [.int l1, .int l2]) (wr := [(h0, oX8 d0 hdr v_ticks)]) (m_X0_set Lx Dx cs 6650 (d0 3) d_file v_file_size v_file_place v_file_row l1 l2 _ h) [1, 2] [0] rfl rfl (by decide) (by decide) (by decide) wM_X8_140 wb_X0_set hy_X0_set (q0 := 1) rfl rfl rfl ⟨Nat.le_of_ble_eq_true rfl, Nat.le_of_ble_eq_true rfl⟩ (Nat.le_of_ble_eq_true rfl) (Nat.le_of_ble_eq_true rfl) (Nat.le_of_ble_eq_true rfl) rfl dX8_spoil_20 (fun v w1 hw => ?_) [] rfl (fun _ _ h => h.elim)
  obtain ⟨v_file_row_2, rfl, rfl, h⟩ := hw
  refine a_ws (st1 := []) (ws1 := [(h0, oX8 d0 hdr v_ticks), ((d0 3), oX0 d_file v_file_size v_file_place), ((d_file 0), aB cs 6650 v_file_row_2)]) 1 6 23 [0, 1, 2] rfl rfl rfl rfl (by decide) rfl ?_
  refine a_iload_n C (pc := 23) 3 dX8_spoil_23 rfl rfl ?_
  exact a_ireturn C (pc := 24) rfl dX8_spoil_24 (Nat.le_of_ble_eq_true rfl) (Nat.le_of_ble_eq_true rfl) ⟨_, _, rfl, rfl, h⟩
set_option maxRecDepth 100000 in
set_option maxHeartbeats 4000000 in
theorem m_X8_cut (Lx : Launch) (Dx : va_G) (cs : Nat → ClassId) (h0 : Nat) (hdr : Nat) (d0 : Nat → Nat) (d_file : Nat → Nat) (v_ticks : Int64) (v_file_size : Int32) (v_file_place : Int32) (l1 : Int32) (Φ : Int32 → Int32 → Prop) (h : P_X8_cut v_file_size l1 Φ) : XMet Lx Dx cs yX8_cut cX8_cut 2 (some .boolean) 1 21 0 0 [.ref h0, .int l1] [(h0, oX8 d0 hdr v_ticks), ((d0 3), oX0 d_file v_file_size v_file_place)] (R_X8_cut cs h0 hdr d0 d_file v_ticks v_file_place Φ) (fun _ _ => False) := by
  refine XMet.of (own := RX8) (nm := "cut") (by decide) rfl rfl (Nat.le_of_ble_eq_true rfl) (fun Γ C => ?_)
  unfold P_X8_cut at h
  refine a_aload_n C (pc := 0) 0 dX8_cut_0 rfl rfl ?_
  refine a_get C (pc := 1) 0 3 inW_X8 rfl rfl (Nat.le_of_ble_eq_true rfl) wF_X8_32 rfl rfl dX8_cut_1 ?_
  refine a_iload_n C (pc := 4) 1 dX8_cut_4 rfl rfl ?_
  refine a_callV C (pc := 5) (av := [.int l1]) (wr := [(h0, oX8 d0 hdr v_ticks)]) (m_X0_shorten Lx Dx cs (d0 3) d_file v_file_size v_file_place l1 _ h) [1] [0] rfl rfl (by decide) (by decide) (by decide) wM_X8_144 wb_X0_shorten hy_X0_shorten (q0 := 1) rfl rfl rfl ⟨Nat.le_of_ble_eq_true rfl, Nat.le_of_ble_eq_true rfl⟩ (Nat.le_of_ble_eq_true rfl) (Nat.le_of_ble_eq_true rfl) (Nat.le_of_ble_eq_true rfl) rfl dX8_cut_5 (fun v w1 hw => ?_) [] rfl (fun _ _ h => h.elim)
  obtain ⟨r_1, v_file_size_2, rfl, rfl, h⟩ := hw
  refine a_ws (st1 := [.int r_1]) (ws1 := [(h0, oX8 d0 hdr v_ticks), ((d0 3), oX0 d_file v_file_size_2 v_file_place)]) 0 0 8 [0, 1] rfl rfl rfl rfl (by decide) rfl ?_
  exact a_zreturn C (pc := 8) rfl h.1.1 dX8_cut_8 (Nat.le_of_ble_eq_true rfl) (Nat.le_of_ble_eq_true rfl) ⟨_, _, rfl, rfl, h.2⟩
set_option maxRecDepth 100000 in
set_option maxHeartbeats 4000000 in
theorem m_X8_mend (Lx : Launch) (Dx : va_G) (cs : Nat → ClassId) (h0 : Nat) (hdr : Nat) (d0 : Nat → Nat) (d_file : Nat → Nat) (v_ticks : Int64) (v_file_size : Int32) (v_file_place : Int32) (v_file_row : Nat → Int32) (Φ : Int32 → Int32 → (Nat → Int32) → Prop) (h : P_X8_mend v_file_size v_file_row Φ) : XMet Lx Dx cs yX8_mend cX8_mend 1 (some .boolean) 2 44 0 0 [.ref h0] [(h0, oX8 d0 hdr v_ticks), ((d0 3), oX0 d_file v_file_size v_file_place), ((d_file 0), aB cs 6650 v_file_row)] (R_X8_mend cs h0 hdr d0 d_file v_ticks v_file_place Φ) (fun _ _ => False) := by
  refine XMet.of (own := RX8) (nm := "mend") (by decide) rfl rfl (Nat.le_of_ble_eq_true rfl) (fun Γ C => ?_)
  unfold P_X8_mend at h
  refine a_aload_n C (pc := 0) 0 dX8_mend_0 rfl rfl ?_
  refine a_get C (pc := 1) 0 3 inW_X8 rfl rfl (Nat.le_of_ble_eq_true rfl) wF_X8_32 rfl rfl dX8_mend_1 ?_
  refine a_aload_n C (pc := 4) 0 dX8_mend_4 rfl rfl ?_
  refine a_get C (pc := 5) 0 3 inW_X8 rfl rfl (Nat.le_of_ble_eq_true rfl) wF_X8_32 rfl rfl dX8_mend_5 ?_
  refine a_callV C (pc := 8) (av := []) (wr := [(h0, oX8 d0 hdr v_ticks), ((d_file 0), aB cs 6650 v_file_row)]) (m_X0_size Lx Dx cs (d0 3) d_file v_file_size v_file_place _ h) [1] [0, 2] rfl rfl (by decide) (by decide) (by decide) wM_X8_70 wb_X0_size hy_X0_size (q0 := 1) rfl rfl rfl ⟨Nat.le_of_ble_eq_true rfl, Nat.le_of_ble_eq_true rfl⟩ (Nat.le_of_ble_eq_true rfl) (Nat.le_of_ble_eq_true rfl) (Nat.le_of_ble_eq_true rfl) rfl dX8_mend_8 (fun v w1 hw => ?_) [] rfl (fun _ _ h => h.elim)
  obtain ⟨r_1, rfl, rfl, h⟩ := hw
  refine a_ws (st1 := [.int r_1, .ref (d0 3)]) (ws1 := [(h0, oX8 d0 hdr v_ticks), ((d0 3), oX0 d_file v_file_size v_file_place), ((d_file 0), aB cs 6650 v_file_row)]) 0 0 11 [0, 2, 1] rfl rfl rfl rfl (by decide) rfl ?_
  refine a_iconst C (pc := 11) dX8_mend_11 ic_4 ?_
  refine a_isub C (pc := 12) dX8_mend_12 ?_
  refine a_callV C (pc := 13) (av := [.int (r_1 - 4)]) (wr := [(h0, oX8 d0 hdr v_ticks), ((d_file 0), aB cs 6650 v_file_row)]) (m_X0_shorten Lx Dx cs (d0 3) d_file v_file_size v_file_place (r_1 - 4) _ h) [1] [0, 2] rfl rfl (by decide) (by decide) (by decide) wM_X8_144 wb_X0_shorten hy_X0_shorten (q0 := 1) rfl rfl rfl ⟨Nat.le_of_ble_eq_true rfl, Nat.le_of_ble_eq_true rfl⟩ (Nat.le_of_ble_eq_true rfl) (Nat.le_of_ble_eq_true rfl) (Nat.le_of_ble_eq_true rfl) rfl dX8_mend_13 (fun v w1 hw => ?_) [] rfl (fun _ _ h => h.elim)
  obtain ⟨r_2, v_file_size_3, rfl, rfl, h⟩ := hw
  refine a_ws (st1 := [.int r_2]) (ws1 := [(h0, oX8 d0 hdr v_ticks), ((d0 3), oX0 d_file v_file_size_3 v_file_place), ((d_file 0), aB cs 6650 v_file_row)]) 0 0 16 [0, 2, 1] rfl rfl rfl rfl (by decide) rfl ?_
  refine a_if_ne C (pc := 16) 21 dX8_mend_16 (by decide) (fun hc => ?_) (fun hc => ?_)
  · have h := h.1 hc
    refine a_aload_n C (pc := 21) 0 dX8_mend_21 rfl rfl ?_
    refine a_get C (pc := 22) 0 3 inW_X8 rfl rfl (Nat.le_of_ble_eq_true rfl) wF_X8_32 rfl rfl dX8_mend_22 ?_
    refine a_callV C (pc := 25) (av := []) (wr := [(h0, oX8 d0 hdr v_ticks)]) (m_X0_putSum Lx Dx cs 6650 (d0 3) d_file v_file_size_3 v_file_place v_file_row _ h) [1, 2] [0] rfl rfl (by decide) (by decide) (by decide) wM_X8_148 wb_X0_putSum hy_X0_putSum (q0 := 1) rfl rfl rfl ⟨Nat.le_of_ble_eq_true rfl, Nat.le_of_ble_eq_true rfl⟩ (Nat.le_of_ble_eq_true rfl) (Nat.le_of_ble_eq_true rfl) (Nat.le_of_ble_eq_true rfl) rfl dX8_mend_25 (fun v w1 hw => ?_) [] rfl (fun _ _ h => h.elim)
    obtain ⟨v_file_size_4, v_file_row_5, rfl, rfl, h⟩ := hw
    refine a_ws (st1 := []) (ws1 := [(h0, oX8 d0 hdr v_ticks), ((d0 3), oX0 d_file v_file_size_4 v_file_place), ((d_file 0), aB cs 6650 v_file_row_5)]) 0 0 28 [0, 1, 2] rfl rfl rfl rfl (by decide) rfl ?_
    refine a_iconst C (pc := 28) dX8_mend_28 ic_1 ?_
    exact a_zreturn C (pc := 29) rfl rfl dX8_mend_29 (Nat.le_of_ble_eq_true rfl) (Nat.le_of_ble_eq_true rfl) ⟨_, _, _, rfl, rfl, h⟩
  · have h := h.2 hc
    refine a_iconst C (pc := 19) dX8_mend_19 ic_0 ?_
    exact a_zreturn C (pc := 20) rfl rfl dX8_mend_20 (Nat.le_of_ble_eq_true rfl) (Nat.le_of_ble_eq_true rfl) ⟨_, _, _, rfl, rfl, h⟩
set_option maxRecDepth 100000 in
set_option maxHeartbeats 4000000 in
theorem m_X0_rewind (Lx : Launch) (Dx : va_G) (cs : Nat → ClassId) (h0 : Nat) (d0 : Nat → Nat) (v_size : Int32) (v_place : Int32) (Φ : Int32 → Prop) (h : P_X0_rewind v_place Φ) : XMet Lx Dx cs yX0_rewind cX0_rewind 1 none 0 0 0 0 [.ref h0] [(h0, oX0 d0 v_size v_place)] (R_X0_rewind cs h0 d0 v_size Φ) (fun _ _ => False) := by
  refine XMet.of (own := RX0) (nm := "rewind") (by decide) rfl rfl (Nat.le_of_ble_eq_true rfl) (fun Γ C => ?_)
  unfold P_X0_rewind at h
  refine a_aload_n C (pc := 0) 0 dX0_rewind_0 rfl rfl ?_
  refine a_iconst C (pc := 1) dX0_rewind_1 ic_0 ?_
  refine a_put C (pc := 2) (ws1 := [(h0, oX0 d0 v_size 0)]) 0 2 inW_X0 tyX0 tyX0_ok nmX0 rfl rfl (Nat.le_of_ble_eq_true rfl) wF_X0_13 rfl rfl rfl rfl rfl (Nat.le_of_ble_eq_true rfl) dX0_rewind_2 rfl ?_
  exact a_return C (pc := 5) rfl dX0_rewind_5 (Nat.le_of_ble_eq_true rfl) (Nat.le_of_ble_eq_true rfl) ⟨_, rfl, rfl, h⟩
set_option maxRecDepth 100000 in
set_option maxHeartbeats 4000000 in
theorem m_X0_next (Lx : Launch) (Dx : va_G) (cs : Nat → ClassId) (n_row : Nat) (h0 : Nat) (d0 : Nat → Nat) (v_size : Int32) (v_place : Int32) (v_row : Nat → Int32) (Φ : Int32 → Int32 → Prop) (h : P_X0_next n_row v_size v_place v_row Φ) : XMet Lx Dx cs yX0_next cX0_next 1 (some .int) 1 21 0 0 [.ref h0] [(h0, oX0 d0 v_size v_place), ((d0 0), aB cs n_row v_row)] (R_X0_next cs n_row h0 d0 v_size v_row Φ) (fun _ _ => False) := by
  refine XMet.of (own := RX0) (nm := "next") (by decide) rfl rfl (Nat.le_of_ble_eq_true rfl) (fun Γ C => ?_)
  unfold P_X0_next at h
  refine a_aload_n C (pc := 0) 0 dX0_next_0 rfl rfl ?_
  refine a_get C (pc := 1) 0 2 inW_X0 rfl rfl (Nat.le_of_ble_eq_true rfl) wF_X0_13 rfl rfl dX0_next_1 ?_
  refine a_aload_n C (pc := 4) 0 dX0_next_4 rfl rfl ?_
  refine a_get C (pc := 5) 0 1 inW_X0 rfl rfl (Nat.le_of_ble_eq_true rfl) wF_X0_7 rfl rfl dX0_next_5 ?_
  refine a_icmp_lt C (pc := 8) 13 dX0_next_8 (by decide) (fun hc => ?_) (fun hc => ?_)
  · have h := h.1 hc
    refine a_aload_n C (pc := 13) 0 dX0_next_13 rfl rfl ?_
    refine a_dup C (pc := 14) dX0_next_14 rfl ?_
    refine a_get C (pc := 15) 0 2 inW_X0 rfl rfl (Nat.le_of_ble_eq_true rfl) wF_X0_13 rfl rfl dX0_next_15 ?_
    refine a_iconst C (pc := 18) dX0_next_18 ic_1 ?_
    refine a_iadd C (pc := 19) dX0_next_19 ?_
    refine a_put C (pc := 20) (ws1 := [(h0, oX0 d0 v_size (v_place + 1)), ((d0 0), aB cs n_row v_row)]) 0 2 inW_X0 tyX0 tyX0_ok nmX0 rfl rfl (Nat.le_of_ble_eq_true rfl) wF_X0_13 rfl rfl rfl rfl rfl (Nat.le_of_ble_eq_true rfl) dX0_next_20 rfl ?_
    refine a_aload_n C (pc := 23) 0 dX0_next_23 rfl rfl ?_
    refine a_aload_n C (pc := 24) 0 dX0_next_24 rfl rfl ?_
    refine a_get C (pc := 25) 0 2 inW_X0 rfl rfl (Nat.le_of_ble_eq_true rfl) wF_X0_13 rfl rfl dX0_next_25 ?_
    refine a_iconst C (pc := 28) dX0_next_28 ic_1 ?_
    refine a_isub C (pc := 29) dX0_next_29 ?_
    refine a_callV C (pc := 30) (av := [.int ((v_place + 1) - 1)]) (wr := []) (m_X0_at Lx Dx cs n_row h0 d0 v_size (v_place + 1) v_row ((v_place + 1) - 1) _ h) [0, 1] [] rfl rfl (by decide) (by decide) (by decide) wM_X0_26 wb_X0_at hy_X0_at (q0 := 0) rfl rfl rfl ⟨Nat.le_of_ble_eq_true rfl, Nat.le_of_ble_eq_true rfl⟩ (Nat.le_of_ble_eq_true rfl) (Nat.le_of_ble_eq_true rfl) (Nat.le_of_ble_eq_true rfl) rfl dX0_next_30 (fun v w1 hw => ?_) [] rfl (fun _ _ h => h.elim)
    obtain ⟨r_1, rfl, rfl, h⟩ := hw
    refine a_ws (st1 := [.int r_1]) (ws1 := [(h0, oX0 d0 v_size (v_place + 1)), ((d0 0), aB cs n_row v_row)]) 0 0 33 [0, 1] rfl rfl rfl rfl (by decide) rfl ?_
    exact a_ireturn C (pc := 33) rfl dX0_next_33 (Nat.le_of_ble_eq_true rfl) (Nat.le_of_ble_eq_true rfl) ⟨_, _, rfl, rfl, h⟩
  · have h := h.2 hc
    refine a_iconst C (pc := 11) dX0_next_11 ic_m1 ?_
    exact a_ireturn C (pc := 12) rfl dX0_next_12 (Nat.le_of_ble_eq_true rfl) (Nat.le_of_ble_eq_true rfl) ⟨_, _, rfl, rfl, h⟩
set_option maxRecDepth 100000 in
set_option maxHeartbeats 4000000 in
theorem m_X5_isWithin (Lx : Launch) (Dx : va_G) (cs : Nat → ClassId) (l0 : Int32) (l1 : Int32) (l2 : Int32) (Φ : Int32 → Prop) (h : P_X5_isWithin l0 l1 l2 Φ) : XMet Lx Dx cs yX5_isWithin cX5_isWithin 3 (some .boolean) 0 0 0 0 [.int l0, .int l1, .int l2] [] (R_X5_isWithin cs Φ) (fun _ _ => False) := by
  refine XMet.of (own := RX5) (nm := "isWithin") (by decide) rfl rfl (Nat.le_of_ble_eq_true rfl) (fun Γ C => ?_)
  unfold P_X5_isWithin at h
  refine a_iload_n C (pc := 0) 0 dX5_isWithin_0 rfl rfl ?_
  refine a_iload_n C (pc := 1) 1 dX5_isWithin_1 rfl rfl ?_
  refine a_icmp_lt C (pc := 2) 14 dX5_isWithin_2 (by decide) (fun hc => ?_) (fun hc => ?_)
  · have h := h.1 hc
    refine a_iconst C (pc := 14) dX5_isWithin_14 ic_0 ?_
    exact a_zreturn C (pc := 15) rfl rfl dX5_isWithin_15 (Nat.le_of_ble_eq_true rfl) (Nat.le_of_ble_eq_true rfl) ⟨_, rfl, rfl, h⟩
  · have h := h.2 hc
    refine a_iload_n C (pc := 5) 0 dX5_isWithin_5 rfl rfl ?_
    refine a_iload_n C (pc := 6) 2 dX5_isWithin_6 rfl rfl ?_
    refine a_icmp_gt C (pc := 7) 14 dX5_isWithin_7 (by decide) (fun hc => ?_) (fun hc => ?_)
    · have h := h.1 hc
      refine a_iconst C (pc := 14) dX5_isWithin_14 ic_0 ?_
      exact a_zreturn C (pc := 15) rfl rfl dX5_isWithin_15 (Nat.le_of_ble_eq_true rfl) (Nat.le_of_ble_eq_true rfl) ⟨_, rfl, rfl, h⟩
    · have h := h.2 hc
      refine a_iconst C (pc := 10) dX5_isWithin_10 ic_1 ?_
      refine a_goto C (pc := 11) 15 dX5_isWithin_11 (by decide) ?_
      exact a_zreturn C (pc := 15) rfl rfl dX5_isWithin_15 (Nat.le_of_ble_eq_true rfl) (Nat.le_of_ble_eq_true rfl) ⟨_, rfl, rfl, h⟩
set_option maxRecDepth 100000 in
set_option maxHeartbeats 4000000 in
theorem w_X5_readWord_22 {Γ : XG} {Lx : Launch} {Dx : va_G} {cs : Nat → ClassId} {n_a0_row : Nat} {h0 : Nat} {d0 : Nat → Nat} {v_a0_size : Int32} {v_a0_row : Nat → Int32} {K_64 : Int32 → Int64 → Prop} {Φ : Int64 → Int32 → Prop} {k n9 : Nat} (C : CX Γ Lx Dx cs cX5_readWord RX5 "readWord" 6 (some .long) 2 41 0 0 (qEC cs 0 0 [] (R_X5_readWord cs n_a0_row h0 d0 v_a0_size v_a0_row Φ) (fun _ _ => False))) (hkm : k ≤ 0) (hnm : n9 ≤ 0) : ∀ n : Nat, ∀ (v_a0_place : Int32) (l1 : Int32) (l2 : Int64) (l4 : Int32), L_X5_readWord_22 n n_a0_row v_a0_size v_a0_place v_a0_row l1 l2 l4 K_64 Φ → (∀ (v_a0_place_8 : Int32) (l2_9 : Int64), K_64 v_a0_place_8 l2_9 → AW Γ k n9 64 [(2, .long l2_9)] [] [(h0, oX0 d0 v_a0_size v_a0_place_8), ((d0 0), aB cs n_a0_row v_a0_row)]) → AW Γ k n9 22 [(0, .ref h0), (1, .int l1), (2, .long l2), (4, .int l4)] [] [(h0, oX0 d0 v_a0_size v_a0_place), ((d0 0), aB cs n_a0_row v_a0_row)] := by
  intro n
  induction n with
  | zero =>
    intro v_a0_place l1 l2 l4 h
    exact False.elim h
  | succ n ih =>
    intro v_a0_place l1 l2 l4 h hK_64
    rw [L_X5_readWord_22] at h
    refine a_iload C (pc := 22) 3 dX5_readWord_22 rfl ?_
    refine a_iload_n C (pc := 24) 1 dX5_readWord_24 rfl rfl ?_
    refine a_icmp_ge C (pc := 25) 64 dX5_readWord_25 (by decide) (fun hc => ?_) (fun hc => ?_)
    · have h := h.1 hc
      refine a_lv (lv1 := [(2, .long l2)]) [2] rfl ?_
      exact hK_64 v_a0_place l2 h
    · have h := h.2 hc
      refine a_aload_n C (pc := 28) 0 dX5_readWord_28 rfl rfl ?_
      refine a_callV C (pc := 29) (av := []) (wr := []) (m_X0_next Lx Dx cs n_a0_row h0 d0 v_a0_size v_a0_place v_a0_row _ h) [0, 1] [] rfl rfl (by decide) (by decide) (by decide) wM_X5_56 wb_X0_next hy_X0_next (q0 := 0) rfl rfl rfl ⟨Nat.le_of_ble_eq_true rfl, Nat.le_of_ble_eq_true rfl⟩ (Nat.le_of_ble_eq_true rfl) hkm hnm rfl dX5_readWord_29 (fun v w1 hw => ?_) [] rfl (fun _ _ h => h.elim)
      obtain ⟨r_4, v_a0_place_5, rfl, rfl, h⟩ := hw
      refine a_ws (st1 := [.int r_4]) (ws1 := [(h0, oX0 d0 v_a0_size v_a0_place_5), ((d0 0), aB cs n_a0_row v_a0_row)]) k n9 32 [0, 1] rfl rfl rfl rfl (by decide) rfl ?_
      refine a_istore C (pc := 32) (lv1 := [(0, .ref h0), (1, .int l1), (2, .long l2), (4, .int l4), (5, .int r_4)]) [1, 2, 3, 4, 0] dX5_readWord_32 (by decide) rfl ?_
      refine a_iload C (pc := 34) 4 dX5_readWord_34 rfl ?_
      refine a_bipush C (pc := 36) dX5_readWord_36 bp_97 ?_
      refine a_bipush C (pc := 38) dX5_readWord_38 bp_122 ?_
      refine a_callS C (pc := 40) (av := [.int r_4, .int 97, .int 122]) (wr := [(h0, oX0 d0 v_a0_size v_a0_place_5), ((d0 0), aB cs n_a0_row v_a0_row)]) (m_X5_isWithin Lx Dx cs r_4 97 122 _ h) [] [0, 1] rfl rfl (by decide) (by decide) (by decide) wM_X5_60 wb_X5_isWithin hy_X5_isWithin rfl ⟨Nat.le_of_ble_eq_true rfl, Nat.le_of_ble_eq_true rfl⟩ (Nat.le_of_ble_eq_true rfl) hkm hnm rfl dX5_readWord_40 (fun v w1 hw => ?_) [] rfl (fun _ _ h => h.elim)
      obtain ⟨r_6, rfl, rfl, h⟩ := hw
      refine a_ws (st1 := [.int r_6]) (ws1 := [(h0, oX0 d0 v_a0_size v_a0_place_5), ((d0 0), aB cs n_a0_row v_a0_row)]) k n9 43 [0, 1] rfl rfl rfl rfl (by decide) rfl ?_
      refine a_if_ne C (pc := 43) 48 dX5_readWord_43 (by decide) (fun hc => ?_) (fun hc => ?_)
      · have h := h.1 hc
        refine a_lload_n C (pc := 48) 2 dX5_readWord_48 rfl rfl ?_
        refine a_iload C (pc := 49) 4 dX5_readWord_49 rfl ?_
        refine a_iload C (pc := 51) 3 dX5_readWord_51 rfl ?_
        refine a_callS C (pc := 53) (av := [.int r_4, .int l4]) (wr := [(h0, oX0 d0 v_a0_size v_a0_place_5), ((d0 0), aB cs n_a0_row v_a0_row)]) (m_X7_place Lx Dx cs r_4 l4 _ h) [] [0, 1] rfl rfl (by decide) (by decide) (by decide) wM_X5_135 wb_X7_place hy_X7_place rfl ⟨Nat.le_of_ble_eq_true rfl, Nat.le_of_ble_eq_true rfl⟩ (Nat.le_of_ble_eq_true rfl) hkm hnm rfl dX5_readWord_53 (fun v w1 hw => ?_) [] rfl (fun _ _ h => h.elim)
        obtain ⟨r_7, rfl, rfl, h⟩ := hw
        refine a_ws (st1 := [.long r_7, .long l2]) (ws1 := [(h0, oX0 d0 v_a0_size v_a0_place_5), ((d0 0), aB cs n_a0_row v_a0_row)]) k n9 56 [0, 1] rfl rfl rfl rfl (by decide) rfl ?_
        refine a_lor C (pc := 56) dX5_readWord_56 ?_
        refine a_lstore_n C (pc := 57) (lv1 := [(0, .ref h0), (1, .int l1), (2, .long (l2 ||| r_7)), (4, .int l4), (5, .int r_4)]) [1, 2, 0, 3, 4] dX5_readWord_57 rfl (by decide) rfl ?_
        refine a_iinc C (pc := 58) (lv1 := [(0, .ref h0), (1, .int l1), (2, .long (l2 ||| r_7)), (4, .int (l4 + 1)), (5, .int r_4)]) 3 [1, 2, 3, 0, 4] dX5_readWord_58 rfl (congrArg (fun z => l4 + z) ic_1) (by decide) rfl ?_
        refine a_goto C (pc := 61) 22 dX5_readWord_61 (by decide) ?_
        refine a_lv (lv1 := [(0, .ref h0), (1, .int l1), (2, .long (l2 ||| r_7)), (4, .int (l4 + 1))]) [0, 1, 2, 3] rfl ?_
        exact ih v_a0_place_5 l1 (l2 ||| r_7) (l4 + 1) h hK_64
      · have h := h.2 hc
        refine a_lconst C (pc := 46) (v := 0) dX5_readWord_46 rfl ?_
        exact a_lreturn C (pc := 47) rfl dX5_readWord_47 hkm hnm ⟨_, _, rfl, rfl, h⟩
set_option maxRecDepth 100000 in
set_option maxHeartbeats 4000000 in
theorem m_X5_readWord (Lx : Launch) (Dx : va_G) (cs : Nat → ClassId) (n_a0_row : Nat) (h0 : Nat) (d0 : Nat → Nat) (v_a0_size : Int32) (v_a0_place : Int32) (v_a0_row : Nat → Int32) (Φ : Int64 → Int32 → Prop) (h : P_X5_readWord n_a0_row v_a0_size v_a0_place v_a0_row Φ) : XMet Lx Dx cs yX5_readWord cX5_readWord 6 (some .long) 2 41 0 0 [.ref h0] [(h0, oX0 d0 v_a0_size v_a0_place), ((d0 0), aB cs n_a0_row v_a0_row)] (R_X5_readWord cs n_a0_row h0 d0 v_a0_size v_a0_row Φ) (fun _ _ => False) := by
  refine XMet.of (own := RX5) (nm := "readWord") (by decide) rfl rfl (Nat.le_of_ble_eq_true rfl) (fun Γ C => ?_)
  unfold P_X5_readWord at h
  refine a_aload_n C (pc := 0) 0 dX5_readWord_0 rfl rfl ?_
  refine a_callV C (pc := 1) (av := []) (wr := []) (m_X0_next Lx Dx cs n_a0_row h0 d0 v_a0_size v_a0_place v_a0_row _ h) [0, 1] [] rfl rfl (by decide) (by decide) (by decide) wM_X5_56 wb_X0_next hy_X0_next (q0 := 0) rfl rfl rfl ⟨Nat.le_of_ble_eq_true rfl, Nat.le_of_ble_eq_true rfl⟩ (Nat.le_of_ble_eq_true rfl) (Nat.le_of_ble_eq_true rfl) (Nat.le_of_ble_eq_true rfl) rfl dX5_readWord_1 (fun v w1 hw => ?_) [] rfl (fun _ _ h => h.elim)
  obtain ⟨r_1, v_a0_place_2, rfl, rfl, h⟩ := hw
  refine a_ws (st1 := [.int r_1]) (ws1 := [(h0, oX0 d0 v_a0_size v_a0_place_2), ((d0 0), aB cs n_a0_row v_a0_row)]) 0 0 4 [0, 1] rfl rfl rfl rfl (by decide) rfl ?_
  refine a_istore_n C (pc := 4) (lv1 := [(0, .ref h0), (1, .int r_1)]) [1, 0] dX5_readWord_4 rfl (by decide) rfl ?_
  refine a_iload_n C (pc := 5) 1 dX5_readWord_5 rfl rfl ?_
  refine a_iconst C (pc := 6) dX5_readWord_6 ic_1 ?_
  refine a_bipush C (pc := 7) dX5_readWord_7 bp_8 ?_
  refine a_callS C (pc := 9) (av := [.int r_1, .int 1, .int 8]) (wr := [(h0, oX0 d0 v_a0_size v_a0_place_2), ((d0 0), aB cs n_a0_row v_a0_row)]) (m_X5_isWithin Lx Dx cs r_1 1 8 _ h) [] [0, 1] rfl rfl (by decide) (by decide) (by decide) wM_X5_60 wb_X5_isWithin hy_X5_isWithin rfl ⟨Nat.le_of_ble_eq_true rfl, Nat.le_of_ble_eq_true rfl⟩ (Nat.le_of_ble_eq_true rfl) (Nat.le_of_ble_eq_true rfl) (Nat.le_of_ble_eq_true rfl) rfl dX5_readWord_9 (fun v w1 hw => ?_) [] rfl (fun _ _ h => h.elim)
  obtain ⟨r_3, rfl, rfl, h⟩ := hw
  refine a_ws (st1 := [.int r_3]) (ws1 := [(h0, oX0 d0 v_a0_size v_a0_place_2), ((d0 0), aB cs n_a0_row v_a0_row)]) 0 0 12 [0, 1] rfl rfl rfl rfl (by decide) rfl ?_
  refine a_if_ne C (pc := 12) 17 dX5_readWord_12 (by decide) (fun hc => ?_) (fun hc => ?_)
  · have h := h.1 hc
    refine a_lconst C (pc := 17) (v := 0) dX5_readWord_17 rfl ?_
    refine a_lstore_n C (pc := 18) (lv1 := [(0, .ref h0), (1, .int r_1), (2, .long 0)]) [1, 2, 0] dX5_readWord_18 rfl (by decide) rfl ?_
    refine a_iconst C (pc := 19) dX5_readWord_19 ic_0 ?_
    refine a_istore C (pc := 20) (lv1 := [(0, .ref h0), (1, .int r_1), (2, .long 0), (4, .int 0)]) [1, 2, 3, 0] dX5_readWord_20 (by decide) rfl ?_
    obtain ⟨n0, h⟩ := h
    refine w_X5_readWord_22 C (Nat.le_of_ble_eq_true rfl) (Nat.le_of_ble_eq_true rfl) n0 v_a0_place_2 r_1 0 0 h ?_
    intro v_a0_place_10 l2_11 h
    refine a_lload_n C (pc := 64) 0 dX5_readWord_64 rfl rfl ?_
    exact a_lreturn C (pc := 65) rfl dX5_readWord_65 (Nat.le_of_ble_eq_true rfl) (Nat.le_of_ble_eq_true rfl) ⟨_, _, rfl, rfl, h⟩
  · have h := h.2 hc
    refine a_lconst C (pc := 15) (v := 0) dX5_readWord_15 rfl ?_
    exact a_lreturn C (pc := 16) rfl dX5_readWord_16 (Nat.le_of_ble_eq_true rfl) (Nat.le_of_ble_eq_true rfl) ⟨_, _, rfl, rfl, h⟩
set_option maxRecDepth 100000 in
set_option maxHeartbeats 4000000 in
theorem m_X4_greatestTerm (Lx : Launch) (Dx : va_G) (cs : Nat → ClassId) (h0 : Nat) (d0 : Nat → Nat) (v_bits : Int32) (v_documents : Int32) (v_terms : Int32) (v_segments : Int32) (v_postings : Int32) (v_term : Nat → Int64) (Φ : Int64 → Prop) (h : P_X4_greatestTerm v_terms v_term Φ) : XMet Lx Dx cs yX4_greatestTerm cX4_greatestTerm 1 (some .long) 0 0 0 0 [.ref h0] [(h0, oX4 d0 v_bits v_documents v_terms v_segments v_postings), ((d0 0), aJ cs 64 v_term)] (R_X4_greatestTerm cs h0 d0 v_bits v_documents v_terms v_segments v_postings v_term Φ) (fun _ _ => False) := by
  refine XMet.of (own := RX4) (nm := "greatestTerm") (by decide) rfl rfl (Nat.le_of_ble_eq_true rfl) (fun Γ C => ?_)
  unfold P_X4_greatestTerm at h
  refine a_aload_n C (pc := 0) 0 dX4_greatestTerm_0 rfl rfl ?_
  refine a_get C (pc := 1) 0 7 inW_X4 rfl rfl (Nat.le_of_ble_eq_true rfl) wF_X4_35 rfl rfl dX4_greatestTerm_1 ?_
  refine a_if_ne C (pc := 4) 11 dX4_greatestTerm_4 (by decide) (fun hc => ?_) (fun hc => ?_)
  · have h := h.1 hc
    refine a_aload_n C (pc := 11) 0 dX4_greatestTerm_11 rfl rfl ?_
    refine a_get C (pc := 12) 0 0 inW_X4 rfl rfl (Nat.le_of_ble_eq_true rfl) wF_X4_9 rfl rfl dX4_greatestTerm_12 ?_
    refine a_aload_n C (pc := 15) 0 dX4_greatestTerm_15 rfl rfl ?_
    refine a_get C (pc := 16) 0 7 inW_X4 rfl rfl (Nat.le_of_ble_eq_true rfl) wF_X4_35 rfl rfl dX4_greatestTerm_16 ?_
    refine a_iconst C (pc := 19) dX4_greatestTerm_19 ic_1 ?_
    refine a_isub C (pc := 20) dX4_greatestTerm_20 ?_
    refine a_lald C (pc := 21) 1 rfl h.1 dX4_greatestTerm_21 ?_
    replace h := h.2
    exact a_lreturn C (pc := 22) rfl dX4_greatestTerm_22 (Nat.le_of_ble_eq_true rfl) (Nat.le_of_ble_eq_true rfl) ⟨_, rfl, rfl, h⟩
  · have h := h.2 hc
    refine a_lconst C (pc := 7) (v := 0) dX4_greatestTerm_7 rfl ?_
    refine a_goto C (pc := 8) 22 dX4_greatestTerm_8 (by decide) ?_
    exact a_lreturn C (pc := 22) rfl dX4_greatestTerm_22 (Nat.le_of_ble_eq_true rfl) (Nat.le_of_ble_eq_true rfl) ⟨_, rfl, rfl, h⟩
set_option maxRecDepth 100000 in
set_option maxHeartbeats 4000000 in
theorem w_X2_readSevens_2 {Γ : XG} {Lx : Launch} {Dx : va_G} {cs : Nat → ClassId} {n_a1_row : Nat} {h0 : Nat} {h1 : Nat} {d0 : Nat → Nat} {d1 : Nat → Nat} {v_many : Int32} {v_a1_size : Int32} {v_a1_row : Nat → Int32} {K_41 : Int32 → (Nat → Int32) → Prop} {Φ : Int32 → Int32 → (Nat → Int32) → Prop} {k n9 : Nat} (C : CX Γ Lx Dx cs cX2_readSevens RX2 "readSevens" 4 (some .boolean) 2 41 0 0 (qEC cs 0 0 [] (R_X2_readSevens cs n_a1_row h0 h1 d0 d1 v_many v_a1_size v_a1_row Φ) (fun _ _ => False))) (hkm : k ≤ 0) (hnm : n9 ≤ 0) : ∀ n : Nat, ∀ (v_a1_place : Int32) (v_gap : Nat → Int32) (l2 : Int32), L_X2_readSevens_2 n n_a1_row v_many v_a1_size v_a1_place v_a1_row v_gap l2 K_41 Φ → (∀ (v_a1_place_3 : Int32) (v_gap_4 : Nat → Int32), K_41 v_a1_place_3 v_gap_4 → AW Γ k n9 41 [] [] [(h0, oX2 d0 v_many), (h1, oX0 d1 v_a1_size v_a1_place_3), ((d1 0), aB cs n_a1_row v_a1_row), ((d0 0), aI cs 40 v_gap_4)]) → AW Γ k n9 2 [(0, .ref h0), (1, .ref h1), (2, .int l2)] [] [(h0, oX2 d0 v_many), (h1, oX0 d1 v_a1_size v_a1_place), ((d1 0), aB cs n_a1_row v_a1_row), ((d0 0), aI cs 40 v_gap)] := by
  intro n
  induction n with
  | zero =>
    intro v_a1_place v_gap l2 h
    exact False.elim h
  | succ n ih =>
    intro v_a1_place v_gap l2 h hK_41
    rw [L_X2_readSevens_2] at h
    refine a_iload_n C (pc := 2) 2 dX2_readSevens_2 rfl rfl ?_
    refine a_aload_n C (pc := 3) 0 dX2_readSevens_3 rfl rfl ?_
    refine a_get C (pc := 4) 0 1 inW_X2 rfl rfl (Nat.le_of_ble_eq_true rfl) wF_X2_15 rfl rfl dX2_readSevens_4 ?_
    refine a_icmp_ge C (pc := 7) 41 dX2_readSevens_7 (by decide) (fun hc => ?_) (fun hc => ?_)
    · have h := h.1 hc
      refine a_lv (lv1 := []) [] rfl ?_
      exact hK_41 v_a1_place v_gap h
    · have h := h.2 hc
      refine a_aload_n C (pc := 10) 1 dX2_readSevens_10 rfl rfl ?_
      refine a_callV C (pc := 11) (av := []) (wr := [(h0, oX2 d0 v_many), ((d0 0), aI cs 40 v_gap)]) (m_X0_next Lx Dx cs n_a1_row h1 d1 v_a1_size v_a1_place v_a1_row _ h) [1, 2] [0, 3] rfl rfl (by decide) (by decide) (by decide) wM_X2_63 wb_X0_next hy_X0_next (q0 := 1) rfl rfl rfl ⟨Nat.le_of_ble_eq_true rfl, Nat.le_of_ble_eq_true rfl⟩ (Nat.le_of_ble_eq_true rfl) hkm hnm rfl dX2_readSevens_11 (fun v w1 hw => ?_) [] rfl (fun _ _ h => h.elim)
      obtain ⟨r_1, v_a1_place_2, rfl, rfl, h⟩ := hw
      refine a_ws (st1 := [.int r_1]) (ws1 := [(h0, oX2 d0 v_many), (h1, oX0 d1 v_a1_size v_a1_place_2), ((d1 0), aB cs n_a1_row v_a1_row), ((d0 0), aI cs 40 v_gap)]) k n9 14 [0, 2, 3, 1] rfl rfl rfl rfl (by decide) rfl ?_
      refine a_istore_n C (pc := 14) (lv1 := [(0, .ref h0), (1, .ref h1), (2, .int l2), (3, .int r_1)]) [1, 2, 3, 0] dX2_readSevens_14 rfl (by decide) rfl ?_
      refine a_iload_n C (pc := 15) 3 dX2_readSevens_15 rfl rfl ?_
      refine a_sipush C (pc := 16) dX2_readSevens_16 sp_128 ?_
      refine a_icmp_ge C (pc := 19) 24 dX2_readSevens_19 (by decide) (fun hc => ?_) (fun hc => ?_)
      · have h := h.1 hc
        refine a_aload_n C (pc := 24) 0 dX2_readSevens_24 rfl rfl ?_
        refine a_get C (pc := 25) 0 0 inW_X2 rfl rfl (Nat.le_of_ble_eq_true rfl) wF_X2_9 rfl rfl dX2_readSevens_25 ?_
        refine a_iload_n C (pc := 28) 2 dX2_readSevens_28 rfl rfl ?_
        refine a_iload_n C (pc := 29) 3 dX2_readSevens_29 rfl rfl ?_
        refine a_sipush C (pc := 30) dX2_readSevens_30 sp_128 ?_
        refine a_isub C (pc := 33) dX2_readSevens_33 ?_
        refine a_iast C (pc := 34) (ws1 := [(h0, oX2 d0 v_many), (h1, oX0 d1 v_a1_size v_a1_place_2), ((d1 0), aB cs n_a1_row v_a1_row), ((d0 0), aI cs 40 (upd v_gap (l2 : Int32).toNatClampNeg (r_1 - 128)))]) 3 rfl h.1 dX2_readSevens_34 rfl ?_
        replace h := h.2
        refine a_iinc C (pc := 35) (lv1 := [(0, .ref h0), (1, .ref h1), (2, .int (l2 + 1)), (3, .int r_1)]) 2 [1, 2, 0, 3] dX2_readSevens_35 rfl (congrArg (fun z => l2 + z) ic_1) (by decide) rfl ?_
        refine a_goto C (pc := 38) 2 dX2_readSevens_38 (by decide) ?_
        refine a_lv (lv1 := [(0, .ref h0), (1, .ref h1), (2, .int (l2 + 1))]) [0, 1, 2] rfl ?_
        exact ih v_a1_place_2 (upd v_gap (l2 : Int32).toNatClampNeg (r_1 - 128)) (l2 + 1) h hK_41
      · have h := h.2 hc
        refine a_iconst C (pc := 22) dX2_readSevens_22 ic_0 ?_
        exact a_zreturn C (pc := 23) rfl rfl dX2_readSevens_23 hkm hnm ⟨_, _, _, rfl, rfl, h⟩
set_option maxRecDepth 100000 in
set_option maxHeartbeats 4000000 in
theorem m_X2_readSevens (Lx : Launch) (Dx : va_G) (cs : Nat → ClassId) (n_a1_row : Nat) (h0 : Nat) (h1 : Nat) (d0 : Nat → Nat) (d1 : Nat → Nat) (v_many : Int32) (v_a1_size : Int32) (v_a1_place : Int32) (v_a1_row : Nat → Int32) (v_gap : Nat → Int32) (Φ : Int32 → Int32 → (Nat → Int32) → Prop) (h : P_X2_readSevens n_a1_row v_many v_a1_size v_a1_place v_a1_row v_gap Φ) : XMet Lx Dx cs yX2_readSevens cX2_readSevens 4 (some .boolean) 2 41 0 0 [.ref h0, .ref h1] [(h0, oX2 d0 v_many), (h1, oX0 d1 v_a1_size v_a1_place), ((d1 0), aB cs n_a1_row v_a1_row), ((d0 0), aI cs 40 v_gap)] (R_X2_readSevens cs n_a1_row h0 h1 d0 d1 v_many v_a1_size v_a1_row Φ) (fun _ _ => False) := by
  refine XMet.of (own := RX2) (nm := "readSevens") (by decide) rfl rfl (Nat.le_of_ble_eq_true rfl) (fun Γ C => ?_)
  unfold P_X2_readSevens at h
  refine a_iconst C (pc := 0) dX2_readSevens_0 ic_0 ?_
  refine a_istore_n C (pc := 1) (lv1 := [(0, .ref h0), (1, .ref h1), (2, .int 0)]) [1, 2, 0] dX2_readSevens_1 rfl (by decide) rfl ?_
  obtain ⟨n0, h⟩ := h
  refine w_X2_readSevens_2 C (Nat.le_of_ble_eq_true rfl) (Nat.le_of_ble_eq_true rfl) n0 v_a1_place v_gap 0 h ?_
  intro v_a1_place_5 v_gap_6 h
  refine a_iconst C (pc := 41) dX2_readSevens_41 ic_1 ?_
  exact a_zreturn C (pc := 42) rfl rfl dX2_readSevens_42 (Nat.le_of_ble_eq_true rfl) (Nat.le_of_ble_eq_true rfl) ⟨_, _, _, rfl, rfl, h⟩
set_option maxRecDepth 100000 in
set_option maxHeartbeats 4000000 in
theorem m_X0_left (Lx : Launch) (Dx : va_G) (cs : Nat → ClassId) (h0 : Nat) (d0 : Nat → Nat) (v_size : Int32) (v_place : Int32) (Φ : Int32 → Prop) (h : P_X0_left v_size v_place Φ) : XMet Lx Dx cs yX0_left cX0_left 1 (some .int) 0 0 0 0 [.ref h0] [(h0, oX0 d0 v_size v_place)] (R_X0_left cs h0 d0 v_size v_place Φ) (fun _ _ => False) := by
  refine XMet.of (own := RX0) (nm := "left") (by decide) rfl rfl (Nat.le_of_ble_eq_true rfl) (fun Γ C => ?_)
  unfold P_X0_left at h
  refine a_aload_n C (pc := 0) 0 dX0_left_0 rfl rfl ?_
  refine a_get C (pc := 1) 0 1 inW_X0 rfl rfl (Nat.le_of_ble_eq_true rfl) wF_X0_7 rfl rfl dX0_left_1 ?_
  refine a_aload_n C (pc := 4) 0 dX0_left_4 rfl rfl ?_
  refine a_get C (pc := 5) 0 2 inW_X0 rfl rfl (Nat.le_of_ble_eq_true rfl) wF_X0_13 rfl rfl dX0_left_5 ?_
  refine a_isub C (pc := 8) dX0_left_8 ?_
  exact a_ireturn C (pc := 9) rfl dX0_left_9 (Nat.le_of_ble_eq_true rfl) (Nat.le_of_ble_eq_true rfl) ⟨_, rfl, rfl, h⟩
set_option maxRecDepth 100000 in
set_option maxHeartbeats 4000000 in
theorem m_X0_nextEight (Lx : Launch) (Dx : va_G) (cs : Nat → ClassId) (n_row : Nat) (h0 : Nat) (d0 : Nat → Nat) (v_size : Int32) (v_place : Int32) (v_row : Nat → Int32) (Φ : Int64 → Int32 → Prop) (h : P_X0_nextEight n_row v_size v_place v_row Φ) : XMet Lx Dx cs yX0_nextEight cX0_nextEight 3 (some .long) 1 24 0 0 [.ref h0] [(h0, oX0 d0 v_size v_place), ((d0 0), aB cs n_row v_row)] (R_X0_nextEight cs n_row h0 d0 v_size v_row Φ) (fun _ _ => False) := by
  refine XMet.of (own := RX0) (nm := "nextEight") (by decide) rfl rfl (Nat.le_of_ble_eq_true rfl) (fun Γ C => ?_)
  unfold P_X0_nextEight at h
  refine a_aload_n C (pc := 0) 0 dX0_nextEight_0 rfl rfl ?_
  refine a_aload_n C (pc := 1) 0 dX0_nextEight_1 rfl rfl ?_
  refine a_get C (pc := 2) 0 2 inW_X0 rfl rfl (Nat.le_of_ble_eq_true rfl) wF_X0_13 rfl rfl dX0_nextEight_2 ?_
  refine a_callV C (pc := 5) (av := [.int v_place]) (wr := []) (m_X0_eightFrom Lx Dx cs n_row h0 d0 v_size v_place v_row v_place _ h) [0, 1] [] rfl rfl (by decide) (by decide) (by decide) wM_X0_30 wb_X0_eightFrom hy_X0_eightFrom (q0 := 0) rfl rfl rfl ⟨Nat.le_of_ble_eq_true rfl, Nat.le_of_ble_eq_true rfl⟩ (Nat.le_of_ble_eq_true rfl) (Nat.le_of_ble_eq_true rfl) (Nat.le_of_ble_eq_true rfl) rfl dX0_nextEight_5 (fun v w1 hw => ?_) [] rfl (fun _ _ h => h.elim)
  obtain ⟨r_1, rfl, rfl, h⟩ := hw
  refine a_ws (st1 := [.long r_1]) (ws1 := [(h0, oX0 d0 v_size v_place), ((d0 0), aB cs n_row v_row)]) 0 0 8 [0, 1] rfl rfl rfl rfl (by decide) rfl ?_
  refine a_lstore_n C (pc := 8) (lv1 := [(0, .ref h0), (1, .long r_1)]) [1, 0] dX0_nextEight_8 rfl (by decide) rfl ?_
  refine a_aload_n C (pc := 9) 0 dX0_nextEight_9 rfl rfl ?_
  refine a_aload_n C (pc := 10) 0 dX0_nextEight_10 rfl rfl ?_
  refine a_get C (pc := 11) 0 2 inW_X0 rfl rfl (Nat.le_of_ble_eq_true rfl) wF_X0_13 rfl rfl dX0_nextEight_11 ?_
  refine a_bipush C (pc := 14) dX0_nextEight_14 bp_8 ?_
  refine a_iadd C (pc := 16) dX0_nextEight_16 ?_
  refine a_aload_n C (pc := 17) 0 dX0_nextEight_17 rfl rfl ?_
  refine a_get C (pc := 18) 0 1 inW_X0 rfl rfl (Nat.le_of_ble_eq_true rfl) wF_X0_7 rfl rfl dX0_nextEight_18 ?_
  refine a_min C (pc := 21) wM_X0_34 wX_min (Nat.le_of_ble_eq_true rfl) (Nat.le_of_ble_eq_true rfl) (Nat.le_of_ble_eq_true rfl) (Nat.le_of_ble_eq_true rfl) dX0_nextEight_21 ?_
  refine a_put C (pc := 24) (ws1 := [(h0, oX0 d0 v_size (imin (v_place + 8) v_size)), ((d0 0), aB cs n_row v_row)]) 0 2 inW_X0 tyX0 tyX0_ok nmX0 rfl rfl (Nat.le_of_ble_eq_true rfl) wF_X0_13 rfl rfl rfl rfl rfl (Nat.le_of_ble_eq_true rfl) dX0_nextEight_24 rfl ?_
  refine a_lload_n C (pc := 27) 1 dX0_nextEight_27 rfl rfl ?_
  exact a_lreturn C (pc := 28) rfl dX0_nextEight_28 (Nat.le_of_ble_eq_true rfl) (Nat.le_of_ble_eq_true rfl) ⟨_, _, rfl, rfl, h⟩
