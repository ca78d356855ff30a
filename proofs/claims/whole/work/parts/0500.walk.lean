set_option maxRecDepth 100000 in
set_option maxHeartbeats 4000000 in
theorem m_X0_size (Lx : Launch) (Dx : va_G) (cs : Nat → ClassId) (h0 : Nat) (d0 : Nat → Nat) (v_size : Int32) (v_place : Int32) (Φ : Int32 → Prop) (h : P_X0_size v_size Φ) : XMet Lx Dx cs yX0_size cX0_size 1 (some .int) 0 0 0 0 [.ref h0] [(h0, oX0 d0 v_size v_place)] (R_X0_size cs h0 d0 v_size v_place Φ) (fun _ _ => False) := by
  refine XMet.of (own := RX0) (nm := "size") (by decide) rfl rfl (Nat.le_of_ble_eq_true rfl) (fun Γ C => ?_)
  unfold P_X0_size at h
  refine a_aload_n C (pc := 0) 0 dX0_size_0 rfl rfl ?_
  refine a_get C (pc := 1) 0 1 inW_X0 rfl rfl (Nat.le_of_ble_eq_true rfl) wF_X0_7 rfl rfl dX0_size_1 ?_
  exact a_ireturn C (pc := 4) rfl dX0_size_4 (Nat.le_of_ble_eq_true rfl) (Nat.le_of_ble_eq_true rfl) ⟨_, rfl, rfl, h⟩
set_option maxRecDepth 100000 in
set_option maxHeartbeats 4000000 in
theorem m_X0_put (Lx : Launch) (Dx : va_G) (cs : Nat → ClassId) (n_row : Nat) (h0 : Nat) (d0 : Nat → Nat) (v_size : Int32) (v_place : Int32) (v_row : Nat → Int32) (l1 : Int32) (Φ : Int32 → (Nat → Int32) → Prop) (h : P_X0_put n_row v_size v_row l1 Φ) : XMet Lx Dx cs yX0_put cX0_put 2 none 0 0 0 0 [.ref h0, .int l1] [(h0, oX0 d0 v_size v_place), ((d0 0), aB cs n_row v_row)] (R_X0_put cs n_row h0 d0 v_place Φ) (fun _ _ => False) := by
  refine XMet.of (own := RX0) (nm := "put") (by decide) rfl rfl (Nat.le_of_ble_eq_true rfl) (fun Γ C => ?_)
  unfold P_X0_put at h
  refine a_aload_n C (pc := 0) 0 dX0_put_0 rfl rfl ?_
  refine a_get C (pc := 1) 0 1 inW_X0 rfl rfl (Nat.le_of_ble_eq_true rfl) wF_X0_7 rfl rfl dX0_put_1 ?_
  refine a_aload_n C (pc := 4) 0 dX0_put_4 rfl rfl ?_
  refine a_get C (pc := 5) 0 0 inW_X0 rfl rfl (Nat.le_of_ble_eq_true rfl) wF_X0_16 rfl rfl dX0_put_5 ?_
  refine a_alen C (pc := 8) 1 0 rfl rfl rfl dX0_put_8 ?_
  refine a_icmp_ge C (pc := 9) 33 dX0_put_9 (by decide) (fun hc => ?_) (fun hc => ?_)
  · have h := h.1 hc
    exact a_return C (pc := 33) rfl dX0_put_33 (Nat.le_of_ble_eq_true rfl) (Nat.le_of_ble_eq_true rfl) ⟨_, _, rfl, rfl, h⟩
  · have h := h.2 hc
    refine a_aload_n C (pc := 12) 0 dX0_put_12 rfl rfl ?_
    refine a_get C (pc := 13) 0 0 inW_X0 rfl rfl (Nat.le_of_ble_eq_true rfl) wF_X0_16 rfl rfl dX0_put_13 ?_
    refine a_aload_n C (pc := 16) 0 dX0_put_16 rfl rfl ?_
    refine a_get C (pc := 17) 0 1 inW_X0 rfl rfl (Nat.le_of_ble_eq_true rfl) wF_X0_7 rfl rfl dX0_put_17 ?_
    refine a_iload_n C (pc := 20) 1 dX0_put_20 rfl rfl ?_
    refine a_i2b C (pc := 21) dX0_put_21 ?_
    refine a_bast C (pc := 22) (ws1 := [(h0, oX0 d0 v_size v_place), ((d0 0), aB cs n_row (upd v_row (v_size : Int32).toNatClampNeg (vp_nar .byte ((l1 : Int32).toInt8.toInt32))))]) 1 rfl h.1 dX0_put_22 rfl ?_
    replace h := h.2
    refine a_aload_n C (pc := 23) 0 dX0_put_23 rfl rfl ?_
    refine a_dup C (pc := 24) dX0_put_24 rfl ?_
    refine a_get C (pc := 25) 0 1 inW_X0 rfl rfl (Nat.le_of_ble_eq_true rfl) wF_X0_7 rfl rfl dX0_put_25 ?_
    refine a_iconst C (pc := 28) dX0_put_28 ic_1 ?_
    refine a_iadd C (pc := 29) dX0_put_29 ?_
    refine a_put C (pc := 30) (ws1 := [(h0, oX0 d0 (v_size + 1) v_place), ((d0 0), aB cs n_row (upd v_row (v_size : Int32).toNatClampNeg (vp_nar .byte ((l1 : Int32).toInt8.toInt32))))]) 0 1 inW_X0 tyX0 tyX0_ok nmX0 rfl rfl (Nat.le_of_ble_eq_true rfl) wF_X0_7 rfl rfl rfl rfl rfl (Nat.le_of_ble_eq_true rfl) dX0_put_30 rfl ?_
    exact a_return C (pc := 33) rfl dX0_put_33 (Nat.le_of_ble_eq_true rfl) (Nat.le_of_ble_eq_true rfl) ⟨_, _, rfl, rfl, h⟩
set_option maxRecDepth 100000 in
set_option maxHeartbeats 4000000 in
theorem w_X8_feed_45 {Γ : XG} {Lx : Launch} {Dx : va_G} {cs : Nat → ClassId} {h0 : Nat} {hdr : Nat} {d0 : Nat → Nat} {d_tape : Nat → Nat} {v_ticks : Int64} {v_tape_place : Int32} {K_72 : Int32 → (Nat → Int32) → Prop} {Φ : Int32 → Int32 → (Nat → Int32) → Prop} {X : String → Int32 → (Nat → Int32) → Prop} {k n9 : Nat} (C : CX Γ Lx Dx cs cX8_feed RX8 "feed" 5 (some .int) 6 85 1 6 (qEC cs 1 6 [] (R_X8_feed cs h0 hdr d0 d_tape v_ticks v_tape_place Φ) (Y_X8_feed cs h0 hdr d0 d_tape v_ticks v_tape_place X))) (hkm : k ≤ 1) (hnm : n9 ≤ 6) : ∀ n : Nat, ∀ (v_tape_size : Int32) (v_tape_row : Nat → Int32) (l1 : Int32) (l2 : Int64) (l4 : Int32), L_X8_feed_45 n v_tape_size v_tape_row l1 l2 l4 K_72 Φ X → (∀ (v_tape_size_4 : Int32) (v_tape_row_5 : Nat → Int32), K_72 v_tape_size_4 v_tape_row_5 → AW Γ k n9 72 [(0, .ref h0)] [] [(h0, oX8 d0 hdr v_ticks), ((d0 0), oX0 d_tape v_tape_size_4 v_tape_place), ((d_tape 0), aB cs 3000 v_tape_row_5)]) → AW Γ k n9 45 [(0, .ref h0), (1, .int l1), (2, .long l2), (4, .int l4)] [] [(h0, oX8 d0 hdr v_ticks), ((d0 0), oX0 d_tape v_tape_size v_tape_place), ((d_tape 0), aB cs 3000 v_tape_row)] := by
  intro n
  induction n with
  | zero =>
    intro v_tape_size v_tape_row l1 l2 l4 h
    exact False.elim h
  | succ n ih =>
    intro v_tape_size v_tape_row l1 l2 l4 h hK_72
    rw [L_X8_feed_45] at h
    refine a_iload C (pc := 45) 3 dX8_feed_45 rfl ?_
    refine a_iload_n C (pc := 47) 1 dX8_feed_47 rfl rfl ?_
    refine a_icmp_ge C (pc := 48) 72 dX8_feed_48 (by decide) (fun hc => ?_) (fun hc => ?_)
    · have h := h.1 hc
      refine a_lv (lv1 := [(0, .ref h0)]) [0] rfl ?_
      exact hK_72 v_tape_size v_tape_row h
    · have h := h.2 hc
      refine a_aload_n C (pc := 51) 0 dX8_feed_51 rfl rfl ?_
      refine a_get C (pc := 52) 0 0 inW_X8 rfl rfl (Nat.le_of_ble_eq_true rfl) wF_X8_14 rfl rfl dX8_feed_52 ?_
      refine a_lload_n C (pc := 55) 2 dX8_feed_55 rfl rfl ?_
      refine a_bipush C (pc := 56) dX8_feed_56 bp_8 ?_
      refine a_iload C (pc := 58) 3 dX8_feed_58 rfl ?_
      refine a_imul C (pc := 60) dX8_feed_60 ?_
      refine a_lushr C (pc := 61) dX8_feed_61 ?_
      refine a_l2i C (pc := 62) dX8_feed_62 ?_
      refine a_callV C (pc := 63) (av := [.int ((((l2.toUInt64 >>> ((8 * l4).toInt64.toUInt64 &&& Int64.toUInt64 63)).toInt64) : Int64).toInt32)]) (wr := [(h0, oX8 d0 hdr v_ticks)]) (m_X0_put Lx Dx cs 3000 (d0 0) d_tape v_tape_size v_tape_place v_tape_row ((((l2.toUInt64 >>> ((8 * l4).toInt64.toUInt64 &&& Int64.toUInt64 63)).toInt64) : Int64).toInt32) _ h) [1, 2] [0] rfl rfl (by decide) (by decide) (by decide) wM_X8_77 wb_X0_put hy_X0_put (q0 := 1) rfl rfl rfl ⟨Nat.le_of_ble_eq_true rfl, Nat.le_of_ble_eq_true rfl⟩ (Nat.le_of_ble_eq_true rfl) hkm hnm rfl dX8_feed_63 (fun v w1 hw => ?_) [] rfl (fun _ _ h => h.elim)
      obtain ⟨v_tape_size_2, v_tape_row_3, rfl, rfl, h⟩ := hw
      refine a_ws (st1 := []) (ws1 := [(h0, oX8 d0 hdr v_ticks), ((d0 0), oX0 d_tape v_tape_size_2 v_tape_place), ((d_tape 0), aB cs 3000 v_tape_row_3)]) k n9 66 [0, 1, 2] rfl rfl rfl rfl (by decide) rfl ?_
      refine a_iinc C (pc := 66) (lv1 := [(0, .ref h0), (1, .int l1), (2, .long l2), (4, .int (l4 + 1))]) 3 [1, 2, 3, 0] dX8_feed_66 rfl (congrArg (fun z => l4 + z) ic_1) (by decide) rfl ?_
      refine a_goto C (pc := 69) 45 dX8_feed_69 (by decide) ?_
      exact ih v_tape_size_2 v_tape_row_3 l1 l2 (l4 + 1) h hK_72
set_option maxRecDepth 100000 in
set_option maxHeartbeats 4000000 in
theorem m_X8_feed (Lx : Launch) (Dx : va_G) (cs : Nat → ClassId) (h0 : Nat) (hdr : Nat) (d0 : Nat → Nat) (d_tape : Nat → Nat) (v_ticks : Int64) (v_tape_size : Int32) (v_tape_place : Int32) (v_tape_row : Nat → Int32) (l1 : Int32) (l2 : Int64) (Φ : Int32 → Int32 → (Nat → Int32) → Prop) (X : String → Int32 → (Nat → Int32) → Prop) (h : P_X8_feed v_tape_size v_tape_row l1 l2 Φ X) : XMet Lx Dx cs yX8_feed cX8_feed 5 (some .int) 6 85 1 6 [.ref h0, .int l1, .long l2] [(h0, oX8 d0 hdr v_ticks), ((d0 0), oX0 d_tape v_tape_size v_tape_place), ((d_tape 0), aB cs 3000 v_tape_row)] (R_X8_feed cs h0 hdr d0 d_tape v_ticks v_tape_place Φ) (Y_X8_feed cs h0 hdr d0 d_tape v_ticks v_tape_place X) := by
  refine XMet.of (own := RX8) (nm := "feed") (by decide) rfl rfl (Nat.le_of_ble_eq_true rfl) (fun Γ C => ?_)
  unfold P_X8_feed at h
  refine a_iload_n C (pc := 0) 1 dX8_feed_0 rfl rfl ?_
  refine a_iconst C (pc := 1) dX8_feed_1 ic_1 ?_
  refine a_icmp_lt C (pc := 2) 11 dX8_feed_2 (by decide) (fun hc => ?_) (fun hc => ?_)
  · have h := h.1 hc
    exact a_throw C (pc := 11) (by decide +kernel) wK_X8_67 wI_IllegalArgumentException atg_X8_69 atn_X8_69 (by decide +kernel) dX8_feed_11 dX8_feed_14 dX8_feed_15 dX8_feed_18 (Nat.le_of_ble_eq_true rfl) (Nat.le_of_ble_eq_true rfl) (Nat.le_of_ble_eq_true rfl) (Nat.le_of_ble_eq_true rfl) ⟨_, _, rfl, h⟩
  · have h := h.2 hc
    refine a_iload_n C (pc := 5) 1 dX8_feed_5 rfl rfl ?_
    refine a_bipush C (pc := 6) dX8_feed_6 bp_8 ?_
    refine a_icmp_le C (pc := 8) 19 dX8_feed_8 (by decide) (fun hc => ?_) (fun hc => ?_)
    · have h := h.1 hc
      refine a_aload_n C (pc := 19) 0 dX8_feed_19 rfl rfl ?_
      refine a_get C (pc := 20) 0 0 inW_X8 rfl rfl (Nat.le_of_ble_eq_true rfl) wF_X8_14 rfl rfl dX8_feed_20 ?_
      refine a_callV C (pc := 23) (av := []) (wr := [(h0, oX8 d0 hdr v_ticks), ((d_tape 0), aB cs 3000 v_tape_row)]) (m_X0_size Lx Dx cs (d0 0) d_tape v_tape_size v_tape_place _ h) [1] [0, 2] rfl rfl (by decide) (by decide) (by decide) wM_X8_70 wb_X0_size hy_X0_size (q0 := 1) rfl rfl rfl ⟨Nat.le_of_ble_eq_true rfl, Nat.le_of_ble_eq_true rfl⟩ (Nat.le_of_ble_eq_true rfl) (Nat.le_of_ble_eq_true rfl) (Nat.le_of_ble_eq_true rfl) rfl dX8_feed_23 (fun v w1 hw => ?_) [] rfl (fun _ _ h => h.elim)
      obtain ⟨r_1, rfl, rfl, h⟩ := hw
      refine a_ws (st1 := [.int r_1]) (ws1 := [(h0, oX8 d0 hdr v_ticks), ((d0 0), oX0 d_tape v_tape_size v_tape_place), ((d_tape 0), aB cs 3000 v_tape_row)]) 0 0 26 [0, 2, 1] rfl rfl rfl rfl (by decide) rfl ?_
      refine a_iload_n C (pc := 26) 1 dX8_feed_26 rfl rfl ?_
      refine a_iadd C (pc := 27) dX8_feed_27 ?_
      refine a_sipush C (pc := 28) dX8_feed_28 sp_3000 ?_
      refine a_icmp_le C (pc := 31) 42 dX8_feed_31 (by decide) (fun hc => ?_) (fun hc => ?_)
      · have h := h.1 hc
        refine a_iconst C (pc := 42) dX8_feed_42 ic_0 ?_
        refine a_istore C (pc := 43) (lv1 := [(0, .ref h0), (1, .int l1), (2, .long l2), (4, .int 0)]) [1, 2, 3, 0] dX8_feed_43 (by decide) rfl ?_
        obtain ⟨n0, h⟩ := h
        refine w_X8_feed_45 C (Nat.le_of_ble_eq_true rfl) (Nat.le_of_ble_eq_true rfl) n0 v_tape_size v_tape_row l1 l2 0 h ?_
        intro v_tape_size_6 v_tape_row_7 h
        refine a_aload_n C (pc := 72) 0 dX8_feed_72 rfl rfl ?_
        refine a_get C (pc := 73) 0 0 inW_X8 rfl rfl (Nat.le_of_ble_eq_true rfl) wF_X8_14 rfl rfl dX8_feed_73 ?_
        refine a_callV C (pc := 76) (av := []) (wr := [(h0, oX8 d0 hdr v_ticks), ((d_tape 0), aB cs 3000 v_tape_row_7)]) (m_X0_size Lx Dx cs (d0 0) d_tape v_tape_size_6 v_tape_place _ h) [1] [0, 2] rfl rfl (by decide) (by decide) (by decide) wM_X8_70 wb_X0_size hy_X0_size (q0 := 1) rfl rfl rfl ⟨Nat.le_of_ble_eq_true rfl, Nat.le_of_ble_eq_true rfl⟩ (Nat.le_of_ble_eq_true rfl) (Nat.le_of_ble_eq_true rfl) (Nat.le_of_ble_eq_true rfl) rfl dX8_feed_76 (fun v w1 hw => ?_) [] rfl (fun _ _ h => h.elim)
        obtain ⟨r_8, rfl, rfl, h⟩ := hw
        refine a_ws (st1 := [.int r_8]) (ws1 := [(h0, oX8 d0 hdr v_ticks), ((d0 0), oX0 d_tape v_tape_size_6 v_tape_place), ((d_tape 0), aB cs 3000 v_tape_row_7)]) 0 0 79 [0, 2, 1] rfl rfl rfl rfl (by decide) rfl ?_
        exact a_ireturn C (pc := 79) rfl dX8_feed_79 (Nat.le_of_ble_eq_true rfl) (Nat.le_of_ble_eq_true rfl) ⟨_, _, _, rfl, rfl, h⟩
      · have h := h.2 hc
        exact a_throw C (pc := 34) (by decide +kernel) wK_X8_74 wI_IllegalStateException atg_X8_76 atn_X8_76 (by decide +kernel) dX8_feed_34 dX8_feed_37 dX8_feed_38 dX8_feed_41 (Nat.le_of_ble_eq_true rfl) (Nat.le_of_ble_eq_true rfl) (Nat.le_of_ble_eq_true rfl) (Nat.le_of_ble_eq_true rfl) ⟨_, _, rfl, h⟩
    · have h := h.2 hc
      exact a_throw C (pc := 11) (by decide +kernel) wK_X8_67 wI_IllegalArgumentException atg_X8_69 atn_X8_69 (by decide +kernel) dX8_feed_11 dX8_feed_14 dX8_feed_15 dX8_feed_18 (Nat.le_of_ble_eq_true rfl) (Nat.le_of_ble_eq_true rfl) (Nat.le_of_ble_eq_true rfl) (Nat.le_of_ble_eq_true rfl) ⟨_, _, rfl, h⟩
set_option maxRecDepth 100000 in
set_option maxHeartbeats 4000000 in
theorem m_X0_at (Lx : Launch) (Dx : va_G) (cs : Nat → ClassId) (n_row : Nat) (h0 : Nat) (d0 : Nat → Nat) (v_size : Int32) (v_place : Int32) (v_row : Nat → Int32) (l1 : Int32) (Φ : Int32 → Prop) (h : P_X0_at n_row v_size v_row l1 Φ) : XMet Lx Dx cs yX0_at cX0_at 2 (some .int) 0 0 0 0 [.ref h0, .int l1] [(h0, oX0 d0 v_size v_place), ((d0 0), aB cs n_row v_row)] (R_X0_at cs n_row h0 d0 v_size v_place v_row Φ) (fun _ _ => False) := by
  refine XMet.of (own := RX0) (nm := "at") (by decide) rfl rfl (Nat.le_of_ble_eq_true rfl) (fun Γ C => ?_)
  unfold P_X0_at at h
  refine a_iload_n C (pc := 0) 1 dX0_at_0 rfl rfl ?_
  refine a_if_lt C (pc := 1) 25 dX0_at_1 (by decide) (fun hc => ?_) (fun hc => ?_)
  · have h := h.1 hc
    refine a_iconst C (pc := 25) dX0_at_25 ic_0 ?_
    exact a_ireturn C (pc := 26) rfl dX0_at_26 (Nat.le_of_ble_eq_true rfl) (Nat.le_of_ble_eq_true rfl) ⟨_, rfl, rfl, h⟩
  · have h := h.2 hc
    refine a_iload_n C (pc := 4) 1 dX0_at_4 rfl rfl ?_
    refine a_aload_n C (pc := 5) 0 dX0_at_5 rfl rfl ?_
    refine a_get C (pc := 6) 0 1 inW_X0 rfl rfl (Nat.le_of_ble_eq_true rfl) wF_X0_7 rfl rfl dX0_at_6 ?_
    refine a_icmp_ge C (pc := 9) 25 dX0_at_9 (by decide) (fun hc => ?_) (fun hc => ?_)
    · have h := h.1 hc
      refine a_iconst C (pc := 25) dX0_at_25 ic_0 ?_
      exact a_ireturn C (pc := 26) rfl dX0_at_26 (Nat.le_of_ble_eq_true rfl) (Nat.le_of_ble_eq_true rfl) ⟨_, rfl, rfl, h⟩
    · have h := h.2 hc
      refine a_aload_n C (pc := 12) 0 dX0_at_12 rfl rfl ?_
      refine a_get C (pc := 13) 0 0 inW_X0 rfl rfl (Nat.le_of_ble_eq_true rfl) wF_X0_16 rfl rfl dX0_at_13 ?_
      refine a_iload_n C (pc := 16) 1 dX0_at_16 rfl rfl ?_
      refine a_bald C (pc := 17) 1 rfl h.1 dX0_at_17 ?_
      replace h := h.2
      refine a_sipush C (pc := 18) dX0_at_18 sp_255 ?_
      refine a_iand C (pc := 21) dX0_at_21 ?_
      refine a_goto C (pc := 22) 26 dX0_at_22 (by decide) ?_
      exact a_ireturn C (pc := 26) rfl dX0_at_26 (Nat.le_of_ble_eq_true rfl) (Nat.le_of_ble_eq_true rfl) ⟨_, rfl, rfl, h⟩
set_option maxRecDepth 100000 in
set_option maxHeartbeats 4000000 in
theorem w_X7_letterOf_20 {Γ : XG} {Lx : Launch} {Dx : va_G} {cs : Nat → ClassId} {Φ : Int32 → Prop} {k n9 : Nat} (C : CX Γ Lx Dx cs cX7_letterOf RX7 "letterOf" 1 (some .int) 0 0 0 0 (qEC cs 0 0 [] (R_X7_letterOf cs Φ) (fun _ _ => False))) (hkm : k ≤ 0) (hnm : n9 ≤ 0) (l0 : Int32) (h : J_X7_letterOf_20 l0 Φ) : AW Γ k n9 20 [(0, .int l0)] [] [] := by
  unfold J_X7_letterOf_20 at h
  refine a_iload_n C (pc := 20) 0 dX7_letterOf_20 rfl rfl ?_
  refine a_bipush C (pc := 21) dX7_letterOf_21 bp_97 ?_
  refine a_icmp_lt C (pc := 23) 36 dX7_letterOf_23 (by decide) (fun hc => ?_) (fun hc => ?_)
  · have h := h.1 hc
    refine a_iconst C (pc := 36) dX7_letterOf_36 ic_0 ?_
    exact a_ireturn C (pc := 37) rfl dX7_letterOf_37 hkm hnm ⟨_, rfl, rfl, h⟩
  · have h := h.2 hc
    refine a_iload_n C (pc := 26) 0 dX7_letterOf_26 rfl rfl ?_
    refine a_bipush C (pc := 27) dX7_letterOf_27 bp_122 ?_
    refine a_icmp_gt C (pc := 29) 36 dX7_letterOf_29 (by decide) (fun hc => ?_) (fun hc => ?_)
    · have h := h.1 hc
      refine a_iconst C (pc := 36) dX7_letterOf_36 ic_0 ?_
      exact a_ireturn C (pc := 37) rfl dX7_letterOf_37 hkm hnm ⟨_, rfl, rfl, h⟩
    · have h := h.2 hc
      refine a_iload_n C (pc := 32) 0 dX7_letterOf_32 rfl rfl ?_
      refine a_goto C (pc := 33) 37 dX7_letterOf_33 (by decide) ?_
      exact a_ireturn C (pc := 37) rfl dX7_letterOf_37 hkm hnm ⟨_, rfl, rfl, h⟩
set_option maxRecDepth 100000 in
set_option maxHeartbeats 4000000 in
theorem m_X7_letterOf (Lx : Launch) (Dx : va_G) (cs : Nat → ClassId) (l0 : Int32) (Φ : Int32 → Prop) (h : P_X7_letterOf l0 Φ) : XMet Lx Dx cs yX7_letterOf cX7_letterOf 1 (some .int) 0 0 0 0 [.int l0] [] (R_X7_letterOf cs Φ) (fun _ _ => False) := by
  refine XMet.of (own := RX7) (nm := "letterOf") (by decide) rfl rfl (Nat.le_of_ble_eq_true rfl) (fun Γ C => ?_)
  unfold P_X7_letterOf at h
  refine a_iload_n C (pc := 0) 0 dX7_letterOf_0 rfl rfl ?_
  refine a_bipush C (pc := 1) dX7_letterOf_1 bp_65 ?_
  refine a_icmp_lt C (pc := 3) 20 dX7_letterOf_3 (by decide) (fun hc => ?_) (fun hc => ?_)
  · have h := h.1 hc
    exact w_X7_letterOf_20 C (Nat.le_of_ble_eq_true rfl) (Nat.le_of_ble_eq_true rfl) l0 h
  · have h := h.2 hc
    refine a_iload_n C (pc := 6) 0 dX7_letterOf_6 rfl rfl ?_
    refine a_bipush C (pc := 7) dX7_letterOf_7 bp_90 ?_
    refine a_icmp_gt C (pc := 9) 20 dX7_letterOf_9 (by decide) (fun hc => ?_) (fun hc => ?_)
    · have h := h.1 hc
      exact w_X7_letterOf_20 C (Nat.le_of_ble_eq_true rfl) (Nat.le_of_ble_eq_true rfl) l0 h
    · have h := h.2 hc
      refine a_iload_n C (pc := 12) 0 dX7_letterOf_12 rfl rfl ?_
      refine a_bipush C (pc := 13) dX7_letterOf_13 bp_65 ?_
      refine a_isub C (pc := 15) dX7_letterOf_15 ?_
      refine a_bipush C (pc := 16) dX7_letterOf_16 bp_97 ?_
      refine a_iadd C (pc := 18) dX7_letterOf_18 ?_
      exact a_ireturn C (pc := 19) rfl dX7_letterOf_19 (Nat.le_of_ble_eq_true rfl) (Nat.le_of_ble_eq_true rfl) ⟨_, rfl, rfl, h⟩
set_option maxRecDepth 100000 in
set_option maxHeartbeats 4000000 in
theorem m_X7_letterAt (Lx : Launch) (Dx : va_G) (cs : Nat → ClassId) (l0 : Int64) (l2 : Int32) (Φ : Int32 → Prop) (h : P_X7_letterAt l0 l2 Φ) : XMet Lx Dx cs yX7_letterAt cX7_letterAt 3 (some .int) 0 0 0 0 [.long l0, .int l2] [] (R_X7_letterAt cs Φ) (fun _ _ => False) := by
  refine XMet.of (own := RX7) (nm := "letterAt") (by decide) rfl rfl (Nat.le_of_ble_eq_true rfl) (fun Γ C => ?_)
  unfold P_X7_letterAt at h
  refine a_lload_n C (pc := 0) 0 dX7_letterAt_0 rfl rfl ?_
  refine a_bipush C (pc := 1) dX7_letterAt_1 bp_8 ?_
  refine a_bipush C (pc := 3) dX7_letterAt_3 bp_7 ?_
  refine a_iload_n C (pc := 5) 1 dX7_letterAt_5 rfl rfl ?_
  refine a_isub C (pc := 6) dX7_letterAt_6 ?_
  refine a_imul C (pc := 7) dX7_letterAt_7 ?_
  refine a_lushr C (pc := 8) dX7_letterAt_8 ?_
  refine a_l2i C (pc := 9) dX7_letterAt_9 ?_
  refine a_sipush C (pc := 10) dX7_letterAt_10 sp_255 ?_
  refine a_iand C (pc := 13) dX7_letterAt_13 ?_
  exact a_ireturn C (pc := 14) rfl dX7_letterAt_14 (Nat.le_of_ble_eq_true rfl) (Nat.le_of_ble_eq_true rfl) ⟨_, rfl, rfl, h⟩
set_option maxRecDepth 100000 in
set_option maxHeartbeats 4000000 in
theorem m_X7_place (Lx : Launch) (Dx : va_G) (cs : Nat → ClassId) (l0 : Int32) (l1 : Int32) (Φ : Int64 → Prop) (h : P_X7_place l0 l1 Φ) : XMet Lx Dx cs yX7_place cX7_place 2 (some .long) 0 0 0 0 [.int l0, .int l1] [] (R_X7_place cs Φ) (fun _ _ => False) := by
  refine XMet.of (own := RX7) (nm := "place") (by decide) rfl rfl (Nat.le_of_ble_eq_true rfl) (fun Γ C => ?_)
  unfold P_X7_place at h
  refine a_iload_n C (pc := 0) 0 dX7_place_0 rfl rfl ?_
  refine a_i2l C (pc := 1) dX7_place_1 ?_
  refine a_bipush C (pc := 2) dX7_place_2 bp_8 ?_
  refine a_bipush C (pc := 4) dX7_place_4 bp_7 ?_
  refine a_iload_n C (pc := 6) 1 dX7_place_6 rfl rfl ?_
  refine a_isub C (pc := 7) dX7_place_7 ?_
  refine a_imul C (pc := 8) dX7_place_8 ?_
  refine a_lshl C (pc := 9) dX7_place_9 ?_
  exact a_lreturn C (pc := 10) rfl dX7_place_10 (Nat.le_of_ble_eq_true rfl) (Nat.le_of_ble_eq_true rfl) ⟨_, rfl, rfl, h⟩
set_option maxRecDepth 100000 in
set_option maxHeartbeats 4000000 in
theorem w_X7_withoutPluralS_34 {Γ : XG} {Lx : Launch} {Dx : va_G} {cs : Nat → ClassId} {Φ : Int64 → Prop} {k n9 : Nat} (C : CX Γ Lx Dx cs cX7_withoutPluralS RX7 "withoutPluralS" 4 (some .long) 1 22 0 0 (qEC cs 0 0 [] (R_X7_withoutPluralS cs Φ) (fun _ _ => False))) (hkm : k ≤ 0) (hnm : n9 ≤ 0) (l0 : Int64) (l2 : Int32) (s0 : Int32) (h : J_X7_withoutPluralS_34 l0 l2 s0 Φ) : AW Γ k n9 34 [(0, .long l0), (2, .int l2)] [.int s0] [] := by
  unfold J_X7_withoutPluralS_34 at h
  refine a_istore_n C (pc := 34) (lv1 := [(0, .long l0), (2, .int l2), (3, .int s0)]) [1, 2, 0] dX7_withoutPluralS_34 rfl (by decide) rfl ?_
  refine a_iload_n C (pc := 35) 2 dX7_withoutPluralS_35 rfl rfl ?_
  refine a_if_eq C (pc := 36) 57 dX7_withoutPluralS_36 (by decide) (fun hc => ?_) (fun hc => ?_)
  · have h := h.1 hc
    refine a_lload_n C (pc := 57) 0 dX7_withoutPluralS_57 rfl rfl ?_
    exact a_lreturn C (pc := 58) rfl dX7_withoutPluralS_58 hkm hnm ⟨_, rfl, rfl, h⟩
  · have h := h.2 hc
    refine a_lload_n C (pc := 39) 0 dX7_withoutPluralS_39 rfl rfl ?_
    refine a_sipush C (pc := 40) dX7_withoutPluralS_40 sp_255 ?_
    refine a_iload_n C (pc := 43) 1 dX7_withoutPluralS_43 rfl rfl ?_
    refine a_iconst C (pc := 44) dX7_withoutPluralS_44 ic_1 ?_
    refine a_isub C (pc := 45) dX7_withoutPluralS_45 ?_
    refine a_callS C (pc := 46) (av := [.int 255, .int (l2 - 1)]) (wr := []) (m_X7_place Lx Dx cs 255 (l2 - 1) _ h) [] [] rfl rfl (by decide) (by decide) (by decide) wM_X7_43 wb_X7_place hy_X7_place rfl ⟨Nat.le_of_ble_eq_true rfl, Nat.le_of_ble_eq_true rfl⟩ (Nat.le_of_ble_eq_true rfl) hkm hnm rfl dX7_withoutPluralS_46 (fun v w1 hw => ?_) [] rfl (fun _ _ h => h.elim)
    obtain ⟨r_1, rfl, rfl, h⟩ := hw
    refine a_ws (st1 := [.long r_1, .long l0]) (ws1 := []) k n9 49 [] rfl rfl rfl rfl (by decide) rfl ?_
    refine a_ldc2 C (pc := 49) wC_X7_59 dX7_withoutPluralS_49 ?_
    refine a_lxor C (pc := 52) dX7_withoutPluralS_52 ?_
    refine a_land C (pc := 53) dX7_withoutPluralS_53 ?_
    refine a_goto C (pc := 54) 58 dX7_withoutPluralS_54 (by decide) ?_
    exact a_lreturn C (pc := 58) rfl dX7_withoutPluralS_58 hkm hnm ⟨_, rfl, rfl, h⟩
set_option maxRecDepth 100000 in
set_option maxHeartbeats 4000000 in
theorem w_X7_withoutPluralS_33 {Γ : XG} {Lx : Launch} {Dx : va_G} {cs : Nat → ClassId} {Φ : Int64 → Prop} {k n9 : Nat} (C : CX Γ Lx Dx cs cX7_withoutPluralS RX7 "withoutPluralS" 4 (some .long) 1 22 0 0 (qEC cs 0 0 [] (R_X7_withoutPluralS cs Φ) (fun _ _ => False))) (hkm : k ≤ 0) (hnm : n9 ≤ 0) (l0 : Int64) (l2 : Int32) (h : J_X7_withoutPluralS_33 l0 l2 Φ) : AW Γ k n9 33 [(0, .long l0), (2, .int l2)] [] [] := by
  unfold J_X7_withoutPluralS_33 at h
  refine a_iconst C (pc := 33) dX7_withoutPluralS_33 ic_0 ?_
  exact w_X7_withoutPluralS_34 C hkm hnm l0 l2 0 h
set_option maxRecDepth 100000 in
set_option maxHeartbeats 4000000 in
theorem m_X7_withoutPluralS (Lx : Launch) (Dx : va_G) (cs : Nat → ClassId) (l0 : Int64) (l2 : Int32) (Φ : Int64 → Prop) (h : P_X7_withoutPluralS l0 l2 Φ) : XMet Lx Dx cs yX7_withoutPluralS cX7_withoutPluralS 4 (some .long) 1 22 0 0 [.long l0, .int l2] [] (R_X7_withoutPluralS cs Φ) (fun _ _ => False) := by
  refine XMet.of (own := RX7) (nm := "withoutPluralS") (by decide) rfl rfl (Nat.le_of_ble_eq_true rfl) (fun Γ C => ?_)
  unfold P_X7_withoutPluralS at h
  refine a_iload_n C (pc := 0) 1 dX7_withoutPluralS_0 rfl rfl ?_
  refine a_iconst C (pc := 1) dX7_withoutPluralS_1 ic_3 ?_
  refine a_icmp_le C (pc := 2) 33 dX7_withoutPluralS_2 (by decide) (fun hc => ?_) (fun hc => ?_)
  · have h := h.1 hc
    exact w_X7_withoutPluralS_33 C (Nat.le_of_ble_eq_true rfl) (Nat.le_of_ble_eq_true rfl) l0 l2 h
  · have h := h.2 hc
    refine a_lload_n C (pc := 5) 0 dX7_withoutPluralS_5 rfl rfl ?_
    refine a_iload_n C (pc := 6) 1 dX7_withoutPluralS_6 rfl rfl ?_
    refine a_iconst C (pc := 7) dX7_withoutPluralS_7 ic_1 ?_
    refine a_isub C (pc := 8) dX7_withoutPluralS_8 ?_
    refine a_callS C (pc := 9) (av := [.long l0, .int (l2 - 1)]) (wr := []) (m_X7_letterAt Lx Dx cs l0 (l2 - 1) _ h) [] [] rfl rfl (by decide) (by decide) (by decide) wM_X7_55 wb_X7_letterAt hy_X7_letterAt rfl ⟨Nat.le_of_ble_eq_true rfl, Nat.le_of_ble_eq_true rfl⟩ (Nat.le_of_ble_eq_true rfl) (Nat.le_of_ble_eq_true rfl) (Nat.le_of_ble_eq_true rfl) rfl dX7_withoutPluralS_9 (fun v w1 hw => ?_) [] rfl (fun _ _ h => h.elim)
    obtain ⟨r_2, rfl, rfl, h⟩ := hw
    refine a_ws (st1 := [.int r_2]) (ws1 := []) 0 0 12 [] rfl rfl rfl rfl (by decide) rfl ?_
    refine a_bipush C (pc := 12) dX7_withoutPluralS_12 bp_115 ?_
    refine a_icmp_ne C (pc := 14) 33 dX7_withoutPluralS_14 (by decide) (fun hc => ?_) (fun hc => ?_)
    · have h := h.1 hc
      exact w_X7_withoutPluralS_33 C (Nat.le_of_ble_eq_true rfl) (Nat.le_of_ble_eq_true rfl) l0 l2 h
    · have h := h.2 hc
      refine a_lload_n C (pc := 17) 0 dX7_withoutPluralS_17 rfl rfl ?_
      refine a_iload_n C (pc := 18) 1 dX7_withoutPluralS_18 rfl rfl ?_
      refine a_iconst C (pc := 19) dX7_withoutPluralS_19 ic_2 ?_
      refine a_isub C (pc := 20) dX7_withoutPluralS_20 ?_
      refine a_callS C (pc := 21) (av := [.long l0, .int (l2 - 2)]) (wr := []) (m_X7_letterAt Lx Dx cs l0 (l2 - 2) _ h) [] [] rfl rfl (by decide) (by decide) (by decide) wM_X7_55 wb_X7_letterAt hy_X7_letterAt rfl ⟨Nat.le_of_ble_eq_true rfl, Nat.le_of_ble_eq_true rfl⟩ (Nat.le_of_ble_eq_true rfl) (Nat.le_of_ble_eq_true rfl) (Nat.le_of_ble_eq_true rfl) rfl dX7_withoutPluralS_21 (fun v w1 hw => ?_) [] rfl (fun _ _ h => h.elim)
      obtain ⟨r_3, rfl, rfl, h⟩ := hw
      refine a_ws (st1 := [.int r_3]) (ws1 := []) 0 0 24 [] rfl rfl rfl rfl (by decide) rfl ?_
      refine a_bipush C (pc := 24) dX7_withoutPluralS_24 bp_115 ?_
      refine a_icmp_eq C (pc := 26) 33 dX7_withoutPluralS_26 (by decide) (fun hc => ?_) (fun hc => ?_)
      · have h := h.1 hc
        exact w_X7_withoutPluralS_33 C (Nat.le_of_ble_eq_true rfl) (Nat.le_of_ble_eq_true rfl) l0 l2 h
      · have h := h.2 hc
        refine a_iconst C (pc := 29) dX7_withoutPluralS_29 ic_1 ?_
        refine a_goto C (pc := 30) 34 dX7_withoutPluralS_30 (by decide) ?_
        exact w_X7_withoutPluralS_34 C (Nat.le_of_ble_eq_true rfl) (Nat.le_of_ble_eq_true rfl) l0 l2 1 h
set_option maxRecDepth 100000 in
set_option maxHeartbeats 4000000 in
theorem w_X7_find_2 {Γ : XG} {Lx : Launch} {Dx : va_G} {cs : Nat → ClassId} {h0 : Nat} {d0 : Nat → Nat} {v_distinct : Int32} {v_total : Int32} {v_term : Nat → Int64} {K_29 : Prop} {Φ : Int32 → Prop} {k n9 : Nat} (C : CX Γ Lx Dx cs cX7_find RX7 "find" 4 (some .int) 0 0 0 0 (qEC cs 0 0 [] (R_X7_find cs h0 d0 v_distinct v_total v_term Φ) (fun _ _ => False))) (hkm : k ≤ 0) (hnm : n9 ≤ 0) : ∀ n : Nat, ∀ (l1 : Int64) (l3 : Int32), L_X7_find_2 n v_distinct v_term l1 l3 K_29 Φ → (K_29 → AW Γ k n9 29 [(0, .ref h0)] [] [(h0, oX7 d0 v_distinct v_total), ((d0 0), aJ cs 1500 v_term)]) → AW Γ k n9 2 [(0, .ref h0), (1, .long l1), (3, .int l3)] [] [(h0, oX7 d0 v_distinct v_total), ((d0 0), aJ cs 1500 v_term)] := by
  intro n
  induction n with
  | zero =>
    intro l1 l3 h
    exact False.elim h
  | succ n ih =>
    intro l1 l3 h hK_29
    rw [L_X7_find_2] at h
    refine a_iload_n C (pc := 2) 2 dX7_find_2 rfl rfl ?_
    refine a_aload_n C (pc := 3) 0 dX7_find_3 rfl rfl ?_
    refine a_get C (pc := 4) 0 2 inW_X7 rfl rfl (Nat.le_of_ble_eq_true rfl) wF_X7_19 rfl rfl dX7_find_4 ?_
    refine a_icmp_ge C (pc := 7) 29 dX7_find_7 (by decide) (fun hc => ?_) (fun hc => ?_)
    · have h := h.1 hc
      refine a_lv (lv1 := [(0, .ref h0)]) [0] rfl ?_
      exact hK_29 h
    · have h := h.2 hc
      refine a_aload_n C (pc := 10) 0 dX7_find_10 rfl rfl ?_
      refine a_get C (pc := 11) 0 0 inW_X7 rfl rfl (Nat.le_of_ble_eq_true rfl) wF_X7_11 rfl rfl dX7_find_11 ?_
      refine a_iload_n C (pc := 14) 2 dX7_find_14 rfl rfl ?_
      refine a_lald C (pc := 15) 1 rfl h.1 dX7_find_15 ?_
      replace h := h.2
      refine a_lload_n C (pc := 16) 1 dX7_find_16 rfl rfl ?_
      refine a_lcmp_ne C (pc := 17) 23 dX7_find_17 dX7_find_18 (by decide) (fun hc => ?_) (fun hc => ?_)
      · have h := h.1 hc
        refine a_iinc C (pc := 23) (lv1 := [(0, .ref h0), (1, .long l1), (3, .int (l3 + 1))]) 2 [1, 2, 0] dX7_find_23 rfl (congrArg (fun z => l3 + z) ic_1) (by decide) rfl ?_
        refine a_goto C (pc := 26) 2 dX7_find_26 (by decide) ?_
        exact ih l1 (l3 + 1) h hK_29
      · have h := h.2 hc
        refine a_iload_n C (pc := 21) 2 dX7_find_21 rfl rfl ?_
        exact a_ireturn C (pc := 22) rfl dX7_find_22 hkm hnm ⟨_, rfl, rfl, h⟩
set_option maxRecDepth 100000 in
set_option maxHeartbeats 4000000 in
theorem m_X7_find (Lx : Launch) (Dx : va_G) (cs : Nat → ClassId) (h0 : Nat) (d0 : Nat → Nat) (v_distinct : Int32) (v_total : Int32) (v_term : Nat → Int64) (l1 : Int64) (Φ : Int32 → Prop) (h : P_X7_find v_distinct v_term l1 Φ) : XMet Lx Dx cs yX7_find cX7_find 4 (some .int) 0 0 0 0 [.ref h0, .long l1] [(h0, oX7 d0 v_distinct v_total), ((d0 0), aJ cs 1500 v_term)] (R_X7_find cs h0 d0 v_distinct v_total v_term Φ) (fun _ _ => False) := by
  refine XMet.of (own := RX7) (nm := "find") (by decide) rfl rfl (Nat.le_of_ble_eq_true rfl) (fun Γ C => ?_)
  unfold P_X7_find at h
  refine a_iconst C (pc := 0) dX7_find_0 ic_0 ?_
  refine a_istore_n C (pc := 1) (lv1 := [(0, .ref h0), (1, .long l1), (3, .int 0)]) [1, 2, 0] dX7_find_1 rfl (by decide) rfl ?_
  obtain ⟨n0, h⟩ := h
  refine w_X7_find_2 C (Nat.le_of_ble_eq_true rfl) (Nat.le_of_ble_eq_true rfl) n0 l1 0 h ?_
  intro h
  refine a_aload_n C (pc := 29) 0 dX7_find_29 rfl rfl ?_
  refine a_get C (pc := 30) 0 2 inW_X7 rfl rfl (Nat.le_of_ble_eq_true rfl) wF_X7_19 rfl rfl dX7_find_30 ?_
  exact a_ireturn C (pc := 33) rfl dX7_find_33 (Nat.le_of_ble_eq_true rfl) (Nat.le_of_ble_eq_true rfl) ⟨_, rfl, rfl, h⟩
set_option maxRecDepth 100000 in
set_option maxHeartbeats 4000000 in
theorem w_X7_take_66 {Γ : XG} {Lx : Launch} {Dx : va_G} {cs : Nat → ClassId} {h0 : Nat} {d0 : Nat → Nat} {Φ : Int32 → Int32 → (Nat → Int64) → (Nat → Int32) → Prop} {k n9 : Nat} (C : CX Γ Lx Dx cs cX7_take RX7 "take" 7 none 2 45 0 0 (qEC cs 0 0 [] (R_X7_take cs h0 d0 Φ) (fun _ _ => False))) (hkm : k ≤ 0) (hnm : n9 ≤ 0) (v_distinct : Int32) (v_total : Int32) (v_term : Nat → Int64) (v_times : Nat → Int32) (l6 : Int32) (h : J_X7_take_66 v_distinct v_total v_term v_times l6 Φ) : AW Γ k n9 66 [(0, .ref h0), (6, .int l6)] [] [(h0, oX7 d0 v_distinct v_total), ((d0 0), aJ cs 1500 v_term), ((d0 1), aI cs 1500 v_times)] := by
  unfold J_X7_take_66 at h
  refine a_iload C (pc := 66) 1 dX7_take_66 rfl ?_
  refine a_aload_n C (pc := 68) 0 dX7_take_68 rfl rfl ?_
  refine a_get C (pc := 69) 0 2 inW_X7 rfl rfl (Nat.le_of_ble_eq_true rfl) wF_X7_19 rfl rfl dX7_take_69 ?_
  refine a_icmp_ge C (pc := 72) 96 dX7_take_72 (by decide) (fun hc => ?_) (fun hc => ?_)
  · have h := h.1 hc
    exact a_return C (pc := 96) rfl dX7_take_96 hkm hnm ⟨_, _, _, _, rfl, rfl, h⟩
  · have h := h.2 hc
    refine a_aload_n C (pc := 75) 0 dX7_take_75 rfl rfl ?_
    refine a_get C (pc := 76) 0 1 inW_X7 rfl rfl (Nat.le_of_ble_eq_true rfl) wF_X7_15 rfl rfl dX7_take_76 ?_
    refine a_iload C (pc := 79) 1 dX7_take_79 rfl ?_
    refine a_dup2 C (pc := 81) dX7_take_81 rfl rfl ?_
    refine a_iald C (pc := 82) 2 rfl h.1 dX7_take_82 ?_
    replace h := h.2
    refine a_iconst C (pc := 83) dX7_take_83 ic_1 ?_
    refine a_iadd C (pc := 84) dX7_take_84 ?_
    refine a_iast C (pc := 85) (ws1 := [(h0, oX7 d0 v_distinct v_total), ((d0 0), aJ cs 1500 v_term), ((d0 1), aI cs 1500 (upd v_times (l6 : Int32).toNatClampNeg ((v_times (l6 : Int32).toNatClampNeg) + 1)))]) 2 rfl h.1 dX7_take_85 rfl ?_
    replace h := h.2
    refine a_aload_n C (pc := 86) 0 dX7_take_86 rfl rfl ?_
    refine a_dup C (pc := 87) dX7_take_87 rfl ?_
    refine a_get C (pc := 88) 0 3 inW_X7 rfl rfl (Nat.le_of_ble_eq_true rfl) wF_X7_23 rfl rfl dX7_take_88 ?_
    refine a_iconst C (pc := 91) dX7_take_91 ic_1 ?_
    refine a_iadd C (pc := 92) dX7_take_92 ?_
    refine a_put C (pc := 93) (ws1 := [(h0, oX7 d0 v_distinct (v_total + 1)), ((d0 0), aJ cs 1500 v_term), ((d0 1), aI cs 1500 (upd v_times (l6 : Int32).toNatClampNeg ((v_times (l6 : Int32).toNatClampNeg) + 1)))]) 0 3 inW_X7 tyX7 tyX7_ok nmX7 rfl rfl (Nat.le_of_ble_eq_true rfl) wF_X7_23 rfl rfl rfl rfl rfl (Nat.le_of_ble_eq_true rfl) dX7_take_93 rfl ?_
    exact a_return C (pc := 96) rfl dX7_take_96 hkm hnm ⟨_, _, _, _, rfl, rfl, h⟩
set_option maxRecDepth 100000 in
set_option maxHeartbeats 4000000 in
theorem m_X7_take (Lx : Launch) (Dx : va_G) (cs : Nat → ClassId) (h0 : Nat) (d0 : Nat → Nat) (v_distinct : Int32) (v_total : Int32) (v_term : Nat → Int64) (v_times : Nat → Int32) (l1 : Int64) (l3 : Int32) (Φ : Int32 → Int32 → (Nat → Int64) → (Nat → Int32) → Prop) (h : P_X7_take v_distinct v_total v_term v_times l1 l3 Φ) : XMet Lx Dx cs yX7_take cX7_take 7 none 2 45 0 0 [.ref h0, .long l1, .int l3] [(h0, oX7 d0 v_distinct v_total), ((d0 0), aJ cs 1500 v_term), ((d0 1), aI cs 1500 v_times)] (R_X7_take cs h0 d0 Φ) (fun _ _ => False) := by
  refine XMet.of (own := RX7) (nm := "take") (by decide) rfl rfl (Nat.le_of_ble_eq_true rfl) (fun Γ C => ?_)
  unfold P_X7_take at h
  refine a_iload_n C (pc := 0) 2 dX7_take_0 rfl rfl ?_
  refine a_if_ne C (pc := 1) 5 dX7_take_1 (by decide) (fun hc => ?_) (fun hc => ?_)
  · have h := h.1 hc
    refine a_lload_n C (pc := 5) 1 dX7_take_5 rfl rfl ?_
    refine a_iload_n C (pc := 6) 2 dX7_take_6 rfl rfl ?_
    refine a_callS C (pc := 7) (av := [.long l1, .int l3]) (wr := [(h0, oX7 d0 v_distinct v_total), ((d0 0), aJ cs 1500 v_term), ((d0 1), aI cs 1500 v_times)]) (m_X7_withoutPluralS Lx Dx cs l1 l3 _ h) [] [0, 1, 2] rfl rfl (by decide) (by decide) (by decide) wM_X7_51 wb_X7_withoutPluralS hy_X7_withoutPluralS rfl ⟨Nat.le_of_ble_eq_true rfl, Nat.le_of_ble_eq_true rfl⟩ (Nat.le_of_ble_eq_true rfl) (Nat.le_of_ble_eq_true rfl) (Nat.le_of_ble_eq_true rfl) rfl dX7_take_7 (fun v w1 hw => ?_) [] rfl (fun _ _ h => h.elim)
    obtain ⟨r_1, rfl, rfl, h⟩ := hw
    refine a_ws (st1 := [.long r_1]) (ws1 := [(h0, oX7 d0 v_distinct v_total), ((d0 0), aJ cs 1500 v_term), ((d0 1), aI cs 1500 v_times)]) 0 0 10 [0, 1, 2] rfl rfl rfl rfl (by decide) rfl ?_
    refine a_lstore C (pc := 10) (lv1 := [(0, .ref h0), (1, .long l1), (3, .int l3), (4, .long r_1)]) [1, 2, 3, 0] dX7_take_10 (by decide) rfl ?_
    refine a_aload_n C (pc := 12) 0 dX7_take_12 rfl rfl ?_
    refine a_lload C (pc := 13) 3 dX7_take_13 rfl ?_
    refine a_callV C (pc := 15) (av := [.long r_1]) (wr := [((d0 1), aI cs 1500 v_times)]) (m_X7_find Lx Dx cs h0 d0 v_distinct v_total v_term r_1 _ h) [0, 1] [2] rfl rfl (by decide) (by decide) (by decide) wM_X7_47 wb_X7_find hy_X7_find (q0 := 0) rfl rfl rfl ⟨Nat.le_of_ble_eq_true rfl, Nat.le_of_ble_eq_true rfl⟩ (Nat.le_of_ble_eq_true rfl) (Nat.le_of_ble_eq_true rfl) (Nat.le_of_ble_eq_true rfl) rfl dX7_take_15 (fun v w1 hw => ?_) [] rfl (fun _ _ h => h.elim)
    obtain ⟨r_2, rfl, rfl, h⟩ := hw
    refine a_ws (st1 := [.int r_2]) (ws1 := [(h0, oX7 d0 v_distinct v_total), ((d0 0), aJ cs 1500 v_term), ((d0 1), aI cs 1500 v_times)]) 0 0 18 [1, 2, 0] rfl rfl rfl rfl (by decide) rfl ?_
    refine a_istore C (pc := 18) (lv1 := [(0, .ref h0), (1, .long l1), (3, .int l3), (4, .long r_1), (6, .int r_2)]) [1, 2, 3, 4, 0] dX7_take_18 (by decide) rfl ?_
    refine a_iload C (pc := 20) 4 dX7_take_20 rfl ?_
    refine a_aload_n C (pc := 22) 0 dX7_take_22 rfl rfl ?_
    refine a_get C (pc := 23) 0 2 inW_X7 rfl rfl (Nat.le_of_ble_eq_true rfl) wF_X7_19 rfl rfl dX7_take_23 ?_
    refine a_icmp_ne C (pc := 26) 66 dX7_take_26 (by decide) (fun hc => ?_) (fun hc => ?_)
    · have h := h.1 hc
      refine a_lv (lv1 := [(0, .ref h0), (6, .int r_2)]) [0, 4] rfl ?_
      exact w_X7_take_66 C (Nat.le_of_ble_eq_true rfl) (Nat.le_of_ble_eq_true rfl) v_distinct v_total v_term v_times r_2 h
    · have h := h.2 hc
      refine a_aload_n C (pc := 29) 0 dX7_take_29 rfl rfl ?_
      refine a_get C (pc := 30) 0 2 inW_X7 rfl rfl (Nat.le_of_ble_eq_true rfl) wF_X7_19 rfl rfl dX7_take_30 ?_
      refine a_sipush C (pc := 33) dX7_take_33 sp_1500 ?_
      refine a_icmp_ge C (pc := 36) 66 dX7_take_36 (by decide) (fun hc => ?_) (fun hc => ?_)
      · have h := h.1 hc
        refine a_lv (lv1 := [(0, .ref h0), (6, .int r_2)]) [0, 4] rfl ?_
        exact w_X7_take_66 C (Nat.le_of_ble_eq_true rfl) (Nat.le_of_ble_eq_true rfl) v_distinct v_total v_term v_times r_2 h
      · have h := h.2 hc
        refine a_aload_n C (pc := 39) 0 dX7_take_39 rfl rfl ?_
        refine a_get C (pc := 40) 0 0 inW_X7 rfl rfl (Nat.le_of_ble_eq_true rfl) wF_X7_11 rfl rfl dX7_take_40 ?_
        refine a_iload C (pc := 43) 4 dX7_take_43 rfl ?_
        refine a_lload C (pc := 45) 3 dX7_take_45 rfl ?_
        refine a_last C (pc := 47) (ws1 := [(h0, oX7 d0 v_distinct v_total), ((d0 0), aJ cs 1500 (vp_updL v_term (r_2 : Int32).toNatClampNeg r_1)), ((d0 1), aI cs 1500 v_times)]) 1 rfl h.1 dX7_take_47 rfl ?_
        replace h := h.2
        refine a_aload_n C (pc := 48) 0 dX7_take_48 rfl rfl ?_
        refine a_get C (pc := 49) 0 1 inW_X7 rfl rfl (Nat.le_of_ble_eq_true rfl) wF_X7_15 rfl rfl dX7_take_49 ?_
        refine a_iload C (pc := 52) 4 dX7_take_52 rfl ?_
        refine a_iconst C (pc := 54) dX7_take_54 ic_0 ?_
        refine a_iast C (pc := 55) (ws1 := [(h0, oX7 d0 v_distinct v_total), ((d0 0), aJ cs 1500 (vp_updL v_term (r_2 : Int32).toNatClampNeg r_1)), ((d0 1), aI cs 1500 (upd v_times (r_2 : Int32).toNatClampNeg 0))]) 2 rfl h.1 dX7_take_55 rfl ?_
        replace h := h.2
        refine a_aload_n C (pc := 56) 0 dX7_take_56 rfl rfl ?_
        refine a_dup C (pc := 57) dX7_take_57 rfl ?_
        refine a_get C (pc := 58) 0 2 inW_X7 rfl rfl (Nat.le_of_ble_eq_true rfl) wF_X7_19 rfl rfl dX7_take_58 ?_
        refine a_iconst C (pc := 61) dX7_take_61 ic_1 ?_
        refine a_iadd C (pc := 62) dX7_take_62 ?_
        refine a_put C (pc := 63) (ws1 := [(h0, oX7 d0 (v_distinct + 1) v_total), ((d0 0), aJ cs 1500 (vp_updL v_term (r_2 : Int32).toNatClampNeg r_1)), ((d0 1), aI cs 1500 (upd v_times (r_2 : Int32).toNatClampNeg 0))]) 0 2 inW_X7 tyX7 tyX7_ok nmX7 rfl rfl (Nat.le_of_ble_eq_true rfl) wF_X7_19 rfl rfl rfl rfl rfl (Nat.le_of_ble_eq_true rfl) dX7_take_63 rfl ?_
        refine a_lv (lv1 := [(0, .ref h0), (6, .int r_2)]) [0, 4] rfl ?_
        exact w_X7_take_66 C (Nat.le_of_ble_eq_true rfl) (Nat.le_of_ble_eq_true rfl) (v_distinct + 1) v_total (vp_updL v_term (r_2 : Int32).toNatClampNeg r_1) (upd v_times (r_2 : Int32).toNatClampNeg 0) r_2 h
  · have h := h.2 hc
    exact a_return C (pc := 4) rfl dX7_take_4 (Nat.le_of_ble_eq_true rfl) (Nat.le_of_ble_eq_true rfl) ⟨_, _, _, _, rfl, rfl, h⟩
set_option maxRecDepth 100000 in
set_option maxHeartbeats 4000000 in
theorem w_X7_read_18 {Γ : XG} {Lx : Launch} {Dx : va_G} {cs : Nat → ClassId} {n_a1_row : Nat} {h0 : Nat} {h1 : Nat} {d0 : Nat → Nat} {d1 : Nat → Nat} {v_a1_size : Int32} {v_a1_place : Int32} {v_a1_row : Nat → Int32} {K_84 : Int32 → Int32 → (Nat → Int64) → (Nat → Int32) → Prop} {Φ : Int32 → Int32 → (Nat → Int64) → (Nat → Int32) → Prop} {k n9 : Nat} (C : CX Γ Lx Dx cs cX7_read RX7 "read" 7 none 3 71 0 0 (qEC cs 0 0 [] (R_X7_read cs n_a1_row h0 h1 d0 d1 v_a1_size v_a1_place v_a1_row Φ) (fun _ _ => False))) (hkm : k ≤ 0) (hnm : n9 ≤ 0) : ∀ n : Nat, ∀ (v_distinct : Int32) (v_total : Int32) (v_term : Nat → Int64) (v_times : Nat → Int32) (l2 : Int64) (l4 : Int32) (l5 : Int32), L_X7_read_18 n n_a1_row v_distinct v_total v_a1_size v_a1_row v_term v_times l2 l4 l5 K_84 Φ → (∀ (v_distinct_9 : Int32) (v_total_10 : Int32) (v_term_11 : Nat → Int64) (v_times_12 : Nat → Int32), K_84 v_distinct_9 v_total_10 v_term_11 v_times_12 → AW Γ k n9 84 [] [] [(h0, oX7 d0 v_distinct_9 v_total_10), (h1, oX0 d1 v_a1_size v_a1_place), ((d1 0), aB cs n_a1_row v_a1_row), ((d0 0), aJ cs 1500 v_term_11), ((d0 1), aI cs 1500 v_times_12)]) → AW Γ k n9 18 [(0, .ref h0), (1, .ref h1), (2, .long l2), (4, .int l4), (5, .int l5)] [] [(h0, oX7 d0 v_distinct v_total), (h1, oX0 d1 v_a1_size v_a1_place), ((d1 0), aB cs n_a1_row v_a1_row), ((d0 0), aJ cs 1500 v_term), ((d0 1), aI cs 1500 v_times)] := by
  intro n
  induction n with
  | zero =>
    intro v_distinct v_total v_term v_times l2 l4 l5 h
    exact False.elim h
  | succ n ih =>
    intro v_distinct v_total v_term v_times l2 l4 l5 h hK_84
    rw [L_X7_read_18] at h
    refine a_iload C (pc := 18) 4 dX7_read_18 rfl ?_
    refine a_aload_n C (pc := 20) 1 dX7_read_20 rfl rfl ?_
    refine a_callV C (pc := 21) (av := []) (wr := [(h0, oX7 d0 v_distinct v_total), ((d1 0), aB cs n_a1_row v_a1_row), ((d0 0), aJ cs 1500 v_term), ((d0 1), aI cs 1500 v_times)]) (m_X0_size Lx Dx cs h1 d1 v_a1_size v_a1_place _ h) [1] [0, 2, 3, 4] rfl rfl (by decide) (by decide) (by decide) wM_X7_26 wb_X0_size hy_X0_size (q0 := 1) rfl rfl rfl ⟨Nat.le_of_ble_eq_true rfl, Nat.le_of_ble_eq_true rfl⟩ (Nat.le_of_ble_eq_true rfl) hkm hnm rfl dX7_read_21 (fun v w1 hw => ?_) [] rfl (fun _ _ h => h.elim)
    obtain ⟨r_1, rfl, rfl, h⟩ := hw
    refine a_ws (st1 := [.int r_1, .int l5]) (ws1 := [(h0, oX7 d0 v_distinct v_total), (h1, oX0 d1 v_a1_size v_a1_place), ((d1 0), aB cs n_a1_row v_a1_row), ((d0 0), aJ cs 1500 v_term), ((d0 1), aI cs 1500 v_times)]) k n9 24 [0, 4, 1, 2, 3] rfl rfl rfl rfl (by decide) rfl ?_
    refine a_icmp_gt C (pc := 24) 84 dX7_read_24 (by decide) (fun hc => ?_) (fun hc => ?_)
    · have h := h.1 hc
      refine a_lv (lv1 := []) [] rfl ?_
      exact hK_84 v_distinct v_total v_term v_times h
    · have h := h.2 hc
      refine a_aload_n C (pc := 27) 1 dX7_read_27 rfl rfl ?_
      refine a_iload C (pc := 28) 4 dX7_read_28 rfl ?_
      refine a_callV C (pc := 30) (av := [.int l5]) (wr := [(h0, oX7 d0 v_distinct v_total), ((d0 0), aJ cs 1500 v_term), ((d0 1), aI cs 1500 v_times)]) (m_X0_at Lx Dx cs n_a1_row h1 d1 v_a1_size v_a1_place v_a1_row l5 _ h) [1, 2] [0, 3, 4] rfl rfl (by decide) (by decide) (by decide) wM_X7_32 wb_X0_at hy_X0_at (q0 := 1) rfl rfl rfl ⟨Nat.le_of_ble_eq_true rfl, Nat.le_of_ble_eq_true rfl⟩ (Nat.le_of_ble_eq_true rfl) hkm hnm rfl dX7_read_30 (fun v w1 hw => ?_) [] rfl (fun _ _ h => h.elim)
      obtain ⟨r_2, rfl, rfl, h⟩ := hw
      refine a_ws (st1 := [.int r_2]) (ws1 := [(h0, oX7 d0 v_distinct v_total), (h1, oX0 d1 v_a1_size v_a1_place), ((d1 0), aB cs n_a1_row v_a1_row), ((d0 0), aJ cs 1500 v_term), ((d0 1), aI cs 1500 v_times)]) k n9 33 [0, 3, 4, 1, 2] rfl rfl rfl rfl (by decide) rfl ?_
      refine a_callS C (pc := 33) (av := [.int r_2]) (wr := [(h0, oX7 d0 v_distinct v_total), (h1, oX0 d1 v_a1_size v_a1_place), ((d1 0), aB cs n_a1_row v_a1_row), ((d0 0), aJ cs 1500 v_term), ((d0 1), aI cs 1500 v_times)]) (m_X7_letterOf Lx Dx cs r_2 _ h) [] [0, 1, 2, 3, 4] rfl rfl (by decide) (by decide) (by decide) wM_X7_36 wb_X7_letterOf hy_X7_letterOf rfl ⟨Nat.le_of_ble_eq_true rfl, Nat.le_of_ble_eq_true rfl⟩ (Nat.le_of_ble_eq_true rfl) hkm hnm rfl dX7_read_33 (fun v w1 hw => ?_) [] rfl (fun _ _ h => h.elim)
      obtain ⟨r_3, rfl, rfl, h⟩ := hw
      refine a_ws (st1 := [.int r_3]) (ws1 := [(h0, oX7 d0 v_distinct v_total), (h1, oX0 d1 v_a1_size v_a1_place), ((d1 0), aB cs n_a1_row v_a1_row), ((d0 0), aJ cs 1500 v_term), ((d0 1), aI cs 1500 v_times)]) k n9 36 [0, 1, 2, 3, 4] rfl rfl rfl rfl (by decide) rfl ?_
      refine a_istore C (pc := 36) (lv1 := [(0, .ref h0), (1, .ref h1), (2, .long l2), (4, .int l4), (5, .int l5), (6, .int r_3)]) [1, 2, 3, 4, 5, 0] dX7_read_36 (by decide) rfl ?_
      refine a_iload C (pc := 38) 5 dX7_read_38 rfl ?_
      refine a_if_ne C (pc := 40) 58 dX7_read_40 (by decide) (fun hc => ?_) (fun hc => ?_)
      · have h := h.1 hc
        refine a_iload C (pc := 58) 3 dX7_read_58 rfl ?_
        refine a_bipush C (pc := 60) dX7_read_60 bp_8 ?_
        refine a_icmp_ge C (pc := 62) 78 dX7_read_62 (by decide) (fun hc => ?_) (fun hc => ?_)
        · have h := h.1 hc
          refine a_iinc C (pc := 78) (lv1 := [(0, .ref h0), (1, .ref h1), (2, .long l2), (4, .int l4), (5, .int (l5 + 1)), (6, .int r_3)]) 4 [1, 2, 3, 4, 0, 5] dX7_read_78 rfl (congrArg (fun z => l5 + z) ic_1) (by decide) rfl ?_
          refine a_goto C (pc := 81) 18 dX7_read_81 (by decide) ?_
          refine a_lv (lv1 := [(0, .ref h0), (1, .ref h1), (2, .long l2), (4, .int l4), (5, .int (l5 + 1))]) [0, 1, 2, 3, 4] rfl ?_
          exact ih v_distinct v_total v_term v_times l2 l4 (l5 + 1) h hK_84
        · have h := h.2 hc
          refine a_lload_n C (pc := 65) 2 dX7_read_65 rfl rfl ?_
          refine a_iload C (pc := 66) 5 dX7_read_66 rfl ?_
          refine a_iload C (pc := 68) 3 dX7_read_68 rfl ?_
          refine a_callS C (pc := 70) (av := [.int r_3, .int l4]) (wr := [(h0, oX7 d0 v_distinct v_total), (h1, oX0 d1 v_a1_size v_a1_place), ((d1 0), aB cs n_a1_row v_a1_row), ((d0 0), aJ cs 1500 v_term), ((d0 1), aI cs 1500 v_times)]) (m_X7_place Lx Dx cs r_3 l4 _ h) [] [0, 1, 2, 3, 4] rfl rfl (by decide) (by decide) (by decide) wM_X7_43 wb_X7_place hy_X7_place rfl ⟨Nat.le_of_ble_eq_true rfl, Nat.le_of_ble_eq_true rfl⟩ (Nat.le_of_ble_eq_true rfl) hkm hnm rfl dX7_read_70 (fun v w1 hw => ?_) [] rfl (fun _ _ h => h.elim)
          obtain ⟨r_4, rfl, rfl, h⟩ := hw
          refine a_ws (st1 := [.long r_4, .long l2]) (ws1 := [(h0, oX7 d0 v_distinct v_total), (h1, oX0 d1 v_a1_size v_a1_place), ((d1 0), aB cs n_a1_row v_a1_row), ((d0 0), aJ cs 1500 v_term), ((d0 1), aI cs 1500 v_times)]) k n9 73 [0, 1, 2, 3, 4] rfl rfl rfl rfl (by decide) rfl ?_
          refine a_lor C (pc := 73) dX7_read_73 ?_
          refine a_lstore_n C (pc := 74) (lv1 := [(0, .ref h0), (1, .ref h1), (2, .long (l2 ||| r_4)), (4, .int l4), (5, .int l5), (6, .int r_3)]) [1, 2, 0, 3, 4, 5] dX7_read_74 rfl (by decide) rfl ?_
          refine a_iinc C (pc := 75) (lv1 := [(0, .ref h0), (1, .ref h1), (2, .long (l2 ||| r_4)), (4, .int (l4 + 1)), (5, .int l5), (6, .int r_3)]) 3 [1, 2, 3, 0, 4, 5] dX7_read_75 rfl (congrArg (fun z => l4 + z) ic_1) (by decide) rfl ?_
          refine a_iinc C (pc := 78) (lv1 := [(0, .ref h0), (1, .ref h1), (2, .long (l2 ||| r_4)), (4, .int (l4 + 1)), (5, .int (l5 + 1)), (6, .int r_3)]) 4 [1, 2, 3, 4, 0, 5] dX7_read_78 rfl (congrArg (fun z => l5 + z) ic_1) (by decide) rfl ?_
          refine a_goto C (pc := 81) 18 dX7_read_81 (by decide) ?_
          refine a_lv (lv1 := [(0, .ref h0), (1, .ref h1), (2, .long (l2 ||| r_4)), (4, .int (l4 + 1)), (5, .int (l5 + 1))]) [0, 1, 2, 3, 4] rfl ?_
          exact ih v_distinct v_total v_term v_times (l2 ||| r_4) (l4 + 1) (l5 + 1) h hK_84
      · have h := h.2 hc
        refine a_aload_n C (pc := 43) 0 dX7_read_43 rfl rfl ?_
        refine a_lload_n C (pc := 44) 2 dX7_read_44 rfl rfl ?_
        refine a_iload C (pc := 45) 3 dX7_read_45 rfl ?_
        refine a_callV C (pc := 47) (av := [.long l2, .int l4]) (wr := [(h1, oX0 d1 v_a1_size v_a1_place), ((d1 0), aB cs n_a1_row v_a1_row)]) (m_X7_take Lx Dx cs h0 d0 v_distinct v_total v_term v_times l2 l4 _ h) [0, 3, 4] [1, 2] rfl rfl (by decide) (by decide) (by decide) wM_X7_39 wb_X7_take hy_X7_take (q0 := 0) rfl rfl rfl ⟨Nat.le_of_ble_eq_true rfl, Nat.le_of_ble_eq_true rfl⟩ (Nat.le_of_ble_eq_true rfl) hkm hnm rfl dX7_read_47 (fun v w1 hw => ?_) [] rfl (fun _ _ h => h.elim)
        obtain ⟨v_distinct_5, v_total_6, v_term_7, v_times_8, rfl, rfl, h⟩ := hw
        refine a_ws (st1 := []) (ws1 := [(h0, oX7 d0 v_distinct_5 v_total_6), (h1, oX0 d1 v_a1_size v_a1_place), ((d1 0), aB cs n_a1_row v_a1_row), ((d0 0), aJ cs 1500 v_term_7), ((d0 1), aI cs 1500 v_times_8)]) k n9 50 [2, 0, 1, 3, 4] rfl rfl rfl rfl (by decide) rfl ?_
        refine a_lconst C (pc := 50) (v := 0) dX7_read_50 rfl ?_
        refine a_lstore_n C (pc := 51) (lv1 := [(0, .ref h0), (1, .ref h1), (2, .long 0), (4, .int l4), (5, .int l5), (6, .int r_3)]) [1, 2, 0, 3, 4, 5] dX7_read_51 rfl (by decide) rfl ?_
        refine a_iconst C (pc := 52) dX7_read_52 ic_0 ?_
        refine a_istore C (pc := 53) (lv1 := [(0, .ref h0), (1, .ref h1), (2, .long 0), (4, .int 0), (5, .int l5), (6, .int r_3)]) [1, 2, 3, 0, 4, 5] dX7_read_53 (by decide) rfl ?_
        refine a_goto C (pc := 55) 78 dX7_read_55 (by decide) ?_
        refine a_iinc C (pc := 78) (lv1 := [(0, .ref h0), (1, .ref h1), (2, .long 0), (4, .int 0), (5, .int (l5 + 1)), (6, .int r_3)]) 4 [1, 2, 3, 4, 0, 5] dX7_read_78 rfl (congrArg (fun z => l5 + z) ic_1) (by decide) rfl ?_
        refine a_goto C (pc := 81) 18 dX7_read_81 (by decide) ?_
        refine a_lv (lv1 := [(0, .ref h0), (1, .ref h1), (2, .long 0), (4, .int 0), (5, .int (l5 + 1))]) [0, 1, 2, 3, 4] rfl ?_
        exact ih v_distinct_5 v_total_6 v_term_7 v_times_8 0 0 (l5 + 1) h hK_84
set_option maxRecDepth 100000 in
set_option maxHeartbeats 4000000 in
theorem m_X7_read (Lx : Launch) (Dx : va_G) (cs : Nat → ClassId) (n_a1_row : Nat) (h0 : Nat) (h1 : Nat) (d0 : Nat → Nat) (d1 : Nat → Nat) (v_distinct : Int32) (v_total : Int32) (v_a1_size : Int32) (v_a1_place : Int32) (v_a1_row : Nat → Int32) (v_term : Nat → Int64) (v_times : Nat → Int32) (Φ : Int32 → Int32 → (Nat → Int64) → (Nat → Int32) → Prop) (h : P_X7_read n_a1_row v_distinct v_total v_a1_size v_a1_row v_term v_times Φ) : XMet Lx Dx cs yX7_read cX7_read 7 none 3 71 0 0 [.ref h0, .ref h1] [(h0, oX7 d0 v_distinct v_total), (h1, oX0 d1 v_a1_size v_a1_place), ((d1 0), aB cs n_a1_row v_a1_row), ((d0 0), aJ cs 1500 v_term), ((d0 1), aI cs 1500 v_times)] (R_X7_read cs n_a1_row h0 h1 d0 d1 v_a1_size v_a1_place v_a1_row Φ) (fun _ _ => False) := by
  refine XMet.of (own := RX7) (nm := "read") (by decide) rfl rfl (Nat.le_of_ble_eq_true rfl) (fun Γ C => ?_)
  unfold P_X7_read at h
  refine a_aload_n C (pc := 0) 0 dX7_read_0 rfl rfl ?_
  refine a_iconst C (pc := 1) dX7_read_1 ic_0 ?_
  refine a_put C (pc := 2) (ws1 := [(h0, oX7 d0 0 v_total), (h1, oX0 d1 v_a1_size v_a1_place), ((d1 0), aB cs n_a1_row v_a1_row), ((d0 0), aJ cs 1500 v_term), ((d0 1), aI cs 1500 v_times)]) 0 2 inW_X7 tyX7 tyX7_ok nmX7 rfl rfl (Nat.le_of_ble_eq_true rfl) wF_X7_19 rfl rfl rfl rfl rfl (Nat.le_of_ble_eq_true rfl) dX7_read_2 rfl ?_
  refine a_aload_n C (pc := 5) 0 dX7_read_5 rfl rfl ?_
  refine a_iconst C (pc := 6) dX7_read_6 ic_0 ?_
  refine a_put C (pc := 7) (ws1 := [(h0, oX7 d0 0 0), (h1, oX0 d1 v_a1_size v_a1_place), ((d1 0), aB cs n_a1_row v_a1_row), ((d0 0), aJ cs 1500 v_term), ((d0 1), aI cs 1500 v_times)]) 0 3 inW_X7 tyX7 tyX7_ok nmX7 rfl rfl (Nat.le_of_ble_eq_true rfl) wF_X7_23 rfl rfl rfl rfl rfl (Nat.le_of_ble_eq_true rfl) dX7_read_7 rfl ?_
  refine a_lconst C (pc := 10) (v := 0) dX7_read_10 rfl ?_
  refine a_lstore_n C (pc := 11) (lv1 := [(0, .ref h0), (1, .ref h1), (2, .long 0)]) [1, 2, 0] dX7_read_11 rfl (by decide) rfl ?_
  refine a_iconst C (pc := 12) dX7_read_12 ic_0 ?_
  refine a_istore C (pc := 13) (lv1 := [(0, .ref h0), (1, .ref h1), (2, .long 0), (4, .int 0)]) [1, 2, 3, 0] dX7_read_13 (by decide) rfl ?_
  refine a_iconst C (pc := 15) dX7_read_15 ic_0 ?_
  refine a_istore C (pc := 16) (lv1 := [(0, .ref h0), (1, .ref h1), (2, .long 0), (4, .int 0), (5, .int 0)]) [1, 2, 3, 4, 0] dX7_read_16 (by decide) rfl ?_
  obtain ⟨n0, h⟩ := h
  refine w_X7_read_18 C (Nat.le_of_ble_eq_true rfl) (Nat.le_of_ble_eq_true rfl) n0 0 0 v_term v_times 0 0 0 h ?_
  intro v_distinct_13 v_total_14 v_term_15 v_times_16 h
  exact a_return C (pc := 84) rfl dX7_read_84 (Nat.le_of_ble_eq_true rfl) (Nat.le_of_ble_eq_true rfl) ⟨_, _, _, _, rfl, rfl, h⟩
set_option maxRecDepth 100000 in
set_option maxHeartbeats 4000000 in
theorem m_X0_shorten (Lx : Launch) (Dx : va_G) (cs : Nat → ClassId) (h0 : Nat) (d0 : Nat → Nat) (v_size : Int32) (v_place : Int32) (l1 : Int32) (Φ : Int32 → Int32 → Prop) (h : P_X0_shorten v_size l1 Φ) : XMet Lx Dx cs yX0_shorten cX0_shorten 2 (some .boolean) 0 0 0 0 [.ref h0, .int l1] [(h0, oX0 d0 v_size v_place)] (R_X0_shorten cs h0 d0 v_place Φ) (fun _ _ => False) := by
  refine XMet.of (own := RX0) (nm := "shorten") (by decide) rfl rfl (Nat.le_of_ble_eq_true rfl) (fun Γ C => ?_)
  unfold P_X0_shorten at h
  refine a_iload_n C (pc := 0) 1 dX0_shorten_0 rfl rfl ?_
  refine a_if_lt C (pc := 1) 12 dX0_shorten_1 (by decide) (fun hc => ?_) (fun hc => ?_)
  · have h := h.1 hc
    refine a_iconst C (pc := 12) dX0_shorten_12 ic_0 ?_
    exact a_zreturn C (pc := 13) rfl rfl dX0_shorten_13 (Nat.le_of_ble_eq_true rfl) (Nat.le_of_ble_eq_true rfl) ⟨_, _, rfl, rfl, h⟩
  · have h := h.2 hc
    refine a_iload_n C (pc := 4) 1 dX0_shorten_4 rfl rfl ?_
    refine a_aload_n C (pc := 5) 0 dX0_shorten_5 rfl rfl ?_
    refine a_get C (pc := 6) 0 1 inW_X0 rfl rfl (Nat.le_of_ble_eq_true rfl) wF_X0_7 rfl rfl dX0_shorten_6 ?_
    refine a_icmp_le C (pc := 9) 14 dX0_shorten_9 (by decide) (fun hc => ?_) (fun hc => ?_)
    · have h := h.1 hc
      refine a_aload_n C (pc := 14) 0 dX0_shorten_14 rfl rfl ?_
      refine a_iload_n C (pc := 15) 1 dX0_shorten_15 rfl rfl ?_
      refine a_put C (pc := 16) (ws1 := [(h0, oX0 d0 l1 v_place)]) 0 1 inW_X0 tyX0 tyX0_ok nmX0 rfl rfl (Nat.le_of_ble_eq_true rfl) wF_X0_7 rfl rfl rfl rfl rfl (Nat.le_of_ble_eq_true rfl) dX0_shorten_16 rfl ?_
      refine a_iconst C (pc := 19) dX0_shorten_19 ic_1 ?_
      exact a_zreturn C (pc := 20) rfl rfl dX0_shorten_20 (Nat.le_of_ble_eq_true rfl) (Nat.le_of_ble_eq_true rfl) ⟨_, _, rfl, rfl, h⟩
    · have h := h.2 hc
      refine a_iconst C (pc := 12) dX0_shorten_12 ic_0 ?_
      exact a_zreturn C (pc := 13) rfl rfl dX0_shorten_13 (Nat.le_of_ble_eq_true rfl) (Nat.le_of_ble_eq_true rfl) ⟨_, _, rfl, rfl, h⟩
set_option maxRecDepth 100000 in
set_option maxHeartbeats 4000000 in
theorem m_X8_readTape (Lx : Launch) (Dx : va_G) (cs : Nat → ClassId) (h0 : Nat) (hdr : Nat) (d0 : Nat → Nat) (d_words : Nat → Nat) (d_tape : Nat → Nat) (v_ticks : Int64) (v_words_distinct : Int32) (v_words_total : Int32) (v_tape_size : Int32) (v_tape_place : Int32) (v_tape_row : Nat → Int32) (v_words_term : Nat → Int64) (v_words_times : Nat → Int32) (Φ : Int32 → Int32 → Int32 → (Nat → Int64) → (Nat → Int32) → Prop) (h : P_X8_readTape v_words_distinct v_words_total v_tape_size v_tape_row v_words_term v_words_times Φ) : XMet Lx Dx cs yX8_readTape cX8_readTape 1 none 4 97 0 0 [.ref h0] [(h0, oX8 d0 hdr v_ticks), ((d0 1), oX7 d_words v_words_distinct v_words_total), ((d0 0), oX0 d_tape v_tape_size v_tape_place), ((d_tape 0), aB cs 3000 v_tape_row), ((d_words 0), aJ cs 1500 v_words_term), ((d_words 1), aI cs 1500 v_words_times)] (R_X8_readTape cs h0 hdr d0 d_words d_tape v_ticks v_tape_place v_tape_row Φ) (fun _ _ => False) := by
  refine XMet.of (own := RX8) (nm := "readTape") (by decide) rfl rfl (Nat.le_of_ble_eq_true rfl) (fun Γ C => ?_)
  unfold P_X8_readTape at h
  refine a_aload_n C (pc := 0) 0 dX8_readTape_0 rfl rfl ?_
  refine a_get C (pc := 1) 0 1 inW_X8 rfl rfl (Nat.le_of_ble_eq_true rfl) wF_X8_21 rfl rfl dX8_readTape_1 ?_
  refine a_aload_n C (pc := 4) 0 dX8_readTape_4 rfl rfl ?_
  refine a_get C (pc := 5) 0 0 inW_X8 rfl rfl (Nat.le_of_ble_eq_true rfl) wF_X8_14 rfl rfl dX8_readTape_5 ?_
  refine a_callV C (pc := 8) (av := [.ref (d0 0)]) (wr := [(h0, oX8 d0 hdr v_ticks)]) (m_X7_read Lx Dx cs 3000 (d0 1) (d0 0) d_words d_tape v_words_distinct v_words_total v_tape_size v_tape_place v_tape_row v_words_term v_words_times _ h) [1, 2, 3, 4, 5] [0] rfl rfl (by decide) (by decide) (by decide) wM_X8_233 wb_X7_read hy_X7_read (q0 := 1) rfl rfl rfl ⟨Nat.le_of_ble_eq_true rfl, Nat.le_of_ble_eq_true rfl⟩ (Nat.le_of_ble_eq_true rfl) (Nat.le_of_ble_eq_true rfl) (Nat.le_of_ble_eq_true rfl) rfl dX8_readTape_8 (fun v w1 hw => ?_) [] rfl (fun _ _ h => h.elim)
  obtain ⟨v_words_distinct_1, v_words_total_2, v_words_term_3, v_words_times_4, rfl, rfl, h⟩ := hw
  refine a_ws (st1 := []) (ws1 := [(h0, oX8 d0 hdr v_ticks), ((d0 1), oX7 d_words v_words_distinct_1 v_words_total_2), ((d0 0), oX0 d_tape v_tape_size v_tape_place), ((d_tape 0), aB cs 3000 v_tape_row), ((d_words 0), aJ cs 1500 v_words_term_3), ((d_words 1), aI cs 1500 v_words_times_4)]) 0 0 11 [0, 1, 2, 3, 4, 5] rfl rfl rfl rfl (by decide) rfl ?_
  refine a_aload_n C (pc := 11) 0 dX8_readTape_11 rfl rfl ?_
  refine a_get C (pc := 12) 0 0 inW_X8 rfl rfl (Nat.le_of_ble_eq_true rfl) wF_X8_14 rfl rfl dX8_readTape_12 ?_
  refine a_iconst C (pc := 15) dX8_readTape_15 ic_0 ?_
  refine a_callV C (pc := 16) (av := [.int 0]) (wr := [(h0, oX8 d0 hdr v_ticks), ((d0 1), oX7 d_words v_words_distinct_1 v_words_total_2), ((d_tape 0), aB cs 3000 v_tape_row), ((d_words 0), aJ cs 1500 v_words_term_3), ((d_words 1), aI cs 1500 v_words_times_4)]) (m_X0_shorten Lx Dx cs (d0 0) d_tape v_tape_size v_tape_place 0 _ h) [2] [0, 1, 3, 4, 5] rfl rfl (by decide) (by decide) (by decide) wM_X8_144 wb_X0_shorten hy_X0_shorten (q0 := 2) rfl rfl rfl ⟨Nat.le_of_ble_eq_true rfl, Nat.le_of_ble_eq_true rfl⟩ (Nat.le_of_ble_eq_true rfl) (Nat.le_of_ble_eq_true rfl) (Nat.le_of_ble_eq_true rfl) rfl dX8_readTape_16 (fun v w1 hw => ?_) [] rfl (fun _ _ h => h.elim)
  obtain ⟨r_5, v_tape_size_6, rfl, rfl, h⟩ := hw
  refine a_ws (st1 := [.int r_5]) (ws1 := [(h0, oX8 d0 hdr v_ticks), ((d0 1), oX7 d_words v_words_distinct_1 v_words_total_2), ((d0 0), oX0 d_tape v_tape_size_6 v_tape_place), ((d_tape 0), aB cs 3000 v_tape_row), ((d_words 0), aJ cs 1500 v_words_term_3), ((d_words 1), aI cs 1500 v_words_times_4)]) 0 0 19 [0, 1, 5, 2, 3, 4] rfl rfl rfl rfl (by decide) rfl ?_
  refine a_pop C (pc := 19) dX8_readTape_19 rfl ?_
  exact a_return C (pc := 20) rfl dX8_readTape_20 (Nat.le_of_ble_eq_true rfl) (Nat.le_of_ble_eq_true rfl) ⟨_, _, _, _, _, rfl, rfl, h⟩
set_option maxRecDepth 100000 in
set_option maxHeartbeats 4000000 in
theorem w_X1_placeOf_2 {Γ : XG} {Lx : Launch} {Dx : va_G} {cs : Nat → ClassId} {h0 : Nat} {d0 : Nat → Nat} {v_documents : Int32} {v_terms : Int32} {v_postings : Int32} {v_lengthOfAll : Int32} {v_term : Nat → Int64} {K_29 : Prop} {Φ : Int32 → Prop} {k n9 : Nat} (C : CX Γ Lx Dx cs cX1_placeOf RX1 "placeOf" 4 (some .int) 0 0 0 0 (qEC cs 0 0 [] (R_X1_placeOf cs h0 d0 v_documents v_terms v_postings v_lengthOfAll v_term Φ) (fun _ _ => False))) (hkm : k ≤ 0) (hnm : n9 ≤ 0) : ∀ n : Nat, ∀ (l1 : Int64) (l3 : Int32), L_X1_placeOf_2 n v_terms v_term l1 l3 K_29 Φ → (K_29 → AW Γ k n9 29 [(0, .ref h0)] [] [(h0, oX1 d0 v_documents v_terms v_postings v_lengthOfAll), ((d0 0), aJ cs 64 v_term)]) → AW Γ k n9 2 [(0, .ref h0), (1, .long l1), (3, .int l3)] [] [(h0, oX1 d0 v_documents v_terms v_postings v_lengthOfAll), ((d0 0), aJ cs 64 v_term)] := by
  intro n
  induction n with
  | zero =>
    intro l1 l3 h
    exact False.elim h
  | succ n ih =>
    intro l1 l3 h hK_29
    rw [L_X1_placeOf_2] at h
    refine a_iload_n C (pc := 2) 2 dX1_placeOf_2 rfl rfl ?_
    refine a_aload_n C (pc := 3) 0 dX1_placeOf_3 rfl rfl ?_
    refine a_get C (pc := 4) 0 7 inW_X1 rfl rfl (Nat.le_of_ble_eq_true rfl) wF_X1_36 rfl rfl dX1_placeOf_4 ?_
    refine a_icmp_ge C (pc := 7) 29 dX1_placeOf_7 (by decide) (fun hc => ?_) (fun hc => ?_)
    · have h := h.1 hc
      refine a_lv (lv1 := [(0, .ref h0)]) [0] rfl ?_
      exact hK_29 h
    · have h := h.2 hc
      refine a_aload_n C (pc := 10) 0 dX1_placeOf_10 rfl rfl ?_
      refine a_get C (pc := 11) 0 0 inW_X1 rfl rfl (Nat.le_of_ble_eq_true rfl) wF_X1_9 rfl rfl dX1_placeOf_11 ?_
      refine a_iload_n C (pc := 14) 2 dX1_placeOf_14 rfl rfl ?_
      refine a_lald C (pc := 15) 1 rfl h.1 dX1_placeOf_15 ?_
      replace h := h.2
      refine a_lload_n C (pc := 16) 1 dX1_placeOf_16 rfl rfl ?_
      refine a_lcmp_lt C (pc := 17) 23 dX1_placeOf_17 dX1_placeOf_18 (by decide) (fun hc => ?_) (fun hc => ?_)
      · have h := h.1 hc
        refine a_iinc C (pc := 23) (lv1 := [(0, .ref h0), (1, .long l1), (3, .int (l3 + 1))]) 2 [1, 2, 0] dX1_placeOf_23 rfl (congrArg (fun z => l3 + z) ic_1) (by decide) rfl ?_
        refine a_goto C (pc := 26) 2 dX1_placeOf_26 (by decide) ?_
        exact ih l1 (l3 + 1) h hK_29
      · have h := h.2 hc
        refine a_iload_n C (pc := 21) 2 dX1_placeOf_21 rfl rfl ?_
        exact a_ireturn C (pc := 22) rfl dX1_placeOf_22 hkm hnm ⟨_, rfl, rfl, h⟩
set_option maxRecDepth 100000 in
set_option maxHeartbeats 4000000 in
theorem m_X1_placeOf (Lx : Launch) (Dx : va_G) (cs : Nat → ClassId) (h0 : Nat) (d0 : Nat → Nat) (v_documents : Int32) (v_terms : Int32) (v_postings : Int32) (v_lengthOfAll : Int32) (v_term : Nat → Int64) (l1 : Int64) (Φ : Int32 → Prop) (h : P_X1_placeOf v_terms v_term l1 Φ) : XMet Lx Dx cs yX1_placeOf cX1_placeOf 4 (some .int) 0 0 0 0 [.ref h0, .long l1] [(h0, oX1 d0 v_documents v_terms v_postings v_lengthOfAll), ((d0 0), aJ cs 64 v_term)] (R_X1_placeOf cs h0 d0 v_documents v_terms v_postings v_lengthOfAll v_term Φ) (fun _ _ => False) := by
  refine XMet.of (own := RX1) (nm := "placeOf") (by decide) rfl rfl (Nat.le_of_ble_eq_true rfl) (fun Γ C => ?_)
  unfold P_X1_placeOf at h
  refine a_iconst C (pc := 0) dX1_placeOf_0 ic_0 ?_
  refine a_istore_n C (pc := 1) (lv1 := [(0, .ref h0), (1, .long l1), (3, .int 0)]) [1, 2, 0] dX1_placeOf_1 rfl (by decide) rfl ?_
  obtain ⟨n0, h⟩ := h
  refine w_X1_placeOf_2 C (Nat.le_of_ble_eq_true rfl) (Nat.le_of_ble_eq_true rfl) n0 l1 0 h ?_
  intro h
  refine a_aload_n C (pc := 29) 0 dX1_placeOf_29 rfl rfl ?_
  refine a_get C (pc := 30) 0 7 inW_X1 rfl rfl (Nat.le_of_ble_eq_true rfl) wF_X1_36 rfl rfl dX1_placeOf_30 ?_
  exact a_ireturn C (pc := 33) rfl dX1_placeOf_33 (Nat.le_of_ble_eq_true rfl) (Nat.le_of_ble_eq_true rfl) ⟨_, rfl, rfl, h⟩
set_option maxRecDepth 100000 in
set_option maxHeartbeats 4000000 in
theorem m_X1_hasTermAt (Lx : Launch) (Dx : va_G) (cs : Nat → ClassId) (h0 : Nat) (d0 : Nat → Nat) (v_documents : Int32) (v_terms : Int32) (v_postings : Int32) (v_lengthOfAll : Int32) (v_term : Nat → Int64) (l1 : Int32) (l2 : Int64) (Φ : Int32 → Prop) (h : P_X1_hasTermAt v_terms v_term l1 l2 Φ) : XMet Lx Dx cs yX1_hasTermAt cX1_hasTermAt 4 (some .boolean) 0 0 0 0 [.ref h0, .int l1, .long l2] [(h0, oX1 d0 v_documents v_terms v_postings v_lengthOfAll), ((d0 0), aJ cs 64 v_term)] (R_X1_hasTermAt cs h0 d0 v_documents v_terms v_postings v_lengthOfAll v_term Φ) (fun _ _ => False) := by
  refine XMet.of (own := RX1) (nm := "hasTermAt") (by decide) rfl rfl (Nat.le_of_ble_eq_true rfl) (fun Γ C => ?_)
  unfold P_X1_hasTermAt at h
  refine a_iload_n C (pc := 0) 1 dX1_hasTermAt_0 rfl rfl ?_
  refine a_aload_n C (pc := 1) 0 dX1_hasTermAt_1 rfl rfl ?_
  refine a_get C (pc := 2) 0 7 inW_X1 rfl rfl (Nat.le_of_ble_eq_true rfl) wF_X1_36 rfl rfl dX1_hasTermAt_2 ?_
  refine a_icmp_ge C (pc := 5) 23 dX1_hasTermAt_5 (by decide) (fun hc => ?_) (fun hc => ?_)
  · have h := h.1 hc
    refine a_iconst C (pc := 23) dX1_hasTermAt_23 ic_0 ?_
    exact a_zreturn C (pc := 24) rfl rfl dX1_hasTermAt_24 (Nat.le_of_ble_eq_true rfl) (Nat.le_of_ble_eq_true rfl) ⟨_, rfl, rfl, h⟩
  · have h := h.2 hc
    refine a_aload_n C (pc := 8) 0 dX1_hasTermAt_8 rfl rfl ?_
    refine a_get C (pc := 9) 0 0 inW_X1 rfl rfl (Nat.le_of_ble_eq_true rfl) wF_X1_9 rfl rfl dX1_hasTermAt_9 ?_
    refine a_iload_n C (pc := 12) 1 dX1_hasTermAt_12 rfl rfl ?_
    refine a_lald C (pc := 13) 1 rfl h.1 dX1_hasTermAt_13 ?_
    replace h := h.2
    refine a_lload_n C (pc := 14) 2 dX1_hasTermAt_14 rfl rfl ?_
    refine a_lcmp_ne C (pc := 15) 23 dX1_hasTermAt_15 dX1_hasTermAt_16 (by decide) (fun hc => ?_) (fun hc => ?_)
    · have h := h.1 hc
      refine a_iconst C (pc := 23) dX1_hasTermAt_23 ic_0 ?_
      exact a_zreturn C (pc := 24) rfl rfl dX1_hasTermAt_24 (Nat.le_of_ble_eq_true rfl) (Nat.le_of_ble_eq_true rfl) ⟨_, rfl, rfl, h⟩
    · have h := h.2 hc
      refine a_iconst C (pc := 19) dX1_hasTermAt_19 ic_1 ?_
      refine a_goto C (pc := 20) 24 dX1_hasTermAt_20 (by decide) ?_
      exact a_zreturn C (pc := 24) rfl rfl dX1_hasTermAt_24 (Nat.le_of_ble_eq_true rfl) (Nat.le_of_ble_eq_true rfl) ⟨_, rfl, rfl, h⟩
set_option maxRecDepth 100000 in
set_option maxHeartbeats 4000000 in
theorem w_X1_hasRoomFor_4 {Γ : XG} {Lx : Launch} {Dx : va_G} {cs : Nat → ClassId} {h0 : Nat} {h1 : Nat} {d1 : Nat → Nat} {d0 : Nat → Nat} {v_a1_distinct : Int32} {v_a1_total : Int32} {v_a1_term : Nat → Int64} {v_documents : Int32} {v_terms : Int32} {v_postings : Int32} {v_lengthOfAll : Int32} {v_term : Nat → Int64} {K_44 : Int32 → Prop} {Φ : Int32 → Prop} {k n9 : Nat} (C : CX Γ Lx Dx cs cX1_hasRoomFor RX1 "hasRoomFor" 4 (some .boolean) 1 23 0 0 (qEC cs 0 0 [] (R_X1_hasRoomFor cs h0 h1 d1 d0 v_a1_distinct v_a1_total v_a1_term v_documents v_terms v_postings v_lengthOfAll v_term Φ) (fun _ _ => False))) (hkm : k ≤ 0) (hnm : n9 ≤ 0) : ∀ n : Nat, ∀ (l2 : Int32) (l3 : Int32), L_X1_hasRoomFor_4 n v_a1_distinct v_a1_term v_documents v_terms v_postings v_term l2 l3 K_44 Φ → (∀ (l2_3 : Int32), K_44 l2_3 → AW Γ k n9 44 [(0, .ref h0), (1, .ref h1), (2, .int l2_3)] [] [(h1, oX7 d1 v_a1_distinct v_a1_total), ((d1 0), aJ cs 1500 v_a1_term), (h0, oX1 d0 v_documents v_terms v_postings v_lengthOfAll), ((d0 0), aJ cs 64 v_term)]) → AW Γ k n9 4 [(0, .ref h0), (1, .ref h1), (2, .int l2), (3, .int l3)] [] [(h1, oX7 d1 v_a1_distinct v_a1_total), ((d1 0), aJ cs 1500 v_a1_term), (h0, oX1 d0 v_documents v_terms v_postings v_lengthOfAll), ((d0 0), aJ cs 64 v_term)] := by
  intro n
  induction n with
  | zero =>
    intro l2 l3 h
    exact False.elim h
  | succ n ih =>
    intro l2 l3 h hK_44
    rw [L_X1_hasRoomFor_4] at h
    refine a_iload_n C (pc := 4) 3 dX1_hasRoomFor_4 rfl rfl ?_
    refine a_aload_n C (pc := 5) 1 dX1_hasRoomFor_5 rfl rfl ?_
    refine a_get C (pc := 6) 0 2 inW_X7 rfl rfl (Nat.le_of_ble_eq_true rfl) wF_X1_45 rfl rfl dX1_hasRoomFor_6 ?_
    refine a_icmp_ge C (pc := 9) 44 dX1_hasRoomFor_9 (by decide) (fun hc => ?_) (fun hc => ?_)
    · have h := h.1 hc
      refine a_lv (lv1 := [(0, .ref h0), (1, .ref h1), (2, .int l2)]) [0, 1, 2] rfl ?_
      exact hK_44 l2 h
    · have h := h.2 hc
      refine a_aload_n C (pc := 12) 0 dX1_hasRoomFor_12 rfl rfl ?_
      refine a_aload_n C (pc := 13) 0 dX1_hasRoomFor_13 rfl rfl ?_
      refine a_aload_n C (pc := 14) 1 dX1_hasRoomFor_14 rfl rfl ?_
      refine a_get C (pc := 15) 0 0 inW_X7 rfl rfl (Nat.le_of_ble_eq_true rfl) wF_X1_50 rfl rfl dX1_hasRoomFor_15 ?_
      refine a_iload_n C (pc := 18) 3 dX1_hasRoomFor_18 rfl rfl ?_
      refine a_lald C (pc := 19) 1 rfl h.1 dX1_hasRoomFor_19 ?_
      replace h := h.2
      refine a_callV C (pc := 20) (av := [.long (v_a1_term (l3 : Int32).toNatClampNeg)]) (wr := [(h1, oX7 d1 v_a1_distinct v_a1_total), ((d1 0), aJ cs 1500 v_a1_term)]) (m_X1_placeOf Lx Dx cs h0 d0 v_documents v_terms v_postings v_lengthOfAll v_term (v_a1_term (l3 : Int32).toNatClampNeg) _ h) [2, 3] [0, 1] rfl rfl (by decide) (by decide) (by decide) wM_X1_51 wb_X1_placeOf hy_X1_placeOf (q0 := 2) rfl rfl rfl ⟨Nat.le_of_ble_eq_true rfl, Nat.le_of_ble_eq_true rfl⟩ (Nat.le_of_ble_eq_true rfl) hkm hnm rfl dX1_hasRoomFor_20 (fun v w1 hw => ?_) [] rfl (fun _ _ h => h.elim)
      obtain ⟨r_1, rfl, rfl, h⟩ := hw
      refine a_ws (st1 := [.int r_1, .ref h0]) (ws1 := [(h1, oX7 d1 v_a1_distinct v_a1_total), ((d1 0), aJ cs 1500 v_a1_term), (h0, oX1 d0 v_documents v_terms v_postings v_lengthOfAll), ((d0 0), aJ cs 64 v_term)]) k n9 23 [0, 1, 2, 3] rfl rfl rfl rfl (by decide) rfl ?_
      refine a_aload_n C (pc := 23) 1 dX1_hasRoomFor_23 rfl rfl ?_
      refine a_get C (pc := 24) 0 0 inW_X7 rfl rfl (Nat.le_of_ble_eq_true rfl) wF_X1_50 rfl rfl dX1_hasRoomFor_24 ?_
      refine a_iload_n C (pc := 27) 3 dX1_hasRoomFor_27 rfl rfl ?_
      refine a_lald C (pc := 28) 1 rfl h.1 dX1_hasRoomFor_28 ?_
      replace h := h.2
      refine a_callV C (pc := 29) (av := [.int r_1, .long (v_a1_term (l3 : Int32).toNatClampNeg)]) (wr := [(h1, oX7 d1 v_a1_distinct v_a1_total), ((d1 0), aJ cs 1500 v_a1_term)]) (m_X1_hasTermAt Lx Dx cs h0 d0 v_documents v_terms v_postings v_lengthOfAll v_term r_1 (v_a1_term (l3 : Int32).toNatClampNeg) _ h) [2, 3] [0, 1] rfl rfl (by decide) (by decide) (by decide) wM_X1_55 wb_X1_hasTermAt hy_X1_hasTermAt (q0 := 2) rfl rfl rfl ⟨Nat.le_of_ble_eq_true rfl, Nat.le_of_ble_eq_true rfl⟩ (Nat.le_of_ble_eq_true rfl) hkm hnm rfl dX1_hasRoomFor_29 (fun v w1 hw => ?_) [] rfl (fun _ _ h => h.elim)
      obtain ⟨r_2, rfl, rfl, h⟩ := hw
      refine a_ws (st1 := [.int r_2]) (ws1 := [(h1, oX7 d1 v_a1_distinct v_a1_total), ((d1 0), aJ cs 1500 v_a1_term), (h0, oX1 d0 v_documents v_terms v_postings v_lengthOfAll), ((d0 0), aJ cs 64 v_term)]) k n9 32 [0, 1, 2, 3] rfl rfl rfl rfl (by decide) rfl ?_
      refine a_if_ne C (pc := 32) 38 dX1_hasRoomFor_32 (by decide) (fun hc => ?_) (fun hc => ?_)
      · have h := h.1 hc
        refine a_iinc C (pc := 38) (lv1 := [(0, .ref h0), (1, .ref h1), (2, .int l2), (3, .int (l3 + 1))]) 3 [1, 2, 3, 0] dX1_hasRoomFor_38 rfl (congrArg (fun z => l3 + z) ic_1) (by decide) rfl ?_
        refine a_goto C (pc := 41) 4 dX1_hasRoomFor_41 (by decide) ?_
        exact ih l2 (l3 + 1) h hK_44
      · have h := h.2 hc
        refine a_iinc C (pc := 35) (lv1 := [(0, .ref h0), (1, .ref h1), (2, .int (l2 + 1)), (3, .int l3)]) 2 [1, 2, 0, 3] dX1_hasRoomFor_35 rfl (congrArg (fun z => l2 + z) ic_1) (by decide) rfl ?_
        refine a_iinc C (pc := 38) (lv1 := [(0, .ref h0), (1, .ref h1), (2, .int (l2 + 1)), (3, .int (l3 + 1))]) 3 [1, 2, 3, 0] dX1_hasRoomFor_38 rfl (congrArg (fun z => l3 + z) ic_1) (by decide) rfl ?_
        refine a_goto C (pc := 41) 4 dX1_hasRoomFor_41 (by decide) ?_
        exact ih (l2 + 1) (l3 + 1) h hK_44
set_option maxRecDepth 100000 in
set_option maxHeartbeats 4000000 in
theorem m_X1_hasRoomFor (Lx : Launch) (Dx : va_G) (cs : Nat → ClassId) (h0 : Nat) (h1 : Nat) (d1 : Nat → Nat) (d0 : Nat → Nat) (v_a1_distinct : Int32) (v_a1_total : Int32) (v_a1_term : Nat → Int64) (v_documents : Int32) (v_terms : Int32) (v_postings : Int32) (v_lengthOfAll : Int32) (v_term : Nat → Int64) (Φ : Int32 → Prop) (h : P_X1_hasRoomFor v_a1_distinct v_a1_term v_documents v_terms v_postings v_term Φ) : XMet Lx Dx cs yX1_hasRoomFor cX1_hasRoomFor 4 (some .boolean) 1 23 0 0 [.ref h0, .ref h1] [(h1, oX7 d1 v_a1_distinct v_a1_total), ((d1 0), aJ cs 1500 v_a1_term), (h0, oX1 d0 v_documents v_terms v_postings v_lengthOfAll), ((d0 0), aJ cs 64 v_term)] (R_X1_hasRoomFor cs h0 h1 d1 d0 v_a1_distinct v_a1_total v_a1_term v_documents v_terms v_postings v_lengthOfAll v_term Φ) (fun _ _ => False) := by
  refine XMet.of (own := RX1) (nm := "hasRoomFor") (by decide) rfl rfl (Nat.le_of_ble_eq_true rfl) (fun Γ C => ?_)
  unfold P_X1_hasRoomFor at h
  refine a_iconst C (pc := 0) dX1_hasRoomFor_0 ic_0 ?_
  refine a_istore_n C (pc := 1) (lv1 := [(0, .ref h0), (1, .ref h1), (2, .int 0)]) [1, 2, 0] dX1_hasRoomFor_1 rfl (by decide) rfl ?_
  refine a_iconst C (pc := 2) dX1_hasRoomFor_2 ic_0 ?_
  refine a_istore_n C (pc := 3) (lv1 := [(0, .ref h0), (1, .ref h1), (2, .int 0), (3, .int 0)]) [1, 2, 3, 0] dX1_hasRoomFor_3 rfl (by decide) rfl ?_
  obtain ⟨n0, h⟩ := h
  refine w_X1_hasRoomFor_4 C (Nat.le_of_ble_eq_true rfl) (Nat.le_of_ble_eq_true rfl) n0 0 0 h ?_
  intro l2_4 h
  refine a_aload_n C (pc := 44) 0 dX1_hasRoomFor_44 rfl rfl ?_
  refine a_get C (pc := 45) 2 6 inW_X1 rfl rfl (Nat.le_of_ble_eq_true rfl) wF_X1_32 rfl rfl dX1_hasRoomFor_45 ?_
  refine a_bipush C (pc := 48) dX1_hasRoomFor_48 bp_40 ?_
  refine a_icmp_ge C (pc := 50) 83 dX1_hasRoomFor_50 (by decide) (fun hc => ?_) (fun hc => ?_)
  · have h := h.1 hc
    refine a_iconst C (pc := 83) dX1_hasRoomFor_83 ic_0 ?_
    exact a_zreturn C (pc := 84) rfl rfl dX1_hasRoomFor_84 (Nat.le_of_ble_eq_true rfl) (Nat.le_of_ble_eq_true rfl) ⟨_, rfl, rfl, h⟩
  · have h := h.2 hc
    refine a_aload_n C (pc := 53) 0 dX1_hasRoomFor_53 rfl rfl ?_
    refine a_get C (pc := 54) 2 7 inW_X1 rfl rfl (Nat.le_of_ble_eq_true rfl) wF_X1_36 rfl rfl dX1_hasRoomFor_54 ?_
    refine a_iload_n C (pc := 57) 2 dX1_hasRoomFor_57 rfl rfl ?_
    refine a_iadd C (pc := 58) dX1_hasRoomFor_58 ?_
    refine a_bipush C (pc := 59) dX1_hasRoomFor_59 bp_64 ?_
    refine a_icmp_gt C (pc := 61) 83 dX1_hasRoomFor_61 (by decide) (fun hc => ?_) (fun hc => ?_)
    · have h := h.1 hc
      refine a_iconst C (pc := 83) dX1_hasRoomFor_83 ic_0 ?_
      exact a_zreturn C (pc := 84) rfl rfl dX1_hasRoomFor_84 (Nat.le_of_ble_eq_true rfl) (Nat.le_of_ble_eq_true rfl) ⟨_, rfl, rfl, h⟩
    · have h := h.2 hc
      refine a_aload_n C (pc := 64) 0 dX1_hasRoomFor_64 rfl rfl ?_
      refine a_get C (pc := 65) 2 8 inW_X1 rfl rfl (Nat.le_of_ble_eq_true rfl) wF_X1_39 rfl rfl dX1_hasRoomFor_65 ?_
      refine a_aload_n C (pc := 68) 1 dX1_hasRoomFor_68 rfl rfl ?_
      refine a_get C (pc := 69) 0 2 inW_X7 rfl rfl (Nat.le_of_ble_eq_true rfl) wF_X1_45 rfl rfl dX1_hasRoomFor_69 ?_
      refine a_iadd C (pc := 72) dX1_hasRoomFor_72 ?_
      refine a_sipush C (pc := 73) dX1_hasRoomFor_73 sp_600 ?_
      refine a_icmp_gt C (pc := 76) 83 dX1_hasRoomFor_76 (by decide) (fun hc => ?_) (fun hc => ?_)
      · have h := h.1 hc
        refine a_iconst C (pc := 83) dX1_hasRoomFor_83 ic_0 ?_
        exact a_zreturn C (pc := 84) rfl rfl dX1_hasRoomFor_84 (Nat.le_of_ble_eq_true rfl) (Nat.le_of_ble_eq_true rfl) ⟨_, rfl, rfl, h⟩
      · have h := h.2 hc
        refine a_iconst C (pc := 79) dX1_hasRoomFor_79 ic_1 ?_
        refine a_goto C (pc := 80) 84 dX1_hasRoomFor_80 (by decide) ?_
        exact a_zreturn C (pc := 84) rfl rfl dX1_hasRoomFor_84 (Nat.le_of_ble_eq_true rfl) (Nat.le_of_ble_eq_true rfl) ⟨_, rfl, rfl, h⟩
set_option maxRecDepth 100000 in
set_option maxHeartbeats 4000000 in
theorem w_X1_insertTerm_6 {Γ : XG} {Lx : Launch} {Dx : va_G} {cs : Nat → ClassId} {h0 : Nat} {d0 : Nat → Nat} {v_documents : Int32} {v_postings : Int32} {v_lengthOfAll : Int32} {K_75 : Int32 → (Nat → Int64) → (Nat → Int32) → (Nat → Int32) → Int32 → Int64 → Prop} {Φ : Int32 → (Nat → Int64) → (Nat → Int32) → (Nat → Int32) → Prop} {k n9 : Nat} (C : CX Γ Lx Dx cs cX1_insertTerm RX1 "insertTerm" 5 none 1 64 0 0 (qEC cs 0 0 [] (R_X1_insertTerm cs h0 d0 v_documents v_postings v_lengthOfAll Φ) (fun _ _ => False))) (hkm : k ≤ 0) (hnm : n9 ≤ 0) : ∀ n : Nat, ∀ (v_terms : Int32) (v_term : Nat → Int64) (v_inDocuments : Nat → Int32) (v_times : Nat → Int32) (l1 : Int32) (l2 : Int64) (l4 : Int32), L_X1_insertTerm_6 n v_terms v_term v_inDocuments v_times l1 l2 l4 K_75 Φ → (∀ (v_terms_1 : Int32) (v_term_2 : Nat → Int64) (v_inDocuments_3 : Nat → Int32) (v_times_4 : Nat → Int32) (l1_5 : Int32) (l2_6 : Int64), K_75 v_terms_1 v_term_2 v_inDocuments_3 v_times_4 l1_5 l2_6 → AW Γ k n9 75 [(0, .ref h0), (1, .int l1_5), (2, .long l2_6)] [] [(h0, oX1 d0 v_documents v_terms_1 v_postings v_lengthOfAll), ((d0 0), aJ cs 64 v_term_2), ((d0 1), aI cs 64 v_inDocuments_3), ((d0 2), aI cs 2560 v_times_4)]) → AW Γ k n9 6 [(0, .ref h0), (1, .int l1), (2, .long l2), (4, .int l4)] [] [(h0, oX1 d0 v_documents v_terms v_postings v_lengthOfAll), ((d0 0), aJ cs 64 v_term), ((d0 1), aI cs 64 v_inDocuments), ((d0 2), aI cs 2560 v_times)] := by
  intro n
  induction n with
  | zero =>
    intro v_terms v_term v_inDocuments v_times l1 l2 l4 h
    exact False.elim h
  | succ n ih =>
    intro v_terms v_term v_inDocuments v_times l1 l2 l4 h hK_75
    rw [L_X1_insertTerm_6] at h
    refine a_iload C (pc := 6) 3 dX1_insertTerm_6 rfl ?_
    refine a_iload_n C (pc := 8) 1 dX1_insertTerm_8 rfl rfl ?_
    refine a_icmp_le C (pc := 9) 75 dX1_insertTerm_9 (by decide) (fun hc => ?_) (fun hc => ?_)
    · have h := h.1 hc
      refine a_lv (lv1 := [(0, .ref h0), (1, .int l1), (2, .long l2)]) [0, 1, 2] rfl ?_
      exact hK_75 v_terms v_term v_inDocuments v_times l1 l2 h
    · have h := h.2 hc
      refine a_aload_n C (pc := 12) 0 dX1_insertTerm_12 rfl rfl ?_
      refine a_get C (pc := 13) 0 0 inW_X1 rfl rfl (Nat.le_of_ble_eq_true rfl) wF_X1_9 rfl rfl dX1_insertTerm_13 ?_
      refine a_iload C (pc := 16) 3 dX1_insertTerm_16 rfl ?_
      refine a_aload_n C (pc := 18) 0 dX1_insertTerm_18 rfl rfl ?_
      refine a_get C (pc := 19) 0 0 inW_X1 rfl rfl (Nat.le_of_ble_eq_true rfl) wF_X1_9 rfl rfl dX1_insertTerm_19 ?_
      refine a_iload C (pc := 22) 3 dX1_insertTerm_22 rfl ?_
      refine a_iconst C (pc := 24) dX1_insertTerm_24 ic_1 ?_
      refine a_isub C (pc := 25) dX1_insertTerm_25 ?_
      refine a_lald C (pc := 26) 1 rfl h.1 dX1_insertTerm_26 ?_
      replace h := h.2
      refine a_last C (pc := 27) (ws1 := [(h0, oX1 d0 v_documents v_terms v_postings v_lengthOfAll), ((d0 0), aJ cs 64 (vp_updL v_term (l4 : Int32).toNatClampNeg (v_term (l4 - 1 : Int32).toNatClampNeg))), ((d0 1), aI cs 64 v_inDocuments), ((d0 2), aI cs 2560 v_times)]) 1 rfl h.1 dX1_insertTerm_27 rfl ?_
      replace h := h.2
      refine a_aload_n C (pc := 28) 0 dX1_insertTerm_28 rfl rfl ?_
      refine a_get C (pc := 29) 0 1 inW_X1 rfl rfl (Nat.le_of_ble_eq_true rfl) wF_X1_15 rfl rfl dX1_insertTerm_29 ?_
      refine a_iload C (pc := 32) 3 dX1_insertTerm_32 rfl ?_
      refine a_aload_n C (pc := 34) 0 dX1_insertTerm_34 rfl rfl ?_
      refine a_get C (pc := 35) 0 1 inW_X1 rfl rfl (Nat.le_of_ble_eq_true rfl) wF_X1_15 rfl rfl dX1_insertTerm_35 ?_
      refine a_iload C (pc := 38) 3 dX1_insertTerm_38 rfl ?_
      refine a_iconst C (pc := 40) dX1_insertTerm_40 ic_1 ?_
      refine a_isub C (pc := 41) dX1_insertTerm_41 ?_
      refine a_iald C (pc := 42) 2 rfl h.1 dX1_insertTerm_42 ?_
      replace h := h.2
      refine a_iast C (pc := 43) (ws1 := [(h0, oX1 d0 v_documents v_terms v_postings v_lengthOfAll), ((d0 0), aJ cs 64 (vp_updL v_term (l4 : Int32).toNatClampNeg (v_term (l4 - 1 : Int32).toNatClampNeg))), ((d0 1), aI cs 64 (upd v_inDocuments (l4 : Int32).toNatClampNeg (v_inDocuments (l4 - 1 : Int32).toNatClampNeg))), ((d0 2), aI cs 2560 v_times)]) 2 rfl h.1 dX1_insertTerm_43 rfl ?_
      replace h := h.2
      refine a_aload_n C (pc := 44) 0 dX1_insertTerm_44 rfl rfl ?_
      refine a_get C (pc := 45) 0 2 inW_X1 rfl rfl (Nat.le_of_ble_eq_true rfl) wF_X1_19 rfl rfl dX1_insertTerm_45 ?_
      refine a_iload C (pc := 48) 3 dX1_insertTerm_48 rfl ?_
      refine a_iconst C (pc := 50) dX1_insertTerm_50 ic_1 ?_
      refine a_isub C (pc := 51) dX1_insertTerm_51 ?_
      refine a_bipush C (pc := 52) dX1_insertTerm_52 bp_40 ?_
      refine a_imul C (pc := 54) dX1_insertTerm_54 ?_
      refine a_aload_n C (pc := 55) 0 dX1_insertTerm_55 rfl rfl ?_
      refine a_get C (pc := 56) 0 2 inW_X1 rfl rfl (Nat.le_of_ble_eq_true rfl) wF_X1_19 rfl rfl dX1_insertTerm_56 ?_
      refine a_iload C (pc := 59) 3 dX1_insertTerm_59 rfl ?_
      refine a_bipush C (pc := 61) dX1_insertTerm_61 bp_40 ?_
      refine a_imul C (pc := 63) dX1_insertTerm_63 ?_
      refine a_bipush C (pc := 64) dX1_insertTerm_64 bp_40 ?_
      refine a_copy C (pc := 66) (ws1 := [(h0, oX1 d0 v_documents v_terms v_postings v_lengthOfAll), ((d0 0), aJ cs 64 (vp_updL v_term (l4 : Int32).toNatClampNeg (v_term (l4 - 1 : Int32).toNatClampNeg))), ((d0 1), aI cs 64 (upd v_inDocuments (l4 : Int32).toNatClampNeg (v_inDocuments (l4 - 1 : Int32).toNatClampNeg))), ((d0 2), aI cs 2560 (va_cpy v_times v_times ((l4 - 1) * 40 : Int32).toNatClampNeg (l4 * 40 : Int32).toNatClampNeg (40 : Int32).toNatClampNeg))]) 3 rfl wM_X1_99 wX_nat wX_sta wI_System h.1 h.2.1 h.2.2.1 h.2.2.2.1 h.2.2.2.2.1 (Nat.le_of_ble_eq_true rfl) (by decide +kernel) dX1_insertTerm_66 rfl ?_
      replace h := h.2.2.2.2.2
      refine a_iinc C (pc := 69) (lv1 := [(0, .ref h0), (1, .int l1), (2, .long l2), (4, .int (l4 + (-1)))]) 3 [1, 2, 3, 0] dX1_insertTerm_69 rfl (congrArg (fun z => l4 + z) ic_m1) (by decide) rfl ?_
      refine a_goto C (pc := 72) 6 dX1_insertTerm_72 (by decide) ?_
      exact ih v_terms (vp_updL v_term (l4 : Int32).toNatClampNeg (v_term (l4 - 1 : Int32).toNatClampNeg)) (upd v_inDocuments (l4 : Int32).toNatClampNeg (v_inDocuments (l4 - 1 : Int32).toNatClampNeg)) (va_cpy v_times v_times ((l4 - 1) * 40 : Int32).toNatClampNeg (l4 * 40 : Int32).toNatClampNeg (40 : Int32).toNatClampNeg) l1 l2 (l4 + (-1)) h hK_75
set_option maxRecDepth 100000 in
set_option maxHeartbeats 4000000 in
theorem w_X1_insertTerm_92 {Γ : XG} {Lx : Launch} {Dx : va_G} {cs : Nat → ClassId} {h0 : Nat} {d0 : Nat → Nat} {v_documents : Int32} {v_postings : Int32} {v_lengthOfAll : Int32} {K_118 : Int32 → (Nat → Int64) → (Nat → Int32) → (Nat → Int32) → Prop} {Φ : Int32 → (Nat → Int64) → (Nat → Int32) → (Nat → Int32) → Prop} {k n9 : Nat} (C : CX Γ Lx Dx cs cX1_insertTerm RX1 "insertTerm" 5 none 1 64 0 0 (qEC cs 0 0 [] (R_X1_insertTerm cs h0 d0 v_documents v_postings v_lengthOfAll Φ) (fun _ _ => False))) (hkm : k ≤ 0) (hnm : n9 ≤ 0) : ∀ n : Nat, ∀ (v_terms : Int32) (v_term : Nat → Int64) (v_inDocuments : Nat → Int32) (v_times : Nat → Int32) (l1 : Int32) (l4 : Int32), L_X1_insertTerm_92 n v_terms v_term v_inDocuments v_times l1 l4 K_118 Φ → (∀ (v_terms_13 : Int32) (v_term_14 : Nat → Int64) (v_inDocuments_15 : Nat → Int32) (v_times_16 : Nat → Int32), K_118 v_terms_13 v_term_14 v_inDocuments_15 v_times_16 → AW Γ k n9 118 [(0, .ref h0)] [] [(h0, oX1 d0 v_documents v_terms_13 v_postings v_lengthOfAll), ((d0 0), aJ cs 64 v_term_14), ((d0 1), aI cs 64 v_inDocuments_15), ((d0 2), aI cs 2560 v_times_16)]) → AW Γ k n9 92 [(0, .ref h0), (1, .int l1), (4, .int l4)] [] [(h0, oX1 d0 v_documents v_terms v_postings v_lengthOfAll), ((d0 0), aJ cs 64 v_term), ((d0 1), aI cs 64 v_inDocuments), ((d0 2), aI cs 2560 v_times)] := by
  intro n
  induction n with
  | zero =>
    intro v_terms v_term v_inDocuments v_times l1 l4 h
    exact False.elim h
  | succ n ih =>
    intro v_terms v_term v_inDocuments v_times l1 l4 h hK_118
    rw [L_X1_insertTerm_92] at h
    refine a_iload C (pc := 92) 2 dX1_insertTerm_92 rfl ?_
    refine a_bipush C (pc := 94) dX1_insertTerm_94 bp_40 ?_
    refine a_icmp_ge C (pc := 96) 118 dX1_insertTerm_96 (by decide) (fun hc => ?_) (fun hc => ?_)
    · have h := h.1 hc
      refine a_lv (lv1 := [(0, .ref h0)]) [0] rfl ?_
      exact hK_118 v_terms v_term v_inDocuments v_times h
    · have h := h.2 hc
      refine a_aload_n C (pc := 99) 0 dX1_insertTerm_99 rfl rfl ?_
      refine a_get C (pc := 100) 0 2 inW_X1 rfl rfl (Nat.le_of_ble_eq_true rfl) wF_X1_19 rfl rfl dX1_insertTerm_100 ?_
      refine a_iload_n C (pc := 103) 1 dX1_insertTerm_103 rfl rfl ?_
      refine a_bipush C (pc := 104) dX1_insertTerm_104 bp_40 ?_
      refine a_imul C (pc := 106) dX1_insertTerm_106 ?_
      refine a_iload C (pc := 107) 2 dX1_insertTerm_107 rfl ?_
      refine a_iadd C (pc := 109) dX1_insertTerm_109 ?_
      refine a_iconst C (pc := 110) dX1_insertTerm_110 ic_0 ?_
      refine a_iast C (pc := 111) (ws1 := [(h0, oX1 d0 v_documents v_terms v_postings v_lengthOfAll), ((d0 0), aJ cs 64 v_term), ((d0 1), aI cs 64 v_inDocuments), ((d0 2), aI cs 2560 (upd v_times ((l1 * 40) + l4 : Int32).toNatClampNeg 0))]) 3 rfl h.1 dX1_insertTerm_111 rfl ?_
      replace h := h.2
      refine a_iinc C (pc := 112) (lv1 := [(0, .ref h0), (1, .int l1), (4, .int (l4 + 1))]) 2 [1, 2, 0] dX1_insertTerm_112 rfl (congrArg (fun z => l4 + z) ic_1) (by decide) rfl ?_
      refine a_goto C (pc := 115) 92 dX1_insertTerm_115 (by decide) ?_
      exact ih v_terms v_term v_inDocuments (upd v_times ((l1 * 40) + l4 : Int32).toNatClampNeg 0) l1 (l4 + 1) h hK_118
set_option maxRecDepth 100000 in
set_option maxHeartbeats 4000000 in
theorem m_X1_insertTerm (Lx : Launch) (Dx : va_G) (cs : Nat → ClassId) (h0 : Nat) (d0 : Nat → Nat) (v_documents : Int32) (v_terms : Int32) (v_postings : Int32) (v_lengthOfAll : Int32) (v_term : Nat → Int64) (v_inDocuments : Nat → Int32) (v_times : Nat → Int32) (l1 : Int32) (l2 : Int64) (Φ : Int32 → (Nat → Int64) → (Nat → Int32) → (Nat → Int32) → Prop) (h : P_X1_insertTerm v_terms v_term v_inDocuments v_times l1 l2 Φ) : XMet Lx Dx cs yX1_insertTerm cX1_insertTerm 5 none 1 64 0 0 [.ref h0, .int l1, .long l2] [(h0, oX1 d0 v_documents v_terms v_postings v_lengthOfAll), ((d0 0), aJ cs 64 v_term), ((d0 1), aI cs 64 v_inDocuments), ((d0 2), aI cs 2560 v_times)] (R_X1_insertTerm cs h0 d0 v_documents v_postings v_lengthOfAll Φ) (fun _ _ => False) := by
  refine XMet.of (own := RX1) (nm := "insertTerm") (by decide) rfl rfl (Nat.le_of_ble_eq_true rfl) (fun Γ C => ?_)
  unfold P_X1_insertTerm at h
  refine a_aload_n C (pc := 0) 0 dX1_insertTerm_0 rfl rfl ?_
  refine a_get C (pc := 1) 0 7 inW_X1 rfl rfl (Nat.le_of_ble_eq_true rfl) wF_X1_36 rfl rfl dX1_insertTerm_1 ?_
  refine a_istore C (pc := 4) (lv1 := [(0, .ref h0), (1, .int l1), (2, .long l2), (4, .int v_terms)]) [1, 2, 3, 0] dX1_insertTerm_4 (by decide) rfl ?_
  obtain ⟨n0, h⟩ := h
  refine w_X1_insertTerm_6 C (Nat.le_of_ble_eq_true rfl) (Nat.le_of_ble_eq_true rfl) n0 v_terms v_term v_inDocuments v_times l1 l2 v_terms h ?_
  intro v_terms_7 v_term_8 v_inDocuments_9 v_times_10 l1_11 l2_12 h
  refine a_aload_n C (pc := 75) 0 dX1_insertTerm_75 rfl rfl ?_
  refine a_get C (pc := 76) 0 0 inW_X1 rfl rfl (Nat.le_of_ble_eq_true rfl) wF_X1_9 rfl rfl dX1_insertTerm_76 ?_
  refine a_iload_n C (pc := 79) 1 dX1_insertTerm_79 rfl rfl ?_
  refine a_lload_n C (pc := 80) 2 dX1_insertTerm_80 rfl rfl ?_
  refine a_last C (pc := 81) (ws1 := [(h0, oX1 d0 v_documents v_terms_7 v_postings v_lengthOfAll), ((d0 0), aJ cs 64 (vp_updL v_term_8 (l1_11 : Int32).toNatClampNeg l2_12)), ((d0 1), aI cs 64 v_inDocuments_9), ((d0 2), aI cs 2560 v_times_10)]) 1 rfl h.1 dX1_insertTerm_81 rfl ?_
  replace h := h.2
  refine a_aload_n C (pc := 82) 0 dX1_insertTerm_82 rfl rfl ?_
  refine a_get C (pc := 83) 0 1 inW_X1 rfl rfl (Nat.le_of_ble_eq_true rfl) wF_X1_15 rfl rfl dX1_insertTerm_83 ?_
  refine a_iload_n C (pc := 86) 1 dX1_insertTerm_86 rfl rfl ?_
  refine a_iconst C (pc := 87) dX1_insertTerm_87 ic_0 ?_
  refine a_iast C (pc := 88) (ws1 := [(h0, oX1 d0 v_documents v_terms_7 v_postings v_lengthOfAll), ((d0 0), aJ cs 64 (vp_updL v_term_8 (l1_11 : Int32).toNatClampNeg l2_12)), ((d0 1), aI cs 64 (upd v_inDocuments_9 (l1_11 : Int32).toNatClampNeg 0)), ((d0 2), aI cs 2560 v_times_10)]) 2 rfl h.1 dX1_insertTerm_88 rfl ?_
  replace h := h.2
  refine a_iconst C (pc := 89) dX1_insertTerm_89 ic_0 ?_
  refine a_istore C (pc := 90) (lv1 := [(0, .ref h0), (1, .int l1_11), (2, .long l2_12), (4, .int 0)]) [1, 2, 3, 0] dX1_insertTerm_90 (by decide) rfl ?_
  obtain ⟨n0, h⟩ := h
  refine a_lv (lv1 := [(0, .ref h0), (1, .int l1_11), (4, .int 0)]) [0, 1, 3] rfl ?_
  refine w_X1_insertTerm_92 C (Nat.le_of_ble_eq_true rfl) (Nat.le_of_ble_eq_true rfl) n0 v_terms_7 (vp_updL v_term_8 (l1_11 : Int32).toNatClampNeg l2_12) (upd v_inDocuments_9 (l1_11 : Int32).toNatClampNeg 0) v_times_10 l1_11 0 h ?_
  intro v_terms_17 v_term_18 v_inDocuments_19 v_times_20 h
  refine a_aload_n C (pc := 118) 0 dX1_insertTerm_118 rfl rfl ?_
  refine a_dup C (pc := 119) dX1_insertTerm_119 rfl ?_
  refine a_get C (pc := 120) 0 7 inW_X1 rfl rfl (Nat.le_of_ble_eq_true rfl) wF_X1_36 rfl rfl dX1_insertTerm_120 ?_
  refine a_iconst C (pc := 123) dX1_insertTerm_123 ic_1 ?_
  refine a_iadd C (pc := 124) dX1_insertTerm_124 ?_
  refine a_put C (pc := 125) (ws1 := [(h0, oX1 d0 v_documents (v_terms_17 + 1) v_postings v_lengthOfAll), ((d0 0), aJ cs 64 v_term_18), ((d0 1), aI cs 64 v_inDocuments_19), ((d0 2), aI cs 2560 v_times_20)]) 0 7 inW_X1 tyX1 tyX1_ok nmX1 rfl rfl (Nat.le_of_ble_eq_true rfl) wF_X1_36 rfl rfl rfl rfl rfl (Nat.le_of_ble_eq_true rfl) dX1_insertTerm_125 rfl ?_
  exact a_return C (pc := 128) rfl dX1_insertTerm_128 (Nat.le_of_ble_eq_true rfl) (Nat.le_of_ble_eq_true rfl) ⟨_, _, _, _, rfl, rfl, h⟩
set_option maxRecDepth 100000 in
set_option maxHeartbeats 4000000 in
theorem w_X1_append_46 {Γ : XG} {Lx : Launch} {Dx : va_G} {cs : Nat → ClassId} {h0 : Nat} {h1 : Nat} {d1 : Nat → Nat} {d0 : Nat → Nat} {v_a1_distinct : Int32} {v_a1_total : Int32} {v_a1_term : Nat → Int64} {v_a1_times : Nat → Int32} {B_2 : Int32 → Int32 → Int32 → Int32 → (Nat → Int64) → (Nat → Int32) → (Nat → Int32) → (Nat → Int32) → Int32 → Prop} {K_82 : Int32 → Int32 → Int32 → Int32 → (Nat → Int64) → (Nat → Int32) → (Nat → Int32) → (Nat → Int32) → Prop} {Φ : Int32 → Int32 → Int32 → Int32 → Int32 → (Nat → Int64) → (Nat → Int32) → (Nat → Int32) → (Nat → Int32) → Prop} {k n9 : Nat} (C : CX Γ Lx Dx cs cX1_append RX1 "append" 4 (some .int) 2 88 0 0 (qEC cs 0 0 [] (R_X1_append cs h0 h1 d1 d0 v_a1_distinct v_a1_total v_a1_term v_a1_times Φ) (fun _ _ => False))) (hkm : k ≤ 0) (hnm : n9 ≤ 0) (v_documents : Int32) (v_terms : Int32) (v_postings : Int32) (v_lengthOfAll : Int32) (v_term : Nat → Int64) (v_inDocuments : Nat → Int32) (v_times : Nat → Int32) (v_length : Nat → Int32) (l2 : Int32) (l3 : Int32) (h : J_X1_append_46 v_a1_distinct v_a1_total v_a1_term v_documents v_terms v_postings v_lengthOfAll v_term v_inDocuments v_times v_a1_times v_length l2 l3 B_2 K_82 Φ) (hB_2 : ∀ (v_documents_3 : Int32) (v_terms_4 : Int32) (v_postings_5 : Int32) (v_lengthOfAll_6 : Int32) (v_term_7 : Nat → Int64) (v_inDocuments_8 : Nat → Int32) (v_times_9 : Nat → Int32) (v_length_10 : Nat → Int32) (l2_11 : Int32), B_2 v_documents_3 v_terms_4 v_postings_5 v_lengthOfAll_6 v_term_7 v_inDocuments_8 v_times_9 v_length_10 l2_11 → AW Γ k n9 2 [(0, .ref h0), (1, .ref h1), (2, .int l2_11)] [] [(h1, oX7 d1 v_a1_distinct v_a1_total), ((d1 0), aJ cs 1500 v_a1_term), (h0, oX1 d0 v_documents_3 v_terms_4 v_postings_5 v_lengthOfAll_6), ((d0 0), aJ cs 64 v_term_7), ((d0 1), aI cs 64 v_inDocuments_8), ((d0 2), aI cs 2560 v_times_9), ((d1 1), aI cs 1500 v_a1_times), ((d0 5), aI cs 40 v_length_10)]) (hK_82 : ∀ (v_documents_12 : Int32) (v_terms_13 : Int32) (v_postings_14 : Int32) (v_lengthOfAll_15 : Int32) (v_term_16 : Nat → Int64) (v_inDocuments_17 : Nat → Int32) (v_times_18 : Nat → Int32) (v_length_19 : Nat → Int32), K_82 v_documents_12 v_terms_13 v_postings_14 v_lengthOfAll_15 v_term_16 v_inDocuments_17 v_times_18 v_length_19 → AW Γ k n9 82 [(0, .ref h0), (1, .ref h1)] [] [(h1, oX7 d1 v_a1_distinct v_a1_total), ((d1 0), aJ cs 1500 v_a1_term), (h0, oX1 d0 v_documents_12 v_terms_13 v_postings_14 v_lengthOfAll_15), ((d0 0), aJ cs 64 v_term_16), ((d0 1), aI cs 64 v_inDocuments_17), ((d0 2), aI cs 2560 v_times_18), ((d1 1), aI cs 1500 v_a1_times), ((d0 5), aI cs 40 v_length_19)]) : AW Γ k n9 46 [(0, .ref h0), (1, .ref h1), (2, .int l2), (3, .int l3)] [] [(h1, oX7 d1 v_a1_distinct v_a1_total), ((d1 0), aJ cs 1500 v_a1_term), (h0, oX1 d0 v_documents v_terms v_postings v_lengthOfAll), ((d0 0), aJ cs 64 v_term), ((d0 1), aI cs 64 v_inDocuments), ((d0 2), aI cs 2560 v_times), ((d1 1), aI cs 1500 v_a1_times), ((d0 5), aI cs 40 v_length)] := by
  unfold J_X1_append_46 at h
  refine a_aload_n C (pc := 46) 0 dX1_append_46 rfl rfl ?_
  refine a_get C (pc := 47) 2 2 inW_X1 rfl rfl (Nat.le_of_ble_eq_true rfl) wF_X1_19 rfl rfl dX1_append_47 ?_
  refine a_iload_n C (pc := 50) 3 dX1_append_50 rfl rfl ?_
  refine a_bipush C (pc := 51) dX1_append_51 bp_40 ?_
  refine a_imul C (pc := 53) dX1_append_53 ?_
  refine a_aload_n C (pc := 54) 0 dX1_append_54 rfl rfl ?_
  refine a_get C (pc := 55) 2 6 inW_X1 rfl rfl (Nat.le_of_ble_eq_true rfl) wF_X1_32 rfl rfl dX1_append_55 ?_
  refine a_iadd C (pc := 58) dX1_append_58 ?_
  refine a_aload_n C (pc := 59) 1 dX1_append_59 rfl rfl ?_
  refine a_get C (pc := 60) 0 1 inW_X7 rfl rfl (Nat.le_of_ble_eq_true rfl) wF_X1_63 rfl rfl dX1_append_60 ?_
  refine a_iload_n C (pc := 63) 2 dX1_append_63 rfl rfl ?_
  refine a_iald C (pc := 64) 6 rfl h.1 dX1_append_64 ?_
  replace h := h.2
  refine a_iast C (pc := 65) (ws1 := [(h1, oX7 d1 v_a1_distinct v_a1_total), ((d1 0), aJ cs 1500 v_a1_term), (h0, oX1 d0 v_documents v_terms v_postings v_lengthOfAll), ((d0 0), aJ cs 64 v_term), ((d0 1), aI cs 64 v_inDocuments), ((d0 2), aI cs 2560 (upd v_times ((l3 * 40) + v_documents : Int32).toNatClampNeg (v_a1_times (l2 : Int32).toNatClampNeg))), ((d1 1), aI cs 1500 v_a1_times), ((d0 5), aI cs 40 v_length)]) 5 rfl h.1 dX1_append_65 rfl ?_
  replace h := h.2
  refine a_aload_n C (pc := 66) 0 dX1_append_66 rfl rfl ?_
  refine a_get C (pc := 67) 2 1 inW_X1 rfl rfl (Nat.le_of_ble_eq_true rfl) wF_X1_15 rfl rfl dX1_append_67 ?_
  refine a_iload_n C (pc := 70) 3 dX1_append_70 rfl rfl ?_
  refine a_dup2 C (pc := 71) dX1_append_71 rfl rfl ?_
  refine a_iald C (pc := 72) 4 rfl h.1 dX1_append_72 ?_
  replace h := h.2
  refine a_iconst C (pc := 73) dX1_append_73 ic_1 ?_
  refine a_iadd C (pc := 74) dX1_append_74 ?_
  refine a_iast C (pc := 75) (ws1 := [(h1, oX7 d1 v_a1_distinct v_a1_total), ((d1 0), aJ cs 1500 v_a1_term), (h0, oX1 d0 v_documents v_terms v_postings v_lengthOfAll), ((d0 0), aJ cs 64 v_term), ((d0 1), aI cs 64 (upd v_inDocuments (l3 : Int32).toNatClampNeg ((v_inDocuments (l3 : Int32).toNatClampNeg) + 1))), ((d0 2), aI cs 2560 (upd v_times ((l3 * 40) + v_documents : Int32).toNatClampNeg (v_a1_times (l2 : Int32).toNatClampNeg))), ((d1 1), aI cs 1500 v_a1_times), ((d0 5), aI cs 40 v_length)]) 4 rfl h.1 dX1_append_75 rfl ?_
  replace h := h.2
  refine a_iinc C (pc := 76) (lv1 := [(0, .ref h0), (1, .ref h1), (2, .int (l2 + 1)), (3, .int l3)]) 2 [1, 2, 0, 3] dX1_append_76 rfl (congrArg (fun z => l2 + z) ic_1) (by decide) rfl ?_
  refine a_goto C (pc := 79) 2 dX1_append_79 (by decide) ?_
  refine a_lv (lv1 := [(0, .ref h0), (1, .ref h1), (2, .int (l2 + 1))]) [0, 1, 2] rfl ?_
  exact hB_2 v_documents v_terms v_postings v_lengthOfAll v_term (upd v_inDocuments (l3 : Int32).toNatClampNeg ((v_inDocuments (l3 : Int32).toNatClampNeg) + 1)) (upd v_times ((l3 * 40) + v_documents : Int32).toNatClampNeg (v_a1_times (l2 : Int32).toNatClampNeg)) v_length (l2 + 1) h
set_option maxRecDepth 100000 in
set_option maxHeartbeats 4000000 in
theorem w_X1_append_2 {Γ : XG} {Lx : Launch} {Dx : va_G} {cs : Nat → ClassId} {h0 : Nat} {h1 : Nat} {d1 : Nat → Nat} {d0 : Nat → Nat} {v_a1_distinct : Int32} {v_a1_total : Int32} {v_a1_term : Nat → Int64} {v_a1_times : Nat → Int32} {K_82 : Int32 → Int32 → Int32 → Int32 → (Nat → Int64) → (Nat → Int32) → (Nat → Int32) → (Nat → Int32) → Prop} {Φ : Int32 → Int32 → Int32 → Int32 → Int32 → (Nat → Int64) → (Nat → Int32) → (Nat → Int32) → (Nat → Int32) → Prop} {k n9 : Nat} (C : CX Γ Lx Dx cs cX1_append RX1 "append" 4 (some .int) 2 88 0 0 (qEC cs 0 0 [] (R_X1_append cs h0 h1 d1 d0 v_a1_distinct v_a1_total v_a1_term v_a1_times Φ) (fun _ _ => False))) (hkm : k ≤ 0) (hnm : n9 ≤ 0) : ∀ n : Nat, ∀ (v_documents : Int32) (v_terms : Int32) (v_postings : Int32) (v_lengthOfAll : Int32) (v_term : Nat → Int64) (v_inDocuments : Nat → Int32) (v_times : Nat → Int32) (v_length : Nat → Int32) (l2 : Int32), L_X1_append_2 n v_a1_distinct v_a1_total v_a1_term v_documents v_terms v_postings v_lengthOfAll v_term v_inDocuments v_times v_a1_times v_length l2 K_82 Φ → (∀ (v_documents_60 : Int32) (v_terms_61 : Int32) (v_postings_62 : Int32) (v_lengthOfAll_63 : Int32) (v_term_64 : Nat → Int64) (v_inDocuments_65 : Nat → Int32) (v_times_66 : Nat → Int32) (v_length_67 : Nat → Int32), K_82 v_documents_60 v_terms_61 v_postings_62 v_lengthOfAll_63 v_term_64 v_inDocuments_65 v_times_66 v_length_67 → AW Γ k n9 82 [(0, .ref h0), (1, .ref h1)] [] [(h1, oX7 d1 v_a1_distinct v_a1_total), ((d1 0), aJ cs 1500 v_a1_term), (h0, oX1 d0 v_documents_60 v_terms_61 v_postings_62 v_lengthOfAll_63), ((d0 0), aJ cs 64 v_term_64), ((d0 1), aI cs 64 v_inDocuments_65), ((d0 2), aI cs 2560 v_times_66), ((d1 1), aI cs 1500 v_a1_times), ((d0 5), aI cs 40 v_length_67)]) → AW Γ k n9 2 [(0, .ref h0), (1, .ref h1), (2, .int l2)] [] [(h1, oX7 d1 v_a1_distinct v_a1_total), ((d1 0), aJ cs 1500 v_a1_term), (h0, oX1 d0 v_documents v_terms v_postings v_lengthOfAll), ((d0 0), aJ cs 64 v_term), ((d0 1), aI cs 64 v_inDocuments), ((d0 2), aI cs 2560 v_times), ((d1 1), aI cs 1500 v_a1_times), ((d0 5), aI cs 40 v_length)] := by
  intro n
  induction n with
  | zero =>
    intro v_documents v_terms v_postings v_lengthOfAll v_term v_inDocuments v_times v_length l2 h
    exact False.elim h
  | succ n ih =>
    intro v_documents v_terms v_postings v_lengthOfAll v_term v_inDocuments v_times v_length l2 h hK_82
    rw [L_X1_append_2] at h
    refine a_iload_n C (pc := 2) 2 dX1_append_2 rfl rfl ?_
    refine a_aload_n C (pc := 3) 1 dX1_append_3 rfl rfl ?_
    refine a_get C (pc := 4) 0 2 inW_X7 rfl rfl (Nat.le_of_ble_eq_true rfl) wF_X1_45 rfl rfl dX1_append_4 ?_
    refine a_icmp_ge C (pc := 7) 82 dX1_append_7 (by decide) (fun hc => ?_) (fun hc => ?_)
    · have h := h.1 hc
      refine a_lv (lv1 := [(0, .ref h0), (1, .ref h1)]) [0, 1] rfl ?_
      exact hK_82 v_documents v_terms v_postings v_lengthOfAll v_term v_inDocuments v_times v_length h
    · have h := h.2 hc
      refine a_aload_n C (pc := 10) 0 dX1_append_10 rfl rfl ?_
      refine a_aload_n C (pc := 11) 1 dX1_append_11 rfl rfl ?_
      refine a_get C (pc := 12) 0 0 inW_X7 rfl rfl (Nat.le_of_ble_eq_true rfl) wF_X1_50 rfl rfl dX1_append_12 ?_
      refine a_iload_n C (pc := 15) 2 dX1_append_15 rfl rfl ?_
      refine a_lald C (pc := 16) 1 rfl h.1 dX1_append_16 ?_
      replace h := h.2
      refine a_callV C (pc := 17) (av := [.long (v_a1_term (l2 : Int32).toNatClampNeg)]) (wr := [(h1, oX7 d1 v_a1_distinct v_a1_total), ((d1 0), aJ cs 1500 v_a1_term), ((d0 1), aI cs 64 v_inDocuments), ((d0 2), aI cs 2560 v_times), ((d1 1), aI cs 1500 v_a1_times), ((d0 5), aI cs 40 v_length)]) (m_X1_placeOf Lx Dx cs h0 d0 v_documents v_terms v_postings v_lengthOfAll v_term (v_a1_term (l2 : Int32).toNatClampNeg) _ h) [2, 3] [0, 1, 4, 5, 6, 7] rfl rfl (by decide) (by decide) (by decide) wM_X1_51 wb_X1_placeOf hy_X1_placeOf (q0 := 2) rfl rfl rfl ⟨Nat.le_of_ble_eq_true rfl, Nat.le_of_ble_eq_true rfl⟩ (Nat.le_of_ble_eq_true rfl) hkm hnm rfl dX1_append_17 (fun v w1 hw => ?_) [] rfl (fun _ _ h => h.elim)
      obtain ⟨r_1, rfl, rfl, h⟩ := hw
      refine a_ws (st1 := [.int r_1]) (ws1 := [(h1, oX7 d1 v_a1_distinct v_a1_total), ((d1 0), aJ cs 1500 v_a1_term), (h0, oX1 d0 v_documents v_terms v_postings v_lengthOfAll), ((d0 0), aJ cs 64 v_term), ((d0 1), aI cs 64 v_inDocuments), ((d0 2), aI cs 2560 v_times), ((d1 1), aI cs 1500 v_a1_times), ((d0 5), aI cs 40 v_length)]) k n9 20 [0, 1, 6, 7, 2, 3, 4, 5] rfl rfl rfl rfl (by decide) rfl ?_
      refine a_istore_n C (pc := 20) (lv1 := [(0, .ref h0), (1, .ref h1), (2, .int l2), (3, .int r_1)]) [1, 2, 3, 0] dX1_append_20 rfl (by decide) rfl ?_
      refine a_aload_n C (pc := 21) 0 dX1_append_21 rfl rfl ?_
      refine a_iload_n C (pc := 22) 3 dX1_append_22 rfl rfl ?_
      refine a_aload_n C (pc := 23) 1 dX1_append_23 rfl rfl ?_
      refine a_get C (pc := 24) 0 0 inW_X7 rfl rfl (Nat.le_of_ble_eq_true rfl) wF_X1_50 rfl rfl dX1_append_24 ?_
      refine a_iload_n C (pc := 27) 2 dX1_append_27 rfl rfl ?_
      refine a_lald C (pc := 28) 1 rfl h.1 dX1_append_28 ?_
      replace h := h.2
      refine a_callV C (pc := 29) (av := [.int r_1, .long (v_a1_term (l2 : Int32).toNatClampNeg)]) (wr := [(h1, oX7 d1 v_a1_distinct v_a1_total), ((d1 0), aJ cs 1500 v_a1_term), ((d0 1), aI cs 64 v_inDocuments), ((d0 2), aI cs 2560 v_times), ((d1 1), aI cs 1500 v_a1_times), ((d0 5), aI cs 40 v_length)]) (m_X1_hasTermAt Lx Dx cs h0 d0 v_documents v_terms v_postings v_lengthOfAll v_term r_1 (v_a1_term (l2 : Int32).toNatClampNeg) _ h) [2, 3] [0, 1, 4, 5, 6, 7] rfl rfl (by decide) (by decide) (by decide) wM_X1_55 wb_X1_hasTermAt hy_X1_hasTermAt (q0 := 2) rfl rfl rfl ⟨Nat.le_of_ble_eq_true rfl, Nat.le_of_ble_eq_true rfl⟩ (Nat.le_of_ble_eq_true rfl) hkm hnm rfl dX1_append_29 (fun v w1 hw => ?_) [] rfl (fun _ _ h => h.elim)
      obtain ⟨r_2, rfl, rfl, h⟩ := hw
      refine a_ws (st1 := [.int r_2]) (ws1 := [(h1, oX7 d1 v_a1_distinct v_a1_total), ((d1 0), aJ cs 1500 v_a1_term), (h0, oX1 d0 v_documents v_terms v_postings v_lengthOfAll), ((d0 0), aJ cs 64 v_term), ((d0 1), aI cs 64 v_inDocuments), ((d0 2), aI cs 2560 v_times), ((d1 1), aI cs 1500 v_a1_times), ((d0 5), aI cs 40 v_length)]) k n9 32 [0, 1, 6, 7, 2, 3, 4, 5] rfl rfl rfl rfl (by decide) rfl ?_
      refine a_if_ne C (pc := 32) 46 dX1_append_32 (by decide) (fun hc => ?_) (fun hc => ?_)
      · have h := h.1 hc
        exact w_X1_append_46 C hkm hnm v_documents v_terms v_postings v_lengthOfAll v_term v_inDocuments v_times v_length l2 r_1 h (fun v_documents_29 v_terms_30 v_postings_31 v_lengthOfAll_32 v_term_33 v_inDocuments_34 v_times_35 v_length_36 l2_37 h => ih v_documents_29 v_terms_30 v_postings_31 v_lengthOfAll_32 v_term_33 v_inDocuments_34 v_times_35 v_length_36 l2_37 h hK_82) hK_82
      · have h := h.2 hc
        refine a_aload_n C (pc := 35) 0 dX1_append_35 rfl rfl ?_
        refine a_iload_n C (pc := 36) 3 dX1_append_36 rfl rfl ?_
        refine a_aload_n C (pc := 37) 1 dX1_append_37 rfl rfl ?_
        refine a_get C (pc := 38) 0 0 inW_X7 rfl rfl (Nat.le_of_ble_eq_true rfl) wF_X1_50 rfl rfl dX1_append_38 ?_
        refine a_iload_n C (pc := 41) 2 dX1_append_41 rfl rfl ?_
        refine a_lald C (pc := 42) 1 rfl h.1 dX1_append_42 ?_
        replace h := h.2
        refine a_callV C (pc := 43) (av := [.int r_1, .long (v_a1_term (l2 : Int32).toNatClampNeg)]) (wr := [(h1, oX7 d1 v_a1_distinct v_a1_total), ((d1 0), aJ cs 1500 v_a1_term), ((d1 1), aI cs 1500 v_a1_times), ((d0 5), aI cs 40 v_length)]) (m_X1_insertTerm Lx Dx cs h0 d0 v_documents v_terms v_postings v_lengthOfAll v_term v_inDocuments v_times r_1 (v_a1_term (l2 : Int32).toNatClampNeg) _ h) [2, 3, 4, 5] [0, 1, 6, 7] rfl rfl (by decide) (by decide) (by decide) wM_X1_59 wb_X1_insertTerm hy_X1_insertTerm (q0 := 2) rfl rfl rfl ⟨Nat.le_of_ble_eq_true rfl, Nat.le_of_ble_eq_true rfl⟩ (Nat.le_of_ble_eq_true rfl) hkm hnm rfl dX1_append_43 (fun v w1 hw => ?_) [] rfl (fun _ _ h => h.elim)
        obtain ⟨v_terms_38, v_term_39, v_inDocuments_40, v_times_41, rfl, rfl, h⟩ := hw
        refine a_ws (st1 := []) (ws1 := [(h1, oX7 d1 v_a1_distinct v_a1_total), ((d1 0), aJ cs 1500 v_a1_term), (h0, oX1 d0 v_documents v_terms_38 v_postings v_lengthOfAll), ((d0 0), aJ cs 64 v_term_39), ((d0 1), aI cs 64 v_inDocuments_40), ((d0 2), aI cs 2560 v_times_41), ((d1 1), aI cs 1500 v_a1_times), ((d0 5), aI cs 40 v_length)]) k n9 46 [0, 1, 4, 5, 6, 7, 2, 3] rfl rfl rfl rfl (by decide) rfl ?_
        exact w_X1_append_46 C hkm hnm v_documents v_terms_38 v_postings v_lengthOfAll v_term_39 v_inDocuments_40 v_times_41 v_length l2 r_1 h (fun v_documents_51 v_terms_52 v_postings_53 v_lengthOfAll_54 v_term_55 v_inDocuments_56 v_times_57 v_length_58 l2_59 h => ih v_documents_51 v_terms_52 v_postings_53 v_lengthOfAll_54 v_term_55 v_inDocuments_56 v_times_57 v_length_58 l2_59 h hK_82) hK_82
set_option maxRecDepth 100000 in
set_option maxHeartbeats 4000000 in
theorem m_X1_append (Lx : Launch) (Dx : va_G) (cs : Nat → ClassId) (h0 : Nat) (h1 : Nat) (d1 : Nat → Nat) (d0 : Nat → Nat) (v_a1_distinct : Int32) (v_a1_total : Int32) (v_a1_term : Nat → Int64) (v_documents : Int32) (v_terms : Int32) (v_postings : Int32) (v_lengthOfAll : Int32) (v_term : Nat → Int64) (v_inDocuments : Nat → Int32) (v_times : Nat → Int32) (v_a1_times : Nat → Int32) (v_length : Nat → Int32) (Φ : Int32 → Int32 → Int32 → Int32 → Int32 → (Nat → Int64) → (Nat → Int32) → (Nat → Int32) → (Nat → Int32) → Prop) (h : P_X1_append v_a1_distinct v_a1_total v_a1_term v_documents v_terms v_postings v_lengthOfAll v_term v_inDocuments v_times v_a1_times v_length Φ) : XMet Lx Dx cs yX1_append cX1_append 4 (some .int) 2 88 0 0 [.ref h0, .ref h1] [(h1, oX7 d1 v_a1_distinct v_a1_total), ((d1 0), aJ cs 1500 v_a1_term), (h0, oX1 d0 v_documents v_terms v_postings v_lengthOfAll), ((d0 0), aJ cs 64 v_term), ((d0 1), aI cs 64 v_inDocuments), ((d0 2), aI cs 2560 v_times), ((d1 1), aI cs 1500 v_a1_times), ((d0 5), aI cs 40 v_length)] (R_X1_append cs h0 h1 d1 d0 v_a1_distinct v_a1_total v_a1_term v_a1_times Φ) (fun _ _ => False) := by
  refine XMet.of (own := RX1) (nm := "append") (by decide) rfl rfl (Nat.le_of_ble_eq_true rfl) (fun Γ C => ?_)
  unfold P_X1_append at h
  refine a_iconst C (pc := 0) dX1_append_0 ic_0 ?_
  refine a_istore_n C (pc := 1) (lv1 := [(0, .ref h0), (1, .ref h1), (2, .int 0)]) [1, 2, 0] dX1_append_1 rfl (by decide) rfl ?_
  obtain ⟨n0, h⟩ := h
  refine w_X1_append_2 C (Nat.le_of_ble_eq_true rfl) (Nat.le_of_ble_eq_true rfl) n0 v_documents v_terms v_postings v_lengthOfAll v_term v_inDocuments v_times v_length 0 h ?_
  intro v_documents_68 v_terms_69 v_postings_70 v_lengthOfAll_71 v_term_72 v_inDocuments_73 v_times_74 v_length_75 h
  refine a_aload_n C (pc := 82) 0 dX1_append_82 rfl rfl ?_
  refine a_dup C (pc := 83) dX1_append_83 rfl ?_
  refine a_get C (pc := 84) 2 8 inW_X1 rfl rfl (Nat.le_of_ble_eq_true rfl) wF_X1_39 rfl rfl dX1_append_84 ?_
  refine a_aload_n C (pc := 87) 1 dX1_append_87 rfl rfl ?_
  refine a_get C (pc := 88) 0 2 inW_X7 rfl rfl (Nat.le_of_ble_eq_true rfl) wF_X1_45 rfl rfl dX1_append_88 ?_
  refine a_iadd C (pc := 91) dX1_append_91 ?_
  refine a_put C (pc := 92) (ws1 := [(h1, oX7 d1 v_a1_distinct v_a1_total), ((d1 0), aJ cs 1500 v_a1_term), (h0, oX1 d0 v_documents_68 v_terms_69 (v_postings_70 + v_a1_distinct) v_lengthOfAll_71), ((d0 0), aJ cs 64 v_term_72), ((d0 1), aI cs 64 v_inDocuments_73), ((d0 2), aI cs 2560 v_times_74), ((d1 1), aI cs 1500 v_a1_times), ((d0 5), aI cs 40 v_length_75)]) 2 8 inW_X1 tyX1 tyX1_ok nmX1 rfl rfl (Nat.le_of_ble_eq_true rfl) wF_X1_39 rfl rfl rfl rfl rfl (Nat.le_of_ble_eq_true rfl) dX1_append_92 rfl ?_
  refine a_aload_n C (pc := 95) 0 dX1_append_95 rfl rfl ?_
  refine a_get C (pc := 96) 2 5 inW_X1 rfl rfl (Nat.le_of_ble_eq_true rfl) wF_X1_29 rfl rfl dX1_append_96 ?_
  refine a_aload_n C (pc := 99) 0 dX1_append_99 rfl rfl ?_
  refine a_get C (pc := 100) 2 6 inW_X1 rfl rfl (Nat.le_of_ble_eq_true rfl) wF_X1_32 rfl rfl dX1_append_100 ?_
  refine a_aload_n C (pc := 103) 1 dX1_append_103 rfl rfl ?_
  refine a_get C (pc := 104) 0 3 inW_X7 rfl rfl (Nat.le_of_ble_eq_true rfl) wF_X1_64 rfl rfl dX1_append_104 ?_
  refine a_iast C (pc := 107) (ws1 := [(h1, oX7 d1 v_a1_distinct v_a1_total), ((d1 0), aJ cs 1500 v_a1_term), (h0, oX1 d0 v_documents_68 v_terms_69 (v_postings_70 + v_a1_distinct) v_lengthOfAll_71), ((d0 0), aJ cs 64 v_term_72), ((d0 1), aI cs 64 v_inDocuments_73), ((d0 2), aI cs 2560 v_times_74), ((d1 1), aI cs 1500 v_a1_times), ((d0 5), aI cs 40 (upd v_length_75 (v_documents_68 : Int32).toNatClampNeg v_a1_total))]) 7 rfl h.1 dX1_append_107 rfl ?_
  replace h := h.2
  refine a_aload_n C (pc := 108) 0 dX1_append_108 rfl rfl ?_
  refine a_dup C (pc := 109) dX1_append_109 rfl ?_
  refine a_get C (pc := 110) 2 9 inW_X1 rfl rfl (Nat.le_of_ble_eq_true rfl) wF_X1_42 rfl rfl dX1_append_110 ?_
  refine a_aload_n C (pc := 113) 1 dX1_append_113 rfl rfl ?_
  refine a_get C (pc := 114) 0 3 inW_X7 rfl rfl (Nat.le_of_ble_eq_true rfl) wF_X1_64 rfl rfl dX1_append_114 ?_
  refine a_iadd C (pc := 117) dX1_append_117 ?_
  refine a_put C (pc := 118) (ws1 := [(h1, oX7 d1 v_a1_distinct v_a1_total), ((d1 0), aJ cs 1500 v_a1_term), (h0, oX1 d0 v_documents_68 v_terms_69 (v_postings_70 + v_a1_distinct) (v_lengthOfAll_71 + v_a1_total)), ((d0 0), aJ cs 64 v_term_72), ((d0 1), aI cs 64 v_inDocuments_73), ((d0 2), aI cs 2560 v_times_74), ((d1 1), aI cs 1500 v_a1_times), ((d0 5), aI cs 40 (upd v_length_75 (v_documents_68 : Int32).toNatClampNeg v_a1_total))]) 2 9 inW_X1 tyX1 tyX1_ok nmX1 rfl rfl (Nat.le_of_ble_eq_true rfl) wF_X1_42 rfl rfl rfl rfl rfl (Nat.le_of_ble_eq_true rfl) dX1_append_118 rfl ?_
  refine a_aload_n C (pc := 121) 0 dX1_append_121 rfl rfl ?_
  refine a_dup C (pc := 122) dX1_append_122 rfl ?_
  refine a_get C (pc := 123) 2 6 inW_X1 rfl rfl (Nat.le_of_ble_eq_true rfl) wF_X1_32 rfl rfl dX1_append_123 ?_
  refine a_iconst C (pc := 126) dX1_append_126 ic_1 ?_
  refine a_iadd C (pc := 127) dX1_append_127 ?_
  refine a_put C (pc := 128) (ws1 := [(h1, oX7 d1 v_a1_distinct v_a1_total), ((d1 0), aJ cs 1500 v_a1_term), (h0, oX1 d0 (v_documents_68 + 1) v_terms_69 (v_postings_70 + v_a1_distinct) (v_lengthOfAll_71 + v_a1_total)), ((d0 0), aJ cs 64 v_term_72), ((d0 1), aI cs 64 v_inDocuments_73), ((d0 2), aI cs 2560 v_times_74), ((d1 1), aI cs 1500 v_a1_times), ((d0 5), aI cs 40 (upd v_length_75 (v_documents_68 : Int32).toNatClampNeg v_a1_total))]) 2 6 inW_X1 tyX1 tyX1_ok nmX1 rfl rfl (Nat.le_of_ble_eq_true rfl) wF_X1_32 rfl rfl rfl rfl rfl (Nat.le_of_ble_eq_true rfl) dX1_append_128 rfl ?_
  refine a_aload_n C (pc := 131) 0 dX1_append_131 rfl rfl ?_
  refine a_get C (pc := 132) 2 6 inW_X1 rfl rfl (Nat.le_of_ble_eq_true rfl) wF_X1_32 rfl rfl dX1_append_132 ?_
  refine a_iconst C (pc := 135) dX1_append_135 ic_1 ?_
  refine a_isub C (pc := 136) dX1_append_136 ?_
  exact a_ireturn C (pc := 137) rfl dX1_append_137 (Nat.le_of_ble_eq_true rfl) (Nat.le_of_ble_eq_true rfl) ⟨_, _, _, _, _, _, _, _, _, rfl, rfl, h⟩
set_option maxRecDepth 100000 in
set_option maxHeartbeats 4000000 in
theorem m_X8_add (Lx : Launch) (Dx : va_G) (cs : Nat → ClassId) (h0 : Nat) (hdr : Nat) (d0 : Nat → Nat) (d_words : Nat → Nat) (d_tape : Nat → Nat) (d_collection : Nat → Nat) (v_ticks : Int64) (v_words_distinct : Int32) (v_words_total : Int32) (v_tape_size : Int32) (v_tape_place : Int32) (v_tape_row : Nat → Int32) (v_words_term : Nat → Int64) (v_words_times : Nat → Int32) (v_collection_documents : Int32) (v_collection_terms : Int32) (v_collection_postings : Int32) (v_collection_lengthOfAll : Int32) (v_collection_term : Nat → Int64) (v_collection_inDocuments : Nat → Int32) (v_collection_times : Nat → Int32) (v_collection_length : Nat → Int32) (Φ : Int32 → Int32 → Int32 → Int32 → (Nat → Int64) → (Nat → Int32) → Int32 → Int32 → Int32 → Int32 → (Nat → Int64) → (Nat → Int32) → (Nat → Int32) → (Nat → Int32) → Prop) (X : String → Int32 → Int32 → Int32 → (Nat → Int64) → (Nat → Int32) → Int32 → Int32 → Int32 → Int32 → (Nat → Int64) → (Nat → Int32) → (Nat → Int32) → (Nat → Int32) → Prop) (h : P_X8_add v_words_distinct v_words_total v_tape_size v_tape_row v_words_term v_words_times v_collection_documents v_collection_terms v_collection_postings v_collection_lengthOfAll v_collection_term v_collection_inDocuments v_collection_times v_collection_length Φ X) : XMet Lx Dx cs yX8_add cX8_add 1 (some .int) 6 117 1 6 [.ref h0] [(h0, oX8 d0 hdr v_ticks), ((d0 1), oX7 d_words v_words_distinct v_words_total), ((d0 0), oX0 d_tape v_tape_size v_tape_place), ((d_tape 0), aB cs 3000 v_tape_row), ((d_words 0), aJ cs 1500 v_words_term), ((d_words 1), aI cs 1500 v_words_times), ((d0 2), oX1 d_collection v_collection_documents v_collection_terms v_collection_postings v_collection_lengthOfAll), ((d_collection 0), aJ cs 64 v_collection_term), ((d_collection 1), aI cs 64 v_collection_inDocuments), ((d_collection 2), aI cs 2560 v_collection_times), ((d_collection 5), aI cs 40 v_collection_length)] (R_X8_add cs h0 hdr d0 d_words d_tape d_collection v_ticks v_tape_place v_tape_row Φ) (Y_X8_add cs h0 hdr d0 d_words d_tape d_collection v_ticks v_tape_place v_tape_row X) := by
  refine XMet.of (own := RX8) (nm := "add") (by decide) rfl rfl (Nat.le_of_ble_eq_true rfl) (fun Γ C => ?_)
  unfold P_X8_add at h
  refine a_aload_n C (pc := 0) 0 dX8_add_0 rfl rfl ?_
  refine a_callV C (pc := 1) (av := []) (wr := [((d0 2), oX1 d_collection v_collection_documents v_collection_terms v_collection_postings v_collection_lengthOfAll), ((d_collection 0), aJ cs 64 v_collection_term), ((d_collection 1), aI cs 64 v_collection_inDocuments), ((d_collection 2), aI cs 2560 v_collection_times), ((d_collection 5), aI cs 40 v_collection_length)]) (m_X8_readTape Lx Dx cs h0 hdr d0 d_words d_tape v_ticks v_words_distinct v_words_total v_tape_size v_tape_place v_tape_row v_words_term v_words_times _ h) [0, 1, 2, 3, 4, 5] [6, 7, 8, 9, 10] rfl rfl (by decide) (by decide) (by decide) wM_X8_80 wb_X8_readTape hy_X8_readTape (q0 := 0) rfl rfl rfl ⟨Nat.le_of_ble_eq_true rfl, Nat.le_of_ble_eq_true rfl⟩ (Nat.le_of_ble_eq_true rfl) (Nat.le_of_ble_eq_true rfl) (Nat.le_of_ble_eq_true rfl) rfl dX8_add_1 (fun v w1 hw => ?_) [] rfl (fun _ _ h => h.elim)
  obtain ⟨v_words_distinct_1, v_words_total_2, v_tape_size_3, v_words_term_4, v_words_times_5, rfl, rfl, h⟩ := hw
  refine a_ws (st1 := []) (ws1 := [(h0, oX8 d0 hdr v_ticks), ((d0 1), oX7 d_words v_words_distinct_1 v_words_total_2), ((d0 0), oX0 d_tape v_tape_size_3 v_tape_place), ((d_tape 0), aB cs 3000 v_tape_row), ((d_words 0), aJ cs 1500 v_words_term_4), ((d_words 1), aI cs 1500 v_words_times_5), ((d0 2), oX1 d_collection v_collection_documents v_collection_terms v_collection_postings v_collection_lengthOfAll), ((d_collection 0), aJ cs 64 v_collection_term), ((d_collection 1), aI cs 64 v_collection_inDocuments), ((d_collection 2), aI cs 2560 v_collection_times), ((d_collection 5), aI cs 40 v_collection_length)]) 0 0 4 [5, 6, 7, 8, 9, 10, 0, 1, 2, 3, 4] rfl rfl rfl rfl (by decide) rfl ?_
  refine a_aload_n C (pc := 4) 0 dX8_add_4 rfl rfl ?_
  refine a_get C (pc := 5) 0 1 inW_X8 rfl rfl (Nat.le_of_ble_eq_true rfl) wF_X8_21 rfl rfl dX8_add_5 ?_
  refine a_get C (pc := 8) 1 3 inW_X7 rfl rfl (Nat.le_of_ble_eq_true rfl) wF_X8_83 rfl rfl dX8_add_8 ?_
  refine a_if_ne C (pc := 11) 22 dX8_add_11 (by decide) (fun hc => ?_) (fun hc => ?_)
  · have h := h.1 hc
    refine a_aload_n C (pc := 22) 0 dX8_add_22 rfl rfl ?_
    refine a_get C (pc := 23) 0 2 inW_X8 rfl rfl (Nat.le_of_ble_eq_true rfl) wF_X8_28 rfl rfl dX8_add_23 ?_
    refine a_aload_n C (pc := 26) 0 dX8_add_26 rfl rfl ?_
    refine a_get C (pc := 27) 0 1 inW_X8 rfl rfl (Nat.le_of_ble_eq_true rfl) wF_X8_21 rfl rfl dX8_add_27 ?_
    refine a_callV C (pc := 30) (av := [.ref (d0 1)]) (wr := [(h0, oX8 d0 hdr v_ticks), ((d0 0), oX0 d_tape v_tape_size_3 v_tape_place), ((d_tape 0), aB cs 3000 v_tape_row), ((d_words 1), aI cs 1500 v_words_times_5), ((d_collection 1), aI cs 64 v_collection_inDocuments), ((d_collection 2), aI cs 2560 v_collection_times), ((d_collection 5), aI cs 40 v_collection_length)]) (m_X1_hasRoomFor Lx Dx cs (d0 2) (d0 1) d_words d_collection v_words_distinct_1 v_words_total_2 v_words_term_4 v_collection_documents v_collection_terms v_collection_postings v_collection_lengthOfAll v_collection_term _ h) [1, 4, 6, 7] [0, 2, 3, 5, 8, 9, 10] rfl rfl (by decide) (by decide) (by decide) wM_X8_87 wb_X1_hasRoomFor hy_X1_hasRoomFor (q0 := 6) rfl rfl rfl ⟨Nat.le_of_ble_eq_true rfl, Nat.le_of_ble_eq_true rfl⟩ (Nat.le_of_ble_eq_true rfl) (Nat.le_of_ble_eq_true rfl) (Nat.le_of_ble_eq_true rfl) rfl dX8_add_30 (fun v w1 hw => ?_) [] rfl (fun _ _ h => h.elim)
    obtain ⟨r_6, rfl, rfl, h⟩ := hw
    refine a_ws (st1 := [.int r_6]) (ws1 := [(h0, oX8 d0 hdr v_ticks), ((d0 1), oX7 d_words v_words_distinct_1 v_words_total_2), ((d0 0), oX0 d_tape v_tape_size_3 v_tape_place), ((d_tape 0), aB cs 3000 v_tape_row), ((d_words 0), aJ cs 1500 v_words_term_4), ((d_words 1), aI cs 1500 v_words_times_5), ((d0 2), oX1 d_collection v_collection_documents v_collection_terms v_collection_postings v_collection_lengthOfAll), ((d_collection 0), aJ cs 64 v_collection_term), ((d_collection 1), aI cs 64 v_collection_inDocuments), ((d_collection 2), aI cs 2560 v_collection_times), ((d_collection 5), aI cs 40 v_collection_length)]) 0 0 33 [0, 7, 1, 2, 8, 3, 9, 10, 4, 5, 6] rfl rfl rfl rfl (by decide) rfl ?_
    refine a_if_ne C (pc := 33) 44 dX8_add_33 (by decide) (fun hc => ?_) (fun hc => ?_)
    · have h := h.1 hc
      refine a_aload_n C (pc := 44) 0 dX8_add_44 rfl rfl ?_
      refine a_get C (pc := 45) 0 2 inW_X8 rfl rfl (Nat.le_of_ble_eq_true rfl) wF_X8_28 rfl rfl dX8_add_45 ?_
      refine a_aload_n C (pc := 48) 0 dX8_add_48 rfl rfl ?_
      refine a_get C (pc := 49) 0 1 inW_X8 rfl rfl (Nat.le_of_ble_eq_true rfl) wF_X8_21 rfl rfl dX8_add_49 ?_
      refine a_callV C (pc := 52) (av := [.ref (d0 1)]) (wr := [(h0, oX8 d0 hdr v_ticks), ((d0 0), oX0 d_tape v_tape_size_3 v_tape_place), ((d_tape 0), aB cs 3000 v_tape_row)]) (m_X1_append Lx Dx cs (d0 2) (d0 1) d_words d_collection v_words_distinct_1 v_words_total_2 v_words_term_4 v_collection_documents v_collection_terms v_collection_postings v_collection_lengthOfAll v_collection_term v_collection_inDocuments v_collection_times v_words_times_5 v_collection_length _ h) [1, 4, 6, 7, 8, 9, 5, 10] [0, 2, 3] rfl rfl (by decide) (by decide) (by decide) wM_X8_91 wb_X1_append hy_X1_append (q0 := 6) rfl rfl rfl ⟨Nat.le_of_ble_eq_true rfl, Nat.le_of_ble_eq_true rfl⟩ (Nat.le_of_ble_eq_true rfl) (Nat.le_of_ble_eq_true rfl) (Nat.le_of_ble_eq_true rfl) rfl dX8_add_52 (fun v w1 hw => ?_) [] rfl (fun _ _ h => h.elim)
      obtain ⟨r_7, v_collection_documents_8, v_collection_terms_9, v_collection_postings_10, v_collection_lengthOfAll_11, v_collection_term_12, v_collection_inDocuments_13, v_collection_times_14, v_collection_length_15, rfl, rfl, h⟩ := hw
      refine a_ws (st1 := [.int r_7]) (ws1 := [(h0, oX8 d0 hdr v_ticks), ((d0 1), oX7 d_words v_words_distinct_1 v_words_total_2), ((d0 0), oX0 d_tape v_tape_size_3 v_tape_place), ((d_tape 0), aB cs 3000 v_tape_row), ((d_words 0), aJ cs 1500 v_words_term_4), ((d_words 1), aI cs 1500 v_words_times_5), ((d0 2), oX1 d_collection v_collection_documents_8 v_collection_terms_9 v_collection_postings_10 v_collection_lengthOfAll_11), ((d_collection 0), aJ cs 64 v_collection_term_12), ((d_collection 1), aI cs 64 v_collection_inDocuments_13), ((d_collection 2), aI cs 2560 v_collection_times_14), ((d_collection 5), aI cs 40 v_collection_length_15)]) 0 0 55 [0, 3, 1, 2, 4, 9, 5, 6, 7, 8, 10] rfl rfl rfl rfl (by decide) rfl ?_
      exact a_ireturn C (pc := 55) rfl dX8_add_55 (Nat.le_of_ble_eq_true rfl) (Nat.le_of_ble_eq_true rfl) ⟨_, _, _, _, _, _, _, _, _, _, _, _, _, _, rfl, rfl, h⟩
    · have h := h.2 hc
      exact a_throw C (pc := 36) (by decide +kernel) wK_X8_74 wI_IllegalStateException atg_X8_76 atn_X8_76 (by decide +kernel) dX8_add_36 dX8_add_39 dX8_add_40 dX8_add_43 (Nat.le_of_ble_eq_true rfl) (Nat.le_of_ble_eq_true rfl) (Nat.le_of_ble_eq_true rfl) (Nat.le_of_ble_eq_true rfl) ⟨_, _, _, _, _, _, _, _, _, _, _, _, _, rfl, h⟩
  · have h := h.2 hc
    exact a_throw C (pc := 14) (by decide +kernel) wK_X8_67 wI_IllegalArgumentException atg_X8_69 atn_X8_69 (by decide +kernel) dX8_add_14 dX8_add_17 dX8_add_18 dX8_add_21 (Nat.le_of_ble_eq_true rfl) (Nat.le_of_ble_eq_true rfl) (Nat.le_of_ble_eq_true rfl) (Nat.le_of_ble_eq_true rfl) ⟨_, _, _, _, _, _, _, _, _, _, _, _, _, rfl, h⟩
set_option maxRecDepth 100000 in
set_option maxHeartbeats 4000000 in
theorem m_X1_becomeEmpty (Lx : Launch) (Dx : va_G) (cs : Nat → ClassId) (h0 : Nat) (d0 : Nat → Nat) (v_documents : Int32) (v_terms : Int32) (v_postings : Int32) (v_lengthOfAll : Int32) (Φ : Int32 → Int32 → Int32 → Int32 → Int32 → Prop) (h : P_X1_becomeEmpty v_documents v_terms v_postings v_lengthOfAll Φ) : XMet Lx Dx cs yX1_becomeEmpty cX1_becomeEmpty 2 (some .int) 0 0 0 0 [.ref h0] [(h0, oX1 d0 v_documents v_terms v_postings v_lengthOfAll)] (R_X1_becomeEmpty cs h0 d0 Φ) (fun _ _ => False) := by
  refine XMet.of (own := RX1) (nm := "becomeEmpty") (by decide) rfl rfl (Nat.le_of_ble_eq_true rfl) (fun Γ C => ?_)
  unfold P_X1_becomeEmpty at h
  refine a_aload_n C (pc := 0) 0 dX1_becomeEmpty_0 rfl rfl ?_
  refine a_get C (pc := 1) 0 6 inW_X1 rfl rfl (Nat.le_of_ble_eq_true rfl) wF_X1_32 rfl rfl dX1_becomeEmpty_1 ?_
  refine a_istore_n C (pc := 4) (lv1 := [(0, .ref h0), (1, .int v_documents)]) [1, 0] dX1_becomeEmpty_4 rfl (by decide) rfl ?_
  refine a_aload_n C (pc := 5) 0 dX1_becomeEmpty_5 rfl rfl ?_
  refine a_iconst C (pc := 6) dX1_becomeEmpty_6 ic_0 ?_
  refine a_put C (pc := 7) (ws1 := [(h0, oX1 d0 0 v_terms v_postings v_lengthOfAll)]) 0 6 inW_X1 tyX1 tyX1_ok nmX1 rfl rfl (Nat.le_of_ble_eq_true rfl) wF_X1_32 rfl rfl rfl rfl rfl (Nat.le_of_ble_eq_true rfl) dX1_becomeEmpty_7 rfl ?_
  refine a_aload_n C (pc := 10) 0 dX1_becomeEmpty_10 rfl rfl ?_
  refine a_iconst C (pc := 11) dX1_becomeEmpty_11 ic_0 ?_
  refine a_put C (pc := 12) (ws1 := [(h0, oX1 d0 0 0 v_postings v_lengthOfAll)]) 0 7 inW_X1 tyX1 tyX1_ok nmX1 rfl rfl (Nat.le_of_ble_eq_true rfl) wF_X1_36 rfl rfl rfl rfl rfl (Nat.le_of_ble_eq_true rfl) dX1_becomeEmpty_12 rfl ?_
  refine a_aload_n C (pc := 15) 0 dX1_becomeEmpty_15 rfl rfl ?_
  refine a_iconst C (pc := 16) dX1_becomeEmpty_16 ic_0 ?_
  refine a_put C (pc := 17) (ws1 := [(h0, oX1 d0 0 0 0 v_lengthOfAll)]) 0 8 inW_X1 tyX1 tyX1_ok nmX1 rfl rfl (Nat.le_of_ble_eq_true rfl) wF_X1_39 rfl rfl rfl rfl rfl (Nat.le_of_ble_eq_true rfl) dX1_becomeEmpty_17 rfl ?_
  refine a_aload_n C (pc := 20) 0 dX1_becomeEmpty_20 rfl rfl ?_
  refine a_iconst C (pc := 21) dX1_becomeEmpty_21 ic_0 ?_
  refine a_put C (pc := 22) (ws1 := [(h0, oX1 d0 0 0 0 0)]) 0 9 inW_X1 tyX1 tyX1_ok nmX1 rfl rfl (Nat.le_of_ble_eq_true rfl) wF_X1_42 rfl rfl rfl rfl rfl (Nat.le_of_ble_eq_true rfl) dX1_becomeEmpty_22 rfl ?_
  refine a_iload_n C (pc := 25) 1 dX1_becomeEmpty_25 rfl rfl ?_
  exact a_ireturn C (pc := 26) rfl dX1_becomeEmpty_26 (Nat.le_of_ble_eq_true rfl) (Nat.le_of_ble_eq_true rfl) ⟨_, _, _, _, _, rfl, rfl, h⟩
set_option maxRecDepth 100000 in
set_option maxHeartbeats 4000000 in
theorem m_X8_clear (Lx : Launch) (Dx : va_G) (cs : Nat → ClassId) (h0 : Nat) (hdr : Nat) (d0 : Nat → Nat) (d_collection : Nat → Nat) (v_ticks : Int64) (v_collection_documents : Int32) (v_collection_terms : Int32) (v_collection_postings : Int32) (v_collection_lengthOfAll : Int32) (Φ : Int32 → Int32 → Int32 → Int32 → Int32 → Prop) (h : P_X8_clear v_collection_documents v_collection_terms v_collection_postings v_collection_lengthOfAll Φ) : XMet Lx Dx cs yX8_clear cX8_clear 1 (some .int) 1 21 0 0 [.ref h0] [(h0, oX8 d0 hdr v_ticks), ((d0 2), oX1 d_collection v_collection_documents v_collection_terms v_collection_postings v_collection_lengthOfAll)] (R_X8_clear cs h0 hdr d0 d_collection v_ticks Φ) (fun _ _ => False) := by
  refine XMet.of (own := RX8) (nm := "clear") (by decide) rfl rfl (Nat.le_of_ble_eq_true rfl) (fun Γ C => ?_)
  unfold P_X8_clear at h
  refine a_aload_n C (pc := 0) 0 dX8_clear_0 rfl rfl ?_
  refine a_get C (pc := 1) 0 2 inW_X8 rfl rfl (Nat.le_of_ble_eq_true rfl) wF_X8_28 rfl rfl dX8_clear_1 ?_
  refine a_callV C (pc := 4) (av := []) (wr := [(h0, oX8 d0 hdr v_ticks)]) (m_X1_becomeEmpty Lx Dx cs (d0 2) d_collection v_collection_documents v_collection_terms v_collection_postings v_collection_lengthOfAll _ h) [1] [0] rfl rfl (by decide) (by decide) (by decide) wM_X8_95 wb_X1_becomeEmpty hy_X1_becomeEmpty (q0 := 1) rfl rfl rfl ⟨Nat.le_of_ble_eq_true rfl, Nat.le_of_ble_eq_true rfl⟩ (Nat.le_of_ble_eq_true rfl) (Nat.le_of_ble_eq_true rfl) (Nat.le_of_ble_eq_true rfl) rfl dX8_clear_4 (fun v w1 hw => ?_) [] rfl (fun _ _ h => h.elim)
  obtain ⟨r_1, v_collection_documents_2, v_collection_terms_3, v_collection_postings_4, v_collection_lengthOfAll_5, rfl, rfl, h⟩ := hw
  refine a_ws (st1 := [.int r_1]) (ws1 := [(h0, oX8 d0 hdr v_ticks), ((d0 2), oX1 d_collection v_collection_documents_2 v_collection_terms_3 v_collection_postings_4 v_collection_lengthOfAll_5)]) 0 0 7 [0, 1] rfl rfl rfl rfl (by decide) rfl ?_
  exact a_ireturn C (pc := 7) rfl dX8_clear_7 (Nat.le_of_ble_eq_true rfl) (Nat.le_of_ble_eq_true rfl) ⟨_, _, _, _, _, rfl, rfl, h⟩
set_option maxRecDepth 100000 in
set_option maxHeartbeats 4000000 in
theorem m_X8_count (Lx : Launch) (Dx : va_G) (cs : Nat → ClassId) (h0 : Nat) (hdr : Nat) (d0 : Nat → Nat) (d_collection : Nat → Nat) (v_ticks : Int64) (v_collection_documents : Int32) (v_collection_terms : Int32) (v_collection_postings : Int32) (v_collection_lengthOfAll : Int32) (l1 : Int32) (Φ : Int32 → Prop) (X : String → Prop) (h : P_X8_count v_collection_documents v_collection_terms v_collection_postings v_collection_lengthOfAll l1 Φ X) : XMet Lx Dx cs yX8_count cX8_count 2 (some .int) 6 85 1 6 [.ref h0, .int l1] [(h0, oX8 d0 hdr v_ticks), ((d0 2), oX1 d_collection v_collection_documents v_collection_terms v_collection_postings v_collection_lengthOfAll)] (R_X8_count cs h0 hdr d0 d_collection v_ticks v_collection_documents v_collection_terms v_collection_postings v_collection_lengthOfAll Φ) (Y_X8_count cs h0 hdr d0 d_collection v_ticks v_collection_documents v_collection_terms v_collection_postings v_collection_lengthOfAll X) := by
  refine XMet.of (own := RX8) (nm := "count") (by decide) rfl rfl (Nat.le_of_ble_eq_true rfl) (fun Γ C => ?_)
  unfold P_X8_count at h
  refine a_iload_n C (pc := 0) 1 dX8_count_0 rfl rfl ?_
  by_cases hc0 : l1 = 0
  · have h := h.1 hc0
    refine a_tableIn C (pc := 1) 32 dX8_count_1 (by rw [hc0]; decide) (by rw [hc0]; decide) (by rw [hc0]; rfl) (by decide) ?_
    refine a_aload_n C (pc := 32) 0 dX8_count_32 rfl rfl ?_
    refine a_get C (pc := 33) 0 2 inW_X8 rfl rfl (Nat.le_of_ble_eq_true rfl) wF_X8_28 rfl rfl dX8_count_33 ?_
    refine a_get C (pc := 36) 1 6 inW_X1 rfl rfl (Nat.le_of_ble_eq_true rfl) wF_X8_98 rfl rfl dX8_count_36 ?_
    exact a_ireturn C (pc := 39) rfl dX8_count_39 (Nat.le_of_ble_eq_true rfl) (Nat.le_of_ble_eq_true rfl) ⟨_, rfl, rfl, h⟩
  · by_cases hc1 : l1 = 1
    · have h := h.2.1 hc1
      refine a_tableIn C (pc := 1) 40 dX8_count_1 (by rw [hc1]; decide) (by rw [hc1]; decide) (by rw [hc1]; rfl) (by decide) ?_
      refine a_aload_n C (pc := 40) 0 dX8_count_40 rfl rfl ?_
      refine a_get C (pc := 41) 0 2 inW_X8 rfl rfl (Nat.le_of_ble_eq_true rfl) wF_X8_28 rfl rfl dX8_count_41 ?_
      refine a_get C (pc := 44) 1 7 inW_X1 rfl rfl (Nat.le_of_ble_eq_true rfl) wF_X8_101 rfl rfl dX8_count_44 ?_
      exact a_ireturn C (pc := 47) rfl dX8_count_47 (Nat.le_of_ble_eq_true rfl) (Nat.le_of_ble_eq_true rfl) ⟨_, rfl, rfl, h⟩
    · by_cases hc2 : l1 = 2
      · have h := h.2.2.1 hc2
        refine a_tableIn C (pc := 1) 48 dX8_count_1 (by rw [hc2]; decide) (by rw [hc2]; decide) (by rw [hc2]; rfl) (by decide) ?_
        refine a_aload_n C (pc := 48) 0 dX8_count_48 rfl rfl ?_
        refine a_get C (pc := 49) 0 2 inW_X8 rfl rfl (Nat.le_of_ble_eq_true rfl) wF_X8_28 rfl rfl dX8_count_49 ?_
        refine a_get C (pc := 52) 1 8 inW_X1 rfl rfl (Nat.le_of_ble_eq_true rfl) wF_X8_104 rfl rfl dX8_count_52 ?_
        exact a_ireturn C (pc := 55) rfl dX8_count_55 (Nat.le_of_ble_eq_true rfl) (Nat.le_of_ble_eq_true rfl) ⟨_, rfl, rfl, h⟩
      · by_cases hc3 : l1 = 3
        · have h := h.2.2.2.1 hc3
          refine a_tableIn C (pc := 1) 56 dX8_count_1 (by rw [hc3]; decide) (by rw [hc3]; decide) (by rw [hc3]; rfl) (by decide) ?_
          refine a_aload_n C (pc := 56) 0 dX8_count_56 rfl rfl ?_
          refine a_get C (pc := 57) 0 2 inW_X8 rfl rfl (Nat.le_of_ble_eq_true rfl) wF_X8_28 rfl rfl dX8_count_57 ?_
          refine a_get C (pc := 60) 1 9 inW_X1 rfl rfl (Nat.le_of_ble_eq_true rfl) wF_X8_107 rfl rfl dX8_count_60 ?_
          exact a_ireturn C (pc := 63) rfl dX8_count_63 (Nat.le_of_ble_eq_true rfl) (Nat.le_of_ble_eq_true rfl) ⟨_, rfl, rfl, h⟩
        · have h := h.2.2.2.2 hc0 hc1 hc2 hc3
          refine a_tableOut C (pc := 1) 64 dX8_count_1 (swo_3 hc0 hc1 hc2 hc3) (by decide) ?_
          exact a_throw C (pc := 64) (by decide +kernel) wK_X8_110 wI_NoSuchElementException atg_X8_112 atn_X8_112 (by decide +kernel) dX8_count_64 dX8_count_67 dX8_count_68 dX8_count_71 (Nat.le_of_ble_eq_true rfl) (Nat.le_of_ble_eq_true rfl) (Nat.le_of_ble_eq_true rfl) (Nat.le_of_ble_eq_true rfl) ⟨rfl, h⟩
set_option maxRecDepth 100000 in
set_option maxHeartbeats 4000000 in
theorem w_X1_logarithm_5 {Γ : XG} {Lx : Launch} {Dx : va_G} {cs : Nat → ClassId} {K_33 : UInt64 → Int32 → Prop} {Φ : UInt64 → Prop} {k n9 : Nat} (C : CX Γ Lx Dx cs cX1_logarithm RX1 "logarithm" 12 (some .double) 0 0 0 0 (qEC cs 0 0 [] (R_X1_logarithm cs Φ) (fun _ _ => False))) (hkm : k ≤ 0) (hnm : n9 ≤ 0) : ∀ n : Nat, ∀ (l2 : UInt64) (l4 : Int32), L_X1_logarithm_5 n l2 l4 K_33 Φ → (∀ (l2_1 : UInt64) (l4_2 : Int32), K_33 l2_1 l4_2 → AW Γ k n9 33 [(2, .double l2_1), (4, .int l4_2)] [] []) → AW Γ k n9 5 [(2, .double l2), (4, .int l4)] [] [] := by
  intro n
  induction n with
  | zero =>
    intro l2 l4 h
    exact False.elim h
  | succ n ih =>
    intro l2 l4 h hK_33
    rw [L_X1_logarithm_5] at h
    refine a_dload_n C (pc := 5) 0 dX1_logarithm_5 rfl rfl ?_
    refine a_ldc2d C (pc := 6) wC_X1_121 dX1_logarithm_6 ?_
    refine a_dcmp C (pc := 9) dX1_logarithm_9 ?_
    refine a_if_lt C (pc := 10) 33 dX1_logarithm_10 (by decide) (fun hc => ?_) (fun hc => ?_)
    · have h := h.1 hc
      exact hK_33 l2 l4 h
    · have h := h.2 hc
      refine a_iload C (pc := 13) 1 dX1_logarithm_13 rfl ?_
      refine a_sipush C (pc := 15) dX1_logarithm_15 sp_1100 ?_
      refine a_icmp_ge C (pc := 18) 33 dX1_logarithm_18 (by decide) (fun hc => ?_) (fun hc => ?_)
      · have h := h.1 hc
        exact hK_33 l2 l4 h
      · have h := h.2 hc
        refine a_dload_n C (pc := 21) 0 dX1_logarithm_21 rfl rfl ?_
        refine a_ldc2d C (pc := 22) wC_X1_121 dX1_logarithm_22 ?_
        refine a_ddiv C (pc := 25) dX1_logarithm_25 h.1 ?_
        replace h := h.2
        refine a_dstore_n C (pc := 26) (lv1 := [(2, .double (FP.ddiv l2 4611686018427387904)), (4, .int l4)]) [0, 1] dX1_logarithm_26 rfl (by decide) rfl ?_
        refine a_iinc C (pc := 27) (lv1 := [(2, .double (FP.ddiv l2 4611686018427387904)), (4, .int (l4 + 1))]) 1 [1, 0] dX1_logarithm_27 rfl (congrArg (fun z => l4 + z) ic_1) (by decide) rfl ?_
        refine a_goto C (pc := 30) 5 dX1_logarithm_30 (by decide) ?_
        exact ih (FP.ddiv l2 4611686018427387904) (l4 + 1) h hK_33
set_option maxRecDepth 100000 in
set_option maxHeartbeats 4000000 in
theorem w_X1_logarithm_52 {Γ : XG} {Lx : Launch} {Dx : va_G} {cs : Nat → ClassId} {K_86 : Int32 → UInt64 → Prop} {Φ : UInt64 → Prop} {k n9 : Nat} (C : CX Γ Lx Dx cs cX1_logarithm RX1 "logarithm" 12 (some .double) 0 0 0 0 (qEC cs 0 0 [] (R_X1_logarithm cs Φ) (fun _ _ => False))) (hkm : k ≤ 0) (hnm : n9 ≤ 0) : ∀ n : Nat, ∀ (l4 : Int32) (l5 : UInt64) (l7 : UInt64) (l9 : UInt64) (l11 : Int32), L_X1_logarithm_52 n l4 l5 l7 l9 l11 K_86 Φ → (∀ (l4_5 : Int32) (l9_6 : UInt64), K_86 l4_5 l9_6 → AW Γ k n9 86 [(4, .int l4_5), (9, .double l9_6)] [] []) → AW Γ k n9 52 [(4, .int l4), (5, .double l5), (7, .double l7), (9, .double l9), (11, .int l11)] [] [] := by
  intro n
  induction n with
  | zero =>
    intro l4 l5 l7 l9 l11 h
    exact False.elim h
  | succ n ih =>
    intro l4 l5 l7 l9 l11 h hK_86
    rw [L_X1_logarithm_52] at h
    refine a_iload C (pc := 52) 4 dX1_logarithm_52 rfl ?_
    refine a_bipush C (pc := 54) dX1_logarithm_54 bp_23 ?_
    refine a_icmp_gt C (pc := 56) 86 dX1_logarithm_56 (by decide) (fun hc => ?_) (fun hc => ?_)
    · have h := h.1 hc
      refine a_lv (lv1 := [(4, .int l4), (9, .double l9)]) [0, 3] rfl ?_
      exact hK_86 l4 l9 h
    · have h := h.2 hc
      refine a_dload C (pc := 59) 3 dX1_logarithm_59 rfl ?_
      refine a_dload C (pc := 61) 2 dX1_logarithm_61 rfl ?_
      refine a_iload C (pc := 63) 4 dX1_logarithm_63 rfl ?_
      refine a_i2d C (pc := 65) dX1_logarithm_65 ?_
      refine a_ddiv C (pc := 66) dX1_logarithm_66 h.1 ?_
      replace h := h.2
      refine a_dadd C (pc := 67) dX1_logarithm_67 h.1 ?_
      replace h := h.2
      refine a_dstore C (pc := 68) (lv1 := [(4, .int l4), (5, .double l5), (7, .double l7), (9, .double (FP.dadd l9 (FP.ddiv l7 (FP.i2d l11)))), (11, .int l11)]) [1, 2, 3, 0, 4] dX1_logarithm_68 (by decide) rfl ?_
      refine a_dload C (pc := 70) 2 dX1_logarithm_70 rfl ?_
      refine a_dload C (pc := 72) 1 dX1_logarithm_72 rfl ?_
      refine a_dmul C (pc := 74) dX1_logarithm_74 h.1 ?_
      replace h := h.2
      refine a_dload C (pc := 75) 1 dX1_logarithm_75 rfl ?_
      refine a_dmul C (pc := 77) dX1_logarithm_77 h.1 ?_
      replace h := h.2
      refine a_dstore C (pc := 78) (lv1 := [(4, .int l4), (5, .double l5), (7, .double (FP.dmul (FP.dmul l7 l5) l5)), (9, .double (FP.dadd l9 (FP.ddiv l7 (FP.i2d l11)))), (11, .int l11)]) [1, 2, 0, 3, 4] dX1_logarithm_78 (by decide) rfl ?_
      refine a_iinc C (pc := 80) (lv1 := [(4, .int l4), (5, .double l5), (7, .double (FP.dmul (FP.dmul l7 l5) l5)), (9, .double (FP.dadd l9 (FP.ddiv l7 (FP.i2d l11)))), (11, .int (l11 + 2))]) 4 [1, 2, 3, 4, 0] dX1_logarithm_80 rfl (congrArg (fun z => l11 + z) ic_2) (by decide) rfl ?_
      refine a_goto C (pc := 83) 52 dX1_logarithm_83 (by decide) ?_
      exact ih l4 l5 (FP.dmul (FP.dmul l7 l5) l5) (FP.dadd l9 (FP.ddiv l7 (FP.i2d l11))) (l11 + 2) h hK_86
set_option maxRecDepth 100000 in
set_option maxHeartbeats 4000000 in
theorem w_X1_logarithm_33 {Γ : XG} {Lx : Launch} {Dx : va_G} {cs : Nat → ClassId} {Φ : UInt64 → Prop} {k n9 : Nat} (C : CX Γ Lx Dx cs cX1_logarithm RX1 "logarithm" 12 (some .double) 0 0 0 0 (qEC cs 0 0 [] (R_X1_logarithm cs Φ) (fun _ _ => False))) (hkm : k ≤ 0) (hnm : n9 ≤ 0) (l2 : UInt64) (l4 : Int32) (h : J_X1_logarithm_33 l2 l4 Φ) : AW Γ k n9 33 [(2, .double l2), (4, .int l4)] [] [] := by
  unfold J_X1_logarithm_33 at h
  refine a_dload_n C (pc := 33) 0 dX1_logarithm_33 rfl rfl ?_
  refine a_dconst1 C (pc := 34) dX1_logarithm_34 ?_
  refine a_dsub C (pc := 35) dX1_logarithm_35 h.1 ?_
  replace h := h.2
  refine a_dload_n C (pc := 36) 0 dX1_logarithm_36 rfl rfl ?_
  refine a_dconst1 C (pc := 37) dX1_logarithm_37 ?_
  refine a_dadd C (pc := 38) dX1_logarithm_38 h.1 ?_
  replace h := h.2
  refine a_ddiv C (pc := 39) dX1_logarithm_39 h.1 ?_
  replace h := h.2
  refine a_dstore C (pc := 40) (lv1 := [(2, .double l2), (4, .int l4), (5, .double (FP.ddiv (FP.dsub l2 FP.dconst1) (FP.dadd l2 FP.dconst1)))]) [1, 2, 0] dX1_logarithm_40 (by decide) rfl ?_
  refine a_dload C (pc := 42) 2 dX1_logarithm_42 rfl ?_
  refine a_dstore C (pc := 44) (lv1 := [(2, .double l2), (4, .int l4), (5, .double (FP.ddiv (FP.dsub l2 FP.dconst1) (FP.dadd l2 FP.dconst1))), (7, .double (FP.ddiv (FP.dsub l2 FP.dconst1) (FP.dadd l2 FP.dconst1)))]) [1, 2, 3, 0] dX1_logarithm_44 (by decide) rfl ?_
  refine a_dconst0 C (pc := 46) dX1_logarithm_46 ?_
  refine a_dstore C (pc := 47) (lv1 := [(2, .double l2), (4, .int l4), (5, .double (FP.ddiv (FP.dsub l2 FP.dconst1) (FP.dadd l2 FP.dconst1))), (7, .double (FP.ddiv (FP.dsub l2 FP.dconst1) (FP.dadd l2 FP.dconst1))), (9, .double FP.dconst0)]) [1, 2, 3, 4, 0] dX1_logarithm_47 (by decide) rfl ?_
  refine a_iconst C (pc := 49) dX1_logarithm_49 ic_1 ?_
  refine a_istore C (pc := 50) (lv1 := [(2, .double l2), (4, .int l4), (5, .double (FP.ddiv (FP.dsub l2 FP.dconst1) (FP.dadd l2 FP.dconst1))), (7, .double (FP.ddiv (FP.dsub l2 FP.dconst1) (FP.dadd l2 FP.dconst1))), (9, .double FP.dconst0), (11, .int 1)]) [1, 2, 3, 4, 5, 0] dX1_logarithm_50 (by decide) rfl ?_
  obtain ⟨n0, h⟩ := h
  refine a_lv (lv1 := [(4, .int l4), (5, .double (FP.ddiv (FP.dsub l2 FP.dconst1) (FP.dadd l2 FP.dconst1))), (7, .double (FP.ddiv (FP.dsub l2 FP.dconst1) (FP.dadd l2 FP.dconst1))), (9, .double FP.dconst0), (11, .int 1)]) [1, 2, 3, 4, 5] rfl ?_
  refine w_X1_logarithm_52 C hkm hnm n0 l4 (FP.ddiv (FP.dsub l2 FP.dconst1) (FP.dadd l2 FP.dconst1)) (FP.ddiv (FP.dsub l2 FP.dconst1) (FP.dadd l2 FP.dconst1)) FP.dconst0 1 h ?_
  intro l4_7 l9_8 h
  refine a_ldc2d C (pc := 86) wC_X1_121 dX1_logarithm_86 ?_
  refine a_dload C (pc := 89) 1 dX1_logarithm_89 rfl ?_
  refine a_dmul C (pc := 91) dX1_logarithm_91 h.1 ?_
  replace h := h.2
  refine a_iload C (pc := 92) 0 dX1_logarithm_92 rfl ?_
  refine a_i2d C (pc := 94) dX1_logarithm_94 ?_
  refine a_ldc2d C (pc := 95) wC_X1_123 dX1_logarithm_95 ?_
  refine a_dmul C (pc := 98) dX1_logarithm_98 h.1 ?_
  replace h := h.2
  refine a_dadd C (pc := 99) dX1_logarithm_99 h.1 ?_
  replace h := h.2
  exact a_dreturn C (pc := 100) rfl dX1_logarithm_100 hkm hnm ⟨_, rfl, rfl, h⟩
set_option maxRecDepth 100000 in
set_option maxHeartbeats 4000000 in
theorem m_X1_logarithm (Lx : Launch) (Dx : va_G) (cs : Nat → ClassId) (l0 : UInt64) (Φ : UInt64 → Prop) (h : P_X1_logarithm l0 Φ) : XMet Lx Dx cs yX1_logarithm cX1_logarithm 12 (some .double) 0 0 0 0 [.double l0] [] (R_X1_logarithm cs Φ) (fun _ _ => False) := by
  refine XMet.of (own := RX1) (nm := "logarithm") (by decide) rfl rfl (Nat.le_of_ble_eq_true rfl) (fun Γ C => ?_)
  unfold P_X1_logarithm at h
  refine a_dload_n C (pc := 0) 0 dX1_logarithm_0 rfl rfl ?_
  refine a_dstore_n C (pc := 1) (lv1 := [(0, .double l0), (2, .double l0)]) [1, 0] dX1_logarithm_1 rfl (by decide) rfl ?_
  refine a_iconst C (pc := 2) dX1_logarithm_2 ic_0 ?_
  refine a_istore C (pc := 3) (lv1 := [(0, .double l0), (2, .double l0), (4, .int 0)]) [1, 2, 0] dX1_logarithm_3 (by decide) rfl ?_
  obtain ⟨n0, h⟩ := h
  refine a_lv (lv1 := [(2, .double l0), (4, .int 0)]) [1, 2] rfl ?_
  refine w_X1_logarithm_5 C (Nat.le_of_ble_eq_true rfl) (Nat.le_of_ble_eq_true rfl) n0 l0 0 h ?_
  intro l2_3 l4_4 h
  exact w_X1_logarithm_33 C (Nat.le_of_ble_eq_true rfl) (Nat.le_of_ble_eq_true rfl) l2_3 l4_4 h
set_option maxRecDepth 100000 in
set_option maxHeartbeats 4000000 in
theorem m_X1_scoreOf (Lx : Launch) (Dx : va_G) (cs : Nat → ClassId) (h0 : Nat) (d0 : Nat → Nat) (v_documents : Int32) (v_terms : Int32) (v_postings : Int32) (v_lengthOfAll : Int32) (v_times : Nat → Int32) (v_inDocuments : Nat → Int32) (v_length : Nat → Int32) (l1 : Int32) (l2 : Int32) (Φ : UInt64 → Prop) (h : P_X1_scoreOf v_documents v_lengthOfAll v_times v_inDocuments v_length l1 l2 Φ) : XMet Lx Dx cs yX1_scoreOf cX1_scoreOf 8 (some .double) 1 31 0 0 [.ref h0, .int l1, .int l2] [(h0, oX1 d0 v_documents v_terms v_postings v_lengthOfAll), ((d0 2), aI cs 2560 v_times), ((d0 1), aI cs 64 v_inDocuments), ((d0 5), aI cs 40 v_length)] (R_X1_scoreOf cs h0 d0 v_documents v_terms v_postings v_lengthOfAll v_times v_inDocuments v_length Φ) (fun _ _ => False) := by
  refine XMet.of (own := RX1) (nm := "scoreOf") (by decide) rfl rfl (Nat.le_of_ble_eq_true rfl) (fun Γ C => ?_)
  unfold P_X1_scoreOf at h
  refine a_aload_n C (pc := 0) 0 dX1_scoreOf_0 rfl rfl ?_
  refine a_get C (pc := 1) 0 2 inW_X1 rfl rfl (Nat.le_of_ble_eq_true rfl) wF_X1_19 rfl rfl dX1_scoreOf_1 ?_
  refine a_iload_n C (pc := 4) 1 dX1_scoreOf_4 rfl rfl ?_
  refine a_bipush C (pc := 5) dX1_scoreOf_5 bp_40 ?_
  refine a_imul C (pc := 7) dX1_scoreOf_7 ?_
  refine a_iload_n C (pc := 8) 2 dX1_scoreOf_8 rfl rfl ?_
  refine a_iadd C (pc := 9) dX1_scoreOf_9 ?_
  refine a_iald C (pc := 10) 1 rfl h.1 dX1_scoreOf_10 ?_
  replace h := h.2
  refine a_istore_n C (pc := 11) (lv1 := [(0, .ref h0), (1, .int l1), (2, .int l2), (3, .int (v_times ((l1 * 40) + l2 : Int32).toNatClampNeg))]) [1, 2, 3, 0] dX1_scoreOf_11 rfl (by decide) rfl ?_
  refine a_iload_n C (pc := 12) 3 dX1_scoreOf_12 rfl rfl ?_
  refine a_if_eq C (pc := 13) 39 dX1_scoreOf_13 (by decide) (fun hc => ?_) (fun hc => ?_)
  · have h := h.1 hc
    refine a_dconst0 C (pc := 39) dX1_scoreOf_39 ?_
    exact a_dreturn C (pc := 40) rfl dX1_scoreOf_40 (Nat.le_of_ble_eq_true rfl) (Nat.le_of_ble_eq_true rfl) ⟨_, rfl, rfl, h⟩
  · have h := h.2 hc
    refine a_aload_n C (pc := 16) 0 dX1_scoreOf_16 rfl rfl ?_
    refine a_get C (pc := 17) 0 1 inW_X1 rfl rfl (Nat.le_of_ble_eq_true rfl) wF_X1_15 rfl rfl dX1_scoreOf_17 ?_
    refine a_iload_n C (pc := 20) 1 dX1_scoreOf_20 rfl rfl ?_
    refine a_iald C (pc := 21) 2 rfl h.1 dX1_scoreOf_21 ?_
    replace h := h.2
    refine a_if_eq C (pc := 22) 39 dX1_scoreOf_22 (by decide) (fun hc => ?_) (fun hc => ?_)
    · have h := h.1 hc
      refine a_dconst0 C (pc := 39) dX1_scoreOf_39 ?_
      exact a_dreturn C (pc := 40) rfl dX1_scoreOf_40 (Nat.le_of_ble_eq_true rfl) (Nat.le_of_ble_eq_true rfl) ⟨_, rfl, rfl, h⟩
    · have h := h.2 hc
      refine a_aload_n C (pc := 25) 0 dX1_scoreOf_25 rfl rfl ?_
      refine a_get C (pc := 26) 0 6 inW_X1 rfl rfl (Nat.le_of_ble_eq_true rfl) wF_X1_32 rfl rfl dX1_scoreOf_26 ?_
      refine a_if_eq C (pc := 29) 39 dX1_scoreOf_29 (by decide) (fun hc => ?_) (fun hc => ?_)
      · have h := h.1 hc
        refine a_dconst0 C (pc := 39) dX1_scoreOf_39 ?_
        exact a_dreturn C (pc := 40) rfl dX1_scoreOf_40 (Nat.le_of_ble_eq_true rfl) (Nat.le_of_ble_eq_true rfl) ⟨_, rfl, rfl, h⟩
      · have h := h.2 hc
        refine a_aload_n C (pc := 32) 0 dX1_scoreOf_32 rfl rfl ?_
        refine a_get C (pc := 33) 0 9 inW_X1 rfl rfl (Nat.le_of_ble_eq_true rfl) wF_X1_42 rfl rfl dX1_scoreOf_33 ?_
        refine a_if_ne C (pc := 36) 41 dX1_scoreOf_36 (by decide) (fun hc => ?_) (fun hc => ?_)
        · have h := h.1 hc
          refine a_aload_n C (pc := 41) 0 dX1_scoreOf_41 rfl rfl ?_
          refine a_get C (pc := 42) 0 9 inW_X1 rfl rfl (Nat.le_of_ble_eq_true rfl) wF_X1_42 rfl rfl dX1_scoreOf_42 ?_
          refine a_i2d C (pc := 45) dX1_scoreOf_45 ?_
          refine a_aload_n C (pc := 46) 0 dX1_scoreOf_46 rfl rfl ?_
          refine a_get C (pc := 47) 0 6 inW_X1 rfl rfl (Nat.le_of_ble_eq_true rfl) wF_X1_32 rfl rfl dX1_scoreOf_47 ?_
          refine a_i2d C (pc := 50) dX1_scoreOf_50 ?_
          refine a_ddiv C (pc := 51) dX1_scoreOf_51 h.1 ?_
          replace h := h.2
          refine a_dstore C (pc := 52) (lv1 := [(0, .ref h0), (1, .int l1), (2, .int l2), (3, .int (v_times ((l1 * 40) + l2 : Int32).toNatClampNeg)), (4, .double (FP.ddiv (FP.i2d v_lengthOfAll) (FP.i2d v_documents)))]) [1, 2, 3, 4, 0] dX1_scoreOf_52 (by decide) rfl ?_
          refine a_ldc2d C (pc := 54) wC_X1_105 dX1_scoreOf_54 ?_
          refine a_iload_n C (pc := 57) 3 dX1_scoreOf_57 rfl rfl ?_
          refine a_i2d C (pc := 58) dX1_scoreOf_58 ?_
          refine a_dmul C (pc := 59) dX1_scoreOf_59 h.1 ?_
          replace h := h.2
          refine a_ldc2d C (pc := 60) wC_X1_107 dX1_scoreOf_60 ?_
          refine a_ldc2d C (pc := 63) wC_X1_109 dX1_scoreOf_63 ?_
          refine a_ldc2d C (pc := 66) wC_X1_111 dX1_scoreOf_66 ?_
          refine a_aload_n C (pc := 69) 0 dX1_scoreOf_69 rfl rfl ?_
          refine a_get C (pc := 70) 0 5 inW_X1 rfl rfl (Nat.le_of_ble_eq_true rfl) wF_X1_29 rfl rfl dX1_scoreOf_70 ?_
          refine a_iload_n C (pc := 73) 2 dX1_scoreOf_73 rfl rfl ?_
          refine a_iald C (pc := 74) 3 rfl h.1 dX1_scoreOf_74 ?_
          replace h := h.2
          refine a_i2d C (pc := 75) dX1_scoreOf_75 ?_
          refine a_dmul C (pc := 76) dX1_scoreOf_76 h.1 ?_
          replace h := h.2
          refine a_dload C (pc := 77) 4 dX1_scoreOf_77 rfl ?_
          refine a_ddiv C (pc := 79) dX1_scoreOf_79 h.1 ?_
          replace h := h.2
          refine a_dadd C (pc := 80) dX1_scoreOf_80 h.1 ?_
          replace h := h.2
          refine a_dmul C (pc := 81) dX1_scoreOf_81 h.1 ?_
          replace h := h.2
          refine a_iload_n C (pc := 82) 3 dX1_scoreOf_82 rfl rfl ?_
          refine a_i2d C (pc := 83) dX1_scoreOf_83 ?_
          refine a_dadd C (pc := 84) dX1_scoreOf_84 h.1 ?_
          replace h := h.2
          refine a_ddiv C (pc := 85) dX1_scoreOf_85 h.1 ?_
          replace h := h.2
          refine a_dstore C (pc := 86) (lv1 := [(0, .ref h0), (1, .int l1), (2, .int l2), (3, .int (v_times ((l1 * 40) + l2 : Int32).toNatClampNeg)), (4, .double (FP.ddiv (FP.i2d v_lengthOfAll) (FP.i2d v_documents))), (6, .double (FP.ddiv (FP.dmul 4611235658464650854 (FP.i2d (v_times ((l1 * 40) + l2 : Int32).toNatClampNeg))) (FP.dadd (FP.dmul 4606281698874543309 (FP.dadd 4603579539098121011 (FP.ddiv (FP.dmul 4600877379321698714 (FP.i2d (v_length (l2 : Int32).toNatClampNeg))) (FP.ddiv (FP.i2d v_lengthOfAll) (FP.i2d v_documents))))) (FP.i2d (v_times ((l1 * 40) + l2 : Int32).toNatClampNeg)))))]) [1, 2, 3, 4, 5, 0] dX1_scoreOf_86 (by decide) rfl ?_
          refine a_aload_n C (pc := 88) 0 dX1_scoreOf_88 rfl rfl ?_
          refine a_get C (pc := 89) 0 6 inW_X1 rfl rfl (Nat.le_of_ble_eq_true rfl) wF_X1_32 rfl rfl dX1_scoreOf_89 ?_
          refine a_i2d C (pc := 92) dX1_scoreOf_92 ?_
          refine a_aload_n C (pc := 93) 0 dX1_scoreOf_93 rfl rfl ?_
          refine a_get C (pc := 94) 0 1 inW_X1 rfl rfl (Nat.le_of_ble_eq_true rfl) wF_X1_15 rfl rfl dX1_scoreOf_94 ?_
          refine a_iload_n C (pc := 97) 1 dX1_scoreOf_97 rfl rfl ?_
          refine a_iald C (pc := 98) 2 rfl h.1 dX1_scoreOf_98 ?_
          replace h := h.2
          refine a_i2d C (pc := 99) dX1_scoreOf_99 ?_
          refine a_ddiv C (pc := 100) dX1_scoreOf_100 h.1 ?_
          replace h := h.2
          refine a_callS C (pc := 101) (av := [.double (FP.ddiv (FP.i2d v_documents) (FP.i2d (v_inDocuments (l1 : Int32).toNatClampNeg)))]) (wr := [(h0, oX1 d0 v_documents v_terms v_postings v_lengthOfAll), ((d0 2), aI cs 2560 v_times), ((d0 1), aI cs 64 v_inDocuments), ((d0 5), aI cs 40 v_length)]) (m_X1_logarithm Lx Dx cs (FP.ddiv (FP.i2d v_documents) (FP.i2d (v_inDocuments (l1 : Int32).toNatClampNeg))) _ h) [] [0, 1, 2, 3] rfl rfl (by decide) (by decide) (by decide) wM_X1_113 wb_X1_logarithm hy_X1_logarithm rfl ⟨Nat.le_of_ble_eq_true rfl, Nat.le_of_ble_eq_true rfl⟩ (Nat.le_of_ble_eq_true rfl) (Nat.le_of_ble_eq_true rfl) (Nat.le_of_ble_eq_true rfl) rfl dX1_scoreOf_101 (fun v w1 hw => ?_) [] rfl (fun _ _ h => h.elim)
          obtain ⟨r_1, rfl, rfl, h⟩ := hw
          refine a_ws (st1 := [.double r_1]) (ws1 := [(h0, oX1 d0 v_documents v_terms v_postings v_lengthOfAll), ((d0 2), aI cs 2560 v_times), ((d0 1), aI cs 64 v_inDocuments), ((d0 5), aI cs 40 v_length)]) 0 0 104 [0, 1, 2, 3] rfl rfl rfl rfl (by decide) rfl ?_
          refine a_dload C (pc := 104) 5 dX1_scoreOf_104 rfl ?_
          refine a_dmul C (pc := 106) dX1_scoreOf_106 h.1 ?_
          replace h := h.2
          exact a_dreturn C (pc := 107) rfl dX1_scoreOf_107 (Nat.le_of_ble_eq_true rfl) (Nat.le_of_ble_eq_true rfl) ⟨_, rfl, rfl, h⟩
        · have h := h.2 hc
          refine a_dconst0 C (pc := 39) dX1_scoreOf_39 ?_
          exact a_dreturn C (pc := 40) rfl dX1_scoreOf_40 (Nat.le_of_ble_eq_true rfl) (Nat.le_of_ble_eq_true rfl) ⟨_, rfl, rfl, h⟩
set_option maxRecDepth 100000 in
set_option maxHeartbeats 4000000 in
theorem m_X1_scoreOfTerm (Lx : Launch) (Dx : va_G) (cs : Nat → ClassId) (h0 : Nat) (d0 : Nat → Nat) (v_documents : Int32) (v_terms : Int32) (v_postings : Int32) (v_lengthOfAll : Int32) (v_term : Nat → Int64) (v_times : Nat → Int32) (v_inDocuments : Nat → Int32) (v_length : Nat → Int32) (l1 : Int64) (l3 : Int32) (Φ : UInt64 → Prop) (h : P_X1_scoreOfTerm v_documents v_terms v_lengthOfAll v_term v_times v_inDocuments v_length l1 l3 Φ) : XMet Lx Dx cs yX1_scoreOfTerm cX1_scoreOfTerm 5 (some .double) 2 58 0 0 [.ref h0, .long l1, .int l3] [(h0, oX1 d0 v_documents v_terms v_postings v_lengthOfAll), ((d0 0), aJ cs 64 v_term), ((d0 2), aI cs 2560 v_times), ((d0 1), aI cs 64 v_inDocuments), ((d0 5), aI cs 40 v_length)] (R_X1_scoreOfTerm cs h0 d0 v_documents v_terms v_postings v_lengthOfAll v_term v_times v_inDocuments v_length Φ) (fun _ _ => False) := by
  refine XMet.of (own := RX1) (nm := "scoreOfTerm") (by decide) rfl rfl (Nat.le_of_ble_eq_true rfl) (fun Γ C => ?_)
  unfold P_X1_scoreOfTerm at h
  refine a_aload_n C (pc := 0) 0 dX1_scoreOfTerm_0 rfl rfl ?_
  refine a_lload_n C (pc := 1) 1 dX1_scoreOfTerm_1 rfl rfl ?_
  refine a_callV C (pc := 2) (av := [.long l1]) (wr := [((d0 2), aI cs 2560 v_times), ((d0 1), aI cs 64 v_inDocuments), ((d0 5), aI cs 40 v_length)]) (m_X1_placeOf Lx Dx cs h0 d0 v_documents v_terms v_postings v_lengthOfAll v_term l1 _ h) [0, 1] [2, 3, 4] rfl rfl (by decide) (by decide) (by decide) wM_X1_51 wb_X1_placeOf hy_X1_placeOf (q0 := 0) rfl rfl rfl ⟨Nat.le_of_ble_eq_true rfl, Nat.le_of_ble_eq_true rfl⟩ (Nat.le_of_ble_eq_true rfl) (Nat.le_of_ble_eq_true rfl) (Nat.le_of_ble_eq_true rfl) rfl dX1_scoreOfTerm_2 (fun v w1 hw => ?_) [] rfl (fun _ _ h => h.elim)
  obtain ⟨r_1, rfl, rfl, h⟩ := hw
  refine a_ws (st1 := [.int r_1]) (ws1 := [(h0, oX1 d0 v_documents v_terms v_postings v_lengthOfAll), ((d0 0), aJ cs 64 v_term), ((d0 2), aI cs 2560 v_times), ((d0 1), aI cs 64 v_inDocuments), ((d0 5), aI cs 40 v_length)]) 0 0 5 [3, 4, 0, 1, 2] rfl rfl rfl rfl (by decide) rfl ?_
  refine a_istore C (pc := 5) (lv1 := [(0, .ref h0), (1, .long l1), (3, .int l3), (4, .int r_1)]) [1, 2, 3, 0] dX1_scoreOfTerm_5 (by decide) rfl ?_
  refine a_aload_n C (pc := 7) 0 dX1_scoreOfTerm_7 rfl rfl ?_
  refine a_iload C (pc := 8) 3 dX1_scoreOfTerm_8 rfl ?_
  refine a_lload_n C (pc := 10) 1 dX1_scoreOfTerm_10 rfl rfl ?_
  refine a_callV C (pc := 11) (av := [.int r_1, .long l1]) (wr := [((d0 2), aI cs 2560 v_times), ((d0 1), aI cs 64 v_inDocuments), ((d0 5), aI cs 40 v_length)]) (m_X1_hasTermAt Lx Dx cs h0 d0 v_documents v_terms v_postings v_lengthOfAll v_term r_1 l1 _ h) [0, 1] [2, 3, 4] rfl rfl (by decide) (by decide) (by decide) wM_X1_55 wb_X1_hasTermAt hy_X1_hasTermAt (q0 := 0) rfl rfl rfl ⟨Nat.le_of_ble_eq_true rfl, Nat.le_of_ble_eq_true rfl⟩ (Nat.le_of_ble_eq_true rfl) (Nat.le_of_ble_eq_true rfl) (Nat.le_of_ble_eq_true rfl) rfl dX1_scoreOfTerm_11 (fun v w1 hw => ?_) [] rfl (fun _ _ h => h.elim)
  obtain ⟨r_2, rfl, rfl, h⟩ := hw
  refine a_ws (st1 := [.int r_2]) (ws1 := [(h0, oX1 d0 v_documents v_terms v_postings v_lengthOfAll), ((d0 0), aJ cs 64 v_term), ((d0 2), aI cs 2560 v_times), ((d0 1), aI cs 64 v_inDocuments), ((d0 5), aI cs 40 v_length)]) 0 0 14 [3, 4, 0, 1, 2] rfl rfl rfl rfl (by decide) rfl ?_
  refine a_if_eq C (pc := 14) 27 dX1_scoreOfTerm_14 (by decide) (fun hc => ?_) (fun hc => ?_)
  · have h := h.1 hc
    refine a_dconst0 C (pc := 27) dX1_scoreOfTerm_27 ?_
    exact a_dreturn C (pc := 28) rfl dX1_scoreOfTerm_28 (Nat.le_of_ble_eq_true rfl) (Nat.le_of_ble_eq_true rfl) ⟨_, rfl, rfl, h⟩
  · have h := h.2 hc
    refine a_aload_n C (pc := 17) 0 dX1_scoreOfTerm_17 rfl rfl ?_
    refine a_iload C (pc := 18) 3 dX1_scoreOfTerm_18 rfl ?_
    refine a_iload_n C (pc := 20) 2 dX1_scoreOfTerm_20 rfl rfl ?_
    refine a_callV C (pc := 21) (av := [.int r_1, .int l3]) (wr := [((d0 0), aJ cs 64 v_term)]) (m_X1_scoreOf Lx Dx cs h0 d0 v_documents v_terms v_postings v_lengthOfAll v_times v_inDocuments v_length r_1 l3 _ h) [0, 2, 3, 4] [1] rfl rfl (by decide) (by decide) (by decide) wM_X1_67 wb_X1_scoreOf hy_X1_scoreOf (q0 := 0) rfl rfl rfl ⟨Nat.le_of_ble_eq_true rfl, Nat.le_of_ble_eq_true rfl⟩ (Nat.le_of_ble_eq_true rfl) (Nat.le_of_ble_eq_true rfl) (Nat.le_of_ble_eq_true rfl) rfl dX1_scoreOfTerm_21 (fun v w1 hw => ?_) [] rfl (fun _ _ h => h.elim)
    obtain ⟨r_3, rfl, rfl, h⟩ := hw
    refine a_ws (st1 := [.double r_3]) (ws1 := [(h0, oX1 d0 v_documents v_terms v_postings v_lengthOfAll), ((d0 0), aJ cs 64 v_term), ((d0 2), aI cs 2560 v_times), ((d0 1), aI cs 64 v_inDocuments), ((d0 5), aI cs 40 v_length)]) 0 0 24 [1, 0, 2, 3, 4] rfl rfl rfl rfl (by decide) rfl ?_
    refine a_goto C (pc := 24) 28 dX1_scoreOfTerm_24 (by decide) ?_
    exact a_dreturn C (pc := 28) rfl dX1_scoreOfTerm_28 (Nat.le_of_ble_eq_true rfl) (Nat.le_of_ble_eq_true rfl) ⟨_, rfl, rfl, h⟩
