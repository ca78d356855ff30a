set_option maxRecDepth 100000 in
set_option maxHeartbeats 4000000 in
theorem m_X8_open (Lx : Launch) (Dx : va_G) (cs : Nat → ClassId) (h0 : Nat) (hdr : Nat) (d0 : Nat → Nat) (d_generations : Nat → Nat) (v_ticks : Int64) (v_generations_latest : Int32) (v_generations_held : Nat → Int32) (l1 : Int32) (Φ : Int32 → (Nat → Int32) → Prop) (X : String → (Nat → Int32) → Prop) (h : P_X8_open v_generations_latest v_generations_held l1 Φ X) : XMet Lx Dx cs yX8_open cX8_open 2 (some .int) 7 106 2 12 [.ref h0, .int l1] [(h0, oX8 d0 hdr v_ticks), ((d0 5), oX3 d_generations v_generations_latest), ((d_generations 3), aI cs 4 v_generations_held)] (R_X8_open cs h0 hdr d0 d_generations v_ticks v_generations_latest Φ) (Y_X8_open cs h0 hdr d0 d_generations v_ticks v_generations_latest X) := by
  refine XMet.of (own := RX8) (nm := "open") (by decide) rfl rfl (Nat.le_of_ble_eq_true rfl) (fun Γ C => ?_)
  unfold P_X8_open at h
  refine a_aload_n C (pc := 0) 0 dX8_open_0 rfl rfl ?_
  refine a_iload_n C (pc := 1) 1 dX8_open_1 rfl rfl ?_
  refine a_callV C (pc := 2) (av := [.int l1]) (wr := [(h0, oX8 d0 hdr v_ticks), ((d0 5), oX3 d_generations v_generations_latest), ((d_generations 3), aI cs 4 v_generations_held)]) (m_X8_requireReader Lx Dx cs h0 l1 _ _ h) [] [0, 1, 2] rfl rfl (by decide) (by decide) (by decide) wM_X8_165 wb_X8_requireReader hy_X8_requireReader (q0 := 0) rfl rfl rfl ⟨Nat.le_of_ble_eq_true rfl, Nat.le_of_ble_eq_true rfl⟩ (Nat.le_of_ble_eq_true rfl) (Nat.le_of_ble_eq_true rfl) (Nat.le_of_ble_eq_true rfl) rfl dX8_open_2 (fun v w1 hw => ?_) [0, 1, 2] (by decide) (fun E w1 hx => by obtain ⟨rfl, hx⟩ := hx; exact ⟨[(h0, oX8 d0 hdr v_ticks), ((d0 5), oX3 d_generations v_generations_latest), ((d_generations 3), aI cs 4 v_generations_held)], rfl, _, rfl, hx⟩)
  obtain ⟨rfl, rfl, h⟩ := hw
  refine a_ws (st1 := []) (ws1 := [(h0, oX8 d0 hdr v_ticks), ((d0 5), oX3 d_generations v_generations_latest), ((d_generations 3), aI cs 4 v_generations_held)]) 1 6 5 [0, 1, 2] rfl rfl rfl rfl (by decide) rfl ?_
  refine a_aload_n C (pc := 5) 0 dX8_open_5 rfl rfl ?_
  refine a_get C (pc := 6) 0 5 inW_X8 rfl rfl (Nat.le_of_ble_eq_true rfl) wF_X8_45 rfl rfl dX8_open_6 ?_
  refine a_get C (pc := 9) 1 3 inW_X3 rfl rfl (Nat.le_of_ble_eq_true rfl) wF_X8_168 rfl rfl dX8_open_9 ?_
  refine a_iload_n C (pc := 12) 1 dX8_open_12 rfl rfl ?_
  refine a_iald C (pc := 13) 2 rfl h.1 dX8_open_13 ?_
  replace h := h.2
  refine a_iconst C (pc := 14) dX8_open_14 ic_m1 ?_
  refine a_icmp_eq C (pc := 15) 26 dX8_open_15 (by decide) (fun hc => ?_) (fun hc => ?_)
  · have h := h.1 hc
    refine a_aload_n C (pc := 26) 0 dX8_open_26 rfl rfl ?_
    refine a_get C (pc := 27) 0 5 inW_X8 rfl rfl (Nat.le_of_ble_eq_true rfl) wF_X8_45 rfl rfl dX8_open_27 ?_
    refine a_get C (pc := 30) 1 3 inW_X3 rfl rfl (Nat.le_of_ble_eq_true rfl) wF_X8_168 rfl rfl dX8_open_30 ?_
    refine a_iload_n C (pc := 33) 1 dX8_open_33 rfl rfl ?_
    refine a_aload_n C (pc := 34) 0 dX8_open_34 rfl rfl ?_
    refine a_get C (pc := 35) 0 5 inW_X8 rfl rfl (Nat.le_of_ble_eq_true rfl) wF_X8_45 rfl rfl dX8_open_35 ?_
    refine a_get C (pc := 38) 1 4 inW_X3 rfl rfl (Nat.le_of_ble_eq_true rfl) wF_X8_162 rfl rfl dX8_open_38 ?_
    refine a_iast C (pc := 41) (ws1 := [(h0, oX8 d0 hdr v_ticks), ((d0 5), oX3 d_generations v_generations_latest), ((d_generations 3), aI cs 4 (upd v_generations_held (l1 : Int32).toNatClampNeg v_generations_latest))]) 2 rfl h.1 dX8_open_41 rfl ?_
    replace h := h.2
    refine a_aload_n C (pc := 42) 0 dX8_open_42 rfl rfl ?_
    refine a_get C (pc := 43) 0 5 inW_X8 rfl rfl (Nat.le_of_ble_eq_true rfl) wF_X8_45 rfl rfl dX8_open_43 ?_
    refine a_get C (pc := 46) 1 4 inW_X3 rfl rfl (Nat.le_of_ble_eq_true rfl) wF_X8_162 rfl rfl dX8_open_46 ?_
    exact a_ireturn C (pc := 49) rfl dX8_open_49 (Nat.le_of_ble_eq_true rfl) (Nat.le_of_ble_eq_true rfl) ⟨_, _, rfl, rfl, h⟩
  · have h := h.2 hc
    exact a_throw C (pc := 18) (by decide +kernel) wK_X8_74 wI_IllegalStateException atg_X8_76 atn_X8_76 (by decide +kernel) dX8_open_18 dX8_open_21 dX8_open_22 dX8_open_25 (Nat.le_of_ble_eq_true rfl) (Nat.le_of_ble_eq_true rfl) (Nat.le_of_ble_eq_true rfl) (Nat.le_of_ble_eq_true rfl) ⟨_, rfl, h⟩
set_option maxRecDepth 100000 in
set_option maxHeartbeats 4000000 in
theorem w_X3_forget_2 {Γ : XG} {Lx : Launch} {Dx : va_G} {cs : Nat → ClassId} {h0 : Nat} {d0 : Nat → Nat} {v_latest : Int32} {K_30 : (Nat → Int32) → Prop} {Φ : (Nat → Int32) → Prop} {k n9 : Nat} (C : CX Γ Lx Dx cs cX3_forget RX3 "forget" 3 none 0 0 0 0 (qEC cs 0 0 [] (R_X3_forget cs h0 d0 v_latest Φ) (fun _ _ => False))) (hkm : k ≤ 0) (hnm : n9 ≤ 0) : ∀ n : Nat, ∀ (v_number : Nat → Int32) (l1 : Int32) (l2 : Int32), L_X3_forget_2 n v_number l1 l2 K_30 Φ → (∀ (v_number_1 : Nat → Int32), K_30 v_number_1 → AW Γ k n9 30 [] [] [(h0, oX3 d0 v_latest), ((d0 1), aI cs 3 v_number_1)]) → AW Γ k n9 2 [(0, .ref h0), (1, .int l1), (2, .int l2)] [] [(h0, oX3 d0 v_latest), ((d0 1), aI cs 3 v_number)] := by
  intro n
  induction n with
  | zero =>
    intro v_number l1 l2 h
    exact False.elim h
  | succ n ih =>
    intro v_number l1 l2 h hK_30
    rw [L_X3_forget_2] at h
    refine a_iload_n C (pc := 2) 2 dX3_forget_2 rfl rfl ?_
    refine a_iconst C (pc := 3) dX3_forget_3 ic_3 ?_
    refine a_icmp_ge C (pc := 4) 30 dX3_forget_4 (by decide) (fun hc => ?_) (fun hc => ?_)
    · have h := h.1 hc
      refine a_lv (lv1 := []) [] rfl ?_
      exact hK_30 v_number h
    · have h := h.2 hc
      refine a_aload_n C (pc := 7) 0 dX3_forget_7 rfl rfl ?_
      refine a_get C (pc := 8) 0 1 inW_X3 rfl rfl (Nat.le_of_ble_eq_true rfl) wF_X3_17 rfl rfl dX3_forget_8 ?_
      refine a_iload_n C (pc := 11) 2 dX3_forget_11 rfl rfl ?_
      refine a_iald C (pc := 12) 1 rfl h.1 dX3_forget_12 ?_
      replace h := h.2
      refine a_iload_n C (pc := 13) 1 dX3_forget_13 rfl rfl ?_
      refine a_icmp_ne C (pc := 14) 24 dX3_forget_14 (by decide) (fun hc => ?_) (fun hc => ?_)
      · have h := h.1 hc
        refine a_iinc C (pc := 24) (lv1 := [(0, .ref h0), (1, .int l1), (2, .int (l2 + 1))]) 2 [1, 2, 0] dX3_forget_24 rfl (congrArg (fun z => l2 + z) ic_1) (by decide) rfl ?_
        refine a_goto C (pc := 27) 2 dX3_forget_27 (by decide) ?_
        exact ih v_number l1 (l2 + 1) h hK_30
      · have h := h.2 hc
        refine a_aload_n C (pc := 17) 0 dX3_forget_17 rfl rfl ?_
        refine a_get C (pc := 18) 0 1 inW_X3 rfl rfl (Nat.le_of_ble_eq_true rfl) wF_X3_17 rfl rfl dX3_forget_18 ?_
        refine a_iload_n C (pc := 21) 2 dX3_forget_21 rfl rfl ?_
        refine a_iconst C (pc := 22) dX3_forget_22 ic_0 ?_
        refine a_iast C (pc := 23) (ws1 := [(h0, oX3 d0 v_latest), ((d0 1), aI cs 3 (upd v_number (l2 : Int32).toNatClampNeg 0))]) 1 rfl h.1 dX3_forget_23 rfl ?_
        replace h := h.2
        refine a_iinc C (pc := 24) (lv1 := [(0, .ref h0), (1, .int l1), (2, .int (l2 + 1))]) 2 [1, 2, 0] dX3_forget_24 rfl (congrArg (fun z => l2 + z) ic_1) (by decide) rfl ?_
        refine a_goto C (pc := 27) 2 dX3_forget_27 (by decide) ?_
        exact ih (upd v_number (l2 : Int32).toNatClampNeg 0) l1 (l2 + 1) h hK_30
set_option maxRecDepth 100000 in
set_option maxHeartbeats 4000000 in
theorem m_X3_forget (Lx : Launch) (Dx : va_G) (cs : Nat → ClassId) (h0 : Nat) (d0 : Nat → Nat) (v_latest : Int32) (v_number : Nat → Int32) (l1 : Int32) (Φ : (Nat → Int32) → Prop) (h : P_X3_forget v_number l1 Φ) : XMet Lx Dx cs yX3_forget cX3_forget 3 none 0 0 0 0 [.ref h0, .int l1] [(h0, oX3 d0 v_latest), ((d0 1), aI cs 3 v_number)] (R_X3_forget cs h0 d0 v_latest Φ) (fun _ _ => False) := by
  refine XMet.of (own := RX3) (nm := "forget") (by decide) rfl rfl (Nat.le_of_ble_eq_true rfl) (fun Γ C => ?_)
  unfold P_X3_forget at h
  refine a_iconst C (pc := 0) dX3_forget_0 ic_0 ?_
  refine a_istore_n C (pc := 1) (lv1 := [(0, .ref h0), (1, .int l1), (2, .int 0)]) [1, 2, 0] dX3_forget_1 rfl (by decide) rfl ?_
  obtain ⟨n0, h⟩ := h
  refine w_X3_forget_2 C (Nat.le_of_ble_eq_true rfl) (Nat.le_of_ble_eq_true rfl) n0 v_number l1 0 h ?_
  intro v_number_2 h
  exact a_return C (pc := 30) rfl dX3_forget_30 (Nat.le_of_ble_eq_true rfl) (Nat.le_of_ble_eq_true rfl) ⟨_, rfl, rfl, h⟩
set_option maxRecDepth 100000 in
set_option maxHeartbeats 4000000 in
theorem m_X3_release (Lx : Launch) (Dx : va_G) (cs : Nat → ClassId) (h0 : Nat) (d0 : Nat → Nat) (v_latest : Int32) (v_held : Nat → Int32) (v_number : Nat → Int32) (l1 : Int32) (Φ : Int32 → (Nat → Int32) → (Nat → Int32) → Prop) (h : P_X3_release v_latest v_held v_number l1 Φ) : XMet Lx Dx cs yX3_release cX3_release 3 (some .boolean) 1 22 0 0 [.ref h0, .int l1] [(h0, oX3 d0 v_latest), ((d0 3), aI cs 4 v_held), ((d0 1), aI cs 3 v_number)] (R_X3_release cs h0 d0 v_latest Φ) (fun _ _ => False) := by
  refine XMet.of (own := RX3) (nm := "release") (by decide) rfl rfl (Nat.le_of_ble_eq_true rfl) (fun Γ C => ?_)
  unfold P_X3_release at h
  refine a_aload_n C (pc := 0) 0 dX3_release_0 rfl rfl ?_
  refine a_get C (pc := 1) 0 3 inW_X3 rfl rfl (Nat.le_of_ble_eq_true rfl) wF_X3_26 rfl rfl dX3_release_1 ?_
  refine a_iload_n C (pc := 4) 1 dX3_release_4 rfl rfl ?_
  refine a_iald C (pc := 5) 1 rfl h.1 dX3_release_5 ?_
  replace h := h.2
  refine a_istore_n C (pc := 6) (lv1 := [(0, .ref h0), (1, .int l1), (2, .int (v_held (l1 : Int32).toNatClampNeg))]) [1, 2, 0] dX3_release_6 rfl (by decide) rfl ?_
  refine a_iload_n C (pc := 7) 2 dX3_release_7 rfl rfl ?_
  refine a_iconst C (pc := 8) dX3_release_8 ic_m1 ?_
  refine a_icmp_ne C (pc := 9) 14 dX3_release_9 (by decide) (fun hc => ?_) (fun hc => ?_)
  · have h := h.1 hc
    refine a_aload_n C (pc := 14) 0 dX3_release_14 rfl rfl ?_
    refine a_get C (pc := 15) 0 3 inW_X3 rfl rfl (Nat.le_of_ble_eq_true rfl) wF_X3_26 rfl rfl dX3_release_15 ?_
    refine a_iload_n C (pc := 18) 1 dX3_release_18 rfl rfl ?_
    refine a_iconst C (pc := 19) dX3_release_19 ic_m1 ?_
    refine a_iast C (pc := 20) (ws1 := [(h0, oX3 d0 v_latest), ((d0 3), aI cs 4 (upd v_held (l1 : Int32).toNatClampNeg (-1))), ((d0 1), aI cs 3 v_number)]) 1 rfl h.1 dX3_release_20 rfl ?_
    replace h := h.2
    refine a_iload_n C (pc := 21) 2 dX3_release_21 rfl rfl ?_
    refine a_aload_n C (pc := 22) 0 dX3_release_22 rfl rfl ?_
    refine a_get C (pc := 23) 0 4 inW_X3 rfl rfl (Nat.le_of_ble_eq_true rfl) wF_X3_29 rfl rfl dX3_release_23 ?_
    refine a_icmp_eq C (pc := 26) 42 dX3_release_26 (by decide) (fun hc => ?_) (fun hc => ?_)
    · have h := h.1 hc
      refine a_iconst C (pc := 42) dX3_release_42 ic_1 ?_
      exact a_zreturn C (pc := 43) rfl rfl dX3_release_43 (Nat.le_of_ble_eq_true rfl) (Nat.le_of_ble_eq_true rfl) ⟨_, _, _, rfl, rfl, h⟩
    · have h := h.2 hc
      refine a_aload_n C (pc := 29) 0 dX3_release_29 rfl rfl ?_
      refine a_iload_n C (pc := 30) 2 dX3_release_30 rfl rfl ?_
      refine a_callV C (pc := 31) (av := [.int (v_held (l1 : Int32).toNatClampNeg)]) (wr := [((d0 1), aI cs 3 v_number)]) (m_X3_isHeld Lx Dx cs h0 d0 v_latest (upd v_held (l1 : Int32).toNatClampNeg (-1)) (v_held (l1 : Int32).toNatClampNeg) _ h) [0, 1] [2] rfl rfl (by decide) (by decide) (by decide) wM_X3_33 wb_X3_isHeld hy_X3_isHeld (q0 := 0) rfl rfl rfl ⟨Nat.le_of_ble_eq_true rfl, Nat.le_of_ble_eq_true rfl⟩ (Nat.le_of_ble_eq_true rfl) (Nat.le_of_ble_eq_true rfl) (Nat.le_of_ble_eq_true rfl) rfl dX3_release_31 (fun v w1 hw => ?_) [] rfl (fun _ _ h => h.elim)
      obtain ⟨r_1, rfl, rfl, h⟩ := hw
      refine a_ws (st1 := [.int r_1]) (ws1 := [(h0, oX3 d0 v_latest), ((d0 3), aI cs 4 (upd v_held (l1 : Int32).toNatClampNeg (-1))), ((d0 1), aI cs 3 v_number)]) 0 0 34 [1, 2, 0] rfl rfl rfl rfl (by decide) rfl ?_
      refine a_if_ne C (pc := 34) 42 dX3_release_34 (by decide) (fun hc => ?_) (fun hc => ?_)
      · have h := h.1 hc
        refine a_iconst C (pc := 42) dX3_release_42 ic_1 ?_
        exact a_zreturn C (pc := 43) rfl rfl dX3_release_43 (Nat.le_of_ble_eq_true rfl) (Nat.le_of_ble_eq_true rfl) ⟨_, _, _, rfl, rfl, h⟩
      · have h := h.2 hc
        refine a_aload_n C (pc := 37) 0 dX3_release_37 rfl rfl ?_
        refine a_iload_n C (pc := 38) 2 dX3_release_38 rfl rfl ?_
        refine a_callV C (pc := 39) (av := [.int (v_held (l1 : Int32).toNatClampNeg)]) (wr := [((d0 3), aI cs 4 (upd v_held (l1 : Int32).toNatClampNeg (-1)))]) (m_X3_forget Lx Dx cs h0 d0 v_latest v_number (v_held (l1 : Int32).toNatClampNeg) _ h) [0, 2] [1] rfl rfl (by decide) (by decide) (by decide) wM_X3_37 wb_X3_forget hy_X3_forget (q0 := 0) rfl rfl rfl ⟨Nat.le_of_ble_eq_true rfl, Nat.le_of_ble_eq_true rfl⟩ (Nat.le_of_ble_eq_true rfl) (Nat.le_of_ble_eq_true rfl) (Nat.le_of_ble_eq_true rfl) rfl dX3_release_39 (fun v w1 hw => ?_) [] rfl (fun _ _ h => h.elim)
        obtain ⟨v_number_2, rfl, rfl, h⟩ := hw
        refine a_ws (st1 := []) (ws1 := [(h0, oX3 d0 v_latest), ((d0 3), aI cs 4 (upd v_held (l1 : Int32).toNatClampNeg (-1))), ((d0 1), aI cs 3 v_number_2)]) 0 0 42 [1, 0, 2] rfl rfl rfl rfl (by decide) rfl ?_
        refine a_iconst C (pc := 42) dX3_release_42 ic_1 ?_
        exact a_zreturn C (pc := 43) rfl rfl dX3_release_43 (Nat.le_of_ble_eq_true rfl) (Nat.le_of_ble_eq_true rfl) ⟨_, _, _, rfl, rfl, h⟩
  · have h := h.2 hc
    refine a_iconst C (pc := 12) dX3_release_12 ic_0 ?_
    exact a_zreturn C (pc := 13) rfl rfl dX3_release_13 (Nat.le_of_ble_eq_true rfl) (Nat.le_of_ble_eq_true rfl) ⟨_, _, _, rfl, rfl, h⟩
set_option maxRecDepth 100000 in
set_option maxHeartbeats 4000000 in
theorem m_X8_close (Lx : Launch) (Dx : va_G) (cs : Nat → ClassId) (h0 : Nat) (hdr : Nat) (d0 : Nat → Nat) (d_generations : Nat → Nat) (v_ticks : Int64) (v_generations_latest : Int32) (v_generations_held : Nat → Int32) (v_generations_number : Nat → Int32) (l1 : Int32) (Φ : Int32 → (Nat → Int32) → (Nat → Int32) → Prop) (X : String → (Nat → Int32) → (Nat → Int32) → Prop) (h : P_X8_close v_generations_latest v_generations_held v_generations_number l1 Φ X) : XMet Lx Dx cs yX8_close cX8_close 2 (some .boolean) 7 106 1 6 [.ref h0, .int l1] [(h0, oX8 d0 hdr v_ticks), ((d0 5), oX3 d_generations v_generations_latest), ((d_generations 3), aI cs 4 v_generations_held), ((d_generations 1), aI cs 3 v_generations_number)] (R_X8_close cs h0 hdr d0 d_generations v_ticks v_generations_latest Φ) (Y_X8_close cs h0 hdr d0 d_generations v_ticks v_generations_latest X) := by
  refine XMet.of (own := RX8) (nm := "close") (by decide) rfl rfl (Nat.le_of_ble_eq_true rfl) (fun Γ C => ?_)
  unfold P_X8_close at h
  refine a_aload_n C (pc := 0) 0 dX8_close_0 rfl rfl ?_
  refine a_iload_n C (pc := 1) 1 dX8_close_1 rfl rfl ?_
  refine a_callV C (pc := 2) (av := [.int l1]) (wr := [(h0, oX8 d0 hdr v_ticks), ((d0 5), oX3 d_generations v_generations_latest), ((d_generations 3), aI cs 4 v_generations_held), ((d_generations 1), aI cs 3 v_generations_number)]) (m_X8_requireReader Lx Dx cs h0 l1 _ _ h) [] [0, 1, 2, 3] rfl rfl (by decide) (by decide) (by decide) wM_X8_165 wb_X8_requireReader hy_X8_requireReader (q0 := 0) rfl rfl rfl ⟨Nat.le_of_ble_eq_true rfl, Nat.le_of_ble_eq_true rfl⟩ (Nat.le_of_ble_eq_true rfl) (Nat.le_of_ble_eq_true rfl) (Nat.le_of_ble_eq_true rfl) rfl dX8_close_2 (fun v w1 hw => ?_) [0, 1, 2, 3] (by decide) (fun E w1 hx => by obtain ⟨rfl, hx⟩ := hx; exact ⟨[(h0, oX8 d0 hdr v_ticks), ((d0 5), oX3 d_generations v_generations_latest), ((d_generations 3), aI cs 4 v_generations_held), ((d_generations 1), aI cs 3 v_generations_number)], rfl, _, _, rfl, hx⟩)
  obtain ⟨rfl, rfl, h⟩ := hw
  refine a_ws (st1 := []) (ws1 := [(h0, oX8 d0 hdr v_ticks), ((d0 5), oX3 d_generations v_generations_latest), ((d_generations 3), aI cs 4 v_generations_held), ((d_generations 1), aI cs 3 v_generations_number)]) 1 6 5 [0, 1, 2, 3] rfl rfl rfl rfl (by decide) rfl ?_
  refine a_aload_n C (pc := 5) 0 dX8_close_5 rfl rfl ?_
  refine a_get C (pc := 6) 0 5 inW_X8 rfl rfl (Nat.le_of_ble_eq_true rfl) wF_X8_45 rfl rfl dX8_close_6 ?_
  refine a_iload_n C (pc := 9) 1 dX8_close_9 rfl rfl ?_
  refine a_callV C (pc := 10) (av := [.int l1]) (wr := [(h0, oX8 d0 hdr v_ticks)]) (m_X3_release Lx Dx cs (d0 5) d_generations v_generations_latest v_generations_held v_generations_number l1 _ h) [1, 2, 3] [0] rfl rfl (by decide) (by decide) (by decide) wM_X8_172 wb_X3_release hy_X3_release (q0 := 1) rfl rfl rfl ⟨Nat.le_of_ble_eq_true rfl, Nat.le_of_ble_eq_true rfl⟩ (Nat.le_of_ble_eq_true rfl) (Nat.le_of_ble_eq_true rfl) (Nat.le_of_ble_eq_true rfl) rfl dX8_close_10 (fun v w1 hw => ?_) [] rfl (fun _ _ h => h.elim)
  obtain ⟨r_1, v_generations_held_2, v_generations_number_3, rfl, rfl, h⟩ := hw
  refine a_ws (st1 := [.int r_1]) (ws1 := [(h0, oX8 d0 hdr v_ticks), ((d0 5), oX3 d_generations v_generations_latest), ((d_generations 3), aI cs 4 v_generations_held_2), ((d_generations 1), aI cs 3 v_generations_number_3)]) 1 6 13 [0, 1, 2, 3] rfl rfl rfl rfl (by decide) rfl ?_
  exact a_zreturn C (pc := 13) rfl h.1.1 dX8_close_13 (Nat.le_of_ble_eq_true rfl) (Nat.le_of_ble_eq_true rfl) ⟨_, _, _, rfl, rfl, h.2⟩
set_option maxRecDepth 100000 in
set_option maxHeartbeats 4000000 in
theorem m_X8_requireOpen (Lx : Launch) (Dx : va_G) (cs : Nat → ClassId) (h0 : Nat) (hdr : Nat) (d0 : Nat → Nat) (d_generations : Nat → Nat) (v_ticks : Int64) (v_generations_latest : Int32) (v_generations_held : Nat → Int32) (l1 : Int32) (Φ : Prop) (X : String → Prop) (h : P_X8_requireOpen v_generations_held l1 Φ X) : XMet Lx Dx cs yX8_requireOpen cX8_requireOpen 2 none 6 85 1 6 [.ref h0, .int l1] [(h0, oX8 d0 hdr v_ticks), ((d0 5), oX3 d_generations v_generations_latest), ((d_generations 3), aI cs 4 v_generations_held)] (R_X8_requireOpen cs h0 hdr d0 d_generations v_ticks v_generations_latest v_generations_held Φ) (Y_X8_requireOpen cs h0 hdr d0 d_generations v_ticks v_generations_latest v_generations_held X) := by
  refine XMet.of (own := RX8) (nm := "requireOpen") (by decide) rfl rfl (Nat.le_of_ble_eq_true rfl) (fun Γ C => ?_)
  unfold P_X8_requireOpen at h
  refine a_aload_n C (pc := 0) 0 dX8_requireOpen_0 rfl rfl ?_
  refine a_get C (pc := 1) 0 5 inW_X8 rfl rfl (Nat.le_of_ble_eq_true rfl) wF_X8_45 rfl rfl dX8_requireOpen_1 ?_
  refine a_get C (pc := 4) 1 3 inW_X3 rfl rfl (Nat.le_of_ble_eq_true rfl) wF_X8_168 rfl rfl dX8_requireOpen_4 ?_
  refine a_iload_n C (pc := 7) 1 dX8_requireOpen_7 rfl rfl ?_
  refine a_iald C (pc := 8) 2 rfl h.1 dX8_requireOpen_8 ?_
  replace h := h.2
  refine a_iconst C (pc := 9) dX8_requireOpen_9 ic_m1 ?_
  refine a_icmp_ne C (pc := 10) 21 dX8_requireOpen_10 (by decide) (fun hc => ?_) (fun hc => ?_)
  · have h := h.1 hc
    exact a_return C (pc := 21) rfl dX8_requireOpen_21 (Nat.le_of_ble_eq_true rfl) (Nat.le_of_ble_eq_true rfl) ⟨rfl, rfl, h⟩
  · have h := h.2 hc
    exact a_throw C (pc := 13) (by decide +kernel) wK_X8_74 wI_IllegalStateException atg_X8_76 atn_X8_76 (by decide +kernel) dX8_requireOpen_13 dX8_requireOpen_16 dX8_requireOpen_17 dX8_requireOpen_20 (Nat.le_of_ble_eq_true rfl) (Nat.le_of_ble_eq_true rfl) (Nat.le_of_ble_eq_true rfl) (Nat.le_of_ble_eq_true rfl) ⟨rfl, h⟩
set_option maxRecDepth 100000 in
set_option maxHeartbeats 4000000 in
theorem w_X3_heldBy_2 {Γ : XG} {Lx : Launch} {Dx : va_G} {cs : Nat → ClassId} {h0 : Nat} {d0 : Nat → Nat} {v_latest : Int32} {v_number : Nat → Int32} {v_held : Nat → Int32} {v_kept : Nat → Option Nat} {K_44 : Prop} {Φ : Nat → Prop} {k n9 : Nat} (C : CX Γ Lx Dx cs cX3_heldBy RX3 "heldBy" 3 (some (.object "ImpactShelf$Index")) 0 0 0 0 (qEC cs 0 0 [] (R_X3_heldBy cs h0 d0 v_latest v_number v_held v_kept Φ) (fun _ _ => False))) (hkm : k ≤ 0) (hnm : n9 ≤ 0) : ∀ n : Nat, ∀ (l1 : Int32) (l2 : Int32), L_X3_heldBy_2 n d0 v_number v_held v_kept l1 l2 K_44 Φ → (K_44 → AW Γ k n9 44 [(0, .ref h0)] [] [(h0, oX3 d0 v_latest), ((d0 1), aI cs 3 v_number), ((d0 3), aI cs 4 v_held), ((d0 0), aQ cs 3 v_kept)]) → AW Γ k n9 2 [(0, .ref h0), (1, .int l1), (2, .int l2)] [] [(h0, oX3 d0 v_latest), ((d0 1), aI cs 3 v_number), ((d0 3), aI cs 4 v_held), ((d0 0), aQ cs 3 v_kept)] := by
  intro n
  induction n with
  | zero =>
    intro l1 l2 h
    exact False.elim h
  | succ n ih =>
    intro l1 l2 h hK_44
    rw [L_X3_heldBy_2] at h
    refine a_iload_n C (pc := 2) 2 dX3_heldBy_2 rfl rfl ?_
    refine a_iconst C (pc := 3) dX3_heldBy_3 ic_3 ?_
    refine a_icmp_ge C (pc := 4) 44 dX3_heldBy_4 (by decide) (fun hc => ?_) (fun hc => ?_)
    · have h := h.1 hc
      refine a_lv (lv1 := [(0, .ref h0)]) [0] rfl ?_
      exact hK_44 h
    · have h := h.2 hc
      refine a_aload_n C (pc := 7) 0 dX3_heldBy_7 rfl rfl ?_
      refine a_get C (pc := 8) 0 1 inW_X3 rfl rfl (Nat.le_of_ble_eq_true rfl) wF_X3_17 rfl rfl dX3_heldBy_8 ?_
      refine a_iload_n C (pc := 11) 2 dX3_heldBy_11 rfl rfl ?_
      refine a_iald C (pc := 12) 1 rfl h.1 dX3_heldBy_12 ?_
      replace h := h.2
      refine a_if_eq C (pc := 13) 38 dX3_heldBy_13 (by decide) (fun hc => ?_) (fun hc => ?_)
      · have h := h.1 hc
        refine a_iinc C (pc := 38) (lv1 := [(0, .ref h0), (1, .int l1), (2, .int (l2 + 1))]) 2 [1, 2, 0] dX3_heldBy_38 rfl (congrArg (fun z => l2 + z) ic_1) (by decide) rfl ?_
        refine a_goto C (pc := 41) 2 dX3_heldBy_41 (by decide) ?_
        exact ih l1 (l2 + 1) h hK_44
      · have h := h.2 hc
        refine a_aload_n C (pc := 16) 0 dX3_heldBy_16 rfl rfl ?_
        refine a_get C (pc := 17) 0 1 inW_X3 rfl rfl (Nat.le_of_ble_eq_true rfl) wF_X3_17 rfl rfl dX3_heldBy_17 ?_
        refine a_iload_n C (pc := 20) 2 dX3_heldBy_20 rfl rfl ?_
        refine a_iald C (pc := 21) 1 rfl h.1 dX3_heldBy_21 ?_
        replace h := h.2
        refine a_aload_n C (pc := 22) 0 dX3_heldBy_22 rfl rfl ?_
        refine a_get C (pc := 23) 0 3 inW_X3 rfl rfl (Nat.le_of_ble_eq_true rfl) wF_X3_26 rfl rfl dX3_heldBy_23 ?_
        refine a_iload_n C (pc := 26) 1 dX3_heldBy_26 rfl rfl ?_
        refine a_iald C (pc := 27) 2 rfl h.1 dX3_heldBy_27 ?_
        replace h := h.2
        refine a_icmp_ne C (pc := 28) 38 dX3_heldBy_28 (by decide) (fun hc => ?_) (fun hc => ?_)
        · have h := h.1 hc
          refine a_iinc C (pc := 38) (lv1 := [(0, .ref h0), (1, .int l1), (2, .int (l2 + 1))]) 2 [1, 2, 0] dX3_heldBy_38 rfl (congrArg (fun z => l2 + z) ic_1) (by decide) rfl ?_
          refine a_goto C (pc := 41) 2 dX3_heldBy_41 (by decide) ?_
          exact ih l1 (l2 + 1) h hK_44
        · have h := h.2 hc
          refine a_aload_n C (pc := 31) 0 dX3_heldBy_31 rfl rfl ?_
          refine a_get C (pc := 32) 0 0 inW_X3 rfl rfl (Nat.le_of_ble_eq_true rfl) wF_X3_11 rfl rfl dX3_heldBy_32 ?_
          refine a_iload_n C (pc := 35) 2 dX3_heldBy_35 rfl rfl ?_
          obtain ⟨hi9, ra_1, ha9, h⟩ := h
          refine a_aldq C (pc := 36) 3 rfl hi9 (v := .ref ra_1) (by rw [ha9]; rfl) dX3_heldBy_36 ?_
          exact a_areturn C (pc := 37) rfl dX3_heldBy_37 hkm hnm ⟨_, rfl, rfl, h⟩
set_option maxRecDepth 100000 in
set_option maxHeartbeats 4000000 in
theorem m_X3_heldBy (Lx : Launch) (Dx : va_G) (cs : Nat → ClassId) (h0 : Nat) (d0 : Nat → Nat) (v_latest : Int32) (v_number : Nat → Int32) (v_held : Nat → Int32) (v_kept : Nat → Option Nat) (l1 : Int32) (Φ : Nat → Prop) (h : P_X3_heldBy d0 v_number v_held v_kept l1 Φ) : XMet Lx Dx cs yX3_heldBy cX3_heldBy 3 (some (.object "ImpactShelf$Index")) 0 0 0 0 [.ref h0, .int l1] [(h0, oX3 d0 v_latest), ((d0 1), aI cs 3 v_number), ((d0 3), aI cs 4 v_held), ((d0 0), aQ cs 3 v_kept)] (R_X3_heldBy cs h0 d0 v_latest v_number v_held v_kept Φ) (fun _ _ => False) := by
  refine XMet.of (own := RX3) (nm := "heldBy") (by decide) rfl rfl (Nat.le_of_ble_eq_true rfl) (fun Γ C => ?_)
  unfold P_X3_heldBy at h
  refine a_iconst C (pc := 0) dX3_heldBy_0 ic_0 ?_
  refine a_istore_n C (pc := 1) (lv1 := [(0, .ref h0), (1, .int l1), (2, .int 0)]) [1, 2, 0] dX3_heldBy_1 rfl (by decide) rfl ?_
  obtain ⟨n0, h⟩ := h
  refine w_X3_heldBy_2 C (Nat.le_of_ble_eq_true rfl) (Nat.le_of_ble_eq_true rfl) n0 l1 0 h ?_
  intro h
  refine a_aload_n C (pc := 44) 0 dX3_heldBy_44 rfl rfl ?_
  refine a_get C (pc := 45) 0 2 inW_X3 rfl rfl (Nat.le_of_ble_eq_true rfl) wF_X3_22 rfl rfl dX3_heldBy_45 ?_
  exact a_areturn C (pc := 48) rfl dX3_heldBy_48 (Nat.le_of_ble_eq_true rfl) (Nat.le_of_ble_eq_true rfl) ⟨_, rfl, rfl, h⟩
set_option maxRecDepth 100000 in
set_option maxHeartbeats 4000000 in
theorem m_X7_has (Lx : Launch) (Dx : va_G) (cs : Nat → ClassId) (h0 : Nat) (d0 : Nat → Nat) (v_distinct : Int32) (v_total : Int32) (v_term : Nat → Int64) (l1 : Int64) (Φ : Int32 → Prop) (h : P_X7_has v_distinct v_term l1 Φ) : XMet Lx Dx cs yX7_has cX7_has 3 (some .boolean) 1 23 0 0 [.ref h0, .long l1] [(h0, oX7 d0 v_distinct v_total), ((d0 0), aJ cs 1500 v_term)] (R_X7_has cs h0 d0 v_distinct v_total v_term Φ) (fun _ _ => False) := by
  refine XMet.of (own := RX7) (nm := "has") (by decide) rfl rfl (Nat.le_of_ble_eq_true rfl) (fun Γ C => ?_)
  unfold P_X7_has at h
  refine a_aload_n C (pc := 0) 0 dX7_has_0 rfl rfl ?_
  refine a_lload_n C (pc := 1) 1 dX7_has_1 rfl rfl ?_
  refine a_callV C (pc := 2) (av := [.long l1]) (wr := []) (m_X7_find Lx Dx cs h0 d0 v_distinct v_total v_term l1 _ h) [0, 1] [] rfl rfl (by decide) (by decide) (by decide) wM_X7_47 wb_X7_find hy_X7_find (q0 := 0) rfl rfl rfl ⟨Nat.le_of_ble_eq_true rfl, Nat.le_of_ble_eq_true rfl⟩ (Nat.le_of_ble_eq_true rfl) (Nat.le_of_ble_eq_true rfl) (Nat.le_of_ble_eq_true rfl) rfl dX7_has_2 (fun v w1 hw => ?_) [] rfl (fun _ _ h => h.elim)
  obtain ⟨r_1, rfl, rfl, h⟩ := hw
  refine a_ws (st1 := [.int r_1]) (ws1 := [(h0, oX7 d0 v_distinct v_total), ((d0 0), aJ cs 1500 v_term)]) 0 0 5 [0, 1] rfl rfl rfl rfl (by decide) rfl ?_
  refine a_aload_n C (pc := 5) 0 dX7_has_5 rfl rfl ?_
  refine a_get C (pc := 6) 0 2 inW_X7 rfl rfl (Nat.le_of_ble_eq_true rfl) wF_X7_19 rfl rfl dX7_has_6 ?_
  refine a_icmp_ge C (pc := 9) 16 dX7_has_9 (by decide) (fun hc => ?_) (fun hc => ?_)
  · have h := h.1 hc
    refine a_iconst C (pc := 16) dX7_has_16 ic_0 ?_
    exact a_zreturn C (pc := 17) rfl rfl dX7_has_17 (Nat.le_of_ble_eq_true rfl) (Nat.le_of_ble_eq_true rfl) ⟨_, rfl, rfl, h⟩
  · have h := h.2 hc
    refine a_iconst C (pc := 12) dX7_has_12 ic_1 ?_
    refine a_goto C (pc := 13) 17 dX7_has_13 (by decide) ?_
    exact a_zreturn C (pc := 17) rfl rfl dX7_has_17 (Nat.le_of_ble_eq_true rfl) (Nat.le_of_ble_eq_true rfl) ⟨_, rfl, rfl, h⟩
set_option maxRecDepth 100000 in
set_option maxHeartbeats 4000000 in
theorem w_X6_pick_5 {Γ : XG} {Lx : Launch} {Dx : va_G} {cs : Nat → ClassId} {h0 : Nat} {h1 : Nat} {h2 : Nat} {d1 : Nat → Nat} {d2 : Nat → Nat} {d0 : Nat → Nat} {v_a1_bits : Int32} {v_a1_documents : Int32} {v_a1_terms : Int32} {v_a1_segments : Int32} {v_a1_postings : Int32} {v_a1_term : Nat → Int64} {v_a2_distinct : Int32} {v_a2_total : Int32} {v_a2_term : Nat → Int64} {v_terms : Int32} {v_segments : Int32} {v_doneSegments : Int32} {v_donePostings : Int32} {v_postings : Int32} {v_why : Int32} {v_hits : Int32} {K_51 : Int32 → (Nat → Int32) → Int32 → Prop} {Φ : Int32 → Int32 → (Nat → Int32) → Prop} {k n9 : Nat} (C : CX Γ Lx Dx cs cX6_pick RX6 "pick" 5 (some .int) 2 45 0 0 (qEC cs 0 0 [] (R_X6_pick cs h0 h1 h2 d1 d2 d0 v_a1_bits v_a1_documents v_a1_terms v_a1_segments v_a1_postings v_a1_term v_a2_distinct v_a2_total v_a2_term v_terms v_segments v_doneSegments v_donePostings v_postings v_why v_hits Φ) (fun _ _ => False))) (hkm : k ≤ 0) (hnm : n9 ≤ 0) : ∀ n : Nat, ∀ (v_pickedTerms : Int32) (v_picked : Nat → Int32) (l3 : Int32) (l4 : Int32), L_X6_pick_5 n v_a1_terms v_a1_term v_a2_distinct v_a2_term v_pickedTerms v_picked l3 l4 K_51 Φ → (∀ (v_pickedTerms_2 : Int32) (v_picked_3 : Nat → Int32) (l3_4 : Int32), K_51 v_pickedTerms_2 v_picked_3 l3_4 → AW Γ k n9 51 [(0, .ref h0), (3, .int l3_4)] [] [(h1, oX4 d1 v_a1_bits v_a1_documents v_a1_terms v_a1_segments v_a1_postings), ((d1 0), aJ cs 64 v_a1_term), (h2, oX7 d2 v_a2_distinct v_a2_total), ((d2 0), aJ cs 1500 v_a2_term), (h0, oX6 d0 v_pickedTerms_2 v_terms v_segments v_doneSegments v_donePostings v_postings v_why v_hits), ((d0 0), aI cs 8 v_picked_3)]) → AW Γ k n9 5 [(0, .ref h0), (1, .ref h1), (2, .ref h2), (3, .int l3), (4, .int l4)] [] [(h1, oX4 d1 v_a1_bits v_a1_documents v_a1_terms v_a1_segments v_a1_postings), ((d1 0), aJ cs 64 v_a1_term), (h2, oX7 d2 v_a2_distinct v_a2_total), ((d2 0), aJ cs 1500 v_a2_term), (h0, oX6 d0 v_pickedTerms v_terms v_segments v_doneSegments v_donePostings v_postings v_why v_hits), ((d0 0), aI cs 8 v_picked)] := by
  intro n
  induction n with
  | zero =>
    intro v_pickedTerms v_picked l3 l4 h
    exact False.elim h
  | succ n ih =>
    intro v_pickedTerms v_picked l3 l4 h hK_51
    rw [L_X6_pick_5] at h
    refine a_iload C (pc := 5) 4 dX6_pick_5 rfl ?_
    refine a_aload_n C (pc := 7) 1 dX6_pick_7 rfl rfl ?_
    refine a_get C (pc := 8) 0 7 inW_X4 rfl rfl (Nat.le_of_ble_eq_true rfl) wF_X6_61 rfl rfl dX6_pick_8 ?_
    refine a_icmp_ge C (pc := 11) 51 dX6_pick_11 (by decide) (fun hc => ?_) (fun hc => ?_)
    · have h := h.1 hc
      refine a_lv (lv1 := [(0, .ref h0), (3, .int l3)]) [0, 3] rfl ?_
      exact hK_51 v_pickedTerms v_picked l3 h
    · have h := h.2 hc
      refine a_aload_n C (pc := 14) 2 dX6_pick_14 rfl rfl ?_
      refine a_aload_n C (pc := 15) 1 dX6_pick_15 rfl rfl ?_
      refine a_get C (pc := 16) 0 0 inW_X4 rfl rfl (Nat.le_of_ble_eq_true rfl) wF_X6_64 rfl rfl dX6_pick_16 ?_
      refine a_iload C (pc := 19) 4 dX6_pick_19 rfl ?_
      refine a_lald C (pc := 21) 1 rfl h.1 dX6_pick_21 ?_
      replace h := h.2
      refine a_callV C (pc := 22) (av := [.long (v_a1_term (l4 : Int32).toNatClampNeg)]) (wr := [(h1, oX4 d1 v_a1_bits v_a1_documents v_a1_terms v_a1_segments v_a1_postings), ((d1 0), aJ cs 64 v_a1_term), (h0, oX6 d0 v_pickedTerms v_terms v_segments v_doneSegments v_donePostings v_postings v_why v_hits), ((d0 0), aI cs 8 v_picked)]) (m_X7_has Lx Dx cs h2 d2 v_a2_distinct v_a2_total v_a2_term (v_a1_term (l4 : Int32).toNatClampNeg) _ h) [2, 3] [0, 1, 4, 5] rfl rfl (by decide) (by decide) (by decide) wM_X6_68 wb_X7_has hy_X7_has (q0 := 2) rfl rfl rfl ⟨Nat.le_of_ble_eq_true rfl, Nat.le_of_ble_eq_true rfl⟩ (Nat.le_of_ble_eq_true rfl) hkm hnm rfl dX6_pick_22 (fun v w1 hw => ?_) [] rfl (fun _ _ h => h.elim)
      obtain ⟨r_1, rfl, rfl, h⟩ := hw
      refine a_ws (st1 := [.int r_1]) (ws1 := [(h1, oX4 d1 v_a1_bits v_a1_documents v_a1_terms v_a1_segments v_a1_postings), ((d1 0), aJ cs 64 v_a1_term), (h2, oX7 d2 v_a2_distinct v_a2_total), ((d2 0), aJ cs 1500 v_a2_term), (h0, oX6 d0 v_pickedTerms v_terms v_segments v_doneSegments v_donePostings v_postings v_why v_hits), ((d0 0), aI cs 8 v_picked)]) k n9 25 [0, 1, 4, 5, 2, 3] rfl rfl rfl rfl (by decide) rfl ?_
      refine a_if_eq C (pc := 25) 45 dX6_pick_25 (by decide) (fun hc => ?_) (fun hc => ?_)
      · have h := h.1 hc
        refine a_iinc C (pc := 45) (lv1 := [(0, .ref h0), (1, .ref h1), (2, .ref h2), (3, .int l3), (4, .int (l4 + 1))]) 4 [1, 2, 3, 4, 0] dX6_pick_45 rfl (congrArg (fun z => l4 + z) ic_1) (by decide) rfl ?_
        refine a_goto C (pc := 48) 5 dX6_pick_48 (by decide) ?_
        exact ih v_pickedTerms v_picked l3 (l4 + 1) h hK_51
      · have h := h.2 hc
        refine a_iload_n C (pc := 28) 3 dX6_pick_28 rfl rfl ?_
        refine a_bipush C (pc := 29) dX6_pick_29 bp_8 ?_
        refine a_icmp_ge C (pc := 31) 42 dX6_pick_31 (by decide) (fun hc => ?_) (fun hc => ?_)
        · have h := h.1 hc
          refine a_iinc C (pc := 42) (lv1 := [(0, .ref h0), (1, .ref h1), (2, .ref h2), (3, .int (l3 + 1)), (4, .int l4)]) 3 [1, 2, 3, 0, 4] dX6_pick_42 rfl (congrArg (fun z => l3 + z) ic_1) (by decide) rfl ?_
          refine a_iinc C (pc := 45) (lv1 := [(0, .ref h0), (1, .ref h1), (2, .ref h2), (3, .int (l3 + 1)), (4, .int (l4 + 1))]) 4 [1, 2, 3, 4, 0] dX6_pick_45 rfl (congrArg (fun z => l4 + z) ic_1) (by decide) rfl ?_
          refine a_goto C (pc := 48) 5 dX6_pick_48 (by decide) ?_
          exact ih v_pickedTerms v_picked (l3 + 1) (l4 + 1) h hK_51
        · have h := h.2 hc
          refine a_aload_n C (pc := 34) 0 dX6_pick_34 rfl rfl ?_
          refine a_get C (pc := 35) 4 0 inW_X6 rfl rfl (Nat.le_of_ble_eq_true rfl) wF_X6_9 rfl rfl dX6_pick_35 ?_
          refine a_iload_n C (pc := 38) 3 dX6_pick_38 rfl rfl ?_
          refine a_iload C (pc := 39) 4 dX6_pick_39 rfl ?_
          refine a_iast C (pc := 41) (ws1 := [(h1, oX4 d1 v_a1_bits v_a1_documents v_a1_terms v_a1_segments v_a1_postings), ((d1 0), aJ cs 64 v_a1_term), (h2, oX7 d2 v_a2_distinct v_a2_total), ((d2 0), aJ cs 1500 v_a2_term), (h0, oX6 d0 v_pickedTerms v_terms v_segments v_doneSegments v_donePostings v_postings v_why v_hits), ((d0 0), aI cs 8 (upd v_picked (l3 : Int32).toNatClampNeg l4))]) 5 rfl h.1 dX6_pick_41 rfl ?_
          replace h := h.2
          refine a_iinc C (pc := 42) (lv1 := [(0, .ref h0), (1, .ref h1), (2, .ref h2), (3, .int (l3 + 1)), (4, .int l4)]) 3 [1, 2, 3, 0, 4] dX6_pick_42 rfl (congrArg (fun z => l3 + z) ic_1) (by decide) rfl ?_
          refine a_iinc C (pc := 45) (lv1 := [(0, .ref h0), (1, .ref h1), (2, .ref h2), (3, .int (l3 + 1)), (4, .int (l4 + 1))]) 4 [1, 2, 3, 4, 0] dX6_pick_45 rfl (congrArg (fun z => l4 + z) ic_1) (by decide) rfl ?_
          refine a_goto C (pc := 48) 5 dX6_pick_48 (by decide) ?_
          exact ih v_pickedTerms (upd v_picked (l3 : Int32).toNatClampNeg l4) (l3 + 1) (l4 + 1) h hK_51
set_option maxRecDepth 100000 in
set_option maxHeartbeats 4000000 in
theorem m_X6_pick (Lx : Launch) (Dx : va_G) (cs : Nat → ClassId) (h0 : Nat) (h1 : Nat) (h2 : Nat) (d1 : Nat → Nat) (d2 : Nat → Nat) (d0 : Nat → Nat) (v_a1_bits : Int32) (v_a1_documents : Int32) (v_a1_terms : Int32) (v_a1_segments : Int32) (v_a1_postings : Int32) (v_a1_term : Nat → Int64) (v_a2_distinct : Int32) (v_a2_total : Int32) (v_a2_term : Nat → Int64) (v_pickedTerms : Int32) (v_terms : Int32) (v_segments : Int32) (v_doneSegments : Int32) (v_donePostings : Int32) (v_postings : Int32) (v_why : Int32) (v_hits : Int32) (v_picked : Nat → Int32) (Φ : Int32 → Int32 → (Nat → Int32) → Prop) (h : P_X6_pick v_a1_terms v_a1_term v_a2_distinct v_a2_term v_pickedTerms v_picked Φ) : XMet Lx Dx cs yX6_pick cX6_pick 5 (some .int) 2 45 0 0 [.ref h0, .ref h1, .ref h2] [(h1, oX4 d1 v_a1_bits v_a1_documents v_a1_terms v_a1_segments v_a1_postings), ((d1 0), aJ cs 64 v_a1_term), (h2, oX7 d2 v_a2_distinct v_a2_total), ((d2 0), aJ cs 1500 v_a2_term), (h0, oX6 d0 v_pickedTerms v_terms v_segments v_doneSegments v_donePostings v_postings v_why v_hits), ((d0 0), aI cs 8 v_picked)] (R_X6_pick cs h0 h1 h2 d1 d2 d0 v_a1_bits v_a1_documents v_a1_terms v_a1_segments v_a1_postings v_a1_term v_a2_distinct v_a2_total v_a2_term v_terms v_segments v_doneSegments v_donePostings v_postings v_why v_hits Φ) (fun _ _ => False) := by
  refine XMet.of (own := RX6) (nm := "pick") (by decide) rfl rfl (Nat.le_of_ble_eq_true rfl) (fun Γ C => ?_)
  unfold P_X6_pick at h
  refine a_iconst C (pc := 0) dX6_pick_0 ic_0 ?_
  refine a_istore_n C (pc := 1) (lv1 := [(0, .ref h0), (1, .ref h1), (2, .ref h2), (3, .int 0)]) [1, 2, 3, 0] dX6_pick_1 rfl (by decide) rfl ?_
  refine a_iconst C (pc := 2) dX6_pick_2 ic_0 ?_
  refine a_istore C (pc := 3) (lv1 := [(0, .ref h0), (1, .ref h1), (2, .ref h2), (3, .int 0), (4, .int 0)]) [1, 2, 3, 4, 0] dX6_pick_3 (by decide) rfl ?_
  obtain ⟨n0, h⟩ := h
  refine w_X6_pick_5 C (Nat.le_of_ble_eq_true rfl) (Nat.le_of_ble_eq_true rfl) n0 v_pickedTerms v_picked 0 0 h ?_
  intro v_pickedTerms_5 v_picked_6 l3_7 h
  refine a_aload_n C (pc := 51) 0 dX6_pick_51 rfl rfl ?_
  refine a_iload_n C (pc := 52) 1 dX6_pick_52 rfl rfl ?_
  refine a_bipush C (pc := 53) dX6_pick_53 bp_8 ?_
  refine a_min C (pc := 55) wM_X6_74 wX_min (Nat.le_of_ble_eq_true rfl) (Nat.le_of_ble_eq_true rfl) (Nat.le_of_ble_eq_true rfl) (Nat.le_of_ble_eq_true rfl) dX6_pick_55 ?_
  refine a_put C (pc := 58) (ws1 := [(h1, oX4 d1 v_a1_bits v_a1_documents v_a1_terms v_a1_segments v_a1_postings), ((d1 0), aJ cs 64 v_a1_term), (h2, oX7 d2 v_a2_distinct v_a2_total), ((d2 0), aJ cs 1500 v_a2_term), (h0, oX6 d0 (imin l3_7 8) v_terms v_segments v_doneSegments v_donePostings v_postings v_why v_hits), ((d0 0), aI cs 8 v_picked_6)]) 4 8 inW_X6 tyX6 tyX6_ok nmX6 rfl rfl (Nat.le_of_ble_eq_true rfl) wF_X6_36 rfl rfl rfl rfl rfl (Nat.le_of_ble_eq_true rfl) dX6_pick_58 rfl ?_
  refine a_iload_n C (pc := 61) 1 dX6_pick_61 rfl rfl ?_
  exact a_ireturn C (pc := 62) rfl dX6_pick_62 (Nat.le_of_ble_eq_true rfl) (Nat.le_of_ble_eq_true rfl) ⟨_, _, _, rfl, rfl, h⟩
set_option maxRecDepth 100000 in
set_option maxHeartbeats 4000000 in
theorem w_J7_fill_53178_5 {Γ : XG} {Lx : Launch} {Dx : va_G} {cs : Nat → ClassId} {n_a0 : Nat} {h0 : Nat} {K_20 : (Nat → Int32) → Prop} {Φ : (Nat → Int32) → Prop} {k n9 : Nat} (C : CX Γ Lx Dx cs cJ7_fill_53178 RJ7 "fill" 4 none 0 0 0 0 (qEC cs 0 0 [] (R_J7_fill_53178 cs n_a0 h0 Φ) (fun _ _ => False))) (hkm : k ≤ 0) (hnm : n9 ≤ 0) : ∀ n : Nat, ∀ (v_a0 : Nat → Int32) (l1 : Int32) (l2 : Int32) (l3 : Int32), L_J7_fill_53178_5 n n_a0 v_a0 l1 l2 l3 K_20 Φ → (∀ (v_a0_1 : Nat → Int32), K_20 v_a0_1 → AW Γ k n9 20 [] [] [(h0, aI cs n_a0 v_a0_1)]) → AW Γ k n9 5 [(0, .ref h0), (1, .int l1), (2, .int l2), (3, .int l3)] [] [(h0, aI cs n_a0 v_a0)] := by
  intro n
  induction n with
  | zero =>
    intro v_a0 l1 l2 l3 h
    exact False.elim h
  | succ n ih =>
    intro v_a0 l1 l2 l3 h hK_20
    rw [L_J7_fill_53178_5] at h
    refine a_iload_n C (pc := 5) 2 dJ7_fill_53178_5 rfl rfl ?_
    refine a_iload_n C (pc := 6) 3 dJ7_fill_53178_6 rfl rfl ?_
    refine a_icmp_ge C (pc := 7) 20 dJ7_fill_53178_7 (by decide) (fun hc => ?_) (fun hc => ?_)
    · have h := h.1 hc
      refine a_lv (lv1 := []) [] rfl ?_
      exact hK_20 v_a0 h
    · have h := h.2 hc
      refine a_aload_n C (pc := 10) 0 dJ7_fill_53178_10 rfl rfl ?_
      refine a_iload_n C (pc := 11) 2 dJ7_fill_53178_11 rfl rfl ?_
      refine a_iload_n C (pc := 12) 1 dJ7_fill_53178_12 rfl rfl ?_
      refine a_iast C (pc := 13) (ws1 := [(h0, aI cs n_a0 (upd v_a0 (l2 : Int32).toNatClampNeg l1))]) 0 rfl h.1 dJ7_fill_53178_13 rfl ?_
      replace h := h.2
      refine a_iinc C (pc := 14) (lv1 := [(0, .ref h0), (1, .int l1), (2, .int (l2 + 1)), (3, .int l3)]) 2 [1, 2, 0, 3] dJ7_fill_53178_14 rfl (congrArg (fun z => l2 + z) ic_1) (by decide) rfl ?_
      refine a_goto C (pc := 17) 5 dJ7_fill_53178_17 (by decide) ?_
      exact ih (upd v_a0 (l2 : Int32).toNatClampNeg l1) l1 (l2 + 1) l3 h hK_20
set_option maxRecDepth 100000 in
set_option maxHeartbeats 4000000 in
theorem m_J7_fill_53178 (Lx : Launch) (Dx : va_G) (cs : Nat → ClassId) (n_a0 : Nat) (h0 : Nat) (v_a0 : Nat → Int32) (l1 : Int32) (Φ : (Nat → Int32) → Prop) (h : P_J7_fill_53178 n_a0 v_a0 l1 Φ) : XMet Lx Dx cs yJ7_fill_53178 cJ7_fill_53178 4 none 0 0 0 0 [.ref h0, .int l1] [(h0, aI cs n_a0 v_a0)] (R_J7_fill_53178 cs n_a0 h0 Φ) (fun _ _ => False) := by
  refine XMet.of (own := RJ7) (nm := "fill") (by decide) rfl rfl (Nat.le_of_ble_eq_true rfl) (fun Γ C => ?_)
  unfold P_J7_fill_53178 at h
  refine a_iconst C (pc := 0) dJ7_fill_53178_0 ic_0 ?_
  refine a_istore_n C (pc := 1) (lv1 := [(0, .ref h0), (1, .int l1), (2, .int 0)]) [1, 2, 0] dJ7_fill_53178_1 rfl (by decide) rfl ?_
  refine a_aload_n C (pc := 2) 0 dJ7_fill_53178_2 rfl rfl ?_
  refine a_alen C (pc := 3) 0 1 rfl rfl rfl dJ7_fill_53178_3 ?_
  refine a_istore_n C (pc := 4) (lv1 := [(0, .ref h0), (1, .int l1), (2, .int 0), (3, .int (Int32.ofNat n_a0))]) [1, 2, 3, 0] dJ7_fill_53178_4 rfl (by decide) rfl ?_
  obtain ⟨n0, h⟩ := h
  refine w_J7_fill_53178_5 C (Nat.le_of_ble_eq_true rfl) (Nat.le_of_ble_eq_true rfl) n0 v_a0 l1 0 (Int32.ofNat n_a0) h ?_
  intro v_a0_2 h
  exact a_return C (pc := 20) rfl dJ7_fill_53178_20 (Nat.le_of_ble_eq_true rfl) (Nat.le_of_ble_eq_true rfl) ⟨_, rfl, rfl, h⟩
set_option maxRecDepth 100000 in
set_option maxHeartbeats 4000000 in
theorem m_X6_comesAhead (Lx : Launch) (Dx : va_G) (cs : Nat → ClassId) (h0 : Nat) (d0 : Nat → Nat) (v_pickedTerms : Int32) (v_terms : Int32) (v_segments : Int32) (v_doneSegments : Int32) (v_donePostings : Int32) (v_postings : Int32) (v_why : Int32) (v_hits : Int32) (v_planImpact : Nat → Int32) (v_planSize : Nat → Int32) (l1 : Int32) (l2 : Int32) (l3 : Int32) (Φ : Int32 → Prop) (h : P_X6_comesAhead v_planImpact v_planSize l1 l2 l3 Φ) : XMet Lx Dx cs yX6_comesAhead cX6_comesAhead 4 (some .boolean) 0 0 0 0 [.ref h0, .int l1, .int l2, .int l3] [(h0, oX6 d0 v_pickedTerms v_terms v_segments v_doneSegments v_donePostings v_postings v_why v_hits), ((d0 4), aI cs 320 v_planImpact), ((d0 5), aI cs 320 v_planSize)] (R_X6_comesAhead cs h0 d0 v_pickedTerms v_terms v_segments v_doneSegments v_donePostings v_postings v_why v_hits v_planImpact v_planSize Φ) (fun _ _ => False) := by
  refine XMet.of (own := RX6) (nm := "comesAhead") (by decide) rfl rfl (Nat.le_of_ble_eq_true rfl) (fun Γ C => ?_)
  unfold P_X6_comesAhead at h
  refine a_iload_n C (pc := 0) 1 dX6_comesAhead_0 rfl rfl ?_
  refine a_aload_n C (pc := 1) 0 dX6_comesAhead_1 rfl rfl ?_
  refine a_get C (pc := 2) 0 4 inW_X6 rfl rfl (Nat.le_of_ble_eq_true rfl) wF_X6_24 rfl rfl dX6_comesAhead_2 ?_
  refine a_iload_n C (pc := 5) 3 dX6_comesAhead_5 rfl rfl ?_
  refine a_iald C (pc := 6) 1 rfl h.1 dX6_comesAhead_6 ?_
  replace h := h.2
  refine a_icmp_gt C (pc := 7) 30 dX6_comesAhead_7 (by decide) (fun hc => ?_) (fun hc => ?_)
  · have h := h.1 hc
    refine a_iconst C (pc := 30) dX6_comesAhead_30 ic_1 ?_
    refine a_goto C (pc := 31) 35 dX6_comesAhead_31 (by decide) ?_
    exact a_zreturn C (pc := 35) rfl rfl dX6_comesAhead_35 (Nat.le_of_ble_eq_true rfl) (Nat.le_of_ble_eq_true rfl) ⟨_, rfl, rfl, h⟩
  · have h := h.2 hc
    refine a_iload_n C (pc := 10) 1 dX6_comesAhead_10 rfl rfl ?_
    refine a_aload_n C (pc := 11) 0 dX6_comesAhead_11 rfl rfl ?_
    refine a_get C (pc := 12) 0 4 inW_X6 rfl rfl (Nat.le_of_ble_eq_true rfl) wF_X6_24 rfl rfl dX6_comesAhead_12 ?_
    refine a_iload_n C (pc := 15) 3 dX6_comesAhead_15 rfl rfl ?_
    refine a_iald C (pc := 16) 1 rfl h.1 dX6_comesAhead_16 ?_
    replace h := h.2
    refine a_icmp_ne C (pc := 17) 34 dX6_comesAhead_17 (by decide) (fun hc => ?_) (fun hc => ?_)
    · have h := h.1 hc
      refine a_iconst C (pc := 34) dX6_comesAhead_34 ic_0 ?_
      exact a_zreturn C (pc := 35) rfl rfl dX6_comesAhead_35 (Nat.le_of_ble_eq_true rfl) (Nat.le_of_ble_eq_true rfl) ⟨_, rfl, rfl, h⟩
    · have h := h.2 hc
      refine a_iload_n C (pc := 20) 2 dX6_comesAhead_20 rfl rfl ?_
      refine a_aload_n C (pc := 21) 0 dX6_comesAhead_21 rfl rfl ?_
      refine a_get C (pc := 22) 0 5 inW_X6 rfl rfl (Nat.le_of_ble_eq_true rfl) wF_X6_27 rfl rfl dX6_comesAhead_22 ?_
      refine a_iload_n C (pc := 25) 3 dX6_comesAhead_25 rfl rfl ?_
      refine a_iald C (pc := 26) 2 rfl h.1 dX6_comesAhead_26 ?_
      replace h := h.2
      refine a_icmp_ge C (pc := 27) 34 dX6_comesAhead_27 (by decide) (fun hc => ?_) (fun hc => ?_)
      · have h := h.1 hc
        refine a_iconst C (pc := 34) dX6_comesAhead_34 ic_0 ?_
        exact a_zreturn C (pc := 35) rfl rfl dX6_comesAhead_35 (Nat.le_of_ble_eq_true rfl) (Nat.le_of_ble_eq_true rfl) ⟨_, rfl, rfl, h⟩
      · have h := h.2 hc
        refine a_iconst C (pc := 30) dX6_comesAhead_30 ic_1 ?_
        refine a_goto C (pc := 31) 35 dX6_comesAhead_31 (by decide) ?_
        exact a_zreturn C (pc := 35) rfl rfl dX6_comesAhead_35 (Nat.le_of_ble_eq_true rfl) (Nat.le_of_ble_eq_true rfl) ⟨_, rfl, rfl, h⟩
set_option maxRecDepth 100000 in
set_option maxHeartbeats 4000000 in
theorem w_X6_planOne_32 {Γ : XG} {Lx : Launch} {Dx : va_G} {cs : Nat → ClassId} {h0 : Nat} {h1 : Nat} {d0 : Nat → Nat} {d1 : Nat → Nat} {v_pickedTerms : Int32} {v_terms : Int32} {v_doneSegments : Int32} {v_donePostings : Int32} {v_why : Int32} {v_hits : Int32} {v_a1_bits : Int32} {v_a1_documents : Int32} {v_a1_terms : Int32} {v_a1_segments : Int32} {v_a1_postings : Int32} {v_a1_impact : Nat → Int32} {v_a1_firstPosting : Nat → Int32} {v_a1_document : Nat → Int32} {K_122 : Int32 → Int32 → (Nat → Int32) → (Nat → Int32) → (Nat → Int32) → (Nat → Int32) → (Nat → Int32) → Int32 → Int32 → Int32 → Int32 → Int32 → Prop} {Φ : Int32 → Int32 → (Nat → Int32) → (Nat → Int32) → (Nat → Int32) → (Nat → Int32) → (Nat → Int32) → Prop} {k n9 : Nat} (C : CX Γ Lx Dx cs cX6_planOne RX6 "planOne" 8 none 1 23 0 0 (qEC cs 0 0 [] (R_X6_planOne cs h0 h1 d0 d1 v_pickedTerms v_terms v_doneSegments v_donePostings v_why v_hits v_a1_bits v_a1_documents v_a1_terms v_a1_segments v_a1_postings v_a1_impact v_a1_firstPosting v_a1_document Φ) (fun _ _ => False))) (hkm : k ≤ 0) (hnm : n9 ≤ 0) : ∀ n : Nat, ∀ (v_segments : Int32) (v_postings : Int32) (v_planImpact : Nat → Int32) (v_planSize : Nat → Int32) (v_planTerm : Nat → Int32) (v_planSegment : Nat → Int32) (v_impactOf : Nat → Int32) (l2 : Int32) (l3 : Int32) (l4 : Int32) (l5 : Int32) (l6 : Int32), L_X6_planOne_32 n v_segments v_postings v_a1_impact v_a1_firstPosting v_planImpact v_planSize v_planTerm v_planSegment v_a1_document v_impactOf l2 l3 l4 l5 l6 K_122 Φ → (∀ (v_segments_3 : Int32) (v_postings_4 : Int32) (v_planImpact_5 : Nat → Int32) (v_planSize_6 : Nat → Int32) (v_planTerm_7 : Nat → Int32) (v_planSegment_8 : Nat → Int32) (v_impactOf_9 : Nat → Int32) (l2_10 : Int32) (l3_11 : Int32) (l4_12 : Int32) (l5_13 : Int32) (l6_14 : Int32), K_122 v_segments_3 v_postings_4 v_planImpact_5 v_planSize_6 v_planTerm_7 v_planSegment_8 v_impactOf_9 l2_10 l3_11 l4_12 l5_13 l6_14 → AW Γ k n9 122 [(0, .ref h0), (1, .ref h1), (2, .int l2_10), (3, .int l3_11), (4, .int l4_12), (5, .int l5_13), (6, .int l6_14)] [] [(h0, oX6 d0 v_pickedTerms v_terms v_segments_3 v_doneSegments v_donePostings v_postings_4 v_why v_hits), (h1, oX4 d1 v_a1_bits v_a1_documents v_a1_terms v_a1_segments v_a1_postings), ((d1 2), aI cs 600 v_a1_impact), ((d1 3), aI cs 601 v_a1_firstPosting), ((d0 4), aI cs 320 v_planImpact_5), ((d0 5), aI cs 320 v_planSize_6), ((d0 3), aI cs 320 v_planTerm_7), ((d0 1), aI cs 320 v_planSegment_8), ((d1 4), aI cs 600 v_a1_document), ((d0 2), aI cs 320 v_impactOf_9)]) → AW Γ k n9 32 [(0, .ref h0), (1, .ref h1), (2, .int l2), (3, .int l3), (4, .int l4), (5, .int l5), (6, .int l6)] [] [(h0, oX6 d0 v_pickedTerms v_terms v_segments v_doneSegments v_donePostings v_postings v_why v_hits), (h1, oX4 d1 v_a1_bits v_a1_documents v_a1_terms v_a1_segments v_a1_postings), ((d1 2), aI cs 600 v_a1_impact), ((d1 3), aI cs 601 v_a1_firstPosting), ((d0 4), aI cs 320 v_planImpact), ((d0 5), aI cs 320 v_planSize), ((d0 3), aI cs 320 v_planTerm), ((d0 1), aI cs 320 v_planSegment), ((d1 4), aI cs 600 v_a1_document), ((d0 2), aI cs 320 v_impactOf)] := by
  intro n
  induction n with
  | zero =>
    intro v_segments v_postings v_planImpact v_planSize v_planTerm v_planSegment v_impactOf l2 l3 l4 l5 l6 h
    exact False.elim h
  | succ n ih =>
    intro v_segments v_postings v_planImpact v_planSize v_planTerm v_planSegment v_impactOf l2 l3 l4 l5 l6 h hK_122
    rw [L_X6_planOne_32] at h
    refine a_iload C (pc := 32) 6 dX6_planOne_32 rfl ?_
    refine a_if_le C (pc := 34) 122 dX6_planOne_34 (by decide) (fun hc => ?_) (fun hc => ?_)
    · have h := h.1 hc
      exact hK_122 v_segments v_postings v_planImpact v_planSize v_planTerm v_planSegment v_impactOf l2 l3 l4 l5 l6 h
    · have h := h.2 hc
      refine a_aload_n C (pc := 37) 0 dX6_planOne_37 rfl rfl ?_
      refine a_iload C (pc := 38) 4 dX6_planOne_38 rfl ?_
      refine a_iload C (pc := 40) 5 dX6_planOne_40 rfl ?_
      refine a_iload C (pc := 42) 6 dX6_planOne_42 rfl ?_
      refine a_iconst C (pc := 44) dX6_planOne_44 ic_1 ?_
      refine a_isub C (pc := 45) dX6_planOne_45 ?_
      refine a_callV C (pc := 46) (av := [.int l4, .int l5, .int (l6 - 1)]) (wr := [(h1, oX4 d1 v_a1_bits v_a1_documents v_a1_terms v_a1_segments v_a1_postings), ((d1 2), aI cs 600 v_a1_impact), ((d1 3), aI cs 601 v_a1_firstPosting), ((d0 3), aI cs 320 v_planTerm), ((d0 1), aI cs 320 v_planSegment), ((d1 4), aI cs 600 v_a1_document), ((d0 2), aI cs 320 v_impactOf)]) (m_X6_comesAhead Lx Dx cs h0 d0 v_pickedTerms v_terms v_segments v_doneSegments v_donePostings v_postings v_why v_hits v_planImpact v_planSize l4 l5 (l6 - 1) _ h) [0, 4, 5] [1, 2, 3, 6, 7, 8, 9] rfl rfl (by decide) (by decide) (by decide) wM_X6_116 wb_X6_comesAhead hy_X6_comesAhead (q0 := 0) rfl rfl rfl ⟨Nat.le_of_ble_eq_true rfl, Nat.le_of_ble_eq_true rfl⟩ (Nat.le_of_ble_eq_true rfl) hkm hnm rfl dX6_planOne_46 (fun v w1 hw => ?_) [] rfl (fun _ _ h => h.elim)
      obtain ⟨r_2, rfl, rfl, h⟩ := hw
      refine a_ws (st1 := [.int r_2]) (ws1 := [(h0, oX6 d0 v_pickedTerms v_terms v_segments v_doneSegments v_donePostings v_postings v_why v_hits), (h1, oX4 d1 v_a1_bits v_a1_documents v_a1_terms v_a1_segments v_a1_postings), ((d1 2), aI cs 600 v_a1_impact), ((d1 3), aI cs 601 v_a1_firstPosting), ((d0 4), aI cs 320 v_planImpact), ((d0 5), aI cs 320 v_planSize), ((d0 3), aI cs 320 v_planTerm), ((d0 1), aI cs 320 v_planSegment), ((d1 4), aI cs 600 v_a1_document), ((d0 2), aI cs 320 v_impactOf)]) k n9 49 [7, 0, 1, 2, 8, 9, 3, 4, 5, 6] rfl rfl rfl rfl (by decide) rfl ?_
      refine a_if_eq C (pc := 49) 122 dX6_planOne_49 (by decide) (fun hc => ?_) (fun hc => ?_)
      · have h := h.1 hc
        exact hK_122 v_segments v_postings v_planImpact v_planSize v_planTerm v_planSegment v_impactOf l2 l3 l4 l5 l6 h
      · have h := h.2 hc
        refine a_aload_n C (pc := 52) 0 dX6_planOne_52 rfl rfl ?_
        refine a_get C (pc := 53) 0 3 inW_X6 rfl rfl (Nat.le_of_ble_eq_true rfl) wF_X6_21 rfl rfl dX6_planOne_53 ?_
        refine a_iload C (pc := 56) 6 dX6_planOne_56 rfl ?_
        refine a_aload_n C (pc := 58) 0 dX6_planOne_58 rfl rfl ?_
        refine a_get C (pc := 59) 0 3 inW_X6 rfl rfl (Nat.le_of_ble_eq_true rfl) wF_X6_21 rfl rfl dX6_planOne_59 ?_
        refine a_iload C (pc := 62) 6 dX6_planOne_62 rfl ?_
        refine a_iconst C (pc := 64) dX6_planOne_64 ic_1 ?_
        refine a_isub C (pc := 65) dX6_planOne_65 ?_
        refine a_iald C (pc := 66) 6 rfl h.1 dX6_planOne_66 ?_
        replace h := h.2
        refine a_iast C (pc := 67) (ws1 := [(h0, oX6 d0 v_pickedTerms v_terms v_segments v_doneSegments v_donePostings v_postings v_why v_hits), (h1, oX4 d1 v_a1_bits v_a1_documents v_a1_terms v_a1_segments v_a1_postings), ((d1 2), aI cs 600 v_a1_impact), ((d1 3), aI cs 601 v_a1_firstPosting), ((d0 4), aI cs 320 v_planImpact), ((d0 5), aI cs 320 v_planSize), ((d0 3), aI cs 320 (upd v_planTerm (l6 : Int32).toNatClampNeg (v_planTerm (l6 - 1 : Int32).toNatClampNeg))), ((d0 1), aI cs 320 v_planSegment), ((d1 4), aI cs 600 v_a1_document), ((d0 2), aI cs 320 v_impactOf)]) 6 rfl h.1 dX6_planOne_67 rfl ?_
        replace h := h.2
        refine a_aload_n C (pc := 68) 0 dX6_planOne_68 rfl rfl ?_
        refine a_get C (pc := 69) 0 4 inW_X6 rfl rfl (Nat.le_of_ble_eq_true rfl) wF_X6_24 rfl rfl dX6_planOne_69 ?_
        refine a_iload C (pc := 72) 6 dX6_planOne_72 rfl ?_
        refine a_aload_n C (pc := 74) 0 dX6_planOne_74 rfl rfl ?_
        refine a_get C (pc := 75) 0 4 inW_X6 rfl rfl (Nat.le_of_ble_eq_true rfl) wF_X6_24 rfl rfl dX6_planOne_75 ?_
        refine a_iload C (pc := 78) 6 dX6_planOne_78 rfl ?_
        refine a_iconst C (pc := 80) dX6_planOne_80 ic_1 ?_
        refine a_isub C (pc := 81) dX6_planOne_81 ?_
        refine a_iald C (pc := 82) 4 rfl h.1 dX6_planOne_82 ?_
        replace h := h.2
        refine a_iast C (pc := 83) (ws1 := [(h0, oX6 d0 v_pickedTerms v_terms v_segments v_doneSegments v_donePostings v_postings v_why v_hits), (h1, oX4 d1 v_a1_bits v_a1_documents v_a1_terms v_a1_segments v_a1_postings), ((d1 2), aI cs 600 v_a1_impact), ((d1 3), aI cs 601 v_a1_firstPosting), ((d0 4), aI cs 320 (upd v_planImpact (l6 : Int32).toNatClampNeg (v_planImpact (l6 - 1 : Int32).toNatClampNeg))), ((d0 5), aI cs 320 v_planSize), ((d0 3), aI cs 320 (upd v_planTerm (l6 : Int32).toNatClampNeg (v_planTerm (l6 - 1 : Int32).toNatClampNeg))), ((d0 1), aI cs 320 v_planSegment), ((d1 4), aI cs 600 v_a1_document), ((d0 2), aI cs 320 v_impactOf)]) 4 rfl h.1 dX6_planOne_83 rfl ?_
        replace h := h.2
        refine a_aload_n C (pc := 84) 0 dX6_planOne_84 rfl rfl ?_
        refine a_get C (pc := 85) 0 5 inW_X6 rfl rfl (Nat.le_of_ble_eq_true rfl) wF_X6_27 rfl rfl dX6_planOne_85 ?_
        refine a_iload C (pc := 88) 6 dX6_planOne_88 rfl ?_
        refine a_aload_n C (pc := 90) 0 dX6_planOne_90 rfl rfl ?_
        refine a_get C (pc := 91) 0 5 inW_X6 rfl rfl (Nat.le_of_ble_eq_true rfl) wF_X6_27 rfl rfl dX6_planOne_91 ?_
        refine a_iload C (pc := 94) 6 dX6_planOne_94 rfl ?_
        refine a_iconst C (pc := 96) dX6_planOne_96 ic_1 ?_
        refine a_isub C (pc := 97) dX6_planOne_97 ?_
        refine a_iald C (pc := 98) 5 rfl h.1 dX6_planOne_98 ?_
        replace h := h.2
        refine a_iast C (pc := 99) (ws1 := [(h0, oX6 d0 v_pickedTerms v_terms v_segments v_doneSegments v_donePostings v_postings v_why v_hits), (h1, oX4 d1 v_a1_bits v_a1_documents v_a1_terms v_a1_segments v_a1_postings), ((d1 2), aI cs 600 v_a1_impact), ((d1 3), aI cs 601 v_a1_firstPosting), ((d0 4), aI cs 320 (upd v_planImpact (l6 : Int32).toNatClampNeg (v_planImpact (l6 - 1 : Int32).toNatClampNeg))), ((d0 5), aI cs 320 (upd v_planSize (l6 : Int32).toNatClampNeg (v_planSize (l6 - 1 : Int32).toNatClampNeg))), ((d0 3), aI cs 320 (upd v_planTerm (l6 : Int32).toNatClampNeg (v_planTerm (l6 - 1 : Int32).toNatClampNeg))), ((d0 1), aI cs 320 v_planSegment), ((d1 4), aI cs 600 v_a1_document), ((d0 2), aI cs 320 v_impactOf)]) 5 rfl h.1 dX6_planOne_99 rfl ?_
        replace h := h.2
        refine a_aload_n C (pc := 100) 0 dX6_planOne_100 rfl rfl ?_
        refine a_get C (pc := 101) 0 1 inW_X6 rfl rfl (Nat.le_of_ble_eq_true rfl) wF_X6_15 rfl rfl dX6_planOne_101 ?_
        refine a_iload C (pc := 104) 6 dX6_planOne_104 rfl ?_
        refine a_aload_n C (pc := 106) 0 dX6_planOne_106 rfl rfl ?_
        refine a_get C (pc := 107) 0 1 inW_X6 rfl rfl (Nat.le_of_ble_eq_true rfl) wF_X6_15 rfl rfl dX6_planOne_107 ?_
        refine a_iload C (pc := 110) 6 dX6_planOne_110 rfl ?_
        refine a_iconst C (pc := 112) dX6_planOne_112 ic_1 ?_
        refine a_isub C (pc := 113) dX6_planOne_113 ?_
        refine a_iald C (pc := 114) 7 rfl h.1 dX6_planOne_114 ?_
        replace h := h.2
        refine a_iast C (pc := 115) (ws1 := [(h0, oX6 d0 v_pickedTerms v_terms v_segments v_doneSegments v_donePostings v_postings v_why v_hits), (h1, oX4 d1 v_a1_bits v_a1_documents v_a1_terms v_a1_segments v_a1_postings), ((d1 2), aI cs 600 v_a1_impact), ((d1 3), aI cs 601 v_a1_firstPosting), ((d0 4), aI cs 320 (upd v_planImpact (l6 : Int32).toNatClampNeg (v_planImpact (l6 - 1 : Int32).toNatClampNeg))), ((d0 5), aI cs 320 (upd v_planSize (l6 : Int32).toNatClampNeg (v_planSize (l6 - 1 : Int32).toNatClampNeg))), ((d0 3), aI cs 320 (upd v_planTerm (l6 : Int32).toNatClampNeg (v_planTerm (l6 - 1 : Int32).toNatClampNeg))), ((d0 1), aI cs 320 (upd v_planSegment (l6 : Int32).toNatClampNeg (v_planSegment (l6 - 1 : Int32).toNatClampNeg))), ((d1 4), aI cs 600 v_a1_document), ((d0 2), aI cs 320 v_impactOf)]) 7 rfl h.1 dX6_planOne_115 rfl ?_
        replace h := h.2
        refine a_iinc C (pc := 116) (lv1 := [(0, .ref h0), (1, .ref h1), (2, .int l2), (3, .int l3), (4, .int l4), (5, .int l5), (6, .int (l6 + (-1)))]) 6 [1, 2, 3, 4, 5, 6, 0] dX6_planOne_116 rfl (congrArg (fun z => l6 + z) ic_m1) (by decide) rfl ?_
        refine a_goto C (pc := 119) 32 dX6_planOne_119 (by decide) ?_
        exact ih v_segments v_postings (upd v_planImpact (l6 : Int32).toNatClampNeg (v_planImpact (l6 - 1 : Int32).toNatClampNeg)) (upd v_planSize (l6 : Int32).toNatClampNeg (v_planSize (l6 - 1 : Int32).toNatClampNeg)) (upd v_planTerm (l6 : Int32).toNatClampNeg (v_planTerm (l6 - 1 : Int32).toNatClampNeg)) (upd v_planSegment (l6 : Int32).toNatClampNeg (v_planSegment (l6 - 1 : Int32).toNatClampNeg)) v_impactOf l2 l3 l4 l5 (l6 + (-1)) h hK_122
set_option maxRecDepth 100000 in
set_option maxHeartbeats 4000000 in
theorem w_X6_planOne_185 {Γ : XG} {Lx : Launch} {Dx : va_G} {cs : Nat → ClassId} {h0 : Nat} {h1 : Nat} {d0 : Nat → Nat} {d1 : Nat → Nat} {v_pickedTerms : Int32} {v_terms : Int32} {v_doneSegments : Int32} {v_donePostings : Int32} {v_why : Int32} {v_hits : Int32} {v_a1_bits : Int32} {v_a1_documents : Int32} {v_a1_terms : Int32} {v_a1_segments : Int32} {v_a1_postings : Int32} {v_a1_impact : Nat → Int32} {v_a1_firstPosting : Nat → Int32} {v_a1_document : Nat → Int32} {K_223 : Int32 → Int32 → (Nat → Int32) → (Nat → Int32) → (Nat → Int32) → (Nat → Int32) → (Nat → Int32) → Prop} {Φ : Int32 → Int32 → (Nat → Int32) → (Nat → Int32) → (Nat → Int32) → (Nat → Int32) → (Nat → Int32) → Prop} {k n9 : Nat} (C : CX Γ Lx Dx cs cX6_planOne RX6 "planOne" 8 none 1 23 0 0 (qEC cs 0 0 [] (R_X6_planOne cs h0 h1 d0 d1 v_pickedTerms v_terms v_doneSegments v_donePostings v_why v_hits v_a1_bits v_a1_documents v_a1_terms v_a1_segments v_a1_postings v_a1_impact v_a1_firstPosting v_a1_document Φ) (fun _ _ => False))) (hkm : k ≤ 0) (hnm : n9 ≤ 0) : ∀ n : Nat, ∀ (v_segments : Int32) (v_postings : Int32) (v_planImpact : Nat → Int32) (v_planSize : Nat → Int32) (v_planTerm : Nat → Int32) (v_planSegment : Nat → Int32) (v_impactOf : Nat → Int32) (l2 : Int32) (l3 : Int32) (l4 : Int32) (l7 : Int32), L_X6_planOne_185 n v_segments v_postings v_a1_impact v_a1_firstPosting v_planImpact v_planSize v_planTerm v_planSegment v_a1_document v_impactOf l2 l3 l4 l7 K_223 Φ → (∀ (v_segments_27 : Int32) (v_postings_28 : Int32) (v_planImpact_29 : Nat → Int32) (v_planSize_30 : Nat → Int32) (v_planTerm_31 : Nat → Int32) (v_planSegment_32 : Nat → Int32) (v_impactOf_33 : Nat → Int32), K_223 v_segments_27 v_postings_28 v_planImpact_29 v_planSize_30 v_planTerm_31 v_planSegment_32 v_impactOf_33 → AW Γ k n9 223 [] [] [(h0, oX6 d0 v_pickedTerms v_terms v_segments_27 v_doneSegments v_donePostings v_postings_28 v_why v_hits), (h1, oX4 d1 v_a1_bits v_a1_documents v_a1_terms v_a1_segments v_a1_postings), ((d1 2), aI cs 600 v_a1_impact), ((d1 3), aI cs 601 v_a1_firstPosting), ((d0 4), aI cs 320 v_planImpact_29), ((d0 5), aI cs 320 v_planSize_30), ((d0 3), aI cs 320 v_planTerm_31), ((d0 1), aI cs 320 v_planSegment_32), ((d1 4), aI cs 600 v_a1_document), ((d0 2), aI cs 320 v_impactOf_33)]) → AW Γ k n9 185 [(0, .ref h0), (1, .ref h1), (2, .int l2), (3, .int l3), (4, .int l4), (7, .int l7)] [] [(h0, oX6 d0 v_pickedTerms v_terms v_segments v_doneSegments v_donePostings v_postings v_why v_hits), (h1, oX4 d1 v_a1_bits v_a1_documents v_a1_terms v_a1_segments v_a1_postings), ((d1 2), aI cs 600 v_a1_impact), ((d1 3), aI cs 601 v_a1_firstPosting), ((d0 4), aI cs 320 v_planImpact), ((d0 5), aI cs 320 v_planSize), ((d0 3), aI cs 320 v_planTerm), ((d0 1), aI cs 320 v_planSegment), ((d1 4), aI cs 600 v_a1_document), ((d0 2), aI cs 320 v_impactOf)] := by
  intro n
  induction n with
  | zero =>
    intro v_segments v_postings v_planImpact v_planSize v_planTerm v_planSegment v_impactOf l2 l3 l4 l7 h
    exact False.elim h
  | succ n ih =>
    intro v_segments v_postings v_planImpact v_planSize v_planTerm v_planSegment v_impactOf l2 l3 l4 l7 h hK_223
    rw [L_X6_planOne_185] at h
    refine a_iload C (pc := 185) 5 dX6_planOne_185 rfl ?_
    refine a_aload_n C (pc := 187) 1 dX6_planOne_187 rfl rfl ?_
    refine a_get C (pc := 188) 1 3 inW_X4 rfl rfl (Nat.le_of_ble_eq_true rfl) wF_X6_120 rfl rfl dX6_planOne_188 ?_
    refine a_iload_n C (pc := 191) 3 dX6_planOne_191 rfl rfl ?_
    refine a_iconst C (pc := 192) dX6_planOne_192 ic_1 ?_
    refine a_iadd C (pc := 193) dX6_planOne_193 ?_
    refine a_iald C (pc := 194) 3 rfl h.1 dX6_planOne_194 ?_
    replace h := h.2
    refine a_icmp_ge C (pc := 195) 223 dX6_planOne_195 (by decide) (fun hc => ?_) (fun hc => ?_)
    · have h := h.1 hc
      refine a_lv (lv1 := []) [] rfl ?_
      exact hK_223 v_segments v_postings v_planImpact v_planSize v_planTerm v_planSegment v_impactOf h
    · have h := h.2 hc
      refine a_aload_n C (pc := 198) 0 dX6_planOne_198 rfl rfl ?_
      refine a_get C (pc := 199) 0 2 inW_X6 rfl rfl (Nat.le_of_ble_eq_true rfl) wF_X6_18 rfl rfl dX6_planOne_199 ?_
      refine a_iload_n C (pc := 202) 2 dX6_planOne_202 rfl rfl ?_
      refine a_bipush C (pc := 203) dX6_planOne_203 bp_40 ?_
      refine a_imul C (pc := 205) dX6_planOne_205 ?_
      refine a_aload_n C (pc := 206) 1 dX6_planOne_206 rfl rfl ?_
      refine a_get C (pc := 207) 1 4 inW_X4 rfl rfl (Nat.le_of_ble_eq_true rfl) wF_X6_123 rfl rfl dX6_planOne_207 ?_
      refine a_iload C (pc := 210) 5 dX6_planOne_210 rfl ?_
      refine a_iald C (pc := 212) 8 rfl h.1 dX6_planOne_212 ?_
      replace h := h.2
      refine a_iadd C (pc := 213) dX6_planOne_213 ?_
      refine a_iload C (pc := 214) 4 dX6_planOne_214 rfl ?_
      refine a_iast C (pc := 216) (ws1 := [(h0, oX6 d0 v_pickedTerms v_terms v_segments v_doneSegments v_donePostings v_postings v_why v_hits), (h1, oX4 d1 v_a1_bits v_a1_documents v_a1_terms v_a1_segments v_a1_postings), ((d1 2), aI cs 600 v_a1_impact), ((d1 3), aI cs 601 v_a1_firstPosting), ((d0 4), aI cs 320 v_planImpact), ((d0 5), aI cs 320 v_planSize), ((d0 3), aI cs 320 v_planTerm), ((d0 1), aI cs 320 v_planSegment), ((d1 4), aI cs 600 v_a1_document), ((d0 2), aI cs 320 (upd v_impactOf ((l2 * 40) + (v_a1_document (l7 : Int32).toNatClampNeg) : Int32).toNatClampNeg l4))]) 9 rfl h.1 dX6_planOne_216 rfl ?_
      replace h := h.2
      refine a_iinc C (pc := 217) (lv1 := [(0, .ref h0), (1, .ref h1), (2, .int l2), (3, .int l3), (4, .int l4), (7, .int (l7 + 1))]) 5 [1, 2, 3, 4, 5, 0] dX6_planOne_217 rfl (congrArg (fun z => l7 + z) ic_1) (by decide) rfl ?_
      refine a_goto C (pc := 220) 185 dX6_planOne_220 (by decide) ?_
      exact ih v_segments v_postings v_planImpact v_planSize v_planTerm v_planSegment (upd v_impactOf ((l2 * 40) + (v_a1_document (l7 : Int32).toNatClampNeg) : Int32).toNatClampNeg l4) l2 l3 l4 (l7 + 1) h hK_223
set_option maxRecDepth 100000 in
set_option maxHeartbeats 4000000 in
theorem w_X6_planOne_122 {Γ : XG} {Lx : Launch} {Dx : va_G} {cs : Nat → ClassId} {h0 : Nat} {h1 : Nat} {d0 : Nat → Nat} {d1 : Nat → Nat} {v_pickedTerms : Int32} {v_terms : Int32} {v_doneSegments : Int32} {v_donePostings : Int32} {v_why : Int32} {v_hits : Int32} {v_a1_bits : Int32} {v_a1_documents : Int32} {v_a1_terms : Int32} {v_a1_segments : Int32} {v_a1_postings : Int32} {v_a1_impact : Nat → Int32} {v_a1_firstPosting : Nat → Int32} {v_a1_document : Nat → Int32} {Φ : Int32 → Int32 → (Nat → Int32) → (Nat → Int32) → (Nat → Int32) → (Nat → Int32) → (Nat → Int32) → Prop} {k n9 : Nat} (C : CX Γ Lx Dx cs cX6_planOne RX6 "planOne" 8 none 1 23 0 0 (qEC cs 0 0 [] (R_X6_planOne cs h0 h1 d0 d1 v_pickedTerms v_terms v_doneSegments v_donePostings v_why v_hits v_a1_bits v_a1_documents v_a1_terms v_a1_segments v_a1_postings v_a1_impact v_a1_firstPosting v_a1_document Φ) (fun _ _ => False))) (hkm : k ≤ 0) (hnm : n9 ≤ 0) (v_segments : Int32) (v_postings : Int32) (v_planImpact : Nat → Int32) (v_planSize : Nat → Int32) (v_planTerm : Nat → Int32) (v_planSegment : Nat → Int32) (v_impactOf : Nat → Int32) (l2 : Int32) (l3 : Int32) (l4 : Int32) (l5 : Int32) (l6 : Int32) (h : J_X6_planOne_122 v_segments v_postings v_a1_impact v_a1_firstPosting v_planImpact v_planSize v_planTerm v_planSegment v_a1_document v_impactOf l2 l3 l4 l5 l6 Φ) : AW Γ k n9 122 [(0, .ref h0), (1, .ref h1), (2, .int l2), (3, .int l3), (4, .int l4), (5, .int l5), (6, .int l6)] [] [(h0, oX6 d0 v_pickedTerms v_terms v_segments v_doneSegments v_donePostings v_postings v_why v_hits), (h1, oX4 d1 v_a1_bits v_a1_documents v_a1_terms v_a1_segments v_a1_postings), ((d1 2), aI cs 600 v_a1_impact), ((d1 3), aI cs 601 v_a1_firstPosting), ((d0 4), aI cs 320 v_planImpact), ((d0 5), aI cs 320 v_planSize), ((d0 3), aI cs 320 v_planTerm), ((d0 1), aI cs 320 v_planSegment), ((d1 4), aI cs 600 v_a1_document), ((d0 2), aI cs 320 v_impactOf)] := by
  unfold J_X6_planOne_122 at h
  refine a_aload_n C (pc := 122) 0 dX6_planOne_122 rfl rfl ?_
  refine a_get C (pc := 123) 0 3 inW_X6 rfl rfl (Nat.le_of_ble_eq_true rfl) wF_X6_21 rfl rfl dX6_planOne_123 ?_
  refine a_iload C (pc := 126) 6 dX6_planOne_126 rfl ?_
  refine a_iload_n C (pc := 128) 2 dX6_planOne_128 rfl rfl ?_
  refine a_iast C (pc := 129) (ws1 := [(h0, oX6 d0 v_pickedTerms v_terms v_segments v_doneSegments v_donePostings v_postings v_why v_hits), (h1, oX4 d1 v_a1_bits v_a1_documents v_a1_terms v_a1_segments v_a1_postings), ((d1 2), aI cs 600 v_a1_impact), ((d1 3), aI cs 601 v_a1_firstPosting), ((d0 4), aI cs 320 v_planImpact), ((d0 5), aI cs 320 v_planSize), ((d0 3), aI cs 320 (upd v_planTerm (l6 : Int32).toNatClampNeg l2)), ((d0 1), aI cs 320 v_planSegment), ((d1 4), aI cs 600 v_a1_document), ((d0 2), aI cs 320 v_impactOf)]) 6 rfl h.1 dX6_planOne_129 rfl ?_
  replace h := h.2
  refine a_aload_n C (pc := 130) 0 dX6_planOne_130 rfl rfl ?_
  refine a_get C (pc := 131) 0 4 inW_X6 rfl rfl (Nat.le_of_ble_eq_true rfl) wF_X6_24 rfl rfl dX6_planOne_131 ?_
  refine a_iload C (pc := 134) 6 dX6_planOne_134 rfl ?_
  refine a_iload C (pc := 136) 4 dX6_planOne_136 rfl ?_
  refine a_iast C (pc := 138) (ws1 := [(h0, oX6 d0 v_pickedTerms v_terms v_segments v_doneSegments v_donePostings v_postings v_why v_hits), (h1, oX4 d1 v_a1_bits v_a1_documents v_a1_terms v_a1_segments v_a1_postings), ((d1 2), aI cs 600 v_a1_impact), ((d1 3), aI cs 601 v_a1_firstPosting), ((d0 4), aI cs 320 (upd v_planImpact (l6 : Int32).toNatClampNeg l4)), ((d0 5), aI cs 320 v_planSize), ((d0 3), aI cs 320 (upd v_planTerm (l6 : Int32).toNatClampNeg l2)), ((d0 1), aI cs 320 v_planSegment), ((d1 4), aI cs 600 v_a1_document), ((d0 2), aI cs 320 v_impactOf)]) 4 rfl h.1 dX6_planOne_138 rfl ?_
  replace h := h.2
  refine a_aload_n C (pc := 139) 0 dX6_planOne_139 rfl rfl ?_
  refine a_get C (pc := 140) 0 5 inW_X6 rfl rfl (Nat.le_of_ble_eq_true rfl) wF_X6_27 rfl rfl dX6_planOne_140 ?_
  refine a_iload C (pc := 143) 6 dX6_planOne_143 rfl ?_
  refine a_iload C (pc := 145) 5 dX6_planOne_145 rfl ?_
  refine a_iast C (pc := 147) (ws1 := [(h0, oX6 d0 v_pickedTerms v_terms v_segments v_doneSegments v_donePostings v_postings v_why v_hits), (h1, oX4 d1 v_a1_bits v_a1_documents v_a1_terms v_a1_segments v_a1_postings), ((d1 2), aI cs 600 v_a1_impact), ((d1 3), aI cs 601 v_a1_firstPosting), ((d0 4), aI cs 320 (upd v_planImpact (l6 : Int32).toNatClampNeg l4)), ((d0 5), aI cs 320 (upd v_planSize (l6 : Int32).toNatClampNeg l5)), ((d0 3), aI cs 320 (upd v_planTerm (l6 : Int32).toNatClampNeg l2)), ((d0 1), aI cs 320 v_planSegment), ((d1 4), aI cs 600 v_a1_document), ((d0 2), aI cs 320 v_impactOf)]) 5 rfl h.1 dX6_planOne_147 rfl ?_
  replace h := h.2
  refine a_aload_n C (pc := 148) 0 dX6_planOne_148 rfl rfl ?_
  refine a_get C (pc := 149) 0 1 inW_X6 rfl rfl (Nat.le_of_ble_eq_true rfl) wF_X6_15 rfl rfl dX6_planOne_149 ?_
  refine a_iload C (pc := 152) 6 dX6_planOne_152 rfl ?_
  refine a_iload_n C (pc := 154) 3 dX6_planOne_154 rfl rfl ?_
  refine a_iast C (pc := 155) (ws1 := [(h0, oX6 d0 v_pickedTerms v_terms v_segments v_doneSegments v_donePostings v_postings v_why v_hits), (h1, oX4 d1 v_a1_bits v_a1_documents v_a1_terms v_a1_segments v_a1_postings), ((d1 2), aI cs 600 v_a1_impact), ((d1 3), aI cs 601 v_a1_firstPosting), ((d0 4), aI cs 320 (upd v_planImpact (l6 : Int32).toNatClampNeg l4)), ((d0 5), aI cs 320 (upd v_planSize (l6 : Int32).toNatClampNeg l5)), ((d0 3), aI cs 320 (upd v_planTerm (l6 : Int32).toNatClampNeg l2)), ((d0 1), aI cs 320 (upd v_planSegment (l6 : Int32).toNatClampNeg l3)), ((d1 4), aI cs 600 v_a1_document), ((d0 2), aI cs 320 v_impactOf)]) 7 rfl h.1 dX6_planOne_155 rfl ?_
  replace h := h.2
  refine a_aload_n C (pc := 156) 0 dX6_planOne_156 rfl rfl ?_
  refine a_dup C (pc := 157) dX6_planOne_157 rfl ?_
  refine a_get C (pc := 158) 0 10 inW_X6 rfl rfl (Nat.le_of_ble_eq_true rfl) wF_X6_43 rfl rfl dX6_planOne_158 ?_
  refine a_iconst C (pc := 161) dX6_planOne_161 ic_1 ?_
  refine a_iadd C (pc := 162) dX6_planOne_162 ?_
  refine a_put C (pc := 163) (ws1 := [(h0, oX6 d0 v_pickedTerms v_terms (v_segments + 1) v_doneSegments v_donePostings v_postings v_why v_hits), (h1, oX4 d1 v_a1_bits v_a1_documents v_a1_terms v_a1_segments v_a1_postings), ((d1 2), aI cs 600 v_a1_impact), ((d1 3), aI cs 601 v_a1_firstPosting), ((d0 4), aI cs 320 (upd v_planImpact (l6 : Int32).toNatClampNeg l4)), ((d0 5), aI cs 320 (upd v_planSize (l6 : Int32).toNatClampNeg l5)), ((d0 3), aI cs 320 (upd v_planTerm (l6 : Int32).toNatClampNeg l2)), ((d0 1), aI cs 320 (upd v_planSegment (l6 : Int32).toNatClampNeg l3)), ((d1 4), aI cs 600 v_a1_document), ((d0 2), aI cs 320 v_impactOf)]) 0 10 inW_X6 tyX6 tyX6_ok nmX6 rfl rfl (Nat.le_of_ble_eq_true rfl) wF_X6_43 rfl rfl rfl rfl rfl (Nat.le_of_ble_eq_true rfl) dX6_planOne_163 rfl ?_
  refine a_aload_n C (pc := 166) 0 dX6_planOne_166 rfl rfl ?_
  refine a_dup C (pc := 167) dX6_planOne_167 rfl ?_
  refine a_get C (pc := 168) 0 13 inW_X6 rfl rfl (Nat.le_of_ble_eq_true rfl) wF_X6_52 rfl rfl dX6_planOne_168 ?_
  refine a_iload C (pc := 171) 5 dX6_planOne_171 rfl ?_
  refine a_iadd C (pc := 173) dX6_planOne_173 ?_
  refine a_put C (pc := 174) (ws1 := [(h0, oX6 d0 v_pickedTerms v_terms (v_segments + 1) v_doneSegments v_donePostings (v_postings + l5) v_why v_hits), (h1, oX4 d1 v_a1_bits v_a1_documents v_a1_terms v_a1_segments v_a1_postings), ((d1 2), aI cs 600 v_a1_impact), ((d1 3), aI cs 601 v_a1_firstPosting), ((d0 4), aI cs 320 (upd v_planImpact (l6 : Int32).toNatClampNeg l4)), ((d0 5), aI cs 320 (upd v_planSize (l6 : Int32).toNatClampNeg l5)), ((d0 3), aI cs 320 (upd v_planTerm (l6 : Int32).toNatClampNeg l2)), ((d0 1), aI cs 320 (upd v_planSegment (l6 : Int32).toNatClampNeg l3)), ((d1 4), aI cs 600 v_a1_document), ((d0 2), aI cs 320 v_impactOf)]) 0 13 inW_X6 tyX6 tyX6_ok nmX6 rfl rfl (Nat.le_of_ble_eq_true rfl) wF_X6_52 rfl rfl rfl rfl rfl (Nat.le_of_ble_eq_true rfl) dX6_planOne_174 rfl ?_
  refine a_aload_n C (pc := 177) 1 dX6_planOne_177 rfl rfl ?_
  refine a_get C (pc := 178) 1 3 inW_X4 rfl rfl (Nat.le_of_ble_eq_true rfl) wF_X6_120 rfl rfl dX6_planOne_178 ?_
  refine a_iload_n C (pc := 181) 3 dX6_planOne_181 rfl rfl ?_
  refine a_iald C (pc := 182) 3 rfl h.1 dX6_planOne_182 ?_
  replace h := h.2
  refine a_istore C (pc := 183) (lv1 := [(0, .ref h0), (1, .ref h1), (2, .int l2), (3, .int l3), (4, .int l4), (5, .int l5), (6, .int l6), (7, .int (v_a1_firstPosting (l3 : Int32).toNatClampNeg))]) [1, 2, 3, 4, 5, 6, 7, 0] dX6_planOne_183 (by decide) rfl ?_
  obtain ⟨n0, h⟩ := h
  refine a_lv (lv1 := [(0, .ref h0), (1, .ref h1), (2, .int l2), (3, .int l3), (4, .int l4), (7, .int (v_a1_firstPosting (l3 : Int32).toNatClampNeg))]) [0, 1, 2, 3, 4, 7] rfl ?_
  refine w_X6_planOne_185 C hkm hnm n0 (v_segments + 1) (v_postings + l5) (upd v_planImpact (l6 : Int32).toNatClampNeg l4) (upd v_planSize (l6 : Int32).toNatClampNeg l5) (upd v_planTerm (l6 : Int32).toNatClampNeg l2) (upd v_planSegment (l6 : Int32).toNatClampNeg l3) v_impactOf l2 l3 l4 (v_a1_firstPosting (l3 : Int32).toNatClampNeg) h ?_
  intro v_segments_34 v_postings_35 v_planImpact_36 v_planSize_37 v_planTerm_38 v_planSegment_39 v_impactOf_40 h
  exact a_return C (pc := 223) rfl dX6_planOne_223 hkm hnm ⟨_, _, _, _, _, _, _, rfl, rfl, h⟩
set_option maxRecDepth 100000 in
set_option maxHeartbeats 4000000 in
theorem m_X6_planOne (Lx : Launch) (Dx : va_G) (cs : Nat → ClassId) (h0 : Nat) (h1 : Nat) (d0 : Nat → Nat) (d1 : Nat → Nat) (v_pickedTerms : Int32) (v_terms : Int32) (v_segments : Int32) (v_doneSegments : Int32) (v_donePostings : Int32) (v_postings : Int32) (v_why : Int32) (v_hits : Int32) (v_a1_bits : Int32) (v_a1_documents : Int32) (v_a1_terms : Int32) (v_a1_segments : Int32) (v_a1_postings : Int32) (v_a1_impact : Nat → Int32) (v_a1_firstPosting : Nat → Int32) (v_planImpact : Nat → Int32) (v_planSize : Nat → Int32) (v_planTerm : Nat → Int32) (v_planSegment : Nat → Int32) (v_a1_document : Nat → Int32) (v_impactOf : Nat → Int32) (l2 : Int32) (l3 : Int32) (Φ : Int32 → Int32 → (Nat → Int32) → (Nat → Int32) → (Nat → Int32) → (Nat → Int32) → (Nat → Int32) → Prop) (h : P_X6_planOne v_segments v_postings v_a1_impact v_a1_firstPosting v_planImpact v_planSize v_planTerm v_planSegment v_a1_document v_impactOf l2 l3 Φ) : XMet Lx Dx cs yX6_planOne cX6_planOne 8 none 1 23 0 0 [.ref h0, .ref h1, .int l2, .int l3] [(h0, oX6 d0 v_pickedTerms v_terms v_segments v_doneSegments v_donePostings v_postings v_why v_hits), (h1, oX4 d1 v_a1_bits v_a1_documents v_a1_terms v_a1_segments v_a1_postings), ((d1 2), aI cs 600 v_a1_impact), ((d1 3), aI cs 601 v_a1_firstPosting), ((d0 4), aI cs 320 v_planImpact), ((d0 5), aI cs 320 v_planSize), ((d0 3), aI cs 320 v_planTerm), ((d0 1), aI cs 320 v_planSegment), ((d1 4), aI cs 600 v_a1_document), ((d0 2), aI cs 320 v_impactOf)] (R_X6_planOne cs h0 h1 d0 d1 v_pickedTerms v_terms v_doneSegments v_donePostings v_why v_hits v_a1_bits v_a1_documents v_a1_terms v_a1_segments v_a1_postings v_a1_impact v_a1_firstPosting v_a1_document Φ) (fun _ _ => False) := by
  refine XMet.of (own := RX6) (nm := "planOne") (by decide) rfl rfl (Nat.le_of_ble_eq_true rfl) (fun Γ C => ?_)
  unfold P_X6_planOne at h
  refine a_aload_n C (pc := 0) 0 dX6_planOne_0 rfl rfl ?_
  refine a_get C (pc := 1) 0 10 inW_X6 rfl rfl (Nat.le_of_ble_eq_true rfl) wF_X6_43 rfl rfl dX6_planOne_1 ?_
  refine a_sipush C (pc := 4) dX6_planOne_4 sp_320 ?_
  refine a_icmp_lt C (pc := 7) 11 dX6_planOne_7 (by decide) (fun hc => ?_) (fun hc => ?_)
  · have h := h.1 hc
    refine a_aload_n C (pc := 11) 1 dX6_planOne_11 rfl rfl ?_
    refine a_get C (pc := 12) 1 2 inW_X4 rfl rfl (Nat.le_of_ble_eq_true rfl) wF_X6_109 rfl rfl dX6_planOne_12 ?_
    refine a_iload_n C (pc := 15) 3 dX6_planOne_15 rfl rfl ?_
    refine a_iald C (pc := 16) 2 rfl h.1 dX6_planOne_16 ?_
    replace h := h.2
    refine a_istore C (pc := 17) (lv1 := [(0, .ref h0), (1, .ref h1), (2, .int l2), (3, .int l3), (4, .int (v_a1_impact (l3 : Int32).toNatClampNeg))]) [1, 2, 3, 4, 0] dX6_planOne_17 (by decide) rfl ?_
    refine a_aload_n C (pc := 19) 1 dX6_planOne_19 rfl rfl ?_
    refine a_iload_n C (pc := 20) 3 dX6_planOne_20 rfl rfl ?_
    refine a_callV C (pc := 21) (av := [.int l3]) (wr := [(h0, oX6 d0 v_pickedTerms v_terms v_segments v_doneSegments v_donePostings v_postings v_why v_hits), ((d1 2), aI cs 600 v_a1_impact), ((d0 4), aI cs 320 v_planImpact), ((d0 5), aI cs 320 v_planSize), ((d0 3), aI cs 320 v_planTerm), ((d0 1), aI cs 320 v_planSegment), ((d1 4), aI cs 600 v_a1_document), ((d0 2), aI cs 320 v_impactOf)]) (m_X4_size Lx Dx cs h1 d1 v_a1_bits v_a1_documents v_a1_terms v_a1_segments v_a1_postings v_a1_firstPosting l3 _ h) [1, 3] [0, 2, 4, 5, 6, 7, 8, 9] rfl rfl (by decide) (by decide) (by decide) wM_X6_112 wb_X4_size hy_X4_size (q0 := 1) rfl rfl rfl ⟨Nat.le_of_ble_eq_true rfl, Nat.le_of_ble_eq_true rfl⟩ (Nat.le_of_ble_eq_true rfl) (Nat.le_of_ble_eq_true rfl) (Nat.le_of_ble_eq_true rfl) rfl dX6_planOne_21 (fun v w1 hw => ?_) [] rfl (fun _ _ h => h.elim)
    obtain ⟨r_1, rfl, rfl, h⟩ := hw
    refine a_ws (st1 := [.int r_1]) (ws1 := [(h0, oX6 d0 v_pickedTerms v_terms v_segments v_doneSegments v_donePostings v_postings v_why v_hits), (h1, oX4 d1 v_a1_bits v_a1_documents v_a1_terms v_a1_segments v_a1_postings), ((d1 2), aI cs 600 v_a1_impact), ((d1 3), aI cs 601 v_a1_firstPosting), ((d0 4), aI cs 320 v_planImpact), ((d0 5), aI cs 320 v_planSize), ((d0 3), aI cs 320 v_planTerm), ((d0 1), aI cs 320 v_planSegment), ((d1 4), aI cs 600 v_a1_document), ((d0 2), aI cs 320 v_impactOf)]) 0 0 24 [0, 8, 1, 9, 2, 3, 4, 5, 6, 7] rfl rfl rfl rfl (by decide) rfl ?_
    refine a_istore C (pc := 24) (lv1 := [(0, .ref h0), (1, .ref h1), (2, .int l2), (3, .int l3), (4, .int (v_a1_impact (l3 : Int32).toNatClampNeg)), (5, .int r_1)]) [1, 2, 3, 4, 5, 0] dX6_planOne_24 (by decide) rfl ?_
    refine a_aload_n C (pc := 26) 0 dX6_planOne_26 rfl rfl ?_
    refine a_get C (pc := 27) 0 10 inW_X6 rfl rfl (Nat.le_of_ble_eq_true rfl) wF_X6_43 rfl rfl dX6_planOne_27 ?_
    refine a_istore C (pc := 30) (lv1 := [(0, .ref h0), (1, .ref h1), (2, .int l2), (3, .int l3), (4, .int (v_a1_impact (l3 : Int32).toNatClampNeg)), (5, .int r_1), (6, .int v_segments)]) [1, 2, 3, 4, 5, 6, 0] dX6_planOne_30 (by decide) rfl ?_
    obtain ⟨n0, h⟩ := h
    refine w_X6_planOne_32 C (Nat.le_of_ble_eq_true rfl) (Nat.le_of_ble_eq_true rfl) n0 v_segments v_postings v_planImpact v_planSize v_planTerm v_planSegment v_impactOf l2 l3 (v_a1_impact (l3 : Int32).toNatClampNeg) r_1 v_segments h ?_
    intro v_segments_15 v_postings_16 v_planImpact_17 v_planSize_18 v_planTerm_19 v_planSegment_20 v_impactOf_21 l2_22 l3_23 l4_24 l5_25 l6_26 h
    exact w_X6_planOne_122 C (Nat.le_of_ble_eq_true rfl) (Nat.le_of_ble_eq_true rfl) v_segments_15 v_postings_16 v_planImpact_17 v_planSize_18 v_planTerm_19 v_planSegment_20 v_impactOf_21 l2_22 l3_23 l4_24 l5_25 l6_26 h
  · have h := h.2 hc
    exact a_return C (pc := 10) rfl dX6_planOne_10 (Nat.le_of_ble_eq_true rfl) (Nat.le_of_ble_eq_true rfl) ⟨_, _, _, _, _, _, _, rfl, rfl, h⟩
set_option maxRecDepth 100000 in
set_option maxHeartbeats 4000000 in
theorem w_X6_makePlan_48 {Γ : XG} {Lx : Launch} {Dx : va_G} {cs : Nat → ClassId} {h0 : Nat} {h1 : Nat} {d0 : Nat → Nat} {d1 : Nat → Nat} {v_pickedTerms : Int32} {v_doneSegments : Int32} {v_donePostings : Int32} {v_why : Int32} {v_hits : Int32} {v_a1_bits : Int32} {v_a1_documents : Int32} {v_a1_terms : Int32} {v_a1_segments : Int32} {v_a1_postings : Int32} {v_picked : Nat → Int32} {v_a1_firstSegment : Nat → Int32} {v_a1_impact : Nat → Int32} {v_a1_firstPosting : Nat → Int32} {v_a1_document : Nat → Int32} {K_78 : Int32 → Int32 → Int32 → (Nat → Int32) → (Nat → Int32) → (Nat → Int32) → (Nat → Int32) → (Nat → Int32) → Int32 → Prop} {Φ : Int32 → Int32 → Int32 → (Nat → Int32) → (Nat → Int32) → (Nat → Int32) → (Nat → Int32) → (Nat → Int32) → Prop} {k n9 : Nat} (C : CX Γ Lx Dx cs cX6_makePlan RX6 "makePlan" 4 none 2 50 0 0 (qEC cs 0 0 [] (R_X6_makePlan cs h0 h1 d0 d1 v_pickedTerms v_doneSegments v_donePostings v_why v_hits v_a1_bits v_a1_documents v_a1_terms v_a1_segments v_a1_postings v_picked v_a1_firstSegment v_a1_impact v_a1_firstPosting v_a1_document Φ) (fun _ _ => False))) (hkm : k ≤ 0) (hnm : n9 ≤ 0) : ∀ n : Nat, ∀ (v_terms : Int32) (v_segments : Int32) (v_postings : Int32) (v_impactOf : Nat → Int32) (v_planImpact : Nat → Int32) (v_planSize : Nat → Int32) (v_planTerm : Nat → Int32) (v_planSegment : Nat → Int32) (l2 : Int32) (l3 : Int32), L_X6_makePlan_48 n v_pickedTerms v_terms v_segments v_postings v_impactOf v_picked v_a1_firstSegment v_a1_impact v_a1_firstPosting v_planImpact v_planSize v_planTerm v_planSegment v_a1_document l2 l3 K_78 Φ → (∀ (v_terms_9 : Int32) (v_segments_10 : Int32) (v_postings_11 : Int32) (v_impactOf_12 : Nat → Int32) (v_planImpact_13 : Nat → Int32) (v_planSize_14 : Nat → Int32) (v_planTerm_15 : Nat → Int32) (v_planSegment_16 : Nat → Int32) (l2_17 : Int32), K_78 v_terms_9 v_segments_10 v_postings_11 v_impactOf_12 v_planImpact_13 v_planSize_14 v_planTerm_15 v_planSegment_16 l2_17 → AW Γ k n9 78 [(0, .ref h0), (1, .ref h1), (2, .int l2_17)] [] [(h0, oX6 d0 v_pickedTerms v_terms_9 v_segments_10 v_doneSegments v_donePostings v_postings_11 v_why v_hits), ((d0 2), aI cs 320 v_impactOf_12), (h1, oX4 d1 v_a1_bits v_a1_documents v_a1_terms v_a1_segments v_a1_postings), ((d0 0), aI cs 8 v_picked), ((d1 1), aI cs 65 v_a1_firstSegment), ((d1 2), aI cs 600 v_a1_impact), ((d1 3), aI cs 601 v_a1_firstPosting), ((d0 4), aI cs 320 v_planImpact_13), ((d0 5), aI cs 320 v_planSize_14), ((d0 3), aI cs 320 v_planTerm_15), ((d0 1), aI cs 320 v_planSegment_16), ((d1 4), aI cs 600 v_a1_document)]) → AW Γ k n9 48 [(0, .ref h0), (1, .ref h1), (2, .int l2), (3, .int l3)] [] [(h0, oX6 d0 v_pickedTerms v_terms v_segments v_doneSegments v_donePostings v_postings v_why v_hits), ((d0 2), aI cs 320 v_impactOf), (h1, oX4 d1 v_a1_bits v_a1_documents v_a1_terms v_a1_segments v_a1_postings), ((d0 0), aI cs 8 v_picked), ((d1 1), aI cs 65 v_a1_firstSegment), ((d1 2), aI cs 600 v_a1_impact), ((d1 3), aI cs 601 v_a1_firstPosting), ((d0 4), aI cs 320 v_planImpact), ((d0 5), aI cs 320 v_planSize), ((d0 3), aI cs 320 v_planTerm), ((d0 1), aI cs 320 v_planSegment), ((d1 4), aI cs 600 v_a1_document)] := by
  intro n
  induction n with
  | zero =>
    intro v_terms v_segments v_postings v_impactOf v_planImpact v_planSize v_planTerm v_planSegment l2 l3 h
    exact False.elim h
  | succ n ih =>
    intro v_terms v_segments v_postings v_impactOf v_planImpact v_planSize v_planTerm v_planSegment l2 l3 h hK_78
    rw [L_X6_makePlan_48] at h
    refine a_iload_n C (pc := 48) 3 dX6_makePlan_48 rfl rfl ?_
    refine a_aload_n C (pc := 49) 1 dX6_makePlan_49 rfl rfl ?_
    refine a_get C (pc := 50) 2 1 inW_X4 rfl rfl (Nat.le_of_ble_eq_true rfl) wF_X6_102 rfl rfl dX6_makePlan_50 ?_
    refine a_aload_n C (pc := 53) 0 dX6_makePlan_53 rfl rfl ?_
    refine a_get C (pc := 54) 0 0 inW_X6 rfl rfl (Nat.le_of_ble_eq_true rfl) wF_X6_9 rfl rfl dX6_makePlan_54 ?_
    refine a_iload_n C (pc := 57) 2 dX6_makePlan_57 rfl rfl ?_
    refine a_iald C (pc := 58) 3 rfl h.1 dX6_makePlan_58 ?_
    replace h := h.2
    refine a_iconst C (pc := 59) dX6_makePlan_59 ic_1 ?_
    refine a_iadd C (pc := 60) dX6_makePlan_60 ?_
    refine a_iald C (pc := 61) 4 rfl h.1 dX6_makePlan_61 ?_
    replace h := h.2
    refine a_icmp_ge C (pc := 62) 78 dX6_makePlan_62 (by decide) (fun hc => ?_) (fun hc => ?_)
    · have h := h.1 hc
      refine a_lv (lv1 := [(0, .ref h0), (1, .ref h1), (2, .int l2)]) [0, 1, 2] rfl ?_
      exact hK_78 v_terms v_segments v_postings v_impactOf v_planImpact v_planSize v_planTerm v_planSegment l2 h
    · have h := h.2 hc
      refine a_aload_n C (pc := 65) 0 dX6_makePlan_65 rfl rfl ?_
      refine a_aload_n C (pc := 66) 1 dX6_makePlan_66 rfl rfl ?_
      refine a_iload_n C (pc := 67) 2 dX6_makePlan_67 rfl rfl ?_
      refine a_iload_n C (pc := 68) 3 dX6_makePlan_68 rfl rfl ?_
      refine a_callV C (pc := 69) (av := [.ref h1, .int l2, .int l3]) (wr := [((d0 0), aI cs 8 v_picked), ((d1 1), aI cs 65 v_a1_firstSegment)]) (m_X6_planOne Lx Dx cs h0 h1 d0 d1 v_pickedTerms v_terms v_segments v_doneSegments v_donePostings v_postings v_why v_hits v_a1_bits v_a1_documents v_a1_terms v_a1_segments v_a1_postings v_a1_impact v_a1_firstPosting v_planImpact v_planSize v_planTerm v_planSegment v_a1_document v_impactOf l2 l3 _ h) [0, 2, 5, 6, 7, 8, 9, 10, 11, 1] [3, 4] rfl rfl (by decide) (by decide) (by decide) wM_X6_105 wb_X6_planOne hy_X6_planOne (q0 := 0) rfl rfl rfl ⟨Nat.le_of_ble_eq_true rfl, Nat.le_of_ble_eq_true rfl⟩ (Nat.le_of_ble_eq_true rfl) hkm hnm rfl dX6_makePlan_69 (fun v w1 hw => ?_) [] rfl (fun _ _ h => h.elim)
      obtain ⟨v_segments_2, v_postings_3, v_planImpact_4, v_planSize_5, v_planTerm_6, v_planSegment_7, v_impactOf_8, rfl, rfl, h⟩ := hw
      refine a_ws (st1 := []) (ws1 := [(h0, oX6 d0 v_pickedTerms v_terms v_segments_2 v_doneSegments v_donePostings v_postings_3 v_why v_hits), ((d0 2), aI cs 320 v_impactOf_8), (h1, oX4 d1 v_a1_bits v_a1_documents v_a1_terms v_a1_segments v_a1_postings), ((d0 0), aI cs 8 v_picked), ((d1 1), aI cs 65 v_a1_firstSegment), ((d1 2), aI cs 600 v_a1_impact), ((d1 3), aI cs 601 v_a1_firstPosting), ((d0 4), aI cs 320 v_planImpact_4), ((d0 5), aI cs 320 v_planSize_5), ((d0 3), aI cs 320 v_planTerm_6), ((d0 1), aI cs 320 v_planSegment_7), ((d1 4), aI cs 600 v_a1_document)]) k n9 72 [2, 11, 3, 0, 1, 4, 5, 6, 7, 8, 9, 10] rfl rfl rfl rfl (by decide) rfl ?_
      refine a_iinc C (pc := 72) (lv1 := [(0, .ref h0), (1, .ref h1), (2, .int l2), (3, .int (l3 + 1))]) 3 [1, 2, 3, 0] dX6_makePlan_72 rfl (congrArg (fun z => l3 + z) ic_1) (by decide) rfl ?_
      refine a_goto C (pc := 75) 48 dX6_makePlan_75 (by decide) ?_
      exact ih v_terms v_segments_2 v_postings_3 v_impactOf_8 v_planImpact_4 v_planSize_5 v_planTerm_6 v_planSegment_7 l2 (l3 + 1) h hK_78
set_option maxRecDepth 100000 in
set_option maxHeartbeats 4000000 in
theorem w_X6_makePlan_28 {Γ : XG} {Lx : Launch} {Dx : va_G} {cs : Nat → ClassId} {h0 : Nat} {h1 : Nat} {d0 : Nat → Nat} {d1 : Nat → Nat} {v_pickedTerms : Int32} {v_doneSegments : Int32} {v_donePostings : Int32} {v_why : Int32} {v_hits : Int32} {v_a1_bits : Int32} {v_a1_documents : Int32} {v_a1_terms : Int32} {v_a1_segments : Int32} {v_a1_postings : Int32} {v_picked : Nat → Int32} {v_a1_firstSegment : Nat → Int32} {v_a1_impact : Nat → Int32} {v_a1_firstPosting : Nat → Int32} {v_a1_document : Nat → Int32} {K_84 : Int32 → Int32 → Int32 → (Nat → Int32) → (Nat → Int32) → (Nat → Int32) → (Nat → Int32) → (Nat → Int32) → Prop} {Φ : Int32 → Int32 → Int32 → (Nat → Int32) → (Nat → Int32) → (Nat → Int32) → (Nat → Int32) → (Nat → Int32) → Prop} {k n9 : Nat} (C : CX Γ Lx Dx cs cX6_makePlan RX6 "makePlan" 4 none 2 50 0 0 (qEC cs 0 0 [] (R_X6_makePlan cs h0 h1 d0 d1 v_pickedTerms v_doneSegments v_donePostings v_why v_hits v_a1_bits v_a1_documents v_a1_terms v_a1_segments v_a1_postings v_picked v_a1_firstSegment v_a1_impact v_a1_firstPosting v_a1_document Φ) (fun _ _ => False))) (hkm : k ≤ 0) (hnm : n9 ≤ 0) : ∀ n : Nat, ∀ (v_terms : Int32) (v_segments : Int32) (v_postings : Int32) (v_impactOf : Nat → Int32) (v_planImpact : Nat → Int32) (v_planSize : Nat → Int32) (v_planTerm : Nat → Int32) (v_planSegment : Nat → Int32) (l2 : Int32), L_X6_makePlan_28 n v_pickedTerms v_terms v_segments v_postings v_impactOf v_picked v_a1_firstSegment v_a1_impact v_a1_firstPosting v_planImpact v_planSize v_planTerm v_planSegment v_a1_document l2 K_84 Φ → (∀ (v_terms_27 : Int32) (v_segments_28 : Int32) (v_postings_29 : Int32) (v_impactOf_30 : Nat → Int32) (v_planImpact_31 : Nat → Int32) (v_planSize_32 : Nat → Int32) (v_planTerm_33 : Nat → Int32) (v_planSegment_34 : Nat → Int32), K_84 v_terms_27 v_segments_28 v_postings_29 v_impactOf_30 v_planImpact_31 v_planSize_32 v_planTerm_33 v_planSegment_34 → AW Γ k n9 84 [] [] [(h0, oX6 d0 v_pickedTerms v_terms_27 v_segments_28 v_doneSegments v_donePostings v_postings_29 v_why v_hits), ((d0 2), aI cs 320 v_impactOf_30), (h1, oX4 d1 v_a1_bits v_a1_documents v_a1_terms v_a1_segments v_a1_postings), ((d0 0), aI cs 8 v_picked), ((d1 1), aI cs 65 v_a1_firstSegment), ((d1 2), aI cs 600 v_a1_impact), ((d1 3), aI cs 601 v_a1_firstPosting), ((d0 4), aI cs 320 v_planImpact_31), ((d0 5), aI cs 320 v_planSize_32), ((d0 3), aI cs 320 v_planTerm_33), ((d0 1), aI cs 320 v_planSegment_34), ((d1 4), aI cs 600 v_a1_document)]) → AW Γ k n9 28 [(0, .ref h0), (1, .ref h1), (2, .int l2)] [] [(h0, oX6 d0 v_pickedTerms v_terms v_segments v_doneSegments v_donePostings v_postings v_why v_hits), ((d0 2), aI cs 320 v_impactOf), (h1, oX4 d1 v_a1_bits v_a1_documents v_a1_terms v_a1_segments v_a1_postings), ((d0 0), aI cs 8 v_picked), ((d1 1), aI cs 65 v_a1_firstSegment), ((d1 2), aI cs 600 v_a1_impact), ((d1 3), aI cs 601 v_a1_firstPosting), ((d0 4), aI cs 320 v_planImpact), ((d0 5), aI cs 320 v_planSize), ((d0 3), aI cs 320 v_planTerm), ((d0 1), aI cs 320 v_planSegment), ((d1 4), aI cs 600 v_a1_document)] := by
  intro n
  induction n with
  | zero =>
    intro v_terms v_segments v_postings v_impactOf v_planImpact v_planSize v_planTerm v_planSegment l2 h
    exact False.elim h
  | succ n ih =>
    intro v_terms v_segments v_postings v_impactOf v_planImpact v_planSize v_planTerm v_planSegment l2 h hK_84
    rw [L_X6_makePlan_28] at h
    refine a_iload_n C (pc := 28) 2 dX6_makePlan_28 rfl rfl ?_
    refine a_aload_n C (pc := 29) 0 dX6_makePlan_29 rfl rfl ?_
    refine a_get C (pc := 30) 0 9 inW_X6 rfl rfl (Nat.le_of_ble_eq_true rfl) wF_X6_40 rfl rfl dX6_makePlan_30 ?_
    refine a_icmp_ge C (pc := 33) 84 dX6_makePlan_33 (by decide) (fun hc => ?_) (fun hc => ?_)
    · have h := h.1 hc
      refine a_lv (lv1 := []) [] rfl ?_
      exact hK_84 v_terms v_segments v_postings v_impactOf v_planImpact v_planSize v_planTerm v_planSegment h
    · have h := h.2 hc
      refine a_aload_n C (pc := 36) 1 dX6_makePlan_36 rfl rfl ?_
      refine a_get C (pc := 37) 2 1 inW_X4 rfl rfl (Nat.le_of_ble_eq_true rfl) wF_X6_102 rfl rfl dX6_makePlan_37 ?_
      refine a_aload_n C (pc := 40) 0 dX6_makePlan_40 rfl rfl ?_
      refine a_get C (pc := 41) 0 0 inW_X6 rfl rfl (Nat.le_of_ble_eq_true rfl) wF_X6_9 rfl rfl dX6_makePlan_41 ?_
      refine a_iload_n C (pc := 44) 2 dX6_makePlan_44 rfl rfl ?_
      refine a_iald C (pc := 45) 3 rfl h.1 dX6_makePlan_45 ?_
      replace h := h.2
      refine a_iald C (pc := 46) 4 rfl h.1 dX6_makePlan_46 ?_
      replace h := h.2
      refine a_istore_n C (pc := 47) (lv1 := [(0, .ref h0), (1, .ref h1), (2, .int l2), (3, .int (v_a1_firstSegment (v_picked (l2 : Int32).toNatClampNeg : Int32).toNatClampNeg))]) [1, 2, 3, 0] dX6_makePlan_47 rfl (by decide) rfl ?_
      obtain ⟨n0, h⟩ := h
      refine w_X6_makePlan_48 C hkm hnm n0 v_terms v_segments v_postings v_impactOf v_planImpact v_planSize v_planTerm v_planSegment l2 (v_a1_firstSegment (v_picked (l2 : Int32).toNatClampNeg : Int32).toNatClampNeg) h ?_
      intro v_terms_18 v_segments_19 v_postings_20 v_impactOf_21 v_planImpact_22 v_planSize_23 v_planTerm_24 v_planSegment_25 l2_26 h
      refine a_iinc C (pc := 78) (lv1 := [(0, .ref h0), (1, .ref h1), (2, .int (l2_26 + 1))]) 2 [1, 2, 0] dX6_makePlan_78 rfl (congrArg (fun z => l2_26 + z) ic_1) (by decide) rfl ?_
      refine a_goto C (pc := 81) 28 dX6_makePlan_81 (by decide) ?_
      exact ih v_terms_18 v_segments_19 v_postings_20 v_impactOf_21 v_planImpact_22 v_planSize_23 v_planTerm_24 v_planSegment_25 (l2_26 + 1) h hK_84
set_option maxRecDepth 100000 in
set_option maxHeartbeats 4000000 in
theorem m_X6_makePlan (Lx : Launch) (Dx : va_G) (cs : Nat → ClassId) (h0 : Nat) (h1 : Nat) (d0 : Nat → Nat) (d1 : Nat → Nat) (v_pickedTerms : Int32) (v_terms : Int32) (v_segments : Int32) (v_doneSegments : Int32) (v_donePostings : Int32) (v_postings : Int32) (v_why : Int32) (v_hits : Int32) (v_impactOf : Nat → Int32) (v_a1_bits : Int32) (v_a1_documents : Int32) (v_a1_terms : Int32) (v_a1_segments : Int32) (v_a1_postings : Int32) (v_picked : Nat → Int32) (v_a1_firstSegment : Nat → Int32) (v_a1_impact : Nat → Int32) (v_a1_firstPosting : Nat → Int32) (v_planImpact : Nat → Int32) (v_planSize : Nat → Int32) (v_planTerm : Nat → Int32) (v_planSegment : Nat → Int32) (v_a1_document : Nat → Int32) (Φ : Int32 → Int32 → Int32 → (Nat → Int32) → (Nat → Int32) → (Nat → Int32) → (Nat → Int32) → (Nat → Int32) → Prop) (h : P_X6_makePlan v_pickedTerms v_terms v_segments v_postings v_impactOf v_picked v_a1_firstSegment v_a1_impact v_a1_firstPosting v_planImpact v_planSize v_planTerm v_planSegment v_a1_document Φ) : XMet Lx Dx cs yX6_makePlan cX6_makePlan 4 none 2 50 0 0 [.ref h0, .ref h1] [(h0, oX6 d0 v_pickedTerms v_terms v_segments v_doneSegments v_donePostings v_postings v_why v_hits), ((d0 2), aI cs 320 v_impactOf), (h1, oX4 d1 v_a1_bits v_a1_documents v_a1_terms v_a1_segments v_a1_postings), ((d0 0), aI cs 8 v_picked), ((d1 1), aI cs 65 v_a1_firstSegment), ((d1 2), aI cs 600 v_a1_impact), ((d1 3), aI cs 601 v_a1_firstPosting), ((d0 4), aI cs 320 v_planImpact), ((d0 5), aI cs 320 v_planSize), ((d0 3), aI cs 320 v_planTerm), ((d0 1), aI cs 320 v_planSegment), ((d1 4), aI cs 600 v_a1_document)] (R_X6_makePlan cs h0 h1 d0 d1 v_pickedTerms v_doneSegments v_donePostings v_why v_hits v_a1_bits v_a1_documents v_a1_terms v_a1_segments v_a1_postings v_picked v_a1_firstSegment v_a1_impact v_a1_firstPosting v_a1_document Φ) (fun _ _ => False) := by
  refine XMet.of (own := RX6) (nm := "makePlan") (by decide) rfl rfl (Nat.le_of_ble_eq_true rfl) (fun Γ C => ?_)
  unfold P_X6_makePlan at h
  refine a_aload_n C (pc := 0) 0 dX6_makePlan_0 rfl rfl ?_
  refine a_aload_n C (pc := 1) 0 dX6_makePlan_1 rfl rfl ?_
  refine a_get C (pc := 2) 0 8 inW_X6 rfl rfl (Nat.le_of_ble_eq_true rfl) wF_X6_36 rfl rfl dX6_makePlan_2 ?_
  refine a_put C (pc := 5) (ws1 := [(h0, oX6 d0 v_pickedTerms v_pickedTerms v_segments v_doneSegments v_donePostings v_postings v_why v_hits), ((d0 2), aI cs 320 v_impactOf), (h1, oX4 d1 v_a1_bits v_a1_documents v_a1_terms v_a1_segments v_a1_postings), ((d0 0), aI cs 8 v_picked), ((d1 1), aI cs 65 v_a1_firstSegment), ((d1 2), aI cs 600 v_a1_impact), ((d1 3), aI cs 601 v_a1_firstPosting), ((d0 4), aI cs 320 v_planImpact), ((d0 5), aI cs 320 v_planSize), ((d0 3), aI cs 320 v_planTerm), ((d0 1), aI cs 320 v_planSegment), ((d1 4), aI cs 600 v_a1_document)]) 0 9 inW_X6 tyX6 tyX6_ok nmX6 rfl rfl (Nat.le_of_ble_eq_true rfl) wF_X6_40 rfl rfl rfl rfl rfl (Nat.le_of_ble_eq_true rfl) dX6_makePlan_5 rfl ?_
  refine a_aload_n C (pc := 8) 0 dX6_makePlan_8 rfl rfl ?_
  refine a_iconst C (pc := 9) dX6_makePlan_9 ic_0 ?_
  refine a_put C (pc := 10) (ws1 := [(h0, oX6 d0 v_pickedTerms v_pickedTerms 0 v_doneSegments v_donePostings v_postings v_why v_hits), ((d0 2), aI cs 320 v_impactOf), (h1, oX4 d1 v_a1_bits v_a1_documents v_a1_terms v_a1_segments v_a1_postings), ((d0 0), aI cs 8 v_picked), ((d1 1), aI cs 65 v_a1_firstSegment), ((d1 2), aI cs 600 v_a1_impact), ((d1 3), aI cs 601 v_a1_firstPosting), ((d0 4), aI cs 320 v_planImpact), ((d0 5), aI cs 320 v_planSize), ((d0 3), aI cs 320 v_planTerm), ((d0 1), aI cs 320 v_planSegment), ((d1 4), aI cs 600 v_a1_document)]) 0 10 inW_X6 tyX6 tyX6_ok nmX6 rfl rfl (Nat.le_of_ble_eq_true rfl) wF_X6_43 rfl rfl rfl rfl rfl (Nat.le_of_ble_eq_true rfl) dX6_makePlan_10 rfl ?_
  refine a_aload_n C (pc := 13) 0 dX6_makePlan_13 rfl rfl ?_
  refine a_iconst C (pc := 14) dX6_makePlan_14 ic_0 ?_
  refine a_put C (pc := 15) (ws1 := [(h0, oX6 d0 v_pickedTerms v_pickedTerms 0 v_doneSegments v_donePostings 0 v_why v_hits), ((d0 2), aI cs 320 v_impactOf), (h1, oX4 d1 v_a1_bits v_a1_documents v_a1_terms v_a1_segments v_a1_postings), ((d0 0), aI cs 8 v_picked), ((d1 1), aI cs 65 v_a1_firstSegment), ((d1 2), aI cs 600 v_a1_impact), ((d1 3), aI cs 601 v_a1_firstPosting), ((d0 4), aI cs 320 v_planImpact), ((d0 5), aI cs 320 v_planSize), ((d0 3), aI cs 320 v_planTerm), ((d0 1), aI cs 320 v_planSegment), ((d1 4), aI cs 600 v_a1_document)]) 0 13 inW_X6 tyX6 tyX6_ok nmX6 rfl rfl (Nat.le_of_ble_eq_true rfl) wF_X6_52 rfl rfl rfl rfl rfl (Nat.le_of_ble_eq_true rfl) dX6_makePlan_15 rfl ?_
  refine a_aload_n C (pc := 18) 0 dX6_makePlan_18 rfl rfl ?_
  refine a_get C (pc := 19) 0 2 inW_X6 rfl rfl (Nat.le_of_ble_eq_true rfl) wF_X6_18 rfl rfl dX6_makePlan_19 ?_
  refine a_iconst C (pc := 22) dX6_makePlan_22 ic_0 ?_
  refine a_callS C (pc := 23) (av := [.ref (d0 2), .int 0]) (wr := [(h0, oX6 d0 v_pickedTerms v_pickedTerms 0 v_doneSegments v_donePostings 0 v_why v_hits), (h1, oX4 d1 v_a1_bits v_a1_documents v_a1_terms v_a1_segments v_a1_postings), ((d0 0), aI cs 8 v_picked), ((d1 1), aI cs 65 v_a1_firstSegment), ((d1 2), aI cs 600 v_a1_impact), ((d1 3), aI cs 601 v_a1_firstPosting), ((d0 4), aI cs 320 v_planImpact), ((d0 5), aI cs 320 v_planSize), ((d0 3), aI cs 320 v_planTerm), ((d0 1), aI cs 320 v_planSegment), ((d1 4), aI cs 600 v_a1_document)]) (m_J7_fill_53178 Lx Dx cs 320 (d0 2) v_impactOf 0 _ h) [1] [0, 2, 3, 4, 5, 6, 7, 8, 9, 10, 11] rfl rfl (by decide) (by decide) (by decide) wM_X6_96 wb_J7_fill_53178 hy_J7_fill_53178 rfl ⟨Nat.le_of_ble_eq_true rfl, Nat.le_of_ble_eq_true rfl⟩ (Nat.le_of_ble_eq_true rfl) (Nat.le_of_ble_eq_true rfl) (Nat.le_of_ble_eq_true rfl) rfl dX6_makePlan_23 (fun v w1 hw => ?_) [] rfl (fun _ _ h => h.elim)
  obtain ⟨v_impactOf_1, rfl, rfl, h⟩ := hw
  refine a_ws (st1 := []) (ws1 := [(h0, oX6 d0 v_pickedTerms v_pickedTerms 0 v_doneSegments v_donePostings 0 v_why v_hits), ((d0 2), aI cs 320 v_impactOf_1), (h1, oX4 d1 v_a1_bits v_a1_documents v_a1_terms v_a1_segments v_a1_postings), ((d0 0), aI cs 8 v_picked), ((d1 1), aI cs 65 v_a1_firstSegment), ((d1 2), aI cs 600 v_a1_impact), ((d1 3), aI cs 601 v_a1_firstPosting), ((d0 4), aI cs 320 v_planImpact), ((d0 5), aI cs 320 v_planSize), ((d0 3), aI cs 320 v_planTerm), ((d0 1), aI cs 320 v_planSegment), ((d1 4), aI cs 600 v_a1_document)]) 0 0 26 [0, 11, 1, 2, 3, 4, 5, 6, 7, 8, 9, 10] rfl rfl rfl rfl (by decide) rfl ?_
  refine a_iconst C (pc := 26) dX6_makePlan_26 ic_0 ?_
  refine a_istore_n C (pc := 27) (lv1 := [(0, .ref h0), (1, .ref h1), (2, .int 0)]) [1, 2, 0] dX6_makePlan_27 rfl (by decide) rfl ?_
  obtain ⟨n0, h⟩ := h
  refine w_X6_makePlan_28 C (Nat.le_of_ble_eq_true rfl) (Nat.le_of_ble_eq_true rfl) n0 v_pickedTerms 0 0 v_impactOf_1 v_planImpact v_planSize v_planTerm v_planSegment 0 h ?_
  intro v_terms_35 v_segments_36 v_postings_37 v_impactOf_38 v_planImpact_39 v_planSize_40 v_planTerm_41 v_planSegment_42 h
  exact a_return C (pc := 84) rfl dX6_makePlan_84 (Nat.le_of_ble_eq_true rfl) (Nat.le_of_ble_eq_true rfl) ⟨_, _, _, _, _, _, _, _, rfl, rfl, h⟩
set_option maxRecDepth 100000 in
set_option maxHeartbeats 4000000 in
theorem w_X6_workThrough_70 {Γ : XG} {Lx : Launch} {Dx : va_G} {cs : Nat → ClassId} {h0 : Nat} {h1 : Nat} {d0 : Nat → Nat} {d1 : Nat → Nat} {v_pickedTerms : Int32} {v_terms : Int32} {v_segments : Int32} {v_postings : Int32} {v_hits : Int32} {v_planSegment : Nat → Int32} {v_a1_bits : Int32} {v_a1_documents : Int32} {v_a1_terms : Int32} {v_a1_segments : Int32} {v_a1_postings : Int32} {v_a1_firstPosting : Nat → Int32} {v_a1_document : Nat → Int32} {v_a1_impact : Nat → Int32} {K_112 : Int32 → Int32 → Int32 → (Nat → Int32) → Int32 → Int64 → Int64 → Int32 → Prop} {Φ : Int32 → Int32 → Int32 → (Nat → Int32) → Prop} {k n9 : Nat} (C : CX Γ Lx Dx cs cX6_workThrough RX6 "workThrough" 9 none 1 23 0 0 (qEC cs 0 0 [] (R_X6_workThrough cs h0 h1 d0 d1 v_pickedTerms v_terms v_segments v_postings v_hits v_planSegment v_a1_bits v_a1_documents v_a1_terms v_a1_segments v_a1_postings v_a1_firstPosting v_a1_document v_a1_impact Φ) (fun _ _ => False))) (hkm : k ≤ 0) (hnm : n9 ≤ 0) : ∀ n : Nat, ∀ (v_doneSegments : Int32) (v_donePostings : Int32) (v_why : Int32) (v_sums : Nat → Int32) (l2 : Int32) (l3 : Int64) (l5 : Int64) (l7 : Int32) (l8 : Int32), L_X6_workThrough_70 n v_segments v_doneSegments v_donePostings v_why v_sums v_planSegment v_a1_firstPosting v_a1_document v_a1_impact l2 l3 l5 l7 l8 K_112 Φ → (∀ (v_doneSegments_2 : Int32) (v_donePostings_3 : Int32) (v_why_4 : Int32) (v_sums_5 : Nat → Int32) (l2_6 : Int32) (l3_7 : Int64) (l5_8 : Int64) (l7_9 : Int32), K_112 v_doneSegments_2 v_donePostings_3 v_why_4 v_sums_5 l2_6 l3_7 l5_8 l7_9 → AW Γ k n9 112 [(0, .ref h0), (1, .ref h1), (2, .int l2_6), (3, .long l3_7), (5, .long l5_8), (7, .int l7_9)] [] [(h0, oX6 d0 v_pickedTerms v_terms v_segments v_doneSegments_2 v_donePostings_3 v_postings v_why_4 v_hits), ((d0 6), aI cs 40 v_sums_5), ((d0 1), aI cs 320 v_planSegment), (h1, oX4 d1 v_a1_bits v_a1_documents v_a1_terms v_a1_segments v_a1_postings), ((d1 3), aI cs 601 v_a1_firstPosting), ((d1 4), aI cs 600 v_a1_document), ((d1 2), aI cs 600 v_a1_impact)]) → AW Γ k n9 70 [(0, .ref h0), (1, .ref h1), (2, .int l2), (3, .long l3), (5, .long l5), (7, .int l7), (8, .int l8)] [] [(h0, oX6 d0 v_pickedTerms v_terms v_segments v_doneSegments v_donePostings v_postings v_why v_hits), ((d0 6), aI cs 40 v_sums), ((d0 1), aI cs 320 v_planSegment), (h1, oX4 d1 v_a1_bits v_a1_documents v_a1_terms v_a1_segments v_a1_postings), ((d1 3), aI cs 601 v_a1_firstPosting), ((d1 4), aI cs 600 v_a1_document), ((d1 2), aI cs 600 v_a1_impact)] := by
  intro n
  induction n with
  | zero =>
    intro v_doneSegments v_donePostings v_why v_sums l2 l3 l5 l7 l8 h
    exact False.elim h
  | succ n ih =>
    intro v_doneSegments v_donePostings v_why v_sums l2 l3 l5 l7 l8 h hK_112
    rw [L_X6_workThrough_70] at h
    refine a_iload C (pc := 70) 6 dX6_workThrough_70 rfl ?_
    refine a_aload_n C (pc := 72) 1 dX6_workThrough_72 rfl rfl ?_
    refine a_get C (pc := 73) 3 3 inW_X4 rfl rfl (Nat.le_of_ble_eq_true rfl) wF_X6_120 rfl rfl dX6_workThrough_73 ?_
    refine a_iload C (pc := 76) 5 dX6_workThrough_76 rfl ?_
    refine a_iconst C (pc := 78) dX6_workThrough_78 ic_1 ?_
    refine a_iadd C (pc := 79) dX6_workThrough_79 ?_
    refine a_iald C (pc := 80) 4 rfl h.1 dX6_workThrough_80 ?_
    replace h := h.2
    refine a_icmp_ge C (pc := 81) 112 dX6_workThrough_81 (by decide) (fun hc => ?_) (fun hc => ?_)
    · have h := h.1 hc
      refine a_lv (lv1 := [(0, .ref h0), (1, .ref h1), (2, .int l2), (3, .long l3), (5, .long l5), (7, .int l7)]) [0, 1, 2, 3, 4, 5] rfl ?_
      exact hK_112 v_doneSegments v_donePostings v_why v_sums l2 l3 l5 l7 h
    · have h := h.2 hc
      refine a_aload_n C (pc := 84) 0 dX6_workThrough_84 rfl rfl ?_
      refine a_get C (pc := 85) 0 6 inW_X6 rfl rfl (Nat.le_of_ble_eq_true rfl) wF_X6_30 rfl rfl dX6_workThrough_85 ?_
      refine a_aload_n C (pc := 88) 1 dX6_workThrough_88 rfl rfl ?_
      refine a_get C (pc := 89) 3 4 inW_X4 rfl rfl (Nat.le_of_ble_eq_true rfl) wF_X6_123 rfl rfl dX6_workThrough_89 ?_
      refine a_iload C (pc := 92) 6 dX6_workThrough_92 rfl ?_
      refine a_iald C (pc := 94) 5 rfl h.1 dX6_workThrough_94 ?_
      replace h := h.2
      refine a_dup2 C (pc := 95) dX6_workThrough_95 rfl rfl ?_
      refine a_iald C (pc := 96) 1 rfl h.1 dX6_workThrough_96 ?_
      replace h := h.2
      refine a_aload_n C (pc := 97) 1 dX6_workThrough_97 rfl rfl ?_
      refine a_get C (pc := 98) 3 2 inW_X4 rfl rfl (Nat.le_of_ble_eq_true rfl) wF_X6_109 rfl rfl dX6_workThrough_98 ?_
      refine a_iload C (pc := 101) 5 dX6_workThrough_101 rfl ?_
      refine a_iald C (pc := 103) 6 rfl h.1 dX6_workThrough_103 ?_
      replace h := h.2
      refine a_iadd C (pc := 104) dX6_workThrough_104 ?_
      refine a_iast C (pc := 105) (ws1 := [(h0, oX6 d0 v_pickedTerms v_terms v_segments v_doneSegments v_donePostings v_postings v_why v_hits), ((d0 6), aI cs 40 (upd v_sums (v_a1_document (l8 : Int32).toNatClampNeg : Int32).toNatClampNeg ((v_sums (v_a1_document (l8 : Int32).toNatClampNeg : Int32).toNatClampNeg) + (v_a1_impact (l7 : Int32).toNatClampNeg)))), ((d0 1), aI cs 320 v_planSegment), (h1, oX4 d1 v_a1_bits v_a1_documents v_a1_terms v_a1_segments v_a1_postings), ((d1 3), aI cs 601 v_a1_firstPosting), ((d1 4), aI cs 600 v_a1_document), ((d1 2), aI cs 600 v_a1_impact)]) 1 rfl h.1 dX6_workThrough_105 rfl ?_
      replace h := h.2
      refine a_iinc C (pc := 106) (lv1 := [(0, .ref h0), (1, .ref h1), (2, .int l2), (3, .long l3), (5, .long l5), (7, .int l7), (8, .int (l8 + 1))]) 6 [1, 2, 3, 4, 5, 6, 0] dX6_workThrough_106 rfl (congrArg (fun z => l8 + z) ic_1) (by decide) rfl ?_
      refine a_goto C (pc := 109) 70 dX6_workThrough_109 (by decide) ?_
      exact ih v_doneSegments v_donePostings v_why (upd v_sums (v_a1_document (l8 : Int32).toNatClampNeg : Int32).toNatClampNeg ((v_sums (v_a1_document (l8 : Int32).toNatClampNeg : Int32).toNatClampNeg) + (v_a1_impact (l7 : Int32).toNatClampNeg))) l2 l3 l5 l7 (l8 + 1) h hK_112
set_option maxRecDepth 100000 in
set_option maxHeartbeats 4000000 in
theorem w_X6_workThrough_18 {Γ : XG} {Lx : Launch} {Dx : va_G} {cs : Nat → ClassId} {h0 : Nat} {h1 : Nat} {d0 : Nat → Nat} {d1 : Nat → Nat} {v_pickedTerms : Int32} {v_terms : Int32} {v_segments : Int32} {v_postings : Int32} {v_hits : Int32} {v_planSegment : Nat → Int32} {v_a1_bits : Int32} {v_a1_documents : Int32} {v_a1_terms : Int32} {v_a1_segments : Int32} {v_a1_postings : Int32} {v_a1_firstPosting : Nat → Int32} {v_a1_document : Nat → Int32} {v_a1_impact : Nat → Int32} {K_140 : Int32 → Int32 → Int32 → (Nat → Int32) → Int32 → Prop} {Φ : Int32 → Int32 → Int32 → (Nat → Int32) → Prop} {k n9 : Nat} (C : CX Γ Lx Dx cs cX6_workThrough RX6 "workThrough" 9 none 1 23 0 0 (qEC cs 0 0 [] (R_X6_workThrough cs h0 h1 d0 d1 v_pickedTerms v_terms v_segments v_postings v_hits v_planSegment v_a1_bits v_a1_documents v_a1_terms v_a1_segments v_a1_postings v_a1_firstPosting v_a1_document v_a1_impact Φ) (fun _ _ => False))) (hkm : k ≤ 0) (hnm : n9 ≤ 0) : ∀ n : Nat, ∀ (v_doneSegments : Int32) (v_donePostings : Int32) (v_why : Int32) (v_sums : Nat → Int32) (l2 : Int32) (l3 : Int64) (l5 : Int64), L_X6_workThrough_18 n v_segments v_doneSegments v_donePostings v_why v_sums v_planSegment v_a1_firstPosting v_a1_document v_a1_impact l2 l3 l5 K_140 Φ → (∀ (v_doneSegments_19 : Int32) (v_donePostings_20 : Int32) (v_why_21 : Int32) (v_sums_22 : Nat → Int32) (l2_23 : Int32), K_140 v_doneSegments_19 v_donePostings_20 v_why_21 v_sums_22 l2_23 → AW Γ k n9 140 [(0, .ref h0), (2, .int l2_23)] [] [(h0, oX6 d0 v_pickedTerms v_terms v_segments v_doneSegments_19 v_donePostings_20 v_postings v_why_21 v_hits), ((d0 6), aI cs 40 v_sums_22), ((d0 1), aI cs 320 v_planSegment), (h1, oX4 d1 v_a1_bits v_a1_documents v_a1_terms v_a1_segments v_a1_postings), ((d1 3), aI cs 601 v_a1_firstPosting), ((d1 4), aI cs 600 v_a1_document), ((d1 2), aI cs 600 v_a1_impact)]) → AW Γ k n9 18 [(0, .ref h0), (1, .ref h1), (2, .int l2), (3, .long l3), (5, .long l5)] [] [(h0, oX6 d0 v_pickedTerms v_terms v_segments v_doneSegments v_donePostings v_postings v_why v_hits), ((d0 6), aI cs 40 v_sums), ((d0 1), aI cs 320 v_planSegment), (h1, oX4 d1 v_a1_bits v_a1_documents v_a1_terms v_a1_segments v_a1_postings), ((d1 3), aI cs 601 v_a1_firstPosting), ((d1 4), aI cs 600 v_a1_document), ((d1 2), aI cs 600 v_a1_impact)] := by
  intro n
  induction n with
  | zero =>
    intro v_doneSegments v_donePostings v_why v_sums l2 l3 l5 h
    exact False.elim h
  | succ n ih =>
    intro v_doneSegments v_donePostings v_why v_sums l2 l3 l5 h hK_140
    rw [L_X6_workThrough_18] at h
    refine a_aload_n C (pc := 18) 0 dX6_workThrough_18 rfl rfl ?_
    refine a_get C (pc := 19) 0 11 inW_X6 rfl rfl (Nat.le_of_ble_eq_true rfl) wF_X6_46 rfl rfl dX6_workThrough_19 ?_
    refine a_aload_n C (pc := 22) 0 dX6_workThrough_22 rfl rfl ?_
    refine a_get C (pc := 23) 0 10 inW_X6 rfl rfl (Nat.le_of_ble_eq_true rfl) wF_X6_43 rfl rfl dX6_workThrough_23 ?_
    refine a_icmp_ge C (pc := 26) 140 dX6_workThrough_26 (by decide) (fun hc => ?_) (fun hc => ?_)
    · have h := h.1 hc
      refine a_lv (lv1 := [(0, .ref h0), (2, .int l2)]) [0, 2] rfl ?_
      exact hK_140 v_doneSegments v_donePostings v_why v_sums l2 h
    · have h := h.2 hc
      refine a_aload_n C (pc := 29) 0 dX6_workThrough_29 rfl rfl ?_
      refine a_get C (pc := 30) 0 12 inW_X6 rfl rfl (Nat.le_of_ble_eq_true rfl) wF_X6_49 rfl rfl dX6_workThrough_30 ?_
      refine a_iload_n C (pc := 33) 2 dX6_workThrough_33 rfl rfl ?_
      refine a_icmp_ge C (pc := 34) 140 dX6_workThrough_34 (by decide) (fun hc => ?_) (fun hc => ?_)
      · have h := h.1 hc
        refine a_lv (lv1 := [(0, .ref h0), (2, .int l2)]) [0, 2] rfl ?_
        exact hK_140 v_doneSegments v_donePostings v_why v_sums l2 h
      · have h := h.2 hc
        refine a_lload C (pc := 37) 4 dX6_workThrough_37 rfl ?_
        refine a_aload_n C (pc := 39) 0 dX6_workThrough_39 rfl rfl ?_
        refine a_get C (pc := 40) 0 12 inW_X6 rfl rfl (Nat.le_of_ble_eq_true rfl) wF_X6_49 rfl rfl dX6_workThrough_40 ?_
        refine a_i2l C (pc := 43) dX6_workThrough_43 ?_
        refine a_ladd C (pc := 44) dX6_workThrough_44 ?_
        refine a_lload_n C (pc := 45) 3 dX6_workThrough_45 rfl rfl ?_
        refine a_lcmp_ge C (pc := 46) 140 dX6_workThrough_46 dX6_workThrough_47 (by decide) (fun hc => ?_) (fun hc => ?_)
        · have h := h.1 hc
          refine a_lv (lv1 := [(0, .ref h0), (2, .int l2)]) [0, 2] rfl ?_
          exact hK_140 v_doneSegments v_donePostings v_why v_sums l2 h
        · have h := h.2 hc
          refine a_aload_n C (pc := 50) 0 dX6_workThrough_50 rfl rfl ?_
          refine a_get C (pc := 51) 0 1 inW_X6 rfl rfl (Nat.le_of_ble_eq_true rfl) wF_X6_15 rfl rfl dX6_workThrough_51 ?_
          refine a_aload_n C (pc := 54) 0 dX6_workThrough_54 rfl rfl ?_
          refine a_get C (pc := 55) 0 11 inW_X6 rfl rfl (Nat.le_of_ble_eq_true rfl) wF_X6_46 rfl rfl dX6_workThrough_55 ?_
          refine a_iald C (pc := 58) 2 rfl h.1 dX6_workThrough_58 ?_
          replace h := h.2
          refine a_istore C (pc := 59) (lv1 := [(0, .ref h0), (1, .ref h1), (2, .int l2), (3, .long l3), (5, .long l5), (7, .int (v_planSegment (v_doneSegments : Int32).toNatClampNeg))]) [1, 2, 3, 4, 5, 0] dX6_workThrough_59 (by decide) rfl ?_
          refine a_aload_n C (pc := 61) 1 dX6_workThrough_61 rfl rfl ?_
          refine a_get C (pc := 62) 3 3 inW_X4 rfl rfl (Nat.le_of_ble_eq_true rfl) wF_X6_120 rfl rfl dX6_workThrough_62 ?_
          refine a_iload C (pc := 65) 5 dX6_workThrough_65 rfl ?_
          refine a_iald C (pc := 67) 4 rfl h.1 dX6_workThrough_67 ?_
          replace h := h.2
          refine a_istore C (pc := 68) (lv1 := [(0, .ref h0), (1, .ref h1), (2, .int l2), (3, .long l3), (5, .long l5), (7, .int (v_planSegment (v_doneSegments : Int32).toNatClampNeg)), (8, .int (v_a1_firstPosting (v_planSegment (v_doneSegments : Int32).toNatClampNeg : Int32).toNatClampNeg))]) [1, 2, 3, 4, 5, 6, 0] dX6_workThrough_68 (by decide) rfl ?_
          obtain ⟨n0, h⟩ := h
          refine w_X6_workThrough_70 C hkm hnm n0 v_doneSegments v_donePostings v_why v_sums l2 l3 l5 (v_planSegment (v_doneSegments : Int32).toNatClampNeg) (v_a1_firstPosting (v_planSegment (v_doneSegments : Int32).toNatClampNeg : Int32).toNatClampNeg) h ?_
          intro v_doneSegments_10 v_donePostings_11 v_why_12 v_sums_13 l2_14 l3_15 l5_16 l7_17 h
          refine a_aload_n C (pc := 112) 0 dX6_workThrough_112 rfl rfl ?_
          refine a_dup C (pc := 113) dX6_workThrough_113 rfl ?_
          refine a_get C (pc := 114) 0 12 inW_X6 rfl rfl (Nat.le_of_ble_eq_true rfl) wF_X6_49 rfl rfl dX6_workThrough_114 ?_
          refine a_aload_n C (pc := 117) 1 dX6_workThrough_117 rfl rfl ?_
          refine a_iload C (pc := 118) 5 dX6_workThrough_118 rfl ?_
          refine a_callV C (pc := 120) (av := [.int l7_17]) (wr := [(h0, oX6 d0 v_pickedTerms v_terms v_segments v_doneSegments_10 v_donePostings_11 v_postings v_why_12 v_hits), ((d0 6), aI cs 40 v_sums_13), ((d0 1), aI cs 320 v_planSegment), ((d1 4), aI cs 600 v_a1_document), ((d1 2), aI cs 600 v_a1_impact)]) (m_X4_size Lx Dx cs h1 d1 v_a1_bits v_a1_documents v_a1_terms v_a1_segments v_a1_postings v_a1_firstPosting l7_17 _ h) [3, 4] [0, 1, 2, 5, 6] rfl rfl (by decide) (by decide) (by decide) wM_X6_112 wb_X4_size hy_X4_size (q0 := 3) rfl rfl rfl ⟨Nat.le_of_ble_eq_true rfl, Nat.le_of_ble_eq_true rfl⟩ (Nat.le_of_ble_eq_true rfl) hkm hnm rfl dX6_workThrough_120 (fun v w1 hw => ?_) [] rfl (fun _ _ h => h.elim)
          obtain ⟨r_18, rfl, rfl, h⟩ := hw
          refine a_ws (st1 := [.int r_18, .int v_donePostings_11, .ref h0]) (ws1 := [(h0, oX6 d0 v_pickedTerms v_terms v_segments v_doneSegments_10 v_donePostings_11 v_postings v_why_12 v_hits), ((d0 6), aI cs 40 v_sums_13), ((d0 1), aI cs 320 v_planSegment), (h1, oX4 d1 v_a1_bits v_a1_documents v_a1_terms v_a1_segments v_a1_postings), ((d1 3), aI cs 601 v_a1_firstPosting), ((d1 4), aI cs 600 v_a1_document), ((d1 2), aI cs 600 v_a1_impact)]) k n9 123 [0, 1, 2, 5, 6, 3, 4] rfl rfl rfl rfl (by decide) rfl ?_
          refine a_iadd C (pc := 123) dX6_workThrough_123 ?_
          refine a_put C (pc := 124) (ws1 := [(h0, oX6 d0 v_pickedTerms v_terms v_segments v_doneSegments_10 (v_donePostings_11 + r_18) v_postings v_why_12 v_hits), ((d0 6), aI cs 40 v_sums_13), ((d0 1), aI cs 320 v_planSegment), (h1, oX4 d1 v_a1_bits v_a1_documents v_a1_terms v_a1_segments v_a1_postings), ((d1 3), aI cs 601 v_a1_firstPosting), ((d1 4), aI cs 600 v_a1_document), ((d1 2), aI cs 600 v_a1_impact)]) 0 12 inW_X6 tyX6 tyX6_ok nmX6 rfl rfl (Nat.le_of_ble_eq_true rfl) wF_X6_49 rfl rfl rfl rfl rfl (Nat.le_of_ble_eq_true rfl) dX6_workThrough_124 rfl ?_
          refine a_aload_n C (pc := 127) 0 dX6_workThrough_127 rfl rfl ?_
          refine a_dup C (pc := 128) dX6_workThrough_128 rfl ?_
          refine a_get C (pc := 129) 0 11 inW_X6 rfl rfl (Nat.le_of_ble_eq_true rfl) wF_X6_46 rfl rfl dX6_workThrough_129 ?_
          refine a_iconst C (pc := 132) dX6_workThrough_132 ic_1 ?_
          refine a_iadd C (pc := 133) dX6_workThrough_133 ?_
          refine a_put C (pc := 134) (ws1 := [(h0, oX6 d0 v_pickedTerms v_terms v_segments (v_doneSegments_10 + 1) (v_donePostings_11 + r_18) v_postings v_why_12 v_hits), ((d0 6), aI cs 40 v_sums_13), ((d0 1), aI cs 320 v_planSegment), (h1, oX4 d1 v_a1_bits v_a1_documents v_a1_terms v_a1_segments v_a1_postings), ((d1 3), aI cs 601 v_a1_firstPosting), ((d1 4), aI cs 600 v_a1_document), ((d1 2), aI cs 600 v_a1_impact)]) 0 11 inW_X6 tyX6 tyX6_ok nmX6 rfl rfl (Nat.le_of_ble_eq_true rfl) wF_X6_46 rfl rfl rfl rfl rfl (Nat.le_of_ble_eq_true rfl) dX6_workThrough_134 rfl ?_
          refine a_goto C (pc := 137) 18 dX6_workThrough_137 (by decide) ?_
          refine a_lv (lv1 := [(0, .ref h0), (1, .ref h1), (2, .int l2_14), (3, .long l3_15), (5, .long l5_16)]) [0, 1, 2, 3, 4] rfl ?_
          exact ih (v_doneSegments_10 + 1) (v_donePostings_11 + r_18) v_why_12 v_sums_13 l2_14 l3_15 l5_16 h hK_140
set_option maxRecDepth 100000 in
set_option maxHeartbeats 4000000 in
theorem w_X6_workThrough_140 {Γ : XG} {Lx : Launch} {Dx : va_G} {cs : Nat → ClassId} {h0 : Nat} {h1 : Nat} {d0 : Nat → Nat} {d1 : Nat → Nat} {v_pickedTerms : Int32} {v_terms : Int32} {v_segments : Int32} {v_postings : Int32} {v_hits : Int32} {v_planSegment : Nat → Int32} {v_a1_bits : Int32} {v_a1_documents : Int32} {v_a1_terms : Int32} {v_a1_segments : Int32} {v_a1_postings : Int32} {v_a1_firstPosting : Nat → Int32} {v_a1_document : Nat → Int32} {v_a1_impact : Nat → Int32} {Φ : Int32 → Int32 → Int32 → (Nat → Int32) → Prop} {k n9 : Nat} (C : CX Γ Lx Dx cs cX6_workThrough RX6 "workThrough" 9 none 1 23 0 0 (qEC cs 0 0 [] (R_X6_workThrough cs h0 h1 d0 d1 v_pickedTerms v_terms v_segments v_postings v_hits v_planSegment v_a1_bits v_a1_documents v_a1_terms v_a1_segments v_a1_postings v_a1_firstPosting v_a1_document v_a1_impact Φ) (fun _ _ => False))) (hkm : k ≤ 0) (hnm : n9 ≤ 0) (v_doneSegments : Int32) (v_donePostings : Int32) (v_why : Int32) (v_sums : Nat → Int32) (l2 : Int32) (h : J_X6_workThrough_140 v_segments v_doneSegments v_donePostings v_why v_sums v_planSegment v_a1_firstPosting v_a1_document v_a1_impact l2 Φ) : AW Γ k n9 140 [(0, .ref h0), (2, .int l2)] [] [(h0, oX6 d0 v_pickedTerms v_terms v_segments v_doneSegments v_donePostings v_postings v_why v_hits), ((d0 6), aI cs 40 v_sums), ((d0 1), aI cs 320 v_planSegment), (h1, oX4 d1 v_a1_bits v_a1_documents v_a1_terms v_a1_segments v_a1_postings), ((d1 3), aI cs 601 v_a1_firstPosting), ((d1 4), aI cs 600 v_a1_document), ((d1 2), aI cs 600 v_a1_impact)] := by
  unfold J_X6_workThrough_140 at h
  refine a_aload_n C (pc := 140) 0 dX6_workThrough_140 rfl rfl ?_
  refine a_aload_n C (pc := 141) 0 dX6_workThrough_141 rfl rfl ?_
  refine a_get C (pc := 142) 0 11 inW_X6 rfl rfl (Nat.le_of_ble_eq_true rfl) wF_X6_46 rfl rfl dX6_workThrough_142 ?_
  refine a_aload_n C (pc := 145) 0 dX6_workThrough_145 rfl rfl ?_
  refine a_get C (pc := 146) 0 10 inW_X6 rfl rfl (Nat.le_of_ble_eq_true rfl) wF_X6_43 rfl rfl dX6_workThrough_146 ?_
  refine a_icmp_ne C (pc := 149) 156 dX6_workThrough_149 (by decide) (fun hc => ?_) (fun hc => ?_)
  · have h := h.1 hc
    refine a_aload_n C (pc := 156) 0 dX6_workThrough_156 rfl rfl ?_
    refine a_get C (pc := 157) 0 12 inW_X6 rfl rfl (Nat.le_of_ble_eq_true rfl) wF_X6_49 rfl rfl dX6_workThrough_157 ?_
    refine a_iload_n C (pc := 160) 1 dX6_workThrough_160 rfl rfl ?_
    refine a_icmp_lt C (pc := 161) 168 dX6_workThrough_161 (by decide) (fun hc => ?_) (fun hc => ?_)
    · have h := h.1 hc
      refine a_iconst C (pc := 168) dX6_workThrough_168 ic_2 ?_
      refine a_put C (pc := 169) (ws1 := [(h0, oX6 d0 v_pickedTerms v_terms v_segments v_doneSegments v_donePostings v_postings 2 v_hits), ((d0 6), aI cs 40 v_sums), ((d0 1), aI cs 320 v_planSegment), (h1, oX4 d1 v_a1_bits v_a1_documents v_a1_terms v_a1_segments v_a1_postings), ((d1 3), aI cs 601 v_a1_firstPosting), ((d1 4), aI cs 600 v_a1_document), ((d1 2), aI cs 600 v_a1_impact)]) 0 14 inW_X6 tyX6 tyX6_ok nmX6 rfl rfl (Nat.le_of_ble_eq_true rfl) wF_X6_55 rfl rfl rfl rfl rfl (Nat.le_of_ble_eq_true rfl) dX6_workThrough_169 rfl ?_
      exact a_return C (pc := 172) rfl dX6_workThrough_172 hkm hnm ⟨_, _, _, _, rfl, rfl, h⟩
    · have h := h.2 hc
      refine a_iconst C (pc := 164) dX6_workThrough_164 ic_1 ?_
      refine a_goto C (pc := 165) 169 dX6_workThrough_165 (by decide) ?_
      refine a_put C (pc := 169) (ws1 := [(h0, oX6 d0 v_pickedTerms v_terms v_segments v_doneSegments v_donePostings v_postings 1 v_hits), ((d0 6), aI cs 40 v_sums), ((d0 1), aI cs 320 v_planSegment), (h1, oX4 d1 v_a1_bits v_a1_documents v_a1_terms v_a1_segments v_a1_postings), ((d1 3), aI cs 601 v_a1_firstPosting), ((d1 4), aI cs 600 v_a1_document), ((d1 2), aI cs 600 v_a1_impact)]) 0 14 inW_X6 tyX6 tyX6_ok nmX6 rfl rfl (Nat.le_of_ble_eq_true rfl) wF_X6_55 rfl rfl rfl rfl rfl (Nat.le_of_ble_eq_true rfl) dX6_workThrough_169 rfl ?_
      exact a_return C (pc := 172) rfl dX6_workThrough_172 hkm hnm ⟨_, _, _, _, rfl, rfl, h⟩
  · have h := h.2 hc
    refine a_iconst C (pc := 152) dX6_workThrough_152 ic_0 ?_
    refine a_goto C (pc := 153) 169 dX6_workThrough_153 (by decide) ?_
    refine a_put C (pc := 169) (ws1 := [(h0, oX6 d0 v_pickedTerms v_terms v_segments v_doneSegments v_donePostings v_postings 0 v_hits), ((d0 6), aI cs 40 v_sums), ((d0 1), aI cs 320 v_planSegment), (h1, oX4 d1 v_a1_bits v_a1_documents v_a1_terms v_a1_segments v_a1_postings), ((d1 3), aI cs 601 v_a1_firstPosting), ((d1 4), aI cs 600 v_a1_document), ((d1 2), aI cs 600 v_a1_impact)]) 0 14 inW_X6 tyX6 tyX6_ok nmX6 rfl rfl (Nat.le_of_ble_eq_true rfl) wF_X6_55 rfl rfl rfl rfl rfl (Nat.le_of_ble_eq_true rfl) dX6_workThrough_169 rfl ?_
    exact a_return C (pc := 172) rfl dX6_workThrough_172 hkm hnm ⟨_, _, _, _, rfl, rfl, h⟩
set_option maxRecDepth 100000 in
set_option maxHeartbeats 4000000 in
theorem m_X6_workThrough (Lx : Launch) (Dx : va_G) (cs : Nat → ClassId) (h0 : Nat) (h1 : Nat) (d0 : Nat → Nat) (d1 : Nat → Nat) (v_pickedTerms : Int32) (v_terms : Int32) (v_segments : Int32) (v_doneSegments : Int32) (v_donePostings : Int32) (v_postings : Int32) (v_why : Int32) (v_hits : Int32) (v_sums : Nat → Int32) (v_planSegment : Nat → Int32) (v_a1_bits : Int32) (v_a1_documents : Int32) (v_a1_terms : Int32) (v_a1_segments : Int32) (v_a1_postings : Int32) (v_a1_firstPosting : Nat → Int32) (v_a1_document : Nat → Int32) (v_a1_impact : Nat → Int32) (l2 : Int32) (l3 : Int64) (l5 : Int64) (Φ : Int32 → Int32 → Int32 → (Nat → Int32) → Prop) (h : P_X6_workThrough v_segments v_doneSegments v_donePostings v_why v_sums v_planSegment v_a1_firstPosting v_a1_document v_a1_impact l2 l3 l5 Φ) : XMet Lx Dx cs yX6_workThrough cX6_workThrough 9 none 1 23 0 0 [.ref h0, .ref h1, .int l2, .long l3, .long l5] [(h0, oX6 d0 v_pickedTerms v_terms v_segments v_doneSegments v_donePostings v_postings v_why v_hits), ((d0 6), aI cs 40 v_sums), ((d0 1), aI cs 320 v_planSegment), (h1, oX4 d1 v_a1_bits v_a1_documents v_a1_terms v_a1_segments v_a1_postings), ((d1 3), aI cs 601 v_a1_firstPosting), ((d1 4), aI cs 600 v_a1_document), ((d1 2), aI cs 600 v_a1_impact)] (R_X6_workThrough cs h0 h1 d0 d1 v_pickedTerms v_terms v_segments v_postings v_hits v_planSegment v_a1_bits v_a1_documents v_a1_terms v_a1_segments v_a1_postings v_a1_firstPosting v_a1_document v_a1_impact Φ) (fun _ _ => False) := by
  refine XMet.of (own := RX6) (nm := "workThrough") (by decide) rfl rfl (Nat.le_of_ble_eq_true rfl) (fun Γ C => ?_)
  unfold P_X6_workThrough at h
  refine a_aload_n C (pc := 0) 0 dX6_workThrough_0 rfl rfl ?_
  refine a_iconst C (pc := 1) dX6_workThrough_1 ic_0 ?_
  refine a_put C (pc := 2) (ws1 := [(h0, oX6 d0 v_pickedTerms v_terms v_segments 0 v_donePostings v_postings v_why v_hits), ((d0 6), aI cs 40 v_sums), ((d0 1), aI cs 320 v_planSegment), (h1, oX4 d1 v_a1_bits v_a1_documents v_a1_terms v_a1_segments v_a1_postings), ((d1 3), aI cs 601 v_a1_firstPosting), ((d1 4), aI cs 600 v_a1_document), ((d1 2), aI cs 600 v_a1_impact)]) 0 11 inW_X6 tyX6 tyX6_ok nmX6 rfl rfl (Nat.le_of_ble_eq_true rfl) wF_X6_46 rfl rfl rfl rfl rfl (Nat.le_of_ble_eq_true rfl) dX6_workThrough_2 rfl ?_
  refine a_aload_n C (pc := 5) 0 dX6_workThrough_5 rfl rfl ?_
  refine a_iconst C (pc := 6) dX6_workThrough_6 ic_0 ?_
  refine a_put C (pc := 7) (ws1 := [(h0, oX6 d0 v_pickedTerms v_terms v_segments 0 0 v_postings v_why v_hits), ((d0 6), aI cs 40 v_sums), ((d0 1), aI cs 320 v_planSegment), (h1, oX4 d1 v_a1_bits v_a1_documents v_a1_terms v_a1_segments v_a1_postings), ((d1 3), aI cs 601 v_a1_firstPosting), ((d1 4), aI cs 600 v_a1_document), ((d1 2), aI cs 600 v_a1_impact)]) 0 12 inW_X6 tyX6 tyX6_ok nmX6 rfl rfl (Nat.le_of_ble_eq_true rfl) wF_X6_49 rfl rfl rfl rfl rfl (Nat.le_of_ble_eq_true rfl) dX6_workThrough_7 rfl ?_
  refine a_aload_n C (pc := 10) 0 dX6_workThrough_10 rfl rfl ?_
  refine a_get C (pc := 11) 0 6 inW_X6 rfl rfl (Nat.le_of_ble_eq_true rfl) wF_X6_30 rfl rfl dX6_workThrough_11 ?_
  refine a_iconst C (pc := 14) dX6_workThrough_14 ic_0 ?_
  refine a_callS C (pc := 15) (av := [.ref (d0 6), .int 0]) (wr := [(h0, oX6 d0 v_pickedTerms v_terms v_segments 0 0 v_postings v_why v_hits), ((d0 1), aI cs 320 v_planSegment), (h1, oX4 d1 v_a1_bits v_a1_documents v_a1_terms v_a1_segments v_a1_postings), ((d1 3), aI cs 601 v_a1_firstPosting), ((d1 4), aI cs 600 v_a1_document), ((d1 2), aI cs 600 v_a1_impact)]) (m_J7_fill_53178 Lx Dx cs 40 (d0 6) v_sums 0 _ h) [1] [0, 2, 3, 4, 5, 6] rfl rfl (by decide) (by decide) (by decide) wM_X6_96 wb_J7_fill_53178 hy_J7_fill_53178 rfl ⟨Nat.le_of_ble_eq_true rfl, Nat.le_of_ble_eq_true rfl⟩ (Nat.le_of_ble_eq_true rfl) (Nat.le_of_ble_eq_true rfl) (Nat.le_of_ble_eq_true rfl) rfl dX6_workThrough_15 (fun v w1 hw => ?_) [] rfl (fun _ _ h => h.elim)
  obtain ⟨v_sums_1, rfl, rfl, h⟩ := hw
  refine a_ws (st1 := []) (ws1 := [(h0, oX6 d0 v_pickedTerms v_terms v_segments 0 0 v_postings v_why v_hits), ((d0 6), aI cs 40 v_sums_1), ((d0 1), aI cs 320 v_planSegment), (h1, oX4 d1 v_a1_bits v_a1_documents v_a1_terms v_a1_segments v_a1_postings), ((d1 3), aI cs 601 v_a1_firstPosting), ((d1 4), aI cs 600 v_a1_document), ((d1 2), aI cs 600 v_a1_impact)]) 0 0 18 [0, 6, 1, 2, 3, 4, 5] rfl rfl rfl rfl (by decide) rfl ?_
  obtain ⟨n0, h⟩ := h
  refine w_X6_workThrough_18 C (Nat.le_of_ble_eq_true rfl) (Nat.le_of_ble_eq_true rfl) n0 0 0 v_why v_sums_1 l2 l3 l5 h ?_
  intro v_doneSegments_24 v_donePostings_25 v_why_26 v_sums_27 l2_28 h
  exact w_X6_workThrough_140 C (Nat.le_of_ble_eq_true rfl) (Nat.le_of_ble_eq_true rfl) v_doneSegments_24 v_donePostings_25 v_why_26 v_sums_27 l2_28 h
set_option maxRecDepth 100000 in
set_option maxHeartbeats 4000000 in
theorem w_X6_rank_22 {Γ : XG} {Lx : Launch} {Dx : va_G} {cs : Nat → ClassId} {h0 : Nat} {d0 : Nat → Nat} {v_pickedTerms : Int32} {v_terms : Int32} {v_segments : Int32} {v_doneSegments : Int32} {v_donePostings : Int32} {v_postings : Int32} {v_why : Int32} {v_sums : Nat → Int32} {K_72 : Int32 → (Nat → Int32) → Int32 → Int32 → Int32 → Int32 → Prop} {Φ : Int32 → (Nat → Int32) → Prop} {k n9 : Nat} (C : CX Γ Lx Dx cs cX6_rank RX6 "rank" 5 none 1 17 0 0 (qEC cs 0 0 [] (R_X6_rank cs h0 d0 v_pickedTerms v_terms v_segments v_doneSegments v_donePostings v_postings v_why v_sums Φ) (fun _ _ => False))) (hkm : k ≤ 0) (hnm : n9 ≤ 0) : ∀ n : Nat, ∀ (v_hits : Int32) (v_hitDocument : Nat → Int32) (l1 : Int32) (l2 : Int32) (l3 : Int32) (l4 : Int32), L_X6_rank_22 n v_hits v_sums v_hitDocument l1 l2 l3 l4 K_72 Φ → (∀ (v_hits_1 : Int32) (v_hitDocument_2 : Nat → Int32) (l1_3 : Int32) (l2_4 : Int32) (l3_5 : Int32) (l4_6 : Int32), K_72 v_hits_1 v_hitDocument_2 l1_3 l2_4 l3_5 l4_6 → AW Γ k n9 72 [(0, .ref h0), (1, .int l1_3), (2, .int l2_4), (3, .int l3_5), (4, .int l4_6)] [] [(h0, oX6 d0 v_pickedTerms v_terms v_segments v_doneSegments v_donePostings v_postings v_why v_hits_1), ((d0 6), aI cs 40 v_sums), ((d0 7), aI cs 40 v_hitDocument_2)]) → AW Γ k n9 22 [(0, .ref h0), (1, .int l1), (2, .int l2), (3, .int l3), (4, .int l4)] [] [(h0, oX6 d0 v_pickedTerms v_terms v_segments v_doneSegments v_donePostings v_postings v_why v_hits), ((d0 6), aI cs 40 v_sums), ((d0 7), aI cs 40 v_hitDocument)] := by
  intro n
  induction n with
  | zero =>
    intro v_hits v_hitDocument l1 l2 l3 l4 h
    exact False.elim h
  | succ n ih =>
    intro v_hits v_hitDocument l1 l2 l3 l4 h hK_72
    rw [L_X6_rank_22] at h
    refine a_iload C (pc := 22) 4 dX6_rank_22 rfl ?_
    refine a_if_le C (pc := 24) 72 dX6_rank_24 (by decide) (fun hc => ?_) (fun hc => ?_)
    · have h := h.1 hc
      exact hK_72 v_hits v_hitDocument l1 l2 l3 l4 h
    · have h := h.2 hc
      refine a_aload_n C (pc := 27) 0 dX6_rank_27 rfl rfl ?_
      refine a_get C (pc := 28) 0 6 inW_X6 rfl rfl (Nat.le_of_ble_eq_true rfl) wF_X6_30 rfl rfl dX6_rank_28 ?_
      refine a_aload_n C (pc := 31) 0 dX6_rank_31 rfl rfl ?_
      refine a_get C (pc := 32) 0 7 inW_X6 rfl rfl (Nat.le_of_ble_eq_true rfl) wF_X6_33 rfl rfl dX6_rank_32 ?_
      refine a_iload C (pc := 35) 4 dX6_rank_35 rfl ?_
      refine a_iconst C (pc := 37) dX6_rank_37 ic_1 ?_
      refine a_isub C (pc := 38) dX6_rank_38 ?_
      refine a_iald C (pc := 39) 2 rfl h.1 dX6_rank_39 ?_
      replace h := h.2
      refine a_iald C (pc := 40) 1 rfl h.1 dX6_rank_40 ?_
      replace h := h.2
      refine a_aload_n C (pc := 41) 0 dX6_rank_41 rfl rfl ?_
      refine a_get C (pc := 42) 0 6 inW_X6 rfl rfl (Nat.le_of_ble_eq_true rfl) wF_X6_30 rfl rfl dX6_rank_42 ?_
      refine a_iload_n C (pc := 45) 3 dX6_rank_45 rfl rfl ?_
      refine a_iald C (pc := 46) 1 rfl h.1 dX6_rank_46 ?_
      replace h := h.2
      refine a_icmp_ge C (pc := 47) 72 dX6_rank_47 (by decide) (fun hc => ?_) (fun hc => ?_)
      · have h := h.1 hc
        exact hK_72 v_hits v_hitDocument l1 l2 l3 l4 h
      · have h := h.2 hc
        refine a_aload_n C (pc := 50) 0 dX6_rank_50 rfl rfl ?_
        refine a_get C (pc := 51) 0 7 inW_X6 rfl rfl (Nat.le_of_ble_eq_true rfl) wF_X6_33 rfl rfl dX6_rank_51 ?_
        refine a_iload C (pc := 54) 4 dX6_rank_54 rfl ?_
        refine a_aload_n C (pc := 56) 0 dX6_rank_56 rfl rfl ?_
        refine a_get C (pc := 57) 0 7 inW_X6 rfl rfl (Nat.le_of_ble_eq_true rfl) wF_X6_33 rfl rfl dX6_rank_57 ?_
        refine a_iload C (pc := 60) 4 dX6_rank_60 rfl ?_
        refine a_iconst C (pc := 62) dX6_rank_62 ic_1 ?_
        refine a_isub C (pc := 63) dX6_rank_63 ?_
        refine a_iald C (pc := 64) 2 rfl h.1 dX6_rank_64 ?_
        replace h := h.2
        refine a_iast C (pc := 65) (ws1 := [(h0, oX6 d0 v_pickedTerms v_terms v_segments v_doneSegments v_donePostings v_postings v_why v_hits), ((d0 6), aI cs 40 v_sums), ((d0 7), aI cs 40 (upd v_hitDocument (l4 : Int32).toNatClampNeg (v_hitDocument (l4 - 1 : Int32).toNatClampNeg)))]) 2 rfl h.1 dX6_rank_65 rfl ?_
        replace h := h.2
        refine a_iinc C (pc := 66) (lv1 := [(0, .ref h0), (1, .int l1), (2, .int l2), (3, .int l3), (4, .int (l4 + (-1)))]) 4 [1, 2, 3, 4, 0] dX6_rank_66 rfl (congrArg (fun z => l4 + z) ic_m1) (by decide) rfl ?_
        refine a_goto C (pc := 69) 22 dX6_rank_69 (by decide) ?_
        exact ih v_hits (upd v_hitDocument (l4 : Int32).toNatClampNeg (v_hitDocument (l4 - 1 : Int32).toNatClampNeg)) l1 l2 l3 (l4 + (-1)) h hK_72
set_option maxRecDepth 100000 in
set_option maxHeartbeats 4000000 in
theorem w_X6_rank_4 {Γ : XG} {Lx : Launch} {Dx : va_G} {cs : Nat → ClassId} {h0 : Nat} {d0 : Nat → Nat} {v_pickedTerms : Int32} {v_terms : Int32} {v_segments : Int32} {v_doneSegments : Int32} {v_donePostings : Int32} {v_postings : Int32} {v_why : Int32} {v_sums : Nat → Int32} {K_89 : Int32 → (Nat → Int32) → Int32 → Int32 → Prop} {Φ : Int32 → (Nat → Int32) → Prop} {k n9 : Nat} (C : CX Γ Lx Dx cs cX6_rank RX6 "rank" 5 none 1 17 0 0 (qEC cs 0 0 [] (R_X6_rank cs h0 d0 v_pickedTerms v_terms v_segments v_doneSegments v_donePostings v_postings v_why v_sums Φ) (fun _ _ => False))) (hkm : k ≤ 0) (hnm : n9 ≤ 0) : ∀ n : Nat, ∀ (v_hits : Int32) (v_hitDocument : Nat → Int32) (l1 : Int32) (l2 : Int32) (l3 : Int32), L_X6_rank_4 n v_hits v_sums v_hitDocument l1 l2 l3 K_89 Φ → (∀ (v_hits_13 : Int32) (v_hitDocument_14 : Nat → Int32) (l1_15 : Int32) (l2_16 : Int32), K_89 v_hits_13 v_hitDocument_14 l1_15 l2_16 → AW Γ k n9 89 [(0, .ref h0), (1, .int l1_15), (2, .int l2_16)] [] [(h0, oX6 d0 v_pickedTerms v_terms v_segments v_doneSegments v_donePostings v_postings v_why v_hits_13), ((d0 6), aI cs 40 v_sums), ((d0 7), aI cs 40 v_hitDocument_14)]) → AW Γ k n9 4 [(0, .ref h0), (1, .int l1), (2, .int l2), (3, .int l3)] [] [(h0, oX6 d0 v_pickedTerms v_terms v_segments v_doneSegments v_donePostings v_postings v_why v_hits), ((d0 6), aI cs 40 v_sums), ((d0 7), aI cs 40 v_hitDocument)] := by
  intro n
  induction n with
  | zero =>
    intro v_hits v_hitDocument l1 l2 l3 h
    exact False.elim h
  | succ n ih =>
    intro v_hits v_hitDocument l1 l2 l3 h hK_89
    rw [L_X6_rank_4] at h
    refine a_iload_n C (pc := 4) 3 dX6_rank_4 rfl rfl ?_
    refine a_bipush C (pc := 5) dX6_rank_5 bp_40 ?_
    refine a_icmp_ge C (pc := 7) 89 dX6_rank_7 (by decide) (fun hc => ?_) (fun hc => ?_)
    · have h := h.1 hc
      refine a_lv (lv1 := [(0, .ref h0), (1, .int l1), (2, .int l2)]) [0, 1, 2] rfl ?_
      exact hK_89 v_hits v_hitDocument l1 l2 h
    · have h := h.2 hc
      refine a_aload_n C (pc := 10) 0 dX6_rank_10 rfl rfl ?_
      refine a_get C (pc := 11) 0 6 inW_X6 rfl rfl (Nat.le_of_ble_eq_true rfl) wF_X6_30 rfl rfl dX6_rank_11 ?_
      refine a_iload_n C (pc := 14) 3 dX6_rank_14 rfl rfl ?_
      refine a_iald C (pc := 15) 1 rfl h.1 dX6_rank_15 ?_
      replace h := h.2
      refine a_if_le C (pc := 16) 83 dX6_rank_16 (by decide) (fun hc => ?_) (fun hc => ?_)
      · have h := h.1 hc
        refine a_iinc C (pc := 83) (lv1 := [(0, .ref h0), (1, .int l1), (2, .int l2), (3, .int (l3 + 1))]) 3 [1, 2, 3, 0] dX6_rank_83 rfl (congrArg (fun z => l3 + z) ic_1) (by decide) rfl ?_
        refine a_goto C (pc := 86) 4 dX6_rank_86 (by decide) ?_
        exact ih v_hits v_hitDocument l1 l2 (l3 + 1) h hK_89
      · have h := h.2 hc
        refine a_iload_n C (pc := 19) 2 dX6_rank_19 rfl rfl ?_
        refine a_istore C (pc := 20) (lv1 := [(0, .ref h0), (1, .int l1), (2, .int l2), (3, .int l3), (4, .int l2)]) [1, 2, 3, 4, 0] dX6_rank_20 (by decide) rfl ?_
        obtain ⟨n0, h⟩ := h
        refine w_X6_rank_22 C hkm hnm n0 v_hits v_hitDocument l1 l2 l3 l2 h ?_
        intro v_hits_7 v_hitDocument_8 l1_9 l2_10 l3_11 l4_12 h
        refine a_aload_n C (pc := 72) 0 dX6_rank_72 rfl rfl ?_
        refine a_get C (pc := 73) 0 7 inW_X6 rfl rfl (Nat.le_of_ble_eq_true rfl) wF_X6_33 rfl rfl dX6_rank_73 ?_
        refine a_iload C (pc := 76) 4 dX6_rank_76 rfl ?_
        refine a_iload_n C (pc := 78) 3 dX6_rank_78 rfl rfl ?_
        refine a_iast C (pc := 79) (ws1 := [(h0, oX6 d0 v_pickedTerms v_terms v_segments v_doneSegments v_donePostings v_postings v_why v_hits_7), ((d0 6), aI cs 40 v_sums), ((d0 7), aI cs 40 (upd v_hitDocument_8 (l4_12 : Int32).toNatClampNeg l3_11))]) 2 rfl h.1 dX6_rank_79 rfl ?_
        replace h := h.2
        refine a_iinc C (pc := 80) (lv1 := [(0, .ref h0), (1, .int l1_9), (2, .int (l2_10 + 1)), (3, .int l3_11), (4, .int l4_12)]) 2 [1, 2, 0, 3, 4] dX6_rank_80 rfl (congrArg (fun z => l2_10 + z) ic_1) (by decide) rfl ?_
        refine a_iinc C (pc := 83) (lv1 := [(0, .ref h0), (1, .int l1_9), (2, .int (l2_10 + 1)), (3, .int (l3_11 + 1)), (4, .int l4_12)]) 3 [1, 2, 3, 0, 4] dX6_rank_83 rfl (congrArg (fun z => l3_11 + z) ic_1) (by decide) rfl ?_
        refine a_goto C (pc := 86) 4 dX6_rank_86 (by decide) ?_
        refine a_lv (lv1 := [(0, .ref h0), (1, .int l1_9), (2, .int (l2_10 + 1)), (3, .int (l3_11 + 1))]) [0, 1, 2, 3] rfl ?_
        exact ih v_hits_7 (upd v_hitDocument_8 (l4_12 : Int32).toNatClampNeg l3_11) l1_9 (l2_10 + 1) (l3_11 + 1) h hK_89
set_option maxRecDepth 100000 in
set_option maxHeartbeats 4000000 in
theorem m_X6_rank (Lx : Launch) (Dx : va_G) (cs : Nat → ClassId) (h0 : Nat) (d0 : Nat → Nat) (v_pickedTerms : Int32) (v_terms : Int32) (v_segments : Int32) (v_doneSegments : Int32) (v_donePostings : Int32) (v_postings : Int32) (v_why : Int32) (v_hits : Int32) (v_sums : Nat → Int32) (v_hitDocument : Nat → Int32) (l1 : Int32) (Φ : Int32 → (Nat → Int32) → Prop) (h : P_X6_rank v_hits v_sums v_hitDocument l1 Φ) : XMet Lx Dx cs yX6_rank cX6_rank 5 none 1 17 0 0 [.ref h0, .int l1] [(h0, oX6 d0 v_pickedTerms v_terms v_segments v_doneSegments v_donePostings v_postings v_why v_hits), ((d0 6), aI cs 40 v_sums), ((d0 7), aI cs 40 v_hitDocument)] (R_X6_rank cs h0 d0 v_pickedTerms v_terms v_segments v_doneSegments v_donePostings v_postings v_why v_sums Φ) (fun _ _ => False) := by
  refine XMet.of (own := RX6) (nm := "rank") (by decide) rfl rfl (Nat.le_of_ble_eq_true rfl) (fun Γ C => ?_)
  unfold P_X6_rank at h
  refine a_iconst C (pc := 0) dX6_rank_0 ic_0 ?_
  refine a_istore_n C (pc := 1) (lv1 := [(0, .ref h0), (1, .int l1), (2, .int 0)]) [1, 2, 0] dX6_rank_1 rfl (by decide) rfl ?_
  refine a_iconst C (pc := 2) dX6_rank_2 ic_0 ?_
  refine a_istore_n C (pc := 3) (lv1 := [(0, .ref h0), (1, .int l1), (2, .int 0), (3, .int 0)]) [1, 2, 3, 0] dX6_rank_3 rfl (by decide) rfl ?_
  obtain ⟨n0, h⟩ := h
  refine w_X6_rank_4 C (Nat.le_of_ble_eq_true rfl) (Nat.le_of_ble_eq_true rfl) n0 v_hits v_hitDocument l1 0 0 h ?_
  intro v_hits_17 v_hitDocument_18 l1_19 l2_20 h
  refine a_aload_n C (pc := 89) 0 dX6_rank_89 rfl rfl ?_
  refine a_iload_n C (pc := 90) 2 dX6_rank_90 rfl rfl ?_
  refine a_iload_n C (pc := 91) 1 dX6_rank_91 rfl rfl ?_
  refine a_min C (pc := 92) wM_X6_74 wX_min (Nat.le_of_ble_eq_true rfl) (Nat.le_of_ble_eq_true rfl) (Nat.le_of_ble_eq_true rfl) (Nat.le_of_ble_eq_true rfl) dX6_rank_92 ?_
  refine a_put C (pc := 95) (ws1 := [(h0, oX6 d0 v_pickedTerms v_terms v_segments v_doneSegments v_donePostings v_postings v_why (imin l2_20 l1_19)), ((d0 6), aI cs 40 v_sums), ((d0 7), aI cs 40 v_hitDocument_18)]) 0 15 inW_X6 tyX6 tyX6_ok nmX6 rfl rfl (Nat.le_of_ble_eq_true rfl) wF_X6_58 rfl rfl rfl rfl rfl (Nat.le_of_ble_eq_true rfl) dX6_rank_95 rfl ?_
  exact a_return C (pc := 98) rfl dX6_rank_98 (Nat.le_of_ble_eq_true rfl) (Nat.le_of_ble_eq_true rfl) ⟨_, _, rfl, rfl, h⟩
set_option maxRecDepth 100000 in
set_option maxHeartbeats 4000000 in
theorem m_X6_run (Lx : Launch) (Dx : va_G) (cs : Nat → ClassId) (h0 : Nat) (h1 : Nat) (d0 : Nat → Nat) (d1 : Nat → Nat) (v_pickedTerms : Int32) (v_terms : Int32) (v_segments : Int32) (v_doneSegments : Int32) (v_donePostings : Int32) (v_postings : Int32) (v_why : Int32) (v_hits : Int32) (v_impactOf : Nat → Int32) (v_a1_bits : Int32) (v_a1_documents : Int32) (v_a1_terms : Int32) (v_a1_segments : Int32) (v_a1_postings : Int32) (v_picked : Nat → Int32) (v_a1_firstSegment : Nat → Int32) (v_a1_impact : Nat → Int32) (v_a1_firstPosting : Nat → Int32) (v_planImpact : Nat → Int32) (v_planSize : Nat → Int32) (v_planTerm : Nat → Int32) (v_planSegment : Nat → Int32) (v_a1_document : Nat → Int32) (v_sums : Nat → Int32) (v_hitDocument : Nat → Int32) (l2 : Int32) (l3 : Int32) (l4 : Int64) (l6 : Int64) (Φ : Int32 → Int32 → Int32 → Int32 → Int32 → Int32 → Int32 → (Nat → Int32) → (Nat → Int32) → (Nat → Int32) → (Nat → Int32) → (Nat → Int32) → (Nat → Int32) → (Nat → Int32) → Prop) (h : P_X6_run v_pickedTerms v_terms v_segments v_doneSegments v_donePostings v_postings v_why v_hits v_impactOf v_picked v_a1_firstSegment v_a1_impact v_a1_firstPosting v_planImpact v_planSize v_planTerm v_planSegment v_a1_document v_sums v_hitDocument l2 l3 l4 l6 Φ) : XMet Lx Dx cs yX6_run cX6_run 8 none 3 73 0 0 [.ref h0, .ref h1, .int l2, .int l3, .long l4, .long l6] [(h0, oX6 d0 v_pickedTerms v_terms v_segments v_doneSegments v_donePostings v_postings v_why v_hits), ((d0 2), aI cs 320 v_impactOf), (h1, oX4 d1 v_a1_bits v_a1_documents v_a1_terms v_a1_segments v_a1_postings), ((d0 0), aI cs 8 v_picked), ((d1 1), aI cs 65 v_a1_firstSegment), ((d1 2), aI cs 600 v_a1_impact), ((d1 3), aI cs 601 v_a1_firstPosting), ((d0 4), aI cs 320 v_planImpact), ((d0 5), aI cs 320 v_planSize), ((d0 3), aI cs 320 v_planTerm), ((d0 1), aI cs 320 v_planSegment), ((d1 4), aI cs 600 v_a1_document), ((d0 6), aI cs 40 v_sums), ((d0 7), aI cs 40 v_hitDocument)] (R_X6_run cs h0 h1 d0 d1 v_pickedTerms v_a1_bits v_a1_documents v_a1_terms v_a1_segments v_a1_postings v_picked v_a1_firstSegment v_a1_impact v_a1_firstPosting v_a1_document Φ) (fun _ _ => False) := by
  refine XMet.of (own := RX6) (nm := "run") (by decide) rfl rfl (Nat.le_of_ble_eq_true rfl) (fun Γ C => ?_)
  unfold P_X6_run at h
  refine a_aload_n C (pc := 0) 0 dX6_run_0 rfl rfl ?_
  refine a_aload_n C (pc := 1) 1 dX6_run_1 rfl rfl ?_
  refine a_callV C (pc := 2) (av := [.ref h1]) (wr := [((d0 6), aI cs 40 v_sums), ((d0 7), aI cs 40 v_hitDocument)]) (m_X6_makePlan Lx Dx cs h0 h1 d0 d1 v_pickedTerms v_terms v_segments v_doneSegments v_donePostings v_postings v_why v_hits v_impactOf v_a1_bits v_a1_documents v_a1_terms v_a1_segments v_a1_postings v_picked v_a1_firstSegment v_a1_impact v_a1_firstPosting v_planImpact v_planSize v_planTerm v_planSegment v_a1_document _ h) [0, 1, 2, 3, 4, 5, 6, 7, 8, 9, 10, 11] [12, 13] rfl rfl (by decide) (by decide) (by decide) wM_X6_80 wb_X6_makePlan hy_X6_makePlan (q0 := 0) rfl rfl rfl ⟨Nat.le_of_ble_eq_true rfl, Nat.le_of_ble_eq_true rfl⟩ (Nat.le_of_ble_eq_true rfl) (Nat.le_of_ble_eq_true rfl) (Nat.le_of_ble_eq_true rfl) rfl dX6_run_2 (fun v w1 hw => ?_) [] rfl (fun _ _ h => h.elim)
  obtain ⟨v_terms_1, v_segments_2, v_postings_3, v_impactOf_4, v_planImpact_5, v_planSize_6, v_planTerm_7, v_planSegment_8, rfl, rfl, h⟩ := hw
  refine a_ws (st1 := []) (ws1 := [(h0, oX6 d0 v_pickedTerms v_terms_1 v_segments_2 v_doneSegments v_donePostings v_postings_3 v_why v_hits), ((d0 2), aI cs 320 v_impactOf_4), (h1, oX4 d1 v_a1_bits v_a1_documents v_a1_terms v_a1_segments v_a1_postings), ((d0 0), aI cs 8 v_picked), ((d1 1), aI cs 65 v_a1_firstSegment), ((d1 2), aI cs 600 v_a1_impact), ((d1 3), aI cs 601 v_a1_firstPosting), ((d0 4), aI cs 320 v_planImpact_5), ((d0 5), aI cs 320 v_planSize_6), ((d0 3), aI cs 320 v_planTerm_7), ((d0 1), aI cs 320 v_planSegment_8), ((d1 4), aI cs 600 v_a1_document), ((d0 6), aI cs 40 v_sums), ((d0 7), aI cs 40 v_hitDocument)]) 0 0 5 [2, 3, 4, 5, 6, 7, 8, 9, 10, 11, 12, 13, 0, 1] rfl rfl rfl rfl (by decide) rfl ?_
  refine a_aload_n C (pc := 5) 0 dX6_run_5 rfl rfl ?_
  refine a_aload_n C (pc := 6) 1 dX6_run_6 rfl rfl ?_
  refine a_iload_n C (pc := 7) 3 dX6_run_7 rfl rfl ?_
  refine a_lload C (pc := 8) 4 dX6_run_8 rfl ?_
  refine a_lload C (pc := 10) 5 dX6_run_10 rfl ?_
  refine a_callV C (pc := 12) (av := [.ref h1, .int l3, .long l4, .long l6]) (wr := [((d0 2), aI cs 320 v_impactOf_4), ((d0 0), aI cs 8 v_picked), ((d1 1), aI cs 65 v_a1_firstSegment), ((d0 4), aI cs 320 v_planImpact_5), ((d0 5), aI cs 320 v_planSize_6), ((d0 3), aI cs 320 v_planTerm_7), ((d0 7), aI cs 40 v_hitDocument)]) (m_X6_workThrough Lx Dx cs h0 h1 d0 d1 v_pickedTerms v_terms_1 v_segments_2 v_doneSegments v_donePostings v_postings_3 v_why v_hits v_sums v_planSegment_8 v_a1_bits v_a1_documents v_a1_terms v_a1_segments v_a1_postings v_a1_firstPosting v_a1_document v_a1_impact l3 l4 l6 _ h) [0, 12, 10, 2, 6, 11, 5] [1, 3, 4, 7, 8, 9, 13] rfl rfl (by decide) (by decide) (by decide) wM_X6_84 wb_X6_workThrough hy_X6_workThrough (q0 := 0) rfl rfl rfl ⟨Nat.le_of_ble_eq_true rfl, Nat.le_of_ble_eq_true rfl⟩ (Nat.le_of_ble_eq_true rfl) (Nat.le_of_ble_eq_true rfl) (Nat.le_of_ble_eq_true rfl) rfl dX6_run_12 (fun v w1 hw => ?_) [] rfl (fun _ _ h => h.elim)
  obtain ⟨v_doneSegments_9, v_donePostings_10, v_why_11, v_sums_12, rfl, rfl, h⟩ := hw
  refine a_ws (st1 := []) (ws1 := [(h0, oX6 d0 v_pickedTerms v_terms_1 v_segments_2 v_doneSegments_9 v_donePostings_10 v_postings_3 v_why_11 v_hits), ((d0 2), aI cs 320 v_impactOf_4), (h1, oX4 d1 v_a1_bits v_a1_documents v_a1_terms v_a1_segments v_a1_postings), ((d0 0), aI cs 8 v_picked), ((d1 1), aI cs 65 v_a1_firstSegment), ((d1 2), aI cs 600 v_a1_impact), ((d1 3), aI cs 601 v_a1_firstPosting), ((d0 4), aI cs 320 v_planImpact_5), ((d0 5), aI cs 320 v_planSize_6), ((d0 3), aI cs 320 v_planTerm_7), ((d0 1), aI cs 320 v_planSegment_8), ((d1 4), aI cs 600 v_a1_document), ((d0 6), aI cs 40 v_sums_12), ((d0 7), aI cs 40 v_hitDocument)]) 0 0 15 [7, 0, 10, 1, 2, 13, 11, 3, 4, 5, 9, 12, 8, 6] rfl rfl rfl rfl (by decide) rfl ?_
  refine a_aload_n C (pc := 15) 0 dX6_run_15 rfl rfl ?_
  refine a_iload_n C (pc := 16) 2 dX6_run_16 rfl rfl ?_
  refine a_callV C (pc := 17) (av := [.int l2]) (wr := [((d0 2), aI cs 320 v_impactOf_4), (h1, oX4 d1 v_a1_bits v_a1_documents v_a1_terms v_a1_segments v_a1_postings), ((d0 0), aI cs 8 v_picked), ((d1 1), aI cs 65 v_a1_firstSegment), ((d1 2), aI cs 600 v_a1_impact), ((d1 3), aI cs 601 v_a1_firstPosting), ((d0 4), aI cs 320 v_planImpact_5), ((d0 5), aI cs 320 v_planSize_6), ((d0 3), aI cs 320 v_planTerm_7), ((d0 1), aI cs 320 v_planSegment_8), ((d1 4), aI cs 600 v_a1_document)]) (m_X6_rank Lx Dx cs h0 d0 v_pickedTerms v_terms_1 v_segments_2 v_doneSegments_9 v_donePostings_10 v_postings_3 v_why_11 v_hits v_sums_12 v_hitDocument l2 _ h) [0, 12, 13] [1, 2, 3, 4, 5, 6, 7, 8, 9, 10, 11] rfl rfl (by decide) (by decide) (by decide) wM_X6_88 wb_X6_rank hy_X6_rank (q0 := 0) rfl rfl rfl ⟨Nat.le_of_ble_eq_true rfl, Nat.le_of_ble_eq_true rfl⟩ (Nat.le_of_ble_eq_true rfl) (Nat.le_of_ble_eq_true rfl) (Nat.le_of_ble_eq_true rfl) rfl dX6_run_17 (fun v w1 hw => ?_) [] rfl (fun _ _ h => h.elim)
  obtain ⟨v_hits_13, v_hitDocument_14, rfl, rfl, h⟩ := hw
  refine a_ws (st1 := []) (ws1 := [(h0, oX6 d0 v_pickedTerms v_terms_1 v_segments_2 v_doneSegments_9 v_donePostings_10 v_postings_3 v_why_11 v_hits_13), ((d0 2), aI cs 320 v_impactOf_4), (h1, oX4 d1 v_a1_bits v_a1_documents v_a1_terms v_a1_segments v_a1_postings), ((d0 0), aI cs 8 v_picked), ((d1 1), aI cs 65 v_a1_firstSegment), ((d1 2), aI cs 600 v_a1_impact), ((d1 3), aI cs 601 v_a1_firstPosting), ((d0 4), aI cs 320 v_planImpact_5), ((d0 5), aI cs 320 v_planSize_6), ((d0 3), aI cs 320 v_planTerm_7), ((d0 1), aI cs 320 v_planSegment_8), ((d1 4), aI cs 600 v_a1_document), ((d0 6), aI cs 40 v_sums_12), ((d0 7), aI cs 40 v_hitDocument_14)]) 0 0 20 [11, 0, 1, 2, 3, 4, 5, 6, 7, 8, 9, 10, 12, 13] rfl rfl rfl rfl (by decide) rfl ?_
  exact a_return C (pc := 20) rfl dX6_run_20 (Nat.le_of_ble_eq_true rfl) (Nat.le_of_ble_eq_true rfl) ⟨_, _, _, _, _, _, _, _, _, _, _, _, _, _, rfl, rfl, h⟩
