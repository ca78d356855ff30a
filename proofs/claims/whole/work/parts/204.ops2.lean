
/-! the calls: file, spoil, cut, mend -/
theorem t_file {L : Nat} {fz th fl l5 x1 : Int32} {row file : Nat → Int32} {a3 : Nat → Int64} {K : Int32 → (Nat → Int64) → Prop} (v1 : vp_in (l5 + 1) L) (hF : GF fz row fl file) (hK : ∀ th a3, K th a3) : OP_6 L fz row th fl file a3 l5 x1 K := by
  obtain ⟨F, rfl, rfl, hb, hr, hy, hn⟩ := hF
  unfold OP_6 P_L_file
  refine ⟨v1, s_file hb hy hn (fun hX => ⟨fun _ => ⟨v1, ?_⟩, rfl⟩) (fun i hi e => ⟨vp01, v1, ?_⟩)⟩
  · exact r_file hr hy hn (fun _ => tl rfl (fun z => absurd z z10) (hK _ _)) (fun i hi e => absurd e (hX i hi))
  · refine r_file hr hy hn (fun q => absurd e (q i hi)) (fun i2 hi2 e2 => ?_)
    rw [e, I_eq (by omega) (by omega)] at e2
    subst e2
    exact tl rfl (fun _ => pk_uLs) (hK _ _)
theorem t_spoil {L : Nat} {fz th fl l5 x1 x2 : Int32} {row file : Nat → Int32} {a3 : Nat → Int64} {K : (Nat → Int32) → Int32 → (Nat → Int32) → (Nat → Int64) → Prop} (v1 : vp_in (l5 + 1) L) (v2 : vp_in (l5 + 2) L) (hF : GF fz row fl file) (hK : ∀ row th file a3, GF fz row fl file → K row th file a3) : OP_7 L fz row th fl file a3 l5 x1 x2 K := by
  have hF0 := hF
  obtain ⟨F, rfl, rfl, hb, hr, hy, hn⟩ := hF0
  unfold OP_7 P_L_spoil
  refine ⟨v1, v2, s_spoil hb hn (fun hX => ⟨fun _ => ⟨v1, v2, ?_⟩, rfl⟩) (fun i b row' hi e hb8 e8 hb' => ⟨vp01, v1, v2, ?_⟩)⟩
  · exact r_spoil hr hn (fun _ => tl rfl (fun z => absurd z z10) (hK _ _ _ _ hF)) (fun i b f hi e => absurd e (hX i hi))
  · refine r_spoil hr hn (fun q => absurd e (q i hi)) (fun i2 b2 file' hi2 e2 hb82 e82 hr' => ?_)
    rw [e, I_eq (by omega) (by omega)] at e2
    rw [e8, I_eq (by omega) (by omega)] at e82
    subst e2 e82
    have hl : (F.set i b).length = F.length := List.length_set
    exact tl rfl (fun _ => pk_uLs) (hK _ _ _ _ ⟨F.set i b, by rw [hl], by rw [hl], hb', hr', hy.set hb8, by rw [hl]; exact hn⟩)
theorem Row.take {f : Nat → Int32} {l : List Nat} (h : Row f l) (n : Nat) : Row f (l.take n) := fun i hi => by
  rw [List.length_take] at hi
  have e : (l.take n).getD i 0 = l.getD i 0 := by
    rw [List.getD_eq_getElem?_getD, List.getD_eq_getElem?_getD, List.getElem?_take_of_lt (by omega)]
  rw [h i (by omega), e]
theorem BRow.take {f : Nat → Int32} {l : List Nat} (h : BRow f l) (n : Nat) : BRow f (l.take n) := fun i hi => by
  rw [List.length_take] at hi
  have e : (l.take n).getD i 0 = l.getD i 0 := by
    rw [List.getD_eq_getElem?_getD, List.getD_eq_getElem?_getD, List.getElem?_take_of_lt (by omega)]
  rw [h i (by omega), e]
theorem byt.take {l : List Nat} (h : byt l) (n : Nat) : byt (l.take n) := fun b hb => h b (List.mem_of_mem_take hb)
theorem t_cut {L : Nat} {fz th fl l5 x1 : Int32} {row file : Nat → Int32} {K : Int32 → Int32 → Int32 → Prop} (v1 : vp_in (l5 + 1) L) (hF : GF fz row fl file) (hK : ∀ fz th fl, GF fz row fl file → K fz th fl) : OP_8 L fz th fl l5 x1 K := by
  have hF0 := hF
  obtain ⟨F, rfl, rfl, hb, hr, hy, hn⟩ := hF0
  unfold OP_8
  refine ⟨v1, s_cut (by omega) (fun h0 => ⟨v1, ?_⟩) (fun i hi e => ⟨v1, ?_⟩)⟩
  · exact r_cut (by omega) (fun _ => ⟨fun _ => hK _ _ _ hF, fun q => q rfl⟩) (fun i hi e => absurd e (h0 i hi))
  · refine r_cut (by omega) (fun q => absurd e (q i hi)) (fun i2 hi2 e2 => ?_)
    rw [e, I_eq (by omega) (by omega)] at e2
    subst e2
    have hl : (F.take i).length = i := by rw [List.length_take]; omega
    exact ⟨fun _ => hK _ _ _ ⟨F.take i, by rw [hl], by rw [hl], hb.take i, hr.take i, hy.take i, by omega⟩, fun q => q rfl⟩
theorem t_mend {L : Nat} {fz th fl : Int32} {row file : Nat → Int32} {K : Int32 → (Nat → Int32) → Int32 → (Nat → Int32) → Prop} (hF : GF fz row fl file) (hK : ∀ fz row th file, GF fz row fl file → K fz row th file) : OP_9 L fz row th fl file K := by
  have hF0 := hF
  obtain ⟨F, rfl, rfl, hb, hr, hy, hn⟩ := hF0
  unfold OP_9
  refine s_mend hb hy hn (fun h0 => ?_) (fun row' h4 hb' => ?_)
  · exact r_mend hr hy hn (fun _ => ⟨fun _ => hK _ _ _ _ hF, fun q => q rfl⟩) (fun _ q => by omega)
  · refine r_mend hr hy hn (fun q => by omega) (fun file' _ hr' => ?_)
    have hs4 : (sum4 (F.take (F.length - 4))).length = 4 := by rw [sum4_bytes]; exact bytesOf_len _ _
    have hl : (F.take (F.length - 4) ++ sum4 (F.take (F.length - 4))).length = F.length := by rw [List.length_append, hs4, List.length_take]; omega
    exact ⟨fun _ => hK _ _ _ _ ⟨_, by rw [hl], by rw [hl], hb', hr', (hy.take _).app (sum4_byt _), by rw [hl]; exact hn⟩, fun q => q rfl⟩
