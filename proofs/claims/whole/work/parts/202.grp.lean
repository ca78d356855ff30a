
/-! the groups of what both sides hold, and a call's end -/
theorem ne_AS : ¬ eIA = eIS := by decide
theorem ne_SA : ¬ eIS = eIA := by decide
theorem ne_AN : ¬ eIA = eNS := by decide
theorem ne_NA : ¬ eNS = eIA := by decide
theorem z10 : ¬ ((1 : Int32) = 0) := by decide
theorem z20 : ¬ ((2 : Int32) = 0) := by decide
theorem vp01 : vp_in 0 1 := by
  rw [i_0, I_in (by omega)]; omega
theorem tl {th r1 : Int32} {v w : Int64} {K : Prop} (e : th = r1) (ev : r1 = 0 → v = w) (h : K) : P_X9_thrown th (fun r => ((r = r1 → ((¬ r1 = 0 → K) ∧ (r1 = 0 → vp_in 0 1 ∧ ((v = w → K) ∧ (¬ v = w → False))))) ∧ (¬ r = r1 → False))) :=
  ⟨fun _ => ⟨fun _ => h, fun z => ⟨vp01, fun _ => h, fun q => q (ev z)⟩⟩, fun q => q e⟩
/-- what was fed -/
def GT (ts : Int32) (tr : Nat → Int32) (td : Int32) (tp : Nat → Int32) : Prop := ∃ bs, ts = I bs.length ∧ td = I bs.length ∧ BRow tr bs ∧ Row tp bs ∧ byt bs ∧ bs.length ≤ 3000
theorem GT.nil (tr tp : Nat → Int32) : GT (I 0) tr (I 0) tp := ⟨[], rfl, rfl, fun i hi => absurd hi (Nat.not_lt_zero _), fun i hi => absurd hi (Nat.not_lt_zero _), fun b hb => (by cases hb), Nat.zero_le _⟩
/-- the documents -/
def GC (dc tc pc lc : Int32) (tm : Nat → Int64) (ind ti len : Nat → Int32) (d2 t2 : Int32) (tm2 of2 len2 : Nat → Int32) : Prop := ∃ D T R, dc = I D.length ∧ tc = I T.length ∧ pc = I (posts D T) ∧ lc = I (lens D) ∧ d2 = I D.length ∧ t2 = I R.length ∧ VD D T ∧ CT D T tm ind ti ∧ LN D len ∧ RT D R tm2 of2 ∧ LN D len2 ∧ R.Perm T
theorem VD.docs {D : List (List Nat)} {T : List Nat} (h : VD D T) : docsOK D := by
  obtain ⟨v1, v2, v3, v4, v5, v6, v7⟩ := h
  refine ⟨v1, fun doc hd => ⟨(v6 doc hd).2, fun h0 => ?_⟩⟩
  exact absurd (okw_pos (v7 0 ((v5 0).mpr ⟨doc, hd, h0⟩))) (Nat.lt_irrefl 0)
theorem Room.perm {D : List (List Nat)} {R T S : List Nat} (h : R.Perm T) : Room D R S ↔ Room D T S := by
  have e : fresh R S = fresh T S := by
    unfold fresh
    refine List.filter_congr (fun w _ => ?_)
    by_cases q : w ∈ T
    · simp [q, h.mem_iff]
    · simp [q, h.mem_iff]
  unfold Room
  rw [e, h.length_eq, posts_perm h]
theorem byt_app {l m : List Nat} (h1 : byt l) (h2 : byt m) : byt (l ++ m) := fun b hb => by
  rcases List.mem_append.mp hb with q | q
  · exact h1 b q
  · exact h2 b q
theorem byt_bytesOf (P n : Nat) : byt (bytesOf P n) := fun b hb => by
  unfold bytesOf at hb
  rw [List.mem_map] at hb
  obtain ⟨k, -, rfl⟩ := hb
  omega
theorem t_feed {L : Nat} {ts th td l5 x1 x2 x3 : Int32} {tr tp : Nat → Int32} {a3 : Nat → Int64} {K : Int32 → (Nat → Int32) → Int32 → Int32 → (Nat → Int32) → (Nat → Int64) → Prop}
    (v1 : vp_in (l5 + 1) L) (v2 : vp_in (l5 + 2) L) (v3 : vp_in (l5 + 3) L) (hT : GT ts tr td tp) (hK : ∀ ts tr th td tp a3, GT ts tr td tp → K ts tr th td tp a3) : OP_0 L ts tr th td tp a3 l5 x1 x2 x3 K := by
  obtain ⟨bs, rfl, rfl, hb, hr, hy, hn⟩ := hT
  unfold OP_0 P_L_feed
  generalize hw : (x2.toInt64 <<< ((32 : Int32).toInt64 &&& 63) ||| (x3.toInt64 &&& 4294967295)) = w
  obtain ⟨v, hv, rfl⟩ := J_all w
  refine ⟨v1, v2, v3, s_feed hb hn hv (fun hA => ⟨fun _ => ⟨v1, v2, v3, ?_⟩, fun e => absurd e ne_AS, Or.inl rfl⟩) (fun n n1 n2 e hS => ⟨fun e => absurd e ne_SA, fun _ => ⟨v1, v2, v3, ?_⟩, Or.inr rfl⟩) (fun n row' n1 n2 e hS hb' => ⟨vp01, v1, v2, v3, ?_⟩)⟩
  · exact r_feed hr hn hv (fun _ => tl rfl (fun z => absurd z z10) (hK _ _ _ _ _ _ ⟨bs, rfl, rfl, hb, hr, hy, hn⟩)) (fun n a b c _ => absurd c (hA n a b)) (fun n _ a b c _ _ => absurd c (hA n a b))
  · refine r_feed hr hn hv (fun q => absurd e (q n n1 n2)) (fun _ _ _ _ _ => tl rfl (fun z => absurd z z20) (hK _ _ _ _ _ _ ⟨bs, rfl, rfl, hb, hr, hy, hn⟩)) (fun m _ a b c d _ => ?_)
    rw [e, I_eq (by omega) (by omega)] at c
    omega
  · refine r_feed hr hn hv (fun q => absurd e (q n n1 n2)) (fun m a b c d => ?_) (fun m tp' a b c d hr' => ?_)
    · rw [e, I_eq (by omega) (by omega)] at c
      omega
    · rw [e, I_eq (by omega) (by omega)] at c
      subst c
      have hl : (bs ++ bytesOf v n).length = bs.length + n := by rw [List.length_append, bytesOf_len]
      exact tl rfl (fun _ => pk_uLs) (hK _ _ _ _ _ _ ⟨bs ++ bytesOf v n, by rw [hl], by rw [hl], hb', hr', byt_app hy (byt_bytesOf v n), by rw [hl]; exact d⟩)
theorem t_add {L : Nat} {ts wd wt dc tc pc lc th td at' d2 t2 : Int32} {tr wti ind ti len tp word tm2 of2 len2 fresh : Nat → Int32} {wtm tm a3 : Nat → Int64} {K : Int32 → Int32 → Int32 → (Nat → Int64) → (Nat → Int32) → Int32 → Int32 → Int32 → Int32 → (Nat → Int64) → (Nat → Int32) → (Nat → Int32) → (Nat → Int32) → Int32 → Int32 → Int32 → Int32 → Int32 → (Nat → Int32) → (Nat → Int32) → (Nat → Int32) → (Nat → Int32) → (Nat → Int32) → (Nat → Int64) → Prop}
    (hT : GT ts tr td tp) (hC : GC dc tc pc lc tm ind ti len d2 t2 tm2 of2 len2)
    (hK : ∀ wd wt wtm wti dc tc pc lc tm ind ti len th at' d2 t2 word tm2 of2 len2 fresh a3, GC dc tc pc lc tm ind ti len d2 t2 tm2 of2 len2 → K (I 0) wd wt wtm wti dc tc pc lc tm ind ti len th (I 0) at' d2 t2 word tm2 of2 len2 fresh a3) : OP_1 L ts tr wd wt wtm wti dc tc pc lc tm ind ti len th td at' d2 t2 tp word tm2 of2 len2 fresh a3 K := by
  obtain ⟨bs, rfl, rfl, hb, hr, hy, hn⟩ := hT
  obtain ⟨D, T, R, rfl, rfl, rfl, rfl, rfl, rfl, hV, hCT, hL, hR, hL2, hP⟩ := hC
  have hV0 := hV
  obtain ⟨c1, c2, c3, c4, c5, c6, c7⟩ := hV0
  have hRl : R.length ≤ 64 := by rw [hP.length_eq]; exact c2
  have hRn : R.Nodup := hP.nodup_iff.mpr c4.nodup
  have hRo : ∀ w ∈ R, w < 18446744073709551616 := fun w hw => by have := (c7 w (hP.mem_iff.mp hw)).lt; omega
  have hSo : ∀ w ∈ stems bs, okw w ∧ w ≠ 0 := fun w hw => ⟨stems_ok bs w hw, Nat.ne_of_gt (okw_pos (stems_ok bs w hw))⟩
  have hps : posts D R ≤ 600 := by rw [posts_perm hP]; exact c3
  have hRD : ∀ doc ∈ D, ∀ w ∈ doc, w ∈ R := fun doc hd w hw => hP.mem_iff.mpr ((c5 w).mpr ⟨doc, hd, hw⟩)
  unfold OP_1 P_L_add
  refine s_add8 hV hCT hL hb hy hn (fun hA wd wt wtm wti => ⟨fun _ => ?_, fun e => absurd e ne_AS, Or.inl rfl⟩) (fun h0 hS wd wt wtm wti => ⟨fun e => absurd e ne_SA, fun _ => ?_, Or.inr rfl⟩) (fun h0 hRm wd wt wtm wti T' tm' ind' ti' len' hV' hCT' hL' => ⟨vp01, ?_⟩)
  · refine r_add hr hy hn hV.docs hR hRl hRn hRo hSo hL2 hps hRD (fun _ a' fr' w' tm' hTW => ?_) (fun q => absurd hA q) (fun q => absurd hA q)
    exact tl rfl (fun z => absurd z z10) (hK _ _ _ _ _ _ _ _ _ _ _ _ _ _ _ _ _ _ _ _ _ _ ⟨D, T, R, rfl, rfl, rfl, rfl, rfl, rfl, hV, hCT, hL, ⟨hTW, hR.2⟩, hL2, hP⟩)
  · refine r_add hr hy hn hV.docs hR hRl hRn hRo hSo hL2 hps hRD (fun q => absurd q h0) (fun _ _ a' fr' w' tm' hTW => ?_) (fun _ q => absurd ((Room.perm hP).mp q) hS)
    exact tl rfl (fun z => absurd z z20) (hK _ _ _ _ _ _ _ _ _ _ _ _ _ _ _ _ _ _ _ _ _ _ ⟨D, T, R, rfl, rfl, rfl, rfl, rfl, rfl, hV, hCT, hL, ⟨hTW, hR.2⟩, hL2, hP⟩)
  · refine r_add hr hy hn hV.docs hR hRl hRn hRo hSo hL2 hps hRD (fun q => absurd q h0) (fun _ q => absurd ((Room.perm hP).mpr hRm) q) (fun _ _ R' a' of' fr' w' tm2' len2' n1 n2 n3 n4 n5 => ?_)
    have hP' : R'.Perm T' := (List.perm_ext_iff_of_nodup n1 hV'.2.2.2.1.nodup).mpr (fun w => by
      rw [n3, hV'.2.2.2.2.1, hP.mem_iff, c5]
      constructor
      · rintro (⟨doc, a, b⟩ | q)
        · exact ⟨doc, List.mem_append_left _ a, b⟩
        · exact ⟨stems bs, by simp, q⟩
      · rintro ⟨doc, a, b⟩
        rcases List.mem_append.mp a with q | q
        · exact Or.inl ⟨doc, q, b⟩
        · rw [List.mem_singleton] at q; subst q; exact Or.inr b)
    exact tl rfl (fun _ => pk_uLs) (hK _ _ _ _ _ _ _ _ _ _ _ _ _ _ _ _ _ _ _ _ _ _ ⟨D ++ [stems bs], T', R', rfl, rfl, rfl, rfl, by rw [List.length_append]; rfl, rfl, hV', hCT', hL', n4, n5, hP'⟩)
