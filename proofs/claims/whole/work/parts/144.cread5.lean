
/-! the class reads a file: its terms, whole -/
theorem s_greatest {TG : List (Nat × List Sg)} {tm : Nat → Int64} {fs im fp doc : Nat → Int32} {Φ : Int64 → Prop} (hA : CA TG tm fs im fp doc) (h64 : TG.length ≤ 64) (h : ∀ g, (TG = [] → g = 0) → (TG ≠ [] → g ∈ TG.map (fun q => q.1) ∧ g = (TG.map (fun q => q.1)).getD (TG.length - 1) 0) → Φ (J g)) : P_X4_greatestTerm (I TG.length) tm Φ := by
  unfold P_X4_greatestTerm
  rw [i_0, I_eq (by omega) (by omega)]
  refine ⟨fun q => ?_, fun q => ?_⟩
  · rw [i_1, I_sub (by omega), I_in (by omega), I_cl (by omega), hA.1 _ (by rw [List.length_map]; omega)]
    exact ⟨by omega, h _ (fun e => by rw [e] at q; exact absurd rfl q) (fun _ => ⟨getD_mem (by rw [List.length_map]; omega), rfl⟩)⟩
  · have : TG = [] := List.length_eq_zero_iff.mp q
    exact h 0 (fun _ => rfl) (fun e => absurd this e)
theorem srt_last {T : List Nat} (h : srt T) {w : Nat} : (∀ v ∈ T, v < w) ↔ (T = [] ∨ T.getD (T.length - 1) 0 < w) := by
  constructor
  · intro q
    by_cases e : T = []
    · exact Or.inl e
    · exact Or.inr (q _ (getD_mem (by have := List.length_pos_iff.mpr e; omega)))
  · intro q v hv
    obtain ⟨i, hi, e⟩ := List.mem_iff_getElem.mp hv
    have e2 : T.getD i 0 = v := by rw [List.getD_eq_getElem?_getD, List.getElem?_eq_getElem hi, ← e]; rfl
    rcases q with q | q
    · rw [q] at hi; simp at hi
    · by_cases z : i = T.length - 1
      · rw [← e2, z]; exact q
      · have := h.get (i := i) (j := T.length - 1) (by omega) (by omega)
        omega
theorem s_rdterm {F : List Nat} {row : Nat → Int32} {p c b N : Nat} {TG : List (Nat × List Sg)} {tm : Nat → Int64} {fs im fp doc gap : Nat → Int32} {gm : Int32} {Φ : Int32 → Int32 → Int32 → Int32 → Int32 → (Nat → Int64) → (Nat → Int32) → Int32 → (Nat → Int32) → (Nat → Int32) → (Nat → Int32) → (Nat → Int32) → Prop}
    (hb : BRow row F) (hy : byt F) (hn : F.length ≤ 6650) (hc2 : c ≤ 2) (hV : VT b N TG) (h64 : TG.length < 64) (hA : CA TG tm fs im fp doc) (hp : p ≤ F.length)
    (h1 : ∀ q p' tm' fs' gm' gap' im' fp' doc', p' ≤ F.length → VT b N (TG ++ [q]) → CA (TG ++ [q]) tm' fs' im' fp' doc' → (∀ q2 rest, CQ F p c b N TG q2 rest → q2 = q ∧ F.drop p' = rest) → Φ (I 1) (I p') (I (TG ++ [q]).length) (I (SLt (TG ++ [q])).length) (I (PL (SLt (TG ++ [q]))).length) tm' fs' gm' gap' im' fp' doc')
    (h0 : ∀ p' tr sgs ps tm' fs' gm' gap' im' fp' doc', fs' 0 = I 0 → fp' 0 = I 0 → (∀ q2 rest, ¬ CQ F p c b N TG q2 rest) → Φ (I 0) p' tr sgs ps tm' fs' gm' gap' im' fp' doc') :
    P_X5_readTerm 6650 (I F.length) (I p) row (I b) (I N) (I TG.length) (I (SLt TG).length) (I (PL (SLt TG)).length) tm fs gm gap im fp doc (I c) Φ := by
  have hb8 := hV.2.1
  have h2b : 2 ^ b ≤ 2 ^ 8 := Nat.pow_le_pow_right (by decide) hb8
  have hsrt := hV.2.2.2.2.2.1
  have hz : fs 0 = I 0 ∧ fp 0 = I 0 := ⟨by rw [hA.2.1 0 (Nat.zero_le _)]; rfl, by rw [hA.2.2.2.1 0 (Nat.zero_le _)]; rfl⟩
  unfold P_X5_readTerm
  refine s_rdword hb hy hn hp (fun w p1 hW => ?_)
  obtain ⟨w1, w2, w3⟩ := hW
  refine s_greatest hA (by omega) (fun g g1 g2 => ?_)
  have hcw : ∀ q rest, CQ F p c b N TG q rest → w = q.1 ∧ F.drop p1 = q.2.length :: (q.2.flatMap (encS c) ++ rest) := fun q rest e => by
    obtain ⟨e1, e2, e3, e4, e5, e6⟩ := e
    refine w3 q.1 _ e1 ?_
    rw [e6]; unfold encT; simp only [List.cons_append, List.append_assoc]
  have hw64 : w < 9223372036854775808 := w2.elim (fun q => by omega) (fun q => q.lt)
  have hg64 : g < 9223372036854775808 := by
    by_cases q : TG = []
    · rw [g1 q]; omega
    · obtain ⟨q1, q2⟩ := g2 q
      obtain ⟨x, hx, e⟩ := List.mem_map.mp q1
      have := (hV.2.2.2.2.2.2.1 x hx).1.lt
      omega
  have hless : (∀ v ∈ TG.map (fun q => q.1), v < w) ∧ okw w ↔ g < w := by
    rw [srt_last hsrt, List.length_map]
    constructor
    · rintro ⟨q | q, hw⟩
      · rw [g1 (by simpa using q)]; exact okw_pos hw
      · by_cases z : TG = []
        · rw [g1 z]; exact okw_pos hw
        · rw [(g2 z).2]; exact q
    · intro q
      refine ⟨?_, w2.elim (fun z => by omega) id⟩
      by_cases z : TG = []
      · exact Or.inl (by simp [z])
      · exact Or.inr (by rw [← (g2 z).2]; exact q)
  rw [J_lt hg64 hw64]
  refine ⟨fun q => h0 _ _ _ _ _ _ _ _ _ _ _ hz.1 hz.2 (fun q2 rest e => ?_), fun q => ?_⟩
  · have := (hcw q2 rest e).1
    exact q (hless.mp ⟨by rw [this]; exact e.2.2.2.1, by rw [this]; exact e.1⟩)
  · obtain ⟨hlt, hok⟩ := hless.mpr q
    refine s_startTerm hA h64 (fun tm' fs' hA' => ⟨fun _ => ?_, fun y => absurd y (by decide)⟩)
    have hz' : fs' 0 = I 0 ∧ fp 0 = I 0 := ⟨by rw [hA'.2.1 0 (Nat.zero_le _)]; rfl, hz.2⟩
    refine s_next hb hn w1 ?_
    have hF := hy.get p1
    have bad : ∀ p', (∀ q2 rest, ¬ CQ F p c b N TG q2 rest) → Φ 0 p' (I (TG.length + 1)) (I (SLt TG).length) (I (PL (SLt TG)).length) tm' fs' gm gap im fp doc := fun p' e => h0 _ _ _ _ _ _ _ _ _ _ _ hz'.1 hz'.2 e
    by_cases hp1 : p1 < F.length
    · have e1 : nv F p1 = I (F.getD p1 0) := by unfold nv; rw [if_pos hp1]
      have e2 : np F p1 = p1 + 1 := by unfold np; rw [if_pos hp1]
      rw [e1, e2, i_1, I_le (by omega) (by omega)]
      refine ⟨fun hge => ⟨F.getD p1 0 + 1, ?_⟩, fun hnge => bad _ (fun q2 rest e => ?_)⟩
      · rw [i_31, I_sl (by omega), Nat.one_mul]
        have hnil : SLt TG ++ ([] : List Sg) = SLt TG := List.append_nil _
        have key := l_rdsegs (w := w) (p0 := p) (sg := F.getD p1 0) (bi := I b) (K := fun a1_place_40 a3_terms_41 a3_segments_42 a3_postings_43 a3_term_44 a3_firstSegment_45 gaps_many_46 gaps_gap_47 a3_impact_48 a3_firstPosting_49 a3_document_50 => Φ 1 a1_place_40 a3_terms_41 a3_segments_42 a3_postings_43 a3_term_44 a3_firstSegment_45 gaps_many_46 gaps_gap_47 a3_impact_48 a3_firstPosting_49 a3_document_50) (Φ := Φ) hb hy hn hc2 hV h64 (tm := tm') ?_ (fun p' tr sgs ps fs gm gap im fp doc a1 a2 a3 => h0 _ _ _ _ _ _ _ _ _ _ _ a1 a2 a3) (by omega) (F.getD p1 0) 0 (p1 + 1) [] fs' gm gap im fp doc (2 ^ b) (by omega) (by omega) (by omega) rfl ⟨⟨List.Pairwise.nil, (fun s hs => by cases hs), List.nodup_nil⟩, (fun s hs => by cases hs), Nat.le_refl _, Nat.two_pow_pos b, fun _ => rfl, fun z => absurd rfl z⟩ hA' (by rw [hnil]; exact hV.2.2.2.2.2.2.2) (fun q2 rest e => ?_)
        · rw [hnil] at key
          exact key
        · intro p' segs fs2 gm2 gap2 im2 fp2 doc2 ab a1 a2 a3 a4 a5 a6
          have hSA : SLt TG ++ segs = SLt (TG ++ [(w, segs)]) := (SLt_app TG (w, segs)).symm
          have hlen : TG.length + 1 = (TG ++ [(w, segs)]).length := by simp
          rw [hSA] at a5 ⊢
          rw [hlen]
          refine h1 (w, segs) p' _ _ _ _ _ _ _ a1 ⟨hV.1, hV.2.1, hV.2.2.1, hV.2.2.2.1, by simp; omega, ?_, fun q2 hq2 => ?_, a5⟩ a4 a6
          · rw [List.map_append]
            refine List.pairwise_append.mpr ⟨hsrt, by simp, fun x hx y hy => ?_⟩
            simp only [List.map_cons, List.map_nil, List.mem_singleton] at hy
            subst hy
            exact hlt x hx
          · rcases List.mem_append.mp hq2 with hq2 | hq2
            · exact hV.2.2.2.2.2.2.1 q2 hq2
            · simp only [List.mem_singleton] at hq2
              subst hq2
              exact ⟨hok, by intro z; have z2 := congrArg List.length (show segs = [] from z); rw [a2, List.length_nil] at z2; omega, a3.1⟩
        · obtain ⟨b1, b2⟩ := hcw q2 rest e
          obtain ⟨d1, d2, d3⟩ := drop_eq b2
          exact ⟨b1.symm, d2.symm, rfl, d3⟩
      · obtain ⟨b1, b2⟩ := hcw q2 rest e
        obtain ⟨d1, d2, d3⟩ := drop_eq b2
        have := List.length_pos_iff.mpr e.2.1
        omega
    · have e1 : nv F p1 = -1 := by unfold nv; rw [if_neg hp1]
      rw [e1]
      refine ⟨fun y => absurd y (by decide), fun _ => bad _ (fun q2 rest e => ?_)⟩
      exact hp1 (drop_eq (hcw q2 rest e).2).1
theorem encT_byt {c b N : Nat} {q : Nat × List Sg} (hc : c ≤ 2) (hb8 : b ≤ 8) (hN : N ≤ 40) (hw : okw q.1) (hv : VS b N q.2) : byt (encT c q) := by
  obtain ⟨h1, h2, h3, h4⟩ := hw.lets
  have h2b : 2 ^ b ≤ 2 ^ 8 := Nat.pow_le_pow_right (by decide) hb8
  have hl := hv.len
  have e1b : ∀ n (gs : List Nat), gs.length ≤ n → byt (enc1 gs) := by
    intro n
    induction n with
    | zero => intro gs h; have : gs = [] := List.length_eq_zero_iff.mp (by omega); subst this; intro x hx; cases hx
    | succ n ih =>
      intro gs h
      by_cases e : gs = []
      · subst e; intro x hx; cases hx
      · rw [enc1_step e]
        have hw := wsz_pos (wayA_le gs 10 0)
        refine (bytesOf_byt _ _).app (ih _ ?_)
        rw [List.length_drop]
        have hp := List.length_pos_iff.mpr e
        unfold way; omega
  unfold encT
  intro x hx
  rcases List.mem_cons.mp hx with rfl | hx
  · omega
  · rcases List.mem_append.mp hx with hx | hx
    · exact h1.lt x hx
    · rcases List.mem_cons.mp hx with rfl | hx
      · omega
      · obtain ⟨s, hs, hx⟩ := List.mem_flatMap.mp hx
        have hvs := hv.2.1 s hs
        have hsl := hv.seg hs
        unfold encS at hx
        rcases List.mem_cons.mp hx with rfl | hx
        · omega
        · rcases List.mem_cons.mp hx with rfl | hx
          · omega
          · unfold encG at hx
            split at hx
            · obtain ⟨g, hg, rfl⟩ := List.mem_map.mp hx
              have := gp_lt hvs.2.2.2.2 0 g hg
              omega
            · split at hx
              · exact e1b _ _ (Nat.le_refl _) x hx
              · unfold enc2 at hx
                rcases List.mem_cons.mp hx with rfl | hx
                · have := (mb_all (gs := gp 0 s.2) (fun g hg => by have := gp_lt hvs.2.2.2.2 0 g hg; omega)).1
                  omega
                · exact bytesOf_byt _ _ x hx
theorem body_byt {c b N : Nat} {TG : List (Nat × List Sg)} (hc : c ≤ 2) (hV : VT b N TG) : byt (body c (b, N, TG)) := by
  have h64 : TG.length ≤ 64 := hV.2.2.2.2.1
  have := hV.2.1
  have := hV.2.2.2.1
  unfold body
  intro x hx
  rcases List.mem_append.mp hx with hx | hx
  · simp only [List.mem_cons, List.not_mem_nil, or_false] at hx
    rcases hx with rfl | rfl | rfl | rfl | rfl | rfl <;> omega
  · obtain ⟨q, hq, hx⟩ := List.mem_flatMap.mp hx
    obtain ⟨h1, h2, h3⟩ := hV.2.2.2.2.2.2.1 q hq
    exact encT_byt hc hV.2.1 hV.2.2.2.1 h1 h3 x hx
theorem E_byt {c b N : Nat} {TG : List (Nat × List Sg)} (hc : c ≤ 2) (hV : VT b N TG) : byt (E c (b, N, TG)) := (body_byt hc hV).app (sum4_byt _)

theorem l_same {l m : List Nat} {row row2 : Nat → Int32} {K : Prop} {Φ : Int32 → Prop} (hb : BRow row l) (hb2 : BRow row2 m) (hy : byt l) (hy2 : byt m) (hl : l.length ≤ 6650) (e : l.length = m.length) (hK : l = m → K) (hΦ : l ≠ m → Φ (I 0)) :
    ∀ k i, l.length ≤ i + k → i ≤ l.length → l.take i = m.take i → L_X0_isSameAs_15 (k + 1) 6650 6650 (I l.length) (I m.length) row row2 (I i) K Φ := by
  have fin : ∀ i, l.length ≤ i → l.take i = m.take i → K := fun i h1 h2 => by
    rw [List.take_of_length_le h1, List.take_of_length_le (by omega)] at h2
    exact hK h2
  intro k
  induction k with
  | zero =>
    intro i h1 h2 h3
    unfold L_X0_isSameAs_15
    rw [I_le (by omega) (by omega)]
    exact ⟨fun _ => fin i (by omega) h3, fun z => by omega⟩
  | succ k ih =>
    intro i h1 h2 h3
    unfold L_X0_isSameAs_15
    rw [I_le (by omega) (by omega)]
    refine ⟨fun z => fin i (by omega) h3, fun z => ?_⟩
    refine s_at hb rfl hl (by decide) (by omega) (s_at hb2 rfl (by omega) (by decide) (by omega) ?_)
    have a1 := hy.get i
    have a2 := hy2.get i
    rw [I_eq (by omega) (by omega), i_1, I_add]
    refine ⟨fun q => ih (i + 1) (by omega) (by omega) ?_, fun q => hΦ (fun z => q (by rw [z]))⟩
    rw [take_succ_getD (by omega), take_succ_getD (by omega), h3, q]
theorem s_same {l m : List Nat} {row row2 : Nat → Int32} {Φ : Int32 → Prop} (hb : BRow row l) (hb2 : BRow row2 m) (hy : byt l) (hy2 : byt m) (hl : l.length ≤ 6650) (hm : m.length ≤ 6650) (h1 : l = m → Φ (I 1)) (h0 : l ≠ m → Φ (I 0)) : P_X0_isSameAs 6650 6650 (I l.length) (I m.length) row row2 Φ := by
  unfold P_X0_isSameAs
  rw [I_eq (by omega) (by omega)]
  refine ⟨fun q => ⟨l.length + 1, l_same hb hb2 hy hy2 hl q h1 h0 l.length 0 (by omega) (by omega) rfl⟩, fun q => h0 (fun z => q (by rw [z]))⟩
theorem E_drop6 (c : Nat) (X : Ix) : (E c X).drop 6 = X.2.2.flatMap (encT c) ++ sum4 (body c X) := by
  unfold E body; simp
theorem E_head (c : Nat) (X : Ix) : E c X = 73 :: 109 :: X.1 :: c :: X.2.1 :: X.2.2.length :: (X.2.2.flatMap (encT c) ++ sum4 (body c X)) := by
  unfold E body; simp
theorem l_cread {F : List Nat} {row : Nat → Int32} {c b N n : Nat} {ps : Int32} {pr : Nat → Int32} {K : Int32 → Int32 → Int32 → Int32 → Int32 → Int32 → (Nat → Int64) → (Nat → Int32) → Int32 → (Nat → Int32) → (Nat → Int32) → (Nat → Int32) → (Nat → Int32) → Int32 → (Nat → Int32) → Int32 → Prop} {Φ : Int32 → Int32 → Int32 → Int32 → Int32 → Int32 → Int32 → (Nat → Int64) → (Nat → Int32) → Int32 → (Nat → Int32) → (Nat → Int32) → (Nat → Int32) → (Nat → Int32) → Int32 → (Nat → Int32) → Prop}
    (hb : BRow row F) (hy : byt F) (hn : F.length ≤ 6650) (hc2 : c ≤ 2) (hb2 : 2 ≤ b) (hb8 : b ≤ 8) (hN1 : 1 ≤ N) (hN : N ≤ 40) (hn64 : n ≤ 64)
    (hK : ∀ p TG tm fs gm gap im fp doc, TG.length = n → VT b N TG → CA TG tm fs im fp doc → (∀ c2 X2, VX X2 → F = E c2 X2 → c2 = c ∧ X2 = (b, N, TG)) → K (I p) (I b) (I N) (I TG.length) (I (SLt TG).length) (I (PL (SLt TG)).length) tm fs gm gap im fp doc ps pr (I c))
    (hΦ : ∀ p tr sgs pss tm fs gm gap im fp doc, fs 0 = I 0 → fp 0 = I 0 → (∀ c2 X2, VX X2 → F ≠ E c2 X2) → Φ (I 0) p (I b) (I N) tr sgs pss tm fs gm gap im fp doc ps pr) :
    ∀ k t p TG tm fs gm gap im fp doc, n ≤ t + k → t ≤ n → p ≤ F.length → TG.length = t → VT b N TG → CA TG tm fs im fp doc → (∀ c2 X2, VX X2 → F = E c2 X2 → c2 = c ∧ X2.1 = b ∧ X2.2.1 = N ∧ X2.2.2.length = n ∧ X2.2.2.take t = TG ∧ F.drop p = (X2.2.2.drop t).flatMap (encT c) ++ sum4 (body c2 X2)) →
      L_X5_read_91 (k + 1) 6650 (I F.length) (I p) row (I b) (I N) (I TG.length) (I (SLt TG).length) (I (PL (SLt TG)).length) tm fs gm gap im fp doc ps pr (I c) (I n) (I t) K Φ := by
  have fin : ∀ t p TG tm fs gm gap im fp doc, n ≤ t → t ≤ n → TG.length = t → VT b N TG → CA TG tm fs im fp doc → (∀ c2 X2, VX X2 → F = E c2 X2 → c2 = c ∧ X2.1 = b ∧ X2.2.1 = N ∧ X2.2.2.length = n ∧ X2.2.2.take t = TG ∧ F.drop p = (X2.2.2.drop t).flatMap (encT c) ++ sum4 (body c2 X2)) → K (I p) (I b) (I N) (I TG.length) (I (SLt TG).length) (I (PL (SLt TG)).length) tm fs gm gap im fp doc ps pr (I c) := by
    intro t p TG tm fs gm gap im fp doc h1 h2 h3 h4 h5 h6
    refine hK p TG tm fs gm gap im fp doc (by omega) h4 h5 (fun c2 X2 a1 a2 => ?_)
    obtain ⟨b1, b2, b3, b4, b5, b6⟩ := h6 c2 X2 a1 a2
    rw [List.take_of_length_le (by omega)] at b5
    exact ⟨b1, by rw [← b2, ← b3, ← b5]⟩
  intro k
  induction k with
  | zero =>
    intro t p TG tm fs gm gap im fp doc h1 h2 h3 h4 h5 h6 h7
    unfold L_X5_read_91
    rw [I_le (by omega) (by omega)]
    exact ⟨fun _ => fin t p TG tm fs gm gap im fp doc (by omega) h2 h4 h5 h6 h7, fun z => by omega⟩
  | succ k ih =>
    intro t p TG tm fs gm gap im fp doc h1 h2 h3 h4 h5 h6 h7
    unfold L_X5_read_91
    rw [I_le (by omega) (by omega)]
    refine ⟨fun z => fin t p TG tm fs gm gap im fp doc (by omega) h2 h4 h5 h6 h7, fun z => ?_⟩
    have hc : ∀ c2 X2, VX X2 → F = E c2 X2 → ∃ q, X2.2.2[t]? = some q ∧ c2 = c ∧ X2.1 = b ∧ X2.2.1 = N ∧ X2.2.2.length = n ∧ X2.2.2.take (t + 1) = TG ++ [q] ∧ CQ F p c b N TG q ((X2.2.2.drop (t + 1)).flatMap (encT c) ++ sum4 (body c2 X2)) := fun c2 X2 a1 a2 => by
      obtain ⟨b1, b2, b3, b4, b5, b6⟩ := h7 c2 X2 a1 a2
      have hlt : t < X2.2.2.length := by omega
      obtain ⟨q, hq⟩ : ∃ q, X2.2.2[t]? = some q := ⟨_, List.getElem?_eq_getElem hlt⟩
      have hqm : q ∈ X2.2.2 := List.mem_of_getElem? hq
      have hv := a1.1
      rw [b2, b3] at hv
      obtain ⟨o1, o2, o3⟩ := hv.2.2.2.2.2.2.1 q hqm
      have hsp := split_at hq
      rw [b5] at hsp
      refine ⟨q, hq, b1, b2, b3, b4, by rw [List.take_succ, hq, b5]; rfl, o1, o2, o3, fun v hv2 => ?_, ?_, ?_⟩
      · have hs := hv.2.2.2.2.2.1
        rw [hsp, List.map_append, List.map_cons] at hs
        exact (List.pairwise_append.mp hs).2.2 v hv2 q.1 List.mem_cons_self
      · have hl := hv.2.2.2.2.2.2.2
        rw [hsp] at hl
        unfold SLt at hl ⊢
        rw [List.flatMap_append, List.flatMap_cons, PL_app, PL_app, List.length_append, List.length_append] at hl
        omega
      · rw [b6]
        have hd : X2.2.2.drop t = q :: X2.2.2.drop (t + 1) := by
          rw [List.drop_eq_getElem_cons hlt]
          rw [List.getElem?_eq_getElem hlt] at hq
          cases hq; rfl
        rw [hd, List.flatMap_cons, List.append_assoc]
    refine s_rdterm hb hy hn hc2 h5 (by omega) h6 h3 (fun q p' tm' fs' gm' gap' im' fp' doc' a1 a2 a3 a4 => ⟨fun _ => ?_, fun y => absurd y (by decide)⟩) (fun p' tr sgs pss tm' fs' gm' gap' im' fp' doc' a1 a2 a3 => ⟨fun y => absurd rfl y, fun _ => hΦ _ _ _ _ _ _ _ _ _ _ _ a1 a2 (fun c2 X2 b1 b2 => ?_)⟩)
    · rw [i_1, I_add]
      refine ih (t + 1) p' (TG ++ [q]) tm' fs' gm' gap' im' fp' doc' (by omega) (by omega) a1 (by simp [h4]) a2 a3 (fun c2 X2 b1 b2 => ?_)
      obtain ⟨q2, c1, c2', c3, c4, c5, c6, c7⟩ := hc c2 X2 b1 b2
      obtain ⟨e1, e2⟩ := a4 q2 _ c7
      exact ⟨c2', c3, c4, c5, by rw [c6, e1], e2⟩
    · obtain ⟨q2, c1, c2', c3, c4, c5, c6, c7⟩ := hc c2 X2 b1 b2
      exact a3 q2 _ c7
theorem CA_nil {tm : Nat → Int64} {fs im fp doc : Nat → Int32} (h1 : fs 0 = I 0) (h2 : fp 0 = I 0) : CA [] tm fs im fp doc := by
  refine ⟨fun i hi => by simp at hi, fun t ht => ?_, fun i hi => by simp [SLt] at hi, fun s hs => ?_, fun i hi => by simp [SLt, PL] at hi⟩
  · have : t = 0 := by simpa using ht
    subst this; rw [h1]; rfl
  · have : s = 0 := by simpa [SLt] using hs
    subst this; rw [h2]; rfl
theorem s_cread {F : List Nat} {row : Nat → Int32} {pl ob od ot osg op gm psz : Int32} {tm : Nat → Int64} {fs gap im fp doc pr : Nat → Int32} {Φ : Int32 → Int32 → Int32 → Int32 → Int32 → Int32 → Int32 → (Nat → Int64) → (Nat → Int32) → Int32 → (Nat → Int32) → (Nat → Int32) → (Nat → Int32) → (Nat → Int32) → Int32 → (Nat → Int32) → Prop}
    (hb : BRow row F) (hy : byt F) (hn : F.length ≤ 6650) (hfs : fs 0 = I 0) (hfp : fp 0 = I 0) (hps : ¬ psz < 0)
    (h1 : ∀ c b N TG p' tm' fs' gm' gap' im' fp' doc' psz' pr', c ≤ 2 → VX (b, N, TG) → F = E c (b, N, TG) → (∀ c2 X2, VX X2 → F = E c2 X2 → c2 = c ∧ X2 = (b, N, TG)) → CA TG tm' fs' im' fp' doc' → ¬ psz' < 0 → Φ (I 1) p' (I b) (I N) (I TG.length) (I (SLt TG).length) (I (PL (SLt TG)).length) tm' fs' gm' gap' im' fp' doc' psz' pr')
    (h0 : ∀ p' b' d' tr sgs pss tm' fs' gm' gap' im' fp' doc' psz' pr', (∀ c2 X2, c2 ≤ 2 → VX X2 → F ≠ E c2 X2) → fs' 0 = I 0 → fp' 0 = I 0 → ¬ psz' < 0 → Φ (I 0) p' b' d' tr sgs pss tm' fs' gm' gap' im' fp' doc' psz' pr') :
    P_X5_read 6650 (I F.length) pl row ob od ot osg op tm fs gm gap im fp doc psz pr Φ := by
  unfold P_X5_read P_X0_rewind
  have p1 := np_le (F := F) (p := 0) (Nat.zero_le _)
  have p2 := np_le p1
  have p3 := np_le p2
  have p4 := np_le p3
  have p5 := np_le p4
  refine s_next (p := 0) hb hn (Nat.zero_le _) (s_next hb hn p1 (s_next hb hn p2 (s_next hb hn p3 (s_next hb hn p4 (s_next hb hn p5 ?_)))))
  have hc : ∀ c2 X2, F = E c2 X2 → np F 0 = 1 ∧ np F 1 = 2 ∧ np F 2 = 3 ∧ np F 3 = 4 ∧ np F 4 = 5 ∧ np F 5 = 6 ∧ F.getD 2 0 = X2.1 ∧ F.getD 3 0 = c2 ∧ F.getD 4 0 = X2.2.1 ∧ F.getD 5 0 = X2.2.2.length ∧ 6 ≤ F.length ∧ F.drop 6 = X2.2.2.flatMap (encT c2) ++ sum4 (body c2 X2) := fun c2 X2 e => by
    have hh := E_head c2 X2
    have hl : 6 ≤ F.length := by rw [e, hh]; simp
    refine ⟨?_, ?_, ?_, ?_, ?_, ?_, ?_, ?_, ?_, ?_, hl, ?_⟩
    · unfold np; rw [if_pos (by omega)]
    · unfold np; rw [if_pos (by omega)]
    · unfold np; rw [if_pos (by omega)]
    · unfold np; rw [if_pos (by omega)]
    · unfold np; rw [if_pos (by omega)]
    · unfold np; rw [if_pos (by omega)]
    · rw [e, hh]; rfl
    · rw [e, hh]; rfl
    · rw [e, hh]; rfl
    · rw [e, hh]; rfl
    · rw [e, E_drop6]
  have bad : ∀ p', (∀ c2 X2, c2 ≤ 2 → VX X2 → F = E c2 X2 → False) → Φ 0 p' ob od ot osg op tm fs gm gap im fp doc psz pr := fun p' q => h0 _ _ _ _ _ _ _ _ _ _ _ _ _ _ _ q hfs hfp hps
  by_cases hlen : 6 ≤ F.length
  · have n0 : np F 0 = 1 := by unfold np; rw [if_pos (by omega)]
    have n1 : np F 1 = 2 := by unfold np; rw [if_pos (by omega)]
    have n2 : np F 2 = 3 := by unfold np; rw [if_pos (by omega)]
    have n3 : np F 3 = 4 := by unfold np; rw [if_pos (by omega)]
    have n4 : np F 4 = 5 := by unfold np; rw [if_pos (by omega)]
    have n5 : np F 5 = 6 := by unfold np; rw [if_pos (by omega)]
    have v2 : nv F 2 = I (F.getD 2 0) := by unfold nv; rw [if_pos (by omega)]
    have v3 : nv F 3 = I (F.getD 3 0) := by unfold nv; rw [if_pos (by omega)]
    have v4 : nv F 4 = I (F.getD 4 0) := by unfold nv; rw [if_pos (by omega)]
    have v5 : nv F 5 = I (F.getD 5 0) := by unfold nv; rw [if_pos (by omega)]
    rw [n0, n1, n2, n3, n4, n5, v2, v3, v4, v5]
    have y2 := hy.get 2
    have y3 := hy.get 3
    have y4 := hy.get 4
    have y5 := hy.get 5
    rw [i_2, i_8, i_0, i_1, i_40, i_64]
    refine s_withinI (by omega) (by omega) (by omega) (fun b1 b2 => ⟨fun y => absurd y (by decide), fun _ => ?_⟩) (fun q => ⟨fun _ => bad _ (fun c3 X2 a0 a1 a2 => q ?_), fun y => absurd rfl y⟩)
    · refine s_withinI (by omega) (by omega) (by omega) (fun c1 c2 => ⟨fun y => absurd y (by decide), fun _ => ?_⟩) (fun q => ⟨fun _ => bad _ (fun c3 X2 a0 a1 a2 => q ?_), fun y => absurd rfl y⟩)
      · refine s_withinI (by omega) (by omega) (by omega) (fun d1 d2 => ⟨fun y => absurd y (by decide), fun _ => ?_⟩) (fun q => ⟨fun _ => bad _ (fun c3 X2 a0 a1 a2 => q ?_), fun y => absurd rfl y⟩)
        · refine s_withinI (by omega) (by omega) (by omega) (fun e1 e2 => ⟨fun _ => ?_, fun y => absurd y (by decide)⟩) (fun q => ⟨fun y => absurd rfl y, fun _ => bad _ (fun c3 X2 a0 a1 a2 => q ?_)⟩)
          · unfold P_X4_start
            refine ⟨F.getD 5 0 + 1, ?_⟩
            refine l_cread (F := F) hb hy hn c2 b1 b2 d1 d2 e2 (fun p TG tm' fs' gm' gap' im' fp' doc' a1 a2 a3 a4 => ?_) (fun p tr sgs pss tm' fs' gm' gap' im' fp' doc' a1 a2 a3 => h0 _ _ _ _ _ _ _ _ _ _ _ _ _ _ _ (fun c2 X2 _ z1 z2 => a3 c2 X2 z1 z2) a1 a2 hps) (F.getD 5 0) 0 6 [] tm fs gm gap im fp doc (by omega) (by omega) hlen rfl ⟨b1, b2, d1, d2, by simp, List.Pairwise.nil, (fun q hq => by cases hq), by simp [SLt, PL]⟩ (CA_nil hfs hfp) (fun c2 X2 z1 z2 => ?_)
            · have hby := body_byt c2 a2
              refine s_write a3 a2 c2 hps hby (fun row' gm2 gap2 w1 w2 => ?_)
              refine s_same w1 hb (E_byt c2 a2) hy w2 hn (fun q => ⟨zok1, ?_⟩) (fun q => ⟨zok0, ?_⟩)
              · exact h1 _ _ _ TG _ _ _ _ _ _ _ _ _ _ c2 ⟨a2, by show 1 ≤ TG.length; omega⟩ q.symm a4 a3 (by rw [i_0, I_lt (by omega) (by omega)]; omega)
              · have hz : fs' 0 = I 0 ∧ fp' 0 = I 0 := ⟨by rw [a3.2.1 0 (Nat.zero_le _)]; rfl, by rw [a3.2.2.2.1 0 (Nat.zero_le _)]; rfl⟩
                refine h0 _ _ _ _ _ _ _ _ _ _ _ _ _ _ _ (fun c3 X2 _ z1 z2 => ?_) hz.1 hz.2 (by rw [i_0, I_lt (by omega) (by omega)]; omega)
                obtain ⟨x1, x2⟩ := a4 c3 X2 z1 z2
                rw [x1, x2] at z2
                exact q z2.symm
            · obtain ⟨-, -, -, -, -, -, g1, g2, g3, g4, -, g5⟩ := hc c2 X2 z2
              exact ⟨g2.symm, g1.symm, g3.symm, g4.symm, rfl, by rw [g5, g2]; rfl⟩
          · obtain ⟨-, -, -, -, -, -, g1, g2, g3, g4, -, g5⟩ := hc c3 X2 a2
            have := a1.2
            have := a1.1.2.2.2.2.1
            omega
        · obtain ⟨-, -, -, -, -, -, g1, g2, g3, g4, -, g5⟩ := hc c3 X2 a2
          have := a1.1.2.2.1
          have := a1.1.2.2.2.1
          omega
      · obtain ⟨-, -, -, -, -, -, g1, g2, g3, g4, -, g5⟩ := hc c3 X2 a2
        omega
    · obtain ⟨-, -, -, -, -, -, g1, g2, g3, g4, -, g5⟩ := hc c3 X2 a2
      have := a1.1.1
      have := a1.1.2.1
      omega
  · have no : ∀ c2 X2, c2 ≤ 2 → VX X2 → F = E c2 X2 → False := fun c2 X2 _ _ e => hlen (hc c2 X2 e).2.2.2.2.2.2.2.2.2.2.1
    have w : ∀ p a b, a < 2147483648 → b < 2147483648 → ∀ Ψ : Int32 → Prop, Ψ (I 1) → Ψ (I 0) → P_X5_isWithin (nv F p) (I a) (I b) Ψ := fun p a b ha hb Ψ h1 h0 => s_within hy ha hb (fun _ _ _ => h1) (fun _ => h0)
    have n5 : nv F (np F (np F (np F (np F (np F 0))))) = -1 := by
      have : F.length ≤ np F (np F (np F (np F (np F 0)))) := by
        unfold np
        repeat' split
        all_goals omega
      unfold nv; rw [if_neg (by omega)]
    rw [i_2, i_8, i_0, i_1, i_40, i_64]
    refine w _ _ _ (by omega) (by omega) _ ⟨fun y => absurd y (by decide), fun _ => ?_⟩ ⟨fun _ => bad _ no, fun y => absurd rfl y⟩
    refine w _ _ _ (by omega) (by omega) _ ⟨fun y => absurd y (by decide), fun _ => ?_⟩ ⟨fun _ => bad _ no, fun y => absurd rfl y⟩
    refine w _ _ _ (by omega) (by omega) _ ⟨fun y => absurd y (by decide), fun _ => ?_⟩ ⟨fun _ => bad _ no, fun y => absurd rfl y⟩
    rw [n5]
    unfold P_X5_isWithin
    exact ⟨fun _ => ⟨fun y => absurd rfl y, fun _ => bad _ no⟩, fun z => absurd (by decide) z⟩
