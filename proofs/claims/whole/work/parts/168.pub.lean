
/-! publish -/
theorem ctN3 {num : Nat → Nat} (h : ∀ p, p < 3 → num p ≠ 0) : ctN num 3 = 3 := by
  rw [ctN_succ, ctN_succ, ctN_succ, if_pos (h 0 (by omega)), if_pos (h 1 (by omega)), if_pos (h 2 (by omega))]; rfl
theorem ctK4 {kp : Nat → Bool} (h : ∀ s, s < 4 → kp s = true) : ctK kp 4 = 4 := by
  rw [ctK_succ, ctK_succ, ctK_succ, ctK_succ, if_pos (h 0 (by omega)), if_pos (h 1 (by omega)), if_pos (h 2 (by omega)), if_pos (h 3 (by omega))]; rfl
theorem s_publish {F : List Nat} {lat : Nat} {num : Nat → Nat} {kp : Nat → Bool} {gn : Nat → Nat} {hl : Nat → Option Nat} {hd dr : Nat} {hk : Nat → Nat} {kept : Nat → Option Nat} {number held : Nat → Int32} {row : Nat → Int32} {pl ob od ot osg op gm psz : Int32} {tm : Nat → Int64} {fs gap im fp doc pr : Nat → Int32}
    {Φ : Int32 → Nat → Int32 → Int32 → Int32 → Int32 → Int32 → Int32 → (Nat → Int64) → (Nat → Int32) → Int32 → (Nat → Int32) → (Nat → Int32) → (Nat → Int32) → (Nat → Int32) → Int32 → (Nat → Int32) → Int32 → (Nat → Int32) → (Nat → Option Nat) → Prop} {X : String → Nat → Int32 → Int32 → Int32 → Int32 → Int32 → Int32 → (Nat → Int64) → (Nat → Int32) → Int32 → (Nat → Int32) → (Nat → Int32) → (Nat → Int32) → (Nat → Int32) → Int32 → (Nat → Int32) → Int32 → (Nat → Int32) → (Nat → Option Nat) → Prop}
    (hb : BRow row F) (hy : byt F) (hn : F.length ≤ 6650) (hfs : fs 0 = I 0) (hfp : fp 0 = I 0) (hps : ¬ psz < 0) (hG : GI lat num kp gn hl) (hN : NN num number) (hH : HH hl held) (hkp : ∀ p, p < 3 → kept p = some (hk p)) (hlat : lat < 100000)
    (h0 : (∀ c2 X2, c2 ≤ 2 → VX X2 → F ≠ E c2 X2) → ∀ p' b' d' tr sgs pss tm' fs' gm' gap' im' fp' doc' psz' pr', fs' 0 = I 0 → fp' 0 = I 0 → ¬ psz' < 0 → X eIA hd p' b' d' tr sgs pss tm' fs' gm' gap' im' fp' doc' psz' pr' (I lat) number kept)
    (h2 : ∀ c b N TG, c ≤ 2 → VX (b, N, TG) → F = E c (b, N, TG) → ¬ Rel lat hl → ctN num 3 = 3 → ∀ p' tm' fs' gm' gap' im' fp' doc' psz' pr', CA TG tm' fs' im' fp' doc' → ¬ psz' < 0 → X eIS hd p' (I b) (I N) (I TG.length) (I (SLt TG).length) (I (PL (SLt TG)).length) tm' fs' gm' gap' im' fp' doc' psz' pr' (I lat) number kept)
    (h1 : ∀ c b N TG p, c ≤ 2 → VX (b, N, TG) → F = E c (b, N, TG) → (∀ c2 X2, VX X2 → F = E c2 X2 → c2 = c ∧ X2 = (b, N, TG)) → p < 3 → ((Rel lat hl ∧ num p = lat) ∨ (¬ Rel lat hl ∧ num p = 0)) → ∀ p' tm' fs' gm' gap' im' fp' doc' psz' pr', CA TG tm' fs' im' fp' doc' → ¬ psz' < 0 → Φ (I (lat + 1)) (hk p) p' (I b) (I N) (I TG.length) (I (SLt TG).length) (I (PL (SLt TG)).length) tm' fs' gm' gap' im' fp' doc' psz' pr' (I (lat + 1)) (upd number p (I (lat + 1))) (va_up kept p (some hd))) :
    P_X8_publish hd dr (I F.length) pl row ob od ot osg op tm fs gm gap im fp doc psz pr (I lat) number held kept Φ X := by
  have n10 : ¬ (I 1 = I 0) := by rw [I_eq (by omega) (by omega)]; omega
  obtain ⟨g1, g2, g3, g4, g5, g6, g7, g8, g9⟩ := id hG
  unfold P_X8_publish
  refine s_cread hb hy hn hfs hfp hps (fun c b N TG p' tm' fs' gm' gap' im' fp' doc' psz' pr' c2 hVX hF hu hA hz => ⟨fun _ => ?_, fun z => absurd z n10⟩) (fun p' b' d' tr sgs pss tm' fs' gm' gap' im' fp' doc' psz' pr' hno q1 q2 q3 => ⟨fun z => absurd rfl z, fun _ => h0 hno _ _ _ _ _ _ _ _ _ _ _ _ _ _ _ q1 q2 q3⟩)
  have inst : ∀ p, p < 3 → ((Rel lat hl ∧ num p = lat) ∨ (¬ Rel lat hl ∧ num p = 0)) → ((0 ≤ I p → P_X3_install hd (I lat) kept number (I p) (fun r_18 l19 k20 n21 => Φ l19 r_18 p' (I b) (I N) (I TG.length) (I (SLt TG).length) (I (PL (SLt TG)).length) tm' fs' gm' gap' im' fp' doc' psz' pr' l19 n21 k20)) ∧ (¬ 0 ≤ I p → X eIS hd p' (I b) (I N) (I TG.length) (I (SLt TG).length) (I (PL (SLt TG)).length) tm' fs' gm' gap' im' fp' doc' psz' pr' (I lat) number kept)) := by
    intro p hp hc
    rw [i_0, I_le (by omega) (by omega)]
    refine ⟨fun _ => ?_, fun z => absurd (Nat.zero_le _) z⟩
    unfold P_X3_install
    rw [I_in (by omega), I_cl (by omega), i_1, I_add]
    exact ⟨hp, hk p, hkp p hp, hp, hp, h1 c b N TG p c2 hVX hF hu hp hc _ _ _ _ _ _ _ _ _ _ hA hz⟩
  refine s_place3 hN hH (fun p hp a1 a2 => inst p hp (Or.inl ?_)) (fun hall p hp a1 => inst p hp (Or.inr ⟨fun hR => ?_, a1⟩)) (fun hall => ?_)
  · have e : num p = lat := by
      rcases g1 p hp a1 with q | q
      · exact q
      · exact absurd q a2
    exact ⟨⟨by omega, by rw [← e]; exact a2⟩, e⟩
  · obtain ⟨q, q1, q2⟩ := g6 hR.1
    exact hR.2 (by rw [← q2]; exact hall q q1 (by rw [q2]; exact hR.1))
  · refine ⟨fun z => absurd z (by decide), fun _ => h2 c b N TG c2 hVX hF (fun hR => ?_) (ctN3 (fun p hp => (hall p hp).1)) _ _ _ _ _ _ _ _ _ _ hA hz⟩
    obtain ⟨q, q1, q2⟩ := g6 hR.1
    exact hR.2 (by rw [← q2]; exact (hall q q1).2)
theorem l_free {kp : Nat → Bool} {kept : Nat → Int32} {th la fl dd pl ov : Int32} {file bits codec size words impact letter word gap draft generation holds : Nat → Int32} {K : Int32 → Int32 → Int32 → Int32 → Int32 → (Nat → Int32) → (Nat → Int32) → (Nat → Int32) → (Nat → Int32) → (Nat → Int32) → (Nat → Int32) → (Nat → Int32) → (Nat → Int32) → (Nat → Int32) → (Nat → Int32) → (Nat → Int32) → Int32 → Prop} {Φ : Int32 → Int32 → Int32 → Int32 → Int32 → Int32 → (Nat → Int32) → (Nat → Int32) → (Nat → Int32) → (Nat → Int32) → (Nat → Int32) → (Nat → Int32) → (Nat → Int32) → (Nat → Int32) → (Nat → Int32) → (Nat → Int32) → (Nat → Int32) → Prop}
    (hK : ∀ s, s < 4 → kept s = (if kp s then I 1 else I 0)) (hf : ∃ s, s < 4 ∧ kp s = false)
    (h : ∀ s, s < 4 → kp s = false → K th la dd pl ov bits codec size words impact letter word gap draft kept generation (I s)) :
    ∀ k i, 4 ≤ i + k → i ≤ 4 → (∀ t, t < i → kp t = true) → L_X9_publish_98 (k + 1) th la fl dd pl ov file bits codec size words impact letter word gap draft kept generation holds (I i) K Φ := by
  obtain ⟨s0, s1, s2⟩ := hf
  intro k
  induction k with
  | zero =>
    intro i h1 h2 h3
    have := h3 s0 (by omega)
    rw [s2] at this
    exact absurd this (by decide)
  | succ k ih =>
    intro i h1 h2 h3
    have hi : i < 4 := Classical.byContradiction fun z => by
      have := h3 s0 (by omega)
      rw [s2] at this
      exact absurd this (by decide)
    unfold L_X9_publish_98
    rw [I_in (by omega), I_cl (by omega), i_1, I_add, hK i hi, kk_eq]
    refine ⟨by omega, fun y => h i hi y, fun y => ih (i + 1) (by omega) (by omega) (fun t ht => ?_)⟩
    by_cases e : t = i
    · subst e
      cases hh : kp t with
      | false => exact absurd hh y
      | true => rfl
    · exact h3 t (by omega)
theorem r_publish {F : List Nat} {lat : Nat} {num : Nat → Nat} {kp : Nat → Bool} {gn : Nat → Nat} {hl : Nat → Option Nat} {th dd pl0 ov0 : Int32} {file bits codec size words imp letter word gap draft kept generation holds : Nat → Int32} {Φ : Int32 → Int32 → Int32 → Int32 → Int32 → Int32 → (Nat → Int32) → (Nat → Int32) → (Nat → Int32) → (Nat → Int32) → (Nat → Int32) → (Nat → Int32) → (Nat → Int32) → (Nat → Int32) → (Nat → Int32) → (Nat → Int32) → (Nat → Int32) → Prop}
    (hb : Row file F) (hy : byt F) (hn : F.length ≤ 6650) (hG : GI lat num kp gn hl) (hK : KK kp gn kept generation) (hH : HH hl holds) (hlat : lat < 99999)
    (h0 : (∀ c2 X2, c2 ≤ 2 → VX X2 → F ≠ E c2 X2) → ∀ dd' pl ov bits' codec' size' words' imp' letter' word' gap' draft', (∀ s, s < 4 → SF s bits codec size words letter imp bits' codec' size' words' letter' imp') → Φ (I 0) (I 1) (I lat) dd' pl ov bits' codec' size' words' imp' letter' word' gap' draft' kept generation)
    (h2 : ∀ c b N TG, c ≤ 2 → VX (b, N, TG) → F = E c (b, N, TG) → ¬ Rel lat hl → ctK kp 4 = 3 → ∀ dd' pl ov bits' codec' size' words' imp' letter' word' gap' draft', (∀ s, s < 4 → SF s bits codec size words letter imp bits' codec' size' words' letter' imp') → Φ (I 0) (I 2) (I lat) dd' pl ov bits' codec' size' words' imp' letter' word' gap' draft' kept generation)
    (h1 : ∀ c b N TG kp1 s, c ≤ 2 → VX (b, N, TG) → F = E c (b, N, TG) → (Rel lat hl → ∀ t, t < 4 → (kp1 t = true ↔ kp t = true ∧ gn t ≠ lat)) → (¬ Rel lat hl → ctK kp 4 ≠ 3 ∧ kp1 = kp) → s < 4 → kp1 s = false → ∀ dd' pl ov bits' codec' size' words' imp' letter' word' gap' draft' kept' generation', KK (fun t => if t = s then true else kp1 t) (fun t => if t = s then lat + 1 else gn t) kept' generation' → RX s b c N TG bits' codec' size' words' letter' imp' → (∀ t, t < 4 → t ≠ s → SF t bits codec size words letter imp bits' codec' size' words' letter' imp') → Φ (I (lat + 1)) (I 0) (I (lat + 1)) dd' pl ov bits' codec' size' words' imp' letter' word' gap' draft' kept' generation') :
    P_X9_publish th (I lat) (I F.length) dd pl0 ov0 file bits codec size words imp letter word gap draft kept generation holds Φ := by
  have n10 : ¬ (I 1 = I 0) := by rw [I_eq (by omega) (by omega)]; omega
  have hcount := hG.count
  have hc3 := ctN_le num 3
  obtain ⟨g1, g2, g3, g4, g5, g6, g7, g8, g9⟩ := id hG
  have sf : ∀ {bits' codec' size' words' imp' letter' : Nat → Int32}, FS bits bits' → FS codec codec' → FS size size' → FS words words' → FR letter imp letter' imp' → ∀ s, s < 4 → SF s bits codec size words letter imp bits' codec' size' words' letter' imp' := fun a b c d e s hs => ⟨a s (by omega), b s (by omega), c s (by omega), d s (by omega), fun j hj => e.1 _ (by omega), fun j hj => e.2 _ (by omega)⟩
  unfold P_X9_publish
  refine r_reads hb hy hn (fun c b N TG dd' pl ov bits' codec' size' words' imp' letter' word' gap' draft' c2 hVX hF hRX f1 f2 f3 f4 f5 => ⟨fun _ => ?_, fun z => absurd z n10⟩) (fun dd' pl ov bits' codec' size' words' imp' letter' word' gap' draft' hno f1 f2 f3 f4 f5 => ⟨fun z => absurd rfl z, fun _ => ?_⟩)
  · have hSF := sf f1 f2 f3 f4 f5
    have h64 : TG.length ≤ 64 := hVX.1.2.2.2.2.1
    -- the end: a free slot is taken
    have fin : ∀ kp1 kept1, (∀ s, s < 4 → kept1 s = (if kp1 s then I 1 else I 0)) → (∀ s, s < 4 → kp1 s = true → kp s = true) → (∃ s, s < 4 ∧ kp1 s = false) → (Rel lat hl → ∀ t, t < 4 → (kp1 t = true ↔ kp t = true ∧ gn t ≠ lat)) → (¬ Rel lat hl → ctK kp 4 ≠ 3 ∧ kp1 = kp) →
        ∃ n, L_X9_publish_98 n (I 0) (I lat) (I F.length) dd' pl ov file bits' codec' size' words' imp' letter' word' gap' draft' kept1 generation holds 0 (fun thrown_37 latest_38 drafted_39 place_40 over_41 bits_42 codec_43 size_44 words_45 impact_46 letter_47 word_48 gap_49 draft_50 kept_51 generation_52 l3_53 => P_X9_copies bits_42 codec_43 size_44 words_45 letter_47 impact_46 4 l3_53 (fun bits_54 codec_55 size_56 words_57 letter_58 impact_59 => vp_in l3_53 5 ∧ vp_in l3_53 5 ∧ Φ (latest_38 + 1) thrown_37 (latest_38 + 1) drafted_39 place_40 over_41 bits_54 codec_55 size_56 words_57 impact_59 letter_58 word_48 gap_49 draft_50 (upd kept_51 (l3_53 : Int32).toNatClampNeg (vp_nar .boolean 1)) (upd generation_52 (l3_53 : Int32).toNatClampNeg (latest_38 + 1)))) Φ := by
      intro kp1 kept1 k1 k2 k3 k4 k5
      refine ⟨4 + 1, l_free k1 k3 (fun s hs hz => ?_) 4 0 (by omega) (by omega) (fun t ht => by omega)⟩
      show P_X9_copies _ _ _ _ _ _ _ _ _
      rw [i_4]
      refine r_copies hs (fun letter2 imp2 e1 e2 e3 e4 => ?_)
      rw [I_in (by omega), I_cl (by omega), i_1, I_add]
      refine ⟨by omega, by omega, h1 c b N TG kp1 s c2 hVX hF k4 k5 hs hz _ _ _ _ _ _ _ _ _ _ _ _ _ _ (fun t ht => ?_) (hRX.move h64 (by unfold upd; rw [if_pos rfl]) (by unfold upd; rw [if_pos rfl]) (by unfold upd; rw [if_pos rfl]) (by unfold upd; rw [if_pos rfl]) e1 e3) (fun t ht hts => ?_)⟩
      · unfold upd
        by_cases e : t = s
        · subst e
          simp only [if_true]
          exact ⟨by first | trivial | rfl, fun _ => ⟨by first | trivial | rfl, by omega⟩⟩
        · simp only [if_neg e]
          exact ⟨k1 t ht, fun hh => (hK t ht).2 (k2 t ht hh)⟩
      · obtain ⟨x1, x2, x3, x4, x5, x6⟩ := hSF t ht
        refine ⟨?_, ?_, ?_, ?_, fun j hj => ?_, fun j hj => ?_⟩
        · unfold upd; rw [if_neg hts]; exact x1
        · unfold upd; rw [if_neg hts]; exact x2
        · unfold upd; rw [if_neg hts]; exact x3
        · unfold upd; rw [if_neg hts]; exact x4
        · rw [e2 _ (by omega)]; exact x5 j hj
        · rw [e4 _ (by omega)]; exact x6 j hj
    have norel : ¬ Rel lat hl → ∀ l1, J_X9_publish_50 (I 0) (I lat) (I F.length) dd' pl ov file bits' codec' size' words' imp' letter' word' gap' draft' kept generation holds l1 Φ := by
      intro hR l1
      unfold J_X9_publish_50 J_X9_publish_51
      refine r_keptMany hK ⟨fun _ => ?_, fun z => absurd rfl z⟩
      unfold J_X9_publish_66
      rw [i_0, I_sub (by omega), i_3, I_eq (by omega) (by omega), Nat.sub_zero]
      refine ⟨fun z => ?_, fun z => ?_⟩
      · unfold J_X9_publish_76
        refine r_fails0 ⟨fun _ => ⟨fun _ => ?_, fun y => absurd rfl y⟩, fun y => absurd rfl y⟩
        refine fin kp kept (fun s hs => (hK s hs).1) (fun s _ q => q) (Classical.byContradiction fun hn => ?_) (fun q => absurd q hR) (fun _ => ⟨z, rfl⟩)
        have := ctK4 (kp := kp) (fun s hs => by
          cases hh : kp s with
          | true => rfl
          | false => exact absurd ⟨s, hs, hh⟩ hn)
        omega
      · unfold J_X9_publish_76
        rw [i_1, i_2]
        exact r_fails1 ⟨fun y => absurd y n10, fun _ => h2 c b N TG c2 hVX hF hR z _ _ _ _ _ _ _ _ _ _ _ _ hSF⟩
    unfold J_X9_publish_13
    rw [i_0]
    refine r_fails0 ⟨fun _ => ?_, fun z => absurd rfl z⟩
    refine r_slotOf hK (by omega) (fun s hs hk hg => ?_) (fun hno => ⟨fun _ => norel ?_ _, fun z => absurd (by decide) z⟩)
    · rw [I_lt (by omega) (by omega)]
      refine ⟨fun z => absurd z (Nat.not_lt_zero _), fun _ => ?_⟩
      refine r_isHeld hH (by omega) (fun hh => ⟨fun _ => norel (fun hR => hR.2 hh) _, fun z => absurd z n10⟩) (fun hh => ⟨fun z => absurd rfl z, fun _ => ?_⟩)
      have hR : Rel lat hl := ⟨by rw [← hg]; exact (g3 s hs hk).1, fun ⟨r, r1, r2⟩ => hh r r1 r2⟩
      unfold J_X9_publish_51
      refine r_keptMany hK ⟨fun z => absurd z (by decide), fun _ => ?_⟩
      have hpos : 1 ≤ ctK kp 4 := by
        unfold ctK
        exact List.length_pos_of_mem (List.mem_filter.mpr ⟨List.mem_range.mpr hs, hk⟩)
      unfold J_X9_publish_66
      rw [i_1, I_sub hpos, i_3, I_eq (by omega) (by omega)]
      refine ⟨fun z => ?_, fun z => by omega⟩
      unfold J_X9_publish_76
      rw [i_0]
      refine r_fails0 ⟨fun _ => ⟨fun y => absurd y n10, fun _ => ?_⟩, fun y => absurd rfl y⟩
      rw [I_in (by omega), I_cl (by omega)]
      refine ⟨by omega, fin (fun t => kp t && decide (gn t ≠ lat)) _ (fun t ht => ?_) (fun t ht q => ?_) ⟨s, hs, ?_⟩ (fun _ t ht => ?_) (fun q => absurd hR q)⟩
      · unfold upd
        by_cases e : t = s
        · subst e
          rw [if_pos rfl]
          have : (kp t && decide (gn t ≠ lat)) = false := by simp [hg]
          rw [this]; rfl
        · rw [if_neg e, (hK t ht).1]
          have : (kp t && decide (gn t ≠ lat)) = kp t := by
            cases hh : kp t with
            | false => rfl
            | true =>
              have : gn t ≠ lat := fun q => e (g5 t ht s hs hh hk (by rw [q, hg]))
              simp [this]
          rw [this]
      · rw [Bool.and_eq_true] at q; exact q.1
      · simp [hg]
      · rw [Bool.and_eq_true, decide_eq_true_eq]
    · intro hR
      obtain ⟨p, p1, p2⟩ := g6 hR.1
      obtain ⟨s, s1, s2, s3⟩ := g4 p p1 (by rw [p2]; exact hR.1)
      exact hno s s1 s2 (by rw [s3, p2])
  · unfold J_X9_publish_13
    rw [i_1]
    exact r_fails1 ⟨fun z => absurd z n10, fun _ => h0 hno _ _ _ _ _ _ _ _ _ _ _ _ (sf f1 f2 f3 f4 f5)⟩
