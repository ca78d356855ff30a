
/-! a reader lets go -/
theorem hv_ge0 {o : Option Nat} (ho : ∀ h, o = some h → h < 100000) : (0 ≤ hv o) = (o ≠ none) := by
  apply propext
  cases o with
  | none => exact ⟨fun e => absurd e (by decide), fun e => absurd rfl e⟩
  | some h =>
    have := ho h rfl
    show 0 ≤ I h ↔ _
    rw [i_0, I_le (by omega) (by omega)]
    exact ⟨fun _ e => by simp at e, fun _ => by omega⟩
theorem s_close {lat : Nat} {num : Nat → Nat} {hl : Nat → Option Nat} {number held : Nat → Int32} {l1 : Int32} {Φ : Int32 → (Nat → Int32) → (Nat → Int32) → Prop} {X : String → (Nat → Int32) → (Nat → Int32) → Prop} (hN : NN num number) (hH : HH hl held) (hlat : lat < 100000)
    (hA : (∀ r, r < 4 → l1 ≠ I r) → X eIA held number) (h0 : ∀ r, r < 4 → l1 = I r → hl r = none → Φ (I 0) held number)
    (hk : ∀ r g held' number', r < 4 → l1 = I r → hl r = some g → (g = 0 ∨ g = lat ∨ isH (hset hl r none) g) → HH (hset hl r none) held' → NN num number' → Φ (I 1) held' number')
    (hd : ∀ r g held' number', r < 4 → l1 = I r → hl r = some g → g ≠ 0 → g ≠ lat → ¬ isH (hset hl r none) g → HH (hset hl r none) held' → NN (fun p => if num p = g then 0 else num p) number' → Φ (I 1) held' number') : P_X8_close (I lat) held number l1 Φ X := by
  have n10 : ¬ (I 1 = I 0) := by rw [I_eq (by omega) (by omega)]; omega
  unfold P_X8_close
  refine s_requireReader hA (fun r hr e => ?_)
  subst e
  obtain ⟨e1, e2⟩ := hH r hr
  unfold P_X3_release
  rw [I_in (by omega), I_cl (by omega), e1, hv_m1 e2]
  refine ⟨hr, fun z => ⟨hr, ?_⟩, fun z => ⟨zok0, h0 r hr rfl z⟩⟩
  obtain ⟨g, hg⟩ : ∃ g, hl r = some g := by
    cases q : hl r with
    | none => exact absurd q z
    | some g => exact ⟨g, rfl⟩
  have hgl := e2 g hg
  have eg : hv (hl r) = I g := by rw [hg]; rfl
  have hH' : HH (hset hl r none) (upd held r (-1)) := hH.set (fun _ q => by simp at q)
  rw [eg, I_eq (by omega) (by omega)]
  refine ⟨fun y => ⟨zok1, hk r g _ _ hr rfl hg (Or.inr (Or.inl y)) hH' hN⟩, fun y => ?_⟩
  refine s_isHeld hH' (by omega) (fun hh => ⟨fun _ => ⟨zok1, hk r g _ _ hr rfl hg (Or.inr (Or.inr hh)) hH' hN⟩, fun x => absurd x n10⟩) (fun hh => ⟨fun x => absurd rfl x, fun _ => ?_⟩)
  refine s_forget hN (by omega) (fun number' hN' => ⟨zok1, ?_⟩)
  by_cases w : g = 0
  · refine hk r g _ _ hr rfl hg (Or.inl w) hH' (fun p hp => ?_)
    have := hN' p hp
    have e3 : (if num p = g then 0 else num p) = num p := by
      by_cases q : num p = g
      · rw [if_pos q]; omega
      · rw [if_neg q]
    simp only [e3] at this; exact this
  · exact hd r g _ _ hr rfl hg w y (fun ⟨q, q1, q2⟩ => hh q q1 q2) hH' hN'
theorem r_close {lat : Nat} {num : Nat → Nat} {kp : Nat → Bool} {gn : Nat → Nat} {hl : Nat → Option Nat} {holds kept generation : Nat → Int32} {th l1 : Int32} {Φ : Int32 → Int32 → (Nat → Int32) → (Nat → Int32) → Prop} (hG : GI lat num kp gn hl) (hK : KK kp gn kept generation) (hH : HH hl holds) (hlat : lat < 100000)
    (hA : (∀ r, r < 4 → l1 ≠ I r) → Φ (I 0) (I 1) holds kept) (h0 : ∀ r, r < 4 → l1 = I r → hl r = none → Φ (I 0) (I 0) holds kept)
    (hk : ∀ r g holds', r < 4 → l1 = I r → hl r = some g → (g = 0 ∨ g = lat ∨ isH (hset hl r none) g) → HH (hset hl r none) holds' → Φ (I 1) (I 0) holds' kept)
    (hd : ∀ r g holds' kept', r < 4 → l1 = I r → hl r = some g → g ≠ 0 → g ≠ lat → ¬ isH (hset hl r none) g → HH (hset hl r none) holds' → KK (fun t => kp t && decide (gn t ≠ g)) gn kept' generation → Φ (I 1) (I 0) holds' kept') : P_X9_close th (I lat) holds kept generation l1 Φ := by
  have n10 : ¬ (I 1 = I 0) := by rw [I_eq (by omega) (by omega)]; omega
  obtain ⟨g1, g2, g3, g4, g5, g6, g7, g8, g9⟩ := id hG
  unfold P_X9_close
  refine r_noReader (fun hn => ?_) (fun r hr e => ?_)
  · rw [i_1]
    exact r_fails1 ⟨fun _ => hA hn, fun z => absurd z n10⟩
  · refine r_fails0 ⟨fun z => absurd rfl z, fun _ => ?_⟩
    subst e
    obtain ⟨e1, e2⟩ := hH r hr
    rw [I_in (by omega), I_cl (by omega), e1, hv_ge0 e2]
    refine ⟨hr, fun z => ⟨hr, hr, ?_⟩, fun z => h0 r hr rfl (Classical.byContradiction fun q => z q)⟩
    obtain ⟨g, hg⟩ : ∃ g, hl r = some g := by
      cases q : hl r with
      | none => exact absurd q z
      | some g => exact ⟨g, rfl⟩
    have hgl := e2 g hg
    have eg : hv (hl r) = I g := by rw [hg]; rfl
    have hH' : HH (hset hl r none) (upd holds r (-1)) := hH.set (fun _ q => by simp at q)
    rw [eg, I_eq (by omega) (by omega)]
    refine r_slotOf hK (by omega) (fun s hs hks hgs => ?_) (fun hno => ⟨fun _ => ?_, fun z => absurd (by decide) z⟩)
    · rw [i_0, I_lt (by omega) (by omega)]
      refine ⟨fun z => absurd z (Nat.not_lt_zero _), fun _ => ⟨fun y => hk r g _ hr rfl hg (Or.inr (Or.inl y)) hH', fun y => ?_⟩⟩
      refine r_isHeld hH' (by omega) (fun hh => ⟨fun _ => hk r g _ hr rfl hg (Or.inr (Or.inr hh)) hH', fun x => absurd x n10⟩) (fun hh => ⟨fun x => absurd rfl x, fun _ => ?_⟩)
      rw [I_in (by omega), I_cl (by omega)]
      refine ⟨by omega, hd r g _ _ hr rfl hg (by rw [← hgs]; exact (g3 s hs hks).1) y (fun ⟨q, q1, q2⟩ => hh q q1 q2) hH' (fun t ht => ?_)⟩
      unfold upd
      by_cases e : t = s
      · subst e
        rw [if_pos rfl]
        have : (kp t && decide (gn t ≠ g)) = false := by simp [hgs]
        simp only [this]
        exact ⟨rfl, fun q => absurd q (by decide)⟩
      · rw [if_neg e]
        have : (kp t && decide (gn t ≠ g)) = kp t := by
          cases hh2 : kp t with
          | false => rfl
          | true =>
            have : gn t ≠ g := fun q => e (g5 t ht s hs hh2 hks (by rw [q, hgs]))
            simp [this]
        simp only [this]
        exact hK t ht
    · refine hk r g _ hr rfl hg (Or.inl (Classical.byContradiction fun q => ?_)) hH'
      obtain ⟨p, p1, p2⟩ := g7 g ⟨r, hr, hg⟩ q
      obtain ⟨s, s1, s2, s3⟩ := g4 p p1 (by rw [p2]; exact q)
      exact hno s s1 s2 (by rw [s3, p2])
theorem s_holds {hl : Nat → Option Nat} {held : Nat → Int32} {l1 : Int32} {Φ : Int32 → Prop} {X : String → Prop} (hH : HH hl held) (hA : (∀ r, r < 4 → l1 ≠ I r) → X eIA) (h : ∀ r, r < 4 → l1 = I r → Φ (hv (hl r))) : P_X8_holds held l1 Φ X := by
  unfold P_X8_holds
  refine s_requireReader hA (fun r hr e => ?_)
  subst e
  rw [I_in (by omega), I_cl (by omega), (hH r hr).1]
  exact ⟨hr, h r hr rfl⟩
theorem r_holds {hl : Nat → Option Nat} {holds : Nat → Int32} {th l1 : Int32} {Φ : Int32 → Int32 → Prop} (hH : HH hl holds) (hA : (∀ r, r < 4 → l1 ≠ I r) → Φ (I 0) (I 1)) (h : ∀ r, r < 4 → l1 = I r → Φ (hv (hl r)) (I 0)) : P_X9_holds th holds l1 Φ := by
  have n10 : ¬ (I 1 = I 0) := by rw [I_eq (by omega) (by omega)]; omega
  unfold P_X9_holds
  refine r_noReader (fun hn => ?_) (fun r hr e => ?_)
  · rw [i_1]
    exact r_fails1 ⟨fun z => absurd z n10, fun _ => hA hn⟩
  · refine r_fails0 ⟨fun _ => ?_, fun z => absurd rfl z⟩
    subst e
    rw [I_in (by omega), I_cl (by omega), (hH r hr).1]
    exact ⟨hr, h r hr rfl⟩
theorem s_look {F : List Nat} {lat tp : Nat} {num : Nat → Nat} {number : Nat → Int32} {row : Nat → Int32} {pl ob od ot osg op gm psz l1 : Int32} {tm : Nat → Int64} {fs gap im fp doc pr : Nat → Int32}
    {Φ : Int32 → Int32 → Int32 → Int32 → Int32 → Int32 → Int32 → (Nat → Int64) → (Nat → Int32) → Int32 → (Nat → Int32) → (Nat → Int32) → (Nat → Int32) → (Nat → Int32) → Int32 → (Nat → Int32) → Prop} {X : String → Int32 → Int32 → Int32 → Int32 → Int32 → Int32 → (Nat → Int64) → (Nat → Int32) → Int32 → (Nat → Int32) → (Nat → Int32) → (Nat → Int32) → (Nat → Int32) → Int32 → (Nat → Int32) → Prop}
    (hb : BRow row F) (hy : byt F) (hn : F.length ≤ 6650) (hfs : fs 0 = I 0) (hfp : fp 0 = I 0) (hps : ¬ psz < 0) (hN : NN num number)
    (h0 : l1 = I 0 → Φ (I lat) pl ob od ot osg op tm fs gm gap im fp doc psz pr) (h1 : l1 = I 1 → Φ (I (ctN num 3)) pl ob od ot osg op tm fs gm gap im fp doc psz pr) (h2 : l1 = I 2 → Φ (I F.length) pl ob od ot osg op tm fs gm gap im fp doc psz pr)
    (h30 : l1 = I 3 → (∀ c2 X2, c2 ≤ 2 → VX X2 → F ≠ E c2 X2) → ∀ pl ob od ot osg op tm fs gm gap im fp doc psz pr, fs 0 = I 0 → fp 0 = I 0 → ¬ psz < 0 → Φ (I 0) pl ob od ot osg op tm fs gm gap im fp doc psz pr)
    (h31 : l1 = I 3 → (∃ c2 X2, c2 ≤ 2 ∧ VX X2 ∧ F = E c2 X2) → ∀ pl ob od ot osg op tm fs gm gap im fp doc psz pr, fs 0 = I 0 → fp 0 = I 0 → ¬ psz < 0 → Φ (I 1) pl ob od ot osg op tm fs gm gap im fp doc psz pr)
    (h4 : l1 = I 4 → Φ (I tp) pl ob od ot osg op tm fs gm gap im fp doc psz pr) (hX : (∀ n, n ≤ 4 → l1 ≠ I n) → X eNS pl ob od ot osg op tm fs gm gap im fp doc psz pr) :
    P_X8_look (I tp) (I F.length) pl row ob od ot osg op tm fs gm gap im fp doc psz pr (I lat) number l1 Φ X := by
  have n10 : ¬ (I 1 = I 0) := by rw [I_eq (by omega) (by omega)]; omega
  unfold P_X8_look P_X0_size
  rw [i_0, i_1, i_2, i_3, i_4]
  refine ⟨h0, fun e => s_howMany hN (h1 e), h2, fun e => ?_, h4, fun a0 a1 a2 a3 a4 => hX (fun n hn e => ?_)⟩
  · refine s_cread hb hy hn hfs hfp hps (fun c b N TG p' tm' fs' gm' gap' im' fp' doc' psz' pr' c2 hVX hF hu hA hz => ⟨fun z => absurd z n10, fun _ => ?_⟩) (fun p' b' d' tr sgs pss tm' fs' gm' gap' im' fp' doc' psz' pr' hno q1 q2 q3 => ⟨fun _ => h30 e hno _ _ _ _ _ _ _ _ _ _ _ _ _ _ _ q1 q2 q3, fun z => absurd rfl z⟩)
    exact h31 e ⟨c, _, c2, hVX, hF⟩ _ _ _ _ _ _ _ _ _ _ _ _ _ _ _ (hA.2.1 0 (Nat.zero_le _)) (hA.2.2.2.1 0 (Nat.zero_le _)) hz
  · have : n = 0 ∨ n = 1 ∨ n = 2 ∨ n = 3 ∨ n = 4 := by omega
    rcases this with q | q | q | q | q <;> subst q
    · exact a0 e
    · exact a1 e
    · exact a2 e
    · exact a3 e
    · exact a4 e
theorem r_look {F : List Nat} {lat tp : Nat} {kp : Nat → Bool} {gn : Nat → Nat} {th dd pl0 ov0 l1 : Int32} {file bits codec size words imp letter word gap draft kept generation : Nat → Int32} {Φ : Int32 → Int32 → Int32 → Int32 → Int32 → (Nat → Int32) → (Nat → Int32) → (Nat → Int32) → (Nat → Int32) → (Nat → Int32) → (Nat → Int32) → (Nat → Int32) → (Nat → Int32) → (Nat → Int32) → Prop}
    (hb : Row file F) (hy : byt F) (hn : F.length ≤ 6650) (hK : KK kp gn kept generation)
    (h0 : l1 = I 0 → Φ (I lat) (I 0) dd pl0 ov0 bits codec size words imp letter word gap draft) (h1 : l1 = I 1 → Φ (I (ctK kp 4)) (I 0) dd pl0 ov0 bits codec size words imp letter word gap draft) (h2 : l1 = I 2 → Φ (I F.length) (I 0) dd pl0 ov0 bits codec size words imp letter word gap draft)
    (h30 : l1 = I 3 → (∀ c2 X2, c2 ≤ 2 → VX X2 → F ≠ E c2 X2) → ∀ dd pl ov bits' codec' size' words' imp' letter' word gap draft, (∀ s, s < 4 → SF s bits codec size words letter imp bits' codec' size' words' letter' imp') → Φ (I 0) (I 0) dd pl ov bits' codec' size' words' imp' letter' word gap draft)
    (h31 : l1 = I 3 → (∃ c2 X2, c2 ≤ 2 ∧ VX X2 ∧ F = E c2 X2) → ∀ dd pl ov bits' codec' size' words' imp' letter' word gap draft, (∀ s, s < 4 → SF s bits codec size words letter imp bits' codec' size' words' letter' imp') → Φ (I 1) (I 0) dd pl ov bits' codec' size' words' imp' letter' word gap draft)
    (h4 : l1 = I 4 → Φ (I tp) (I 0) dd pl0 ov0 bits codec size words imp letter word gap draft) (hX : (∀ n, n ≤ 4 → l1 ≠ I n) → Φ (I 0) (I 1) dd pl0 ov0 bits codec size words imp letter word gap draft) :
    P_X9_look th (I tp) (I lat) (I F.length) dd pl0 ov0 file bits codec size words imp letter word gap draft kept l1 Φ := by
  have n10 : ¬ (I 1 = I 0) := by rw [I_eq (by omega) (by omega)]; omega
  have sf : ∀ {bits' codec' size' words' imp' letter' : Nat → Int32}, FS bits bits' → FS codec codec' → FS size size' → FS words words' → FR letter imp letter' imp' → ∀ s, s < 4 → SF s bits codec size words letter imp bits' codec' size' words' letter' imp' := fun a b c d e s hs => ⟨a s (by omega), b s (by omega), c s (by omega), d s (by omega), fun j hj => e.1 _ (by omega), fun j hj => e.2 _ (by omega)⟩
  unfold P_X9_look
  rw [show (0 : Int64) = J 0 from rfl, show (4 : Int64) = J 4 from rfl]
  refine r_withinS (by omega) (by omega) (fun n _ n4 e => ⟨fun _ => ?_, fun z => absurd z n10⟩) (fun hno => ⟨fun z => absurd rfl z, fun _ => ?_⟩)
  · unfold J_X9_look_18
    rw [i_0]
    refine r_fails0 ⟨fun _ => ?_, fun z => absurd rfl z⟩
    rw [i_1, i_2, i_3]
    refine ⟨h0, fun e => r_keptMany hK (h1 e), h2, fun e => ?_, fun a0 a1 a2 a3 => h4 ?_⟩
    · exact r_reads hb hy hn (fun c b N TG dd' pl ov bits' codec' size' words' imp' letter' word' gap' draft' c2 hVX hF hRX f1 f2 f3 f4 f5 => ⟨fun z => absurd z n10, fun _ => h31 e ⟨c, _, c2, hVX, hF⟩ _ _ _ _ _ _ _ _ _ _ _ _ (sf f1 f2 f3 f4 f5)⟩) (fun dd' pl ov bits' codec' size' words' imp' letter' word' gap' draft' hno f1 f2 f3 f4 f5 => ⟨fun _ => h30 e hno _ _ _ _ _ _ _ _ _ _ _ _ (sf f1 f2 f3 f4 f5), fun z => absurd rfl z⟩)
    · have : n = 0 ∨ n = 1 ∨ n = 2 ∨ n = 3 ∨ n = 4 := by omega
      rcases this with q | q | q | q | q <;> subst q
      · exact absurd e a0
      · exact absurd e a1
      · exact absurd e a2
      · exact absurd e a3
      · exact e
  · unfold J_X9_look_18
    rw [i_1]
    exact r_fails1 ⟨fun z => absurd z n10, fun _ => hX (fun n hn => hno n (by omega) hn)⟩
