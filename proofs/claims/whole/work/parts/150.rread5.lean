
/-! the reference reads a file -/
def FS (bits0 bits : Nat → Int32) : Prop := ∀ j, j ≠ 4 → bits j = bits0 j
theorem l_rzero {l0 i0 : Nat → Int32} {fl dd pl ov : Int32} {file bits codec size words letter word gap draft : Nat → Int32} {K : Int32 → Int32 → Int32 → (Nat → Int32) → (Nat → Int32) → (Nat → Int32) → (Nat → Int32) → (Nat → Int32) → (Nat → Int32) → (Nat → Int32) → (Nat → Int32) → (Nat → Int32) → Int32 → Prop} {Φ : Int32 → Int32 → Int32 → Int32 → (Nat → Int32) → (Nat → Int32) → (Nat → Int32) → (Nat → Int32) → (Nat → Int32) → (Nat → Int32) → (Nat → Int32) → (Nat → Int32) → (Nat → Int32) → Prop}
    (hK : ∀ imp, (∀ j, j < 2560 → imp (10240 + j) = I 0) → FR l0 i0 letter imp → K dd pl ov bits codec size words imp letter word gap draft (I 4)) :
    ∀ k i imp, 2560 ≤ i + k → i ≤ 2560 → (∀ j, j < i → imp (10240 + j) = I 0) → FR l0 i0 letter imp → L_X9_reads_136 (k + 1) fl dd pl ov file bits codec size words imp letter word gap draft (I 4) (I i) K Φ := by
  intro k
  induction k with
  | zero =>
    intro i imp h1 h2 h3 h4
    unfold L_X9_reads_136
    rw [i_2560, I_le (by omega) (by omega)]
    exact ⟨fun _ => hK imp (fun j hj => h3 j (by omega)) h4, fun z => by omega⟩
  | succ k ih =>
    intro i imp h1 h2 h3 h4
    unfold L_X9_reads_136
    rw [i_2560, I_le (by omega) (by omega), I_mul, I_add, I_in (by omega), I_cl (by omega), i_1, I_add]
    refine ⟨fun _ => hK imp (fun j hj => h3 j (by omega)) h4, fun z => ⟨by omega, ih (i + 1) _ (by omega) (by omega) (fun j hj => ?_) (h4.set (by omega) _)⟩⟩
    by_cases e : j = i
    · subst e; rw [show 10240 + j = 2560 * 4 + j by omega, upd_eq]; rfl
    · rw [upd_ne (by omega)]; exact h3 j (by omega)
def VT' (b N : Nat) (TG : List (Nat × List Sg)) : Prop := TG.length ≤ 64 ∧ srt (TG.map (fun q => q.1)) ∧ ∀ q ∈ TG, okw q.1 ∧ q.2 ≠ [] ∧ VS b N q.2
theorem VT'.sum {b N : Nat} {TG : List (Nat × List Sg)} (h : VT' b N TG) (hN : N ≤ 40) : (PL (SLt TG)).length ≤ 40 * TG.length := by
  have : ∀ l : List (Nat × List Sg), (∀ q ∈ l, (PL q.2).length ≤ 40) → (PL (SLt l)).length ≤ 40 * l.length := by
    intro l
    induction l with
    | nil => intro _; simp [SLt, PL]
    | cons q l ih =>
      intro hq
      have h1 := hq q List.mem_cons_self
      have h2 := ih (fun x hx => hq x (List.mem_cons_of_mem _ hx))
      unfold SLt at h2 ⊢
      rw [List.flatMap_cons, PL_app, List.length_append, List.length_cons]; omega
  exact this TG (fun q hq => Nat.le_trans (h.2.2 q hq).2.2.docs hN)
theorem l_rterms {l0 i0 : Nat → Int32} {F : List Nat} {file : Nat → Int32} {c b N n : Nat} {dd : Int32} {bits codec size words draft : Nat → Int32} {K : Int32 → Int32 → Int32 → (Nat → Int32) → (Nat → Int32) → (Nat → Int32) → (Nat → Int32) → (Nat → Int32) → (Nat → Int32) → (Nat → Int32) → (Nat → Int32) → (Nat → Int32) → Int32 → Int32 → Prop} {Φ : Int32 → Int32 → Int32 → Int32 → (Nat → Int32) → (Nat → Int32) → (Nat → Int32) → (Nat → Int32) → (Nat → Int32) → (Nat → Int32) → (Nat → Int32) → (Nat → Int32) → (Nat → Int32) → Prop}
    (hb : Row file F) (hy : byt F) (hn : F.length ≤ 6650) (hc2 : c ≤ 2) (hb8 : b ≤ 8) (hN : N ≤ 40) (hn64 : n ≤ 64) (hbi : bits 4 = I b) (hco : codec 4 = I c) (hsz : size 4 = I N) (hwo : words 4 = I n)
    (hK : ∀ p TG imp letter word gap, TG.length = n → VT' b N TG → RI letter imp TG (fun _ => 0) → FR l0 i0 letter imp → (∀ c2 X2, VX X2 → F = E c2 X2 → c2 = c ∧ X2 = (b, N, TG)) → K dd (I p) (I 0) bits codec size words imp letter word gap draft (I 4) (I (PL (SLt TG)).length))
    (hΦ : ∀ pl ov imp letter word gap, FR l0 i0 letter imp → (∀ c2 X2, VX X2 → F ≠ E c2 X2) → Φ (I 0) dd pl ov bits codec size words imp letter word gap draft) :
    ∀ k t p TG imp letter word gap, n ≤ t + k → t ≤ n → p ≤ F.length → TG.length = t → VT' b N TG → RI letter imp TG (fun _ => 0) → FR l0 i0 letter imp → (∀ c2 X2, VX X2 → F = E c2 X2 → c2 = c ∧ X2.1 = b ∧ X2.2.1 = N ∧ X2.2.2.length = n ∧ X2.2.2.take t = TG ∧ F.drop p = (X2.2.2.drop t).flatMap (encT c) ++ sum4 (body c2 X2)) →
      L_X9_reads_166 (k + 1) (I F.length) dd (I p) (I 0) file bits codec size words imp letter word gap draft (I 4) (I (PL (SLt TG)).length) (I t) K Φ := by
  have hcl4 : (I 4).toNatClampNeg = 4 := I_cl (by omega)
  have hin4 : vp_in (I 4) 5 := by rw [I_in (by omega)]; omega
  have fin : ∀ t p TG imp letter word gap, n ≤ t → t ≤ n → TG.length = t → VT' b N TG → RI letter imp TG (fun _ => 0) → FR l0 i0 letter imp → (∀ c2 X2, VX X2 → F = E c2 X2 → c2 = c ∧ X2.1 = b ∧ X2.2.1 = N ∧ X2.2.2.length = n ∧ X2.2.2.take t = TG ∧ F.drop p = (X2.2.2.drop t).flatMap (encT c) ++ sum4 (body c2 X2)) → K dd (I p) (I 0) bits codec size words imp letter word gap draft (I 4) (I (PL (SLt TG)).length) := by
    intro t p TG imp letter word gap h1 h2 h3 h4 h5 hFR h6
    refine hK p TG imp letter word gap (by omega) h4 h5 hFR (fun c2 X2 a1 a2 => ?_)
    obtain ⟨b1, b2, b3, b4, b5, b6⟩ := h6 c2 X2 a1 a2
    rw [List.take_of_length_le (by omega)] at b5
    exact ⟨b1, by rw [← b2, ← b3, ← b5]⟩
  intro k
  induction k with
  | zero =>
    intro t p TG imp letter word gap h1 h2 h3 h4 h5 h6 hFR h7
    unfold L_X9_reads_166
    rw [hcl4, hwo, I_le (by omega) (by omega)]
    exact ⟨hin4, fun _ => fin t p TG imp letter word gap (by omega) h2 h4 h5 h6 hFR h7, fun z => by omega⟩
  | succ k ih =>
    intro t p TG imp letter word gap h1 h2 h3 h4 h5 h6 hFR h7
    unfold L_X9_reads_166
    rw [hcl4, hwo, I_le (by omega) (by omega)]
    refine ⟨hin4, fun z => fin t p TG imp letter word gap (by omega) h2 h4 h5 h6 hFR h7, fun z => ?_⟩
    have hsum := h5.sum hN
    have hc : ∀ c2 X2, VX X2 → F = E c2 X2 → ∃ q, X2.2.2[t]? = some q ∧ c2 = c ∧ X2.1 = b ∧ X2.2.1 = N ∧ X2.2.2.length = n ∧ X2.2.2.take (t + 1) = TG ++ [q] ∧ CQ F p c b N TG q ((X2.2.2.drop (t + 1)).flatMap (encT c) ++ sum4 (body c2 X2)) := fun c2 X2 a1 a2 => by
      obtain ⟨b1, b2, b3, b4, b5, b6⟩ := h7 c2 X2 a1 a2
      have hlt : t < X2.2.2.length := by omega
      obtain ⟨q, hq⟩ : ∃ q, X2.2.2[t]? = some q := ⟨_, List.getElem?_eq_getElem hlt⟩
      have hqm : q ∈ X2.2.2 := List.mem_of_getElem? hq
      have hv := a1.1
      rw [b2, b3] at hv
      obtain ⟨o1, o2, o3⟩ := hv.2.2.2.2.2.2.1 q hqm
      have hsp := split_at hq
      rw [b5] at hsp
      refine ⟨q, hq, b1, b2, b3, b4, by rw [List.take_succ, hq, b5]; rfl, o1, o2, o3, fun v hv2 => ?_, ?_, ?_⟩
      · have hs := hv.2.2.2.2.2.1
        rw [hsp, List.map_append, List.map_cons] at hs
        exact (List.pairwise_append.mp hs).2.2 v hv2 q.1 List.mem_cons_self
      · have hl := hv.2.2.2.2.2.2.2
        rw [hsp] at hl
        unfold SLt at hl ⊢
        rw [List.flatMap_append, List.flatMap_cons, PL_app, PL_app, List.length_append, List.length_append] at hl
        omega
      · rw [b6]
        have hd : X2.2.2.drop t = q :: X2.2.2.drop (t + 1) := by
          rw [List.drop_eq_getElem_cons hlt]
          rw [List.getElem?_eq_getElem hlt] at hq
          cases hq; rfl
        rw [hd, List.flatMap_cons, List.append_assoc]
    rw [← h4]
    refine r_rdterm hb hy hn hc2 hb8 hN (by omega) h5.2.1 (fun q hq => (h5.2.2 q hq).1) hbi hco hsz h6 hFR h3 (fun q p' letter' word' gap' imp' a1 a2 a3 a4 a5 a6 aFR a7 => ⟨fun _ => ?_, fun y => ?_⟩) (fun pl ov letter' word' gap' imp' aFR a1 => ⟨fun y => absurd y (by decide), fun _ => hΦ _ _ _ _ _ _ aFR (fun c2 X2 b1 b2 => ?_)⟩)
    · have eP : (PL (SLt TG)).length + (PL q.2).length = (PL (SLt (TG ++ [q]))).length := by rw [SLt_app, PL_app, List.length_append]
      have eL : TG.length + 1 = (TG ++ [q]).length := by simp
      rw [I_add, eP, i_1, I_add, h4]
      refine ih (t + 1) p' (TG ++ [q]) imp' letter' word' gap' (by omega) (by omega) a1 (by simp [h4]) ⟨by simp; omega, ?_, fun x hx => ?_⟩ a6 aFR (fun c2 X2 b1 b2 => ?_)
      · rw [List.map_append]
        refine List.pairwise_append.mpr ⟨h5.2.1, by simp, fun x hx y hy => ?_⟩
        simp only [List.map_cons, List.map_nil, List.mem_singleton] at hy
        subst hy
        exact a3 x hx
      · rcases List.mem_append.mp hx with hx | hx
        · exact h5.2.2 x hx
        · simp only [List.mem_singleton] at hx; subst hx; exact ⟨a2, a5, a4⟩
      · obtain ⟨q2, c1, c2', c3, c4, c5, c6, c7⟩ := hc c2 X2 b1 b2
        obtain ⟨e1, e2⟩ := a7 q2 _ c7
        exact ⟨c2', c3, c4, c5, by rw [c6, e1], e2⟩
    · have hd := a4.docs
      rw [i_0, I_le (by omega) (by omega)] at y
      omega
    · obtain ⟨q2, c1, c2', c3, c4, c5, c6, c7⟩ := hc c2 X2 b1 b2
      exact a1 q2 _ c7
theorem l_rsame {l m : List Nat} {row row2 : Nat → Int32} {fl pl ov : Int32} {bits codec size words imp letter word gap : Nat → Int32} {K : Int32 → Int32 → Int32 → (Nat → Int32) → (Nat → Int32) → (Nat → Int32) → (Nat → Int32) → (Nat → Int32) → (Nat → Int32) → (Nat → Int32) → (Nat → Int32) → (Nat → Int32) → Int32 → Prop} {Φ : Int32 → Int32 → Int32 → Int32 → (Nat → Int32) → (Nat → Int32) → (Nat → Int32) → (Nat → Int32) → (Nat → Int32) → (Nat → Int32) → (Nat → Int32) → (Nat → Int32) → (Nat → Int32) → Prop}
    (hb : Row row l) (hb2 : Row row2 m) (hy : byt l) (hy2 : byt m) (hl : l.length ≤ 6650) (h1 : l = m → K (I l.length) pl ov bits codec size words imp letter word gap row (I 1)) (h0 : l ≠ m → K (I l.length) pl ov bits codec size words imp letter word gap row (I 0)) :
    ∀ k i s, l.length ≤ i + k → i ≤ l.length → (s = 0 → l ≠ m) → (s ≠ 0 → s = 1 ∧ l.length = m.length ∧ l.take i = m.take i) → L_X9_reads_236 (k + 1) fl (I l.length) pl ov row2 bits codec size words imp letter word gap row (I s) (I i) K Φ := by
  have fin : ∀ i s, l.length ≤ i ∨ s = 0 → (s = 0 → l ≠ m) → (s ≠ 0 → s = 1 ∧ l.length = m.length ∧ l.take i = m.take i) → K (I l.length) pl ov bits codec size words imp letter word gap row (I s) := fun i s a b d => by
    by_cases e : s = 0
    · subst e; exact h0 (b rfl)
    · obtain ⟨d1, d2, d3⟩ := d e
      have hi : l.length ≤ i := a.elim id (fun q => absurd q e)
      rw [List.take_of_length_le hi, List.take_of_length_le (by omega)] at d3
      subst d1; exact h1 d3
  intro k
  induction k with
  | zero =>
    intro i s a1 a2 a3 a4
    unfold L_X9_reads_236
    rw [I_le (by omega) (by omega)]
    exact ⟨fun _ => fin i s (Or.inl (by omega)) a3 a4, fun z => by omega⟩
  | succ k ih =>
    intro i s a1 a2 a3 a4
    unfold L_X9_reads_236
    rw [I_le (by omega) (by omega)]
    refine ⟨fun z => fin i s (Or.inl z) a3 a4, fun z => ?_⟩
    by_cases e : s = 0
    · subst e
      exact ⟨fun _ => fin i 0 (Or.inr rfl) a3 a4, fun q => absurd rfl q⟩
    · obtain ⟨d1, d2, d3⟩ := a4 e
      subst d1
      refine ⟨fun q => absurd q (by decide), fun _ => ?_⟩
      have y1 := hy.get i
      have y2 := hy2.get i
      rw [I_in (by omega), I_cl (by omega), hb i (by omega), hb2 i (by omega), I_eq (by omega) (by omega)]
      refine ⟨by omega, by omega, fun q => ?_, fun q => ?_⟩
      · rw [i_1, I_add]; exact ih (i + 1) 0 (by omega) (by omega) (fun _ => fun hh => q (by rw [hh])) (fun hh => absurd rfl hh)
      · rw [i_1, I_add]; exact ih (i + 1) 1 (by omega) (by omega) (fun hh => absurd hh (by decide)) (fun _ => ⟨rfl, d2, by rw [take_succ_getD (by omega), take_succ_getD (by omega), d3, q]⟩)
theorem r_reads {F : List Nat} {file bits codec size words imp letter word gap draft : Nat → Int32} {dd pl0 ov0 : Int32} {Φ : Int32 → Int32 → Int32 → Int32 → (Nat → Int32) → (Nat → Int32) → (Nat → Int32) → (Nat → Int32) → (Nat → Int32) → (Nat → Int32) → (Nat → Int32) → (Nat → Int32) → (Nat → Int32) → Prop}
    (hb : Row file F) (hy : byt F) (hn : F.length ≤ 6650)
    (h1 : ∀ c b N TG dd' pl ov bits' codec' size' words' imp' letter' word' gap' draft', c ≤ 2 → VX (b, N, TG) → F = E c (b, N, TG) → RX 4 b c N TG bits' codec' size' words' letter' imp' → FS bits bits' → FS codec codec' → FS size size' → FS words words' → FR letter imp letter' imp' → Φ (I 1) dd' pl ov bits' codec' size' words' imp' letter' word' gap' draft')
    (h0 : ∀ dd' pl ov bits' codec' size' words' imp' letter' word' gap' draft', (∀ c2 X2, c2 ≤ 2 → VX X2 → F ≠ E c2 X2) → FS bits bits' → FS codec codec' → FS size size' → FS words words' → FR letter imp letter' imp' → Φ (I 0) dd' pl ov bits' codec' size' words' imp' letter' word' gap' draft') :
    P_X9_reads (I F.length) dd pl0 ov0 file bits codec size words imp letter word gap draft Φ := by
  have hcl4 : (I 4).toNatClampNeg = 4 := I_cl (by omega)
  have hin4 : vp_in (I 4) 5 := by rw [I_in (by omega)]; omega
  have hFS : ∀ (x : Nat → Int32) (v : Int32), FS x (upd x 4 v) := fun x v j hj => upd_ne hj
  have hFR0 : FR letter imp letter imp := ⟨fun _ _ => rfl, fun _ _ => rfl⟩
  have hF : ∀ j, F.getD j 0 < 256 := fun j => hy.get j
  have hc : ∀ c2 X2, F = E c2 X2 → F.getD 2 0 = X2.1 ∧ F.getD 3 0 = c2 ∧ F.getD 4 0 = X2.2.1 ∧ F.getD 5 0 = X2.2.2.length ∧ 6 ≤ F.length ∧ F.drop 6 = X2.2.2.flatMap (encT c2) ++ sum4 (body c2 X2) := fun c2 X2 e => by
    have hh := E_head c2 X2
    have hl : 6 ≤ F.length := by rw [e, hh]; simp
    refine ⟨?_, ?_, ?_, ?_, hl, ?_⟩
    · rw [e, hh]; rfl
    · rw [e, hh]; rfl
    · rw [e, hh]; rfl
    · rw [e, hh]; rfl
    · rw [e, E_drop6]
  unfold P_X9_reads
  rw [i_4, hcl4]
  have dead : ∀ (pl ov : Int32) (v1 v2 v3 v4 : Int32), ¬ 6 ≤ F.length → Φ (I 0) dd pl ov (upd bits 4 v1) (upd codec 4 v2) (upd size 4 v3) (upd words 4 v4) imp letter word gap draft := fun pl ov v1 v2 v3 v4 h6 => h0 _ _ _ _ _ _ _ _ _ _ _ _ (fun c2 X2 _ _ e => h6 (hc c2 X2 e).2.2.2.2.1) (hFS _ _) (hFS _ _) (hFS _ _) (hFS _ _) hFR0
  refine r_take (p := 0) hb hn (Nat.zero_le _) (fun q0 => ?_) (fun q0 pl ov ho => ?_)
  · refine r_take hb hn (by omega) (fun q1 => ?_) (fun q1 pl ov ho => ?_)
    · refine r_take hb hn (by omega) (fun q2 => ⟨hin4, ?_⟩) (fun q2 pl ov ho => ⟨hin4, ?_⟩)
      · refine r_take hb hn (by omega) (fun q3 => ⟨hin4, ?_⟩) (fun q3 pl ov ho => ⟨hin4, ?_⟩)
        · refine r_take hb hn (by omega) (fun q4 => ⟨hin4, ?_⟩) (fun q4 pl ov ho => ⟨hin4, ?_⟩)
          · refine r_take hb hn (by omega) (fun q5 => ⟨hin4, ?_⟩) (fun q5 pl ov ho => ⟨hin4, ?_⟩)
            · -- six bytes stand
              have f2 := hF 2
              have f3 := hF 3
              have f4 := hF 4
              have f5 := hF 5
              have bad : ∀ (pl ov v1 v2 v3 v4 : Int32), (∀ c2 X2, c2 ≤ 2 → VX X2 → F = E c2 X2 → False) → Φ (I 0) dd pl ov (upd bits 4 v1) (upd codec 4 v2) (upd size 4 v3) (upd words 4 v4) imp letter word gap draft := fun pl ov v1 v2 v3 v4 q => h0 _ _ _ _ _ _ _ _ _ _ _ _ q (hFS _ _) (hFS _ _) (hFS _ _) (hFS _ _) hFR0
              simp only [Nat.zero_add, Nat.reduceAdd]
              refine ⟨fun y => absurd rfl y, fun _ => ⟨hin4, ?_⟩⟩
              rw [upd_eq, upd_eq, upd_eq, upd_eq, IJ (by omega), IJ (by omega), IJ (by omega)]
              refine r_within (l := 2) (m := 8) (by omega) (by omega) (by omega) (fun b1 b2 => ⟨fun y => absurd y (by decide), fun _ => ⟨hin4, ?_⟩⟩) (fun g => ⟨fun _ => bad _ _ _ _ _ _ (fun c3 X2 a0 a1 a2 => g ?_), fun y => absurd rfl y⟩)
              · rw [i_2, I_lt (by omega) (by omega)]
                refine ⟨fun g => bad _ _ _ _ _ _ (fun c3 X2 a0 a1 a2 => ?_), fun c1 => ⟨hin4, ?_⟩⟩
                · obtain ⟨g1, g2, g3, g4, -⟩ := hc c3 X2 a2
                  omega
                · refine r_within (l := 1) (m := 40) (by omega) (by omega) (by omega) (fun d1 d2 => ⟨fun y => absurd y (by decide), fun _ => ⟨hin4, ?_⟩⟩) (fun g => ⟨fun _ => bad _ _ _ _ _ _ (fun c3 X2 a0 a1 a2 => g ?_), fun y => absurd rfl y⟩)
                  · refine r_within (l := 1) (m := 64) (by omega) (by omega) (by omega) (fun e1 e2 => ⟨fun _ => ⟨2560 + 1, ?_⟩, fun y => absurd y (by decide)⟩) (fun g => ⟨fun y => absurd rfl y, fun _ => bad _ _ _ _ _ _ (fun c3 X2 a0 a1 a2 => g ?_)⟩)
                    · refine l_rzero (l0 := letter) (i0 := imp) (fun imp1 z1 z2 => ⟨F.getD 5 0 + 1, ?_⟩) 2560 0 imp (by omega) (by omega) (fun j hj => by omega) hFR0
                      have hRI0 : RI letter imp1 [] (fun _ => 0) := ⟨fun i hi => by simp at hi, fun j q hq => by simp at hq, fun _ d hd => by
                        have := z1 d (by omega)
                        simpa using this, fun j _ hj d hd => by
                        have := z1 (40 * j + d) (by omega)
                        rwa [← Nat.add_assoc] at this⟩
                      have key := l_rterms (l0 := letter) (i0 := imp) (c := F.getD 3 0) (b := F.getD 2 0) (N := F.getD 4 0) (n := F.getD 5 0) (dd := dd) (bits := upd bits 4 (I (F.getD 2 0))) (codec := upd codec 4 (I (F.getD 3 0))) (size := upd size 4 (I (F.getD 4 0))) (words := upd words 4 (I (F.getD 5 0))) (draft := draft) (K := fun drafted_69 place_70 over_71 bits_72 codec_73 size_74 words_75 impact_76 letter_77 word_78 gap_79 draft_80 l1_81 l2_82 => ((l2_82 ≤ 600 → P_X9_writes drafted_69 draft_80 bits_72 codec_73 size_74 words_75 letter_77 impact_76 gap_79 l1_81 (fun drafted_83 draft_84 gap_85 => ((¬ drafted_83 = I F.length → ∃ n, L_X9_reads_236 n (I F.length) drafted_83 place_70 over_71 file bits_72 codec_73 size_74 words_75 impact_76 letter_77 word_78 gap_85 draft_84 0 0 (fun drafted_99 place_100 over_101 bits_102 codec_103 size_104 words_105 impact_106 letter_107 word_108 gap_109 draft_110 l3_111 => zok l3_111 ∧ Φ l3_111 drafted_99 place_100 over_101 bits_102 codec_103 size_104 words_105 impact_106 letter_107 word_108 gap_109 draft_110) Φ) ∧ (drafted_83 = I F.length → ∃ n, L_X9_reads_236 n (I F.length) drafted_83 place_70 over_71 file bits_72 codec_73 size_74 words_75 impact_76 letter_77 word_78 gap_85 draft_84 1 0 (fun drafted_112 place_113 over_114 bits_115 codec_116 size_117 words_118 impact_119 letter_120 word_121 gap_122 draft_123 l3_124 => zok l3_124 ∧ Φ l3_124 drafted_112 place_113 over_114 bits_115 codec_116 size_117 words_118 impact_119 letter_120 word_121 gap_122 draft_123) Φ)))) ∧ (¬ l2_82 ≤ 600 → Φ 0 drafted_69 place_70 over_71 bits_72 codec_73 size_74 words_75 impact_76 letter_77 word_78 gap_79 draft_80))) (Φ := Φ) hb hy hn (by omega) b2 d2 e2 (upd_eq _ _ _) (upd_eq _ _ _) (upd_eq _ _ _) (upd_eq _ _ _) ?_ (fun pl ov imp' letter' word' gap' aFR a1 => h0 _ _ _ _ _ _ _ _ _ _ _ _ (fun c2 X2 _ z1 z2 => a1 c2 X2 z1 z2) (hFS _ _) (hFS _ _) (hFS _ _) (hFS _ _) aFR) (F.getD 5 0) 0 6 [] imp1 letter word gap (by omega) (by omega) (by omega) rfl ⟨by simp, List.Pairwise.nil, (fun q hq => by cases hq)⟩ hRI0 z2 (fun c2 X2 z1 z2 => ?_)
                      · exact key
                      · intro p TG imp2 letter2 word2 gap2 k1 k2 k3 kFR k4
                        have hsum := k2.sum d2
                        have hl64 := k2.1
                        rw [i_600, I_le (by omega) (by omega)]
                        refine ⟨fun h600 => ?_, fun h600 => h0 _ _ _ _ _ _ _ _ _ _ _ _ (fun c2 X2 _ z1 z2 => ?_) (hFS _ _) (hFS _ _) (hFS _ _) (hFS _ _) kFR⟩
                        · have hVT : VT (F.getD 2 0) (F.getD 4 0) TG := ⟨b1, b2, d1, d2, k2.1, k2.2.1, k2.2.2, h600⟩
                          have hc2 : F.getD 3 0 ≤ 2 := by omega
                          have hRX : RX 4 (F.getD 2 0) (F.getD 3 0) (F.getD 4 0) TG (upd bits 4 (I (F.getD 2 0))) (upd codec 4 (I (F.getD 3 0))) (upd size 4 (I (F.getD 4 0))) (upd words 4 (I (F.getD 5 0))) letter2 imp2 := ⟨upd_eq _ _ _, upd_eq _ _ _, upd_eq _ _ _, by rw [upd_eq, k1], k3.1, k3.2.1⟩
                          have hVX : VX (F.getD 2 0, F.getD 4 0, TG) := ⟨hVT, by show 1 ≤ TG.length; omega⟩
                          refine r_writes (by omega) hRX hVT hc2 (body_byt hc2 hVT) (fun row' gap3 w1 w2 => ?_)
                          have hEb := E_byt hc2 hVT
                          have same : E (F.getD 3 0) (F.getD 2 0, F.getD 4 0, TG) = F → ∀ dd' pl' ov' gap' draft', Φ (I 1) dd' pl' ov' (upd bits 4 (I (F.getD 2 0))) (upd codec 4 (I (F.getD 3 0))) (upd size 4 (I (F.getD 4 0))) (upd words 4 (I (F.getD 5 0))) imp2 letter2 word2 gap' draft' := fun e dd' pl' ov' gap' draft' => h1 _ _ _ TG _ _ _ _ _ _ _ _ _ _ _ _ hc2 hVX e.symm hRX (hFS _ _) (hFS _ _) (hFS _ _) (hFS _ _) kFR
                          have diff : E (F.getD 3 0) (F.getD 2 0, F.getD 4 0, TG) ≠ F → ∀ dd' pl' ov' gap' draft', Φ (I 0) dd' pl' ov' (upd bits 4 (I (F.getD 2 0))) (upd codec 4 (I (F.getD 3 0))) (upd size 4 (I (F.getD 4 0))) (upd words 4 (I (F.getD 5 0))) imp2 letter2 word2 gap' draft' := fun e dd' pl' ov' gap' draft' => h0 _ _ _ _ _ _ _ _ _ _ _ _ (fun c2 X2 _ z1 z2 => by
                            obtain ⟨x1, x2⟩ := k4 c2 X2 z1 z2
                            rw [x1, x2] at z2
                            exact e z2.symm) (hFS _ _) (hFS _ _) (hFS _ _) (hFS _ _) kFR
                          rw [I_eq (by omega) (by omega)]
                          refine ⟨fun hne => ⟨(E (F.getD 3 0) (F.getD 2 0, F.getD 4 0, TG)).length + 1, ?_⟩, fun heq => ⟨(E (F.getD 3 0) (F.getD 2 0, F.getD 4 0, TG)).length + 1, ?_⟩⟩
                          · exact l_rsame w1 hb hEb hy w2 (fun e => absurd (by rw [e]) hne) (fun e => ⟨zok0, diff e _ _ _ _ _⟩) (E (F.getD 3 0) (F.getD 2 0, F.getD 4 0, TG)).length 0 0 (by omega) (by omega) (fun _ e => hne (by rw [e])) (fun q => absurd rfl q)
                          · exact l_rsame w1 hb hEb hy w2 (fun e => ⟨zok1, same e _ _ _ _ _⟩) (fun e => ⟨zok0, diff e _ _ _ _ _⟩) (E (F.getD 3 0) (F.getD 2 0, F.getD 4 0, TG)).length 0 1 (by omega) (by omega) (fun q => absurd q (by decide)) (fun _ => ⟨rfl, heq, rfl⟩)
                        · obtain ⟨x1, x2⟩ := k4 c2 X2 z1 z2
                          have := z1.1.2.2.2.2.2.2.2
                          rw [x2] at this
                          exact h600 this
                      · obtain ⟨g1, g2, g3, g4, g5, g6⟩ := hc c2 X2 z2
                        exact ⟨g2.symm, g1.symm, g3.symm, g4.symm, rfl, by rw [g6, g2]; rfl⟩
                    · obtain ⟨g1, g2, g3, g4, -⟩ := hc c3 X2 a2
                      have := a1.2
                      have := a1.1.2.2.2.2.1
                      omega
                  · obtain ⟨g1, g2, g3, g4, -⟩ := hc c3 X2 a2
                    have := a1.1.2.2.1
                    have := a1.1.2.2.2.1
                    omega
              · obtain ⟨g1, g2, g3, g4, -⟩ := hc c3 X2 a2
                have := a1.1.1
                have := a1.1.2.1
                omega
            · exact ⟨fun _ => dead _ _ _ _ _ _ (by omega), fun y => absurd y ho⟩
          · refine r_takeO ho (fun pl ov ho => ⟨hin4, ⟨fun _ => dead _ _ _ _ _ _ (by omega), fun y => absurd y ho⟩⟩)
        · refine r_takeO ho (fun pl ov ho => ⟨hin4, r_takeO ho (fun pl ov ho => ⟨hin4, ⟨fun _ => dead _ _ _ _ _ _ (by omega), fun y => absurd y ho⟩⟩)⟩)
      · refine r_takeO ho (fun pl ov ho => ⟨hin4, r_takeO ho (fun pl ov ho => ⟨hin4, r_takeO ho (fun pl ov ho => ⟨hin4, ⟨fun _ => dead _ _ _ _ _ _ (by omega), fun y => absurd y ho⟩⟩)⟩)⟩)
    · refine r_takeO ho (fun pl ov ho => ⟨hin4, r_takeO ho (fun pl ov ho => ⟨hin4, r_takeO ho (fun pl ov ho => ⟨hin4, r_takeO ho (fun pl ov ho => ⟨hin4, ⟨fun _ => dead _ _ _ _ _ _ (by omega), fun y => absurd y ho⟩⟩)⟩)⟩)⟩)
  · refine r_takeO ho (fun pl ov ho => r_takeO ho (fun pl ov ho => ⟨hin4, r_takeO ho (fun pl ov ho => ⟨hin4, r_takeO ho (fun pl ov ho => ⟨hin4, r_takeO ho (fun pl ov ho => ⟨hin4, ⟨fun _ => dead _ _ _ _ _ _ (by omega), fun y => absurd y ho⟩⟩)⟩)⟩)⟩))
