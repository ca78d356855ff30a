
/-! the reference reads a file: whole -/
theorem RI.next {letter impact : Nat → Int32} {TG : List (Nat × List Sg)} {f : Nat → Nat} {q : Nat × List Sg} (h : RI letter impact TG f) (hT : TG.length < 64) (hL : ∀ k, k < 8 → letter (2048 + 8 * TG.length + k) = I (lw q.1 k)) (hq : ∀ d, d < 40 → impOf q.2 d = f d) : RI letter impact (TG ++ [q]) (fun _ => 0) := by
  obtain ⟨a1, a2, a3, a4⟩ := h
  refine ⟨fun i hi k hk => ?_, fun j x hx d hd => ?_, fun h64 d hd => ?_, fun j hj hj2 d hd => ?_⟩
  · rw [List.map_append] at hi ⊢
    by_cases e : i = TG.length
    · subst e
      have : (TG.map (fun q => q.1) ++ [q].map (fun q => q.1)).getD TG.length 0 = q.1 := by
        have := getD_last (TG.map (fun q => q.1)) q.1
        rw [List.length_map] at this; exact this
      rw [this]; exact hL k hk
    · have hi2 : i < (TG.map (fun q => q.1)).length := by simp at hi ⊢; omega
      rw [getD_app1 hi2]; exact a1 i hi2 k hk
  · by_cases e : j = TG.length
    · subst e
      rw [List.getElem?_append_right (Nat.le_refl _), Nat.sub_self] at hx
      simp only [List.getElem?_cons_zero, Option.some.injEq] at hx
      subst hx
      rw [a3 hT d hd, hq d hd]
    · have hj : j < (TG ++ [q]).length := by
        apply Nat.lt_of_not_le; intro z; rw [List.getElem?_eq_none z] at hx; cases hx
      have hj2 : j < TG.length := by simp at hj; omega
      rw [List.getElem?_append_left hj2] at hx
      exact a2 j x hx d hd
  · rw [List.length_append, List.length_singleton] at h64 ⊢
    exact a4 _ (by omega) h64 d hd
  · rw [List.length_append, List.length_singleton] at hj
    exact a4 j (by omega) hj2 d hd
theorem getD_lastk {m : List Nat} {k : Nat} (h : k = m.length) (x : Nat) : (m ++ [x]).getD k 0 = x := by subst h; exact getD_last _ _
def WL (t : Nat) (k : Nat) (m : List Nat) (letter0 letter word : Nat → Int32) : Prop := (∀ j, j < k → word j = I (m.getD j 0)) ∧ (∀ j, j < k → letter (2048 + 8 * t + j) = I (m.getD j 0)) ∧ ∀ j, j < 2048 + 8 * t → letter j = letter0 j
theorem WL.step {t k x : Nat} {m : List Nat} {letter0 letter word : Nat → Int32} (h : WL t k m letter0 letter word) {m' : List Nat} (h1 : ∀ j, j < k → m'.getD j 0 = m.getD j 0) (h2 : m'.getD k 0 = x) : WL t (k + 1) m' letter0 (upd letter (2048 + 8 * t + k) (I x)) (upd word k (I x)) := by
  obtain ⟨a1, a2, a3⟩ := h
  refine ⟨fun j hj => ?_, fun j hj => ?_, fun j hj => ?_⟩
  · by_cases e : j = k
    · subst e; rw [upd_eq, h2]
    · rw [upd_ne e, a1 j (by omega), h1 j (by omega)]
  · by_cases e : j = k
    · subst e; rw [upd_eq, h2]
    · rw [upd_ne (by omega), a2 j (by omega), h1 j (by omega)]
  · rw [upd_ne (by omega)]; exact a3 j hj
theorem l_rlet {F : List Nat} {file : Nat → Int32} {n t : Nat} {letter0 bits size codec gap imp : Nat → Int32} {C : Nat → List Nat → Prop} {K : Int32 → Int32 → (Nat → Int32) → (Nat → Int32) → (Nat → Int32) → (Nat → Int32) → Int32 → Int32 → Prop} {Φ : Int32 → Int32 → Int32 → (Nat → Int32) → (Nat → Int32) → (Nat → Int32) → (Nat → Int32) → Prop} (hb : Row file F) (hy : byt F) (hn : F.length ≤ 6650) (hn1 : 1 ≤ n) (hn8 : n ≤ 8) (ht : t < 64) (hC : ∀ v r, C v r → okw v)
    (hK : ∀ p m letter word, p ≤ F.length → m.length = n → ltr m → WL t 8 m letter0 letter word → (∀ v r, C v r → v = pk m ∧ F.drop p = r) → K (I p) (I 0) letter word gap imp (I 4) (I t))
    (hΦ : ∀ pl ov letter word, (∀ j, j < 2048 + 8 * t → letter j = letter0 j) → (∀ v r, ¬ C v r) → Φ (-1) pl ov letter word gap imp) :
    ∀ i k p m letter word, 8 ≤ k + i → k ≤ 8 → p ≤ F.length → m.length = min k n → ltr m → WL t k m letter0 letter word → (∀ v r, C v r → (lets v).length = n ∧ (lets v).take k = m ∧ F.drop p = (lets v).drop k ++ r) →
      L_X9_readsTerm_29 (i + 1) (I F.length) (I p) (I 0) file letter word bits size codec gap imp (I 4) (I t) (I n) (I k) K Φ := by
  have fin : ∀ k p m letter word, 8 ≤ k → k ≤ 8 → p ≤ F.length → m.length = min k n → ltr m → WL t k m letter0 letter word → (∀ v r, C v r → (lets v).length = n ∧ (lets v).take k = m ∧ F.drop p = (lets v).drop k ++ r) → K (I p) (I 0) letter word gap imp (I 4) (I t) := by
    intro k p m letter word h1 h2 h3 h4 h5 h6 h7
    have : k = 8 := by omega
    subst this
    refine hK p m letter word h3 (by omega) h5 h6 (fun v r e => ?_)
    obtain ⟨a1, a2, a3⟩ := h7 v r e
    rw [List.take_of_length_le (by omega)] at a2
    rw [List.drop_of_length_le (l := lets v) (by omega)] at a3
    exact ⟨by rw [← a2]; exact (hC v r e).lets.2.2.2, a3⟩
  intro i
  induction i with
  | zero =>
    intro k p m letter word h1 h2 h3 h4 h5 h6 h7
    unfold L_X9_readsTerm_29
    rw [i_8, I_le (by omega) (by omega)]
    exact ⟨fun _ => fin k p m letter word (by omega) h2 h3 h4 h5 h6 h7, fun z => by omega⟩
  | succ i ih =>
    intro k p m letter word h1 h2 h3 h4 h5 h6 h7
    unfold L_X9_readsTerm_29
    rw [i_8, I_le (by omega) (by omega), I_le (by omega) (by omega)]
    refine ⟨fun _ => fin k p m letter word (by omega) h2 h3 h4 h5 h6 h7, fun z => ?_⟩
    have ecell : (512 : Int32) * I 4 + 8 * I t + I k = I (2048 + 8 * t + k) := by rw [i_512, i_8, I_mul, I_mul, I_add, I_add]
    have store : ∀ (pl : Int32) (x : Nat) (m' : List Nat), (L_X9_readsTerm_29 (i + 1) (I F.length) pl (I 0) file (upd letter (2048 + 8 * t + k) (I x)) (upd word k (I x)) bits size codec gap imp (I 4) (I t) (I n) (I (k + 1)) K Φ) → J_X9_readsTerm_75 (I F.length) pl (I 0) file letter word bits size codec gap imp (I 4) (I t) (I n) (I k) (I x) (fun place_42 over_43 letter_44 word_45 gap_46 impact_47 l1_48 l2_49 l3_50 l4_51 => L_X9_readsTerm_29 (i + 1) (I F.length) place_42 over_43 file letter_44 word_45 bits size codec gap_46 impact_47 l1_48 l2_49 l3_50 l4_51 K Φ) K Φ := fun pl x m' hnext => by
      unfold J_X9_readsTerm_75
      rw [ecell, I_in (by omega), I_in (by omega), I_cl (by omega), I_cl (by omega), i_1, I_add]
      exact ⟨by omega, by omega, hnext⟩
    refine ⟨fun hnk => ?_, fun hnk => ?_⟩
    · unfold J_X9_readsTerm_50
      rw [I_le (by omega) (by omega)]
      refine ⟨fun _ => store _ 0 m ?_, fun y => absurd hnk y⟩
      refine ih (k + 1) p m _ _ (by omega) (by omega) h3 (by omega) h5 (h6.step (fun _ _ => rfl) (getD_over (by omega))) (fun v r e => ?_)
      obtain ⟨a1, a2, a3⟩ := h7 v r e
      rw [List.take_of_length_le (by omega)] at a2
      rw [List.drop_of_length_le (l := lets v) (by omega)] at a3
      exact ⟨a1, by rw [List.take_of_length_le (by omega)]; exact a2, by rw [List.drop_of_length_le (l := lets v) (by omega)]; exact a3⟩
    · have hF := hy.get p
      have hc : ∀ v r, C v r → F.drop p = (lets v).getD k 0 :: ((lets v).drop (k + 1) ++ r) ∧ 97 ≤ (lets v).getD k 0 ∧ (lets v).getD k 0 ≤ 122 := fun v r e => by
        obtain ⟨a1, a2, a3⟩ := h7 v r e
        refine ⟨?_, (hC v r e).lets.1 _ (getD_mem (by omega))⟩
        rw [a3, drop_cons (by omega)]; rfl
      refine r_take hb hn h3 (fun hlt => ?_) (fun hge pl' ov' ho => ?_)
      · unfold J_X9_readsTerm_50
        rw [I_le (by omega) (by omega), IJ (by omega)]
        refine ⟨fun y => absurd y hnk, fun _ => ?_⟩
        refine r_within (l := 97) (m := 122) (by omega) (by omega) (by omega) (fun g1 g2 => ⟨fun _ => store _ _ (m ++ [F.getD p 0]) ?_, fun y => absurd y (by decide)⟩) (fun g => ⟨fun y => absurd rfl y, fun _ => hΦ _ _ _ _ h6.2.2 (fun v r e => ?_)⟩)
        · refine ih (k + 1) (p + 1) (m ++ [F.getD p 0]) _ _ (by omega) (by omega) (by omega) (by simp; omega) (fun x hx => ?_) (h6.step (fun j hj => getD_app1 (by omega)) (getD_lastk (by omega) _)) (fun v r e => ?_)
          · rcases List.mem_append.mp hx with hx | hx
            · exact h5 x hx
            · simp only [List.mem_singleton] at hx; omega
          · obtain ⟨a1, a2, a3⟩ := h7 v r e
            obtain ⟨c1, c2, c3⟩ := hc v r e
            obtain ⟨d1, d2, d3⟩ := drop_eq c1
            exact ⟨a1, by rw [take_succ_getD (by omega), a2, d2], d3⟩
        · obtain ⟨c1, c2, c3⟩ := hc v r e
          obtain ⟨d1, d2, d3⟩ := drop_eq c1
          exact g ⟨by omega, by omega⟩
      · unfold J_X9_readsTerm_50
        rw [I_le (by omega) (by omega)]
        refine ⟨fun y => absurd y hnk, fun _ => ?_⟩
        rw [IJ (by omega)]
        refine r_within (l := 97) (m := 122) (by omega) (by omega) (by omega) (fun g1 g2 => by omega) (fun g => ⟨fun y => absurd rfl y, fun _ => hΦ _ _ _ _ h6.2.2 (fun v r e => ?_)⟩)
        have := (drop_eq (hc v r e).1).1
        omega
theorem r_rdterm {l0 i0 : Nat → Int32} {F : List Nat} {file : Nat → Int32} {p c b N : Nat} {TG : List (Nat × List Sg)} {letter word bits size codec gap imp : Nat → Int32} {Φ : Int32 → Int32 → Int32 → (Nat → Int32) → (Nat → Int32) → (Nat → Int32) → (Nat → Int32) → Prop}
    (hb : Row file F) (hy : byt F) (hn : F.length ≤ 6650) (hc2 : c ≤ 2) (hb8 : b ≤ 8) (hN : N ≤ 40) (hT : TG.length < 64) (hs : srt (TG.map (fun q => q.1))) (hok : ∀ q ∈ TG, okw q.1) (hbi : bits 4 = I b) (hco : codec 4 = I c) (hsz : size 4 = I N) (hR : RI letter imp TG (fun _ => 0)) (hFR : FR l0 i0 letter imp) (hp : p ≤ F.length)
    (h1 : ∀ q p' letter' word' gap' imp', p' ≤ F.length → okw q.1 → (∀ v ∈ TG.map (fun q => q.1), v < q.1) → VS b N q.2 → q.2 ≠ [] → RI letter' imp' (TG ++ [q]) (fun _ => 0) → FR l0 i0 letter' imp' → (∀ q2 rest, CQ F p c b N TG q2 rest → q2 = q ∧ F.drop p' = rest) → Φ (I (PL q.2).length) (I p') (I 0) letter' word' gap' imp')
    (h0 : ∀ pl ov letter' word' gap' imp', FR l0 i0 letter' imp' → (∀ q2 rest, ¬ CQ F p c b N TG q2 rest) → Φ (-1) pl ov letter' word' gap' imp') :
    P_X9_readsTerm (I F.length) (I p) (I 0) file letter word bits size codec gap imp (I 4) (I TG.length) Φ := by
  have h2b : 2 ^ b ≤ 2 ^ 8 := Nat.pow_le_pow_right (by decide) hb8
  have hF := hy.get p
  have hc : ∀ q rest, CQ F p c b N TG q rest → F.drop p = (lets q.1).length :: (lets q.1 ++ (q.2.length :: (q.2.flatMap (encS c) ++ rest))) := fun q rest e => by
    rw [e.2.2.2.2.2]; unfold encT; simp only [List.cons_append, List.append_assoc]
  unfold P_X9_readsTerm
  refine r_take hb hn hp (fun hlt => ⟨fun y => absurd rfl y, fun _ => ?_⟩) (fun hge pl' ov' ho => ⟨fun _ => h0 _ _ _ _ _ _ hFR (fun q rest e => ?_), fun y => absurd y ho⟩)
  · rw [IJ (by omega)]
    refine r_within (l := 1) (m := 8) (by omega) (by omega) (by omega) (fun g1 g2 => ⟨fun _ => ⟨8 + 1, ?_⟩, fun y => absurd y (by decide)⟩) (fun g => ⟨fun y => absurd rfl y, fun _ => h0 _ _ _ _ _ _ hFR (fun q rest e => ?_)⟩)
    · refine l_rlet (F := F) (n := F.getD p 0) (letter0 := letter) (C := fun v r => ∃ q rest, CQ F p c b N TG q rest ∧ v = q.1 ∧ r = q.2.length :: (q.2.flatMap (encS c) ++ rest)) hb hy hn g1 g2 hT (fun v r e => by obtain ⟨q, rest, e1, e2, -⟩ := e; rw [e2]; exact e1.1) (fun p1 m letter1 word1 f1 f2 f3 f4 f5 => ?_) (fun pl ov letter1 word1 fl f => h0 _ _ _ _ _ _ ⟨fun j hj => by rw [fl j (by omega)]; exact hFR.1 j hj, hFR.2⟩ (fun q rest e => f q.1 _ ⟨q, rest, e, rfl, rfl⟩)) 8 0 (p + 1) [] letter word (by omega) (by omega) (by omega) (by simp) (fun x hx => by cases hx) ⟨fun j hj => by omega, fun j hj => by omega, fun j hj => rfl⟩ (fun v r e => ?_)
      · -- the word stands
        have hm8 : m.length ≤ 8 := by omega
        have hokw : okw (pk m) := ⟨m, by intro z; have z2 := congrArg List.length z; rw [f2, List.length_nil] at z2; omega, hm8, f3, rfl⟩
        have hlt64 := hokw.lt
        have hWR : WR word1 (pk m) := fun k hk => by rw [f4.1 k hk, lw_pk f3.lt hk]
        have hL : ∀ k, k < 8 → letter1 (2048 + 8 * TG.length + k) = I (lw (pk m) k) := fun k hk => by rw [f4.2.1 k hk, lw_pk f3.lt hk]
        have hTW : TW letter1 2048 (TG.map (fun q => q.1)) := fun i hi k hk => by
          rw [f4.2.2 _ (by rw [List.length_map] at hi; omega)]; exact hR.1 i hi k hk
        have hR1 : RI letter1 imp TG (fun _ => 0) := ⟨hTW, hR.2⟩
        have hFR1 : FR l0 i0 letter1 imp := ⟨fun j hj => by rw [f4.2.2 j (by omega)]; exact hFR.1 j hj, hFR.2⟩
        have hcw : ∀ q rest, CQ F p c b N TG q rest → q.1 = pk m ∧ F.drop p1 = q.2.length :: (q.2.flatMap (encS c) ++ rest) := fun q rest e => f5 q.1 _ ⟨q, rest, e, rfl, rfl⟩
        -- behind the order of the words
        have main : (∀ v ∈ TG.map (fun q => q.1), v < pk m) → J_X9_readsTerm_139 (I F.length) (I p1) (I 0) file letter1 word1 bits size codec gap imp (I 4) (I TG.length) Φ := fun hgt => by
          have hF1 := hy.get p1
          unfold J_X9_readsTerm_139
          refine r_take hb hn f1 (fun hlt1 => ⟨fun y => absurd rfl y, fun _ => ?_⟩) (fun hge pl' ov' ho => ⟨fun _ => h0 _ _ _ _ _ _ hFR1 (fun q rest e => ?_), fun y => absurd y ho⟩)
          · rw [i_0, I_eq (by omega) (by omega)]
            refine ⟨fun hne => ⟨F.getD p1 0 + 1, ?_⟩, fun hz => h0 _ _ _ _ _ _ hFR1 (fun q rest e => ?_)⟩
            · have hc0 : cntF N (fun _ => 0) = 0 := by unfold cntF; simp
              have key := l_rsegs (p0 := p) (w := pk m) (sg := F.getD p1 0) (word := word1) (K := fun place_147 over_148 letter_149 word_150 gap_151 impact_152 l5_153 => Φ l5_153 place_147 over_148 letter_149 word_150 gap_151 impact_152) (Φ := Φ) hb hy hn hc2 hb8 hN hT hbi hco hsz (letter := letter1) ?_ (fun pl ov gap' imp' fr f => h0 _ _ _ _ _ _ fr f) (by omega) (F.getD p1 0) 0 (p1 + 1) (fun _ => 0) gap imp (by omega) (by omega) (by omega) (fun d _ => Nat.two_pow_pos b) (fun d _ => rfl) (by omega) hR1 hFR1 (fun q rest e => ?_)
              · rw [hc0] at key
                exact key
              · intro p2 f gap' imp' k1 k2 k3 k4 k5 kFR k6
                have hcan : ∀ d, impOf (canon N f) d = f d := fun d => by
                  rw [impOf_canon hb8 k2]
                  split
                  · rfl
                  · rw [k3 d (by omega)]
                have hVS := VS_canon (b := b) k2
                have hne2 : canon N f ≠ [] := by
                  have hpos : 0 < cntF N f := by omega
                  unfold cntF at hpos
                  obtain ⟨d, hd⟩ := List.exists_mem_of_ne_nil _ (List.length_pos_iff.mp hpos)
                  have := List.mem_filter.mp hd
                  exact canon_ne hb8 k2 (List.mem_range.mp this.1) (of_decide_eq_true this.2)
                have hcnt : cntF N f = (PL (canon N f)).length := (PL_canon_len hb8 k2).symm
                rw [hcnt]
                refine h1 (pk m, canon N f) p2 _ _ _ _ k1 hokw hgt hVS hne2 (k5.next hT hL (fun d _ => hcan d)) kFR (fun q2 rest e => ?_)
                obtain ⟨z1, z2, z3⟩ := k6 q2 rest e
                refine ⟨?_, z3⟩
                have hv2 := e.2.2.1
                have := canon_impOf hv2 hb8
                refine Prod.ext z1 ?_
                show q2.2 = canon N f
                rw [← this]
                exact canon_congr (fun d _ => z2 d)
              · obtain ⟨z1, z2⟩ := hcw q rest e
                obtain ⟨d1, d2, d3⟩ := drop_eq z2
                exact ⟨z1, d2.symm, fun d => rfl, d3⟩
            · obtain ⟨z1, z2⟩ := hcw q rest e
              obtain ⟨d1, d2, d3⟩ := drop_eq z2
              have := List.length_pos_iff.mpr e.2.1
              omega
          · have := (drop_eq (hcw q rest e).2).1
            omega
        refine ⟨fun hz => main ?_, fun hz => ?_⟩
        · rw [i_0, I_le (by omega) (by omega)] at hz
          have : TG = [] := List.length_eq_zero_iff.mp (by omega)
          rw [this]; intro v hv; cases hv
        · rw [i_0, I_le (by omega) (by omega)] at hz
          have hV : (TG.map (fun q => q.1)).getD (TG.length - 1) 0 ∈ TG.map (fun q => q.1) := getD_mem (by rw [List.length_map]; omega)
          obtain ⟨x, hx, ex⟩ := List.mem_map.mp hV
          have hVlt := (hok x hx).lt
          rw [ex] at hVlt
          have e512 : (512 : Int32) * I 4 + 8 * (I TG.length - 1) = I (2048 + 8 * (TG.length - 1)) := by
            rw [i_512, i_8, i_1, I_mul, I_sub (by omega), I_mul, I_add]
          rw [e512]
          have hlast := srt_last hs (w := pk m)
          rw [List.length_map] at hlast
          have hnn : TG.map (fun q => q.1) ≠ [] := by intro z; rw [z] at hV; cases hV
          refine r_compared (V := (TG.map (fun q => q.1)).getD (TG.length - 1) 0) hWR (fun k hk => hTW (TG.length - 1) (by rw [List.length_map]; omega) k hk) (by omega) (by omega) (by omega) (by omega) (fun e => ?_) (fun y e1 e2 e3 => ?_) (fun y e1 e2 e3 => ?_)
          · refine ⟨fun q => absurd q (by decide), fun _ => h0 _ _ _ _ _ _ hFR1 (fun q rest e4 => ?_)⟩
            have := e4.2.2.2.1 _ hV
            rw [(hcw q rest e4).1] at this
            omega
          · have hny : ¬ (0 : Int32) < y := Int32.not_lt.mpr (Int32.le_of_lt e2)
            refine ⟨fun q => absurd q hny, fun _ => h0 _ _ _ _ _ _ hFR1 (fun q rest e4 => ?_)⟩
            have := e4.2.2.2.1 _ hV
            rw [(hcw q rest e4).1] at this
            omega
          · rw [i_0, I_lt (by omega) (by omega)]
            exact ⟨fun _ => main (hlast.mpr (Or.inr e1)), fun q => absurd e2 q⟩
      · obtain ⟨q, rest, e1, e2, e3⟩ := e
        obtain ⟨d1, d2, d3⟩ := drop_eq (hc q rest e1)
        rw [e2, e3]
        exact ⟨d2.symm, rfl, d3⟩
    · obtain ⟨d1, d2, d3⟩ := drop_eq (hc q rest e)
      have := e.1.lets
      exact g ⟨by omega, by omega⟩
  · have := (drop_eq (hc q rest e)).1
    omega
