
/-! the reference reads a file: words and bits -/
theorem dgX_eq {P w j : Nat} (h : w ≤ 10) : dgX P w j = dg P w j := by unfold dgX dg wbX; rw [if_pos h]
theorem PG_lt {gap : Nat → Int32} {i : Nat} {gs : List Nat} (h : PG gap i gs) : gs.length = i := h.1
theorem l_tkwords {F : List Nat} {file : Nat → Int32} {p0 n : Nat} {K : Int32 → Int32 → (Nat → Int32) → Prop} {Φ : Int32 → Int32 → (Nat → Int32) → Prop} (hb : Row file F) (hy : byt F) (hn : F.length ≤ 6650) (hn40 : n ≤ 40)
    (hK : ∀ pl ov gap', RH F p0 1 n pl ov gap' → K pl ov gap') :
    ∀ k f p gap gs0, n ≤ f + k → f ≤ n → p ≤ F.length → PG gap f gs0 → (∀ gs rest, gs.length = n → (∀ g ∈ gs, g < 40) → F.drop p0 = encG 1 gs ++ rest → gs.take f = gs0 ∧ F.drop p = enc1 (gs.drop f) ++ rest) →
      L_X9_takeGaps_70 (k + 1 + 1) (I F.length) (I p) (I 0) file gap (I n) (I f) K Φ := by
  have fin : ∀ f p gap gs0, n ≤ f → f ≤ n → p ≤ F.length → PG gap f gs0 → (∀ gs rest, gs.length = n → (∀ g ∈ gs, g < 40) → F.drop p0 = encG 1 gs ++ rest → gs.take f = gs0 ∧ F.drop p = enc1 (gs.drop f) ++ rest) → K (I p) (I 0) gap := by
    intro i p gap gs0 h1 h2 h3 h4 h5
    have : i = n := by omega
    subst this
    refine hK _ _ gap (Or.inr ⟨rfl, p, rfl, h3, ⟨gs0, h4⟩, fun gs rest e1 e2 e3 => ?_⟩)
    obtain ⟨a1, a2⟩ := h5 gs rest e1 e2 e3
    rw [List.take_of_length_le (by omega)] at a1
    rw [List.drop_of_length_le (l := gs) (by omega)] at a2
    exact ⟨a1 ▸ h4.2.2, a2⟩
  intro k
  induction k with
  | zero =>
    intro f p gap gs0 h1 h2 h3 h4 h5
    unfold L_X9_takeGaps_70
    rw [I_le (by omega) (by omega)]
    exact ⟨fun _ => fin f p gap gs0 (by omega) h2 h3 h4 h5, fun z => by omega⟩
  | succ k ih =>
    intro f p gap gs0 h1 h2 h3 h4 h5
    unfold L_X9_takeGaps_70
    rw [I_le (by omega) (by omega)]
    refine ⟨fun z => fin f p gap gs0 (by omega) h2 h3 h4 h5, fun y => ⟨fun z => absurd rfl z, fun _ => ⟨8 + 1, ?_⟩⟩⟩
    -- what a right text has here
    have hc : ∀ gs rest, gs.length = n → (∀ g ∈ gs, g < 40) → F.drop p0 = encG 1 gs ++ rest → F.drop p = bytesOf (wordOf (gs.drop f)) 8 ++ (enc1 ((gs.drop f).drop (wsz (way (gs.drop f)))) ++ rest) ∧ gs.take f = gs0 ∧ ∀ g ∈ gs.drop f, g < 64 := fun gs rest e1 e2 e3 => by
      obtain ⟨a1, a2⟩ := h5 gs rest e1 e2 e3
      have hne : gs.drop f ≠ [] := by
        intro q
        have := congrArg List.length q
        rw [List.length_drop, List.length_nil] at this
        omega
      rw [enc1_step hne, List.append_assoc] at a2
      exact ⟨a2, a1, fun g hg => by have := e2 g (List.mem_of_mem_drop hg); omega⟩
    have hc8 : ∀ gs rest, gs.length = n → (∀ g ∈ gs, g < 40) → F.drop p0 = encG 1 gs ++ rest → p + 8 ≤ F.length ∧ val8 F p = wordOf (gs.drop f) ∧ F.drop (p + 8) = enc1 ((gs.drop f).drop (wsz (way (gs.drop f)))) ++ rest := fun gs rest e1 e2 e3 => by
      obtain ⟨a1, a2, a3⟩ := hc gs rest e1 e2 e3
      have hl := congrArg List.length a1
      rw [List.length_drop, List.length_append, bytesOf_len] at hl
      refine ⟨by omega, ?_, ?_⟩
      · unfold val8
        rw [a1, List.take_append_of_le_length (by rw [bytesOf_len]; omega), List.take_of_length_le (by rw [bytesOf_len]; omega), packB_bytesOf]
        exact Nat.mod_eq_of_lt (wordOf_lt a3)
      · rw [← List.drop_drop, a1, List.drop_append_of_le_length (by rw [bytesOf_len]; omega), List.drop_of_length_le (by rw [bytesOf_len]; omega), List.nil_append]
    -- one word that is none: one step more, and out
    have out : (∀ gs rest, gs.length = n → (∀ g ∈ gs, g < 40) → F.drop p0 = encG 1 gs ++ rest → False) → ∀ (pl ov : Int32) (v : Nat), ¬ ov = 0 → v < 18446744073709551616 → ∃ m, L_X9_takeGaps_152 m (I F.length) pl ov file gap (I n) (I f) (J v) (I (v % 16)) 0 (fun place_27 over_28 gap_29 l2_30 l3_31 => L_X9_takeGaps_70 (k + 1 + 1) (I F.length) place_27 over_28 file gap_29 l2_30 l3_31 K Φ) Φ := fun hno pl ov v ho hv => by
      have hw : v % 16 < 16 := Nat.mod_lt _ (by decide)
      refine ⟨min (wszX (v % 16)) (n - f) + 1, l_tkword (F := F) (gsF := gs0) hv hw hn40 h2 (fun gap' g1 => ?_) (min (wszX (v % 16)) (n - f)) 0 gap (by omega) (by omega) (by simpa using h4)⟩
      have hk : ∀ g2, K pl ov g2 := fun g2 => hK _ _ _ (Or.inl ⟨ho, fun gs rest e1 e2 e3 => hno gs rest e1 e2 e3⟩)
      show L_X9_takeGaps_70 (k + 1 + 1) (I F.length) pl ov file gap' (I n) _ K Φ
      unfold L_X9_takeGaps_70
      exact ⟨fun _ => hk _, fun _ => ⟨fun _ => hk _, fun z => absurd z ho⟩⟩
    have hP := val8_lt hy p
    have key := (l_tk8 (p := p) (gap := gap) (l2 := I n) (l3 := I f) (K := fun place_13 over_14 gap_15 l2_16 l3_17 l4_18 => ((¬ over_14 = 0 → ∃ n, L_X9_takeGaps_152 n (I F.length) place_13 1 file gap_15 l2_16 l3_17 l4_18 (((l4_18 &&& 15) : Int64).toInt32) 0 (fun place_27 over_28 gap_29 l2_30 l3_31 => L_X9_takeGaps_70 (k + 1 + 1) (I F.length) place_27 over_28 file gap_29 l2_30 l3_31 K Φ) Φ) ∧ (over_14 = 0 → (((((l4_18 &&& 15) : Int64).toInt32) ≤ 10 → ∃ n, L_X9_takeGaps_152 n (I F.length) place_13 0 file gap_15 l2_16 l3_17 l4_18 (((l4_18 &&& 15) : Int64).toInt32) 0 (fun place_32 over_33 gap_34 l2_35 l3_36 => L_X9_takeGaps_70 (k + 1 + 1) (I F.length) place_32 over_33 file gap_34 l2_35 l3_36 K Φ) Φ) ∧ (¬ (((l4_18 &&& 15) : Int64).toInt32) ≤ 10 → ∃ n, L_X9_takeGaps_152 n (I F.length) place_13 1 file gap_15 l2_16 l3_17 l4_18 (((l4_18 &&& 15) : Int64).toInt32) 0 (fun place_37 over_38 gap_39 l2_40 l3_41 => L_X9_takeGaps_70 (k + 1 + 1) (I F.length) place_37 over_38 file gap_39 l2_40 l3_41 K Φ) Φ))))) (Φ := Φ) hb hy hn ?_ ?_ 8 0 (by omega) (by omega)).1 (by omega)
    · exact key
    · intro h8
      generalize hPe : val8 F p = P at hP hc8
      refine ⟨fun z => absurd rfl z, fun _ => ?_⟩
      rw [j_15, J_and, and_15, JI, i_10, I_le (by omega) (by omega)]
      have hw : P % 16 < 16 := Nat.mod_lt _ (by decide)
      refine ⟨fun x => ⟨min (wszX (P % 16)) (n - f) + 1, ?_⟩, fun x => out (fun gs rest e1 e2 e3 => ?_) _ 1 P (by decide) hP⟩
      · have hws : wszX (P % 16) = wsz (P % 16) := by unfold wszX; rw [if_pos x]
        refine l_tkword (F := F) (gsF := gs0) hP hw hn40 h2 (fun gap' g1 => ?_) (min (wszX (P % 16)) (n - f)) 0 gap (by omega) (by omega) (by simpa using h4)
        have hwp := (waysX hw).2.2.2.2.2
        show L_X9_takeGaps_70 (k + 1 + 1) (I F.length) (I (p + 8)) (I 0) file gap' (I n) (I (f + min (wszX (P % 16)) (n - f))) K Φ
        obtain ⟨k', hk'⟩ : ∃ k', k + 1 = k' + 1 := ⟨k, rfl⟩
        refine ih (f + min (wszX (P % 16)) (n - f)) (p + 8) gap' _ (by omega) (by omega) h8 g1 (fun gs rest e1 e2 e3 => ?_)
        obtain ⟨b1, b2, b3⟩ := hc8 gs rest e1 e2 e3
        obtain ⟨-, b4, b5⟩ := hc gs rest e1 e2 e3
        obtain ⟨c1, c2⟩ := wordOf_dg b5
        rw [← b2] at c1 c2
        rw [← c1] at c2 b3
        rw [hws] at *
        have htl : ((List.range (min (wsz (P % 16)) (n - f))).map (fun j => min 100 (dgX P (P % 16) j))) = (gs.drop f).take (min (wsz (P % 16)) (n - f)) := by
          apply List.ext_getElem?
          intro j
          by_cases hj : j < min (wsz (P % 16)) (n - f)
          · rw [List.getElem?_map, List.getElem?_range hj, List.getElem?_take, if_pos hj]
            simp only [Option.map_some]
            have hgj := b5 _ (getD_mem (ds := gs.drop f) (i := j) (by rw [List.length_drop]; omega))
            rw [dgX_eq x, c2 j (by omega), Nat.min_eq_right (by omega), List.getD_eq_getElem?_getD, List.getElem?_eq_getElem (by rw [List.length_drop]; omega)]; rfl
          · rw [List.getElem?_eq_none (by simp; omega), List.getElem?_eq_none (by rw [List.length_take]; omega)]
        refine ⟨?_, ?_⟩
        · rw [htl, ← b4, List.take_add]
        · rw [b3, List.drop_drop]
          congr 2
          by_cases h : wsz (P % 16) ≤ n - f
          · rw [Nat.min_eq_left h]
          · rw [Nat.min_eq_right (by omega), List.drop_of_length_le (by omega), List.drop_of_length_le (by omega)]
      · obtain ⟨b1, b2, b3⟩ := hc8 gs rest e1 e2 e3
        obtain ⟨-, b4, b5⟩ := hc gs rest e1 e2 e3
        have c1 := (wordOf_dg b5).1
        have := way_le5 b5
        rw [← b2] at c1
        omega
    · intro h8 pl ov v ho hv
      refine ⟨fun _ => ?_, fun z => absurd z ho⟩
      rw [j_15, J_and, and_15, JI]
      exact out (fun gs rest e1 e2 e3 => h8 (hc8 gs rest e1 e2 e3).1) pl 1 v (by decide) hv
/-- the stream of bits behind a place -/
def strm (F : List Nat) (p : Nat) : Nat := packB 8 (F.drop p)
def gbit (S b k j : Nat) : Nat := S % 2 ^ k / 2 ^ (b * j) % 2 ^ b
theorem l_tkzero {n : Nat} {fl pl ov l2 : Int32} {file : Nat → Int32} {K : Int32 → Int32 → (Nat → Int32) → Int32 → Int32 → Prop} {Φ : Int32 → Int32 → (Nat → Int32) → Prop} (hn40 : n ≤ 40) (hK : ∀ gap, (∀ j, j < n → gap j = I 0) → K pl ov gap (I n) l2) :
    ∀ k i gap, n ≤ i + k → i ≤ n → (∀ j, j < i → gap j = I 0) → L_X9_takeBits_29 (k + 1) fl pl ov file gap (I n) l2 (I i) K Φ := by
  intro k
  induction k with
  | zero =>
    intro i gap h1 h2 h3
    unfold L_X9_takeBits_29
    rw [I_le (by omega) (by omega)]
    exact ⟨fun _ => hK gap (fun j hj => h3 j (by omega)), fun z => by omega⟩
  | succ k ih =>
    intro i gap h1 h2 h3
    unfold L_X9_takeBits_29
    rw [I_le (by omega) (by omega), I_in (by omega), I_cl (by omega), i_1, I_add]
    refine ⟨fun _ => hK gap (fun j hj => h3 j (by omega)), fun z => ⟨by omega, ih (i + 1) _ (by omega) (by omega) (fun j hj => ?_)⟩⟩
    by_cases e : j = i
    · subst e; rw [upd_eq]; rfl
    · rw [upd_ne e]; exact h3 j (by omega)
theorem gbit_step {S b k j : Nat} (hb : 1 ≤ b) : gbit S b (k + 1) j = if j = k / b then gbit S b k j ||| (S / 2 ^ k % 2) * 2 ^ (k % b) else gbit S b k j := by
  have hk := Nat.div_add_mod k b
  have hm := Nat.mod_lt k hb
  have e1 : S % 2 ^ (k + 1) = S % 2 ^ k + 2 ^ k * (S / 2 ^ k % 2) := by rw [Nat.pow_succ, Nat.mod_mul]
  have hlt : S % 2 ^ k < 2 ^ k := Nat.mod_lt _ (Nat.two_pow_pos k)
  have hbit : S / 2 ^ k % 2 < 2 := Nat.mod_lt _ (by decide)
  unfold gbit
  rw [e1]
  generalize S / 2 ^ k % 2 = X at *
  by_cases h : j = k / b
  · rw [if_pos h]
    have ek : k = b * j + k % b := by rw [h]; omega
    have e3 : (2 : Nat) ^ k = 2 ^ (b * j) * 2 ^ (k % b) := by rw [← Nat.pow_add]; congr 1
    have hq : S % 2 ^ k / 2 ^ (b * j) < 2 ^ (k % b) := by
      rw [Nat.div_lt_iff_lt_mul (Nat.two_pow_pos _), ← Nat.pow_add]
      rw [show k % b + b * j = k by omega]; exact hlt
    have hx : 2 ^ (k % b) * X ≤ 2 ^ (k % b) * 1 := Nat.mul_le_mul_left _ (by omega)
    have hmb2 : 2 ^ (k % b) * 2 ≤ 2 ^ b := by
      rw [← Nat.pow_succ]; exact Nat.pow_le_pow_right (by decide) hm
    have e4 : (S % 2 ^ k + 2 ^ k * X) / 2 ^ (b * j) = S % 2 ^ k / 2 ^ (b * j) + 2 ^ (k % b) * X := by
      have : S % 2 ^ k + 2 ^ k * X = S % 2 ^ k + 2 ^ (b * j) * (2 ^ (k % b) * X) := by rw [← Nat.mul_assoc, ← e3]
      rw [this, Nat.add_mul_div_left _ _ (Nat.two_pow_pos _)]
    rw [e4]
    generalize S % 2 ^ k / 2 ^ (b * j) = A at *
    rw [Nat.mod_eq_of_lt (show A + 2 ^ (k % b) * X < 2 ^ b by omega), Nat.mod_eq_of_lt (show A < 2 ^ b by omega), Nat.or_comm, Nat.mul_comm X, ← Nat.two_pow_add_eq_or_of_lt hq]
    omega
  · rw [if_neg h]
    by_cases hj : j < k / b
    · have hle : b * j + b ≤ k := by
        have : b * (j + 1) ≤ b * (k / b) := Nat.mul_le_mul_left _ hj
        rw [Nat.mul_succ] at this; omega
      have e3 : (2 : Nat) ^ k = 2 ^ (b * j) * (2 ^ b * 2 ^ (k - b * j - b)) := by rw [← Nat.pow_add, ← Nat.pow_add]; congr 1; omega
      have e4 : S % 2 ^ k + 2 ^ k * X = S % 2 ^ k + 2 ^ (b * j) * (2 ^ b * (2 ^ (k - b * j - b) * X)) := by
        rw [← Nat.mul_assoc (2 ^ b), ← Nat.mul_assoc (2 ^ (b * j)), ← e3]
      rw [e4, Nat.add_mul_div_left _ _ (Nat.two_pow_pos _), Nat.add_mul_mod_self_left]
    · have hge : k + 1 ≤ b * j := by
        have : b * (k / b + 1) ≤ b * j := Nat.mul_le_mul_left _ (by omega)
        rw [Nat.mul_succ] at this; omega
      have l2 : S % 2 ^ k < 2 ^ (b * j) := Nat.lt_of_lt_of_le hlt (Nat.pow_le_pow_right (by decide) (by omega))
      have l1 : S % 2 ^ k + 2 ^ k * X < 2 ^ (b * j) := by
        have h1 : 2 ^ (k + 1) ≤ 2 ^ (b * j) := Nat.pow_le_pow_right (by decide) hge
        have h2 : 2 ^ k * X ≤ 2 ^ k * 1 := Nat.mul_le_mul_left _ (by omega)
        rw [Nat.pow_succ] at h1
        omega
      rw [Nat.div_eq_of_lt l1, Nat.div_eq_of_lt l2]
/-- the bits come, one by one -/
def RB (F : List Nat) (p1 b n k : Nat) (q v : Nat) : Prop := q = p1 + (k + 7) / 8 ∧ q ≤ F.length ∧ (k % 8 ≠ 0 → v = F.getD (p1 + k / 8) 0)
theorem strm_bit {F : List Nat} (hy : byt F) {p k : Nat} (h : p + k / 8 < F.length) : strm F p / 2 ^ k % 2 = F.getD (p + k / 8) 0 / 2 ^ (k % 8) % 2 := by
  unfold strm
  rw [packB_bit (b := 8) (F.drop p) k (fun g hg => hy g (List.mem_of_mem_drop hg)) (by rw [List.length_drop]; omega), getD_drop]
theorem l_tkbits {F : List Nat} {file : Nat → Int32} {p0 p1 n b : Nat} {K : Int32 → Int32 → (Nat → Int32) → Prop} {Φ : Int32 → Int32 → (Nat → Int32) → Prop} (hb : Row file F) (hy : byt F) (hn : F.length ≤ 6650) (hn40 : n ≤ 40) (hb6 : b ≤ 6) (hp1 : p1 ≤ F.length)
    (hK : ∀ pl ov gap', RH F p0 2 n pl ov gap' → K pl ov gap')
    (hC : ∀ gs rest, gs.length = n → (∀ g ∈ gs, g < 40) → F.drop p0 = encG 2 gs ++ rest → b = mb gs ∧ F.drop p1 = bytesOf (packB b gs) ((b * n + 7) / 8) ++ rest) :
    ∀ m k q v gap, b * n ≤ k + m → k ≤ b * n → RB F p1 b n k q v → v < 256 → (∀ j, j < n → gap j = I (gbit (strm F p1) b k j)) →
      L_X9_takeBits_52 (m + 1 + 1) (I F.length) (I q) (I 0) file gap (I n) (I b) (I v) (I k) K Φ := by
  have hbn : b * n ≤ 240 := Nat.mul_le_mul hb6 hn40
  have hC2 : ∀ gs rest, gs.length = n → (∀ g ∈ gs, g < 40) → F.drop p0 = encG 2 gs ++ rest → p1 + (b * n + 7) / 8 ≤ F.length ∧ F.drop (p1 + (b * n + 7) / 8) = rest ∧ ∀ j, j < n → gbit (strm F p1) b (b * n) j = gs.getD j 0 := fun gs rest e1 e2 e3 => by
    obtain ⟨c1, c2⟩ := hC gs rest e1 e2 e3
    have hmb := (mb_all (gs := gs) (fun g hg => by have := e2 g hg; omega)).2
    rw [← c1] at hmb
    have hl := congrArg List.length c2
    rw [List.length_drop, List.length_append, bytesOf_len] at hl
    refine ⟨by omega, ?_, fun j hj => ?_⟩
    · rw [← List.drop_drop, c2, List.drop_append_of_le_length (by rw [bytesOf_len]; omega), List.drop_of_length_le (by rw [bytesOf_len]; omega), List.nil_append]
    · have hS : strm F p1 % 2 ^ (b * n) = packB b gs := by
        have hpl := packB_lt hmb
        rw [e1] at hpl
        have happ : ∀ (l r : List Nat), packB 8 (l ++ r) = packB 8 l + 2 ^ (8 * l.length) * packB 8 r := by
          intro l
          induction l with
          | nil => intro r; simp [packB]
          | cons x l ih =>
            intro r
            simp only [List.cons_append, packB, ih, List.length_cons]
            rw [Nat.mul_add, Nat.mul_succ, Nat.pow_add, Nat.mul_comm (2 ^ (8 * l.length)) (2 ^ 8), Nat.mul_assoc, Nat.add_assoc]
        unfold strm
        rw [c2, happ, bytesOf_len, packB_bytesOf, ← pow256]
        have hle : b * n ≤ 8 * ((b * n + 7) / 8) := by omega
        have e8 : (2 : Nat) ^ (8 * ((b * n + 7) / 8)) = 2 ^ (b * n) * 2 ^ (8 * ((b * n + 7) / 8) - b * n) := by rw [← Nat.pow_add]; congr 1; omega
        have hlt8 : packB b gs < 2 ^ (8 * ((b * n + 7) / 8)) := Nat.lt_of_lt_of_le hpl (Nat.pow_le_pow_right (by decide) hle)
        rw [Nat.mod_eq_of_lt hlt8, e8, Nat.mul_assoc, Nat.add_mul_mod_self_left, Nat.mod_eq_of_lt hpl]
      unfold gbit
      rw [hS, Nat.mul_comm b j, packB_digit gs j hmb]
  have fin : ∀ k q v gap, b * n ≤ k → k ≤ b * n → RB F p1 b n k q v → (∀ j, j < n → gap j = I (gbit (strm F p1) b k j)) → K (I q) (I 0) gap := by
    intro k q v gap h1 h2 h3 h4
    have : k = b * n := by omega
    subst this
    have hrow : Row gap ((List.range n).map (gbit (strm F p1) b (b * n))) := fun j hj => by
      simp only [List.length_map, List.length_range] at hj
      rw [h4 j hj, List.getD_eq_getElem?_getD, List.getElem?_map, List.getElem?_range hj]; rfl
    have h26 : 2 ^ b ≤ 2 ^ 6 := Nat.pow_le_pow_right (by decide) hb6
    refine hK _ _ gap (Or.inr ⟨rfl, q, rfl, h3.2.1, ⟨_, by simp, fun g hg => ?_, hrow⟩, fun gs rest e1 e2 e3 => ?_⟩)
    · obtain ⟨j, -, rfl⟩ := List.mem_map.mp hg
      have : gbit (strm F p1) b (b * n) j < 2 ^ b := Nat.mod_lt _ (Nat.two_pow_pos _)
      omega
    · obtain ⟨c1, c2, c3⟩ := hC2 gs rest e1 e2 e3
      refine ⟨fun j hj => by rw [h4 j (by omega), c3 j (by omega)], ?_⟩
      rw [h3.1]; exact c2
  intro m
  induction m with
  | zero =>
    intro k q v gap h1 h2 h3 hv h4
    unfold L_X9_takeBits_52
    rw [I_mul, I_le (by omega) (by omega)]
    exact ⟨fun _ => fin k q v gap (by omega) h2 h3 h4, fun z => by omega⟩
  | succ m ih =>
    intro k q v gap h1 h2 h3 hv h4
    unfold L_X9_takeBits_52
    rw [I_mul, I_le (by omega) (by omega)]
    refine ⟨fun z => fin k q v gap (by omega) h2 h3 h4, fun z => ⟨fun y => absurd rfl y, fun _ => ?_⟩⟩
    have hbp : 1 ≤ b := by
      apply Nat.pos_of_ne_zero; intro y; rw [y] at z; simp at z
    have hkb : k / b < n := by rw [Nat.div_lt_iff_lt_mul hbp, Nat.mul_comm]; omega
    have hmb : k % b < b := Nat.mod_lt _ hbp
    have h26 : 2 ^ b ≤ 2 ^ 6 := Nat.pow_le_pow_right (by decide) hb6
    -- one bit
    have one : ∀ (pl ov : Int32) (w : Nat), w < 256 → (∀ gap' : Nat → Int32, (∀ j, j < n → gap' j = if j = k / b then I (gbit (strm F p1) b k j ||| (w / 2 ^ (k % 8) % 2) * 2 ^ (k % b)) else gap j) → L_X9_takeBits_52 (m + 1 + 1) (I F.length) pl ov file gap' (I n) (I b) (I w) (I (k + 1)) K Φ) →
        J_X9_takeBits_80 (I F.length) pl ov file gap (I n) (I b) (I w) (I k) (fun place_24 over_25 gap_26 l1_27 l2_28 l3_29 l4_30 => L_X9_takeBits_52 (m + 1 + 1) (I F.length) place_24 over_25 file gap_26 l1_27 l2_28 l3_29 l4_30 K Φ) K Φ := by
      intro pl ov w hw hnext
      unfold J_X9_takeBits_80
      have em : k - k / b * b = k % b := by have := Nat.div_add_mod k b; rw [Nat.mul_comm] at this; omega
      have em8 : k - k / 8 * 8 = k % 8 := by omega
      have hg : gbit (strm F p1) b k (k / b) < 2 ^ b := Nat.mod_lt _ (Nat.two_pow_pos _)
      rw [i_0, i_8, i_31, i_1, I_div (by omega) (by omega), I_div (by omega) (by omega), I_mul, I_mul, I_sub (Nat.div_mul_le_self k b), I_sub (Nat.div_mul_le_self k 8), em, em8, I_in (by omega), I_cl (by omega), I_sr (by omega) (by omega), I_and, Nat.and_one_is_mod, I_sl (by omega), h4 _ hkb, I_or, I_add]
      refine ⟨ne0_I hbp (by omega), by omega, ne0_I hbp (by omega), by omega, hnext _ (fun j hj => ?_)⟩
      by_cases e : j = k / b
      · subst e; rw [upd_eq, if_pos rfl]
      · rw [upd_ne e, if_neg e]
    obtain ⟨r1, r2, r3⟩ := h3
    have em8 : k - k / 8 * 8 = k % 8 := by omega
    rw [i_0, i_8, I_div (by omega) (by omega), I_mul, I_sub (Nat.div_mul_le_self k 8), em8, I_eq (by omega) (by omega)]
    have good : ∀ w, w = F.getD (p1 + k / 8) 0 → p1 + k / 8 < F.length → ∀ gap' : Nat → Int32, (∀ j, j < n → gap' j = if j = k / b then I (gbit (strm F p1) b k j ||| (w / 2 ^ (k % 8) % 2) * 2 ^ (k % b)) else gap j) → ∀ j, j < n → gap' j = I (gbit (strm F p1) b (k + 1) j) := by
      intro w hw hlt gap' hg j hj
      rw [hg j hj, gbit_step hbp, hw, strm_bit hy hlt]
      by_cases e : j = k / b
      · rw [if_pos e, if_pos e]
      · rw [if_neg e, if_neg e, h4 j hj]
    refine ⟨fun hk8 => ?_, fun hk8 => ?_⟩
    · have hv2 := r3 hk8
      have hlt : p1 + k / 8 < F.length := by omega
      refine one _ _ v hv (fun gap' hg => ih (k + 1) q v gap' (by omega) (by omega) ⟨by omega, r2, fun h => ?_⟩ hv (good v hv2 hlt gap' hg))
      have : (k + 1) / 8 = k / 8 := by omega
      rw [this]; exact hv2
    · have hq : q = p1 + k / 8 := by omega
      refine r_take hb hn r2 (fun hlt => ?_) (fun hge pl' ov' ho => ?_)
      · have hF := hy.get q
        refine one _ _ (F.getD q 0) hF (fun gap' hg => ih (k + 1) (q + 1) _ gap' (by omega) (by omega) ⟨by omega, by omega, fun h => ?_⟩ hF (good _ (by rw [hq]) (by omega) gap' hg))
        have : (k + 1) / 8 = k / 8 := by omega
        rw [this, hq]
      · refine one _ _ 0 (by omega) (fun gap' hg => ?_)
        unfold L_X9_takeBits_52
        rw [I_mul, I_le (by omega) (by omega)]
        have hk : K pl' ov' gap' := hK _ _ _ (Or.inl ⟨ho, fun gs rest e1 e2 e3 => by
          have := (hC2 gs rest e1 e2 e3).1
          omega⟩)
        exact ⟨fun _ => hk, fun _ => ⟨fun _ => hk, fun y => absurd y ho⟩⟩
theorem r_tkbits {F : List Nat} {file gap : Nat → Int32} {p n : Nat} {Φ : Int32 → Int32 → (Nat → Int32) → Prop} (hb : Row file F) (hy : byt F) (hn : F.length ≤ 6650) (hn40 : n ≤ 40) (hp : p ≤ F.length)
    (h : ∀ pl ov gap', RH F p 2 n pl ov gap' → Φ pl ov gap') : P_X9_takeBits (I F.length) (I p) (I 0) file gap (I n) Φ := by
  have hc : ∀ gs rest, F.drop p = encG 2 gs ++ rest → F.drop p = mb gs :: (bytesOf (packB (mb gs) gs) ((mb gs * gs.length + 7) / 8) ++ rest) := fun gs rest e => e
  -- over: to the end
  have dead : (∀ gs rest, gs.length = n → (∀ g ∈ gs, g < 40) → F.drop p = encG 2 gs ++ rest → False) → ∀ (pl : Int32) (v : Nat), v < 256 → ∃ m, L_X9_takeBits_29 m (I F.length) pl 1 file gap (I n) (I v) 0 (fun place_9 over_10 gap_11 l1_12 l2_13 => ∃ n, L_X9_takeBits_52 n (I F.length) place_9 over_10 file gap_11 l1_12 l2_13 0 0 (fun place_58 over_59 gap_60 => Φ place_58 over_59 gap_60) Φ) Φ := fun hno pl v hv => by
    refine ⟨n + 1, l_tkzero hn40 (fun gap' _ => ⟨1, ?_⟩) n 0 gap (by omega) (by omega) (fun j hj => by omega)⟩
    unfold L_X9_takeBits_52
    have hk : Φ pl 1 gap' := h _ _ _ (Or.inl ⟨by decide, fun gs rest e1 e2 e3 => hno gs rest e1 e2 e3⟩)
    exact ⟨fun _ => hk, fun _ => ⟨fun _ => hk, fun y => absurd y (by decide)⟩⟩
  unfold P_X9_takeBits
  have hF := hy.get p
  refine r_take hb hn hp (fun hlt => ⟨fun y => absurd rfl y, fun _ => ?_⟩) (fun hge pl' ov' ho => ⟨fun _ => dead (fun gs rest e1 e2 e3 => ?_) pl' 0 (by omega), fun y => absurd y ho⟩)
  · rw [i_6, I_le (by omega) (by omega)]
    refine ⟨fun h6 => ⟨n + 1, ?_⟩, fun h6 => dead (fun gs rest e1 e2 e3 => ?_) _ _ hF⟩
    · refine l_tkzero hn40 (fun gap' hz => ⟨F.getD p 0 * n + 1 + 1, ?_⟩) n 0 gap (by omega) (by omega) (fun j hj => by omega)
      refine l_tkbits (p0 := p) (p1 := p + 1) hb hy hn hn40 h6 (by omega) h (fun gs rest e1 e2 e3 => ?_) (F.getD p 0 * n) 0 (p + 1) 0 gap' (by omega) (by omega) ⟨by omega, by omega, fun y => absurd rfl y⟩ (by omega) (fun j hj => ?_)
      · obtain ⟨d1, d2, d3⟩ := drop_eq (hc gs rest e3)
        refine ⟨d2, ?_⟩
        rw [d3, d2, e1]
      · rw [hz j hj]
        have : gbit (strm F (p + 1)) (F.getD p 0) 0 j = 0 := by unfold gbit; rw [Nat.pow_zero, Nat.mod_one, Nat.zero_div, Nat.zero_mod]
        rw [this]
    · obtain ⟨d1, d2, d3⟩ := drop_eq (hc gs rest e3)
      have := (mb_all (gs := gs) (fun g hg => by have := e2 g hg; omega)).1
      omega
  · have := (drop_eq (hc gs rest e3)).1
    omega
theorem r_tkgaps {F : List Nat} {file gap : Nat → Int32} {p c n : Nat} {Φ : Int32 → Int32 → (Nat → Int32) → Prop} (hc2 : c ≤ 2) (hb : Row file F) (hy : byt F) (hn : F.length ≤ 6650) (hn40 : n ≤ 40) (hp : p ≤ F.length)
    (h : ∀ pl ov gap', RH F p c n pl ov gap' → Φ pl ov gap') : P_X9_takeGaps (I F.length) (I p) (I 0) file gap (I c) (I n) Φ := by
  unfold P_X9_takeGaps
  rw [i_0, i_1, I_eq (by omega) (by omega), I_eq (by omega) (by omega)]
  have pg0 : PG gap 0 [] := ⟨rfl, by simp, fun j hj => by simp at hj⟩
  refine ⟨fun q1 => ⟨fun q2 => ?_, fun q2 => ?_⟩, fun q => ?_⟩
  · have : c = 2 := by omega
    subst this; exact r_tkbits hb hy hn hn40 hp h
  · subst q2
    exact ⟨n + 1 + 1, l_tkwords (p0 := p) (K := fun place_45 over_46 gap_47 => Φ place_45 over_46 gap_47) hb hy hn hn40 h n 0 p gap [] (by omega) (by omega) hp pg0 (fun gs rest e1 e2 e3 => ⟨rfl, by simpa [encG] using e3⟩)⟩
  · subst q
    exact ⟨n + 1 + 1, l_tksev (p0 := p) (K := fun place_100 over_101 gap_102 => Φ place_100 over_101 gap_102) hb hy hn hn40 h n 0 p gap [] (by omega) (by omega) hp pg0 (fun gs rest e1 e2 e3 => ⟨rfl, by simpa [encG] using e3⟩)⟩
