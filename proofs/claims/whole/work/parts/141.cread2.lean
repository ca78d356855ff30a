
/-! the class reads a file: bits -/
theorem mod_pow_step (P b i k : Nat) : P % 2 ^ (8 * k) / 2 ^ (b * i) + (P / 256 ^ k % 256) * 2 ^ (8 * k - b * i) = P % 2 ^ (8 * (k + 1)) / 2 ^ (b * i) ∨ 8 * k < b * i := by
  by_cases h : 8 * k < b * i
  · exact Or.inr h
  · left
    have e : 8 * k = b * i + (8 * k - b * i) := by omega
    have h1 : P % 2 ^ (8 * (k + 1)) = P % 2 ^ (8 * k) + 2 ^ (8 * k) * (P / 256 ^ k % 256) := by
      rw [Nat.mul_succ, Nat.pow_add, Nat.mod_mul, ← pow256]
    rw [h1]
    have h2 : 2 ^ (8 * k) * (P / 256 ^ k % 256) = 2 ^ (b * i) * (2 ^ (8 * k - b * i) * (P / 256 ^ k % 256)) := by
      rw [← Nat.mul_assoc, ← Nat.pow_add, ← e]
    rw [h2, Nat.add_mul_div_left _ _ (Nat.two_pow_pos _), Nat.mul_comm (2 ^ (8 * k - b * i))]
def RE (F : List Nat) (p0 n w : Nat) (i k p h bits : Nat) (gap : Nat → Int32) (gs0 : List Nat) : Prop :=
  p ≤ F.length ∧ PG gap i gs0 ∧ bits = 8 * k - w * i ∧ w * i ≤ 8 * k ∧ 8 * k < w * i + 8 ∧ h < 2 ^ bits ∧
  ∀ gs rest, gs.length = n → (∀ g ∈ gs, g < 40) → F.drop p0 = enc2 gs ++ rest → w = mb gs ∧ gs.take i = gs0 ∧ h = packB w gs % 2 ^ (8 * k) / 2 ^ (w * i) ∧ ∃ r2, bytesOf (packB w gs) ((w * n + 7) / 8) = bytesOf (packB w gs) k ++ r2 ∧ F.drop p = r2 ++ rest
theorem bytesOf_split (P : Nat) {k m : Nat} (h : k ≤ m) : ∃ r, bytesOf P m = bytesOf P k ++ r ∧ (k < m → ∃ r2, r = P / 256 ^ k % 256 :: r2 ∧ bytesOf P m = bytesOf P (k + 1) ++ r2) := by
  have gen : ∀ j, j ≤ m → ∃ r, bytesOf P m = bytesOf P j ++ r := fun j hj => by
    unfold bytesOf
    refine ⟨((List.range m).drop j).map (fun k => P / 256 ^ k % 256), ?_⟩
    rw [← List.map_append]
    congr 1
    have := List.take_append_drop j (List.range m)
    rw [List.take_range, Nat.min_eq_left hj] at this
    exact this.symm
  obtain ⟨r, hr⟩ := gen k h
  refine ⟨r, hr, fun hlt => ?_⟩
  obtain ⟨r2, hr2⟩ := gen (k + 1) hlt
  refine ⟨r2, ?_, hr2⟩
  rw [hr, bytesOf_succ, List.append_assoc] at hr2
  exact List.append_cancel_left hr2
theorem l_rdeven {F : List Nat} {row : Nat → Int32} {p0 n w : Nat} {K : Int32 → (Nat → Int32) → Prop} {Φ : Int32 → Int32 → (Nat → Int32) → Prop} (hb : BRow row F) (hy : byt F) (hn : F.length ≤ 6650) (hn40 : n ≤ 40) (hw : w ≤ 6)
    (hK : ∀ p' gap', RG F p0 2 n (I 1) p' gap' → K (I p') gap') (hΦ : ∀ p' gap', RG F p0 2 n (I 0) p' gap' → Φ (I 0) (I p') gap') :
    ∀ m i k p h bits gap gs0, n ≤ i + m → i ≤ n → RE F p0 n w i k p h bits gap gs0 → L_X2_readEven_25 (m + 1) 6650 (I F.length) (I p) row (I n) gap (I w) (I h) (I bits) (I i) K Φ := by
  have hG : ∀ gs : List Nat, encG 2 gs = enc2 gs := fun gs => rfl
  have fin : ∀ i k p h bits gap gs0, n ≤ i → i ≤ n → RE F p0 n w i k p h bits gap gs0 → K (I p) gap := by
    intro i k p h bits gap gs0 h1 h2 hR
    have : i = n := by omega
    subst this
    obtain ⟨r1, r2, r3, r4, r5, r6, r7⟩ := hR
    refine hK p gap ⟨r1, Or.inr ⟨rfl, gs0, r2⟩, fun gs rest e1 e2 e3 => ?_⟩
    obtain ⟨a1, a2, a3, x, a4, a5⟩ := r7 gs rest e1 e2 e3
    rw [List.take_of_length_le (by omega)] at a2
    have : k = (w * i + 7) / 8 := by omega
    rw [← this] at a4
    have hx : x = [] := by
      have := congrArg List.length a4
      rw [List.length_append] at this
      exact List.length_eq_zero_iff.mp (by omega)
    rw [hx] at a5
    exact ⟨rfl, a2 ▸ r2.2.2, a5⟩
  intro m
  induction m with
  | zero =>
    intro i k p h bits gap gs0 h1 h2 hR
    unfold L_X2_readEven_25
    rw [I_le (by omega) (by omega)]
    exact ⟨fun _ => fin i k p h bits gap gs0 (by omega) h2 hR, fun z => by omega⟩
  | succ m ih =>
    intro i k p h bits gap gs0 h1 h2 hR
    unfold L_X2_readEven_25
    have hb8 : bits < 8 := by have := hR.2.2; omega
    rw [I_le (by omega) (by omega), I_le (by omega) (by omega)]
    refine ⟨fun z => fin i k p h bits gap gs0 (by omega) h2 hR, fun z => ?_⟩
    have hi : i < n := by omega
    -- one gap, where the bits are there
    have one : ∀ k p h bits, w ≤ bits → bits ≤ 16 → p ≤ F.length → bits = 8 * k - w * i → w * i ≤ 8 * k → 8 * k < w * i + w + 8 → h < 2 ^ bits → (∀ gs rest, gs.length = n → (∀ g ∈ gs, g < 40) → F.drop p0 = enc2 gs ++ rest → w = mb gs ∧ gs.take i = gs0 ∧ h = packB w gs % 2 ^ (8 * k) / 2 ^ (w * i) ∧ ∃ r2, bytesOf (packB w gs) ((w * n + 7) / 8) = bytesOf (packB w gs) k ++ r2 ∧ F.drop p = r2 ++ rest) →
        J_X2_readEven_64 6650 (I F.length) (I p) row (I n) gap (I w) (I h) (I bits) (I i) (fun a1_place_11 gap_12 l2_13 l3_14 l4_15 l5_16 => L_X2_readEven_25 (m + 1) 6650 (I F.length) a1_place_11 row (I n) gap_12 l2_13 l3_14 l4_15 l5_16 K Φ) K Φ := by
      intro k p h bits b1 b2 b3 b4 b5 b6 b7 b8
      unfold J_X2_readEven_64
      have h16 : 2 ^ bits ≤ 2 ^ 16 := Nat.pow_le_pow_right (by decide) b2
      have hw64 : 2 ^ w ≤ 2 ^ 6 := Nat.pow_le_pow_right (by decide) hw
      have hws : w * (i + 1) = w * i + w := Nat.mul_succ w i
      rw [I_in (by omega), I_cl (by omega), i_1, i_31, I_sl (by omega), Nat.one_mul, I_sub (Nat.two_pow_pos w), I_and, Nat.and_two_pow_sub_one_eq_mod, I_ur (by omega) (by omega), I_sub b1, I_add]
      have hm : h % 2 ^ w < 2 ^ w := Nat.mod_lt _ (Nat.two_pow_pos w)
      refine ⟨by omega, ih (i + 1) k p (h / 2 ^ w) (bits - w) _ (gs0 ++ [h % 2 ^ w]) (by omega) (by omega) ⟨b3, hR.2.1.put (by omega), by omega, by omega, by omega, ?_, fun gs rest e1 e2 e3 => ?_⟩⟩
      · rw [Nat.div_lt_iff_lt_mul (Nat.two_pow_pos w), ← Nat.pow_add, Nat.sub_add_cancel b1]; exact b7
      · obtain ⟨a1, a2, a3, x, a4, a5⟩ := b8 gs rest e1 e2 e3
        have hmb := (mb_all (gs := gs) (fun g hg => by have := e2 g hg; omega)).2
        rw [← a1] at hmb
        refine ⟨a1, ?_, ?_, x, a4, a5⟩
        · rw [take_succ_getD (by omega), a2]
          congr 2
          have hdig := packB_digit gs i hmb
          rw [Nat.mul_comm i w] at hdig
          rw [a3, ← hdig]
          have e8 : 2 ^ (8 * k) = 2 ^ (w * i) * (2 ^ w * 2 ^ (8 * k - w * i - w)) := by
            rw [← Nat.pow_add, ← Nat.pow_add]; congr 1; omega
          rw [e8, Nat.mod_mul_right_div_self, Nat.mod_mul_right_mod]
        · rw [a3, Nat.div_div_eq_div_mul, ← Nat.pow_add, hws]
    obtain ⟨r1, r2, r3, r4, r5, r6, r7⟩ := hR
    refine ⟨fun q => one k p h bits q (by omega) r1 r3 r4 (by omega) r6 r7, fun q => ?_⟩
    refine s_next hb hn r1 ?_
    have hF := hy.get p
    have hkn : k < (w * n + 7) / 8 := by
      have : w * (i + 1) ≤ w * n := Nat.mul_le_mul_left _ hi
      rw [Nat.mul_succ] at this
      omega
    have hc : ∀ gs rest, gs.length = n → (∀ g ∈ gs, g < 40) → F.drop p0 = enc2 gs ++ rest → ∃ r2, bytesOf (packB w gs) ((w * n + 7) / 8) = bytesOf (packB w gs) (k + 1) ++ r2 ∧ F.drop p = packB w gs / 256 ^ k % 256 :: (r2 ++ rest) := fun gs rest e1 e2 e3 => by
      obtain ⟨a1, a2, a3, x, a4, a5⟩ := r7 gs rest e1 e2 e3
      obtain ⟨y, y1, y2⟩ := bytesOf_split (packB w gs) (Nat.le_of_lt hkn)
      obtain ⟨y3, y4, y5⟩ := y2 hkn
      refine ⟨y3, y5, ?_⟩
      rw [a4] at y1
      rw [a5, List.append_cancel_left y1, y4]; rfl
    by_cases hp : p < F.length
    · have e1 : nv F p = I (F.getD p 0) := by unfold nv; rw [if_pos hp]
      have e2 : np F p = p + 1 := by unfold np; rw [if_pos hp]
      rw [e1, e2, i_0, I_le (by omega) (by omega)]
      refine ⟨fun _ => ?_, fun y => by omega⟩
      rw [i_31, I_sl (by omega), I_or, i_8, I_add]
      have hor : h ||| F.getD p 0 * 2 ^ bits = h + F.getD p 0 * 2 ^ bits := by
        rw [Nat.or_comm, Nat.mul_comm, ← Nat.two_pow_add_eq_or_of_lt r6]; omega
      rw [hor]
      have hlt : h + F.getD p 0 * 2 ^ bits < 2 ^ (bits + 8) := by
        have : F.getD p 0 * 2 ^ bits ≤ 255 * 2 ^ bits := Nat.mul_le_mul_right _ (by omega)
        rw [Nat.pow_add]
        omega
      refine one (k + 1) (p + 1) _ (bits + 8) (by omega) (by omega) (by omega) (by omega) (by omega) (by omega) hlt (fun gs rest a1 a2 a3 => ?_)
      obtain ⟨r2', c1, c2⟩ := hc gs rest a1 a2 a3
      obtain ⟨d1, d2, d3⟩ := drop_eq c2
      obtain ⟨g1, g2, g3, -⟩ := r7 gs rest a1 a2 a3
      refine ⟨g1, g2, ?_, r2', c1, d3⟩
      rw [d2, g3, r3]
      have := mod_pow_step (packB w gs) w i k
      exact this.elim id (fun y => by omega)
    · have e1 : nv F p = -1 := by unfold nv; rw [if_neg hp]
      have e2 : np F p = p := by unfold np; rw [if_neg hp]
      rw [e1, e2]
      refine ⟨fun y => absurd y (by decide), fun _ => hΦ p gap ⟨r1, Or.inl rfl, fun gs rest a1 a2 a3 => ?_⟩⟩
      obtain ⟨r2', c1, c2⟩ := hc gs rest a1 a2 a3
      exact absurd (drop_eq c2).1 hp
theorem s_rdeven {F : List Nat} {row gap : Nat → Int32} {p n : Nat} {Φ : Int32 → Int32 → (Nat → Int32) → Prop} (hb : BRow row F) (hy : byt F) (hn : F.length ≤ 6650) (hn40 : n ≤ 40) (hp : p ≤ F.length)
    (h : ∀ r p' gap', RG F p 2 n r p' gap' → Φ r (I p') gap') : P_X2_readEven 6650 (I F.length) (I p) row (I n) gap Φ := by
  refine s_next hb hn hp ?_
  have hF := hy.get p
  have hc : ∀ gs rest, F.drop p = encG 2 gs ++ rest → F.drop p = mb gs :: (bytesOf (packB (mb gs) gs) ((mb gs * gs.length + 7) / 8) ++ rest) := fun gs rest e => e
  have bad : ¬ (p < F.length ∧ F.getD p 0 ≤ 6) → Φ (I 0) (I (np F p)) gap := fun q => h _ _ _ ⟨np_le hp, Or.inl rfl, fun gs rest e1 e2 e3 => by
    obtain ⟨d1, d2, d3⟩ := drop_eq (hc gs rest e3)
    have := (mb_all (gs := gs) (fun g hg => by have := e2 g hg; omega)).1
    exact absurd ⟨d1, by omega⟩ q⟩
  by_cases hlt : p < F.length
  · have e1 : nv F p = I (F.getD p 0) := by unfold nv; rw [if_pos hlt]
    have e2 : np F p = p + 1 := by unfold np; rw [if_pos hlt]
    rw [e1, i_0, i_6, I_lt (by omega) (by omega), I_le (by omega) (by omega)]
    refine ⟨fun q => by omega, fun _ => ⟨fun q => ⟨n + 1, ?_⟩, fun q => bad (fun y => q y.2)⟩⟩
    rw [e2]
    refine l_rdeven (p0 := p) (K := fun a1_place_39 gap_40 => Φ 1 a1_place_39 gap_40) hb hy hn hn40 q (fun p' gap' z => h _ p' gap' z) (fun p' gap' z => h _ p' gap' z) n 0 0 (p + 1) 0 0 gap [] (by omega) (by omega) ⟨by omega, ⟨rfl, by simp, fun j hj => by simp at hj⟩, by omega, by omega, by omega, by decide, fun gs rest a1 a2 a3 => ?_⟩
    obtain ⟨d1, d2, d3⟩ := drop_eq (hc gs rest a3)
    refine ⟨d2, rfl, by simp [Nat.mod_one], bytesOf (packB (F.getD p 0) gs) ((F.getD p 0 * n + 7) / 8), by simp [bytesOf], ?_⟩
    rw [d3, d2, a1]
  · have e1 : nv F p = -1 := by unfold nv; rw [if_neg hlt]
    rw [e1]
    exact ⟨fun _ => bad (fun y => hlt y.1), fun q => absurd (by decide) q⟩
theorem RG.zok {F : List Nat} {p c n p' : Nat} {r : Int32} {gap' : Nat → Int32} (h : RG F p c n r p' gap') : zok r := by
  rcases h.2.1 with q | q
  · rw [q]; exact zok0
  · rw [q.1]; exact zok1
theorem s_rdgaps {F : List Nat} {row gap : Nat → Int32} {p c n : Nat} {many : Int32} {Φ : Int32 → Int32 → Int32 → (Nat → Int32) → Prop} (hc2 : c ≤ 2) (hb : BRow row F) (hy : byt F) (hn : F.length ≤ 6650) (hn40 : n ≤ 40) (hp : p ≤ F.length)
    (h : ∀ r p' gap', RG F p c n r p' gap' → Φ r (I n) (I p') gap') : P_X2_read 6650 many (I F.length) (I p) row gap (I c) (I n) Φ := by
  unfold P_X2_read
  rw [i_0, i_1, I_eq (by omega) (by omega), I_eq (by omega) (by omega)]
  refine ⟨fun q => ?_, fun q => ?_, fun q1 q2 => ?_⟩
  · subst q; exact s_rdsev hb hy hn hn40 hp (fun r p' gap' z => ⟨z.zok, h r p' gap' z⟩)
  · subst q; exact s_rdwords hb hy hn hn40 hp (fun r p' gap' z => ⟨z.zok, h r p' gap' z⟩)
  · have : c = 2 := by omega
    subst this; exact s_rdeven hb hy hn hn40 hp (fun r p' gap' z => ⟨z.zok, h r p' gap' z⟩)
