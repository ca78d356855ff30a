
/-! the reference reads a file: gaps -/
theorem r_takeO {n pl ov : Int32} {file : Nat → Int32} {Φ : Int32 → Int32 → Int32 → Prop} (ho : ¬ ov = 0) (h : ∀ pl' ov', ¬ ov' = 0 → Φ (I 0) pl' ov') : P_X9_take n pl ov file Φ := by
  unfold P_X9_take J_X9_take_16
  exact ⟨fun _ => ⟨fun q => absurd q ho, fun _ => h _ _ ho⟩, fun _ => ⟨fun q => absurd q (by decide), fun _ => h _ _ (by decide)⟩⟩
theorem r_take {F : List Nat} {file : Nat → Int32} {p : Nat} {Φ : Int32 → Int32 → Int32 → Prop} (hb : Row file F) (hn : F.length ≤ 6650) (hp : p ≤ F.length) (h1 : p < F.length → Φ (I (F.getD p 0)) (I (p + 1)) (I 0)) (h0 : p = F.length → ∀ pl' ov', ¬ ov' = 0 → Φ (I 0) pl' ov') : P_X9_take (I F.length) (I p) (I 0) file Φ := by
  unfold P_X9_take J_X9_take_16
  rw [I_lt (by omega) (by omega)]
  refine ⟨fun q => ⟨fun _ => ?_, fun y => absurd rfl y⟩, fun q => ⟨fun y => absurd y (by decide), fun _ => h0 (by omega) _ _ (by decide)⟩⟩
  rw [i_1, I_add, I_sub (by omega), Nat.add_sub_cancel, I_in (by omega), I_cl (by omega), hb p q]
  exact ⟨by omega, h1 q⟩
/-- what the reference's reading of gaps tells -/
def RH (F : List Nat) (p c n : Nat) (pl ov : Int32) (gap' : Nat → Int32) : Prop :=
  (¬ ov = 0 ∧ ∀ gs rest, gs.length = n → (∀ g ∈ gs, g < 40) → F.drop p ≠ encG c gs ++ rest) ∨
  (ov = I 0 ∧ ∃ p', pl = I p' ∧ p' ≤ F.length ∧ (∃ gs : List Nat, gs.length = n ∧ (∀ g ∈ gs, g < 128) ∧ Row gap' gs) ∧ ∀ gs rest, gs.length = n → (∀ g ∈ gs, g < 40) → F.drop p = encG c gs ++ rest → Row gap' gs ∧ F.drop p' = rest)
theorem and_127 (a : Nat) : a &&& 127 = a % 128 := Nat.and_two_pow_sub_one_eq_mod a 7
theorem l_tksev {F : List Nat} {file : Nat → Int32} {p0 n : Nat} {K : Int32 → Int32 → (Nat → Int32) → Prop} {Φ : Int32 → Int32 → (Nat → Int32) → Prop} (hb : Row file F) (hy : byt F) (hn : F.length ≤ 6650) (hn40 : n ≤ 40)
    (hK : ∀ pl ov gap', RH F p0 0 n pl ov gap' → K pl ov gap') :
    ∀ k i p gap gs0, n ≤ i + k → i ≤ n → p ≤ F.length → PG gap i gs0 → (∀ gs rest, gs.length = n → (∀ g ∈ gs, g < 40) → F.drop p0 = encG 0 gs ++ rest → gs.take i = gs0 ∧ F.drop p = enc0 (gs.drop i) ++ rest) →
      L_X9_takeGaps_6 (k + 1 + 1) (I F.length) (I p) (I 0) file gap (I n) (I i) K Φ := by
  have fin : ∀ i p gap gs0, n ≤ i → i ≤ n → p ≤ F.length → PG gap i gs0 → (∀ gs rest, gs.length = n → (∀ g ∈ gs, g < 40) → F.drop p0 = encG 0 gs ++ rest → gs.take i = gs0 ∧ F.drop p = enc0 (gs.drop i) ++ rest) → K (I p) (I 0) gap := by
    intro i p gap gs0 h1 h2 h3 h4 h5
    have : i = n := by omega
    subst this
    refine hK _ _ gap (Or.inr ⟨rfl, p, rfl, h3, ⟨gs0, h4⟩, fun gs rest e1 e2 e3 => ?_⟩)
    obtain ⟨a1, a2⟩ := h5 gs rest e1 e2 e3
    rw [List.take_of_length_le (by omega)] at a1
    rw [List.drop_of_length_le (l := gs) (by omega)] at a2
    exact ⟨a1 ▸ h4.2.2, a2⟩
  intro k
  induction k with
  | zero =>
    intro i p gap gs0 h1 h2 h3 h4 h5
    unfold L_X9_takeGaps_6
    rw [I_le (by omega) (by omega)]
    exact ⟨fun _ => fin i p gap gs0 (by omega) h2 h3 h4 h5, fun z => by omega⟩
  | succ k ih =>
    intro i p gap gs0 h1 h2 h3 h4 h5
    unfold L_X9_takeGaps_6
    rw [I_le (by omega) (by omega)]
    refine ⟨fun z => fin i p gap gs0 (by omega) h2 h3 h4 h5, fun z => ⟨fun y => absurd rfl y, fun _ => ?_⟩⟩
    have hc : ∀ gs rest, gs.length = n → (∀ g ∈ gs, g < 40) → F.drop p0 = encG 0 gs ++ rest → F.drop p = (gs.getD i 0 + 128) :: (enc0 (gs.drop (i + 1)) ++ rest) := fun gs rest e1 e2 e3 => by
      rw [(h5 gs rest e1 e2 e3).2, drop_cons (by omega)]; rfl
    have hF := hy.get p
    -- over: one step more, and out
    have out : (∀ gs rest, gs.length = n → (∀ g ∈ gs, g < 40) → F.drop p0 = encG 0 gs ++ rest → False) → ∀ (pl : Int32) (v : Int32), J_X9_takeGaps_45 (I F.length) pl (I 1) file gap (I n) (I i) v 1 (fun place_67 over_68 gap_69 l2_70 l3_71 => L_X9_takeGaps_6 (k + 1 + 1) (I F.length) place_67 over_68 file gap_69 l2_70 l3_71 K Φ) K Φ := fun hno pl v => by
      unfold J_X9_takeGaps_45
      rw [I_in (by omega)]
      refine ⟨zok1, by omega, ?_⟩
      show L_X9_takeGaps_6 (k + 1 + 1) (I F.length) pl (I 1) file _ (I n) (I i + 1) K Φ
      unfold L_X9_takeGaps_6
      rw [i_1, I_add, I_le (by omega) (by omega)]
      have hk : ∀ g2, K pl (I 1) g2 := fun g2 => hK _ _ _ (Or.inl ⟨by decide, fun gs rest e1 e2 e3 => hno gs rest e1 e2 e3⟩)
      exact ⟨fun _ => hk _, fun _ => ⟨fun _ => hk _, fun y => absurd y (by decide)⟩⟩
    refine r_take hb hn h3 (fun hp => ⟨fun y => absurd rfl y, fun _ => ?_⟩) (fun hp pl' ov' ho => ⟨fun _ => ?_, fun y => absurd y ho⟩)
    · rw [i_128, I_le (by omega) (by omega)]
      refine ⟨fun q => ?_, fun q => ?_⟩
      · unfold J_X9_takeGaps_45
        rw [i_127, I_and, and_127, I_in (by omega), I_cl (by omega), i_1, I_add]
        have hm : F.getD p 0 % 128 = F.getD p 0 - 128 := by omega
        rw [hm]
        refine ⟨zok0, by omega, ih (i + 1) (p + 1) _ (gs0 ++ [F.getD p 0 - 128]) (by omega) (by omega) (by omega) (h4.put (by omega)) (fun gs rest a1 a2 a3 => ?_)⟩
        obtain ⟨d1, d2, d3⟩ := drop_eq (hc gs rest a1 a2 a3)
        refine ⟨?_, d3⟩
        rw [take_succ_getD (by omega), (h5 gs rest a1 a2 a3).1, d2, Nat.add_sub_cancel]
      · unfold J_X9_takeGaps_40
        have := out (fun gs rest a1 a2 a3 => by
          obtain ⟨d1, d2, d3⟩ := drop_eq (hc gs rest a1 a2 a3)
          omega) (I (p + 1)) (I (F.getD p 0))
        unfold J_X9_takeGaps_45 at this ⊢
        exact this
    · unfold J_X9_takeGaps_40
      have := out (fun gs rest a1 a2 a3 => by
        obtain ⟨d1, d2, d3⟩ := drop_eq (hc gs rest a1 a2 a3)
        omega) pl' (I 0)
      unfold J_X9_takeGaps_45 at this ⊢
      exact this
theorem l_tk8 {F : List Nat} {file : Nat → Int32} {p : Nat} {gap : Nat → Int32} {l2 l3 : Int32} {K : Int32 → Int32 → (Nat → Int32) → Int32 → Int32 → Int64 → Prop} {Φ : Int32 → Int32 → (Nat → Int32) → Prop} (hb : Row file F) (hy : byt F) (hn : F.length ≤ 6650)
    (h1 : p + 8 ≤ F.length → K (I (p + 8)) (I 0) gap l2 l3 (J (val8 F p))) (h0 : ¬ p + 8 ≤ F.length → ∀ pl ov v, ¬ ov = 0 → v < 18446744073709551616 → K pl ov gap l2 l3 (J v)) :
    ∀ k i, 8 ≤ i + k → i ≤ 8 →
      ((p + i ≤ F.length → L_X9_takeGaps_88 (k + 1) (I F.length) (I (p + i)) (I 0) file gap l2 l3 (J (packB 8 ((F.drop p).take i))) (I i) K Φ) ∧
      (¬ p + 8 ≤ F.length → ∀ pl ov v, ¬ ov = 0 → v < 18446744073709551616 → L_X9_takeGaps_88 (k + 1) (I F.length) pl ov file gap l2 l3 (J v) (I i) K Φ)) := by
  intro k
  induction k with
  | zero =>
    intro i a1 a2
    have : i = 8 := by omega
    subst this
    refine ⟨fun q => ?_, fun q pl ov v ho hv => ?_⟩
    · unfold L_X9_takeGaps_88
      exact ⟨fun _ => h1 q, fun z => absurd (Int32.le_refl _) z⟩
    · unfold L_X9_takeGaps_88
      exact ⟨fun _ => h0 q pl ov v ho hv, fun z => absurd (Int32.le_refl _) z⟩
  | succ k ih =>
    intro i a1 a2
    have orlt : ∀ v x, v < 18446744073709551616 → x < 256 → i < 8 → v ||| x * 2 ^ (8 * i) < 18446744073709551616 := fun v x hv hx hi => by
      refine Nat.or_lt_two_pow (n := 64) hv ?_
      have : x * 2 ^ (8 * i) < 2 ^ 8 * 2 ^ (8 * i) := Nat.mul_lt_mul_of_pos_right hx (Nat.two_pow_pos _)
      rw [← Nat.pow_add] at this
      exact Nat.lt_of_lt_of_le this (Nat.pow_le_pow_right (by decide) (by omega))
    refine ⟨fun q => ?_, fun q pl ov v ho hv => ?_⟩
    · unfold L_X9_takeGaps_88
      rw [i_8, I_le (by omega) (by omega)]
      refine ⟨fun z => ?_, fun z => ?_⟩
      · have : i = 8 := by omega
        subst this; exact h1 q
      · have hlen : ((F.drop p).take i).length = i := by rw [List.length_take, List.length_drop]; omega
        have hby : byt ((F.drop p).take i) := fun b hb => hy b (List.mem_of_mem_drop (List.mem_of_mem_take hb))
        have hpl := packB_byt_lt hby
        rw [hlen, ← pow256] at hpl
        have hF := hy.get (p + i)
        refine r_take hb hn q (fun hp => ?_) (fun hp pl' ov' ho => ?_)
        · have key := (ih (i + 1) (by omega) (by omega)).1 (by omega)
          rw [take_succ_getD (by rw [List.length_drop]; omega), getD_drop, packB_app, hlen, Nat.add_comm (packB 8 _)] at key
          rw [IJ (by omega), I_mul, IJ (by omega), j_63, J_sl (by omega), J_or, i_1, I_add, Nat.or_comm, Nat.mul_comm (F.getD (p + i) 0), ← Nat.two_pow_add_eq_or_of_lt hpl]
          exact key
        · have hv : packB 8 ((F.drop p).take i) < 18446744073709551616 := Nat.lt_of_lt_of_le hpl (by
            show 2 ^ (8 * i) ≤ 2 ^ 64; exact Nat.pow_le_pow_right (by decide) (by omega))
          rw [IJ (by omega), I_mul, IJ (by omega), j_63, J_sl (by omega), J_or, i_1, I_add]
          exact (ih (i + 1) (by omega) (by omega)).2 (by omega) pl' ov' _ ho (orlt _ 0 hv (by omega) (by omega))
    · unfold L_X9_takeGaps_88
      rw [i_8, I_le (by omega) (by omega)]
      refine ⟨fun z => h0 q pl ov v ho hv, fun z => ?_⟩
      refine r_takeO ho (fun pl' ov' ho' => ?_)
      rw [IJ (by omega), I_mul, IJ (by omega), j_63, J_sl (by omega), J_or, i_1, I_add]
      exact (ih (i + 1) (by omega) (by omega)).2 q pl' ov' _ ho' (orlt v 0 hv (by omega) (by omega))
/-- the way of a word, when it is none -/
def wbX (w : Nat) : Nat := if w ≤ 10 then wb w else 60
def wszX (w : Nat) : Nat := if w ≤ 10 then wsz w else 1
theorem r_wayX {w : Nat} {Φ : Int32 → Prop} (hw : w < 16) (h : Φ (I (wbX w))) : P_X9_waySize (I w) Φ := by
  unfold wbX at h
  by_cases q : w ≤ 10
  · rw [if_pos q] at h; exact r_waySize q h
  · rw [if_neg q] at h
    unfold P_X9_waySize
    simp (disch := omega) only [i_0, i_1, i_2, i_3, i_4, i_5, i_6, i_7, i_8, i_9, i_10, i_11, i_12, i_15, i_16, i_20, i_24, i_30, i_31, i_32, i_40, i_57, i_60, i_61, i_63, i_64, i_65, i_73, i_90, i_97, i_100, i_101, i_109, i_115, i_122, i_127, i_128, i_255, i_256, i_320, i_512, i_600, i_601, i_1100, i_1500, i_2560, i_3000, i_6650, i_12800, i_16000, i_65521, i_65536, I_of, I_le, I_lt, I_eq, I_add, I_sub, I_mul, I_cl, I_in, I_an, I_n1]
    exact ⟨fun y => by omega, fun y => by omega, fun y => by omega, fun y => by omega, fun y => by omega, fun y => by omega, fun y => by omega, fun y => by omega, fun y => by omega, fun y => by omega, fun _ _ _ _ _ _ _ _ _ _ => h⟩
theorem waysX {w : Nat} (h : w < 16) : wszX w * wbX w = 60 ∧ wszX w ≤ 60 ∧ wbX w ≤ 60 ∧ 1 ≤ wbX w ∧ 60 / wbX w = wszX w ∧ 1 ≤ wszX w := by
  unfold wszX wbX
  by_cases q : w ≤ 10
  · rw [if_pos q, if_pos q]
    obtain ⟨a, b, c, d, e⟩ := ways q
    exact ⟨a, b, c, d, e, wsz_pos q⟩
  · rw [if_neg q, if_neg q]; decide
def dgX (P w j : Nat) : Nat := P / 2 ^ (4 + j * wbX w) % 2 ^ wbX w
/-- a digit by the arithmetic shift -/
theorem J_digA {P s w : Nat} (hP : P < 18446744073709551616) (hsw : s + w ≤ 64) (hs : s < 64) (hw : w < 64) : ((J P >>> (J s &&& J 63)) &&& ((J 1 <<< (J w &&& J 63)) - J 1)) = J (P / 2 ^ s % 2 ^ w) := by
  rw [J_sl hw, Nat.one_mul, J_sub (Nat.two_pow_pos w), J_and s, and_63 hs]
  apply Int64.toBitVec.inj
  rw [Int64.toBitVec_and, Int64.toBitVec_shiftRight]
  show (BitVec.ofNat 64 P).sshiftRight' ((BitVec.ofNat 64 s).smod 64) &&& BitVec.ofNat 64 (2 ^ w - 1) = BitVec.ofNat 64 (P / 2 ^ s % 2 ^ w)
  have e : (BitVec.ofNat 64 s).smod 64 = BitVec.ofNat 64 s := by
    rw [BitVec.smod_eq]
    have h1 : (BitVec.ofNat 64 s).msb = false := by
      rw [BitVec.msb_eq_decide]; simp only [BitVec.toNat_ofNat]; simp; omega
    rw [h1]
    show (BitVec.ofNat 64 s) % (64#64) = _
    apply BitVec.eq_of_toNat_eq
    simp only [BitVec.toNat_umod, BitVec.toNat_ofNat]
    rw [Nat.mod_eq_of_lt (show s < 2 ^ 64 by omega)]
    exact Nat.mod_eq_of_lt (by omega)
  rw [e]
  apply BitVec.eq_of_getLsbD_eq
  intro i hi
  rw [BitVec.getLsbD_and, BitVec.sshiftRight_eq', BitVec.getLsbD_sshiftRight]
  simp only [BitVec.toNat_ofNat, BitVec.getLsbD_ofNat]
  rw [Nat.mod_eq_of_lt (show s < 2 ^ 64 by omega), Nat.testBit_two_pow_sub_one, Nat.testBit_mod_two_pow, Nat.testBit_div_two_pow]
  by_cases hw' : i < w
  · have h64 : ¬ (64 ≤ i) := by omega
    have : s + i < 64 := by omega
    simp [hw', this, h64, hi, Nat.add_comm]
  · simp [hw']
theorem l_tkword {F gsF : List Nat} {file : Nat → Int32} {n f w P : Nat} {pl ov : Int32} {K : Int32 → Int32 → (Nat → Int32) → Int32 → Int32 → Prop} {Φ : Int32 → Int32 → (Nat → Int32) → Prop} (hP : P < 18446744073709551616) (hw : w < 16) (hn40 : n ≤ 40) (hf : f ≤ n)
    (hK : ∀ gap, PG gap (f + min (wszX w) (n - f)) (gsF ++ (List.range (min (wszX w) (n - f))).map (fun j => min 100 (dgX P w j))) → K pl ov gap (I n) (I (f + min (wszX w) (n - f)))) :
    ∀ k i gap, min (wszX w) (n - f) ≤ i + k → i ≤ min (wszX w) (n - f) → PG gap (f + i) (gsF ++ (List.range i).map (fun j => min 100 (dgX P w j))) →
      L_X9_takeGaps_152 (k + 1) (I F.length) pl ov file gap (I n) (I (f + i)) (J P) (I w) (I i) K Φ := by
  have hws := waysX hw
  have fin : ∀ i gap, min (wszX w) (n - f) ≤ i → i ≤ min (wszX w) (n - f) → PG gap (f + i) (gsF ++ (List.range i).map (fun j => min 100 (dgX P w j))) → K pl ov gap (I n) (I (f + i)) := by
    intro i gap h1 h2 h3
    have : i = min (wszX w) (n - f) := by omega
    rw [← this] at hK
    exact hK gap h3
  intro k
  induction k with
  | zero =>
    intro i gap h1 h2 h3
    unfold L_X9_takeGaps_152
    refine r_wayX hw ?_
    rw [i_60, i_0, I_div (by omega) (by omega), hws.2.2.2.2.1, I_le (by omega) (by omega), I_le (by omega) (by omega)]
    exact ⟨ne0_I (by omega) (by omega), fun _ => fin i gap (by omega) h2 h3, fun z => ⟨fun _ => fin i gap (by omega) h2 h3, fun y => by omega⟩⟩
  | succ k ih =>
    intro i gap h1 h2 h3
    unfold L_X9_takeGaps_152
    refine r_wayX hw ?_
    rw [i_60, i_0, I_div (by omega) (by omega), hws.2.2.2.2.1, I_le (by omega) (by omega), I_le (by omega) (by omega)]
    refine ⟨ne0_I (by omega) (by omega), fun _ => fin i gap (by omega) h2 h3, fun z => ⟨fun _ => fin i gap (by omega) h2 h3, fun y => r_wayX hw (r_wayX hw ?_)⟩⟩
    have hsh : 4 + i * wbX w + wbX w ≤ 64 := by
      have : i * wbX w + wbX w ≤ wszX w * wbX w := by
        rw [← Nat.succ_mul]; exact Nat.mul_le_mul_right _ (by omega)
      omega
    rw [i_4, I_mul, I_add, Nat.mul_comm (wbX w) i, IJ (by omega), IJ (by omega), j_1, j_63, J_digA hP hsh (by omega) (by omega)]
    have hd : P / 2 ^ (4 + i * wbX w) % 2 ^ wbX w = dgX P w i := rfl
    have hdl : dgX P w i < 2 ^ wbX w := Nat.mod_lt _ (Nat.two_pow_pos _)
    have h60 : 2 ^ wbX w ≤ 2 ^ 60 := Nat.pow_le_pow_right (by decide) hws.2.2.1
    have e100 : (100 : Int64) = J 100 := rfl
    rw [hd, e100, J_lt (by omega) (by omega), I_in (by omega), I_cl (by omega), JI, i_1, I_add, I_add, i_100]
    have step := fun x (hx : x = min 100 (dgX P w i)) => ih (i + 1) (upd gap (f + i) (I x)) (by omega) (by omega) (by
      rw [List.range_succ, List.map_append, ← List.append_assoc, hx]
      exact h3.put (by omega))
    refine ⟨fun q => ⟨by omega, ?_⟩, fun q => ⟨by omega, ?_⟩⟩
    · exact step _ (by omega)
    · exact step _ (by omega)
