
/-! the class reads a file: bytes and gaps -/
def nv (F : List Nat) (p : Nat) : Int32 := if p < F.length then I (F.getD p 0) else -1
def np (F : List Nat) (p : Nat) : Nat := if p < F.length then p + 1 else p
theorem np_le {F : List Nat} {p : Nat} (h : p ≤ F.length) : np F p ≤ F.length := by unfold np; split <;> omega
theorem s_next {F : List Nat} {row : Nat → Int32} {p : Nat} {Φ : Int32 → Int32 → Prop} (hb : BRow row F) (hn : F.length ≤ 6650) (hp : p ≤ F.length) (h : Φ (nv F p) (I (np F p))) : P_X0_next 6650 (I F.length) (I p) row Φ := by
  unfold P_X0_next
  unfold nv np at h
  rw [I_lt (by omega) (by omega)]
  refine ⟨fun q => ?_, fun q => ?_⟩
  · rw [if_pos q, if_pos q] at h
    rw [i_1, I_add, I_sub (by omega), Nat.add_sub_cancel]
    exact s_at hb rfl hn (by decide) (by omega) h
  · rw [if_neg q, if_neg q] at h
    exact h
theorem neg1_lt {a : Nat} (h : a < 2147483648) : (-1 : Int32) < I a := I_ltN (by decide) h
theorem s_withinI {v a b : Nat} {Φ : Int32 → Prop} (hv : v < 2147483648) (ha : a < 2147483648) (hb : b < 2147483648) (h1 : a ≤ v → v ≤ b → Φ (I 1)) (h0 : ¬ (a ≤ v ∧ v ≤ b) → Φ (I 0)) : P_X5_isWithin (I v) (I a) (I b) Φ := by
  unfold P_X5_isWithin
  rw [I_lt hv ha, I_lt hb hv]
  exact ⟨fun q => h0 (by omega), fun q => ⟨fun z => h0 (by omega), fun z => h1 (by omega) (by omega)⟩⟩
theorem s_within {F : List Nat} {p a b : Nat} {Φ : Int32 → Prop} (hy : byt F) (ha : a < 2147483648) (hb : b < 2147483648) (h1 : p < F.length → a ≤ F.getD p 0 → F.getD p 0 ≤ b → Φ (I 1)) (h0 : ¬ (p < F.length ∧ a ≤ F.getD p 0 ∧ F.getD p 0 ≤ b) → Φ (I 0)) : P_X5_isWithin (nv F p) (I a) (I b) Φ := by
  have := hy.get p
  unfold nv
  by_cases q : p < F.length
  · rw [if_pos q]
    exact s_withinI (by omega) ha hb (h1 q) (fun z => h0 (fun y => z y.2))
  · rw [if_neg q]
    unfold P_X5_isWithin
    exact ⟨fun _ => h0 (fun y => q y.1), fun z => absurd (neg1_lt ha) z⟩
theorem drop_eq {F : List Nat} {p x : Nat} {t : List Nat} (h : F.drop p = x :: t) : p < F.length ∧ F.getD p 0 = x ∧ F.drop (p + 1) = t := by
  have hp : p < F.length := by
    apply Nat.lt_of_not_le; intro q; rw [List.drop_of_length_le q] at h; cases h
  rw [drop_cons hp, List.cons.injEq] at h
  exact ⟨hp, h.1, h.2⟩
theorem np_drop {F : List Nat} {p x : Nat} {t : List Nat} (h : F.drop p = x :: t) : np F p = p + 1 ∧ nv F p = I x ∧ F.drop (np F p) = t := by
  obtain ⟨h1, h2, h3⟩ := drop_eq h
  unfold np nv
  rw [if_pos h1, if_pos h1, h2]
  exact ⟨rfl, rfl, h3⟩
/-- the value of eight bytes -/
def val8 (F : List Nat) (k : Nat) : Nat := packB 8 ((F.drop k).take 8)
theorem packB_byt_lt {l : List Nat} (h : byt l) : packB 8 l < 256 ^ l.length := by
  have := packB_lt (b := 8) (l := l) (fun g hg => h g hg)
  rwa [pow256] at this
theorem and64 (x : Int32) : x.toInt64 &&& J 255 = (x &&& I 255).toInt64 := by
  apply Int64.toBitVec.inj
  rw [Int64.toBitVec_and]
  show BitVec.signExtend 64 x.toBitVec &&& 255#64 = BitVec.signExtend 64 (x &&& I 255).toBitVec
  rw [Int32.toBitVec_and]
  show BitVec.signExtend 64 x.toBitVec &&& 255#64 = BitVec.signExtend 64 (x.toBitVec &&& 255#32)
  apply BitVec.eq_of_getLsbD_eq
  intro i hi
  have h64 : (255#64).getLsbD i = decide (i < 8) := by
    rw [BitVec.getLsbD_ofNat, show (255 : Nat) = 2 ^ 8 - 1 from rfl, Nat.testBit_two_pow_sub_one]; simp [hi]
  rw [BitVec.getLsbD_and, h64, BitVec.getLsbD_signExtend, BitVec.getLsbD_signExtend]
  simp only [hi, decide_true, Bool.true_and]
  by_cases h8 : i < 8
  · have h32 : i < 32 := by omega
    have h255 : (255#32).getLsbD i = true := by
      rw [BitVec.getLsbD_ofNat, show (255 : Nat) = 2 ^ 8 - 1 from rfl, Nat.testBit_two_pow_sub_one]; simp [h32, h8]
    rw [if_pos h32, if_pos h32, BitVec.getLsbD_and, h255]; simp [h8]
  · by_cases h32 : i < 32
    · have h255 : (255#32).getLsbD i = false := by
        rw [BitVec.getLsbD_ofNat, show (255 : Nat) = 2 ^ 8 - 1 from rfl, Nat.testBit_two_pow_sub_one]; simp [h8]
      rw [if_pos h32, if_pos h32, BitVec.getLsbD_and, h255]; simp [h8]
    · rw [if_neg h32, if_neg h32, BitVec.msb_and]
      have : (255#32).msb = false := by decide
      rw [this]; simp [h8]
theorem byteL {row : Nat → Int32} {F : List Nat} (hb : BRow row F) (hy : byt F) {i : Nat} (h : i < F.length) : (row i).toInt64 &&& J 255 = J (F.getD i 0) := by
  rw [and64, ← i_255, hb i h, IJ (by have := hy.get i; omega)]
theorem l_eight {F : List Nat} {row : Nat → Int32} {k : Nat} {K Φ : Int64 → Prop} (hb : BRow row F) (hy : byt F) (hn : F.length ≤ 6650) (hk : k ≤ F.length) (hK : K (J (val8 F k))) :
    ∀ m i, 8 ≤ i + m → i ≤ 8 → (k + i ≤ F.length ∨ i = 0) → L_X0_eightFrom_5 (m + 1) 6650 (I F.length) row (I k) (J (packB 8 ((F.drop k).take i))) (I i) K Φ := by
  have fin : ∀ i, (8 ≤ i ∨ F.length ≤ k + i) → i ≤ 8 → K (J (packB 8 ((F.drop k).take i))) := by
    intro i h1 h2
    unfold val8 at hK
    by_cases e : i = 8
    · subst e; exact hK
    · rw [List.take_of_length_le (by rw [List.length_drop]; omega)]
      rw [List.take_of_length_le (by rw [List.length_drop]; omega)] at hK
      exact hK
  intro m
  induction m with
  | zero =>
    intro i h1 h2 h3
    unfold L_X0_eightFrom_5
    rw [i_8, I_le (by omega) (by omega)]
    exact ⟨fun _ => fin i (by omega) h2, fun z => by omega⟩
  | succ m ih =>
    intro i h1 h2 h3
    unfold L_X0_eightFrom_5
    rw [i_8, I_le (by omega) (by omega)]
    refine ⟨fun _ => fin i (by omega) h2, fun z => ?_⟩
    rw [I_sub (by omega), I_le (by omega) (by omega)]
    refine ⟨fun q => fin i (by omega) h2, fun q => ?_⟩
    have hlen : ((F.drop k).take i).length = i := by rw [List.length_take, List.length_drop]; omega
    have hby : byt ((F.drop k).take i) := fun b hb => hy b (List.mem_of_mem_drop (List.mem_of_mem_take hb))
    have hpl := packB_byt_lt hby
    rw [hlen] at hpl
    have hF := hy.get (k + i)
    have key := ih (i + 1) (by omega) (by omega) (by omega)
    rw [take_succ_getD (by rw [List.length_drop]; omega), getD_drop, packB_app, hlen, Nat.add_comm (packB 8 _)] at key
    rw [I_add, I_in (by omega), I_cl (by omega), j_255, byteL hb hy (by omega), I_mul, IJ (by omega), j_63, J_sl (by omega), J_or, i_1, I_add]
    rw [← pow256] at hpl
    rw [Nat.or_comm, Nat.mul_comm (F.getD (k + i) 0), ← Nat.two_pow_add_eq_or_of_lt hpl]
    exact ⟨by omega, key⟩
theorem s_eight {F : List Nat} {row : Nat → Int32} {k : Nat} {Φ : Int64 → Prop} (hb : BRow row F) (hy : byt F) (hn : F.length ≤ 6650) (hk : k ≤ F.length) (h : Φ (J (val8 F k))) : P_X0_eightFrom 6650 (I F.length) row (I k) Φ :=
  ⟨8 + 1, l_eight (K := fun l2_2 => Φ l2_2) hb hy hn hk h 8 0 (by omega) (by omega) (Or.inr rfl)⟩
theorem val8_lt {F : List Nat} (hy : byt F) (k : Nat) : val8 F k < 18446744073709551616 := by
  have h := packB_byt_lt (l := (F.drop k).take 8) (fun b hb => hy b (List.mem_of_mem_drop (List.mem_of_mem_take hb)))
  have h2 : 256 ^ ((F.drop k).take 8).length ≤ 256 ^ 8 := Nat.pow_le_pow_right (by decide) (by rw [List.length_take]; omega)
  unfold val8
  exact Nat.lt_of_lt_of_le h h2
theorem packB_bytesOf (P : Nat) : ∀ n, packB 8 (bytesOf P n) = P % 256 ^ n := by
  intro n
  induction n with
  | zero => simp [bytesOf, packB, Nat.mod_one]
  | succ n ih =>
    rw [bytesOf_succ, packB_app, bytesOf_len, ih, pow256, Nat.pow_succ, Nat.mod_mul]
theorem packB_digit {b : Nat} : ∀ (gs : List Nat) (i : Nat), (∀ g ∈ gs, g < 2 ^ b) → packB b gs / 2 ^ (i * b) % 2 ^ b = gs.getD i 0 := by
  intro gs
  induction gs with
  | nil => intro i _; simp [packB]
  | cons g gs ih =>
    intro i h
    have hg := h g List.mem_cons_self
    cases i with
    | zero =>
      show (g + 2 ^ b * packB b gs) / 2 ^ (0 * b) % 2 ^ b = g
      rw [Nat.zero_mul, Nat.pow_zero, Nat.div_one, Nat.add_mul_mod_self_left, Nat.mod_eq_of_lt hg]
    | succ i =>
      show (g + 2 ^ b * packB b gs) / 2 ^ ((i + 1) * b) % 2 ^ b = gs.getD i 0
      rw [Nat.succ_mul, Nat.add_comm (i * b) b, Nat.pow_add, ← Nat.div_div_eq_div_mul, Nat.add_mul_div_left _ _ (Nat.two_pow_pos b), Nat.div_eq_of_lt hg, Nat.zero_add]
      exact ih i (fun x hx => h x (List.mem_cons_of_mem _ hx))
/-- what the reading of gaps tells -/
def RG (F : List Nat) (p c n : Nat) (r : Int32) (p' : Nat) (gap' : Nat → Int32) : Prop :=
  p' ≤ F.length ∧ (r = I 0 ∨ (r = I 1 ∧ ∃ gs : List Nat, gs.length = n ∧ (∀ g ∈ gs, g < 128) ∧ Row gap' gs)) ∧
  ∀ gs rest, gs.length = n → (∀ g ∈ gs, g < 40) → F.drop p = encG c gs ++ rest → r = I 1 ∧ Row gap' gs ∧ F.drop p' = rest
def PG (gap : Nat → Int32) (i : Nat) (gs : List Nat) : Prop := gs.length = i ∧ (∀ g ∈ gs, g < 128) ∧ Row gap gs
theorem PG.put {gap : Nat → Int32} {i x : Nat} {gs : List Nat} (h : PG gap i gs) (hx : x < 128) : PG (upd gap i (I x)) (i + 1) (gs ++ [x]) := by
  obtain ⟨h1, h2, h3⟩ := h
  refine ⟨by simp [h1], fun g hg => ?_, by have := h3.put x; rwa [h1] at this⟩
  rcases List.mem_append.mp hg with hg | hg
  · exact h2 g hg
  · simp only [List.mem_singleton] at hg; omega
theorem l_rdsev {F : List Nat} {row : Nat → Int32} {p0 n : Nat} {K : Int32 → (Nat → Int32) → Prop} {Φ : Int32 → Int32 → (Nat → Int32) → Prop} (hb : BRow row F) (hy : byt F) (hn : F.length ≤ 6650) (hn40 : n ≤ 40)
    (hK : ∀ p' gap', RG F p0 0 n (I 1) p' gap' → K (I p') gap') (hΦ : ∀ p' gap', RG F p0 0 n (I 0) p' gap' → Φ (I 0) (I p') gap') :
    ∀ k i p gap gs0, n ≤ i + k → i ≤ n → p ≤ F.length → PG gap i gs0 → (∀ gs rest, gs.length = n → (∀ g ∈ gs, g < 40) → F.drop p0 = encG 0 gs ++ rest → gs.take i = gs0 ∧ F.drop p = enc0 (gs.drop i) ++ rest) →
      L_X2_readSevens_2 (k + 1) 6650 (I n) (I F.length) (I p) row gap (I i) K Φ := by
  have fin : ∀ i p gap gs0, n ≤ i → i ≤ n → p ≤ F.length → PG gap i gs0 → (∀ gs rest, gs.length = n → (∀ g ∈ gs, g < 40) → F.drop p0 = encG 0 gs ++ rest → gs.take i = gs0 ∧ F.drop p = enc0 (gs.drop i) ++ rest) → K (I p) gap := by
    intro i p gap gs0 h1 h2 h3 h4 h5
    have : i = n := by omega
    subst this
    refine hK p gap ⟨h3, Or.inr ⟨rfl, gs0, h4⟩, fun gs rest e1 e2 e3 => ?_⟩
    obtain ⟨a1, a2⟩ := h5 gs rest e1 e2 e3
    rw [List.take_of_length_le (by omega)] at a1
    rw [List.drop_of_length_le (l := gs) (by omega)] at a2
    exact ⟨rfl, a1 ▸ h4.2.2, a2⟩
  intro k
  induction k with
  | zero =>
    intro i p gap gs0 h1 h2 h3 h4 h5
    unfold L_X2_readSevens_2
    rw [I_le (by omega) (by omega)]
    exact ⟨fun _ => fin i p gap gs0 (by omega) h2 h3 h4 h5, fun z => by omega⟩
  | succ k ih =>
    intro i p gap gs0 h1 h2 h3 h4 h5
    unfold L_X2_readSevens_2
    rw [I_le (by omega) (by omega)]
    refine ⟨fun z => fin i p gap gs0 (by omega) h2 h3 h4 h5, fun z => ?_⟩
    refine s_next hb hn h3 ?_
    have hc : ∀ gs rest, gs.length = n → (∀ g ∈ gs, g < 40) → F.drop p0 = encG 0 gs ++ rest → F.drop p = (gs.getD i 0 + 128) :: (enc0 (gs.drop (i + 1)) ++ rest) := fun gs rest e1 e2 e3 => by
      rw [(h5 gs rest e1 e2 e3).2, drop_cons (by omega)]; rfl
    have hF := hy.get p
    have bad : ¬ (p < F.length ∧ 128 ≤ F.getD p 0) → Φ (I 0) (I (np F p)) gap := fun q => hΦ _ _ ⟨np_le h3, Or.inl rfl, fun gs rest e1 e2 e3 => by
      obtain ⟨d1, d2, d3⟩ := drop_eq (hc gs rest e1 e2 e3)
      exact absurd ⟨d1, by omega⟩ q⟩
    by_cases hp : p < F.length
    · have e1 : nv F p = I (F.getD p 0) := by unfold nv; rw [if_pos hp]
      have e2 : np F p = p + 1 := by unfold np; rw [if_pos hp]
      rw [e1, i_128, I_le (by omega) (by omega)]
      refine ⟨fun q => ?_, fun q => bad (fun y => q y.2)⟩
      rw [I_in (by omega), I_cl (by omega), I_sub q, e2, i_1, I_add]
      refine ⟨by omega, ih (i + 1) (p + 1) _ (gs0 ++ [F.getD p 0 - 128]) (by omega) (by omega) (by omega) (h4.put (by omega)) (fun gs rest a1 a2 a3 => ?_)⟩
      obtain ⟨d1, d2, d3⟩ := drop_eq (hc gs rest a1 a2 a3)
      refine ⟨?_, d3⟩
      rw [take_succ_getD (by omega), (h5 gs rest a1 a2 a3).1, d2, Nat.add_sub_cancel]
    · have e1 : nv F p = -1 := by unfold nv; rw [if_neg hp]
      rw [e1]
      exact ⟨fun q => absurd q (by decide), fun q => bad (fun y => hp y.1)⟩
theorem s_rdsev {F : List Nat} {row gap : Nat → Int32} {p n : Nat} {Φ : Int32 → Int32 → (Nat → Int32) → Prop} (hb : BRow row F) (hy : byt F) (hn : F.length ≤ 6650) (hn40 : n ≤ 40) (hp : p ≤ F.length)
    (h : ∀ r p' gap', RG F p 0 n r p' gap' → Φ r (I p') gap') : P_X2_readSevens 6650 (I n) (I F.length) (I p) row gap Φ :=
  ⟨n + 1, l_rdsev (K := fun a1_place_5 gap_6 => Φ 1 a1_place_5 gap_6) hb hy hn hn40 (fun p' gap' q => h _ p' gap' q) (fun p' gap' q => h _ p' gap' q) n 0 p gap [] (by omega) (by omega) hp ⟨rfl, by simp, fun j hj => by simp at hj⟩ (fun gs rest e1 e2 e3 => ⟨rfl, by simpa [encG] using e3⟩)⟩

theorem and_15 (a : Nat) : a &&& 15 = a % 16 := Nat.and_two_pow_sub_one_eq_mod a 4
theorem J_dig {P s w : Nat} (hP : P < 18446744073709551616) (hs : s < 64) (hw : w < 64) : ((((J P).toUInt64 >>> ((J s).toUInt64 &&& (J 63).toUInt64)).toInt64) &&& ((J 1 <<< (J w &&& J 63)) - J 1)) = J (P / 2 ^ s % 2 ^ w) := by
  rw [← j_63, J_ur hP hs, j_63, J_sl hw, Nat.one_mul, J_sub (Nat.two_pow_pos w), J_and, Nat.and_two_pow_sub_one_eq_mod]
def dg (P w j : Nat) : Nat := P / 2 ^ (4 + j * wb w) % 2 ^ wb w
theorem l_rdword {F gsF : List Nat} {row : Nat → Int32} {n f tk w P : Nat} {p : Int32} {l3 : Int32} {K : Int32 → (Nat → Int32) → Int32 → Int32 → Int32 → Prop} {Φ : Int32 → Int32 → (Nat → Int32) → Prop} (hP : P < 18446744073709551616) (hw : w ≤ 10) (hn40 : n ≤ 40) (htk : tk = min (wsz w) (n - f)) (hf : f ≤ n)
    (hK : ∀ gap, PG gap (f + tk) (gsF ++ (List.range tk).map (dg P w)) → (∀ j, j < tk → dg P w j < 40) → K p gap (I f) l3 (I tk))
    (hΦ : ∀ gap j, j < tk → ¬ dg P w j < 40 → Φ (I 0) p gap) :
    ∀ k i gap, tk ≤ i + k → i ≤ tk → PG gap (f + i) (gsF ++ (List.range i).map (dg P w)) → (∀ j, j < i → dg P w j < 40) →
      L_X2_readWords_77 (k + 1) 6650 (I n) (I F.length) p row gap (I f) l3 (J P) (I w) (I tk) (I i) K Φ := by
  have hws := ways hw
  have hB := wayB_I hw
  intro k
  induction k with
  | zero =>
    intro i gap h1 h2 h3 h4
    unfold L_X2_readWords_77
    rw [I_le (by omega) (by omega)]
    have : i = tk := by omega
    subst this
    exact ⟨fun _ => hK gap h3 h4, fun z => by omega⟩
  | succ k ih =>
    intro i gap h1 h2 h3 h4
    unfold L_X2_readWords_77
    rw [I_le (by omega) (by omega)]
    refine ⟨fun z => ?_, fun z => ?_⟩
    · have : i = tk := by omega
      subst this
      exact hK gap h3 h4
    · have hsh : 4 + i * wb w < 64 := by
        have : i * wb w + wb w ≤ wsz w * wb w := by
          rw [← Nat.succ_mul]; exact Nat.mul_le_mul_right _ (by omega)
        omega
      have hiw : i * wb w ≤ 60 := by omega
      rw [I_in (by omega), I_cl (by omega), hB, i_4, I_mul, I_add, IJ (by omega), IJ (by omega), j_1, j_63]
      rw [J_dig hP hsh (by omega)]
      have hd : P / 2 ^ (4 + i * wb w) % 2 ^ wb w = dg P w i := rfl
      have hdl : dg P w i < 2 ^ wb w := Nat.mod_lt _ (Nat.two_pow_pos _)
      have h60 : 2 ^ wb w ≤ 2 ^ 60 := Nat.pow_le_pow_right (by decide) hws.2.2.1
      rw [hd, j_40, J_lt (by omega) (by omega)]
      refine ⟨by omega, by omega, fun q => ?_, fun q => hΦ gap i (by omega) q⟩
      rw [I_add, I_in (by omega), I_cl (by omega), JI, i_1, I_add]
      refine ⟨by omega, ih (i + 1) _ (by omega) (by omega) ?_ (fun j hj => ?_)⟩
      · rw [List.range_succ, List.map_append, ← List.append_assoc]
        exact h3.put (by omega)
      · by_cases e : j = i
        · subst e; exact q
        · exact h4 j (by omega)
theorem wordOf_dg {gs : List Nat} (h : ∀ g ∈ gs, g < 64) : wordOf gs % 16 = way gs ∧ ∀ j, j < wsz (way gs) → dg (wordOf gs) (way gs) j = gs.getD j 0 := by
  have h1 := way_le5 h
  refine ⟨by unfold wordOf; omega, fun j hj => ?_⟩
  unfold dg
  have e : wordOf gs / 2 ^ (4 + j * wb (way gs)) = packB (wb (way gs)) (gs.take (wsz (way gs))) / 2 ^ (j * wb (way gs)) := by
    rw [Nat.pow_add, ← Nat.div_div_eq_div_mul]
    congr 1
    unfold wordOf
    show _ / 16 = _
    omega
  rw [e, packB_digit _ _ (way_ok h)]
  simp only [List.getD_eq_getElem?_getD, List.getElem?_take, hj, if_true]
theorem l_rdwords {F : List Nat} {row : Nat → Int32} {p0 n : Nat} {K : Int32 → (Nat → Int32) → Prop} {Φ : Int32 → Int32 → (Nat → Int32) → Prop} (hb : BRow row F) (hy : byt F) (hn : F.length ≤ 6650) (hn40 : n ≤ 40)
    (hK : ∀ p' gap', RG F p0 1 n (I 1) p' gap' → K (I p') gap') (hΦ : ∀ p' gap', RG F p0 1 n (I 0) p' gap' → Φ (I 0) (I p') gap') :
    ∀ k f wd p gap gs0, n ≤ wd + k → wd ≤ f → f ≤ n → p ≤ F.length → PG gap f gs0 → (∀ gs rest, gs.length = n → (∀ g ∈ gs, g < 40) → F.drop p0 = encG 1 gs ++ rest → gs.take f = gs0 ∧ F.drop p = enc1 (gs.drop f) ++ rest) →
      L_X2_readWords_4 (k + 1) 6650 (I n) (I F.length) (I p) row gap (I f) (I wd) K Φ := by
  have fin : ∀ f p gap gs0, n ≤ f → f ≤ n → p ≤ F.length → PG gap f gs0 → (∀ gs rest, gs.length = n → (∀ g ∈ gs, g < 40) → F.drop p0 = encG 1 gs ++ rest → gs.take f = gs0 ∧ F.drop p = enc1 (gs.drop f) ++ rest) → K (I p) gap := by
    intro i p gap gs0 h1 h2 h3 h4 h5
    have : i = n := by omega
    subst this
    refine hK p gap ⟨h3, Or.inr ⟨rfl, gs0, h4⟩, fun gs rest e1 e2 e3 => ?_⟩
    obtain ⟨a1, a2⟩ := h5 gs rest e1 e2 e3
    rw [List.take_of_length_le (by omega)] at a1
    rw [List.drop_of_length_le (l := gs) (by omega)] at a2
    exact ⟨rfl, a1 ▸ h4.2.2, a2⟩
  intro k
  induction k with
  | zero =>
    intro f wd p gap gs0 h1 h2 h2' h3 h4 h5
    unfold L_X2_readWords_4
    rw [I_le (by omega) (by omega)]
    exact ⟨fun _ => fin f p gap gs0 (by omega) h2' h3 h4 h5, fun z => by omega⟩
  | succ k ih =>
    intro f wd p gap gs0 h1 h2 h2' h3 h4 h5
    unfold L_X2_readWords_4
    rw [I_le (by omega) (by omega), I_le (by omega) (by omega)]
    refine ⟨fun z => fin f p gap gs0 (by omega) h2' h3 h4 h5, fun z => ⟨fun y => fin f p gap gs0 (by omega) h2' h3 h4 h5, fun y => ?_⟩⟩
    -- what a right text has here
    have hc : ∀ gs rest, gs.length = n → (∀ g ∈ gs, g < 40) → F.drop p0 = encG 1 gs ++ rest → F.drop p = bytesOf (wordOf (gs.drop f)) 8 ++ (enc1 ((gs.drop f).drop (wsz (way (gs.drop f)))) ++ rest) ∧ gs.take f = gs0 ∧ ∀ g ∈ gs.drop f, g < 64 := fun gs rest e1 e2 e3 => by
      obtain ⟨a1, a2⟩ := h5 gs rest e1 e2 e3
      have hne : gs.drop f ≠ [] := by
        intro q
        have := congrArg List.length q
        rw [List.length_drop, List.length_nil] at this
        omega
      rw [enc1_step hne, List.append_assoc] at a2
      exact ⟨a2, a1, fun g hg => by have := e2 g (List.mem_of_mem_drop hg); omega⟩
    have hc8 : ∀ gs rest, gs.length = n → (∀ g ∈ gs, g < 40) → F.drop p0 = encG 1 gs ++ rest → p + 8 ≤ F.length ∧ val8 F p = wordOf (gs.drop f) ∧ F.drop (p + 8) = enc1 ((gs.drop f).drop (wsz (way (gs.drop f)))) ++ rest := fun gs rest e1 e2 e3 => by
      obtain ⟨a1, a2, a3⟩ := hc gs rest e1 e2 e3
      have hl := congrArg List.length a1
      rw [List.length_drop, List.length_append, bytesOf_len] at hl
      refine ⟨by omega, ?_, ?_⟩
      · unfold val8
        rw [a1, List.take_append_of_le_length (by rw [bytesOf_len]; omega), List.take_of_length_le (by rw [bytesOf_len]; omega), packB_bytesOf]
        exact Nat.mod_eq_of_lt (wordOf_lt a3)
      · rw [← List.drop_drop, a1, List.drop_append_of_le_length (by rw [bytesOf_len]; omega), List.drop_of_length_le (by rw [bytesOf_len]; omega), List.nil_append]
    have bad : ∀ p' gap', p' ≤ F.length → (∀ gs rest, gs.length = n → (∀ g ∈ gs, g < 40) → F.drop p0 = encG 1 gs ++ rest → False) → Φ (I 0) (I p') gap' := fun p' gap' hp' q => hΦ _ _ ⟨hp', Or.inl rfl, fun gs rest e1 e2 e3 => (q gs rest e1 e2 e3).elim⟩
    simp only [P_X0_left, P_X0_nextEight]
    rw [i_8, I_sub h3, I_le (by omega) (by omega)]
    refine ⟨fun q => ?_, fun q => bad p gap h3 (fun gs rest e1 e2 e3 => by have := (hc8 gs rest e1 e2 e3).1; omega)⟩
    refine s_eight hb hy hn h3 ?_
    have hP := val8_lt hy p
    generalize hPe : val8 F p = P at hP hc8
    rw [I_add, imin_I (by omega) (by omega), Nat.min_eq_left (by omega), j_15, J_and, and_15, JI, i_11, I_lt (by omega) (by omega)]
    refine ⟨fun x => ?_, fun x => bad _ gap (by omega) (fun gs rest e1 e2 e3 => ?_)⟩
    · have hw : P % 16 ≤ 10 := by omega
      have hws := ways hw
      have hwp := wsz_pos hw
      rw [I_in (by omega), I_cl (by omega), wayG_I hw, I_sub h2', imin_I (by omega) (by omega)]
      refine ⟨x, min (wsz (P % 16)) (n - f) + 1, ?_⟩
      refine l_rdword (gsF := gs0) (tk := min (wsz (P % 16)) (n - f)) hP hw hn40 rfl h2' (fun gap' g1 g2 => ?_) (fun gap' j hj hbad => bad _ gap' (by omega) (fun gs rest e1 e2 e3 => ?_)) (min (wsz (P % 16)) (n - f)) 0 gap (by omega) (by omega) (by simpa using h4) (fun j hj => by omega)
      · rw [I_add, i_1, I_add]
        refine ih (f + min (wsz (P % 16)) (n - f)) (wd + 1) (p + 8) gap' _ (by omega) (by omega) (by omega) (by omega) g1 (fun gs rest e1 e2 e3 => ?_)
        obtain ⟨b1, b2, b3⟩ := hc8 gs rest e1 e2 e3
        obtain ⟨-, b4, b5⟩ := hc gs rest e1 e2 e3
        obtain ⟨c1, c2⟩ := wordOf_dg b5
        rw [← b2] at c1 c2
        rw [← c1] at c2 b3
        have htl : ((List.range (min (wsz (P % 16)) (n - f))).map (dg P (P % 16))) = (gs.drop f).take (min (wsz (P % 16)) (n - f)) := by
          apply List.ext_getElem?
          intro j
          by_cases hj : j < min (wsz (P % 16)) (n - f)
          · rw [List.getElem?_map, List.getElem?_range hj, List.getElem?_take, if_pos hj]
            simp only [Option.map_some]
            rw [c2 j (by omega), List.getD_eq_getElem?_getD, List.getElem?_eq_getElem (by rw [List.length_drop]; omega)]; rfl
          · rw [List.getElem?_eq_none (by simp; omega), List.getElem?_eq_none (by rw [List.length_take]; omega)]
        refine ⟨?_, ?_⟩
        · rw [htl, ← b4, List.take_add]
        · rw [b3, List.drop_drop]
          congr 2
          by_cases h : wsz (P % 16) ≤ n - f
          · rw [Nat.min_eq_left h]
          · rw [Nat.min_eq_right (by omega), List.drop_of_length_le (by omega), List.drop_of_length_le (by omega)]
      · obtain ⟨b1, b2, b3⟩ := hc8 gs rest e1 e2 e3
        obtain ⟨-, b4, b5⟩ := hc gs rest e1 e2 e3
        obtain ⟨c1, c2⟩ := wordOf_dg b5
        rw [← b2] at c1 c2
        rw [← c1] at c2
        rw [c2 j (by omega), getD_drop] at hbad
        by_cases hj2 : f + j < gs.length
        · exact hbad (e2 _ (getD_mem hj2))
        · rw [getD_over (by omega)] at hbad; omega
    · obtain ⟨b1, b2, b3⟩ := hc8 gs rest e1 e2 e3
      obtain ⟨-, b4, b5⟩ := hc gs rest e1 e2 e3
      have c1 := (wordOf_dg b5).1
      have := way_le5 b5
      rw [← b2] at c1
      omega
theorem s_rdwords {F : List Nat} {row gap : Nat → Int32} {p n : Nat} {Φ : Int32 → Int32 → (Nat → Int32) → Prop} (hb : BRow row F) (hy : byt F) (hn : F.length ≤ 6650) (hn40 : n ≤ 40) (hp : p ≤ F.length)
    (h : ∀ r p' gap', RG F p 1 n r p' gap' → Φ r (I p') gap') : P_X2_readWords 6650 (I n) (I F.length) (I p) row gap Φ :=
  ⟨n + 1, l_rdwords (K := fun a1_place_20 gap_21 => Φ 1 a1_place_20 gap_21) hb hy hn hn40 (fun p' gap' q => h _ p' gap' q) (fun p' gap' q => h _ p' gap' q) n 0 0 p gap [] (by omega) (by omega) (by omega) hp ⟨rfl, by simp, fun j hj => by simp at hj⟩ (fun gs rest e1 e2 e3 => ⟨rfl, by simpa [encG] using e3⟩)⟩
