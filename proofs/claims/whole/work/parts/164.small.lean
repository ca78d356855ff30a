
/-! the small calls upon the file -/
theorem l_rfile {F : List Nat} {file : Nat → Int32} {k : Nat} {th : Int32} {K : Int32 → Int64 → Prop} {Φ : Int64 → Int32 → Prop} (hb : Row file F) (hy : byt F) (hn : F.length ≤ 6650) (hk : k ≤ F.length) (hK : K th (J (val8 F k))) :
    ∀ m i, 8 ≤ i + m → i ≤ 8 → (k + i ≤ F.length ∨ i = 0) → L_X9_file_36 (m + 1) th (I F.length) file (I k) (J (packB 8 ((F.drop k).take i))) (I i) K Φ := by
  have fin : ∀ i, (8 ≤ i ∨ F.length ≤ k + i) → i ≤ 8 → K th (J (packB 8 ((F.drop k).take i))) := by
    intro i h1 h2
    unfold val8 at hK
    by_cases e : i = 8
    · subst e; exact hK
    · rw [List.take_of_length_le (by rw [List.length_drop]; omega)]
      rw [List.take_of_length_le (by rw [List.length_drop]; omega)] at hK
      exact hK
  intro m
  induction m with
  | zero =>
    intro i h1 h2 h3
    unfold L_X9_file_36
    rw [i_8, I_le (by omega) (by omega)]
    exact ⟨fun _ => fin i (by omega) h2, fun z => by omega⟩
  | succ m ih =>
    intro i h1 h2 h3
    unfold L_X9_file_36
    rw [i_8, I_le (by omega) (by omega)]
    refine ⟨fun _ => fin i (by omega) h2, fun z => ?_⟩
    rw [I_add, I_le (by omega) (by omega)]
    refine ⟨fun q => fin i (by omega) h2, fun q => ?_⟩
    have hlen : ((F.drop k).take i).length = i := by rw [List.length_take, List.length_drop]; omega
    have hby : byt ((F.drop k).take i) := fun b hb => hy b (List.mem_of_mem_drop (List.mem_of_mem_take hb))
    have hpl := packB_byt_lt hby
    rw [hlen] at hpl
    have hF := hy.get (k + i)
    have key := ih (i + 1) (by omega) (by omega) (by omega)
    rw [take_succ_getD (by rw [List.length_drop]; omega), getD_drop, packB_app, hlen, Nat.add_comm (packB 8 _)] at key
    rw [I_in (by omega), I_cl (by omega), hb (k + i) (by omega), IJ (by omega), I_mul, IJ (by omega), j_63, J_sl (by omega), J_or, i_1, I_add]
    rw [← pow256] at hpl
    rw [Nat.or_comm, Nat.mul_comm (F.getD (k + i) 0), ← Nat.two_pow_add_eq_or_of_lt hpl]
    exact ⟨by omega, key⟩
theorem s_requireByte {n : Nat} {l1 : Int32} {Φ : Prop} {X : String → Prop} (hn : n < 2147483648) (hX : (∀ i, i < n → l1 ≠ I i) → X eNS) (h : ∀ i, i < n → l1 = I i → Φ) : P_X8_requireByte (I n) l1 Φ X := by
  unfold P_X8_requireByte P_X0_size
  rw [i_0]
  refine ⟨fun z => hX (fun i hi e => ?_), fun z => ⟨fun y => ?_, fun y => hX (fun i hi e => ?_)⟩⟩
  · subst e; rw [I_lt (by omega) (by omega)] at z; omega
  · obtain ⟨i, hi, e⟩ := I_surj z
    subst e
    rw [I_lt hi hn] at y
    exact h i y rfl
  · subst e; rw [I_lt (by omega) (by omega)] at y; omega
theorem s_file {F : List Nat} {row : Nat → Int32} {l1 : Int32} {Φ : Int64 → Prop} {X : String → Prop} (hb : BRow row F) (hy : byt F) (hn : F.length ≤ 6650) (hX : (∀ i, i < F.length → l1 ≠ I i) → X eNS) (h : ∀ i, i < F.length → l1 = I i → Φ (J (val8 F i))) : P_X8_file (I F.length) row l1 Φ X := by
  unfold P_X8_file
  refine s_requireByte (by omega) hX (fun i hi e => ?_)
  have hh := h i hi e
  subst e
  exact s_eight hb hy hn (by omega) hh
theorem r_file {F : List Nat} {file : Nat → Int32} {th l1 : Int32} {Φ : Int64 → Int32 → Prop} (hb : Row file F) (hy : byt F) (hn : F.length ≤ 6650) (hX : (∀ i, i < F.length → l1 ≠ I i) → Φ 0 (I 1)) (h : ∀ i, i < F.length → l1 = I i → Φ (J (val8 F i)) (I 0)) : P_X9_file th (I F.length) file l1 Φ := by
  have n10 : ¬ (I 1 = I 0) := by rw [I_eq (by omega) (by omega)]; omega
  unfold P_X9_file
  refine r_withinP (by omega) (fun i hi e => ⟨fun _ => ?_, fun z => absurd z n10⟩) (fun hno => ⟨fun z => absurd rfl z, fun _ => ?_⟩)
  · rw [i_0]
    refine r_fails0 ⟨fun _ => ⟨8 + 1, ?_⟩, fun z => absurd rfl z⟩
    have hh := h i hi e
    subst e
    exact l_rfile (k := i) (K := fun thrown_6 l2_7 => Φ l2_7 thrown_6) hb hy hn (by omega) hh 8 0 (by omega) (by omega) (Or.inr rfl)
  · rw [i_1]
    exact r_fails1 ⟨fun z => absurd z n10, fun _ => hX hno⟩
theorem I_all (x : Int32) : ∃ v, x = I v := by
  refine ⟨x.toUInt32.toNat, ?_⟩
  apply Int32.toBitVec.inj
  show x.toBitVec = BitVec.ofNat 32 x.toBitVec.toNat
  apply BitVec.eq_of_toNat_eq
  rw [BitVec.toNat_ofNat, Nat.mod_eq_of_lt x.toBitVec.isLt]
theorem low8 (x : Int32) : ∃ b, b < 256 ∧ x &&& 255 = I b ∧ nb x &&& 255 = I b := by
  obtain ⟨v, rfl⟩ := I_all x
  refine ⟨v % 256, Nat.mod_lt _ (by decide), ?_, nb_I v⟩
  rw [i_255, I_and, show (255 : Nat) = 2 ^ 8 - 1 from rfl, Nat.and_two_pow_sub_one_eq_mod]
theorem getD_set {F : List Nat} {i j b : Nat} (hi : i < F.length) : (F.set i b).getD j 0 = if j = i then b else F.getD j 0 := by
  rw [List.getD_eq_getElem?_getD, List.getD_eq_getElem?_getD, List.getElem?_set]
  by_cases e : i = j
  · subst e; rw [if_pos rfl, if_pos rfl, if_pos hi]; rfl
  · rw [if_neg e, if_neg (fun q => e q.symm)]
theorem byt.set {F : List Nat} (h : byt F) {i b : Nat} (hb : b < 256) : byt (F.set i b) := fun x hx => by
  rcases List.mem_or_eq_of_mem_set hx with q | q
  · exact h x q
  · subst q; exact hb
theorem s_spoil {F : List Nat} {row : Nat → Int32} {l1 l2 : Int32} {Φ : Int32 → (Nat → Int32) → Prop} {X : String → (Nat → Int32) → Prop} (hb : BRow row F) (hn : F.length ≤ 6650) (hX : (∀ i, i < F.length → l1 ≠ I i) → X eNS row)
    (h : ∀ i b row', i < F.length → l1 = I i → b < 256 → l2 &&& 255 = I b → BRow row' (F.set i b) → Φ (I (F.getD i 0)) row') : P_X8_spoil (I F.length) row l1 l2 Φ X := by
  unfold P_X8_spoil
  refine s_requireByte (by omega) hX (fun i hi e => ?_)
  obtain ⟨b, b1, b2, b3⟩ := low8 l2
  subst e
  unfold P_X0_at P_X0_set
  rw [i_0, I_lt (by omega) (by omega), I_le (by omega) (by omega), I_in (by omega), I_cl (by omega), hb i hi]
  refine ⟨fun z => absurd z (by omega), fun _ => ⟨fun z => absurd z (by omega), fun _ => ⟨by omega, fun z => absurd z (by omega), fun _ => ⟨fun z => absurd z (by omega), fun _ => ⟨by omega, ?_⟩⟩⟩⟩⟩
  refine h i b _ hi rfl b1 b2 (fun j hj => ?_)
  rw [List.length_set] at hj
  rw [getD_set hi]
  show (if j = i then nb l2 else row j) &&& 255 = _
  by_cases e : j = i
  · rw [if_pos e, if_pos e]; exact b3
  · rw [if_neg e, if_neg e]; exact hb j hj
theorem r_spoil {F : List Nat} {file : Nat → Int32} {th l1 l2 : Int32} {Φ : Int32 → Int32 → (Nat → Int32) → Prop} (hb : Row file F) (hn : F.length ≤ 6650) (hX : (∀ i, i < F.length → l1 ≠ I i) → Φ (I 0) (I 1) file)
    (h : ∀ i b file', i < F.length → l1 = I i → b < 256 → l2 &&& 255 = I b → Row file' (F.set i b) → Φ (I (F.getD i 0)) (I 0) file') : P_X9_spoil th (I F.length) file l1 l2 Φ := by
  have n10 : ¬ (I 1 = I 0) := by rw [I_eq (by omega) (by omega)]; omega
  unfold P_X9_spoil
  refine r_withinP (by omega) (fun i hi e => ⟨fun _ => ?_, fun z => absurd z n10⟩) (fun hno => ⟨fun z => absurd rfl z, fun _ => ?_⟩)
  · unfold J_X9_spoil_22
    rw [i_0]
    obtain ⟨b, b1, b2, b3⟩ := low8 l2
    subst e
    rw [b2, I_in (by omega), I_cl (by omega), hb i hi]
    refine r_fails0 ⟨fun _ => ⟨by omega, by omega, h i b _ hi rfl b1 b2 (fun j hj => ?_)⟩, fun z => absurd rfl z⟩
    rw [List.length_set] at hj
    rw [getD_set hi]
    show (if j = i then I b else file j) = _
    by_cases e : j = i
    · rw [if_pos e, if_pos e]
    · rw [if_neg e, if_neg e]; exact hb j hj
  · unfold J_X9_spoil_22
    rw [i_1]
    exact r_fails1 ⟨fun z => absurd z n10, fun _ => hX hno⟩
theorem Row.pre {f : Nat → Int32} {l : List Nat} (h : Row f l) (n : Nat) : Row f (l.take n) := fun i hi => by
  rw [List.length_take] at hi
  rw [h i (by omega), List.getD_eq_getElem?_getD, List.getD_eq_getElem?_getD, List.getElem?_take_of_lt (by omega)]
theorem BRow.pre {f : Nat → Int32} {l : List Nat} (h : BRow f l) (n : Nat) : BRow f (l.take n) := fun i hi => by
  rw [List.length_take] at hi
  rw [h i (by omega), List.getD_eq_getElem?_getD, List.getD_eq_getElem?_getD, List.getElem?_take_of_lt (by omega)]
theorem s_cut {n : Nat} {l1 : Int32} {Φ : Int32 → Int32 → Prop} (hn : n < 2147483648) (h0 : (∀ i, i ≤ n → l1 ≠ I i) → Φ (I 0) (I n)) (h1 : ∀ i, i ≤ n → l1 = I i → Φ (I 1) (I i)) : P_X8_cut (I n) l1 Φ := by
  unfold P_X8_cut P_X0_shorten
  rw [i_0]
  refine ⟨fun z => ⟨zok0, h0 (fun i hi e => ?_)⟩, fun z => ⟨fun y => ⟨zok1, ?_⟩, fun y => ⟨zok0, h0 (fun i hi e => ?_)⟩⟩⟩
  · subst e; rw [I_lt (by omega) (by omega)] at z; omega
  · obtain ⟨i, hi, e⟩ := I_surj z
    subst e
    rw [I_le hi hn] at y
    exact h1 i y rfl
  · subst e; rw [I_le (by omega) (by omega)] at y; omega
theorem r_cut {n : Nat} {th l1 : Int32} {Φ : Int32 → Int32 → Int32 → Prop} (hn : n < 2147483648) (h0 : (∀ i, i ≤ n → l1 ≠ I i) → Φ (I 0) (I 0) (I n)) (h1 : ∀ i, i ≤ n → l1 = I i → Φ (I 1) (I 0) (I i)) : P_X9_cut th (I n) l1 Φ := by
  have n10 : ¬ (I 1 = I 0) := by rw [I_eq (by omega) (by omega)]; omega
  unfold P_X9_cut
  rw [IJ hn, show (0 : Int64) = J 0 from rfl]
  exact r_withinS (by omega) hn (fun i _ hi e => ⟨fun _ => by rw [e]; exact h1 i hi e, fun z => absurd z n10⟩) (fun q => ⟨fun z => absurd rfl z, fun _ => h0 (fun i hi => q i (by omega) hi)⟩)
theorem s_mend {F : List Nat} {row : Nat → Int32} {Φ : Int32 → Int32 → (Nat → Int32) → Prop} (hb : BRow row F) (hy : byt F) (hn : F.length ≤ 6650)
    (h0 : F.length < 4 → Φ (I 0) (I F.length) row) (h1 : ∀ row', 4 ≤ F.length → BRow row' (F.take (F.length - 4) ++ sum4 (F.take (F.length - 4))) → Φ (I 1) (I F.length) row') : P_X8_mend (I F.length) row Φ := by
  unfold P_X8_mend P_X0_size P_X0_shorten
  rw [i_0, i_4]
  by_cases z : F.length < 4
  · have e : I F.length - I 4 < I 0 := by
      have : F.length = 0 ∨ F.length = 1 ∨ F.length = 2 ∨ F.length = 3 := by omega
      rcases this with q | q | q | q <;> rw [q] <;> decide
    exact ⟨fun _ => ⟨fun y => absurd rfl y, fun _ => h0 z⟩, fun y => absurd e y⟩
  · show _ ∧ _
    rw [I_sub (by omega), I_lt (by omega) (by omega), I_le (by omega) (by omega)]
    refine ⟨fun y => absurd y (by omega), fun _ => ⟨fun _ => ⟨fun _ => ?_, fun y => ?_⟩, fun y => absurd (Nat.sub_le _ _) y⟩⟩
    · have hl : (F.take (F.length - 4)).length = F.length - 4 := by rw [List.length_take]; omega
      have key := s_putSum (cap := 6650) (row := row) (Φ := fun size_4 row_5 => Φ 1 size_4 row_5) (hb.pre (F.length - 4)) (fun b hb => hy b (List.mem_of_mem_take hb)) (by rw [hl]; omega) (by omega) (fun row' hr => by
        have e : (F.take (F.length - 4) ++ sum4 (F.take (F.length - 4))).length = F.length := by
          rw [List.length_append, hl]; simp only [sum4, List.length_cons, List.length_nil]; omega
        rw [e]
        exact h1 row' (by omega) hr)
      rw [hl] at key
      exact key
    · rw [i_1, I_eq (by omega) (by omega)] at y; omega
theorem l_rmend {G : List Nat} {P n : Nat} {th : Int32} {K : Int32 → (Nat → Int32) → Prop} {Φ : Int32 → Int32 → (Nat → Int32) → Prop} (hP : P < 4294967296) (hn : n ≤ 6650) (hG : G.length + 4 = n) (hK : ∀ file, Row file (G ++ bytesOf P 4) → K th file) :
    ∀ k i file, 4 ≤ i + k → i ≤ 4 → Row file (G ++ bytesOf P i) → L_X9_mend_31 (k + 1) th (I n) file (J P) (I i) K Φ := by
  intro k
  induction k with
  | zero =>
    intro i file h1 h2 h3
    have e : i = 4 := by omega
    subst e
    unfold L_X9_mend_31
    rw [i_4, I_le (by omega) (by omega)]
    exact ⟨fun _ => hK file h3, fun z => absurd (Nat.le_refl _) z⟩
  | succ k ih =>
    intro i file h1 h2 h3
    unfold L_X9_mend_31
    rw [i_4, I_le (by omega) (by omega)]
    refine ⟨fun z => hK file (by rwa [show i = 4 from by omega] at h3), fun z => ?_⟩
    rw [I_sub (by omega), I_add, I_in (by omega), I_cl (by omega), i_8, I_mul, IJ (by omega), j_63, j_255, J_sr8 (by omega) (by omega), JI, i_1, I_add]
    refine ⟨by omega, ih (i + 1) _ (by omega) (by omega) ?_⟩
    have := h3.put (P / 2 ^ (8 * i) % 256)
    rw [List.length_append, bytesOf_len, show G.length + i = n - 4 + i from by omega, List.append_assoc] at this
    rw [bytesOf_succ, show 256 ^ i = 2 ^ (8 * i) from by rw [Nat.pow_mul]]
    exact this
theorem r_mend {F : List Nat} {file : Nat → Int32} {th : Int32} {Φ : Int32 → Int32 → (Nat → Int32) → Prop} (hb : Row file F) (hy : byt F) (hn : F.length ≤ 6650)
    (h0 : F.length < 4 → Φ (I 0) (I 0) file) (h1 : ∀ file', 4 ≤ F.length → Row file' (F.take (F.length - 4) ++ sum4 (F.take (F.length - 4))) → Φ (I 1) (I 0) file') : P_X9_mend th (I F.length) file Φ := by
  unfold P_X9_mend
  rw [i_4, I_le (by omega) (by omega)]
  refine ⟨fun z => ?_, fun z => h0 (by omega)⟩
  have hl : (F.take (F.length - 4)).length = F.length - 4 := by rw [List.length_take]; omega
  have ha := ad_lt (F.take (F.length - 4))
  rw [I_sub (by omega)]
  have key := r_check (row := file) (Φ := fun r_1 => ∃ n, L_X9_mend_31 n 0 (I F.length) file r_1 0 (fun thrown_4 file_5 => Φ 1 thrown_4 file_5) Φ) (hb.pre (F.length - 4)) (fun b hb => hy b (List.mem_of_mem_take hb)) (by rw [hl]; omega) ⟨4 + 1, by
    refine l_rmend (G := F.take (F.length - 4)) (by omega) hn (by rw [hl]; omega) (fun file' hf => ?_) 4 0 file (by omega) (by omega) (by
      have e : bytesOf ((ad (F.take (F.length - 4))).1 + 65536 * (ad (F.take (F.length - 4))).2) 0 = [] := rfl
      rw [e, List.append_nil]; exact hb.pre _)
    rw [← sum4_bytes] at hf
    exact h1 file' z hf⟩
  rw [hl] at key
  exact key
