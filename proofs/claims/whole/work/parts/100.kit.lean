
/-! numbers: an int that is known as a Nat -/
def I (n : Nat) : Int32 := Int32.ofNat n
def J (n : Nat) : Int64 := Int64.ofNat n
theorem i_0 : (0 : Int32) = I 0 := rfl
theorem i_1 : (1 : Int32) = I 1 := rfl
theorem i_2 : (2 : Int32) = I 2 := rfl
theorem i_3 : (3 : Int32) = I 3 := rfl
theorem i_4 : (4 : Int32) = I 4 := rfl
theorem i_5 : (5 : Int32) = I 5 := rfl
theorem i_6 : (6 : Int32) = I 6 := rfl
theorem i_7 : (7 : Int32) = I 7 := rfl
theorem i_8 : (8 : Int32) = I 8 := rfl
theorem i_9 : (9 : Int32) = I 9 := rfl
theorem i_10 : (10 : Int32) = I 10 := rfl
theorem i_11 : (11 : Int32) = I 11 := rfl
theorem i_12 : (12 : Int32) = I 12 := rfl
theorem i_15 : (15 : Int32) = I 15 := rfl
theorem i_16 : (16 : Int32) = I 16 := rfl
theorem i_20 : (20 : Int32) = I 20 := rfl
theorem i_24 : (24 : Int32) = I 24 := rfl
theorem i_30 : (30 : Int32) = I 30 := rfl
theorem i_31 : (31 : Int32) = I 31 := rfl
theorem i_32 : (32 : Int32) = I 32 := rfl
theorem i_40 : (40 : Int32) = I 40 := rfl
theorem i_57 : (57 : Int32) = I 57 := rfl
theorem i_60 : (60 : Int32) = I 60 := rfl
theorem i_61 : (61 : Int32) = I 61 := rfl
theorem i_63 : (63 : Int32) = I 63 := rfl
theorem i_64 : (64 : Int32) = I 64 := rfl
theorem i_65 : (65 : Int32) = I 65 := rfl
theorem i_73 : (73 : Int32) = I 73 := rfl
theorem i_90 : (90 : Int32) = I 90 := rfl
theorem i_97 : (97 : Int32) = I 97 := rfl
theorem i_100 : (100 : Int32) = I 100 := rfl
theorem i_101 : (101 : Int32) = I 101 := rfl
theorem i_109 : (109 : Int32) = I 109 := rfl
theorem i_115 : (115 : Int32) = I 115 := rfl
theorem i_122 : (122 : Int32) = I 122 := rfl
theorem i_127 : (127 : Int32) = I 127 := rfl
theorem i_128 : (128 : Int32) = I 128 := rfl
theorem i_255 : (255 : Int32) = I 255 := rfl
theorem i_256 : (256 : Int32) = I 256 := rfl
theorem i_320 : (320 : Int32) = I 320 := rfl
theorem i_512 : (512 : Int32) = I 512 := rfl
theorem i_600 : (600 : Int32) = I 600 := rfl
theorem i_601 : (601 : Int32) = I 601 := rfl
theorem i_1100 : (1100 : Int32) = I 1100 := rfl
theorem i_1500 : (1500 : Int32) = I 1500 := rfl
theorem i_2560 : (2560 : Int32) = I 2560 := rfl
theorem i_3000 : (3000 : Int32) = I 3000 := rfl
theorem i_6650 : (6650 : Int32) = I 6650 := rfl
theorem i_12800 : (12800 : Int32) = I 12800 := rfl
theorem i_16000 : (16000 : Int32) = I 16000 := rfl
theorem i_65521 : (65521 : Int32) = I 65521 := rfl
theorem i_65536 : (65536 : Int32) = I 65536 := rfl
theorem j_0 : (0 : Int64) = J 0 := rfl
theorem j_1 : (1 : Int64) = J 1 := rfl
theorem j_2 : (2 : Int64) = J 2 := rfl
theorem j_3 : (3 : Int64) = J 3 := rfl
theorem j_4 : (4 : Int64) = J 4 := rfl
theorem j_5 : (5 : Int64) = J 5 := rfl
theorem j_6 : (6 : Int64) = J 6 := rfl
theorem j_7 : (7 : Int64) = J 7 := rfl
theorem j_8 : (8 : Int64) = J 8 := rfl
theorem j_10 : (10 : Int64) = J 10 := rfl
theorem j_15 : (15 : Int64) = J 15 := rfl
theorem j_40 : (40 : Int64) = J 40 := rfl
theorem j_63 : (63 : Int64) = J 63 := rfl
theorem j_64 : (64 : Int64) = J 64 := rfl
theorem j_255 : (255 : Int64) = J 255 := rfl
theorem j_65521 : (65521 : Int64) = J 65521 := rfl
theorem j_65536 : (65536 : Int64) = J 65536 := rfl
theorem j_4294967295 : (4294967295 : Int64) = J 4294967295 := rfl
theorem I_of (n : Nat) : Int32.ofNat n = I n := rfl
theorem J_of (n : Nat) : Int64.ofNat n = J n := rfl
theorem I_le {a b : Nat} (ha : a < 2147483648) (hb : b < 2147483648) : (I a ≤ I b) = (a ≤ b) := propext (Int32.ofNat_le_iff_le ha hb)
theorem I_lt {a b : Nat} (ha : a < 2147483648) (hb : b < 2147483648) : (I a < I b) = (a < b) := propext (Int32.ofNat_lt_iff_lt ha hb)
theorem I_cl {a : Nat} (ha : a < 2147483648) : (I a).toNatClampNeg = a := Int32.toNatClampNeg_ofNat_of_lt ha
theorem I_eq {a b : Nat} (ha : a < 2147483648) (hb : b < 2147483648) : (I a = I b) = (a = b) := propext ⟨fun h => by
  have := congrArg Int32.toNatClampNeg h
  rwa [I_cl ha, I_cl hb] at this, fun h => h ▸ rfl⟩
theorem I_add (a b : Nat) : I a + I b = I (a + b) := (Int32.ofNat_add a b).symm
theorem I_sub {a b : Nat} (h : b ≤ a) : I a - I b = I (a - b) := (Int32.ofNat_sub a b h).symm
theorem I_mul (a b : Nat) : I a * I b = I (a * b) := (Int32.ofNat_mul a b).symm
theorem I_an {a : Nat} (h : 1 ≤ a) : I a + (-1 : Int32) = I (a - 1) := by
  rw [← I_sub h, Int32.sub_eq_add_neg, i_1]
theorem I_n1 {a : Nat} (h : 1 ≤ a) : I a + (- I 1) = I (a - 1) := I_an h
theorem I_toInt {a : Nat} (ha : a < 2147483648) : (I a).toInt = a := Int32.toInt_ofNat_of_lt ha
theorem I_in {a n : Nat} (ha : a < 2147483648) : vp_in (I a) n = (a < n) := by
  unfold vp_in
  have h : ¬ (I a < 0) := by rw [i_0, I_lt ha (by omega)]; omega
  rw [I_cl ha]
  exact propext ⟨fun q => by omega, fun q z => z.elim h (by omega)⟩
theorem not_le_n (a b : Nat) : (¬ a ≤ b) = (b < a) := propext Nat.not_le
theorem not_lt_n (a b : Nat) : (¬ a < b) = (b ≤ a) := propext Nat.not_lt
theorem I_surj {x : Int32} (h : ¬ x < I 0) : ∃ a, a < 2147483648 ∧ x = I a :=
  ⟨x.toNatClampNeg, Int32.toNatClampNeg_lt x, (Int32.ofNat_toNatClampNeg x (Int32.not_lt.mp h)).symm⟩
theorem I_surj' {x : Int32} {a : Nat} (h : ¬ x < I a) (ha : a < 2147483648) : ∃ b, b < 2147483648 ∧ a ≤ b ∧ x = I b := by
  have h0 : ¬ x < I 0 := fun q => h (Int32.lt_of_lt_of_le q (by rw [I_le (by omega) ha]; omega))
  obtain ⟨b, h1, rfl⟩ := I_surj h0
  rw [I_lt h1 ha] at h
  exact ⟨b, h1, by omega, rfl⟩
theorem I_ltN {x : Int32} {a : Nat} (h : x < I 0) (ha : a < 2147483648) : x < I a := Int32.lt_of_lt_of_le h (by rw [I_le (by omega) ha]; omega)
theorem J_le {a b : Nat} (ha : a < 9223372036854775808) (hb : b < 9223372036854775808) : (J a ≤ J b) = (a ≤ b) := propext (Int64.ofNat_le_iff_le ha hb)
theorem J_lt {a b : Nat} (ha : a < 9223372036854775808) (hb : b < 9223372036854775808) : (J a < J b) = (a < b) := propext (Int64.ofNat_lt_iff_lt ha hb)
theorem J_un (a : Nat) : (J a).toUInt64 = UInt64.ofNat a := rfl
theorem J_eq {a b : Nat} (ha : a < 18446744073709551616) (hb : b < 18446744073709551616) : (J a = J b) = (a = b) := propext ⟨fun h => by
  have := congrArg (fun z => z.toUInt64.toNat) h
  simp only [J_un, UInt64.toNat_ofNat'] at this
  omega, fun h => h ▸ rfl⟩
theorem J_add (a b : Nat) : J a + J b = J (a + b) := (Int64.ofNat_add a b).symm
theorem J_sub {a b : Nat} (h : b ≤ a) : J a - J b = J (a - b) := (Int64.ofNat_sub a b h).symm
theorem J_mul (a b : Nat) : J a * J b = J (a * b) := (Int64.ofNat_mul a b).symm
theorem J_surj (x : Int64) : ∃ a, a < 18446744073709551616 ∧ x = J a := ⟨x.toUInt64.toNat, x.toUInt64.toNat_lt, by
  apply Int64.toBitVec.inj
  show x.toBitVec = BitVec.ofNat 64 x.toUInt64.toNat
  simp⟩
theorem IJ {a : Nat} (ha : a < 2147483648) : (I a).toInt64 = J a := by
  apply Int64.toInt.inj
  rw [Int32.toInt_toInt64, I_toInt ha]
  exact (Int64.toInt_ofNat_of_lt (by omega)).symm
theorem JI (a : Nat) : (J a).toInt32 = I a := by
  apply Int32.toBitVec.inj
  show BitVec.signExtend 32 (BitVec.ofNat 64 a) = BitVec.ofNat 32 a
  rw [BitVec.signExtend_eq_setWidth_of_le _ (by decide)]
  apply BitVec.eq_of_toNat_eq
  simp only [BitVec.toNat_setWidth, BitVec.toNat_ofNat]
  omega
theorem I_and (a b : Nat) : I a &&& I b = I (a &&& b) := by
  apply Int32.toBitVec.inj
  show BitVec.ofNat 32 a &&& BitVec.ofNat 32 b = BitVec.ofNat 32 (a &&& b)
  apply BitVec.eq_of_toNat_eq
  simp only [BitVec.toNat_and, BitVec.toNat_ofNat, Nat.and_mod_two_pow]
theorem I_or (a b : Nat) : I a ||| I b = I (a ||| b) := by
  apply Int32.toBitVec.inj
  show BitVec.ofNat 32 a ||| BitVec.ofNat 32 b = BitVec.ofNat 32 (a ||| b)
  apply BitVec.eq_of_toNat_eq
  simp only [BitVec.toNat_or, BitVec.toNat_ofNat, Nat.or_mod_two_pow]
theorem J_and (a b : Nat) : J a &&& J b = J (a &&& b) := by
  apply Int64.toBitVec.inj
  show BitVec.ofNat 64 a &&& BitVec.ofNat 64 b = BitVec.ofNat 64 (a &&& b)
  apply BitVec.eq_of_toNat_eq
  simp only [BitVec.toNat_and, BitVec.toNat_ofNat, Nat.and_mod_two_pow]
theorem J_or (a b : Nat) : J a ||| J b = J (a ||| b) := by
  apply Int64.toBitVec.inj
  show BitVec.ofNat 64 a ||| BitVec.ofNat 64 b = BitVec.ofNat 64 (a ||| b)
  apply BitVec.eq_of_toNat_eq
  simp only [BitVec.toNat_or, BitVec.toNat_ofNat, Nat.or_mod_two_pow]
theorem and_255 (a : Nat) : a &&& 255 = a % 256 := Nat.and_two_pow_sub_one_eq_mod a 8
theorem and_31 {a : Nat} (h : a < 32) : a &&& 31 = a := by rw [Nat.and_two_pow_sub_one_eq_mod a 5]; omega
theorem and_63 {a : Nat} (h : a < 64) : a &&& 63 = a := by rw [Nat.and_two_pow_sub_one_eq_mod a 6]; omega
/-- shifts by a small known number -/
theorem I_sl {a k : Nat} (hk : k < 32) : I a <<< (I k &&& I 31) = I (a * 2 ^ k) := by
  rw [I_and, and_31 hk]
  apply Int32.toBitVec.inj
  rw [Int32.toBitVec_shiftLeft]
  show BitVec.ofNat 32 a <<< ((BitVec.ofNat 32 k).smod 32) = BitVec.ofNat 32 (a * 2 ^ k)
  have e : (BitVec.ofNat 32 k).smod 32 = BitVec.ofNat 32 k := by
    rw [BitVec.smod_eq]
    have h1 : (BitVec.ofNat 32 k).msb = false := by
      rw [BitVec.msb_eq_decide]; simp only [BitVec.toNat_ofNat]; simp; omega
    rw [h1]
    show (BitVec.ofNat 32 k) % (32#32) = _
    apply BitVec.eq_of_toNat_eq
    simp only [BitVec.toNat_umod, BitVec.toNat_ofNat]
    rw [Nat.mod_eq_of_lt (show k < 2 ^ 32 by omega)]
    exact Nat.mod_eq_of_lt (by omega)
  rw [e]
  apply BitVec.eq_of_toNat_eq
  rw [BitVec.shiftLeft_eq', BitVec.toNat_shiftLeft]
  simp only [BitVec.toNat_ofNat]
  rw [Nat.mod_eq_of_lt (show k < 2 ^ 32 by omega), Nat.shiftLeft_eq, Nat.mod_mul_mod]
theorem J_sl {a k : Nat} (hk : k < 64) : J a <<< (J k &&& J 63) = J (a * 2 ^ k) := by
  rw [J_and, and_63 hk]
  apply Int64.toBitVec.inj
  rw [Int64.toBitVec_shiftLeft]
  show BitVec.ofNat 64 a <<< ((BitVec.ofNat 64 k).smod 64) = BitVec.ofNat 64 (a * 2 ^ k)
  have e : (BitVec.ofNat 64 k).smod 64 = BitVec.ofNat 64 k := by
    rw [BitVec.smod_eq]
    have h1 : (BitVec.ofNat 64 k).msb = false := by
      rw [BitVec.msb_eq_decide]; simp only [BitVec.toNat_ofNat]; simp; omega
    rw [h1]
    show (BitVec.ofNat 64 k) % (64#64) = _
    apply BitVec.eq_of_toNat_eq
    simp only [BitVec.toNat_umod, BitVec.toNat_ofNat]
    rw [Nat.mod_eq_of_lt (show k < 2 ^ 64 by omega)]
    exact Nat.mod_eq_of_lt (by omega)
  rw [e]
  apply BitVec.eq_of_toNat_eq
  rw [BitVec.shiftLeft_eq', BitVec.toNat_shiftLeft]
  simp only [BitVec.toNat_ofNat]
  rw [Nat.mod_eq_of_lt (show k < 2 ^ 64 by omega), Nat.shiftLeft_eq, Nat.mod_mul_mod]
/-- the logical shift right of a long -/
theorem J_ur {a k : Nat} (ha : a < 18446744073709551616) (hk : k < 64) : ((J a).toUInt64 >>> ((J k).toUInt64 &&& Int64.toUInt64 63)).toInt64 = J (a / 2 ^ k) := by
  have e : (J k).toUInt64 &&& Int64.toUInt64 63 = UInt64.ofNat k := by
    apply UInt64.toNat_inj.mp
    rw [UInt64.toNat_and, J_un]
    simp only [UInt64.toNat_ofNat']
    rw [Nat.mod_eq_of_lt (by omega)]
    exact and_63 hk
  rw [e, J_un]
  apply Int64.toBitVec.inj
  show (UInt64.ofNat a >>> UInt64.ofNat k).toBitVec = BitVec.ofNat 64 (a / 2 ^ k)
  apply BitVec.eq_of_toNat_eq
  show (UInt64.ofNat a >>> UInt64.ofNat k).toNat = _
  rw [UInt64.toNat_shiftRight]
  simp only [UInt64.toNat_ofNat', BitVec.toNat_ofNat]
  rw [Nat.mod_eq_of_lt (show a < 2 ^ 64 by omega), Nat.mod_eq_of_lt (show k < 2 ^ 64 by omega), Nat.mod_eq_of_lt hk, Nat.shiftRight_eq_div_pow]
  exact (Nat.mod_eq_of_lt (Nat.lt_of_le_of_lt (Nat.div_le_self _ _) (by omega))).symm
/-- a byte of a long, by the arithmetic shift -/
theorem J_sr8 {a k : Nat} (ha : a < 18446744073709551616) (hk : k ≤ 56) : (J a >>> (J k &&& J 63)) &&& J 255 = J (a / 2 ^ k % 256) := by
  rw [J_and k, and_63 (by omega)]
  apply Int64.toBitVec.inj
  rw [Int64.toBitVec_and, Int64.toBitVec_shiftRight]
  show (BitVec.ofNat 64 a).sshiftRight' ((BitVec.ofNat 64 k).smod 64) &&& BitVec.ofNat 64 255 = BitVec.ofNat 64 (a / 2 ^ k % 256)
  have e : (BitVec.ofNat 64 k).smod 64 = BitVec.ofNat 64 k := by
    rw [BitVec.smod_eq]
    have h1 : (BitVec.ofNat 64 k).msb = false := by
      rw [BitVec.msb_eq_decide]; simp only [BitVec.toNat_ofNat]; simp; omega
    rw [h1]
    show (BitVec.ofNat 64 k) % (64#64) = _
    apply BitVec.eq_of_toNat_eq
    simp only [BitVec.toNat_umod, BitVec.toNat_ofNat]
    rw [Nat.mod_eq_of_lt (show k < 2 ^ 64 by omega)]
    exact Nat.mod_eq_of_lt (by omega)
  rw [e]
  apply BitVec.eq_of_getLsbD_eq
  intro i hi
  rw [BitVec.getLsbD_and, BitVec.sshiftRight_eq', BitVec.getLsbD_sshiftRight]
  simp only [BitVec.toNat_ofNat, BitVec.getLsbD_ofNat]
  rw [Nat.mod_eq_of_lt (show k < 2 ^ 64 by omega)]
  have h255 : Nat.testBit 255 i = decide (i < 8) := by
    rw [show (255 : Nat) = 2 ^ 8 - 1 from rfl, Nat.testBit_two_pow_sub_one]
  rw [h255, show (256 : Nat) = 2 ^ 8 from rfl, Nat.testBit_mod_two_pow, Nat.testBit_div_two_pow]
  by_cases h8 : i < 8
  · have h64 : ¬ (64 ≤ i) := by omega
    have : k + i < 64 := by omega
    simp [h8, this, h64, hi, Nat.add_comm]
  · simp [h8]
/-- a byte -/
theorem byte_nar (x : Int32) : (vp_nar .byte (x.toInt8.toInt32)) &&& 255 = x &&& 255 := by
  show (x.toInt8.toInt32).toInt8.toInt32 &&& 255 = x &&& 255
  rw [Int8.toInt8_toInt32]
  apply Int32.toBitVec.inj
  rw [Int32.toBitVec_and, Int32.toBitVec_and]
  show BitVec.signExtend 32 (BitVec.signExtend 8 x.toBitVec) &&& 255#32 = x.toBitVec &&& 255#32
  apply BitVec.eq_of_getLsbD_eq
  intro i hi
  have h255 : (255#32).getLsbD i = decide (i < 8) := by
    rw [BitVec.getLsbD_ofNat, show (255 : Nat) = 2 ^ 8 - 1 from rfl, Nat.testBit_two_pow_sub_one]
    simp [hi]
  rw [BitVec.getLsbD_and, BitVec.getLsbD_and, h255]
  by_cases h8 : i < 8
  · rw [BitVec.signExtend_eq_setWidth_of_le x.toBitVec (by decide), BitVec.getLsbD_signExtend, if_pos h8, BitVec.getLsbD_setWidth]
    simp only [hi, h8, decide_true, Bool.true_and]
  · simp [h8]
/-- what a byte array keeps of a number -/
def nb (x : Int32) : Int32 := vp_nar .byte (x.toInt8.toInt32)
theorem nb_I (a : Nat) : nb (I a) &&& 255 = I (a % 256) := by
  show vp_nar .byte ((I a).toInt8.toInt32) &&& 255 = _
  rw [byte_nar, i_255, I_and, and_255]
theorem nb_b {a : Nat} (h : a < 256) : nb (I a) &&& 255 = I a := by rw [nb_I, Nat.mod_eq_of_lt h]
/-- rows: of ints, of bytes, of longs -/
def Row (f : Nat → Int32) (l : List Nat) : Prop := ∀ i, i < l.length → f i = I (l.getD i 0)
def BRow (f : Nat → Int32) (l : List Nat) : Prop := ∀ i, i < l.length → f i &&& 255 = I (l.getD i 0)
def LRow (f : Nat → Int64) (l : List Nat) : Prop := ∀ i, i < l.length → f i = J (l.getD i 0)
def byt (l : List Nat) : Prop := ∀ b ∈ l, b < 256
theorem upd_eq (f : Nat → Int32) (k : Nat) (x : Int32) : upd f k x k = x := by unfold upd; simp
theorem upd_ne {f : Nat → Int32} {k j : Nat} {x : Int32} (h : j ≠ k) : upd f k x j = f j := by unfold upd; simp [h]
theorem updL_eq (f : Nat → Int64) (k : Nat) (x : Int64) : vp_updL f k x k = x := by unfold vp_updL; simp
theorem updL_ne {f : Nat → Int64} {k j : Nat} {x : Int64} (h : j ≠ k) : vp_updL f k x j = f j := by unfold vp_updL; simp [h]
theorem updF_eq {α : Type} (f : Nat → α) (k : Nat) (x : α) : vf_upd f k x k = x := by unfold vf_upd; simp
theorem updF_ne {α : Type} {f : Nat → α} {k j : Nat} {x : α} (h : j ≠ k) : vf_upd f k x j = f j := by unfold vf_upd; simp [h]
theorem getD_app1 {l m : List Nat} {i : Nat} (h : i < l.length) : (l ++ m).getD i 0 = l.getD i 0 := by
  simp only [List.getD_eq_getElem?_getD, List.getElem?_append_left h]
theorem getD_app2 (l m : List Nat) (i : Nat) : (l ++ m).getD (l.length + i) 0 = m.getD i 0 := by
  simp only [List.getD_eq_getElem?_getD, List.getElem?_append_right (Nat.le_add_right _ _), Nat.add_sub_cancel_left]
theorem getD_last (l : List Nat) (x : Nat) : (l ++ [x]).getD l.length 0 = x := by
  have := getD_app2 l [x] 0
  simpa using this
theorem Row.put {f : Nat → Int32} {l : List Nat} (h : Row f l) (x : Nat) : Row (upd f l.length (I x)) (l ++ [x]) := by
  intro i hi
  by_cases e : i = l.length
  · subst e; rw [upd_eq, getD_last]
  · have : i < l.length := by simp at hi; omega
    rw [upd_ne e, h i this, getD_app1 this]
theorem BRow.put {f : Nat → Int32} {l : List Nat} (h : BRow f l) (x : Nat) : BRow (upd f l.length (nb (I x))) (l ++ [x % 256]) := by
  intro i hi
  by_cases e : i = l.length
  · subst e; rw [upd_eq, getD_last, nb_I]
  · have : i < l.length := by simp at hi; omega
    rw [upd_ne e, h i this, getD_app1 this]
theorem LRow.put {f : Nat → Int64} {l : List Nat} (h : LRow f l) (x : Nat) : LRow (vp_updL f l.length (J x)) (l ++ [x]) := by
  intro i hi
  by_cases e : i = l.length
  · subst e; rw [updL_eq, getD_last]
  · have : i < l.length := by simp at hi; omega
    rw [updL_ne e, h i this, getD_app1 this]
theorem byt.app {l m : List Nat} (h : byt l) (g : byt m) : byt (l ++ m) := fun b hb => (List.mem_append.mp hb).elim (h b) (g b)
theorem byt.one {x : Nat} (h : x < 256) : byt [x] := fun b hb => by simp at hb; omega
theorem byt.get {l : List Nat} (h : byt l) (i : Nat) : l.getD i 0 < 256 := by
  by_cases e : i < l.length
  · rw [List.getD_eq_getElem?_getD, List.getElem?_eq_getElem e]; exact h _ (List.getElem_mem e)
  · rw [List.getD_eq_getElem?_getD, List.getElem?_eq_none (by omega)]; simp
theorem getD_over {l : List Nat} {i : Nat} (h : l.length ≤ i) : l.getD i 0 = 0 := by
  rw [List.getD_eq_getElem?_getD, List.getElem?_eq_none (by omega)]; rfl
