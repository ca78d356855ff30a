
/-! doubles that are no less than 0, in units of the least one -/
def uu (a : UInt64) : Nat := FP.Core.zmag FP.Core.b64 (FP.Core.val64 a)
theorem sc_fin {a : UInt64} (h : scOK a) : FP.Core.DFin a := (FP.Core.fin_bits a).mpr (by unfold scOK at h; omega)
theorem sc_nn {a : UInt64} (h : scOK a) : FP.Core.val64 a ≠ .nan := (sc_fin h).ne_nan
theorem vf_iff (r : UInt64) : vf_n64 r ↔ FP.Core.val64 r ≠ .nan := by
  unfold vf_n64
  rw [FP.Core.ne_nan, UInt64.le_iff_toNat_le, FP.Core.mask_toNat]
  rfl
theorem sc_shape {a : UInt64} (h : scOK a) : ∃ c q, FP.Core.val64 a = .fin false c q ∧ FP.Core.fits FP.Core.b64 (.fin false c q) ∧ uu a = c * 2 ^ (q - FP.Core.b64.qmin).toNat ∧ FP.Core.b64.qmin ≤ q := by
  obtain ⟨s, c, q, e⟩ := sc_fin h
  have b := FP.Core.sgn_bits (sc_nn h)
  have b2 : decide (2 ^ 63 ≤ a.toNat) = false := decide_eq_false (by unfold scOK at h; omega)
  rw [b2, e] at b
  have b3 : s = false := b
  subst b3
  have f := FP.Core.val64_fits a
  rw [e] at f
  exact ⟨c, q, e, f, by unfold uu; rw [e]; rfl, f.2.1⟩
theorem sc_le {a b : UInt64} (ha : scOK a) (hb : scOK b) : uu a ≤ uu b ↔ a.toNat ≤ b.toNat := by
  unfold uu
  rw [FP.Core.zmag_bits (sc_nn ha), FP.Core.zmag_bits (sc_nn hb), FP.Core.unitsOf_le_iff]
  unfold scOK at ha hb
  rw [Nat.mod_eq_of_lt (by omega), Nat.mod_eq_of_lt (by omega)]
theorem sc_mk {r : UInt64} {V : UInt64} (hn : FP.Core.val64 r ≠ .nan) (hs : FP.Core.sgn (FP.Core.val64 r) = false) (hV : scOK V) (h : uu r ≤ uu V) : scOK r := by
  have b := FP.Core.sgn_bits hn
  rw [hs] at b
  have c := of_decide_eq_false b.symm
  unfold uu at h
  rw [FP.Core.zmag_bits hn, FP.Core.zmag_bits (sc_nn hV), FP.Core.unitsOf_le_iff] at h
  unfold scOK at hV ⊢
  rw [Nat.mod_eq_of_lt (by omega), Nat.mod_eq_of_lt (by omega)] at h
  omega
theorem sc_i2d {n : Nat} (h : n < 2147483648) : scOK (FP.i2d (I n)) ∧ uu (FP.i2d (I n)) = n * FP.Core.one64 := by
  have a := FP.Core.DInt_zval (FP.Core.i2d_int (I n))
  rw [I_toInt h] at a
  have hn : FP.Core.val64 (FP.i2d (I n)) ≠ .nan := (FP.Core.i2d_fin (I n)).ne_nan
  have hs : FP.Core.sgn (FP.Core.val64 (FP.i2d (I n))) = false := by
    show FP.Core.sgn (FP.Core.val64 (FP.Core.i2d (I n))) = false
    rw [FP.Core.val64_i2d, I_toInt h]
    show FP.Core.sgn (FP.Core.roundRatio _ _ _ _ _) = false
    rw [FP.Core.sgn_roundRatio]
    exact decide_eq_false (by omega)
  have b := FP.Core.sgn_bits hn
  rw [hs] at b
  have c := of_decide_eq_false b.symm
  have d := (FP.Core.fin_bits _).mp (FP.Core.i2d_fin (I n))
  have e : scOK (FP.i2d (I n)) := by
    unfold scOK
    show (FP.Core.i2d (I n)).toNat < _
    rw [Nat.mod_eq_of_lt (by exact Nat.lt_of_not_le c)] at d
    exact d
  refine ⟨e, ?_⟩
  unfold FP.Core.zval at a
  have a2 : FP.Core.signed (FP.Core.sgn (FP.Core.val64 (FP.i2d (I n)))) (FP.Core.zmag FP.Core.b64 (FP.Core.val64 (FP.i2d (I n)))) = (n : Int) * (FP.Core.one64 : Int) := a
  rw [hs] at a2
  have a3 : ((uu (FP.i2d (I n)) : Nat) : Int) = (n : Int) * (FP.Core.one64 : Int) := a2
  rw [← Int.natCast_mul] at a3
  exact Int.ofNat.inj a3
/-- a rounded quotient of whole numbers -/
def RR (r : UInt64) (P Q : Nat) : Prop := ∃ A B e e0, 0 < B ∧ FP.Core.val64 r = FP.Core.roundRatio FP.Core.b64 false A B e ∧ e0 ≤ FP.Core.b64.qmin ∧ e0 ≤ e ∧ FP.Core.inUnits A e e0 = P ∧ 2 ^ (FP.Core.b64.qmin - e0).toNat * B = Q
theorem RR.nn {r : UInt64} {P Q : Nat} (h : RR r P Q) : FP.Core.val64 r ≠ .nan := by
  obtain ⟨A, B, e, e0, h1, h2, -⟩ := h
  rw [h2]; exact FP.Core.roundRatio_ne_nan _ _ _ _ _
theorem RR.vf {r : UInt64} {P Q : Nat} (h : RR r P Q) : vf_n64 r := (vf_iff r).mpr h.nn
theorem RR.sg {r : UInt64} {P Q : Nat} (h : RR r P Q) : FP.Core.sgn (FP.Core.val64 r) = false := by
  obtain ⟨A, B, e, e0, h1, h2, -⟩ := h
  rw [h2, FP.Core.sgn_roundRatio]
theorem RR.le {r : UInt64} {P Q : Nat} (h : RR r P Q) {V : FP.Core.Datum} (hV : FP.Core.fits FP.Core.b64 V) (hn : V ≠ .nan) (hle : P ≤ FP.Core.zmag FP.Core.b64 V * Q) : uu r ≤ FP.Core.zmag FP.Core.b64 V := by
  obtain ⟨A, B, e, e0, h1, h2, h3, h4, h5, h6⟩ := h
  unfold uu; rw [h2]
  exact FP.Core.zmag_roundRatio_le FP.Core.good_b64 h1 hV hn h3 h4 (by rw [h5, Nat.mul_assoc, h6]; exact hle)
theorem RR.ge {r : UInt64} {P Q : Nat} (h : RR r P Q) {V : FP.Core.Datum} (hV : FP.Core.fits FP.Core.b64 V) (hle : FP.Core.zmag FP.Core.b64 V * Q ≤ P) : FP.Core.zmag FP.Core.b64 V ≤ uu r := by
  obtain ⟨A, B, e, e0, h1, h2, h3, h4, h5, h6⟩ := h
  unfold uu; rw [h2]
  exact FP.Core.zmag_roundRatio_ge FP.Core.good_b64 h1 hV h3 h4 (by rw [h5, Nat.mul_assoc, h6]; exact hle)
theorem RR.below {r : UInt64} {P Q k : Nat} (h : RR r P Q) (hk : k < 2147483648) (hle : P ≤ k * FP.Core.one64 * Q) : scOK r ∧ uu r ≤ k * FP.Core.one64 := by
  obtain ⟨a, b⟩ := sc_i2d hk
  have c := h.le (FP.Core.val64_fits (FP.i2d (I k))) (sc_nn a) (by show P ≤ uu _ * Q; rw [b]; exact hle)
  have d : uu r ≤ uu (FP.i2d (I k)) := c
  exact ⟨sc_mk h.nn h.sg a d, by rw [b] at d; exact d⟩
theorem RR.above {r : UInt64} {P Q k : Nat} (h : RR r P Q) (hk : k < 2147483648) (hle : k * FP.Core.one64 * Q ≤ P) : k * FP.Core.one64 ≤ uu r := by
  obtain ⟨a, b⟩ := sc_i2d hk
  have c := h.ge (FP.Core.val64_fits (FP.i2d (I k))) (by show uu _ * Q ≤ P; rw [b]; exact hle)
  have d : uu (FP.i2d (I k)) ≤ uu r := c
  rwa [b] at d
theorem qmin_v : FP.Core.b64.qmin = -1074 := FP.Core.qmin_b64
theorem rr_mul {a b : UInt64} (ha : scOK a) (hb : scOK b) : RR (FP.dmul a b) (uu a * uu b) FP.Core.one64 := by
  obtain ⟨c, q, a1, a2, a3, a4⟩ := sc_shape ha
  obtain ⟨d, r, b1, b2, b3, b4⟩ := sc_shape hb
  refine ⟨c * d, 1, q + r, FP.Core.b64.qmin + FP.Core.b64.qmin, by decide, ?_, by rw [qmin_v]; decide, by omega, ?_, ?_⟩
  · show FP.Core.val64 (FP.Core.dmul a b) = _
    rw [FP.Core.val64_dmul, a1, b1]; rfl
  · unfold FP.Core.inUnits
    rw [a3, b3, show (q + r - (FP.Core.b64.qmin + FP.Core.b64.qmin)).toNat = (q - FP.Core.b64.qmin).toNat + (r - FP.Core.b64.qmin).toNat from by omega, Nat.pow_add]
    ac_rfl
  · rw [Nat.mul_one, ← FP.Core.pow_qmin64, show FP.Core.b64.qmin - (FP.Core.b64.qmin + FP.Core.b64.qmin) = -FP.Core.b64.qmin from by omega]
theorem rr_div {a b : UInt64} (ha : scOK a) (hb : scOK b) (h0 : 0 < uu b) : RR (FP.ddiv a b) (uu a * FP.Core.one64) (uu b) := by
  obtain ⟨c, q, a1, a2, a3, a4⟩ := sc_shape ha
  obtain ⟨d, r, b1, b2, b3, b4⟩ := sc_shape hb
  have hd : d ≠ 0 := fun z => by subst z; rw [Nat.zero_mul] at b3; omega
  have hq := qmin_v
  refine ⟨c, d, q - r, FP.Core.b64.qmin + FP.Core.b64.qmin - r, by omega, ?_, by omega, by omega, ?_, ?_⟩
  · show FP.Core.val64 (FP.Core.ddiv a b) = _
    rw [FP.Core.val64_ddiv, a1, b1]
    show (if d = 0 then _ else _) = _
    rw [if_neg hd]; rfl
  · unfold FP.Core.inUnits
    rw [a3, ← FP.Core.pow_qmin64, show (q - r - (FP.Core.b64.qmin + FP.Core.b64.qmin - r)).toNat = (q - FP.Core.b64.qmin).toNat + (-FP.Core.b64.qmin).toNat from by omega, Nat.pow_add]
    exact (Nat.mul_assoc _ _ _).symm
  · rw [b3, Nat.mul_comm, show (FP.Core.b64.qmin - (FP.Core.b64.qmin + FP.Core.b64.qmin - r)).toNat = (r - FP.Core.b64.qmin).toNat from by omega]
theorem sgn_sum (t : Bool) (n : Nat) (h : (false && t) = false) : FP.Core.sumSign false t (n : Int) = false := by
  unfold FP.Core.sumSign
  by_cases z : (n : Int) = 0
  · rw [if_pos z]; exact h
  · rw [if_neg z]; exact decide_eq_false (by omega)
theorem rr_add {a b : UInt64} (ha : scOK a) (hb : scOK b) : RR (FP.dadd a b) (uu a + uu b) 1 := by
  obtain ⟨c, q, a1, a2, a3, a4⟩ := sc_shape ha
  obtain ⟨d, r, b1, b2, b3, b4⟩ := sc_shape hb
  have hs : FP.Core.sumUnits false c q false d r (min q r) = ((FP.Core.inUnits c q (min q r) + FP.Core.inUnits d r (min q r) : Nat) : Int) := rfl
  refine ⟨FP.Core.inUnits c q (min q r) + FP.Core.inUnits d r (min q r), 1, min q r, FP.Core.b64.qmin, by decide, ?_, by omega, by omega, ?_, by rw [Int.sub_self]; rfl⟩
  · show FP.Core.val64 (FP.Core.dadd a b) = _
    rw [FP.Core.val64_dadd, a1, b1]
    show FP.Core.round _ (.fin (FP.Core.sumSign false false (FP.Core.sumUnits false c q false d r (min q r))) (FP.Core.sumUnits false c q false d r (min q r)).natAbs (min q r)) = _
    rw [hs]
    have h2 : FP.Core.sumSign false false ((FP.Core.inUnits c q (min q r) + FP.Core.inUnits d r (min q r) : Nat) : Int) = false := by
      exact sgn_sum _ _ rfl
    rw [h2]; rfl
  · show (FP.Core.inUnits c q (min q r) + FP.Core.inUnits d r (min q r)) * 2 ^ _ = _
    rw [Nat.add_mul, a3, b3]
    have e1 := FP.Core.inUnits_move c (q := q) (e := FP.Core.b64.qmin) (r := min q r) (by omega) (by omega)
    have e2 := FP.Core.inUnits_move d (q := r) (e := FP.Core.b64.qmin) (r := min q r) (by omega) (by omega)
    rw [← e1, ← e2]; rfl
theorem rr_sub {a b : UInt64} (ha : scOK a) (hb : scOK b) (hle : uu b ≤ uu a) : RR (FP.dsub a b) (uu a - uu b) 1 := by
  obtain ⟨c, q, a1, a2, a3, a4⟩ := sc_shape ha
  obtain ⟨d, r, b1, b2, b3, b4⟩ := sc_shape hb
  have e1 := FP.Core.inUnits_move c (q := q) (e := FP.Core.b64.qmin) (r := min q r) (by omega) (by omega)
  have e2 := FP.Core.inUnits_move d (q := r) (e := FP.Core.b64.qmin) (r := min q r) (by omega) (by omega)
  have e3 : uu a = FP.Core.inUnits c q (min q r) * 2 ^ (min q r - FP.Core.b64.qmin).toNat := by rw [a3, ← e1]; rfl
  have e4 : uu b = FP.Core.inUnits d r (min q r) * 2 ^ (min q r - FP.Core.b64.qmin).toNat := by rw [b3, ← e2]; rfl
  have h5 : FP.Core.inUnits d r (min q r) ≤ FP.Core.inUnits c q (min q r) := by
    rw [e3, e4] at hle
    exact Nat.le_of_mul_le_mul_right hle (Nat.two_pow_pos _)
  have hs : FP.Core.sumUnits false c q true d r (min q r) = ((FP.Core.inUnits c q (min q r) - FP.Core.inUnits d r (min q r) : Nat) : Int) := by
    unfold FP.Core.sumUnits
    show (FP.Core.inUnits c q (min q r) : Int) + -(FP.Core.inUnits d r (min q r) : Int) = _
    omega
  refine ⟨FP.Core.inUnits c q (min q r) - FP.Core.inUnits d r (min q r), 1, min q r, FP.Core.b64.qmin, by decide, ?_, by omega, by omega, ?_, by rw [Int.sub_self]; rfl⟩
  · show FP.Core.val64 (FP.Core.dsub a b) = _
    rw [FP.Core.val64_dsub, a1, b1]
    show FP.Core.round _ (.fin (FP.Core.sumSign false true (FP.Core.sumUnits false c q true d r (min q r))) (FP.Core.sumUnits false c q true d r (min q r)).natAbs (min q r)) = _
    rw [hs]
    have h2 : FP.Core.sumSign false true ((FP.Core.inUnits c q (min q r) - FP.Core.inUnits d r (min q r) : Nat) : Int) = false := by
      exact sgn_sum _ _ rfl
    rw [h2]; rfl
  · show (FP.Core.inUnits c q (min q r) - FP.Core.inUnits d r (min q r)) * 2 ^ _ = _
    rw [Nat.sub_mul, e3, e4]
