
/-! an impact -/
theorem rep : ∀ k c, c < 9007199254740992 → k ≤ 2045 → ∃ V, FP.Core.fits FP.Core.b64 V ∧ V ≠ .nan ∧ FP.Core.zmag FP.Core.b64 V = c * 2 ^ k := by
  have hq := qmin_v
  have hm : FP.Core.b64.qmax = 971 := by decide
  have ht : FP.Core.b64.tails = 4503599627370496 := by decide
  have hp : (2 : Nat) ^ FP.Core.b64.p = 9007199254740992 := by decide
  intro k
  induction k with
  | zero =>
    intro c h1 _
    refine ⟨.fin false c FP.Core.b64.qmin, ⟨by rw [hp]; exact h1, by omega, by omega, Or.inl rfl⟩, FP.Core.Datum.noConfusion, ?_⟩
    show c * 2 ^ (FP.Core.b64.qmin - FP.Core.b64.qmin).toNat = _
    rw [Int.sub_self]; rfl
  | succ k ih =>
    intro c h1 h2
    by_cases z : 4503599627370496 ≤ c
    · refine ⟨.fin false c (FP.Core.b64.qmin + ((k + 1 : Nat) : Int)), ⟨by rw [hp]; exact h1, by omega, by omega, Or.inr (by rw [ht]; exact z)⟩, FP.Core.Datum.noConfusion, ?_⟩
      show c * 2 ^ (FP.Core.b64.qmin + ((k + 1 : Nat) : Int) - FP.Core.b64.qmin).toNat = _
      rw [show (FP.Core.b64.qmin + ((k + 1 : Nat) : Int) - FP.Core.b64.qmin).toNat = k + 1 from by omega]
    · obtain ⟨V, v1, v2, v3⟩ := ih (2 * c) (by omega) (by omega)
      exact ⟨V, v1, v2, by rw [v3, Nat.pow_succ]; ac_rfl⟩
theorem RR.near {r s : UInt64} {P Q : Nat} (h : RR r P Q) (hr : scOK r) (hs : scOK s) : ((P : Int) - ((uu r * Q : Nat) : Int)).natAbs ≤ ((P : Int) - ((uu s * Q : Nat) : Int)).natAbs := by
  obtain ⟨A, B, e, e0, h1, h2, h3, h4, h5, h6⟩ := h
  obtain ⟨c, q, a1, a2, a3, a4⟩ := sc_shape hr
  obtain ⟨d, t, b1, b2, b3, b4⟩ := sc_shape hs
  have n := FP.Core.roundRatio_nearest FP.Core.good_b64 h1 (h2.symm.trans a1) b2.1 b2.2.1 h3 h4
  unfold FP.Core.distance at n
  have e1 := FP.Core.units_fin a2 h3
  have e2 := FP.Core.units_fin b2 h3
  have e3 : FP.Core.zmag FP.Core.b64 (.fin false c q) = uu r := by unfold uu; rw [a1]
  have e4 : FP.Core.zmag FP.Core.b64 (.fin false d t) = uu s := by unfold uu; rw [b1]
  rw [e3] at e1
  rw [e4] at e2
  rw [e1, e2, h5, ← Int.natCast_mul, ← Int.natCast_mul, Nat.mul_assoc, Nat.mul_assoc, h6] at n
  exact n
theorem sub_ok {a b : UInt64} (ha : scOK a) (hb : scOK b) (hle : uu b ≤ uu a) : scOK (FP.dsub a b) ∧ uu (FP.dsub a b) ≤ uu a := by
  have r := rr_sub ha hb hle
  have := r.le (FP.Core.val64_fits a) (sc_nn ha) (by show _ ≤ uu a * 1; omega)
  exact ⟨sc_mk r.nn r.sg ha this, this⟩
theorem uu_inj {a b : UInt64} (ha : scOK a) (hb : scOK b) (h : uu a = uu b) : a = b := by
  have h1 := (sc_le ha hb).mp (by omega)
  have h2 := (sc_le hb ha).mp (by omega)
  exact UInt64.toNat.inj (by omega)
theorem sub_mono {v lo hi : UInt64} (hv : scOK v) (hl : scOK lo) (hh : scOK hi) (h1 : uu lo ≤ uu v) (h2 : uu v ≤ uu hi) : uu (FP.dsub v lo) ≤ uu (FP.dsub hi lo) := by
  by_cases z : uu v = uu hi
  · rw [uu_inj hv hh z]; exact Nat.le_refl _
  · have r1 := rr_sub hv hl h1
    have r2 := rr_sub hh hl (by omega)
    have o1 := (sub_ok hv hl h1).1
    have o2 := (sub_ok hh hl (by omega)).1
    have n1 := r1.near o1 o2
    have n2 := r2.near o2 o1
    rw [Nat.mul_one, Nat.mul_one] at n1 n2
    omega
theorem sub_pos {lo hi : UInt64} (hl : scOK lo) (hh : scOK hi) (h : uu lo < uu hi) : 1 ≤ uu (FP.dsub hi lo) := by
  obtain ⟨V, v1, v2, v3⟩ := rep 0 1 (by omega) (by omega)
  have e : FP.Core.zmag FP.Core.b64 V = 1 := v3
  have := (rr_sub hh hl (by omega)).ge v1 (by rw [e]; omega)
  omega
theorem one_uu : scOK FP.dconst1 ∧ uu FP.dconst1 = 4 * 2 ^ 1072 := by unfold scOK; decide +kernel
theorem half_uu : scOK 4602678819172646912 ∧ uu 4602678819172646912 = 2 * 2 ^ 1072 := by unfold scOK; decide +kernel
theorem O_v : FP.Core.one64 = 4 * 2 ^ 1072 := by decide +kernel
theorem up_256 (x : Nat) : x ≤ (x / 256 + 1) * 256 := by omega
theorem up_1024 (x d : Nat) (h : 1024 ≤ d) : 4 * ((x / 256 + 1) * 256) ≤ 4 * x + d := by omega
theorem mul_near {D : UInt64} {m : Nat} (hD : scOK D) (h0 : 1 ≤ uu D) (hb : uu D ≤ 12000 * FP.Core.one64) (hm : m < 256) : ∃ V, FP.Core.fits FP.Core.b64 V ∧ V ≠ .nan ∧ uu D * m ≤ FP.Core.zmag FP.Core.b64 V ∧ 4 * FP.Core.zmag FP.Core.b64 V ≤ uu D * (4 * m + 1) := by
  obtain ⟨d, q, a1, a2, a3, a4⟩ := sc_shape hD
  have hp : (2 : Nat) ^ FP.Core.b64.p = 9007199254740992 := by decide
  have hd : d < 9007199254740992 := by have := a2.1; rwa [hp] at this
  generalize (q - FP.Core.b64.qmin).toNat = k at a3
  have hd0 : d ≠ 0 := fun z => by subst z; rw [Nat.zero_mul] at a3; omega
  have hk : k ≤ 1088 := by
    refine Nat.le_of_not_lt fun z => ?_
    have e1 : 2 ^ 1089 ≤ 2 ^ k := Nat.pow_le_pow_right (by decide) z
    have e2 : 2 ^ k ≤ d * 2 ^ k := Nat.le_mul_of_pos_left _ (by omega)
    have e3 : 12000 * FP.Core.one64 < 2 ^ 1089 := by decide +kernel
    rw [← a3] at e2
    exact absurd (Nat.le_trans e1 (Nat.le_trans e2 hb)) (Nat.not_le.mpr e3)
  have hP := Nat.two_pow_pos k
  by_cases z : d < 1024
  · have hdm : d * m < 9007199254740992 := Nat.lt_of_lt_of_le (Nat.mul_lt_mul_of_lt_of_le z (Nat.le_of_lt hm) (by omega)) (by decide)
    obtain ⟨V, v1, v2, v3⟩ := rep k (d * m) hdm (by omega)
    refine ⟨V, v1, v2, ?_, ?_⟩
    · rw [v3, a3, Nat.mul_right_comm]; exact Nat.le_refl _
    · rw [v3, a3, Nat.mul_add, Nat.mul_one, Nat.mul_right_comm d m, show d * 2 ^ k * (4 * m) = 4 * (d * 2 ^ k * m) from by ac_rfl]
      exact Nat.le_add_right _ _
  · have hdm : d * m ≤ 9007199254740991 * 255 := Nat.mul_le_mul (by omega) (by omega)
    obtain ⟨V, v1, v2, v3⟩ := rep (k + 8) (d * m / 256 + 1) (by omega) (by omega)
    have e : FP.Core.zmag FP.Core.b64 V = (d * m / 256 + 1) * 256 * 2 ^ k := by rw [v3, Nat.pow_add]; show _ * (_ * 256) = _; ac_rfl
    refine ⟨V, v1, v2, ?_, ?_⟩
    · have hle : d * m ≤ (d * m / 256 + 1) * 256 := up_256 _
      rw [e, a3, Nat.mul_right_comm d]
      exact Nat.mul_le_mul_right _ hle
    · rw [e, a3, Nat.mul_right_comm d, ← Nat.mul_assoc]
      refine Nat.mul_le_mul_right _ ?_
      rw [Nat.mul_add, Nat.mul_one, show d * (4 * m) = 4 * (d * m) from by ac_rfl]
      exact up_1024 _ _ (Nat.le_of_not_lt z)
theorem imp_all {v lo hi : UInt64} {q : Nat} (hv : scOK v) (hl : scOK lo) (hh : scOK hi) (h1 : lo.toNat ≤ v.toNat) (h2 : v.toNat ≤ hi.toNat) (hb : uu hi ≤ 12000 * FP.Core.one64) (hne : hi ≠ lo) (hq : 2 ≤ q) (hq2 : q ≤ 255) :
    vf_n64 (FP.dsub v lo) ∧ vf_n64 (FP.dmul (FP.dsub v lo) (FP.i2d (I (q - 1)))) ∧ vf_n64 (FP.dsub hi lo) ∧ vf_n64 (FP.ddiv (FP.dmul (FP.dsub v lo) (FP.i2d (I (q - 1)))) (FP.dsub hi lo)) ∧ vf_n64 (FP.dadd FP.dconst1 (FP.ddiv (FP.dmul (FP.dsub v lo) (FP.i2d (I (q - 1)))) (FP.dsub hi lo))) ∧ vf_n64 (impX v lo hi q) ∧ FP.d2i (impX v lo hi q) = I (impV v lo hi q) ∧ 1 ≤ impV v lo hi q ∧ impV v lo hi q ≤ q := by
  have u1 := (sc_le hl hv).mpr h1
  have u2 := (sc_le hv hh).mpr h2
  have u3 : uu lo < uu hi := by
    have : uu lo ≠ uu hi := fun z => hne (uu_inj hh hl z.symm)
    omega
  have rp := rr_sub hv hl u1
  have rD := rr_sub hh hl (by omega)
  obtain ⟨op, -⟩ := sub_ok hv hl u1
  obtain ⟨oD, lD⟩ := sub_ok (a := hi) (b := lo) hh hl (by omega)
  have pD := sub_mono hv hl hh u1 u2
  have D1 := sub_pos hl hh u3
  obtain ⟨om, um⟩ := sc_i2d (n := q - 1) (by omega)
  have rn := rr_mul op om
  obtain ⟨W, w1, w2, w3, w4⟩ := mul_near (m := q - 1) oD D1 (by omega) (by omega)
  have hO := O_v
  have nW := rn.le w1 w2 (by
    rw [um, ← Nat.mul_assoc]
    exact Nat.mul_le_mul_right _ (Nat.le_trans (Nat.mul_le_mul_right _ pD) w3))
  -- all is below
  have onum : scOK (FP.dmul (FP.dsub v lo) (FP.i2d (I (q - 1)))) := by
    refine (rn.below (k := 12000 * 256) (by omega) ?_).1
    rw [um, ← Nat.mul_assoc]
    refine Nat.mul_le_mul_right _ ?_
    calc uu (FP.dsub v lo) * (q - 1) ≤ 12000 * FP.Core.one64 * 256 := Nat.mul_le_mul (by omega) (by omega)
      _ = 12000 * 256 * FP.Core.one64 := Nat.mul_right_comm _ _ _
  have rX := rr_div onum oD (by omega)
  obtain ⟨V1, a1, a2, a3⟩ := rep 1072 (4 * (q - 1) + 1) (by omega) (by omega)
  have xV := rX.le a1 a2 (by
    rw [a3, hO, Nat.mul_right_comm, ← Nat.mul_assoc]
    refine Nat.mul_le_mul_right _ ?_
    have : 4 * uu (FP.dmul (FP.dsub v lo) (FP.i2d (I (q - 1)))) ≤ uu (FP.dsub hi lo) * (4 * (q - 1) + 1) := Nat.le_trans (Nat.mul_le_mul_left 4 nW) w4
    rw [Nat.mul_comm _ 4, Nat.mul_comm _ (uu (FP.dsub hi lo))]
    exact this)
  rw [a3] at xV
  have oX : scOK (FP.ddiv (FP.dmul (FP.dsub v lo) (FP.i2d (I (q - 1)))) (FP.dsub hi lo)) := by
    obtain ⟨e1, e2⟩ := sc_i2d (n := q) (by omega)
    refine sc_mk rX.nn rX.sg e1 ?_
    rw [e2, hO]
    generalize 2 ^ 1072 = T at *
    refine Nat.le_trans xV ?_
    rw [← Nat.mul_assoc]
    exact Nat.mul_le_mul_right _ (by omega)
  have r1 := rr_add one_uu.1 oX
  obtain ⟨V2, b1, b2, b3⟩ := rep 1072 (4 * (q - 1) + 5) (by omega) (by omega)
  have sV := r1.le b1 b2 (by
    rw [b3, one_uu.2, Nat.mul_one, show 4 * (q - 1) + 5 = 4 + (4 * (q - 1) + 1) from by omega, Nat.add_mul 4]
    exact Nat.add_le_add_left xV _)
  rw [b3] at sV
  have o1 : scOK (FP.dadd FP.dconst1 (FP.ddiv (FP.dmul (FP.dsub v lo) (FP.i2d (I (q - 1)))) (FP.dsub hi lo))) := by
    obtain ⟨e1, e2⟩ := sc_i2d (n := q + 1) (by omega)
    refine sc_mk r1.nn r1.sg e1 ?_
    rw [e2, hO]
    generalize 2 ^ 1072 = T at *
    refine Nat.le_trans sV ?_
    rw [← Nat.mul_assoc]
    exact Nat.mul_le_mul_right _ (by omega)
  have r2 := rr_add o1 half_uu.1
  obtain ⟨V3, c1, c2, c3⟩ := rep 1072 (4 * (q - 1) + 7) (by omega) (by omega)
  have tV : uu (impX v lo hi q) ≤ (4 * (q - 1) + 7) * 2 ^ 1072 := by
    have := r2.le c1 c2 (by
      rw [c3, half_uu.2, Nat.mul_one, show 4 * (q - 1) + 7 = (4 * (q - 1) + 5) + 2 from by omega, Nat.add_mul (4 * (q - 1) + 5) 2]
      exact Nat.add_le_add_right sV _)
    rwa [c3] at this
  have l1 := add_ge (k := 1) one_uu.1 oX (by omega) (by rw [Nat.one_mul, hO, one_uu.2]; exact Nat.le_add_right _ _)
  have l2 : 1 * FP.Core.one64 ≤ uu (impX v lo hi q) := add_ge (k := 1) o1 half_uu.1 (by omega) (Nat.le_trans l1 (Nat.le_add_right _ _))
  have dv := FP.Core.d2i_val r2.nn
  have dn : 1 ≤ uu (impX v lo hi q) / FP.Core.one64 ∧ uu (impX v lo hi q) / FP.Core.one64 ≤ q := by
    constructor
    · exact (Nat.le_div_iff_mul_le one_pos).mpr l2
    · refine Nat.le_of_lt_succ ((Nat.div_lt_iff_lt_mul one_pos).mpr ?_)
      rw [hO, ← Nat.mul_assoc]
      exact Nat.lt_of_le_of_lt tV (Nat.mul_lt_mul_of_pos_right (by omega) (Nat.two_pow_pos _))
  rw [r2.sg] at dv
  have dv2 : (FP.d2i (impX v lo hi q)).toInt = max (-2 ^ 31) (min (2 ^ 31 - 1) ((uu (impX v lo hi q) / FP.Core.one64 : Nat) : Int)) := dv
  have dv3 : FP.d2i (impX v lo hi q) = I (uu (impX v lo hi q) / FP.Core.one64) := by
    refine Int32.toInt.inj ?_
    rw [dv2, I_toInt (by omega)]
    generalize uu (impX v lo hi q) / FP.Core.one64 = n at *
    omega
  have iv : impV v lo hi q = uu (impX v lo hi q) / FP.Core.one64 := by
    unfold impV
    rw [if_neg hne, dv3, I_cl (by omega)]
  rw [iv]
  exact ⟨rp.vf, rn.vf, rD.vf, rX.vf, r1.vf, r2.vf, dv3, dn⟩
