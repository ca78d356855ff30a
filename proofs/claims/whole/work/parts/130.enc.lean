
/-! the file: its bytes -/
theorem I_div {a b : Nat} (ha : a < 2147483648) (hb : b < 2147483648) : I a / I b = I (a / b) := (Int32.ofNat_div ha hb).symm
theorem I_sr {a k : Nat} (ha : a < 2147483648) (hk : k < 32) : I a >>> (I k &&& I 31) = I (a / 2 ^ k) := by
  rw [I_and, and_31 hk]
  apply Int32.toBitVec.inj
  rw [Int32.toBitVec_shiftRight]
  show (BitVec.ofNat 32 a).sshiftRight' ((BitVec.ofNat 32 k).smod 32) = BitVec.ofNat 32 (a / 2 ^ k)
  have e : (BitVec.ofNat 32 k).smod 32 = BitVec.ofNat 32 k := by
    rw [BitVec.smod_eq]
    have h1 : (BitVec.ofNat 32 k).msb = false := by
      rw [BitVec.msb_eq_decide]; simp only [BitVec.toNat_ofNat]; simp; omega
    rw [h1]
    show (BitVec.ofNat 32 k) % (32#32) = _
    apply BitVec.eq_of_toNat_eq
    simp only [BitVec.toNat_umod, BitVec.toNat_ofNat]
    rw [Nat.mod_eq_of_lt (show k < 2 ^ 32 by omega)]
    exact Nat.mod_eq_of_lt (by omega)
  have hm : (BitVec.ofNat 32 a).msb = false := by
    rw [BitVec.msb_eq_decide]; simp only [BitVec.toNat_ofNat]; simp; omega
  rw [e, BitVec.sshiftRight_eq', BitVec.sshiftRight_eq_of_msb_false hm]
  apply BitVec.eq_of_toNat_eq
  simp only [BitVec.toNat_ushiftRight, BitVec.toNat_ofNat, Nat.shiftRight_eq_div_pow]
  rw [Nat.mod_eq_of_lt (show k < 2 ^ 32 by omega), Nat.mod_eq_of_lt (show a < 2 ^ 32 by omega)]
  exact (Nat.mod_eq_of_lt (Nat.lt_of_le_of_lt (Nat.div_le_self _ _) (by omega))).symm
theorem I_ur {a k : Nat} (ha : a < 4294967296) (hk : k < 32) : ((I a).toUInt32 >>> ((I k).toUInt32 &&& (I 31).toUInt32)).toInt32 = I (a / 2 ^ k) := by
  have e : (I k).toUInt32 &&& (I 31).toUInt32 = UInt32.ofNat k := by
    apply UInt32.toNat_inj.mp
    rw [UInt32.toNat_and]
    show (UInt32.ofNat k).toNat &&& 31 = _
    simp only [UInt32.toNat_ofNat']
    rw [Nat.mod_eq_of_lt (by omega)]
    exact and_31 hk
  rw [e]
  apply Int32.toBitVec.inj
  show (UInt32.ofNat a >>> UInt32.ofNat k).toBitVec = BitVec.ofNat 32 (a / 2 ^ k)
  apply BitVec.eq_of_toNat_eq
  show (UInt32.ofNat a >>> UInt32.ofNat k).toNat = _
  rw [UInt32.toNat_shiftRight]
  simp only [UInt32.toNat_ofNat', BitVec.toNat_ofNat]
  rw [Nat.mod_eq_of_lt (show a < 2 ^ 32 by omega), Nat.mod_eq_of_lt (show k < 2 ^ 32 by omega), Nat.mod_eq_of_lt hk, Nat.shiftRight_eq_div_pow]
  exact (Nat.mod_eq_of_lt (Nat.lt_of_le_of_lt (Nat.div_le_self _ _) (by omega))).symm
theorem I_n8 {a : Nat} (h : 8 ≤ a) : I a + -I 8 = I (a - 8) := by rw [← I_sub h, Int32.sub_eq_add_neg]
theorem imin_I {a b : Nat} (ha : a < 2147483648) (hb : b < 2147483648) : imin (I a) (I b) = I (min a b) := by
  unfold imin
  have q := I_lt hb ha
  by_cases h : b < a
  · rw [if_pos (by rw [q]; exact h), Nat.min_eq_right (by omega)]
  · rw [if_neg (by rw [q]; exact h), Nat.min_eq_left (by omega)]
theorem I_mod {a b : Nat} (ha : a < 2147483648) (hb : b < 2147483648) : I a - I a / I b * I b = I (a % b) := by
  rw [I_div ha hb, I_mul, I_sub (Nat.div_mul_le_self a b)]
  congr 1
  have := Nat.div_add_mod a b
  rw [Nat.mul_comm] at this
  omega
theorem or_lt {a b n : Nat} : a ||| b < 2 ^ n ↔ a < 2 ^ n ∧ b < 2 ^ n :=
  ⟨fun h => ⟨Nat.lt_of_le_of_lt Nat.left_le_or h, Nat.lt_of_le_of_lt Nat.right_le_or h⟩, fun h => Nat.or_lt_two_pow h.1 h.2⟩
theorem getD_drop (l : List Nat) (a i : Nat) : (l.drop a).getD i 0 = l.getD (a + i) 0 := by
  simp only [List.getD_eq_getElem?_getD, List.getElem?_drop]
/-- bytes of a number -/
def bytesOf (P n : Nat) : List Nat := (List.range n).map (fun k => P / 256 ^ k % 256)
theorem bytesOf_len (P n : Nat) : (bytesOf P n).length = n := by simp [bytesOf]
theorem bytesOf_succ (P n : Nat) : bytesOf P (n + 1) = bytesOf P n ++ [P / 256 ^ n % 256] := by simp [bytesOf, List.range_succ]
theorem bytesOf_byt (P n : Nat) : byt (bytesOf P n) := fun b hb => by
  obtain ⟨k, -, rfl⟩ := List.mem_map.mp hb
  exact Nat.mod_lt _ (by decide)
theorem bytesOf_getD {P n k : Nat} (h : k < n) : (bytesOf P n).getD k 0 = P / 256 ^ k % 256 := by
  unfold bytesOf
  rw [List.getD_eq_getElem?_getD, List.getElem?_map, List.getElem?_range h]; rfl
theorem bytesOf_congr {P Q n : Nat} (h : P % 256 ^ n = Q % 256 ^ n) : bytesOf P n = bytesOf Q n := by
  unfold bytesOf
  refine List.map_congr_left (fun k hk => ?_)
  have hk : k < n := List.mem_range.mp hk
  have key : ∀ R : Nat, R / 256 ^ k % 256 = R % 256 ^ n / 256 ^ k % 256 := fun R => by
    have e : 256 ^ n = 256 ^ k * (256 * 256 ^ (n - 1 - k)) := by
      rw [show 256 * 256 ^ (n - 1 - k) = 256 ^ (n - 1 - k + 1) by rw [Nat.pow_succ]; omega, ← Nat.pow_add]; congr 1; omega
    rw [e, Nat.mod_mul_right_div_self, Nat.mod_mul_right_mod]
  rw [key P, key Q, h]
def wsz (w : Nat) : Nat := [60, 30, 20, 15, 12, 10, 6, 4, 3, 2, 1].getD w 0
def wb (w : Nat) : Nat := [1, 2, 3, 4, 5, 6, 10, 15, 20, 30, 60].getD w 0
def okway (w : Nat) (gs : List Nat) : Bool := (gs.take (wsz w)).all (fun g => decide (g < 2 ^ wb w))
def wayA : Nat → Nat → List Nat → Nat
  | 0, w, _ => w
  | k + 1, w, gs => if okway w gs then w else wayA k (w + 1) gs
def way (gs : List Nat) : Nat := wayA 10 0 gs
def packB (b : Nat) : List Nat → Nat
  | [] => 0
  | g :: gs => g + 2 ^ b * packB b gs
def wordOf (gs : List Nat) : Nat := way gs + 16 * packB (wb (way gs)) (gs.take (wsz (way gs)))
def encW : Nat → List Nat → List Nat
  | 0, _ => []
  | k + 1, gs => if gs = [] then [] else bytesOf (wordOf gs) 8 ++ encW k (gs.drop (wsz (way gs)))
def enc0 (gs : List Nat) : List Nat := gs.map (fun g => g + 128)
def enc1 (gs : List Nat) : List Nat := encW gs.length gs
def mbA : Nat → Nat → List Nat → Nat
  | 0, n, _ => n
  | k + 1, n, gs => if gs.all (fun g => decide (g < 2 ^ n)) then n else mbA k (n + 1) gs
/-- the bits of the greatest -/
def mb (gs : List Nat) : Nat := mbA 31 0 gs
def enc2 (gs : List Nat) : List Nat := mb gs :: bytesOf (packB (mb gs) gs) ((mb gs * gs.length + 7) / 8)
def encG (c : Nat) (gs : List Nat) : List Nat := if c = 0 then enc0 gs else if c = 1 then enc1 gs else enc2 gs
def gp : Nat → List Nat → List Nat
  | _, [] => []
  | e, d :: ds => (d - e) :: gp (d + 1) ds
abbrev Sg : Type := Nat × List Nat
def encS (c : Nat) (s : Sg) : List Nat := s.1 :: s.2.length :: encG c (gp 0 s.2)
def lets (w : Nat) : List Nat := ((List.range 8).map (lw w)).takeWhile (fun x => x != 0)
def encT (c : Nat) (q : Nat × List Sg) : List Nat := (lets q.1).length :: (lets q.1 ++ q.2.length :: q.2.flatMap (encS c))
/-- an index: its bits, its N, its terms with their segments -/
abbrev Ix : Type := Nat × Nat × List (Nat × List Sg)
def body (c : Nat) (X : Ix) : List Nat := [73, 109, X.1, c, X.2.1, X.2.2.length] ++ X.2.2.flatMap (encT c)
def adS (p : Nat × Nat) (b : Nat) : Nat × Nat := ((p.1 + b) % 65521, (p.2 + (p.1 + b) % 65521) % 65521)
def ad (l : List Nat) : Nat × Nat := l.foldl adS (1, 0)
def sum4 (l : List Nat) : List Nat := [(ad l).1 % 256, (ad l).1 / 256 % 256, (ad l).2 % 256, (ad l).2 / 256 % 256]
def E (c : Nat) (X : Ix) : List Nat := body c X ++ sum4 (body c X)
theorem ad_app (l : List Nat) (b : Nat) : ad (l ++ [b]) = adS (ad l) b := by unfold ad; rw [List.foldl_append]; rfl
theorem ad_lt (l : List Nat) : (ad l).1 < 65521 ∧ (ad l).2 < 65521 := by
  have : ∀ (l : List Nat) (p : Nat × Nat), p.1 < 65521 → p.2 < 65521 → (l.foldl adS p).1 < 65521 ∧ (l.foldl adS p).2 < 65521 := by
    intro l
    induction l with
    | nil => intro p h1 h2; exact ⟨h1, h2⟩
    | cons b l ih => intro p h1 h2; exact ih _ (Nat.mod_lt _ (by decide)) (Nat.mod_lt _ (by decide))
  exact this l (1, 0) (by decide) (by decide)
theorem ad_take {l : List Nat} {i : Nat} (h : i < l.length) : ad (l.take (i + 1)) = adS (ad (l.take i)) (l.getD i 0) := by
  rw [take_succ_getD h, ad_app]
theorem wayA_le (gs : List Nat) : ∀ k w, wayA k w gs ≤ w + k := by
  intro k
  induction k with
  | zero => intro w; exact Nat.le_refl _
  | succ k ih => intro w; unfold wayA; split <;> (try have := ih (w + 1)) <;> omega
theorem wayA_ok (gs : List Nat) : ∀ k w, (wayA k w gs < w + k → okway (wayA k w gs) gs = true) := by
  intro k
  induction k with
  | zero => intro w h; unfold wayA at h; omega
  | succ k ih =>
    intro w h
    unfold wayA at h ⊢
    by_cases q : okway w gs = true
    · rw [if_pos q]; exact q
    · rw [if_neg q] at h ⊢; exact ih (w + 1) (by omega)
theorem okway5 {gs : List Nat} (h : ∀ g ∈ gs, g < 64) : okway 5 gs = true := by
  unfold okway
  rw [List.all_eq_true]
  intro g hg
  exact decide_eq_true (h g (List.mem_of_mem_take hg))
theorem way_le5 {gs : List Nat} (h : ∀ g ∈ gs, g < 64) : way gs ≤ 5 := by
  have h5 := okway5 h
  unfold way
  have : ∀ k w, w ≤ 5 → 5 < w + k → wayA k w gs ≤ 5 := by
    intro k
    induction k with
    | zero => intro w a b; omega
    | succ k ih =>
      intro w a b
      unfold wayA
      split
      · exact a
      · rename_i q
        by_cases e : w = 5
        · subst e; exact absurd h5 q
        · exact ih (w + 1) (by omega) (by omega)
  exact this 10 0 (by omega) (by omega)
theorem way_ok {gs : List Nat} (h : ∀ g ∈ gs, g < 64) : ∀ g ∈ gs.take (wsz (way gs)), g < 2 ^ wb (way gs) := by
  have h1 := wayA_ok gs 10 0 (by have := way_le5 h; unfold way at this; omega)
  unfold okway at h1
  rw [List.all_eq_true] at h1
  intro g hg
  exact of_decide_eq_true (h1 g hg)
theorem wsz_pos {w : Nat} (h : w ≤ 10) : 1 ≤ wsz w := by
  unfold wsz
  have : w = 0 ∨ w = 1 ∨ w = 2 ∨ w = 3 ∨ w = 4 ∨ w = 5 ∨ w = 6 ∨ w = 7 ∨ w = 8 ∨ w = 9 ∨ w = 10 := by omega
  rcases this with rfl | rfl | rfl | rfl | rfl | rfl | rfl | rfl | rfl | rfl | rfl <;> decide
theorem ways {w : Nat} (h : w ≤ 10) : wsz w * wb w = 60 ∧ wsz w ≤ 60 ∧ wb w ≤ 60 ∧ 1 ≤ wb w ∧ 60 / wb w = wsz w := by
  unfold wsz wb
  have : w = 0 ∨ w = 1 ∨ w = 2 ∨ w = 3 ∨ w = 4 ∨ w = 5 ∨ w = 6 ∨ w = 7 ∨ w = 8 ∨ w = 9 ∨ w = 10 := by omega
  rcases this with rfl | rfl | rfl | rfl | rfl | rfl | rfl | rfl | rfl | rfl | rfl <;> decide
theorem wayG_I {w : Nat} (h : w ≤ 10) : wayG w = I (wsz w) := by
  unfold wayG wsz
  have : w = 0 ∨ w = 1 ∨ w = 2 ∨ w = 3 ∨ w = 4 ∨ w = 5 ∨ w = 6 ∨ w = 7 ∨ w = 8 ∨ w = 9 ∨ w = 10 := by omega
  rcases this with rfl | rfl | rfl | rfl | rfl | rfl | rfl | rfl | rfl | rfl | rfl <;> rfl
theorem wayB_I {w : Nat} (h : w ≤ 10) : wayB w = I (wb w) := by
  unfold wayB wb
  have : w = 0 ∨ w = 1 ∨ w = 2 ∨ w = 3 ∨ w = 4 ∨ w = 5 ∨ w = 6 ∨ w = 7 ∨ w = 8 ∨ w = 9 ∨ w = 10 := by omega
  rcases this with rfl | rfl | rfl | rfl | rfl | rfl | rfl | rfl | rfl | rfl | rfl <;> rfl
theorem encW_fuel2 : ∀ k m (gs : List Nat), gs.length ≤ k → gs.length ≤ m → encW k gs = encW m gs := by
  intro k
  induction k with
  | zero =>
    intro m gs h h2
    have : gs = [] := List.length_eq_zero_iff.mp (by omega)
    subst this
    cases m with
    | zero => rfl
    | succ m => simp [encW]
  | succ k ih =>
    intro m gs h h2
    by_cases e : gs = []
    · subst e
      cases m with
      | zero => simp [encW]
      | succ m => simp [encW]
    · have hp := List.length_pos_iff.mpr e
      cases m with
      | zero => omega
      | succ m =>
        unfold encW
        rw [if_neg e, if_neg e]
        have hw := wsz_pos (wayA_le gs 10 0)
        have hd : (gs.drop (wsz (way gs))).length = gs.length - wsz (way gs) := List.length_drop
        unfold way at hd
        congr 1
        unfold way
        exact ih m _ (by omega) (by omega)
theorem enc1_nil : enc1 [] = [] := rfl
theorem enc1_step {gs : List Nat} (e : gs ≠ []) : enc1 gs = bytesOf (wordOf gs) 8 ++ enc1 (gs.drop (wsz (way gs))) := by
  have hp := List.length_pos_iff.mpr e
  obtain ⟨m, hm⟩ : ∃ m, gs.length = m + 1 := ⟨gs.length - 1, by omega⟩
  have hw := wsz_pos (wayA_le gs 10 0)
  have hd : (gs.drop (wsz (way gs))).length = gs.length - wsz (way gs) := List.length_drop
  unfold way at hd
  have e1 : enc1 gs = bytesOf (wordOf gs) 8 ++ encW m (gs.drop (wsz (way gs))) := by
    unfold enc1
    rw [hm, encW, if_neg e]
  rw [e1]
  congr 1
  unfold enc1
  refine encW_fuel2 _ _ _ ?_ (Nat.le_refl _)
  unfold way; omega
theorem packB_app (b : Nat) (l : List Nat) (g : Nat) : packB b (l ++ [g]) = packB b l + 2 ^ (b * l.length) * g := by
  induction l with
  | nil => simp [packB]
  | cons x l ih =>
    simp only [List.cons_append, packB, ih, List.length_cons]
    rw [Nat.mul_add, Nat.mul_succ, Nat.pow_add, Nat.mul_comm (2 ^ (b * l.length)) (2 ^ b), Nat.mul_assoc]
    omega
theorem packB_lt {b : Nat} {l : List Nat} (h : ∀ g ∈ l, g < 2 ^ b) : packB b l < 2 ^ (b * l.length) := by
  induction l with
  | nil => simp [packB]
  | cons x l ih =>
    simp only [packB, List.length_cons]
    have h1 := h x List.mem_cons_self
    have h2 := ih (fun g hg => h g (List.mem_cons_of_mem _ hg))
    rw [Nat.mul_succ, Nat.pow_add]
    have : 2 ^ b * packB b l + 2 ^ b ≤ 2 ^ (b * l.length) * 2 ^ b := by
      rw [← Nat.mul_succ, Nat.mul_comm (2 ^ (b * l.length))]
      exact Nat.mul_le_mul_left _ h2
    omega
