
/-! the class's plan: one entry is put in its place -/
def HoleR (arr : Nat → Int32) (l : List Nat) (q : Nat) : Prop := (∀ j, j < q → arr j = I (l.getD j 0)) ∧ ∀ j, q ≤ j → j < l.length → arr (j + 1) = I (l.getD j 0)
theorem HoleR.start {arr : Nat → Int32} {l : List Nat} (h : Row arr l) : HoleR arr l l.length := ⟨h, fun j a b => by omega⟩
theorem HoleR.shift {arr : Nat → Int32} {l : List Nat} {q : Nat} (h : HoleR arr l q) (h0 : 0 < q) : HoleR (upd arr q (arr (q - 1))) l (q - 1) := by
  refine ⟨fun j hj => ?_, fun j hj hj2 => ?_⟩
  · unfold upd; rw [if_neg (by omega)]; exact h.1 j (by omega)
  · unfold upd
    by_cases e : j = q - 1
    · subst e; rw [if_pos (by omega)]; exact h.1 _ (by omega)
    · rw [if_neg (by omega)]; exact h.2 j (by omega) hj2
theorem HoleR.fill {arr : Nat → Int32} {l : List Nat} {p : Nat} (h : HoleR arr l p) (hp : p ≤ l.length) (x : Nat) : Row (upd arr p (I x)) (l.take p ++ x :: l.drop p) := by
  intro j hj
  have hlen : (l.take p ++ x :: l.drop p).length = l.length + 1 := by rw [List.length_append, List.length_cons, List.length_take, List.length_drop]; omega
  rw [hlen] at hj
  unfold upd
  rw [List.getD_eq_getElem?_getD]
  by_cases e : j = p
  · subst e
    rw [if_pos rfl, List.getElem?_append_right (by rw [List.length_take]; omega), List.length_take, show j - min j l.length = 0 from by omega]; rfl
  · rw [if_neg e]
    by_cases lt : j < p
    · rw [List.getElem?_append_left (by rw [List.length_take]; omega), List.getElem?_take_of_lt lt, h.1 j lt, List.getD_eq_getElem?_getD]
    · obtain ⟨j', rfl⟩ : ∃ j', j = j' + 1 := ⟨j - 1, by omega⟩
      rw [List.getElem?_append_right (by rw [List.length_take]; omega), List.length_take, show j' + 1 - min p l.length = (j' - p) + 1 from by omega, List.getElem?_cons_succ, List.getElem?_drop, show p + (j' - p) = j' from by omega, h.2 j' (by omega) (by omega), List.getD_eq_getElem?_getD]
/-- an entry of the plan: impact, size, term, segment -/
def PEn : Type := Nat × Nat × Nat × Nat
def pI (e : Nat × Nat × Nat × Nat) : Nat := e.1
def pZ (e : Nat × Nat × Nat × Nat) : Nat := e.2.1
def pT (e : Nat × Nat × Nat × Nat) : Nat := e.2.2.1
def pG (e : Nat × Nat × Nat × Nat) : Nat := e.2.2.2
theorem mget {P : List (Nat × Nat × Nat × Nat)} {f : Nat × Nat × Nat × Nat → Nat} (hf : f (0, 0, 0, 0) = 0) (j : Nat) : (P.map f).getD j 0 = f (P.getD j (0, 0, 0, 0)) := by
  rw [List.getD_eq_getElem?_getD, List.getD_eq_getElem?_getD, List.getElem?_map]
  cases P[j]? with
  | none => exact hf.symm
  | some e => rfl
def R4 (a b c d : Nat → Int32) (P : List (Nat × Nat × Nat × Nat)) : Prop := Row a (P.map pI) ∧ Row b (P.map pZ) ∧ Row c (P.map pT) ∧ Row d (P.map pG)
def H4 (a b c d : Nat → Int32) (P : List (Nat × Nat × Nat × Nat)) (q : Nat) : Prop := HoleR a (P.map pI) q ∧ HoleR b (P.map pZ) q ∧ HoleR c (P.map pT) q ∧ HoleR d (P.map pG) q
/-- comes ahead of what stands there -/
def ahP (i z : Nat) (e : Nat × Nat × Nat × Nat) : Prop := pI e < i ∨ (pI e = i ∧ z < pZ e)
theorem s_ahead {P : List (Nat × Nat × Nat × Nat)} {a b : Nat → Int32} {i z j : Nat} {Φ : Int32 → Prop} (ha : a j = I (pI (P.getD j (0, 0, 0, 0)))) (hb : b j = I (pZ (P.getD j (0, 0, 0, 0)))) (hj : j < 320) (h1 : pI (P.getD j (0, 0, 0, 0)) < 2147483648) (h2 : pZ (P.getD j (0, 0, 0, 0)) < 2147483648) (hi : i < 2147483648) (hz : z < 2147483648)
    (hy : ahP i z (P.getD j (0, 0, 0, 0)) → Φ (I 1)) (hn : ¬ ahP i z (P.getD j (0, 0, 0, 0)) → Φ (I 0)) : P_X6_comesAhead a b (I i) (I z) (I j) Φ := by
  unfold P_X6_comesAhead
  rw [I_in (by omega), I_cl (by omega), ha, hb, I_lt h1 hi, I_eq hi h1, I_le h2 hz]
  refine ⟨hj, fun q => hy (Or.inl q), fun q => ⟨hj, fun r => hn (fun s => ?_), fun r => ⟨hj, fun s => hn (fun t => ?_), fun s => hy (Or.inr ⟨r.symm, by omega⟩)⟩⟩⟩
  · rcases s with s | s <;> omega
  · rcases t with t | t <;> omega
theorem l_plan32 {P : List (Nat × Nat × Nat × Nat)} {i z : Nat} {sg po l2 l3 : Int32} {im fp doc io : Nat → Int32} {K : Int32 → Int32 → (Nat → Int32) → (Nat → Int32) → (Nat → Int32) → (Nat → Int32) → (Nat → Int32) → Int32 → Int32 → Int32 → Int32 → Int32 → Prop} {Φ : Int32 → Int32 → (Nat → Int32) → (Nat → Int32) → (Nat → Int32) → (Nat → Int32) → (Nat → Int32) → Prop}
    (hP : P.length < 320) (hb : ∀ e ∈ P, pI e < 256 ∧ pZ e < 256) (hi : i < 256) (hz : z < 256)
    (hK : ∀ p a b c d, p ≤ P.length → H4 a b c d P p → (∀ j, p ≤ j → j < P.length → ahP i z (P.getD j (0, 0, 0, 0))) → (p = 0 ∨ ¬ ahP i z (P.getD (p - 1) (0, 0, 0, 0))) → K sg po a b c d io l2 l3 (I i) (I z) (I p)) :
    ∀ k q a b c d, q ≤ k → q ≤ P.length → H4 a b c d P q → (∀ j, q ≤ j → j < P.length → ahP i z (P.getD j (0, 0, 0, 0))) → L_X6_planOne_32 (k + 1) sg po im fp a b c d doc io l2 l3 (I i) (I z) (I q) K Φ := by
  have n10 : ¬ (I 1 = I 0) := by rw [I_eq (by omega) (by omega)]; omega
  intro k
  induction k with
  | zero =>
    intro q a b c d h1 h2 h3 h4
    unfold L_X6_planOne_32
    rw [i_0, I_le (by omega) (by omega)]
    exact ⟨fun _ => hK q a b c d h2 h3 h4 (Or.inl (by omega)), fun y => absurd (by omega) y⟩
  | succ k ih =>
    intro q a b c d h1 h2 h3 h4
    unfold L_X6_planOne_32
    rw [i_0, I_le (by omega) (by omega)]
    refine ⟨fun y => hK q a b c d h2 h3 h4 (Or.inl (by omega)), fun y => ?_⟩
    have hm : P.getD (q - 1) (0, 0, 0, 0) ∈ P := by
      rw [List.getD_eq_getElem?_getD, List.getElem?_eq_getElem (by omega)]; exact List.getElem_mem _
    obtain ⟨b1, b2⟩ := hb _ hm
    rw [i_1, I_sub (by omega)]
    refine s_ahead (P := P) (by rw [h3.1.1 (q - 1) (by omega), mget rfl]) (by rw [h3.2.1.1 (q - 1) (by omega), mget rfl]) (by omega) (by omega) (by omega) (by omega) (by omega) (fun yes => ⟨fun w => absurd w n10, fun _ => ?_⟩) (fun no => ⟨fun _ => hK q a b c d h2 h3 h4 (Or.inr no), fun w => absurd rfl w⟩)
    rw [I_in (by omega), I_in (by omega), I_cl (by omega), I_cl (by omega), show I q + -I 1 = I (q - 1) from by rw [← I_sub (by omega), Int32.sub_eq_add_neg]]
    refine ⟨by omega, by omega, by omega, by omega, by omega, by omega, by omega, by omega, ?_⟩
    refine ih (q - 1) _ _ _ _ (by omega) (by omega) ⟨h3.1.shift (by omega), h3.2.1.shift (by omega), h3.2.2.1.shift (by omega), h3.2.2.2.shift (by omega)⟩ (fun j hj hj2 => ?_)
    by_cases e : j = q - 1
    · subst e; exact yes
    · exact h4 j (by omega) hj2
theorem H4.fill {a b c d : Nat → Int32} {P : List (Nat × Nat × Nat × Nat)} {p : Nat} (h : H4 a b c d P p) (hp : p ≤ P.length) (e : Nat × Nat × Nat × Nat) : R4 (upd a p (I (pI e))) (upd b p (I (pZ e))) (upd c p (I (pT e))) (upd d p (I (pG e))) (P.take p ++ e :: P.drop p) := by
  have m : ∀ f : Nat × Nat × Nat × Nat → Nat, (P.take p ++ e :: P.drop p).map f = (P.map f).take p ++ f e :: (P.map f).drop p := fun f => by
    rw [List.map_append, List.map_cons, List.map_take, List.map_drop]
  refine ⟨?_, ?_, ?_, ?_⟩
  · rw [m]; exact h.1.fill (by rw [List.length_map]; exact hp) _
  · rw [m]; exact h.2.1.fill (by rw [List.length_map]; exact hp) _
  · rw [m]; exact h.2.2.1.fill (by rw [List.length_map]; exact hp) _
  · rw [m]; exact h.2.2.2.fill (by rw [List.length_map]; exact hp) _
/-- the order of the plan -/
def pord (x y : Nat × Nat × Nat × Nat) : Prop := pI y < pI x ∨ (pI x = pI y ∧ (pZ x < pZ y ∨ (pZ x = pZ y ∧ pT x < pT y)))
theorem pord_ins {P : List (Nat × Nat × Nat × Nat)} {e : Nat × Nat × Nat × Nat} {p : Nat} (h : P.Pairwise pord) (hp : p ≤ P.length) (hnew : ∀ x ∈ P, pT x < pT e ∨ (pT x = pT e ∧ pI e < pI x)) (h1 : ∀ j, p ≤ j → j < P.length → ahP (pI e) (pZ e) (P.getD j (0, 0, 0, 0))) (h2 : p = 0 ∨ ¬ ahP (pI e) (pZ e) (P.getD (p - 1) (0, 0, 0, 0))) : (P.take p ++ e :: P.drop p).Pairwise pord := by
  have hg : ∀ j, (hj : j < P.length) → P.getD j (0, 0, 0, 0) = P[j] := fun j hj => by rw [List.getD_eq_getElem?_getD, List.getElem?_eq_getElem hj]; rfl
  have hpp : (P.take p ++ P.drop p).Pairwise pord := by rw [List.take_append_drop]; exact h
  rw [List.pairwise_append] at hpp
  obtain ⟨p1, p2, p3⟩ := hpp
  have af : ∀ x ∈ P.take p, pord x e := fun x hx => by
    obtain ⟨j, hj, ex⟩ := List.mem_iff_getElem.mp hx
    rw [List.length_take] at hj
    rw [List.getElem_take] at ex
    have hnx := hnew x (List.mem_of_mem_take hx)
    have hna : ¬ ahP (pI e) (pZ e) x := by
      rcases h2 with z | z
      · omega
      · rw [hg (p - 1) (by omega)] at z
        by_cases c : j = p - 1
        · subst c; rw [← ex]; exact z
        · have o := List.pairwise_iff_getElem.mp h j (p - 1) (by omega) (by omega) (by omega)
          rw [ex] at o
          intro w
          apply z
          unfold ahP at w ⊢
          unfold pord at o
          omega
    unfold ahP at hna
    unfold pord
    omega
  have bf : ∀ x ∈ P.drop p, pord e x := fun x hx => by
    obtain ⟨j, hj, ex⟩ := List.mem_iff_getElem.mp hx
    rw [List.length_drop] at hj
    rw [List.getElem_drop] at ex
    have := h1 (p + j) (by omega) (by omega)
    rw [hg (p + j) (by omega), ex] at this
    unfold ahP at this
    unfold pord
    omega
  rw [List.pairwise_append, List.pairwise_cons]
  refine ⟨p1, ⟨bf, p2⟩, fun x hx y hy => ?_⟩
  rcases List.mem_cons.mp hy with z | z
  · subst z; exact af x hx
  · exact p3 x hx y z
