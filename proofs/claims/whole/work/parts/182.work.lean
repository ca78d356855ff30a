
/-! the class works through a segment -/
def stp (f : Nat → Nat) (s : Sg) : Nat → Nat := fun d => f d + (if d ∈ s.2 then s.1 else 0)
theorem l_work70 {g f0 : Nat} {s : Sg} {F : Nat → Nat} {sgm dn dp wy l2 : Int32} {l3 l5 : Int64} {pg im fp doc : Nat → Int32} {K : Int32 → Int32 → Int32 → (Nat → Int32) → Int32 → Int64 → Int64 → Int32 → Prop} {Φ : Int32 → Int32 → Int32 → (Nat → Int32) → Prop}
    (hg : g < 600) (h1 : fp (g + 1) = I (f0 + s.2.length)) (him : im g = I s.1) (hf : f0 + s.2.length ≤ 600) (hd : ∀ j, j < s.2.length → doc (f0 + j) = I (s.2.getD j 0)) (hds : ∀ d ∈ s.2, d < 40) (hnd : s.2.Nodup)
    (hK : ∀ sums, (∀ d, d < 40 → sums d = I (stp F s d)) → K dn dp wy sums l2 l3 l5 (I g)) :
    ∀ k j sums, s.2.length ≤ j + k → j ≤ s.2.length → (∀ d, d < 40 → sums d = I (stp F (s.1, s.2.take j) d)) → L_X6_workThrough_70 (k + 1) sgm dn dp wy sums pg fp doc im l2 l3 l5 (I g) (I (f0 + j)) K Φ := by
  have fin : ∀ j sums, s.2.length ≤ j → (∀ d, d < 40 → sums d = I (stp F (s.1, s.2.take j) d)) → K dn dp wy sums l2 l3 l5 (I g) := fun j sums q r => hK sums (fun d hd => by
    have := r d hd
    rw [List.take_of_length_le q] at this; exact this)
  intro k
  induction k with
  | zero =>
    intro j sums q1 q2 q3
    unfold L_X6_workThrough_70
    rw [i_1, I_add, I_in (by omega), I_cl (by omega), h1, I_le (by omega) (by omega)]
    exact ⟨by omega, fun z => fin j sums (by omega) q3, fun z => absurd (by omega) z⟩
  | succ k ih =>
    intro j sums q1 q2 q3
    unfold L_X6_workThrough_70
    rw [i_1, I_add, I_in (by omega), I_cl (by omega), h1, I_le (by omega) (by omega)]
    refine ⟨by omega, fun z => fin j sums (by omega) q3, fun z => ?_⟩
    have hm := hds _ (getD_mem (ds := s.2) (i := j) (by omega))
    have hno : s.2.getD j 0 ∉ s.2.take j := fun q => by
      obtain ⟨t, t1, t2, t3⟩ := mem_takeD.mp q
      have := getD_inj hnd t2 (by omega) t3
      omega
    rw [I_in (by omega), I_in (by omega), I_cl (by omega), I_cl (by omega), hd j (by omega), I_in (by omega), I_cl (by omega), him, q3 _ hm, I_add, I_add]
    refine ⟨by omega, hm, by omega, hm, ih (j + 1) _ (by omega) (by omega) (fun d hd' => ?_)⟩
    unfold upd
    by_cases e : d = s.2.getD j 0
    · subst e
      rw [if_pos rfl]
      unfold stp
      show I (_ + (if s.2.getD j 0 ∈ s.2.take j then s.1 else 0) + s.1) = I (_ + (if s.2.getD j 0 ∈ s.2.take (j + 1) then s.1 else 0))
      rw [if_neg hno, if_pos (by rw [take_succ_getD (by omega)]; exact List.mem_append.mpr (Or.inr (List.mem_singleton.mpr rfl)))]
      rfl
    · rw [if_neg e, q3 d hd']
      unfold stp
      show I (_ + (if d ∈ s.2.take j then s.1 else 0)) = I (_ + (if d ∈ s.2.take (j + 1) then s.1 else 0))
      rw [take_succ_getD (by omega)]
      by_cases u : d ∈ s.2.take j
      · rw [if_pos u, if_pos (List.mem_append.mpr (Or.inl u))]
      · rw [if_neg u, if_neg (fun x => by
          rcases List.mem_append.mp x with y | y
          · exact u y
          · exact e (List.mem_singleton.mp y))]
