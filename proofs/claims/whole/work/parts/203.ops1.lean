
/-! the calls: clear, count, score, build -/
theorem GC.nil (tm : Nat → Int64) (ind ti len tm2 of2 len2 : Nat → Int32) : GC 0 0 0 0 tm ind ti len 0 0 tm2 of2 len2 := by
  refine ⟨[], [], [], rfl, rfl, rfl, rfl, rfl, rfl, ⟨Nat.zero_le _, Nat.zero_le _, Nat.zero_le _, List.Pairwise.nil, fun w => ⟨fun h => (by cases h), fun ⟨doc, h, _⟩ => (by cases h)⟩, fun doc h => (by cases h), fun w h => (by cases h)⟩, ⟨fun i hi => absurd hi (Nat.not_lt_zero _), fun t ht => absurd ht (Nat.not_lt_zero _), fun t ht => absurd ht (Nat.not_lt_zero _)⟩, fun d hd => absurd hd (Nat.not_lt_zero _), ⟨fun i hi => absurd hi (Nat.not_lt_zero _), fun t ht d hd => absurd hd (Nat.not_lt_zero _)⟩, fun d hd => absurd hd (Nat.not_lt_zero _), List.Perm.nil⟩
theorem t_clear {L : Nat} {dc tc pc lc th d2 t2 : Int32} {tm : Nat → Int64} {ind ti len tm2 of2 len2 : Nat → Int32} {K : Int32 → Int32 → Int32 → Int32 → Int32 → Int32 → Int32 → Prop}
    (hC : GC dc tc pc lc tm ind ti len d2 t2 tm2 of2 len2) (hK : ∀ dc tc pc lc th d2 t2, GC dc tc pc lc tm ind ti len d2 t2 tm2 of2 len2 → K dc tc pc lc th d2 t2) : OP_2 L dc tc pc lc th d2 t2 K := by
  obtain ⟨D, T, R, rfl, rfl, rfl, rfl, rfl, rfl, -⟩ := hC
  unfold OP_2 P_X8_clear P_X1_becomeEmpty P_X9_clear
  exact ⟨fun _ => hK _ _ _ _ _ _ _ (GC.nil _ _ _ _ _ _ _), fun q => q rfl⟩
theorem t_count {L : Nat} {dc tc pc lc th d2 t2 l5 x1 : Int32} {tm a3 : Nat → Int64} {ind ti len tm2 of2 len2 : Nat → Int32} {K : Int32 → (Nat → Int64) → Prop}
    (v1 : vp_in (l5 + 1) L) (hC : GC dc tc pc lc tm ind ti len d2 t2 tm2 of2 len2) (hK : ∀ th a3, K th a3) : OP_3 L dc tc pc lc th d2 t2 of2 len2 a3 l5 x1 K := by
  obtain ⟨D, T, R, rfl, rfl, rfl, rfl, rfl, rfl, hV, hCT, hL, hR, hL2, hP⟩ := hC
  have hRl : R.length ≤ 64 := by rw [hP.length_eq]; exact hV.2.1
  have hne : ∀ n m : Nat, n ≤ 3 → m ≤ 3 → x1 = I n → x1 = I m → n = m := fun n m h1 h2 e1 e2 => by
    rw [e1, I_eq (by omega) (by omega)] at e2; exact e2
  unfold OP_3 P_L_count
  refine ⟨v1, s_count8 (fun e => ⟨vp01, v1, ?_⟩) (fun e => ⟨vp01, v1, ?_⟩) (fun e => ⟨vp01, v1, ?_⟩) (fun e => ⟨vp01, v1, ?_⟩) (fun e => ⟨fun _ => ⟨v1, ?_⟩, rfl⟩)⟩
  · exact r_count9 hV.docs hR hRl hL2 (fun _ => tl rfl (fun _ => pk_uLs) (hK _ _)) (fun e' => absurd (hne _ _ (by omega) (by omega) e e') (by omega)) (fun e' => absurd (hne _ _ (by omega) (by omega) e e') (by omega)) (fun e' => absurd (hne _ _ (by omega) (by omega) e e') (by omega)) (fun q => absurd e (q 0 (by omega)))
  · exact r_count9 hV.docs hR hRl hL2 (fun e' => absurd (hne _ _ (by omega) (by omega) e e') (by omega)) (fun _ => tl rfl (fun _ => by rw [hP.length_eq]; exact pk_uLs) (hK _ _)) (fun e' => absurd (hne _ _ (by omega) (by omega) e e') (by omega)) (fun e' => absurd (hne _ _ (by omega) (by omega) e e') (by omega)) (fun q => absurd e (q 1 (by omega)))
  · exact r_count9 hV.docs hR hRl hL2 (fun e' => absurd (hne _ _ (by omega) (by omega) e e') (by omega)) (fun e' => absurd (hne _ _ (by omega) (by omega) e e') (by omega)) (fun _ => tl rfl (fun _ => by rw [posts_perm hP]; exact pk_uLs) (hK _ _)) (fun e' => absurd (hne _ _ (by omega) (by omega) e e') (by omega)) (fun q => absurd e (q 2 (by omega)))
  · exact r_count9 hV.docs hR hRl hL2 (fun e' => absurd (hne _ _ (by omega) (by omega) e e') (by omega)) (fun e' => absurd (hne _ _ (by omega) (by omega) e e') (by omega)) (fun e' => absurd (hne _ _ (by omega) (by omega) e e') (by omega)) (fun _ => tl rfl (fun _ => pk_uLs) (hK _ _)) (fun q => absurd e (q 3 (by omega)))
  · exact r_count9 hV.docs hR hRl hL2 (fun e' => absurd e' (e 0 (by omega))) (fun e' => absurd e' (e 1 (by omega))) (fun e' => absurd e' (e 2 (by omega))) (fun e' => absurd e' (e 3 (by omega))) (fun _ => tl rfl (fun z => absurd z z10) (hK _ _))
theorem vf_at {a : Nat → UInt64} {k : Nat} {v : UInt64} : vf_upd a k v k = v := by
  unfold vf_upd; rw [if_pos rfl]
theorem tlF {th r1 : Int32} {v w : UInt64} {K : Prop} (e : th = r1) (ev : r1 = 0 → v = w) (h : K) : P_X9_thrown th (fun r_63 => ((r_63 = r1 → ((¬ r1 = 0 → K) ∧ (r1 = 0 → vp_in 0 1 ∧ (((Op.cmpValue (FP.dcmp v w) .l) = 0 → K) ∧ (¬ (Op.cmpValue (FP.dcmp v w) .l) = 0 → vp_in 0 1 ∧ vp_in 0 1 ∧ (((Op.cmpValue (FP.dcmp v v) .l) = 0 → False) ∧ (¬ (Op.cmpValue (FP.dcmp v v) .l) = 0 → ((¬ (Op.cmpValue (FP.dcmp w w) .l) = 0 → K) ∧ ((Op.cmpValue (FP.dcmp w w) .l) = 0 → False))))))))) ∧ (¬ r_63 = r1 → False))) := by
  refine ⟨fun _ => ⟨fun _ => h, fun z => ⟨vp01, fun _ => h, fun q => ⟨vp01, vp01, ?_⟩⟩⟩, fun q => q e⟩
  have e2 := ev z
  subst e2
  exact ⟨fun c => q c, fun _ => ⟨fun _ => h, fun c => q c⟩⟩
theorem t_score {L : Nat} {ts wd wt dc tc pc lc th td at' d2 t2 l5 x1 : Int32} {tr wti ind ti len tp word tm2 of2 len2 : Nat → Int32} {wtm tm : Nat → Int64} {a4 : Nat → UInt64} {K : Int32 → Int32 → Int32 → (Nat → Int64) → (Nat → Int32) → Int32 → Int32 → Int32 → (Nat → Int32) → (Nat → UInt64) → Prop}
    (v1 : vp_in (l5 + 1) L) (hT : GT ts tr td tp) (hC : GC dc tc pc lc tm ind ti len d2 t2 tm2 of2 len2)
    (hK : ∀ wd wt wtm wti th at' word a4, K (I 0) wd wt wtm wti th (I 0) at' word a4) : OP_4 L ts tr wd wt wtm wti dc tc lc tm ind ti len th td at' d2 t2 tp word tm2 of2 len2 a4 l5 x1 K := by
  obtain ⟨bs, rfl, rfl, hb, hr, hy, hn⟩ := hT
  obtain ⟨D, T, R, rfl, rfl, rfl, rfl, rfl, rfl, hV, hCT, hL, hR, hL2, hP⟩ := hC
  have hV0 := hV
  obtain ⟨c1, c2, c3, c4, c5, c6, c7⟩ := hV0
  have hRl : R.length ≤ 64 := by rw [hP.length_eq]; exact c2
  have hRo : ∀ w ∈ R, w < 18446744073709551616 := fun w hw => by have := (c7 w (hP.mem_iff.mp hw)).lt; omega
  have hRD : ∀ doc ∈ D, ∀ w ∈ doc, w ∈ R := fun doc hd w hw => hP.mem_iff.mpr ((c5 w).mpr ⟨doc, hd, hw⟩)
  unfold OP_4 P_L_score
  refine ⟨v1, s_score8 hV hV.docs hCT hL hb hy hn (fun hA wd wt wtm wti => ⟨fun _ => ⟨v1, ?_⟩, fun e => absurd e ne_AN, Or.inl rfl⟩) (fun h1 hN wd wt wtm wti => ⟨fun e => absurd e ne_NA, fun _ => ⟨v1, ?_⟩, Or.inr rfl⟩) (fun w d e hd e1 wd wt wtm wti => ⟨vp01, v1, ?_⟩)⟩
  · exact r_score9 hr hy hn hV.docs (fun doc hd => (c6 doc hd).1) hR hRl hRo hL2 hRD (fun _ a w' => tlF rfl (fun z => absurd z z10) (hK _ _ _ _ _ _ _ _)) (fun q => absurd q hA) (fun w d e => absurd (by rw [e]; rfl) hA)
  · exact r_score9 hr hy hn hV.docs (fun doc hd => (c6 doc hd).1) hR hRl hRo hL2 hRD (fun q => absurd h1 q) (fun _ _ a w' => tlF rfl (fun z => absurd z z20) (hK _ _ _ _ _ _ _ _)) (fun w d _ hd e => absurd e (hN d hd))
  · refine r_score9 hr hy hn hV.docs (fun doc hd => (c6 doc hd).1) hR hRl hRo hL2 hRD (fun q => absurd (by rw [e]; rfl) q) (fun _ q => absurd e1 (q d hd)) (fun w2 d2 e' hd2 e2 a w' => ?_)
    rw [e] at e'
    cases e'
    rw [e1, I_eq (by omega) (by omega)] at e2
    subst e2
    exact tlF rfl (fun _ => vf_at) (hK _ _ _ _ _ _ _ _)
/-- the file on the bench -/
def GF (fz : Int32) (row : Nat → Int32) (fl : Int32) (file : Nat → Int32) : Prop := ∃ F, fz = I F.length ∧ fl = I F.length ∧ BRow row F ∧ Row file F ∧ byt F ∧ F.length ≤ 6650
/-- a draft of an index: its firsts are zero -/
def GD (fs fp : Nat → Int32) : Prop := fs 0 = I 0 ∧ fp 0 = I 0
theorem FS_SF {s : Nat} {b c z w l i b' c' z' w' l' i' : Nat → Int32} (hs : s < 4) (h1 : FS b b') (h2 : FS c c') (h3 : FS z z') (h4 : FS w w') (h5 : FR l i l' i') : SF s b c z w l i b' c' z' w' l' i' :=
  ⟨h1 s (by omega), h2 s (by omega), h3 s (by omega), h4 s (by omega), fun j hj => h5.1 _ (by omega), fun j hj => h5.2 _ (by omega)⟩
theorem t_build {L : Nat} {dc tc pc lc th d2 t2 l5 x1 x2 fz gm db dd dt ds dp fl dr : Int32} {tm a3 dtm : Nat → Int64} {sc : Nat → UInt64} {ind ti len tm2 of2 len2 imps row gap dfs dim dfp ddoc word bits codec size words letter impact file draft rgap : Nat → Int32}
    {K : (Nat → UInt64) → (Nat → Int32) → Int32 → (Nat → Int32) → Int32 → (Nat → Int32) → Int32 → Int32 → Int32 → Int32 → Int32 → (Nat → Int64) → (Nat → Int32) → (Nat → Int32) → (Nat → Int32) → (Nat → Int32) → Int32 → Int32 → Int32 → (Nat → Int32) → (Nat → Int32) → (Nat → Int32) → (Nat → Int32) → (Nat → Int32) → (Nat → Int32) → (Nat → Int32) → (Nat → Int32) → (Nat → Int32) → (Nat → Int32) → (Nat → Int64) → Prop}
    (v1 : vp_in (l5 + 1) L) (v2 : vp_in (l5 + 2) L) (hC : GC dc tc pc lc tm ind ti len d2 t2 tm2 of2 len2) (hF : GF fz row fl file) (hD : GD dfs dfp)
    (hK : ∀ sc imps fz row gm gap db dd dt ds dp dtm dfs dim dfp ddoc th fl dr word bits' codec' size' words' letter' impact' file draft rgap a3, GF fz row fl file → GD dfs dfp → (∀ s, s < 4 → SF s bits codec size words letter impact bits' codec' size' words' letter' impact') → K sc imps fz row gm gap db dd dt ds dp dtm dfs dim dfp ddoc th fl dr word bits' codec' size' words' letter' impact' file draft rgap a3) :
    OP_5 L dc tc lc tm ind ti sc imps len fz row gm gap db dd dt ds dp dtm dfs dim dfp ddoc th d2 t2 fl dr word tm2 of2 len2 bits codec size words letter impact file draft rgap a3 l5 x1 x2 K := by
  obtain ⟨D, T, R, rfl, rfl, rfl, rfl, rfl, rfl, hV, hCT, hL, hR, hL2, hP⟩ := hC
  have hF0 := hF
  obtain ⟨F, rfl, rfl, hb, hr, hy, hn⟩ := hF0
  have hsz : ¬ (I F.length : Int32) < 0 := by rw [i_0, I_lt (by omega) (by omega)]; omega
  have sf0 : ∀ s, s < 4 → SF s bits codec size words letter impact bits codec size words letter impact := fun s _ => ⟨rfl, rfl, rfl, rfl, fun _ _ => rfl, fun _ _ => rfl⟩
  unfold OP_5 P_L_build
  refine ⟨v1, v2, s_build hV hV.docs hCT hL hD.1 hD.2 hsz (fun hbad => ⟨fun _ => ⟨v1, v2, ?_⟩, fun e => absurd e ne_AS, Or.inl rfl⟩) (fun b c hBA hemp => ⟨fun e => absurd e ne_SA, fun _ => ⟨v1, v2, ?_⟩, Or.inr rfl⟩) (fun b c hBA hne lo hi sc ab ad at' as ap imps atm fs im fp doc row gm gap hE hCA hb' hl' => ⟨vp01, v1, v2, ?_⟩)⟩
  · exact r_build hV hV.docs hR hL2 hP (fun _ => tl rfl (fun z => absurd z z10) (hK _ _ _ _ _ _ _ _ _ _ _ _ _ _ _ _ _ _ _ _ _ _ _ _ _ _ _ _ _ _ hF hD sf0)) (fun b c h => absurd h (hbad b c)) (fun b c h => absurd h (hbad b c))
  · exact r_build hV hV.docs hR hL2 hP (fun q => absurd hBA (q b c)) (fun _ _ _ _ => tl rfl (fun z => absurd z z20) (hK _ _ _ _ _ _ _ _ _ _ _ _ _ _ _ _ _ _ _ _ _ _ _ _ _ _ _ _ _ _ hF hD sf0)) (fun _ _ _ q => absurd hemp q)
  · refine r_build hV hV.docs hR hL2 hP (fun q => absurd hBA (q b c)) (fun _ _ _ q => absurd q hne) (fun b2 c2 hBA2 _ lo2 hi2 bits' codec' size' words' word letter' imp' draft gap2 file hE2 f1 f2 f3 f4 f5 hfile => ?_)
    obtain ⟨x1', x2', x3', x4', x5'⟩ := hBA
    obtain ⟨y1, y2, y3, y4, y5⟩ := hBA2
    rw [x4', I_eq (by omega) (by omega)] at y4
    rw [x5', I_eq (by omega) (by omega)] at y5
    subst y4 y5
    have el : lo2 = lo := hE2.2.2.1.uniq hE.2.2.1
    have eh : hi2 = hi := hE2.2.2.2.uniq hE.2.2.2
    subst el eh
    have hVX := VX_TGof (b := b) hV hE2 hne x1' x2'
    have hyE : byt (E c (b, D.length, TGof D b lo2 hi2 T)) := E_byt x3' hVX.1
    exact tl rfl (fun _ => pk_uLs) (hK _ _ _ _ _ _ _ _ _ _ _ _ _ _ _ _ _ _ _ _ _ _ _ _ _ _ _ _ _ _ ⟨_, rfl, rfl, hb', hfile, hyE, hl'⟩ ⟨hCA.2.1 0 (Nat.zero_le _), hCA.2.2.2.1 0 (Nat.zero_le _)⟩ (fun s hs => FS_SF hs f1 f2 f3 f4 f5))
