/-! drafts of the rules -/
theorem d_g3 {T : tb} {s s' : sx_M} (hx : sx_eq dD s s') (hg : gridIs 3 T s) : gridIs 3 T s' := grid_eq hx (by simp only [dD]; omega) (by simp only [dD]; omega) (by simp only [dD]; omega) hg
theorem d_rows {T : tb} (hT : tb_ok T) (G : Nat → Nat → Int64) {fi : Int32 → Int32 × sx_M → Option ((Int32 × sx_M) ⊕ sx_M)} {fo : Int32 × sx_M → Option ((Int32 × sx_M) ⊕ sx_M)}
    (Hi : ∀ i k s F, i < T.1 → k < T.2.1 → gridIs 3 T s → gridF 13 T.1 T.2.1 F s → F i k = c64 (T.2.2 i k) → Ev (fi (nI i) (nI k, s)) (fun r => ∃ s', r = .inl (nI (k + 1), s') ∧ gridF 13 T.1 T.2.1 (upF F i k (G i k)) s' ∧ sx_eq dD s s'))
    (Ei : ∀ i s, gridIs 3 T s → fi (nI i) (nI T.2.1, s) = some (.inr s))
    (Ho : ∀ i s, i < T.1 → gridIs 3 T s → fo (nI i, s) = (whT (fi (nI i)) (0, s)).bind (fun b => some (.inl (nI (i + 1), b))))
    (Eo : ∀ s, gridIs 3 T s → fo (nI T.1, s) = some (.inr s))
    {s : sx_M} (hg3 : gridIs 3 T s) (hg13 : gridIs 13 T s) : Ev (whT fo (0, s)) (fun s' => gridF 13 T.1 T.2.1 G s' ∧ sx_eq dD s s') := by
  refine ev_f (fun (i : Nat) (a : Int32 × sx_M) => a.1 = nI i ∧ gridF 13 T.1 T.2.1 (fun x y => if x < i then G x y else c64 (T.2.2 x y)) a.2 ∧ sx_eq dD s a.2) T.1 ?_ ?_ (i := 0) (by omega) ⟨rfl, gridF_ext (gridF_T.mp hg13) (fun a b _ _ => by rw [if_neg (by omega)]), sx_rf _ _⟩
  · rintro i ⟨a1, s1⟩ hi ⟨ea, b1, b2⟩
    simp only at ea b1 b2
    subst ea
    have hg1 := d_g3 b2 hg3
    have hL : Ev (whT (fi (nI i)) (0, s1)) (fun s' => gridF 13 T.1 T.2.1 (fun x y => if x < i + 1 then G x y else c64 (T.2.2 x y)) s' ∧ sx_eq dD s1 s') := by
      refine ev_f (fun (k : Nat) (a : Int32 × sx_M) => a.1 = nI k ∧ gridF 13 T.1 T.2.1 (fun x y => if x < i ∨ (x = i ∧ y < k) then G x y else c64 (T.2.2 x y)) a.2 ∧ sx_eq dD s1 a.2) T.2.1 ?_ ?_ (i := 0) (by omega) ⟨rfl, gridF_ext b1 (fun a b _ _ => ?_), sx_rf _ _⟩
      · rintro k ⟨a1, s2⟩ hk ⟨ea, c1, c2⟩
        simp only at ea c1 c2
        subst ea
        obtain ⟨r, e, s3, er, d1, d2⟩ := Hi i k s2 _ hi hk (d_g3 c2 hg1) c1 (by simp only; rw [if_neg (by omega)])
        subst er
        refine ⟨_, e, rfl, gridF_ext d1 (fun a b _ _ => ?_), sx_tr c2 d2⟩
        simp only [upF]
        by_cases z : a = i ∧ b = k
        · rw [if_pos z, if_pos (by omega), z.1, z.2]
        · rw [if_neg z]
          by_cases y : a < i ∨ (a = i ∧ b < k)
          · rw [if_pos y, if_pos (by omega)]
          · rw [if_neg y, if_neg (by omega)]
      · rintro ⟨a1, s2⟩ ⟨ea, c1, c2⟩
        simp only at ea c1 c2
        subst ea
        refine ⟨.inr s2, Ei i s2 (d_g3 c2 hg1), gridF_ext c1 (fun a b _ hb => ?_), c2⟩
        by_cases y : a < i + 1
        · rw [if_pos y, if_pos (by omega)]
        · rw [if_neg y, if_neg (by omega)]
      · by_cases y : a < i
        · rw [if_pos y, if_pos (by omega)]
        · rw [if_neg y, if_neg (by omega)]
    obtain ⟨s2, e2, c1, c2⟩ := hL
    refine ⟨.inl (nI (i + 1), s2), ?_, rfl, c1, sx_tr b2 c2⟩
    rw [Ho i s1 hi hg1, bnd e2]
  · rintro ⟨a1, s1⟩ ⟨ea, b1, b2⟩
    simp only at ea b1 b2
    subst ea
    refine ⟨.inr s1, Eo s1 (d_g3 b2 hg3), gridF_ext b1 (fun a b ha _ => ?_), b2⟩
    rw [if_pos ha]
theorem c_within {T : tb} {b t : Int} {v : Int64} {s : sx_M} (hT : tb_ok T) (hb : -9999 ≤ b ∧ b ≤ 9999) (hv : ∀ x : Int, -9999 ≤ x → x ≤ 9999 → (jJ x ≤ v ↔ x ≤ t)) (hg : gridIs 3 T s) : Ev (f_X7_supposeWithin (jJ b) v s) (fun s' => gridIs 13 (resT T (wR T b t)) s' ∧ sx_eq dD s s') := by
  have h7 := hT.1
  have h8 := hT.2.1
  obtain ⟨s1, e1, g1, x1⟩ := d_cp hT hg
  have hL := d_rows hT (fun i k => c64 ((resT T (wR T b t)).2.2 i k)) (fi := fun z => f_X7_supposeWithin_L29 (jJ b) v (jJ b) v z) (fo := f_X7_supposeWithin_L14 (jJ b) v) (s := s1) (fun i k s2 F hi hk hg2 hF hFc => ?_) (fun i s2 hg2 => ?_) (fun i s2 hi hg2 => ?_) (fun s2 hg2 => ?_) (d_g3 x1 hg) g1
  · obtain ⟨s2, e2, g2, x2⟩ := hL
    refine ⟨s2, ?_, g2, sx_tr x1 x2⟩
    unfold f_X7_supposeWithin
    rw [bnd e1, bnd e2]
  · have hat := f_at_in hT hg2 hi hk
    have keep : c64 ((resT T (wR T b t)).2.2 i k) = F i k → Ev (some (.inl (nI k + 1, s2)) : Option ((Int32 × sx_M) ⊕ sx_M)) (fun r => ∃ s', r = .inl (nI (k + 1), s') ∧ gridF 13 T.1 T.2.1 (upF F i k (c64 ((resT T (wR T b t)).2.2 i k))) s' ∧ sx_eq dD s2 s') := by
      intro e
      refine ⟨_, rfl, s2, by rw [nI_1], gridF_ext hF (fun x y _ _ => ?_), sx_rf _ _⟩
      unfold upF
      by_cases z : x = i ∧ y = k
      · rw [if_pos z, e, z.1, z.2]
      · rw [if_neg z]
    have bar : c64 ((resT T (wR T b t)).2.2 i k) = 9223372036854775807 → Ev (f_X7_supposeWithin_L29_J68 (jJ b) v (jJ b) v (nI i) (nI k) s2) (fun r => ∃ s', r = .inl (nI (k + 1), s') ∧ gridF 13 T.1 T.2.1 (upF F i k (c64 ((resT T (wR T b t)).2.2 i k))) s' ∧ sx_eq dD s2 s') := by
      intro e
      obtain ⟨s3, e3, g3, x3⟩ := d_put h7 h8 hF hi hk 9223372036854775807
      refine ⟨.inl (nI (k + 1), s3), ?_, s3, rfl, by rw [e]; exact g3, x3⟩
      unfold f_X7_supposeWithin_L29_J68
      rw [bnd e3, nI_1]
    simp only [f_X7_supposeWithin_L29]
    rw [hg2.2.1, if_neg (show ¬ nI T.2.1 ≤ nI k from nI_ge hk (by omega)), bnd hat]
    have er : (resT T (wR T b t)).2.2 i k = if wR T b t i k then T.2.2 i k else none := rfl
    cases hx : T.2.2 i k with
    | none =>
      rw [hx] at er
      have er : (resT T (wR T b t)).2.2 i k = none := by rw [er]; split <;> rfl
      by_cases z1 : c64 none < jJ b
      · rw [if_pos z1]
        exact bar (by rw [er]; rfl)
      · rw [if_neg z1]
        by_cases z2 : c64 none ≤ v
        · rw [if_pos z2]
          exact keep (by rw [er, hFc, hx])
        · rw [if_neg z2]
          exact bar (by rw [er]; rfl)
    | some x =>
      have hxb := hT.2.2.1 _ _ x hx
      have hvx := hv x hxb.1 hxb.2
      have hw : wR T b t i k = true ↔ b ≤ x ∧ x ≤ t := by
        rw [wR_iff]
        exact ⟨fun ⟨y, e, q⟩ => by rw [hx] at e; cases e; exact q, fun q => ⟨x, hx, q⟩⟩
      by_cases z1 : x < b
      · rw [if_pos (show c64 (some x) < jJ b from of_eq_true (jJ_lt_T (a := x) z1 (by omega) (by omega)))]
        refine bar ?_
        rw [er, if_neg (fun q => by have := hw.mp q; omega)]
        rfl
      · rw [if_neg (show ¬ c64 (some x) < jJ b from of_eq_false (jJ_lt_F (a := x) (by omega) (by omega) (by omega)))]
        by_cases z2 : x ≤ t
        · rw [if_pos (show c64 (some x) ≤ v from hvx.mpr z2)]
          refine keep ?_
          rw [er, if_pos (hw.mpr ⟨by omega, z2⟩), hFc]
        · rw [if_neg (show ¬ c64 (some x) ≤ v from fun q => z2 (hvx.mp q))]
          refine bar ?_
          rw [er, if_neg (fun q => z2 (hw.mp q).2)]
          rfl
  · simp only [f_X7_supposeWithin_L29]
    rw [hg2.2.1, if_pos (show nI T.2.1 ≤ nI T.2.1 from nI_le (Nat.le_refl _) (by omega))]
  · simp only [f_X7_supposeWithin_L14]
    rw [hg2.1, if_neg (show ¬ nI T.1 ≤ nI i from nI_ge hi (by omega)), nI_1]
  · simp only [f_X7_supposeWithin_L14]
    rw [hg2.1, if_pos (show nI T.1 ≤ nI T.1 from nI_le (Nat.le_refl _) (by omega))]
def wtT (T : tb) (z : Int32) : tb := (T.1, T.2.1, fun w j => (T.2.2 w j).map (fun x => if x ≤ z.toInt then x else x + 1000000))
theorem wtT_wk {T : tb} (hT : tb_ok T) (z : Int32) : tb_wk (wtT T z) := by
  refine ⟨hT.1, hT.2.1, fun w j x hx => ?_, fun w j h => ?_⟩
  · have hx : (T.2.2 w j).map (fun x => if x ≤ z.toInt then x else x + 1000000) = some x := hx
    cases hy : T.2.2 w j with
    | none => rw [hy] at hx; cases hx
    | some y =>
      have := hT.2.2.1 _ _ y hy
      rw [hy] at hx
      have hx : (if y ≤ z.toInt then y else y + 1000000) = x := Option.some.inj hx
      split at hx <;> omega
  · show (T.2.2 w j).map _ = none
    rw [hT.2.2.2 w j h]
    rfl
theorem z_64 (z : Int32) : z.toInt64 = jJ z.toInt := by
  rw [← Int64.toInt_inj, Int32.toInt_toInt64, jJ_toInt]
  · have := Int32.le_toInt z; omega
  · have := Int32.toInt_lt z; omega
theorem c_weighted {T : tb} {z : Int32} {s : sx_M} (hT : tb_ok T) (hg : gridIs 3 T s) : Ev (f_X7_supposeWeighted z s) (fun s' => gridIs 13 (wtT T z) s' ∧ sx_eq dD s s') := by
  have h7 := hT.1
  have h8 := hT.2.1
  have hz1 := Int32.le_toInt z
  have hz2 := Int32.toInt_lt z
  obtain ⟨s1, e1, g1, x1⟩ := d_cp hT hg
  have hL := d_rows hT (fun i k => c64 ((wtT T z).2.2 i k)) (fi := fun y => f_X7_supposeWeighted_L26 z z y) (fo := f_X7_supposeWeighted_L13 z) (s := s1) (fun i k s2 F hi hk hg2 hF hFc => ?_) (fun i s2 hg2 => ?_) (fun i s2 hi hg2 => ?_) (fun s2 hg2 => ?_) (d_g3 x1 hg) g1
  · obtain ⟨s2, e2, g2, x2⟩ := hL
    refine ⟨s2, ?_, g2, sx_tr x1 x2⟩
    unfold f_X7_supposeWeighted
    rw [bnd e1, bnd e2]
  · have hat := f_at_in hT hg2 hi hk
    have keep : c64 ((wtT T z).2.2 i k) = F i k → Ev (some (.inl (nI k + 1, s2)) : Option ((Int32 × sx_M) ⊕ sx_M)) (fun r => ∃ s', r = .inl (nI (k + 1), s') ∧ gridF 13 T.1 T.2.1 (upF F i k (c64 ((wtT T z).2.2 i k))) s' ∧ sx_eq dD s2 s') := by
      intro e
      refine ⟨_, rfl, s2, by rw [nI_1], gridF_ext hF (fun x y _ _ => ?_), sx_rf _ _⟩
      unfold upF
      by_cases z : x = i ∧ y = k
      · rw [if_pos z, e, z.1, z.2]
      · rw [if_neg z]
    simp only [f_X7_supposeWeighted_L26]
    rw [hg2.2.1, if_neg (show ¬ nI T.2.1 ≤ nI k from nI_ge hk (by omega)), bnd hat, z_64]
    have er : (wtT T z).2.2 i k = (T.2.2 i k).map (fun x => if x ≤ z.toInt then x else x + 1000000) := rfl
    cases hx : T.2.2 i k with
    | none =>
      rw [if_pos (show c64 none = 9223372036854775807 from rfl)]
      exact keep (by rw [er, hFc, hx]; rfl)
    | some x =>
      have hxb := hT.2.2.1 _ _ x hx
      rw [hx] at er
      have er : (wtT T z).2.2 i k = some (if x ≤ z.toInt then x else x + 1000000) := er
      rw [if_neg (show ¬ c64 (some x) = 9223372036854775807 from of_eq_false (jnv (by omega) (by omega)))]
      by_cases y : x ≤ z.toInt
      · rw [if_pos (show c64 (some x) ≤ jJ z.toInt from of_eq_true (jJ_le_T (a := x) y (by omega) (by omega)))]
        exact keep (by rw [er, if_pos y, hFc, hx])
      · obtain ⟨s3, e3, g3, x3⟩ := d_put h7 h8 hF hi hk (c64 (some x) + 1000000)
        rw [if_neg (show ¬ c64 (some x) ≤ jJ z.toInt from of_eq_false (jJ_le_F (a := x) (by omega) (by omega) (by omega)))]
        refine ⟨.inl (nI (k + 1), s3), ?_, s3, rfl, ?_, x3⟩
        · rw [bnd e3, nI_1]
        · rw [er, if_neg y]
          have e : c64 (some (x + 1000000)) = c64 (some x) + 1000000 := by
            show jJ (x + 1000000) = jJ x + 1000000
            rw [show (1000000 : Int64) = jJ 1000000 by decide, jJ_add]
          rw [e]
          exact g3
  · simp only [f_X7_supposeWeighted_L26]
    rw [hg2.2.1, if_pos (show nI T.2.1 ≤ nI T.2.1 from nI_le (Nat.le_refl _) (by omega))]
  · simp only [f_X7_supposeWeighted_L13]
    rw [hg2.1, if_neg (show ¬ nI T.1 ≤ nI i from nI_ge hi (by omega)), nI_1]
  · simp only [f_X7_supposeWeighted_L13]
    rw [hg2.1, if_pos (show nI T.1 ≤ nI T.1 from nI_le (Nat.le_refl _) (by omega))]
