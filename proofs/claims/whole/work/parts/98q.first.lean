theorem evI_mono {T : tb} {P P' : Int → Prop} {best : evb} (h : evI T P best) (hP : ∀ x, P' x → P x) : evI T P' best :=
  ⟨fun e b hb => h.1 e b (hP b hb), fun d p e => ⟨(h.2 d p e).1, (h.2 d p e).2.1, (h.2 d p e).2.2.1, fun b hb => (h.2 d p e).2.2.2 b (hP b hb)⟩⟩
theorem c_even {T : tb} {s : sx_M} (hT : tb_ok T) (hg : gridIs 3 T s) : Ev (f_X7_chooseEven s) (fun r => ∃ best, r.1 = (if best = none then 0 else 1) ∧ evS best r.2 ∧ evI T (fun x => ∃ w j, T.2.2 w j = some x) best ∧ sx_eq Dch s r.2) := by
  have h7 := hT.1
  have h8 := hT.2.1
  have x0 : sx_eq Dch s (wJ (wJ s 42 6 9223372036854775807) 42 7 9223372036854775807) := sx_wJ' (sx_wJ' (sx_rf _ _) ⟨rfl, Or.inl rfl⟩) ⟨rfl, Or.inr rfl⟩
  have hL : Ev (whT f_X7_chooseEven_L16 (0, wJ (wJ s 42 6 9223372036854775807) 42 7 9223372036854775807)) (fun s' => ∃ best, evS best s' ∧ evI T (fun x => ∃ w j, w < T.1 ∧ T.2.2 w j = some x) best ∧ sx_eq Dch s s') := by
    refine ev_f (fun (i : Nat) (a : Int32 × sx_M) => a.1 = nI i ∧ ∃ best, evS best a.2 ∧ evI T (fun x => ∃ w j, w < i ∧ T.2.2 w j = some x) best ∧ sx_eq Dch s a.2) T.1 ?_ ?_ (i := 0) (by omega) ⟨rfl, none, ⟨by rw [rJ_F (by omega)]; exact rJ_T ⟨rfl, rfl⟩, rJ_T ⟨rfl, rfl⟩, (fun d p e => by cases e)⟩, ⟨(fun _ b ⟨w, j, h, _⟩ => by omega), (fun d p e => by cases e)⟩, x0⟩
    · rintro i ⟨a1, s1⟩ hi ⟨ea, best, b1, b2, b3⟩
      simp only at ea b1 b3
      subst ea
      have hg1 := ch_g3 b3 hg
      have hR : Ev (whT (f_X7_chooseEven_L29 (nI i)) (0, s1)) (fun s' => ∃ best, evS best s' ∧ evI T (fun x => ∃ w j, w < i + 1 ∧ T.2.2 w j = some x) best ∧ sx_eq Dch s s') := by
        refine ev_f (fun (k : Nat) (a : Int32 × sx_M) => a.1 = nI k ∧ ∃ best, evS best a.2 ∧ evI T (fun x => ∃ w j, (w < i ∨ (w = i ∧ j < k)) ∧ T.2.2 w j = some x) best ∧ sx_eq Dch s a.2) T.2.1 ?_ ?_ (i := 0) (by omega) ⟨rfl, best, b1, evI_mono b2 (fun x ⟨w, j, h, e⟩ => ⟨w, j, by omega, e⟩), b3⟩
        · rintro k ⟨a1, s2⟩ hk ⟨ea, best, c1, c2, c3⟩
          simp only at ea c1 c3
          subst ea
          have hg2 := ch_g3 c3 hg
          have hat := f_at_in hT hg2 hi hk
          cases hx : T.2.2 i k with
          | none =>
            rw [hx] at hat
            refine ⟨.inl (nI (k + 1), s2), ?_, rfl, best, c1, evI_mono c2 (fun x ⟨w, j, h, e⟩ => ⟨w, j, ?_, e⟩), c3⟩
            · simp only [f_X7_chooseEven_L29]
              rw [hg2.2.1, if_neg (show ¬ nI T.2.1 ≤ nI k from nI_ge hk (by omega)), bnd hat, if_pos (show c64 none = 9223372036854775807 from rfl), nI_1]
            · rcases h with h | ⟨h1, h2⟩
              · exact Or.inl h
              · by_cases z : j = k
                · rw [h1, z, hx] at e; cases e
                · exact Or.inr ⟨h1, by omega⟩
          | some x =>
            have hxb := hT.2.2.1 _ _ x hx
            rw [hx] at hat
            obtain ⟨s3, e3, best', d1, d2, d3⟩ := c_try hT hg2 hxb c1 c2
            have e3 : f_X7_tryBottom (c64 (some x)) s2 = some s3 := e3
            refine ⟨.inl (nI (k + 1), s3), ?_, rfl, best', d1, evI_mono d2 (fun y ⟨w, j, h, e⟩ => ?_), sx_tr c3 d3⟩
            · simp only [f_X7_chooseEven_L29]
              rw [hg2.2.1, if_neg (show ¬ nI T.2.1 ≤ nI k from nI_ge hk (by omega)), bnd hat, if_neg (show ¬ c64 (some x) = 9223372036854775807 from of_eq_false (jnv (by omega) (by omega))), bnd hat, bnd e3, nI_1]
            · by_cases z : w = i ∧ j = k
              · rw [z.1, z.2, hx] at e
                cases e
                exact Or.inr rfl
              · exact Or.inl ⟨w, j, by omega, e⟩
        · rintro ⟨a1, s2⟩ ⟨ea, best, c1, c2, c3⟩
          simp only at ea c1 c3
          subst ea
          have hg2 := ch_g3 c3 hg
          refine ⟨.inr s2, ?_, best, c1, evI_mono c2 (fun x ⟨w, j, h, e⟩ => ⟨w, j, ?_, e⟩), c3⟩
          · simp only [f_X7_chooseEven_L29]
            rw [hg2.2.1, if_pos (show nI T.2.1 ≤ nI T.2.1 from nI_le (Nat.le_refl _) (by omega))]
          · have hj : j < T.2.1 := Decidable.byContradiction (fun q => by rw [hT.2.2.2 w j (by omega)] at e; cases e)
            omega
      obtain ⟨s2, e2, hQ⟩ := hR
      refine ⟨.inl (nI (i + 1), s2), ?_, rfl, hQ⟩
      simp only [f_X7_chooseEven_L16]
      rw [hg1.1, if_neg (show ¬ nI T.1 ≤ nI i from nI_ge hi (by omega)), bnd e2, nI_1]
    · rintro ⟨a1, s1⟩ ⟨ea, best, b1, b2, b3⟩
      simp only at ea b1 b3
      subst ea
      have hg1 := ch_g3 b3 hg
      refine ⟨.inr s1, ?_, best, b1, b2, b3⟩
      simp only [f_X7_chooseEven_L16]
      rw [hg1.1, if_pos (show nI T.1 ≤ nI T.1 from nI_le (Nat.le_refl _) (by omega))]
  obtain ⟨s1, e1, best, b1, b2, b3⟩ := hL
  have b2' : evI T (fun x => ∃ w j, T.2.2 w j = some x) best := evI_mono b2 (fun x ⟨w, j, e⟩ => ⟨w, j, Decidable.byContradiction (fun q => by rw [hT.2.2.2 w j (by omega)] at e; cases e), e⟩)
  refine ⟨(if best = none then 0 else 1, s1), ?_, best, rfl, b1, b2', b3⟩
  unfold f_X7_chooseEven
  rw [bnd e1, b1.1]
  cases hb : best with
  | none =>
    rw [if_pos (show c64 (Option.map (fun c : Int × asg => c.1) none) = 9223372036854775807 from rfl), if_pos rfl]
  | some c =>
    obtain ⟨d, p⟩ := c
    have hd := (b2.2 d p hb).2.2.1
    rw [if_neg (show ¬ c64 (Option.map (fun c : Int × asg => c.1) (some (d, p))) = 9223372036854775807 from of_eq_false (jnv (x := d) (by omega) (by omega))), if_neg (by simp)]
theorem ms_2 {T : tb} (hT : tb_ok T) {q : asg} (hq : q ∈ allA T) (hW : T.1 ≠ 0) (y : Int32) : ∃ M m : Int, (msO T q 2 y).toInt = M - m ∧ m ≤ M ∧ okR (wR T m M) 0 q.1 = true ∧ (∃ w j, T.2.2 w j = some m) ∧ ∀ b t, okR (wR T b t) 0 q.1 = true → b ≤ m ∧ M ≤ t := by
  have h7 := hT.1
  obtain ⟨M, a1, a2, a3, w0, a4, a5⟩ := mx_I hT hq T.1 (by omega) (Nat.le_refl _)
  obtain ⟨m, b1, b2, b3, w1, b4, b5⟩ := mn_I hT hq T.1 (by omega) (Nat.le_refl _)
  refine ⟨M, m, ?_, a3 w1 m b4 b5, (ok_cel hT hq).mpr (fun w x hw hx => ⟨b3 w x hw hx, a3 w x hw hx⟩), ⟨w1, _, b5⟩, fun b t hk => ?_⟩
  · unfold msO
    rw [if_neg hW, if_neg (by decide), if_neg (by decide), if_pos rfl, a1, b1, jJ_sub, jJ_toInt (by omega) (by omega)]
  · have hk := (ok_cel hT hq).mp hk
    exact ⟨(hk w1 m b4 b5).1, (hk w0 M a4 a5).2⟩
theorem isF_2 {T : tb} (hT : tb_ok T) (hW : T.1 ≠ 0) (y : Int32) {d : Int} {p : asg} (hI : evI T (fun x => ∃ w j, T.2.2 w j = some x) (some (d, p))) : isF (fun q => (msO T q 2 y).toInt) (allA T) p := by
  obtain ⟨c1, ⟨b, t, hd, hk⟩, _, c4⟩ := hI.2 d p rfl
  obtain ⟨Mp, mp, p1, p2, p3, p4, p5⟩ := ms_2 hT c1 hW y
  have hp5 := p5 b t hk
  have hpp := c4 mp p4 Mp p c1 p2 p3
  refine ⟨c1, fun q hq => ?_⟩
  obtain ⟨Mq, mq, q1, q2, q3, q4, q5⟩ := ms_2 hT hq hW y
  have hqq := c4 mq q4 Mq q hq q2 q3
  simp only
  rw [p1, q1]
  omega
def chQ (T : tb) (x y : Int32) (r : Int32 × sx_M) : Prop := ((allA T = [] ∧ r.1 = 0) ∨ ∃ p, r.1 = 1 ∧ isF (fun q => (msO T q x y).toInt) (allA T) p ∧ ∀ i j, p.1[i]? = some j → rA r.2 44 i = nI j) ∧ gridIs 3 T r.2
theorem c_J87 {T T' : tb} {s : sx_M} (hT' : tb_wk T') (hg : gridIs 3 T s) (hg' : gridIs 13 T' s) : Ev (f_X7_choose_J87 s) (fun r => ((allA T' = [] ∧ r.1 = 0) ∨ ∃ p, fmin (allA T') = some p ∧ r.1 = 1 ∧ ∀ i j, p.1[i]? = some j → rA r.2 44 i = nI j) ∧ gridIs 3 T r.2) := by
  obtain ⟨s1, e1, ⟨r1, g1⟩, x1⟩ := d_rf hT' hg'
  unfold f_X7_choose_J87
  rw [bnd e1]
  cases hlow : lowL (allA T') with
  | none =>
    have hn := lowL_none.mp hlow
    rw [bnd (ff_0 (ra := 44) r1 hn), if_pos (Or.inl rfl)]
    exact ⟨_, rfl, Or.inl ⟨hn, rfl⟩, d_g3 x1 hg⟩
  | some lo =>
    obtain ⟨p, hp, _, _⟩ := fmin_some hlow
    obtain ⟨⟨r4, s4⟩, e4, f1, f2, x4⟩ := ff_1 (ra := 44) hT' g1 r1 (by omega) hp
    simp only at f1 f2 x4
    subst f1
    rw [bnd e4, if_pos (Or.inr rfl)]
    exact ⟨_, rfl, Or.inr ⟨p, hp, rfl, f2⟩, ch_g3 (sx_tr (ch_d x1) (ch_44 x4)) hg⟩
theorem c_choose {T : tb} {s : sx_M} (hT : tb_ok T) (hg : gridIs 3 T s) (x y : Int32) : Ev (f_X7_choose x y s) (chQ T x y) := by
  have h7 := hT.1
  unfold f_X7_choose
  by_cases z0 : x = 0
  · rw [if_pos z0, z0]
    obtain ⟨s1, e1, g1, x1⟩ := d_cp hT hg
    rw [bnd e1]
    obtain ⟨r, e, h1, h2⟩ := c_J87 (tb_ok_wk hT) (d_g3 x1 hg) g1
    refine ⟨r, e, ?_, h2⟩
    rcases h1 with h1 | ⟨p, hp, hr, hrow⟩
    · exact Or.inl h1
    · exact Or.inr ⟨p, hr, isF_0 hT y hp, hrow⟩
  rw [if_neg z0]
  by_cases z1 : x = 1
  · rw [if_pos z1, z1]
    obtain ⟨⟨v, s1⟩, e1, ⟨o, a1, a2, a3⟩, x1⟩ := c_top (b := -9999) hT (by omega) hg
    simp only at a3 x1
    subst a3
    have e1 : f_X7_lowestTop (-9999) s = some (c64 o, s1) := e1
    have hg1 : gridIs 3 T s1 := grid_eq x1 (fun z => z) (fun z => z) (by simp only [D43]; omega) hg
    rw [bnd e1]
    have h99 : ∀ q, q ∈ allA T → okR (wR T (-9999) 9999) 0 q.1 = true := fun q hq => (ok_cel hT hq).mpr (fun w x hw hx => by
      obtain ⟨_, x', _, _, _, _, c5, c6⟩ := cel_s hT hq hw
      rw [c5] at hx
      cases hx
      exact c6)
    cases o with
    | none =>
      have hn : allA T = [] := by
        cases hL : allA T with
        | nil => rfl
        | cons q L =>
          have hq : q ∈ allA T := by rw [hL]; exact List.mem_cons_self ..
          obtain ⟨u, eu, _⟩ := a1.1 9999 q hq (h99 q hq)
          cases eu
      obtain ⟨s2, e2, g2, x2⟩ := c_within (T := T) (b := -9999) (t := 9999) (v := c64 none) (s := s1) hT (by omega) (fun x hx1 hx2 => ⟨fun _ => hx2, fun _ => le_mx _⟩) hg1
      have e2 : f_X7_supposeWithin (-9999) (c64 none) s1 = some s2 := e2
      simp only []
      rw [bnd e2]
      obtain ⟨r, e, h1, h2⟩ := c_J87 (tb_ok_wk (resT_ok hT _)) (d_g3 x2 hg1) g2
      refine ⟨r, e, ?_, h2⟩
      rcases h1 with ⟨_, hr⟩ | ⟨p, hp, _⟩
      · exact Or.inl ⟨hn, hr⟩
      · rw [resT_all, hn] at hp
        cases hp
    | some u =>
      obtain ⟨hbu, q0, hq0, hk0⟩ := a1.2 u rfl
      have hu9 : u ≤ 9999 := by
        obtain ⟨u', eu, hu⟩ := a1.1 9999 q0 hq0 (h99 q0 hq0)
        cases eu
        exact hu (by omega)
      obtain ⟨s2, e2, g2, x2⟩ := c_within (T := T) (b := -9999) (t := u) (v := c64 (some u)) (s := s1) hT (by omega) (fun x hx1 hx2 => by
        show jJ x ≤ jJ u ↔ x ≤ u
        constructor
        · intro q
          exact Decidable.byContradiction (fun q2 => absurd q (of_eq_false (jJ_le_F (by omega) (by omega) (by omega))))
        · intro q
          exact of_eq_true (jJ_le_T q (by omega) (by omega))) hg1
      have e2 : f_X7_supposeWithin (-9999) (c64 (some u)) s1 = some s2 := e2
      simp only []
      rw [bnd e2]
      obtain ⟨r, e, h1, h2⟩ := c_J87 (tb_ok_wk (resT_ok hT _)) (d_g3 x2 hg1) g2
      refine ⟨r, e, ?_, h2⟩
      rcases h1 with ⟨hn, _⟩ | ⟨p, hp, hr, hrow⟩
      · rw [resT_all] at hn
        have hmem : q0 ∈ (allA T).filter (fun p => okR (wR T (-9999) u) 0 p.1) := List.mem_filter.mpr ⟨hq0, hk0⟩
        rw [hn] at hmem
        cases hmem
      · exact Or.inr ⟨p, hr, isF_1 hT y a1 hp, hrow⟩
  rw [if_neg z1]
  by_cases z2 : x = 2
  · rw [if_pos z2, z2, hg.1]
    by_cases zw : T.1 = 0
    · rw [if_pos (show nI T.1 = 0 by rw [zw]; rfl)]
      have hall : allA T = [([], 0)] := by
        unfold allA
        rw [zw]
        rfl
      refine ⟨_, rfl, Or.inr ⟨([], 0), rfl, ⟨by rw [hall]; exact List.mem_singleton.mpr rfl, fun q hq => ?_⟩, fun i j h => by simp at h⟩, hg⟩
      rw [hall] at hq
      rw [List.mem_singleton.mp hq]
      exact Or.inr ⟨rfl, Or.inr ⟨rfl, Nat.le_refl _⟩⟩
    · rw [if_neg (show ¬ nI T.1 = 0 from of_eq_false (nI_eq_F (b := 0) zw (by omega) (by omega)))]
      obtain ⟨⟨r1, s1⟩, e1, best, b1, b2, b3, b4⟩ := c_even hT hg
      simp only at b1 b2 b4
      subst b1
      rw [bnd e1]
      cases hb : best with
      | none =>
        rw [if_pos rfl, if_pos rfl]
        refine ⟨_, rfl, Or.inl ⟨?_, rfl⟩, ch_g3 b4 hg⟩
        cases hL : allA T with
        | nil => rfl
        | cons q L =>
          have hq : q ∈ allA T := by rw [hL]; exact List.mem_cons_self ..
          obtain ⟨Mq, mq, q1, q2, q3, q4, q5⟩ := ms_2 hT hq zw y
          exact (b3.1 hb mq q4 Mq q hq q3).elim
      | some c =>
        obtain ⟨d, p⟩ := c
        rw [if_neg (show ¬ (some (d, p) : evb) = none by simp), if_neg n1_0]
        rw [hb] at b3
        exact ⟨_, rfl, Or.inr ⟨p, rfl, isF_2 hT zw y b3, b2.2.2 d p hb⟩, ch_g3 b4 hg⟩
  rw [if_neg z2]
  obtain ⟨s1, e1, g1, x1⟩ := c_weighted (z := y) hT hg
  rw [bnd e1]
  obtain ⟨r, e, h1, h2⟩ := c_J87 (wtT_wk hT y) (d_g3 x1 hg) g1
  refine ⟨r, e, ?_, h2⟩
  rcases h1 with ⟨hn, hr⟩ | ⟨p, hp, hr, hrow⟩
  · have e : allA (wtT T y) = (allA T).map (fun p => (p.1, p.2 + 1000000 * (cnt T y 0 p.1 : Int))) := ex_W T y T.1 0 0
    rw [e] at hn
    exact Or.inl ⟨List.map_eq_nil_iff.mp hn, hr⟩
  · obtain ⟨p0, hp0, hF⟩ := isF_3 hT z0 z1 z2 y hp
    exact Or.inr ⟨p0, hr, hF, fun i j hij => hrow i j (by rw [← hp0]; exact hij)⟩
