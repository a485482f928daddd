theorem evS_eq {best : evb} {s s' : sx_M} (h : evS best s) (h6 : rJ s' 42 6 = rJ s 42 6) (h7 : rJ s' 42 7 = rJ s 42 7) (h4 : ∀ i, rA s' 44 i = rA s 44 i) : evS best s' := ⟨h6.trans h.1, h7.trans h.2.1, fun d p e i j hij => (h4 i).trans (h.2.2 d p e i j hij)⟩
theorem c_try {T : tb} {s : sx_M} (hT : tb_ok T) (hg : gridIs 3 T s) {b : Int} (hb : -9999 ≤ b ∧ b ≤ 9999) {P : Int → Prop} {best : evb} (hS : evS best s) (hI : evI T P best) : Ev (f_X7_tryBottom (jJ b) s) (fun s' => ∃ best', evS best' s' ∧ evI T (fun x => P x ∨ x = b) best' ∧ sx_eq Dch s s') := by
  have h7 := hT.1
  have bA := all_bd hT
  obtain ⟨⟨v, s1⟩, e1, ⟨o, a1, a2, a3⟩, x1⟩ := c_top hT hb hg
  simp only at a3 x1
  subst a3
  have hg1 : gridIs 3 T s1 := grid_eq x1 (fun z => z) (fun z => z) (by simp only [D43]; omega) hg
  have hS1 : evS best s1 := evS_eq hS (x1.2.1 42 6 (fun z => z)) (x1.2.1 42 7 (fun z => z)) (fun i => x1.2.2.1 44 i (fun z => z))
  unfold f_X7_tryBottom
  rw [bnd e1]
  cases o with
  | none =>
    rw [if_pos (show c64 none = 9223372036854775807 from rfl)]
    refine ⟨s1, rfl, best, hS1, ⟨fun e b' hb' t q hq hk => ?_, fun d p e => ?_⟩, ch_43 x1⟩
    · rcases hb' with hb' | rfl
      · exact hI.1 e b' hb' t q hq hk
      · obtain ⟨u, eu, _⟩ := a1.1 t q hq hk
        cases eu
    · obtain ⟨c1, c2, c3, c4⟩ := hI.2 d p e
      refine ⟨c1, c2, c3, fun b' hb' t q hq hbt hk => ?_⟩
      rcases hb' with hb' | rfl
      · exact c4 b' hb' t q hq hbt hk
      · obtain ⟨u, eu, _⟩ := a1.1 t q hq hk
        cases eu
  | some t =>
    obtain ⟨hbt, q0, hq0, hk0⟩ := a1.2 t rfl
    have ht9 : t ≤ 9999 := by
      have hk9 : okR (wR T b 9999) 0 q0.1 = true := (ok_cel hT hq0).mpr (fun w x hw hx => by
        obtain ⟨_, x', _, _, _, _, c5, c6⟩ := cel_s hT hq0 hw
        rw [c5] at hx
        cases hx
        exact ⟨((ok_cel hT hq0).mp hk0 w _ hw c5).1, c6.2⟩)
      obtain ⟨u, eu, hu⟩ := a1.1 9999 q0 hq0 hk9
      cases eu
      exact hu hb.2
    have hmin : ∀ t' q, q ∈ allA T → b ≤ t' → okR (wR T b t') 0 q.1 = true → t ≤ t' := by
      intro t' q hq hbt' hk
      obtain ⟨u, eu, hu⟩ := a1.1 t' q hq hk
      cases eu
      exact hu hbt'
    rw [if_neg (show ¬ c64 (some t) = 9223372036854775807 from of_eq_false (jnv (by omega) (by omega)))]
    have esub : c64 (some t) - jJ b = jJ (t - b) := jJ_sub t b
    simp only []
    rw [esub]
    by_cases hle : jJ (t - b) ≤ rJ s1 42 6
    · rw [if_pos hle]
      have hdle : ∀ d p, best = some (d, p) → t - b ≤ d := by
        intro d p e
        have hd := (hI.2 d p e).2.2.1
        rw [hS1.1, e] at hle
        have hle : jJ (t - b) ≤ jJ d := hle
        exact Decidable.byContradiction (fun q => absurd hle (of_eq_false (jJ_le_F (by omega) (by omega) (by omega))))
      obtain ⟨s2, e2, g2, x2⟩ := c_within (T := T) (b := b) (t := t) (v := c64 (some t)) (s := s1) hT hb (fun x hx1 hx2 => by
        show jJ x ≤ jJ t ↔ x ≤ t
        constructor
        · intro q
          exact Decidable.byContradiction (fun q2 => absurd q (of_eq_false (jJ_le_F (by omega) (by omega) (by omega))))
        · intro q
          exact of_eq_true (jJ_le_T q (by omega) (by omega))) hg1
      have okR' := resT_ok hT (wR T b t)
      obtain ⟨s3, e3, ⟨r3, g3⟩, x3⟩ := d_rf (tb_ok_wk okR') g2
      have hne : lowL (allA (resT T (wR T b t))) ≠ none := fun q => by
        have := lowL_none.mp q
        rw [resT_all] at this
        have hmem : q0 ∈ (allA T).filter (fun p => okR (wR T b t) 0 p.1) := List.mem_filter.mpr ⟨hq0, hk0⟩
        rw [this] at hmem
        cases hmem
      cases hlow : lowL (allA (resT T (wR T b t))) with
      | none => exact absurd hlow hne
      | some lo =>
      obtain ⟨p', hp', hpm, _⟩ := fmin_some hlow
      obtain ⟨⟨r4, s4⟩, e4, f1, f2, x4⟩ := ff_1 (ra := 45) (tb_ok_wk okR') g3 r3 (by omega) hp'
      simp only at f1 f2 x4
      subst f1
      have hpw : ((allA T).filter (fun p => okR (wR T b t) 0 p.1)).Pairwise (fun p q => cod p.1 < cod q.1) := (all_pw T).filter _
      rw [resT_all] at hp' hpm
      obtain ⟨h1, h2⟩ := fmin_F hpw hp'
      obtain ⟨h1, h1k⟩ := List.mem_filter.mp h1
      have hpb := bA.2 p' h1
      have x14 : sx_eq Dch s1 s4 := sx_tr (ch_d (sx_tr x2 x3)) (ch_45 x4)
      have hg4 : gridIs 3 T s4 := ch_g3 x14 hg1
      have hS4 : evS best s4 := by
        refine evS_eq hS1 ?_ ?_ (fun i => ?_)
        · rw [x4.2.1 42 6 (fun z => z), x3.2.1 42 6 (fun z => z), x2.2.1 42 6 (fun z => z)]
        · rw [x4.2.1 42 7 (fun z => z), x3.2.1 42 7 (fun z => z), x2.2.1 42 7 (fun z => z)]
        · rw [x4.2.2.1 44 i (by simp only [Dar]; omega), x3.2.2.1 44 i (by simp only [dD]; omega), x2.2.2.1 44 i (by simp only [dD]; omega)]
      have hx4 : sx_eq Dch s s4 := sx_tr (ch_43 x1) x14
      have take : (∀ d p, best = some (d, p) → t - b < d ∨ (t - b = d ∧ (p'.2 < p.2 ∨ (p'.2 = p.2 ∧ cod p'.1 < cod p.1)))) → Ev (f_X7_tryBottom_J105 (jJ b) (c64 (some t)) (jJ p'.2) s4) (fun s' => ∃ best', evS best' s' ∧ evI T (fun x => P x ∨ x = b) best' ∧ sx_eq Dch s s') := by
        intro hbet
        obtain ⟨s5, e5, g5, x5⟩ := c_J105 hT hg4 h1 f2 b t
        refine ⟨s5, e5, some (t - b, p'), g5, ⟨(fun e => by cases e), fun d p e => ?_⟩, sx_tr hx4 x5⟩
        cases e
        refine ⟨h1, ⟨b, t, rfl, h1k⟩, by omega, fun b' hb' t' q hq hbt' hk => ?_⟩
        rcases hb' with hb' | rfl
        · cases hbs : best with
          | none => exact (hI.1 hbs b' hb' t' q hq hk).elim
          | some c =>
            obtain ⟨d0, p0⟩ := c
            have c4 := (hI.2 d0 p0 hbs).2.2.2 b' hb' t' q hq hbt' hk
            have := hbet d0 p0 hbs
            omega
        · have := hmin t' q hq hbt' hk
          by_cases z : t = t'
          · subst z
            have := h2 q (List.mem_filter.mpr ⟨hq, hk⟩)
            exact Or.inr ⟨rfl, this⟩
          · exact Or.inl (by omega)
      have stay : ∀ d p, best = some (d, p) → t - b = d → (p.2 < p'.2 ∨ (p.2 = p'.2 ∧ cod p.1 ≤ cod p'.1)) → Ev (some s4) (fun s' => ∃ best', evS best' s' ∧ evI T (fun x => P x ∨ x = b) best' ∧ sx_eq Dch s s') := by
        intro d p e hd hle2
        refine ⟨s4, rfl, best, hS4, ⟨(fun e' => by rw [e] at e'; cases e'), fun d' p1 e' => ?_⟩, hx4⟩
        rw [e] at e'
        cases e'
        obtain ⟨c1, c2, c3, c4⟩ := hI.2 d p e
        refine ⟨c1, c2, c3, fun b' hb' t' q hq hbt' hk => ?_⟩
        rcases hb' with hb' | rfl
        · exact c4 b' hb' t' q hq hbt' hk
        · have := hmin t' q hq hbt' hk
          by_cases z : t = t'
          · subst z
            have := h2 q (List.mem_filter.mpr ⟨hq, hk⟩)
            omega
          · exact Or.inl (by omega)
      rw [bnd e2, bnd e3, bnd e4, if_neg n1_0, bnd (f_sumOf hT hg4 h1 f2)]
      simp only []
      rw [hS4.1, hS4.2.1]
      cases hbs : best with
      | none =>
        rw [if_pos (show jJ (t - b) < c64 (Option.map (fun c : Int × asg => c.1) none) from by
          show jJ (t - b) < (9223372036854775807 : Int64)
          rw [jJ_nv]
          exact of_eq_true (jJ_lt_T (by omega) (by omega) (by omega)))]
        exact take (fun d p e => by rw [hbs] at e; cases e)
      | some c =>
        obtain ⟨d, p⟩ := c
        obtain ⟨c1, c2, c3, c4⟩ := hI.2 d p hbs
        have hd := hdle d p hbs
        have hpb2 := bA.2 p c1
        show Ev (if jJ (t - b) < jJ d then _ else _) _
        by_cases z1 : t - b < d
        · rw [if_pos (show jJ (t - b) < jJ d from of_eq_true (jJ_lt_T z1 (by omega) (by omega)))]
          exact take (fun d' p1 e => by rw [hbs] at e; cases e; exact Or.inl z1)
        · rw [if_neg (show ¬ jJ (t - b) < jJ d from of_eq_false (jJ_lt_F (by omega) (by omega) (by omega)))]
          show Ev (if jJ p'.2 < jJ p.2 then _ else _) _
          by_cases z2 : p'.2 < p.2
          · rw [if_pos (show jJ p'.2 < jJ p.2 from of_eq_true (jJ_lt_T z2 (by omega) (by omega)))]
            exact take (fun d' p1 e => by rw [hbs] at e; cases e; exact Or.inr ⟨by omega, Or.inl z2⟩)
          · rw [if_neg (show ¬ jJ p'.2 < jJ p.2 from of_eq_false (jJ_lt_F (by omega) (by omega) (by omega)))]
            show Ev (if jJ p'.2 = jJ p.2 then _ else _) _
            by_cases z3 : p'.2 = p.2
            · rw [if_pos (show jJ p'.2 = jJ p.2 by rw [z3]), bnd (c_tried hT hg4 c1 h1 (hS4.2.2 d p hbs) f2)]
              by_cases z4 : cod p'.1 < cod p.1
              · rw [if_pos z4, if_neg n1_0]
                exact take (fun d' p1 e => by rw [hbs] at e; cases e; exact Or.inr ⟨by omega, Or.inr ⟨z3, z4⟩⟩)
              · rw [if_neg z4, if_pos rfl]
                exact stay d p hbs (by omega) (Or.inr ⟨z3.symm, by omega⟩)
            · rw [if_neg (show ¬ jJ p'.2 = jJ p.2 from of_eq_false (jJ_eq_F z3 (by omega) (by omega) (by omega) (by omega)))]
              exact stay d p hbs (by omega) (Or.inl (by omega))
    · rw [if_neg hle]
      have hbig : ∃ d p, best = some (d, p) ∧ d < t - b := by
        cases hbs : best with
        | none =>
          exfalso
          apply hle
          rw [hS1.1, hbs]
          exact le_mx _
        | some c =>
          obtain ⟨d, p⟩ := c
          have hd := (hI.2 d p hbs).2.2.1
          refine ⟨d, p, rfl, Decidable.byContradiction (fun q => hle ?_)⟩
          rw [hS1.1, hbs]
          show jJ (t - b) ≤ jJ d
          exact of_eq_true (jJ_le_T (by omega) (by omega) (by omega))
      obtain ⟨d, p, hbs, hd⟩ := hbig
      refine ⟨s1, rfl, best, hS1, ⟨(fun e => by rw [hbs] at e; cases e), fun d' p1 e => ?_⟩, ch_43 x1⟩
      rw [hbs] at e
      cases e
      obtain ⟨c1, c2, c3, c4⟩ := hI.2 d p hbs
      refine ⟨c1, c2, c3, fun b' hb' t' q hq hbt' hk => ?_⟩
      rcases hb' with hb' | rfl
      · exact c4 b' hb' t' q hq hbt' hk
      · have := hmin t' q hq hbt' hk
        exact Or.inl (by omega)
