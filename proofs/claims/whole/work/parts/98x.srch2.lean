theorem mo_g {T : tb} {s s' : sx_M} (hx : sx_eq Dmo s s') (hg : gridIs 3 T s) : gridIs 3 T s' := grid_eq hx (by simp only [Dmo]; omega) (by simp only [Dmo]; omega) (fun z => z) hg
theorem c_ext {T : tb} (hT : tb_ok T) {p : asg} (hp : p ∈ allA T) {TK : Nat} (hTK : tkI p.1 T.1 TK) : ∀ (n lead last S : Nat) (sf : Int) (m : mb) (Off : Nat → Int → Prop) (s : sx_M), lead < T.1 → last < T.1 → S < 2 ^ T.1 → 0 < S → T.1 + 1 ≤ pcn S + n → (-(20000 * (pcn S : Int)) ≤ sf ∧ sf ≤ 20000 * (pcn S : Int)) → gridIs 3 T s → rowH 54 T.1 p.1 s → rI s 53 2 = nI TK → mvC m s → bsI Off m → Ev (fr_X3_extend n (nI lead) (nI last) (nI S) (jJ sf) s) (fun s' => ∃ m', mvC m' s' ∧ bsI (fun S' t' => Off S' t' ∨ offs T p.1 n lead last S sf S' t') m' ∧ sx_eq Dmo s s') := by
  have h7 := hT.1
  have h8 := hT.2.1
  intro n
  induction n with
  | zero =>
    intro lead last S sf m Off s _ _ hS _ hn
    have := pcn_W T.1 (by omega) S hS
    omega
  | succ n ih =>
    intro lead last S sf m Off s hle hla hS hS0 hn hsf hg hr h2 hm hb
    have hpW := pcn_W T.1 (by omega) S hS
    have hS6 : S < 256 := Nat.lt_of_lt_of_le hS (pw_le (show T.1 ≤ 8 by omega))
    have hsf' : -1000000 ≤ sf ∧ sf ≤ 1000000 := by omega
    have hbd : ∀ j d, shO T p.1 last j = some d → -100000 ≤ d ∧ d ≤ 100000 := fun j d hd => by
      have := sh_bd hT hp hla d hd
      omega
    -- the jobs that nobody has, then the workers
    have hJ : ∀ (m : mb) (Off : Nat → Int → Prop) (s : sx_M), gridIs 3 T s → rowH 54 T.1 p.1 s → rI s 53 2 = nI TK → mvC m s → bsI Off m → Ev (f_X3_extend_J38 (fr_X3_extend n) (nI lead) (nI last) (nI S) (jJ sf) s) (fun s' => ∃ m', mvC m' s' ∧ bsI (fun S' t' => Off S' t' ∨ (∃ j d, j < T.2.1 ∧ fw p.1 j 0 T.1 = none ∧ shO T p.1 last j = some d ∧ S' = S ∧ t' = sf + d) ∨ (∃ v d, v < T.1 ∧ S.testBit v = false ∧ shO T p.1 last (p.1.getD v 0) = some d ∧ offs T p.1 n lead v (S ||| 2 ^ v) (sf + d) S' t')) m' ∧ sx_eq Dmo s s') := by
      intro m Off s hg hr h2 hm hb
      have i1 : Ev (whT (f_X3_extend_L41 (fr_X3_extend n) (nI lead) (nI last) (nI S) (jJ sf)) (0, s)) (fun s' => ∃ m', mvC m' s' ∧ bsI (fun S' t' => Off S' t' ∨ (∃ j d, j < T.2.1 ∧ fw p.1 j 0 T.1 = none ∧ shO T p.1 last j = some d ∧ S' = S ∧ t' = sf + d)) m' ∧ sx_eq Dmo s s') := by
        refine ev_f (fun (k : Nat) (a : Int32 × sx_M) => a.1 = nI k ∧ ∃ m', mvC m' a.2 ∧ bsI (fun S' t' => Off S' t' ∨ (∃ j d, j < k ∧ fw p.1 j 0 T.1 = none ∧ shO T p.1 last j = some d ∧ S' = S ∧ t' = sf + d)) m' ∧ sx_eq Dmo s a.2) T.2.1 ?_ ?_ (i := 0) (by omega) ⟨rfl, m, hm, bsI_c hb (fun S' t' => ⟨fun h => h.resolve_right (fun ⟨j, d, h, _⟩ => by omega), Or.inl⟩), sx_rf _ _⟩
        · rintro k ⟨a1, s1⟩ hk ⟨ea, m1, c1, c2, c3⟩
          simp only at ea c1 c3
          subst ea
          have hg1 := mo_g c3 hg
          have hr1 := rowH_eq c3 (fun z => z) hr
          have h21 : rI s1 53 2 = nI TK := by rw [c3.1 53 2 (by simp only [Dmo]; omega)]; exact h2
          have hhas := nI_has (S := TK) (j := k) (by have := hTK.1; omega) (by omega)
          cases hbt : TK.testBit k with
          | true =>
            refine ⟨.inl (nI (k + 1), s1), ?_, rfl, m1, c1, bsI_c c2 (fun S' t' => ?_), c3⟩
            · simp only [f_X3_extend_L41]
              rw [hg1.2.1, if_neg (show ¬ nI T.2.1 ≤ nI k from nI_ge hk (by omega)), h21, hhas, hbt, if_neg (show ¬ nI (if true = true then 1 else 0) = 0 by decide), nI_1]
            · have hfn : fw p.1 k 0 T.1 ≠ none := fun q => by rw [(tk_fw hTK).mpr q] at hbt; cases hbt
              constructor
              · rintro (h | ⟨j, d, h1, h3, h4⟩)
                · exact Or.inl h
                · refine Or.inr ⟨j, d, ?_, h3, h4⟩
                  by_cases z : j = k
                  · rw [z] at h3; exact absurd h3 hfn
                  · omega
              · rintro (h | ⟨j, d, h1, h3⟩)
                · exact Or.inl h
                · exact Or.inr ⟨j, d, by omega, h3⟩
          | false =>
            have hfn := (tk_fw hTK).mp hbt
            obtain ⟨s2, e2, m2, d1, d2, d3⟩ := c_offer hS0 hS6 hsf' (hbd k) c1 c2
            refine ⟨.inl (nI (k + 1), s2), ?_, rfl, m2, d1, bsI_c d2 (fun S' t' => ?_), sx_tr c3 d3⟩
            · simp only [f_X3_extend_L41]
              rw [hg1.2.1, if_neg (show ¬ nI T.2.1 ≤ nI k from nI_ge hk (by omega)), h21, hhas, hbt, if_pos (show nI (if false = true then 1 else 0) = 0 by decide), bnd (c_shift hT hg1 hp hr1 hla (show k < 8 by omega)), bnd e2, nI_1]
            · constructor
              · rintro (h | ⟨j, d, h1, h3, h4, h5⟩)
                · exact Or.inl (Or.inl h)
                · by_cases z : j = k
                  · rw [z] at h4; exact Or.inr ⟨d, h4, h5⟩
                  · exact Or.inl (Or.inr ⟨j, d, by omega, h3, h4, h5⟩)
              · rintro ((h | ⟨j, d, h1, h3⟩) | ⟨d, h4, h5⟩)
                · exact Or.inl h
                · exact Or.inr ⟨j, d, by omega, h3⟩
                · exact Or.inr ⟨k, d, by omega, hfn, h4, h5⟩
        · rintro ⟨a1, s1⟩ ⟨ea, m1, c1, c2, c3⟩
          simp only at ea c1 c3
          subst ea
          refine ⟨.inr s1, ?_, m1, c1, c2, c3⟩
          simp only [f_X3_extend_L41]
          rw [(mo_g c3 hg).2.1, if_pos (show nI T.2.1 ≤ nI T.2.1 from nI_le (Nat.le_refl _) (by omega))]
      obtain ⟨s1, e1, m1, c1, c2, c3⟩ := i1
      have hg1 := mo_g c3 hg
      have hr1 := rowH_eq c3 (fun z => z) hr
      have h21 : rI s1 53 2 = nI TK := by rw [c3.1 53 2 (by simp only [Dmo]; omega)]; exact h2
      generalize hO1 : (fun S' t' => Off S' t' ∨ (∃ j d, j < T.2.1 ∧ fw p.1 j 0 T.1 = none ∧ shO T p.1 last j = some d ∧ S' = S ∧ t' = sf + d)) = Off1 at c2
      have i2 : Ev (whT (f_X3_extend_L88 (fr_X3_extend n) (nI lead) (nI last) (nI S) (jJ sf)) (0, s1)) (fun s' => ∃ m', mvC m' s' ∧ bsI (fun S' t' => Off1 S' t' ∨ (∃ v d, v < T.1 ∧ S.testBit v = false ∧ shO T p.1 last (p.1.getD v 0) = some d ∧ offs T p.1 n lead v (S ||| 2 ^ v) (sf + d) S' t')) m' ∧ sx_eq Dmo s1 s') := by
        refine ev_f (fun (k : Nat) (a : Int32 × sx_M) => a.1 = nI k ∧ ∃ m', mvC m' a.2 ∧ bsI (fun S' t' => Off1 S' t' ∨ (∃ v d, v < k ∧ S.testBit v = false ∧ shO T p.1 last (p.1.getD v 0) = some d ∧ offs T p.1 n lead v (S ||| 2 ^ v) (sf + d) S' t')) m' ∧ sx_eq Dmo s1 a.2) T.1 ?_ ?_ (i := 0) (by omega) ⟨rfl, m1, c1, bsI_c c2 (fun S' t' => ⟨fun h => h.resolve_right (fun ⟨j, d, h, _⟩ => by omega), Or.inl⟩), sx_rf _ _⟩
        · rintro k ⟨a1, s2⟩ hk ⟨ea, m2, d1, d2, d3⟩
          simp only at ea d1 d3
          subst ea
          have hg2 := mo_g d3 hg1
          have hr2 := rowH_eq d3 (fun z => z) hr1
          have h22 : rI s2 53 2 = nI TK := by rw [d3.1 53 2 (by simp only [Dmo]; omega)]; exact h21
          have hhas := nI_has (S := S) (j := k) (by omega) (by omega)
          have hin : ¬ (nI k < 0 ∨ 7 ≤ (nI k).toNatClampNeg) := by
            rw [nI_cl (by omega)]
            exact fun q => q.elim (nI_pos (by omega)) (by omega)
          have pre : f_X3_extend_L88 (fr_X3_extend n) (nI lead) (nI last) (nI S) (jJ sf) (nI k, s2) = (if nI (if S.testBit k then 1 else 0) = 0 then (if c64 (shO T p.1 last (p.1.getD k 0)) = 9223372036854775807 then some (.inl (nI (k + 1), s2)) else (fr_X3_extend n (nI lead) (nI k) (nI (S ||| 2 ^ k)) (jJ sf + c64 (shO T p.1 last (p.1.getD k 0))) s2).bind (fun p5 => some (.inl (nI (k + 1), p5)))) else some (.inl (nI (k + 1), s2))) := by
            simp only [f_X3_extend_L88]
            rw [hg2.1, if_neg (show ¬ nI T.1 ≤ nI k from nI_ge hk (by omega)), hhas, if_pos hin, nI_cl (show k < 2147483648 by omega), (hr2 k hk).1, bnd (c_shift hT hg2 hp hr2 hla (hr2 k hk).2), nI_bit (show k < 31 by omega), nI_or, nI_1]
          cases hbt : S.testBit k with
          | true =>
            rw [hbt, if_neg (show ¬ nI (if true = true then 1 else 0) = 0 by decide)] at pre
            refine ⟨_, pre, rfl, m2, d1, bsI_c d2 (fun S' t' => ?_), d3⟩
            constructor
            · rintro (h | ⟨v, d, h1, h3, h4⟩)
              · exact Or.inl h
              · refine Or.inr ⟨v, d, ?_, h3, h4⟩
                by_cases z : v = k
                · rw [z, hbt] at h3; cases h3
                · omega
            · rintro (h | ⟨v, d, h1, h3⟩)
              · exact Or.inl h
              · exact Or.inr ⟨v, d, by omega, h3⟩
          | false =>
            rw [hbt, if_pos (show nI (if false = true then 1 else 0) = 0 by decide)] at pre
            cases hsh : shO T p.1 last (p.1.getD k 0) with
            | none =>
              rw [hsh, if_pos (show c64 none = 9223372036854775807 from rfl)] at pre
              refine ⟨_, pre, rfl, m2, d1, bsI_c d2 (fun S' t' => ?_), d3⟩
              constructor
              · rintro (h | ⟨v, d, h1, h3, h4, h5⟩)
                · exact Or.inl h
                · refine Or.inr ⟨v, d, ?_, h3, h4, h5⟩
                  by_cases z : v = k
                  · rw [z, hsh] at h4; cases h4
                  · omega
              · rintro (h | ⟨v, d, h1, h3⟩)
                · exact Or.inl h
                · exact Or.inr ⟨v, d, by omega, h3⟩
            | some d =>
              have hdb := sh_bd hT hp hla d hsh
              have hpc := pcn_s h7 hS hk hbt
              have hgt := or_gt hbt
              have eadd : jJ sf + c64 (some d) = jJ (sf + d) := by
                show jJ sf + jJ d = _
                rw [jJ_add]
              rw [hsh, if_neg (show ¬ c64 (some d) = 9223372036854775807 from of_eq_false (jnv (x := d) (by omega) (by omega))), eadd] at pre
              obtain ⟨s3, e3, m3, f1, f2, f3⟩ := ih lead k (S ||| 2 ^ k) (sf + d) m2 _ s2 hle hk (or_lt' hS hk) (by omega) (by omega) (by rw [hpc.1]; omega) hg2 hr2 h22 d1 d2
              rw [bnd e3] at pre
              refine ⟨_, pre, rfl, m3, f1, bsI_c f2 (fun S' t' => ?_), sx_tr d3 f3⟩
              constructor
              · rintro (h | ⟨v, d', h1, h3, h4, h5⟩)
                · exact Or.inl (Or.inl h)
                · by_cases z : v = k
                  · subst z
                    rw [hsh] at h4
                    cases h4
                    exact Or.inr h5
                  · exact Or.inl (Or.inr ⟨v, d', by omega, h3, h4, h5⟩)
              · rintro ((h | ⟨v, d', h1, h3⟩) | h5)
                · exact Or.inl h
                · exact Or.inr ⟨v, d', by omega, h3⟩
                · exact Or.inr ⟨k, d, by omega, hbt, hsh, h5⟩
        · rintro ⟨a1, s2⟩ ⟨ea, m2, d1, d2, d3⟩
          simp only at ea d1 d3
          subst ea
          refine ⟨.inr s2, ?_, m2, d1, d2, d3⟩
          simp only [f_X3_extend_L88]
          rw [(mo_g d3 hg1).1, if_pos (show nI T.1 ≤ nI T.1 from nI_le (Nat.le_refl _) (by omega))]
      obtain ⟨s2, e2, m2, d1, d2, d3⟩ := i2
      refine ⟨s2, ?_, m2, d1, bsI_c d2 (fun S' t' => ?_), sx_tr c3 d3⟩
      · unfold f_X3_extend_J38
        rw [bnd e1, bnd e2]
      · rw [← hO1]
        exact (or_assoc).symm
    show Ev (fb_X3_extend (fr_X3_extend n) (nI lead) (nI last) (nI S) (jJ sf) s) _
    unfold fb_X3_extend
    rw [bnd (f_pcn hS6 s), hg.1, if_pos (show nI (pcn S) ≤ nI T.1 from nI_le hpW (by omega))]
    by_cases z : lead = last
    · rw [if_pos (show nI lead = nI last by rw [z])]
      obtain ⟨s1, e1, m1, c1, c2, c3⟩ := hJ m Off s hg hr h2 hm hb
      refine ⟨s1, e1, m1, c1, bsI_c c2 (fun S' t' => ?_), c3⟩
      constructor
      · rintro (h | h | h | h)
        · exact Or.inl h
        · exact absurd z h.1
        · exact Or.inr (Or.inl h)
        · exact Or.inr (Or.inr h)
      · rintro (h | h | h)
        · exact Or.inl h
        · exact Or.inr (Or.inr (Or.inl h))
        · exact Or.inr (Or.inr (Or.inr h))
    · have hin : ¬ (nI lead < 0 ∨ 7 ≤ (nI lead).toNatClampNeg) := by
        rw [nI_cl (by omega)]
        exact fun q => q.elim (nI_pos (by omega)) (by omega)
      obtain ⟨s1, e1, m1, c1, c2, c3⟩ := c_offer hS0 hS6 hsf' (hbd (p.1.getD lead 0)) hm hb
      have h21 : rI s1 53 2 = nI TK := by rw [c3.1 53 2 (by simp only [Dmo]; omega)]; exact h2
      obtain ⟨s2, e2, m2, d1, d2, d3⟩ := hJ m1 _ s1 (mo_g c3 hg) (rowH_eq c3 (fun z => z) hr) h21 c1 c2
      refine ⟨s2, ?_, m2, d1, bsI_c d2 (fun S' t' => ?_), sx_tr c3 d3⟩
      · rw [if_neg (show ¬ nI lead = nI last from of_eq_false (nI_eq_F z (by omega) (by omega))), if_pos hin, nI_cl (by omega), (hr lead hle).1, bnd (c_shift hT hg hp hr hla (hr lead hle).2), bnd e1, e2]
      · constructor
        · rintro (h | h | h | h)
          · exact Or.inl (Or.inl h)
          · exact Or.inl (Or.inr h.2)
          · exact Or.inr (Or.inl h)
          · exact Or.inr (Or.inr h)
        · rintro ((h | h) | h | h)
          · exact Or.inl h
          · exact Or.inr (Or.inl ⟨z, h⟩)
          · exact Or.inr (Or.inr (Or.inl h))
          · exact Or.inr (Or.inr (Or.inr h))
