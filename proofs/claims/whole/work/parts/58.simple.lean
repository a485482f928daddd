/-! least, reduced, noughts, blocked, count, drawn -/
theorem rl_F {T : tb} {z o : Nat} {s : sx_M} (hT : tb_ok T) (hg : tabIs 59 0 T s) (hv : vL T z o) : f_X12_leastOf (nI o) (nI z) s = some (cH (lsO (ln T z o) (nl T z)), s) := by
  have h7 := hT.1
  have h8 := hT.2.1
  have h88 := nl_8 hT z
  have hjb := f_jb hg
  have hwk := f_wk hg
  have hL : whT (f_X12_leastOf_L6 (nI o) (nI z)) (2147483647, nI 0, s) = some (c32 (lsO (ln T z o) (nl T z)), s) := by
    refine wh_for (fun i => (c32 (lsO (ln T z o) i), nI i, s)) (nl T z) (fun i hi => ?_) ?_ rfl
    · have hm := f_minI (lsO (ln T z o) i) (ln T z o i) (lsO_far (fun i => ln_far hT z o i) i) (ln_far hT z o i) s
      simp only [f_X12_leastOf_L6, f_X12_leastOf_L6_J23, f_X12_leastOf_L6_J48, lsO]
      rcases hv with ⟨rfl, ho⟩ | ⟨rfl, ho⟩
      · have hco := f_cost_in hT hg ho (j := i) hi
        have hi : i < T.2.1 := hi
        rw [if_pos (show nI 0 = 0 from rfl), bnd hjb, if_neg (nI_ge hi (by omega)), if_pos (show nI 0 = 0 from rfl), bnd hco]
        have hm' : f_J9_min_7cf53 (c32 (lsO (ln T 0 o) i)) (c32 (T.2.2 o i)) s = some (c32 (omin (lsO (ln T 0 o) i) (ln T 0 o i)), s) := hm
        rw [bnd hm', nI_1]
      · have hi : i < T.1 := hi
        have hco := f_cost_in hT hg hi ho
        rw [if_neg (show ¬ nI 1 = 0 from n1_0), bnd hwk, if_neg (nI_ge hi (by omega)), if_neg (show ¬ nI 1 = 0 from n1_0), bnd hco]
        have hm' : f_J9_min_7cf53 (c32 (lsO (ln T 1 o) i)) (c32 (T.2.2 i o)) s = some (c32 (omin (lsO (ln T 1 o) i) (ln T 1 o i)), s) := hm
        rw [bnd hm', nI_1]
    · simp only [f_X12_leastOf_L6, f_X12_leastOf_L6_J23]
      rcases hv with ⟨rfl, ho⟩ | ⟨rfl, ho⟩
      · rw [if_pos (show nI 0 = 0 from rfl), bnd hjb, if_pos (show nI T.2.1 ≤ nI (nl T 0) from nI_le (Nat.le_refl T.2.1) (by omega))]
      · rw [if_neg (show ¬ nI 1 = 0 from n1_0), bnd hwk, if_pos (show nI T.1 ≤ nI (nl T 1) from nI_le (Nat.le_refl T.1) (by omega))]
  have hf := lsO_far (fun i => ln_far hT z o i) (nl T z)
  unfold f_X12_leastOf
  have hL' : whT (f_X12_leastOf_L6 (nI o) (nI z)) (2147483647, 0, s) = some (c32 (lsO (ln T z o) (nl T z)), s) := hL
  rw [bnd hL']
  cases hh : lsO (ln T z o) (nl T z) with
  | none => rw [if_pos c32_n, cH_n]
  | some x =>
    have := hf x hh
    rw [c32_s, if_neg (of_eq_false (inv_F (by omega) (by omega))), iI_64 (by omega) (by omega), cH_s]
theorem stp_27 : st_ok_27 Rel := by
  intro x y s ⟨A, hok, hc, hr⟩
  have go : ∀ z o, vL A.1 z o → f_X1_hasLine 3 (nI o) (nI z) s = some (1, s) → (∀ s1, rfA A s1 → f_X12_least_ (nI o) (nI z) s1 = (f_X12_leastOf (nI o) (nI z) s1).bind (fun p => some (p.1, p.2))) → ∃ p1 p2, f_X11_least (nI o) (nI z) s = some p1 ∧ f_X12_least_ (nI o) (nI z) p1.2 = some p2 ∧ p1.1 = p2.1 ∧ Rel p2.2 := by
    intro z o hv h1 h2
    refine ⟨(cH (lsO (ln A.1 z o) (nl A.1 z)), s), (cH (lsO (ln A.1 z o) (nl A.1 z)), s), ?_, ?_, rfl, A, hok, hc, hr⟩
    · have hf := lsO_far (fun i => ln_far hok.1 z o i) (nl A.1 z)
      unfold f_X11_least
      rw [bnd h1, if_neg n1_0, bnd (f_leastOf hok.1 hc.1 hv)]
      cases hh : lsO (ln A.1 z o) (nl A.1 z) with
      | none => rw [if_pos c64_n, cH_n]
      | some x =>
        have := hf x hh
        rw [c64_s, if_neg (of_eq_false (jnv (by omega) (by omega))), cH_s]
    · rw [h2 s hr, bnd (rl_F hok.1 hr.1 hv)]
  rcases ix_L hok x y with ⟨w, hw, rfl, rfl⟩ | ⟨w, hw, rfl, rfl⟩ | ⟨hx, hy0, hy1⟩
  · refine go 0 w (Or.inl ⟨rfl, hw⟩) (hl_W hok hc hw) (fun s1 hr1 => ?_)
    unfold f_X12_least_ f_X12_least__J30
    rw [if_pos (show nI 0 = 0 from rfl), bnd (f_isW_in hok.1 hr1.1 hw), if_neg n1_0, if_neg n1_0]
  · refine go 1 w (Or.inr ⟨rfl, hw⟩) (hl_J hok hc hw) (fun s1 hr1 => ?_)
    unfold f_X12_least_ f_X12_least__J12 f_X12_least__J30
    rw [if_neg (show ¬ nI 1 = 0 from n1_0), if_pos (show nI 1 = 1 from rfl), bnd (f_isJ_in hok.1 hr1.1 hw), if_neg n1_0, if_neg n1_0]
  · refine ⟨(-9223372036854775808, s), (-9223372036854775808, s), ?_, ?_, rfl, A, hok, hc, hr⟩
    · unfold f_X11_least
      rw [hx s hc]; rfl
    · unfold f_X12_least_ f_X12_least__J12 f_X12_least__J30
      by_cases h0 : y = 0
      · rw [if_pos h0, f_isW_out hok.1 hr.1 (hy0 h0), Option.bind_some, if_pos rfl, if_neg (by rw [h0]; exact fun q => n1_0 q.symm), if_pos rfl]
      · rw [if_neg h0]
        by_cases h1 : y = 1
        · rw [if_pos h1, f_isJ_out hok.1 hr.1 (hy1 h1), Option.bind_some, if_pos rfl, if_pos rfl]
        · rw [if_neg h1, if_pos rfl]
/-! reduced -/
theorem lsO_mem {h : Nat → Option Int} : ∀ {n i : Nat} {x : Int}, i < n → h i = some x → ∃ l, lsO h n = some l ∧ l ≤ x
  | 0, i, x, hi, _ => by omega
  | n + 1, i, x, hi, hx => by
    unfold lsO
    by_cases q : i = n
    · subst q
      rw [hx]
      cases lsO h i with
      | none => exact ⟨x, rfl, Int.le_refl _⟩
      | some y => exact ⟨_, rfl, by split <;> omega⟩
    · obtain ⟨l, hl, hle⟩ := lsO_mem (n := n) (i := i) (by omega) hx
      rw [hl]
      cases h n with
      | none => exact ⟨l, rfl, hle⟩
      | some y => exact ⟨_, rfl, by split <;> omega⟩
theorem lsO_in {h : Nat → Option Int} : ∀ {n : Nat} {l : Int}, lsO h n = some l → ∃ i, i < n ∧ h i = some l
  | 0, l, q => by cases q
  | n + 1, l, q => by
    unfold lsO at q
    cases hl : lsO h n with
    | none => rw [hl] at q; exact ⟨n, by omega, q⟩
    | some y =>
      rw [hl] at q
      cases hn : h n with
      | none =>
        rw [hn] at q
        obtain ⟨i, hi, hh⟩ := lsO_in (n := n) (l := l) (by rw [hl]; exact q)
        exact ⟨i, by omega, hh⟩
      | some x =>
        rw [hn] at q
        have q : (if x < y then x else y) = l := Option.some.inj q
        split at q
        · exact ⟨n, by omega, by rw [hn, q]⟩
        · obtain ⟨i, hi, hh⟩ := lsO_in (n := n) (l := y) hl
          exact ⟨i, by omega, by rw [hh, q]⟩
/-- a cost less the least of its worker -/
def lsR (T : tb) (w j : Nat) : Option Int := match T.2.2 w j with
  | none => none
  | some x => (lsO (ln T 0 w) T.2.1).map (fun l => x - l)
theorem lsR_n {T : tb} {w j : Nat} (h : T.2.2 w j = none) : lsR T w j = none := by unfold lsR; rw [h]
theorem lsR_s {T : tb} (hT : tb_ok T) {w j : Nat} {x : Int} (h : T.2.2 w j = some x) : ∃ l, lsO (ln T 0 w) T.2.1 = some l ∧ lsR T w j = some (x - l) ∧ -9999 ≤ l ∧ l ≤ x ∧ x ≤ 9999 := by
  have hj : w < T.1 ∧ j < T.2.1 := Decidable.byContradiction (fun q => by rw [hT.2.2.2 w j q] at h; cases h)
  obtain ⟨l, hl, hle⟩ := lsO_mem (h := ln T 0 w) hj.2 (show ln T 0 w j = some x from h)
  obtain ⟨i, _, hi⟩ := lsO_in hl
  have b1 := ln_bd hT 0 w i hi
  have b2 := hT.2.2.1 _ _ x h
  refine ⟨l, hl, ?_, by omega, hle, b2.2⟩
  unfold lsR
  rw [h]
  show (lsO (ln T 0 w) T.2.1).map _ = _
  rw [hl]; rfl
theorem lsR_bd {T : tb} (hT : tb_ok T) {w j : Nat} {y : Int} (h : lsR T w j = some y) : 0 ≤ y ∧ y ≤ 19998 := by
  cases hc : T.2.2 w j with
  | none => rw [lsR_n hc] at h; cases h
  | some x =>
    obtain ⟨l, _, e, b1, b2, b3⟩ := lsR_s hT hc
    rw [e] at h
    cases h
    omega
theorem lsR_far {T : tb} (hT : tb_ok T) (w j : Nat) : far (lsR T w j) := fun y hy => by
  have := lsR_bd hT hy
  omega
def rdO (T : tb) (w j : Nat) : Option Int := match lsR T w j with
  | none => none
  | some y => (lsO (fun v => lsR T v j) T.1).map (fun m => y - m)
theorem rd_s {T : tb} (hT : tb_ok T) {w j : Nat} (hw : w < T.1) {y : Int} (h : lsR T w j = some y) : ∃ m, lsO (fun v => lsR T v j) T.1 = some m ∧ rdO T w j = some (y - m) ∧ 0 ≤ m ∧ m ≤ y ∧ y ≤ 19998 := by
  obtain ⟨m, hm, hle⟩ := lsO_mem (h := fun v => lsR T v j) hw h
  obtain ⟨i, _, hi⟩ := lsO_in hm
  have b1 := lsR_bd hT hi
  have b2 := lsR_bd hT h
  refine ⟨m, hm, ?_, b1.1, hle, b2.2⟩
  unfold rdO
  rw [h]
  show (lsO (fun v => lsR T v j) T.1).map _ = _
  rw [hm]; rfl
theorem f_lessRow {T : tb} {s : sx_M} (hT : tb_ok T) (hg : gridIs 3 T s) {w j : Nat} (hw : w < T.1) (hj : j < T.2.1) : f_X1_lessRow 3 (nI w) (nI j) s = some (c64 (lsR T w j), s) := by
  have hat := at_F hT.1 hT.2.1 hg hw hj
  have hlo := f_leastOf hT hg (z := 0) (o := w) (Or.inl ⟨rfl, hw⟩)
  unfold f_X1_lessRow
  rw [bnd hat]
  cases hc : T.2.2 w j with
  | none => simp only [hc]; rw [if_pos c64_n, lsR_n hc]; rfl
  | some x =>
    obtain ⟨l, hl, e, b1, b2, b3⟩ := lsR_s hT hc
    have hlo' : f_X1_leastOf 3 (nI w) 0 s = some (c64 (some l), s) := by rw [← hl]; exact hlo
    simp only [hc]
    rw [c64_s, if_neg (of_eq_false (jnv (by omega) (by omega))), bnd hlo', c64_s, jJ_sub, e, c64_s]
theorem omin_self {h : Nat → Option Int} {n w : Nat} {y : Int} (hw : w < n) (hy : h w = some y) : omin (some y) (lsO h n) = lsO h n := by
  obtain ⟨l, hl, hle⟩ := lsO_mem hw hy
  rw [hl]
  simp only [omin]
  congr 1
  split <;> omega
theorem f_reducedAt {T : tb} {s : sx_M} (hT : tb_ok T) (hg : gridIs 3 T s) {w j : Nat} (hw : w < T.1) (hj : j < T.2.1) : f_X1_reducedAt 3 (nI w) (nI j) s = some (c64 (rdO T w j), s) := by
  have h7 := hT.1
  unfold f_X1_reducedAt
  rw [bnd (f_lessRow hT hg hw hj)]
  cases hy : lsR T w j with
  | none =>
    simp only
    rw [if_pos c64_n]
    unfold rdO
    rw [hy]; rfl
  | some y =>
    obtain ⟨m, hm, e, b1, b2, b3⟩ := rd_s hT hw hy
    have hL : whT (f_X1_reducedAt_L25 3 (nI j) (jJ y)) (jJ y, 0, s) = some (jJ m, s) := by
      have : whT (f_X1_reducedAt_L25 3 (nI j) (jJ y)) (c64 (omin (some y) (lsO (fun v => lsR T v j) 0)), nI 0, s) = some (c64 (omin (some y) (lsO (fun v => lsR T v j) T.1)), s) := by
        refine wh_for (fun i => (c64 (omin (some y) (lsO (fun v => lsR T v j) i)), nI i, s)) T.1 (fun i hi => ?_) ?_ rfl
        · have hlr := f_lessRow hT hg hi hj
          have hm := f_minJ (omin (some y) (lsO (fun v => lsR T v j) i)) (lsR T i j) (far_min (fun x q => by cases q; omega) (lsO_far (fun v => lsR_far hT v j) i)) (lsR_far hT i j) s
          simp only [f_X1_reducedAt_L25, lsO, hg.1]
          rw [if_neg (nI_ge hi (by omega)), bnd hlr, bnd hm, nI_1, omin_assoc]
        · simp only [f_X1_reducedAt_L25, hg.1]
          rw [if_pos (nI_le (Nat.le_refl _) (by omega))]
      rw [omin_self (h := fun v => lsR T v j) hw hy, hm] at this
      exact this
    rw [c64_s, if_neg (of_eq_false (jnv (by omega) (by omega))), bnd hL, jJ_sub, e, c64_s]
theorem r_less {T : tb} {s : sx_M} (hT : tb_ok T) (hg : tabIs 59 0 T s) {w j : Nat} {y : Int} (hw : w < T.1) (hj : j < T.2.1) (hy : lsR T w j = some y) : f_X12_lessOf (nI w) (nI j) s = some (iI y, s) := by
  have hlo := rl_F hT hg (z := 0) (o := w) (Or.inl ⟨rfl, hw⟩)
  cases hc : T.2.2 w j with
  | none => rw [lsR_n hc] at hy; cases hy
  | some x =>
    obtain ⟨l, hl, e, b1, b2, b3⟩ := lsR_s hT hc
    rw [e] at hy
    cases hy
    have hlo' : f_X12_leastOf (nI w) 0 s = some (jJ l, s) := by rw [← cH_s, ← hl]; exact hlo
    unfold f_X12_lessOf
    rw [bnd (f_cost_in hT hg hw hj)]
    simp only [hc, c32_s]
    rw [bnd hlo', jJ_32, iI_sub]
theorem r_reduced {T : tb} {s : sx_M} (hT : tb_ok T) (hg : tabIs 59 0 T s) {w j : Nat} {y : Int} (hw : w < T.1) (hj : j < T.2.1) (hy : lsR T w j = some y) : ∃ d, rdO T w j = some d ∧ 0 ≤ d ∧ d ≤ 19998 ∧ f_X12_reducedOf (nI w) (nI j) s = some (jJ d, s) := by
  have h7 := hT.1
  obtain ⟨m, hm, e, b1, b2, b3⟩ := rd_s hT hw hy
  refine ⟨y - m, e, by omega, by omega, ?_⟩
  have hL : whT (f_X12_reducedOf_L6 (nI w) (nI j)) (2147483647, 0, s) = some (iI m, s) := by
    have : whT (f_X12_reducedOf_L6 (nI w) (nI j)) (c32 (lsO (fun v => lsR T v j) 0), nI 0, s) = some (c32 (lsO (fun v => lsR T v j) T.1), s) := by
      refine wh_for (fun i => (c32 (lsO (fun v => lsR T v j) i), nI i, s)) T.1 (fun i hi => ?_) ?_ rfl
      · simp only [f_X12_reducedOf_L6, lsO]
        rw [bnd (f_wk hg), if_neg (nI_ge hi (by omega)), bnd (f_cost_in hT hg hi hj)]
        cases hc : T.2.2 i j with
        | none =>
          simp only
          rw [if_pos c32_n, lsR_n hc, omin_n, nI_1]
        | some x =>
          obtain ⟨l, hl, e2, c1, c2, c3⟩ := lsR_s hT hc
          have hmn := f_minI (lsO (fun v => lsR T v j) i) (lsR T i j) (lsO_far (fun v => lsR_far hT v j) i) (lsR_far hT i j) s
          rw [e2, c32_s] at hmn
          rw [c32_s, if_neg (of_eq_false (inv_F (by omega) (by omega))), bnd (r_less hT hg hi hj e2), bnd hmn, nI_1, e2]
      · simp only [f_X12_reducedOf_L6]
        rw [bnd (f_wk hg), if_pos (nI_le (Nat.le_refl _) (by omega))]
    rw [hm] at this
    exact this
  unfold f_X12_reducedOf
  rw [bnd hL, bnd (r_less hT hg hw hj hy), iI_sub, iI_64 (by omega) (by omega)]
theorem stp_37 : st_ok_37 Rel := by
  intro x y s ⟨A, hok, hc, hr⟩
  rcases ix_W hok.1 x with hx | ⟨w, hw, rfl⟩
  · refine ⟨(-9223372036854775808, s), (-9223372036854775808, s), ?_, ?_, rfl, A, hok, hc, hr⟩
    · unfold f_X11_reduced
      rw [f_has_out hc.1 (hx.elim Or.inl (fun q => Or.inr (Or.inl q)))]; rfl
    · unfold f_X12_reduced
      rw [f_isW_out hok.1 hr.1 hx]; rfl
  rcases ix_J hok.1 y with hy | ⟨j, hj, rfl⟩
  · refine ⟨(-9223372036854775808, s), (-9223372036854775808, s), ?_, ?_, rfl, A, hok, hc, hr⟩
    · unfold f_X11_reduced
      rw [f_has_out hc.1 (hy.elim (fun q => Or.inr (Or.inr (Or.inl q))) (fun q => Or.inr (Or.inr (Or.inr q))))]; rfl
    · unfold f_X12_reduced
      rw [bnd (f_isW_in hok.1 hr.1 hw), if_neg n1_0, f_isJ_out hok.1 hr.1 hy]; rfl
  refine ⟨(c64 (rdO A.1 w j), s), (c64 (rdO A.1 w j), s), ?_, ?_, rfl, A, hok, hc, hr⟩
  · unfold f_X11_reduced
    rw [bnd (f_has_in hok.1 hc.1 hw hj), if_neg n1_0, bnd (f_reducedAt hok.1 hc.1 hw hj)]
  · unfold f_X12_reduced
    rw [bnd (f_isW_in hok.1 hr.1 hw), if_neg n1_0, bnd (f_isJ_in hok.1 hr.1 hj), if_neg n1_0, bnd (f_cost_in hok.1 hr.1 hw hj)]
    cases hcc : A.1.2.2 w j with
    | none =>
      simp only
      rw [if_pos c32_n]
      unfold rdO
      rw [lsR_n hcc]; rfl
    | some v =>
      have hb := hok.1.2.2.1 _ _ v hcc
      obtain ⟨l, _, e2, _⟩ := lsR_s hok.1 hcc
      obtain ⟨d, e3, _, _, e4⟩ := r_reduced hok.1 hr.1 hw hj e2
      rw [c32_s, if_neg (of_eq_false (inv_F (by omega) (by omega))), bnd e4, e3, c64_s]
