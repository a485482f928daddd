/-! A LINE of the grid: a worker's or a job's costs -/
def ln (T : tb) (z o i : Nat) : Option Int := if z = 0 then T.2.2 o i else T.2.2 i o
def nl (T : tb) (z : Nat) : Nat := if z = 0 then T.2.1 else T.1
def vL (T : tb) (z o : Nat) : Prop := (z = 0 ∧ o < T.1) ∨ (z = 1 ∧ o < T.2.1)
theorem nl_8 {T : tb} (hT : tb_ok T) (z : Nat) : nl T z ≤ 8 := by
  have := hT.1
  have := hT.2.1
  unfold nl; split <;> omega
theorem ln_bd {T : tb} (hT : tb_ok T) (z o i : Nat) {x : Int} (h : ln T z o i = some x) : -9999 ≤ x ∧ x ≤ 9999 := by
  unfold ln at h
  split at h
  · exact hT.2.2.1 _ _ x h
  · exact hT.2.2.1 _ _ x h
theorem ln_far {T : tb} (hT : tb_ok T) (z o i : Nat) : far (ln T z o i) := fun x hx => by
  have := ln_bd hT z o i hx
  omega
section LN
variable {T : tb} {z o : Nat} {s : sx_M}
theorem ac_F (hg : gridIs 3 T s) (hz : z ≤ 1) : f_X1_across 3 (nI z) s = some (nI (nl T z), s) := by
  unfold f_X1_across nl
  rcases (show z = 0 ∨ z = 1 by omega) with rfl | rfl
  · rw [if_pos (show nI 0 = 0 from rfl), if_pos rfl, hg.2.1]
  · rw [if_neg (show ¬ nI 1 = 0 from n1_0), if_neg (by omega), hg.1]
theorem il_F (hT : tb_ok T) (hg : gridIs 3 T s) (hv : vL T z o) {i : Nat} (hi : i < nl T z) : f_X1_inLine 3 (nI o) (nI z) (nI i) s = some (c64 (ln T z o i), s) := by
  unfold f_X1_inLine ln
  unfold nl at hi
  rcases hv with ⟨rfl, ho⟩ | ⟨rfl, ho⟩
  · rw [if_pos rfl] at hi
    rw [if_pos (show nI 0 = 0 from rfl), at_F hT.1 hT.2.1 hg ho hi, if_pos rfl]; rfl
  · rw [if_neg (by omega)] at hi
    rw [if_neg (show ¬ nI 1 = 0 from n1_0), at_F hT.1 hT.2.1 hg hi ho, if_neg (by omega)]; rfl
/-- how many of a line are costs -/
def cnO (h : Nat → Option Int) : Nat → Nat
  | 0 => 0
  | i + 1 => cnO h i + (if (h i).isSome then 1 else 0)
theorem cnO_le (h : Nat → Option Int) : ∀ n, cnO h n ≤ n
  | 0 => Nat.le_refl _
  | n + 1 => by
    have := cnO_le h n
    unfold cnO
    split <;> omega
theorem cnO_pos {h : Nat → Option Int} : ∀ {n}, 0 < cnO h n → ∃ i x, i < n ∧ h i = some x
  | 0, q => by simp [cnO] at q
  | n + 1, q => by
    cases hh : h n with
    | some x => exact ⟨n, x, by omega, hh⟩
    | none =>
      unfold cnO at q
      rw [hh] at q
      obtain ⟨i, x, hi, hx⟩ := cnO_pos (n := n) (by simpa using q)
      exact ⟨i, x, by omega, hx⟩
theorem cnO_0 {h : Nat → Option Int} : ∀ {n}, cnO h n = 0 → ∀ i, i < n → h i = none
  | 0, _, i, hi => by omega
  | n + 1, q, i, hi => by
    unfold cnO at q
    cases hh : h n with
    | some x => rw [hh] at q; simp at q
    | none =>
      by_cases e : i = n
      · rw [e]; exact hh
      · exact cnO_0 (n := n) (by omega) i (by omega)
theorem f_openIn (hT : tb_ok T) (hg : gridIs 3 T s) (hv : vL T z o) : f_X1_openIn 3 (nI o) (nI z) s = some (nI (cnO (ln T z o) (nl T z)), s) := by
  have hz : z ≤ 1 := by unfold vL at hv; omega
  have h8 := nl_8 hT z
  have hac := ac_F hg hz
  unfold f_X1_openIn
  have : whT (f_X1_openIn_L5 3 (nI o) (nI z)) (nI 0, nI 0, s) = some (nI (cnO (ln T z o) (nl T z)), s) := by
    refine wh_for (fun i => (nI (cnO (ln T z o) i), nI i, s)) (nl T z) (fun i hi => ?_) ?_ rfl
    · have hil := il_F hT hg hv hi
      simp only [f_X1_openIn_L5, cnO]
      rw [bnd hac, if_neg (nI_ge hi (by omega)), bnd hil]
      cases hh : ln T z o i with
      | none => rw [if_pos c64_n]; simp (disch := omega) only [↓reduceIte, nI_lit, nI_add, pk_mul, nI_lt_T, nI_lt_F, nI_le_T, nI_le_F, nI_eq_T, nI_eq_F, nI_cl, le_F, le_T, nI_m_F, m_nI_F, nI_dn, m_lt, Option.bind_some, if_true, if_false, not_false_eq_true, not_true_eq_false, or_self, or_false, false_or, true_or, or_true, true_and, and_true, false_and, and_false, Option.isSome_none, Bool.false_eq_true, Nat.add_zero]
      | some x =>
        have := ln_bd hT z o i hh
        rw [c64_s, if_neg (of_eq_false (jnv (by omega) (by omega)))]; simp (disch := omega) only [↓reduceIte, nI_lit, nI_add, pk_mul, nI_lt_T, nI_lt_F, nI_le_T, nI_le_F, nI_eq_T, nI_eq_F, nI_cl, le_F, le_T, nI_m_F, m_nI_F, nI_dn, m_lt, Option.bind_some, if_true, if_false, not_false_eq_true, not_true_eq_false, or_self, or_false, false_or, true_or, or_true, true_and, and_true, false_and, and_false, Option.isSome_some]
    · simp only [f_X1_openIn_L5]
      rw [bnd hac, if_pos (nI_le (Nat.le_refl _) (by omega))]
  exact bnd this _
/-- the least of a line -/
def lsO (h : Nat → Option Int) : Nat → Option Int
  | 0 => none
  | i + 1 => omin (lsO h i) (h i)
theorem lsO_far {h : Nat → Option Int} (hh : ∀ i, far (h i)) : ∀ n, far (lsO h n)
  | 0 => fun x q => by cases q
  | n + 1 => far_min (lsO_far hh n) (hh n)
theorem f_leastOf (hT : tb_ok T) (hg : gridIs 3 T s) (hv : vL T z o) : f_X1_leastOf 3 (nI o) (nI z) s = some (c64 (lsO (ln T z o) (nl T z)), s) := by
  have hz : z ≤ 1 := by unfold vL at hv; omega
  have h8 := nl_8 hT z
  have hac := ac_F hg hz
  unfold f_X1_leastOf
  have : whT (f_X1_leastOf_L7 3 (nI o) (nI z)) (9223372036854775807, nI 0, s) = some (c64 (lsO (ln T z o) (nl T z)), s) := by
    refine wh_for (fun i => (c64 (lsO (ln T z o) i), nI i, s)) (nl T z) (fun i hi => ?_) ?_ rfl
    · have hil := il_F hT hg hv hi
      have hm := f_minJ (lsO (ln T z o) i) (ln T z o i) (lsO_far (fun i => ln_far hT z o i) i) (ln_far hT z o i) s
      simp only [f_X1_leastOf_L7, lsO]
      rw [bnd hac, if_neg (nI_ge hi (by omega)), bnd hil, bnd hm, nI_1]
    · simp only [f_X1_leastOf_L7]
      rw [bnd hac, if_pos (nI_le (Nat.le_refl _) (by omega))]
  exact bnd this _
theorem isc1 {y : Int} (h1 : -9000000000 ≤ y) (h2 : y ≤ 9000000000) (s : sx_M) : f_X11_isCost (jJ y) s = some (nI (if -9999 ≤ y ∧ y ≤ 9999 then 1 else 0), s) := by
  unfold f_X11_isCost
  rw [show (-9999 : Int64) = jJ (-9999) by decide, show (9999 : Int64) = jJ 9999 by decide]
  by_cases a : y < -9999
  · rw [if_pos (of_eq_true (jJ_lt_T a (by omega) (by omega))), if_neg (show ¬ (-9999 ≤ y ∧ y ≤ 9999) by omega)]; rfl
  · rw [if_neg (of_eq_false (jJ_lt_F (by omega) (by omega) (by omega)))]
    by_cases b : 9999 < y
    · rw [if_pos (of_eq_true (jJ_lt_T b (by omega) (by omega))), if_neg (show ¬ (-9999 ≤ y ∧ y ≤ 9999) by omega)]; rfl
    · rw [if_neg (of_eq_false (jJ_lt_F (by omega) (by omega) (by omega))), if_pos (show -9999 ≤ y ∧ y ≤ 9999 by omega)]; rfl
theorem isc2 {y : Int} (h1 : -9000000000 ≤ y) (h2 : y ≤ 9000000000) (s : sx_M) : f_X12_isCost (jJ y) s = some (nI (if -9999 ≤ y ∧ y ≤ 9999 then 1 else 0), s) := by
  have h := isc1 h1 h2 s
  unfold f_X11_isCost at h
  unfold f_X12_isCost f_X12_in
  rw [h, Option.bind_some]
  by_cases a : -9999 ≤ y ∧ y ≤ 9999
  · rw [if_pos a, if_pos (show (nI 1 = 0 ∨ nI 1 = 1) from Or.inr rfl)]
  · rw [if_neg a, if_pos (show (nI 0 = 0 ∨ nI 0 = 1) from Or.inl rfl)]
/-- what a tilt leaves within the bounds -/
def tlO (h : Nat → Option Int) (V : Int) (n : Nat) : Prop := ∀ i x, i < n → h i = some x → -9999 ≤ x + V ∧ x + V ≤ 9999
theorem f_bears (hT : tb_ok T) (hg : gridIs 3 T s) (hv : vL T z o) {V : Int} (hV : -3000000000 ≤ V ∧ V ≤ 3000000000) : (f_X1_bearsTilt 3 (nI o) (jJ V) (nI z) s = some (1, s) ∧ tlO (ln T z o) V (nl T z)) ∨ (f_X1_bearsTilt 3 (nI o) (jJ V) (nI z) s = some (0, s) ∧ ¬ tlO (ln T z o) V (nl T z)) := by
  have hz : z ≤ 1 := by unfold vL at hv; omega
  have h8 := nl_8 hT z
  have hac := ac_F hg hz
  have : Ev (whT (f_X1_bearsTilt_L3 3 (nI o) (jJ V) (nI z)) (0, s)) (fun r => (r = .inl s ∧ tlO (ln T z o) V (nl T z)) ∨ (r = .inr (0, s) ∧ ¬ tlO (ln T z o) V (nl T z))) := by
    refine ev_f (fun i a => a = (nI i, s) ∧ tlO (ln T z o) V i) (nl T z) ?_ ?_ (i := 0) (by omega) ⟨rfl, fun j x hj => by omega⟩
    · rintro i a hi ⟨rfl, h⟩
      have hil := il_F hT hg hv hi
      simp only [f_X1_bearsTilt_L3]
      rw [bnd hac, if_neg (nI_ge hi (by omega)), bnd hil]
      cases hh : ln T z o i with
      | none =>
        refine ⟨.inl (nI (i + 1), s), by rw [if_pos c64_n, nI_1], rfl, fun j x hj hx => ?_⟩
        by_cases q : j = i
        · rw [q, hh] at hx; cases hx
        · exact h j x (by omega) hx
      | some x =>
        have hb := ln_bd hT z o i hh
        have hic := isc1 (y := x + V) (by omega) (by omega) s
        rw [c64_s, if_neg (of_eq_false (jnv (by omega) (by omega))), jJ_add, bnd hic]
        by_cases q : -9999 ≤ x + V ∧ x + V ≤ 9999
        · refine ⟨.inl (nI (i + 1), s), by rw [if_pos q, if_neg (show ¬ nI 1 = 0 from n1_0), nI_1], rfl, fun j y hj hy => ?_⟩
          by_cases q2 : j = i
          · rw [q2, hh] at hy; cases hy; exact q
          · exact h j y (by omega) hy
        · refine ⟨.inr (.inr (0, s)), by rw [if_neg q, if_pos (show nI 0 = 0 from rfl)], Or.inr ⟨rfl, fun z => q (z i x hi hh)⟩⟩
    · rintro a ⟨rfl, h⟩
      refine ⟨.inr (.inl s), ?_, Or.inl ⟨rfl, h⟩⟩
      simp only [f_X1_bearsTilt_L3]
      rw [bnd hac, if_pos (nI_le (Nat.le_refl _) (by omega))]
  obtain ⟨r, e, ⟨rfl, h⟩ | ⟨rfl, h⟩⟩ := this
  · exact Or.inl ⟨by unfold f_X1_bearsTilt; rw [e]; rfl, h⟩
  · exact Or.inr ⟨by unfold f_X1_bearsTilt; rw [e]; rfl, h⟩
def tltT (T : tb) (z o : Nat) (V : Int) : tb := (T.1, T.2.1, fun a b => if (z = 0 ∧ a = o) ∨ (z = 1 ∧ b = o) then (T.2.2 a b).map (fun x => x + V) else T.2.2 a b)
theorem tltT_ok (hT : tb_ok T) (hv : vL T z o) {V : Int} (h : tlO (ln T z o) V (nl T z)) : tb_ok (tltT T z o V) := by
  have hin : ∀ a b x, T.2.2 a b = some x → a < T.1 ∧ b < T.2.1 := fun a b x hx => Decidable.byContradiction (fun q => by rw [hT.2.2.2 a b q] at hx; cases hx)
  refine ⟨hT.1, hT.2.1, fun a b x hx => ?_, fun a b hab => ?_⟩
  · have hx : (if (z = 0 ∧ a = o) ∨ (z = 1 ∧ b = o) then (T.2.2 a b).map (fun x => x + V) else T.2.2 a b) = some x := hx
    split at hx
    · rename_i q
      cases hc : T.2.2 a b with
      | none => rw [hc] at hx; cases hx
      | some y =>
        rw [hc] at hx
        have hxy : y + V = x := Option.some.inj hx
        have hi := hin a b y hc
        rcases q with ⟨rfl, rfl⟩ | ⟨rfl, rfl⟩
        · have := h b y hi.2 hc
          omega
        · have := h a y hi.1 hc
          omega
    · exact hT.2.2.1 _ _ x hx
  · have hab : ¬ (a < T.1 ∧ b < T.2.1) := hab
    show (if (z = 0 ∧ a = o) ∨ (z = 1 ∧ b = o) then (T.2.2 a b).map (fun x => x + V) else T.2.2 a b) = none
    rw [hT.2.2.2 a b hab]
    split <;> rfl
theorem ev_tilt0 (hT : tb_ok T) (hg : gridIs 3 T s) (ho : o < T.1) {V : Int} : Ev (f_X1_tilt 3 (nI o) (jJ V) 0 s) (fun s' => gridIs 3 (tltT T 0 o V) s') := by
  have h7' := hT.1
  have h8' := hT.2.1
  unfold f_X1_tilt
  rw [Ev_bind]
  simp only [Ev_some]
  refine ev_gl (W := T.1) (J := T.2.1) (fun i a b => if a = o ∧ b < i then c64 ((T.2.2 a b).map (fun x => x + V)) else c64 (T.2.2 a b)) T.2.1 0 (by omega) (gridF_ext hg (fun a b _ _ => by rw [if_neg (by omega)])) (fun i s1 _ hi h1 => ?_) (fun s1 h1 => ?_) (fun s1 h1 => gridF_ext h1 (fun a b ha hb => ?_))
  · have hac : f_X1_across 3 0 s1 = some (nI T.2.1, s1) := by
      unfold f_X1_across
      rw [if_pos rfl, h1.2.1]
    have hat := at_F h7' h8' h1 ho hi
    rw [if_neg (by omega)] at hat
    have hil : f_X1_inLine 3 (nI o) 0 (nI i) s1 = some (c64 (T.2.2 o i), s1) := by
      unfold f_X1_inLine
      rw [if_pos rfl, hat]; rfl
    simp only [f_X1_tilt_L3]
    rw [bnd hac, if_neg (nI_ge hi (by omega)), bnd hil]
    cases hh : T.2.2 o i with
    | none =>
      refine ⟨_, by rw [if_pos c64_n, nI_1], s1, rfl, gridF_ext h1 (fun a b _ _ => ?_)⟩
      by_cases q : a = o ∧ b = i
      · rw [q.1, q.2, hh, if_pos (by omega), if_neg (by omega)]; rfl
      · by_cases q2 : a = o ∧ b < i
        · rw [if_pos (by omega), if_pos q2]
        · rw [if_neg (by omega), if_neg q2]
    | some x =>
      have hb := hT.2.2.1 o i x hh
      obtain ⟨s2, e2, h2⟩ := ev_put h7' h8' h1 ho hi (c64 (some (x + V)))
      refine ⟨.inl (nI (i + 1), s2), ?_, s2, rfl, gridF_ext h2 (fun a b _ _ => ?_)⟩
      · rw [c64_s, if_neg (of_eq_false (jnv (by omega) (by omega)))]
        unfold f_X1_tilt_L3_J46 f_X1_tilt_L3_J57
        rw [jJ_add, ← c64_s, if_pos trivial, if_pos rfl, e2, Option.bind_some, nI_1]
      · simp only [upF]
        by_cases q : a = o ∧ b = i
        · rw [q.1, q.2, hh, if_pos (by omega), if_pos ⟨rfl, rfl⟩]; rfl
        · rw [if_neg q]
          by_cases q2 : a = o ∧ b < i
          · rw [if_pos (by omega), if_pos q2]
          · rw [if_neg (by omega), if_neg q2]
  · have hac : f_X1_across 3 0 s1 = some (nI T.2.1, s1) := by
      unfold f_X1_across
      rw [if_pos rfl, h1.2.1]
    simp only [f_X1_tilt_L3]
    rw [bnd hac, if_pos (nI_le (Nat.le_refl _) (by omega))]
  · show c64 (if (0 = 0 ∧ a = o) ∨ (0 = 1 ∧ b = o) then (T.2.2 a b).map (fun x => x + V) else T.2.2 a b) = _
    have hb : b < T.2.1 := hb
    by_cases q : a = o
    · rw [if_pos (Or.inl ⟨rfl, q⟩), if_pos ⟨q, hb⟩]
    · rw [if_neg (by omega), if_neg (by omega)]
theorem ev_tilt1 (hT : tb_ok T) (hg : gridIs 3 T s) (ho : o < T.2.1) {V : Int} : Ev (f_X1_tilt 3 (nI o) (jJ V) 1 s) (fun s' => gridIs 3 (tltT T 1 o V) s') := by
  have h7' := hT.1
  have h8' := hT.2.1
  unfold f_X1_tilt
  rw [Ev_bind]
  simp only [Ev_some]
  refine ev_gl (W := T.1) (J := T.2.1) (fun i a b => if b = o ∧ a < i then c64 ((T.2.2 a b).map (fun x => x + V)) else c64 (T.2.2 a b)) T.1 0 (by omega) (gridF_ext hg (fun a b _ _ => by rw [if_neg (by omega)])) (fun i s1 _ hi h1 => ?_) (fun s1 h1 => ?_) (fun s1 h1 => gridF_ext h1 (fun a b ha hb => ?_))
  · have hac : f_X1_across 3 1 s1 = some (nI T.1, s1) := by
      unfold f_X1_across
      rw [if_neg n1_0, h1.1]
    have hat := at_F h7' h8' h1 hi ho
    rw [if_neg (by omega)] at hat
    have hil : f_X1_inLine 3 (nI o) 1 (nI i) s1 = some (c64 (T.2.2 i o), s1) := by
      unfold f_X1_inLine
      rw [if_neg n1_0, hat]; rfl
    simp only [f_X1_tilt_L3]
    rw [bnd hac, if_neg (nI_ge hi (by omega)), bnd hil]
    cases hh : T.2.2 i o with
    | none =>
      refine ⟨_, by rw [if_pos c64_n, nI_1], s1, rfl, gridF_ext h1 (fun a b _ _ => ?_)⟩
      by_cases q : a = i ∧ b = o
      · rw [q.1, q.2, hh, if_pos (by omega), if_neg (by omega)]; rfl
      · by_cases q2 : b = o ∧ a < i
        · rw [if_pos (by omega), if_pos q2]
        · rw [if_neg (by omega), if_neg q2]
    | some x =>
      have hb := hT.2.2.1 i o x hh
      obtain ⟨s2, e2, h2⟩ := ev_put h7' h8' h1 hi ho (c64 (some (x + V)))
      refine ⟨.inl (nI (i + 1), s2), ?_, s2, rfl, gridF_ext h2 (fun a b _ _ => ?_)⟩
      · rw [c64_s, if_neg (of_eq_false (jnv (by omega) (by omega)))]
        unfold f_X1_tilt_L3_J46 f_X1_tilt_L3_J57
        rw [jJ_add, ← c64_s, if_neg n1_0, if_neg n1_0, e2, Option.bind_some, nI_1]
      · simp only [upF]
        by_cases q : a = i ∧ b = o
        · rw [q.1, q.2, hh, if_pos (by omega), if_pos ⟨rfl, rfl⟩]; rfl
        · rw [if_neg q]
          by_cases q2 : b = o ∧ a < i
          · rw [if_pos (by omega), if_pos q2]
          · rw [if_neg (by omega), if_neg q2]
  · have hac : f_X1_across 3 1 s1 = some (nI T.1, s1) := by
      unfold f_X1_across
      rw [if_neg n1_0, h1.1]
    simp only [f_X1_tilt_L3]
    rw [bnd hac, if_pos (nI_le (Nat.le_refl _) (by omega))]
  · show c64 (if (1 = 0 ∧ a = o) ∨ (1 = 1 ∧ b = o) then (T.2.2 a b).map (fun x => x + V) else T.2.2 a b) = _
    have ha : a < T.1 := ha
    by_cases q : b = o
    · rw [if_pos (Or.inr ⟨rfl, q⟩), if_pos ⟨q, ha⟩]
    · rw [if_neg (by omega), if_neg (by omega)]
end LN
