/-! loss, dearest, apart, often -/
theorem all_cell {T : tb} (hT : tb_ok T) {p : asg} (hp : p ∈ allA T) {w : Nat} (hw : w < T.1) : ∃ j x, p.1[w]? = some j ∧ j < T.2.1 ∧ j < 8 ∧ T.2.2 w j = some x ∧ -9999 ≤ x ∧ x ≤ 9999 := by
  have h8 := hT.2.1
  obtain ⟨hl, hok, hsum⟩ := ex_iff.mp hp
  obtain ⟨j, hj⟩ := row_get hl hw
  obtain ⟨a1, a2, _⟩ := (okV_iff.mp hok).1 w j hj
  rw [Nat.zero_add] at a2
  obtain ⟨x, hx⟩ := Option.isSome_iff_exists.mp a2
  have hb := hT.2.2.1 _ _ x hx
  have hjJ : j < T.2.1 := Decidable.byContradiction (fun z => by
    rw [hT.2.2.2 w j (by omega)] at hx; cases hx)
  exact ⟨j, x, hj, hjJ, by omega, hx, by omega, by omega⟩
def lsD (T : tb) (v : Int64) : Nat → Int64
  | 0 => v
  | i + 1 => lsD T v i - cH (lsO (ln T 0 i) (nl T 0))
theorem ls_row {T : tb} (hT : tb_ok T) {p : asg} (hp : p ∈ allA T) {w : Nat} (hw : w < T.1) : c64 (lsO (ln T 0 w) (nl T 0)) = cH (lsO (ln T 0 w) (nl T 0)) := by
  obtain ⟨j, x, _, hj, _, hx, _⟩ := all_cell hT hp hw
  obtain ⟨l, hl, _⟩ := lsO_mem (h := ln T 0 w) (n := nl T 0) (i := j) hj hx
  rw [hl]; rfl
theorem stp_28 : st_ok_28 Rel := by
  intro x s ⟨A, hok, hc, hr⟩
  have bA : lbd (allA A.1) := all_bd hok.1
  have h40 := bA.1
  have h7 := hok.1.1
  rcases ix_R x with hx | ⟨k, hk, rfl⟩
  · refine st_o (f1 := f_X11_loss x) (f2 := f_X12_loss x) (-9223372036854775808) hok hc hr (fun hc => ⟨(-9223372036854775808, s), ?_, rfl, hc.2.2.1⟩) (lo_X11_loss _) (cO_X11_loss _) (fun s1 hr1 => ?_) (hi_X12_loss _) (rF_X12_loss _)
    · unfold f_X11_loss f_X11_loss_J21
      rw [bnd (cR_out hx s), if_pos rfl, if_pos rfl]
    · obtain ⟨s2, e2, _⟩ := r_first hok hr1
      refine ⟨(-9223372036854775808, s2), ?_, rfl⟩
      unfold f_X12_loss
      rw [bnd e2, bnd (isT_out hx s2), if_pos rfl]
  cases hq : (f200 A.1)[k]? with
  | none =>
    refine st_o (f1 := f_X11_loss (nI k)) (f2 := f_X12_loss (nI k)) (-9223372036854775808) hok hc hr (fun hc => ?_) (lo_X11_loss _) (cO_X11_loss _) (fun s1 hr1 => ?_) (hi_X12_loss _) (rF_X12_loss _)
    · obtain ⟨p, e, h1, h2⟩ := c_sumOf hok hc hk
      rw [hq] at h1
      have h1 : p.1 = (-9223372036854775808 : Int64) := h1
      refine ⟨(-9223372036854775808, p.2), ?_, rfl, h2⟩
      unfold f_X11_loss f_X11_loss_J21
      rw [bnd (cR_in hk s), if_neg n1_0, bnd e, h1, if_pos rfl]
    · obtain ⟨s2, e2, hl, ht, hf⟩ := r_first hok hr1
      refine ⟨(-9223372036854775808, s2), ?_, rfl⟩
      unfold f_X12_loss
      rw [bnd e2, bnd (isT_0 hf hk hq), if_pos rfl]
  | some q =>
    have hqm := f200_mem hq
    have hqb := bA.2 q hqm
    refine st_o (f1 := f_X11_loss (nI k)) (f2 := f_X12_loss (nI k)) (lsD A.1 (jJ q.2) A.1.1) hok hc hr (fun hc => ?_) (lo_X11_loss _) (cO_X11_loss _) (fun s1 hr1 => ?_) (hi_X12_loss _) (rF_X12_loss _)
    · obtain ⟨p, e, h1, h2⟩ := c_sumOf hok hc hk
      rw [hq] at h1
      have h1 : p.1 = jJ q.2 := h1
      have hc2 : clA A p.2 := cl_O (fr_f_X4_sumOf _ s e) (fun q => sx_mono q (fun o k z => by simp only [clO] at z ⊢; omega) (fun _ _ _ => trivial) (fun o z => by simp only [clO] at z ⊢; omega) (fun o z => by simp only [clO] at z ⊢; omega)) hc h2
      have hL : whT f_X11_loss_L37 (jJ q.2, 0, p.2) = some (lsD A.1 (jJ q.2) A.1.1, p.2) := by
        refine wh_for (fun i => (lsD A.1 (jJ q.2) i, nI i, p.2)) A.1.1 (fun i hi => ?_) ?_ rfl
        · have hlo : f_X1_leastOf 3 (nI i) 0 p.2 = _ := f_leastOf hok.1 hc2.1 (z := 0) (o := i) (Or.inl ⟨rfl, hi⟩)
          simp only [f_X11_loss_L37, hc2.1.1]
          rw [if_neg (show ¬ nI A.1.1 ≤ nI i from nI_ge hi (by omega)), bnd hlo, ls_row hok.1 hqm hi, nI_1]
          rfl
        · simp only [f_X11_loss_L37, hc2.1.1]
          rw [if_pos (nI_le (Nat.le_refl _) (by omega))]
      refine ⟨(lsD A.1 (jJ q.2) A.1.1, p.2), ?_, rfl, h2⟩
      unfold f_X11_loss f_X11_loss_J21
      rw [bnd (cR_in hk s), if_neg n1_0, bnd e, h1, jJ_ns, if_neg (of_eq_false (jJ_eq_F (by omega) (by omega) (by omega) (by omega) (by omega))), bnd hL]
    · obtain ⟨s2, e2, hl, ht, hf⟩ := r_first hok hr1
      obtain ⟨m, hm, hmp, hmr⟩ := hf.2 k q hq
      have hin : ¬ (nI k < 0 ∨ 200 ≤ (nI k).toNatClampNeg) := by
        rw [nI_cl (by omega)]
        exact fun q => q.elim (nI_pos (by omega)) (by omega)
      have hinm : ¬ (nI m < 0 ∨ 40320 ≤ (nI m).toNatClampNeg) := by
        rw [nI_cl (by omega)]
        exact fun q => q.elim (nI_pos (by omega)) (by omega)
      have hL : whT f_X12_loss_L32 (jJ q.2, 0, s2) = some (lsD A.1 (jJ q.2) A.1.1, s2) := by
        refine wh_for (fun i => (lsD A.1 (jJ q.2) i, nI i, s2)) A.1.1 (fun i hi => ?_) ?_ rfl
        · have hlo : f_X12_leastOf (nI i) 0 s2 = _ := rl_F hok.1 ht (z := 0) (o := i) (Or.inl ⟨rfl, hi⟩)
          simp only [f_X12_loss_L32]
          rw [bnd (f_wk ht), if_neg (show ¬ nI A.1.1 ≤ nI i from nI_ge hi (by omega)), bnd hlo, nI_1]
          rfl
        · simp only [f_X12_loss_L32]
          rw [bnd (f_wk ht), if_pos (nI_le (Nat.le_refl _) (by omega))]
      refine ⟨(lsD A.1 (jJ q.2) A.1.1, s2), ?_, rfl⟩
      unfold f_X12_loss
      rw [bnd e2, bnd (isT_1 hf hk hq), if_neg n1_0, if_pos hin, nI_cl (show k < 2147483648 by omega), hmr, if_pos hinm, nI_cl (show m < 2147483648 by omega), (hl.2 m q hmp).2, iI_64 (by omega) (by omega), bnd hL]
/-! dearest, by the measures -/
def celO (T : tb) (p : asg) (w : Nat) : Option Int := T.2.2 w (p.1.getD w 0)
def mxD (T : tb) (p : asg) : Nat → Int64
  | 0 => -9223372036854775808
  | i + 1 => if mxD T p i < c64 (celO T p i) then c64 (celO T p i) else mxD T p i
def mnD (T : tb) (p : asg) : Nat → Int64
  | 0 => 9223372036854775807
  | i + 1 => if c64 (celO T p i) < mnD T p i then c64 (celO T p i) else mnD T p i
def ovD (T : tb) (p : asg) (z : Int32) : Nat → Int32
  | 0 => 0
  | i + 1 => ovD T p z i + (if c32 (celO T p i) ≤ z then 0 else 1)
def msO (T : tb) (p : asg) (x y : Int32) : Int64 := if T.1 = 0 then 0 else if x = 0 then jJ p.2 else if x = 1 then mxD T p T.1 else if x = 2 then mxD T p T.1 - mnD T p T.1 else (ovD T p y T.1).toInt64
theorem cel_s {T : tb} (hT : tb_ok T) {p : asg} (hp : p ∈ allA T) {w : Nat} (hw : w < T.1) : ∃ j x, p.1[w]? = some j ∧ j < T.2.1 ∧ j < 8 ∧ T.2.2 w j = some x ∧ celO T p w = some x ∧ -9999 ≤ x ∧ x ≤ 9999 := by
  obtain ⟨j, x, h1, h2, h3, h4, h5⟩ := all_cell hT hp hw
  refine ⟨j, x, h1, h2, h3, h4, ?_, h5⟩
  unfold celO
  rw [List.getD_eq_getElem?_getD, h1]
  exact h4
theorem mx_f (a b : Int64) (s : sx_M) : f_J9_max_f86c9 a b s = some (if a < b then b else a, s) := by
  unfold f_J9_max_f86c9
  by_cases z : a < b
  · rw [if_pos z, if_pos z]
  · rw [if_neg z, if_neg z]
theorem mn_f (a b : Int64) (s : sx_M) : f_J9_min_f86c9 a b s = some (if b < a then b else a, s) := by
  unfold f_J9_min_f86c9
  by_cases z : b < a
  · rw [if_pos z, if_pos z]
  · rw [if_neg z, if_neg z]
theorem r_measure {T : tb} {L : List asg} {s : sx_M} (hT : tb_ok T) (hg : tabIs 59 0 T s) (hl : lst L s) {m : Nat} {p : asg} (hm : L[m]? = some p) (hm4 : m < 40320) (hp : p ∈ allA T) (hpb : -10000000 ≤ p.2 ∧ p.2 ≤ 10000000) (x y : Int32) : f_X12_measureOf (nI m) x y s = some (msO T p x y, s) := by
  have h7 := hT.1
  have hrow := all_row hp
  have hin : ¬ (nI m < 0 ∨ 40320 ≤ (nI m).toNatClampNeg) := by
    rw [nI_cl (by omega)]
    exact fun q => q.elim (nI_pos (by omega)) (by omega)
  have hL : whT (f_X12_measureOf_L16 (nI m) x y) (-9223372036854775808, 9223372036854775807, 0, 0, s) = some (mxD T p T.1, mnD T p T.1, ovD T p y T.1, s) := by
    refine wh_for (fun i => (mxD T p i, mnD T p i, ovD T p y i, nI i, s)) T.1 (fun i hi => ?_) ?_ rfl
    · obtain ⟨j, v, a1, a2, a3, a4, a5, a6⟩ := cel_s hT hp hi
      simp only [f_X12_measureOf_L16]
      rw [bnd (f_wk hg), if_neg (show ¬ nI T.1 ≤ nI i from nI_ge hi (by omega)), bnd (r_job hT hg hl hm hm4 hrow.1 hrow.2 a1), bnd (f_cost_in hT hg hi a2)]
      have e : (c32 (T.2.2 i j)).toInt64 = c64 (celO T p i) := by
        rw [a4, a5, c32_s, c64_s, iI_64 (by omega) (by omega)]
      have e2 : c32 (T.2.2 i j) = c32 (celO T p i) := by rw [a4, a5]
      simp only []
      rw [e, bnd (mx_f _ _ _), bnd (mn_f _ _ _), e2]
      unfold f_X12_measureOf_L16_J73
      simp only [mxD, mnD, ovD]
      by_cases z : c32 (celO T p i) ≤ y
      · rw [if_pos z, if_pos z, nI_1]
      · rw [if_neg z, if_neg z, nI_1]
    · simp only [f_X12_measureOf_L16]
      rw [bnd (f_wk hg), if_pos (nI_le (Nat.le_refl _) (by omega))]
  unfold f_X12_measureOf msO
  rw [bnd hL, bnd (f_wk hg)]
  by_cases z0 : T.1 = 0
  · rw [if_pos (show nI T.1 = 0 by rw [z0]; rfl), if_pos z0]
  · rw [if_neg (show ¬ nI T.1 = 0 from of_eq_false (nI_eq_F (b := 0) z0 (by omega) (by omega))), if_neg z0]
    by_cases z1 : x = 0
    · rw [if_pos z1, if_pos z1, if_pos hin, nI_cl (by omega), (hl.2 m p hm).2, iI_64 (by omega) (by omega)]
    · rw [if_neg z1, if_neg z1]
      by_cases z2 : x = 1
      · rw [if_pos z2, if_pos z2]
      · rw [if_neg z2, if_neg z2]
        by_cases z3 : x = 2
        · rw [if_pos z3, if_pos z3]
        · rw [if_neg z3, if_neg z3]
theorem c_greatest {g ra : Nat} {T : tb} {s : sx_M} (hT : tb_ok T) (hg : gridIs g T s) {p : asg} (hp : p ∈ allA T) (hrow : ∀ i j, p.1[i]? = some j → rA s ra i = nI j) : f_X1_greatestOf g ra s = some (mxD T p T.1, s) := by
  have h7 := hT.1
  have hL : whT (f_X1_greatestOf_L7 g ra) (-9223372036854775808, 0, s) = some (mxD T p T.1, s) := by
    refine wh_for (fun i => (mxD T p i, nI i, s)) T.1 (fun i hi => ?_) ?_ rfl
    · obtain ⟨j, v, a1, a2, a3, a4, a5, a6⟩ := cel_s hT hp hi
      have hin : ¬ (nI i < 0 ∨ 7 ≤ (nI i).toNatClampNeg) := by
        rw [nI_cl (by omega)]
        exact fun q => q.elim (nI_pos (by omega)) (by omega)
      simp only [f_X1_greatestOf_L7, hg.1]
      rw [if_neg (show ¬ nI T.1 ≤ nI i from nI_ge hi (by omega)), if_neg (show ¬ 7 ≤ nI i from of_eq_false (nI_le_F (a := 7) (by omega) (by omega))), if_pos hin, nI_cl (by omega), hrow i j a1, bnd (at_all hT hg hi a3), bnd (mx_f _ _ _), nI_1]
      simp only [mxD]
      rw [a4, a5]
    · simp only [f_X1_greatestOf_L7, hg.1]
      rw [if_pos (nI_le (Nat.le_refl _) (by omega))]
  unfold f_X1_greatestOf
  rw [bnd hL]
theorem stp_29 : st_ok_29 Rel := by
  intro x s ⟨A, hok, hc, hr⟩
  have bA : lbd (allA A.1) := all_bd hok.1
  have h40 := bA.1
  have h7 := hok.1.1
  have hv : ∃ v : Int64, (A.1.1 = 0 ∧ v = -9223372036854775808) ∨ (A.1.1 ≠ 0 ∧ (x < 0 ∨ 200 ≤ x) ∧ v = -9223372036854775808) ∨ (A.1.1 ≠ 0 ∧ ∃ k, k < 200 ∧ x = nI k ∧ (((f200 A.1)[k]? = none ∧ v = -9223372036854775808) ∨ ∃ p, (f200 A.1)[k]? = some p ∧ v = mxD A.1 p A.1.1)) := by
    by_cases z : A.1.1 = 0
    · exact ⟨_, Or.inl ⟨z, rfl⟩⟩
    rcases ix_R x with hx | ⟨k, hk, rfl⟩
    · exact ⟨_, Or.inr (Or.inl ⟨z, hx, rfl⟩)⟩
    cases hq : (f200 A.1)[k]? with
    | none => exact ⟨_, Or.inr (Or.inr ⟨z, k, hk, rfl, Or.inl ⟨hq, rfl⟩⟩)⟩
    | some p => exact ⟨_, Or.inr (Or.inr ⟨z, k, hk, rfl, Or.inr ⟨p, hq, rfl⟩⟩)⟩
  obtain ⟨v, hv⟩ := hv
  refine st_o (f1 := f_X11_dearest x) (f2 := f_X12_dearest x) v hok hc hr (fun hc => ?_) (lo_X11_dearest _) (cO_X11_dearest _) (fun s1 hr1 => ?_) (hi_X12_dearest _) (rF_X12_dearest _)
  · unfold f_X11_dearest
    rw [hc.1.1]
    rcases hv with ⟨z, rfl⟩ | ⟨z, hx, rfl⟩ | ⟨z, k, hk, rfl, hd⟩
    · rw [if_pos (show nI A.1.1 = 0 by rw [z]; rfl)]
      exact ⟨_, rfl, rfl, hc.2.2.1⟩
    · rw [if_neg (show ¬ nI A.1.1 = 0 from of_eq_false (nI_eq_F (b := 0) z (by omega) (by omega))), bnd (cR_out hx s), if_pos rfl]
      exact ⟨_, rfl, rfl, hc.2.2.1⟩
    · rw [if_neg (show ¬ nI A.1.1 = 0 from of_eq_false (nI_eq_F (b := 0) z (by omega) (by omega))), bnd (cR_in hk s), if_neg n1_0]
      obtain ⟨r, e, h1, h2⟩ := c_lay (ra := 56) hok hc (Or.inl rfl) hk
      rw [bnd e]
      rcases h1 with ⟨r0, hn⟩ | ⟨r1, p, hp, hrow⟩
      · rw [r0, if_pos rfl]
        rcases hd with ⟨_, rfl⟩ | ⟨p', hp', _⟩
        · exact ⟨_, rfl, rfl, h2.2.2.1⟩
        · rw [hn] at hp'; cases hp'
      · rw [r1, if_neg n1_0, bnd (c_greatest hok.1 h2.1 (f200_mem hp) hrow)]
        rcases hd with ⟨hn, _⟩ | ⟨p', hp', rfl⟩
        · rw [hn] at hp; cases hp
        · rw [hp] at hp'; cases hp'
          exact ⟨_, rfl, rfl, h2.2.2.1⟩
  · obtain ⟨s2, e2, hl, ht, hf⟩ := r_first hok hr1
    unfold f_X12_dearest
    rw [bnd e2]
    -- with no worker, whatever is there
    have h0 : A.1.1 = 0 → ∀ r : Int32 × sx_M, r.2 = s2 → f_X12_isThere x s2 = some r → Ev (f_X12_dearest x s1) (fun p => p.1 = (-9223372036854775808 : Int64)) := by
      intro z r hr2 e
      unfold f_X12_dearest
      rw [bnd e2, bnd e, hr2]
      by_cases y : r.1 = 0
      · rw [if_pos y]; exact ⟨_, rfl, rfl⟩
      · rw [if_neg y, bnd (f_wk ht), if_pos (show nI A.1.1 ≤ 0 by rw [z]; decide)]
        exact ⟨_, rfl, rfl⟩
    rcases hv with ⟨z, rfl⟩ | ⟨z, hx, rfl⟩ | ⟨z, k, hk, rfl, hd⟩
    · have : ∃ r : Int32 × sx_M, r.2 = s2 ∧ f_X12_isThere x s2 = some r := by
        rcases ix_R x with hx | ⟨k, hk, rfl⟩
        · exact ⟨_, rfl, isT_out hx s2⟩
        cases hq : (f200 A.1)[k]? with
        | none => exact ⟨_, rfl, isT_0 hf hk hq⟩
        | some p => exact ⟨_, rfl, isT_1 hf hk hq⟩
      obtain ⟨r, a, b⟩ := this
      have := h0 z r a b
      unfold f_X12_dearest at this
      rw [bnd e2] at this
      exact this
    · rw [bnd (isT_out hx s2), if_pos rfl]
      exact ⟨_, rfl, rfl⟩
    · rcases hd with ⟨hn, rfl⟩ | ⟨p, hp, rfl⟩
      · rw [bnd (isT_0 hf hk hn), if_pos rfl]
        exact ⟨_, rfl, rfl⟩
      · have hin : ¬ (nI k < 0 ∨ 200 ≤ (nI k).toNatClampNeg) := by
          rw [nI_cl (by omega)]
          exact fun q => q.elim (nI_pos (by omega)) (by omega)
        obtain ⟨m, hm, hmp, hmr⟩ := hf.2 k p hp
        have hpb := bA.2 p (f200_mem hp)
        rw [bnd (isT_1 hf hk hp), if_neg n1_0, bnd (f_wk ht), if_neg (show ¬ nI A.1.1 ≤ 0 from nI_nle (by omega) (by omega)), if_pos hin, nI_cl (by omega), hmr, bnd (r_measure hok.1 ht hl hmp (by omega) (f200_mem hp) (by omega) 1 0)]
        refine ⟨_, rfl, ?_⟩
        show msO A.1 p 1 0 = _
        unfold msO
        rw [if_neg z, if_neg (by decide), if_pos rfl]
