/-! THE DRAFT: what a question supposes -/
def dD : sx_D := (fun o _ => o = 13, fun _ _ => False, fun o => o = 16, fun o => o = 14 ∨ o = 17 ∨ o = 18)
theorem d_cp {T : tb} {s : sx_M} (hT : tb_ok T) (hg : gridIs 3 T s) : Ev (f_X1_copy 13 3 s) (fun s' => gridIs 13 T s' ∧ sx_eq dD s s') := by
  have h : Ev (f_X1_copy 13 3 s) (fun s' => gridIs 13 T s') := ev_copy hg (by omega) hT.1 hT.2.1
  refine ev_and h (fun s' e => sx_mono (fr_f_X1_copy 13 3 s ax_G13 ax_G3 e) (fun o k q => ?_) (fun o k q => q) (fun o q => q.elim) (fun o q => ?_))
  · simp only [dD] at q ⊢; omega
  · simp only [dD] at q ⊢; omega
theorem d_rf {T : tb} {s : sx_M} (hT : tb_wk T) (hg : gridIs 13 T s) : Ev (f_X5_refresh 13 s) (fun s' => (ranksIs 13 T s' ∧ gridIs 13 T s') ∧ sx_eq dD s s') := by
  refine ev_and (f_refresh hT hg) (fun s' e => sx_mono (fr_f_X5_refresh 13 s ax_RK13 e) (fun o k q => q.elim) (fun o k q => q) (fun o q => ?_) (fun o q => ?_))
  · simp only [dD] at q ⊢; omega
  · simp only [dD] at q ⊢; omega
theorem d_put {W J : Nat} {F : Nat → Nat → Int64} {s : sx_M} (hW : W ≤ 7) (hJ : J ≤ 8) (hg : gridF 13 W J F s) {w j : Nat} (hw : w < W) (hj : j < J) (v : Int64) : Ev (f_X1_put 13 (nI w) (nI j) v s) (fun s' => gridF 13 W J (upF F w j v) s' ∧ sx_eq dD s s') := by
  refine ev_and (ev_put hW hJ hg hw hj v) (fun s' e => sx_mono (fr_f_X1_put 13 (nI w) (nI j) v s ax_G13 e) (fun o k q => q.elim) (fun o k q => q) (fun o q => q.elim) (fun o q => ?_))
  simp only [dD] at q ⊢; omega
theorem d_bar {W J : Nat} {F : Nat → Nat → Int64} {s : sx_M} (hW : W ≤ 7) (hJ : J ≤ 8) (hg : gridF 13 W J F s) {j : Nat} (hj : j < J) : Ev (f_X1_barJob 13 (nI j) s) (fun s' => gridF 13 W J (fun a b => if b = j then 9223372036854775807 else F a b) s' ∧ sx_eq dD s s') := by
  refine ev_and (ev_barJob hW hJ hg hj) (fun s' e => sx_mono (fr_f_X1_barJob 13 (nI j) s ax_G13 e) (fun o k q => q.elim) (fun o k q => q) (fun o q => q.elim) (fun o q => ?_))
  simp only [dD] at q ⊢; omega
theorem d_drop {W J : Nat} {F : Nat → Nat → Int64} {s : sx_M} (hW : W ≤ 7) (hJ : J ≤ 8) (hg : gridF 13 W J F s) {w : Nat} (hw : w < W) : Ev (f_X1_dropWorker 13 (nI w) s) (fun s' => gridF 13 (W - 1) J (fun a b => if a < w then F a b else F (a + 1) b) s' ∧ sx_eq dD s s') := by
  refine ev_and (ev_dropWorker hW hJ hg hw) (fun s' e => sx_mono (fr_f_X1_dropWorker 13 (nI w) s ax_G13 e) (fun o k q => ?_) (fun o k q => q) (fun o q => q.elim) (fun o q => ?_))
  · simp only [dD] at q ⊢; omega
  · simp only [dD] at q ⊢; omega
theorem d_cl {A : ast} {s s' : sx_M} (h : sx_eq dD s s') (hc : clA A s) : clA A s' := by
  refine cl_F h (fun q => sx_mono q (fun o k z => ?_) (fun _ _ _ => trivial) (fun o z => ?_) (fun o z => ?_)) hc
  · simp only [dD, clF] at z ⊢; omega
  · simp only [dD, clF] at z ⊢; omega
  · simp only [dD, clF] at z ⊢; omega
def resT (T : tb) (R : Nat → Nat → Bool) : tb := (T.1, T.2.1, cR R T.2.2)
theorem resT_ok {T : tb} (hT : tb_ok T) (R : Nat → Nat → Bool) : tb_ok (resT T R) := by
  refine ⟨hT.1, hT.2.1, fun a b x hx => ?_, fun a b hab => ?_⟩
  · have hx : (if R a b then T.2.2 a b else none) = some x := hx
    split at hx
    · exact hT.2.2.1 _ _ x hx
    · cases hx
  · show (if R a b then T.2.2 a b else none) = none
    split
    · exact hT.2.2.2 a b hab
    · rfl
theorem resT_all (T : tb) (R : Nat → Nat → Bool) : allA (resT T R) = (allA T).filter (fun p => okR R 0 p.1) := ex_R R T.2.2 T.1 0 0
def fcR (w j a b : Nat) : Bool := !(a == w) || b == j
def woR (w j a b : Nat) : Bool := !(a == w && b == j)
theorem fc_ok {w j n : Nat} {r : List Nat} (hr : r.length = n) (hw : w < n) : okR (fcR w j) 0 r = (r[w]? == some j) := by
  rw [Bool.eq_iff_iff, okR_iff]
  obtain ⟨k, hk⟩ := row_get hr hw
  rw [hk]
  constructor
  · intro h
    have := h w k hk
    simp [fcR] at this
    simp [this]
  · intro h i b hi
    have h : k = j := by simpa using h
    simp only [Nat.zero_add, fcR]
    by_cases q : i = w
    · rw [q, hk] at hi; cases hi; simp [h]
    · simp [q]
theorem wo_ok {w j n : Nat} {r : List Nat} (hr : r.length = n) (hw : w < n) : okR (woR w j) 0 r = !(r[w]? == some j) := by
  rw [Bool.eq_iff_iff, okR_iff]
  obtain ⟨k, hk⟩ := row_get hr hw
  rw [hk]
  constructor
  · intro h
    have := h w k hk
    simp [woR] at this
    simp [this]
  · intro h i b hi
    have h : ¬ k = j := by simpa using h
    simp only [Nat.zero_add, woR]
    by_cases q : i = w
    · rw [q, hk] at hi; cases hi; simp [h]
    · simp [q]
theorem fc_low {T : tb} {w j : Nat} (hw : w < T.1) : allA (resT T (fcR w j)) = (allA T).filter (hasJ w j true) := by
  rw [resT_all]
  apply List.filter_congr
  intro p hp
  rw [fc_ok (all_row hp).1 hw]
  unfold hasJ
  cases (p.1[w]? == some j) <;> rfl
theorem wo_low {T : tb} {w j : Nat} (hw : w < T.1) : allA (resT T (woR w j)) = (allA T).filter (hasJ w j false) := by
  rw [resT_all]
  apply List.filter_congr
  intro p hp
  rw [wo_ok (all_row hp).1 hw]
  unfold hasJ
  cases (p.1[w]? == some j) <;> rfl
theorem setT_wo {T : tb} (w j : Nat) : setT T w j none = resT T (woR w j) := by
  unfold setT resT
  congr 2
  funext a b
  unfold cR woR
  by_cases q : a = w ∧ b = j
  · simp [q.1, q.2]
  · rw [if_neg q, if_pos (by simp; omega)]
/-- the least sum if one cost were another -/
theorem c_supC {A : ast} {s : sx_M} (hok : okA A) (hc : clA A s) {w j : Nat} (hw : w < A.1.1) (hj : j < A.1.2.1) {o : Option Int} (ho : ∀ x, o = some x → -9999 ≤ x ∧ x ≤ 9999) : Ev (f_X11_supposeCost (nI w) (nI j) (c64 o) s) (fun s' => ranksIs 13 (setT A.1 w j o) s' ∧ sx_eq dD s s') := by
  obtain ⟨s1, e1, g1, x1⟩ := d_cp hok.1 hc.1
  obtain ⟨s2, e2, g2, x2⟩ := d_put hok.1.1 hok.1.2.1 g1 hw hj (c64 o)
  have g2' : gridIs 13 (setT A.1 w j o) s2 := gridF_ext g2 (fun a b _ _ => by
    show c64 (if a = w ∧ b = j then o else A.1.2.2 a b) = if a = w ∧ b = j then c64 o else c64 (A.1.2.2 a b)
    split <;> rfl)
  obtain ⟨s3, e3, ⟨r3, _⟩, x3⟩ := d_rf (tb_ok_wk (setT_ok hok.1 hw hj ho)) g2'
  refine ⟨s3, ?_, r3, sx_tr x1 (sx_tr x2 x3)⟩
  unfold f_X11_supposeCost
  rw [bnd e1, bnd e2, bnd e3]
theorem c_supF {A : ast} {s : sx_M} (hok : okA A) (hc : clA A s) {w j : Nat} (hw : w < A.1.1) (hj : j < A.1.2.1) : Ev (f_X11_supposeForced (nI w) (nI j) s) (fun s' => ranksIs 13 (resT A.1 (fcR w j)) s' ∧ sx_eq dD s s') := by
  have h7 := hok.1.1
  have h8 := hok.1.2.1
  obtain ⟨s1, e1, g1, x1⟩ := d_cp hok.1 hc.1
  have hL : Ev (whT (f_X11_supposeForced_L13 (nI w) (nI j)) (0, s1)) (fun s' => gridIs 13 (resT A.1 (fcR w j)) s' ∧ sx_eq dD s1 s') := by
    have h0 : gridF 13 A.1.1 A.1.2.1 (fun a b => if a = w ∧ b < 0 ∧ b ≠ j then 9223372036854775807 else c64 (A.1.2.2 a b)) s1 := gridF_ext (gridF_T.mp g1) (fun a b _ _ => by rw [if_neg (by omega)])
    refine ev_f (fun i a => a.1 = nI i ∧ gridF 13 A.1.1 A.1.2.1 (fun a b => if a = w ∧ b < i ∧ b ≠ j then 9223372036854775807 else c64 (A.1.2.2 a b)) a.2 ∧ sx_eq dD s1 a.2) A.1.2.1 ?_ ?_ (i := 0) (by omega) ⟨rfl, h0, sx_rf _ _⟩
    · rintro i ⟨a1, s2⟩ hi ⟨ea, h1, h2⟩
      simp only at ea h1 h2
      subst ea
      have h32 : rI s2 3 2 = nI A.1.2.1 := by rw [h2.1 3 2 (by simp only [dD]; omega), x1.1 3 2 (by simp only [dD]; omega)]; exact hc.1.2.1
      simp only [f_X11_supposeForced_L13, h32]
      rw [if_neg (nI_ge hi (by omega))]
      by_cases q : i = j
      · refine ⟨.inl (nI (i + 1), s2), ?_, rfl, gridF_ext h1 (fun a b _ _ => ?_), h2⟩
        · rw [q, if_pos rfl, nI_1]
        · by_cases z : a = w ∧ b < i ∧ b ≠ j
          · rw [if_pos z, if_pos (by omega)]
          · rw [if_neg z, if_neg (by omega)]
      · obtain ⟨s3, e3, g3, x3⟩ := d_put h7 h8 h1 hw hi 9223372036854775807
        refine ⟨.inl (nI (i + 1), s3), ?_, rfl, gridF_ext g3 (fun a b _ _ => ?_), sx_tr h2 x3⟩
        · rw [if_neg (of_eq_false (nI_eq_F q (by omega) (by omega))), bnd e3, nI_1]
        · simp only [upF]
          by_cases z : a = w ∧ b = i
          · rw [if_pos z, if_pos (by omega)]
          · rw [if_neg z]
            by_cases z2 : a = w ∧ b < i ∧ b ≠ j
            · rw [if_pos z2, if_pos (by omega)]
            · rw [if_neg z2, if_neg (by omega)]
    · rintro ⟨a1, s2⟩ ⟨ea, h1, h2⟩
      simp only at ea h1 h2
      subst ea
      have h32 : rI s2 3 2 = nI A.1.2.1 := by rw [h2.1 3 2 (by simp only [dD]; omega), x1.1 3 2 (by simp only [dD]; omega)]; exact hc.1.2.1
      refine ⟨.inr s2, ?_, gridF_ext h1 (fun a b _ hb => ?_), h2⟩
      · simp only [f_X11_supposeForced_L13, h32]
        rw [if_pos (nI_le (Nat.le_refl _) (by omega))]
      · have hb : b < A.1.2.1 := hb
        show c64 (if fcR w j a b then A.1.2.2 a b else none) = _
        by_cases q : a = w ∧ b ≠ j
        · rw [if_pos (⟨q.1, hb, q.2⟩ : a = w ∧ b < A.1.2.1 ∧ b ≠ j), if_neg (by simp [fcR]; omega)]; rfl
        · rw [if_pos (show fcR w j a b = true by simp [fcR]; omega), if_neg (show ¬ (a = w ∧ b < A.1.2.1 ∧ b ≠ j) by omega)]
  obtain ⟨s2, e2, g2, x2⟩ := hL
  obtain ⟨s3, e3, ⟨r3, _⟩, x3⟩ := d_rf (tb_ok_wk (resT_ok hok.1 _)) g2
  refine ⟨s3, ?_, r3, sx_tr x1 (sx_tr x2 x3)⟩
  unfold f_X11_supposeForced
  rw [bnd e1, bnd e2, bnd e3]
theorem c_forced {A : ast} {s : sx_M} (hok : okA A) (hc : clA A s) {w j : Nat} (hw : w < A.1.1) (hj : j < A.1.2.1) : Ev (f_X11_forced (nI w) (nI j) s) (fun p => p.1 = cH (lowL ((allA A.1).filter (hasJ w j true))) ∧ sx_eq dD s p.2) := by
  obtain ⟨s1, e1, r1, x1⟩ := c_supF hok hc hw hj
  refine ⟨(cH (lowL ((allA A.1).filter (hasJ w j true))), s1), ?_, rfl, x1⟩
  unfold f_X11_forced
  rw [bnd (f_has_in hok.1 hc.1 hw hj), if_neg n1_0, bnd e1, bnd (f_leastSum (tb_ok_wk (resT_ok hok.1 _)) r1), fc_low hw]
theorem c_without {A : ast} {s : sx_M} (hok : okA A) (hc : clA A s) {w j : Nat} (hw : w < A.1.1) (hj : j < A.1.2.1) : Ev (f_X11_without (nI w) (nI j) s) (fun p => p.1 = cH (lowL ((allA A.1).filter (hasJ w j false))) ∧ sx_eq dD s p.2) := by
  obtain ⟨s1, e1, r1, x1⟩ := c_supC hok hc hw hj (o := none) (fun x q => by cases q)
  refine ⟨(cH (lowL ((allA A.1).filter (hasJ w j false))), s1), ?_, rfl, x1⟩
  rw [setT_wo] at r1
  unfold f_X11_without
  rw [bnd (f_has_in hok.1 hc.1 hw hj), if_neg n1_0, show (9223372036854775807 : Int64) = c64 none from rfl, bnd e1, bnd (f_leastSum (tb_ok_wk (resT_ok hok.1 _)) r1), wo_low hw]
/-- the list of the reference -/
theorem r_all {A : ast} {s : sx_M} (hok : okA A) (hr : rfA A s) : ∃ s1, f_X12_goesAll s = some s1 ∧ lst (allA A.1) s1 ∧ tabIs 59 0 A.1 s1 ∧ sx_eq gtD s s1 := by
  obtain ⟨s1, e1, hl, hx⟩ := f_goesAll hok.1 hr.1
  exact ⟨s1, e1, hl, tab_g hx hr.1, hx⟩
theorem stp_11 : st_ok_11 Rel := by
  intro x y s ⟨A, hok, hc, hr⟩
  rcases ix_W hok.1 x with hx | ⟨w, hw, rfl⟩
  · refine ⟨(-9223372036854775808, s), (-9223372036854775808, s), ?_, ?_, rfl, A, hok, hc, hr⟩
    · unfold f_X11_forced
      rw [f_has_out hc.1 (hx.elim Or.inl (fun q => Or.inr (Or.inl q)))]; rfl
    · unfold f_X12_forced
      rw [f_isW_out hok.1 hr.1 hx]; rfl
  rcases ix_J hok.1 y with hy | ⟨j, hj, rfl⟩
  · refine ⟨(-9223372036854775808, s), (-9223372036854775808, s), ?_, ?_, rfl, A, hok, hc, hr⟩
    · unfold f_X11_forced
      rw [f_has_out hc.1 (hy.elim (fun q => Or.inr (Or.inr (Or.inl q))) (fun q => Or.inr (Or.inr (Or.inr q))))]; rfl
    · unfold f_X12_forced
      rw [bnd (f_isW_in hok.1 hr.1 hw), if_neg n1_0, f_isJ_out hok.1 hr.1 hy]; rfl
  refine st_q (f1 := f_X11_forced (nI w) (nI j)) (f2 := f_X12_forced (nI w) (nI j)) (cH (lowL ((allA A.1).filter (hasJ w j true)))) hok hc hr (fun hc => ev_m (c_forced hok hc hw hj) (fun p h => h.1)) (lo_X11_forced _ _) (cF_X11_forced _ _) (fun s1 hr1 => ?_) (hi_X12_forced _ _) (rF_X12_forced _ _)
  obtain ⟨s2, e2, hl, ht, _⟩ := r_all hok hr1
  have := r_leastBy hok.1 ht hl hw hj true
  refine ⟨(_, s2), ?_, rfl⟩
  unfold f_X12_forced
  rw [bnd (f_isW_in hok.1 hr1.1 hw), if_neg n1_0, bnd (f_isJ_in hok.1 hr1.1 hj), if_neg n1_0, bnd e2]
  exact bnd this _
theorem stp_12 : st_ok_12 Rel := by
  intro x y s ⟨A, hok, hc, hr⟩
  rcases ix_W hok.1 x with hx | ⟨w, hw, rfl⟩
  · refine ⟨(-9223372036854775808, s), (-9223372036854775808, s), ?_, ?_, rfl, A, hok, hc, hr⟩
    · unfold f_X11_without
      rw [f_has_out hc.1 (hx.elim Or.inl (fun q => Or.inr (Or.inl q)))]; rfl
    · unfold f_X12_without
      rw [f_isW_out hok.1 hr.1 hx]; rfl
  rcases ix_J hok.1 y with hy | ⟨j, hj, rfl⟩
  · refine ⟨(-9223372036854775808, s), (-9223372036854775808, s), ?_, ?_, rfl, A, hok, hc, hr⟩
    · unfold f_X11_without
      rw [f_has_out hc.1 (hy.elim (fun q => Or.inr (Or.inr (Or.inl q))) (fun q => Or.inr (Or.inr (Or.inr q))))]; rfl
    · unfold f_X12_without
      rw [bnd (f_isW_in hok.1 hr.1 hw), if_neg n1_0, f_isJ_out hok.1 hr.1 hy]; rfl
  refine st_q (f1 := f_X11_without (nI w) (nI j)) (f2 := f_X12_without (nI w) (nI j)) (cH (lowL ((allA A.1).filter (hasJ w j false)))) hok hc hr (fun hc => ev_m (c_without hok hc hw hj) (fun p h => h.1)) (lo_X11_without _ _) (cF_X11_without _ _) (fun s1 hr1 => ?_) (hi_X12_without _ _) (rF_X12_without _ _)
  obtain ⟨s2, e2, hl, ht, _⟩ := r_all hok hr1
  have := r_leastBy hok.1 ht hl hw hj false
  refine ⟨(_, s2), ?_, rfl⟩
  unfold f_X12_without
  rw [bnd (f_isW_in hok.1 hr1.1 hw), if_neg n1_0, bnd (f_isJ_in hok.1 hr1.1 hj), if_neg n1_0, bnd e2]
  exact bnd this _
def D6 : sx_D := (fun o k => o = 58 ∧ k = 15, fun _ _ => False, fun o => o = 63 ∨ o = 64 ∨ o = 65 ∨ o = 59, fun _ => False)
theorem stp_14 : st_ok_14 Rel := by
  intro x y z s ⟨A, hok, hc, hr⟩
  have h7 := hok.1.1
  have h8 := hok.1.2.1
  rcases ix_W hok.1 x with hx | ⟨w, hw, rfl⟩
  · refine ⟨(-9223372036854775808, s), (-9223372036854775808, s), ?_, ?_, rfl, A, hok, hc, hr⟩
    · unfold f_X11_would
      rw [f_has_out hc.1 (hx.elim Or.inl (fun q => Or.inr (Or.inl q)))]; rfl
    · unfold f_X12_would
      rw [f_isW_out hok.1 hr.1 hx]; rfl
  rcases ix_J hok.1 y with hy | ⟨j, hj, rfl⟩
  · refine ⟨(-9223372036854775808, s), (-9223372036854775808, s), ?_, ?_, rfl, A, hok, hc, hr⟩
    · unfold f_X11_would
      rw [f_has_out hc.1 (hy.elim (fun q => Or.inr (Or.inr (Or.inl q))) (fun q => Or.inr (Or.inr (Or.inr q))))]; rfl
    · unfold f_X12_would
      rw [bnd (f_isW_in hok.1 hr.1 hw), if_neg n1_0, f_isJ_out hok.1 hr.1 hy]; rfl
  rcases isc z s s with ⟨hz1, hz2⟩ | ⟨hz1, hz2, v, hv1, hv2, rfl⟩
  · refine ⟨(-9223372036854775808, s), (-9223372036854775808, s), ?_, ?_, rfl, A, hok, hc, hr⟩
    · unfold f_X11_would
      rw [bnd (f_has_in hok.1 hc.1 hw hj), if_neg n1_0, bnd hz1]; rfl
    · unfold f_X12_would
      rw [bnd (f_isW_in hok.1 hr.1 hw), if_neg n1_0, bnd (f_isJ_in hok.1 hr.1 hj), if_neg n1_0, bnd hz2]; rfl
  have hz2' : ∀ s1, f_X12_isCost (iI v).toInt64 s1 = some (1, s1) := fun s1 => by
    rcases isc (iI v) s s1 with ⟨h, _⟩ | ⟨_, h, _⟩
    · rw [hz1] at h; cases h
    · exact h
  have ev : (iI v).toInt64 = c64 (some v) := iI_64 (by omega) (by omega)
  have okT := setT_ok hok.1 hw hj (o := some v) (fun x q => by cases q; omega)
  refine st_a (f1 := f_X11_would (nI w) (nI j) (iI v)) (f2 := f_X12_would (nI w) (nI j) (iI v)) (cH (lowL (allA (setT A.1 w j (some v))))) hok hc hr (fun hc => ?_) (lo_X11_would _ _ _) (fun s1 hr1 => ?_) (hi_X12_would _ _ _)
  · obtain ⟨s1, e1, r1, x1⟩ := c_supC hok hc hw hj (o := some v) (fun x q => by cases q; omega)
    refine ⟨(_, s1), ?_, rfl, d_cl x1 hc⟩
    unfold f_X11_would
    rw [bnd (f_has_in hok.1 hc.1 hw hj), if_neg n1_0, bnd hz1, if_neg n1_0, ev, bnd e1]
    exact bnd (f_leastSum (tb_ok_wk okT) r1) _
  · have hcell : rA s1 59 (2 + (8 * w + j)) = c32 (A.1.2.2 w j) := t59 hr1.1 hw hj
    have t2 : tabIs 59 0 (setT A.1 w j (some v)) (wA s1 59 (2 + (8 * w + j)) (iI v)) := tabF_ext (tput (w := w) h8 hr1.1 hj (iI v)) (fun a b _ _ => by
      show c32 (if a = w ∧ b = j then some v else A.1.2.2 a b) = if a = w ∧ b = j then iI v else c32 (A.1.2.2 a b)
      split <;> rfl)
    obtain ⟨s2, e2, hl, x2⟩ := f_goesAll okT t2
    obtain ⟨b, e3, hB⟩ := r_least (all_bd okT) hl
    have hin : ¬ (nI (2 + (8 * w + j)) < 0 ∨ 58 ≤ (nI (2 + (8 * w + j))).toNatClampNeg) := by
      rw [nI_cl (by omega)]
      exact fun q => q.elim (nI_pos (by omega)) (by omega)
    have hin' : ¬ (nI (2 + (8 * w + j)) < 0 ∨ 58 ≤ 2 + (8 * w + j)) := fun q => q.elim (nI_pos (by omega)) (by omega)
    have hsum := r_sumb (all_bd okT) (lst_eq (D := D59) (s' := wA s2 59 (2 + (8 * w + j)) (c32 (A.1.2.2 w j))) (sx_wA' (sx_rf _ _) rfl) (fun q => q) (by simp only [D59]; omega) (by simp only [D59]; omega) hl) hB
    refine ⟨(_, wA s2 59 (2 + (8 * w + j)) (c32 (A.1.2.2 w j))), ?_, rfl, ?_⟩
    · unfold f_X12_would
      rw [bnd (f_isW_in hok.1 hr1.1 hw), if_neg n1_0, bnd (f_isJ_in hok.1 hr1.1 hj), if_neg n1_0, bnd (hz2' s1), if_neg n1_0, bnd (f_cost_in hok.1 hr1.1 hw hj), bnd (f_place w j s1), if_pos hin, nI_cl (by omega), bnd e2, bnd e3, bnd (f_place w j s2)]
      rw [if_pos hin, nI_cl (by omega)]
      exact hsum
    · have e59 : ∀ k, rA (wA s2 59 (2 + (8 * w + j)) (c32 (A.1.2.2 w j))) 59 k = rA s1 59 k := by
        intro k
        by_cases q : k = 2 + (8 * w + j)
        · rw [q, rA_T ⟨rfl, rfl⟩, hcell]
        · rw [rA_F (by omega), x2.2.2.1 59 k (by simp only [gtD]; omega), rA_F (by omega)]
      have x2' : sx_eq D6 (wA s1 59 (2 + (8 * w + j)) (iI v)) s2 := sx_mono x2 (fun o k q => q) (fun o k q => q) (fun o q => by simp only [gtD, D6] at q ⊢; omega) (fun o q => q)
      have hx : sx_eq D6 s1 (wA s2 59 (2 + (8 * w + j)) (c32 (A.1.2.2 w j))) := sx_wA' (sx_tr (sx_wA' (sx_rf _ _) (Or.inr (Or.inr (Or.inr rfl)))) x2') (Or.inr (Or.inr (Or.inr rfl)))
      obtain ⟨a1, a2, a3, a4, a5⟩ := hr1
      refine ⟨⟨(e59 _).trans a1.1, (e59 _).trans a1.2.1, fun a b ha hb => (e59 _).trans (a1.2.2 a b ha hb)⟩, ⟨(hx.1 58 2 (by simp only [D6]; omega)).trans a2.1, fun i X hX => tab_eq hx (by simp only [D6]; omega) (a2.2 i X hX)⟩, ⟨(hx.1 58 4 (by simp only [D6]; omega)).trans a3.1, fun k hk => (hx.2.2.1 61 k (by simp only [D6]; omega)).trans (a3.2 k hk)⟩, (hx.1 58 5 (by simp only [D6]; omega)).trans a4, (hx.1 58 6 (by simp only [D6]; omega)).trans a5⟩
