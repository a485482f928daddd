/-! THE STEPS OF THE ACTS -/
def setT (T : tb) (w j : Nat) (o : Option Int) : tb := (T.1, T.2.1, fun a b => if a = w ∧ b = j then o else T.2.2 a b)
theorem setT_ok {T : tb} (hT : tb_ok T) {w j : Nat} (hw : w < T.1) (hj : j < T.2.1) {o : Option Int} (ho : ∀ x, o = some x → -9999 ≤ x ∧ x ≤ 9999) : tb_ok (setT T w j o) := by
  refine ⟨hT.1, hT.2.1, fun a b x hx => ?_, fun a b hab => ?_⟩
  · by_cases q : a = w ∧ b = j
    · have hx : (if a = w ∧ b = j then o else T.2.2 a b) = some x := hx
      rw [if_pos q] at hx; exact ho x hx
    · have hx : (if a = w ∧ b = j then o else T.2.2 a b) = some x := hx
      rw [if_neg q] at hx; exact hT.2.2.1 a b x hx
  · have hab : ¬ (a < T.1 ∧ b < T.2.1) := hab
    show (if a = w ∧ b = j then o else T.2.2 a b) = none
    rw [if_neg (by omega)]; exact hT.2.2.2 a b hab
/-- where a worker or a job is none such -/
theorem ix_W {T : tb} (hT : tb_ok T) (x : Int32) : (x < 0 ∨ nI T.1 ≤ x) ∨ ∃ w, w < T.1 ∧ x = nI w := by
  rcases pk_ix x (n := T.1) (by have := hT.1; omega) with h | h | h
  · exact Or.inl (Or.inl h)
  · exact Or.inl (Or.inr h)
  · exact Or.inr h
theorem ix_J {T : tb} (hT : tb_ok T) (x : Int32) : (x < 0 ∨ nI T.2.1 ≤ x) ∨ ∃ w, w < T.2.1 ∧ x = nI w := by
  rcases pk_ix x (n := T.2.1) (by have := hT.2.1; omega) with h | h | h
  · exact Or.inl (Or.inl h)
  · exact Or.inl (Or.inr h)
  · exact Or.inr h
/-- is a cost: both sides -/
theorem isc (v : Int32) (s s' : sx_M) : (f_X11_isCost v.toInt64 s = some (0, s) ∧ f_X12_isCost v.toInt64 s' = some (0, s')) ∨ (f_X11_isCost v.toInt64 s = some (1, s) ∧ f_X12_isCost v.toInt64 s' = some (1, s') ∧ ∃ x : Int, -9999 ≤ x ∧ x ≤ 9999 ∧ v = iI x) := by
  unfold f_X11_isCost f_X12_isCost f_X12_in
  by_cases h1 : v.toInt64 < -9999
  · left; rw [if_pos h1, if_pos h1]; exact ⟨rfl, rfl⟩
  · by_cases h2 : (9999 : Int64) < v.toInt64
    · left; rw [if_neg h1, if_pos h2, if_neg h1, if_pos h2]; exact ⟨rfl, rfl⟩
    · right; rw [if_neg h1, if_neg h2, if_neg h1, if_neg h2]
      refine ⟨rfl, rfl, v.toInt, ?_, ?_, iI_of v⟩
      · rw [Int64.lt_iff_toInt_lt, Int32.toInt_toInt64, show (-9999 : Int64).toInt = -9999 by decide] at h1; omega
      · rw [Int64.lt_iff_toInt_lt, Int32.toInt_toInt64, show (9999 : Int64).toInt = 9999 by decide] at h2; omega
/-- one cost becomes another: the class -/
theorem cl_change {A : ast} {s : sx_M} (hok : okA A) (hc : clA A s) {w j : Nat} (hw : w < A.1.1) (hj : j < A.1.2.1) {o : Option Int} (ho : ∀ x, o = some x → -9999 ≤ x ∧ x ≤ 9999) (hne : A.1.2.2 w j ≠ o) : Ev (f_X11_changeCost (nI w) (nI j) (c64 o) s) (fun p => p.1 = 1 ∧ clA (setT A.1 w j o, kp A.2.1 A.1, A.2.2) p.2) := by
  have h := cl_act (T' := setT A.1 w j o) (f := f_X1_put 3 (nI w) (nI j) (c64 o)) hok (setT_ok hok.1 hw hj ho) hc (fun s1 h1 => ?_) (fun s1 s2 e => ?_)
  · obtain ⟨s', e, hs⟩ := h
    have hat := at_F hok.1.1 hok.1.2.1 hc.1 hw hj
    have hf1 := ok_far hok.1 w j
    have hf2 : far o := fun x q => by have := ho x q; omega
    refine ⟨(1, s'), ?_, rfl, hs⟩
    unfold f_X11_changeCost
    rw [hat, Option.bind_some, if_neg (show ¬ c64 (A.1.2.2 w j) = c64 o from fun q => hne ((c64_inj hf1 hf2).mp q))]
    obtain ⟨s1, e1, e⟩ := Option.bind_eq_some_iff.mp e
    obtain ⟨s2, e2, e⟩ := Option.bind_eq_some_iff.mp e
    rw [e1, Option.bind_some, e2, Option.bind_some, e, Option.bind_some]
  · refine ev_m (ev_put hok.1.1 hok.1.2.1 h1 hw hj (c64 o)) (fun s2 h2 => ?_)
    refine gridF_ext h2 (fun a b _ _ => ?_)
    show c64 (if a = w ∧ b = j then o else A.1.2.2 a b) = if a = w ∧ b = j then c64 o else c64 (A.1.2.2 a b)
    split <;> rfl
  · have hx := fr_f_X1_put 3 (nI w) (nI j) (c64 o) s1 ax_G3 e
    refine sx_mono hx (fun o k q => ?_) (fun o k q => q) (fun o q => q) (fun o q => ?_)
    · exact q.elim
    · exact q
theorem cl_change0 {A : ast} {s : sx_M} (hok : okA A) (hc : clA A s) {w j : Nat} (hw : w < A.1.1) (hj : j < A.1.2.1) {o : Option Int} (he : A.1.2.2 w j = o) : f_X11_changeCost (nI w) (nI j) (c64 o) s = some (0, s) := by
  have hat := at_F hok.1.1 hok.1.2.1 hc.1 hw hj
  unfold f_X11_changeCost
  rw [hat, Option.bind_some, if_pos (show c64 (A.1.2.2 w j) = c64 o by rw [he])]
/-- the same: the reference -/
theorem rf_change {A : ast} {s : sx_M} (hok : okA A) (hr : rfA A s) {w j : Nat} (hw : w < A.1.1) (hj : j < A.1.2.1) {o : Option Int} (ho : ∀ x, o = some x → -9999 ≤ x ∧ x ≤ 9999) (hne : A.1.2.2 w j ≠ o) : Ev (f_X12_becomes (nI w) (nI j) (c32 o) s) (fun p => p.1 = 1 ∧ rfA (setT A.1 w j o, kp A.2.1 A.1, A.2.2) p.2) := by
  have h7 := hok.1.1
  have h8 := hok.1.2.1
  obtain ⟨s1, e1, h1⟩ := ev_rem s
  have x1 := fr_f_X12_remembers s e1
  simp only [xS_X12_remembers, xI_X12_remembers, xJ_X12_remembers, xA_X12_remembers, xB_X12_remembers] at x1
  have t1 : tabIs 59 0 A.1 s1 := tab_eq x1 (by first | exact fun q => q | (simp only; omega)) hr.1
  have t2 := tput (w := w) h8 t1 hj (c32 o)
  have hk : 2 + (8 * w + j) < 58 := by omega
  have hold : rA s 59 (2 + (8 * w + j)) = c32 (A.1.2.2 w j) := by
    have := hr.1.2.2 w j hw hj
    rwa [show 0 + 2 + (8 * w + j) = 2 + (8 * w + j) by omega] at this
  have hf1 := ok_far hok.1 w j
  have hf2 : far o := fun x q => by have := ho x q; omega
  have h := rf_act (T' := setT A.1 w j o) (s2 := wA s1 59 (2 + (8 * w + j)) (c32 o)) hok hr e1 (tabF_ext t2 (fun a b _ _ => ?_)) (sx_wA' (sx_rf _ _) rfl) ⟨2 + (8 * w + j), hk, ?_⟩
  · obtain ⟨p, e, v, hp⟩ := h
    refine ⟨(1, p.2), ?_, rfl, hp⟩
    unfold f_X12_becomes
    rw [e1, Option.bind_some, f_place, Option.bind_some]
    simp (disch := omega) only [↓reduceIte, nI_lit, nI_add, pk_mul, nI_lt_T, nI_lt_F, nI_le_T, nI_le_F, nI_eq_T, nI_eq_F, nI_cl, le_F, le_T, nI_m_F, m_nI_F, nI_dn, m_lt, Option.bind_some, if_true, if_false, not_false_eq_true, not_true_eq_false, or_self, or_false, false_or, true_or, or_true, true_and, and_true, false_and, and_false, e, v]
  · show c32 (if a = w ∧ b = j then o else A.1.2.2 a b) = if a = w ∧ b = j then c32 o else c32 (A.1.2.2 a b)
    split <;> rfl
  · rw [rA_T ⟨rfl, rfl⟩, hold]
    exact fun q => hne ((c32_inj hf1 hf2).mp q)
theorem rf_change0 {A : ast} {s : sx_M} (hok : okA A) (hr : rfA A s) {w j : Nat} (hw : w < A.1.1) (hj : j < A.1.2.1) {o : Option Int} (he : A.1.2.2 w j = o) : Ev (f_X12_becomes (nI w) (nI j) (c32 o) s) (fun p => p.1 = 0 ∧ rfA A p.2) := by
  have h7 := hok.1.1
  have h8 := hok.1.2.1
  obtain ⟨s1, e1, h1⟩ := ev_rem s
  have x1 := fr_f_X12_remembers s e1
  simp only [xS_X12_remembers, xI_X12_remembers, xJ_X12_remembers, xA_X12_remembers, xB_X12_remembers] at x1
  have t1 : tabIs 59 0 A.1 s1 := tab_eq x1 (by first | exact fun q => q | (simp only; omega)) hr.1
  have t2 := tput (w := w) h8 t1 hj (c32 o)
  have hk : 2 + (8 * w + j) < 58 := by omega
  have hold : rA s 59 (2 + (8 * w + j)) = c32 (A.1.2.2 w j) := by
    have := hr.1.2.2 w j hw hj
    rwa [show 0 + 2 + (8 * w + j) = 2 + (8 * w + j) by omega] at this
  obtain ⟨e, hp⟩ := rf_act0 (s2 := wA s1 59 (2 + (8 * w + j)) (c32 o)) hr e1 (sx_wA' (sx_rf _ _) rfl) (tabF_ext t2 (fun a b _ _ => by simp only [upI]; grind)) (fun k hk => by
    by_cases q : k = 2 + (8 * w + j)
    · rw [q, rA_T ⟨rfl, rfl⟩, hold, he]
    · rw [rA_F (by omega), x1.2.2.1 59 k (by first | exact fun q => q | (simp only; omega))])
  refine ⟨(0, wA s1 59 (2 + (8 * w + j)) (c32 o)), ?_, rfl, hp⟩
  unfold f_X12_becomes
  rw [e1, Option.bind_some, f_place, Option.bind_some]
  simp (disch := omega) only [↓reduceIte, nI_lit, nI_add, pk_mul, nI_lt_T, nI_lt_F, nI_le_T, nI_le_F, nI_eq_T, nI_eq_F, nI_cl, le_F, le_T, nI_m_F, m_nI_F, nI_dn, m_lt, Option.bind_some, if_true, if_false, not_false_eq_true, not_true_eq_false, or_self, or_false, false_or, true_or, or_true, true_and, and_true, false_and, and_false, e]
theorem isW_in {A : ast} {s : sx_M} (hok : okA A) (hr : rfA A s) {w : Nat} (hw : w < A.1.1) : f_X12_isWorker (nI w) s = some (1, s) := f_isW_in hok.1 hr.1 hw
theorem stp_40 : st_ok_40 Rel := by
  intro x y s ⟨A, hok, hc, hr⟩
  rcases ix_W hok.1 x with hx | ⟨w, hw, rfl⟩
  · refine st_a (f1 := f_X11_bars x y) (f2 := f_X12_bars x y) (-2) hok hc hr (fun hc => ⟨(-2, s), ?_, rfl, hc⟩) (lo_X11_bars x y) (fun s1 hr1 => ⟨(-2, s1), ?_, rfl, hr1⟩) (hi_X12_bars x y)
    · unfold f_X11_bars
      rw [f_has_out hc.1 (hx.elim Or.inl (fun q => Or.inr (Or.inl q)))]; rfl
    · unfold f_X12_bars
      rw [f_isW_out hok.1 hr1.1 hx]; rfl
  rcases ix_J hok.1 y with hy | ⟨j, hj, rfl⟩
  · refine st_a (f1 := f_X11_bars (nI w) y) (f2 := f_X12_bars (nI w) y) (-2) hok hc hr (fun hc => ⟨(-2, s), ?_, rfl, hc⟩) (lo_X11_bars (nI w) y) (fun s1 hr1 => ⟨(-2, s1), ?_, rfl, hr1⟩) (hi_X12_bars (nI w) y)
    · unfold f_X11_bars
      rw [f_has_out hc.1 (hy.elim (fun q => Or.inr (Or.inr (Or.inl q))) (fun q => Or.inr (Or.inr (Or.inr q))))]; rfl
    · unfold f_X12_bars
      rw [f_isW_in hok.1 hr1.1 hw]
      show (f_X12_isJob y s1).bind _ = _
      rw [f_isJ_out hok.1 hr1.1 hy]; rfl
  by_cases he : A.1.2.2 w j = none
  · refine st_a (f1 := f_X11_bars (nI w) (nI j)) (f2 := f_X12_bars (nI w) (nI j)) 0 hok hc hr (fun hc => ⟨(0, s), ?_, rfl, hc⟩) (lo_X11_bars (nI w) (nI j)) (fun s1 hr1 => ?_) (hi_X12_bars (nI w) (nI j))
    · unfold f_X11_bars
      rw [f_has_in hok.1 hc.1 hw hj, Option.bind_some, if_neg (show ¬ (1 : Int32) = 0 by decide)]
      rw [show (9223372036854775807 : Int64) = c64 none from rfl, cl_change0 hok hc hw hj he]; rfl
    · obtain ⟨p, e, v, hp⟩ := rf_change0 hok hr1 hw hj he
      refine ⟨(p.1, p.2), ?_, v, hp⟩
      unfold f_X12_bars
      rw [f_isW_in hok.1 hr1.1 hw, Option.bind_some, if_neg (show ¬ (1 : Int32) = 0 by decide), f_isJ_in hok.1 hr1.1 hj, Option.bind_some, if_neg (show ¬ (1 : Int32) = 0 by decide)]
      rw [show (2147483647 : Int32) = c32 none from rfl, e]; rfl
  · refine st_a (f1 := f_X11_bars (nI w) (nI j)) (f2 := f_X12_bars (nI w) (nI j)) (A' := (setT A.1 w j none, kp A.2.1 A.1, A.2.2)) 1 ⟨setT_ok hok.1 hw hj (fun x q => by cases q), kp_ok hok.2.1 hok.1, kp_len hok.2.2.1 _, hok.2.2.2⟩ hc hr (fun hc => ?_) (lo_X11_bars (nI w) (nI j)) (fun s1 hr1 => ?_) (hi_X12_bars (nI w) (nI j))
    · obtain ⟨p, e, v, hp⟩ := cl_change hok hc hw hj (o := none) (fun x q => by cases q) he
      refine ⟨(p.1, p.2), ?_, v, hp⟩
      unfold f_X11_bars
      rw [f_has_in hok.1 hc.1 hw hj, Option.bind_some, if_neg (show ¬ (1 : Int32) = 0 by decide)]
      rw [show (9223372036854775807 : Int64) = c64 none from rfl, e]; rfl
    · obtain ⟨p, e, v, hp⟩ := rf_change hok hr1 hw hj (o := none) (fun x q => by cases q) he
      refine ⟨(p.1, p.2), ?_, v, hp⟩
      unfold f_X12_bars
      rw [f_isW_in hok.1 hr1.1 hw, Option.bind_some, if_neg (show ¬ (1 : Int32) = 0 by decide), f_isJ_in hok.1 hr1.1 hj, Option.bind_some, if_neg (show ¬ (1 : Int32) = 0 by decide)]
      rw [show (2147483647 : Int32) = c32 none from rfl, e]; rfl
theorem stp_39 : st_ok_39 Rel := by
  intro x y z s ⟨A, hok, hc, hr⟩
  rcases ix_W hok.1 x with hx | ⟨w, hw, rfl⟩
  · refine st_a (f1 := f_X11_sets x y z) (f2 := f_X12_sets x y z) (-2) hok hc hr (fun hc => ⟨(-2, s), ?_, rfl, hc⟩) (lo_X11_sets x y z) (fun s1 hr1 => ⟨(-2, s1), ?_, rfl, hr1⟩) (hi_X12_sets x y z)
    · unfold f_X11_sets
      rw [f_has_out hc.1 (hx.elim Or.inl (fun q => Or.inr (Or.inl q)))]; rfl
    · unfold f_X12_sets
      rw [f_isW_out hok.1 hr1.1 hx]; rfl
  rcases ix_J hok.1 y with hy | ⟨j, hj, rfl⟩
  · refine st_a (f1 := f_X11_sets (nI w) y z) (f2 := f_X12_sets (nI w) y z) (-2) hok hc hr (fun hc => ⟨(-2, s), ?_, rfl, hc⟩) (lo_X11_sets (nI w) y z) (fun s1 hr1 => ⟨(-2, s1), ?_, rfl, hr1⟩) (hi_X12_sets (nI w) y z)
    · unfold f_X11_sets
      rw [f_has_out hc.1 (hy.elim (fun q => Or.inr (Or.inr (Or.inl q))) (fun q => Or.inr (Or.inr (Or.inr q))))]; rfl
    · unfold f_X12_sets
      rw [f_isW_in hok.1 hr1.1 hw]
      show (f_X12_isJob y s1).bind _ = _
      rw [f_isJ_out hok.1 hr1.1 hy]; rfl
  have n1 : ¬ (1 : Int32) = 0 := by decide
  have hz := fun s s' => isc z s s'
  rcases hz s s with ⟨hz1, hz2⟩ | ⟨hz1, hz2, v, hv1, hv2, rfl⟩
  · refine st_a (f1 := f_X11_sets (nI w) (nI j) z) (f2 := f_X12_sets (nI w) (nI j) z) (-2) hok hc hr (fun hc => ⟨(-2, s), ?_, rfl, hc⟩) (lo_X11_sets (nI w) (nI j) z) (fun s1 hr1 => ⟨(-2, s1), ?_, rfl, hr1⟩) (hi_X12_sets (nI w) (nI j) z)
    · unfold f_X11_sets
      rw [f_has_in hok.1 hc.1 hw hj, Option.bind_some, if_neg n1, hz1]; rfl
    · unfold f_X12_sets
      have : f_X12_isCost z.toInt64 s1 = some (0, s1) := by
        rcases hz s s1 with ⟨_, h⟩ | ⟨h, _⟩
        · exact h
        · rw [hz1] at h; cases h
      rw [f_isW_in hok.1 hr1.1 hw, Option.bind_some, if_neg n1, f_isJ_in hok.1 hr1.1 hj, Option.bind_some, if_neg n1, this]; rfl
  have hc2 : ∀ s1, f_X12_isCost (iI v).toInt64 s1 = some (1, s1) := fun s1 => by
    rcases hz s s1 with ⟨h, _⟩ | ⟨_, h, _⟩
    · rw [hz1] at h; cases h
    · exact h
  have ev : (iI v).toInt64 = c64 (some v) := iI_64 (by omega) (by omega)
  by_cases he : A.1.2.2 w j = some v
  · refine st_a (f1 := f_X11_sets (nI w) (nI j) (iI v)) (f2 := f_X12_sets (nI w) (nI j) (iI v)) 0 hok hc hr (fun hc => ⟨(0, s), ?_, rfl, hc⟩) (lo_X11_sets (nI w) (nI j) (iI v)) (fun s1 hr1 => ?_) (hi_X12_sets (nI w) (nI j) (iI v))
    · unfold f_X11_sets
      rw [f_has_in hok.1 hc.1 hw hj, Option.bind_some, if_neg n1, hz1, Option.bind_some, if_neg n1, ev, cl_change0 hok hc hw hj he]; rfl
    · obtain ⟨p, e, v, hp⟩ := rf_change0 hok hr1 hw hj he
      refine ⟨(p.1, p.2), ?_, v, hp⟩
      unfold f_X12_sets
      rw [f_isW_in hok.1 hr1.1 hw, Option.bind_some, if_neg n1, f_isJ_in hok.1 hr1.1 hj, Option.bind_some, if_neg n1, hc2, Option.bind_some, if_neg n1]
      rw [← c32_s, e]; rfl
  · refine st_a (f1 := f_X11_sets (nI w) (nI j) (iI v)) (f2 := f_X12_sets (nI w) (nI j) (iI v)) (A' := (setT A.1 w j (some v), kp A.2.1 A.1, A.2.2)) 1 ⟨setT_ok hok.1 hw hj (fun x q => by cases q; omega), kp_ok hok.2.1 hok.1, kp_len hok.2.2.1 _, hok.2.2.2⟩ hc hr (fun hc => ?_) (lo_X11_sets (nI w) (nI j) (iI v)) (fun s1 hr1 => ?_) (hi_X12_sets (nI w) (nI j) (iI v))
    · obtain ⟨p, e, v, hp⟩ := cl_change hok hc hw hj (o := some v) (fun x q => by cases q; omega) he
      refine ⟨(p.1, p.2), ?_, v, hp⟩
      unfold f_X11_sets
      rw [f_has_in hok.1 hc.1 hw hj, Option.bind_some, if_neg n1, hz1, Option.bind_some, if_neg n1, ev, e]; rfl
    · obtain ⟨p, e, v, hp⟩ := rf_change hok hr1 hw hj (o := some v) (fun x q => by cases q; omega) he
      refine ⟨(p.1, p.2), ?_, v, hp⟩
      unfold f_X12_sets
      rw [f_isW_in hok.1 hr1.1 hw, Option.bind_some, if_neg n1, f_isJ_in hok.1 hr1.1 hj, Option.bind_some, if_neg n1, hc2, Option.bind_some, if_neg n1]
      rw [← c32_s, e]; rfl
