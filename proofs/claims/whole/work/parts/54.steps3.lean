/-! comes, goes -/
def comW (T : tb) (v : Int) : tb := (T.1 + 1, T.2.1, fun a b => if a = T.1 ∧ b < T.2.1 then some v else T.2.2 a b)
def comJ (T : tb) (v : Int) : tb := (T.1, T.2.1 + 1, fun a b => if b = T.2.1 ∧ a < T.1 then some v else T.2.2 a b)
theorem comW_ok {T : tb} (hT : tb_ok T) (h : T.1 < 7) {v : Int} (hv : -9999 ≤ v ∧ v ≤ 9999) : tb_ok (comW T v) := by
  refine ⟨by show T.1 + 1 ≤ 7; omega, hT.2.1, fun a b x hx => ?_, fun a b hab => ?_⟩
  · have hx : (if a = T.1 ∧ b < T.2.1 then some v else T.2.2 a b) = some x := hx
    split at hx
    · cases hx; omega
    · exact hT.2.2.1 _ _ x hx
  · have hab : ¬ (a < T.1 + 1 ∧ b < T.2.1) := hab
    show (if a = T.1 ∧ b < T.2.1 then some v else T.2.2 a b) = none
    rw [if_neg (by omega)]
    exact hT.2.2.2 _ _ (by omega)
theorem comJ_ok {T : tb} (hT : tb_ok T) (h : T.2.1 < 8) {v : Int} (hv : -9999 ≤ v ∧ v ≤ 9999) : tb_ok (comJ T v) := by
  refine ⟨hT.1, by show T.2.1 + 1 ≤ 8; omega, fun a b x hx => ?_, fun a b hab => ?_⟩
  · have hx : (if b = T.2.1 ∧ a < T.1 then some v else T.2.2 a b) = some x := hx
    split at hx
    · cases hx; omega
    · exact hT.2.2.1 _ _ x hx
  · have hab : ¬ (a < T.1 ∧ b < T.2.1 + 1) := hab
    show (if b = T.2.1 ∧ a < T.1 then some v else T.2.2 a b) = none
    rw [if_neg (by omega)]
    exact hT.2.2.2 _ _ (by omega)
theorem ic_kind (x : Int32) : x = 0 ∨ x = 1 ∨ (x ≠ 0 ∧ x ≠ 1 ∧ ∀ s, f_X12_in x.toInt64 0 1 s = some (0, s)) := by
  by_cases h0 : x = 0
  · exact Or.inl h0
  · by_cases h1 : x = 1
    · exact Or.inr (Or.inl h1)
    · refine Or.inr (Or.inr ⟨h0, h1, fun s => ?_⟩)
      have e : (1 : Int64) = (1 : Int32).toInt64 := by decide
      rw [e, f_in0, if_pos]
      have a0 : x.toInt ≠ 0 := fun q => h0 (Int32.toInt_inj.mp q)
      have a1 : x.toInt ≠ 1 := fun q => h1 (Int32.toInt_inj.mp q)
      rw [Int32.lt_iff_toInt_lt, Int32.lt_iff_toInt_lt, show (0 : Int32).toInt = 0 by decide, show (1 : Int32).toInt = 1 by decide]
      omega
theorem in_0 (s : sx_M) : f_X12_in (0 : Int32).toInt64 0 1 s = some (1, s) := rfl
theorem in_1 (s : sx_M) : f_X12_in (1 : Int32).toInt64 0 1 s = some (1, s) := rfl
theorem rf_lW {A : ast} {s : sx_M} (hok : okA A) (h7 : A.1.1 < 7) (ht : tabIs 59 0 A.1 s) (v : Int) : Ev (whT (f_X12_comes_L55 0 (iI v)) (0, s)) (fun s' => (rA s' 59 0 = nI A.1.1 ∧ tabIs 59 0 (comW A.1 v) (wA s' 59 0 (nI (A.1.1 + 1)))) ∧ sx_eq D59 s s') := by
  have h8 := hok.1.2.1
  refine ev_f (fun i a => a.1 = nI i ∧ tabIs 59 0 A.1 a.2 ∧ (∀ j, j < i → rA a.2 59 (2 + (8 * A.1.1 + j)) = iI v) ∧ sx_eq D59 s a.2) A.1.2.1 ?_ ?_ (i := 0) (by omega) ⟨rfl, ht, fun j hj => by omega, sx_rf _ _⟩
  · rintro i ⟨a1, s1⟩ hi ⟨e1, h1, h2, h3⟩
    simp only at e1 h1 h2 h3
    subst e1
    have hjb := f_jb h1
    have hwk := f_wk h1
    refine ⟨.inl (nI (i + 1), wA s1 59 (2 + (8 * A.1.1 + i)) (iI v)), ?_, rfl, ⟨?_, ?_, fun w j hw hj => ?_⟩, fun j hj => ?_, sx_wA' h3 rfl⟩
    · simp only [f_X12_comes_L55, f_X12_comes_L55_J71, f_X12_comes_L55_J101]
      rw [if_pos trivial, hjb, Option.bind_some, if_neg (nI_ge hi (by omega)), if_pos trivial, hwk, Option.bind_some, f_place, Option.bind_some]
      rw [nI_cl (by omega), if_pos (fun q => q.elim (nI_pos (by omega)) (by omega)), nI_1]
    · rw [rA_F (by omega)]; exact h1.1
    · rw [rA_F (by omega)]; exact h1.2.1
    · rw [rA_F (by omega)]; exact h1.2.2 w j hw hj
    · by_cases q : j = i
      · rw [q, rA_T ⟨rfl, rfl⟩]
      · rw [rA_F (by omega)]; exact h2 j (by omega)
  · rintro ⟨a1, s1⟩ ⟨e1, h1, h2, h3⟩
    simp only at e1 h1 h2 h3
    subst e1
    have hjb := f_jb h1
    refine ⟨.inr s1, ?_, ⟨h1.1, rA_T ⟨rfl, rfl⟩, ?_, fun w j hw hj => ?_⟩, h3⟩
    · simp only [f_X12_comes_L55, f_X12_comes_L55_J71]
      simp (disch := omega) only [↓reduceIte, nI_lit, nI_add, pk_mul, nI_lt_T, nI_lt_F, nI_le_T, nI_le_F, nI_eq_T, nI_eq_F, nI_cl, le_F, le_T, nI_m_F, m_nI_F, nI_dn, m_lt, Option.bind_some, if_true, if_false, not_false_eq_true, not_true_eq_false, or_self, or_false, false_or, true_or, or_true, true_and, and_true, false_and, and_false, hjb]
    · rw [rA_F (by omega)]; exact h1.2.1
    · have hw : w < A.1.1 + 1 := hw
      have hj : j < A.1.2.1 := hj
      rw [rA_F (by omega)]
      show _ = c32 (if w = A.1.1 ∧ j < A.1.2.1 then some v else A.1.2.2 w j)
      by_cases q : w = A.1.1
      · rw [if_pos ⟨q, hj⟩, q, show 0 + 2 + (8 * A.1.1 + j) = 2 + (8 * A.1.1 + j) by omega, h2 j hj, c32_s]
      · rw [if_neg (by omega)]; exact h1.2.2 w j (by omega) hj
theorem rf_lJ {A : ast} {s : sx_M} (hok : okA A) (h8 : A.1.2.1 < 8) (ht : tabIs 59 0 A.1 s) (v : Int) : Ev (whT (f_X12_comes_L55 1 (iI v)) (0, s)) (fun s' => (rA s' 59 1 = nI A.1.2.1 ∧ tabIs 59 0 (comJ A.1 v) (wA s' 59 1 (nI (A.1.2.1 + 1)))) ∧ sx_eq D59 s s') := by
  have h7 := hok.1.1
  refine ev_f (fun i a => a.1 = nI i ∧ tabIs 59 0 A.1 a.2 ∧ (∀ w, w < i → rA a.2 59 (2 + (8 * w + A.1.2.1)) = iI v) ∧ sx_eq D59 s a.2) A.1.1 ?_ ?_ (i := 0) (by omega) ⟨rfl, ht, fun j hj => by omega, sx_rf _ _⟩
  · rintro i ⟨a1, s1⟩ hi ⟨e1, h1, h2, h3⟩
    simp only at e1 h1 h2 h3
    subst e1
    have hjb := f_jb h1
    have hwk := f_wk h1
    refine ⟨.inl (nI (i + 1), wA s1 59 (2 + (8 * i + A.1.2.1)) (iI v)), ?_, rfl, ⟨?_, ?_, fun w j hw hj => ?_⟩, fun j hj => ?_, sx_wA' h3 rfl⟩
    · simp only [f_X12_comes_L55, f_X12_comes_L55_J71, f_X12_comes_L55_J101]
      rw [if_neg n1_0, hwk, Option.bind_some, if_neg (nI_ge hi (by omega)), if_neg n1_0, hjb, Option.bind_some, f_place, Option.bind_some]
      rw [nI_cl (by omega), if_pos (fun q => q.elim (nI_pos (by omega)) (by omega)), nI_1]
    · rw [rA_F (by omega)]; exact h1.1
    · rw [rA_F (by omega)]; exact h1.2.1
    · rw [rA_F (by omega)]; exact h1.2.2 w j hw hj
    · by_cases q : j = i
      · rw [q, rA_T ⟨rfl, rfl⟩]
      · rw [rA_F (by omega)]; exact h2 j (by omega)
  · rintro ⟨a1, s1⟩ ⟨e1, h1, h2, h3⟩
    simp only at e1 h1 h2 h3
    subst e1
    have hwk := f_wk h1
    refine ⟨.inr s1, ?_, ⟨h1.2.1, ?_, rA_T ⟨rfl, rfl⟩, fun w j hw hj => ?_⟩, h3⟩
    · simp only [f_X12_comes_L55, f_X12_comes_L55_J71]
      simp (disch := omega) only [↓reduceIte, nI_lit, nI_add, pk_mul, nI_lt_T, nI_lt_F, nI_le_T, nI_le_F, nI_eq_T, nI_eq_F, nI_cl, le_F, le_T, nI_m_F, m_nI_F, nI_dn, m_lt, Option.bind_some, if_true, if_false, not_false_eq_true, not_true_eq_false, or_self, or_false, false_or, true_or, or_true, true_and, and_true, false_and, and_false, hwk]
    · rw [rA_F (by omega)]; exact h1.1
    · have hw : w < A.1.1 := hw
      have hj : j < A.1.2.1 + 1 := hj
      rw [rA_F (by omega)]
      show _ = c32 (if j = A.1.2.1 ∧ w < A.1.1 then some v else A.1.2.2 w j)
      by_cases q : j = A.1.2.1
      · rw [if_pos ⟨q, hw⟩, q, show 0 + 2 + (8 * w + A.1.2.1) = 2 + (8 * w + A.1.2.1) by omega, h2 w hw, c32_s]
      · rw [if_neg (by omega)]; exact h1.2.2 w j hw (by omega)
theorem n_7 {n : Nat} (h : n < 100) : (nI n = (7 : Int32)) ↔ n = 7 := by
  rw [show (7 : Int32) = nI 7 from rfl]; exact nI_eq (by omega) (by omega)
theorem n_8 {n : Nat} (h : n < 100) : (nI n = (8 : Int32)) ↔ n = 8 := by
  rw [show (8 : Int32) = nI 8 from rfl]; exact nI_eq (by omega) (by omega)
theorem stp_42 : st_ok_42 Rel := by
  intro x z s ⟨A, hok, hc, hr⟩
  have h7 := hok.1.1
  have h8 := hok.1.2.1
  have bad : (∀ s, f_X11_comes x z s = some (-2, s)) → (∀ s, f_X12_comes x z s = some (-2, s)) → ∃ p1 p2, f_X11_comes x z s = some p1 ∧ f_X12_comes x z p1.2 = some p2 ∧ p1.1 = p2.1 ∧ Rel p2.2 := fun b1 b2 => ⟨_, _, b1 s, b2 s, rfl, A, hok, hc, hr⟩
  rcases ic_kind x with rfl | rfl | ⟨hx0, hx1, hx⟩
  rotate_left 2
  · refine bad (fun s => ?_) (fun s => ?_)
    · unfold f_X11_comes f_X11_isKind
      rw [if_neg hx0, if_neg hx1]; rfl
    · unfold f_X12_comes
      rw [hx]; rfl
  · rcases isc z s s with ⟨hz1, hz2⟩ | ⟨hz1, hz2, v, hv1, hv2, rfl⟩
    · refine ⟨(-2, s), (-2, s), ?_, ?_, rfl, A, hok, hc, hr⟩
      · unfold f_X11_comes f_X11_isKind
        rw [if_pos rfl, Option.bind_some, if_neg n1_0, hz1]; rfl
      · unfold f_X12_comes
        rw [in_0, Option.bind_some, if_neg n1_0, hz2]; rfl
    · have hz1' : ∀ s1, f_X11_isCost (iI v).toInt64 s1 = some (1, s1) := fun s1 => by
        rcases isc (iI v) s1 s with ⟨_, h⟩ | ⟨h, _⟩
        · rw [hz2] at h; cases h
        · exact h
      have hz2' : ∀ s1, f_X12_isCost (iI v).toInt64 s1 = some (1, s1) := fun s1 => by
        rcases isc (iI v) s s1 with ⟨h, _⟩ | ⟨_, h, _⟩
        · rw [hz1] at h; cases h
        · exact h
      by_cases hm : A.1.1 = 7
      · refine ⟨(-5, s), (-5, s), ?_, ?_, rfl, A, hok, hc, hr⟩
        · unfold f_X11_comes f_X11_isKind f_X11_comes_J29 f_X1_howMany
          rw [if_pos rfl, Option.bind_some, if_neg n1_0, hz1, Option.bind_some, if_neg n1_0, if_pos rfl, if_pos rfl, Option.bind_some]
          simp only [hc.1.1, hm]
          rfl
        · unfold f_X12_comes
          rw [in_0, Option.bind_some, if_neg n1_0, hz2, Option.bind_some, if_neg n1_0, if_pos rfl, f_wk hr.1, Option.bind_some, if_pos ((n_7 (by omega)).mpr hm)]
      · refine st_a (f1 := f_X11_comes 0 (iI v)) (f2 := f_X12_comes 0 (iI v)) (A' := (comW A.1 v, kp A.2.1 A.1, A.2.2)) (nI A.1.1) ⟨comW_ok hok.1 (by omega) ⟨hv1, hv2⟩, kp_ok hok.2.1 hok.1, kp_len hok.2.2.1 _, hok.2.2.2⟩ hc hr (fun hc => ?_) (lo_X11_comes 0 (iI v)) (fun s1 hr1 => ?_) (hi_X12_comes 0 (iI v))
        · have h := cl_act (T' := comW A.1 v) (f := f_X1_addWorker 3 (iI v).toInt64) hok (comW_ok hok.1 (by omega) ⟨hv1, hv2⟩) hc (fun s1 h1 => ?_) (fun s1 s2 e => ?_)
          · obtain ⟨s', e, hs⟩ := h
            refine ⟨(nI A.1.1, s'), ?_, rfl, hs⟩
            obtain ⟨s1, e1, e⟩ := Option.bind_eq_some_iff.mp e
            obtain ⟨s2, e2, e⟩ := Option.bind_eq_some_iff.mp e
            unfold f_X11_comes f_X11_isKind f_X11_comes_J29 f_X1_howMany f_X11_comes_J85
            rw [if_pos rfl, Option.bind_some, if_neg n1_0, hz1', Option.bind_some, if_neg n1_0, if_pos rfl, if_pos rfl, Option.bind_some]
            simp only [hc.1.1]
            rw [if_pos (show nI A.1.1 < 7 from nI_lt (b := 7) (by omega) (by omega)), e1, Option.bind_some, if_pos trivial, e2, Option.bind_some, e, Option.bind_some]
          · refine ev_m (ev_addWorker (by omega) h8 h1 _) (fun s2 h2 => gridF_ext h2 (fun a b ha hb => ?_))
            have hb : b < A.1.2.1 := hb
            show c64 (if a = A.1.1 ∧ b < A.1.2.1 then some v else A.1.2.2 a b) = if a = A.1.1 then (iI v).toInt64 else c64 (A.1.2.2 a b)
            by_cases q : a = A.1.1
            · rw [if_pos ⟨q, hb⟩, if_pos q, iI_64 (by omega) (by omega)]; rfl
            · rw [if_neg (by omega), if_neg q]
          · refine sx_mono (fr_f_X1_addWorker 3 (iI v).toInt64 s1 ax_G3 e) (fun o k q => ?_) (fun o k q => q) (fun o q => q) (fun o q => q)
            simp only at q ⊢; omega
        · obtain ⟨s2, e2, t2, w2, h59⟩ := rf_rem hok hr1
          obtain ⟨s3, e3, ⟨c3, t3⟩, x3⟩ := rf_lW hok (by omega) t2 v
          obtain ⟨p, e4, v4, h4⟩ := rf_act hok hr1 e2 t3 (sx_wA' x3 rfl) ⟨0, by omega, by
            rw [rA_T ⟨rfl, rfl⟩, hr1.1.1]
            exact fun q => absurd ((nI_eq (by omega) (by omega)).mp q) (by omega)⟩
          have hp0 : rA p.2 59 0 = nI (A.1.1 + 1) := h4.1.1
          refine ⟨(nI A.1.1, p.2), ?_, rfl, h4⟩
          unfold f_X12_comes f_X12_comes_J49
          rw [in_0, Option.bind_some, if_neg n1_0, hz2', Option.bind_some, if_neg n1_0, if_pos rfl, f_wk hr1.1, Option.bind_some, if_neg (fun q => hm ((n_7 (by omega)).mp q)), e2, Option.bind_some, e3, Option.bind_some]
          simp (disch := omega) only [↓reduceIte, nI_lit, nI_add, pk_mul, nI_lt_T, nI_lt_F, nI_le_T, nI_le_F, nI_eq_T, nI_eq_F, nI_cl, le_F, le_T, nI_m_F, m_nI_F, nI_dn, m_lt, Option.bind_some, if_true, if_false, not_false_eq_true, not_true_eq_false, or_self, or_false, false_or, true_or, or_true, true_and, and_true, false_and, and_false, c3, e4, hp0, nI_k1]
  · rcases isc z s s with ⟨hz1, hz2⟩ | ⟨hz1, hz2, v, hv1, hv2, rfl⟩
    · refine ⟨(-2, s), (-2, s), ?_, ?_, rfl, A, hok, hc, hr⟩
      · unfold f_X11_comes f_X11_isKind
        rw [if_neg n1_0, if_pos rfl, Option.bind_some, if_neg n1_0, hz1]; rfl
      · unfold f_X12_comes
        rw [in_1, Option.bind_some, if_neg n1_0, hz2]; rfl
    · have hz1' : ∀ s1, f_X11_isCost (iI v).toInt64 s1 = some (1, s1) := fun s1 => by
        rcases isc (iI v) s1 s with ⟨_, h⟩ | ⟨h, _⟩
        · rw [hz2] at h; cases h
        · exact h
      have hz2' : ∀ s1, f_X12_isCost (iI v).toInt64 s1 = some (1, s1) := fun s1 => by
        rcases isc (iI v) s s1 with ⟨h, _⟩ | ⟨_, h, _⟩
        · rw [hz1] at h; cases h
        · exact h
      by_cases hm : A.1.2.1 = 8
      · refine ⟨(-5, s), (-5, s), ?_, ?_, rfl, A, hok, hc, hr⟩
        · unfold f_X11_comes f_X11_isKind f_X11_comes_J29 f_X1_howMany
          rw [if_neg n1_0, if_pos rfl, Option.bind_some, if_neg n1_0, hz1, Option.bind_some, if_neg n1_0, if_neg n1_0, if_neg n1_0, Option.bind_some]
          simp only [hc.1.2.1, hm]
          rfl
        · unfold f_X12_comes
          rw [in_1, Option.bind_some, if_neg n1_0, hz2, Option.bind_some, if_neg n1_0, if_neg n1_0, f_jb hr.1, Option.bind_some, if_pos ((n_8 (by omega)).mpr hm)]
      · refine st_a (f1 := f_X11_comes 1 (iI v)) (f2 := f_X12_comes 1 (iI v)) (A' := (comJ A.1 v, kp A.2.1 A.1, A.2.2)) (nI A.1.2.1) ⟨comJ_ok hok.1 (by omega) ⟨hv1, hv2⟩, kp_ok hok.2.1 hok.1, kp_len hok.2.2.1 _, hok.2.2.2⟩ hc hr (fun hc => ?_) (lo_X11_comes 1 (iI v)) (fun s1 hr1 => ?_) (hi_X12_comes 1 (iI v))
        · have h := cl_act (T' := comJ A.1 v) (f := f_X1_addJob 3 (iI v).toInt64) hok (comJ_ok hok.1 (by omega) ⟨hv1, hv2⟩) hc (fun s1 h1 => ?_) (fun s1 s2 e => ?_)
          · obtain ⟨s', e, hs⟩ := h
            refine ⟨(nI A.1.2.1, s'), ?_, rfl, hs⟩
            obtain ⟨s1, e1, e⟩ := Option.bind_eq_some_iff.mp e
            obtain ⟨s2, e2, e⟩ := Option.bind_eq_some_iff.mp e
            unfold f_X11_comes f_X11_isKind f_X11_comes_J29 f_X1_howMany f_X11_comes_J85
            rw [if_neg n1_0, if_pos rfl, Option.bind_some, if_neg n1_0, hz1', Option.bind_some, if_neg n1_0, if_neg n1_0, if_neg n1_0, Option.bind_some]
            simp only [hc.1.2.1]
            rw [if_pos (show nI A.1.2.1 < 8 from nI_lt (b := 8) (by omega) (by omega)), e1, Option.bind_some, if_neg n1_0, e2, Option.bind_some, e, Option.bind_some]
          · refine ev_m (ev_addJob h7 (by omega) h1 _) (fun s2 h2 => gridF_ext h2 (fun a b ha hb => ?_))
            have ha : a < A.1.1 := ha
            show c64 (if b = A.1.2.1 ∧ a < A.1.1 then some v else A.1.2.2 a b) = if b = A.1.2.1 then (iI v).toInt64 else c64 (A.1.2.2 a b)
            by_cases q : b = A.1.2.1
            · rw [if_pos ⟨q, ha⟩, if_pos q, iI_64 (by omega) (by omega)]; rfl
            · rw [if_neg (by omega), if_neg q]
          · refine sx_mono (fr_f_X1_addJob 3 (iI v).toInt64 s1 ax_G3 e) (fun o k q => ?_) (fun o k q => q) (fun o q => q) (fun o q => q)
            simp only at q ⊢; omega
        · obtain ⟨s2, e2, t2, w2, h59⟩ := rf_rem hok hr1
          obtain ⟨s3, e3, ⟨c3, t3⟩, x3⟩ := rf_lJ hok (by omega) t2 v
          obtain ⟨p, e4, v4, h4⟩ := rf_act hok hr1 e2 t3 (sx_wA' x3 rfl) ⟨1, by omega, by
            rw [rA_T ⟨rfl, rfl⟩, hr1.1.2.1]
            exact fun q => absurd ((nI_eq (by omega) (by omega)).mp q) (by omega)⟩
          have hp0 : rA p.2 59 1 = nI (A.1.2.1 + 1) := h4.1.2.1
          refine ⟨(nI A.1.2.1, p.2), ?_, rfl, h4⟩
          unfold f_X12_comes f_X12_comes_J49
          rw [in_1, Option.bind_some, if_neg n1_0, hz2', Option.bind_some, if_neg n1_0, if_neg n1_0, f_jb hr1.1, Option.bind_some, if_neg (fun q => hm ((n_8 (by omega)).mp q)), e2, Option.bind_some, e3, Option.bind_some]
          simp (disch := omega) only [↓reduceIte, nI_lit, nI_add, pk_mul, nI_lt_T, nI_lt_F, nI_le_T, nI_le_F, nI_eq_T, nI_eq_F, nI_cl, le_F, le_T, nI_m_F, m_nI_F, nI_dn, m_lt, Option.bind_some, if_true, if_false, not_false_eq_true, not_true_eq_false, or_self, or_false, false_or, true_or, or_true, true_and, and_true, false_and, and_false, c3, e4, hp0, nI_k1]
