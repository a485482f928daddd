/-! sum, job, ties: what stands at a rank -/
theorem isort_0 (L : List asg) : (isort L)[0]? = fmin L := by
  cases h : lowL L with
  | none =>
    have := lowL_none.mp h
    subst this; rfl
  | some v =>
    obtain ⟨hx, hmin⟩ := lowL_some.mp h
    obtain ⟨p, hp, hm, hv⟩ := fmin_some h
    have e0 : (isort L).filter (fun p => decide (p.2 < v)) = [] := List.filter_eq_nil_iff.mpr (fun q hq => by
      have := hmin q ((isort_mem L q).mp hq)
      simp; omega)
    have e1 : (isort L).filter (fun p => decide (p.2 = v)) = L.filter (fun p => decide (p.2 = v)) := by
      rw [isort_filter]
      exact isort_eqs (v := v) _ (fun q hq => by simpa using (List.mem_filter.mp hq).2)
    have e2 : L.find? (fun p => decide (p.2 = v)) = some p := (fmin_eq h).symm.trans hp
    rw [srt_split v (isort_srt L), e0, List.nil_append, e1, ← List.head?_eq_getElem?, List.head?_append, List.head?_filter, e2, hp]
    rfl
theorem f200_0 (T : tb) : (f200 T)[0]? = fmin (allA T) := by
  unfold f200
  rw [List.getElem?_take_of_lt (by omega), isort_0]
theorem f200_len (T : tb) : (f200 T).length ≤ 200 := by
  unfold f200
  rw [List.length_take]; omega
theorem f200_mem {T : tb} {k : Nat} {p : asg} (h : (f200 T)[k]? = some p) : p ∈ allA T :=
  (isort_mem _ p).mp (List.mem_of_mem_take (List.mem_of_getElem? h))
theorem c_sumOf {A : ast} {s : sx_M} (hok : okA A) (hc : clA A s) {k : Nat} (hk : k < 200) : Ev (f_X4_sumOf (nI k) s) (fun p => p.1 = cH (((f200 A.1)[k]?).map (fun q => q.2)) ∧ orderIs A.1 p.2) := by
  have hlen := f200_len A.1
  unfold f_X4_sumOf
  by_cases z : k = 0
  · subst z
    rw [if_pos (show nI 0 = 0 from rfl), bnd (f_leastSum (tb_ok_wk hok.1) hc.2.1)]
    refine ⟨(cH (lowL (allA A.1)), s), rfl, ?_, hc.2.2.1⟩
    show cH (lowL (allA A.1)) = _
    rw [f200_0]
    cases h : lowL (allA A.1) with
    | none => rw [lowL_none.mp h]; rfl
    | some v =>
      obtain ⟨p, hp, _, hv⟩ := fmin_some h
      rw [hp, ← hv]; rfl
  · have hin : ¬ (nI k < 0 ∨ 200 ≤ (nI k).toNatClampNeg) := by
      rw [nI_cl (by omega)]
      exact fun q => q.elim (nI_pos (by omega)) (by omega)
    rw [if_neg (show ¬ nI k = 0 from of_eq_false (nI_eq_F (b := 0) z (by omega) (by omega)))]
    obtain ⟨s1, e1, h4, hl⟩ := f_list hok.1 hc.1 hc.2.1 hc.2.2.1
    rw [bnd e1, if_neg (show ¬ nI k ≤ 0 from nI_nle (by omega) (by omega)), hl.1]
    by_cases y : k < (f200 A.1).length
    · have hp := List.getElem?_eq_getElem y
      rw [if_neg (show ¬ nI (f200 A.1).length ≤ nI k from nI_ge y (by omega)), if_pos hin, nI_cl (by omega), (hl.2 k _ hp).2]
      exact ⟨_, rfl, by rw [hp]; rfl, Or.inr ⟨h4, hl⟩⟩
    · rw [if_pos (show nI (f200 A.1).length ≤ nI k from nI_le (by omega) (by omega))]
      exact ⟨_, rfl, by rw [List.getElem?_eq_none (by omega)]; rfl, Or.inr ⟨h4, hl⟩⟩
theorem c_lay {ra : Nat} {A : ast} {s : sx_M} (hok : okA A) (hc : clA A s) (hra : ra = 56 ∨ ra = 57) {k : Nat} (hk : k < 200) : Ev (f_X4_lay ra (nI k) s) (fun r => ((r.1 = 0 ∧ (f200 A.1)[k]? = none) ∨ (r.1 = 1 ∧ ∃ p, (f200 A.1)[k]? = some p ∧ ∀ i j, p.1[i]? = some j → rA r.2 ra i = nI j)) ∧ clA A r.2) := by
  have hlen := f200_len A.1
  have hF : ∀ s1 s2, sx_eq (Dar ra) s1 s2 → clA A s1 → clA A s2 := fun s1 s2 h c => cl_F h (fun q => sx_mono q (fun o k z => z.elim) (fun _ _ _ => trivial) (fun o z => by simp only [Dar, clF] at z ⊢; omega) (fun o z => z.elim)) c
  unfold f_X4_lay
  by_cases z : k = 0
  · subst z
    rw [if_pos (show nI 0 = 0 from rfl), f200_0]
    cases h : lowL (allA A.1) with
    | none =>
      have h0 := lowL_none.mp h
      rw [bnd (ff_0 hc.2.1 h0), if_pos (Or.inl rfl), h0]
      exact ⟨(0, s), rfl, Or.inl ⟨rfl, rfl⟩, hc⟩
    | some v =>
      obtain ⟨p, hp, _, hv⟩ := fmin_some h
      obtain ⟨r, e, r1, r2, r3⟩ := ff_1 (ra := ra) (tb_ok_wk hok.1) hc.1 hc.2.1 (by omega) hp
      rw [bnd e, r1, if_pos (Or.inr rfl)]
      exact ⟨(1, r.2), rfl, Or.inr ⟨rfl, p, hp, r2⟩, hF _ _ r3 hc⟩
  · have hin : ¬ (nI k < 0 ∨ 200 ≤ (nI k).toNatClampNeg) := by
      rw [nI_cl (by omega)]
      exact fun q => q.elim (nI_pos (by omega)) (by omega)
    rw [if_neg (show ¬ nI k = 0 from of_eq_false (nI_eq_F (b := 0) z (by omega) (by omega)))]
    obtain ⟨s1, e1, h4, hl⟩ := f_list hok.1 hc.1 hc.2.1 hc.2.2.1
    have hc1 : clA A s1 := cl_O (fr_f_X4_list s e1) (fun q => sx_mono q (fun o k z => by simp only [clO] at z ⊢; omega) (fun _ _ _ => trivial) (fun o z => by simp only [clO] at z ⊢; omega) (fun o z => by simp only [clO] at z ⊢; omega)) hc (Or.inr ⟨h4, hl⟩)
    rw [bnd e1, if_neg (show ¬ nI k ≤ 0 from nI_nle (by omega) (by omega)), hl.1]
    by_cases y : k < (f200 A.1).length
    · have hp := List.getElem?_eq_getElem y
      have hpm := f200_mem hp
      have h21 := cod_21 hok.1 hpm
      rw [if_neg (show ¬ nI (f200 A.1).length ≤ nI k from nI_ge y (by omega)), if_pos hin, nI_cl (by omega), (hl.2 k _ hp).1]
      obtain ⟨r, e, hd, hx⟩ := f_decode (ra := ra) hok.1 hc1.1 (cod (f200 A.1)[k].1) (by omega)
      rw [bnd e]
      rcases hd with ⟨r1, q, hq, hqc, hrow⟩ | ⟨r0, hno⟩
      · rw [r1, if_neg n1_0]
        refine ⟨(1, r.2), rfl, Or.inr ⟨rfl, _, hp, ?_⟩, hF _ _ hx hc1⟩
        obtain ⟨i1, hi1⟩ := List.getElem?_of_mem hq
        obtain ⟨i2, hi2⟩ := List.getElem?_of_mem hpm
        have := (ex_inj hi1 hi2).2 hqc
        rw [this] at hi1
        have hqp : q = (f200 A.1)[k] := Option.some.inj (hi1.symm.trans hi2)
        rw [← hqp]
        exact hrow
      · exact absurd rfl (hno _ hpm)
    · rw [if_pos (show nI (f200 A.1).length ≤ nI k from nI_le (by omega) (by omega))]
      exact ⟨(0, s1), rfl, Or.inl ⟨rfl, List.getElem?_eq_none (by omega)⟩, hc1⟩
/-! the reference -/
theorem ix_R (x : Int32) : (x < 0 ∨ 200 ≤ x) ∨ ∃ k, k < 200 ∧ x = nI k := by
  rcases pk_ix x (n := 200) (by omega) with h | h | h
  · exact Or.inl (Or.inl h)
  · exact Or.inl (Or.inr h)
  · exact Or.inr h
theorem isR_in {k : Nat} (hk : k < 200) (s : sx_M) : f_X12_isRank (nI k) s = some (1, s) := by
  unfold f_X12_isRank
  rw [show (199 : Int64) = (nI 199).toInt64 by decide, f_in0, if_neg (fun q => q.elim (nI_pos (by omega)) (nI_nlt (by omega) (by omega)))]
  rfl
theorem isR_out {x : Int32} (h : x < 0 ∨ 200 ≤ x) (s : sx_M) : f_X12_isRank x s = some (0, s) := by
  unfold f_X12_isRank
  rw [show (199 : Int64) = (nI 199).toInt64 by decide, f_in0, if_pos (by
    by_cases h0 : x < 0
    · exact Or.inl h0
    · have h2 := h.resolve_left h0
      rw [Int32.le_iff_toInt_le, show (200 : Int32).toInt = 200 by decide] at h2
      refine Or.inr ?_
      rw [Int32.lt_iff_toInt_lt, show (nI 199).toInt = 199 by decide]
      omega)]
  rfl
theorem cR_in {k : Nat} (hk : k < 200) (s : sx_M) : f_X11_isRank (nI k) s = some (1, s) := by
  unfold f_X11_isRank
  rw [if_neg (nI_pos (by omega)), if_neg (show ¬ 200 ≤ nI k from of_eq_false (nI_le_F (a := 200) hk (by omega)))]
theorem cR_out {x : Int32} (h : x < 0 ∨ 200 ≤ x) (s : sx_M) : f_X11_isRank x s = some (0, s) := by
  unfold f_X11_isRank
  by_cases h0 : x < 0
  · rw [if_pos h0]
  · rw [if_neg h0, if_pos (h.resolve_left h0)]
theorem isT_out {x : Int32} (h : x < 0 ∨ 200 ≤ x) (s : sx_M) : f_X12_isThere x s = some (0, s) := by
  unfold f_X12_isThere
  rw [bnd (isR_out h s), if_pos rfl]
theorem isT_0 {T : tb} {s : sx_M} (hf : fstI T s) {k : Nat} (hk : k < 200) (h : (f200 T)[k]? = none) : f_X12_isThere (nI k) s = some (0, s) := by
  have hl := List.getElem?_eq_none_iff.mp h
  unfold f_X12_isThere
  rw [bnd (isR_in hk s), if_neg n1_0, hf.1, if_pos (nI_le hl (by omega))]
theorem isT_1 {T : tb} {s : sx_M} (hf : fstI T s) {k : Nat} (hk : k < 200) {p : asg} (h : (f200 T)[k]? = some p) : f_X12_isThere (nI k) s = some (1, s) := by
  have hl := (List.getElem?_eq_some_iff.mp h).1
  have := f200_len T
  unfold f_X12_isThere
  rw [bnd (isR_in hk s), if_neg n1_0, hf.1, if_neg (show ¬ nI (f200 T).length ≤ nI k from nI_ge hl (by omega))]
theorem stp_6 : st_ok_6 Rel := by
  intro x s ⟨A, hok, hc, hr⟩
  have bA : lbd (allA A.1) := all_bd hok.1
  have h40 := bA.1
  rcases ix_R x with hx | ⟨k, hk, rfl⟩
  · refine st_o (f1 := f_X11_sum x) (f2 := f_X12_sum x) (-9223372036854775808) hok hc hr (fun hc => ⟨(-9223372036854775808, s), ?_, rfl, hc.2.2.1⟩) (lo_X11_sum _) (cO_X11_sum _) (fun s1 hr1 => ?_) (hi_X12_sum _) (rF_X12_sum _)
    · unfold f_X11_sum
      rw [bnd (cR_out hx s), if_pos rfl]
    · obtain ⟨s2, e2, _⟩ := r_first hok hr1
      refine ⟨(-9223372036854775808, s2), ?_, rfl⟩
      unfold f_X12_sum
      rw [bnd e2, bnd (isT_out hx s2), if_pos rfl]
  refine st_o (f1 := f_X11_sum (nI k)) (f2 := f_X12_sum (nI k)) (cH (((f200 A.1)[k]?).map (fun q => q.2))) hok hc hr (fun hc => ?_) (lo_X11_sum _) (cO_X11_sum _) (fun s1 hr1 => ?_) (hi_X12_sum _) (rF_X12_sum _)
  · obtain ⟨p, e, h1, h2⟩ := c_sumOf hok hc hk
    refine ⟨p, ?_, h1, h2⟩
    unfold f_X11_sum
    rw [bnd (cR_in hk s), if_neg n1_0, bnd e]
  · obtain ⟨s2, e2, hl, ht, hf⟩ := r_first hok hr1
    cases hq : (f200 A.1)[k]? with
    | none =>
      refine ⟨(-9223372036854775808, s2), ?_, rfl⟩
      unfold f_X12_sum
      rw [bnd e2, bnd (isT_0 hf hk hq), if_pos rfl]
    | some p =>
      obtain ⟨m, hm, hmp, hmr⟩ := hf.2 k p hq
      have hpb := bA.2 p (List.mem_of_getElem? hmp)
      have hin : ¬ (nI k < 0 ∨ 200 ≤ (nI k).toNatClampNeg) := by
        rw [nI_cl (by omega)]
        exact fun q => q.elim (nI_pos (by omega)) (by omega)
      have hinm : ¬ (nI m < 0 ∨ 40320 ≤ (nI m).toNatClampNeg) := by
        rw [nI_cl (by omega)]
        exact fun q => q.elim (nI_pos (by omega)) (by omega)
      refine ⟨(jJ p.2, s2), ?_, rfl⟩
      unfold f_X12_sum
      rw [bnd e2, bnd (isT_1 hf hk hq), if_neg n1_0, if_pos hin, nI_cl (show k < 2147483648 by omega), hmr, if_pos hinm, nI_cl (show m < 2147483648 by omega), (hl.2 m p hmp).2, iI_64 (by omega) (by omega)]
theorem stp_7 : st_ok_7 Rel := by
  intro x y s ⟨A, hok, hc, hr⟩
  have bA : lbd (allA A.1) := all_bd hok.1
  have h40 := bA.1
  have h7 := hok.1.1
  rcases ix_R x with hx | ⟨k, hk, rfl⟩
  · refine ⟨(-2, s), (-2, s), ?_, ?_, rfl, A, hok, hc, hr⟩
    · unfold f_X11_job
      rw [bnd (cR_out hx s), if_pos rfl]
    · unfold f_X12_job
      rw [bnd (isR_out hx s), if_pos rfl]
  rcases ix_W hok.1 y with hy | ⟨w, hw, rfl⟩
  · refine ⟨(-2, s), (-2, s), ?_, ?_, rfl, A, hok, hc, hr⟩
    · unfold f_X11_job
      rw [bnd (cR_in hk s), if_neg n1_0, bnd (hW_out hc.1 hy), if_pos rfl]
    · unfold f_X12_job
      rw [bnd (isR_in hk s), if_neg n1_0, bnd (f_isW_out hok.1 hr.1 hy), if_pos rfl]
  have hv : ∃ v, ((f200 A.1)[k]? = none ∧ v = (-1 : Int32)) ∨ (∃ p j, (f200 A.1)[k]? = some p ∧ p.1[w]? = some j ∧ v = nI j) := by
    cases hq : (f200 A.1)[k]? with
    | none => exact ⟨-1, Or.inl ⟨rfl, rfl⟩⟩
    | some p =>
      obtain ⟨j, hj⟩ := row_get (all_row (f200_mem hq)).1 hw
      exact ⟨nI j, Or.inr ⟨p, j, rfl, hj, rfl⟩⟩
  obtain ⟨v, hv⟩ := hv
  refine st_o (f1 := f_X11_job (nI k) (nI w)) (f2 := f_X12_job (nI k) (nI w)) v hok hc hr (fun hc => ?_) (lo_X11_job _ _) (cO_X11_job _ _) (fun s1 hr1 => ?_) (hi_X12_job _ _) (rF_X12_job _ _)
  · obtain ⟨r, e, h1, h2⟩ := c_lay (ra := 56) hok hc (Or.inl rfl) hk
    have hin : ¬ (nI w < 0 ∨ 7 ≤ (nI w).toNatClampNeg) := by
      rw [nI_cl (by omega)]
      exact fun q => q.elim (nI_pos (by omega)) (by omega)
    refine ⟨(v, r.2), ?_, rfl, h2.2.2.1⟩
    unfold f_X11_job
    rw [bnd (cR_in hk s), if_neg n1_0, bnd (hW_in h7 hc.1 hw), if_neg n1_0, bnd e]
    rcases h1 with ⟨r0, hn⟩ | ⟨r1, p, hp, hrow⟩
    · rw [r0, if_pos rfl]
      rcases hv with ⟨_, rfl⟩ | ⟨p', j, hp', _⟩
      · rfl
      · rw [hn] at hp'; cases hp'
    · rw [r1, if_neg n1_0, if_pos hin, nI_cl (by omega)]
      rcases hv with ⟨hn, _⟩ | ⟨p', j, hp', hj, rfl⟩
      · rw [hn] at hp; cases hp
      · rw [hp] at hp'; cases hp'
        rw [hrow w j hj]
  · obtain ⟨s2, e2, hl, ht, hf⟩ := r_first hok hr1
    refine ⟨(v, s2), ?_, rfl⟩
    unfold f_X12_job
    rw [bnd (isR_in hk s1), if_neg n1_0, bnd (f_isW_in hok.1 hr1.1 hw), if_neg n1_0, bnd e2]
    rcases hv with ⟨hn, rfl⟩ | ⟨p, j, hp, hj, rfl⟩
    · rw [bnd (isT_0 hf hk hn), if_pos rfl]
    · have hin : ¬ (nI k < 0 ∨ 200 ≤ (nI k).toNatClampNeg) := by
        rw [nI_cl (by omega)]
        exact fun q => q.elim (nI_pos (by omega)) (by omega)
      obtain ⟨m, hm, hmp, hmr⟩ := hf.2 k p hp
      have hrow := all_row (f200_mem hp)
      rw [bnd (isT_1 hf hk hp), if_neg n1_0, if_pos hin, nI_cl (by omega), hmr, bnd (r_job hok.1 ht hl hmp (by omega) hrow.1 hrow.2 hj)]
theorem cnB_nx {b : Int} {L : List asg} {p : asg} {i : Nat} (hp : L[i]? = some p) : cnB b b (L.take (i + 1)) = cnB b b (L.take i) + (if p.2 = b then 1 else 0) := by
  rw [List.take_succ, hp, cnB_app]
  congr 1
  show cnB b b [p] = _
  unfold cnB
  rw [List.countP_singleton]
  by_cases z : p.2 = b
  · rw [if_pos z, if_pos (by simp; omega)]
  · rw [if_neg z, if_neg (by simp; omega)]
theorem r_ties {T : tb} {s : sx_M} (bA : lbd (allA T)) (hl : lst (allA T) s) (hf : fstI T s) {k : Nat} (hk : k < 200) {p : asg} (hp : (f200 T)[k]? = some p) : whT (f_X12_ties_L18 (nI k)) (0, 0, s) = some (nI (cnB p.2 p.2 (allA T)), s) := by
  have h40 := bA.1
  obtain ⟨m, hm, hmp, hmr⟩ := hf.2 k p hp
  have hpb := bA.2 p (List.mem_of_getElem? hmp)
  have hin : ¬ (nI k < 0 ∨ 200 ≤ (nI k).toNatClampNeg) := by
    rw [nI_cl (by omega)]
    exact fun q => q.elim (nI_pos (by omega)) (by omega)
  have hinm : ¬ (nI m < 0 ∨ 40320 ≤ (nI m).toNatClampNeg) := by
    rw [nI_cl (by omega)]
    exact fun q => q.elim (nI_pos (by omega)) (by omega)
  have h : Ev (whT (f_X12_ties_L18 (nI k)) (0, 0, s)) (fun r => r = (nI (cnB p.2 p.2 (allA T)), s)) := by
    refine ev_f (fun i a => a = (nI (cnB p.2 p.2 ((allA T).take i)), nI i, s)) (allA T).length ?_ ?_ (i := 0) (by omega) rfl
    · rintro i _ hi rfl
      obtain ⟨q, hq⟩ : ∃ q, (allA T)[i]? = some q := ⟨(allA T)[i], List.getElem?_eq_getElem hi⟩
      have hqb := bA.2 q (List.mem_of_getElem? hq)
      have hini : ¬ (nI i < 0 ∨ 40320 ≤ (nI i).toNatClampNeg) := by
        rw [nI_cl (by omega)]
        exact fun q => q.elim (nI_pos (by omega)) (by omega)
      simp only [f_X12_ties_L18, hl.1]
      rw [if_neg (show ¬ nI (allA T).length ≤ nI i from nI_ge hi (by omega)), bnd (isT_1 hf hk hp), if_neg n1_0, if_pos hini, if_pos hin, nI_cl (show k < 2147483648 by omega), hmr, if_pos hinm, nI_cl (show m < 2147483648 by omega), nI_cl (show i < 2147483648 by omega), (hl.2 m p hmp).2, (hl.2 i q hq).2]
      have hcn := cnB_nx (b := p.2) hq
      by_cases z : q.2 = p.2
      · rw [if_pos (show iI q.2 = iI p.2 by rw [z])]
        rw [if_pos z] at hcn
        refine ⟨.inl (nI (cnB p.2 p.2 ((allA T).take i)) + 1, nI i + 1, s), rfl, ?_⟩
        show (_, _, _) = (_, _, _)
        rw [hcn, nI_1, nI_1]
      · rw [if_neg (of_eq_false (iI_eq_F z (by omega) (by omega) (by omega) (by omega)))]
        rw [if_neg z] at hcn
        refine ⟨.inl (nI (cnB p.2 p.2 ((allA T).take i)) + 0, nI i + 1, s), rfl, ?_⟩
        show (_, _, _) = (_, _, _)
        rw [hcn, Int32.add_zero, Nat.add_zero, nI_1]
    · rintro _ rfl
      simp only [f_X12_ties_L18, hl.1]
      rw [if_pos (nI_le (Nat.le_refl _) (by omega)), List.take_length]
      exact ⟨_, rfl, rfl⟩
  obtain ⟨r, e, rfl⟩ := h
  exact e
theorem r_ties0 {T : tb} {s : sx_M} (h40 : (allA T).length ≤ 40320) (hl : lst (allA T) s) (hf : fstI T s) {k : Nat} (hk : k < 200) (hp : (f200 T)[k]? = none) : whT (f_X12_ties_L18 (nI k)) (0, 0, s) = some (0, s) := by
  rw [whT_eq]
  simp only [f_X12_ties_L18, hl.1]
  by_cases z : (allA T).length = 0
  · rw [if_pos (show nI (allA T).length ≤ 0 by rw [z]; decide)]; rfl
  · rw [if_neg (show ¬ nI (allA T).length ≤ 0 from nI_nle (by omega) (by omega)), bnd (isT_0 hf hk hp), if_pos rfl]; rfl
theorem stp_8 : st_ok_8 Rel := by
  intro x s ⟨A, hok, hc, hr⟩
  have bA : lbd (allA A.1) := all_bd hok.1
  have h40 := bA.1
  rcases ix_R x with hx | ⟨k, hk, rfl⟩
  · refine ⟨(-2, s), (-2, s), ?_, ?_, rfl, A, hok, hc, hr⟩
    · unfold f_X11_ties
      rw [bnd (cR_out hx s), if_pos rfl]
    · unfold f_X12_ties
      rw [bnd (isR_out hx s), if_pos rfl]
  cases hq : (f200 A.1)[k]? with
  | none =>
    refine st_o (f1 := f_X11_ties (nI k)) (f2 := f_X12_ties (nI k)) (-1) hok hc hr (fun hc => ?_) (lo_X11_ties _) (cO_X11_ties _) (fun s1 hr1 => ?_) (hi_X12_ties _) (rF_X12_ties _)
    · obtain ⟨p, e, h1, h2⟩ := c_sumOf hok hc hk
      rw [hq] at h1
      have h1 : p.1 = (-9223372036854775808 : Int64) := h1
      refine ⟨(-1, p.2), ?_, rfl, h2⟩
      unfold f_X11_ties
      rw [bnd (cR_in hk s), if_neg n1_0, bnd e, h1, if_pos rfl]
    · obtain ⟨s2, e2, hl, ht, hf⟩ := r_first hok hr1
      refine ⟨(-1, s2), ?_, rfl⟩
      unfold f_X12_ties
      rw [bnd (isR_in hk s1), if_neg n1_0, bnd e2, bnd (r_ties0 h40 hl hf hk hq), bnd (isT_0 hf hk hq), if_pos rfl]
  | some q =>
    have hqb := bA.2 q (f200_mem hq)
    refine st_o (f1 := f_X11_ties (nI k)) (f2 := f_X12_ties (nI k)) (nI (cnB q.2 q.2 (allA A.1))) hok hc hr (fun hc => ?_) (lo_X11_ties _) (cO_X11_ties _) (fun s1 hr1 => ?_) (hi_X12_ties _) (rF_X12_ties _)
    · obtain ⟨p, e, h1, h2⟩ := c_sumOf hok hc hk
      rw [hq] at h1
      have h1 : p.1 = jJ q.2 := h1
      have hc2 : clA A p.2 := cl_O (fr_f_X4_sumOf _ s e) (fun q => sx_mono q (fun o k z => by simp only [clO] at z ⊢; omega) (fun _ _ _ => trivial) (fun o z => by simp only [clO] at z ⊢; omega) (fun o z => by simp only [clO] at z ⊢; omega)) hc h2
      refine ⟨(nI (cnB q.2 q.2 (allA A.1)), p.2), ?_, rfl, h2⟩
      unfold f_X11_ties
      rw [bnd (cR_in hk s), if_neg n1_0, bnd e, h1, jJ_ns, if_neg (of_eq_false (jJ_eq_F (by omega) (by omega) (by omega) (by omega) (by omega))), bnd (f_alike (tb_ok_wk hok.1) hc2.1 hc2.2.1 (by omega))]
    · obtain ⟨s2, e2, hl, ht, hf⟩ := r_first hok hr1
      refine ⟨(nI (cnB q.2 q.2 (allA A.1)), s2), ?_, rfl⟩
      unfold f_X12_ties
      rw [bnd (isR_in hk s1), if_neg n1_0, bnd e2, bnd (r_ties bA hl hf hk hq), bnd (isT_1 hf hk hq), if_neg n1_0]
