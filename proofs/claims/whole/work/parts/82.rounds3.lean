theorem rowH_of {T : tb} {ra : Nat} {p : asg} {s : sx_M} (hp : p ∈ allA T) (hrow : ∀ i j, p.1[i]? = some j → rA s ra i = nI j) : rowH ra T.1 p.1 s := by
  intro i hi
  have rp := all_row hp
  obtain ⟨j, hj⟩ := row_get rp.1 hi
  rw [getD_s hj]
  exact ⟨hrow i j hj, rp.2 j (List.mem_of_getElem? hj)⟩
def rdV (P : rdP) (x : Int32) : Int32 := if x = 0 then P.2.1 else if x = 1 then P.2.2.1 else if x = 2 then P.2.2.2.1 else P.2.2.2.2
theorem stp_31 : st_ok_31 Rel := by
  intro x y z s ⟨A, hok, hc, hr⟩
  have bA : lbd (allA A.1) := all_bd hok.1
  have h40 := bA.1
  have h7 := hok.1.1
  rcases ix_R x with hx | ⟨k, hk, rfl⟩
  · refine ⟨(-2, s), (-2, s), ?_, ?_, rfl, A, hok, hc, hr⟩
    · unfold f_X11_rounds
      rw [bnd (cR_out hx s), if_pos rfl]
    · unfold f_X12_rounds
      rw [bnd (isR_out hx s), if_pos rfl]
  rcases ix_R y with hy | ⟨l, hl2, rfl⟩
  · refine ⟨(-2, s), (-2, s), ?_, ?_, rfl, A, hok, hc, hr⟩
    · unfold f_X11_rounds
      rw [bnd (cR_in hk s), if_neg n1_0, bnd (cR_out hy s), if_pos rfl]
    · unfold f_X12_rounds
      rw [bnd (isR_in hk s), if_neg n1_0, bnd (isR_out hy s), if_pos rfl]
  have e3 : (3 : Int64) = (3 : Int32).toInt64 := by decide
  by_cases hz0 : z < 0
  · refine ⟨(-2, s), (-2, s), ?_, ?_, rfl, A, hok, hc, hr⟩
    · unfold f_X11_rounds
      rw [bnd (cR_in hk s), if_neg n1_0, bnd (cR_in hl2 s), if_neg n1_0, if_pos hz0]
    · unfold f_X12_rounds
      rw [bnd (isR_in hk s), if_neg n1_0, bnd (isR_in hl2 s), if_neg n1_0, e3, bnd (f_in0 z 3 s), if_pos (Or.inl hz0), if_pos rfl]
  by_cases hz3 : z ≤ 3
  rotate_left
  · refine ⟨(-2, s), (-2, s), ?_, ?_, rfl, A, hok, hc, hr⟩
    · unfold f_X11_rounds
      rw [bnd (cR_in hk s), if_neg n1_0, bnd (cR_in hl2 s), if_neg n1_0, if_neg hz0, if_neg hz3]
    · unfold f_X12_rounds
      rw [bnd (isR_in hk s), if_neg n1_0, bnd (isR_in hl2 s), if_neg n1_0, e3, bnd (f_in0 z 3 s), if_pos (Or.inr (Int32.not_le.mp hz3)), if_pos rfl]
  have hin3 : ∀ s1, f_X12_in z.toInt64 0 3 s1 = some (1, s1) := by
    intro s1
    rw [e3, f_in0, if_neg (fun q => q.elim hz0 (fun h => Int32.not_le.mpr h hz3))]
  have hv : ∃ v : Int32, ((f200 A.1)[k]? = none ∧ v = -1) ∨ (∃ p, (f200 A.1)[k]? = some p ∧ (((f200 A.1)[l]? = none ∧ v = -1) ∨ ∃ q, (f200 A.1)[l]? = some q ∧ v = rdV (rdE p.1 q.1 A.1.1) z)) := by
    cases h1 : (f200 A.1)[k]? with
    | none => exact ⟨_, Or.inl ⟨rfl, rfl⟩⟩
    | some p =>
      cases h2 : (f200 A.1)[l]? with
      | none => exact ⟨_, Or.inr ⟨p, rfl, Or.inl ⟨rfl, rfl⟩⟩⟩
      | some q => exact ⟨_, Or.inr ⟨p, rfl, Or.inr ⟨q, rfl, rfl⟩⟩⟩
  obtain ⟨v, hv⟩ := hv
  refine st_o (f1 := f_X11_rounds (nI k) (nI l) z) (f2 := f_X12_rounds (nI k) (nI l) z) v hok hc hr (fun hc => ?_) (lo_X11_rounds _ _ _) (cO_X11_rounds _ _ _) (fun s1 hr1 => ?_) (hi_X12_rounds _ _ _) (rF_X12_rounds _ _ _)
  · unfold f_X11_rounds
    obtain ⟨r, e, h1, h2⟩ := c_lay (ra := 56) hok hc (Or.inl rfl) hk
    rw [bnd (cR_in hk s), if_neg n1_0, bnd (cR_in hl2 s), if_neg n1_0, if_neg hz0, if_pos hz3, bnd e]
    rcases h1 with ⟨r0, hn⟩ | ⟨r1, p, hp, hrow⟩
    · rw [r0, if_pos rfl]
      rcases hv with ⟨_, rfl⟩ | ⟨p', hp', _⟩
      · exact ⟨_, rfl, rfl, h2.2.2.1⟩
      · rw [hn] at hp'; cases hp'
    rw [r1, if_neg n1_0]
    obtain ⟨t, e2, h3, h4⟩ := c_lay (ra := 57) hok h2 (Or.inr rfl) hl2
    have hx := fr_f_X4_lay 57 (nI l) r.2 rfl e2
    have hkeep : ∀ i, rA t.2 56 i = rA r.2 56 i := fun i => hx.2.2.1 56 i (by simp)
    rw [bnd e2]
    rcases hv with ⟨hn, _⟩ | ⟨p', hp', hd⟩
    · rw [hn] at hp; cases hp
    rw [hp] at hp'; cases hp'
    rcases h3 with ⟨t0, hn⟩ | ⟨t1, q, hq, hrow2⟩
    · rw [t0, if_pos rfl]
      rcases hd with ⟨_, rfl⟩ | ⟨q', hq', _⟩
      · exact ⟨_, rfl, rfl, h4.2.2.1⟩
      · rw [hn] at hq'; cases hq'
    rw [t1, if_neg n1_0]
    rcases hd with ⟨hn, _⟩ | ⟨q', hq', rfl⟩
    · rw [hn] at hq; cases hq
    rw [hq] at hq'; cases hq'
    obtain ⟨u, e4, hP⟩ := c_trace (ra := 56) (rb := 57) (s := t.2) h7 (rowH_of (f200_mem hp) (fun i j hij => (hkeep i).trans (hrow i j hij))) (rowH_of (f200_mem hq) hrow2)
    have hfr := fr_f_X10_trace 56 57 (nI A.1.1) t.2 rfl rfl e4
    have ho : orderIs A.1 u := order_eq hfr (by simp) (by simp) (by simp) (by simp) h4.2.2.1
    rw [h4.1.1, bnd e4]
    unfold rdV
    by_cases z0 : z = 0
    · rw [if_pos z0, if_pos z0]; exact ⟨_, rfl, hP.1, ho⟩
    · rw [if_neg z0, if_neg z0]
      by_cases z1 : z = 1
      · rw [if_pos z1, if_pos z1]; exact ⟨_, rfl, hP.2.1, ho⟩
      · rw [if_neg z1, if_neg z1]
        by_cases z2 : z = 2
        · rw [if_pos z2, if_pos z2]; exact ⟨_, rfl, hP.2.2.1, ho⟩
        · rw [if_neg z2, if_neg z2]; exact ⟨_, rfl, hP.2.2.2.1, ho⟩
  · obtain ⟨s2, e2, hl, ht, hf⟩ := r_first hok hr1
    unfold f_X12_rounds
    rw [bnd (isR_in hk s1), if_neg n1_0, bnd (isR_in hl2 s1), if_neg n1_0, bnd (hin3 s1), if_neg n1_0, bnd e2]
    rcases hv with ⟨hn, rfl⟩ | ⟨p, hp, hd⟩
    · rw [bnd (isT_0 hf hk hn), if_pos rfl]
      exact ⟨_, rfl, rfl⟩
    rw [bnd (isT_1 hf hk hp), if_neg n1_0]
    rcases hd with ⟨hn, rfl⟩ | ⟨q, hq, rfl⟩
    · rw [bnd (isT_0 hf hl2 hn), if_pos rfl]
      exact ⟨_, rfl, rfl⟩
    obtain ⟨m, hm, hmp, hmr⟩ := hf.2 k p hp
    obtain ⟨m2, hm2, hmp2, hmr2⟩ := hf.2 l q hq
    have hin1 : ¬ (nI k < 0 ∨ 200 ≤ (nI k).toNatClampNeg) := by
      rw [nI_cl (by omega)]
      exact fun q => q.elim (nI_pos (by omega)) (by omega)
    have hin2 : ¬ (nI l < 0 ∨ 200 ≤ (nI l).toNatClampNeg) := by
      rw [nI_cl (by omega)]
      exact fun q => q.elim (nI_pos (by omega)) (by omega)
    obtain ⟨u, e4, hP⟩ := r_rounds hok.1 hmp hmp2 (by omega) (by omega) (f200_mem hp) (f200_mem hq) ht hl
    rw [bnd (isT_1 hf hl2 hq), if_neg n1_0, if_pos hin1, if_pos hin2, nI_cl (show k < 2147483648 by omega), nI_cl (show l < 2147483648 by omega), hmr, hmr2, bnd e4]
    unfold rdV
    by_cases z0 : z = 0
    · rw [if_pos z0, if_pos z0]; exact ⟨_, rfl, hP.1⟩
    · rw [if_neg z0, if_neg z0]
      by_cases z1 : z = 1
      · rw [if_pos z1, if_pos z1]; exact ⟨_, rfl, hP.2.1⟩
      · rw [if_neg z1, if_neg z1]
        by_cases z2 : z = 2
        · rw [if_pos z2, if_pos z2]; exact ⟨_, rfl, hP.2.2.1⟩
        · rw [if_neg z2, if_neg z2]; exact ⟨_, rfl, hP.2.2.2.1⟩
