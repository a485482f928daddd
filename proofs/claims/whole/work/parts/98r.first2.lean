theorem c_smallest {g ra : Nat} {T : tb} {s : sx_M} (hT : tb_ok T) (hg : gridIs g T s) {p : asg} (hp : p ∈ allA T) (hrow : ∀ i j, p.1[i]? = some j → rA s ra i = nI j) : f_X1_smallestOf g ra s = some (mnD T p T.1, s) := by
  have h7 := hT.1
  have hL : whT (f_X1_smallestOf_L7 g ra) (9223372036854775807, 0, s) = some (mnD T p T.1, s) := by
    refine wh_for (fun i => (mnD T p i, nI i, s)) T.1 (fun i hi => ?_) ?_ rfl
    · obtain ⟨j, v, a1, a2, a3, a4, a5, a6⟩ := cel_s hT hp hi
      have hin : ¬ (nI i < 0 ∨ 7 ≤ (nI i).toNatClampNeg) := by
        rw [nI_cl (by omega)]
        exact fun q => q.elim (nI_pos (by omega)) (by omega)
      simp only [f_X1_smallestOf_L7, hg.1]
      rw [if_neg (show ¬ nI T.1 ≤ nI i from nI_ge hi (by omega)), if_neg (show ¬ 7 ≤ nI i from of_eq_false (nI_le_F (a := 7) (by omega) (by omega))), if_pos hin, nI_cl (by omega), hrow i j a1, bnd (at_all hT hg hi a3), bnd (mn_f _ _ _), nI_1]
      simp only [mnD]
      rw [a4, a5]
    · simp only [f_X1_smallestOf_L7, hg.1]
      rw [if_pos (nI_le (Nat.le_refl _) (by omega))]
  unfold f_X1_smallestOf
  rw [bnd hL]
theorem c_above {T : tb} {s : sx_M} (hT : tb_ok T) (hg : gridIs 3 T s) {p : asg} (hp : p ∈ allA T) (hrow : ∀ i j, p.1[i]? = some j → rA s 44 i = nI j) (y : Int32) : f_X7_howManyAbove y s = some ((ovD T p y T.1).toInt64, s) := by
  have h7 := hT.1
  have hL : whT (f_X7_howManyAbove_L4 y) (0, 0, s) = some (ovD T p y T.1, s) := by
    refine wh_for (fun i => (ovD T p y i, nI i, s)) T.1 (fun i hi => ?_) ?_ rfl
    · obtain ⟨j, v, a1, a2, a3, a4, a5, a6⟩ := cel_s hT hp hi
      have hin : ¬ (nI i < 0 ∨ 7 ≤ (nI i).toNatClampNeg) := by
        rw [nI_cl (by omega)]
        exact fun q => q.elim (nI_pos (by omega)) (by omega)
      have e : c64 (T.2.2 i j) = (c32 (celO T p i)).toInt64 := by
        rw [a4, a5, c32_s, c64_s, iI_64 (by omega) (by omega)]
      simp only [f_X7_howManyAbove_L4, hg.1]
      rw [if_neg (show ¬ nI T.1 ≤ nI i from nI_ge hi (by omega)), if_pos hin, nI_cl (by omega), hrow i j a1, bnd (at_all hT hg hi a3), nI_1]
      simp only [ovD]
      rw [e]
      by_cases z : c32 (celO T p i) ≤ y
      · rw [if_pos z, if_pos ((i64_le _ _).mpr z), Int32.add_zero]
      · rw [if_neg z, if_neg (fun q => z ((i64_le _ _).mp q))]
    · simp only [f_X7_howManyAbove_L4, hg.1]
      rw [if_pos (nI_le (Nat.le_refl _) (by omega))]
  unfold f_X7_howManyAbove
  rw [bnd hL]
theorem c_measure {T : tb} {s : sx_M} (hT : tb_ok T) (hg : gridIs 3 T s) {p : asg} (hp : p ∈ allA T) (hrow : ∀ i j, p.1[i]? = some j → rA s 44 i = nI j) (x y : Int32) : f_X7_measure x y s = some (msO T p x y, s) := by
  have h7 := hT.1
  unfold f_X7_measure msO
  rw [hg.1]
  by_cases z : T.1 = 0
  · rw [if_pos (show nI T.1 = 0 by rw [z]; rfl), if_pos z]
  rw [if_neg (show ¬ nI T.1 = 0 from of_eq_false (nI_eq_F (b := 0) z (by omega) (by omega))), if_neg z]
  by_cases z0 : x = 0
  · rw [if_pos z0, if_pos z0, bnd (f_sumOf hT hg hp hrow)]
  rw [if_neg z0, if_neg z0]
  by_cases z1 : x = 1
  · rw [if_pos z1, if_pos z1, bnd (c_greatest hT hg hp hrow)]
  rw [if_neg z1, if_neg z1]
  by_cases z2 : x = 2
  · rw [if_pos z2, if_pos z2, bnd (c_greatest hT hg hp hrow), bnd (c_smallest hT hg hp hrow)]
  rw [if_neg z2, if_neg z2, bnd (c_above hT hg hp hrow y)]
theorem is_rule (x : Int32) : ((∀ s, f_X11_isRule x s = some (0, s)) ∧ ∀ s, f_X12_in x.toInt64 0 3 s = some (0, s)) ∨ ((∀ s, f_X11_isRule x s = some (1, s)) ∧ ∀ s, f_X12_in x.toInt64 0 3 s = some (1, s)) := by
  have e3 : (3 : Int64) = (3 : Int32).toInt64 := by decide
  rw [e3]
  unfold f_X11_isRule
  by_cases h1 : x < 0
  · exact Or.inl ⟨fun s => if_pos h1, fun s => by rw [f_in0, if_pos (Or.inl h1)]⟩
  · by_cases h2 : 3 < x
    · exact Or.inl ⟨fun s => by rw [if_neg h1, if_pos h2], fun s => by rw [f_in0, if_pos (Or.inr h2)]⟩
    · exact Or.inr ⟨fun s => by rw [if_neg h1, if_neg h2], fun s => by rw [f_in0, if_neg (fun q => q.elim h1 h2)]⟩
theorem r_by {A : ast} {s : sx_M} (hok : okA A) (hr : rfA A s) (x y : Int32) : Ev (f_X12_firstBy x y s) (fun r => lst (allA A.1) r.2 ∧ tabIs 59 0 A.1 r.2 ∧ ((allA A.1 = [] ∧ r.1 = -1) ∨ ∃ m p, r.1 = nI m ∧ m < 40320 ∧ (allA A.1)[m]? = some p ∧ isF (fun q => (msO A.1 q x y).toInt) (allA A.1) p)) := by
  obtain ⟨s1, e1, hl, ht, _⟩ := r_all hok hr
  obtain ⟨⟨r1, s2⟩, e2, er, h⟩ := r_firstBy hok.1 ht hl x y
  simp only at er h
  subst er
  refine ⟨(r1, s2), ?_, hl, ht, h⟩
  unfold f_X12_firstBy
  rw [bnd e1, bnd e2]
theorem stp_18 : st_ok_18 Rel := by
  intro x y z s ⟨A, hok, hc, hr⟩
  have bA : lbd (allA A.1) := all_bd hok.1
  have h7 := hok.1.1
  rcases is_rule x with ⟨q1, q2⟩ | ⟨q1, q2⟩
  · refine ⟨(-9223372036854775808, s), (-9223372036854775808, s), ?_, ?_, rfl, A, hok, hc, hr⟩
    · unfold f_X11_first
      rw [bnd (q1 s), if_pos rfl]
    · unfold f_X12_first
      rw [bnd (q2 s), if_pos rfl]
  have hz : (z = 0 ∨ z = 1) ∨ ((z < 0 ∨ 1 < z) ∧ ∀ s, f_X12_in z.toInt64 0 1 s = some (0, s)) := by
    rcases ic_kind z with h | h | ⟨h1, h2, h3⟩
    · exact Or.inl (Or.inl h)
    · exact Or.inl (Or.inr h)
    · refine Or.inr ⟨?_, h3⟩
      have a0 : z.toInt ≠ 0 := fun q => h1 (Int32.toInt_inj.mp q)
      have a1 : z.toInt ≠ 1 := fun q => h2 (Int32.toInt_inj.mp q)
      rw [Int32.lt_iff_toInt_lt, Int32.lt_iff_toInt_lt, show (0 : Int32).toInt = 0 by decide, show (1 : Int32).toInt = 1 by decide]
      omega
  rcases hz with hz | ⟨hz, hzi⟩
  rotate_left
  · refine ⟨(-9223372036854775808, s), (-9223372036854775808, s), ?_, ?_, rfl, A, hok, hc, hr⟩
    · unfold f_X11_first
      rw [bnd (q1 s), if_neg n1_0]
      rcases hz with hz | hz
      · rw [if_pos hz]
      · by_cases y0 : z < 0
        · rw [if_pos y0]
        · rw [if_neg y0, if_pos hz]
    · unfold f_X12_first
      rw [bnd (q2 s), if_neg n1_0, bnd (hzi s), if_pos rfl]
  have hzc : ¬ z < 0 ∧ ¬ 1 < z := by rcases hz with rfl | rfl <;> decide
  have hzr : ∀ s, f_X12_in z.toInt64 0 1 s = some (1, s) := by
    intro s
    rcases hz with rfl | rfl
    · exact in_0 s
    · exact in_1 s
  have hv : ∃ v : Int64, (allA A.1 = [] ∧ v = -9223372036854775808) ∨ (∃ p, isF (fun q => (msO A.1 q x y).toInt) (allA A.1) p ∧ v = if z = 0 then msO A.1 p x y else jJ p.2) := by
    obtain ⟨r, _, h, _⟩ := c_choose hok.1 hc.1 x y
    rcases h with ⟨h, _⟩ | ⟨p, _, hp, _⟩
    · exact ⟨_, Or.inl ⟨h, rfl⟩⟩
    · exact ⟨_, Or.inr ⟨p, hp, rfl⟩⟩
  obtain ⟨v, hv⟩ := hv
  refine st_q (f1 := f_X11_first x y z) (f2 := f_X12_first x y z) v hok hc hr (fun hc => ?_) (lo_X11_first _ _ _) (cF_X11_first _ _ _) (fun s1 hr1 => ?_) (hi_X12_first _ _ _) (rF_X12_first _ _ _)
  · obtain ⟨⟨r1, s2⟩, e2, h, hg2⟩ := c_choose hok.1 hc.1 x y
    simp only at h hg2
    unfold f_X11_first
    rw [bnd (q1 s), if_neg n1_0, if_neg hzc.1, if_neg hzc.2, bnd e2]
    rcases h with ⟨h, rfl⟩ | ⟨p, rfl, hp, hrow⟩
    · rw [if_pos rfl]
      rcases hv with ⟨_, rfl⟩ | ⟨p, hp, _⟩
      · exact ⟨_, rfl, rfl⟩
      · have := hp.1
        rw [h] at this
        cases this
    · rw [if_neg n1_0]
      rcases hv with ⟨hn, _⟩ | ⟨p', hp', rfl⟩
      · have := hp.1
        rw [hn] at this
        cases this
      · have e := isF_u hp hp'
        subst e
        by_cases z0 : z = 0
        · rw [if_pos z0, if_pos z0, bnd (c_measure hok.1 hg2 hp.1 hrow x y)]
          exact ⟨_, rfl, rfl⟩
        · rw [if_neg z0, if_neg z0, bnd (f_sumOf hok.1 hg2 hp.1 hrow)]
          exact ⟨_, rfl, rfl⟩
  · obtain ⟨⟨r1, s2⟩, e2, hl, ht, h⟩ := r_by hok hr1 x y
    simp only at hl ht h
    unfold f_X12_first
    rw [bnd (q2 s1), if_neg n1_0, bnd (hzr s1), if_neg n1_0, bnd e2]
    rcases h with ⟨h, rfl⟩ | ⟨m, p, rfl, hm4, hm, hp⟩
    · rw [if_pos rfl]
      rcases hv with ⟨_, rfl⟩ | ⟨p, hp, _⟩
      · exact ⟨_, rfl, rfl⟩
      · have := hp.1
        rw [h] at this
        cases this
    · rw [if_neg (show ¬ nI m = (-1 : Int32) from of_eq_false (nI_m_F (by omega)))]
      rcases hv with ⟨hn, _⟩ | ⟨p', hp', rfl⟩
      · have := hp.1
        rw [hn] at this
        cases this
      · have e := isF_u hp hp'
        subst e
        have hpb := bA.2 p hp.1
        by_cases z0 : z = 0
        · rw [if_pos z0, if_pos z0, bnd (r_measure hok.1 ht hl hm hm4 hp.1 hpb x y)]
          exact ⟨_, rfl, rfl⟩
        · have hin : ¬ (nI m < 0 ∨ 40320 ≤ (nI m).toNatClampNeg) := by
            rw [nI_cl (by omega)]
            exact fun q => q.elim (nI_pos (by omega)) (by omega)
          rw [if_neg z0, if_neg z0, if_pos hin, nI_cl (by omega), (hl.2 m p hm).2, iI_64 (by omega) (by omega)]
          exact ⟨_, rfl, rfl⟩
theorem stp_19 : st_ok_19 Rel := by
  intro x y z s ⟨A, hok, hc, hr⟩
  have bA : lbd (allA A.1) := all_bd hok.1
  have h7 := hok.1.1
  rcases is_rule x with ⟨q1, q2⟩ | ⟨q1, q2⟩
  · refine ⟨(-2, s), (-2, s), ?_, ?_, rfl, A, hok, hc, hr⟩
    · unfold f_X11_firstJob
      rw [bnd (q1 s), if_pos rfl]
    · unfold f_X12_firstJob
      rw [bnd (q2 s), if_pos rfl]
  rcases ix_W hok.1 z with hy | ⟨w, hw, rfl⟩
  · refine ⟨(-2, s), (-2, s), ?_, ?_, rfl, A, hok, hc, hr⟩
    · unfold f_X11_firstJob
      rw [bnd (q1 s), if_neg n1_0, bnd (hW_out hc.1 hy), if_pos rfl]
    · unfold f_X12_firstJob
      rw [bnd (q2 s), if_neg n1_0, bnd (f_isW_out hok.1 hr.1 hy), if_pos rfl]
  have hin : ¬ (nI w < 0 ∨ 7 ≤ (nI w).toNatClampNeg) := by
    rw [nI_cl (by omega)]
    exact fun q => q.elim (nI_pos (by omega)) (by omega)
  have hv : ∃ v : Int32, (allA A.1 = [] ∧ v = -1) ∨ (∃ p j, isF (fun q => (msO A.1 q x y).toInt) (allA A.1) p ∧ p.1[w]? = some j ∧ v = nI j) := by
    obtain ⟨r, _, h, _⟩ := c_choose hok.1 hc.1 x y
    rcases h with ⟨h, _⟩ | ⟨p, _, hp, _⟩
    · exact ⟨_, Or.inl ⟨h, rfl⟩⟩
    · obtain ⟨j, hj⟩ := row_get (all_row hp.1).1 hw
      exact ⟨_, Or.inr ⟨p, j, hp, hj, rfl⟩⟩
  obtain ⟨v, hv⟩ := hv
  refine st_q (f1 := f_X11_firstJob x y (nI w)) (f2 := f_X12_firstJob x y (nI w)) v hok hc hr (fun hc => ?_) (lo_X11_firstJob _ _ _) (cF_X11_firstJob _ _ _) (fun s1 hr1 => ?_) (hi_X12_firstJob _ _ _) (rF_X12_firstJob _ _ _)
  · obtain ⟨⟨r1, s2⟩, e2, h, hg2⟩ := c_choose hok.1 hc.1 x y
    simp only at h hg2
    unfold f_X11_firstJob
    rw [bnd (q1 s), if_neg n1_0, bnd (hW_in h7 hc.1 hw), if_neg n1_0, bnd e2]
    rcases h with ⟨h, rfl⟩ | ⟨p, rfl, hp, hrow⟩
    · rw [if_pos rfl]
      rcases hv with ⟨_, rfl⟩ | ⟨p, j, hp, _⟩
      · exact ⟨_, rfl, rfl⟩
      · have := hp.1
        rw [h] at this
        cases this
    · rw [if_neg n1_0, if_pos hin, nI_cl (by omega)]
      rcases hv with ⟨hn, _⟩ | ⟨p', j, hp', hj, rfl⟩
      · have := hp.1
        rw [hn] at this
        cases this
      · have e := isF_u hp hp'
        subst e
        exact ⟨_, rfl, hrow w j hj⟩
  · obtain ⟨⟨r1, s2⟩, e2, hl, ht, h⟩ := r_by hok hr1 x y
    simp only at hl ht h
    unfold f_X12_firstJob
    rw [bnd (q2 s1), if_neg n1_0, bnd (f_isW_in hok.1 hr1.1 hw), if_neg n1_0, bnd e2]
    rcases h with ⟨h, rfl⟩ | ⟨m, p, rfl, hm4, hm, hp⟩
    · rw [if_pos rfl]
      rcases hv with ⟨_, rfl⟩ | ⟨p, j, hp, _⟩
      · exact ⟨_, rfl, rfl⟩
      · have := hp.1
        rw [h] at this
        cases this
    · rw [if_neg (show ¬ nI m = (-1 : Int32) from of_eq_false (nI_m_F (by omega)))]
      rcases hv with ⟨hn, _⟩ | ⟨p', j, hp', hj, rfl⟩
      · have := hp.1
        rw [hn] at this
        cases this
      · have e := isF_u hp hp'
        subst e
        have hrow := all_row hp.1
        rw [bnd (r_job hok.1 ht hl hm hm4 hrow.1 hrow.2 hj)]
        exact ⟨_, rfl, rfl⟩
