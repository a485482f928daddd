theorem stp_32 : st_ok_32 Rel := by
  intro x y z s ⟨A, hok, hc, hr⟩
  have bA : lbd (allA A.1) := all_bd hok.1
  have h40 := bA.1
  have h7 := hok.1.1
  have h8 := hok.1.2.1
  have hlen := f200_len A.1
  rcases ix_W hok.1 x with hx | ⟨w, hw, rfl⟩
  · refine ⟨(-2, s), (-2, s), ?_, ?_, rfl, A, hok, hc, hr⟩
    · unfold f_X11_often
      rw [bnd (f_has_out hc.1 (hx.elim Or.inl (fun q => Or.inr (Or.inl q)))), if_pos rfl]
    · unfold f_X12_often
      rw [bnd (f_isW_out hok.1 hr.1 hx), if_pos rfl]
  rcases ix_J hok.1 y with hy | ⟨j, hj, rfl⟩
  · refine ⟨(-2, s), (-2, s), ?_, ?_, rfl, A, hok, hc, hr⟩
    · unfold f_X11_often
      rw [bnd (f_has_out hc.1 (hy.elim (fun q => Or.inr (Or.inr (Or.inl q))) (fun q => Or.inr (Or.inr (Or.inr q))))), if_pos rfl]
    · unfold f_X12_often
      rw [bnd (f_isW_in hok.1 hr.1 hw), if_neg n1_0, bnd (f_isJ_out hok.1 hr.1 hy), if_pos rfl]
  rcases in_200 z s with ⟨hz, ei⟩ | ⟨n, hn1, hn2, rfl, _⟩
  · refine ⟨(-2, s), (-2, s), ?_, ?_, rfl, A, hok, hc, hr⟩
    · unfold f_X11_often
      rw [bnd (f_has_in hok.1 hc.1 hw hj), if_neg n1_0]
      by_cases h1 : z < 1
      · rw [if_pos h1]
      · rw [if_neg h1, if_neg (Int32.not_le.mpr (hz.resolve_left h1))]
    · unfold f_X12_often
      rw [bnd (f_isW_in hok.1 hr.1 hw), if_neg n1_0, bnd (f_isJ_in hok.1 hr.1 hj), if_neg n1_0, bnd ei, if_pos rfl]
  have hN : min n (f200 A.1).length ≤ n := Nat.min_le_left _ _
  have hN2 : min n (f200 A.1).length ≤ (f200 A.1).length := Nat.min_le_right _ _
  have hN3 : n ≤ min n (f200 A.1).length ∨ (f200 A.1).length ≤ min n (f200 A.1).length := by omega
  generalize min n (f200 A.1).length = N at hN hN2 hN3
  refine st_o (f1 := f_X11_often (nI w) (nI j) (nI n)) (f2 := f_X12_often (nI w) (nI j) (nI n)) (ofD (f200 A.1) w j N) hok hc hr (fun hc => ?_) (lo_X11_often _ _ _) (cO_X11_often _ _ _) (fun s1 hr1 => ?_) (hi_X12_often _ _ _) (rF_X12_often _ _ _)
  · obtain ⟨t, e1, h4, hl⟩ := f_list hok.1 hc.1 hc.2.1 hc.2.2.1
    have hc1 : clA A t := cl_O (fr_f_X4_list s e1) (fun q => sx_mono q (fun o k z => by simp only [clO] at z ⊢; omega) (fun _ _ _ => trivial) (fun o z => by simp only [clO] at z ⊢; omega) (fun o z => by simp only [clO] at z ⊢; omega)) hc (Or.inr ⟨h4, hl⟩)
    have hL : whT (f_X4_with_L25 (nI j) (nI n) ((3 : Int32) * (nI A.1.1 - (1 : Int32) - nI w))) (0, 0, t) = some (ofD (f200 A.1) w j N, t) := by
      refine wh_for (fun i => (ofD (f200 A.1) w j i, nI i, t)) N (fun i hi => ?_) ?_ rfl
      · have hin : ¬ (nI i < 0 ∨ 200 ≤ (nI i).toNatClampNeg) := by
          rw [nI_cl (by omega)]
          exact fun q => q.elim (nI_pos (by omega)) (by omega)
        obtain ⟨p, hp⟩ : ∃ p, (f200 A.1)[i]? = some p := ⟨(f200 A.1)[i]'(by omega), List.getElem?_eq_getElem (by omega)⟩
        have hpm := f200_mem hp
        obtain ⟨k, hk⟩ := row_get (all_row hpm).1 hw
        have hk8 := (all_row hpm).2 k (List.mem_of_getElem? hk)
        simp only [f_X4_with_L25, hl.1]
        rw [if_neg (show ¬ nI n ≤ nI i from nI_ge (by omega) (by omega)), if_neg (show ¬ nI (f200 A.1).length ≤ nI i from nI_ge (by omega) (by omega)), if_pos hin, nI_cl (by omega), (hl.2 i p hp).1, cod_dg hok.1 hpm hk]
        simp only [ofD]
        rw [hp, Option.map_some, getD_s hk]
        by_cases q : k = j
        · rw [if_pos (show nI k = nI j by rw [q]), if_pos (by rw [q]), nI_1]
        · rw [if_neg (show ¬ nI k = nI j from of_eq_false (nI_eq_F q (by omega) (by omega))), if_neg (fun z => q (Option.some.inj z)), nI_1]
      · simp only [f_X4_with_L25, hl.1]
        by_cases q : n ≤ N
        · rw [if_pos (show nI n ≤ nI N from nI_le q (by omega))]
        · rw [if_neg (show ¬ nI n ≤ nI N from nI_ge (by omega) (by omega)), if_pos (show nI (f200 A.1).length ≤ nI N from nI_le (by omega) (by omega))]
    refine ⟨(ofD (f200 A.1) w j N, t), ?_, rfl, Or.inr ⟨h4, hl⟩⟩
    unfold f_X11_often f_X4_with
    rw [bnd (f_has_in hok.1 hc.1 hw hj), if_neg n1_0, if_neg (show ¬ nI n < 1 from nI_nlt (b := 1) (by omega) (by omega)), if_pos (show nI n ≤ 200 from of_eq_true (nI_le_T (a := n) (b := 200) hn2 (by decide))), bnd e1, hc1.1.1, bnd hL]
    rfl
  · obtain ⟨t, e2, hl, ht, hf⟩ := r_first hok hr1
    have hL : whT (f_X12_often_L41 (nI w) (nI j) (nI n)) (0, 0, t) = some (ofD (f200 A.1) w j N, t) := by
      refine wh_for (fun i => (ofD (f200 A.1) w j i, nI i, t)) N (fun i hi => ?_) ?_ rfl
      · have hin : ¬ (nI i < 0 ∨ 200 ≤ (nI i).toNatClampNeg) := by
          rw [nI_cl (by omega)]
          exact fun q => q.elim (nI_pos (by omega)) (by omega)
        obtain ⟨p, hp⟩ : ∃ p, (f200 A.1)[i]? = some p := ⟨(f200 A.1)[i]'(by omega), List.getElem?_eq_getElem (by omega)⟩
        have rp := all_row (f200_mem hp)
        obtain ⟨k, hk⟩ := row_get rp.1 hw
        have hk8 := rp.2 k (List.mem_of_getElem? hk)
        obtain ⟨m, hm, hmp, hmr⟩ := hf.2 i p hp
        simp only [f_X12_often_L41, f_X12_often_L41_J79, hf.1]
        rw [if_neg (show ¬ nI n ≤ nI i from nI_ge (by omega) (by omega)), if_neg (show ¬ nI (f200 A.1).length ≤ nI i from nI_ge (by omega) (by omega)), if_pos hin, nI_cl (by omega), hmr, bnd (r_job hok.1 ht hl hmp (by omega) rp.1 rp.2 hk)]
        simp only [ofD]
        rw [hp, Option.map_some, getD_s hk]
        by_cases q : k = j
        · rw [if_pos (show nI k = nI j by rw [q]), if_pos (by rw [q]), nI_1]
        · rw [if_neg (show ¬ nI k = nI j from of_eq_false (nI_eq_F q (by omega) (by omega))), if_neg (fun z => q (Option.some.inj z)), nI_1, Int32.add_zero]
      · simp only [f_X12_often_L41, hf.1]
        by_cases q : n ≤ N
        · rw [if_pos (show nI n ≤ nI N from nI_le q (by omega))]
        · rw [if_neg (show ¬ nI n ≤ nI N from nI_ge (by omega) (by omega)), if_pos (show nI (f200 A.1).length ≤ nI N from nI_le (by omega) (by omega))]
    refine ⟨(ofD (f200 A.1) w j N, t), ?_, rfl⟩
    have ei : f_X12_in (nI n).toInt64 1 200 s1 = some (1, s1) := by
      rcases in_200 (nI n) s1 with ⟨hz, _⟩ | ⟨_, _, _, _, h⟩
      · rcases hz with hz | hz
        · exact absurd hz (show ¬ nI n < nI 1 from nI_nlt (by omega) (by omega))
        · exact absurd hz (show ¬ nI 200 < nI n from nI_nlt (by omega) (by omega))
      · exact h
    unfold f_X12_often
    rw [bnd (f_isW_in hok.1 hr1.1 hw), if_neg n1_0, bnd (f_isJ_in hok.1 hr1.1 hj), if_neg n1_0, bnd ei, if_neg n1_0, bnd e2, bnd hL]
