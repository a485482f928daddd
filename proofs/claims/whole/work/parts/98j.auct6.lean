theorem is_step (x : Int32) : ((∀ s, f_X11_isStep x s = some (0, s)) ∧ ∀ s, f_X12_in x.toInt64 1 99 s = some (0, s)) ∨ ((∀ s, f_X11_isStep x s = some (1, s)) ∧ ∀ s, f_X12_in x.toInt64 1 99 s = some (1, s)) := by
  have e1 : (1 : Int64) = (1 : Int32).toInt64 := by decide
  have e9 : (99 : Int64) = (99 : Int32).toInt64 := by decide
  unfold f_X11_isStep f_X12_in
  rw [e1, e9]
  by_cases h1 : x < 1
  · refine Or.inl ⟨fun s => if_pos h1, fun s => if_pos ((i64_lt x 1).mpr h1)⟩
  · by_cases h2 : 99 < x
    · refine Or.inl ⟨fun s => ?_, fun s => ?_⟩
      · rw [if_neg h1, if_pos h2]
      · rw [if_neg (fun q => h1 ((i64_lt x 1).mp q)), if_pos ((i64_lt 99 x).mpr h2)]
    · refine Or.inr ⟨fun s => ?_, fun s => ?_⟩
      · rw [if_neg h1, if_neg h2]
      · rw [if_neg (fun q => h1 ((i64_lt x 1).mp q)), if_neg (fun q => h2 ((i64_lt 99 x).mp q))]
theorem stp_25 : st_ok_25 Rel := by
  intro x y s ⟨A, hok, hc, hr⟩
  have h7 := hok.1.1
  rcases is_step x with ⟨q1, q2⟩ | ⟨q1, q2⟩
  · refine ⟨(-2, s), (-2, s), ?_, ?_, rfl, A, hok, hc, hr⟩
    · unfold f_X11_auctionJob
      rw [bnd (q1 s), if_pos rfl]
    · unfold f_X12_auctionJob
      rw [bnd (q2 s), if_pos rfl]
  rcases ix_W hok.1 y with hy | ⟨w, hw, rfl⟩
  · refine ⟨(-2, s), (-2, s), ?_, ?_, rfl, A, hok, hc, hr⟩
    · unfold f_X11_auctionJob
      rw [bnd (q1 s), if_neg n1_0, bnd (hW_out hc.1 hy), if_pos rfl]
    · unfold f_X12_auctionJob
      rw [bnd (q2 s), if_neg n1_0, bnd (f_isW_out hok.1 hr.1 hy), if_pos rfl]
  have hin : ¬ (nI w < 0 ∨ 7 ≤ (nI w).toNatClampNeg) := by
    rw [nI_cl (by omega)]
    exact fun q => q.elim (nI_pos (by omega)) (by omega)
  refine st_q (f1 := f_X11_auctionJob x (nI w)) (f2 := f_X12_auctionJob x (nI w)) (oN ((auE A.1 x).2.1 w)) hok hc hr (fun hc => ?_) (lo_X11_auctionJob _ _) (cF_X11_auctionJob _ _) (fun s1 hr1 => ?_) (hi_X12_auctionJob _ _) (rF_X12_auctionJob _ _)
  · obtain ⟨s2, e2, hG, _, _⟩ := c_hold hok.1 hc.1 x
    refine ⟨(rA s2 51 w, s2), ?_, hG.1 w hw⟩
    unfold f_X11_auctionJob
    rw [bnd (q1 s), if_neg n1_0, bnd (hW_in h7 hc.1 hw), if_neg n1_0, bnd e2, if_pos hin, nI_cl (by omega)]
  · obtain ⟨s2, e2, hG, _⟩ := r_auct hok.1 hr1.1 x
    refine ⟨(rA s2 67 w, s2), ?_, (hG.1 w hw).1⟩
    unfold f_X12_auctionJob
    rw [bnd (q2 s1), if_neg n1_0, bnd (f_isW_in hok.1 hr1.1 hw), if_neg n1_0, bnd e2, if_pos hin, nI_cl (by omega)]
theorem stp_24 : st_ok_24 Rel := by
  intro x y s ⟨A, hok, hc, hr⟩
  have h8 := hok.1.2.1
  rcases is_step x with ⟨q1, q2⟩ | ⟨q1, q2⟩
  · refine ⟨(-2, s), (-2, s), ?_, ?_, rfl, A, hok, hc, hr⟩
    · unfold f_X11_auctionPrice
      rw [bnd (q1 s), if_pos rfl]
    · unfold f_X12_auctionPrice
      rw [bnd (q2 s), if_pos rfl]
  rcases ix_J hok.1 y with hy | ⟨w, hw, rfl⟩
  · refine ⟨(-2, s), (-2, s), ?_, ?_, rfl, A, hok, hc, hr⟩
    · unfold f_X11_auctionPrice
      rw [bnd (q1 s), if_neg n1_0, bnd (hJ_out hc.1 hy), if_pos rfl]
    · unfold f_X12_auctionPrice
      rw [bnd (q2 s), if_neg n1_0, bnd (f_isJ_out hok.1 hr.1 hy), if_pos rfl]
  have hin : ¬ (nI w < 0 ∨ 8 ≤ (nI w).toNatClampNeg) := by
    rw [nI_cl (by omega)]
    exact fun q => q.elim (nI_pos (by omega)) (by omega)
  refine st_q (f1 := f_X11_auctionPrice x (nI w)) (f2 := f_X12_auctionPrice x (nI w)) ((auE A.1 x).2.2.2 w).toInt32 hok hc hr (fun hc => ?_) (lo_X11_auctionPrice _ _) (cF_X11_auctionPrice _ _) (fun s1 hr1 => ?_) (hi_X12_auctionPrice _ _) (rF_X12_auctionPrice _ _)
  · obtain ⟨s2, e2, hG, _, _⟩ := c_hold hok.1 hc.1 x
    refine ⟨((rB s2 50 w).toInt32, s2), ?_, congrArg Int64.toInt32 (hG.2.2.2.2 w (by omega))⟩
    unfold f_X11_auctionPrice
    rw [bnd (q1 s), if_neg n1_0, bnd (hJ_in h8 hc.1 hw), if_neg n1_0, bnd e2, if_pos hin, nI_cl (by omega)]
  · obtain ⟨s2, e2, hG, _⟩ := r_auct hok.1 hr1.1 x
    refine ⟨((rB s2 68 w).toInt32, s2), ?_, congrArg Int64.toInt32 (hG.2.2.2 w (by omega))⟩
    unfold f_X12_auctionPrice
    rw [bnd (q2 s1), if_neg n1_0, bnd (f_isJ_in hok.1 hr1.1 hw), if_neg n1_0, bnd e2, if_pos hin, nI_cl (by omega)]
theorem in_2k (x : Int32) : x = 0 ∨ x = 1 ∨ x = 2 ∨ ((x < 0 ∨ ¬ x ≤ 2) ∧ ∀ s, f_X12_in x.toInt64 0 2 s = some (0, s)) := by
  by_cases z0 : x = 0
  · exact Or.inl z0
  · by_cases z1 : x = 1
    · exact Or.inr (Or.inl z1)
    · by_cases z2 : x = 2
      · exact Or.inr (Or.inr (Or.inl z2))
      · have a0 : x.toInt ≠ 0 := fun q => z0 (Int32.toInt_inj.mp q)
        have a1 : x.toInt ≠ 1 := fun q => z1 (Int32.toInt_inj.mp q)
        have a2 : x.toInt ≠ 2 := fun q => z2 (Int32.toInt_inj.mp q)
        refine Or.inr (Or.inr (Or.inr ⟨?_, fun s => ?_⟩))
        · rw [Int32.lt_iff_toInt_lt, Int32.le_iff_toInt_le, show (0 : Int32).toInt = 0 by decide, show (2 : Int32).toInt = 2 by decide]
          omega
        · have e : (2 : Int64) = (2 : Int32).toInt64 := by decide
          rw [e, f_in0, if_pos]
          rw [Int32.lt_iff_toInt_lt, Int32.lt_iff_toInt_lt, show (0 : Int32).toInt = 0 by decide, show (2 : Int32).toInt = 2 by decide]
          omega
theorem stp_23 : st_ok_23 Rel := by
  intro x y s ⟨A, hok, hc, hr⟩
  have h7 := hok.1.1
  rcases is_step x with ⟨q1, q2⟩ | ⟨q1, q2⟩
  · refine ⟨(-9223372036854775808, s), (-9223372036854775808, s), ?_, ?_, rfl, A, hok, hc, hr⟩
    · unfold f_X11_auction
      rw [bnd (q1 s), if_pos rfl]
    · unfold f_X12_auction
      rw [bnd (q2 s), if_pos rfl]
  obtain ⟨_, _, _, _, hI⟩ := c_hold hok.1 hc.1 x
  have hcnt := hI.2.2.2
  have hv : ∃ v : Int64, (y = 0 ∧ v = (nI (auE A.1 x).1).toInt64) ∨ (y = 1 ∧ v = (if (auE A.1 x).2.2.1.length = 0 then 1 else 0)) ∨ (y = 2 ∧ v = jJ (smN A.1 (auE A.1 x).2.1 A.1.1)) ∨ (((y < 0 ∨ ¬ y ≤ 2) ∧ ∀ s, f_X12_in y.toInt64 0 2 s = some (0, s)) ∧ v = -9223372036854775808) := by
    rcases in_2k y with q | q | q | q
    · exact ⟨_, Or.inl ⟨q, rfl⟩⟩
    · exact ⟨_, Or.inr (Or.inl ⟨q, rfl⟩)⟩
    · exact ⟨_, Or.inr (Or.inr (Or.inl ⟨q, rfl⟩))⟩
    · exact ⟨_, Or.inr (Or.inr (Or.inr ⟨q, rfl⟩))⟩
  obtain ⟨v, hv⟩ := hv
  refine st_q (f1 := f_X11_auction x y) (f2 := f_X12_auction x y) v hok hc hr (fun hc => ?_) (lo_X11_auction _ _) (cF_X11_auction _ _) (fun s1 hr1 => ?_) (hi_X12_auction _ _) (rF_X12_auction _ _)
  · obtain ⟨s2, e2, hG, hg2, _⟩ := c_hold hok.1 hc.1 x
    have hl : (auE A.1 x).2.2.1.length ≤ 7 := by omega
    unfold f_X11_auction
    rcases hv with ⟨rfl, rfl⟩ | ⟨rfl, rfl⟩ | ⟨rfl, rfl⟩ | ⟨⟨z, _⟩, rfl⟩
    · rw [bnd (q1 s), if_neg n1_0, if_neg (by decide), if_pos (by decide), bnd e2, if_pos rfl, hG.2.2.2.1]
      exact ⟨_, rfl, rfl⟩
    · rw [bnd (q1 s), if_neg n1_0, if_neg (by decide), if_pos (by decide), bnd e2, if_neg n1_0, if_neg (by decide), hG.2.2.1]
      by_cases z : (auE A.1 x).2.2.1.length = 0
      · rw [if_pos z, z, if_pos (show nI 0 = 0 from rfl)]
        exact ⟨_, rfl, rfl⟩
      · rw [if_neg z, if_neg (show ¬ nI (auE A.1 x).2.2.1.length = 0 from of_eq_false (nI_eq_F (b := 0) z (by omega) (by omega)))]
        exact ⟨_, rfl, rfl⟩
    · rw [bnd (q1 s), if_neg n1_0, if_neg (by decide), if_pos (by decide), bnd e2, if_neg (by decide), if_pos rfl, bnd (c_total hok.1 hg2 hG.1 hI.2.2.1)]
      exact ⟨_, rfl, rfl⟩
    · rw [bnd (q1 s), if_neg n1_0]
      rcases z with z | z
      · rw [if_pos z]
        exact ⟨_, rfl, rfl⟩
      · by_cases z2 : y < 0
        · rw [if_pos z2]
          exact ⟨_, rfl, rfl⟩
        · rw [if_neg z2, if_neg z]
          exact ⟨_, rfl, rfl⟩
  · obtain ⟨s2, e2, hG, ht⟩ := r_auct hok.1 hr1.1 x
    have hl : (auE A.1 x).2.2.1.length ≤ 7 := by omega
    unfold f_X12_auction
    rcases hv with ⟨rfl, rfl⟩ | ⟨rfl, rfl⟩ | ⟨rfl, rfl⟩ | ⟨⟨_, z⟩, rfl⟩
    · have e0 : f_X12_in (0 : Int32).toInt64 0 2 s1 = some (1, s1) := rfl
      rw [bnd (q2 s1), if_neg n1_0, bnd e0, if_neg n1_0, bnd e2, if_pos rfl, hG.2.2.1]
      exact ⟨_, rfl, rfl⟩
    · have e0 : f_X12_in (1 : Int32).toInt64 0 2 s1 = some (1, s1) := rfl
      rw [bnd (q2 s1), if_neg n1_0, bnd e0, if_neg n1_0, bnd e2, if_neg n1_0, if_pos rfl, bnd (r_hasMany hok.1 ht hG.1), bnd (f_wk ht)]
      by_cases z : (auE A.1 x).2.2.1.length = 0
      · rw [if_pos z, if_pos (show nI (nnN (auE A.1 x).2.1 A.1.1) = nI A.1.1 by rw [show nnN (auE A.1 x).2.1 A.1.1 = A.1.1 by omega])]
        exact ⟨_, rfl, rfl⟩
      · rw [if_neg z, if_neg (show ¬ nI (nnN (auE A.1 x).2.1 A.1.1) = nI A.1.1 from of_eq_false (nI_eq_F (by omega) (by omega) (by omega)))]
        exact ⟨_, rfl, rfl⟩
    · have e0 : f_X12_in (2 : Int32).toInt64 0 2 s1 = some (1, s1) := rfl
      rw [bnd (q2 s1), if_neg n1_0, bnd e0, if_neg n1_0, bnd e2, if_neg (by decide), if_neg (by decide), bnd (r_hasSum hok.1 ht hG.1 hI.2.2.1)]
      exact ⟨_, rfl, rfl⟩
    · rw [bnd (q2 s1), if_neg n1_0, bnd (z s1), if_pos rfl]
      exact ⟨_, rfl, rfl⟩
