theorem r_scan {T : tb} {h : hs} {s : sx_M} (hT : tb_ok T) (hg : tabIs 59 0 T s) (hh : hR T h s) : whT f_X12_laysGreedy_L34 (-1, -1, 0, s) = some (rb1 (bsA T h T.1), rb2 (bsA T h T.1), s) := by
  have h7 := hT.1
  have h8 := hT.2.1
  refine wh_for (fun i => (rb1 (bsA T h i), rb2 (bsA T h i), nI i, s)) T.1 (fun i hi => ?_) ?_ rfl
  · have hL : whT (f_X12_laysGreedy_L46 (nI i)) (rb1 (bsA T h i), rb2 (bsA T h i), 0, s) = some (rb1 (bsA T h (i + 1)), rb2 (bsA T h (i + 1)), s) := by
      refine wh_for (fun j => (rb1 (bsR T h i (bsA T h i) j), rb2 (bsR T h i (bsA T h i) j), nI j, s)) T.2.1 (fun j hj => ?_) ?_ rfl
      · exact r_cell hT hg hh (bsR_ok hi (bsA_ok i (by omega)) j (by omega)) hi hj
      · simp only [f_X12_laysGreedy_L46]
        rw [bnd (f_jb hg), if_pos (show nI T.2.1 ≤ nI T.2.1 from nI_le (Nat.le_refl _) (by omega))]
        rfl
    simp only [f_X12_laysGreedy_L34]
    rw [bnd (f_wk hg), if_neg (show ¬ nI T.1 ≤ nI i from nI_ge hi (by omega)), bnd hL, nI_1]
  · simp only [f_X12_laysGreedy_L34]
    rw [bnd (f_wk hg), if_pos (show nI T.1 ≤ nI T.1 from nI_le (Nat.le_refl _) (by omega))]
theorem r_none {T : tb} {h : hs} {s : sx_M} (hT : tb_ok T) (hg : tabIs 59 0 T s) (hh : hR T h s) (hb : bsA T h T.1 = none) : whT f_X12_laysGreedy_L23 (1, s) = some s := by
  have a1 : f_X12_laysGreedy_L23 (1, s) = some (.inl (0, s)) := by
    simp only [f_X12_laysGreedy_L23, f_X12_laysGreedy_L23_J150]
    rw [if_neg n1_0, bnd (r_scan hT hg hh), hb, if_pos (show rb1 none = -1 from rfl)]
    exact if_pos trivial
  have a2 : f_X12_laysGreedy_L23 (0, s) = some (.inr s) := by
    unfold f_X12_laysGreedy_L23
    exact if_pos rfl
  rw [whT_eq, a1]
  show whT _ _ = _
  rw [whT_eq, a2]
  rfl
theorem r_lays {T : tb} (hT : tb_ok T) : ∀ (n : Nat) (h : hs) (s : sx_M), T.1 = nnN h T.1 + n → tabIs 59 0 T s → hR T h s → Ev (whT f_X12_laysGreedy_L23 (1, s)) (fun s' => hR T (gr T n h) s' ∧ sx_eq (Dar 67) s s') := by
  have h7 := hT.1
  have h8 := hT.2.1
  intro n
  induction n with
  | zero =>
    intro h s hn hg hh
    have hb := bs_all (T := T) (nn_all (h := h) T.1 (by omega)) T.1 (Nat.le_refl _)
    exact ⟨s, r_none hT hg hh hb, hh, sx_rf _ _⟩
  | succ n ih =>
    intro h s hn hg hh
    cases hb : bsA T h T.1 with
    | none => exact ⟨s, r_none hT hg hh hb, by rw [gr_n (n + 1) hb]; exact hh, sx_rf _ _⟩
    | some c =>
      obtain ⟨w, j, x⟩ := c
      obtain ⟨a1, a2, a3, a4, a5⟩ := bsA_ok (T := T) (h := h) T.1 (Nat.le_refl _) w j x hb
      have hin : ¬ (nI w < 0 ∨ 7 ≤ (nI w).toNatClampNeg) := by
        rw [nI_cl (by omega)]
        exact fun q => q.elim (nI_pos (by omega)) (by omega)
      have hst : f_X12_laysGreedy_L23 (1, s) = some (.inl (1, wA s 67 w (nI j))) := by
        have e1 : rb1 (some (w, j, x)) = nI w := rfl
        have e2 : rb2 (some (w, j, x)) = nI j := rfl
        simp only [f_X12_laysGreedy_L23, f_X12_laysGreedy_L23_J150]
        rw [if_neg n1_0, bnd (r_scan hT hg hh), hb, e1, e2, if_neg (oN_n1 w (by omega)), if_neg n1_0, if_pos hin, nI_cl (by omega)]
      have hx : sx_eq (Dar 67) s (wA s 67 w (nI j)) := sx_wA' (sx_rf _ _) rfl
      have hh2 : hR T (up h w j) (wA s 67 w (nI j)) := by
        intro v hv
        by_cases z : v = w
        · rw [z, up_w, rA_T ⟨rfl, rfl⟩]
          exact ⟨rfl, fun i hi => by cases hi; omega⟩
        · rw [up_o z, rA_F (by omega)]
          exact hh v hv
      have hnn := nn_up (j := j) a4 T.1
      rw [if_pos a1] at hnn
      obtain ⟨r, e, hr, hx2⟩ := ih (up h w j) _ (by omega) (tab_eq hx (by simp only [Dar]; omega) hg) hh2
      refine ⟨r, ?_, by rw [gr_s hb]; exact hr, sx_tr hx hx2⟩
      rw [whT_eq, hst]
      exact e
theorem r_greedy {T : tb} {s : sx_M} (hT : tb_ok T) (hg : tabIs 59 0 T s) : Ev (f_X12_laysGreedy s) (fun s' => hR T (gr T T.1 h0) s' ∧ sx_eq (Dar 67) s s') := by
  have h7 := hT.1
  have i1 : Ev (whT f_X12_laysGreedy_L2 (0, s)) (fun s' => (∀ w, w < 7 → rA s' 67 w = -1) ∧ sx_eq (Dar 67) s s') := by
    refine ev_f (fun (i : Nat) (a : Int32 × sx_M) => a.1 = nI i ∧ (∀ w, w < i → rA a.2 67 w = -1) ∧ sx_eq (Dar 67) s a.2) 7 ?_ ?_ (i := 0) (by omega) ⟨rfl, fun w hw => by omega, sx_rf _ _⟩
    · rintro i ⟨a1, s1⟩ hi ⟨ea, b1, b2⟩
      simp only at ea b1 b2
      subst ea
      have hin : ¬ (nI i < 0 ∨ 7 ≤ (nI i).toNatClampNeg) := by
        rw [nI_cl (by omega)]
        exact fun q => q.elim (nI_pos (by omega)) (by omega)
      refine ⟨.inl (nI (i + 1), wA s1 67 i (-1)), ?_, rfl, fun w hw => ?_, sx_wA' b2 rfl⟩
      · simp only [f_X12_laysGreedy_L2]
        rw [if_neg (show ¬ 7 ≤ nI i from of_eq_false (nI_le_F (a := 7) hi (by omega))), if_pos hin, nI_cl (by omega), nI_1]
      · show rA (wA s1 67 i (-1)) 67 w = -1
        by_cases z : w = i
        · exact rA_T ⟨rfl, z⟩
        · rw [rA_F (by omega)]; exact b1 w (by omega)
    · rintro ⟨a1, s1⟩ ⟨ea, b1, b2⟩
      simp only at ea b1 b2
      subst ea
      refine ⟨.inr s1, ?_, b1, b2⟩
      simp only [f_X12_laysGreedy_L2]
      rw [if_pos (show 7 ≤ nI 7 by decide)]
  obtain ⟨s1, e1, c1, x1⟩ := i1
  obtain ⟨s2, e2, hr, x2⟩ := r_lays hT T.1 h0 s1 (by rw [nn_0]; omega) (tab_eq x1 (by simp only [Dar]; omega) hg) (fun w hw => ⟨c1 w (by omega), fun j hj => by cases hj⟩)
  refine ⟨s2, ?_, hr, sx_tr x1 x2⟩
  unfold f_X12_laysGreedy
  rw [bnd e1, bnd e2]
def gok (T : tb) (h : hs) : Prop := ∀ w j, w < T.1 → h w = some j → j < T.2.1 ∧ ∃ x, T.2.2 w j = some x
theorem grd_ok {T : tb} : ∀ n h, gok T h → gok T (gr T n h)
  | 0, _, hh => hh
  | n + 1, h, hh => by
    cases hb : bsA T h T.1 with
    | none => rw [gr_n (n + 1) hb]; exact hh
    | some c =>
      obtain ⟨w, j, x⟩ := c
      obtain ⟨a1, a2, a3, a4, a5⟩ := bsA_ok (T := T) (h := h) T.1 (Nat.le_refl _) w j x hb
      rw [gr_s hb]
      refine grd_ok n _ (fun v k hv hk => ?_)
      by_cases z : v = w
      · rw [z, up_w] at hk
        cases hk
        rw [z]
        exact ⟨a2, x, a3⟩
      · rw [up_o z] at hk
        exact hh v k hv hk
theorem r_hasSum {T : tb} {h : hs} {s : sx_M} (hT : tb_ok T) (hg : tabIs 59 0 T s) (hh : hR T h s) (hk : gok T h) : f_X12_hasSum s = some (jJ (smN T h T.1), s) := by
  have h7 := hT.1
  have hL : whT f_X12_hasSum_L4 (0, 0, s) = some (jJ (smN T h T.1), s) := by
    refine wh_for (fun i => (jJ (smN T h i), nI i, s)) T.1 (fun i hi => ?_) ?_ rfl
    · have hin : ¬ (nI i < 0 ∨ 7 ≤ (nI i).toNatClampNeg) := by
        rw [nI_cl (by omega)]
        exact fun q => q.elim (nI_pos (by omega)) (by omega)
      simp only [f_X12_hasSum_L4, f_X12_hasSum_L4_J39]
      rw [bnd (f_wk hg), if_neg (show ¬ nI T.1 ≤ nI i from nI_ge hi (by omega)), if_pos hin, if_pos hin, nI_cl (by omega), (hh i hi).1, nI_1]
      cases hj : h i with
      | none =>
        rw [if_pos (show oN none = -1 from rfl)]
        have : smN T h (i + 1) = smN T h i := by
          conv => lhs; unfold smN
          rw [hj]
          exact Int.add_zero _
        rw [this, Int64.add_zero]
      | some j =>
        obtain ⟨b1, x, b2⟩ := hk i j hi hj
        have hxb := hT.2.2.1 _ _ x b2
        have hco := f_cost_in hT hg hi b1
        rw [b2] at hco
        have hco' : f_X12_costOf (nI i) (oN (some j)) s = some (c32 (some x), s) := hco
        rw [if_neg (show ¬ oN (some j) = -1 from oN_n1 j ((hh i hi).2 j hj)), bnd hco']
        have : smN T h (i + 1) = smN T h i + x := by
          conv => lhs; unfold smN
          rw [hj]
          simp [b2]
        rw [this, c32_s, iI_64 (by omega) (by omega), jJ_add]
    · simp only [f_X12_hasSum_L4]
      rw [bnd (f_wk hg), if_pos (show nI T.1 ≤ nI T.1 from nI_le (Nat.le_refl _) (by omega))]
  unfold f_X12_hasSum
  rw [bnd hL]
theorem r_hasMany {T : tb} {h : hs} {s : sx_M} (hT : tb_ok T) (hg : tabIs 59 0 T s) (hh : hR T h s) : f_X12_hasMany s = some (nI (nnN h T.1), s) := by
  have h7 := hT.1
  have hL : whT f_X12_hasMany_L4 (0, 0, s) = some (nI (nnN h T.1), s) := by
    refine wh_for (fun i => (nI (nnN h i), nI i, s)) T.1 (fun i hi => ?_) ?_ rfl
    · have hin : ¬ (nI i < 0 ∨ 7 ≤ (nI i).toNatClampNeg) := by
        rw [nI_cl (by omega)]
        exact fun q => q.elim (nI_pos (by omega)) (by omega)
      simp only [f_X12_hasMany_L4, f_X12_hasMany_L4_J28]
      rw [bnd (f_wk hg), if_neg (show ¬ nI T.1 ≤ nI i from nI_ge hi (by omega)), if_pos hin, nI_cl (by omega), (hh i hi).1]
      cases hj : h i with
      | none =>
        have : nnN h (i + 1) = nnN h i := by
          conv => lhs; unfold nnN
          rw [if_pos hj, Nat.add_zero]
        rw [if_pos (show oN none = -1 from rfl), this, Int32.add_zero, nI_1]
      | some j =>
        have : nnN h (i + 1) = nnN h i + 1 := by
          conv => lhs; unfold nnN
          rw [if_neg (by rw [hj]; simp)]
        rw [if_neg (show ¬ oN (some j) = -1 from oN_n1 j ((hh i hi).2 j hj)), this, nI_1, nI_1]
    · simp only [f_X12_hasMany_L4]
      rw [bnd (f_wk hg), if_pos (show nI T.1 ≤ nI T.1 from nI_le (Nat.le_refl _) (by omega))]
  unfold f_X12_hasMany
  rw [bnd hL]
theorem stp_21 : st_ok_21 Rel := by
  intro x s ⟨A, hok, hc, hr⟩
  have h7 := hok.1.1
  rcases ix_W hok.1 x with hx | ⟨w, hw, rfl⟩
  · refine ⟨(-2, s), (-2, s), ?_, ?_, rfl, A, hok, hc, hr⟩
    · unfold f_X11_greedyJob
      rw [bnd (hW_out hc.1 hx), if_pos rfl]
    · unfold f_X12_greedyJob
      rw [bnd (f_isW_out hok.1 hr.1 hx), if_pos rfl]
  have hin : ¬ (nI w < 0 ∨ 7 ≤ (nI w).toNatClampNeg) := by
    rw [nI_cl (by omega)]
    exact fun q => q.elim (nI_pos (by omega)) (by omega)
  refine st_q (f1 := f_X11_greedyJob (nI w)) (f2 := f_X12_greedyJob (nI w)) (oN (gr A.1 A.1.1 h0 w)) hok hc hr (fun hc => ?_) (lo_X11_greedyJob _) (cF_X11_greedyJob _) (fun s1 hr1 => ?_) (hi_X12_greedyJob _) (rF_X12_greedyJob _)
  · obtain ⟨s2, e2, hG⟩ := c_take hok.1 hc.1
    refine ⟨(rA s2 47 w, s2), ?_, (hG.1.1 w hw).1⟩
    unfold f_X11_greedyJob
    rw [bnd (hW_in h7 hc.1 hw), if_neg n1_0, bnd e2, if_pos hin, nI_cl (by omega)]
  · obtain ⟨s2, e2, hG, _⟩ := r_greedy hok.1 hr1.1
    refine ⟨(rA s2 67 w, s2), ?_, (hG w hw).1⟩
    unfold f_X12_greedyJob
    rw [bnd (f_isW_in hok.1 hr1.1 hw), if_neg n1_0, bnd e2, if_pos hin, nI_cl (by omega)]
theorem stp_20 : st_ok_20 Rel := by
  intro x s ⟨A, hok, hc, hr⟩
  have h7 := hok.1.1
  have hgk : gok A.1 (gr A.1 A.1.1 h0) := grd_ok _ _ (fun w j _ h => by cases h)
  have hv : ∃ v : Int64, (x = 0 ∧ v = jJ (smN A.1 (gr A.1 A.1.1 h0) A.1.1)) ∨ (x = 1 ∧ v = (nI (nnN (gr A.1 A.1.1 h0) A.1.1)).toInt64) ∨ (x ≠ 0 ∧ x ≠ 1 ∧ v = -9223372036854775808) := by
    by_cases z0 : x = 0
    · exact ⟨_, Or.inl ⟨z0, rfl⟩⟩
    · by_cases z1 : x = 1
      · exact ⟨_, Or.inr (Or.inl ⟨z1, rfl⟩)⟩
      · exact ⟨_, Or.inr (Or.inr ⟨z0, z1, rfl⟩)⟩
  obtain ⟨v, hv⟩ := hv
  refine st_q (f1 := f_X11_greedy x) (f2 := f_X12_greedy x) v hok hc hr (fun hc => ?_) (lo_X11_greedy _) (cF_X11_greedy _) (fun s1 hr1 => ?_) (hi_X12_greedy _) (rF_X12_greedy _)
  · obtain ⟨s2, e2, hG⟩ := c_take hok.1 hc.1
    unfold f_X11_greedy
    rcases hv with ⟨rfl, rfl⟩ | ⟨rfl, rfl⟩ | ⟨z0, z1, rfl⟩
    · rw [if_neg (by decide), if_pos (by decide), bnd e2, if_pos rfl, hG.2.1]
      exact ⟨_, rfl, rfl⟩
    · rw [if_neg (by decide), if_pos (by decide), bnd e2, if_neg n1_0, hG.2.2]
      exact ⟨_, rfl, rfl⟩
    · by_cases y : x < 0
      · rw [if_pos y]; exact ⟨_, rfl, rfl⟩
      · rw [if_neg y, if_neg (fun q => by
          rw [Int32.lt_iff_toInt_lt, show (0 : Int32).toInt = 0 by decide] at y
          rw [Int32.le_iff_toInt_le, show (1 : Int32).toInt = 1 by decide] at q
          have a0 : x.toInt ≠ 0 := fun q => z0 (Int32.toInt_inj.mp q)
          have a1 : x.toInt ≠ 1 := fun q => z1 (Int32.toInt_inj.mp q)
          omega)]
        exact ⟨_, rfl, rfl⟩
  · obtain ⟨s2, e2, hG, x2⟩ := r_greedy hok.1 hr1.1
    have ht := tab_eq x2 (by simp only [Dar]; omega) hr1.1
    unfold f_X12_greedy
    rw [bnd e2]
    rcases hv with ⟨rfl, rfl⟩ | ⟨rfl, rfl⟩ | ⟨z0, z1, rfl⟩
    · rw [if_pos rfl, bnd (r_hasSum hok.1 ht hG hgk)]
      exact ⟨_, rfl, rfl⟩
    · rw [if_neg n1_0, if_pos rfl, bnd (r_hasMany hok.1 ht hG)]
      exact ⟨_, rfl, rfl⟩
    · rw [if_neg z0, if_neg z1]
      exact ⟨_, rfl, rfl⟩
