def Dfd : sx_D := (fun o k => o = 58 ∧ k = 4, fun _ _ => False, fun o => o = 61, fun _ => False)
theorem ix20 : ∀ i, i < 20 → nI i / (4 : Int32) = nI (i / 4) ∧ ((24 : Int32) - ((8 : Int32) * (nI i - nI (i / 4) * (4 : Int32)))) = nI (24 - 8 * (i % 4)) := by decide
theorem r_feed {s : sx_M} {n : Nat} (hn : n + 20 ≤ 600) (h1 : rI s 58 4 = nI n) (x1 x2 x3 x4 x5 : Int32) : Ev (f_X12_feed x1 x2 x3 x4 x5 s) (fun p => p.1 = nI (n + 20) ∧ rI p.2 58 4 = nI (n + 20) ∧ (∀ k, k < 20 → rA p.2 61 (n + k) = byR (X5 x1 x2 x3 x4 x5 (k / 4)) (24 - 8 * (k % 4))) ∧ (∀ k, k < n → rA p.2 61 k = rA s 61 k) ∧ sx_eq Dfd s p.2) := by
  have hL : Ev (whT (f_X12_feed_L42 x1 x2 x3 x4 x5) (0, s)) (fun s' => rI s' 58 4 = nI n ∧ (∀ k, k < 20 → rA s' 61 (n + k) = byR (X5 x1 x2 x3 x4 x5 (k / 4)) (24 - 8 * (k % 4))) ∧ (∀ k, k < n → rA s' 61 k = rA s 61 k) ∧ sx_eq Dfd s s') := by
    refine ev_f (fun (i : Nat) (a : Int32 × sx_M) => a.1 = nI i ∧ rI a.2 58 4 = nI n ∧ (∀ k, k < i → rA a.2 61 (n + k) = byR (X5 x1 x2 x3 x4 x5 (k / 4)) (24 - 8 * (k % 4))) ∧ (∀ k, k < n → rA a.2 61 k = rA s 61 k) ∧ sx_eq Dfd s a.2) 20 ?_ ?_ (i := 0) (by omega) ⟨rfl, h1, fun k hk => by omega, fun k _ => rfl, sx_rf _ _⟩
    · rintro i ⟨a1, s1⟩ hi ⟨ea, b1, b2, b3, b4⟩
      simp only at ea b1 b2 b3 b4
      subst ea
      obtain ⟨c1, c2⟩ := ix20 i hi
      have hin5 : ¬ (nI (i / 4) < 0 ∨ 5 ≤ (nI (i / 4)).toNatClampNeg) := by
        rw [nI_cl (by omega)]
        exact fun q => q.elim (nI_pos (by omega)) (by omega)
      have hin : ¬ (nI (n + i) < 0 ∨ 600 ≤ (nI (n + i)).toNatClampNeg) := by
        rw [nI_cl (by omega)]
        exact fun q => q.elim (nI_pos (by omega)) (by omega)
      refine ⟨.inl (nI i + 1, wA s1 61 (n + i) (byR (X5 x1 x2 x3 x4 x5 (i / 4)) (24 - 8 * (i % 4)))), ?_, nI_1 i, b1, fun k hk => ?_, fun k hk => ?_, sx_wA' b4 rfl⟩
      · simp only [f_X12_feed_L42, b1]
        rw [if_neg (show ¬ 20 ≤ nI i from of_eq_false (nI_le_F (a := 20) hi (by omega))), c1, nI_add, if_pos hin5, if_pos hin, nI_cl (show n + i < 2147483648 by omega), nI_cl (show i / 4 < 2147483648 by omega), c2]
        rfl
      · show rA (wA s1 61 (n + i) _) 61 (n + k) = _
        by_cases z : k = i
        · rw [z, rA_T ⟨rfl, rfl⟩]
        · rw [rA_F (by omega)]; exact b2 k (by omega)
      · show rA (wA s1 61 (n + i) _) 61 k = _
        rw [rA_F (by omega)]; exact b3 k hk
    · rintro ⟨a1, s1⟩ ⟨ea, b1, b2, b3, b4⟩
      simp only at ea b1 b2 b3 b4
      subst ea
      refine ⟨.inr s1, ?_, b1, b2, b3, b4⟩
      simp only [f_X12_feed_L42]
      rw [if_pos (show 20 ≤ nI 20 by decide)]
  obtain ⟨s', e, a1, a2, a3, a4⟩ := hL
  have e4 : rI (wI s' 58 4 (rI s' 58 4 + 20)) 58 4 = nI (n + 20) := by
    rw [rI_T ⟨rfl, rfl⟩, a1, show (20 : Int32) = nI 20 from rfl, nI_add]
  refine ⟨(nI (n + 20), wI s' 58 4 (rI s' 58 4 + 20)), ?_, rfl, e4, a2, a3, sx_wI' a4 ⟨rfl, rfl⟩⟩
  unfold f_X12_feed
  rw [h1, if_pos (show nI n ≤ 580 from of_eq_true (nI_le_T (a := n) (b := 580) (by omega) (by decide))), bnd e, e4]
theorem stp_0 : st_ok_0 Rel := by
  intro x1 x2 x3 x4 x5 s ⟨A, hok, hc, hr⟩
  have hL := hok.2.2.2
  by_cases hn : A.2.2.1.1 + 20 ≤ 600
  rotate_left
  · refine ⟨(-1, s), (-1, s), ?_, ?_, rfl, A, hok, hc, hr⟩
    · have hro : f_X9_hasRoom 20 s = some (0, s) := by
        unfold f_X9_hasRoom
        rw [hc.2.2.2.2.1.1, show (20 : Int32) = nI 20 from rfl, nI_add, if_pos (show 600 < nI (A.2.2.1.1 + 20) from of_eq_true (nI_lt_T (a := 600) (by omega) (by omega)))]
      unfold f_X11_feed
      rw [bnd hro, if_pos rfl]
    · unfold f_X12_feed
      rw [hr.2.2.1.1, if_neg (show ¬ nI A.2.2.1.1 ≤ 580 from of_eq_false (nI_le_F (b := 580) (by omega) (by omega)))]
  obtain ⟨p1, e1, v1, l1, w1, k1⟩ := c_feed hn hc.2.2.2.2.1.1 x1 x2 x3 x4 x5
  have hlo := lo_X11_feed x1 x2 x3 x4 x5 s p1 e1
  have hr1 := rf_lo hlo (fun q => q) hr
  obtain ⟨p2, e2, v2, l2, w2, k2, xx⟩ := r_feed hn hr1.2.2.1.1 x1 x2 x3 x4 x5
  have hfr := fr_f_X11_feed x1 x2 x3 x4 x5 s e1
  have hhi : sx_eq hiD p1.2 p2.2 := sx_mono xx (fun o k z => by simp only [Dfd, hiD] at z ⊢; omega) (fun _ _ z => z.elim) (fun o z => by simp only [Dfd, hiD] at z ⊢; omega) (fun _ z => z.elim)
  refine ⟨p1, p2, e1, e2, v1.trans v2.symm, (A.1, A.2.1, (A.2.2.1.1 + 20, fun k => if k < A.2.2.1.1 then A.2.2.1.2 k else byR (X5 x1 x2 x3 x4 x5 ((k - A.2.2.1.1) / 4)) (24 - 8 * ((k - A.2.2.1.1) % 4))), A.2.2.2), ⟨hok.1, hok.2.1, hok.2.2.1, hn⟩, cl_hi hhi (fun q => q) ?_, ?_⟩
  · obtain ⟨a1, a2, a3, a4, a5, a6, a7⟩ := hc
    refine ⟨grid_eq hfr (by simp) (by simp) (by simp) a1, ranks_eq hfr (by simp) (by simp) (by simp) a2, order_eq hfr (by simp) (by simp) (by simp) (by simp) a3, chist_eq hfr (fun o k q1 q2 => by simp; omega) (fun o q1 q2 => by simp) a4, ⟨l1, fun k hk => ?_⟩, (hfr.1 _ _ (by simp)).trans a6, (hfr.1 _ _ (by simp)).trans a7⟩
    have hk : k < A.2.2.1.1 + 20 := hk
    show _ = if k < A.2.2.1.1 then _ else _
    by_cases z : k < A.2.2.1.1
    · rw [if_pos z, k1 k z]; exact a5.2 k z
    · rw [if_neg z]
      have := w1 (k - A.2.2.1.1) (by omega)
      rw [show A.2.2.1.1 + (k - A.2.2.1.1) = k by omega] at this
      rw [this]
      exact byte_eq _ _ (by omega)
  · obtain ⟨b1, b2, b3, b4, b5⟩ := hr1
    refine ⟨tab_eq xx (by simp only [Dfd]; omega) b1, ⟨(xx.1 _ _ (by simp only [Dfd]; omega)).trans b2.1, fun i T hi => tab_eq xx (by simp only [Dfd]; omega) (b2.2 i T hi)⟩, ⟨l2, fun k hk => ?_⟩, (xx.1 _ _ (by simp only [Dfd]; omega)).trans b4, (xx.1 _ _ (by simp only [Dfd]; omega)).trans b5⟩
    have hk : k < A.2.2.1.1 + 20 := hk
    show _ = if k < A.2.2.1.1 then _ else _
    by_cases z : k < A.2.2.1.1
    · rw [if_pos z, k2 k z]; exact b3.2 k z
    · rw [if_neg z]
      have := w2 (k - A.2.2.1.1) (by omega)
      rw [show A.2.2.1.1 + (k - A.2.2.1.1) = k by omega] at this
      exact this
