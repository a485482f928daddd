/-- both scans of the reference -/
theorem r_findM {T : tb} {h : hs} {s : sx_M} (hT : tb_ok T) (hg : tabIs 59 0 T s) (hh : hR T h s) (hk : gok T h) (hf : flH T h) : Ev (whT f_X12_mends_L7 (0, wI s 58 20 0)) (fun s1 => Ev (whT f_X12_mends_L83 (0, s1)) (fun s2 => rM (mvB T h) s2 ∧ sx_eq Dmr s s2)) := by
  have h7 := hT.1
  have hx0 : sx_eq Dmr s (wI s 58 20 0) := sx_wI' (sx_rf _ _) ⟨rfl, by omega⟩
  have hc0 : rM none (wI s 58 20 0) := ⟨rI_T ⟨rfl, rfl⟩, fun _ _ _ _ e => by cases e⟩
  have hg0 : tabIs 59 0 T (wI s 58 20 0) := tab_eq hx0 (fun z => z) hg
  have hh0 := hR_eq hx0 (fun z => z) hh
  have hb1 := m1A_bd hT hk (h := h) T.1 (Nat.le_refl _)
  have hL1 : Ev (whT f_X12_mends_L7 (0, wI s 58 20 0)) (fun s' => rM (m1A T h T.1) s' ∧ sx_eq Dmr (wI s 58 20 0) s') := by
    refine ev_f (fun (i : Nat) (a : Int32 × sx_M) => a.1 = nI i ∧ rM (m1A T h i) a.2 ∧ sx_eq Dmr (wI s 58 20 0) a.2) T.1 ?_ ?_ (i := 0) (by omega) ⟨rfl, hc0, sx_rf _ _⟩
    · rintro i ⟨a1, s1⟩ hi ⟨ea, b1, b2⟩
      simp only at ea b1 b2
      subst ea
      have hg1 : tabIs 59 0 T s1 := tab_eq b2 (fun z => z) hg0
      have hh1 := hR_eq b2 (fun z => z) hh0
      obtain ⟨j, hj⟩ := hf i hi
      obtain ⟨s2, e, c1, c2⟩ := r_row1 hT hg1 hh1 hk hi hj (m1A_bd hT hk i (by omega)) b1
      refine ⟨.inl (nI i + 1, s2), ?_, nI_1 i, c1, sx_tr b2 c2⟩
      simp only [f_X12_mends_L7]
      rw [bnd (f_wk hg1), if_neg (show ¬ nI T.1 ≤ nI i from nI_ge hi (by omega)), bnd e]
    · rintro ⟨a1, s1⟩ ⟨ea, b1, b2⟩
      simp only at ea b1 b2
      subst ea
      refine ⟨.inr s1, ?_, b1, b2⟩
      simp only [f_X12_mends_L7]
      rw [bnd (f_wk (tab_eq b2 (fun z => z) hg0)), if_pos (show nI T.1 ≤ nI T.1 from nI_le (Nat.le_refl _) (by omega))]
  obtain ⟨s1, e1, c1, x1⟩ := hL1
  refine ⟨s1, e1, ?_⟩
  have hg1 := tab_eq x1 (fun z => z) hg0
  have hh1 := hR_eq x1 (fun z => z) hh0
  have hL : Ev (whT f_X12_mends_L83 (0, s1)) (fun s' => rM (mvB T h) s' ∧ sx_eq Dmr s1 s') := by
    refine ev_f (fun (i : Nat) (a : Int32 × sx_M) => a.1 = nI i ∧ rM (m2A T h (m1A T h T.1) i) a.2 ∧ sx_eq Dmr s1 a.2) T.1 ?_ ?_ (i := 0) (by omega) ⟨rfl, c1, sx_rf _ _⟩
    · rintro i ⟨a1, s2⟩ hi ⟨ea, b1, b2⟩
      simp only at ea b1 b2
      subst ea
      have hg2 := tab_eq b2 (fun z => z) hg1
      have hh2 := hR_eq b2 (fun z => z) hh1
      obtain ⟨s3, e, d1, d2⟩ := r_row2 hT hg2 hh2 hk hf hi (m2A_bd hT hk hb1 i (by omega)) b1
      refine ⟨.inl (nI i + 1, s3), ?_, nI_1 i, d1, sx_tr b2 d2⟩
      simp only [f_X12_mends_L83]
      rw [bnd (f_wk hg2), if_neg (show ¬ nI T.1 ≤ nI i from nI_ge hi (by omega)), nI_1, bnd e]
    · rintro ⟨a1, s2⟩ ⟨ea, b1, b2⟩
      simp only at ea b1 b2
      subst ea
      refine ⟨.inr s2, ?_, b1, b2⟩
      simp only [f_X12_mends_L83]
      rw [bnd (f_wk (tab_eq b2 (fun z => z) hg1)), if_pos (show nI T.1 ≤ nI T.1 from nI_le (Nat.le_refl _) (by omega))]
  obtain ⟨s2, e2, c2, x2⟩ := hL
  exact ⟨s2, e2, c2, sx_tr hx0 (sx_tr x1 x2)⟩
