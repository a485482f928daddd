def Do0 : sx_D := (fun o k => o = 49 ∧ (k = 4 ∨ k = 5), fun _ _ => False, fun _ => False, fun o => o = 50)
def auE (T : tb) (z : Int32) : Nat × hs × List Nat × (Nat → Int64) := auN T z.toInt64 500 h0 (List.range T.1) (fun _ => 0)
theorem rng_v {n i v : Nat} (h : (List.range n)[i]? = some v) : v = i := by
  obtain ⟨_, q⟩ := List.getElem?_eq_some_iff.mp h
  rw [List.getElem_range] at q
  exact q.symm
theorem auI_0 (T : tb) : auI T h0 (List.range T.1) := ⟨fun v hv => ⟨List.mem_range.mp hv, rfl⟩, List.nodup_range, (fun w j _ h => nomatch h), (by rw [nn_0, List.length_range, Nat.zero_add])⟩
theorem c_hold {T : tb} {s : sx_M} (hT : tb_ok T) (hg : gridIs 3 T s) (z : Int32) : Ev (f_X8_hold z s) (fun s' => auC T (auE T z).1 (auE T z).2.1 (auE T z).2.2.1 (auE T z).2.2.2 s' ∧ gridIs 3 T s' ∧ auI T (auE T z).2.1 (auE T z).2.2.1) := by
  have h7 := hT.1
  have h3 : rI (wI s 49 5 0) 3 1 = nI T.1 := by rw [rI_F (by omega)]; exact hg.1
  have x0 : sx_eq Do0 s (wI (wI s 49 5 0) 49 4 (nI T.1)) := sx_wI' (sx_wI' (sx_rf _ _) ⟨rfl, Or.inr rfl⟩) ⟨rfl, Or.inl rfl⟩
  have i1 : Ev (whT f_X8_open_L18 (0, wI (wI s 49 5 0) 49 4 (nI T.1))) (fun s' => (∀ w, w < 8 → rB s' 50 w = 0) ∧ rI s' 49 4 = nI T.1 ∧ rI s' 49 5 = 0 ∧ sx_eq Do0 s s') := by
    refine ev_f (fun (i : Nat) (a : Int32 × sx_M) => a.1 = nI i ∧ (∀ w, w < i → rB a.2 50 w = 0) ∧ rI a.2 49 4 = nI T.1 ∧ rI a.2 49 5 = 0 ∧ sx_eq Do0 s a.2) 8 ?_ ?_ (i := 0) (by omega) ⟨rfl, fun w hw => by omega, rI_T ⟨rfl, rfl⟩, by rw [rI_F (by omega)]; exact rI_T ⟨rfl, rfl⟩, x0⟩
    · rintro i ⟨a1, s1⟩ hi ⟨ea, b1, b2, b3, b4⟩
      simp only at ea b1 b2 b3 b4
      subst ea
      have hin : ¬ (nI i < 0 ∨ 8 ≤ (nI i).toNatClampNeg) := by
        rw [nI_cl (by omega)]
        exact fun q => q.elim (nI_pos (by omega)) (by omega)
      refine ⟨.inl (nI (i + 1), wB s1 50 i 0), ?_, rfl, fun w hw => ?_, b2, b3, sx_wB' b4 rfl⟩
      · simp only [f_X8_open_L18]
        rw [if_neg (show ¬ 8 ≤ nI i from of_eq_false (nI_le_F (a := 8) hi (by omega))), if_pos hin, nI_cl (by omega), nI_1]
      · show rB (wB s1 50 i 0) 50 w = 0
        by_cases y : w = i
        · exact rB_T ⟨rfl, y⟩
        · rw [rB_F (by omega)]; exact b1 w (by omega)
    · rintro ⟨a1, s1⟩ ⟨ea, b1, b2, b3, b4⟩
      simp only at ea b1 b2 b3 b4
      subst ea
      refine ⟨.inr s1, ?_, b1, b2, b3, b4⟩
      simp only [f_X8_open_L18]
      rw [if_pos (show 8 ≤ nI 8 by decide)]
  obtain ⟨s1, e1, c1, c2, c3, x1⟩ := i1
  have i2 : Ev (whT f_X8_open_L39 (0, s1)) (fun s' => (∀ w, w < 7 → rA s' 51 w = -1 ∧ rA s' 52 w = nI w) ∧ sx_eq ((fun _ _ => False, fun _ _ => False, fun o => o = 51 ∨ o = 52, fun _ => False) : sx_D) s1 s') := by
    refine ev_f (fun (i : Nat) (a : Int32 × sx_M) => a.1 = nI i ∧ (∀ w, w < i → rA a.2 51 w = -1 ∧ rA a.2 52 w = nI w) ∧ sx_eq ((fun _ _ => False, fun _ _ => False, fun o => o = 51 ∨ o = 52, fun _ => False) : sx_D) s1 a.2) 7 ?_ ?_ (i := 0) (by omega) ⟨rfl, fun w hw => by omega, sx_rf _ _⟩
    · rintro i ⟨a1, s2⟩ hi ⟨ea, b1, b2⟩
      simp only at ea b1 b2
      subst ea
      have hin : ¬ (nI i < 0 ∨ 7 ≤ (nI i).toNatClampNeg) := by
        rw [nI_cl (by omega)]
        exact fun q => q.elim (nI_pos (by omega)) (by omega)
      refine ⟨.inl (nI (i + 1), wA (wA s2 51 i (-1)) 52 i (nI i)), ?_, rfl, fun w hw => ⟨?_, ?_⟩, sx_wA' (sx_wA' b2 (Or.inl rfl)) (Or.inr rfl)⟩
      · simp only [f_X8_open_L39]
        rw [if_neg (show ¬ 7 ≤ nI i from of_eq_false (nI_le_F (a := 7) hi (by omega))), if_pos hin, if_pos hin, nI_cl (by omega), nI_1]
      · show rA (wA (wA s2 51 i (-1)) 52 i (nI i)) 51 w = -1
        rw [rA_F (by omega)]
        by_cases y : w = i
        · exact rA_T ⟨rfl, y⟩
        · rw [rA_F (by omega)]; exact (b1 w (by omega)).1
      · show rA (wA (wA s2 51 i (-1)) 52 i (nI i)) 52 w = nI w
        by_cases y : w = i
        · rw [rA_T ⟨rfl, y⟩, y]
        · rw [rA_F (by omega), rA_F (by omega)]; exact (b1 w (by omega)).2
    · rintro ⟨a1, s2⟩ ⟨ea, b1, b2⟩
      simp only at ea b1 b2
      subst ea
      refine ⟨.inr s2, ?_, b1, b2⟩
      simp only [f_X8_open_L39]
      rw [if_pos (show 7 ≤ nI 7 by decide)]
  obtain ⟨s2, e2, d1, x2⟩ := i2
  have hg1 : gridIs 3 T s1 := grid_eq x1 (by simp only [Do0]; omega) (by simp only [Do0]; omega) (by simp only [Do0]; omega) hg
  have hg2 : gridIs 3 T s2 := grid_eq x2 (fun z => z) (fun z => z) (fun z => z) hg1
  have hA : auC T 0 h0 (List.range T.1) (fun _ => 0) s2 := by
    refine ⟨fun w hw => (d1 w (by omega)).1, fun i v hv => ?_, ?_, ?_, fun j hj => ?_⟩
    · have hi := qIs_lt hv
      rw [List.length_range] at hi
      rw [rng_v hv, Nat.zero_add]
      exact (d1 i (by omega)).2
    · rw [x2.1 49 4 (fun z => z), c2, List.length_range]
    · rw [x2.1 49 5 (fun z => z), c3]; rfl
    · rw [x2.2.2.2 50 j (fun z => z)]; exact c1 j hj
  obtain ⟨s3, e3, f1, f2, f3⟩ := au_c hT z 500 0 h0 (List.range T.1) (fun _ => 0) s2 (by omega) (auI_0 T) hg2 hA
  rw [Nat.zero_add] at f1
  refine ⟨s3, ?_, f1, f2, f3⟩
  unfold f_X8_hold f_X8_open
  rw [h3, bnd e1, bnd e2]
  show (whT (f_X8_hold_L4 z) s2).bind _ = _
  rw [bnd e3]
theorem c_total {T : tb} {h : hs} {s : sx_M} (hT : tb_ok T) (hg : gridIs 3 T s) (hh : h5 T h s) (hk : gok T h) : f_X8_total s = some (jJ (smN T h T.1), s) := by
  have h7 := hT.1
  have hL : whT f_X8_total_L4 (0, 0, s) = some (jJ (smN T h T.1), s) := by
    refine wh_for (fun i => (jJ (smN T h i), nI i, s)) T.1 (fun i hi => ?_) ?_ rfl
    · have hin : ¬ (nI i < 0 ∨ 7 ≤ (nI i).toNatClampNeg) := by
        rw [nI_cl (by omega)]
        exact fun q => q.elim (nI_pos (by omega)) (by omega)
      simp only [f_X8_total_L4]
      rw [hg.1, if_neg (show ¬ nI T.1 ≤ nI i from nI_ge hi (by omega)), if_pos hin, if_pos hin, nI_cl (by omega), hh i hi, nI_1]
      cases hj : h i with
      | none =>
        rw [if_pos (show oN none = -1 from rfl)]
        have : smN T h (i + 1) = smN T h i := by
          conv => lhs; unfold smN
          rw [hj]
          exact Int.add_zero _
        rw [this]
      | some j =>
        obtain ⟨b1, x, b2⟩ := hk i j hi hj
        have hat := f_at_in hT hg hi b1
        rw [b2] at hat
        have hat' : f_X1_at 3 (nI i) (oN (some j)) s = some (c64 (some x), s) := hat
        rw [if_neg (show ¬ oN (some j) = -1 from oN_n1 j (gok8 hT hk hi j hj)), bnd hat']
        have : smN T h (i + 1) = smN T h i + x := by
          conv => lhs; unfold smN
          rw [hj]
          simp [b2]
        rw [this, c64_s, jJ_add]
    · simp only [f_X8_total_L4]
      rw [hg.1, if_pos (show nI T.1 ≤ nI T.1 from nI_le (Nat.le_refl _) (by omega))]
  unfold f_X8_total
  rw [bnd hL]
