theorem nn_0 : ∀ n, nnN h0 n = 0
  | 0 => rfl
  | n + 1 => by unfold nnN; rw [nn_0 n]; rfl
theorem sm_0 (T : tb) : ∀ n, smN T h0 n = 0
  | 0 => rfl
  | n + 1 => by unfold smN; rw [sm_0 T n]; rfl
theorem wo_0 (j : Nat) : ∀ n i, wo h0 j i n = none
  | 0, _ => rfl
  | n + 1, i => by unfold wo; rw [wo_0 j n (i + 1)]; rfl
theorem c_take {T : tb} {s : sx_M} (hT : tb_ok T) (hg : gridIs 3 T s) : Ev (f_X0_take s) (fun s' => cG T (gr T T.1 h0) s') := by
  have h7 := hT.1
  have h8 := hT.2.1
  have i1 : Ev (whT f_X0_take_L2 (0, s)) (fun s' => (∀ w, w < 7 → rA s' 47 w = -1) ∧ sx_eq Dg s s') := by
    refine ev_f (fun (i : Nat) (a : Int32 × sx_M) => a.1 = nI i ∧ (∀ w, w < i → rA a.2 47 w = -1) ∧ sx_eq Dg s a.2) 7 ?_ ?_ (i := 0) (by omega) ⟨rfl, fun w hw => by omega, sx_rf _ _⟩
    · rintro i ⟨a1, s1⟩ hi ⟨ea, b1, b2⟩
      simp only at ea b1 b2
      subst ea
      have hin : ¬ (nI i < 0 ∨ 7 ≤ (nI i).toNatClampNeg) := by
        rw [nI_cl (by omega)]
        exact fun q => q.elim (nI_pos (by omega)) (by omega)
      refine ⟨.inl (nI (i + 1), wA s1 47 i (-1)), ?_, rfl, fun w hw => ?_, sx_wA' b2 (Or.inl rfl)⟩
      · simp only [f_X0_take_L2]
        rw [if_neg (show ¬ 7 ≤ nI i from of_eq_false (nI_le_F (a := 7) hi (by omega))), if_pos hin, nI_cl (by omega), nI_1]
      · show rA (wA s1 47 i (-1)) 47 w = -1
        by_cases z : w = i
        · exact rA_T ⟨rfl, z⟩
        · rw [rA_F (by omega)]; exact b1 w (by omega)
    · rintro ⟨a1, s1⟩ ⟨ea, b1, b2⟩
      simp only at ea b1 b2
      subst ea
      refine ⟨.inr s1, ?_, b1, b2⟩
      simp only [f_X0_take_L2]
      rw [if_pos (show 7 ≤ nI 7 by decide)]
  obtain ⟨s1, e1, c1, x1⟩ := i1
  have i2 : Ev (whT f_X0_take_L23 (0, s1)) (fun s' => (∀ w, w < 8 → rA s' 48 w = -1) ∧ (∀ w, w < 7 → rA s' 47 w = -1) ∧ sx_eq Dg s1 s') := by
    refine ev_f (fun (i : Nat) (a : Int32 × sx_M) => a.1 = nI i ∧ (∀ w, w < i → rA a.2 48 w = -1) ∧ (∀ w, w < 7 → rA a.2 47 w = -1) ∧ sx_eq Dg s1 a.2) 8 ?_ ?_ (i := 0) (by omega) ⟨rfl, fun w hw => by omega, c1, sx_rf _ _⟩
    · rintro i ⟨a1, s2⟩ hi ⟨ea, b1, b3, b2⟩
      simp only at ea b1 b2 b3
      subst ea
      have hin : ¬ (nI i < 0 ∨ 8 ≤ (nI i).toNatClampNeg) := by
        rw [nI_cl (by omega)]
        exact fun q => q.elim (nI_pos (by omega)) (by omega)
      refine ⟨.inl (nI (i + 1), wA s2 48 i (-1)), ?_, rfl, fun w hw => ?_, fun w hw => ?_, sx_wA' b2 (Or.inr rfl)⟩
      · simp only [f_X0_take_L23]
        rw [if_neg (show ¬ 8 ≤ nI i from of_eq_false (nI_le_F (a := 8) hi (by omega))), if_pos hin, nI_cl (by omega), nI_1]
      · show rA (wA s2 48 i (-1)) 48 w = -1
        by_cases z : w = i
        · exact rA_T ⟨rfl, z⟩
        · rw [rA_F (by omega)]; exact b1 w (by omega)
      · show rA (wA s2 48 i (-1)) 47 w = -1
        rw [rA_F (by omega)]; exact b3 w hw
    · rintro ⟨a1, s2⟩ ⟨ea, b1, b3, b2⟩
      simp only at ea b1 b2 b3
      subst ea
      refine ⟨.inr s2, ?_, b1, b3, b2⟩
      simp only [f_X0_take_L23]
      rw [if_pos (show 8 ≤ nI 8 by decide)]
  obtain ⟨s2, e2, d1, d2, x2⟩ := i2
  have hx : sx_eq Dg s (wI (wJ s2 46 3 0) 46 4 0) := sx_wI' (sx_wJ' (sx_tr x1 x2) ⟨rfl, rfl⟩) ⟨rfl, rfl⟩
  have hG : cG T h0 (wI (wJ s2 46 3 0) 46 4 0) := by
    refine ⟨⟨fun w hw => ⟨d2 w (by omega), fun j hj => by cases hj⟩, fun j hj => ?_⟩, ?_, ?_⟩
    · rw [wo_0]; exact d1 j (by omega)
    · rw [sm_0, rJ_wI, rJ_T ⟨rfl, rfl⟩]; rfl
    · rw [nn_0, rI_T ⟨rfl, rfl⟩]; rfl
  obtain ⟨s3, e3, hr⟩ := c_take52 hT T.1 h0 _ (by rw [nn_0]; omega) (grid_eq hx (by simp only [Dg]; omega) (by simp only [Dg]; omega) (fun z => z) hg) hG
  refine ⟨s3, ?_, hr⟩
  unfold f_X0_take
  rw [bnd e1, bnd e2, bnd e3]
/-! the reference -/
theorem oN_eq {o : Option Nat} {j : Nat} (ho : ∀ v, o = some v → v < 8) (hj : j < 8) : oN o = nI j ↔ o = some j := by
  cases o with
  | none => exact ⟨fun h => absurd h.symm (oN_n1 j hj), fun h => by cases h⟩
  | some v =>
    have := ho v rfl
    refine ⟨fun h => ?_, fun h => by cases h; rfl⟩
    have h : nI v = nI j := h
    exact congrArg some ((nI_eq (by omega) (by omega)).mp h)
theorem r_taken {T : tb} {h : hs} {s : sx_M} (hT : tb_ok T) (hg : tabIs 59 0 T s) (hh : hR T h s) {j : Nat} (hj : j < 8) : f_X12_isTaken (nI j) s = some (if wo h j 0 T.1 = none then 0 else 1, s) := by
  have h7 := hT.1
  have key : ∀ n i, i + n = T.1 → whT (f_X12_isTaken_L2 (nI j)) (nI i, s) = some ((wo h j i n).elim (.inl s) (fun _ => .inr (1, s))) := by
    intro n
    induction n with
    | zero =>
      intro i hi
      rw [whT_eq]
      simp only [f_X12_isTaken_L2]
      rw [bnd (f_wk hg), if_pos (show nI T.1 ≤ nI i from nI_le (by omega) (by omega))]
      rfl
    | succ n ih =>
      intro i hi
      have hin : ¬ (nI i < 0 ∨ 7 ≤ (nI i).toNatClampNeg) := by
        rw [nI_cl (by omega)]
        exact fun q => q.elim (nI_pos (by omega)) (by omega)
      have hhi := hh i (by omega)
      have e := oN_eq hhi.2 hj
      rw [whT_eq]
      simp only [f_X12_isTaken_L2]
      rw [bnd (f_wk hg), if_neg (show ¬ nI T.1 ≤ nI i from nI_ge (by omega) (by omega)), if_pos hin, nI_cl (by omega), hhi.1]
      unfold wo
      by_cases z : h i = some j
      · rw [if_pos (e.mpr z), if_pos z]; rfl
      · rw [if_neg (fun q => z (e.mp q)), if_neg z, nI_1]
        exact ih (i + 1) (by omega)
  have hk := key T.1 0 (by omega)
  have h' : whT (f_X12_isTaken_L2 (nI j)) (0, s) = _ := hk
  unfold f_X12_isTaken
  rw [bnd h']
  cases wo h j 0 T.1 with
  | none => rfl
  | some v => rfl
def rb1 (b : bt) : Int32 := (b.map (fun c => nI c.1)).getD (-1)
def rb2 (b : bt) : Int32 := (b.map (fun c => nI c.2.1)).getD (-1)
theorem r_cell {T : tb} {h : hs} {s : sx_M} {b : bt} {w j : Nat} (hT : tb_ok T) (hg : tabIs 59 0 T s) (hh : hR T h s) (hb : bOK T h b) (hw : w < T.1) (hj : j < T.2.1) : f_X12_laysGreedy_L46 (nI w) (rb1 b, rb2 b, nI j, s) = some (.inl (rb1 (bs1 T h w j b), rb2 (bs1 T h w j b), nI (j + 1), s)) := by
  have h7 := hT.1
  have h8 := hT.2.1
  have hin : ¬ (nI w < 0 ∨ 7 ≤ (nI w).toNatClampNeg) := by
    rw [nI_cl (by omega)]
    exact fun q => q.elim (nI_pos (by omega)) (by omega)
  have hco := f_cost_in hT hg hw hj
  have e1 := oN_n1' hT (o := h w) (hh w hw).2
  have skip : f_X12_laysGreedy_L46_J93 (nI w) (rb1 b) (rb2 b) (nI j) 0 s = some (.inl (rb1 b, rb2 b, nI (j + 1), s)) := by
    unfold f_X12_laysGreedy_L46_J93
    rw [if_pos rfl, nI_1]
  simp only [f_X12_laysGreedy_L46]
  rw [bnd (f_jb hg), if_neg (show ¬ nI T.2.1 ≤ nI j from nI_ge hj (by omega)), if_pos hin, nI_cl (show w < 2147483648 by omega), (hh w hw).1]
  by_cases z1 : h w = none
  · rw [if_pos (e1.mpr z1), bnd (r_taken hT hg hh (show j < 8 by omega))]
    by_cases z2 : wo h j 0 T.1 = none
    · rw [if_pos z2, if_pos rfl, bnd hco]
      cases hx : T.2.2 w j with
      | none =>
        simp only []
        rw [if_pos c32_n, bs1_n hx]
        exact skip
      | some x =>
        have hxb := hT.2.2.1 _ _ x hx
        rw [hx] at hco
        simp only []
        rw [if_neg (show ¬ c32 (some x) = 2147483647 from of_eq_false (inv_F (by omega) (by omega))), bs1_x ⟨z1, z2⟩ hx]
        unfold f_X12_laysGreedy_L46_J93 f_X12_laysGreedy_L46_J122
        rw [if_neg n1_0, nI_1]
        cases b with
        | none => rw [if_pos (show rb1 none = -1 from rfl)]; rfl
        | some c =>
          obtain ⟨w', j', y⟩ := c
          obtain ⟨a1, a2, a3, _⟩ := hb w' j' y rfl
          have hyb := hT.2.2.1 _ _ y a3
          have hco2 := f_cost_in hT hg a1 a2
          rw [a3] at hco2
          have hco2' : f_X12_costOf (rb1 (some (w', j', y))) (rb2 (some (w', j', y))) s = some (c32 (some y), s) := hco2
          rw [if_neg (show ¬ rb1 (some (w', j', y)) = -1 from oN_n1 w' (by omega)), bnd hco, bnd hco2']
          by_cases q : y ≤ x
          · rw [if_pos (show c32 (some y) ≤ c32 (some x) from of_eq_true (iI_le_T (a := y) (b := x) q (by omega) (by omega))), bsX_le q]
          · rw [if_neg (show ¬ c32 (some y) ≤ c32 (some x) from of_eq_false (iI_le_F (a := y) (b := x) (by omega) (by omega) (by omega))), bsX_gt q]
            rfl
    · rw [if_neg z2, if_neg n1_0, bs1_no (fun q => z2 q.2)]
      exact skip
  · rw [if_neg (fun q => z1 (e1.mp q)), bs1_no (fun q => z1 q.1)]
    exact skip
