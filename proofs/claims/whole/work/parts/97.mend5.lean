/-! mended: the reference's scans -/
theorem hR_eq {D : sx_D} {T : tb} {h : hs} {s s' : sx_M} (hx : sx_eq D s s') (h1 : ¬ D.2.2.1 67) (hh : hR T h s) : hR T h s' :=
  fun w hw => by rw [hx.2.2.1 _ _ h1]; exact hh w hw
theorem r_row1 {T : tb} {h : hs} {s : sx_M} {m : mv} (hT : tb_ok T) (hg : tabIs 59 0 T s) (hh : hR T h s) (hk : gok T h) {w i : Nat} (hw : w < T.1) (hi : h w = some i) (hm : bdM m) (hc : rM m s) : Ev (whT (f_X12_mends_L17 (nI w)) (0, s)) (fun s' => rM (m1R T h w m T.2.1) s' ∧ sx_eq Dmr s s') := by
  have h7 := hT.1
  have h8 := hT.2.1
  obtain ⟨b1', y, b2'⟩ := hk w i hw hi
  have hyb := hT.2.2.1 _ _ y b2'
  have hin : ¬ (nI w < 0 ∨ 7 ≤ (nI w).toNatClampNeg) := by
    rw [nI_cl (by omega)]
    exact fun q => q.elim (nI_pos (by omega)) (by omega)
  have ecy : cyO T h w = y := by unfold cyO; rw [hi]; show (T.2.2 w i).getD 0 = y; rw [b2']; rfl
  refine ev_f (fun (j : Nat) (a : Int32 × sx_M) => a.1 = nI j ∧ rM (m1R T h w m j) a.2 ∧ sx_eq Dmr s a.2) T.2.1 ?_ ?_ (i := 0) (by omega) ⟨rfl, hc, sx_rf _ _⟩
  · rintro j ⟨a1, s1⟩ hj ⟨ea, b1, b2⟩
    simp only at ea b1 b2
    subst ea
    have hg1 : tabIs 59 0 T s1 := tab_eq b2 (fun z => z) hg
    have hh1 := hR_eq b2 (fun z => z) hh
    have hco := f_cost_in hT hg1 hw hj
    have hco2 := f_cost_in hT hg1 hw b1'
    rw [b2'] at hco2
    have e67 : rA s1 67 w = nI i := by rw [(hh1 w hw).1, hi]; rfl
    simp only [f_X12_mends_L17]
    rw [bnd (f_jb hg1), if_neg (show ¬ nI T.2.1 ≤ nI j from nI_ge hj (by omega)), bnd (r_taken hT hg1 hh1 (show j < 8 by omega))]
    have em : m1R T h w m (j + 1) = if wo h j 0 T.1 = none then mvX (goG T h w j) w j false (m1R T h w m j) else m1R T h w m j := rfl
    by_cases z : wo h j 0 T.1 = none
    · rw [if_pos z, if_pos rfl]
      rw [if_pos z] at em
      cases hx : T.2.2 w j with
      | none =>
        rw [hx] at hco
        have eg : goG T h w j = none := by unfold goG; rw [hx]; rfl
        rw [eg, mvX_n] at em
        rw [bnd hco, if_pos (show c32 none = 2147483647 from rfl)]
        exact ⟨.inl (nI j + 1, s1), rfl, nI_1 j, by show rM (m1R T h w m (j + 1)) s1; rw [em]; exact b1, b2⟩
      | some x =>
        have hxb := hT.2.2.1 _ _ x hx
        rw [hx] at hco
        have eg : goG T h w j = some (y - x) := by unfold goG; rw [hx, ecy]; rfl
        rw [eg] at em
        obtain ⟨s2, e, c1, c2⟩ := r_offers (m1R_bd hT hk hw hm j) b1 (a := y - x) (by omega) w j false
        have e' : f_X12_offers (c32 (some y) - c32 (some x)) (nI w) (nI j) 0 s1 = some s2 := by
          rw [c32_s, c32_s, iI_sub]; exact e
        rw [bnd hco, if_neg (show ¬ c32 (some x) = 2147483647 from of_eq_false (inv_F (by omega) (by omega))), if_pos hin, nI_cl (by omega), e67, bnd hco2, bnd hco, bnd e']
        exact ⟨.inl (nI j + 1, s2), rfl, nI_1 j, by show rM (m1R T h w m (j + 1)) s2; rw [em]; exact c1, sx_tr b2 c2⟩
    · rw [if_neg z, if_neg n1_0]
      rw [if_neg z] at em
      exact ⟨.inl (nI j + 1, s1), rfl, nI_1 j, by show rM (m1R T h w m (j + 1)) s1; rw [em]; exact b1, b2⟩
  · rintro ⟨a1, s1⟩ ⟨ea, b1, b2⟩
    simp only at ea b1 b2
    subst ea
    have hg1 : tabIs 59 0 T s1 := tab_eq b2 (fun z => z) hg
    refine ⟨.inr s1, ?_, b1, b2⟩
    simp only [f_X12_mends_L17]
    rw [bnd (f_jb hg1), if_pos (show nI T.2.1 ≤ nI T.2.1 from nI_le (Nat.le_refl _) (by omega))]
