theorem cy_s {T : tb} {h : hs} {w i : Nat} {y : Int} (hi : h w = some i) (hy : T.2.2 w i = some y) : cyO T h w = y := by
  unfold cyO; rw [hi]; show (T.2.2 w i).getD 0 = y; rw [hy]; rfl
theorem r_row2 {T : tb} {h : hs} {s : sx_M} {m : mv} (hT : tb_ok T) (hg : tabIs 59 0 T s) (hh : hR T h s) (hk : gok T h) (hf : flH T h) {w : Nat} (hw : w < T.1) (hm : bdM m) (hc : rM m s) : Ev (whT (f_X12_mends_L95 (nI w)) (nI (w + 1), s)) (fun s' => rM (m2R T h w m (T.1 - (w + 1))) s' ∧ sx_eq Dmr s s') := by
  have h7 := hT.1
  obtain ⟨jw, hjw⟩ := hf w hw
  obtain ⟨bw, yw, hyw⟩ := hk w jw hw hjw
  have hywb := hT.2.2.1 _ _ yw hyw
  have hin : ¬ (nI w < 0 ∨ 7 ≤ (nI w).toNatClampNeg) := by
    rw [nI_cl (by omega)]
    exact fun q => q.elim (nI_pos (by omega)) (by omega)
  refine ev_f (fun (n : Nat) (a : Int32 × sx_M) => a.1 = nI (w + 1 + n) ∧ rM (m2R T h w m n) a.2 ∧ sx_eq Dmr s a.2) (T.1 - (w + 1)) ?_ ?_ (i := 0) (by omega) ⟨rfl, hc, sx_rf _ _⟩
  · rintro n ⟨a1, s1⟩ hn ⟨ea, b1, b2⟩
    simp only at ea b1 b2
    subst ea
    have em : m2R T h w m (n + 1) = mvX (chG T h w (w + 1 + n) ((h w).getD 0) ((h (w + 1 + n)).getD 0)) w (w + 1 + n) true (m2R T h w m n) := rfl
    have hbd := m2R_bd hT hk hm n (w := w) (by omega)
    have hv : w + 1 + n < T.1 := by omega
    have hnx : nI (w + 1 + n) + 1 = nI (w + 1 + (n + 1)) := nI_1 _
    generalize w + 1 + n = v at em hv hnx
    obtain ⟨jv, hjv⟩ := hf v hv
    obtain ⟨bv, yv, hyv⟩ := hk v jv hv hjv
    have hyvb := hT.2.2.1 _ _ yv hyv
    rw [hjw, hjv] at em
    have em : m2R T h w m (n + 1) = mvX (chG T h w v jw jv) w v true (m2R T h w m n) := em
    have hin2 : ¬ (nI v < 0 ∨ 7 ≤ (nI v).toNatClampNeg) := by
      rw [nI_cl (by omega)]
      exact fun q => q.elim (nI_pos (by omega)) (by omega)
    have hinw' : ¬ (nI w < 0 ∨ 7 ≤ w) := fun q => q.elim (nI_pos (by omega)) (by omega)
    have hinv' : ¬ (nI v < 0 ∨ 7 ≤ v) := fun q => q.elim (nI_pos (by omega)) (by omega)
    have hg1 : tabIs 59 0 T s1 := tab_eq b2 (fun z => z) hg
    have hh1 := hR_eq b2 (fun z => z) hh
    have ew : rA s1 67 w = nI jw := by rw [(hh1 w hw).1, hjw]; rfl
    have ev : rA s1 67 v = nI jv := by rw [(hh1 v hv).1, hjv]; rfl
    have c14 := f_cost_in hT hg1 hw bw
    have c15 := f_cost_in hT hg1 hv bv
    have c16 := f_cost_in hT hg1 hw bv
    have c17 := f_cost_in hT hg1 hv bw
    rw [hyw] at c14
    rw [hyv] at c15
    simp only [f_X12_mends_L95]
    rw [bnd (f_wk hg1), if_neg (show ¬ nI T.1 ≤ nI v from nI_ge hv (by omega)), if_pos hin2, nI_cl (show v < 2147483648 by omega), ev]
    cases hx : T.2.2 w jv with
    | none =>
      rw [hx] at c16
      have eg : chG T h w v jw jv = none := by unfold chG goG; rw [hx]; rfl
      rw [eg, mvX_n] at em
      rw [bnd c16, if_pos (show c32 none = 2147483647 from rfl)]
      exact ⟨.inl (nI v + 1, s1), rfl, hnx, by show rM (m2R T h w m (n + 1)) s1; rw [em]; exact b1, b2⟩
    | some x1 =>
      have hx1 := hT.2.2.1 _ _ x1 hx
      rw [hx] at c16
      rw [bnd c16, if_neg (show ¬ c32 (some x1) = 2147483647 from of_eq_false (inv_F (by omega) (by omega))), if_pos hin, nI_cl (show w < 2147483648 by omega), ew]
      cases hz : T.2.2 v jw with
      | none =>
        rw [hz] at c17
        have eg : chG T h w v jw jv = none := by unfold chG goG; rw [hx, hz]; rfl
        rw [eg, mvX_n] at em
        rw [bnd c17, if_pos (show c32 none = 2147483647 from rfl)]
        exact ⟨.inl (nI v + 1, s1), rfl, hnx, by show rM (m2R T h w m (n + 1)) s1; rw [em]; exact b1, b2⟩
      | some x2 =>
        have hx2 := hT.2.2.1 _ _ x2 hz
        rw [hz] at c17
        have eg : chG T h w v jw jv = some (yw + yv - x1 - x2) := by
          unfold chG goG
          rw [hx, hz, cy_s hjw hyw, cy_s hjv hyv]
          show some (yw - x1 + (yv - x2)) = _
          congr 1
          omega
        rw [eg] at em
        obtain ⟨s2, e, c1, c2⟩ := r_offers hbd b1 (a := yw + yv - x1 - x2) (by omega) w v true
        have e' : f_X12_offers (c32 (some yw) + c32 (some yv) - c32 (some x1) - c32 (some x2)) (nI w) (nI v) 1 s1 = some s2 := by
          rw [c32_s, c32_s, c32_s, c32_s, iI_add, iI_sub, iI_sub]; exact e
        rw [bnd c17, if_neg (show ¬ c32 (some x2) = 2147483647 from of_eq_false (inv_F (by omega) (by omega))), if_pos hinw', ew, bnd c14, if_pos hinv', ev, bnd c15, if_pos hinv', ev, bnd c16, if_pos hinw', ew, bnd c17, bnd e']
        exact ⟨.inl (nI v + 1, s2), rfl, hnx, by show rM (m2R T h w m (n + 1)) s2; rw [em]; exact c1, sx_tr b2 c2⟩
  · rintro ⟨a1, s1⟩ ⟨ea, b1, b2⟩
    simp only at ea b1 b2
    subst ea
    have hg1 : tabIs 59 0 T s1 := tab_eq b2 (fun z => z) hg
    refine ⟨.inr s1, ?_, b1, b2⟩
    simp only [f_X12_mends_L95]
    rw [bnd (f_wk hg1), if_pos (show nI T.1 ≤ nI (w + 1 + (T.1 - (w + 1))) from nI_le (by omega) (by omega))]
