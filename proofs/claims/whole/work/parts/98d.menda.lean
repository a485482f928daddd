def Dmw : sx_D := (fun o k => o = 58 ∧ 20 ≤ k ∧ k ≤ 23, fun _ _ => False, fun o => o = 67, fun _ => False)
theorem r_mends0 {T : tb} {h : hs} {s : sx_M} (hT : tb_ok T) (hg : tabIs 59 0 T s) (hh : hR T h s) (hk : gok T h) (hf : flH T h) (hm : mvB T h = none) : Ev (f_X12_mends s) (fun r => r.1 = 0 ∧ sx_eq Dmw s r.2) := by
  obtain ⟨s1, e1, s2, e2, c1, x1⟩ := r_findM hT hg hh hk hf
  rw [hm] at c1
  have c0 : rI s2 58 20 = 0 := c1.1
  refine ⟨(0, s2), ?_, rfl, sx_mono x1 (fun _ _ z => z) (fun _ _ z => z) (fun _ z => z.elim) (fun _ z => z)⟩
  unfold f_X12_mends
  rw [bnd e1, bnd e2, if_pos c0]
theorem r_mends1 {T : tb} {h : hs} {s : sx_M} (hT : tb_ok T) (hg : tabIs 59 0 T s) (hh : hR T h s) (hk : gok T h) (hf : flH T h) {g : Int} {w t : Nat} {k : Bool} (hm : mvB T h = some (g, w, t, k)) : Ev (f_X12_mends s) (fun r => r.1 = 1 ∧ hR T (nxH h w t k) r.2 ∧ sx_eq Dmw s r.2) := by
  have h7 := hT.1
  have h8 := hT.2.1
  obtain ⟨g0, hs⟩ := mvB_ok T h g w t k hm
  have hb := m2A_bd hT hk (m1A_bd hT hk (h := h) T.1 (Nat.le_refl _)) T.1 (Nat.le_refl _)
  have hb : bdM (mvB T h) := hb
  rw [hm] at hb
  have hgb : g ≤ 1000000 := hb.2
  obtain ⟨s1, e1, s2, e2, c1, x1⟩ := r_findM hT hg hh hk hf
  rw [hm] at c1
  obtain ⟨c0, c1⟩ := c1
  obtain ⟨k1, k2, c3⟩ := c1 g w t k rfl
  clear c1
  have c0 : rI s2 58 20 = iI g := c0
  have x1 : sx_eq Dmw s s2 := sx_mono x1 (fun _ _ z => z) (fun _ _ z => z) (fun _ z => z.elim) (fun _ z => z)
  have hh2 : ∀ v, v < T.1 → rA s2 67 v = oN (h v) := fun v hv => by
    obtain ⟨s1', e1', s2', e2', _, x'⟩ := r_findM hT hg hh hk hf
    rw [e1] at e1'
    cases e1'
    rw [e2] at e2'
    cases e2'
    exact (hR_eq x' (fun z => z) hh v hv).1
  have hw := hs.1
  obtain ⟨jw, hjw⟩ := hf w hw
  have bw := (hk w jw hw hjw).1
  have ew : rA s2 67 w = nI jw := by rw [hh2 w hw, hjw]; rfl
  have hin : ¬ (nI w < 0 ∨ 7 ≤ (nI w).toNatClampNeg) := by
    rw [nI_cl (by omega)]
    exact fun q => q.elim (nI_pos (by omega)) (by omega)
  have hn0 : ¬ rI s2 58 20 = 0 := by
    rw [c0]
    exact of_eq_false (iI_eq_F (a := g) (b := 0) (by omega) (by omega) (by omega) (by omega) (by omega))
  rcases hs.2 with ⟨ek, ht, hn, hgo⟩ | ⟨ek, hwt, ht, hch⟩
  · subst ek
    have c3 : rI s2 58 23 = 0 := c3
    refine ⟨(1, wA s2 67 w (nI t)), ?_, rfl, fun v hv => ?_, sx_wA' x1 rfl⟩
    · unfold f_X12_mends f_X12_mends_J233 f_X12_mends_J259
      rw [bnd e1, bnd e2, if_neg hn0, if_pos c3, if_pos c3, k1, k2, if_pos hin, nI_cl (by omega)]
    · show rA (wA s2 67 w (nI t)) 67 v = oN (up h w t v) ∧ ∀ j, up h w t v = some j → j < 8
      by_cases z : v = w
      · rw [rA_T ⟨rfl, z⟩, z, up_w]
        exact ⟨rfl, fun j hj => by cases hj; omega⟩
      · rw [rA_F (by omega), up_o z]
        exact ⟨hh2 v hv, (hh v hv).2⟩
  · subst ek
    obtain ⟨jt, hjt⟩ := hf t ht
    have bt := (hk t jt ht hjt).1
    have et : rA s2 67 t = nI jt := by rw [hh2 t ht, hjt]; rfl
    have hint : ¬ (nI t < 0 ∨ 7 ≤ (nI t).toNatClampNeg) := by
      rw [nI_cl (by omega)]
      exact fun q => q.elim (nI_pos (by omega)) (by omega)
    have c3 : rI s2 58 23 = 1 := c3
    have c3n : ¬ rI s2 58 23 = 0 := by rw [c3]; exact n1_0
    have e : nxH h w t true = up (up h t jw) w jt := by
      unfold nxH
      rw [if_pos rfl, hjw, hjt]
      rfl
    refine ⟨(1, wA (wA s2 67 t (nI jw)) 67 w (nI jt)), ?_, rfl, fun v hv => ?_, sx_wA' (sx_wA' x1 rfl) rfl⟩
    · unfold f_X12_mends f_X12_mends_J233 f_X12_mends_J259
      rw [bnd e1, bnd e2, if_neg hn0, if_neg c3n, if_neg c3n]
      rw [k1, k2, if_pos hint, if_pos hin, if_pos hint, nI_cl (show t < 2147483648 by omega), nI_cl (show w < 2147483648 by omega), et, ew, show rI (wA s2 67 t (nI jw)) 58 21 = nI w from k1, if_pos hin, nI_cl (show w < 2147483648 by omega)]
    · rw [e]
      show rA (wA (wA s2 67 t (nI jw)) 67 w (nI jt)) 67 v = oN (up (up h t jw) w jt v) ∧ ∀ j, up (up h t jw) w jt v = some j → j < 8
      by_cases z : v = w
      · rw [rA_T ⟨rfl, z⟩, z, up_w]
        exact ⟨rfl, fun j hj => by cases hj; omega⟩
      · by_cases z2 : v = t
        · rw [rA_F (by omega), rA_T ⟨rfl, z2⟩, up_o z, z2, up_w]
          exact ⟨rfl, fun j hj => by cases hj; omega⟩
        · rw [rA_F (by omega), rA_F (by omega), up_o z, up_o z2]
          exact ⟨hh2 v hv, (hh v hv).2⟩
theorem md_r {T : tb} (hT : tb_ok T) (x : Int32) : ∀ (n c : Nat) (h : hs) (s : sx_M), smN T h T.1 + 69993 ≤ (n : Int) → c + n ≤ 139986 → tabIs 59 0 T s → hR T h s → gok T h → flH T h → injH T h → Ev (whT (f_X12_mended_L31 x) (nI c, s)) (fun r => r.1 = nI (c + (md T n h).1) ∧ tabIs 59 0 T r.2 ∧ gok T (md T n h).2 ∧ hR T (md T n h).2 r.2) := by
  have h7 := hT.1
  intro n
  induction n with
  | zero =>
    intro c h s hn hcn hg hh hk hf hi
    have hmn : mvB T h = none := by
      cases hm : mvB T h with
      | none => rfl
      | some q =>
        obtain ⟨g, w, t, k⟩ := q
        obtain ⟨g0, hs⟩ := mvB_ok T h g w t k hm
        have nsm := nx_sm hf hs
        have := sm_bd hT (nx_ok hk hf hi hs).1 T.1 (Nat.le_refl _)
        omega
    have hh0 := hh
    obtain ⟨s1, e1, s2, e2, c1, x1⟩ := r_findM hT hg hh hk hf
    rw [hmn] at c1
    have c0 : rI s2 58 20 = 0 := c1.1
    have em : f_X12_mends s = some (0, s2) := by
      unfold f_X12_mends
      rw [bnd e1, bnd e2, if_pos c0]
    refine ⟨(nI c, s2), ?_, rfl, tab_eq x1 (fun z => z) hg, hk, hR_eq x1 (fun z => z) hh⟩
    rw [whT_eq]
    simp only [f_X12_mended_L31]
    rw [bnd em, if_pos rfl]
    rfl
  | succ n ih =>
    intro c h s hn hcn hg hh hk hf hi
    cases hm : mvB T h with
    | none =>
      obtain ⟨s1, e1, s2, e2, c1, x1⟩ := r_findM hT hg hh hk hf
      rw [hm] at c1
      have c0 : rI s2 58 20 = 0 := c1.1
      have em : f_X12_mends s = some (0, s2) := by
        unfold f_X12_mends
        rw [bnd e1, bnd e2, if_pos c0]
      rw [md_n _ hm]
      refine ⟨(nI c, s2), ?_, rfl, tab_eq x1 (fun z => z) hg, hk, hR_eq x1 (fun z => z) hh⟩
      rw [whT_eq]
      simp only [f_X12_mended_L31]
      rw [bnd em, if_pos rfl]
      rfl
    | some q =>
      obtain ⟨g, w, t, k⟩ := q
      obtain ⟨g0, hs⟩ := mvB_ok T h g w t k hm
      obtain ⟨nk, nf, ni⟩ := nx_ok hk hf hi hs
      have nsm := nx_sm hf hs
      obtain ⟨⟨r1, s2⟩, em, er, d1, x2⟩ := r_mends1 hT hg hh hk hf hm
      simp only at er d1 x2
      subst er
      obtain ⟨r, e3, f1, f2, f3, f4⟩ := ih (c + 1) (nxH h w t k) s2 (by omega) (by omega) (tab_eq x2 (by simp only [Dmw]; omega) hg) d1 nk nf ni
      rw [md_s hm]
      refine ⟨r, ?_, ?_, f2, f3, f4⟩
      · rw [whT_eq]
        simp only [f_X12_mended_L31]
        rw [bnd em, if_neg n1_0, nI_1]
        exact e3
      · rw [f1]
        show nI (c + 1 + _) = nI (c + (_ + 1))
        rw [show ∀ x, c + 1 + x = c + (x + 1) from fun x => by omega]
theorem nn_flH {T : tb} {h : hs} (e : nnN h T.1 = T.1) : flH T h := fun w hw => by
  cases hj : h w with
  | none => exact absurd hj (nn_all T.1 e w hw)
  | some j => exact ⟨j, rfl⟩
theorem stp_22 : st_ok_22 Rel := by
  intro x s ⟨A, hok, hc, hr⟩
  have h7 := hok.1.1
  have hgk : gok A.1 (gr A.1 A.1.1 h0) := grd_ok _ _ (fun w j _ h => by cases h)
  have hij : injH A.1 (gr A.1 A.1.1 h0) := gr_inj _ _ (fun v w j _ _ h => by cases h)
  have hsb := sm_bd hok.1 hgk A.1.1 (Nat.le_refl _)
  have hnl := nn_le (gr A.1 A.1.1 h0) A.1.1
  have hv : ∃ v : Int64, (nnN (gr A.1 A.1.1 h0) A.1.1 = A.1.1 ∧ x = 0 ∧ v = jJ (smN A.1 (md A.1 139986 (gr A.1 A.1.1 h0)).2 A.1.1)) ∨ (nnN (gr A.1 A.1.1 h0) A.1.1 = A.1.1 ∧ x = 1 ∧ v = (nI (md A.1 139986 (gr A.1 A.1.1 h0)).1).toInt64) ∨ ((nnN (gr A.1 A.1.1 h0) A.1.1 < A.1.1 ∨ (x ≠ 0 ∧ x ≠ 1 ∧ ∀ s, f_X12_in x.toInt64 0 1 s = some (0, s))) ∧ v = -9223372036854775808) := by
    by_cases z : nnN (gr A.1 A.1.1 h0) A.1.1 = A.1.1
    · rcases ic_kind x with q | q | q
      · exact ⟨_, Or.inl ⟨z, q, rfl⟩⟩
      · exact ⟨_, Or.inr (Or.inl ⟨z, q, rfl⟩)⟩
      · exact ⟨_, Or.inr (Or.inr ⟨Or.inr q, rfl⟩)⟩
    · exact ⟨_, Or.inr (Or.inr ⟨Or.inl (by omega), rfl⟩)⟩
  obtain ⟨v, hv⟩ := hv
  refine st_q (f1 := f_X11_mended x) (f2 := f_X12_mended x) v hok hc hr (fun hc => ?_) (lo_X11_mended _) (cF_X11_mended _) (fun s1 hr1 => ?_) (hi_X12_mended _) (rF_X12_mended _)
  · obtain ⟨s2, e2, hG⟩ := c_take hok.1 hc.1
    have hg2 : gridIs 3 A.1 s2 := grid_eq (D := Dg) (fr_f_X0_take _ e2) (by simp only [Dg]; omega) (by simp only [Dg]; omega) (fun z => z) hc.1
    have hmend : nnN (gr A.1 A.1.1 h0) A.1.1 = A.1.1 → Ev (f_X0_mend s2) (fun s' => rJ s' 46 3 = jJ (smN A.1 (md A.1 139986 (gr A.1 A.1.1 h0)).2 A.1.1) ∧ rI s' 46 5 = nI (md A.1 139986 (gr A.1 A.1.1 h0)).1) := by
      intro z
      have hx : sx_eq Dmc s2 (wI s2 46 5 0) := sx_wI' (sx_rf _ _) ⟨rfl, Or.inl rfl⟩
      obtain ⟨s3, e3, f1, f2⟩ := md_c hok.1 139986 0 (gr A.1 A.1.1 h0) (wI s2 46 5 0) (by omega) (by omega) (grid_eq hx (by simp only [Dmc]; omega) (by simp only [Dmc]; omega) (fun z => z) hg2) ⟨fun v hv => hG.1.1 v hv, fun j hj => hG.1.2 j hj⟩ hgk (nn_flH z) hij (by rw [rJ_wI]; exact hG.2.1) (by rw [rI_F (by omega), hG.2.2, z]) (rI_T ⟨rfl, rfl⟩)
      refine ⟨s3, ?_, f1, ?_⟩
      · unfold f_X0_mend
        rw [bnd e3]
      · rw [f2, Nat.zero_add]
    unfold f_X11_mended
    rcases hv with ⟨z, rfl, rfl⟩ | ⟨z, rfl, rfl⟩ | ⟨hz, rfl⟩
    · obtain ⟨s3, e3, f1, f2⟩ := hmend z
      rw [if_neg (by decide), if_pos (by decide), bnd e2, hg2.1, hG.2.2, z, if_pos (show nI A.1.1 ≤ nI A.1.1 from nI_le (Nat.le_refl _) (by omega)), bnd e3, if_pos rfl, f1]
      exact ⟨_, rfl, rfl⟩
    · obtain ⟨s3, e3, f1, f2⟩ := hmend z
      rw [if_neg (by decide), if_pos (by decide), bnd e2, hg2.1, hG.2.2, z, if_pos (show nI A.1.1 ≤ nI A.1.1 from nI_le (Nat.le_refl _) (by omega)), bnd e3, if_neg n1_0, f2]
      exact ⟨_, rfl, rfl⟩
    · by_cases y : x < 0
      · rw [if_pos y]; exact ⟨_, rfl, rfl⟩
      · rw [if_neg y]
        by_cases y1 : x ≤ 1
        · rw [if_pos y1, bnd e2]
          rcases hz with z | ⟨z0, z1, _⟩
          · rw [hg2.1, hG.2.2, if_neg (show ¬ nI A.1.1 ≤ nI (nnN (gr A.1 A.1.1 h0) A.1.1) from nI_ge z (by omega))]
            exact ⟨_, rfl, rfl⟩
          · exfalso
            rw [Int32.lt_iff_toInt_lt, show (0 : Int32).toInt = 0 by decide] at y
            rw [Int32.le_iff_toInt_le, show (1 : Int32).toInt = 1 by decide] at y1
            have a0 : x.toInt ≠ 0 := fun q => z0 (Int32.toInt_inj.mp q)
            have a1 : x.toInt ≠ 1 := fun q => z1 (Int32.toInt_inj.mp q)
            omega
        · rw [if_neg y1]
          exact ⟨_, rfl, rfl⟩
  · obtain ⟨s2, e2, hG, x2⟩ := r_greedy hok.1 hr1.1
    have ht := tab_eq x2 (by simp only [Dar]; omega) hr1.1
    have hmend : nnN (gr A.1 A.1.1 h0) A.1.1 = A.1.1 → _ := fun z => md_r hok.1 x 139986 0 (gr A.1 A.1.1 h0) s2 (by omega) (by omega) ht hG hgk (nn_flH z) hij
    unfold f_X12_mended
    rw [bnd e2]
    rcases hv with ⟨z, rfl, rfl⟩ | ⟨z, rfl, rfl⟩ | ⟨hz, rfl⟩
    · obtain ⟨⟨r1, s3⟩, e3, f1, f2, f3, f4⟩ := hmend z
      simp only at f1 f2 f3 f4
      have e3 : whT (f_X12_mended_L31 0) (0, s2) = some (r1, s3) := e3
      rw [bnd (in_0 s2), if_neg n1_0, bnd (r_hasMany hok.1 ht hG), bnd (f_wk ht), z, if_pos (show nI A.1.1 ≤ nI A.1.1 from nI_le (Nat.le_refl _) (by omega)), bnd e3, if_pos rfl, bnd (r_hasSum hok.1 f2 f4 f3)]
      exact ⟨_, rfl, rfl⟩
    · obtain ⟨⟨r1, s3⟩, e3, f1, f2, f3, f4⟩ := hmend z
      simp only at f1 f2 f3 f4
      have e3 : whT (f_X12_mended_L31 1) (0, s2) = some (r1, s3) := e3
      rw [bnd (in_1 s2), if_neg n1_0, bnd (r_hasMany hok.1 ht hG), bnd (f_wk ht), z, if_pos (show nI A.1.1 ≤ nI A.1.1 from nI_le (Nat.le_refl _) (by omega)), bnd e3, if_neg n1_0]
      refine ⟨_, rfl, ?_⟩
      show r1.toInt64 = _
      rw [f1, Nat.zero_add]
    · rcases hz with z | ⟨z0, z1, hz⟩
      · have hin : f_X12_in x.toInt64 0 1 s2 = some (1, s2) ∨ f_X12_in x.toInt64 0 1 s2 = some (0, s2) := by
          rcases ic_kind x with q | q | ⟨_, _, q⟩
          · rw [q]; exact Or.inl (in_0 s2)
          · rw [q]; exact Or.inl (in_1 s2)
          · exact Or.inr (q s2)
        rcases hin with q | q
        · rw [bnd q, if_neg n1_0, bnd (r_hasMany hok.1 ht hG), bnd (f_wk ht), if_neg (show ¬ nI A.1.1 ≤ nI (nnN (gr A.1 A.1.1 h0) A.1.1) from nI_ge z (by omega))]
          exact ⟨_, rfl, rfl⟩
        · rw [bnd q, if_pos rfl]
          exact ⟨_, rfl, rfl⟩
      · rw [bnd (hz s2), if_pos rfl]
        exact ⟨_, rfl, rfl⟩
