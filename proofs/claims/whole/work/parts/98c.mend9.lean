def Dd : sx_D := (fun _ _ => False, fun o k => o = 46 ∧ k = 3, fun o => o = 47 ∨ o = 48, fun _ => False)
theorem c_seat {T : tb} {s : sx_M} (hT : tb_ok T) (hg : gridIs 3 T s) {w j : Nat} (a1 : w < T.1) (a2 : j < T.2.1) : f_X0_seat (nI w) (nI j) s = some (wA (wA s 47 w (nI j)) 48 j (nI w)) := by
  have h7 := hT.1
  have h8 := hT.2.1
  have hin : ¬ (nI w < 0 ∨ 7 ≤ (nI w).toNatClampNeg) := by
    rw [nI_cl (by omega)]
    exact fun q => q.elim (nI_pos (by omega)) (by omega)
  have hin2 : ¬ (nI j < 0 ∨ 8 ≤ (nI j).toNatClampNeg) := by
    rw [nI_cl (by omega)]
    exact fun q => q.elim (nI_pos (by omega)) (by omega)
  unfold f_X0_seat
  rw [bnd (f_has_in hT hg a1 a2), if_neg n1_0, if_pos hin, if_pos hin2, nI_cl (show w < 2147483648 by omega), nI_cl (show j < 2147483648 by omega)]
theorem c_doStep {T : tb} {h : hs} {s : sx_M} {m : mv} (hT : tb_ok T) (hg : gridIs 3 T s) (hh : hC T h s) (hk : gok T h) (hf : flH T h) (hi : injH T h) (hS : rJ s 46 3 = jJ (smN T h T.1)) (hc : cM h m s) {g : Int} {w t : Nat} {k : Bool} (hm : m = some (g, w, t, k)) (hs : stO T h g w t k) : Ev (f_X0_doStep s) (fun s' => hC T (nxH h w t k) s' ∧ rJ s' 46 3 = jJ (smN T (nxH h w t k) T.1) ∧ sx_eq Dd s s') := by
  have h7 := hT.1
  have h8 := hT.2.1
  obtain ⟨nk, nf, ni⟩ := nx_ok hk hf hi hs
  have nsm := nx_sm hf hs
  have hw := hs.1
  obtain ⟨c1, c2⟩ := hc
  obtain ⟨c2, c3⟩ := c2 g w t k hm
  have c1 : rJ s 46 6 = jJ g := by rw [c1, hm]; rfl
  obtain ⟨jw, hjw⟩ := hf w hw
  have bw := (hk w jw hw hjw).1
  have ew : rA s 47 w = nI jw := by rw [(hh.1 w hw).1, hjw]; rfl
  have hin : ¬ (nI w < 0 ∨ 7 ≤ (nI w).toNatClampNeg) := by
    rw [nI_cl (by omega)]
    exact fun q => q.elim (nI_pos (by omega)) (by omega)
  have hinj : ¬ (nI jw < 0 ∨ 8 ≤ (nI jw).toNatClampNeg) := by
    rw [nI_cl (by omega)]
    exact fun q => q.elim (nI_pos (by omega)) (by omega)
  rcases hs.2 with ⟨ek, ht, hn, hgo⟩ | ⟨ek, hwt, ht, hch⟩
  · subst ek
    have e8 : rI s 46 8 = nI t := c3
    have hint : ¬ (nI t < 0 ∨ 8 ≤ (nI t).toNatClampNeg) := by
      rw [nI_cl (by omega)]
      exact fun q => q.elim (nI_pos (by omega)) (by omega)
    have et : rA s 48 t = -1 := by rw [hh.2 t ht, hn]; rfl
    have hnn := wo_n.mp hn
    have hne : jw ≠ t := fun q => hnn w (by omega) (by omega) (by rw [hjw, q])
    refine ⟨wJ (wA (wA (wA s 47 w (nI t)) 48 t (nI w)) 48 jw (-1)) 46 3 (rJ s 46 3 - jJ g), ?_, ⟨fun v hv => ⟨?_, fun j hj => ?_⟩, fun j hj => ?_⟩, ?_, sx_wJ' (sx_wA' (sx_wA' (sx_wA' (sx_rf _ _) (Or.inl rfl)) (Or.inr rfl)) (Or.inr rfl)) ⟨rfl, rfl⟩⟩
    · unfold f_X0_doStep f_X0_doStep_J58
      rw [c2, e8, if_pos hin, if_pos hint, bnd (c_seat hT hg hw ht), nI_cl (show t < 2147483648 by omega), et, if_pos rfl, nI_cl (show w < 2147483648 by omega), ew, if_neg (oN_n1 jw (by omega)), if_pos hinj, nI_cl (show jw < 2147483648 by omega)]
      simp only [rJ_wA]
      rw [c1]
    · show rA (wA (wA (wA s 47 w (nI t)) 48 t (nI w)) 48 jw (-1)) 47 v = oN (up h w t v)
      rw [rA_F (by omega), rA_F (by omega)]
      by_cases z : v = w
      · rw [rA_T ⟨rfl, z⟩, z, up_w]; rfl
      · rw [rA_F (by omega), up_o z]; exact (hh.1 v hv).1
    · have := (nk v j hv hj).1
      omega
    · show rA (wA (wA (wA s 47 w (nI t)) 48 t (nI w)) 48 jw (-1)) 48 j = oN (wo (up h w t) j 0 T.1)
      by_cases z : j = jw
      · rw [rA_T ⟨rfl, z⟩, wo_n.mpr (fun v h1 h2 => ?_)]
        · rfl
        · by_cases y : v = w
          · rw [y, up_w, z]
            exact fun q => hne (Option.some.inj q).symm
          · rw [up_o y, z]
            exact fun q => y (hi v w jw (by omega) hw q hjw)
      · rw [rA_F (by omega)]
        by_cases z2 : j = t
        · have : wo (up h w t) t 0 T.1 = some w := wo_is (T := T) ni hw (up_w h w t)
          rw [rA_T ⟨rfl, z2⟩, z2, this]
          rfl
        · rw [rA_F (by omega), rA_F (by omega), hh.2 j hj]
          congr 1
          refine wo_cg T.1 0 (fun v h1 h2 => ?_)
          by_cases y : v = w
          · rw [y, up_w, hjw]
            exact ⟨fun q => absurd (Option.some.inj q).symm z, fun q => absurd (Option.some.inj q).symm z2⟩
          · rw [up_o y]
    · rw [rJ_T ⟨rfl, rfl⟩, nsm, hS, jJ_sub]
  · subst ek
    obtain ⟨jt, hjt⟩ := hf t ht
    have bt := (hk t jt ht hjt).1
    have et47 : rA s 47 t = nI jt := by rw [(hh.1 t ht).1, hjt]; rfl
    have e8 : rI s 46 8 = nI jt := by
      rw [c3]
      unfold tgJ
      rw [if_pos rfl, hjt]
      rfl
    have hint : ¬ (nI jt < 0 ∨ 8 ≤ (nI jt).toNatClampNeg) := by
      rw [nI_cl (by omega)]
      exact fun q => q.elim (nI_pos (by omega)) (by omega)
    have et : rA s 48 jt = nI t := by rw [hh.2 jt bt, wo_is hi ht hjt]; rfl
    have hne : jt ≠ jw := fun q => by
      rw [q] at hjt
      have := hi w t jw hw ht hjw hjt
      omega
    have e : nxH h w t true = up (up h t jw) w jt := by
      unfold nxH
      rw [if_pos rfl, hjw, hjt]
      rfl
    have e1 : up (up h t jw) w jt w = some jt := up_w _ _ _
    have e2 : up (up h t jw) w jt t = some jw := by rw [up_o (by omega), up_w]
    have e3 : ∀ v, v ≠ w → v ≠ t → up (up h t jw) w jt v = h v := fun v h1 h2 => by rw [up_o h1, up_o h2]
    rw [e] at nk nf ni nsm ⊢
    have hx1 : sx_eq Dd s (wA (wA s 47 w (nI jt)) 48 jt (nI w)) := sx_wA' (sx_wA' (sx_rf _ _) (Or.inl rfl)) (Or.inr rfl)
    have hg1 : gridIs 3 T (wA (wA s 47 w (nI jt)) 48 jt (nI w)) := grid_eq hx1 (fun z => z) (fun z => z) (fun z => z) hg
    refine ⟨wJ (wA (wA (wA (wA s 47 w (nI jt)) 48 jt (nI w)) 47 t (nI jw)) 48 jw (nI t)) 46 3 (rJ s 46 3 - jJ g), ?_, ⟨fun v hv => ⟨?_, fun j hj => ?_⟩, fun j hj => ?_⟩, ?_, sx_wJ' (sx_wA' (sx_wA' hx1 (Or.inl rfl)) (Or.inr rfl)) ⟨rfl, rfl⟩⟩
    · unfold f_X0_doStep f_X0_doStep_J58
      rw [c2, e8, if_pos hin, if_pos hint, bnd (c_seat hT hg hw bt), nI_cl (show jt < 2147483648 by omega), et, if_neg (oN_n1 t (by omega)), nI_cl (show w < 2147483648 by omega), ew, bnd (c_seat hT hg1 ht bw)]
      simp only [rJ_wA]
      rw [c1]
    · show rA (wA (wA (wA (wA s 47 w (nI jt)) 48 jt (nI w)) 47 t (nI jw)) 48 jw (nI t)) 47 v = oN (up (up h t jw) w jt v)
      rw [rA_F (by omega)]
      by_cases z : v = w
      · rw [rA_F (by omega), rA_F (by omega), rA_T ⟨rfl, z⟩, z, e1]; rfl
      · by_cases z2 : v = t
        · rw [rA_T ⟨rfl, z2⟩, z2, e2]; rfl
        · rw [rA_F (by omega), rA_F (by omega), rA_F (by omega), e3 v z z2]; exact (hh.1 v hv).1
    · have := (nk v j hv hj).1
      omega
    · show rA (wA (wA (wA (wA s 47 w (nI jt)) 48 jt (nI w)) 47 t (nI jw)) 48 jw (nI t)) 48 j = oN (wo (up (up h t jw) w jt) j 0 T.1)
      by_cases z : j = jw
      · rw [rA_T ⟨rfl, z⟩, z, wo_is (T := T) ni ht e2]
        rfl
      · rw [rA_F (by omega), rA_F (by omega)]
        by_cases z2 : j = jt
        · rw [rA_T ⟨rfl, z2⟩, z2, wo_is (T := T) ni hw e1]
          rfl
        · rw [rA_F (by omega), rA_F (by omega), hh.2 j hj]
          congr 1
          refine wo_cg T.1 0 (fun v h1 h2 => ?_)
          by_cases y : v = w
          · rw [y, e1, hjw]
            exact ⟨fun q => absurd (Option.some.inj q).symm z, fun q => absurd (Option.some.inj q).symm z2⟩
          · by_cases y2 : v = t
            · rw [y2, e2, hjt]
              exact ⟨fun q => absurd (Option.some.inj q).symm z2, fun q => absurd (Option.some.inj q).symm z⟩
            · rw [e3 v y y2]
    · rw [rJ_T ⟨rfl, rfl⟩, nsm, hS, jJ_sub]
/-- all steps -/
def md (T : tb) : Nat → hs → Nat × hs
  | 0, h => (0, h)
  | n + 1, h =>
    match mvB T h with
    | none => (0, h)
    | some c => ((md T n (nxH h c.2.1 c.2.2.1 c.2.2.2)).1 + 1, (md T n (nxH h c.2.1 c.2.2.1 c.2.2.2)).2)
theorem md_n {T : tb} {h : hs} (n : Nat) (e : mvB T h = none) : md T n h = (0, h) := by
  cases n with
  | zero => rfl
  | succ n => unfold md; rw [e]
theorem md_s {T : tb} {h : hs} {n w t : Nat} {g : Int} {k : Bool} (e : mvB T h = some (g, w, t, k)) : md T (n + 1) h = ((md T n (nxH h w t k)).1 + 1, (md T n (nxH h w t k)).2) := by
  conv => lhs; unfold md
  rw [e]
def Dmc : sx_D := (fun o k => o = 46 ∧ (k = 5 ∨ k = 7 ∨ k = 8), fun o k => o = 46 ∧ (k = 3 ∨ k = 6), fun o => o = 47 ∨ o = 48, fun _ => False)
theorem md_c {T : tb} (hT : tb_ok T) : ∀ (n c : Nat) (h : hs) (s : sx_M), smN T h T.1 + 69993 ≤ (n : Int) → c + n ≤ 139986 → gridIs 3 T s → hC T h s → gok T h → flH T h → injH T h → rJ s 46 3 = jJ (smN T h T.1) → rI s 46 4 = nI T.1 → rI s 46 5 = nI c → Ev (whT f_X0_mend_L5 s) (fun s' => rJ s' 46 3 = jJ (smN T (md T n h).2 T.1) ∧ rI s' 46 5 = nI (c + (md T n h).1)) := by
  have h7 := hT.1
  intro n
  induction n with
  | zero =>
    intro c h s hn hcn hg hh hk hf hi hS h4 h5
    have hmn : mvB T h = none := by
      cases hm : mvB T h with
      | none => rfl
      | some q =>
        obtain ⟨g, w, t, k⟩ := q
        obtain ⟨g0, hs⟩ := mvB_ok T h g w t k hm
        have nsm := nx_sm hf hs
        have := sm_bd hT (nx_ok hk hf hi hs).1 T.1 (Nat.le_refl _)
        omega
    by_cases z : 139986 ≤ c
    · refine ⟨s, ?_, ?_, ?_⟩
      · rw [whT_eq]
        simp only [f_X0_mend_L5]
        rw [h4, hg.1, if_pos rfl, h5, if_pos (show (139986 : Int32) ≤ nI c from nI_le (a := 139986) z (by omega))]
        rfl
      · exact hS
      · exact h5
    · obtain ⟨⟨r1, s1⟩, e1, hv, _, hx⟩ := c_find hT hg hh hk hf
      simp only at hv hx
      rw [hmn, if_pos (show gnM none ≤ 0 from Int.le_refl 0)] at hv
      refine ⟨s1, ?_, ?_, ?_⟩
      · rw [whT_eq]
        simp only [f_X0_mend_L5]
        rw [h4, hg.1, if_pos rfl, h5, if_neg (show ¬ (139986 : Int32) ≤ nI c from nI_ge (b := 139986) (by omega) (by omega)), bnd e1, if_pos hv]
        rfl
      · rw [hx.2.1 46 3 (by simp only [Dm]; omega)]; exact hS
      · rw [hx.1 46 5 (by simp only [Dm]; omega)]; exact h5
  | succ n ih =>
    intro c h s hn hcn hg hh hk hf hi hS h4 h5
    have hst : ∀ r, f_X0_findStep s = some r → f_X0_mend_L5 s = (if r.1 = 0 then some (.inr r.2) else (f_X0_doStep r.2).bind (fun p2 => some (.inl (wI p2 46 5 ((rI p2 46 5) + (1 : Int32)))))) := by
      intro r er
      simp only [f_X0_mend_L5]
      rw [h4, hg.1, if_pos rfl, h5, if_neg (show ¬ (139986 : Int32) ≤ nI c from nI_ge (b := 139986) (by omega) (by omega)), bnd er]
    obtain ⟨⟨r1, s1⟩, e1, hv, hc, hx⟩ := c_find hT hg hh hk hf
    simp only at hv hx hc
    have hst := hst _ e1
    simp only at hst
    cases hm : mvB T h with
    | none =>
      rw [hm, if_pos (show gnM none ≤ 0 from Int.le_refl 0)] at hv
      rw [if_pos hv] at hst
      rw [md_n _ hm]
      refine ⟨s1, ?_, ?_, ?_⟩
      · rw [whT_eq, hst]
        rfl
      · rw [hx.2.1 46 3 (by simp only [Dm]; omega)]; exact hS
      · rw [hx.1 46 5 (by simp only [Dm]; omega)]; exact h5
    | some q =>
      obtain ⟨g, w, t, k⟩ := q
      obtain ⟨g0, hs⟩ := mvB_ok T h g w t k hm
      have hgn : ¬ gnM (some (g, w, t, k)) ≤ 0 := by
        show ¬ g ≤ 0
        omega
      rw [hm, if_neg hgn] at hv
      rw [hm] at hc
      have hg1 : gridIs 3 T s1 := grid_eq hx (by simp only [Dm]; omega) (by simp only [Dm]; omega) (fun z => z) hg
      have hS1 : rJ s1 46 3 = jJ (smN T h T.1) := by rw [hx.2.1 46 3 (by simp only [Dm]; omega)]; exact hS
      obtain ⟨s2, e2, d1, d2, x2⟩ := c_doStep hT hg1 (hC_eq hx (fun z => z) (fun z => z) hh) hk hf hi hS1 hc rfl hs
      have h52 : rI s2 46 5 = nI c := by
        rw [x2.1 46 5 (fun z => z), hx.1 46 5 (by simp only [Dm]; omega)]; exact h5
      have h42 : rI s2 46 4 = nI T.1 := by
        rw [x2.1 46 4 (fun z => z), hx.1 46 4 (by simp only [Dm]; omega)]; exact h4
      rw [hv, if_neg n1_0, bnd e2, h52, nI_1] at hst
      obtain ⟨nk, nf, ni⟩ := nx_ok hk hf hi hs
      have nsm := nx_sm hf hs
      have hg2 : gridIs 3 T s2 := grid_eq x2 (fun z => z) (fun z => z) (fun z => z) hg1
      have hx3 : sx_eq Dmc s2 (wI s2 46 5 (nI (c + 1))) := sx_wI' (sx_rf _ _) ⟨rfl, Or.inl rfl⟩
      obtain ⟨s3, e3, f1, f2⟩ := ih (c + 1) (nxH h w t k) (wI s2 46 5 (nI (c + 1))) (by omega) (by omega) (grid_eq hx3 (by simp only [Dmc]; omega) (by simp only [Dmc]; omega) (fun z => z) hg2) (by
        refine ⟨fun v hv => d1.1 v hv, fun j hj => d1.2 j hj⟩) nk nf ni (by rw [rJ_wI]; exact d2) (by rw [rI_F (by omega)]; exact h42) (rI_T ⟨rfl, rfl⟩)
      rw [md_s hm]
      refine ⟨s3, ?_, f1, ?_⟩
      · rw [whT_eq, hst]
        exact e3
      · rw [f2]
        show nI (c + 1 + _) = nI (c + (_ + 1))
        rw [show ∀ x, c + 1 + x = c + (x + 1) from fun x => by omega]
