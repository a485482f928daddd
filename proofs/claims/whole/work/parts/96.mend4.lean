def flH (T : tb) (h : hs) : Prop := ∀ w, w < T.1 → ∃ j, h w = some j
def m2R (T : tb) (h : hs) (w : Nat) (m : mv) : Nat → mv
  | 0 => m
  | n + 1 => mvX (chG T h w (w + 1 + n) ((h w).getD 0) ((h (w + 1 + n)).getD 0)) w (w + 1 + n) true (m2R T h w m n)
def m2A (T : tb) (h : hs) (m : mv) : Nat → mv
  | 0 => m
  | n + 1 => m2R T h n (m2A T h m n) (T.1 - (n + 1))
theorem chG_b {T : tb} {h : hs} (hT : tb_ok T) (hk : gok T h) {w v jw jv : Nat} (hw : w < T.1) (hv : v < T.1) : ∀ a, chG T h w v jw jv = some a → -1000000 ≤ a ∧ a ≤ 1000000 := by
  intro a e
  unfold chG at e
  cases h1 : goG T h w jv with
  | none => rw [h1] at e; cases e
  | some x =>
    cases h2 : goG T h v jw with
    | none => rw [h1, h2] at e; cases e
    | some y =>
      rw [h1, h2] at e
      have e : x + y = a := Option.some.inj e
      have := goG_bd hT hk hw h1
      have := goG_bd hT hk hv h2
      omega
theorem m2R_bd {T : tb} {h : hs} (hT : tb_ok T) (hk : gok T h) {w : Nat} {m : mv} (hm : bdM m) : ∀ n, w + 1 + n ≤ T.1 → bdM (m2R T h w m n)
  | 0, _ => hm
  | n + 1, hn => bdM_X (m2R_bd hT hk hm n (by omega)) (chG_b hT hk (by omega) (by omega))
theorem m2A_bd {T : tb} {h : hs} (hT : tb_ok T) (hk : gok T h) {m : mv} (hm : bdM m) : ∀ n, n ≤ T.1 → bdM (m2A T h m n)
  | 0, _ => hm
  | n + 1, hn => m2R_bd hT hk (m2A_bd hT hk hm n (by omega)) _ (by omega)
theorem c_scan1 {T : tb} {h : hs} {s : sx_M} (hT : tb_ok T) (hg : gridIs 3 T s) (hh : hC T h s) (hk : gok T h) (hf : flH T h) (hc : cM h none s) : Ev (whT f_X0_findStep_L7 (0, s)) (fun s' => cM h (m1A T h T.1) s' ∧ sx_eq Dm s s') := by
  have h7 := hT.1
  refine ev_f (fun (i : Nat) (a : Int32 × sx_M) => a.1 = nI i ∧ cM h (m1A T h i) a.2 ∧ sx_eq Dm s a.2) T.1 ?_ ?_ (i := 0) (by omega) ⟨rfl, hc, sx_rf _ _⟩
  · rintro i ⟨a1, s1⟩ hi ⟨ea, b1, b2⟩
    simp only at ea b1 b2
    subst ea
    have hg1 : gridIs 3 T s1 := grid_eq b2 (by simp only [Dm]; omega) (by simp only [Dm]; omega) (fun z => z) hg
    have hh1 := hC_eq b2 (fun z => z) (fun z => z) hh
    obtain ⟨j, hj⟩ := hf i hi
    obtain ⟨s2, e, c1, c2⟩ := c_row1 hT hg1 hh1 hk hi hj (m1A_bd hT hk i (by omega)) b1
    refine ⟨.inl (nI i + 1, s2), ?_, nI_1 i, c1, sx_tr b2 c2⟩
    simp only [f_X0_findStep_L7, hg1.1]
    rw [if_neg (show ¬ nI T.1 ≤ nI i from nI_ge hi (by omega)), bnd e]
  · rintro ⟨a1, s1⟩ ⟨ea, b1, b2⟩
    simp only at ea b1 b2
    subst ea
    have hg1 : gridIs 3 T s1 := grid_eq b2 (by simp only [Dm]; omega) (by simp only [Dm]; omega) (fun z => z) hg
    refine ⟨.inr s1, ?_, b1, b2⟩
    simp only [f_X0_findStep_L7, hg1.1]
    rw [if_pos (show nI T.1 ≤ nI T.1 from nI_le (Nat.le_refl _) (by omega))]
theorem c_row2 {T : tb} {h : hs} {s : sx_M} {m : mv} (hT : tb_ok T) (hg : gridIs 3 T s) (hh : hC T h s) (hk : gok T h) (hf : flH T h) {w : Nat} (hw : w < T.1) (hm : bdM m) (hc : cM h m s) : Ev (whT (f_X0_findStep_L82 (nI w)) (nI (w + 1), s)) (fun s' => cM h (m2R T h w m (T.1 - (w + 1))) s' ∧ sx_eq Dm s s') := by
  have h7 := hT.1
  obtain ⟨jw, hjw⟩ := hf w hw
  refine ev_f (fun (n : Nat) (a : Int32 × sx_M) => a.1 = nI (w + 1 + n) ∧ cM h (m2R T h w m n) a.2 ∧ sx_eq Dm s a.2) (T.1 - (w + 1)) ?_ ?_ (i := 0) (by omega) ⟨rfl, hc, sx_rf _ _⟩
  · rintro n ⟨a1, s1⟩ hn ⟨ea, b1, b2⟩
    simp only at ea b1 b2
    subst ea
    obtain ⟨jv, hjv⟩ := hf (w + 1 + n) (by omega)
    have hin : ¬ (nI (w + 1 + n) < 0 ∨ 7 ≤ (nI (w + 1 + n)).toNatClampNeg) := by
      rw [nI_cl (by omega)]
      exact fun q => q.elim (nI_pos (by omega)) (by omega)
    have hg1 : gridIs 3 T s1 := grid_eq b2 (by simp only [Dm]; omega) (by simp only [Dm]; omega) (fun z => z) hg
    have hh1 := hC_eq b2 (fun z => z) (fun z => z) hh
    have e47 : rA s1 47 (w + 1 + n) = nI jv := by rw [(hh1.1 _ (by omega)).1, hjv]; rfl
    obtain ⟨s2, e, c1, c2⟩ := c_weigh (m2R_bd hT hk hm n (by omega)) b1 (chG_b hT hk (jw := jw) (jv := jv) hw (show w + 1 + n < T.1 by omega)) w (w + 1 + n) true
    have etg : tgJ h (w + 1 + n) true = jv := by
      unfold tgJ
      rw [if_pos rfl, hjv]; rfl
    rw [etg] at e
    refine ⟨.inl (nI (w + 1 + n) + 1, s2), ?_, nI_1 _, ?_, sx_tr b2 c2⟩
    · simp only [f_X0_findStep_L82, hg1.1]
      rw [if_neg (show ¬ nI T.1 ≤ nI (w + 1 + n) from nI_ge (by omega) (by omega)), if_pos hin, bnd (c_changing hT hg1 hh1 hk hw (show w + 1 + n < T.1 by omega) hjw hjv), nI_cl (by omega), e47, bnd e]
    · show cM h (m2R T h w m (n + 1)) s2
      unfold m2R
      rw [hjw, hjv]
      exact c1
  · rintro ⟨a1, s1⟩ ⟨ea, b1, b2⟩
    simp only at ea b1 b2
    subst ea
    have hg1 : gridIs 3 T s1 := grid_eq b2 (by simp only [Dm]; omega) (by simp only [Dm]; omega) (fun z => z) hg
    refine ⟨.inr s1, ?_, b1, b2⟩
    simp only [f_X0_findStep_L82, hg1.1]
    rw [if_pos (show nI T.1 ≤ nI (w + 1 + (T.1 - (w + 1))) from nI_le (by omega) (by omega))]
def mvB (T : tb) (h : hs) : mv := m2A T h (m1A T h T.1) T.1
theorem c_find {T : tb} {h : hs} {s : sx_M} (hT : tb_ok T) (hg : gridIs 3 T s) (hh : hC T h s) (hk : gok T h) (hf : flH T h) : Ev (f_X0_findStep s) (fun r => r.1 = (if gnM (mvB T h) ≤ 0 then 0 else 1) ∧ cM h (mvB T h) r.2 ∧ sx_eq Dm s r.2) := by
  have h7 := hT.1
  have hx0 : sx_eq Dm s (wJ s 46 6 0) := sx_wJ' (sx_rf _ _) ⟨rfl, rfl⟩
  have hc0 : cM h none (wJ s 46 6 0) := ⟨rJ_T ⟨rfl, rfl⟩, fun _ _ _ _ e => by cases e⟩
  have hg0 : gridIs 3 T (wJ s 46 6 0) := grid_eq hx0 (by simp only [Dm]; omega) (by simp only [Dm]; omega) (fun z => z) hg
  have hh0 := hC_eq hx0 (fun z => z) (fun z => z) hh
  obtain ⟨s1, e1, c1, x1⟩ := c_scan1 hT hg0 hh0 hk hf hc0
  have hb1 := m1A_bd hT hk (h := h) T.1 (Nat.le_refl _)
  have hL : Ev (whT f_X0_findStep_L67 (0, s1)) (fun s' => cM h (mvB T h) s' ∧ sx_eq Dm s1 s') := by
    refine ev_f (fun (i : Nat) (a : Int32 × sx_M) => a.1 = nI i ∧ cM h (m2A T h (m1A T h T.1) i) a.2 ∧ sx_eq Dm s1 a.2) T.1 ?_ ?_ (i := 0) (by omega) ⟨rfl, c1, sx_rf _ _⟩
    · rintro i ⟨a1, s2⟩ hi ⟨ea, b1, b2⟩
      simp only at ea b1 b2
      subst ea
      have hg1 : gridIs 3 T s2 := grid_eq (sx_tr x1 b2) (by simp only [Dm]; omega) (by simp only [Dm]; omega) (fun z => z) hg0
      have hh1 := hC_eq (sx_tr x1 b2) (fun z => z) (fun z => z) hh0
      obtain ⟨s3, e, d1, d2⟩ := c_row2 hT hg1 hh1 hk hf hi (m2A_bd hT hk hb1 i (by omega)) b1
      refine ⟨.inl (nI i + 1, s3), ?_, nI_1 i, d1, sx_tr b2 d2⟩
      simp only [f_X0_findStep_L67, hg1.1]
      rw [if_neg (show ¬ nI T.1 ≤ nI i from nI_ge hi (by omega)), nI_1, bnd e]
    · rintro ⟨a1, s2⟩ ⟨ea, b1, b2⟩
      simp only at ea b1 b2
      subst ea
      have hg1 : gridIs 3 T s2 := grid_eq (sx_tr x1 b2) (by simp only [Dm]; omega) (by simp only [Dm]; omega) (fun z => z) hg0
      refine ⟨.inr s2, ?_, b1, b2⟩
      simp only [f_X0_findStep_L67, hg1.1]
      rw [if_pos (show nI T.1 ≤ nI T.1 from nI_le (Nat.le_refl _) (by omega))]
  obtain ⟨s2, e2, c2, x2⟩ := hL
  have hbd : bdM (mvB T h) := m2A_bd hT hk hb1 T.1 (Nat.le_refl _)
  refine ⟨(if gnM (mvB T h) ≤ 0 then 0 else 1, s2), ?_, rfl, c2, sx_tr hx0 (sx_tr x1 x2)⟩
  unfold f_X0_findStep
  rw [bnd e1, bnd e2, c2.1]
  have h1 := hbd.1
  have h2 := hbd.2
  by_cases z : gnM (mvB T h) ≤ 0
  · rw [if_pos z, if_pos (show jJ (gnM (mvB T h)) ≤ 0 from of_eq_true (jJ_le_T (b := 0) z (by omega) (by omega)))]
  · rw [if_neg z, if_neg (show ¬ jJ (gnM (mvB T h)) ≤ 0 from of_eq_false (jJ_le_F (b := 0) (by omega) (by omega) (by omega)))]
