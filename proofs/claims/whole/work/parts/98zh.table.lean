theorem r_table {b : Nat → Nat} {n : Nat} {s : sx_M} (h : tpR b n s) : Ev (f_X12_table s) (fun r => (∀ e, prs b n = .inl e → r.1 = -4 ∧ flR e r.2 ∧ rI r.2 58 4 = 0 ∧ sx_eq ((fun o k => o = 58 ∧ (k = 4 ∨ k = 5 ∨ k = 6 ∨ (8 ≤ k ∧ k ≤ 12)), fun _ _ => False, fun o => o = 62, fun _ => False) : sx_D) s r.2) ∧ ∀ T, prs b n = .inr T → r.1 = nI T.1 ∧ tabIs 59 0 T r.2 ∧ rI r.2 58 2 = 0 ∧ rI r.2 58 4 = 0 ∧ rI r.2 58 5 = 0 ∧ rI r.2 58 6 = -1) := by
  have hn := h.2.1
  have i1 : Ev (whT f_X12_table_L2 (0, s)) (fun s' => (∀ k, k < 58 → rA s' 62 k = 0) ∧ sx_eq (Dar 62) s s') := by
    refine ev_f (fun (i : Nat) (a : Int32 × sx_M) => a.1 = nI i ∧ (∀ k, k < i → rA a.2 62 k = 0) ∧ sx_eq (Dar 62) s a.2) 58 ?_ ?_ (i := 0) (by omega) ⟨rfl, fun w hw => by omega, sx_rf _ _⟩
    · rintro i ⟨a1, s1⟩ hi ⟨ea, b1, b2⟩
      simp only at ea b1 b2
      subst ea
      have hin : ¬ (nI i < 0 ∨ 58 ≤ (nI i).toNatClampNeg) := by
        rw [nI_cl (by omega)]
        exact fun q => q.elim (nI_pos (by omega)) (by omega)
      refine ⟨.inl (nI (i + 1), wA s1 62 i 0), ?_, rfl, fun w hw => ?_, sx_wA' b2 rfl⟩
      · simp only [f_X12_table_L2]
        rw [if_neg (show ¬ 58 ≤ nI i from of_eq_false (nI_le_F (a := 58) hi (by omega))), if_pos hin, nI_cl (by omega), nI_1]
      · show rA (wA s1 62 i 0) 62 w = 0
        by_cases z : w = i
        · exact rA_T ⟨rfl, z⟩
        · rw [rA_F (by omega)]; exact b1 w (by omega)
    · rintro ⟨a1, s1⟩ ⟨ea, b1, b2⟩
      simp only at ea b1 b2
      subst ea
      refine ⟨.inr s1, ?_, b1, b2⟩
      simp only [f_X12_table_L2]
      rw [if_pos (show 58 ≤ nI 58 by decide)]
  obtain ⟨s1, e1, c1, x1⟩ := i1
  have x1' : sx_eq Drd s (wI (wI (wI (wI s1 58 8 0) 58 12 0) 58 5 0) 58 6 (-1)) := sx_wI' (sx_wI' (sx_wI' (sx_wI' (sx_mono x1 (fun _ _ q => q.elim) (fun _ _ q => q) (fun _ q => q) (fun _ q => q)) ⟨rfl, by omega⟩) ⟨rfl, by omega⟩) ⟨rfl, by omega⟩) ⟨rfl, by omega⟩
  have t1 : tpR b n (wI (wI (wI (wI s1 58 8 0) 58 12 0) 58 5 0) 58 6 (-1)) := ⟨⟨(x1'.1 58 4 (by simp only [Drd]; omega)).trans h.1.1, fun i hi => (x1'.2.2.1 61 i (by simp only [Drd]; omega)).trans (h.1.2 i hi)⟩, h.2⟩
  have r8 : rI (wI (wI (wI (wI s1 58 8 0) 58 12 0) 58 5 0) 58 6 (-1)) 58 8 = nI 0 := by rw [rI_F (by omega), rI_F (by omega), rI_F (by omega)]; exact rI_T ⟨rfl, rfl⟩
  have r12 : rI (wI (wI (wI (wI s1 58 8 0) 58 12 0) 58 5 0) 58 6 (-1)) 58 12 = 0 := by rw [rI_F (by omega), rI_F (by omega)]; exact rI_T ⟨rfl, rfl⟩
  have r5 : rI (wI (wI (wI (wI s1 58 8 0) 58 12 0) 58 5 0) 58 6 (-1)) 58 5 = 0 := by rw [rI_F (by omega)]; exact rI_T ⟨rfl, rfl⟩
  have r6 : rI (wI (wI (wI (wI s1 58 8 0) 58 12 0) 58 5 0) 58 6 (-1)) 58 6 = -1 := rI_T ⟨rfl, rfl⟩
  have c1' : ∀ k, k < 58 → rA (wI (wI (wI (wI s1 58 8 0) 58 12 0) 58 5 0) 58 6 (-1)) 62 k = 0 := c1
  unfold f_X12_table
  rw [bnd e1]
  generalize wI (wI (wI (wI s1 58 8 0) 58 12 0) 58 5 0) 58 6 (-1) = s2 at x1' t1 r8 r12 r5 r6 c1' ⊢
  obtain ⟨s3, e3, g3⟩ := r_next (g := 0) t1 (by omega) r8
  have hx3 := fr_f_X12_next _ e3
  have x3 : sx_eq Drd s2 s3 := sx_mono hx3 (fun o k q => by simp only [Drd] at q ⊢; omega) (fun _ _ q => q) (fun _ q => q.elim) (fun _ q => q)
  have hs3 : rSt b n (lx b n 0) 0 0 0 (fun _ _ => none) s3 := by
    refine ⟨⟨⟨(hx3.1 58 4 (by simp only; omega)).trans t1.1.1, fun i hi => (hx3.2.2.1 61 i (fun z => z)).trans (t1.1.2 i hi)⟩, h.2⟩, g3, lx_t (by omega), ⟨(hx3.1 58 12 (by simp only; omega)).trans r12, (hx3.1 58 5 (by simp only; omega)).trans r5, (hx3.1 58 6 (by simp only; omega)).trans r6⟩, (hx3.2.2.1 62 0 (fun z => z)).trans (c1' 0 (by omega)), (hx3.2.2.1 62 1 (fun z => z)).trans (c1' 1 (by omega)), fun w j hj hw => by omega⟩
  rw [bnd e3]
  have kq := (tkEq g3).1
  -- behind the lines
  have endF : ∀ (e : flt) (s4 s5 : sx_M), prs b n = .inl e → whT f_X12_table_L56 s4 = some s5 → flR e s5 → sx_eq Drd s s5 → Ev (f_X12_table_J56 s4) (fun r => (∀ e, prs b n = .inl e → r.1 = -4 ∧ flR e r.2 ∧ rI r.2 58 4 = 0 ∧ sx_eq ((fun o k => o = 58 ∧ (k = 4 ∨ k = 5 ∨ k = 6 ∨ (8 ≤ k ∧ k ≤ 12)), fun _ _ => False, fun o => o = 62, fun _ => False) : sx_D) s r.2) ∧ ∀ T, prs b n = .inr T → r.1 = nI T.1 ∧ tabIs 59 0 T r.2 ∧ rI r.2 58 2 = 0 ∧ rI r.2 58 4 = 0 ∧ rI r.2 58 5 = 0 ∧ rI r.2 58 6 = -1) := by
    intro e s4 s5 hq hL hf hx
    have hf' : flR e (wI s5 58 4 0) := ⟨by rw [rI_F (by omega)]; exact hf.1, by rw [rI_F (by omega)]; exact hf.2.1, by rw [rI_F (by omega)]; exact hf.2.2⟩
    refine ⟨(-4, wI s5 58 4 0), ?_, fun e' he => ?_, fun T he => ?_⟩
    · unfold f_X12_table_J56
      rw [bnd hL, if_neg (flR_n hf')]
    · rw [hq] at he; cases he
      exact ⟨rfl, hf', rI_T ⟨rfl, rfl⟩, sx_wI' (sx_mono hx (fun o k q => by simp only [Drd] at q ⊢; omega) (fun _ _ q => q) (fun _ q => q) (fun _ q => q)) ⟨rfl, Or.inl rfl⟩⟩
    · rw [hq] at he; cases he
  have endT : ∀ (T : tb) (s4 s5 : sx_M), T.1 ≤ 7 → T.2.1 ≤ 8 → prs b n = .inr T → whT f_X12_table_L56 s4 = some s5 → (rI s5 58 12 = 0 ∧ rI s5 58 5 = 0 ∧ rI s5 58 6 = -1) → mdI T.1 T.2.1 0 T.2.2 s5 → Ev (f_X12_table_J56 s4) (fun r => (∀ e, prs b n = .inl e → r.1 = -4 ∧ flR e r.2 ∧ rI r.2 58 4 = 0 ∧ sx_eq ((fun o k => o = 58 ∧ (k = 4 ∨ k = 5 ∨ k = 6 ∨ (8 ≤ k ∧ k ≤ 12)), fun _ _ => False, fun o => o = 62, fun _ => False) : sx_D) s r.2) ∧ ∀ T, prs b n = .inr T → r.1 = nI T.1 ∧ tabIs 59 0 T r.2 ∧ rI r.2 58 2 = 0 ∧ rI r.2 58 4 = 0 ∧ rI r.2 58 5 = 0 ∧ rI r.2 58 6 = -1) := by
    intro T s4 s5 hT1 hT2 hq hL hb hm
    have i2 : Ev (whT f_X12_table_L94 (0, wI s5 58 4 0)) (fun s' => (∀ k, k < 58 → rA s' 59 k = rA s5 62 k) ∧ sx_eq (Dar 59) (wI s5 58 4 0) s') := by
      refine ev_f (fun (i : Nat) (a : Int32 × sx_M) => a.1 = nI i ∧ (∀ k, k < i → rA a.2 59 k = rA s5 62 k) ∧ sx_eq (Dar 59) (wI s5 58 4 0) a.2) 58 ?_ ?_ (i := 0) (by omega) ⟨rfl, fun w hw => by omega, sx_rf _ _⟩
      · rintro i ⟨a1, s6⟩ hi ⟨ea, b1, b2⟩
        simp only at ea b1 b2
        subst ea
        have hin : ¬ (nI i < 0 ∨ 58 ≤ (nI i).toNatClampNeg) := by
          rw [nI_cl (by omega)]
          exact fun q => q.elim (nI_pos (by omega)) (by omega)
        have h62 : rA s6 62 i = rA s5 62 i := b2.2.2.1 62 i (by simp only [Dar]; omega)
        refine ⟨.inl (nI (i + 1), wA s6 59 i (rA s5 62 i)), ?_, rfl, fun w hw => ?_, sx_wA' b2 rfl⟩
        · simp only [f_X12_table_L94]
          rw [if_neg (show ¬ 58 ≤ nI i from of_eq_false (nI_le_F (a := 58) hi (by omega))), if_pos hin, if_pos hin, nI_cl (by omega), h62, nI_1]
        · show rA (wA s6 59 i (rA s5 62 i)) 59 w = _
          by_cases z : w = i
          · rw [rA_T ⟨rfl, z⟩, z]
          · rw [rA_F (by omega)]; exact b1 w (by omega)
      · rintro ⟨a1, s6⟩ ⟨ea, b1, b2⟩
        simp only at ea b1 b2
        subst ea
        refine ⟨.inr s6, ?_, b1, b2⟩
        simp only [f_X12_table_L94]
        rw [if_pos (show 58 ≤ nI 58 by decide)]
    obtain ⟨s6, e6, c6, x6⟩ := i2
    have htab : tabIs 59 0 T (wI s6 58 2 0) := by
      refine ⟨(c6 0 (by omega)).trans hm.1, (c6 1 (by omega)).trans hm.2.1, fun w j hw hj => ?_⟩
      show rA s6 59 (0 + 2 + (8 * w + j)) = _
      rw [show 0 + 2 + (8 * w + j) = 2 + (8 * w + j) by omega, c6 _ (by omega)]
      exact hm.2.2 w j hj (Or.inl hw)
    refine ⟨(nI T.1, wI s6 58 2 0), ?_, fun e he => ?_, fun T' he => ?_⟩
    · unfold f_X12_table_J56
      rw [bnd hL, if_pos (show rI (wI s5 58 4 0) 58 12 = 0 by rw [rI_F (by omega)]; exact hb.1), bnd e6, bnd (f_wk htab)]
    · rw [hq] at he; cases he
    · rw [hq] at he; cases he
      refine ⟨rfl, htab, rI_T ⟨rfl, rfl⟩, ?_, ?_, ?_⟩
      · rw [rI_F (by omega), x6.1 58 4 (fun z => z)]; exact rI_T ⟨rfl, rfl⟩
      · rw [rI_F (by omega), x6.1 58 5 (fun z => z), rI_F (by omega)]; exact hb.2.1
      · rw [rI_F (by omega), x6.1 58 6 (fun z => z), rI_F (by omega)]; exact hb.2.2
  by_cases z0 : (lx b n 0).1 = 0
  · have hq : prs b n = .inr (0, 0, fun _ _ => none) := by unfold prs; rw [if_pos z0]
    have eL : whT f_X12_table_L56 s3 = some s3 := by
      rw [whT_eq]
      unfold f_X12_table_L56
      rw [if_pos hs3.2.2.2.1.1, if_pos (kq.mpr z0)]
      rfl
    rw [if_pos (kq.mpr z0)]
    exact endT (0, 0, fun _ _ => none) s3 s3 (by decide) (by decide) hq eL hs3.2.2.2.1 hs3.2.2.2.2
  rw [if_neg (fun q => z0 (kq.mp q))]
  obtain ⟨s4, e4, d1, d2⟩ := r_jobs hs3
  have x4 : sx_eq Drd s3 s4 := sx_mono (fr_f_X12_readsJobs _ e4) (fun o k q => by simp only [Drd] at q ⊢; omega) (fun _ _ q => q) (fun _ q => q) (fun _ q => q)
  have xs4 := sx_tr x1' (sx_tr x3 x4)
  rw [bnd e4]
  cases hp : prsJ b n (lx b n 0) with
  | inl e =>
    have hf := d1 e hp
    have hq : prs b n = .inl e := by unfold prs; rw [if_neg z0, hp]
    refine endF e s4 s4 hq ?_ hf xs4
    rw [whT_eq]
    unfold f_X12_table_L56
    rw [if_neg (flR_n hf)]
    rfl
  | inr x =>
    obtain ⟨hJ, hs4⟩ := d2 x hp
    obtain ⟨s5, e5, f1, f2, f3⟩ := r_wrks hJ 8 0 x.2 (fun _ _ => none) s4 (by omega) (by omega) (fun w j y e => by cases e) hs4
    cases hw : wrks b n x.1 8 0 x.2 (fun _ _ => none) with
    | inl e =>
      have hq : prs b n = .inl e := by unfold prs; rw [if_neg z0, hp]; simp only [hw]
      exact endF e s4 s5 hq e5 (f1 e hw) (sx_tr xs4 f3)
    | inr y =>
      have hq : prs b n = .inr (y.1, x.1, y.2) := by unfold prs; rw [if_neg z0, hp]; simp only [hw]
      obtain ⟨g1, g2⟩ := f2 y hw
      have hy7 : y.1 ≤ 7 := by
        have key : ∀ (m W : Nat) (t : tok) (C : cst), W ≤ 7 → ∀ y, wrks b n x.1 m W t C = .inr y → y.1 ≤ 7 := by
          intro m
          induction m with
          | zero => intro W t C _ y h; cases h
          | succ m ih =>
            intro W t C hW y h
            unfold wrks at h
            by_cases z : t.1 = 0
            · rw [if_pos z] at h; cases h; exact hW
            · rw [if_neg z] at h
              cases hc : wrk b n x.1 W t C with
              | inl e => rw [hc] at h; cases h
              | inr r =>
                rw [hc] at h
                have hW7 : W < 7 := by
                  unfold wrk at hc
                  by_cases q1 : t.1 ≠ 4
                  · rw [if_pos q1] at hc; cases hc
                  · rw [if_neg q1] at hc
                    by_cases q2 : 7 ≤ W
                    · rw [if_pos q2] at hc; cases hc
                    · omega
                exact ih (W + 1) r.2 r.1 (by omega) y h
        exact key 8 0 x.2 _ (by omega) y hw
      exact endT (y.1, x.1, y.2) s4 s5 hy7 hJ hq e5 g1 g2
theorem i32_any (x : Int32) : ∃ a, x = nI a := by
  refine ⟨x.toBitVec.toNat, ?_⟩
  apply Int32.toBitVec.inj
  show x.toBitVec = BitVec.ofNat 32 x.toBitVec.toNat
  rw [BitVec.ofNat_toNat, BitVec.setWidth_eq]
theorem and_255 (x : Int32) : ∃ c, c < 256 ∧ x &&& 255 = nI c := by
  obtain ⟨a, rfl⟩ := i32_any x
  refine ⟨a &&& 255, ?_, nI_and a 255⟩
  have := Nat.and_le_right (n := a) (m := 255)
  omega
theorem stp_2 : st_ok_2 Rel := by
  intro s ⟨A, hok, hc, hr⟩
  have hn : A.2.2.1.1 ≤ 600 := hok.2.2.2
  obtain ⟨b, hb⟩ : ∃ b : Nat → Nat, (∀ k, b k < 256) ∧ ∀ k, k < A.2.2.1.1 → A.2.2.1.2 k = nI (b k) := by
    have key : ∀ k, ∃ c, c < 256 ∧ (k < A.2.2.1.1 → A.2.2.1.2 k = nI c) := by
      intro k
      obtain ⟨c, h1, h2⟩ := and_255 (rA s 2 k)
      exact ⟨c, h1, fun hk => by rw [← hc.2.2.2.2.1.2 k hk, h2]⟩
    exact ⟨fun k => Classical.choose (key k), fun k => (Classical.choose_spec (key k)).1, fun k => (Classical.choose_spec (key k)).2⟩
  have tC : ∀ s, clA A s → tpC b A.2.2.1.1 s := fun s hc => ⟨⟨hc.2.2.2.2.1.1, fun k hk => by rw [hc.2.2.2.2.1.2 k hk]; exact hb.2 k hk⟩, hn, hb.1⟩
  have tR : ∀ s, rfA A s → tpR b A.2.2.1.1 s := fun s hr => ⟨⟨hr.2.2.1.1, fun k hk => by rw [hr.2.2.1.2 k hk]; exact hb.2 k hk⟩, hn, hb.1⟩
  have cut : ∀ s, rI s 1 1 = nI A.2.2.1.1 → f_X9_cut 0 s = some (1, wI s 1 1 0) := fun s h => by
    unfold f_X9_cut
    rw [if_neg (by decide), h, if_pos (show (0 : Int32) ≤ nI A.2.2.1.1 from nI_le (a := 0) (by omega) (by omega))]
  cases hp : prs b A.2.2.1.1 with
  | inl e =>
    refine st_a (f1 := f_X11_table) (f2 := f_X12_table) (-4) (A' := (A.1, A.2.1, (0, A.2.2.1.2), (nI e.1, nI e.2))) ⟨hok.1, hok.2.1, hok.2.2.1, Nat.zero_le _⟩ hc hr (fun hc => ?_) lo_X11_table (fun s1 hr1 => ?_) hi_X12_table
    · obtain ⟨⟨r1, s1⟩, e1, f1, _⟩ := c_read (tC s hc)
      have hf := f1 e hp
      have hx : sx_eq xS_X6_read s s1 := fr_f_X6_read _ e1
      obtain ⟨a1, a2, a3, a4, a5, a6, a7⟩ := hc
      have h11 : rI s1 1 1 = nI A.2.2.1.1 := (hx.1 1 1 (by simp only; omega)).trans a5.1
      refine ⟨(-4, wI s1 1 1 0), ?_, rfl, ?_⟩
      · unfold f_X11_table
        rw [bnd e1, bnd (cut s1 h11), if_pos hf.1]
      · have hx2 : sx_eq ((fun o k => o = 1 ∧ k = 1, fun _ _ => False, fun _ => False, fun _ => False) : sx_D) s1 (wI s1 1 1 0) := sx_wI' (sx_rf _ _) ⟨rfl, rfl⟩
        refine ⟨grid_eq hx2 (by simp only; omega) (by simp only; omega) (fun z => z) (grid_eq hx (by simp only; omega) (by simp only; omega) (by simp only; omega) a1), ranks_eq hx2 (fun z => z) (fun z => z) (fun z => z) (ranks_eq hx (fun z => z) (by simp only; omega) (by simp only; omega) a2), order_eq hx2 (by simp only; omega) (by simp only; omega) (fun z => z) (fun z => z) (order_eq hx (by simp only; omega) (by simp only; omega) (fun z => z) (by simp only; omega) a3), chist_eq hx2 (fun o k q1 q2 => by simp only; omega) (fun o q1 q2 => fun z => z) (chist_eq hx (fun o k q1 q2 => by simp only; omega) (fun o q1 q2 => by simp only; omega) a4), ⟨rI_T ⟨rfl, rfl⟩, fun k hk => absurd hk (Nat.not_lt_zero k)⟩, by rw [rI_F (by omega)]; exact hf.2.1, by rw [rI_F (by omega)]; exact hf.2.2⟩
    · obtain ⟨⟨r1, s2⟩, e1, f1, _⟩ := r_table (tR s1 hr1)
      obtain ⟨g1, g2, g3, g4⟩ := f1 e hp
      obtain ⟨a1, a2, a3, a4, a5⟩ := hr1
      refine ⟨(r1, s2), e1, g1, tab_eq g4 (by simp only; omega) a1, ⟨(g4.1 58 2 (by simp only; omega)).trans a2.1, fun i T hi => tab_eq g4 (by simp only; omega) (a2.2 i T hi)⟩, ⟨g3, fun k hk => absurd hk (Nat.not_lt_zero k)⟩, g2.2.1, g2.2.2⟩
  | inr T =>
    have hTok : tb_ok T := by
      obtain ⟨_, _, _, f2⟩ := c_read (tC s hc)
      exact (f2 T hp).2.1
    refine st_a (f1 := f_X11_table) (f2 := f_X12_table) (nI T.1) (A' := (T, [], (0, A.2.2.1.2), (0, -1))) ⟨hTok, (fun T' h => by cases h), Nat.zero_le _, Nat.zero_le _⟩ hc hr (fun hc => ?_) lo_X11_table (fun s1 hr1 => ?_) hi_X12_table
    · obtain ⟨⟨r1, s1⟩, e1, _, f2⟩ := c_read (tC s hc)
      obtain ⟨g1, _, g3, g4, g5⟩ := f2 T hp
      simp only at g1 g3 g4 g5
      subst g1
      have hx : sx_eq xS_X6_read s s1 := fr_f_X6_read _ e1
      obtain ⟨a1, a2, a3, a4, a5, a6, a7⟩ := hc
      have h11 : rI s1 1 1 = nI A.2.2.1.1 := (hx.1 1 1 (by simp only; omega)).trans a5.1
      have hx2 : sx_eq ((fun o k => o = 1 ∧ k = 1, fun _ _ => False, fun _ => False, fun _ => False) : sx_D) s1 (wI s1 1 1 0) := sx_wI' (sx_rf _ _) ⟨rfl, rfl⟩
      have g32 : gridIs 13 T (wI s1 1 1 0) := grid_eq hx2 (by simp only; omega) (by simp only; omega) (fun z => z) g3
      obtain ⟨s3, e3, g33⟩ := ev_copy (g := 3) (g2 := 13) (gridF_T.mp g32) (by omega) hTok.1 hTok.2.1
      have hx3 := fr_f_X1_copy 3 13 _ ax_G3 ax_G13 e3
      have hx4 : sx_eq ((fun o k => o = 20 ∧ k = 2, fun _ _ => False, fun _ => False, fun _ => False) : sx_D) s3 (wI s3 20 2 0) := sx_wI' (sx_rf _ _) ⟨rfl, rfl⟩
      have g34 : gridIs 3 T (wI s3 20 2 0) := grid_eq hx4 (by simp only; omega) (by simp only; omega) (fun z => z) (gridF_T.mpr g33)
      obtain ⟨s5, e5, k1, k2, k3⟩ := ev_changed hTok g34
      have hx5 := fr_f_X11_changed _ e5
      have e4 : f_X2_clear s3 = some (wI s3 20 2 0) := rfl
      obtain ⟨o, ho, o1, _, _⟩ := a4
      refine ⟨(nI T.1, s5), ?_, rfl, k2, k1, Or.inl k3, ⟨o, ho, ?_, ?_, fun i T' _ h => by simp at h⟩, ⟨?_, fun k hk => absurd hk (Nat.not_lt_zero k)⟩, ?_, ?_⟩
      · unfold f_X11_table
        rw [bnd e1, bnd (cut s1 h11), if_neg n1_0, bnd e3, bnd e4, bnd e5, k2.1]
      · rw [hx5.1 20 1 (by simp only; omega), rI_F (by omega), hx3.1 20 1 (by simp only; omega), rI_F (by omega), hx.1 20 1 (by simp only; omega)]; exact o1
      · rw [hx5.1 20 2 (by simp only; omega), rI_T ⟨rfl, rfl⟩]; rfl
      · rw [hx5.1 1 1 (by simp only; omega), rI_F (by omega), hx3.1 1 1 (by simp only; omega), rI_T ⟨rfl, rfl⟩]; rfl
      · rw [hx5.1 19 6 (by simp only; omega), rI_F (by omega), hx3.1 19 6 (by simp only; omega), rI_F (by omega)]; exact g4
      · rw [hx5.1 19 7 (by simp only; omega), rI_F (by omega), hx3.1 19 7 (by simp only; omega), rI_F (by omega)]; exact g5
    · obtain ⟨⟨r1, s2⟩, e1, _, f2⟩ := r_table (tR s1 hr1)
      obtain ⟨g1, g2, g3, g4, g5, g6⟩ := f2 T hp
      exact ⟨(r1, s2), e1, g1, g2, ⟨g3, fun i T' h => by simp at h⟩, ⟨g4, fun k hk => absurd hk (Nat.not_lt_zero k)⟩, g5, g6⟩
