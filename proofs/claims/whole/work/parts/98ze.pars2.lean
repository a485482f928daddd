theorem c_costs {b : Nat → Nat} {n W J : Nat} (hW : W < 7) (hJ : J ≤ 8) : ∀ (m k : Nat) (t : tok) (C : cst) (s : sx_M), J + 1 ≤ k + m → k ≤ J → t.1 ≠ 0 → cSt b n t (W + 1) J C s → Ev (whT f_X6_readWorker_L44 (nI k, s)) (fun r => (∀ e, costs b n J W m k (lx b n t.2.2.1) C = .inl e → ∃ s', r = .inr (0, s') ∧ flC e (0, s')) ∧ ∀ x, costs b n J W m k (lx b n t.2.2.1) C = .inr x → ∃ s', r = .inl (nI x.1, s') ∧ cSt b n x.2.2 (W + 1) J x.2.1 s')
  | 0, k, t, C, s, hm, hk, _, _ => by omega
  | m + 1, k, t, C, s, hm, hk, h0, hs => by
    obtain ⟨s1, e1, c1⟩ := c_go hs h0
    obtain ⟨⟨r2, s2⟩, e2, d1, d2⟩ := c_cost hW hJ hk c1
    have h3 := c1.2.2.1
    cases hc : cost1 b n J k (lx b n t.2.2.1) with
    | inl e =>
      have hf := d1 e hc
      have er : r2 = 0 := hf.1
      subst er
      have hq : costs b n J W (m + 1) k (lx b n t.2.2.1) C = .inl e := by unfold costs; rw [hc]
      refine ⟨.inr (0, s2), ?_, fun e' he => ?_, fun x he => ?_⟩
      · rw [whT_eq]
        simp only [f_X6_readWorker_L44]
        rw [bnd e1, bnd e2, if_pos rfl]
        rfl
      · rw [hq] at he; cases he; exact ⟨s2, rfl, hf⟩
      · rw [hq] at he; cases he
    | inr r =>
      obtain ⟨c, t'⟩ := r
      obtain ⟨g1, g2⟩ := d2 c t' hc
      simp only at g1 g2
      subst g1
      obtain ⟨k1, k2, k3⟩ := cost1_ok h3 hc
      have kEq : rI s2 19 2 = nI 7 ↔ t'.1 = 7 := by
        rw [g2.2.1.1]
        exact nI_lit_eq (by have := k2.1; omega) (by omega)
      by_cases z : t'.1 = 7
      · have hq : costs b n J W (m + 1) k (lx b n t.2.2.1) C = costs b n J W m (k + 1) (lx b n t'.2.2.1) (upC C W k c) := by
          conv => lhs; unfold costs
          rw [hc]
          simp only []
          rw [if_pos z]
        rw [hq]
        obtain ⟨r, e, f1⟩ := c_costs hW hJ m (k + 1) t' (upC C W k c) s2 (by omega) (by omega) (by omega) g2
        refine ⟨r, ?_, f1⟩
        rw [whT_eq]
        have : f_X6_readWorker_L44 (nI k, s) = some (.inl (nI (k + 1), s2)) := by
          simp only [f_X6_readWorker_L44]
          rw [bnd e1, bnd e2, if_neg n1_0, if_pos (show rI s2 19 2 = 7 from kEq.mpr z), nI_1, if_pos (show nI (k + 1) ≤ 8 from nI_le (b := 8) (by omega) (by omega))]
        rw [this]
        exact e
      · have hq : costs b n J W (m + 1) k (lx b n t.2.2.1) C = .inr (k + 1, upC C W k c, t') := by
          conv => lhs; unfold costs
          rw [hc]
          simp only []
          rw [if_neg z]
        refine ⟨.inl (nI (k + 1), s2), ?_, fun e' he => ?_, fun x he => ?_⟩
        · rw [whT_eq]
          simp only [f_X6_readWorker_L44]
          rw [bnd e1, bnd e2, if_neg n1_0, if_neg (show ¬ rI s2 19 2 = 7 from fun q => z (kEq.mp q)), nI_1]
          rfl
        · rw [hq] at he; cases he
        · rw [hq] at he; cases he; exact ⟨s2, rfl, g2⟩
theorem c_wrk {b : Nat → Nat} {n W J : Nat} {t : tok} {C : cst} {s : sx_M} (hW : W ≤ 7) (hJ : J ≤ 8) (h0 : t.1 ≠ 0) (hC : CI J W 0 C) (hs : cSt b n t W J C s) : Ev (f_X6_readWorker s) (fun r => (∀ e, wrk b n J W t C = .inl e → flC e r) ∧ ∀ x, wrk b n J W t C = .inr x → r.1 = 1 ∧ cSt b n x.2 (W + 1) J x.1 r.2) := by
  obtain ⟨h1, h2, h3, h4, h5, h6⟩ := hs
  have K8 := h3.1
  have kEq : ∀ c, c < 256 → (rI s 19 2 = nI c ↔ t.1 = c) := fun c hc => by rw [h2.1]; exact nI_lit_eq (by omega) hc
  have fail : ∀ (s : sx_M) (t1 : tok), tkC t1 s → ∀ q, wrk b n J W t C = .inl (q, t1.2.1) → Ev ((f_X6_fail (nI q) s).bind (fun p => if (p.1 = 0 ∨ p.1 = 1) then some (p.1, p.2) else none)) (fun r => (∀ e, wrk b n J W t C = .inl e → flC e r) ∧ ∀ x, wrk b n J W t C = .inr x → r.1 = 1 ∧ cSt b n x.2 (W + 1) J x.1 r.2) := by
    intro s t1 ht q hq
    obtain ⟨r, e, hr⟩ := c_fail ht q
    refine ⟨r, e, fun e' he => ?_, fun x he => ?_⟩
    · rw [hq] at he; cases he; exact hr
    · rw [hq] at he; cases he
  unfold f_X6_readWorker
  by_cases z1 : t.1 ≠ 4
  · rw [if_neg (show ¬ rI s 19 2 = 4 from fun q => z1 ((kEq 4 (by omega)).mp q))]
    exact fail s t h2 1 (by unfold wrk; rw [if_pos z1])
  have z1' : t.1 = 4 := Decidable.byContradiction z1
  rw [if_pos (show rI s 19 2 = 4 from (kEq 4 (by omega)).mpr z1'), h4.1]
  by_cases z2 : 7 ≤ W
  · rw [if_neg (show ¬ nI W < 7 from of_eq_false (nI_lt_F (b := 7) z2 (by omega)))]
    exact fail s t h2 3 (by unfold wrk; rw [if_neg z1, if_pos z2])
  rw [if_pos (show nI W < 7 from of_eq_true (nI_lt_T (b := 7) (by omega) (by omega)))]
  obtain ⟨s1, e1, g1⟩ := ev_addWorker (g := 13) (show W < 7 by omega) hJ h4 9223372036854775807
  have hx := fr_f_X1_addWorker 13 _ _ ax_G13 e1
  have hs1 : cSt b n t (W + 1) J C s1 := by
    refine ⟨⟨⟨(hx.1 1 1 (by simp only; omega)).trans h1.1.1, fun i hi => by rw [hx.2.2.1 2 i (fun z => z)]; exact h1.1.2 i hi⟩, h1.2⟩, ⟨(hx.1 19 2 (by simp only; omega)).trans h2.1, (hx.1 19 3 (by simp only; omega)).trans h2.2.1, fun q => (hx.1 19 4 (by simp only; omega)).trans (h2.2.2.1 q), fun q => (hx.1 19 5 (by simp only; omega)).trans (h2.2.2.2 q)⟩, h3, gridF_ext g1 (fun a d _ _ => ?_), (hx.1 19 6 (by simp only; omega)).trans h5, (hx.1 19 7 (by simp only; omega)).trans h6⟩
    by_cases z : a = W
    · rw [if_pos z]
      cases hx : C a d with
      | none => rfl
      | some x =>
        have := hC a d x hx
        omega
    · rw [if_neg z]
  obtain ⟨r2, e2, c1, c2⟩ := c_costs (show W < 7 by omega) hJ (J + 1) 0 t C s1 (by omega) (by omega) h0 hs1
  have e2 : whT f_X6_readWorker_L44 (0, s1) = some r2 := e2
  rw [bnd e1, bnd e2]
  cases hc : costs b n J W (J + 1) 0 (lx b n t.2.2.1) C with
  | inl e =>
    obtain ⟨s', er, hf⟩ := c1 e hc
    subst er
    have hq : wrk b n J W t C = .inl e := by unfold wrk; rw [if_neg z1, if_neg z2, hc]
    refine ⟨(0, s'), rfl, fun e' he => ?_, fun x he => ?_⟩
    · rw [hq] at he; cases he; exact hf
    · rw [hq] at he; cases he
  | inr x =>
    obtain ⟨s', er, hs'⟩ := c2 x hc
    subst er
    obtain ⟨k1, k2, k3⟩ := costs_ok (J + 1) 0 _ C (lx_t h3.2.2.1) hC x hc
    have kEq1 : rI s' 19 2 = nI 6 ↔ x.2.2.1 = 6 := by
      rw [hs'.2.1.1]
      exact nI_lit_eq (by have := k3.1; omega) (by omega)
    show Ev (if rI s' 19 2 = 6 then (if rI s' 13 2 ≤ nI x.1 then (f_X6_step s').bind (fun p6 => some ((1 : Int32), p6)) else (f_X6_fail 4 s').bind (fun p7 => if (p7.1 = 0 ∨ p7.1 = 1) then some (p7.1, p7.2) else none)) else (f_X6_fail 1 s').bind (fun p8 => if (p8.1 = 0 ∨ p8.1 = 1) then some (p8.1, p8.2) else none)) _
    by_cases z3 : x.2.2.1 ≠ 6
    · rw [if_neg (show ¬ rI s' 19 2 = 6 from fun q => z3 (kEq1.mp q))]
      exact fail s' x.2.2 hs'.2.1 1 (by unfold wrk; rw [if_neg z1, if_neg z2, hc]; simp only []; rw [if_pos z3])
    have z3' : x.2.2.1 = 6 := Decidable.byContradiction z3
    rw [if_pos (show rI s' 19 2 = 6 from kEq1.mpr z3'), hs'.2.2.2.1.2.1]
    by_cases z4 : x.1 < J
    · rw [if_neg (show ¬ nI J ≤ nI x.1 from nI_ge z4 (by omega))]
      exact fail s' x.2.2 hs'.2.1 4 (by unfold wrk; rw [if_neg z1, if_neg z2, hc]; simp only []; rw [if_neg z3, if_pos z4])
    · rw [if_pos (show nI J ≤ nI x.1 from nI_le (by omega) (by omega))]
      obtain ⟨s3, e3, g3⟩ := c_go hs' (by omega)
      have hq : wrk b n J W t C = .inr (x.2.1, lx b n x.2.2.2.2.1) := by unfold wrk; rw [if_neg z1, if_neg z2, hc]; simp only []; rw [if_neg z3, if_neg z4]
      rw [bnd e3]
      refine ⟨(1, s3), rfl, fun e' he => ?_, fun y he => ?_⟩
      · rw [hq] at he; cases he
      · rw [hq] at he; cases he; exact ⟨rfl, g3⟩
theorem c_wrks {b : Nat → Nat} {n J : Nat} (hJ : J ≤ 8) : ∀ (m W : Nat) (t : tok) (C : cst) (s : sx_M), 8 ≤ W + m → W ≤ 7 → CI J W 0 C → cSt b n t W J C s → Ev (whT f_X6_read_L42 (1, nI W, s)) (fun r => (∀ e, wrks b n J m W t C = .inl e → flC e r) ∧ ∀ x, wrks b n J m W t C = .inr x → r.1 = 1 ∧ (x.1 ≤ 7 ∧ CI J x.1 0 x.2) ∧ gridF 13 x.1 J (fun a d => c64 (x.2 a d)) r.2 ∧ rI r.2 19 6 = 0 ∧ rI r.2 19 7 = -1)
  | 0, W, t, C, s, hm, hW, _, _ => by omega
  | m + 1, W, t, C, s, hm, hW, hC, hs => by
    have h3 := hs.2.2.1
    have kEq : rI s 19 2 = nI 0 ↔ t.1 = 0 := by
      rw [hs.2.1.1]
      exact nI_lit_eq (by have := h3.1; omega) (by omega)
    by_cases z : t.1 = 0
    · have hq : wrks b n J (m + 1) W t C = .inr (W, C) := by unfold wrks; rw [if_pos z]
      refine ⟨(1, s), ?_, fun e he => ?_, fun x he => ?_⟩
      · rw [whT_eq]
        simp only [f_X6_read_L42]
        rw [if_neg n1_0, if_pos (show rI s 19 2 = 0 from kEq.mpr z)]
        rfl
      · rw [hq] at he; cases he
      · rw [hq] at he; cases he; exact ⟨rfl, ⟨hW, hC⟩, hs.2.2.2.1, hs.2.2.2.2⟩
    · obtain ⟨⟨r1, s1⟩, e1, c1, c2⟩ := c_wrk hW hJ z hC hs
      have pre : f_X6_read_L42 (1, nI W, s) = some (.inl (r1, nI (W + 1), s1)) := by
        simp only [f_X6_read_L42]
        rw [if_neg n1_0, if_neg (show ¬ rI s 19 2 = 0 from fun q => z (kEq.mp q)), if_neg (show ¬ 600 ≤ nI W from of_eq_false (nI_le_F (a := 600) (by omega) (by omega))), bnd e1, nI_1]
      cases hc : wrk b n J W t C with
      | inl e =>
        have hf := c1 e hc
        have er : r1 = 0 := hf.1
        subst er
        have hq : wrks b n J (m + 1) W t C = .inl e := by unfold wrks; rw [if_neg z, hc]
        refine ⟨(0, s1), ?_, fun e' he => ?_, fun x he => ?_⟩
        · rw [whT_eq, pre]
          show whT f_X6_read_L42 (0, nI (W + 1), s1) = _
          rw [whT_eq]
          simp only [f_X6_read_L42]
          rw [if_pos trivial]
          rfl
        · rw [hq] at he; cases he; exact hf
        · rw [hq] at he; cases he
      | inr x =>
        obtain ⟨g1, g2⟩ := c2 x hc
        simp only at g1 g2
        subst g1
        obtain ⟨k1, k2, k3⟩ := wrk_ok h3 hC hc
        have hq : wrks b n J (m + 1) W t C = wrks b n J m (W + 1) x.2 x.1 := by
          conv => lhs; unfold wrks
          rw [if_neg z, hc]
        rw [hq]
        obtain ⟨r, e, f1⟩ := c_wrks hJ m (W + 1) x.2 x.1 s1 (by omega) (by omega) k2 g2
        refine ⟨r, ?_, f1⟩
        rw [whT_eq, pre]
        exact e
theorem c_read {b : Nat → Nat} {n : Nat} {s : sx_M} (h : tpC b n s) : Ev (f_X6_read s) (fun r => (∀ e, prs b n = .inl e → flC e r) ∧ ∀ T, prs b n = .inr T → r.1 = 1 ∧ tb_ok T ∧ gridIs 13 T r.2 ∧ rI r.2 19 6 = 0 ∧ rI r.2 19 7 = -1) := by
  have hn := h.2.1
  have hg0 : ∀ s0, rI s0 13 1 = 0 → rI s0 13 2 = 0 → ∀ C : cst, gridF 13 0 0 (fun a d => c64 (C a d)) s0 := fun s0 q1 q2 C => ⟨q1, q2, fun w j hw => by omega⟩
  have t1 : tpC b n (wI (wI (wI (wI (wI s 13 1 0) 13 2 0) 19 6 0) 19 7 (-1)) 19 4 0) := tpC_w (by omega) (tpC_w (by omega) (tpC_w (by omega) (tpC_w (by omega) (tpC_w (by omega) h))))
  obtain ⟨s1, e1, c1, c2⟩ := c_step (g := 0) t1 (by omega) (rI_T ⟨rfl, rfl⟩)
  have hx := fr_f_X6_step _ e1
  have r13a : rI s1 13 1 = 0 := by rw [hx.1 13 1 (by simp only; omega), rI_F (by omega), rI_F (by omega), rI_F (by omega), rI_F (by omega)]; exact rI_T ⟨rfl, rfl⟩
  have r13b : rI s1 13 2 = 0 := by rw [hx.1 13 2 (by simp only; omega), rI_F (by omega), rI_F (by omega), rI_F (by omega)]; exact rI_T ⟨rfl, rfl⟩
  have r196 : rI s1 19 6 = 0 := by rw [hx.1 19 6 (by simp only; omega), rI_F (by omega), rI_F (by omega)]; exact rI_T ⟨rfl, rfl⟩
  have r197 : rI s1 19 7 = -1 := by rw [hx.1 19 7 (by simp only; omega), rI_F (by omega)]; exact rI_T ⟨rfl, rfl⟩
  have hs1 : cSt b n (lx b n 0) 0 0 (fun _ _ => none) s1 := ⟨c2, c1, lx_t (by omega), hg0 s1 r13a r13b _, r196, r197⟩
  have K0 := (lx_t (b := b) (n := n) (g := 0) (by omega))
  have kEq : ∀ c, c < 256 → (rI s1 19 2 = nI c ↔ (lx b n 0).1 = c) := fun c hc => by rw [c1.1]; exact nI_lit_eq (by have := K0.1; omega) hc
  unfold f_X6_read f_X1_clear
  show Ev ((f_X6_step (wI (wI (wI (wI (wI s 13 1 0) 13 2 0) 19 6 0) 19 7 (-1)) 19 4 0)).bind _) _
  rw [bnd e1]
  by_cases z0 : (lx b n 0).1 = 0
  · have hq : prs b n = .inr (0, 0, fun _ _ => none) := by unfold prs; rw [if_pos z0]
    rw [if_pos (show rI s1 19 2 = 0 from (kEq 0 (by omega)).mpr z0)]
    refine ⟨(1, s1), rfl, fun e he => ?_, fun T he => ?_⟩
    · rw [hq] at he; cases he
    · rw [hq] at he; cases he
      exact ⟨rfl, ⟨by decide, by decide, (fun w j x e => by cases e), fun _ _ _ => rfl⟩, hg0 s1 r13a r13b _, r196, r197⟩
  rw [if_neg (show ¬ rI s1 19 2 = 0 from fun q => z0 ((kEq 0 (by omega)).mp q))]
  -- what a fault in the first line leads to
  have stop : ∀ (e : flt) (r : Int32 × sx_M), prsJ b n (lx b n 0) = .inl e → flC e r → Ev ((whT f_X6_read_L42 (r.1, 0, r.2)).bind (fun b5 => if (b5.1 = 0 ∨ b5.1 = 1) then some (b5.1, b5.2) else none)) (fun r => (∀ e, prs b n = .inl e → flC e r) ∧ ∀ T, prs b n = .inr T → r.1 = 1 ∧ tb_ok T ∧ gridIs 13 T r.2 ∧ rI r.2 19 6 = 0 ∧ rI r.2 19 7 = -1) := by
    intro e r hp hf
    have hq : prs b n = .inl e := by unfold prs; rw [if_neg z0, hp]
    obtain ⟨r1, s2⟩ := r
    have er : r1 = 0 := hf.1
    subst er
    have eL : whT f_X6_read_L42 (0, 0, s2) = some (0, s2) := by
      rw [whT_eq]
      simp only [f_X6_read_L42]
      rw [if_pos trivial]
      rfl
    rw [bnd eL, if_pos (Or.inl rfl)]
    refine ⟨(0, s2), rfl, fun e' he => ?_, fun T he => ?_⟩
    · rw [hq] at he; cases he; exact hf
    · rw [hq] at he; cases he
  unfold f_X6_readJobs f_X6_readJobs_J49
  by_cases z1 : (lx b n 0).1 ≠ 3
  · rw [if_neg (show ¬ rI s1 19 2 = 3 from fun q => z1 ((kEq 3 (by omega)).mp q))]
    obtain ⟨r, er, hf⟩ := c_fail c1 1
    have er : ((f_X6_fail 1 s1).bind (fun p => if (p.1 = 0 ∨ p.1 = 1) then some (p.1, p.2) else none)) = some r := er
    rw [bnd er]
    exact stop _ r (by unfold prsJ; rw [if_pos z1]) hf
  have z1' : (lx b n 0).1 = 3 := Decidable.byContradiction z1
  rw [if_pos (show rI s1 19 2 = 3 from (kEq 3 (by omega)).mpr z1')]
  obtain ⟨s2, e2, hs2⟩ := c_go hs1 (by omega)
  have K1 := hs2.2.2.1
  have kEq2 : ∀ c, c < 256 → (rI s2 19 2 = nI c ↔ (lx b n (lx b n 0).2.2.1).1 = c) := fun c hc => by rw [hs2.2.1.1]; exact nI_lit_eq (by have := K1.1; omega) hc
  rw [bnd e2]
  by_cases z2 : (lx b n (lx b n 0).2.2.1).1 ≠ 2
  · rw [if_neg (show ¬ rI s2 19 2 = 2 from fun q => z2 ((kEq2 2 (by omega)).mp q))]
    obtain ⟨r, er, hf⟩ := c_fail hs2.2.1 1
    have er : ((f_X6_fail 1 s2).bind (fun p => if (p.1 = 0 ∨ p.1 = 1) then some (p.1, p.2) else none)) = some r := er
    rw [bnd er]
    exact stop _ r (by unfold prsJ; rw [if_neg z1, if_pos z2]) hf
  have z2' : (lx b n (lx b n 0).2.2.1).1 = 2 := Decidable.byContradiction z2
  have hv := hs2.2.1.2.2.2 z2'
  have hv4 := K1.2.2.2
  rw [if_pos (show rI s2 19 2 = 2 from (kEq2 2 (by omega)).mpr z2'), hv]
  by_cases z3 : (lx b n (lx b n 0).2.2.1).2.2.2 < 1 ∨ 8 < (lx b n (lx b n 0).2.2.1).2.2.2
  · obtain ⟨r, er, hf⟩ := c_fail hs2.2.1 2
    have er : ((f_X6_fail 2 s2).bind (fun p => if (p.1 = 0 ∨ p.1 = 1) then some (p.1, p.2) else none)) = some r := er
    have ej : (if nI (lx b n (lx b n 0).2.2.1).2.2.2 < 1 then ((f_X6_fail 2 s2).bind (fun p => if (p.1 = 0 ∨ p.1 = 1) then some (p.1, p.2) else none)) else (if nI (lx b n (lx b n 0).2.2.1).2.2.2 ≤ 8 then (f_X6_step (wI s2 13 2 (nI (lx b n (lx b n 0).2.2.1).2.2.2))).bind (fun p3 => (if (rI p3 19 2) = (6 : Int32) then (f_X6_step p3).bind (fun p4 => some ((1 : Int32), p4)) else (f_X6_fail (1 : Int32) p3).bind (fun p5 => (if (p5.1 = 0 ∨ p5.1 = 1) then some (p5.1, p5.2) else none)))) else ((f_X6_fail 2 s2).bind (fun p => if (p.1 = 0 ∨ p.1 = 1) then some (p.1, p.2) else none)))) = some r := by
      rcases z3 with z3 | z3
      · rw [if_pos (show nI (lx b n (lx b n 0).2.2.1).2.2.2 < 1 from of_eq_true (nI_lt_T (b := 1) z3 (by omega)))]
        exact er
      · rw [if_neg (show ¬ nI (lx b n (lx b n 0).2.2.1).2.2.2 < 1 from of_eq_false (nI_lt_F (b := 1) (by omega) (by omega))), if_neg (show ¬ nI (lx b n (lx b n 0).2.2.1).2.2.2 ≤ 8 from nI_ge (a := 8) z3 (by omega))]
        exact er
    rw [bnd ej]
    exact stop _ r (by unfold prsJ; rw [if_neg z1, if_neg z2, if_pos z3]) hf
  have hJ : (lx b n (lx b n 0).2.2.1).2.2.2 ≤ 8 := by omega
  rw [if_neg (show ¬ nI (lx b n (lx b n 0).2.2.1).2.2.2 < 1 from of_eq_false (nI_lt_F (b := 1) (by omega) (by omega))), if_pos (show nI (lx b n (lx b n 0).2.2.1).2.2.2 ≤ 8 from nI_le (b := 8) (by omega) (by omega))]
  have hs2' : cSt b n (lx b n (lx b n 0).2.2.1) 0 (lx b n (lx b n 0).2.2.1).2.2.2 (fun _ _ => none) (wI s2 13 2 (nI (lx b n (lx b n 0).2.2.1).2.2.2)) := by
    obtain ⟨g1, g2, g3, g4, g5, g6⟩ := hs2
    refine ⟨tpC_w (by omega) g1, ⟨by rw [rI_F (by omega)]; exact g2.1, by rw [rI_F (by omega)]; exact g2.2.1, fun q => by rw [rI_F (by omega)]; exact g2.2.2.1 q, fun q => by rw [rI_F (by omega)]; exact g2.2.2.2 q⟩, g3, ⟨by rw [rI_F (by omega)]; exact g4.1, rI_T ⟨rfl, rfl⟩, fun w j hw => by omega⟩, by rw [rI_F (by omega)]; exact g5, by rw [rI_F (by omega)]; exact g6⟩
  obtain ⟨s3, e3, hs3⟩ := c_go hs2' (by omega)
  have K3 := hs3.2.2.1
  generalize hJe : (lx b n (lx b n 0).2.2.1).2.2.2 = J at hs2' hs3 e3 hJ hv4 z3 hv ⊢
  have kEq3 : ∀ c, c < 256 → (rI s3 19 2 = nI c ↔ (lx b n (lx b n (lx b n 0).2.2.1).2.2.1).1 = c) := fun c hc => by rw [hs3.2.1.1]; exact nI_lit_eq (by have := K3.1; omega) hc
  rw [bnd e3]
  by_cases z4 : (lx b n (lx b n (lx b n 0).2.2.1).2.2.1).1 ≠ 6
  · rw [if_neg (show ¬ rI s3 19 2 = 6 from fun q => z4 ((kEq3 6 (by omega)).mp q))]
    obtain ⟨r, er, hf⟩ := c_fail hs3.2.1 1
    have er : ((f_X6_fail 1 s3).bind (fun p => if (p.1 = 0 ∨ p.1 = 1) then some (p.1, p.2) else none)) = some r := er
    rw [bnd er]
    exact stop _ r (by unfold prsJ; rw [if_neg z1, if_neg z2, hJe, if_neg z3, if_pos z4]) hf
  have z4' : (lx b n (lx b n (lx b n 0).2.2.1).2.2.1).1 = 6 := Decidable.byContradiction z4
  rw [if_pos (show rI s3 19 2 = 6 from (kEq3 6 (by omega)).mpr z4')]
  obtain ⟨s4, e4, hs4⟩ := c_go hs3 (by omega)
  rw [bnd e4]
  have hp : prsJ b n (lx b n 0) = .inr (J, lx b n (lx b n (lx b n (lx b n 0).2.2.1).2.2.1).2.2.1) := by unfold prsJ; rw [if_neg z1, if_neg z2, hJe, if_neg z3, if_neg z4]
  obtain ⟨⟨r5, s5⟩, e5, f1, f2⟩ := c_wrks hJ 8 0 _ (fun _ _ => none) s4 (by omega) (by omega) (fun w j x e => by cases e) hs4
  have e5 : whT f_X6_read_L42 (1, 0, s4) = some (r5, s5) := e5
  show Ev ((whT f_X6_read_L42 (1, 0, s4)).bind _) _
  rw [bnd e5]
  have hqe : ∀ e, wrks b n J 8 0 (lx b n (lx b n (lx b n (lx b n 0).2.2.1).2.2.1).2.2.1) (fun _ _ => none) = .inl e → prs b n = .inl e := by
    intro e hw
    unfold prs
    rw [if_neg z0, hp]
    simp only [hw]
  have hqx : ∀ x, wrks b n J 8 0 (lx b n (lx b n (lx b n (lx b n 0).2.2.1).2.2.1).2.2.1) (fun _ _ => none) = .inr x → prs b n = .inr (x.1, J, x.2) := by
    intro x hw
    unfold prs
    rw [if_neg z0, hp]
    simp only [hw]
  cases hw : wrks b n J 8 0 (lx b n (lx b n (lx b n (lx b n 0).2.2.1).2.2.1).2.2.1) (fun _ _ => none) with
  | inl e =>
    have hf := f1 e hw
    have er : r5 = 0 := hf.1
    subst er
    have hq := hqe e hw
    rw [if_pos (Or.inl rfl)]
    refine ⟨(0, s5), rfl, fun e' he => ?_, fun T he => ?_⟩
    · rw [hq] at he; cases he; exact hf
    · rw [hq] at he; cases he
  | inr x =>
    obtain ⟨g1, ⟨g2, g3⟩, g4, g5⟩ := f2 x hw
    simp only at g1 g4 g5
    subst g1
    have hq := hqx x hw
    rw [if_pos (Or.inr rfl)]
    refine ⟨(1, s5), rfl, fun e' he => ?_, fun T he => ?_⟩
    · rw [hq] at he; cases he
    · rw [hq] at he; cases he
      refine ⟨rfl, ⟨g2, hJ, fun w j y e => (g3 w j y e).1, fun w j hwj => ?_⟩, g4, g5⟩
      cases hx : x.2 w j with
      | none => rfl
      | some y =>
        have := g3 w j y hx
        simp only at hwj
        omega
