theorem tkEq {b : Nat → Nat} {n : Nat} {t : tok} {s : sx_M} (h : tkR b n t s) : (rI s 58 10 = 0 ↔ t.1 = 0) ∧ (rI s 58 10 = 3 ↔ t.1 = 6) ∧ (rI s 58 10 = 4 ↔ t.1 = 7) := by
  obtain ⟨_, _, _, TT, q1, q2, q3, q4, q5, q6, q7, _⟩ := h
  refine ⟨?_, ?_, ?_⟩
  · rw [q1, ← q3]; exact nI_lit_eq (by omega) (d := 0) (by omega)
  · rw [q1, ← q5]; exact nI_lit_eq (by omega) (d := 3) (by omega)
  · rw [q1, ← q6]; exact nI_lit_eq (by omega) (d := 4) (by omega)
theorem r_costs {b : Nat → Nat} {n W J : Nat} (hW : W < 7) (hJ : J ≤ 8) : ∀ (m k : Nat) (t : tok) (C : cst) (s : sx_M), J + 1 ≤ k + m → k ≤ J → rSt b n t W J k C s → Ev (whT f_X12_readsWorker_L41 (nI k, 1, s)) (fun r => (∀ e, costs b n J W m k t C = .inl e → flR e r.2) ∧ ∀ x, costs b n J W m k t C = .inr x → r.1 = nI x.1 ∧ rSt b n x.2.2 W J x.1 x.2.1 r.2)
  | 0, k, t, C, s, hm, hk, _ => by omega
  | m + 1, k, t, C, s, hm, hk, hs => by
    obtain ⟨s1, e1, d1, d2⟩ := r_cost hW hJ hk hs
    cases hc : cost1 b n J k t with
    | inl e =>
      have hf := d1 e hc
      have hq : costs b n J W (m + 1) k t C = .inl e := by unfold costs; rw [hc]
      refine ⟨(nI (k + 1), s1), ?_, fun e' he => ?_, fun x he => ?_⟩
      · have pre : f_X12_readsWorker_L41 (nI k, 1, s) = some (.inl (nI (k + 1), 0, s1)) := by
          simp only [f_X12_readsWorker_L41, f_X12_readsWorker_L41_J80]
          rw [if_neg n1_0, if_pos hs.2.2.2.1.1, bnd e1, if_neg (flR_n hf), if_pos trivial, nI_1]
        rw [whT_eq, pre]
        show whT f_X12_readsWorker_L41 (nI (k + 1), 0, s1) = _
        rw [whT_eq]
        simp only [f_X12_readsWorker_L41]
        rw [if_pos trivial]
        rfl
      · rw [hq] at he; cases he; exact hf
      · rw [hq] at he; cases he
    | inr r =>
      obtain ⟨c, t'⟩ := r
      have g2 := d2 c t' hc
      obtain ⟨k1, k2, k3⟩ := cost1_ok hs.2.2.1 hc
      have kq := (tkEq g2.2.1).2.2
      by_cases z : t'.1 = 7
      · have hq : costs b n J W (m + 1) k t C = costs b n J W m (k + 1) (lx b n t'.2.2.1) (upC C W k c) := by
          conv => lhs; unfold costs
          rw [hc]
          simp only []
          rw [if_pos z]
        obtain ⟨s2, e2, g3⟩ := r_go g2
        rw [hq]
        obtain ⟨r, e, f1⟩ := r_costs hW hJ m (k + 1) _ (upC C W k c) s2 (by omega) (by omega) g3
        refine ⟨r, ?_, f1⟩
        have pre : f_X12_readsWorker_L41 (nI k, 1, s) = some (.inl (nI (k + 1), 1, s2)) := by
          simp only [f_X12_readsWorker_L41, f_X12_readsWorker_L41_J80]
          rw [if_neg n1_0, if_pos hs.2.2.2.1.1, bnd e1, if_pos g2.2.2.2.1.1, if_pos (kq.mpr z), if_neg n1_0, bnd e2, nI_1]
        rw [whT_eq, pre]
        exact e
      · have hq : costs b n J W (m + 1) k t C = .inr (k + 1, upC C W k c, t') := by
          conv => lhs; unfold costs
          rw [hc]
          simp only []
          rw [if_neg z]
        refine ⟨(nI (k + 1), s1), ?_, fun e' he => ?_, fun x he => ?_⟩
        · have pre : f_X12_readsWorker_L41 (nI k, 1, s) = some (.inl (nI (k + 1), 0, s1)) := by
            simp only [f_X12_readsWorker_L41, f_X12_readsWorker_L41_J80]
            rw [if_neg n1_0, if_pos hs.2.2.2.1.1, bnd e1, if_pos g2.2.2.2.1.1, if_neg (fun q => z (kq.mp q)), if_pos trivial, nI_1]
          rw [whT_eq, pre]
          show whT f_X12_readsWorker_L41 (nI (k + 1), 0, s1) = _
          rw [whT_eq]
          simp only [f_X12_readsWorker_L41]
          rw [if_pos trivial]
          rfl
        · rw [hq] at he; cases he
        · rw [hq] at he; cases he; exact ⟨rfl, g2⟩
theorem r_J134 {e : flt} {s : sx_M} (h : flR e s) : Ev (f_X12_readsWorker_J134 s) (flR e) := by
  unfold f_X12_readsWorker_J134
  rw [bnd (r_pas0 h)]
  exact ⟨_, rfl, h⟩
theorem r_J112 {e : flt} {s : sx_M} (h : flR e s) (k : Int32) : Ev (f_X12_readsWorker_J112 k s) (flR e) := by
  unfold f_X12_readsWorker_J112
  rw [if_neg (flR_n h)]
  exact r_J134 h
theorem r_J33 {e : flt} {s : sx_M} (h : flR e s) : Ev (f_X12_readsWorker_J33 s) (flR e) := by
  have eL : whT f_X12_readsWorker_L41 (0, 1, s) = some (0, s) := by
    rw [whT_eq]
    simp only [f_X12_readsWorker_L41]
    rw [if_neg n1_0, if_neg (flR_n h)]
    rfl
  unfold f_X12_readsWorker_J33
  rw [bnd (r_pas0 h), bnd eL, if_neg (flR_n h)]
  exact r_J112 h 0
theorem r_wrk {b : Nat → Nat} {n W J : Nat} {t : tok} {C : cst} {s : sx_M} (hW : W ≤ 7) (hJ : J ≤ 8) (hC : CI J W 0 C) (hs : rSt b n t W J 0 C s) : Ev (f_X12_readsWorker s) (fun s' => (∀ e, wrk b n J W t C = .inl e → flR e s') ∧ ∀ x, wrk b n J W t C = .inr x → rSt b n x.2 (W + 1) J 0 x.1 s') := by
  obtain ⟨w1, w2, w3⟩ := r_word hs.1 hs.2.1
  have h3 := hs.2.2.1
  have h620 : rA s 62 (0 : Int32).toNatClampNeg = nI W := hs.2.2.2.2.1
  have stop : ∀ (f : sx_M → Option sx_M) (e : flt) (s : sx_M), Ev (f s) (flR e) → wrk b n J W t C = .inl e → Ev (f s) (fun s' => (∀ e, wrk b n J W t C = .inl e → flR e s') ∧ ∀ x, wrk b n J W t C = .inr x → rSt b n x.2 (W + 1) J 0 x.1 s') := by
    rintro f e s ⟨s', he, hf⟩ hq
    refine ⟨s', he, fun e' h => ?_, fun x h => ?_⟩
    · rw [hq] at h; cases h; exact hf
    · rw [hq] at h; cases h
  unfold f_X12_readsWorker
  rw [bnd w2]
  by_cases z1 : t.1 ≠ 4
  · obtain ⟨s1, e1, c1⟩ := r_flt hs 1
    have e1 : f_X12_faults 1 s = some s1 := e1
    rw [if_neg z1, if_pos rfl, bnd e1]
    exact stop f_X12_readsWorker_J33 _ s1 (r_J33 c1) (by unfold wrk; rw [if_pos z1])
  have z1' : t.1 = 4 := Decidable.byContradiction z1
  rw [if_pos z1', if_neg n1_0, h620]
  by_cases z2 : 7 ≤ W
  · obtain ⟨s1, e1, c1⟩ := r_flt hs 3
    have e1 : f_X12_faults 3 s = some s1 := e1
    rw [if_pos (show nI W = 7 by rw [show W = 7 by omega]; rfl), bnd e1]
    exact stop f_X12_readsWorker_J33 _ s1 (r_J33 c1) (by unfold wrk; rw [if_neg z1, if_pos z2])
  rw [if_neg (show ¬ nI W = 7 from of_eq_false (nI_eq_F (b := 7) (by omega) (by omega) (by omega)))]
  unfold f_X12_readsWorker_J33
  obtain ⟨s1, e1, g1⟩ := r_pas hs
  show Ev ((f_X12_passes s).bind _) _
  rw [bnd e1]
  obtain ⟨⟨r2, s2⟩, e2, c1, c2⟩ := r_costs (show W < 7 by omega) hJ (J + 1) 0 (lx b n t.2.2.1) C s1 (by omega) (by omega) g1
  simp only at c1 c2
  have e2 : whT f_X12_readsWorker_L41 (0, 1, s1) = some (r2, s2) := e2
  rw [bnd e2]
  cases hc : costs b n J W (J + 1) 0 (lx b n t.2.2.1) C with
  | inl e =>
    have hf := c1 e hc
    rw [if_neg (flR_n hf)]
    exact stop (f_X12_readsWorker_J112 r2) e s2 (r_J112 hf r2) (by unfold wrk; rw [if_neg z1, if_neg z2, hc])
  | inr x =>
    obtain ⟨er, hs2⟩ := c2 x hc
    subst er
    obtain ⟨k1, k2, k3⟩ := costs_ok (J + 1) 0 _ C (lx_t h3.2.2.1) hC x hc
    have kq := (tkEq hs2.2.1).2.1
    have h621 : rA s2 62 (1 : Int32).toNatClampNeg = nI J := hs2.2.2.2.2.2.1
    rw [if_pos hs2.2.2.2.1.1]
    by_cases z3 : x.2.2.1 ≠ 6
    · obtain ⟨s3, e3, c3⟩ := r_flt hs2 1
      have e3 : f_X12_faults 1 s2 = some s3 := e3
      rw [if_neg (fun q => z3 (kq.mp q))]
      show Ev ((f_X12_faults 1 s2).bind _) _
      rw [bnd e3]
      exact stop (f_X12_readsWorker_J112 (nI x.1)) _ s3 (r_J112 c3 _) (by unfold wrk; rw [if_neg z1, if_neg z2, hc]; simp only []; rw [if_pos z3])
    have z3' : x.2.2.1 = 6 := Decidable.byContradiction z3
    rw [if_pos (kq.mpr z3')]
    unfold f_X12_readsWorker_J112
    show Ev (if rI s2 58 12 = 0 then _ else _) _
    rw [if_pos hs2.2.2.2.1.1, h621]
    by_cases z4 : x.1 < J
    · obtain ⟨s3, e3, c3⟩ := r_flt hs2 4
      have e3 : f_X12_faults 4 s2 = some s3 := e3
      rw [if_neg (show ¬ nI J ≤ nI x.1 from nI_ge z4 (by omega)), bnd e3]
      exact stop f_X12_readsWorker_J134 _ s3 (r_J134 c3) (by unfold wrk; rw [if_neg z1, if_neg z2, hc]; simp only []; rw [if_neg z3, if_pos z4])
    · rw [if_pos (show nI J ≤ nI x.1 from nI_le (by omega) (by omega))]
      obtain ⟨s3, e3, g3⟩ := r_pas hs2
      have hq : wrk b n J W t C = .inr (x.2.1, lx b n x.2.2.2.2.1) := by unfold wrk; rw [if_neg z1, if_neg z2, hc]; simp only []; rw [if_neg z3, if_neg z4]
      have h620' : rA s3 62 (0 : Int32).toNatClampNeg = nI W := g3.2.2.2.2.1
      unfold f_X12_readsWorker_J134
      rw [bnd e3, h620', nI_1]
      refine ⟨wA s3 62 0 (nI (W + 1)), rfl, fun e' he => ?_, fun y he => ?_⟩
      · rw [hq] at he; cases he
      · rw [hq] at he; cases he
        obtain ⟨a1, a2, a3, a4, a5⟩ := g3
        refine ⟨⟨⟨a1.1.1, fun i hi => by rw [rA_F (by omega)]; exact a1.1.2 i hi⟩, a1.2⟩, a2, a3, a4, rA_T ⟨rfl, rfl⟩, by rw [rA_F (by omega)]; exact a5.2.1, fun w j hj hw => ?_⟩
        rw [rA_F (by omega)]
        exact a5.2.2 w j hj (by omega)
def Drd : sx_D := (fun o k => o = 58 ∧ (k = 5 ∨ k = 6 ∨ (8 ≤ k ∧ k ≤ 12)), fun _ _ => False, fun o => o = 62, fun _ => False)
theorem r_wrks {b : Nat → Nat} {n J : Nat} (hJ : J ≤ 8) : ∀ (m W : Nat) (t : tok) (C : cst) (s : sx_M), 8 ≤ W + m → W ≤ 7 → CI J W 0 C → rSt b n t W J 0 C s → Ev (whT f_X12_table_L56 s) (fun s' => (∀ e, wrks b n J m W t C = .inl e → flR e s') ∧ (∀ x, wrks b n J m W t C = .inr x → (rI s' 58 12 = 0 ∧ rI s' 58 5 = 0 ∧ rI s' 58 6 = -1) ∧ mdI x.1 J 0 x.2 s') ∧ sx_eq Drd s s')
  | 0, W, t, C, s, hm, hW, _, _ => by omega
  | m + 1, W, t, C, s, hm, hW, hC, hs => by
    have h3 := hs.2.2.1
    have kq := (tkEq hs.2.1).1
    by_cases z : t.1 = 0
    · have hq : wrks b n J (m + 1) W t C = .inr (W, C) := by unfold wrks; rw [if_pos z]
      refine ⟨s, ?_, fun e he => ?_, fun x he => ?_, sx_rf _ _⟩
      · rw [whT_eq]
        unfold f_X12_table_L56
        rw [if_pos hs.2.2.2.1.1, if_pos (kq.mpr z)]
        rfl
      · rw [hq] at he; cases he
      · rw [hq] at he; cases he; exact ⟨hs.2.2.2.1, hs.2.2.2.2⟩
    · obtain ⟨s1, e1, c1, c2⟩ := r_wrk hW hJ hC hs
      have hx : sx_eq Drd s s1 := sx_mono (fr_f_X12_readsWorker _ e1) (fun o k q => by simp only [Drd] at q ⊢; omega) (fun _ _ q => q) (fun _ q => q) (fun _ q => q)
      have pre : f_X12_table_L56 s = some (.inl s1) := by
        unfold f_X12_table_L56
        rw [if_pos hs.2.2.2.1.1, if_neg (fun q => z (kq.mp q)), bnd e1]
      cases hc : wrk b n J W t C with
      | inl e =>
        have hf := c1 e hc
        have hq : wrks b n J (m + 1) W t C = .inl e := by unfold wrks; rw [if_neg z, hc]
        refine ⟨s1, ?_, fun e' he => ?_, fun x he => ?_, hx⟩
        · rw [whT_eq, pre]
          show whT f_X12_table_L56 s1 = _
          rw [whT_eq]
          unfold f_X12_table_L56
          rw [if_neg (flR_n hf)]
          rfl
        · rw [hq] at he; cases he; exact hf
        · rw [hq] at he; cases he
      | inr x =>
        have g2 := c2 x hc
        obtain ⟨k1, k2, k3⟩ := wrk_ok h3 hC hc
        have hq : wrks b n J (m + 1) W t C = wrks b n J m (W + 1) x.2 x.1 := by
          conv => lhs; unfold wrks
          rw [if_neg z, hc]
        rw [hq]
        obtain ⟨r, e, f1, f2, f3⟩ := r_wrks hJ m (W + 1) x.2 x.1 s1 (by omega) (by omega) k2 g2
        refine ⟨r, ?_, f1, f2, sx_tr hx f3⟩
        rw [whT_eq, pre]
        exact e
theorem r_J51 {e : flt} {s : sx_M} (h : flR e s) : Ev (f_X12_readsJobs_J51 s) (flR e) := by
  unfold f_X12_readsJobs_J51
  rw [bnd (r_pas0 h)]
  exact ⟨_, rfl, h⟩
theorem r_jobs {b : Nat → Nat} {n : Nat} {t : tok} {s : sx_M} (hs : rSt b n t 0 0 0 (fun _ _ => none) s) : Ev (f_X12_readsJobs s) (fun s' => (∀ e, prsJ b n t = .inl e → flR e s') ∧ ∀ x, prsJ b n t = .inr x → x.1 ≤ 8 ∧ rSt b n x.2 0 x.1 0 (fun _ _ => none) s') := by
  obtain ⟨w1, w2, w3⟩ := r_word hs.1 hs.2.1
  have stop : ∀ (f : sx_M → Option sx_M) (e : flt) (s : sx_M), Ev (f s) (flR e) → prsJ b n t = .inl e → Ev (f s) (fun s' => (∀ e, prsJ b n t = .inl e → flR e s') ∧ ∀ x, prsJ b n t = .inr x → x.1 ≤ 8 ∧ rSt b n x.2 0 x.1 0 (fun _ _ => none) s') := by
    rintro f e s ⟨s', he, hf⟩ hq
    refine ⟨s', he, fun e' h => ?_, fun x h => ?_⟩
    · rw [hq] at h; cases h; exact hf
    · rw [hq] at h; cases h
  have flw : ∀ e s i v, flR e s → flR e (wA s 62 i v) := fun e s i v q => q
  unfold f_X12_readsJobs
  rw [bnd w1]
  by_cases z1 : t.1 ≠ 3
  · obtain ⟨s1, e1, c1⟩ := r_flt hs 1
    have e1 : f_X12_faults 1 s = some s1 := e1
    rw [if_neg z1, if_pos rfl, bnd e1]
    refine stop f_X12_readsJobs_J14 (1, t.2.1) s1 ?_ (by unfold prsJ; rw [if_pos z1])
    unfold f_X12_readsJobs_J14
    rw [bnd (r_pas0 c1), bnd (r_num0 c1 1 8), if_neg (flR_n (flw _ _ _ _ c1))]
    exact r_J51 (flw _ _ _ _ c1)
  have z1' : t.1 = 3 := Decidable.byContradiction z1
  rw [if_pos z1', if_neg n1_0]
  unfold f_X12_readsJobs_J14
  obtain ⟨s1, e1, g1⟩ := r_pas hs
  show Ev ((f_X12_passes s).bind _) _
  rw [bnd e1]
  obtain ⟨⟨r2, s2⟩, e2, d0, d1, d2, d3⟩ := r_num g1 (lo := 1) (hi := 8) (by omega) (by omega)
  simp only at d0 d1 d2 d3
  have e2 : f_X12_number 1 8 s1 = some (r2, s2) := e2
  rw [bnd e2]
  simp only []
  by_cases z2 : (lx b n t.2.2.1).1 ≠ 2
  · have c1 := d1 z2
    rw [if_neg (flR_n (flw _ _ _ _ c1))]
    exact stop f_X12_readsJobs_J51 _ _ (r_J51 (flw _ _ _ _ c1)) (by unfold prsJ; rw [if_neg z1, if_pos z2])
  have z2' : (lx b n t.2.2.1).1 = 2 := Decidable.byContradiction z2
  by_cases z3 : (lx b n t.2.2.1).2.2.2 < 1 ∨ 8 < (lx b n t.2.2.1).2.2.2
  · have c1 := d2 z2' (by omega)
    rw [if_neg (flR_n (flw _ _ _ _ c1))]
    exact stop f_X12_readsJobs_J51 _ _ (r_J51 (flw _ _ _ _ c1)) (by unfold prsJ; rw [if_neg z1, if_neg z2, if_pos z3])
  have hs2 := d3 z2' (by omega)
  have hs3 : rSt b n (lx b n (lx b n t.2.2.1).2.2.1) 0 (lx b n t.2.2.1).2.2.2 0 (fun _ _ => none) (wA s2 62 (1 : Int32).toNatClampNeg r2) := by
    obtain ⟨a1, a2, a3, a4, a5⟩ := hs2
    refine ⟨⟨⟨a1.1.1, fun i hi => by rw [rA_F (by omega)]; exact a1.1.2 i hi⟩, a1.2⟩, a2, a3, a4, ?_, ?_, fun w j hj hw => by omega⟩
    · show rA (wA s2 62 1 r2) 62 0 = _
      rw [rA_F (by omega)]; exact a5.1
    · show rA (wA s2 62 1 r2) 62 1 = _
      rw [rA_T ⟨rfl, rfl⟩]; exact d0
  have kq := (tkEq hs3.2.1).2.1
  rw [if_pos hs3.2.2.2.1.1]
  by_cases z4 : (lx b n (lx b n t.2.2.1).2.2.1).1 ≠ 6
  · obtain ⟨s4, e4, c4⟩ := r_flt hs3 1
    have e4 : f_X12_faults 1 (wA s2 62 (1 : Int32).toNatClampNeg r2) = some s4 := e4
    rw [if_neg (fun q => z4 (kq.mp q)), bnd e4]
    exact stop f_X12_readsJobs_J51 _ _ (r_J51 c4) (by unfold prsJ; rw [if_neg z1, if_neg z2, if_neg z3, if_pos z4])
  · rw [if_pos (kq.mpr (Decidable.byContradiction z4))]
    unfold f_X12_readsJobs_J51
    obtain ⟨s4, e4, g4⟩ := r_pas hs3
    have hq : prsJ b n t = .inr ((lx b n t.2.2.1).2.2.2, lx b n (lx b n (lx b n t.2.2.1).2.2.1).2.2.1) := by unfold prsJ; rw [if_neg z1, if_neg z2, if_neg z3, if_neg z4]
    rw [bnd e4]
    refine ⟨s4, rfl, fun e he => ?_, fun x he => ?_⟩
    · rw [hq] at he; cases he
    · rw [hq] at he; cases he; exact ⟨by simp only; omega, g4⟩
