/-! the reference's reader -/
def flR (e : flt) (s : sx_M) : Prop := rI s 58 12 = 1 ∧ rI s 58 5 = nI e.1 ∧ rI s 58 6 = nI e.2
def mdI (W J k : Nat) (C : cst) (s : sx_M) : Prop := rA s 62 0 = nI W ∧ rA s 62 1 = nI J ∧ ∀ w j, j < J → (w < W ∨ (w = W ∧ j < k)) → rA s 62 (2 + (8 * w + j)) = c32 (C w j)
def rSt (b : Nat → Nat) (n : Nat) (t : tok) (W J k : Nat) (C : cst) (s : sx_M) : Prop := tpR b n s ∧ tkR b n t s ∧ tOK n t ∧ (rI s 58 12 = 0 ∧ rI s 58 5 = 0 ∧ rI s 58 6 = -1) ∧ mdI W J k C s
theorem r_flt {b : Nat → Nat} {n : Nat} {t : tok} {W J k : Nat} {C : cst} {s : sx_M} (h : rSt b n t W J k C s) (q : Nat) : Ev (f_X12_faults (nI q) s) (flR (q, t.2.1)) := by
  obtain ⟨_, h2, _, h4, _⟩ := h
  refine ⟨_, if_pos h4.1, ?_, ?_, ?_⟩
  · rw [rI_F (by omega), rI_F (by omega)]; exact rI_T ⟨rfl, rfl⟩
  · rw [rI_F (by omega)]; exact rI_T ⟨rfl, rfl⟩
  · rw [rI_T ⟨rfl, rfl⟩, rI_F (by omega), rI_F (by omega)]; exact h2.1
theorem flR_n {e : flt} {s : sx_M} (h : flR e s) : ¬ rI s 58 12 = 0 := by rw [h.1]; exact n1_0
theorem r_flt0 {e : flt} {s : sx_M} (h : flR e s) (x : Int32) : f_X12_faults x s = some s := if_neg (flR_n h)
theorem r_pas0 {e : flt} {s : sx_M} (h : flR e s) : f_X12_passes s = some s := if_neg (flR_n h)
theorem tkR_eq {b : Nat → Nat} {n : Nat} {t : tok} {s s' : sx_M} (h : tkR b n t s) (e8 : rI s' 58 8 = rI s 58 8) (e9 : rI s' 58 9 = rI s 58 9) (e10 : rI s' 58 10 = rI s 58 10) (e11 : rI s' 58 11 = rI s 58 11) : tkR b n t s' := by
  obtain ⟨h1, h2, h3, TT, h4, h5⟩ := h
  exact ⟨e9.trans h1, e8.trans h2, e11.trans h3, TT, e10.trans h4, h5⟩
theorem r_go {b : Nat → Nat} {n : Nat} {t : tok} {W J k : Nat} {C : cst} {s : sx_M} (h : rSt b n t W J k C s) : Ev (f_X12_next s) (fun s' => rSt b n (lx b n t.2.2.1) W J k C s') := by
  obtain ⟨h1, h2, h3, h4, h5⟩ := h
  obtain ⟨s', e, c1⟩ := r_next h1 h3.2.2.1 h2.2.1
  have hx := fr_f_X12_next _ e
  refine ⟨s', e, ⟨⟨(hx.1 58 4 (by simp only; omega)).trans h1.1.1, fun i hi => (hx.2.2.1 61 i (fun z => z)).trans (h1.1.2 i hi)⟩, h1.2⟩, c1, lx_t h3.2.2.1, ⟨(hx.1 58 12 (by simp only; omega)).trans h4.1, (hx.1 58 5 (by simp only; omega)).trans h4.2.1, (hx.1 58 6 (by simp only; omega)).trans h4.2.2⟩, (hx.2.2.1 62 0 (fun z => z)).trans h5.1, (hx.2.2.1 62 1 (fun z => z)).trans h5.2.1, fun w j hj hw => (hx.2.2.1 62 _ (fun z => z)).trans (h5.2.2 w j hj hw)⟩
theorem r_pas {b : Nat → Nat} {n : Nat} {t : tok} {W J k : Nat} {C : cst} {s : sx_M} (h : rSt b n t W J k C s) : Ev (f_X12_passes s) (fun s' => rSt b n (lx b n t.2.2.1) W J k C s') := by
  obtain ⟨s', e, c1⟩ := r_go h
  refine ⟨s', ?_, c1⟩
  unfold f_X12_passes
  rw [if_pos h.2.2.2.1.1, bnd e]
theorem r_num0 {e : flt} {s : sx_M} (h : flR e s) (x y : Int32) : f_X12_number x y s = some (rI s 58 11, s) := by
  unfold f_X12_number f_X12_number_J25 f_X12_number_J42
  rw [if_neg (flR_n h)]
  have : ∃ v, f_X12_in (rI s 58 11).toInt64 x.toInt64 y.toInt64 s = some (v, s) := by
    unfold f_X12_in
    split
    · exact ⟨_, rfl⟩
    · split
      · exact ⟨_, rfl⟩
      · exact ⟨_, rfl⟩
  obtain ⟨v, ev⟩ := this
  rw [bnd ev]
  by_cases z : v = 0
  · rw [if_pos z, bnd (r_flt0 h 2), bnd (r_pas0 h)]
  · rw [if_neg z, bnd (r_pas0 h)]
theorem r_num {b : Nat → Nat} {n : Nat} {t : tok} {W J k : Nat} {C : cst} {s : sx_M} (h : rSt b n t W J k C s) {lo hi : Nat} (hlo : lo < 100000) (hhi : hi < 100000) : Ev (f_X12_number (nI lo) (nI hi) s) (fun r => r.1 = nI t.2.2.2 ∧ (t.1 ≠ 2 → flR (1, t.2.1) r.2) ∧ (t.1 = 2 → ¬ (lo ≤ t.2.2.2 ∧ t.2.2.2 ≤ hi) → flR (2, t.2.1) r.2) ∧ (t.1 = 2 → (lo ≤ t.2.2.2 ∧ t.2.2.2 ≤ hi) → rSt b n (lx b n t.2.2.1) W J k C r.2)) := by
  have hv4 := h.2.2.1.2.2.2
  have hv : rI s 58 11 = nI t.2.2.2 := h.2.1.2.2.1
  obtain ⟨TT, q1, q2, q3, q4, _⟩ := h.2.1.2.2.2
  have kEq : rI s 58 10 = 2 ↔ t.1 = 2 := by
    rw [q1, ← q4]
    exact nI_lit_eq (by omega) (d := 2) (by omega)
  have hin : ∀ s, f_X12_in (nI t.2.2.2).toInt64 (nI lo).toInt64 (nI hi).toInt64 s = some (if lo ≤ t.2.2.2 ∧ t.2.2.2 ≤ hi then 1 else 0, s) := fun s => f_inN (by omega) (by omega) (by omega) s
  unfold f_X12_number f_X12_number_J25 f_X12_number_J42
  rw [if_pos h.2.2.2.1.1, hv]
  by_cases z : t.1 = 2
  · rw [if_pos (kEq.mpr z), bnd (hin s)]
    by_cases y : lo ≤ t.2.2.2 ∧ t.2.2.2 ≤ hi
    · obtain ⟨s1, e1, c1⟩ := r_pas h
      rw [if_pos y, if_neg n1_0, bnd e1]
      exact ⟨_, rfl, rfl, fun q => absurd z q, fun _ q => absurd y q, fun _ _ => c1⟩
    · obtain ⟨s1, e1, c1⟩ := r_flt h 2
      have e1 : f_X12_faults 2 s = some s1 := e1
      rw [if_neg y, if_pos rfl, bnd e1, bnd (r_pas0 c1)]
      exact ⟨_, rfl, rfl, fun q => absurd z q, fun _ _ => c1, fun _ q => absurd q y⟩
  · obtain ⟨s1, e1, c1⟩ := r_flt h 1
    have e1 : f_X12_faults 1 s = some s1 := e1
    rw [if_neg (fun q => z (kEq.mp q)), bnd e1, bnd (hin s1)]
    by_cases y : lo ≤ t.2.2.2 ∧ t.2.2.2 ≤ hi
    · rw [if_pos y, if_neg n1_0, bnd (r_pas0 c1)]
      exact ⟨_, rfl, rfl, fun _ => c1, fun q => absurd q z, fun q => absurd q z⟩
    · rw [if_neg y, if_pos rfl, bnd (r_flt0 c1 2), bnd (r_pas0 c1)]
      exact ⟨_, rfl, rfl, fun _ => c1, fun q => absurd q z, fun q => absurd q z⟩
theorem md_put {W J k : Nat} {C : cst} {s : sx_M} (hJ : J ≤ 8) (hk : k < J) {c : Option Int} (h : mdI W J k C s) : mdI W J (k + 1) (upC C W k c) (wA s 62 (2 + (8 * W + k)) (c32 c)) := by
  refine ⟨by rw [rA_F (by omega)]; exact h.1, by rw [rA_F (by omega)]; exact h.2.1, fun w j hj hw => ?_⟩
  unfold upC
  by_cases z : w = W ∧ j = k
  · rw [if_pos z, rA_T ⟨rfl, by omega⟩]
  · rw [if_neg z, rA_F (by omega)]
    exact h.2.2 w j hj (by omega)
theorem rSt_put {b : Nat → Nat} {n : Nat} {t : tok} {W J k : Nat} {C : cst} {s : sx_M} (hJ : J ≤ 8) (hk : k < J) {c : Option Int} (h : rSt b n t W J k C s) : rSt b n t W J (k + 1) (upC C W k c) (wA s 62 (2 + (8 * W + k)) (c32 c)) := by
  obtain ⟨h1, h2, h3, h4, h5⟩ := h
  refine ⟨⟨⟨h1.1.1, fun i hi => ?_⟩, h1.2⟩, h2, h3, h4, md_put hJ hk h5⟩
  rw [rA_F (by omega)]
  exact h1.1.2 i hi
theorem r_cost {b : Nat → Nat} {n : Nat} {t : tok} {W J k : Nat} {C : cst} {s : sx_M} (hW : W < 7) (hJ : J ≤ 8) (hk : k ≤ J) (h : rSt b n t W J k C s) : Ev (f_X12_readsCost (nI k) s) (fun s' => (∀ e, cost1 b n J k t = .inl e → flR e s') ∧ ∀ c t', cost1 b n J k t = .inr (c, t') → rSt b n t' W J (k + 1) (upC C W k c) s') := by
  obtain ⟨w1, w2, w3⟩ := r_word h.1 h.2.1
  have hv4 := h.2.2.1.2.2.2
  have hv : rI s 58 11 = nI t.2.2.2 := h.2.1.2.2.1
  obtain ⟨TT, q1, q2, q3, q4, q5, q6, q7, _⟩ := h.2.1.2.2.2
  have k2 : rI s 58 10 = 2 ↔ t.1 = 2 := by
    rw [q1, ← q4]
    exact nI_lit_eq (by omega) (d := 2) (by omega)
  have k5 : rI s 58 10 = 5 ↔ t.1 = 8 := by
    rw [q1, ← q7]
    exact nI_lit_eq (by omega) (d := 5) (by omega)
  have h620 : rA s 62 (0 : Int32).toNatClampNeg = nI W := h.2.2.2.2.1
  have h621 : rA s 62 (1 : Int32).toNatClampNeg = nI J := h.2.2.2.2.2.1
  have bad0 := h.2.2.2.1.1
  -- a fault, then nothing more
  have stop : ∀ q y2 y3, cost1 b n J k t = .inl (q, t.2.1) → Ev ((f_X12_faults (nI q) s).bind (fun p5 => f_X12_readsCost_J82 (nI k) y2 y3 p5)) (fun s' => (∀ e, cost1 b n J k t = .inl e → flR e s') ∧ ∀ c t', cost1 b n J k t = .inr (c, t') → rSt b n t' W J (k + 1) (upC C W k c) s') := by
    intro q y2 y3 hq
    obtain ⟨s1, e1, c1⟩ := r_flt h q
    rw [bnd e1]
    unfold f_X12_readsCost_J82
    rw [if_neg (flR_n c1)]
    refine ⟨s1, rfl, fun e he => ?_, fun c t' he => ?_⟩
    · rw [hq] at he; cases he; exact c1
    · rw [hq] at he; cases he
  have hpl : f_X12_placeOf (nI W) (nI k) s = some (nI (2 + (8 * W + k)), s) := by
    unfold f_X12_placeOf
    rw [show (8 : Int32) = nI 8 from rfl, pk_mul, show (2 : Int32) = nI 2 from rfl, nI_add, nI_add, Nat.add_assoc]
  unfold f_X12_readsCost
  rw [bnd w3]
  by_cases z1 : ¬ (t.1 = 5 ∨ t.1 = 8 ∨ t.1 = 2)
  · have hq : cost1 b n J k t = .inl (1, t.2.1) := by unfold cost1; rw [if_pos z1]
    rw [if_neg (show ¬ rI s 58 10 = 5 from fun q => z1 (Or.inr (Or.inl (k5.mp q)))), if_neg (show ¬ t.1 = 5 from fun q => z1 (Or.inl q))]
    unfold f_X12_readsCost_J20
    rw [if_pos rfl, if_pos rfl, if_neg (show ¬ rI s 58 10 = 2 from fun q => z1 (Or.inr (Or.inr (k2.mp q))))]
    exact stop 1 0 0 hq
  -- the three kinds
  have hJ20 : ∃ y2 y3 : Int32, (y2 = if t.1 = 5 then 1 else 0) ∧ (y3 = if t.1 = 8 then 1 else 0) ∧ (if rI s 58 10 = 5 then f_X12_readsCost_J20 (nI k) (if t.1 = 5 then 1 else 0) 1 s else f_X12_readsCost_J20 (nI k) (if t.1 = 5 then 1 else 0) 0 s) = f_X12_readsCost_J45 (nI k) y2 y3 s := by
    refine ⟨_, _, rfl, rfl, ?_⟩
    unfold f_X12_readsCost_J20
    by_cases y8 : t.1 = 8
    · rw [if_pos (k5.mpr y8), if_pos y8, if_neg (show ¬ t.1 = 5 by omega), if_pos rfl, if_neg n1_0]
    · rw [if_neg (fun q => y8 (k5.mp q)), if_neg y8]
      by_cases y5 : t.1 = 5
      · rw [if_pos y5, if_neg n1_0]
      · rw [if_neg y5, if_pos rfl, if_pos rfl, if_pos (k2.mpr (by omega))]
  obtain ⟨y2, y3, ey2, ey3, eJ⟩ := hJ20
  show Ev (if rI s 58 10 = 5 then f_X12_readsCost_J20 (nI k) (if t.1 = 5 then 1 else 0) 1 s else f_X12_readsCost_J20 (nI k) (if t.1 = 5 then 1 else 0) 0 s) _
  rw [eJ]
  unfold f_X12_readsCost_J45 f_X12_readsCost_J79
  rw [h621, hv]
  by_cases z3 : J ≤ k
  · have ekJ : k = J := by omega
    rw [if_pos (show nI k = nI J by rw [ekJ])]
    by_cases z2 : t.1 = 2 ∧ 9999 < t.2.2.2
    · have hq : cost1 b n J k t = .inl (2, t.2.1) := by unfold cost1; rw [if_neg z1, if_pos z2]
      rw [if_pos (k2.mpr z2.1), if_neg (show ¬ nI t.2.2.2 ≤ 9999 from nI_ge (a := 9999) z2.2 (by omega))]
      exact stop 2 y2 y3 hq
    · have hq : cost1 b n J k t = .inl (3, t.2.1) := by unfold cost1; rw [if_neg z1, if_neg z2, if_pos z3]
      by_cases y : t.1 = 2
      · rw [if_pos (k2.mpr y), if_pos (show nI t.2.2.2 ≤ 9999 from nI_le (b := 9999) (by omega) (by omega))]
        exact stop 3 y2 y3 hq
      · rw [if_neg (fun q => y (k2.mp q))]
        exact stop 3 y2 y3 hq
  rw [if_neg (show ¬ nI k = nI J from of_eq_false (nI_eq_F (by omega) (by omega) (by omega)))]
  unfold f_X12_readsCost_J82
  rw [if_pos bad0, h620, bnd hpl]
  have hin : ¬ (nI (2 + (8 * W + k)) < 0 ∨ 58 ≤ (nI (2 + (8 * W + k))).toNatClampNeg) := by
    rw [nI_cl (by omega)]
    exact fun q => q.elim (nI_pos (by omega)) (by omega)
  have hcl : (nI (2 + (8 * W + k))).toNatClampNeg = 2 + (8 * W + k) := nI_cl (by omega)
  have flw : ∀ e s i v, flR e s → flR e (wA s 62 i v) := fun e s i v q => q
  by_cases z5 : t.1 = 5
  · have hq : cost1 b n J k t = .inr (none, lx b n t.2.2.1) := by unfold cost1; rw [if_neg z1, if_neg (show ¬ (t.1 = 2 ∧ 9999 < t.2.2.2) by omega), if_neg z3, if_neg (show ¬ t.1 = 8 by omega), if_neg (show ¬ t.1 = 2 by omega)]
    rw [ey2, if_pos z5, if_neg n1_0, if_pos hin, hcl]
    obtain ⟨s1, e1, c1⟩ := r_go (rSt_put (c := none) hJ (show k < J by omega) h)
    have e1 : f_X12_next (wA s 62 (2 + (8 * W + k)) 2147483647) = some s1 := e1
    show Ev ((f_X12_next (wA s 62 (2 + (8 * W + k)) 2147483647)).bind _) _
    rw [bnd e1]
    refine ⟨s1, rfl, fun e he => ?_, fun c t' he => ?_⟩
    · rw [hq] at he; cases he
    · rw [hq] at he; cases he; exact c1
  · rw [ey2, if_neg z5, if_pos rfl]
    by_cases z8 : t.1 = 8
    · rw [ey3, if_pos z8, if_neg n1_0]
      obtain ⟨s1, e1, c1⟩ := r_go h
      show Ev ((f_X12_next s).bind _) _
      rw [bnd e1]
      unfold f_X12_readsCost_J128
      obtain ⟨⟨r2, s2⟩, e2, d0, d1, d2, d3⟩ := r_num c1 (lo := 0) (hi := 9999) (by omega) (by omega)
      simp only at d0 d1 d2 d3
      have e2 : f_X12_number 0 9999 s1 = some (r2, s2) := e2
      have hv' := c1.2.2.1.2.2.2
      rw [bnd e2, if_neg n1_0, if_pos hin, hcl]
      refine ⟨_, rfl, fun e he => ?_, fun c t' he => ?_⟩
      · unfold cost1 at he
        rw [if_neg z1, if_neg (show ¬ (t.1 = 2 ∧ 9999 < t.2.2.2) by omega), if_neg z3, if_pos z8] at he
        by_cases y2 : (lx b n t.2.2.1).1 ≠ 2
        · rw [if_pos y2] at he; cases he
          exact flw _ _ _ _ (d1 y2)
        · rw [if_neg y2] at he
          by_cases y9 : 9999 < (lx b n t.2.2.1).2.2.2
          · rw [if_pos y9] at he; cases he
            exact flw _ _ _ _ (d2 (Decidable.byContradiction y2) (by omega))
          · rw [if_neg y9] at he; cases he
      · unfold cost1 at he
        rw [if_neg z1, if_neg (show ¬ (t.1 = 2 ∧ 9999 < t.2.2.2) by omega), if_neg z3, if_pos z8] at he
        by_cases y2 : (lx b n t.2.2.1).1 ≠ 2
        · rw [if_pos y2] at he; cases he
        · rw [if_neg y2] at he
          by_cases y9 : 9999 < (lx b n t.2.2.1).2.2.2
          · rw [if_pos y9] at he; cases he
          · rw [if_neg y9] at he; cases he
            have hs2 := d3 (Decidable.byContradiction y2) (by omega)
            have ec : -r2 = c32 (some (-((lx b n t.2.2.1).2.2.2 : Int))) := by
              rw [d0]
              show -(iI ((lx b n t.2.2.1).2.2.2 : Int)) = iI _
              rw [iI_neg]
            rw [ec]
            exact rSt_put hJ (show k < J by omega) hs2
    · rw [ey3, if_neg z8, if_pos rfl]
      have z2 : t.1 = 2 := by omega
      unfold f_X12_readsCost_J128
      obtain ⟨⟨r2, s2⟩, e2, d0, d1, d2, d3⟩ := r_num h (lo := 0) (hi := 9999) (by omega) (by omega)
      simp only at d0 d1 d2 d3
      have e2 : f_X12_number 0 9999 s = some (r2, s2) := e2
      show Ev ((f_X12_number 0 9999 s).bind _) _
      rw [bnd e2, if_pos rfl, if_pos hin, hcl]
      refine ⟨_, rfl, fun e he => ?_, fun c t' he => ?_⟩
      · unfold cost1 at he
        rw [if_neg z1] at he
        by_cases y9 : t.1 = 2 ∧ 9999 < t.2.2.2
        · rw [if_pos y9] at he; cases he
          exact flw _ _ _ _ (d2 z2 (by omega))
        · rw [if_neg y9, if_neg z3, if_neg z8] at he; cases he
      · unfold cost1 at he
        rw [if_neg z1] at he
        by_cases y9 : t.1 = 2 ∧ 9999 < t.2.2.2
        · rw [if_pos y9] at he; cases he
        · rw [if_neg y9, if_neg z3, if_neg z8, if_pos z2] at he; cases he
          have hs2 := d3 z2 (by omega)
          have ec : r2 = c32 (some (t.2.2.2 : Int)) := by rw [d0]; rfl
          rw [ec]
          exact rSt_put hJ (show k < J by omega) hs2
