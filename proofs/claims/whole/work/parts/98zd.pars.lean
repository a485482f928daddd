/-! table: what is read -/
abbrev flt : Type := Nat × Nat
def upC (C : cst) (w j : Nat) (c : Option Int) : cst := fun a d => if a = w ∧ d = j then c else C a d
def cost1 (b : Nat → Nat) (n J k : Nat) (t : tok) : flt ⊕ (Option Int × tok) :=
  if ¬ (t.1 = 5 ∨ t.1 = 8 ∨ t.1 = 2) then .inl (1, t.2.1)
  else if t.1 = 2 ∧ 9999 < t.2.2.2 then .inl (2, t.2.1)
  else if J ≤ k then .inl (3, t.2.1)
  else if t.1 = 8 then
    (if (lx b n t.2.2.1).1 ≠ 2 then .inl (1, (lx b n t.2.2.1).2.1)
     else if 9999 < (lx b n t.2.2.1).2.2.2 then .inl (2, (lx b n t.2.2.1).2.1)
     else .inr (some (-((lx b n t.2.2.1).2.2.2 : Int)), lx b n (lx b n t.2.2.1).2.2.1))
  else .inr (if t.1 = 2 then some (t.2.2.2 : Int) else none, lx b n t.2.2.1)
def costs (b : Nat → Nat) (n J W : Nat) : Nat → Nat → tok → cst → flt ⊕ (Nat × cst × tok)
  | 0, _, _, _ => .inl (0, 0)
  | m + 1, k, t, C =>
    match cost1 b n J k t with
    | .inl e => .inl e
    | .inr r => if r.2.1 = 7 then costs b n J W m (k + 1) (lx b n r.2.2.2.1) (upC C W k r.1) else .inr (k + 1, upC C W k r.1, r.2)
def wrk (b : Nat → Nat) (n J W : Nat) (t : tok) (C : cst) : flt ⊕ (cst × tok) :=
  if t.1 ≠ 4 then .inl (1, t.2.1)
  else if 7 ≤ W then .inl (3, t.2.1)
  else
    match costs b n J W (J + 1) 0 (lx b n t.2.2.1) C with
    | .inl e => .inl e
    | .inr r => if r.2.2.1 ≠ 6 then .inl (1, r.2.2.2.1) else if r.1 < J then .inl (4, r.2.2.2.1) else .inr (r.2.1, lx b n r.2.2.2.2.1)
def wrks (b : Nat → Nat) (n J : Nat) : Nat → Nat → tok → cst → flt ⊕ (Nat × cst)
  | 0, _, _, _ => .inl (0, 0)
  | m + 1, W, t, C =>
    if t.1 = 0 then .inr (W, C)
    else
      match wrk b n J W t C with
      | .inl e => .inl e
      | .inr r => wrks b n J m (W + 1) r.2 r.1
def prsJ (b : Nat → Nat) (n : Nat) (t0 : tok) : flt ⊕ (Nat × tok) :=
  if t0.1 ≠ 3 then .inl (1, t0.2.1)
  else if (lx b n t0.2.2.1).1 ≠ 2 then .inl (1, (lx b n t0.2.2.1).2.1)
  else if (lx b n t0.2.2.1).2.2.2 < 1 ∨ 8 < (lx b n t0.2.2.1).2.2.2 then .inl (2, (lx b n t0.2.2.1).2.1)
  else if (lx b n (lx b n t0.2.2.1).2.2.1).1 ≠ 6 then .inl (1, (lx b n (lx b n t0.2.2.1).2.2.1).2.1)
  else .inr ((lx b n t0.2.2.1).2.2.2, lx b n (lx b n (lx b n t0.2.2.1).2.2.1).2.2.1)
def prs (b : Nat → Nat) (n : Nat) : flt ⊕ tb :=
  if (lx b n 0).1 = 0 then .inr (0, 0, fun _ _ => none)
  else
    match prsJ b n (lx b n 0) with
    | .inl e => .inl e
    | .inr r =>
      match wrks b n r.1 8 0 r.2 (fun _ _ => none) with
      | .inl e => .inl e
      | .inr x => .inr (x.1, r.1, x.2)
def CI (J W k : Nat) (C : cst) : Prop := ∀ w j x, C w j = some x → (-9999 ≤ x ∧ x ≤ 9999) ∧ j < J ∧ (w < W ∨ (w = W ∧ j < k))
def tOK (n : Nat) (t : tok) : Prop := t.1 ≤ 8 ∧ t.2.1 ≤ n ∧ t.2.2.1 ≤ n ∧ t.2.2.2 ≤ 10000
theorem lx_t {b : Nat → Nat} {n g : Nat} (hg : g ≤ n) : tOK n (lx b n g) := lx_ok hg
theorem cost1_ok {b : Nat → Nat} {n J k : Nat} {t : tok} (ht : tOK n t) {c : Option Int} {t' : tok} (h : cost1 b n J k t = .inr (c, t')) : k < J ∧ tOK n t' ∧ ∀ x, c = some x → -9999 ≤ x ∧ x ≤ 9999 := by
  unfold cost1 at h
  by_cases z1 : ¬ (t.1 = 5 ∨ t.1 = 8 ∨ t.1 = 2)
  · rw [if_pos z1] at h; cases h
  rw [if_neg z1] at h
  by_cases z2 : t.1 = 2 ∧ 9999 < t.2.2.2
  · rw [if_pos z2] at h; cases h
  rw [if_neg z2] at h
  by_cases z3 : J ≤ k
  · rw [if_pos z3] at h; cases h
  rw [if_neg z3] at h
  have h1 := lx_t (b := b) ht.2.2.1
  by_cases z4 : t.1 = 8
  · rw [if_pos z4] at h
    by_cases z5 : (lx b n t.2.2.1).1 ≠ 2
    · rw [if_pos z5] at h; cases h
    rw [if_neg z5] at h
    by_cases z6 : 9999 < (lx b n t.2.2.1).2.2.2
    · rw [if_pos z6] at h; cases h
    rw [if_neg z6] at h
    cases h
    exact ⟨by omega, lx_t h1.2.2.1, fun x e => by cases e; omega⟩
  · rw [if_neg z4] at h
    cases h
    refine ⟨by omega, h1, fun x e => ?_⟩
    by_cases z5 : t.1 = 2
    · rw [if_pos z5] at e
      cases e
      omega
    · rw [if_neg z5] at e; cases e
theorem CI_up {J W k : Nat} {C : cst} {c : Option Int} (h : CI J W k C) (hk : k < J) (hc : ∀ x, c = some x → -9999 ≤ x ∧ x ≤ 9999) : CI J W (k + 1) (upC C W k c) := by
  intro w j x e
  unfold upC at e
  by_cases z : w = W ∧ j = k
  · rw [if_pos z] at e
    exact ⟨hc x e, by omega, by omega⟩
  · rw [if_neg z] at e
    have := h w j x e
    omega
theorem costs_ok {b : Nat → Nat} {n J W : Nat} : ∀ (m k : Nat) (t : tok) (C : cst), tOK n t → CI J W k C → ∀ x, costs b n J W m k t C = .inr x → x.1 ≤ J ∧ CI J W x.1 x.2.1 ∧ tOK n x.2.2
  | 0, _, _, _, _, _, _, h => by cases h
  | m + 1, k, t, C, ht, hC, x, h => by
    unfold costs at h
    cases hc : cost1 b n J k t with
    | inl e => rw [hc] at h; cases h
    | inr r =>
      obtain ⟨c, t'⟩ := r
      rw [hc] at h
      simp only at h
      obtain ⟨h1, h2, h3⟩ := cost1_ok ht hc
      by_cases z : t'.1 = 7
      · rw [if_pos z] at h
        exact costs_ok m (k + 1) _ _ (lx_t h2.2.2.1) (CI_up hC h1 h3) x h
      · rw [if_neg z] at h
        cases h
        exact ⟨by simp only; omega, CI_up hC h1 h3, h2⟩
theorem wrk_ok {b : Nat → Nat} {n J W : Nat} {t : tok} {C : cst} (ht : tOK n t) (hC : CI J W 0 C) {x : cst × tok} (h : wrk b n J W t C = .inr x) : W < 7 ∧ CI J (W + 1) 0 x.1 ∧ tOK n x.2 := by
  unfold wrk at h
  by_cases z1 : t.1 ≠ 4
  · rw [if_pos z1] at h; cases h
  rw [if_neg z1] at h
  by_cases z2 : 7 ≤ W
  · rw [if_pos z2] at h; cases h
  rw [if_neg z2] at h
  cases hc : costs b n J W (J + 1) 0 (lx b n t.2.2.1) C with
  | inl e => rw [hc] at h; cases h
  | inr r =>
    rw [hc] at h
    simp only at h
    obtain ⟨h1, h2, h3⟩ := costs_ok (J + 1) 0 _ C (lx_t ht.2.2.1) hC r hc
    by_cases z3 : r.2.2.1 ≠ 6
    · rw [if_pos z3] at h; cases h
    rw [if_neg z3] at h
    by_cases z4 : r.1 < J
    · rw [if_pos z4] at h; cases h
    rw [if_neg z4] at h
    cases h
    refine ⟨by omega, fun w j y e => ?_, lx_t h3.2.2.1⟩
    have := h2 w j y e
    omega
/-! the class -/
def cSt (b : Nat → Nat) (n : Nat) (t : tok) (W J : Nat) (C : cst) (s : sx_M) : Prop := tpC b n s ∧ tkC t s ∧ tOK n t ∧ gridF 13 W J (fun a d => c64 (C a d)) s ∧ rI s 19 6 = 0 ∧ rI s 19 7 = -1
def flC (e : flt) (r : Int32 × sx_M) : Prop := r.1 = 0 ∧ rI r.2 19 6 = nI e.1 ∧ rI r.2 19 7 = nI e.2
theorem c_fail {t : tok} {s : sx_M} (h : tkC t s) (k : Nat) : Ev ((f_X6_fail (nI k) s).bind (fun p => if (p.1 = 0 ∨ p.1 = 1) then some (p.1, p.2) else none)) (flC (k, t.2.1)) := by
  refine ⟨(0, wI (wI s 19 6 (nI k)) 19 7 (rI (wI s 19 6 (nI k)) 19 3)), ?_, rfl, ?_, ?_⟩
  · exact if_pos (c := (0 : Int32) = 0 ∨ (0 : Int32) = 1) (e := none) (Or.inl rfl)
  · rw [rI_F (by omega)]; exact rI_T ⟨rfl, rfl⟩
  · rw [rI_T ⟨rfl, rfl⟩, rI_F (by omega)]; exact h.2.1
theorem gF_eq {D : sx_D} {s s' : sx_M} (h : sx_eq D s s') {g W J : Nat} {F : Nat → Nat → Int64} (h1 : ¬ D.1 g 1) (h2 : ¬ D.1 g 2) (h3 : ¬ D.2.2.2 (g + 1)) (hg : gridF g W J F s) : gridF g W J F s' :=
  ⟨(h.1 _ _ h1).trans hg.1, (h.1 _ _ h2).trans hg.2.1, fun w j hw hj => (h.2.2.2 _ _ h3).trans (hg.2.2 w j hw hj)⟩
theorem c_go {b : Nat → Nat} {n : Nat} {t : tok} {W J : Nat} {C : cst} {s : sx_M} (h : cSt b n t W J C s) (h0 : t.1 ≠ 0) : Ev (f_X6_step s) (fun s' => cSt b n (lx b n t.2.2.1) W J C s') := by
  obtain ⟨h1, h2, h3, h4, h5, h6⟩ := h
  obtain ⟨s', e, c1, c2⟩ := c_step h1 h3.2.2.1 (h2.2.2.1 h0)
  have hx := fr_f_X6_step _ e
  refine ⟨s', e, c2, c1, lx_t h3.2.2.1, gF_eq hx (by simp only; omega) (by simp only; omega) (fun z => z) h4, ?_, ?_⟩
  · rw [hx.1 19 6 (by simp only; omega)]; exact h5
  · rw [hx.1 19 7 (by simp only; omega)]; exact h6
theorem v_64 {v : Nat} (h : v ≤ 10000) : (nI v).toInt64 = c64 (some (v : Int)) := by
  show (iI (v : Int)).toInt64 = jJ (v : Int)
  rw [iI_64 (by omega) (by omega)]
theorem v_n64 {v : Nat} (h : v ≤ 10000) : (-(nI v)).toInt64 = c64 (some (-(v : Int))) := by
  show (-(iI (v : Int))).toInt64 = jJ (-(v : Int))
  rw [iI_neg, iI_64 (by omega) (by omega)]
theorem c_cost {b : Nat → Nat} {n : Nat} {t : tok} {W J k : Nat} {C : cst} {s : sx_M} (hW : W < 7) (hJ : J ≤ 8) (hk : k ≤ J) (h : cSt b n t (W + 1) J C s) : Ev (f_X6_readCost (nI k) s) (fun r => (∀ e, cost1 b n J k t = .inl e → flC e r) ∧ ∀ c t', cost1 b n J k t = .inr (c, t') → r.1 = 1 ∧ cSt b n t' (W + 1) J (upC C W k c) r.2) := by
  obtain ⟨h1, h2, h3, h4, h5, h6⟩ := h
  have K8 := h3.1
  have kEq : ∀ c, c < 256 → (rI s 19 2 = nI c ↔ t.1 = c) := fun c hc => by rw [h2.1]; exact nI_lit_eq (by omega) hc
  have fail : ∀ q, cost1 b n J k t = .inl (q, t.2.1) → Ev ((f_X6_fail (nI q) s).bind (fun p => if (p.1 = 0 ∨ p.1 = 1) then some (p.1, p.2) else none)) (fun r => (∀ e, cost1 b n J k t = .inl e → flC e r) ∧ ∀ c t', cost1 b n J k t = .inr (c, t') → r.1 = 1 ∧ cSt b n t' (W + 1) J (upC C W k c) r.2) := by
    intro q hq
    obtain ⟨r, e, hr⟩ := c_fail h2 q
    refine ⟨r, e, fun e' he => ?_, fun c t' he => ?_⟩
    · rw [hq] at he; cases he; exact hr
    · rw [hq] at he; cases he
  -- the cost goes into the draft
  have put : ∀ (t1 : tok) (s1 : sx_M) (c : Option Int), k < J → cSt b n t1 (W + 1) J C s1 → t1.1 ≠ 0 → cost1 b n J k t = .inr (c, lx b n t1.2.2.1) → Ev (f_X6_readCost_J142 (nI k) (c64 c) s1) (fun r => (∀ e, cost1 b n J k t = .inl e → flC e r) ∧ ∀ c t', cost1 b n J k t = .inr (c, t') → r.1 = 1 ∧ cSt b n t' (W + 1) J (upC C W k c) r.2) := by
    intro t1 s1 c hkJ hs hne hq
    obtain ⟨g1, g2, g3, g4, g5, g6⟩ := hs
    obtain ⟨s2, e2, p1⟩ := ev_put (g := 13) (show W + 1 ≤ 7 by omega) hJ g4 (show W < W + 1 by omega) hkJ (c64 c)
    have hx := fr_f_X1_put 13 _ _ _ _ ax_G13 e2
    have hs2 : cSt b n t1 (W + 1) J (upC C W k c) s2 := by
      refine ⟨⟨⟨(hx.1 1 1 (fun z => z)).trans g1.1.1, fun i hi => by rw [hx.2.2.1 2 i (fun z => z)]; exact g1.1.2 i hi⟩, g1.2⟩, ⟨(hx.1 19 2 (fun z => z)).trans g2.1, (hx.1 19 3 (fun z => z)).trans g2.2.1, fun q => (hx.1 19 4 (fun z => z)).trans (g2.2.2.1 q), fun q => (hx.1 19 5 (fun z => z)).trans (g2.2.2.2 q)⟩, g3, gridF_ext p1 (fun a d _ _ => ?_), (hx.1 19 6 (fun z => z)).trans g5, (hx.1 19 7 (fun z => z)).trans g6⟩
      unfold upC upF
      by_cases z : a = W ∧ d = k
      · rw [if_pos z, if_pos z]
      · rw [if_neg z, if_neg z]
    obtain ⟨s3, e3, p3⟩ := c_go hs2 hne
    refine ⟨(1, s3), ?_, fun e he => ?_, fun c' t' he => ?_⟩
    · unfold f_X6_readCost_J142
      rw [g4.1, show nI (W + 1) - (1 : Int32) = nI W from nI_k1 W, bnd e2, bnd e3]
    · rw [hq] at he; cases he
    · rw [hq] at he; cases he; exact ⟨rfl, p3⟩
  by_cases z1 : ¬ (t.1 = 5 ∨ t.1 = 8 ∨ t.1 = 2)
  · have hq : cost1 b n J k t = .inl (1, t.2.1) := by unfold cost1; rw [if_pos z1]
    unfold f_X6_readCost
    rw [if_neg (show ¬ rI s 19 2 = 5 from fun q => z1 (Or.inl ((kEq 5 (by omega)).mp q))), if_neg (show ¬ rI s 19 2 = 8 from fun q => z1 (Or.inr (Or.inl ((kEq 8 (by omega)).mp q)))), if_neg (show ¬ rI s 19 2 = 2 from fun q => z1 (Or.inr (Or.inr ((kEq 2 (by omega)).mp q))))]
    exact fail 1 hq
  have e31 : f_X6_readCost (nI k) s = f_X6_readCost_J31 (nI k) s := by
    unfold f_X6_readCost
    by_cases q5 : rI s 19 2 = 5
    · rw [if_pos q5]
    · rw [if_neg q5]
      by_cases q8 : rI s 19 2 = 8
      · rw [if_pos q8]
      · rw [if_neg q8, if_pos (show rI s 19 2 = 2 from (kEq 2 (by omega)).mpr (by
          have a5 : t.1 ≠ 5 := fun q => q5 ((kEq 5 (by omega)).mpr q)
          have a8 : t.1 ≠ 8 := fun q => q8 ((kEq 8 (by omega)).mpr q)
          omega))]
  rw [e31]
  by_cases z2 : t.1 = 2 ∧ 9999 < t.2.2.2
  · have hq : cost1 b n J k t = .inl (2, t.2.1) := by unfold cost1; rw [if_neg z1, if_pos z2]
    unfold f_X6_readCost_J31
    rw [if_pos (show rI s 19 2 = 2 from (kEq 2 (by omega)).mpr z2.1), h2.2.2.2 z2.1, if_neg (show ¬ nI t.2.2.2 ≤ 9999 from nI_ge (a := 9999) z2.2 (by have := h3.2.2.2; omega))]
    exact fail 2 hq
  have e55 : f_X6_readCost_J31 (nI k) s = f_X6_readCost_J55 (nI k) s := by
    unfold f_X6_readCost_J31
    by_cases q2 : t.1 = 2
    · rw [if_pos (show rI s 19 2 = 2 from (kEq 2 (by omega)).mpr q2), h2.2.2.2 q2, if_pos (show nI t.2.2.2 ≤ 9999 from nI_le (b := 9999) (by omega) (by omega))]
    · rw [if_neg (show ¬ rI s 19 2 = 2 from fun q => q2 ((kEq 2 (by omega)).mp q))]
  rw [e55]
  unfold f_X6_readCost_J55
  rw [h4.2.1]
  by_cases z3 : J ≤ k
  · have hq : cost1 b n J k t = .inl (3, t.2.1) := by unfold cost1; rw [if_neg z1, if_neg z2, if_pos z3]
    rw [if_neg (show ¬ nI k < nI J from of_eq_false (nI_lt_F z3 (by omega)))]
    exact fail 3 hq
  rw [if_pos (show nI k < nI J from of_eq_true (nI_lt_T (by omega) (by omega)))]
  unfold f_X6_readCost_J91
  by_cases z4 : t.1 = 8
  · rw [if_neg (show ¬ rI s 19 2 = 2 from fun q => by have := (kEq 2 (by omega)).mp q; omega), if_pos (show rI s 19 2 = 8 from (kEq 8 (by omega)).mpr z4)]
    obtain ⟨s1, e1, c1⟩ := c_go ⟨h1, h2, h3, h4, h5, h6⟩ (by omega)
    rw [bnd e1]
    have h3' := lx_t (b := b) h3.2.2.1
    have kEq1 : ∀ c, c < 256 → (rI s1 19 2 = nI c ↔ (lx b n t.2.2.1).1 = c) := fun c hc => by
      rw [c1.2.1.1]
      exact nI_lit_eq (by have := h3'.1; omega) hc
    have fail1 : ∀ q, cost1 b n J k t = .inl (q, (lx b n t.2.2.1).2.1) → Ev ((f_X6_fail (nI q) s1).bind (fun p => if (p.1 = 0 ∨ p.1 = 1) then some (p.1, p.2) else none)) (fun r => (∀ e, cost1 b n J k t = .inl e → flC e r) ∧ ∀ c t', cost1 b n J k t = .inr (c, t') → r.1 = 1 ∧ cSt b n t' (W + 1) J (upC C W k c) r.2) := by
      intro q hq
      obtain ⟨r, e, hr⟩ := c_fail c1.2.1 q
      refine ⟨r, e, fun e' he => ?_, fun c t' he => ?_⟩
      · rw [hq] at he; cases he; exact hr
      · rw [hq] at he; cases he
    by_cases z5 : (lx b n t.2.2.1).1 ≠ 2
    · have hq : cost1 b n J k t = .inl (1, (lx b n t.2.2.1).2.1) := by unfold cost1; rw [if_neg z1, if_neg z2, if_neg z3, if_pos z4, if_pos z5]
      rw [if_neg (show ¬ rI s1 19 2 = 2 from fun q => z5 ((kEq1 2 (by omega)).mp q))]
      exact fail1 1 hq
    · have z5 : (lx b n t.2.2.1).1 = 2 := Decidable.byContradiction z5
      rw [if_pos (show rI s1 19 2 = 2 from (kEq1 2 (by omega)).mpr z5), c1.2.1.2.2.2 z5]
      by_cases z6 : 9999 < (lx b n t.2.2.1).2.2.2
      · have hq : cost1 b n J k t = .inl (2, (lx b n t.2.2.1).2.1) := by unfold cost1; rw [if_neg z1, if_neg z2, if_neg z3, if_pos z4, if_neg (fun q => q z5), if_pos z6]
        rw [if_neg (show ¬ nI (lx b n t.2.2.1).2.2.2 ≤ 9999 from nI_ge (a := 9999) z6 (by have := h3'.2.2.2; omega))]
        exact fail1 2 hq
      · have hq : cost1 b n J k t = .inr (some (-((lx b n t.2.2.1).2.2.2 : Int)), lx b n (lx b n t.2.2.1).2.2.1) := by unfold cost1; rw [if_neg z1, if_neg z2, if_neg z3, if_pos z4, if_neg (fun q => q z5), if_neg z6]
        rw [if_pos (show nI (lx b n t.2.2.1).2.2.2 ≤ 9999 from nI_le (b := 9999) (by omega) (by omega)), v_n64 h3'.2.2.2]
        exact put _ s1 _ (by omega) c1 (by omega) hq
  · have n8 : ¬ rI s 19 2 = 8 := fun q => z4 ((kEq 8 (by omega)).mp q)
    by_cases z5 : t.1 = 2
    · have hq : cost1 b n J k t = .inr (some (t.2.2.2 : Int), lx b n t.2.2.1) := by unfold cost1; rw [if_neg z1, if_neg z2, if_neg z3, if_neg z4, if_pos z5]
      rw [if_pos (show rI s 19 2 = 2 from (kEq 2 (by omega)).mpr z5), if_neg n8, h2.2.2.2 z5, v_64 h3.2.2.2]
      exact put t s _ (by omega) ⟨h1, h2, h3, h4, h5, h6⟩ (by omega) hq
    · have hq : cost1 b n J k t = .inr (none, lx b n t.2.2.1) := by unfold cost1; rw [if_neg z1, if_neg z2, if_neg z3, if_neg z4, if_neg z5]
      rw [if_neg (show ¬ rI s 19 2 = 2 from fun q => z5 ((kEq 2 (by omega)).mp q)), if_neg n8]
      exact put t s none (by omega) ⟨h1, h2, h3, h4, h5, h6⟩ (by omega) hq
