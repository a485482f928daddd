/-! rounds: the reference -/
def rP (P : rdP) (s : sx_M) : Prop := rI s 58 27 = P.2.1 ∧ rI s 58 28 = P.2.2.1 ∧ rI s 58 29 = P.2.2.2.1 ∧ rI s 58 30 = P.2.2.2.2 ∧ rI s 58 31 = nI P.1
def D58 : sx_D := (fun o k => o = 58 ∧ 27 ≤ k ∧ k ≤ 31, fun _ _ => False, fun _ => False, fun _ => False)
def rdS (s : sx_M) (a b c d : Int32) : sx_M := wI (wI (wI (wI s 58 28 a) 58 27 b) 58 30 c) 58 29 d
theorem rdS_x (s : sx_M) (a b c d : Int32) : sx_eq D58 s (rdS s a b c d) := sx_wI' (sx_wI' (sx_wI' (sx_wI' (sx_rf _ _) ⟨rfl, by omega⟩) ⟨rfl, by omega⟩) ⟨rfl, by omega⟩) ⟨rfl, by omega⟩
theorem rdS_P {P : rdP} {s : sx_M} (h : rI s 58 31 = nI P.1) : rP P (rdS s P.2.2.1 P.2.1 P.2.2.2.2 P.2.2.2.1) := by
  unfold rdS
  refine ⟨?_, ?_, rI_T ⟨rfl, rfl⟩, ?_, ?_⟩
  · rw [rI_F (by omega), rI_F (by omega), rI_T ⟨rfl, rfl⟩]
  · rw [rI_F (by omega), rI_F (by omega), rI_F (by omega), rI_T ⟨rfl, rfl⟩]
  · rw [rI_F (by omega), rI_T ⟨rfl, rfl⟩]
  · rw [rI_F (by omega), rI_F (by omega), rI_F (by omega), rI_F (by omega)]; exact h
theorem r_put0 (a b c d y l : Int32) (s : sx_M) : f_X12_laysRounds_L35_J193 a b c d 0 y l (rI s 58 28) 1 s = some (.inl (y + 1, rdS s (rI s 58 28 + 1) (rI s 58 27 + 0) (rI s 58 30 + l) (mxI (rI s 58 29) l))) := by
  unfold f_X12_laysRounds_L35_J193 f_X12_laysRounds_L35_J211 f_X12_laysRounds_L35_J233 rdS
  rw [if_pos rfl, if_pos rfl, bnd (mxI_f _ _ _)]
  have e1 : rI (wI s 58 28 (rI s 58 28 + 1)) 58 27 = rI s 58 27 := rI_F (by omega)
  rw [e1]
  have e2 : rI (wI (wI s 58 28 (rI s 58 28 + 1)) 58 27 (rI s 58 27 + 0)) 58 30 = rI s 58 30 := (rI_F (by omega)).trans (rI_F (by omega))
  rw [e2]
  have e3 : rI (wI (wI (wI s 58 28 (rI s 58 28 + 1)) 58 27 (rI s 58 27 + 0)) 58 30 (rI s 58 30 + l)) 58 29 = rI s 58 29 := (rI_F (by omega)).trans ((rI_F (by omega)).trans (rI_F (by omega)))
  rw [e3]
theorem r_put1 (a b c d y l : Int32) (s : sx_M) : f_X12_laysRounds_L35_J193 a b c d 1 y l (rI s 58 28) 0 s = some (.inl (y + 1, rdS s (rI s 58 28 + 0) (rI s 58 27 + 1) (rI s 58 30 + (l - 1)) (mxI (rI s 58 29) l))) := by
  unfold f_X12_laysRounds_L35_J193 f_X12_laysRounds_L35_J211 f_X12_laysRounds_L35_J233 rdS
  rw [if_neg n1_0, if_neg n1_0, bnd (mxI_f _ _ _)]
  have e1 : rI (wI s 58 28 (rI s 58 28 + 0)) 58 27 = rI s 58 27 := rI_F (by omega)
  rw [e1]
  have e2 : rI (wI (wI s 58 28 (rI s 58 28 + 0)) 58 27 (rI s 58 27 + 1)) 58 30 = rI s 58 30 := (rI_F (by omega)).trans (rI_F (by omega))
  rw [e2]
  have e3 : rI (wI (wI (wI s 58 28 (rI s 58 28 + 0)) 58 27 (rI s 58 27 + 1)) 58 30 (rI s 58 30 + (l - 1))) 58 29 = rI s 58 29 := (rI_F (by omega)).trans ((rI_F (by omega)).trans (rI_F (by omega)))
  rw [e3]
section
variable {T : tb} {L : List asg} {m1 m2 : Nat} {p q : asg}
def adZ (z : Nat) (P : rdP) (r : Nat × Nat) : rdP := if z = 0 then ad0 P r else ad1 P r
theorem r_J94 (hT : tb_ok T) (hm1 : L[m1]? = some p) (hm2 : L[m2]? = some q) (h1 : m1 < 40320) (h2 : m2 < 40320) (hp : p ∈ allA T) (hq : q ∈ allA T) {z : Nat} (hz : z ≤ 1) {P : rdP} {s : sx_M} (hS : P.1 < 2 ^ T.1) (hr : rP P s) (ht : tabIs 59 0 T s) (hl : lst L s) {w : Nat} (hw : w < T.1) : Ev (f_X12_laysRounds_L35_J94 (nI m1) (nI m2) (nI m1) (nI m2) (nI z) (nI w) 0 1 s) (fun r => ∃ s', r = .inl (nI (w + 1), s') ∧ rP (if P.1.testBit w = true then P else adZ z P (wk p.1 q.1 T.1 (T.1 - pcn P.1) (some w) P.1)) s' ∧ sx_eq D58 s s') := by
  have h7 := hT.1
  have hbt : 2 ^ T.1 ≤ 2 ^ 7 := Nat.pow_le_pow_right (by omega) h7
  have hpc := pcn_W T.1 (by omega) P.1 hS
  unfold f_X12_laysRounds_L35_J94 f_X12_has
  rw [if_pos rfl, if_neg n1_0, hr.2.2.2.2, nI_has (show P.1 < 2 ^ 31 by omega) (by omega)]
  by_cases hb : P.1.testBit w = true
  · rw [if_pos hb, if_pos (show nI 1 = 1 from rfl), Option.bind_some, if_neg n1_0]
    refine ⟨.inl (nI w + 1, s), rfl, s, by rw [nI_1], ?_, sx_rf _ _⟩
    rw [if_pos hb]; exact hr
  · rw [if_neg hb, if_neg (show ¬ nI 0 = 1 by decide), Option.bind_some, if_pos rfl]
    obtain ⟨r, e, r1, r2, r3⟩ := r_walk hT hm1 hm2 h1 h2 hp hq (nI m1) (nI m2) (nI m1) (nI m2) (nI z) (nI z) (nI w) (T.1 - pcn P.1) (some w) P.1 0 s (by omega) hS (some_lt hw) hr.2.2.2.2 ht hl
    have hx : sx_eq D58 s r.2 := sx_mono r3 (fun o k z => ⟨z.1, by have := z.2; omega⟩) (fun _ _ z => z.elim) (fun _ z => z.elim) (fun _ z => z.elim)
    have k : ∀ k, k ≠ 31 → rI r.2 58 k = rI s 58 k := fun k hk => r3.1 58 k (by simp only [Dix]; omega)
    rw [if_neg hb]
    generalize wk p.1 q.1 T.1 (T.1 - pcn P.1) (some w) P.1 = R at r1 r2
    rw [Nat.zero_add] at r1
    have e' : whT (f_X12_laysRounds_L128 (nI m1) (nI m2) (nI m1) (nI m2) (nI z) (nI m1) (nI m2) (nI z) (nI w)) (0, nI w, s) = some r := e
    rw [bnd e', r1]
    obtain rfl | rfl : z = 0 ∨ z = 1 := by omega
    · rw [if_pos (show nI 0 = 0 from rfl)]
      have hput := r_put0 (nI m1) (nI m2) (nI m1) (nI m2) (nI w) (nI R.1) r.2
      refine ⟨_, hput, _, by rw [nI_1], ?_, sx_tr hx (rdS_x _ _ _ _ _)⟩
      rw [k 28 (by omega), k 27 (by omega), k 30 (by omega), k 29 (by omega), hr.1, hr.2.1, hr.2.2.1, hr.2.2.2.1, Int32.add_zero]
      exact rdS_P (P := ad0 P R) r2
    · rw [if_neg (show ¬ nI 1 = 0 from n1_0)]
      have hput := r_put1 (nI m1) (nI m2) (nI m1) (nI m2) (nI w) (nI R.1) r.2
      refine ⟨_, hput, _, by rw [nI_1], ?_, sx_tr hx (rdS_x _ _ _ _ _)⟩
      rw [k 28 (by omega), k 27 (by omega), k 30 (by omega), k 29 (by omega), hr.1, hr.2.1, hr.2.2.1, hr.2.2.2.1, Int32.add_zero]
      exact rdS_P (P := ad1 P R) r2
def gZ (z : Nat) (p q : List Nat) (W : Nat) : rdP → Nat → rdP := if z = 0 then g0 p q W else g1 p q W
theorem gZ_lt {z : Nat} {p q : List Nat} {W : Nat} (P : rdP) (w : Nat) (hw : w < W) (h : P.1 < 2 ^ W) : (gZ z p q W P w).1 < 2 ^ W := by
  unfold gZ
  split
  · exact g0_lt hw h
  · exact g1_lt hw h
theorem r_body (hT : tb_ok T) (hm1 : L[m1]? = some p) (hm2 : L[m2]? = some q) (h1 : m1 < 40320) (h2 : m2 < 40320) (hp : p ∈ allA T) (hq : q ∈ allA T) {z : Nat} (hz : z ≤ 1) {P : rdP} {s : sx_M} (hS : P.1 < 2 ^ T.1) (hr : rP P s) (ht : tabIs 59 0 T s) (hl : lst L s) {w : Nat} (hw : w < T.1) : Ev (f_X12_laysRounds_L35 (nI m1) (nI m2) (nI m1) (nI m2) (nI z) (nI w, s)) (fun r => ∃ s', r = .inl (nI (w + 1), s') ∧ rP (gZ z p.1 q.1 T.1 P w) s' ∧ sx_eq D58 s s') := by
  have h7 := hT.1
  have rp := all_row hp
  have rq := all_row hq
  obtain ⟨j1, hj1⟩ := row_get rp.1 hw
  obtain ⟨j2, hj2⟩ := row_get rq.1 hw
  have k1 := rp.2 j1 (List.mem_of_getElem? hj1)
  have k2 := rq.2 j2 (List.mem_of_getElem? hj2)
  have hJ := r_J94 hT hm1 hm2 h1 h2 hp hq hz hS hr ht hl hw
  have skip1 : ∀ t : Int32, f_X12_laysRounds_L35_J94 (nI m1) (nI m2) (nI m1) (nI m2) (nI z) (nI w) 1 t s = some (.inl (nI (w + 1), s)) := by
    intro t
    unfold f_X12_laysRounds_L35_J94
    rw [if_neg n1_0, nI_1]
  have skip2 : f_X12_laysRounds_L35_J94 (nI m1) (nI m2) (nI m1) (nI m2) (nI z) (nI w) 0 0 s = some (.inl (nI (w + 1), s)) := by
    unfold f_X12_laysRounds_L35_J94
    rw [if_pos rfl, if_pos rfl, nI_1]
  simp only [f_X12_laysRounds_L35]
  rw [bnd (f_wk ht), if_neg (show ¬ nI T.1 ≤ nI w from nI_ge hw (by omega)), bnd (r_job hT ht hl hm1 h1 rp.1 rp.2 hj1), bnd (r_job hT ht hl hm2 h2 rq.1 rq.2 hj2)]
  obtain rfl | rfl : z = 0 ∨ z = 1 := by omega
  · have hg : gZ 0 p.1 q.1 T.1 P w = g0 p.1 q.1 T.1 P w := rfl
    rw [hg]
    unfold g0 f_X12_laysRounds_L35_J66
    rw [getD_s hj1, getD_s hj2, if_neg (show ¬ nI 0 = 1 by decide), bnd (r_job hT ht hl hm1 h1 rp.1 rp.2 hj1), bnd (r_who hT ht hl hm2 h2 hq k1)]
    by_cases y : j1 = j2
    · rw [if_pos (show nI j1 = nI j2 by rw [y]), if_pos y]
      refine ⟨.inl (nI (w + 1), s), ?_, s, rfl, hr, sx_rf _ _⟩
      by_cases x : oN (fw q.1 j1 0 T.1) = (-1 : Int32)
      · rw [if_pos x]; exact skip1 1
      · rw [if_neg x]; exact skip1 0
    · rw [if_neg (show ¬ nI j1 = nI j2 from of_eq_false (nI_eq_F y (by omega) (by omega))), if_neg y, if_neg (show ¬ nI 0 = 1 by decide), bnd (r_job hT ht hl hm1 h1 rp.1 rp.2 hj1), bnd (r_who hT ht hl hm2 h2 hq k1)]
      cases hf : fw q.1 j1 0 T.1 with
      | some v =>
        have := (fw_s hf).1
        rw [if_neg (show ¬ oN (some v) = (-1 : Int32) from oN_n1 v (by omega)), if_neg (by simp)]
        exact ⟨_, skip2, s, rfl, hr, sx_rf _ _⟩
      | none =>
        rw [if_pos (show oN none = (-1 : Int32) from rfl), if_pos rfl]
        exact hJ
  · have hg : gZ 1 p.1 q.1 T.1 P w = g1 p.1 q.1 T.1 P w := rfl
    rw [hg]
    unfold g1 f_X12_laysRounds_L35_J66
    rw [getD_s hj1, getD_s hj2]
    by_cases y : j1 = j2
    · rw [if_pos (show nI j1 = nI j2 by rw [y]), if_pos y, if_pos (show nI 1 = 1 from rfl)]
      exact ⟨_, skip1 1, s, rfl, hr, sx_rf _ _⟩
    · rw [if_neg (show ¬ nI j1 = nI j2 from of_eq_false (nI_eq_F y (by omega) (by omega))), if_neg y, if_pos (show nI 1 = 1 from rfl)]
      exact hJ
theorem r_pass (hT : tb_ok T) (hm1 : L[m1]? = some p) (hm2 : L[m2]? = some q) (h1 : m1 < 40320) (h2 : m2 < 40320) (hp : p ∈ allA T) (hq : q ∈ allA T) {z : Nat} (hz : z ≤ 1) {P : rdP} {s : sx_M} (hS0 : P.1 < 2 ^ T.1) (hr : rP P s) (ht : tabIs 59 0 T s) (hl : lst L s) : Ev (whT (f_X12_laysRounds_L35 (nI m1) (nI m2) (nI m1) (nI m2) (nI z)) (0, s)) (fun s' => rP (ps (gZ z p.1 q.1 T.1) P T.1) s' ∧ sx_eq D58 s s') := by
  have h7 := hT.1
  refine ev_f (fun (i : Nat) (a : Int32 × sx_M) => a.1 = nI i ∧ rP (ps (gZ z p.1 q.1 T.1) P i) a.2 ∧ sx_eq D58 s a.2) T.1 ?_ ?_ (i := 0) (by omega) ⟨rfl, hr, sx_rf _ _⟩
  · rintro i ⟨a1, s1⟩ hi ⟨ea, b1, b2⟩
    simp only at ea b1 b2
    subst ea
    obtain ⟨r, e, s2, rfl, c1, c2⟩ := r_body hT hm1 hm2 h1 h2 hp hq hz (ps_lt gZ_lt hS0 i (by omega)) b1 (tab_eq b2 (fun z => z) ht) (lst_eq b2 (by simp only [D58]; omega) (fun z => z) (fun z => z) hl) hi
    exact ⟨_, e, rfl, c1, sx_tr b2 c2⟩
  · rintro ⟨a1, s1⟩ ⟨ea, b1, b2⟩
    simp only at ea b1 b2
    subst ea
    refine ⟨.inr s1, ?_, b1, b2⟩
    simp only [f_X12_laysRounds_L35]
    rw [bnd (f_wk (tab_eq b2 (fun z => z) ht)), if_pos (nI_le (Nat.le_refl _) (by omega))]
theorem r_rounds (hT : tb_ok T) (hm1 : L[m1]? = some p) (hm2 : L[m2]? = some q) (h1 : m1 < 40320) (h2 : m2 < 40320) (hp : p ∈ allA T) (hq : q ∈ allA T) {s : sx_M} (ht : tabIs 59 0 T s) (hl : lst L s) : Ev (f_X12_laysRounds (nI m1) (nI m2) s) (fun s' => rP (rdE p.1 q.1 T.1) s') := by
  have hx : sx_eq D58 s (wI (wI (wI (wI (wI s 58 27 (0 : Int32)) 58 28 (0 : Int32)) 58 29 (0 : Int32)) 58 30 (0 : Int32)) 58 31 (0 : Int32)) := sx_wI' (sx_wI' (sx_wI' (sx_wI' (sx_wI' (sx_rf _ _) ⟨rfl, by omega⟩) ⟨rfl, by omega⟩) ⟨rfl, by omega⟩) ⟨rfl, by omega⟩) ⟨rfl, by omega⟩
  have h0 : rP P00 (wI (wI (wI (wI (wI s 58 27 (0 : Int32)) 58 28 (0 : Int32)) 58 29 (0 : Int32)) 58 30 (0 : Int32)) 58 31 (0 : Int32)) := by
    refine ⟨?_, ?_, ?_, ?_, rI_T ⟨rfl, rfl⟩⟩
    · rw [rI_F (by omega), rI_F (by omega), rI_F (by omega), rI_F (by omega), rI_T ⟨rfl, rfl⟩]; rfl
    · rw [rI_F (by omega), rI_F (by omega), rI_F (by omega), rI_T ⟨rfl, rfl⟩]; rfl
    · rw [rI_F (by omega), rI_F (by omega), rI_T ⟨rfl, rfl⟩]; rfl
    · rw [rI_F (by omega), rI_T ⟨rfl, rfl⟩]; rfl
  unfold f_X12_laysRounds
  generalize wI (wI (wI (wI (wI s 58 27 (0 : Int32)) 58 28 (0 : Int32)) 58 29 (0 : Int32)) 58 30 (0 : Int32)) 58 31 (0 : Int32) = s0 at hx h0 ⊢
  have ht0 := tab_eq hx (fun z => z) ht
  have hl0 := lst_eq hx (by simp only [D58]; omega) (fun z => z) (fun z => z) hl
  have hS0 : P00.1 < 2 ^ T.1 := Nat.pow_pos (by omega)
  obtain ⟨s1, e1, c1, x1⟩ := r_pass (z := 0) hT hm1 hm2 h1 h2 hp hq (by omega) hS0 h0 ht0 hl0
  obtain ⟨s2, e2, c2, x2⟩ := r_pass (z := 1) hT hm1 hm2 h1 h2 hp hq (by omega) (ps_lt gZ_lt hS0 T.1 (Nat.le_refl _)) c1 (tab_eq x1 (fun z => z) ht0) (lst_eq x1 (by simp only [D58]; omega) (fun z => z) (fun z => z) hl0)
  have e1' : whT (f_X12_laysRounds_L35 (nI m1) (nI m2) (nI m1) (nI m2) 0) (0, s0) = some s1 := e1
  have e2' : whT (f_X12_laysRounds_L35 (nI m1) (nI m2) (nI m1) (nI m2) 1) (0, s1) = some s2 := e2
  refine ⟨s2, ?_, c2⟩
  have hL : whT (f_X12_laysRounds_L27 (nI m1) (nI m2)) (0, s0) = some s2 := by
    rw [whT_eq]
    have a1 : f_X12_laysRounds_L27 (nI m1) (nI m2) (0, s0) = some (.inl (1, s1)) := by
      simp only [f_X12_laysRounds_L27]
      rw [if_neg (by decide), bnd e1']; rfl
    rw [a1]
    show whT _ _ = _
    rw [whT_eq]
    have a2 : f_X12_laysRounds_L27 (nI m1) (nI m2) (1, s1) = some (.inl (2, s2)) := by
      simp only [f_X12_laysRounds_L27]
      rw [if_neg (by decide), bnd e2']; rfl
    rw [a2]
    show whT _ _ = _
    rw [whT_eq]
    have a3 : f_X12_laysRounds_L27 (nI m1) (nI m2) (2, s2) = some (.inr s2) := by
      simp only [f_X12_laysRounds_L27]
      rw [if_pos (by decide)]
    rw [a3]; rfl
  rw [bnd hL]
end
