def auR (T : tb) (c : Nat) (h : hs) (q : List Nat) (p : Nat → Int64) (s : sx_M) : Prop := hR T h s ∧ qIs 69 c q s ∧ rI s 58 26 = nI c ∧ ∀ j, j < 8 → rB s 68 j = p j
def Dor : sx_D := (fun o k => o = 58 ∧ k = 26, fun _ _ => False, fun o => o = 67 ∨ o = 69, fun o => o = 68)
theorem qIs_tl {o b w : Nat} {q : List Nat} {s : sx_M} (h : qIs o b (w :: q) s) : qIs o (b + 1) q s := fun i v hv => by
  have := h (i + 1) v (by simpa using hv)
  rw [show b + 1 + i = b + (i + 1) by omega]
  exact this
theorem r_oust {T : tb} {w j c : Nat} {h : hs} {q : List Nat} {s : sx_M} (hT : tb_ok T) (hI : auI T h (w :: q)) (hj : j < 8) (hc : c ≤ 500) (hg : tabIs 59 0 T s) (hh : hR T h s) (hq : qIs 69 c q s) (z1 z2 z4 : Int32) (z9 : Int64) : Ev (whT (f_X12_laysAuction_L179 z1 z1 z2 z4 (nI j) z9) (nI (c + q.length), 0, s)) (fun r => hR T (ou j h q T.1).1 r.2 ∧ qIs 69 c (ou j h q T.1).2 r.2 ∧ r.1 = nI (c + (ou j h q T.1).2.length) ∧ sx_eq ((fun _ _ => False, fun _ _ => False, fun o => o = 67 ∨ o = 69, fun _ => False) : sx_D) s r.2) := by
  have h7 := hT.1
  refine ev_f (fun (i : Nat) (a : Int32 × Int32 × sx_M) => a.2.1 = nI i ∧ hR T (ou j h q i).1 a.2.2 ∧ qIs 69 c (ou j h q i).2 a.2.2 ∧ a.1 = nI (c + (ou j h q i).2.length) ∧ sx_eq ((fun _ _ => False, fun _ _ => False, fun o => o = 67 ∨ o = 69, fun _ => False) : sx_D) s a.2.2) T.1 ?_ ?_ (i := 0) (by omega) ⟨rfl, hh, hq, rfl, sx_rf _ _⟩
  · rintro i ⟨a0, a1, s1⟩ hi ⟨ea, b1, b2, b3, b4⟩
    simp only at ea b1 b2 b3 b4
    subst ea b3
    have hI1 := ou_I (j := j) hI i (by omega)
    have hg1 : tabIs 59 0 T s1 := tab_eq b4 (by simp only; omega) hg
    have hin : ¬ (nI i < 0 ∨ 7 ≤ (nI i).toNatClampNeg) := by
      rw [nI_cl (by omega)]
      exact fun q => q.elim (nI_pos (by omega)) (by omega)
    have e1 := oN_eq (b1 i hi).2 hj
    by_cases z : (ou j h q i).1 i = some j
    · have hlen : (ou j h q i).2.length < 7 := by
        have h1 := hI1.2.2.2
        have h2 : (w :: (ou j h q i).2).length = (ou j h q i).2.length + 1 := rfl
        omega
      have hin2 : ¬ (nI (c + (ou j h q i).2.length) < 0 ∨ 600 ≤ (nI (c + (ou j h q i).2.length)).toNatClampNeg) := by
        rw [nI_cl (by omega)]
        exact fun q => q.elim (nI_pos (by omega)) (by omega)
      refine ⟨.inl (nI (c + (ou j h q i).2.length + 1), nI (i + 1), wA (wA s1 67 i (-1)) 69 (c + (ou j h q i).2.length) (nI i)), ?_, rfl, ?_, ?_, ?_, sx_wA' (sx_wA' b4 (Or.inl rfl)) (Or.inr rfl)⟩
      · simp only [f_X12_laysAuction_L179]
        rw [bnd (f_wk hg1), if_neg (show ¬ nI T.1 ≤ nI i from nI_ge hi (by omega)), if_pos hin, if_pos hin, nI_cl (show i < 2147483648 by omega), (b1 i hi).1, if_pos (e1.mpr z), if_pos hin2, nI_cl (show c + (ou j h q i).2.length < 2147483648 by omega), nI_1, nI_1]
      · rw [ou_p z]
        intro v hv
        show rA (wA (wA s1 67 i (-1)) 69 (c + (ou j h q i).2.length) (nI i)) 67 v = oN (dn (ou j h q i).1 i v) ∧ ∀ k, dn (ou j h q i).1 i v = some k → k < 8
        rw [rA_F (by omega)]
        by_cases y : v = i
        · rw [rA_T ⟨rfl, y⟩, y, dn_w]
          exact ⟨rfl, fun k hk => by cases hk⟩
        · rw [rA_F (by omega), dn_o y]; exact b1 v hv
      · rw [ou_p z]
        refine qIs_ap (s := s1) b2 (fun m hm => ?_) ?_
        · show rA (wA (wA s1 67 i (-1)) 69 (c + (ou j h q i).2.length) (nI i)) 69 (c + m) = _
          rw [rA_F (by omega), rA_F (by omega)]
        · show rA (wA (wA s1 67 i (-1)) 69 (c + (ou j h q i).2.length) (nI i)) 69 (c + (ou j h q i).2.length) = _
          rw [rA_T ⟨rfl, rfl⟩]
      · rw [ou_p z]
        show nI (c + (ou j h q i).2.length + 1) = nI (c + ((ou j h q i).2 ++ [i]).length)
        rw [List.length_append]
        rfl
    · refine ⟨.inl (nI (c + (ou j h q i).2.length), nI (i + 1), s1), ?_, rfl, by rw [ou_n z]; exact b1, by rw [ou_n z]; exact b2, by rw [ou_n z], b4⟩
      simp only [f_X12_laysAuction_L179]
      rw [bnd (f_wk hg1), if_neg (show ¬ nI T.1 ≤ nI i from nI_ge hi (by omega)), if_pos hin, nI_cl (show i < 2147483648 by omega), (b1 i hi).1, if_neg (fun q => z (e1.mp q)), nI_1]
  · rintro ⟨a0, a1, s1⟩ ⟨ea, b1, b2, b3, b4⟩
    simp only at ea b1 b2 b3 b4
    subst ea b3
    have hg1 : tabIs 59 0 T s1 := tab_eq b4 (by simp only; omega) hg
    refine ⟨.inr (nI (c + (ou j h q T.1).2.length), s1), ?_, b1, b2, rfl, b4⟩
    simp only [f_X12_laysAuction_L179]
    rw [bnd (f_wk hg1), if_pos (show nI T.1 ≤ nI T.1 from nI_le (Nat.le_refl _) (by omega))]
theorem r_J161 {T : tb} {w j c : Nat} {h : hs} {q : List Nat} {p : Nat → Int64} {s : sx_M} (hT : tb_ok T) (hI : auI T h (w :: q)) (hc5 : c < 500) (hg : tabIs 59 0 T s) (hc : auR T c h (w :: q) p s) (z : Int32) (hj : j < T.2.1) (t0 : Int64) : Ev (f_X12_laysAuction_L61_J161 z (nI c) (nI (c + 1 + q.length)) (nI w) (nI j) t0 s) (fun r => ∃ s', r = .inl (nI (c + 1), nI (c + 1 + (ou j h q T.1).2.length), s') ∧ auR T (c + 1) (up (ou j h q T.1).1 w j) (ou j h q T.1).2 (pup p j (t0 + z.toInt64)) s' ∧ tabIs 59 0 T s') := by
  have h7 := hT.1
  have h8 := hT.2.1
  obtain ⟨c1, c2, c3, c4⟩ := hc
  have hw := (hI.1 w (List.mem_cons_self ..)).1
  have hin : ¬ (nI j < 0 ∨ 8 ≤ (nI j).toNatClampNeg) := by
    rw [nI_cl (by omega)]
    exact fun q => q.elim (nI_pos (by omega)) (by omega)
  have hinw : ¬ (nI w < 0 ∨ 7 ≤ (nI w).toNatClampNeg) := by
    rw [nI_cl (by omega)]
    exact fun q => q.elim (nI_pos (by omega)) (by omega)
  have x0 : sx_eq Dor s (wI s 58 26 (nI (c + 1))) := sx_wI' (sx_rf _ _) ⟨rfl, rfl⟩
  have hg0 : tabIs 59 0 T (wI s 58 26 (nI (c + 1))) := tab_eq x0 (by simp only [Dor]; omega) hg
  obtain ⟨⟨r1, s1⟩, e1, d1, d2, d3, x1⟩ := r_oust (s := wI s 58 26 (nI (c + 1))) hT hI (show j < 8 by omega) (show c + 1 ≤ 500 by omega) hg0 c1 (qIs_tl c2) z (nI c + 1) (nI w) t0
  simp only at d1 d2 d3 x1
  subst d3
  have hx1 : sx_eq Dor (wI s 58 26 (nI (c + 1))) s1 := sx_mono x1 (fun _ _ z => z.elim) (fun _ _ z => z) (fun _ z => z) (fun _ z => z.elim)
  have hp1 : ∀ i, rB s1 68 i = rB s 68 i := fun i => by rw [x1.2.2.2 68 i (fun z => z)]; rfl
  refine ⟨.inl (nI (c + 1), nI (c + 1 + (ou j h q T.1).2.length), wA (wB s1 68 j (p j + (t0 + z.toInt64))) 67 w (nI j)), ?_, _, rfl, ⟨fun v hv => ?_, ?_, ?_, fun i hi => ?_⟩, ?_⟩
  · unfold f_X12_laysAuction_L61_J161
    rw [c3, nI_1]
    rw [nI_1] at e1
    rw [bnd e1, if_pos hin, if_pos hin, if_pos hinw, nI_cl (show j < 2147483648 by omega), nI_cl (show w < 2147483648 by omega)]
    simp only []
    rw [hp1 j, c4 j (by omega)]
  · show rA (wA (wB s1 68 j (p j + (t0 + z.toInt64))) 67 w (nI j)) 67 v = oN (up (ou j h q T.1).1 w j v) ∧ ∀ k, up (ou j h q T.1).1 w j v = some k → k < 8
    by_cases y : v = w
    · rw [rA_T ⟨rfl, y⟩, y, up_w]
      exact ⟨rfl, fun k hk => by cases hk; omega⟩
    · rw [rA_F (by omega), up_o y]; exact d1 v hv
  · refine qIs_e (s := s1) d2 (fun i hi => ?_)
    rw [rA_F (by omega)]
    rfl
  · show rI s1 58 26 = nI (c + 1)
    rw [x1.1 58 26 (fun z => z)]
    exact rI_T ⟨rfl, rfl⟩
  · show rB (wB s1 68 j (p j + (t0 + z.toInt64))) 68 i = pup p j (t0 + z.toInt64) i
    unfold pup
    by_cases y : i = j
    · rw [if_pos y, rB_T ⟨rfl, y⟩]
    · rw [if_neg y, rB_F (by omega), hp1 i]; exact c4 i hi
  · have x2 : sx_eq Dor s (wA (wB s1 68 j (p j + (t0 + z.toInt64))) 67 w (nI j)) := sx_wA' (sx_wB' (sx_tr x0 hx1) rfl) (Or.inl rfl)
    exact tab_eq x2 (by simp only [Dor]; omega) hg
theorem au_r {T : tb} (hT : tb_ok T) (z : Int32) : ∀ (n c : Nat) (h : hs) (q : List Nat) (p : Nat → Int64) (s : sx_M), c + n = 500 → auI T h q → tabIs 59 0 T s → auR T c h q p s → Ev (whT (f_X12_laysAuction_L61 z) (nI c, nI (c + q.length), s)) (fun r => ∃ s', (r = .inl s' ∨ r = .inr s') ∧ auR T (c + (auN T z.toInt64 n h q p).1) (auN T z.toInt64 n h q p).2.1 (auN T z.toInt64 n h q p).2.2.1 (auN T z.toInt64 n h q p).2.2.2 s' ∧ tabIs 59 0 T s') := by
  have h7 := hT.1
  have h8 := hT.2.1
  intro n
  induction n with
  | zero =>
    intro c h q p s hcn hI hg hc
    have hl : q.length ≤ 7 := by
      have h1 := hI.2.2.2
      omega
    refine ⟨.inl s, ?_, s, Or.inl rfl, hc, hg⟩
    rw [whT_eq]
    simp only [f_X12_laysAuction_L61]
    by_cases y : q.length = 0
    · rw [if_pos (show nI (c + q.length) ≤ nI c from nI_le (by omega) (by omega))]
      rfl
    · rw [if_neg (show ¬ nI (c + q.length) ≤ nI c from nI_ge (by omega) (by omega)), hc.2.2.1, if_pos (show (500 : Int32) ≤ nI c from nI_le (a := 500) (by omega) (by omega))]
      rfl
  | succ n ih =>
    intro c h q p s hcn hI hg hc
    have h500 : ¬ (500 : Int32) ≤ nI c := nI_ge (b := 500) (by omega) (by omega)
    cases q with
    | nil =>
      rw [auN_e]
      refine ⟨.inl s, ?_, s, Or.inl rfl, hc, hg⟩
      rw [whT_eq]
      simp only [f_X12_laysAuction_L61]
      rw [if_pos (show nI (c + [].length) ≤ nI c from nI_le (Nat.le_refl _) (by omega))]
      rfl
    | cons w q =>
      have hl : q.length + 1 ≤ 7 := by
        have h1 := hI.2.2.2
        have h2 : (w :: q).length = q.length + 1 := rfl
        omega
      have hw := (hI.1 w (List.mem_cons_self ..)).1
      have hq0 : rA s 69 c = nI w := hc.2.1 0 w rfl
      have hne : ¬ nI (c + (w :: q).length) ≤ nI c := nI_ge (show c < c + (q.length + 1) by omega) (show c + (q.length + 1) < 2147483648 by omega)
      have hinc : ¬ (nI c < 0 ∨ 600 ≤ (nI c).toNatClampNeg) := by
        rw [nI_cl (by omega)]
        exact fun q => q.elim (nI_pos (by omega)) (by omega)
      have l1 : f_X12_leastNet (nI w) (-1) s = some (oN (lnO T p w none T.2.1), s) := r_lnet hT hg hc.2.2.2 hw (a := none) (fun v hv => by cases hv)
      have hlen : c + (w :: q).length = c + 1 + q.length := by
        show c + (q.length + 1) = _
        omega
      cases hj : lnO T p w none T.2.1 with
      | none =>
        rw [auN_n hj]
        refine ⟨.inr s, ?_, s, Or.inr rfl, hc, hg⟩
        rw [hj] at l1
        rw [whT_eq]
        simp only [f_X12_laysAuction_L61]
        rw [if_neg hne, hc.2.2.1, if_neg h500, if_pos hinc, nI_cl (show c < 2147483648 by omega), hq0, bnd l1, if_pos (show oN none = -1 from rfl)]
        rfl
      | some j =>
        obtain ⟨j1, j2⟩ := ln_ok hj
        rw [hj] at l1
        have l1 : f_X12_leastNet (nI w) (-1) s = some (nI j, s) := l1
        have l2 : f_X12_leastNet (nI w) (nI j) s = some (oN (lnO T p w (some j) T.2.1), s) := r_lnet hT hg hc.2.2.2 hw (a := some j) (fun v hv => by cases hv; omega)
        have hin : ¬ (nI j < 0 ∨ 8 ≤ (nI j).toNatClampNeg) := by
          rw [nI_cl (by omega)]
          exact fun q => q.elim (nI_pos (by omega)) (by omega)
        have hI1 := up_I (ou_I (j := j) hI T.1 (Nat.le_refl _)) j1 j2
        have hst : Ev (f_X12_laysAuction_L61 z (nI c, nI (c + (w :: q).length), s)) (fun r => ∃ s', r = .inl (nI (c + 1), nI (c + 1 + (ou j h q T.1).2.length), s') ∧ auR T (c + 1) (up (ou j h q T.1).1 w j) (ou j h q T.1).2 (pup p j (ahd T p w j + z.toInt64)) s' ∧ tabIs 59 0 T s') := by
          simp only [f_X12_laysAuction_L61]
          rw [if_neg hne, hc.2.2.1, if_neg h500, if_pos hinc, nI_cl (show c < 2147483648 by omega), hq0, bnd l1, if_neg (oN_n1 j (by omega)), bnd l2, bnd (f_cost_in hT hg hw j1), if_pos hin, hlen]
          unfold ahd
          cases hk : lnO T p w (some j) T.2.1 with
          | none =>
            rw [if_pos (show oN none = -1 from rfl)]
            exact r_J161 hT hI (by omega) hg hc z j1 1000
          | some k =>
            obtain ⟨k1, k2⟩ := ln_ok hk
            have hco2 : f_X12_costOf (nI w) (oN (some k)) s = some (c32 (T.2.2 w k), s) := f_cost_in hT hg hw k1
            have hink : ¬ (oN (some k) < 0 ∨ 8 ≤ (oN (some k)).toNatClampNeg) := by
              show ¬ (nI k < 0 ∨ 8 ≤ (nI k).toNatClampNeg)
              rw [nI_cl (by omega)]
              exact fun q => q.elim (nI_pos (by omega)) (by omega)
            have hcl : (oN (some k)).toNatClampNeg = k := nI_cl (by omega)
            rw [if_neg (show ¬ oN (some k) = -1 from oN_n1 k (by omega)), bnd hco2, if_pos hink, hcl, nI_cl (show j < 2147483648 by omega)]
            simp only []
            rw [c3264 hT k2, c3264 hT j2, hc.2.2.2 k (by omega), hc.2.2.2 j (by omega)]
            exact r_J161 hT hI (by omega) hg hc z j1 _
        obtain ⟨r, e1, s1, er, d1, d2⟩ := hst
        subst er
        obtain ⟨r3, e3, s3, f1, f2, f3⟩ := ih (c + 1) _ _ _ s1 (by omega) hI1 d2 d1
        rw [auN_s hj]
        refine ⟨r3, ?_, s3, f1, ?_, f3⟩
        · rw [whT_eq, e1]
          exact e3
        · have : ∀ x, c + 1 + x = c + (x + 1) := fun x => by omega
          rw [this] at f2
          exact f2
theorem r_auct {T : tb} {s : sx_M} (hT : tb_ok T) (hg : tabIs 59 0 T s) (z : Int32) : Ev (f_X12_laysAuction z s) (fun s' => auR T (auE T z).1 (auE T z).2.1 (auE T z).2.2.1 (auE T z).2.2.2 s' ∧ tabIs 59 0 T s') := by
  have h7 := hT.1
  have i1 : Ev (whT (f_X12_laysAuction_L2 z) (0, s)) (fun s' => (∀ w, w < 8 → rB s' 68 w = 0) ∧ sx_eq Dor s s') := by
    refine ev_f (fun (i : Nat) (a : Int32 × sx_M) => a.1 = nI i ∧ (∀ w, w < i → rB a.2 68 w = 0) ∧ sx_eq Dor s a.2) 8 ?_ ?_ (i := 0) (by omega) ⟨rfl, fun w hw => by omega, sx_rf _ _⟩
    · rintro i ⟨a1, s1⟩ hi ⟨ea, b1, b4⟩
      simp only at ea b1 b4
      subst ea
      have hin : ¬ (nI i < 0 ∨ 8 ≤ (nI i).toNatClampNeg) := by
        rw [nI_cl (by omega)]
        exact fun q => q.elim (nI_pos (by omega)) (by omega)
      refine ⟨.inl (nI (i + 1), wB s1 68 i 0), ?_, rfl, fun w hw => ?_, sx_wB' b4 rfl⟩
      · simp only [f_X12_laysAuction_L2]
        rw [if_neg (show ¬ 8 ≤ nI i from of_eq_false (nI_le_F (a := 8) hi (by omega))), if_pos hin, nI_cl (by omega), nI_1]
      · show rB (wB s1 68 i 0) 68 w = 0
        by_cases y : w = i
        · exact rB_T ⟨rfl, y⟩
        · rw [rB_F (by omega)]; exact b1 w (by omega)
    · rintro ⟨a1, s1⟩ ⟨ea, b1, b4⟩
      simp only at ea b1 b4
      subst ea
      refine ⟨.inr s1, ?_, b1, b4⟩
      simp only [f_X12_laysAuction_L2]
      rw [if_pos (show 8 ≤ nI 8 by decide)]
  obtain ⟨s1, e1, c1, x1⟩ := i1
  have i2 : Ev (whT (f_X12_laysAuction_L23 z) (0, s1)) (fun s' => (∀ w, w < 7 → rA s' 67 w = -1 ∧ rA s' 69 w = nI w) ∧ sx_eq ((fun _ _ => False, fun _ _ => False, fun o => o = 67 ∨ o = 69, fun _ => False) : sx_D) s1 s') := by
    refine ev_f (fun (i : Nat) (a : Int32 × sx_M) => a.1 = nI i ∧ (∀ w, w < i → rA a.2 67 w = -1 ∧ rA a.2 69 w = nI w) ∧ sx_eq ((fun _ _ => False, fun _ _ => False, fun o => o = 67 ∨ o = 69, fun _ => False) : sx_D) s1 a.2) 7 ?_ ?_ (i := 0) (by omega) ⟨rfl, fun w hw => by omega, sx_rf _ _⟩
    · rintro i ⟨a1, s2⟩ hi ⟨ea, b1, b2⟩
      simp only at ea b1 b2
      subst ea
      have hin : ¬ (nI i < 0 ∨ 7 ≤ (nI i).toNatClampNeg) := by
        rw [nI_cl (by omega)]
        exact fun q => q.elim (nI_pos (by omega)) (by omega)
      have hin6 : ¬ (nI i < 0 ∨ 600 ≤ (nI i).toNatClampNeg) := by
        rw [nI_cl (by omega)]
        exact fun q => q.elim (nI_pos (by omega)) (by omega)
      refine ⟨.inl (nI (i + 1), wA (wA s2 67 i (-1)) 69 i (nI i)), ?_, rfl, fun w hw => ⟨?_, ?_⟩, sx_wA' (sx_wA' b2 (Or.inl rfl)) (Or.inr rfl)⟩
      · simp only [f_X12_laysAuction_L23]
        rw [if_neg (show ¬ 7 ≤ nI i from of_eq_false (nI_le_F (a := 7) hi (by omega))), if_pos hin, if_pos hin6, nI_cl (by omega), nI_1]
      · show rA (wA (wA s2 67 i (-1)) 69 i (nI i)) 67 w = -1
        rw [rA_F (by omega)]
        by_cases y : w = i
        · exact rA_T ⟨rfl, y⟩
        · rw [rA_F (by omega)]; exact (b1 w (by omega)).1
      · show rA (wA (wA s2 67 i (-1)) 69 i (nI i)) 69 w = nI w
        by_cases y : w = i
        · rw [rA_T ⟨rfl, y⟩, y]
        · rw [rA_F (by omega), rA_F (by omega)]; exact (b1 w (by omega)).2
    · rintro ⟨a1, s2⟩ ⟨ea, b1, b2⟩
      simp only at ea b1 b2
      subst ea
      refine ⟨.inr s2, ?_, b1, b2⟩
      simp only [f_X12_laysAuction_L23]
      rw [if_pos (show 7 ≤ nI 7 by decide)]
  obtain ⟨s2, e2, d1, x2⟩ := i2
  have hg1 : tabIs 59 0 T s1 := tab_eq x1 (by simp only [Dor]; omega) hg
  have hg2 : tabIs 59 0 T s2 := tab_eq x2 (by simp only; omega) hg1
  have x3 : sx_eq Dor s2 (wI s2 58 26 0) := sx_wI' (sx_rf _ _) ⟨rfl, rfl⟩
  have hg3 : tabIs 59 0 T (wI s2 58 26 0) := tab_eq x3 (by simp only [Dor]; omega) hg2
  have hA : auR T 0 h0 (List.range T.1) (fun _ => 0) (wI s2 58 26 0) := by
    refine ⟨fun w hw => ⟨(d1 w (by omega)).1, fun j hj => by cases hj⟩, fun i v hv => ?_, rI_T ⟨rfl, rfl⟩, fun j hj => ?_⟩
    · have hi := qIs_lt hv
      rw [List.length_range] at hi
      rw [rng_v hv, Nat.zero_add]
      exact (d1 i (by omega)).2
    · show rB s2 68 j = 0
      rw [x2.2.2.2 68 j (fun z => z)]; exact c1 j hj
  obtain ⟨r, e3, s3, hr, f1, f2⟩ := au_r hT z 500 0 h0 (List.range T.1) (fun _ => 0) _ (by omega) (auI_0 T) hg3 hA
  rw [Nat.zero_add] at f1
  rw [List.length_range, Nat.zero_add] at e3
  have e3 : whT (f_X12_laysAuction_L61 z) (0, nI T.1, wI s2 58 26 0) = some r := e3
  refine ⟨s3, ?_, f1, f2⟩
  unfold f_X12_laysAuction
  rw [bnd e1, bnd e2, bnd (f_wk hg2)]
  show (whT (f_X12_laysAuction_L61 z) (0, nI T.1, wI s2 58 26 0)).bind _ = _
  rw [bnd e3]
  rcases hr with rfl | rfl <;> rfl
