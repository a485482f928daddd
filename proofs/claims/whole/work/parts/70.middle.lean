/-! which part the one behind those skipped lies in -/
def soD : sx_D := (fun o k => o = 9 ∧ (k = 9 ∨ k = 10 ∨ k = 11 ∨ k = 12), fun _ _ => False, fun o => o = 12, fun _ => False)
theorem spD_so {s s' : sx_M} (h : sx_eq spD s s') : sx_eq soD s s' := sx_mono h (fun o k q => by simp only [spD, soD] at q ⊢; omega) (fun o k q => q) (fun o q => q) (fun o q => q)
theorem f_part {T : tb} {s : sx_M} {sh skip : Nat} {P fr : Int} (hT : tb_ok T) (hg : gridIs 3 T s) (hr : ranksIs 3 T s) (hW : 0 < T.1) (hsh : sh ≤ 12) (hP : P = 2 ^ sh) (hsk : skip < 100000) (hfr : -1000000 ≤ fr ∧ fr ≤ 1000000) (h9 : rI s 9 9 = nI sh) (h10 : rI s 9 10 = nI skip) (hq : skip < cI 0 (64 * P) ((allA T).map (fun p => -fr + p.2))) : Ev (f_X4_partOfSkipped (jJ fr) s) (fun r => ∃ q, q ≤ 63 ∧ r.1 = nI q ∧ rI r.2 9 9 = nI sh ∧ cI 0 (q * P) ((allA T).map (fun p => -fr + p.2)) ≤ skip ∧ skip < cI 0 ((q + 1) * P) ((allA T).map (fun p => -fr + p.2)) ∧ rI r.2 9 10 = nI (skip - cI 0 (q * P) ((allA T).map (fun p => -fr + p.2))) ∧ sx_eq soD s r.2) := by
  have hPp : 0 < P := by rw [hP]; exact Int.pow_pos (by omega)
  have h40 := all_40 hT
  have hM40 : ((allA T).map (fun p => -fr + p.2)).length ≤ 40320 := by rw [List.length_map]; exact h40
  have hz : Ev (whT (f_X4_partOfSkipped_L2 (jJ fr)) (0, s)) (fun s1 => (∀ i, i < 64 → rA s1 12 i = nI 0) ∧ sx_eq (Dar 12) s s1) := by
    refine ev_f (fun i a => a.1 = nI i ∧ (∀ k, k < i → rA a.2 12 k = nI 0) ∧ sx_eq (Dar 12) s a.2) 64 ?_ ?_ (i := 0) (by omega) ⟨rfl, fun k hk => by omega, sx_rf _ _⟩
    · rintro i ⟨a1, s1⟩ hi ⟨ea, h1, h2⟩
      simp only at ea h1 h2
      subst ea
      have hin : ¬ (nI i < 0 ∨ 64 ≤ (nI i).toNatClampNeg) := by
        rw [nI_cl (by omega)]
        exact fun q => q.elim (nI_pos (by omega)) (by omega)
      refine ⟨.inl (nI (i + 1), wA s1 12 i 0), ?_, rfl, fun k hk => ?_, sx_wA' h2 rfl⟩
      · simp only [f_X4_partOfSkipped_L2]
        rw [if_neg (show ¬ (64 : Int32) ≤ nI i from nI_ge (b := 64) hi (by omega)), if_pos hin, nI_cl (by omega), nI_1]
      · by_cases q : k = i
        · rw [q, rA_T ⟨rfl, rfl⟩]; rfl
        · rw [rA_F (by omega)]; exact h1 k (by omega)
    · rintro ⟨a1, s1⟩ ⟨ea, h1, h2⟩
      simp only at ea h1 h2
      subst ea
      refine ⟨.inr s1, ?_, h1, h2⟩
      simp only [f_X4_partOfSkipped_L2]
      rw [if_pos (show (64 : Int32) ≤ nI 64 by decide)]
  obtain ⟨s1, e1, z1, x1⟩ := hz
  obtain ⟨n, hn⟩ : ∃ n, T.1 = n + 1 := ⟨T.1 - 1, by omega⟩
  have x1' : sx_eq soD s s1 := sx_mono x1 (fun o k q => q.elim) (fun o k q => q) (fun o q => q) (fun o q => q)
  have hx2 : sx_eq soD s (wI (wI s1 9 11 63) 9 12 0) := sx_wI' (sx_wI' x1' ⟨rfl, by omega⟩) ⟨rfl, by omega⟩
  have hg2 : gridIs 3 T (wI (wI s1 9 11 63) 9 12 0) := grid_eq hx2 (by simp only [soD]; omega) (by simp only [soD]; omega) (fun z => z) hg
  have hr2 : ranksIs 3 T (wI (wI s1 9 11 63) 9 12 0) := ranks_eq hx2 (by simp only [soD]; omega) (fun z => z) (fun z => z) hr
  have hsp : spI sh skip P (wI (wI s1 9 11 63) 9 12 0) 63 [] (wI (wI s1 9 11 63) 9 12 0) := by
    refine ⟨Nat.le_refl _, ?_, ?_, ?_, rI_T ⟨rfl, rfl⟩, fun i hi => z1 i (by omega), fun h => by omega, sx_rf _ _⟩
    · simp (disch := omega) only [↓reduceIte, nI_lit, nI_add, pk_mul, nI_lt_T, nI_lt_F, nI_le_T, nI_le_F, nI_eq_T, nI_eq_F, nI_cl, le_F, le_T, nI_m_F, m_nI_F, nI_dn, m_lt, Option.bind_some, if_true, if_false, not_false_eq_true, not_true_eq_false, or_self, or_false, false_or, true_or, or_true, true_and, and_true, false_and, and_false, rA_T, rA_F, rB_T, rB_F, rI_T, rI_F, rJ_T, rJ_F, rA_wI, rA_wJ, rA_wB, rB_wI, rB_wJ, rB_wA, rI_wJ, rI_wA, rI_wB, rJ_wI, rJ_wA, rJ_wB]; rw [x1.1 9 9 (fun z => z)]; exact h9
    · simp (disch := omega) only [↓reduceIte, nI_lit, nI_add, pk_mul, nI_lt_T, nI_lt_F, nI_le_T, nI_le_F, nI_eq_T, nI_eq_F, nI_cl, le_F, le_T, nI_m_F, m_nI_F, nI_dn, m_lt, Option.bind_some, if_true, if_false, not_false_eq_true, not_true_eq_false, or_self, or_false, false_or, true_or, or_true, true_and, and_true, false_and, and_false, rA_T, rA_F, rB_T, rB_F, rI_T, rI_F, rJ_T, rJ_F, rA_wI, rA_wJ, rA_wB, rB_wI, rB_wJ, rB_wA, rI_wJ, rI_wA, rI_wB, rJ_wI, rJ_wA, rJ_wB]; rw [x1.1 9 10 (fun z => z)]; exact h10
    · simp (disch := omega) only [↓reduceIte, nI_lit, nI_add, pk_mul, nI_lt_T, nI_lt_F, nI_le_T, nI_le_F, nI_eq_T, nI_eq_F, nI_cl, le_F, le_T, nI_m_F, m_nI_F, nI_dn, m_lt, Option.bind_some, if_true, if_false, not_false_eq_true, not_true_eq_false, or_self, or_false, false_or, true_or, or_true, true_and, and_true, false_and, and_false, rA_T, rA_F, rB_T, rB_F, rI_T, rI_F, rJ_T, rJ_F, rA_wI, rA_wJ, rA_wB, rB_wI, rB_wJ, rB_wA, rI_wJ, rI_wA, rI_wB, rJ_wI, rJ_wA, rJ_wB]
  have hspr := f_spread hT hg2 hr2 hsh hP hsk 9 n 0 (-fr) [] (wI (wI s1 9 11 63) 9 12 0) 63 (Nat.pow_pos (by omega)) (by rw [pcn_0]; omega) (by have := hT.1; omega) (by rw [pcn_0]; omega) (by rw [pcn_0]; omega) (by rw [pcn_0, ← hn, List.nil_append]; exact hM40) hsp
  rw [pcn_0, ← hn, List.nil_append] at hspr
  obtain ⟨s2, e2, top, hsp2⟩ := hspr
  have hsp2 : spI sh skip P (wI (wI s1 9 11 63) 9 12 0) top ((allA T).map (fun p => -fr + p.2)) s2 := hsp2
  generalize hMdef : (allA T).map (fun p => -fr + p.2) = M at hq hM40 hsp2 ⊢
  obtain ⟨b1, b2, b3, b4, b5, b6, b7, b8⟩ := hsp2
  -- the least part that goes beyond what is skipped
  obtain ⟨q, hq1, hq2⟩ := pk_least (fun k => skip < cI 0 (((k : Nat) + 1) * P) M) ⟨63, by simpa using hq⟩
  have hq63 : q ≤ 63 := Decidable.byContradiction (fun z => hq2 63 (by omega) (by simpa using hq))
  have hqt : q ≤ top := by
    by_cases z : top < 63
    · exact Decidable.byContradiction (fun y => hq2 top (by omega) (b7 z))
    · omega
  have hqle : ∀ i : Nat, i ≤ q → cI 0 (i * P) M ≤ skip := by
    intro i hi
    cases i with
    | zero =>
      have : cI 0 (((0 : Nat) : Int) * P) M = 0 := cI_0 (fun v hv => by rw [show (((0 : Nat) : Int) * P) = 0 by simp]; omega)
      omega
    | succ i =>
      have := hq2 i (by omega)
      rw [show (((i + 1 : Nat) : Int)) = (i : Int) + 1 by omega]
      omega
  have hsplit : ∀ i : Nat, cI 0 (((i : Int) + 1) * P) M = cI 0 (i * P) M + cI (i * P) (((i : Int) + 1) * P) M := by
    intro i
    refine cI_add (Int.mul_nonneg (by omega) (by omega)) ?_ _
    exact Int.mul_le_mul_of_nonneg_right (by omega) (by omega)
  have hL : Ev (whT f_X4_partOfSkipped_L42 (0, s2)) (fun r => r.1 = nI q ∧ rI r.2 9 9 = nI sh ∧ rI r.2 9 10 = nI (skip - cI 0 (q * P) M) ∧ sx_eq soD s2 r.2) := by
    refine ev_f (fun i a => a.1 = nI i ∧ rI a.2 9 9 = nI sh ∧ rI a.2 9 10 = nI (skip - cI 0 (i * P) M) ∧ (∀ k, rA a.2 12 k = rA s2 12 k) ∧ sx_eq soD s2 a.2) q ?_ ?_ (i := 0) (by omega) ⟨rfl, b2, ?_, fun _ => rfl, sx_rf _ _⟩
    · rintro i ⟨a1, s3⟩ hi ⟨ea, c1, c2, c3, c4⟩
      simp only at ea c1 c2 c3 c4
      subst ea
      have hin : ¬ (nI i < 0 ∨ 64 ≤ (nI i).toNatClampNeg) := by
        rw [nI_cl (by omega)]
        exact fun q => q.elim (nI_pos (by omega)) (by omega)
      have h1 := hsplit i
      have h2 := hqle (i + 1) (by omega)
      rw [show (((i + 1 : Nat) : Int)) = (i : Int) + 1 by omega] at h2
      refine ⟨.inl (nI (i + 1), wI s3 9 10 (nI (skip - cI 0 (((i + 1 : Nat) : Int) * P) M))), ?_, rfl, ?_, rI_T ⟨rfl, rfl⟩, c3, sx_wI' c4 ⟨rfl, by omega⟩⟩
      · simp only [f_X4_partOfSkipped_L42]
        rw [if_neg (show ¬ (63 : Int32) ≤ nI i from nI_ge (b := 63) (by omega) (by omega)), if_pos hin, if_pos hin, nI_cl (by omega), c2, c3, b6 i (by omega), if_neg (nI_nlt (by omega) (by omega)), nI_sb (by omega), nI_1, show (((i + 1 : Nat) : Int)) = (i : Int) + 1 by omega, h1, Nat.sub_sub]
      · simp (disch := omega) only [↓reduceIte, nI_lit, nI_add, pk_mul, nI_lt_T, nI_lt_F, nI_le_T, nI_le_F, nI_eq_T, nI_eq_F, nI_cl, le_F, le_T, nI_m_F, m_nI_F, nI_dn, m_lt, Option.bind_some, if_true, if_false, not_false_eq_true, not_true_eq_false, or_self, or_false, false_or, true_or, or_true, true_and, and_true, false_and, and_false, rA_T, rA_F, rB_T, rB_F, rI_T, rI_F, rJ_T, rJ_F, rA_wI, rA_wJ, rA_wB, rB_wI, rB_wJ, rB_wA, rI_wJ, rI_wA, rI_wB, rJ_wI, rJ_wA, rJ_wB]; exact c1
    · rintro ⟨a1, s3⟩ ⟨ea, c1, c2, c3, c4⟩
      simp only at ea c1 c2 c3 c4
      subst ea
      refine ⟨.inr (nI q, s3), ?_, rfl, c1, c2, c4⟩
      have hin : ¬ (nI q < 0 ∨ 64 ≤ (nI q).toNatClampNeg) := by
        rw [nI_cl (by omega)]
        exact fun q => q.elim (nI_pos (by omega)) (by omega)
      have h1 := hsplit q
      have h2 := hqle q (Nat.le_refl _)
      have h3 := cI_len (q * P) (((q : Int) + 1) * P) M
      simp only [f_X4_partOfSkipped_L42]
      by_cases z : q = 63
      · rw [if_pos (show (63 : Int32) ≤ nI q by rw [z]; decide)]
      · rw [if_neg (show ¬ (63 : Int32) ≤ nI q from nI_ge (b := 63) (by omega) (by omega)), if_pos hin, nI_cl (by omega), c2, c3, b6 q hqt, if_pos (nI_lt (by omega) (by omega))]
    · show rI s2 9 10 = nI (skip - cI 0 (((0 : Nat) : Int) * P) M)
      have : cI 0 (((0 : Nat) : Int) * P) M = 0 := cI_0 (fun v hv => by rw [show (((0 : Nat) : Int) * P) = 0 by simp]; omega)
      rw [this, b3]; rfl
  obtain ⟨r, e3, v1, v2, v3, v4⟩ := hL
  refine ⟨(r.1, r.2), ?_, q, hq63, v1, v2, hqle q (Nat.le_refl _), hq1, v3, sx_tr hx2 (sx_tr (spD_so b8) v4)⟩
  have e2' : f_X4_spread 0 0 (-jJ fr) (wI (wI s1 9 11 63) 9 12 0) = some s2 := by rw [jJ_neg]; exact e2
  unfold f_X4_partOfSkipped
  rw [bnd e1, bnd e2']
  exact bnd e3 _
/-- how many lie below -/
def nL (x : Int) (L : List asg) : Nat := L.countP (fun p => decide (p.2 < x))
theorem nL_cI {fr b : Int} (hb : 0 ≤ b) : ∀ L : List asg, nL (fr + b) L = nL fr L + cI 0 b (L.map (fun p => -fr + p.2))
  | [] => rfl
  | p :: L => by
    have ih := nL_cI (fr := fr) hb L
    unfold nL cI at ih ⊢
    rw [List.map_cons, List.countP_cons, List.countP_cons, List.countP_cons, ih]
    by_cases c1 : p.2 < fr
    · have e1 : decide (p.2 < fr + b) = true := by simp; omega
      have e2 : decide (p.2 < fr) = true := by simp; omega
      have e3 : (decide (0 ≤ -fr + p.2) && decide (-fr + p.2 < b)) = false := by simp; omega
      rw [e1, e2, e3]; simp; omega
    · by_cases c2 : p.2 < fr + b
      · have e1 : decide (p.2 < fr + b) = true := by simp; omega
        have e2 : decide (p.2 < fr) = false := by simp; omega
        have e3 : (decide (0 ≤ -fr + p.2) && decide (-fr + p.2 < b)) = true := by simp; omega
        rw [e1, e2, e3]; simp; omega
      · have e1 : decide (p.2 < fr + b) = false := by simp; omega
        have e2 : decide (p.2 < fr) = false := by simp; omega
        have e3 : (decide (0 ≤ -fr + p.2) && decide (-fr + p.2 < b)) = false := by simp; omega
        rw [e1, e2, e3]; simp
theorem nL_mono {x y : Int} (h : x ≤ y) (L : List asg) : nL x L ≤ nL y L := by
  have := nL_cI (fr := x) (b := y - x) (by omega) L
  rw [show x + (y - x) = y by omega] at this
  omega
theorem nL_len (x : Int) (L : List asg) : nL x L ≤ L.length := List.countP_le_length
/-- the K-th by sum has one sum alone -/
theorem kth_u {L : List asg} {K : Nat} {v u : Int} (h1 : nL v L ≤ K) (h2 : K < nL (v + 1) L) (h3 : nL u L ≤ K) (h4 : K < nL (u + 1) L) : v = u := by
  rcases Int.lt_trichotomy v u with h | h | h
  · have := nL_mono (show v + 1 ≤ u by omega) L; omega
  · exact h
  · have := nL_mono (show u + 1 ≤ v by omega) L; omega
theorem p64 {sh : Nat} (h : sh ≤ 12) : (2 : Int) ^ sh ≤ 4096 ∧ (1 : Int) ≤ 2 ^ sh := by
  have : ∀ sh, sh ≤ 12 → (2 : Int) ^ sh ≤ 4096 ∧ (1 : Int) ≤ 2 ^ sh := by decide
  exact this sh h
theorem f_sumAt {T : tb} {s : sx_M} {K : Nat} (hT : tb_ok T) (hg : gridIs 3 T s) (hr : ranksIs 3 T s) (hK : K < (allA T).length) : Ev (f_X4_sumAt (nI K) s) (fun r => ∃ v, r.1 = jJ v ∧ nL v (allA T) ≤ K ∧ K < nL (v + 1) (allA T) ∧ sx_eq soD s r.2) := by
  have h40 := all_40 hT
  have h7 := hT.1
  have hlh := rk_lh (tb_ok_wk hT) hr (S := 0) (Nat.pow_pos (by omega)) (by rw [pcn_0]; omega) (by rw [exS_0]; omega)
  rw [exS_0] at hlh
  obtain ⟨lo, hi, hlo, hhi, e4, e5, hle, _, _⟩ := hlh
  have e4 : rB s 7 0 = jJ lo := e4
  have e5 : rB s 8 0 = jJ hi := e5
  have hblo := low_bd (ok_cbd hT) hlo
  have hbhi := hig_bd (ok_cbd hT) hhi
  have hT7 : (T.1 : Int) ≤ 7 := by omega
  have bnd1 : -69993 ≤ lo ∧ hi ≤ 69993 := by omega
  have hNlo : nL lo (allA T) = 0 := by
    unfold nL
    rw [List.countP_eq_zero]
    intro p hp
    have := (lowL_some.mp hlo).2 p hp
    simp; omega
  have hNhi : nL (hi + 1) (allA T) = (allA T).length := by
    unfold nL
    rw [List.countP_eq_length]
    intro p hp
    have := (higL_some.mp hhi).2 p hp
    simp; omega
  have hx0 : sx_eq soD s (wI (wI s 9 10 (nI K)) 9 9 0) := sx_wI' (sx_wI' (sx_rf _ _) ⟨rfl, by omega⟩) ⟨rfl, by omega⟩
  have hshift : Ev (whT (f_X4_sumAt_L33 (jJ lo) (jJ (hi - lo))) (wI (wI s 9 10 (nI K)) 9 9 0)) (fun b => ∃ sh, sh ≤ 12 ∧ hi - lo < 64 * 2 ^ sh ∧ rI b 9 9 = nI sh ∧ rI b 9 10 = nI K ∧ sx_eq soD s b) := by
    refine ev_f (fun i a => rI a 9 9 = nI i ∧ rI a 9 10 = nI K ∧ sx_eq soD s a) 12 ?_ ?_ (i := 0) (by omega) ⟨rI_T ⟨rfl, rfl⟩, by rw [rI_F (by omega), rI_T ⟨rfl, rfl⟩], hx0⟩
    · rintro i a hi' ⟨a1, a2, a3⟩
      have hp := p64 (sh := i) (by omega)
      simp only [f_X4_sumAt_L33, a1]
      rw [if_neg (show ¬ (12 : Int32) ≤ nI i from nI_ge (b := 12) hi' (by omega)), j_shr (by omega) (by omega) (by omega), show (64 : Int64) = jJ 64 by decide]
      have hq0 : 0 ≤ (hi - lo) / 2 ^ i := Int.ediv_nonneg (by omega) (by omega)
      have hq1 : (hi - lo) / 2 ^ i ≤ hi - lo := Int.ediv_le_self _ (by omega)
      by_cases q : (hi - lo) / 2 ^ i < 64
      · rw [if_pos (of_eq_true (jJ_lt_T q (by omega) (by omega)))]
        refine ⟨.inr a, rfl, i, by omega, ?_, a1, a2, a3⟩
        exact Int.lt_mul_of_ediv_lt (by omega) q
      · rw [if_neg (of_eq_false (jJ_lt_F (by omega) (by omega) (by omega))), nI_1]
        exact ⟨_, rfl, rI_T ⟨rfl, rfl⟩, by rw [rI_F (by omega)]; exact a2, sx_wI' a3 ⟨rfl, by omega⟩⟩
    · rintro a ⟨a1, a2, a3⟩
      refine ⟨.inr a, ?_, 12, by omega, ?_, a1, a2, a3⟩
      · simp only [f_X4_sumAt_L33, a1]
        rw [if_pos (show (12 : Int32) ≤ nI 12 by decide)]
      · have : (64 : Int) * 2 ^ 12 = 262144 := by decide
        omega
  obtain ⟨s1, e1, sh0, hsh0, hsp0, h9, h10, x1⟩ := hshift
  have hL : Ev (whT f_X4_sumAt_L72 (jJ lo, jJ (hi - lo), 0, s1)) (fun r => ∃ v, r.1 = jJ v ∧ nL v (allA T) ≤ K ∧ K < nL (v + 1) (allA T) ∧ sx_eq soD s r.2) := by
    refine ev_f (fun r a => ∃ (fr sp : Int) (sh : Nat), a.1 = jJ fr ∧ a.2.1 = jJ sp ∧ a.2.2.1 = nI r ∧ rI a.2.2.2 9 9 = nI sh ∧ rI a.2.2.2 9 10 = nI (K - nL fr (allA T)) ∧ nL fr (allA T) ≤ K ∧ K < nL (fr + sp + 1) (allA T) ∧ 0 ≤ sp ∧ sp < 64 * 2 ^ sh ∧ sp ≤ 200000 ∧ sh + 6 * r ≤ 12 + 6 * r ∧ sh ≤ 12 - 6 * r ∧ (r = 3 → sp = 0) ∧ (T.1 = 0 → sp = 0) ∧ lo ≤ fr ∧ sx_eq soD s a.2.2.2) 3 ?_ ?_ (i := 0) (by omega) ⟨lo, hi - lo, sh0, rfl, rfl, rfl, h9, by rw [hNlo]; exact h10, by omega, by rw [show lo + (hi - lo) + 1 = hi + 1 by omega, hNhi]; exact hK, by omega, hsp0, by omega, by omega, by omega, fun z => by omega, fun z => ?_, by omega, x1⟩
    · rintro r ⟨a1, a2, a3, s2⟩ hr3 ⟨fr, sp, sh, ea1, ea2, ea3, c1, c2, c3, c4, c5, c6, c7, c8, c9, c10, c11, c12, c13⟩
      simp only at ea1 ea2 ea3 c1 c2 c13
      subst ea1 ea2 ea3
      have hfrhi : fr ≤ hi := Decidable.byContradiction (fun z => by
        have := nL_mono (show hi + 1 ≤ fr by omega) (allA T)
        omega)
      simp only [f_X4_sumAt_L72]
      rw [if_neg (show ¬ (3 : Int32) ≤ nI r from nI_ge (b := 3) hr3 (by omega)), show (0 : Int64) = jJ 0 by decide]
      by_cases q : sp = 0
      · rw [if_pos (of_eq_true (jJ_le_T (show sp ≤ 0 by omega) (by omega) (by omega)))]
        refine ⟨.inr (jJ fr, s2), rfl, fr, rfl, c3, ?_, c13⟩
        rw [q, Int.add_zero] at c4
        exact c4
      · rw [if_neg (of_eq_false (jJ_le_F (show 0 < sp by omega) (by omega) (by omega)))]
        have hW : 0 < T.1 := Nat.pos_of_ne_zero (fun z => q (c11 z))
        have hsh : sh ≤ 12 := by omega
        have hp := p64 hsh
        have hg2 : gridIs 3 T s2 := grid_eq c13 (by simp only [soD]; omega) (by simp only [soD]; omega) (fun z => z) hg
        have hr2 : ranksIs 3 T s2 := ranks_eq c13 (by simp only [soD]; omega) (fun z => z) (fun z => z) hr
        have n1 := nL_cI (fr := fr) (b := sp + 1) (by omega) (allA T)
        rw [← Int.add_assoc] at n1
        have n2 : cI 0 (64 * 2 ^ sh) ((allA T).map (fun p => -fr + p.2)) = cI 0 (sp + 1) ((allA T).map (fun p => -fr + p.2)) + cI (sp + 1) (64 * 2 ^ sh) ((allA T).map (fun p => -fr + p.2)) := cI_add (by omega) (by omega) _
        obtain ⟨p2, e2, q, hq63, v1, v2, v3, v4, v5, v6⟩ := f_part hT hg2 hr2 hW hsh rfl (show K - nL fr (allA T) < 100000 by omega) (show -1000000 ≤ fr ∧ fr ≤ 1000000 by omega) c1 c2 (by omega)
        have hqP : 0 ≤ (q : Int) * 2 ^ sh := Int.mul_nonneg (by omega) (by omega)
        have hqP2 : (q : Int) * 2 ^ sh ≤ 63 * 4096 := by
          have := Int.mul_le_mul_of_nonneg_right (show (q : Int) ≤ 63 by omega) (show (0 : Int) ≤ 2 ^ sh by omega)
          have := Int.mul_le_mul_of_nonneg_left (c := 63) hp.1 (by omega)
          omega
        have n3 := nL_cI (fr := fr) (b := q * 2 ^ sh) hqP (allA T)
        have hq1 : ((q : Int) + 1) * 2 ^ sh = q * 2 ^ sh + 2 ^ sh := by rw [Int.add_mul]; omega
        have n4 := nL_cI (fr := fr) (b := ((q : Int) + 1) * 2 ^ sh) (by omega) (allA T)
        have hmx : f_J9_max_7cf53 0 (nI sh - 6) p2.2 = some (nI (sh - 6), p2.2) := by
          have : ∀ sh, sh ≤ 12 → (if (0 : Int32) < nI sh - 6 then nI sh - 6 else 0) = nI (sh - 6) := by decide
          unfold f_J9_max_7cf53
          rw [← this sh hsh]
          split <;> rfl
        have hsp' : ((1 : Int32) <<< (nI sh &&& 31) - 1).toInt64 = jJ (2 ^ sh - 1) := by
          have : ∀ sh, sh ≤ 12 → ((1 : Int32) <<< (nI sh &&& 31) - 1).toInt64 = jJ (2 ^ sh - 1) := by decide
          exact this sh hsh
        have hsh2 : (2 : Int) ^ sh - 1 < 64 * 2 ^ (sh - 6) := by
          have : ∀ sh, sh ≤ 12 → (2 : Int) ^ sh - 1 < 64 * 2 ^ (sh - 6) := by decide
          exact this sh hsh
        refine ⟨.inl (jJ (fr + q * 2 ^ sh), jJ (2 ^ sh - 1), nI (r + 1), wI p2.2 9 9 (nI (sh - 6))), ?_, fr + q * 2 ^ sh, 2 ^ sh - 1, sh - 6, rfl, rfl, rfl, rI_T ⟨rfl, rfl⟩, ?_, by omega, ?_, by omega, hsh2, by omega, by omega, by omega, fun z => ?_, fun z => by omega, by omega, sx_wI' (sx_tr c13 v6) ⟨rfl, by omega⟩⟩
        · rw [bnd e2, v2, bnd hmx, v1, j_shl (by omega) hsh, jJ_add, hsp', nI_1]
        · rw [rI_F (by omega), v5]
          congr 1
          omega
        · rw [show fr + (q : Int) * 2 ^ sh + (2 ^ sh - 1) + 1 = fr + ((q : Int) + 1) * 2 ^ sh by omega]
          omega
        · have : sh = 0 := by omega
          rw [this]; rfl
    · rintro ⟨a1, a2, a3, s2⟩ ⟨fr, sp, sh, ea1, ea2, ea3, c1, c2, c3, c4, c5, c6, c7, c8, c9, c10, c11, c12, c13⟩
      simp only at ea1 ea2 ea3 c1 c2 c13
      subst ea1 ea2 ea3
      refine ⟨.inr (jJ fr, s2), ?_, fr, rfl, c3, ?_, c13⟩
      · simp only [f_X4_sumAt_L72]
        rw [if_pos (show (3 : Int32) ≤ nI 3 by decide)]
      · rw [c10 rfl, Int.add_zero] at c4
        exact c4
    · have e : allA T = [([], 0)] := by
        unfold allA; rw [z]; rfl
      rw [e] at hlo hhi
      have z1 : lo = 0 := (Option.some.inj (show some (0 : Int) = some lo from hlo)).symm
      have z2 : hi = 0 := (Option.some.inj (show some (0 : Int) = some hi from hhi)).symm
      omega
  obtain ⟨r, e2, hr2⟩ := hL
  refine ⟨(r.1, r.2), ?_, hr2⟩
  unfold f_X4_sumAt
  rw [show (0 : Int32).toNatClampNeg = 0 by decide, e4, e5, jJ_sub, bnd e1]
  exact bnd e2 _
