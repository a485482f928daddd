/-! THE LIST OF THE FIRST -/
def coD : sx_D := (fun o k => o = 9 ∧ (k = 5 ∨ k = 7), fun _ _ => False, fun o => o = 10, fun o => o = 11)
def arrQ (Q : List asg) (s : sx_M) : Prop := ∀ i p, Q[i]? = some p → rA s 10 i = nI (cod p.1) ∧ rB s 11 i = jJ p.2
def coI (v : Int) (R : Nat) (s0 : sx_M) (M : List asg) (s : sx_M) : Prop := rJ s 9 6 = jJ v ∧ rI s 9 7 = nI (R - nE v M) ∧ rI s 9 5 = nI (sl v R M).length ∧ arrQ (isort (sl v R M)) s ∧ sx_eq coD s0 s
theorem nE_app (v : Int) (M N : List asg) : nE v (M ++ N) = nE v M + nE v N := List.countP_append
theorem srt_le {Q : List asg} (h : srtd Q) {i k : Nat} {p q : asg} (hik : i ≤ k) (hi : Q[i]? = some p) (hk : Q[k]? = some q) : p.2 ≤ q.2 := by
  by_cases e : i = k
  · rw [e, hk] at hi; cases hi; omega
  · obtain ⟨li, ei⟩ := List.getElem?_eq_some_iff.mp hi
    obtain ⟨lk, ek⟩ := List.getElem?_eq_some_iff.mp hk
    have := List.pairwise_iff_getElem.mp h i k li lk (by omega)
    rw [ei, ek] at this; exact this
theorem f_add {v : Int} {R : Nat} {s0 s : sx_M} {M : List asg} {p : asg} (h : coI v R s0 M s) (hv : -1000000 ≤ v ∧ v ≤ 1000000) (hp : -1000000 ≤ p.2 ∧ p.2 ≤ 1000000) (hM : ∀ q, q ∈ M → -1000000 ≤ q.2 ∧ q.2 ≤ 1000000) (hsel : p.2 < v ∨ (p.2 = v ∧ nE v M < R)) (hR : R < 1000) (hsz : (sl v R M).length < 200) : Ev (f_X4_add (nI (cod p.1)) (jJ p.2) s) (fun s' => coI v R s0 (M ++ [p]) s') := by
  obtain ⟨a1, a2, a3, a4, a5⟩ := h
  have hsl : sl v R (M ++ [p]) = sl v R M ++ [p] := by
    rw [sl_app]
    congr 1
    rcases hsel with c | ⟨c1, c2⟩
    · rw [sl_1 c, sl_n]
    · rw [sl_2 c1 (by omega), sl_n]
  have hQl : (isort (sl v R M)).length = (sl v R M).length := isort_len _
  have hQb : ∀ q, q ∈ isort (sl v R M) → -1000000 ≤ q.2 ∧ q.2 ≤ 1000000 := by
    intro q hq
    have hq := (isort_mem _ q).mp hq
    have : ∀ (M : List asg) (R : Nat), q ∈ sl v R M → q ∈ M := by
      intro M
      induction M with
      | nil => intro R h; rw [sl_n] at h; cases h
      | cons a M ih =>
        intro R h
        by_cases c1 : a.2 < v
        · rw [sl_1 c1] at h
          rcases List.mem_cons.mp h with z | z
          · rw [z]; exact List.mem_cons_self ..
          · exact List.mem_cons_of_mem _ (ih R z)
        · by_cases c2 : a.2 = v ∧ 0 < R
          · rw [sl_2 c2.1 c2.2] at h
            rcases List.mem_cons.mp h with z | z
            · rw [z]; exact List.mem_cons_self ..
            · exact List.mem_cons_of_mem _ (ih _ z)
          · rw [sl_3 c1 c2] at h
            exact List.mem_cons_of_mem _ (ih R h)
    exact hM q (this M R hq)
  generalize hQ : isort (sl v R M) = Q at a4 hQl hQb
  have hsrt : srtd Q := by rw [← hQ]; exact isort_srt _
  rw [← hQl] at a3 hsz
  have hL : Ev (whT (f_X4_add_L17 (nI (cod p.1)) (jJ p.2)) (nI Q.length, s)) (fun r => ∃ k, k ≤ Q.length ∧ r.1 = nI k ∧ (∀ i q, i < k → Q[i]? = some q → (rA r.2 10 i = nI (cod q.1) ∧ rB r.2 11 i = jJ q.2) ∧ q.2 ≤ p.2) ∧ (∀ i q, k ≤ i → Q[i]? = some q → (rA r.2 10 (i + 1) = nI (cod q.1) ∧ rB r.2 11 (i + 1) = jJ q.2) ∧ p.2 < q.2) ∧ sx_eq ((fun _ _ => False, fun _ _ => False, fun o => o = 10, fun o => o = 11) : sx_D) s r.2) := by
    refine ev_d (fun k a => k ≤ Q.length ∧ a.1 = nI k ∧ (∀ i q, i < k → Q[i]? = some q → (rA a.2 10 i = nI (cod q.1) ∧ rB a.2 11 i = jJ q.2)) ∧ (∀ i q, k ≤ i → Q[i]? = some q → (rA a.2 10 (i + 1) = nI (cod q.1) ∧ rB a.2 11 (i + 1) = jJ q.2) ∧ p.2 < q.2) ∧ sx_eq ((fun _ _ => False, fun _ _ => False, fun o => o = 10, fun o => o = 11) : sx_D) s a.2) ?_ ?_ Q.length _ ⟨Nat.le_refl _, rfl, fun i q _ hq => a4 i q hq, fun i q hi hq => by
      have := (List.getElem?_eq_some_iff.mp hq).1
      omega, sx_rf _ _⟩
    · rintro k ⟨b1, s1⟩ ⟨hk, eb, h1, h2, h3⟩
      simp only at eb h1 h2 h3
      subst eb
      obtain ⟨q, hq⟩ : ∃ q, Q[k]? = some q := ⟨Q[k], List.getElem?_eq_getElem (by omega)⟩
      have hqb := hQb q (List.mem_of_getElem? hq)
      have hq1 := h1 k q (by omega) hq
      have hin : ¬ (nI k < 0 ∨ 200 ≤ (nI k).toNatClampNeg) := by
        rw [nI_cl (by omega)]
        exact fun q => q.elim (nI_pos (by omega)) (by omega)
      have hin2 : ¬ (nI (k + 1) < 0 ∨ 200 ≤ (nI (k + 1)).toNatClampNeg) := by
        rw [nI_cl (by omega)]
        exact fun q => q.elim (nI_pos (by omega)) (by omega)
      have hpred : nI (k + 1) - (1 : Int32) = nI k := nI_pred k
      simp only [f_X4_add_L17, hpred]
      rw [if_neg (show ¬ nI (k + 1) ≤ 0 from nI_nle (by omega) (by omega)), if_pos hin, if_pos hin, if_pos hin2, if_pos hin, if_pos hin2, nI_cl (by omega), nI_cl (by omega), hq1.2]
      by_cases z : q.2 ≤ p.2
      · rw [if_pos (of_eq_true (jJ_le_T z (by omega) (by omega)))]
        refine ⟨_, rfl, k + 1, hk, rfl, fun i q' hi hq' => ⟨h1 i q' hi hq', ?_⟩, h2, h3⟩
        have := srt_le hsrt (show i ≤ k by omega) hq' hq
        omega
      · rw [if_neg (of_eq_false (jJ_le_F (by omega) (by omega) (by omega)))]
        refine ⟨.inl (nI k, wA (wB s1 11 (k + 1) (jJ q.2)) 10 (k + 1) (nI (cod q.1))), ?_, by omega, rfl, fun i q' hi hq' => ?_, fun i q' hi hq' => ?_, sx_wA' (sx_wB' h3 rfl) rfl⟩
        · rw [rA_wB, hq1.1]
          rw [show nI (k + 1) + (-1 : Int32) = nI k from pk_m1 k]
        · have := h1 i q' (by omega) hq'
          simp (disch := omega) only [↓reduceIte, nI_lit, nI_add, pk_mul, nI_lt_T, nI_lt_F, nI_le_T, nI_le_F, nI_eq_T, nI_eq_F, nI_cl, le_F, le_T, nI_m_F, m_nI_F, nI_dn, m_lt, Option.bind_some, if_true, if_false, not_false_eq_true, not_true_eq_false, or_self, or_false, false_or, true_or, or_true, true_and, and_true, false_and, and_false, rA_T, rA_F, rB_T, rB_F, rI_T, rI_F, rJ_T, rJ_F, rA_wI, rA_wJ, rA_wB, rB_wI, rB_wJ, rB_wA, rI_wJ, rI_wA, rI_wB, rJ_wI, rJ_wA, rJ_wB]
          exact this
        · by_cases y : i = k
          · rw [y, hq] at hq'; cases hq'
            rw [y]
            simp (disch := omega) only [↓reduceIte, nI_lit, nI_add, pk_mul, nI_lt_T, nI_lt_F, nI_le_T, nI_le_F, nI_eq_T, nI_eq_F, nI_cl, le_F, le_T, nI_m_F, m_nI_F, nI_dn, m_lt, Option.bind_some, if_true, if_false, not_false_eq_true, not_true_eq_false, or_self, or_false, false_or, true_or, or_true, true_and, and_true, false_and, and_false, rA_T, rA_F, rB_T, rB_F, rI_T, rI_F, rJ_T, rJ_F, rA_wI, rA_wJ, rA_wB, rB_wI, rB_wJ, rB_wA, rI_wJ, rI_wA, rI_wB, rJ_wI, rJ_wA, rJ_wB]
            omega
          · have := h2 i q' (by omega) hq'
            simp (disch := omega) only [↓reduceIte, nI_lit, nI_add, pk_mul, nI_lt_T, nI_lt_F, nI_le_T, nI_le_F, nI_eq_T, nI_eq_F, nI_cl, le_F, le_T, nI_m_F, m_nI_F, nI_dn, m_lt, Option.bind_some, if_true, if_false, not_false_eq_true, not_true_eq_false, or_self, or_false, false_or, true_or, or_true, true_and, and_true, false_and, and_false, rA_T, rA_F, rB_T, rB_F, rI_T, rI_F, rJ_T, rJ_F, rA_wI, rA_wJ, rA_wB, rB_wI, rB_wJ, rB_wA, rI_wJ, rI_wA, rI_wB, rJ_wI, rJ_wA, rJ_wB]
            exact this
    · rintro ⟨b1, s1⟩ ⟨hk, eb, h1, h2, h3⟩
      simp only at eb h1 h2 h3
      subst eb
      refine ⟨.inr (nI 0, s1), ?_, 0, hk, rfl, fun i q hi => by omega, h2, h3⟩
      simp only [f_X4_add_L17]
      rw [if_pos (show nI 0 ≤ 0 by decide)]
  obtain ⟨r, e, k, hk, ek, h1, h2, hx⟩ := hL
  have hins : isort (sl v R (M ++ [p])) = Q.take k ++ p :: Q.drop k := by
    rw [hsl, isort_app, hQ]
    exact ins_at hk (fun i q hi hq => (h2 i q hi hq).2) (fun i q hi hq => (h1 i q hi hq).2)
  have hin : ¬ (nI k < 0 ∨ 200 ≤ (nI k).toNatClampNeg) := by
    rw [nI_cl (by omega)]
    exact fun q => q.elim (nI_pos (by omega)) (by omega)
  have e5 : rI r.2 9 5 = nI Q.length := (hx.1 9 5 (fun z => z)).trans a3
  have e6 : rJ r.2 9 6 = jJ v := (hx.2.1 9 6 (fun z => z)).trans a1
  have e7 : rI r.2 9 7 = nI (R - nE v M) := (hx.1 9 7 (fun z => z)).trans a2
  have harr : ∀ s2, (∀ i, rA s2 10 i = rA (wA (wB r.2 11 k (jJ p.2)) 10 k (nI (cod p.1))) 10 i) → (∀ i, rB s2 11 i = rB (wA (wB r.2 11 k (jJ p.2)) 10 k (nI (cod p.1))) 11 i) → arrQ (isort (sl v R (M ++ [p]))) s2 := by
    intro s2 g1 g2 i q hq
    rw [hins] at hq
    rw [g1, g2]
    by_cases c1 : i < k
    · rw [List.getElem?_append_left (by rw [List.length_take]; omega), List.getElem?_take_of_lt c1] at hq
      have := (h1 i q c1 hq).1
      simp (disch := omega) only [↓reduceIte, nI_lit, nI_add, pk_mul, nI_lt_T, nI_lt_F, nI_le_T, nI_le_F, nI_eq_T, nI_eq_F, nI_cl, le_F, le_T, nI_m_F, m_nI_F, nI_dn, m_lt, Option.bind_some, if_true, if_false, not_false_eq_true, not_true_eq_false, or_self, or_false, false_or, true_or, or_true, true_and, and_true, false_and, and_false, rA_T, rA_F, rB_T, rB_F, rI_T, rI_F, rJ_T, rJ_F, rA_wI, rA_wJ, rA_wB, rB_wI, rB_wJ, rB_wA, rI_wJ, rI_wA, rI_wB, rJ_wI, rJ_wA, rJ_wB]
      exact this
    · rw [List.getElem?_append_right (by rw [List.length_take]; omega), List.length_take, show min k Q.length = k by omega] at hq
      by_cases c2 : i = k
      · rw [c2, Nat.sub_self] at hq
        have : p = q := by simpa using hq
        subst this
        rw [c2]
        simp (disch := omega) only [↓reduceIte, nI_lit, nI_add, pk_mul, nI_lt_T, nI_lt_F, nI_le_T, nI_le_F, nI_eq_T, nI_eq_F, nI_cl, le_F, le_T, nI_m_F, m_nI_F, nI_dn, m_lt, Option.bind_some, if_true, if_false, not_false_eq_true, not_true_eq_false, or_self, or_false, false_or, true_or, or_true, true_and, and_true, false_and, and_false, rA_T, rA_F, rB_T, rB_F, rI_T, rI_F, rJ_T, rJ_F, rA_wI, rA_wJ, rA_wB, rB_wI, rB_wJ, rB_wA, rI_wJ, rI_wA, rI_wB, rJ_wI, rJ_wA, rJ_wB]
      · obtain ⟨j, hj⟩ : ∃ j, i = j + 1 := ⟨i - 1, by omega⟩
        rw [hj, show j + 1 - k = (j - k) + 1 by omega, List.getElem?_cons_succ, List.getElem?_drop, show k + (j - k) = j by omega] at hq
        have := (h2 j q (by omega) hq).1
        rw [hj]
        simp (disch := omega) only [↓reduceIte, nI_lit, nI_add, pk_mul, nI_lt_T, nI_lt_F, nI_le_T, nI_le_F, nI_eq_T, nI_eq_F, nI_cl, le_F, le_T, nI_m_F, m_nI_F, nI_dn, m_lt, Option.bind_some, if_true, if_false, not_false_eq_true, not_true_eq_false, or_self, or_false, false_or, true_or, or_true, true_and, and_true, false_and, and_false, rA_T, rA_F, rB_T, rB_F, rI_T, rI_F, rJ_T, rJ_F, rA_wI, rA_wJ, rA_wB, rB_wI, rB_wJ, rB_wA, rI_wJ, rI_wA, rI_wB, rJ_wI, rJ_wA, rJ_wB]
        exact this
  have hlen : (sl v R (M ++ [p])).length = Q.length + 1 := by rw [hsl, List.length_append, ← hQl]; rfl
  have hxx : sx_eq coD s0 r.2 := sx_tr a5 (sx_mono hx (fun o k q => q.elim) (fun o k q => q) (fun o q => q) (fun o q => q))
  unfold f_X4_add
  rw [a3, if_pos (show nI Q.length < 200 from nI_lt (b := 200) hsz (by omega)), bnd e, ek, if_pos hin, if_pos hin, nI_cl (by omega)]
  have e65 : rJ (wI (wA (wB r.2 11 k (jJ p.2)) 10 k (nI (cod p.1))) 9 5 (rI (wA (wB r.2 11 k (jJ p.2)) 10 k (nI (cod p.1))) 9 5 + 1)) 9 6 = jJ v := by
    simp (disch := omega) only [↓reduceIte, nI_lit, nI_add, pk_mul, nI_lt_T, nI_lt_F, nI_le_T, nI_le_F, nI_eq_T, nI_eq_F, nI_cl, le_F, le_T, nI_m_F, m_nI_F, nI_dn, m_lt, Option.bind_some, if_true, if_false, not_false_eq_true, not_true_eq_false, or_self, or_false, false_or, true_or, or_true, true_and, and_true, false_and, and_false, rA_T, rA_F, rB_T, rB_F, rI_T, rI_F, rJ_T, rJ_F, rA_wI, rA_wJ, rA_wB, rB_wI, rB_wJ, rB_wA, rI_wJ, rI_wA, rI_wB, rJ_wI, rJ_wA, rJ_wB]; exact e6
  have e55 : rI (wA (wB r.2 11 k (jJ p.2)) 10 k (nI (cod p.1))) 9 5 + 1 = nI (Q.length + 1) := by
    rw [rI_wA, rI_wB, e5, nI_1]
  rw [e65]
  by_cases c : p.2 = v
  · have hsel2 : nE v M < R := by
      rcases hsel with z | z
      · omega
      · exact z.2
    rw [if_pos (show jJ p.2 = jJ v by rw [c]), e55]
    refine ⟨_, rfl, ?_, ?_, ?_, harr _ (fun i => rfl) (fun i => rfl), sx_wI' (sx_wI' (sx_wA' (sx_wB' hxx rfl) rfl) ⟨rfl, Or.inl rfl⟩) ⟨rfl, Or.inr rfl⟩⟩
    · simp (disch := omega) only [↓reduceIte, nI_lit, nI_add, pk_mul, nI_lt_T, nI_lt_F, nI_le_T, nI_le_F, nI_eq_T, nI_eq_F, nI_cl, le_F, le_T, nI_m_F, m_nI_F, nI_dn, m_lt, Option.bind_some, if_true, if_false, not_false_eq_true, not_true_eq_false, or_self, or_false, false_or, true_or, or_true, true_and, and_true, false_and, and_false, rA_T, rA_F, rB_T, rB_F, rI_T, rI_F, rJ_T, rJ_F, rA_wI, rA_wJ, rA_wB, rB_wI, rB_wJ, rB_wA, rI_wJ, rI_wA, rI_wB, rJ_wI, rJ_wA, rJ_wB]; exact e6
    · rw [rI_T ⟨rfl, rfl⟩, rI_F (by omega), rI_wA, rI_wB, e7, nE_app, show nE v [p] = 1 by simp [nE, c], show (1 : Int32) = nI 1 from rfl, nI_sb (by omega), Nat.sub_sub]
    · rw [rI_F (by omega), rI_T ⟨rfl, rfl⟩, hlen]
  · rw [if_neg (of_eq_false (jJ_eq_F c (by omega) (by omega) (by omega) (by omega))), e55]
    refine ⟨_, rfl, ?_, ?_, ?_, harr _ (fun i => rfl) (fun i => rfl), sx_wI' (sx_wA' (sx_wB' hxx rfl) rfl) ⟨rfl, Or.inl rfl⟩⟩
    · simp (disch := omega) only [↓reduceIte, nI_lit, nI_add, pk_mul, nI_lt_T, nI_lt_F, nI_le_T, nI_le_F, nI_eq_T, nI_eq_F, nI_cl, le_F, le_T, nI_m_F, m_nI_F, nI_dn, m_lt, Option.bind_some, if_true, if_false, not_false_eq_true, not_true_eq_false, or_self, or_false, false_or, true_or, or_true, true_and, and_true, false_and, and_false, rA_T, rA_F, rB_T, rB_F, rI_T, rI_F, rJ_T, rJ_F, rA_wI, rA_wJ, rA_wB, rB_wI, rB_wJ, rB_wA, rI_wJ, rI_wA, rI_wB, rJ_wI, rJ_wA, rJ_wB]; exact e6
    · simp (disch := omega) only [↓reduceIte, nI_lit, nI_add, pk_mul, nI_lt_T, nI_lt_F, nI_le_T, nI_le_F, nI_eq_T, nI_eq_F, nI_cl, le_F, le_T, nI_m_F, m_nI_F, nI_dn, m_lt, Option.bind_some, if_true, if_false, not_false_eq_true, not_true_eq_false, or_self, or_false, false_or, true_or, or_true, true_and, and_true, false_and, and_false, rA_T, rA_F, rB_T, rB_F, rI_T, rI_F, rJ_T, rJ_F, rA_wI, rA_wJ, rA_wB, rB_wI, rB_wJ, rB_wA, rI_wJ, rI_wA, rI_wB, rJ_wI, rJ_wA, rJ_wB]
      rw [e7, nE_app, show nE v [p] = 0 by simp [nE, c]]
      rfl
    · rw [rI_T ⟨rfl, rfl⟩, hlen]
