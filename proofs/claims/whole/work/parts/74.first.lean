/-! the reference's first 200 -/
def lfD : sx_D := (fun o k => o = 58 ∧ k = 18, fun _ _ => False, fun o => o = 66, fun _ => False)
def idxQ (L Q : List asg) (s : sx_M) : Prop := ∀ i p, Q[i]? = some p → ∃ k, k < L.length ∧ L[k]? = some p ∧ rA s 66 i = nI k
theorem r_insert {L Q : List asg} {s : sx_M} {i0 : Nat} {p : asg} (hb : lbd L) (hl : lst L s) (hp : L[i0]? = some p) (hQs : srtd Q) (hQ : idxQ L Q s) (hQL : ∀ q, q ∈ Q → q ∈ L) (hlen : Q.length < 200) : Ev (whT (f_X12_laysFirst_L77 (nI i0)) (nI Q.length, s)) (fun r => ∃ k, k ≤ Q.length ∧ r.1 = nI k ∧ ins p Q = Q.take k ++ p :: Q.drop k ∧ (∀ i q, i < k → Q[i]? = some q → q.2 ≤ p.2) ∧ (∀ i q, k ≤ i → Q[i]? = some q → p.2 < q.2) ∧ idxQ L (ins p Q) (wA r.2 66 k (nI i0)) ∧ sx_eq (Dar 66) s r.2) := by
  have h40 := hb.1
  have hi0 : i0 < L.length := (List.getElem?_eq_some_iff.mp hp).1
  have hpb := hb.2 p (List.mem_of_getElem? hp)
  have hin0 : ¬ (nI i0 < 0 ∨ 40320 ≤ (nI i0).toNatClampNeg) := by
    rw [nI_cl (by omega)]
    exact fun q => q.elim (nI_pos (by omega)) (by omega)
  have hL : Ev (whT (f_X12_laysFirst_L77 (nI i0)) (nI Q.length, s)) (fun r => ∃ k, k ≤ Q.length ∧ r.1 = nI k ∧ (∀ i q, i < k → Q[i]? = some q → (∃ m, m < L.length ∧ L[m]? = some q ∧ rA r.2 66 i = nI m) ∧ q.2 ≤ p.2) ∧ (∀ i q, k ≤ i → Q[i]? = some q → (∃ m, m < L.length ∧ L[m]? = some q ∧ rA r.2 66 (i + 1) = nI m) ∧ p.2 < q.2) ∧ sx_eq (Dar 66) s r.2) := by
    refine ev_d (fun k a => k ≤ Q.length ∧ a.1 = nI k ∧ (∀ i q, i < k → Q[i]? = some q → ∃ m, m < L.length ∧ L[m]? = some q ∧ rA a.2 66 i = nI m) ∧ (∀ i q, k ≤ i → Q[i]? = some q → (∃ m, m < L.length ∧ L[m]? = some q ∧ rA a.2 66 (i + 1) = nI m) ∧ p.2 < q.2) ∧ sx_eq (Dar 66) s a.2) ?_ ?_ Q.length _ ⟨Nat.le_refl _, rfl, fun i q _ hq => hQ i q hq, fun i q hi hq => by
      have := (List.getElem?_eq_some_iff.mp hq).1
      omega, sx_rf _ _⟩
    · rintro k ⟨b1, s1⟩ ⟨hk, eb, h1, h2, h3⟩
      simp only at eb h1 h2 h3
      subst eb
      obtain ⟨q, hq⟩ : ∃ q, Q[k]? = some q := ⟨Q[k], List.getElem?_eq_getElem (by omega)⟩
      have hqb := hb.2 q (hQL q (List.mem_of_getElem? hq))
      obtain ⟨m, hm, hmq, hmr⟩ := h1 k q (by omega) hq
      have hin : ¬ (nI k < 0 ∨ 200 ≤ (nI k).toNatClampNeg) := by
        rw [nI_cl (by omega)]
        exact fun q => q.elim (nI_pos (by omega)) (by omega)
      have hin2 : ¬ (nI (k + 1) < 0 ∨ 200 ≤ (nI (k + 1)).toNatClampNeg) := by
        rw [nI_cl (by omega)]
        exact fun q => q.elim (nI_pos (by omega)) (by omega)
      have hinm : ¬ (nI m < 0 ∨ 40320 ≤ (nI m).toNatClampNeg) := by
        rw [nI_cl (by omega)]
        exact fun q => q.elim (nI_pos (by omega)) (by omega)
      have hpred : nI (k + 1) - (1 : Int32) = nI k := nI_pred k
      have hl1 : lst L s1 := lst_eq h3 (fun z => z) (by simp only [Dar]; omega) (by simp only [Dar]; omega) hl
      simp only [f_X12_laysFirst_L77, hpred]
      rw [if_neg (show ¬ nI (k + 1) ≤ 0 from nI_nle (by omega) (by omega)), if_pos hin, if_pos hin, if_pos hin2, nI_cl (show k < 2147483648 by omega), hmr, if_pos hinm, if_pos hin0, nI_cl (show m < 2147483648 by omega), nI_cl (show i0 < 2147483648 by omega), nI_cl (show k + 1 < 2147483648 by omega), (hl1.2 m q hmq).2, (hl1.2 i0 p hp).2]
      by_cases z : q.2 ≤ p.2
      · rw [if_pos (of_eq_true (iI_le_T z (by omega) (by omega)))]
        refine ⟨_, rfl, k + 1, hk, rfl, fun i q' hi hq' => ⟨h1 i q' hi hq', ?_⟩, h2, h3⟩
        have := srt_le hQs (show i ≤ k by omega) hq' hq
        omega
      · rw [if_neg (of_eq_false (iI_le_F (by omega) (by omega) (by omega)))]
        refine ⟨.inl (nI k, wA s1 66 (k + 1) (nI m)), ?_, by omega, rfl, fun i q' hi hq' => ?_, fun i q' hi hq' => ?_, sx_wA' h3 rfl⟩
        · rw [show nI (k + 1) + (-1 : Int32) = nI k from pk_m1 k]
        · obtain ⟨m', a1, a2, a3⟩ := h1 i q' (by omega) hq'
          exact ⟨m', a1, a2, by rw [rA_F (by omega)]; exact a3⟩
        · by_cases y : i = k
          · rw [y, hq] at hq'; cases hq'
            rw [y]
            exact ⟨⟨m, hm, hmq, rA_T ⟨rfl, rfl⟩⟩, by omega⟩
          · obtain ⟨⟨m', a1, a2, a3⟩, a4⟩ := h2 i q' (by omega) hq'
            exact ⟨⟨m', a1, a2, by rw [rA_F (by omega)]; exact a3⟩, a4⟩
    · rintro ⟨b1, s1⟩ ⟨hk, eb, h1, h2, h3⟩
      simp only at eb h1 h2 h3
      subst eb
      refine ⟨.inr (nI 0, s1), ?_, 0, hk, rfl, fun i q hi => by omega, h2, h3⟩
      simp only [f_X12_laysFirst_L77]
      rw [if_pos (show nI 0 ≤ 0 by decide)]
  obtain ⟨r, e, k, hk, ek, h1, h2, hx⟩ := hL
  have hins : ins p Q = Q.take k ++ p :: Q.drop k := ins_at hk (fun i q hi hq => (h2 i q hi hq).2) (fun i q hi hq => (h1 i q hi hq).2)
  refine ⟨r, e, k, hk, ek, hins, fun i q hi hq => (h1 i q hi hq).2, fun i q hi hq => (h2 i q hi hq).2, fun i q hq => ?_, hx⟩
  rw [hins] at hq
  by_cases c1 : i < k
  · rw [List.getElem?_append_left (by rw [List.length_take]; omega), List.getElem?_take_of_lt c1] at hq
    obtain ⟨⟨m', a1, a2, a3⟩, _⟩ := h1 i q c1 hq
    exact ⟨m', a1, a2, by rw [rA_F (by omega)]; exact a3⟩
  · rw [List.getElem?_append_right (by rw [List.length_take]; omega), List.length_take, show min k Q.length = k by omega] at hq
    by_cases c2 : i = k
    · rw [c2, Nat.sub_self] at hq
      have : p = q := by simpa using hq
      subst this
      rw [c2]
      exact ⟨i0, hi0, hp, rA_T ⟨rfl, rfl⟩⟩
    · obtain ⟨j, hj⟩ : ∃ j, i = j + 1 := ⟨i - 1, by omega⟩
      rw [hj, show j + 1 - k = (j - k) + 1 by omega, List.getElem?_cons_succ, List.getElem?_drop, show k + (j - k) = j by omega] at hq
      obtain ⟨⟨m', a1, a2, a3⟩, _⟩ := h2 j q (by omega) hq
      rw [hj]
      exact ⟨m', a1, a2, by rw [rA_F (by omega)]; exact a3⟩
def fstI (T : tb) (s : sx_M) : Prop := rI s 58 18 = nI (f200 T).length ∧ idxQ (allA T) (f200 T) s
theorem srt_take {Q : List asg} (h : srtd Q) (n : Nat) : srtd (Q.take n) := List.Pairwise.sublist (List.take_sublist n Q) h
theorem r_first {A : ast} {s : sx_M} (hok : okA A) (hr : rfA A s) : Ev (f_X12_laysFirst s) (fun s' => lst (allA A.1) s' ∧ tabIs 59 0 A.1 s' ∧ fstI A.1 s') := by
  have bA : lbd (allA A.1) := all_bd hok.1
  have h40 := bA.1
  obtain ⟨s1, e1, hl, ht, _⟩ := r_all hok hr
  have hx0 : sx_eq lfD s1 (wI s1 58 18 0) := sx_wI' (sx_rf _ _) ⟨rfl, rfl⟩
  have hL : Ev (whT f_X12_laysFirst_L11 (0, wI s1 58 18 0)) (fun s' => sx_eq lfD s1 s' ∧ fstI A.1 s') := by
    refine ev_f (fun i a => a.1 = nI i ∧ rI a.2 58 18 = nI ((isort ((allA A.1).take i)).take 200).length ∧ idxQ (allA A.1) ((isort ((allA A.1).take i)).take 200) a.2 ∧ sx_eq lfD s1 a.2) (allA A.1).length ?_ ?_ (i := 0) (by omega) ⟨rfl, rI_T ⟨rfl, rfl⟩, fun i p hi => by simp [isort] at hi, hx0⟩
    · rintro i ⟨a1, s2⟩ hi ⟨ea, h1, h2, h3⟩
      simp only at ea h1 h2 h3
      subst ea
      have hl2 : lst (allA A.1) s2 := lst_eq h3 (by simp only [lfD]; omega) (by simp only [lfD]; omega) (by simp only [lfD]; omega) hl
      obtain ⟨p, hp⟩ : ∃ p, (allA A.1)[i]? = some p := ⟨(allA A.1)[i], List.getElem?_eq_getElem hi⟩
      have hpb := bA.2 p (List.mem_of_getElem? hp)
      have etk : (allA A.1).take (i + 1) = (allA A.1).take i ++ [p] := by rw [List.take_succ, hp]; rfl
      have esrt : (isort ((allA A.1).take (i + 1))).take 200 = (ins p ((isort ((allA A.1).take i)).take 200)).take 200 := by
        rw [etk, isort_app, ins_take]
      generalize hQ : (isort ((allA A.1).take i)).take 200 = Q at h1 h2 esrt
      have hQs : srtd Q := by rw [← hQ]; exact srt_take (isort_srt _) 200
      have hQl : Q.length ≤ 200 := by rw [← hQ, List.length_take]; omega
      have hQL : ∀ q, q ∈ Q → q ∈ allA A.1 := by
        intro q hq
        rw [← hQ] at hq
        exact List.mem_of_mem_take ((isort_mem _ q).mp (List.mem_of_mem_take hq))
      have hini : ¬ (nI i < 0 ∨ 40320 ≤ (nI i).toNatClampNeg) := by
        rw [nI_cl (by omega)]
        exact fun q => q.elim (nI_pos (by omega)) (by omega)
      -- going in, among the first 199
      have go : (Q.length = 200 → ∃ q, Q[199]? = some q ∧ p.2 < q.2) → Ev (f_X12_laysFirst_L11_J54 (nI i) s2) (Sum.elim (fun a => a.1 = nI (i + 1) ∧ rI a.2 58 18 = nI ((isort ((allA A.1).take (i + 1))).take 200).length ∧ idxQ (allA A.1) ((isort ((allA A.1).take (i + 1))).take 200) a.2 ∧ sx_eq lfD s1 a.2) (fun s' => sx_eq lfD s1 s' ∧ fstI A.1 s')) := by
        intro h200
        have hmin : f_J9_min_7cf53 200 (rI s2 58 18 + 1) s2 = some (nI ((Q.take 199).length + 1), s2) := by
          unfold f_J9_min_7cf53
          rw [h1, nI_1, List.length_take]
          by_cases z : Q.length + 1 < 200
          · rw [if_pos (show nI (Q.length + 1) < 200 from nI_lt (b := 200) z (by omega)), show min 199 Q.length = Q.length by omega]
          · rw [if_neg (show ¬ nI (Q.length + 1) < 200 from nI_nlt (b := 200) (by omega) (by omega)), show min 199 Q.length = 199 by omega]; rfl
        have hl3 : lst (allA A.1) (wI s2 58 18 (nI ((Q.take 199).length + 1))) := lst_eq (D := lfD) (sx_wI' (sx_rf _ _) ⟨rfl, rfl⟩) (by simp only [lfD]; omega) (by simp only [lfD]; omega) (by simp only [lfD]; omega) hl2
        have hQ2 : idxQ (allA A.1) (Q.take 199) (wI s2 58 18 (nI ((Q.take 199).length + 1))) := by
          intro k q hq
          have hkl : k < (Q.take 199).length := (List.getElem?_eq_some_iff.mp hq).1
          rw [List.length_take] at hkl
          rw [List.getElem?_take_of_lt (by omega)] at hq
          exact h2 k q hq
        obtain ⟨r, e, k, hk, ek, hins, hlo, hhi, hidx, hx0⟩ := r_insert bA hl3 hp (srt_take hQs 199) hQ2 (fun q hq => hQL q (List.mem_of_mem_take hq)) (by rw [List.length_take]; omega)
        have hres : (ins p Q).take 200 = ins p (Q.take 199) := by
          by_cases z : Q.length = 200
          · obtain ⟨q9, hq9, hlt⟩ := h200 z
            have hk2 : k ≤ 199 := by rw [List.length_take] at hk; omega
            have hlow : ∀ i q, i < k → Q[i]? = some q → q.2 ≤ p.2 := fun i' q hi' hq => hlo i' q hi' (by rw [List.getElem?_take_of_lt (by omega)]; exact hq)
            have hhigh : ∀ i q, k ≤ i → Q[i]? = some q → p.2 < q.2 := by
              intro i' q hi' hq
              by_cases y : i' < 199
              · exact hhi i' q hi' (by rw [List.getElem?_take_of_lt y]; exact hq)
              · have := srt_le hQs (show 199 ≤ i' by omega) hq9 hq
                omega
            rw [ins_at (show k ≤ Q.length by omega) hhigh hlow, hins]
            rw [List.take_append, List.take_take, List.length_take, show min 200 k = k by omega, show min k Q.length = k by omega, List.take_take, show min k 199 = k by omega]
            congr 1
            obtain ⟨d, hd⟩ : ∃ d, 200 - k = d + 1 := ⟨199 - k, by omega⟩
            rw [hd, List.take_succ_cons, List.drop_take]
            congr 2
            omega
          · rw [List.take_of_length_le (by rw [ins_len]; omega), List.take_of_length_le (show Q.length ≤ 199 by omega)]
        have hx : sx_eq lfD _ r.2 := sx_mono hx0 (fun _ _ z => z.elim) (fun _ _ z => z.elim) (fun _ z => z) (fun _ z => z.elim)
        have h18 : rI r.2 58 18 = nI ((Q.take 199).length + 1) := by
          exact (hx0.1 58 18 (fun z => z)).trans (rI_T ⟨rfl, rfl⟩)
        have hin : ¬ (nI k < 0 ∨ 200 ≤ (nI k).toNatClampNeg) := by
          rw [List.length_take] at hk
          rw [nI_cl (by omega)]
          exact fun q => q.elim (nI_pos (by omega)) (by omega)
        have hkk : k < 2147483648 := by rw [List.length_take] at hk; omega
        refine ⟨.inl (nI (i + 1), wA r.2 66 k (nI i)), ?_, rfl, ?_, ?_, sx_wA' (sx_tr h3 (sx_tr (sx_wI' (sx_rf _ _) ⟨rfl, rfl⟩) hx)) rfl⟩
        · unfold f_X12_laysFirst_L11_J54
          rw [bnd hmin, rI_T ⟨rfl, rfl⟩, show nI ((Q.take 199).length + 1) - (1 : Int32) = nI (Q.take 199).length from nI_pred _, bnd e, ek, if_pos hin, nI_cl hkk, nI_1]
        · rw [esrt, hres, ins_len]; exact h18
        · rw [esrt, hres]; exact hidx
      simp only [f_X12_laysFirst_L11, hl2.1, h1]
      rw [if_neg (show ¬ nI (allA A.1).length ≤ nI i from nI_ge hi (by omega))]
      by_cases z : Q.length = 200
      · obtain ⟨q9, hq9⟩ : ∃ q, Q[199]? = some q := ⟨Q[199]'(by omega), List.getElem?_eq_getElem (by omega)⟩
        have hq9b := bA.2 q9 (hQL q9 (List.mem_of_getElem? hq9))
        obtain ⟨m, hm, hmq, hmr⟩ := h2 199 q9 hq9
        have hinm : ¬ (nI m < 0 ∨ 40320 ≤ (nI m).toNatClampNeg) := by
          rw [nI_cl (by omega)]
          exact fun q => q.elim (nI_pos (by omega)) (by omega)
        rw [if_pos (show nI Q.length = 200 by rw [z]; rfl), if_pos hini, show ((199 : Int32)).toNatClampNeg = 199 from rfl, hmr, if_pos hinm, nI_cl (show m < 2147483648 by omega), nI_cl (show i < 2147483648 by omega), (hl2.2 m q9 hmq).2, (hl2.2 i p hp).2]
        by_cases y : p.2 < q9.2
        · rw [if_pos (of_eq_true (iI_lt_T y (by omega) (by omega)))]
          exact go (fun _ => ⟨q9, hq9, y⟩)
        · rw [if_neg (of_eq_false (iI_lt_F (by omega) (by omega) (by omega)))]
          have hkeep : (ins p Q).take 200 = Q := by
            rw [ins_at (k := 200) (by omega) (fun i' q hi' hq => by
              have := (List.getElem?_eq_some_iff.mp hq).1
              omega) (fun i' q hi' hq => by
              have := srt_le hQs (show i' ≤ 199 by omega) hq hq9
              omega), List.take_of_length_le (show Q.length ≤ 200 by omega), List.take_append_of_le_length (by omega), List.take_of_length_le (show Q.length ≤ 200 by omega)]
          refine ⟨.inl (nI i + 1, s2), rfl, nI_1 i, ?_, ?_, h3⟩
          · rw [esrt, hkeep]; exact h1
          · rw [esrt, hkeep]; exact h2
      · rw [if_neg (show ¬ nI Q.length = 200 from of_eq_false (nI_eq_F (b := 200) z (by omega) (by omega)))]
        exact go (fun y => absurd y z)
    · rintro ⟨a1, s2⟩ ⟨ea, h1, h2, h3⟩
      simp only at ea h1 h2 h3
      subst ea
      rw [List.take_length] at h1 h2
      refine ⟨.inr s2, ?_, h3, h1, h2⟩
      have hl2 : lst (allA A.1) s2 := lst_eq h3 (by simp only [lfD]; omega) (by simp only [lfD]; omega) (by simp only [lfD]; omega) hl
      simp only [f_X12_laysFirst_L11, hl2.1]
      rw [if_pos (nI_le (Nat.le_refl _) (by omega))]
  obtain ⟨s2, e2, x2, hf⟩ := hL
  refine ⟨s2, ?_, lst_eq x2 (by simp only [lfD]; omega) (by simp only [lfD]; omega) (by simp only [lfD]; omega) hl, tab_eq x2 (by simp only [lfD]; omega) ht, hf⟩
  unfold f_X12_laysFirst
  rw [bnd e1]
  exact bnd e2 _
