/-! first by a rule: what is first, and the reference's way to it -/
def isF (k : asg → Int) (L : List asg) (p : asg) : Prop := p ∈ L ∧ ∀ q, q ∈ L → k p < k q ∨ (k p = k q ∧ (p.2 < q.2 ∨ (p.2 = q.2 ∧ cod p.1 ≤ cod q.1)))
theorem isF_u {k : asg → Int} {T : tb} {p q : asg} (hp : isF k (allA T) p) (hq : isF k (allA T) q) : p = q := by
  have h1 := hp.2 q hq.1
  have h2 := hq.2 p hp.1
  obtain ⟨i, hi⟩ := List.mem_iff_getElem?.mp hp.1
  obtain ⟨m, hm⟩ := List.mem_iff_getElem?.mp hq.1
  have hi' : (ex T.2.2 T.1 0 0)[i]? = some p := hi
  have hm' : (ex T.2.2 T.1 0 0)[m]? = some q := hm
  have e := (ex_inj hi' hm').2 (by omega)
  rw [e, hm'] at hi'
  exact (Option.some.inj hi').symm
theorem fmin_F {L : List asg} (hL : L.Pairwise (fun p q => cod p.1 < cod q.1)) {p : asg} (h : fmin L = some p) : p ∈ L ∧ ∀ q, q ∈ L → p.2 < q.2 ∨ (p.2 = q.2 ∧ cod p.1 ≤ cod q.1) := by
  have hm : p ∈ L := List.mem_of_find?_eq_some h
  cases hv : lowL L with
  | none => rw [lowL_none.mp hv] at hm; cases hm
  | some v =>
    rw [fmin_eq hv] at h
    have hpv : p.2 = v := by have := List.find?_some h; simpa using this
    obtain ⟨as, bs, e, hno⟩ := List.find?_eq_some_iff_append.mp h |>.2
    refine ⟨hm, fun q hq => ?_⟩
    have hle := (lowL_some.mp hv).2 q hq
    by_cases z : p.2 = q.2
    · refine Or.inr ⟨z, ?_⟩
      rw [e] at hq hL
      rcases List.mem_append.mp hq with ha | hb
      · have := hno q ha
        simp at this
        omega
      · rcases List.mem_cons.mp hb with rfl | hb
        · exact Nat.le_refl _
        · have := (List.pairwise_append.mp hL).2.1
          have := List.rel_of_pairwise_cons this hb
          omega
    · exact Or.inl (by omega)
theorem r_firstBy {T : tb} {s : sx_M} (hT : tb_ok T) (hg : tabIs 59 0 T s) (hl : lst (allA T) s) (x y : Int32) : Ev (whT (f_X12_firstBy_L12 x y) (-1, 0, 0, s)) (fun r => r.2 = s ∧ ((allA T = [] ∧ r.1 = -1) ∨ ∃ m p, r.1 = nI m ∧ m < 40320 ∧ (allA T)[m]? = some p ∧ isF (fun q => (msO T q x y).toInt) (allA T) p)) := by
  have bA := all_bd hT
  have h40 := bA.1
  have hm1 : ∀ m, m < 40320 → ¬ nI m = (-1 : Int32) := fun m hm => of_eq_false (nI_m_F (by omega))
  refine ev_f (fun (i : Nat) (a : Int32 × Int64 × Int32 × sx_M) => a.2.2.2 = s ∧ a.2.2.1 = nI i ∧ ((i = 0 ∧ a.1 = -1) ∨ ∃ m p, m < i ∧ a.1 = nI m ∧ a.2.1 = msO T p x y ∧ (allA T)[m]? = some p ∧ ∀ k q, k < i → (allA T)[k]? = some q → (msO T p x y).toInt < (msO T q x y).toInt ∨ ((msO T p x y).toInt = (msO T q x y).toInt ∧ (p.2 < q.2 ∨ (p.2 = q.2 ∧ m ≤ k))))) (allA T).length ?_ ?_ (i := 0) (by omega) ⟨rfl, rfl, Or.inl ⟨rfl, rfl⟩⟩
  · rintro i ⟨a1, a2, a3, a4⟩ hi ⟨ea, eb, hb⟩
    simp only at ea eb hb
    subst ea eb
    obtain ⟨p', hp'⟩ : ∃ p, (allA T)[i]? = some p := ⟨(allA T)[i], List.getElem?_eq_getElem hi⟩
    have hm' : p' ∈ allA T := List.mem_of_getElem? hp'
    have hb' := bA.2 p' hm'
    have hme := r_measure hT hg hl hp' (by omega) hm' hb' x y
    have hin : ¬ (nI i < 0 ∨ 40320 ≤ (nI i).toNatClampNeg) := by
      rw [nI_cl (by omega)]
      exact fun q => q.elim (nI_pos (by omega)) (by omega)
    rcases hb with ⟨i0, e1⟩ | ⟨m, p, hmi, e1, e2, hp, hall⟩
    · subst i0 e1
      refine ⟨.inl (nI 0, msO T p' x y, nI 1, a4), ?_, rfl, rfl, Or.inr ⟨0, p', by omega, rfl, rfl, hp', fun k q hk hq => ?_⟩⟩
      · simp only [f_X12_firstBy_L12, f_X12_firstBy_L12_J68]
        rw [hl.1, if_neg (show ¬ nI (allA T).length ≤ nI 0 from nI_ge hi (by omega)), bnd hme, if_pos trivial]
        rfl
      · have : k = 0 := by omega
        rw [this] at hq
        rw [hp'] at hq
        cases hq
        omega
    · subst e1 e2
      have hm := List.mem_of_getElem? hp
      have hpb := bA.2 p hm
      have hinm : ¬ (nI m < 0 ∨ 40320 ≤ (nI m).toNatClampNeg) := by
        rw [nI_cl (by omega)]
        exact fun q => q.elim (nI_pos (by omega)) (by omega)
      have new : ((msO T p' x y).toInt < (msO T p x y).toInt ∨ ((msO T p' x y).toInt = (msO T p x y).toInt ∧ p'.2 < p.2)) → ∀ k q, k < i + 1 → (allA T)[k]? = some q → (msO T p' x y).toInt < (msO T q x y).toInt ∨ ((msO T p' x y).toInt = (msO T q x y).toInt ∧ (p'.2 < q.2 ∨ (p'.2 = q.2 ∧ i ≤ k))) := by
        intro hlt k q hk hq
        by_cases z : k = i
        · rw [z, hp'] at hq
          cases hq
          omega
        · have := hall k q (by omega) hq
          omega
      have old : ¬ ((msO T p' x y).toInt < (msO T p x y).toInt ∨ ((msO T p' x y).toInt = (msO T p x y).toInt ∧ p'.2 < p.2)) → ∀ k q, k < i + 1 → (allA T)[k]? = some q → (msO T p x y).toInt < (msO T q x y).toInt ∨ ((msO T p x y).toInt = (msO T q x y).toInt ∧ (p.2 < q.2 ∨ (p.2 = q.2 ∧ m ≤ k))) := by
        intro hlt k q hk hq
        by_cases z : k = i
        · rw [z, hp'] at hq
          cases hq
          omega
        · exact hall k q (by omega) hq
      have pre : f_X12_firstBy_L12 x y (nI m, msO T p x y, nI i, a4) = (if msO T p' x y < msO T p x y then some (.inl (nI i, msO T p' x y, nI (i + 1), a4)) else if msO T p' x y = msO T p x y then (if iI p.2 ≤ iI p'.2 then some (.inl (nI m, msO T p x y, nI (i + 1), a4)) else some (.inl (nI i, msO T p' x y, nI (i + 1), a4))) else some (.inl (nI m, msO T p x y, nI (i + 1), a4))) := by
        simp only [f_X12_firstBy_L12, f_X12_firstBy_L12_J68]
        rw [hl.1, if_neg (show ¬ nI (allA T).length ≤ nI i from nI_ge hi (by omega)), bnd hme, if_neg (hm1 m (by omega)), if_pos hin, if_pos hinm, nI_cl (show i < 2147483648 by omega), nI_cl (show m < 2147483648 by omega), nI_1]
        simp only []
        rw [(hl.2 m p hp).2, (hl.2 i p' hp').2]
      by_cases z1 : msO T p' x y < msO T p x y
      · have z1' := Int64.lt_iff_toInt_lt.mp z1
        rw [if_pos z1] at pre
        exact ⟨_, pre, rfl, rfl, Or.inr ⟨i, p', by omega, rfl, rfl, hp', new (Or.inl z1')⟩⟩
      · have z1' : ¬ (msO T p' x y).toInt < (msO T p x y).toInt := fun q => z1 (Int64.lt_iff_toInt_lt.mpr q)
        rw [if_neg z1] at pre
        by_cases z2 : msO T p' x y = msO T p x y
        · have z2' := congrArg Int64.toInt z2
          rw [if_pos z2] at pre
          by_cases z3 : p.2 ≤ p'.2
          · rw [if_pos (show iI p.2 ≤ iI p'.2 from of_eq_true (iI_le_T z3 (by omega) (by omega)))] at pre
            exact ⟨_, pre, rfl, rfl, Or.inr ⟨m, p, by omega, rfl, rfl, hp, old (by omega)⟩⟩
          · rw [if_neg (show ¬ iI p.2 ≤ iI p'.2 from of_eq_false (iI_le_F (by omega) (by omega) (by omega)))] at pre
            exact ⟨_, pre, rfl, rfl, Or.inr ⟨i, p', by omega, rfl, rfl, hp', new (Or.inr ⟨z2', by omega⟩)⟩⟩
        · have z2' : ¬ (msO T p' x y).toInt = (msO T p x y).toInt := fun q => z2 (Int64.toInt_inj.mp q)
          rw [if_neg z2] at pre
          exact ⟨_, pre, rfl, rfl, Or.inr ⟨m, p, by omega, rfl, rfl, hp, old (by omega)⟩⟩
  · rintro ⟨a1, a2, a3, a4⟩ ⟨ea, eb, hb⟩
    simp only at ea eb hb
    subst ea eb
    refine ⟨.inr (a1, a4), ?_, rfl, ?_⟩
    · simp only [f_X12_firstBy_L12]
      rw [hl.1, if_pos (nI_le (Nat.le_refl _) (by omega))]
    · rcases hb with ⟨i0, e1⟩ | ⟨m, p, hmi, e1, e2, hp, hall⟩
      · exact Or.inl ⟨List.eq_nil_of_length_eq_zero i0, e1⟩
      · refine Or.inr ⟨m, p, e1, by omega, hp, List.mem_of_getElem? hp, fun q hq => ?_⟩
        obtain ⟨k, hk⟩ := List.mem_iff_getElem?.mp hq
        have hkl : k < (allA T).length := (List.getElem?_eq_some_iff.mp hk).1
        have := hall k q hkl hk
        have hk' : (ex T.2.2 T.1 0 0)[k]? = some q := hk
        have hp2 : (ex T.2.2 T.1 0 0)[m]? = some p := hp
        have hco := (ex_inj hp2 hk').1
        by_cases z : m = k
        · rw [z, hk'] at hp2
          cases hp2
          exact Or.inr ⟨rfl, Or.inr ⟨rfl, Nat.le_refl _⟩⟩
        · simp only
          have : m < k → cod p.1 < cod q.1 := hco
          omega
