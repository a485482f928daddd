/-! apart, often -/
def apD (p q : asg) : Nat → Int32
  | 0 => 0
  | i + 1 => if nI (p.1.getD i 0) = nI (q.1.getD i 0) then apD p q i else apD p q i + 1
theorem getD_s {r : List Nat} {i j : Nat} (h : r[i]? = some j) : r.getD i 0 = j := by
  rw [List.getD_eq_getElem?_getD, h]; rfl
theorem stp_30 : st_ok_30 Rel := by
  intro x y s ⟨A, hok, hc, hr⟩
  have bA : lbd (allA A.1) := all_bd hok.1
  have h40 := bA.1
  have h7 := hok.1.1
  rcases ix_R x with hx | ⟨k, hk, rfl⟩
  · refine ⟨(-2, s), (-2, s), ?_, ?_, rfl, A, hok, hc, hr⟩
    · unfold f_X11_apart
      rw [bnd (cR_out hx s), if_pos rfl]
    · unfold f_X12_apart
      rw [bnd (isR_out hx s), if_pos rfl]
  rcases ix_R y with hy | ⟨l, hl2, rfl⟩
  · refine ⟨(-2, s), (-2, s), ?_, ?_, rfl, A, hok, hc, hr⟩
    · unfold f_X11_apart
      rw [bnd (cR_in hk s), if_neg n1_0, bnd (cR_out hy s), if_pos rfl]
    · unfold f_X12_apart
      rw [bnd (isR_in hk s), if_neg n1_0, bnd (isR_out hy s), if_pos rfl]
  have hv : ∃ v : Int32, ((f200 A.1)[k]? = none ∧ v = -1) ∨ (∃ p, (f200 A.1)[k]? = some p ∧ (((f200 A.1)[l]? = none ∧ v = -1) ∨ ∃ q, (f200 A.1)[l]? = some q ∧ v = apD p q A.1.1)) := by
    cases h1 : (f200 A.1)[k]? with
    | none => exact ⟨_, Or.inl ⟨rfl, rfl⟩⟩
    | some p =>
      cases h2 : (f200 A.1)[l]? with
      | none => exact ⟨_, Or.inr ⟨p, rfl, Or.inl ⟨rfl, rfl⟩⟩⟩
      | some q => exact ⟨_, Or.inr ⟨p, rfl, Or.inr ⟨q, rfl, rfl⟩⟩⟩
  obtain ⟨v, hv⟩ := hv
  refine st_o (f1 := f_X11_apart (nI k) (nI l)) (f2 := f_X12_apart (nI k) (nI l)) v hok hc hr (fun hc => ?_) (lo_X11_apart _ _) (cO_X11_apart _ _) (fun s1 hr1 => ?_) (hi_X12_apart _ _) (rF_X12_apart _ _)
  · unfold f_X11_apart
    obtain ⟨r, e, h1, h2⟩ := c_lay (ra := 56) hok hc (Or.inl rfl) hk
    rw [bnd (cR_in hk s), if_neg n1_0, bnd (cR_in hl2 s), if_neg n1_0, bnd e]
    rcases h1 with ⟨r0, hn⟩ | ⟨r1, p, hp, hrow⟩
    · rw [r0, if_pos rfl]
      rcases hv with ⟨_, rfl⟩ | ⟨p', hp', _⟩
      · exact ⟨_, rfl, rfl, h2.2.2.1⟩
      · rw [hn] at hp'; cases hp'
    rw [r1, if_neg n1_0]
    obtain ⟨t, e2, h3, h4⟩ := c_lay (ra := 57) hok h2 (Or.inr rfl) hl2
    have hx := fr_f_X4_lay 57 (nI l) r.2 rfl e2
    have hkeep : ∀ i, rA t.2 56 i = rA r.2 56 i := fun i => hx.2.2.1 56 i (by simp)
    rw [bnd e2]
    rcases hv with ⟨hn, _⟩ | ⟨p', hp', hd⟩
    · rw [hn] at hp; cases hp
    rw [hp] at hp'; cases hp'
    rcases h3 with ⟨t0, hn⟩ | ⟨t1, q, hq, hrow2⟩
    · rw [t0, if_pos rfl]
      rcases hd with ⟨_, rfl⟩ | ⟨q', hq', _⟩
      · exact ⟨_, rfl, rfl, h4.2.2.1⟩
      · rw [hn] at hq'; cases hq'
    rw [t1, if_neg n1_0]
    rcases hd with ⟨hn, _⟩ | ⟨q', hq', rfl⟩
    · rw [hn] at hq; cases hq
    rw [hq] at hq'; cases hq'
    have hL : whT f_X11_apart_L54 (0, 0, t.2) = some (apD p q A.1.1, t.2) := by
      refine wh_for (fun i => (apD p q i, nI i, t.2)) A.1.1 (fun i hi => ?_) ?_ rfl
      · have hin : ¬ (nI i < 0 ∨ 7 ≤ (nI i).toNatClampNeg) := by
          rw [nI_cl (by omega)]
          exact fun q => q.elim (nI_pos (by omega)) (by omega)
        obtain ⟨j1, hj1⟩ := row_get (all_row (f200_mem hp)).1 hi
        obtain ⟨j2, hj2⟩ := row_get (all_row (f200_mem hq)).1 hi
        simp only [f_X11_apart_L54, h4.1.1]
        rw [if_neg (show ¬ nI A.1.1 ≤ nI i from nI_ge hi (by omega)), if_pos hin, if_pos hin, nI_cl (by omega), hkeep, hrow i j1 hj1, hrow2 i j2 hj2]
        simp only [apD]
        rw [getD_s hj1, getD_s hj2]
        by_cases z : nI j1 = nI j2
        · rw [if_pos z, if_pos z, nI_1]
        · rw [if_neg z, if_neg z, nI_1]
      · simp only [f_X11_apart_L54, h4.1.1]
        rw [if_pos (nI_le (Nat.le_refl _) (by omega))]
    rw [bnd hL]
    exact ⟨_, rfl, rfl, h4.2.2.1⟩
  · obtain ⟨s2, e2, hl, ht, hf⟩ := r_first hok hr1
    unfold f_X12_apart
    rw [bnd (isR_in hk s1), if_neg n1_0, bnd (isR_in hl2 s1), if_neg n1_0, bnd e2]
    rcases hv with ⟨hn, rfl⟩ | ⟨p, hp, hd⟩
    · rw [bnd (isT_0 hf hk hn), if_pos rfl]
      exact ⟨_, rfl, rfl⟩
    rw [bnd (isT_1 hf hk hp), if_neg n1_0]
    rcases hd with ⟨hn, rfl⟩ | ⟨q, hq, rfl⟩
    · rw [bnd (isT_0 hf hl2 hn), if_pos rfl]
      exact ⟨_, rfl, rfl⟩
    rw [bnd (isT_1 hf hl2 hq), if_neg n1_0]
    obtain ⟨m, hm, hmp, hmr⟩ := hf.2 k p hp
    obtain ⟨m2, hm2, hmp2, hmr2⟩ := hf.2 l q hq
    have hL : whT (f_X12_apart_L44 (nI k) (nI l)) (0, 0, s2) = some (apD p q A.1.1, s2) := by
      refine wh_for (fun i => (apD p q i, nI i, s2)) A.1.1 (fun i hi => ?_) ?_ rfl
      · have hin1 : ¬ (nI k < 0 ∨ 200 ≤ (nI k).toNatClampNeg) := by
          rw [nI_cl (by omega)]
          exact fun q => q.elim (nI_pos (by omega)) (by omega)
        have hin2 : ¬ (nI l < 0 ∨ 200 ≤ (nI l).toNatClampNeg) := by
          rw [nI_cl (by omega)]
          exact fun q => q.elim (nI_pos (by omega)) (by omega)
        have rp := all_row (f200_mem hp)
        have rq := all_row (f200_mem hq)
        obtain ⟨j1, hj1⟩ := row_get rp.1 hi
        obtain ⟨j2, hj2⟩ := row_get rq.1 hi
        simp only [f_X12_apart_L44, f_X12_apart_L44_J86]
        rw [bnd (f_wk ht), if_neg (show ¬ nI A.1.1 ≤ nI i from nI_ge hi (by omega)), if_pos hin1, nI_cl (show k < 2147483648 by omega), hmr, bnd (r_job hok.1 ht hl hmp (by omega) rp.1 rp.2 hj1), if_pos hin2, nI_cl (show l < 2147483648 by omega), hmr2, bnd (r_job hok.1 ht hl hmp2 (by omega) rq.1 rq.2 hj2)]
        simp only [apD]
        rw [getD_s hj1, getD_s hj2]
        by_cases z : nI j1 = nI j2
        · rw [if_pos z, if_pos z, nI_1, Int32.add_zero]
        · rw [if_neg z, if_neg z, nI_1]
      · simp only [f_X12_apart_L44]
        rw [bnd (f_wk ht), if_pos (nI_le (Nat.le_refl _) (by omega))]
    rw [bnd hL]
    exact ⟨_, rfl, rfl⟩
/-! often -/
def ofD (Q : List asg) (w j : Nat) : Nat → Int32
  | 0 => 0
  | i + 1 => if (Q[i]?).map (fun p => p.1.getD w 0) = some j then ofD Q w j i + 1 else ofD Q w j i
theorem in_200 (x : Int32) (s : sx_M) : ((x < 1 ∨ 200 < x) ∧ f_X12_in x.toInt64 1 200 s = some (0, s)) ∨ (∃ n, 1 ≤ n ∧ n ≤ 200 ∧ x = nI n ∧ f_X12_in x.toInt64 1 200 s = some (1, s)) := by
  unfold f_X12_in
  rw [show (1 : Int64) = (1 : Int32).toInt64 by decide, show (200 : Int64) = (200 : Int32).toInt64 by decide]
  by_cases h1 : x < 1
  · exact Or.inl ⟨Or.inl h1, if_pos ((i64_lt x 1).mpr h1)⟩
  · rw [if_neg (fun q => h1 ((i64_lt x 1).mp q))]
    by_cases h2 : (200 : Int32) < x
    · exact Or.inl ⟨Or.inr h2, if_pos ((i64_lt 200 x).mpr h2)⟩
    · refine Or.inr ?_
      rw [if_neg (fun q => h2 ((i64_lt 200 x).mp q))]
      rw [Int32.lt_iff_toInt_lt, show (1 : Int32).toInt = 1 by decide] at h1
      rw [Int32.lt_iff_toInt_lt, show (200 : Int32).toInt = 200 by decide] at h2
      refine ⟨x.toInt.toNat, by omega, by omega, ?_, rfl⟩
      apply Int32.toInt_inj.mp
      rw [nI_toInt (by omega)]
      omega
theorem cod_dg {T : tb} (hT : tb_ok T) {p : asg} (hp : p ∈ allA T) {w j : Nat} (hw : p.1[w]? = some j) : nI (cod p.1) >>> ((3 : Int32) * (nI T.1 - (1 : Int32) - nI w) &&& 31) &&& (7 : Int32) = nI j := by
  have h7 := hT.1
  have hrow := (all_row hp).1
  have h8 := (all_row hp).2
  have hwl : w < p.1.length := (List.getElem?_eq_some_iff.mp hw).1
  have hlt := cod_lt p.1 h8
  rw [hrow] at hlt
  have h87 := le87 h7
  have hd := cod_dig p.1 w j h8 hw
  rw [show (1 : Int32) = nI 1 from rfl, show (3 : Int32) = nI 3 from rfl, nI_sb (by omega), nI_sb (by omega), pk_mul, nI_shr (by omega) (by omega), p8, pk_andN (Nat.lt_of_le_of_lt (Nat.div_le_self _ _) (by omega)) 3 (by decide), ← hrow]
  congr 1
