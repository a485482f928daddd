/-! ever, stays -/
theorem low_has {T : tb} {w j : Nat} {lo : Int} (hlow : lowL (allA T) = some lo) : lowL ((allA T).filter (hasJ w j true)) = some lo ↔ ∃ p, p ∈ allA T ∧ p.2 = lo ∧ p.1[w]? = some j := by
  have hh : ∀ p : asg, hasJ w j true p = true ↔ p.1[w]? = some j := by
    intro p
    unfold hasJ
    cases h : (p.1[w]? == some j) with
    | true => simp; simpa using h
    | false => simp; intro q; rw [q] at h; simp at h
  rw [lowL_some]
  constructor
  · rintro ⟨⟨p, hp, hv⟩, _⟩
    obtain ⟨h1, h2⟩ := List.mem_filter.mp hp
    exact ⟨p, h1, hv, (hh p).mp h2⟩
  · rintro ⟨p, h1, h2, h3⟩
    refine ⟨⟨p, List.mem_filter.mpr ⟨h1, (hh p).mpr h3⟩, h2⟩, fun q hq => ?_⟩
    exact (lowL_some.mp hlow).2 q (List.mem_filter.mp hq).1
theorem or_tb (R j b : Nat) : (R ||| 2 ^ j).testBit b = (R.testBit b || decide (j = b)) := by
  rw [Nat.testBit_or, Nat.testBit_two_pow]
theorem cH_some {L : List asg} (hb : lbd L) {lo : Int} (h1 : -10000000 ≤ lo) (h2 : lo ≤ 10000000) : (cH (lowL L) = jJ lo) ↔ lowL L = some lo := by
  cases hl : lowL L with
  | none =>
    constructor
    · intro q
      rw [cH_n, jJ_ns] at q
      rw [jJ_eq (by omega) (by omega) (by omega) (by omega)] at q
      omega
    · intro q; cases q
  | some x =>
    obtain ⟨⟨p, hp, rfl⟩, _⟩ := lowL_some.mp hl
    have := hb.2 p hp
    rw [cH_s, jJ_eq (by omega) (by omega) (by omega) (by omega)]
    constructor
    · intro q; rw [q]
    · intro q; exact Option.some.inj q
theorem lbd_f {L : List asg} (h : lbd L) (P : asg → Bool) : lbd (L.filter P) :=
  ⟨Nat.le_trans (List.length_filter_le _ _) h.1, fun p hp => h.2 p (List.mem_filter.mp hp).1⟩
theorem row_J {T : tb} (hT : tb_ok T) {p : asg} (hp : p ∈ allA T) {w j : Nat} (hpj : p.1[w]? = some j) : j < T.2.1 := by
  have : okR (fun a b => decide (b < T.2.1)) 0 p.1 = true := by
    have e : cR (fun a b => decide (b < T.2.1)) T.2.2 = T.2.2 := by
      funext a b
      show (if decide (b < T.2.1) = true then T.2.2 a b else none) = _
      by_cases q : b < T.2.1
      · simp [q]
      · simp [q]; exact (hT.2.2.2 a b (by omega)).symm
    have h := ex_R (fun a b => decide (b < T.2.1)) T.2.2 T.1 0 0
    rw [e] at h
    have hm : p ∈ (ex T.2.2 T.1 0 0).filter (fun p => okR (fun a b => decide (b < T.2.1)) 0 p.1) := by rw [← h]; exact hp
    exact (List.mem_filter.mp hm).2
  have := (okR_iff p.1 0).mp this w j hpj
  simpa using this
theorem stp_15 : st_ok_15 Rel := by
  intro x s ⟨A, hok, hc, hr⟩
  have h7 := hok.1.1
  have h8 := hok.1.2.1
  have bA : lbd (allA A.1) := all_bd hok.1
  have h40 := bA.1
  rcases ix_W hok.1 x with hx | ⟨w, hw, rfl⟩
  · refine ⟨(-2, s), (-2, s), ?_, ?_, rfl, A, hok, hc, hr⟩
    · unfold f_X11_ever
      rw [hW_out hc.1 hx]; rfl
    · unfold f_X12_ever
      rw [f_isW_out hok.1 hr.1 hx]; rfl
  cases hlow : lowL (allA A.1) with
  | none =>
    have hnil := lowL_none.mp hlow
    refine st_q (f1 := f_X11_ever (nI w)) (f2 := f_X12_ever (nI w)) 0 hok hc hr (fun hc => ⟨(0, s), ?_, rfl⟩) (lo_X11_ever _) (cF_X11_ever _) (fun s1 hr1 => ?_) (hi_X12_ever _) (rF_X12_ever _)
    · have hL : whT (f_X11_ever_L28 (nI w) (-9223372036854775808)) (0, 0, s) = some (0, s) := by
        rw [whT_eq]
        simp only [f_X11_ever_L28, hc.1.2.1]
        by_cases q : nI A.1.2.1 ≤ 0
        · rw [if_pos q]; rfl
        · rw [if_neg q, if_pos trivial]; rfl
      unfold f_X11_ever
      rw [bnd (hW_in h7 hc.1 hw), if_neg n1_0, bnd (f_leastSum (tb_ok_wk hok.1) hc.2.1), hlow, cH_n]
      exact bnd hL _
    · obtain ⟨s2, e2, hl, ht, _⟩ := r_all hok hr1
      obtain ⟨b, e3, hB⟩ := r_least bA hl
      have hL : whT (f_X12_ever_L25 (nI w) (oI b)) (0, 0, s2) = some (0, s2) := by
        rw [whT_eq]
        simp only [f_X12_ever_L25, hl.1, hnil]
        rw [if_pos (show nI ([] : List asg).length ≤ 0 by decide)]; rfl
      refine ⟨(0, s2), ?_, rfl⟩
      unfold f_X12_ever
      rw [bnd (f_isW_in hok.1 hr1.1 hw), if_neg n1_0, bnd e2, bnd e3]
      exact bnd hL _
  | some lo =>
    have hlb : -10000000 ≤ lo ∧ lo ≤ 10000000 := by
      obtain ⟨⟨p, hp, rfl⟩, _⟩ := lowL_some.mp hlow
      exact bA.2 p hp
    have hcl : ∀ s, clA A s → Ev (f_X11_ever (nI w) s) (fun p => ∃ R, R < 256 ∧ p.1 = nI R ∧ ∀ j, R.testBit j = true ↔ ∃ p, p ∈ allA A.1 ∧ p.2 = lo ∧ p.1[w]? = some j) := by
      intro s hc
      have hL : Ev (whT (f_X11_ever_L28 (nI w) (jJ lo)) (0, 0, s)) (fun p => ∃ R, R < 256 ∧ p.1 = nI R ∧ ∀ j, R.testBit j = true ↔ ∃ p, p ∈ allA A.1 ∧ p.2 = lo ∧ p.1[w]? = some j) := by
        refine ev_f (fun i a => ∃ R, R < 256 ∧ a.1 = nI R ∧ a.2.1 = nI i ∧ clA A a.2.2 ∧ ∀ j, R.testBit j = true ↔ (j < i ∧ ∃ p, p ∈ allA A.1 ∧ p.2 = lo ∧ p.1[w]? = some j)) A.1.2.1 ?_ ?_ (i := 0) (by omega) ⟨0, by omega, rfl, rfl, hc, fun j => by simp⟩
        · rintro i ⟨a1, a2, s1⟩ hi ⟨R, hR, e1, e2, hc1, hbit⟩
          simp only at e1 e2 hc1
          subst e1 e2
          obtain ⟨p3, e3, v3, x3⟩ := c_forced hok hc1 hw hi
          have hne : ¬ jJ lo = (-9223372036854775808 : Int64) := of_eq_false (jns (by omega) (by omega))
          have bF := lbd_f bA (hasJ w i true)
          simp only [f_X11_ever_L28, hc1.1.2.1]
          rw [if_neg (nI_ge hi (by omega)), if_neg hne, bnd e3, v3]
          by_cases q : lowL ((allA A.1).filter (hasJ w i true)) = some lo
          · refine ⟨.inl (nI (R ||| 2 ^ i), nI (i + 1), p3.2), ?_, R ||| 2 ^ i, or_256 hR (by omega), rfl, rfl, d_cl x3 hc1, fun j => ?_⟩
            · rw [if_pos ((cH_some bF hlb.1 hlb.2).mpr q), nI_bit (by omega), nI_or, nI_1]
            · rw [or_tb]
              by_cases z : i = j
              · subst z
                simp only [decide_true, Bool.or_true, true_iff]
                exact ⟨by omega, (low_has hlow).mp q⟩
              · simp only [z, decide_false, Bool.or_false, hbit j]
                constructor
                · rintro ⟨h1, h2⟩; exact ⟨by omega, h2⟩
                · rintro ⟨h1, h2⟩; exact ⟨by omega, h2⟩
          · refine ⟨.inl (nI R, nI (i + 1), p3.2), ?_, R, hR, rfl, rfl, d_cl x3 hc1, fun j => ?_⟩
            · rw [if_neg (fun z => q ((cH_some bF hlb.1 hlb.2).mp z)), nI_1]
            · rw [hbit j]
              constructor
              · rintro ⟨h1, h2⟩; exact ⟨by omega, h2⟩
              · rintro ⟨h1, h2⟩
                have : j ≠ i := fun z => by rw [z] at h2; exact q ((low_has hlow).mpr h2)
                exact ⟨by omega, h2⟩
        · rintro ⟨a1, a2, s1⟩ ⟨R, hR, e1, e2, hc1, hbit⟩
          simp only at e1 e2 hc1
          subst e1 e2
          refine ⟨.inr (nI R, s1), ?_, R, hR, rfl, fun j => ?_⟩
          · simp only [f_X11_ever_L28, hc1.1.2.1]
            rw [if_pos (nI_le (Nat.le_refl _) (by omega))]
          · rw [hbit j]
            constructor
            · rintro ⟨h1, h2⟩; exact h2
            · intro h2
              have h3 := h2
              obtain ⟨p, hp, _, hpj⟩ := h3
              exact ⟨row_J hok.1 hp hpj, h2⟩
      obtain ⟨r, e, hr⟩ := hL
      refine ⟨(r.1, r.2), ?_, hr⟩
      unfold f_X11_ever
      rw [bnd (hW_in h7 hc.1 hw), if_neg n1_0, bnd (f_leastSum (tb_ok_wk hok.1) hc.2.1), hlow, cH_s]
      exact bnd e _
    have hrf : ∀ s1, rfA A s1 → Ev (f_X12_ever (nI w) s1) (fun p => ∃ R, R < 256 ∧ p.1 = nI R ∧ ∀ j, R.testBit j = true ↔ ∃ p, p ∈ allA A.1 ∧ p.2 = lo ∧ p.1[w]? = some j) := by
      intro s1 hr1
      obtain ⟨s2, e2, hl, ht, _⟩ := r_all hok hr1
      obtain ⟨b, e3, hB⟩ := r_least bA hl
      cases b with
      | none =>
        have := isB_none hB
        rw [List.filter_eq_self.mpr (fun _ _ => rfl), hlow] at this
        cases this
      | some k =>
        obtain ⟨pk, hpk, _, hlk, _⟩ := isB_some hB
        rw [List.filter_eq_self.mpr (fun _ _ => rfl), hlow] at hlk
        have hpk2 : pk.2 = lo := (Option.some.inj hlk).symm
        have hk : k < (allA A.1).length := (List.getElem?_eq_some_iff.mp hpk).1
        have hink : ¬ (nI k < 0 ∨ 40320 ≤ (nI k).toNatClampNeg) := by
          rw [nI_cl (by omega)]
          exact fun q => q.elim (nI_pos (by omega)) (by omega)
        have hL : Ev (whT (f_X12_ever_L25 (nI w) (nI k)) (0, 0, s2)) (fun p => ∃ R, R < 256 ∧ p.1 = nI R ∧ ∀ j, R.testBit j = true ↔ ∃ p, p ∈ allA A.1 ∧ p.2 = lo ∧ p.1[w]? = some j) := by
          refine ev_f (fun i a => ∃ R, R < 256 ∧ a = (nI R, nI i, s2) ∧ ∀ j, R.testBit j = true ↔ ∃ m p, m < i ∧ (allA A.1)[m]? = some p ∧ p.2 = lo ∧ p.1[w]? = some j) (allA A.1).length ?_ ?_ (i := 0) (by omega) ⟨0, by omega, rfl, fun j => by simp⟩
          · rintro i a hi ⟨R, hR, rfl, hbit⟩
            obtain ⟨p, hp⟩ : ∃ p, (allA A.1)[i]? = some p := ⟨(allA A.1)[i], List.getElem?_eq_getElem hi⟩
            have hpm := List.mem_of_getElem? hp
            obtain ⟨pj, hpj⟩ := row_get (all_row hpm).1 hw
            have hpj8 := (all_row hpm).2 pj (List.mem_of_getElem? hpj)
            have hjo := r_job hok.1 ht hl hp (by omega) (all_row hpm).1 (all_row hpm).2 hpj
            have hin : ¬ (nI i < 0 ∨ 40320 ≤ (nI i).toNatClampNeg) := by
              rw [nI_cl (by omega)]
              exact fun q => q.elim (nI_pos (by omega)) (by omega)
            have hpb := bA.2 p hpm
            simp only [f_X12_ever_L25, f_X12_ever_L25_J64, hl.1]
            rw [if_neg (nI_ge hi (by omega)), if_pos hin, if_pos hink, nI_cl (by omega), nI_cl (by omega), (hl.2 i p hp).2, (hl.2 k pk hpk).2, hpk2]
            by_cases q : p.2 = lo
            · refine ⟨.inl (nI (R ||| 2 ^ pj), nI (i + 1), s2), ?_, R ||| 2 ^ pj, or_256 hR hpj8, rfl, fun j => ?_⟩
              · rw [q, if_pos rfl, bnd hjo, nI_bit (by omega), nI_or, nI_1]
              · rw [or_tb]
                constructor
                · intro h
                  rcases Bool.or_eq_true_iff.mp h with h | h
                  · obtain ⟨m, p', hm, h1, h2, h3⟩ := (hbit j).mp h
                    exact ⟨m, p', by omega, h1, h2, h3⟩
                  · have : pj = j := by simpa using h
                    exact ⟨i, p, by omega, hp, q, by rw [← this]; exact hpj⟩
                · rintro ⟨m, p', hm, h1, h2, h3⟩
                  by_cases z : m = i
                  · rw [z, hp] at h1; cases h1
                    rw [hpj] at h3
                    simp [Option.some.inj h3]
                  · rw [(hbit j).mpr ⟨m, p', by omega, h1, h2, h3⟩]; rfl
            · refine ⟨.inl (nI R, nI (i + 1), s2), ?_, R, hR, rfl, fun j => ?_⟩
              · rw [if_neg (of_eq_false (iI_eq_F q (by omega) (by omega) (by omega) (by omega))), nI_or0, nI_1]
              · rw [hbit j]
                constructor
                · rintro ⟨m, p', hm, h⟩; exact ⟨m, p', by omega, h⟩
                · rintro ⟨m, p', hm, h1, h2, h3⟩
                  have : m ≠ i := fun z => by rw [z, hp] at h1; cases h1; exact q h2
                  exact ⟨m, p', by omega, h1, h2, h3⟩
          · rintro a ⟨R, hR, rfl, hbit⟩
            refine ⟨.inr (nI R, s2), ?_, R, hR, rfl, fun j => ?_⟩
            · simp only [f_X12_ever_L25, hl.1]
              rw [if_pos (nI_le (Nat.le_refl _) (by omega))]
            · rw [hbit j]
              constructor
              · rintro ⟨m, p', hm, h1, h2, h3⟩; exact ⟨p', List.mem_of_getElem? h1, h2, h3⟩
              · rintro ⟨p', h1, h2, h3⟩
                obtain ⟨m, hm⟩ := List.getElem?_of_mem h1
                exact ⟨m, p', (List.getElem?_eq_some_iff.mp hm).1, hm, h2, h3⟩
        obtain ⟨r, e, hr⟩ := hL
        refine ⟨(r.1, r.2), ?_, hr⟩
        unfold f_X12_ever
        rw [bnd (f_isW_in hok.1 hr1.1 hw), if_neg n1_0, bnd e2, bnd e3, oI_s]
        exact bnd e _
    obtain ⟨p0, e0, R, hR, v0, hbit⟩ := hcl s hc
    refine st_q (f1 := f_X11_ever (nI w)) (f2 := f_X12_ever (nI w)) (nI R) hok hc hr (fun hc => ⟨p0, e0, v0⟩) (lo_X11_ever _) (cF_X11_ever _) (fun s1 hr1 => ?_) (hi_X12_ever _) (rF_X12_ever _)
    obtain ⟨p1, e1, R1, _, v1, hbit1⟩ := hrf s1 hr1
    have : R1 = R := Nat.eq_of_testBit_eq (fun j => by rw [Bool.eq_iff_iff, hbit j, hbit1 j])
    exact ⟨p1, e1, v1.trans (by rw [this])⟩
/-! stays -/
theorem stp_13 : st_ok_13 Rel := by
  intro x y z s ⟨A, hok, hc, hr⟩
  have h7 := hok.1.1
  have h8 := hok.1.2.1
  have bA : lbd (allA A.1) := all_bd hok.1
  have h40 := bA.1
  rcases ix_W hok.1 x with hx | ⟨w, hw, rfl⟩
  · refine ⟨(-9223372036854775808, s), (-9223372036854775808, s), ?_, ?_, rfl, A, hok, hc, hr⟩
    · unfold f_X11_stays
      rw [f_has_out hc.1 (hx.elim Or.inl (fun q => Or.inr (Or.inl q)))]; rfl
    · unfold f_X12_stays
      rw [f_isW_out hok.1 hr.1 hx]; rfl
  rcases ix_J hok.1 y with hy | ⟨j, hj, rfl⟩
  · refine ⟨(-9223372036854775808, s), (-9223372036854775808, s), ?_, ?_, rfl, A, hok, hc, hr⟩
    · unfold f_X11_stays
      rw [f_has_out hc.1 (hy.elim (fun q => Or.inr (Or.inr (Or.inl q))) (fun q => Or.inr (Or.inr (Or.inr q))))]; rfl
    · unfold f_X12_stays
      rw [bnd (f_isW_in hok.1 hr.1 hw), if_neg n1_0, f_isJ_out hok.1 hr.1 hy]; rfl
  have hin : ¬ (nI w < 0 ∨ 7 ≤ (nI w).toNatClampNeg) := by
    rw [nI_cl (by omega)]
    exact fun q => q.elim (nI_pos (by omega)) (by omega)
  have hinz : (∀ s1, f_X12_in z.toInt64 0 1 s1 = some (0, s1)) ∧ z ≠ 0 ∧ z ≠ 1 ∨ (∀ s1, f_X12_in z.toInt64 0 1 s1 = some (1, s1)) ∧ (z = 0 ∨ z = 1) := by
    rcases ic_kind z with rfl | rfl | ⟨h0, h1, h2⟩
    · exact Or.inr ⟨in_0, Or.inl rfl⟩
    · exact Or.inr ⟨in_1, Or.inr rfl⟩
    · exact Or.inl ⟨h2, h0, h1⟩
  -- what both answer
  have key : ∃ v : Int64, (∀ s, clA A s → Ev (f_X11_stays (nI w) (nI j) z s) (fun p => p.1 = v)) ∧ ∀ s1, rfA A s1 → Ev (f_X12_stays (nI w) (nI j) z s1) (fun p => p.1 = v) := by
    cases hcost : A.1.2.2 w j with
    | none =>
      refine ⟨-9223372036854775808, fun s hc => ⟨(-9223372036854775808, s), ?_, rfl⟩, fun s1 hr1 => ⟨(-9223372036854775808, s1), ?_, rfl⟩⟩
      · unfold f_X11_stays
        rw [bnd (f_has_in hok.1 hc.1 hw hj), if_neg n1_0, bnd (at_F h7 h8 hc.1 hw hj), if_pos (show c64 (A.1.2.2 w j) = 9223372036854775807 by rw [hcost]; rfl)]
      · unfold f_X12_stays
        rw [bnd (f_isW_in hok.1 hr1.1 hw), if_neg n1_0, bnd (f_isJ_in hok.1 hr1.1 hj), if_neg n1_0]
        rcases hinz with ⟨h, _⟩ | ⟨h, _⟩
        · rw [bnd (h s1), if_pos rfl]
        · rw [bnd (h s1), if_neg n1_0, bnd (f_cost_in hok.1 hr1.1 hw hj), if_pos (show c32 (A.1.2.2 w j) = 2147483647 by rw [hcost]; rfl)]
    | some c =>
      have hcb := hok.1.2.2.1 _ _ c hcost
      have cne : ¬ c64 (A.1.2.2 w j) = 9223372036854775807 := by rw [hcost, c64_s]; exact of_eq_false (jnv (by omega) (by omega))
      have cne2 : ¬ c32 (A.1.2.2 w j) = 2147483647 := by rw [hcost, c32_s]; exact of_eq_false (inv_F (by omega) (by omega))
      have cpre : ∀ s, clA A s → f_X11_stays (nI w) (nI j) z s = (f_X5_findFirst 3 56 s).bind (fun p7 => (if p7.1 = 0 then some ((-9223372036854775808 : Int64), p7.2) else (if ¬ (nI w < 0 ∨ 7 ≤ (nI w).toNatClampNeg) then (if (rA p7.2 56 (nI w).toNatClampNeg) = nI j then f_X11_stays_J61 (nI w) (nI j) z (1 : Int32) p7.2 else f_X11_stays_J61 (nI w) (nI j) z (0 : Int32) p7.2) else none))) := by
        intro s hc
        unfold f_X11_stays
        rw [bnd (f_has_in hok.1 hc.1 hw hj), if_neg n1_0, bnd (at_F h7 h8 hc.1 hw hj), if_neg cne]
      cases hlow : lowL (allA A.1) with
      | none =>
        have hnil := lowL_none.mp hlow
        refine ⟨-9223372036854775808, fun s hc => ⟨(-9223372036854775808, s), ?_, rfl⟩, fun s1 hr1 => ?_⟩
        · rw [cpre s hc, bnd (ff_0 hc.2.1 hnil)]; rfl
        · obtain ⟨s2, e2, hl, ht, _⟩ := r_all hok hr1
          obtain ⟨b, e3, hB⟩ := r_least bA hl
          have : b = none := by
            cases b with
            | none => rfl
            | some k =>
              obtain ⟨p, _, hp, _⟩ := hB
              rw [hnil] at hp; simp at hp
          subst this
          rcases hinz with ⟨h, _⟩ | ⟨h, _⟩
          · refine ⟨(-9223372036854775808, s1), ?_, rfl⟩
            unfold f_X12_stays
            rw [bnd (f_isW_in hok.1 hr1.1 hw), if_neg n1_0, bnd (f_isJ_in hok.1 hr1.1 hj), if_neg n1_0, bnd (h s1), if_pos rfl]
          · refine ⟨(-9223372036854775808, s2), ?_, rfl⟩
            unfold f_X12_stays
            rw [bnd (f_isW_in hok.1 hr1.1 hw), if_neg n1_0, bnd (f_isJ_in hok.1 hr1.1 hj), if_neg n1_0, bnd (h s1), if_neg n1_0, bnd (f_cost_in hok.1 hr1.1 hw hj), if_neg cne2, bnd e2, bnd e3, if_pos (show oI none = -1 from rfl)]
      | some lo =>
        obtain ⟨p, hp, hpm, hpl⟩ := fmin_some hlow
        have hlb := bA.2 p hpm
        obtain ⟨pj, hpj⟩ := row_get (all_row hpm).1 hw
        have hpj8 := (all_row hpm).2 pj (List.mem_of_getElem? hpj)
        have hcl : ∀ s, clA A s → ∃ s1, clA A s1 ∧ f_X11_stays (nI w) (nI j) z s = if pj = j then f_X11_stays_J61 (nI w) (nI j) z 1 s1 else f_X11_stays_J61 (nI w) (nI j) z 0 s1 := by
          intro s hc
          obtain ⟨r0, e0, v0, row0, x0⟩ := ff_1 (ra := 56) (tb_ok_wk hok.1) hc.1 hc.2.1 (by omega) hp
          refine ⟨r0.2, cl_F x0 (fun q => sx_mono q (fun o k z => z.elim) (fun _ _ _ => trivial) (fun o z => by simp only [Dar, clF] at z ⊢; omega) (fun o z => z.elim)) hc, ?_⟩
          rw [cpre s hc, bnd e0, v0, if_neg n1_0, if_pos hin, nI_cl (by omega), row0 w pj hpj]
          by_cases q : pj = j
          · rw [if_pos (by rw [q]), if_pos q]
          · rw [if_neg (of_eq_false (nI_eq_F q (by omega) (by omega))), if_neg q]
        have hrf : ∀ s1, rfA A s1 → (z = 0 ∨ z = 1) → ∃ s2 k, k < 40320 ∧ lst (allA A.1) s2 ∧ tabIs 59 0 A.1 s2 ∧ rA s2 64 k = iI lo ∧ f_X12_stays (nI w) (nI j) z s1 = if pj = j then f_X12_stays_J77 (nI w) (nI j) z (nI k) 1 s2 else f_X12_stays_J77 (nI w) (nI j) z (nI k) 0 s2 := by
          intro s1 hr1 hz
          obtain ⟨s2, e2, hl, ht, _⟩ := r_all hok hr1
          obtain ⟨b, e3, hB⟩ := r_least bA hl
          cases b with
          | none =>
            have := isB_none hB
            rw [List.filter_eq_self.mpr (fun _ _ => rfl), hlow] at this
            cases this
          | some k =>
            obtain ⟨pk, hpk, _, _, hfm⟩ := isB_some hB
            have : pk = p := by
              have := hfm rfl
              rw [hp] at this
              exact (Option.some.inj this).symm
            subst this
            have hk : k < (allA A.1).length := (List.getElem?_eq_some_iff.mp hpk).1
            have hjo := r_job hok.1 ht hl hpk (by omega) (all_row hpm).1 (all_row hpm).2 hpj
            have hi : f_X12_in z.toInt64 0 1 s1 = some (1, s1) := by
              rcases hinz with ⟨_, h0, h1⟩ | ⟨h, _⟩
              · exact absurd hz (fun q => q.elim h0 h1)
              · exact h s1
            refine ⟨s2, k, by omega, hl, ht, by rw [(hl.2 k pk hpk).2, hpl], ?_⟩
            unfold f_X12_stays
            rw [bnd (f_isW_in hok.1 hr1.1 hw), if_neg n1_0, bnd (f_isJ_in hok.1 hr1.1 hj), if_neg n1_0, bnd hi, if_neg n1_0, bnd (f_cost_in hok.1 hr1.1 hw hj), if_neg cne2, bnd e2, bnd e3, if_neg (show ¬ oI (some k) = -1 from of_eq_false (nI_m_F (a := k) (by omega))), oI_s, bnd hjo]
            by_cases q : pj = j
            · rw [if_pos (by rw [q]), if_pos q]
            · rw [if_neg (of_eq_false (nI_eq_F q (by omega) (by omega))), if_neg q]
        -- b: whether it is taken
        have fin : ∀ (b : Bool), (decide (pj = j) = b) → ∃ v : Int64, (∀ s, clA A s → Ev (f_X11_stays (nI w) (nI j) z s) (fun p => p.1 = v)) ∧ ∀ s1, rfA A s1 → Ev (f_X12_stays (nI w) (nI j) z s1) (fun p => p.1 = v) := by
          intro b hb
          by_cases hz : z = nI (if b then 1 else 0)
          · have hz01 : z = 0 ∨ z = 1 := by cases b <;> simp at hz <;> rw [hz] <;> decide
            have bF := lbd_f bA (hasJ w j (!b))
            cases hlf : lowL ((allA A.1).filter (hasJ w j (!b))) with
            | none =>
              refine ⟨-9223372036854775808, fun s hc => ?_, fun s1 hr1 => ?_⟩
              · obtain ⟨s1, c1, e1⟩ := hcl s hc
                cases b with
                | true =>
                  obtain ⟨p3, e3, v3, x3⟩ := c_without hok c1 hw hj
                  rw [show hasJ w j false = hasJ w j (!true) from rfl, hlf, cH_n] at v3
                  refine ⟨(-9223372036854775808, p3.2), ?_, rfl⟩
                  rw [e1, if_pos (by simpa using hb)]
                  unfold f_X11_stays_J61 f_X11_stays_J74 f_X11_stays_J101
                  rw [if_neg n1_0, if_pos (by rw [hz]; rfl), if_neg n1_0, bnd e3, if_pos v3]
                | false =>
                  obtain ⟨p3, e3, v3, x3⟩ := c_forced hok c1 hw hj
                  rw [show hasJ w j true = hasJ w j (!false) from rfl, hlf, cH_n] at v3
                  refine ⟨(-9223372036854775808, p3.2), ?_, rfl⟩
                  rw [e1, if_neg (by simpa using hb)]
                  unfold f_X11_stays_J61 f_X11_stays_J74 f_X11_stays_J101
                  rw [if_pos rfl, if_pos (by rw [hz]; rfl), if_pos rfl, bnd e3, if_pos v3]
              · obtain ⟨s2, k, hk, hl, ht, hsk, e1⟩ := hrf s1 hr1 hz01
                have hlb := r_leastBy hok.1 ht hl hw hj (!b)
                rw [hlf, cH_n] at hlb
                refine ⟨(-9223372036854775808, s2), ?_, rfl⟩
                cases b with
                | true =>
                  rw [e1, if_pos (by simpa using hb)]
                  unfold f_X12_stays_J77 f_X12_stays_J90 f_X12_stays_J110
                  have hlb' : f_X12_leastBy (nI w) (nI j) 0 s2 = some (-9223372036854775808, s2) := hlb
                  rw [if_neg (show ¬ z = 0 by rw [hz]; exact n1_0), if_neg n1_0, if_neg n1_0, bnd hlb', if_pos rfl]
                | false =>
                  rw [e1, if_neg (by simpa using hb)]
                  unfold f_X12_stays_J77 f_X12_stays_J90 f_X12_stays_J110
                  have hlb' : f_X12_leastBy (nI w) (nI j) 1 s2 = some (-9223372036854775808, s2) := hlb
                  rw [if_pos (show z = 0 by rw [hz]; rfl), if_neg (fun q => n1_0 q.symm), if_pos rfl, bnd hlb', if_pos rfl]
            | some r =>
              have hrb : -10000000 ≤ r ∧ r ≤ 10000000 := by
                obtain ⟨⟨q, hq, rfl⟩, _⟩ := lowL_some.mp hlf
                exact bF.2 q hq
              have hne : ¬ jJ r = (-9223372036854775808 : Int64) := of_eq_false (jns (by omega) (by omega))
              refine ⟨jJ (if b then c + (r - lo) else c - (r - lo)), fun s hc => ?_, fun s1 hr1 => ?_⟩
              · obtain ⟨s1, c1, e1⟩ := hcl s hc
                cases b with
                | true =>
                  obtain ⟨p3, e3, v3, x3⟩ := c_without hok c1 hw hj
                  rw [show hasJ w j false = hasJ w j (!true) from rfl, hlf, cH_s] at v3
                  have c3 := d_cl x3 c1
                  refine ⟨(jJ (c + (r - lo)), p3.2), ?_, rfl⟩
                  rw [e1, if_pos (by simpa using hb)]
                  unfold f_X11_stays_J61 f_X11_stays_J74 f_X11_stays_J101
                  rw [if_neg n1_0, if_pos (by rw [hz]; rfl), if_neg n1_0, bnd e3, v3, if_neg hne, bnd (f_leastSum (tb_ok_wk hok.1) c3.2.1), bnd (at_F h7 h8 c3.1 hw hj), if_neg n1_0, hlow, hcost, cH_s, c64_s, jJ_sub, jJ_add]
                | false =>
                  obtain ⟨p3, e3, v3, x3⟩ := c_forced hok c1 hw hj
                  rw [show hasJ w j true = hasJ w j (!false) from rfl, hlf, cH_s] at v3
                  have c3 := d_cl x3 c1
                  refine ⟨(jJ (c - (r - lo)), p3.2), ?_, rfl⟩
                  rw [e1, if_neg (by simpa using hb)]
                  unfold f_X11_stays_J61 f_X11_stays_J74 f_X11_stays_J101
                  rw [if_pos rfl, if_pos (by rw [hz]; rfl), if_pos rfl, bnd e3, v3, if_neg hne, bnd (f_leastSum (tb_ok_wk hok.1) c3.2.1), bnd (at_F h7 h8 c3.1 hw hj), if_pos rfl, hlow, hcost, cH_s, c64_s, jJ_sub, jJ_neg, jJ_add]
                  congr 2
              · obtain ⟨s2, k, hk, hl, ht, hsk, e1⟩ := hrf s1 hr1 hz01
                have hlb2 := r_leastBy hok.1 ht hl hw hj (!b)
                rw [hlf, cH_s] at hlb2
                have hink : ¬ (nI k < 0 ∨ 40320 ≤ (nI k).toNatClampNeg) := by
                  rw [nI_cl (by omega)]
                  exact fun q => q.elim (nI_pos (by omega)) (by omega)
                cases b with
                | true =>
                  refine ⟨(jJ (c + (r - lo)), s2), ?_, rfl⟩
                  rw [e1, if_pos (by simpa using hb)]
                  unfold f_X12_stays_J77 f_X12_stays_J90 f_X12_stays_J110
                  have hlb' : f_X12_leastBy (nI w) (nI j) 0 s2 = some (jJ r, s2) := hlb2
                  rw [if_neg (show ¬ z = 0 by rw [hz]; exact n1_0), if_neg n1_0, if_neg n1_0, bnd hlb', if_neg hne, if_pos hink, if_neg n1_0, bnd (f_cost_in hok.1 ht hw hj), nI_cl (by omega), hsk, hcost, c32_s, iI_64 (by omega) (by omega), iI_64 (by omega) (by omega), jJ_sub, jJ_add]
                | false =>
                  refine ⟨(jJ (c - (r - lo)), s2), ?_, rfl⟩
                  rw [e1, if_neg (by simpa using hb)]
                  unfold f_X12_stays_J77 f_X12_stays_J90 f_X12_stays_J110
                  have hlb' : f_X12_leastBy (nI w) (nI j) 1 s2 = some (jJ r, s2) := hlb2
                  rw [if_pos (show z = 0 by rw [hz]; rfl), if_neg (fun q => n1_0 q.symm), if_pos rfl, bnd hlb', if_neg hne, if_pos hink, if_pos rfl, bnd (f_cost_in hok.1 ht hw hj), nI_cl (by omega), hsk, hcost, c32_s, iI_64 (by omega) (by omega), iI_64 (by omega) (by omega), jJ_sub, jJ_sub]
          · refine ⟨-9223372036854775808, fun s hc => ?_, fun s1 hr1 => ?_⟩
            · obtain ⟨s1, c1, e1⟩ := hcl s hc
              refine ⟨(-9223372036854775808, s1), ?_, rfl⟩
              cases b with
              | true =>
                rw [e1, if_pos (by simpa using hb)]
                unfold f_X11_stays_J61 f_X11_stays_J74
                rw [if_neg n1_0, if_neg (fun q => hz (by rw [q]; rfl))]
              | false =>
                rw [e1, if_neg (by simpa using hb)]
                unfold f_X11_stays_J61 f_X11_stays_J74
                rw [if_pos rfl, if_neg (fun q => hz (by rw [q]; rfl))]
            · rcases hinz with ⟨h, _⟩ | ⟨h, hz01⟩
              · refine ⟨(-9223372036854775808, s1), ?_, rfl⟩
                unfold f_X12_stays
                rw [bnd (f_isW_in hok.1 hr1.1 hw), if_neg n1_0, bnd (f_isJ_in hok.1 hr1.1 hj), if_neg n1_0, bnd (h s1), if_pos rfl]
              · obtain ⟨s2, k, hk, hl, ht, hsk, e1⟩ := hrf s1 hr1 hz01
                refine ⟨(-9223372036854775808, s2), ?_, rfl⟩
                cases b with
                | true =>
                  have : z = 0 := hz01.resolve_right (fun q => hz (by rw [q]; rfl))
                  rw [e1, if_pos (by simpa using hb)]
                  unfold f_X12_stays_J77 f_X12_stays_J90
                  rw [if_pos this, if_pos rfl]
                | false =>
                  have : z = 1 := hz01.resolve_left (fun q => hz (by rw [q]; rfl))
                  rw [e1, if_neg (by simpa using hb)]
                  unfold f_X12_stays_J77 f_X12_stays_J90
                  rw [if_neg (by rw [this]; exact n1_0), if_pos rfl]
        exact fin _ rfl
  obtain ⟨v, h1, h2⟩ := key
  exact st_q (f1 := f_X11_stays (nI w) (nI j) z) (f2 := f_X12_stays (nI w) (nI j) z) v hok hc hr (h1 s) (lo_X11_stays _ _ _) (cF_X11_stays _ _ _) h2 (hi_X12_stays _ _ _) (rF_X12_stays _ _ _)
