/-! middle -/
theorem fd2 {a : Int} (h1 : -1000000000 ≤ a) (h2 : a ≤ 1000000000) (s : sx_M) : f_J9_floorDiv_7cf53 (iI a) 2 s = some (iI (a / 2), s) := by
  have ht : (iI a / (2 : Int32)).toInt = a.tdiv 2 := by
    rw [Int32.toInt_div_of_ne_right _ _ (by decide), iI_toInt (by omega) (by omega)]; rfl
  have hd : iI a / (2 : Int32) = iI (a.tdiv 2) := by
    rw [iI_of (iI a / 2), ht]
  unfold f_J9_floorDiv_7cf53
  rw [if_pos (show ¬ (2 : Int32) = 0 by decide), hd]
  have hx : (0 ≤ iI a ^^^ (2 : Int32)) ↔ 0 ≤ a := by
    have e1 : (iI a ^^^ (2 : Int32)).toBitVec.msb = decide (a < 0) := by
      rw [Int32.toBitVec_xor, BitVec.msb_xor, BitVec.msb_eq_toInt]
      show ((decide ((iI a).toInt < 0)) ^^ _) = _
      rw [iI_toInt (by omega) (by omega), show (2 : Int32).toBitVec.msb = false by decide, Bool.xor_false]
    rw [BitVec.msb_eq_toInt] at e1
    have e1 : decide ((iI a ^^^ (2 : Int32)).toInt < 0) = decide (a < 0) := e1
    rw [Int32.le_iff_toInt_le, show (0 : Int32).toInt = 0 by decide]
    constructor
    · intro h
      have : decide ((iI a ^^^ (2 : Int32)).toInt < 0) = false := by simp; omega
      rw [this] at e1
      have := of_decide_eq_false e1.symm
      omega
    · intro h
      have : decide (a < 0) = false := by simp; omega
      rw [this] at e1
      have := of_decide_eq_false e1
      omega
  by_cases q : 0 ≤ a
  · rw [if_pos (hx.mpr q), Int.tdiv_eq_ediv_of_nonneg q]
  · have ht2 : a.tdiv 2 = -((-a) / 2) := by
      rw [← Int.tdiv_eq_ediv_of_nonneg (show 0 ≤ -a by omega), Int.neg_tdiv, Int.neg_neg]
    rw [ht2]
    rw [if_neg (fun z => q (hx.mp z)), show (2 : Int32) = iI 2 by decide, iI_mul]
    by_cases q2 : -((-a) / 2) * 2 = a
    · rw [q2, if_pos rfl]
      congr 3
      omega
    · rw [if_neg (of_eq_false (iI_eq_F q2 (by omega) (by omega) (by omega) (by omega))), show (1 : Int32) = iI 1 by decide, iI_sub]
      congr 3
      omega
theorem r_many {T : tb} {s : sx_M} (hT : tb_ok T) (hl : lst (allA T) s) {m : Int} (h1 : -1000000000 ≤ m) (h2 : m ≤ 1000000000) : f_X12_manyUpTo (iI m) s = some (nI (nL (m + 1) (allA T)), s) := by
  have bA := all_bd hT
  have h40 := bA.1
  have hL : whT (f_X12_manyUpTo_L4 (iI m)) (nI (nL (m + 1) ((allA T).take 0)), nI 0, s) = some (nI (nL (m + 1) ((allA T).take (allA T).length)), s) := by
    refine wh_for (fun i => (nI (nL (m + 1) ((allA T).take i)), nI i, s)) (allA T).length (fun i hi => ?_) ?_ rfl
    · obtain ⟨p, hp⟩ : ∃ p, (allA T)[i]? = some p := ⟨(allA T)[i], List.getElem?_eq_getElem hi⟩
      have hpb := bA.2 p (List.mem_of_getElem? hp)
      have hin : ¬ (nI i < 0 ∨ 40320 ≤ (nI i).toNatClampNeg) := by
        rw [nI_cl (by omega)]
        exact fun q => q.elim (nI_pos (by omega)) (by omega)
      simp only [f_X12_manyUpTo_L4, f_X12_manyUpTo_L4_J28, hl.1]
      unfold nL
      rw [if_neg (nI_ge hi (by omega)), if_pos hin, nI_cl (by omega), (hl.2 i p hp).2, cp_take hp, nI_1]
      by_cases q : m < p.2
      · rw [if_pos (of_eq_true (iI_lt_T q (by omega) (by omega))), show (0 : Int32) = nI 0 from rfl, nI_add, if_neg (by simp; omega)]
      · rw [if_neg (of_eq_false (iI_lt_F (by omega) (by omega) (by omega))), if_pos (by simp; omega), nI_1]
    · simp only [f_X12_manyUpTo_L4, hl.1]
      rw [if_pos (nI_le (Nat.le_refl _) (by omega))]
  rw [List.take_length] at hL
  unfold f_X12_manyUpTo
  exact bnd hL _
theorem stp_36 : st_ok_36 Rel := by
  intro s ⟨A, hok, hc, hr⟩
  have bA : lbd (allA A.1) := all_bd hok.1
  have h40 := bA.1
  have e0 : (0 : Int32).toNatClampNeg = 0 := by decide
  by_cases h0 : (allA A.1).length = 0
  · refine st_a (f1 := f_X11_middle) (f2 := f_X12_middle) (-9223372036854775808) hok hc hr (fun hc => ⟨(-9223372036854775808, s), ?_, rfl, hc⟩) lo_X11_middle (fun s1 hr1 => ?_) hi_X12_middle
    · unfold f_X11_middle f_X5_all
      have := rk_all hc.2.1
      rw [Option.bind_some, e0, this, h0, if_pos (show nI 0 = 0 from rfl)]
    · obtain ⟨s2, e2, hl, ht, hx⟩ := r_all hok hr1
      have ef : f_X12_middle s1 = some (-9223372036854775808, s2) := by
        unfold f_X12_middle
        rw [bnd e2, hl.1, h0, if_pos (show nI 0 = 0 from rfl)]
      exact ⟨_, ef, rfl, rf_F (rF_X12_middle s1 _ ef) (fun q => q) hr1⟩
  · have hK : (nI (allA A.1).length - (1 : Int32)) / (2 : Int32) = nI (((allA A.1).length - 1) / 2) := by
      rw [show (1 : Int32) = nI 1 from rfl, nI_sb (by omega), show (2 : Int32) = nI 2 from rfl, pk_div (by omega) (by omega) (by omega)]
    have hKlt : ((allA A.1).length - 1) / 2 < (allA A.1).length := by omega
    obtain ⟨r0, e0', v, hv, hv1, hv2, _⟩ := f_sumAt hok.1 hc.1 hc.2.1 hKlt
    have hlow : lowL (allA A.1) ≠ none := fun z => h0 (by rw [lowL_none.mp z]; rfl)
    refine st_a (f1 := f_X11_middle) (f2 := f_X12_middle) (jJ v) hok hc hr (fun hc => ?_) lo_X11_middle (fun s1 hr1 => ?_) hi_X12_middle
    · have ef : f_X11_middle s = some (r0.1, r0.2) := by
        unfold f_X11_middle f_X5_all
        have := rk_all hc.2.1
        rw [Option.bind_some, e0, this, if_neg (nI_ne0 (by omega) (by omega)), hK]
        exact bnd e0' _
      exact ⟨_, ef, hv, cl_F (cF_X11_middle s _ ef) (fun q => q) hc⟩
    · obtain ⟨s2, e2, hl, ht, hx⟩ := r_all hok hr1
      obtain ⟨b, e3, hB⟩ := r_least bA hl
      cases b with
      | none =>
        have := isB_none hB
        rw [List.filter_eq_self.mpr (fun _ _ => rfl)] at this
        exact absurd this hlow
      | some k =>
        obtain ⟨pk, hpk, _, hlk, _⟩ := isB_some hB
        rw [List.filter_eq_self.mpr (fun _ _ => rfl)] at hlk
        have hk : k < (allA A.1).length := (List.getElem?_eq_some_iff.mp hpk).1
        have hpkb := bA.2 pk (List.mem_of_getElem? hpk)
        have hin : ¬ (nI k < 0 ∨ 40320 ≤ (nI k).toNatClampNeg) := by
          rw [nI_cl (by omega)]
          exact fun q => q.elim (nI_pos (by omega)) (by omega)
        -- the greatest
        have hmax : ∀ z1 z2, ∃ hi : Int, whT (f_X12_middle_L39 z1 z2) (iI pk.2, 0, s2) = some (iI hi, s2) ∧ pk.2 ≤ hi ∧ hi ≤ 10000000 ∧ ∀ p, p ∈ allA A.1 → p.2 ≤ hi := by
          intro z1 z2
          have : Ev (whT (f_X12_middle_L39 z1 z2) (iI pk.2, 0, s2)) (fun r => ∃ hi : Int, r = (iI hi, s2) ∧ pk.2 ≤ hi ∧ hi ≤ 10000000 ∧ ∀ m p, m < (allA A.1).length → (allA A.1)[m]? = some p → p.2 ≤ hi) := by
            refine ev_f (fun i a => ∃ hi : Int, a = (iI hi, nI i, s2) ∧ pk.2 ≤ hi ∧ hi ≤ 10000000 ∧ ∀ m p, m < i → (allA A.1)[m]? = some p → p.2 ≤ hi) (allA A.1).length ?_ ?_ (i := 0) (by omega) ⟨pk.2, rfl, by omega, by omega, fun m p hm => by omega⟩
            · rintro i a hi ⟨h, rfl, b1, b2, b3⟩
              obtain ⟨p, hp⟩ : ∃ p, (allA A.1)[i]? = some p := ⟨(allA A.1)[i], List.getElem?_eq_getElem hi⟩
              have hpb := bA.2 p (List.mem_of_getElem? hp)
              have hini : ¬ (nI i < 0 ∨ 40320 ≤ (nI i).toNatClampNeg) := by
                rw [nI_cl (by omega)]
                exact fun q => q.elim (nI_pos (by omega)) (by omega)
              simp only [f_X12_middle_L39, f_J9_max_7cf53, hl.1]
              rw [if_neg (nI_ge hi (by omega)), if_pos hini, nI_cl (by omega), (hl.2 i p hp).2]
              by_cases q : h < p.2
              · rw [if_pos (of_eq_true (iI_lt_T q (by omega) (by omega))), Option.bind_some, nI_1]
                refine ⟨_, rfl, p.2, rfl, by omega, by omega, fun m p' hm hp' => ?_⟩
                by_cases z : m = i
                · rw [z, hp] at hp'; cases hp'; omega
                · have := b3 m p' (by omega) hp'; omega
              · rw [if_neg (of_eq_false (iI_lt_F (by omega) (by omega) (by omega))), Option.bind_some, nI_1]
                refine ⟨_, rfl, h, rfl, b1, b2, fun m p' hm hp' => ?_⟩
                by_cases z : m = i
                · rw [z, hp] at hp'; cases hp'; omega
                · exact b3 m p' (by omega) hp'
            · rintro a ⟨h, rfl, b1, b2, b3⟩
              refine ⟨.inr (iI h, s2), ?_, h, rfl, b1, b2, b3⟩
              simp only [f_X12_middle_L39, hl.1]
              rw [if_pos (nI_le (Nat.le_refl _) (by omega))]
          obtain ⟨r, e, h, rfl, b1, b2, b3⟩ := this
          refine ⟨h, e, b1, b2, fun p hp => ?_⟩
          obtain ⟨m, hm⟩ := List.getElem?_of_mem hp
          exact b3 m p (List.getElem?_eq_some_iff.mp hm).1 hm
        -- halving
        have hbin : ∀ n lo hi, (hi - lo).toNat ≤ n → lo ≤ hi → -20000000 ≤ lo → hi ≤ 20000000 → nL lo (allA A.1) ≤ ((allA A.1).length - 1) / 2 → ((allA A.1).length - 1) / 2 < nL (hi + 1) (allA A.1) → whT (f_X12_middle_L66 (nI (((allA A.1).length - 1) / 2))) (iI lo, iI hi, s2) = some (iI v, s2) := by
          intro n
          induction n with
          | zero =>
            intro lo hi h1 h2 h3 h4 h5 h6
            have : lo = hi := by omega
            subst this
            have : v = lo := kth_u hv1 hv2 h5 h6
            rw [this, whT_eq]
            simp only [f_X12_middle_L66]
            rw [if_pos (of_eq_true (iI_le_T (Int.le_refl _) (by omega) (by omega)))]; rfl
          | succ n ih =>
            intro lo hi h1 h2 h3 h4 h5 h6
            by_cases q : lo = hi
            · subst q
              have : v = lo := kth_u hv1 hv2 h5 h6
              rw [this, whT_eq]
              simp only [f_X12_middle_L66]
              rw [if_pos (of_eq_true (iI_le_T (Int.le_refl _) (by omega) (by omega)))]; rfl
            · rw [whT_eq]
              simp only [f_X12_middle_L66]
              have hlen := nL_len ((lo + hi) / 2 + 1) (allA A.1)
              rw [if_neg (of_eq_false (iI_le_F (by omega) (by omega) (by omega))), iI_add, bnd (fd2 (by omega) (by omega) s2), bnd (r_many hok.1 hl (by omega) (by omega))]
              by_cases z : nL ((lo + hi) / 2 + 1) (allA A.1) ≤ ((allA A.1).length - 1) / 2
              · rw [if_pos (nI_le z (by omega)), show (1 : Int32) = iI 1 by decide, iI_add]
                exact ih _ _ (by omega) (by omega) (by omega) (by omega) z h6
              · rw [if_neg (nI_ge (by omega) (by omega))]
                exact ih _ _ (by omega) (by omega) (by omega) (by omega) h5 (by omega)
        obtain ⟨hi, e4, m1, m2, m3⟩ := hmax (nI (((allA A.1).length - 1) / 2)) (iI pk.2)
        have hNlo : nL pk.2 (allA A.1) = 0 := by
          unfold nL
          rw [List.countP_eq_zero]
          intro p hp
          have := (lowL_some.mp hlk).2 p hp
          simp; omega
        have hNhi : nL (hi + 1) (allA A.1) = (allA A.1).length := by
          unfold nL
          rw [List.countP_eq_length]
          intro p hp
          have := m3 p hp
          simp; omega
        have e5 := hbin (hi - pk.2).toNat pk.2 hi (Nat.le_refl _) m1 (by omega) (by omega) (by omega) (by omega)
        have hvb : -20000000 ≤ v ∧ v ≤ 20000000 := by
          constructor
          · exact Decidable.byContradiction (fun z => by
              have := nL_mono (show v + 1 ≤ pk.2 by omega) (allA A.1)
              omega)
          · exact Decidable.byContradiction (fun z => by
              have := nL_mono (show hi + 1 ≤ v by omega) (allA A.1)
              omega)
        have ef : f_X12_middle s1 = some (jJ v, s2) := by
          unfold f_X12_middle
          rw [bnd e2, hl.1, if_neg (nI_ne0 (by omega) (by omega)), bnd e3, oI_s, if_pos hin, nI_cl (by omega), (hl.2 k pk hpk).2, hK, bnd e4, bnd e5, iI_64 (by omega) (by omega)]
        exact ⟨_, ef, rfl, rf_F (rF_X12_middle s1 _ ef) (fun q => q) hr1⟩
