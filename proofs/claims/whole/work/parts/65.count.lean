/-! COUNTING by sums -/
def cnB (a b : Int) (L : List asg) : Nat := L.countP (fun p => decide (a ≤ p.2) && decide (p.2 ≤ b))
theorem cnB_app (a b : Int) (L M : List asg) : cnB a b (L ++ M) = cnB a b L + cnB a b M := List.countP_append
theorem cnB_bx (a b x : Int) (j : Nat) (L : List asg) : cnB a b (bx x j L) = cnB (a - x) (b - x) L := by
  unfold cnB bx
  rw [List.countP_map]
  congr 1
  funext p
  simp only [Function.comp]
  rw [Bool.eq_iff_iff]
  simp
  omega
theorem cnB_len (a b : Int) (L : List asg) : cnB a b L ≤ L.length := List.countP_le_length
theorem cnB_all {a b : Int} {L : List asg} (h : ∀ p, p ∈ L → a ≤ p.2 ∧ p.2 ≤ b) : cnB a b L = L.length := by
  unfold cnB
  rw [List.countP_eq_length]
  intro p hp
  have := h p hp
  simp
  omega
theorem cnB_none {a b : Int} {L : List asg} (h : ∀ p, p ∈ L → p.2 < a ∨ b < p.2) : cnB a b L = 0 := by
  unfold cnB
  rw [List.countP_eq_zero]
  intro p hp
  have := h p hp
  simp
  omega
theorem cnB_eq {a b lo hi : Int} {L : List asg} (h1 : lowL L = some lo) (h2 : higL L = some hi) : (a ≤ lo → hi ≤ b → cnB a b L = L.length) ∧ (b < lo → cnB a b L = 0) ∧ (hi < a → cnB a b L = 0) := by
  have l1 := (lowL_some.mp h1).2
  have l2 := (higL_some.mp h2).2
  refine ⟨fun a1 a2 => cnB_all (fun p hp => ?_), fun a1 => cnB_none (fun p hp => ?_), fun a1 => cnB_none (fun p hp => ?_)⟩
  · have := l1 p hp; have := l2 p hp; omega
  · have := l1 p hp; omega
  · have := l2 p hp; omega
/-- what a look at a set tells of the ways that go on from it -/
theorem rk_lh {g : Nat} {T : tb} {s : sx_M} (hT : tb_wk T) (hr : ranksIs g T s) {S : Nat} (hS : S < 2 ^ T.2.1) (hp : pcn S ≤ T.1) (h0 : (exS T S).length ≠ 0) : ∃ lo hi, lowL (exS T S) = some lo ∧ higL (exS T S) = some hi ∧ rB s (g + 4) S = jJ lo ∧ rB s (g + 5) S = jJ hi ∧ lo ≤ hi ∧ -7700000 ≤ lo ∧ hi ≤ 7700000 := by
  have h := hr S hS hp
  have h1 := h.2 (by omega)
  cases hlo : lowL (exS T S) with
  | none => rw [lowL_none.mp hlo] at h0; exact absurd rfl h0
  | some lo =>
  cases hhi : higL (exS T S) with
  | none => rw [higL_none.mp hhi] at h0; exact absurd rfl h0
  | some hi =>
  have b1 := low_bd (wk_cbd hT) hlo
  have b2 := hig_bd (wk_cbd hT) hhi
  have hn : ((T.1 - pcn S : Nat) : Int) ≤ 7 := by have := hT.1; omega
  obtain ⟨⟨p, hp, hv⟩, hm⟩ := lowL_some.mp hlo
  have := (higL_some.mp hhi).2 p hp
  refine ⟨lo, hi, rfl, rfl, ?_, ?_, by omega, by omega, by omega⟩
  · rw [h1.1, hlo]; rfl
  · rw [h1.2, hhi]; rfl
theorem f_search {g : Nat} {T : tb} {s : sx_M} (hT : tb_wk T) (hg : gridIs g T s) (hr : ranksIs g T s) : ∀ (f n S : Nat) (a b : Int), S < 2 ^ T.2.1 → pcn S + n + 1 = T.1 → n < f → -(1000000000000000 + 1100000 * (pcn S : Int)) ≤ a → a ≤ 1000000000000000 + 1100000 * (pcn S : Int) → -(1000000000000000 + 1100000 * (pcn S : Int)) ≤ b → b ≤ 1000000000000000 + 1100000 * (pcn S : Int) → fr_X5_search g f (nI S) (nI (pcn S)) (jJ a) (jJ b) s = some (nI (cnB a b (ex T.2.2 (n + 1) (pcn S) S)), s)
  | 0, n, S, a, b, _, _, h, _, _, _, _ => by omega
  | f + 1, n, S, a, b, hS, hn, hf, ha1, ha2, hb1, hb2 => by
    have h7 := hT.1
    have h8 := hT.2.1
    have hS2 : S < 256 := pw_256 h8 hS
    have hlen : ∀ k, k ≤ T.2.1 → cnB a b (exT T.2.2 n (pcn S) S k) ≤ 40320 := by
      intro k hk
      have h0 := cnB_len a b (exT T.2.2 n (pcn S) S k)
      have h1 := exT_len T.2.2 n (pcn S) S k 8 (by omega)
      have h2 := ex_40 T.2.2 (n := n + 1) (w := pcn S) hS2 (by omega)
      rw [ex_s] at h2
      omega
    have hL : whT (f_X5_search_L6 g (fr_X5_search g f) (nI S) (nI (pcn S)) (jJ a) (jJ b)) (nI (cnB a b (exT T.2.2 n (pcn S) S 0)), nI 0, s) = some (nI (cnB a b (exT T.2.2 n (pcn S) S T.2.1)), s) := by
      refine wh_for (fun k => (nI (cnB a b (exT T.2.2 n (pcn S) S k)), nI k, s)) T.2.1 (fun k hk => ?_) ?_ rfl
      · have hat := at_F h7 h8 hg (w := pcn S) (j := k) (by omega) hk
        have hlk := hlen k (by omega)
        simp only [f_X5_search_L6, hg.1, hg.2.1]
        rw [if_neg (nI_ge (by omega) (by omega)), if_neg (nI_ge hk (by omega)), bnd hat, nI_bit (by omega), nI_or, nI_1, exT_s, cnB_app]
        cases hb : S.testBit k with
        | true => rw [if_pos (by rw [(or_bit S k).mpr hb]), br_in hb]; rfl
        | false =>
          have hne : S ||| 2 ^ k ≠ S := fun q => by rw [(or_bit S k).mp q] at hb; cases hb
          have hlt : S ||| 2 ^ k < 256 := or_256 hS2 (by omega)
          have hp := pcn_or hS2 (show k < 8 by omega) hb
          rw [if_neg (of_eq_false (nI_eq_F hne (by omega) (by omega)))]
          cases hc : T.2.2 (pcn S) k with
          | none => rw [if_pos c64_n, br_none hc]; rfl
          | some x =>
            have hx := hT.2.2.1 _ _ x hc
            have hin : ¬ (nI (S ||| 2 ^ k) < 0 ∨ 256 ≤ (nI (S ||| 2 ^ k)).toNatClampNeg) := by
              rw [nI_cl (by omega)]
              exact fun q => q.elim (nI_pos (by omega)) (by omega)
            have hrk := rk_at hr (or_lt hS hk) (by omega)
            have eL := exS_then hn hS2 (show k < 8 by omega) hb
            have hl2 := ex_40 T.2.2 (n := n) (w := pcn S + 1) hlt (by omega)
            rw [c64_s, if_neg (of_eq_false (jnv (by omega) (by omega))), if_pos hin, br_some hc hb, cnB_bx]
            by_cases h0 : (exS T (S ||| 2 ^ k)).length = 0
            · rw [nI_cl (by omega), hrk.1, h0, if_pos (show nI 0 = 0 from rfl)]
              rw [eL] at h0
              rw [List.eq_nil_of_length_eq_zero h0]; rfl
            · obtain ⟨lo, hi, hlo, hhi, e4, e5, hlh, bl, bh⟩ := rk_lh hT hr (or_lt hS hk) (by omega) h0
              have hin' : ¬ (nI (S ||| 2 ^ k) < 0 ∨ 256 ≤ S ||| 2 ^ k) := fun q => q.elim (nI_pos (by omega)) (by omega)
              rw [nI_cl (by omega), hrk.1, if_neg (nI_ne0 (by omega) (by rw [eL]; omega)), if_pos hin', e4, jJ_sub, jJ_sub, if_pos hin', e5, if_pos hin']
              rw [eL] at hlo hhi h0 ⊢
              obtain ⟨cA, cL, cH'⟩ := cnB_eq (a := a - x) (b := b - x) hlo hhi
              have jrec : f_X5_search_L6_J131 g (fr_X5_search g f) (nI S) (nI (pcn S)) (jJ a) (jJ b) (nI (cnB a b (exT T.2.2 n (pcn S) S k))) (nI k) (nI (S ||| 2 ^ k)) (jJ (a - x)) (jJ (b - x)) s = (if jJ (b - x) < jJ lo then some (.inl (nI (cnB a b (exT T.2.2 n (pcn S) S k)), nI (k + 1), s)) else (if jJ hi < jJ (a - x) then some (.inl (nI (cnB a b (exT T.2.2 n (pcn S) S k)), nI (k + 1), s)) else (fr_X5_search g f (nI (S ||| 2 ^ k)) (nI (pcn S + 1)) (jJ (a - x)) (jJ (b - x)) s).bind (fun p1 => some (.inl (nI (cnB a b (exT T.2.2 n (pcn S) S k)) + p1.1, nI (k + 1), p1.2))))) := by
                unfold f_X5_search_L6_J131
                rw [if_pos hin, if_pos hin, nI_cl (by omega), e4, e5, nI_1, nI_1]
              have goon : ¬ (a - x ≤ lo ∧ hi ≤ b - x) → f_X5_search_L6_J131 g (fr_X5_search g f) (nI S) (nI (pcn S)) (jJ a) (jJ b) (nI (cnB a b (exT T.2.2 n (pcn S) S k))) (nI k) (nI (S ||| 2 ^ k)) (jJ (a - x)) (jJ (b - x)) s = some (.inl (nI (cnB a b (exT T.2.2 n (pcn S) S k) + cnB (a - x) (b - x) (ex T.2.2 n (pcn S + 1) (S ||| 2 ^ k))), nI (k + 1), s)) := by
                intro hnot
                rw [jrec]
                by_cases q1 : b - x < lo
                · rw [if_pos (of_eq_true (jJ_lt_T q1 (by omega) (by omega))), cL q1]; rfl
                · rw [if_neg (of_eq_false (jJ_lt_F (by omega) (by omega) (by omega)))]
                  by_cases q2 : hi < a - x
                  · rw [if_pos (of_eq_true (jJ_lt_T q2 (by omega) (by omega))), cH' q2]; rfl
                  · rw [if_neg (of_eq_false (jJ_lt_F (by omega) (by omega) (by omega)))]
                    cases n with
                    | zero =>
                      exfalso
                      have z1 : lo = 0 := by
                        have : lowL [(([], 0) : asg)] = some lo := hlo
                        exact (Option.some.inj this).symm
                      have z2 : hi = 0 := by
                        have : higL [(([], 0) : asg)] = some hi := hhi
                        exact (Option.some.inj this).symm
                      omega
                    | succ n =>
                      have hrec := f_search hT hg hr f n (S ||| 2 ^ k) (a - x) (b - x) (or_lt hS hk) (by omega) (by omega) (by rw [hp]; omega) (by rw [hp]; omega) (by rw [hp]; omega) (by rw [hp]; omega)
                      rw [hp] at hrec
                      rw [bnd hrec, nI_add]
              by_cases q1 : lo < a - x
              · rw [if_pos (of_eq_true (jJ_lt_T q1 (by omega) (by omega)))]
                exact goon (by omega)
              · rw [if_neg (of_eq_false (jJ_lt_F (by omega) (by omega) (by omega)))]
                by_cases q2 : b - x < hi
                · rw [if_pos (of_eq_true (jJ_lt_T q2 (by omega) (by omega)))]
                  exact goon (by omega)
                · rw [if_neg (of_eq_false (jJ_lt_F (by omega) (by omega) (by omega))), cA (by omega) (by omega), nI_add]
      · simp only [f_X5_search_L6, hg.1, hg.2.1]
        rw [if_neg (nI_ge (by omega) (by omega)), if_pos (nI_le (Nat.le_refl _) (by omega))]
    rw [ex_J (fun j hj => hT.2.2.2 (pcn S) j (by omega)) h8]
    show fb_X5_search g (fr_X5_search g f) (nI S) (nI (pcn S)) (jJ a) (jJ b) s = _
    unfold fb_X5_search
    exact bnd hL _
theorem f_between {g : Nat} {T : tb} {s : sx_M} (hT : tb_wk T) (hg : gridIs g T s) (hr : ranksIs g T s) {S : Nat} {a b : Int} (hS : S < 2 ^ T.2.1) (hp : pcn S ≤ T.1) (ha : -1000000000000000 ≤ a ∧ a ≤ 1000000000000000) (hb : -9223372036854775808 ≤ b ∧ b ≤ 9223372036854775807) (hab : b ≤ 1000000000000000 ∨ a ≤ -1000000000) : f_X5_between g (nI S) (nI (pcn S)) (jJ a) (jJ b) s = some (nI (cnB a b (exS T S)), s) := by
  have h7 := hT.1
  have h8 := hT.2.1
  have hS2 : S < 256 := pw_256 h8 hS
  have hrk := rk_at hr hS hp
  have h40 := exS_40 hT hS2
  have hin : ¬ (nI S < 0 ∨ 256 ≤ (nI S).toNatClampNeg) := by
    rw [nI_cl (by omega)]
    exact fun q => q.elim (nI_pos (by omega)) (by omega)
  unfold f_X5_between
  rw [if_neg (nI_pos (by omega)), if_neg (show ¬ (256 : Int32) ≤ nI S from nI_ge (b := 256) hS2 (by omega)), if_pos hin]
  by_cases h0 : (exS T S).length = 0
  · rw [nI_cl (by omega), hrk.1, h0, if_pos (show nI 0 = 0 from rfl), List.eq_nil_of_length_eq_zero h0]; rfl
  · obtain ⟨lo, hi, hlo, hhi, e4, e5, hlh, bl, bh⟩ := rk_lh hT hr hS hp h0
    obtain ⟨cA, cL, cH'⟩ := cnB_eq (a := a) (b := b) hlo hhi
    rw [nI_cl (by omega), hrk.1, if_neg (nI_ne0 (by omega) (by omega))]
    rw [nI_cl (by omega)] at hin
    rw [if_pos hin, if_pos hin, if_pos hin, if_pos hin, if_pos hin, e4, e5]
    have jgo : ¬ (a ≤ lo ∧ hi ≤ b) → lo ≤ b → a ≤ hi → f_X5_between_J75 g (nI S) (nI (pcn S)) (jJ a) (jJ b) s = some (nI (cnB a b (exS T S)), s) := by
      intro q1 q2 q3
      have hn1 : pcn S < T.1 := Decidable.byContradiction (fun z => by
        have e : exS T S = [([], 0)] := by
          unfold exS; rw [show T.1 - pcn S = 0 by omega]; rfl
        rw [e] at hlo hhi
        have z1 : lo = 0 := (Option.some.inj (show some (0 : Int) = some lo from hlo)).symm
        have z2 : hi = 0 := (Option.some.inj (show some (0 : Int) = some hi from hhi)).symm
        omega)
      obtain ⟨n, hn⟩ : ∃ n, pcn S + n + 1 = T.1 := ⟨T.1 - pcn S - 1, by omega⟩
      have := f_search hT hg hr 9 n S a b hS hn (by omega) (by omega) (by omega) (by omega) (by omega)
      unfold f_X5_between_J75 f_X5_search
      rw [exS_s hn]
      exact bnd this _
    by_cases q1 : b < lo
    · rw [if_pos (of_eq_true (jJ_lt_T q1 (by omega) (by omega))), cL q1]; rfl
    · rw [if_neg (of_eq_false (jJ_lt_F (by omega) (by omega) (by omega)))]
      by_cases q2 : a ≤ hi
      · rw [if_pos (of_eq_true (jJ_le_T q2 (by omega) (by omega)))]
        by_cases q3 : lo < a
        · rw [if_pos (of_eq_true (jJ_lt_T q3 (by omega) (by omega)))]
          exact jgo (by omega) (by omega) q2
        · rw [if_neg (of_eq_false (jJ_lt_F (by omega) (by omega) (by omega)))]
          by_cases q4 : b < hi
          · rw [if_pos (of_eq_true (jJ_lt_T q4 (by omega) (by omega)))]
            exact jgo (by omega) (by omega) q2
          · rw [if_neg (of_eq_false (jJ_lt_F (by omega) (by omega) (by omega))), cA (by omega) (by omega)]
      · rw [if_neg (of_eq_false (jJ_le_F (by omega) (by omega) (by omega))), cH' (by omega)]; rfl
theorem f_upTo {g : Nat} {T : tb} {s : sx_M} (hT : tb_wk T) (hg : gridIs g T s) (hr : ranksIs g T s) {b : Int} (hb : -9223372036854775808 ≤ b ∧ b ≤ 9223372036854775807) : f_X5_upTo g (jJ b) s = some (nI (cnB (-1000000000) b (allA T)), s) := by
  have h := f_between (S := 0) (a := -1000000000) hT hg hr (Nat.pow_pos (by omega)) (by rw [pcn_0]; omega) (by omega) hb (Or.inr (by omega))
  rw [pcn_0, exS_0] at h
  unfold f_X5_upTo
  have h' : f_X5_between g 0 0 (-1000000000) (jJ b) s = some (nI (cnB (-1000000000) b (allA T)), s) := by
    rw [show (-1000000000 : Int64) = jJ (-1000000000) by decide]; exact h
  rw [bnd h']
theorem f_alike {g : Nat} {T : tb} {s : sx_M} (hT : tb_wk T) (hg : gridIs g T s) (hr : ranksIs g T s) {b : Int} (hb : -1000000000000000 ≤ b ∧ b ≤ 1000000000000000) : f_X5_alike g (jJ b) s = some (nI (cnB b b (allA T)), s) := by
  have h := f_between (S := 0) (a := b) (b := b) hT hg hr (Nat.pow_pos (by omega)) (by rw [pcn_0]; omega) (by omega) (by omega) (Or.inl (by omega))
  rw [pcn_0, exS_0] at h
  unfold f_X5_alike
  have h' : f_X5_between g 0 0 (jJ b) (jJ b) s = some (nI (cnB b b (allA T)), s) := h
  rw [bnd h']
/-- how many of the first i have a property -/
theorem cp_take {P : asg → Bool} {L : List asg} {i : Nat} {p : asg} (hp : L[i]? = some p) : (L.take (i + 1)).countP P = (L.take i).countP P + (if P p then 1 else 0) := by
  rw [List.take_succ, hp, List.countP_append]
  cases h : P p <;> simp [h]
theorem stp_9 : st_ok_9 Rel := by
  intro x s ⟨A, hok, hc, hr⟩
  have bA : lbd (allA A.1) := all_bd hok.1
  have h40 := bA.1
  have hxb : -9223372036854775808 ≤ x.toInt ∧ x.toInt ≤ 9223372036854775807 := by
    have h1 := Int64.le_toInt x
    have h2 := Int64.toInt_lt x
    omega
  refine st_q (f1 := f_X11_under x) (f2 := f_X12_under x) (nI (cnB (-1000000000) x.toInt (allA A.1))) hok hc hr (fun hc => ⟨(_, s), ?_, rfl⟩) (lo_X11_under _) (cF_X11_under _) (fun s1 hr1 => ?_) (hi_X12_under _) (rF_X12_under _)
  · have := f_upTo (tb_ok_wk hok.1) hc.1 hc.2.1 hxb
    rw [← jJ_of] at this
    unfold f_X11_under
    exact bnd this _
  · obtain ⟨s2, e2, hl, ht, _⟩ := r_all hok hr1
    have hL : whT (f_X12_under_L9 x) (nI (cnB (-1000000000) x.toInt ((allA A.1).take 0)), nI 0, s2) = some (nI (cnB (-1000000000) x.toInt ((allA A.1).take (allA A.1).length)), s2) := by
      refine wh_for (fun i => (nI (cnB (-1000000000) x.toInt ((allA A.1).take i)), nI i, s2)) (allA A.1).length (fun i hi => ?_) ?_ rfl
      · obtain ⟨p, hp⟩ : ∃ p, (allA A.1)[i]? = some p := ⟨(allA A.1)[i], List.getElem?_eq_getElem hi⟩
        have hpb := bA.2 p (List.mem_of_getElem? hp)
        have hin : ¬ (nI i < 0 ∨ 40320 ≤ (nI i).toNatClampNeg) := by
          rw [nI_cl (by omega)]
          exact fun q => q.elim (nI_pos (by omega)) (by omega)
        simp only [f_X12_under_L9, f_X12_under_L9_J37, hl.1]
        unfold cnB
        rw [if_neg (nI_ge hi (by omega)), if_pos hin, nI_cl (by omega), (hl.2 i p hp).2, iI_64 (by omega) (by omega), cp_take hp]
        by_cases q : x.toInt < p.2
        · rw [if_pos (show x < jJ p.2 by rw [jJ_of x]; exact of_eq_true (jJ_lt_T q (by omega) (by omega))), nI_1, show (0 : Int32) = nI 0 from rfl, nI_add, if_neg (by simp; omega)]
        · rw [if_neg (show ¬ x < jJ p.2 by rw [jJ_of x]; exact of_eq_false (jJ_lt_F (by omega) (by omega) (by omega))), nI_1, nI_1, if_pos (by simp; omega)]
      · simp only [f_X12_under_L9, hl.1]
        rw [if_pos (nI_le (Nat.le_refl _) (by omega))]
    rw [List.take_length] at hL
    refine ⟨(_, s2), ?_, rfl⟩
    unfold f_X12_under
    rw [bnd e2]
    exact bnd hL _
