/-! only, price, pay -/
theorem allP_lt {J : Nat} : 2 ^ J - 1 < 2 ^ J := by have := Nat.one_le_two_pow (n := J); omega
theorem r_ow {T : tb} {s : sx_M} (hT : tb_ok T) (hg : tabIs 59 0 T s) {V : Nat} (hV : V < 2 ^ T.2.1) {w : Nat} (hw : w < T.1) : Ev (f_X12_leastWith (nI V) (nI w) s) (fun p => p.1 = cH (lowL (ex (cD (cV T V) w) (T.1 - 1) 0 0)) ∧ sx_eq gtD s p.2) := by
  have h7 := hT.1
  have h := r_leastWith hT hg hV (bo := some w) (fun b q => by cases q; omega)
  obtain ⟨n, hn⟩ : ∃ n, T.1 = n + 1 := ⟨T.1 - 1, by omega⟩
  rw [hn, exb_low _ _ _ _ (by omega) (by omega)] at h
  rw [hn]
  exact h
theorem r_ln {T : tb} {s : sx_M} (hT : tb_ok T) (hg : tabIs 59 0 T s) {V : Nat} (hV : V < 2 ^ T.2.1) : Ev (f_X12_leastWith (nI V) (-1) s) (fun p => p.1 = cH (lowL (ex (cV T V) T.1 0 0)) ∧ sx_eq gtD s p.2) := by
  have h := r_leastWith hT hg hV (bo := none) (fun b q => by cases q)
  rw [exb_none] at h
  exact h
theorem stp_33 : st_ok_33 Rel := by
  intro x s ⟨A, hok, hc, hr⟩
  have h7 := hok.1.1
  have h8 := hok.1.2.1
  have hpw : 2 ^ A.1.2.1 ≤ 256 := pw_le h8
  have hp1 := Nat.one_le_two_pow (n := A.1.2.1)
  have bad : (x < 0 ∨ nI (2 ^ A.1.2.1) ≤ x) → ∃ p1 p2, f_X11_only x s = some p1 ∧ f_X12_only x p1.2 = some p2 ∧ p1.1 = p2.1 ∧ Rel p2.2 := by
    intro h
    refine ⟨(-9223372036854775808, s), (-9223372036854775808, s), ?_, ?_, rfl, A, hok, hc, hr⟩
    · unfold f_X11_only
      rw [hc.1.2.1, nI_bit (by omega)]
      by_cases h1 : x < 0
      · rw [if_pos h1]
      · rw [if_neg h1, if_neg (Int32.not_lt.mpr (h.resolve_left h1))]
    · unfold f_X12_only
      rw [bnd (f_allJobs hok.1 hr.1), f_in0, if_pos]
      · rfl
      · by_cases h1 : x < 0
        · exact Or.inl h1
        · have h2 := h.resolve_left h1
          right
          rw [Int32.le_iff_toInt_le, nI_toInt (by omega)] at h2
          rw [Int32.lt_iff_toInt_lt, nI_toInt (by omega)]
          omega
  rcases pk_ix x (n := 2 ^ A.1.2.1) (by omega) with h | h | ⟨V, hV, rfl⟩
  · exact bad (Or.inl h)
  · exact bad (Or.inr h)
  · have hV2 : V < 256 := by omega
    refine st_q (f1 := f_X11_only (nI V)) (f2 := f_X12_only (nI V)) (cH (lowL (ex (cV A.1 V) A.1.1 0 0))) hok hc hr (fun hc => ?_) (lo_X11_only _) (cF_X11_only _) (fun s1 hr1 => ?_) (hi_X12_only _) (rF_X12_only _)
    · obtain ⟨s1, e1, g1, x1⟩ := d_cp hok.1 hc.1
      have h0 : gridF 13 A.1.1 A.1.2.1 (fun a b => if b < 0 ∧ V.testBit b = false then 9223372036854775807 else c64 (A.1.2.2 a b)) s1 := gridF_ext (gridF_T.mp g1) (fun a b _ _ => by rw [if_neg (by omega)])
      have hL : Ev (whT (f_X11_only_L34 (nI V)) (0, s1)) (fun s' => gridIs 13 (resT A.1 (fun _ b => V.testBit b)) s' ∧ sx_eq dD s1 s') := by
        refine ev_f (fun i a => a.1 = nI i ∧ gridF 13 A.1.1 A.1.2.1 (fun a b => if b < i ∧ V.testBit b = false then 9223372036854775807 else c64 (A.1.2.2 a b)) a.2 ∧ sx_eq dD s1 a.2) A.1.2.1 ?_ ?_ (i := 0) (by omega) ⟨rfl, h0, sx_rf _ _⟩
        · rintro i ⟨a1, s2⟩ hi ⟨ea, h1, h2⟩
          simp only at ea h1 h2
          subst ea
          have h32 : rI s2 3 2 = nI A.1.2.1 := by rw [h2.1 3 2 (by simp only [dD]; omega), x1.1 3 2 (by simp only [dD]; omega)]; exact hc.1.2.1
          simp only [f_X11_only_L34, h32]
          rw [if_neg (nI_ge hi (by omega)), nI_has (by omega) (by omega)]
          cases hb : V.testBit i with
          | true =>
            refine ⟨.inl (nI (i + 1), s2), ?_, rfl, gridF_ext h1 (fun a b _ _ => ?_), h2⟩
            · rw [if_neg (show ¬ nI (if true = true then 1 else 0) = 0 by decide), nI_1]
            · by_cases z : b = i
              · rw [z, if_neg (by rw [hb]; simp), if_neg (by rw [hb]; simp)]
              · by_cases z2 : b < i ∧ V.testBit b = false
                · rw [if_pos z2, if_pos ⟨by omega, z2.2⟩]
                · rw [if_neg z2, if_neg (fun q => z2 ⟨by omega, q.2⟩)]
          | false =>
            obtain ⟨s3, e3, g3, x3⟩ := d_bar h7 h8 h1 hi
            refine ⟨.inl (nI (i + 1), s3), ?_, rfl, gridF_ext g3 (fun a b _ _ => ?_), sx_tr h2 x3⟩
            · rw [if_pos (show nI (if false = true then 1 else 0) = 0 by decide), bnd e3, nI_1]
            · by_cases z : b = i
              · rw [if_pos z, if_pos ⟨by omega, by rw [z]; exact hb⟩]
              · rw [if_neg z]
                by_cases z2 : b < i ∧ V.testBit b = false
                · rw [if_pos z2, if_pos ⟨by omega, z2.2⟩]
                · rw [if_neg z2, if_neg (fun q => z2 ⟨by omega, q.2⟩)]
        · rintro ⟨a1, s2⟩ ⟨ea, h1, h2⟩
          simp only at ea h1 h2
          subst ea
          have h32 : rI s2 3 2 = nI A.1.2.1 := by rw [h2.1 3 2 (by simp only [dD]; omega), x1.1 3 2 (by simp only [dD]; omega)]; exact hc.1.2.1
          refine ⟨.inr s2, ?_, gridF_ext h1 (fun a b _ hb => ?_), h2⟩
          · simp only [f_X11_only_L34, h32]
            rw [if_pos (nI_le (Nat.le_refl _) (by omega))]
          · have hb : b < A.1.2.1 := hb
            show c64 (if V.testBit b then A.1.2.2 a b else none) = _
            cases hv : V.testBit b with
            | true => rw [if_pos rfl, if_neg (by simp)]
            | false => rw [if_neg (by simp), if_pos ⟨hb, rfl⟩]; rfl
      obtain ⟨s2, e2, g2, x2⟩ := hL
      obtain ⟨s3, e3, ⟨r3, _⟩, x3⟩ := d_rf (tb_ok_wk (resT_ok hok.1 _)) g2
      refine ⟨(cH (lowL (ex (cV A.1 V) A.1.1 0 0)), s3), ?_, rfl⟩
      unfold f_X11_only
      rw [hc.1.2.1, nI_bit (by omega), if_neg (nI_pos (by omega)), if_pos (nI_lt hV (by omega)), bnd e1, bnd e2, bnd e3]
      exact bnd (f_leastSum (tb_ok_wk (resT_ok hok.1 _)) r3) _
    · obtain ⟨p, e, v, _⟩ := r_ln hok.1 hr1.1 hV
      refine ⟨(p.1, p.2), ?_, v⟩
      unfold f_X12_only
      rw [bnd (f_allJobs hok.1 hr1.1), f_in0, if_neg (fun q => q.elim (nI_pos (by omega)) (nI_nlt (by omega) (by omega))), Option.bind_some, if_neg n1_0]
      exact bnd e _
/-- all jobs but one -/
def butJ (J j : Nat) : Nat := (2 ^ J - 1) ^^^ ((2 ^ J - 1) &&& 2 ^ j)
theorem butJ_lt {J j : Nat} : butJ J j < 2 ^ J := Nat.xor_lt_two_pow allP_lt (Nat.lt_of_le_of_lt Nat.and_le_left allP_lt)
theorem butJ_tb (J j b : Nat) : (butJ J j).testBit b = (decide (b < J) && !decide (j = b)) := by
  unfold butJ
  rw [tb_andn, Nat.testBit_two_pow_sub_one, Nat.testBit_two_pow]
theorem cV_but {T : tb} (hT : tb_ok T) (j : Nat) : cV T (butJ T.2.1 j) = cR (fun _ b => !(b == j)) T.2.2 := by
  funext a b
  show (if (butJ T.2.1 j).testBit b then T.2.2 a b else none) = (if (!(b == j)) = true then T.2.2 a b else none)
  rw [butJ_tb]
  by_cases hb : b < T.2.1
  · by_cases q : b = j
    · simp [q]
    · have : ¬ j = b := fun z => q z.symm
      simp [q, this, hb]
  · rw [hT.2.2.2 a b (by omega)]
    split <;> split <;> rfl
theorem cH_nn {L : List asg} (hb : lbd L) : (cH (lowL L) = (-9223372036854775808 : Int64)) ↔ lowL L = none := by
  cases hl : lowL L with
  | none => exact ⟨fun _ => rfl, fun _ => rfl⟩
  | some x =>
    obtain ⟨⟨p, hp, rfl⟩, _⟩ := lowL_some.mp hl
    have := hb.2 p hp
    constructor
    · intro q
      rw [cH_s, jJ_ns, jJ_eq (by omega) (by omega) (by omega) (by omega)] at q
      omega
    · intro q; cases q
theorem and_b (V j : Nat) (hj : j < 31) : nI V &&& ((1 : Int32) <<< (nI j &&& 31) ^^^ (-1 : Int32)) = nI (V ^^^ (V &&& 2 ^ j)) := by
  rw [nI_bit hj, nI_andn]
theorem ex_lbd {T : tb} (hT : tb_ok T) {c : cst} (hc : cbd 9999 c) {n : Nat} (hn : n ≤ 7) : lbd (ex c n 0 0) := by
  refine ⟨ex_40 c (by omega) hn, fun p hp => ?_⟩
  have := ex_bd hc hp
  have : (n : Int) ≤ 7 := by omega
  omega
theorem and_but (J j : Nat) (hj : j < 31) : nI (2 ^ J - 1) &&& ((1 : Int32) <<< (nI j &&& 31) ^^^ (-1 : Int32)) = nI (butJ J j) := and_b _ j hj
noncomputable def difO (a b : Option Int) : Int64 := @ite _ (a = none ∨ b = none) (Classical.propDecidable _) (-9223372036854775808) (cH a - cH b)
theorem difO_1 {a b : Option Int} (h : a = none) : difO a b = -9223372036854775808 := if_pos (Or.inl h)
theorem difO_2 {a b : Option Int} (h : b = none) : difO a b = -9223372036854775808 := if_pos (Or.inr h)
theorem difO_3 {a b : Option Int} (h : ¬ a = none) (h2 : ¬ b = none) : difO a b = cH a - cH b := if_neg (fun z => z.elim h h2)
theorem stp_16 : st_ok_16 Rel := by
  intro x s ⟨A, hok, hc, hr⟩
  have h7 := hok.1.1
  have h8 := hok.1.2.1
  rcases ix_J hok.1 x with hx | ⟨j, hj, rfl⟩
  · refine ⟨(-9223372036854775808, s), (-9223372036854775808, s), ?_, ?_, rfl, A, hok, hc, hr⟩
    · unfold f_X11_price
      rw [hJ_out hc.1 hx]; rfl
    · unfold f_X12_price
      rw [f_isJ_out hok.1 hr.1 hx]; rfl
  have okB := resT_ok hok.1 (fun _ b => !(b == j))
  have bB : lbd (allA (resT A.1 (fun _ b => !(b == j)))) := all_bd okB
  have bA : lbd (allA A.1) := all_bd hok.1
  refine st_q (f1 := f_X11_price (nI j)) (f2 := f_X12_price (nI j)) (difO (lowL (allA (resT A.1 (fun _ b => !(b == j))))) (lowL (allA A.1))) hok hc hr (fun hc => ?_) (lo_X11_price _) (cF_X11_price _) (fun s1 hr1 => ?_) (hi_X12_price _) (rF_X12_price _)
  · obtain ⟨s1, e1, g1, x1⟩ := d_cp hok.1 hc.1
    obtain ⟨s2, e2, g2, x2⟩ := d_bar h7 h8 g1 hj
    have g2' : gridIs 13 (resT A.1 (fun _ b => !(b == j))) s2 := gridF_ext g2 (fun a b _ _ => by
      show c64 (if (!(b == j)) = true then A.1.2.2 a b else none) = if b = j then 9223372036854775807 else c64 (A.1.2.2 a b)
      by_cases q : b = j
      · simp [q]; rfl
      · simp [q])
    obtain ⟨s3, e3, ⟨r3, _⟩, x3⟩ := d_rf (tb_ok_wk okB) g2'
    have c3 := d_cl (sx_tr x1 (sx_tr x2 x3)) hc
    refine ⟨(difO (lowL (allA (resT A.1 (fun _ b => !(b == j))))) (lowL (allA A.1)), s3), ?_, rfl⟩
    unfold f_X11_price f_X11_difference
    rw [bnd (hJ_in h8 hc.1 hj), if_neg n1_0, bnd e1, bnd e2, bnd e3, bnd (f_leastSum (tb_ok_wk okB) r3), bnd (f_leastSum (tb_ok_wk hok.1) c3.2.1)]
    by_cases q1 : lowL (allA (resT A.1 (fun _ b => !(b == j)))) = none
    · rw [if_pos ((cH_nn bB).mpr q1), Option.bind_some, difO_1 q1]
    · rw [if_neg (fun z => q1 ((cH_nn bB).mp z))]
      by_cases q2 : lowL (allA A.1) = none
      · rw [if_pos ((cH_nn bA).mpr q2), Option.bind_some, difO_2 q2]
      · rw [if_neg (fun z => q2 ((cH_nn bA).mp z)), Option.bind_some, difO_3 q1 q2]
  · have a1 := r_ln hok.1 hr1.1 (V := 2 ^ A.1.2.1 - 1) allP_lt
    rw [cV_all hok.1] at a1
    obtain ⟨p1, e1, v1, x1⟩ := a1
    have t1 := tab_g x1 hr1.1
    have a2 := r_ln hok.1 t1 (V := butJ A.1.2.1 j) butJ_lt
    rw [cV_but hok.1] at a2
    obtain ⟨p2, e2, v2, x2⟩ := a2
    have v1 : p1.1 = cH (lowL (allA A.1)) := v1
    have v2 : p2.1 = cH (lowL (allA (resT A.1 (fun _ b => !(b == j))))) := v2
    refine ⟨(difO (lowL (allA (resT A.1 (fun _ b => !(b == j))))) (lowL (allA A.1)), p2.2), ?_, rfl⟩
    unfold f_X12_price
    rw [bnd (f_isJ_in hok.1 hr1.1 hj), if_neg n1_0, bnd (f_allJobs hok.1 hr1.1), bnd e1, bnd (f_allJobs hok.1 t1), and_but _ _ (by omega)]
    rw [bnd e2, v1, v2]
    by_cases q1 : lowL (allA (resT A.1 (fun _ b => !(b == j)))) = none
    · rw [difO_1 q1]
      by_cases q2 : lowL (allA A.1) = none
      · rw [if_pos ((cH_nn bA).mpr q2)]
      · rw [if_neg (fun z => q2 ((cH_nn bA).mp z)), if_pos ((cH_nn bB).mpr q1)]
    · by_cases q2 : lowL (allA A.1) = none
      · rw [if_pos ((cH_nn bA).mpr q2), difO_2 q2]
      · rw [if_neg (fun z => q2 ((cH_nn bA).mp z)), if_neg (fun z => q1 ((cH_nn bB).mp z)), difO_3 q1 q2]
/-! pay: the others do without the worker and the job -/
theorem ex_notin {c : cst} : ∀ {n w S : Nat} {p : asg}, p ∈ ex c n w S → ∀ j, j ∈ p.1 → S.testBit j = false
  | 0, _, _, p, h, j, hj => by simp [ex] at h; rw [h] at hj; cases hj
  | n + 1, w, S, p, h, j, hj => by
    obtain ⟨i, x, q, _, _, h2, h3, rfl⟩ := mem_ex.mp h
    rcases List.mem_cons.mp hj with rfl | hj
    · exact h2
    · have := ex_notin h3 j hj
      rw [Nat.testBit_or] at this
      simp at this
      exact this.1
theorem ex_mono {c : cst} {jb : Nat} : ∀ {n w S S' : Nat} {q : asg}, (∀ j, S.testBit j = true → S'.testBit j = true) → S'.testBit jb = true → q ∈ ex c n w S' → q ∈ ex (cR (fun _ b => !(b == jb)) c) n w S
  | 0, _, _, _, q, _, _, h => h
  | n + 1, w, S, S', q, hS, hjb, h => by
    obtain ⟨i, x, q', hi, h1, h2, h3, rfl⟩ := mem_ex.mp h
    have hne : i ≠ jb := fun z => by rw [z, hjb] at h2; cases h2
    refine mem_ex.mpr ⟨i, x, q', hi, ?_, ?_, ex_mono (S' := S' ||| 2 ^ i) (fun j hj => ?_) ?_ h3, rfl⟩
    · show (if (!(i == jb)) = true then c w i else none) = some x
      simp [hne, h1]
    · cases hb : S.testBit i with
      | false => rfl
      | true => rw [hS i hb] at h2; cases h2
    · rw [Nat.testBit_or] at hj ⊢
      rcases Bool.or_eq_true_iff.mp hj with z | z
      · rw [hS j z]; rfl
      · rw [z]; simp
    · rw [Nat.testBit_or, hjb]; rfl
theorem ex_drop {c : cst} {b jb : Nat} : ∀ {n w S : Nat} {p : asg}, w ≤ b → p ∈ ex c (n + 1) w S → p.1[b - w]? = some jb → ∃ q, q ∈ ex (cR (fun _ b => !(b == jb)) (cD c b)) n w S
  | n, w, S, p, hwb, h, hp => by
    obtain ⟨i, x, q, hi, h1, h2, h3, rfl⟩ := mem_ex.mp h
    by_cases e : w = b
    · subst e
      rw [Nat.sub_self] at hp
      have : i = jb := by simpa using hp
      subst this
      refine ⟨q, ?_⟩
      have h4 := ex_mono (S := S) (jb := i) (fun j hj => by rw [Nat.testBit_or, hj]; rfl) (by rw [Nat.testBit_or, Nat.testBit_two_pow_self]; simp) h3
      rwa [ex_shift n (w + 1) w S (c := cR (fun _ b => !(b == i)) c) (c' := cR (fun _ b => !(b == i)) (cD c w)) (fun k j _ => by
        unfold cR cD
        rw [if_neg (show ¬ w + k < w by omega), show w + 1 + k = w + k + 1 by omega])]
    · rw [show b - w = (b - (w + 1)) + 1 by omega] at hp
      have hp : q.1[b - (w + 1)]? = some jb := by simpa using hp
      cases n with
      | zero =>
        have := ex_row h3
        have hl : b - (w + 1) < q.1.length := (List.getElem?_eq_some_iff.mp hp).1
        omega
      | succ n =>
        obtain ⟨q', hq'⟩ := ex_drop (n := n) (w := w + 1) (by omega) h3 hp
        have hne : i ≠ jb := fun z => by
          have := ex_notin h3 jb (List.mem_of_getElem? hp)
          rw [← z, Nat.testBit_or, Nat.testBit_two_pow_self] at this
          simp at this
        refine ⟨(i :: q'.1, x + q'.2), mem_ex.mpr ⟨i, x, q', hi, ?_, h2, hq', rfl⟩⟩
        show (if (!(i == jb)) = true then cD c b w i else none) = some x
        unfold cD
        rw [if_pos (show w < b by omega)]
        simp [hne, h1]
theorem stp_17 : st_ok_17 Rel := by
  intro x s ⟨A, hok, hc, hr⟩
  have h7 := hok.1.1
  have h8 := hok.1.2.1
  rcases ix_W hok.1 x with hx | ⟨w, hw, rfl⟩
  · refine ⟨(-9223372036854775808, s), (-9223372036854775808, s), ?_, ?_, rfl, A, hok, hc, hr⟩
    · unfold f_X11_pay
      rw [hW_out hc.1 hx]; rfl
    · unfold f_X12_pay
      rw [f_isW_out hok.1 hr.1 hx]; rfl
  have bA : lbd (allA A.1) := all_bd hok.1
  have hin : ¬ (nI w < 0 ∨ 7 ≤ (nI w).toNatClampNeg) := by
    rw [nI_cl (by omega)]
    exact fun q => q.elim (nI_pos (by omega)) (by omega)
  cases hlow : lowL (allA A.1) with
  | none =>
    have hnil := lowL_none.mp hlow
    refine st_q (f1 := f_X11_pay (nI w)) (f2 := f_X12_pay (nI w)) (-9223372036854775808) hok hc hr (fun hc => ⟨(-9223372036854775808, s), ?_, rfl⟩) (lo_X11_pay _) (cF_X11_pay _) (fun s1 hr1 => ?_) (hi_X12_pay _) (rF_X12_pay _)
    · unfold f_X11_pay
      rw [bnd (hW_in h7 hc.1 hw), if_neg n1_0, bnd (ff_0 hc.2.1 hnil)]; rfl
    · obtain ⟨s2, e2, hl, ht, _⟩ := r_all hok hr1
      obtain ⟨b, e3, hB⟩ := r_least bA hl
      have : b = none := by
        cases b with
        | none => rfl
        | some k =>
          obtain ⟨p, _, hp, _⟩ := hB
          rw [hnil] at hp; simp at hp
      subst this
      refine ⟨(-9223372036854775808, s2), ?_, rfl⟩
      unfold f_X12_pay
      rw [bnd (f_isW_in hok.1 hr1.1 hw), if_neg n1_0, bnd e2, bnd e3, if_pos (show oI none = -1 from rfl)]
  | some lo =>
    obtain ⟨p, hp, hpm, hpl⟩ := fmin_some hlow
    obtain ⟨j, hpj⟩ := row_get (all_row hpm).1 hw
    have hj8 := (all_row hpm).2 j (List.mem_of_getElem? hpj)
    obtain ⟨n, hn⟩ : ∃ n, A.1.1 = n + 1 := ⟨A.1.1 - 1, by omega⟩
    have hpm' : p ∈ ex A.1.2.2 (n + 1) 0 0 := by rw [← hn]; exact hpm
    have hjJ : j < A.1.2.1 := by
      have : okR (fun a b => decide (b < A.1.2.1)) 0 p.1 = true := by
        have e : cR (fun a b => decide (b < A.1.2.1)) A.1.2.2 = A.1.2.2 := by
          funext a b
          show (if decide (b < A.1.2.1) = true then A.1.2.2 a b else none) = _
          by_cases q : b < A.1.2.1
          · simp [q]
          · simp [q]; exact (hok.1.2.2.2 a b (by omega)).symm
        have h := ex_R (fun a b => decide (b < A.1.2.1)) A.1.2.2 A.1.1 0 0
        rw [e] at h
        have hm : p ∈ (ex A.1.2.2 A.1.1 0 0).filter (fun p => okR (fun a b => decide (b < A.1.2.1)) 0 p.1) := by rw [← h]; exact hpm
        exact (List.mem_filter.mp hm).2
      have := (okR_iff p.1 0).mp this w j hpj
      simpa using this
    obtain ⟨q, hq⟩ := ex_drop (b := w) (jb := j) (Nat.zero_le _) hpm' (by rw [Nat.sub_zero]; exact hpj)
    have okD := goW_ok hok.1 hw
    have okE := resT_ok okD (fun _ b => !(b == j))
    have eD : (goW A.1 w).2.2 = cD A.1.2.2 w := rfl
    have neE : lowL (allA (resT (goW A.1 w) (fun _ b => !(b == j)))) ≠ none := by
      intro z
      have z2 : ex (cR (fun _ b => !(b == j)) (cD A.1.2.2 w)) (A.1.1 - 1) 0 0 = [] := lowL_none.mp z
      rw [hn] at z2
      have z3 : ex (cR (fun _ b => !(b == j)) (cD A.1.2.2 w)) n 0 0 = [] := z2
      rw [z3] at hq; cases hq
    have neD : lowL (allA (goW A.1 w)) ≠ none := by
      intro z
      have z2 := lowL_none.mp z
      apply neE
      rw [lowL_none, resT_all, z2]; rfl
    have bD : lbd (allA (goW A.1 w)) := all_bd okD
    have bE : lbd (allA (resT (goW A.1 w) (fun _ b => !(b == j)))) := all_bd okE
    refine st_q (f1 := f_X11_pay (nI w)) (f2 := f_X12_pay (nI w)) (cH (lowL (allA (resT (goW A.1 w) (fun _ b => !(b == j))))) - cH (lowL (allA (goW A.1 w)))) hok hc hr (fun hc => ?_) (lo_X11_pay _) (cF_X11_pay _) (fun s1 hr1 => ?_) (hi_X12_pay _) (rF_X12_pay _)
    · obtain ⟨r0, e0, v0, row0, x0⟩ := ff_1 (ra := 56) (tb_ok_wk hok.1) hc.1 hc.2.1 (by omega) hp
      have g0 : gridIs 3 A.1 r0.2 := grid_eq x0 (fun z => z) (fun z => z) (fun z => z) hc.1
      obtain ⟨s1, e1, g1, x1⟩ := d_cp hok.1 g0
      obtain ⟨s2, e2, g2, x2⟩ := d_drop h7 h8 g1 hw
      have g2' : gridIs 13 (goW A.1 w) s2 := gridF_ext g2 (fun a b _ _ => by
        show c64 (if a < w then A.1.2.2 a b else A.1.2.2 (a + 1) b) = _
        split <;> rfl)
      obtain ⟨s3, e3, ⟨r3, g3⟩, x3⟩ := d_rf (tb_ok_wk okD) g2'
      have row3 : rA s3 56 w = nI j := by
        rw [(sx_tr x1 (sx_tr x2 x3)).2.2.1 56 w (by simp only [dD]; omega)]
        exact row0 w j hpj
      obtain ⟨s4, e4, g4, x4⟩ := d_bar (W := A.1.1 - 1) (by omega) h8 g3 hjJ
      have g4' : gridIs 13 (resT (goW A.1 w) (fun _ b => !(b == j))) s4 := gridF_ext g4 (fun a b _ _ => by
        show c64 (if (!(b == j)) = true then (goW A.1 w).2.2 a b else none) = if b = j then 9223372036854775807 else c64 ((goW A.1 w).2.2 a b)
        by_cases q : b = j
        · simp [q]; rfl
        · simp [q])
      obtain ⟨s5, e5, ⟨r5, _⟩, x5⟩ := d_rf (tb_ok_wk okE) g4'
      refine ⟨(_, s5), ?_, rfl⟩
      unfold f_X11_pay f_X11_difference
      rw [bnd (hW_in h7 hc.1 hw), if_neg n1_0, bnd e0, v0, if_neg n1_0, bnd e1, bnd e2, bnd e3, bnd (f_leastSum (tb_ok_wk okD) r3), if_pos hin, nI_cl (by omega), row3, bnd e4, bnd e5, bnd (f_leastSum (tb_ok_wk okE) r5)]
      rw [if_neg (fun z => neE ((cH_nn bE).mp z)), if_neg (fun z => neD ((cH_nn bD).mp z))]; rfl
    · obtain ⟨s2, e2, hl, ht, x2⟩ := r_all hok hr1
      obtain ⟨b, e3, hB⟩ := r_least bA hl
      cases b with
      | none =>
        have := isB_none hB
        rw [List.filter_eq_self.mpr (fun _ _ => rfl), hlow] at this
        cases this
      | some k =>
        obtain ⟨pk, hpk, _, _, hfm⟩ := isB_some hB
        have : pk = p := by
          have := hfm rfl
          rw [hp] at this
          exact (Option.some.inj this).symm
        subst this
        have hk : k < (allA A.1).length := (List.getElem?_eq_some_iff.mp hpk).1
        have hjo := r_job hok.1 ht hl hpk (by have := bA.1; omega) (all_row hpm).1 (all_row hpm).2 hpj
        have a1 := r_ow hok.1 ht (V := butJ A.1.2.1 j) butJ_lt hw
        obtain ⟨p1, e4, v4, x4⟩ := a1
        have t4 := tab_g x4 ht
        have a2 := r_ow hok.1 t4 (V := 2 ^ A.1.2.1 - 1) allP_lt hw
        rw [cV_all hok.1] at a2
        obtain ⟨p2, e5, v5, x5⟩ := a2
        have eE : cD (cV A.1 (butJ A.1.2.1 j)) w = (resT (goW A.1 w) (fun _ b => !(b == j))).2.2 := by
          rw [cV_but hok.1]
          funext a b
          show (if a < w then (if (!(b == j)) = true then A.1.2.2 a b else none) else (if (!(b == j)) = true then A.1.2.2 (a + 1) b else none)) = (if (!(b == j)) = true then (if a < w then A.1.2.2 a b else A.1.2.2 (a + 1) b) else none)
          split <;> split <;> rfl
        rw [eE] at v4
        have v4 : p1.1 = cH (lowL (allA (resT (goW A.1 w) (fun _ b => !(b == j))))) := v4
        have v5 : p2.1 = cH (lowL (allA (goW A.1 w))) := v5
        refine ⟨(p1.1 - p2.1, p2.2), ?_, by rw [v4, v5]⟩
        unfold f_X12_pay
        rw [bnd (f_isW_in hok.1 hr1.1 hw), if_neg n1_0, bnd e2, bnd e3, if_neg (show ¬ oI (some k) = -1 from of_eq_false (nI_m_F (a := k) (by have := bA.1; omega))), oI_s, bnd hjo, bnd (f_allJobs hok.1 ht), and_but _ _ (by omega)]
        rw [bnd e4, bnd (f_allJobs hok.1 t4), bnd e5]
