/-! how many come ahead of an assignment -/
theorem f_before {T : tb} {s : sx_M} {ra : Nat} (hT : tb_ok T) (hg : gridIs 3 T s) (hr : ranksIs 3 T s) {p : asg} (hp : p ∈ allA T) (hrow : ∀ i j, p.1[i]? = some j → rA s ra i = nI j) : f_X5_before 3 ra s = some (nI (cnB (-1000000000) (p.2 - 1) (allA T) + bef T.2.2 0 0 p.2 p.1), s) := by
  have h7 := hT.1
  have h8 := hT.2.1
  have hw := tb_ok_wk hT
  obtain ⟨hl, hok, hsum⟩ := ex_iff.mp hp
  have hpb := (all_bd hT).2 p hp
  have hL : ∀ n w r S v F, w + n = T.1 → p.1.drop w = r → pcn S = w → S < 2 ^ T.2.1 → okV T.2.2 w S r → -20000000 - 100000 * (w : Int) ≤ v → v ≤ 20000000 + 100000 * (w : Int) → whT (f_X5_before_L24 3 ra) (jJ v, nI F, nI S, nI w, s) = some (nI (F + bef T.2.2 w S v r), s) := by
    intro n
    induction n with
    | zero =>
      intro w r S v F hwn hdr hpc hS hok hv1 hv2
      have : r = [] := by rw [← hdr]; exact List.drop_eq_nil_of_le (by omega)
      subst this
      rw [whT_eq]
      simp only [f_X5_before_L24, hg.1]
      rw [if_pos (nI_le (by omega) (by omega))]; rfl
    | succ n ih =>
      intro w r S v F hwn hdr hpc hS hok hv1 hv2
      have hS2 : S < 256 := pw_256 h8 hS
      obtain ⟨j, hj⟩ := row_get hl (show w < T.1 by omega)
      have hr2 : r = j :: p.1.drop (w + 1) := by
        rw [← hdr]
        obtain ⟨hlt, e⟩ := List.getElem?_eq_some_iff.mp hj
        rw [List.drop_eq_getElem_cons hlt, e]
      rw [hr2] at hok
      obtain ⟨a1, a2, a3, a4⟩ := hok
      obtain ⟨x, hx⟩ := Option.isSome_iff_exists.mp a2
      have hxb := hT.2.2.1 _ _ x hx
      have hjJ : j < T.2.1 := Decidable.byContradiction (fun q => by rw [hT.2.2.2 w j (by omega)] at hx; cases hx)
      have hlen : (p.1.drop (w + 1)).length = n := by rw [List.length_drop]; omega
      have hin : ¬ (nI w < 0 ∨ 7 ≤ (nI w).toNatClampNeg) := by
        rw [nI_cl (by omega)]
        exact fun q => q.elim (nI_pos (by omega)) (by omega)
      have hrw := hrow w j hj
      have hinner : whT (f_X5_before_L46 3 ra (jJ v) (nI S) (nI w)) (nI (F + cnB v v (exT T.2.2 n w S 0)), nI 0, s) = some (nI (F + cnB v v (exT T.2.2 n w S j)), s) := by
        refine wh_for (fun k => (nI (F + cnB v v (exT T.2.2 n w S k)), nI k, s)) j (fun k hk => ?_) ?_ rfl
        · simp only [f_X5_before_L46]
          rw [if_pos hin, nI_cl (by omega), hrw, if_neg (nI_ge hk (by omega)), bnd (at_all hT hg (by omega) (show k < 8 by omega)), nI_1, exT_s, cnB_app]
          cases hc : T.2.2 w k with
          | none => rw [if_pos c64_n, br_none hc]; rfl
          | some y =>
            have hyb := hT.2.2.1 _ _ y hc
            have hkJ : k < T.2.1 := by omega
            rw [c64_s, if_neg (of_eq_false (jnv (by omega) (by omega))), nI_has (by omega) (by omega)]
            cases hb : S.testBit k with
            | true => rw [if_neg (show ¬ nI (if true = true then 1 else 0) = 0 by decide), br_in hb]; rfl
            | false =>
              have hp1 := pcn_or hS2 (show k < 8 by omega) hb
              have hbt := f_between (S := S ||| 2 ^ k) (a := v - y) (b := v - y) hw hg hr (or_lt hS hkJ) (by omega) (by omega) (by omega) (Or.inl (by omega))
              have eS : exS T (S ||| 2 ^ k) = ex T.2.2 n (w + 1) (S ||| 2 ^ k) := by
                unfold exS; rw [hp1, hpc, show T.1 - (w + 1) = n by omega]
              rw [eS, hp1, hpc] at hbt
              rw [if_pos (show nI (if false = true then 1 else 0) = 0 by decide), nI_bit (by omega), nI_or, nI_1, jJ_sub, bnd hbt, nI_add, br_some hc hb, cnB_bx, Nat.add_assoc]
        · simp only [f_X5_before_L46]
          rw [if_pos hin, nI_cl (by omega), hrw, if_pos (nI_le (Nat.le_refl _) (by omega))]
      have hinner' : whT (f_X5_before_L46 3 ra (jJ v) (nI S) (nI w)) (nI F, 0, s) = some (nI (F + cnB v v (exT T.2.2 n w S j)), s) := hinner
      rw [whT_eq]
      simp only [f_X5_before_L24, hg.1]
      rw [if_neg (nI_ge (by omega) (by omega)), if_neg (show ¬ (7 : Int32) ≤ nI w from nI_ge (b := 7) (by omega) (by omega)), bnd hinner', if_pos hin, if_pos hin, nI_cl (by omega), hrw, bnd (at_all hT hg (by omega) a1), hx, c64_s, jJ_sub, nI_bit (by omega), nI_or, nI_1]
      show whT _ _ = _
      rw [ih (w + 1) _ (S ||| 2 ^ j) (v - x) _ (by omega) rfl (by rw [pcn_or hS2 a1 a3, hpc]) (or_lt hS hjJ) a4 (by omega) (by omega), hr2]
      show some (nI (F + cnB v v (exT T.2.2 n w S j) + bef T.2.2 (w + 1) (S ||| 2 ^ j) (v - x) (p.1.drop (w + 1))), s) = some (nI (F + (cnB v v (exT T.2.2 (p.1.drop (w + 1)).length w S j) + bef T.2.2 (w + 1) (S ||| 2 ^ j) (v - (T.2.2 w j).getD 0) (p.1.drop (w + 1)))), s)
      rw [hlen, hx, Nat.add_assoc]; rfl
  have h1 := f_upTo hw hg hr (b := p.2 - 1) (by omega)
  have h2 := hL T.1 0 p.1 0 p.2 (cnB (-1000000000) (p.2 - 1) (allA T)) (by omega) rfl pcn_0 (Nat.pow_pos (by omega)) hok (by omega) (by omega)
  unfold f_X5_before
  rw [bnd (f_sumOf hT hg hp hrow), show jJ p.2 - (1 : Int64) = jJ (p.2 - 1) by rw [show (1 : Int64) = jJ 1 by decide, jJ_sub], bnd h1]
  exact bnd h2 _
theorem dec_neg {g ra : Nat} {x : Int32} {s : sx_M} (h : x < 0) : f_X1_decode g ra x s = some (0, s) := by
  unfold f_X1_decode
  rw [if_pos h]
theorem i32_nat (x : Int32) : x < 0 ∨ ∃ t, t < 2147483648 ∧ x = nI t := by
  by_cases h : x < 0
  · exact Or.inl h
  · right
    have h1 := Int32.toInt_lt x
    rw [Int32.lt_iff_toInt_lt, show (0 : Int32).toInt = 0 by decide] at h
    refine ⟨x.toInt.toNat, by omega, ?_⟩
    apply Int32.toInt_inj.mp
    rw [nI_toInt (by omega)]
    omega
/-- the reference looks a told row up -/
theorem r_find {T : tb} {s : sx_M} (hT : tb_ok T) (hl : lst (allA T) s) (x : Int32) {f : Int32 → (Int32 × Int32 × sx_M) → Option ((Int32 × Int32 × sx_M) ⊕ (Int32 × sx_M))} (hf : ∀ a, f x a = (if (rI a.2.2 58 15) ≤ a.2.1 then some (.inr (a.1, a.2.2)) else (if ¬ (a.2.1 < 0 ∨ 40320 ≤ (a.2.1).toNatClampNeg) then (if (rA a.2.2 63 (a.2.1).toNatClampNeg) = x then some (.inl (a.2.1, (a.2.1 + (1 : Int32)), a.2.2)) else some (.inl (a.1, (a.2.1 + (1 : Int32)), a.2.2))) else none))) : ∃ b : Option Nat, whT (f x) (-1, 0, s) = some (oI b, s) ∧ (b = none → ∀ p, p ∈ allA T → nI (cod p.1) ≠ x) ∧ (∀ k, b = some k → ∃ p, (allA T)[k]? = some p ∧ nI (cod p.1) = x) := by
  have h40 := (all_bd hT).1
  have : Ev (whT (f x) (-1, 0, s)) (fun r => ∃ b : Option Nat, r = (oI b, s) ∧ (b = none → ∀ m p, m < (allA T).length → (allA T)[m]? = some p → nI (cod p.1) ≠ x) ∧ (∀ k, b = some k → ∃ p, (allA T)[k]? = some p ∧ nI (cod p.1) = x)) := by
    refine ev_f (fun i a => ∃ b : Option Nat, a = (oI b, nI i, s) ∧ (b = none → ∀ m p, m < i → (allA T)[m]? = some p → nI (cod p.1) ≠ x) ∧ (∀ k, b = some k → ∃ p, (allA T)[k]? = some p ∧ nI (cod p.1) = x)) (allA T).length ?_ ?_ (i := 0) (by omega) ⟨none, rfl, fun _ m p hm => by omega, fun k q => by cases q⟩
    · rintro i a hi ⟨b, rfl, h1, h2⟩
      obtain ⟨p, hp⟩ : ∃ p, (allA T)[i]? = some p := ⟨(allA T)[i], List.getElem?_eq_getElem hi⟩
      have hin : ¬ (nI i < 0 ∨ 40320 ≤ (nI i).toNatClampNeg) := by
        rw [nI_cl (by omega)]
        exact fun q => q.elim (nI_pos (by omega)) (by omega)
      rw [hf]
      simp only [hl.1]
      rw [if_neg (nI_ge hi (by omega)), if_pos hin, nI_cl (by omega), (hl.2 i p hp).1]
      by_cases q : nI (cod p.1) = x
      · exact ⟨.inl (nI i, nI (i + 1), s), by rw [if_pos q, nI_1], some i, rfl, (fun z => by cases z), fun k z => by cases z; exact ⟨p, hp, q⟩⟩
      · refine ⟨.inl (oI b, nI (i + 1), s), by rw [if_neg q, nI_1], b, rfl, fun z m p' hm hp' => ?_, h2⟩
        by_cases z2 : m = i
        · rw [z2, hp] at hp'; cases hp'; exact q
        · exact h1 z m p' (by omega) hp'
    · rintro a ⟨b, rfl, h1, h2⟩
      refine ⟨.inr (oI b, s), ?_, b, rfl, h1, h2⟩
      rw [hf]
      simp only [hl.1]
      rw [if_pos (nI_le (Nat.le_refl _) (by omega))]
  obtain ⟨r, e, b, rfl, h1, h2⟩ := this
  refine ⟨b, e, fun z p hp => ?_, h2⟩
  obtain ⟨m, hm⟩ := List.getElem?_of_mem hp
  exact h1 z m p (List.getElem?_eq_some_iff.mp hm).1 hm
theorem cod_21 {T : tb} (hT : tb_ok T) {p : asg} (hp : p ∈ allA T) : cod p.1 < 2097152 := by
  have := cod_lt p.1 (all_row hp).2
  rw [(all_row hp).1] at this
  exact Nat.lt_of_lt_of_le this (le87 hT.1)
theorem stp_10 : st_ok_10 Rel := by
  intro x s ⟨A, hok, hc, hr⟩
  have bA : lbd (allA A.1) := all_bd hok.1
  have h40 := bA.1
  -- what is told is an assignment, or none
  have hd : (∀ p, p ∈ allA A.1 → nI (cod p.1) ≠ x) ∧ (∀ s, clA A s → Ev (f_X1_decode 3 56 x s) (fun r => r.1 = 0 ∧ sx_eq (Dar 56) s r.2)) ∨ ∃ p, p ∈ allA A.1 ∧ nI (cod p.1) = x ∧ ∀ s, clA A s → Ev (f_X1_decode 3 56 x s) (fun r => r.1 = 1 ∧ (∀ i j, p.1[i]? = some j → rA r.2 56 i = nI j) ∧ sx_eq (Dar 56) s r.2) := by
    rcases i32_nat x with h | ⟨t, ht, rfl⟩
    · refine Or.inl ⟨fun p hp q => ?_, fun s _ => ⟨(0, s), dec_neg h, rfl, sx_rf _ _⟩⟩
      have := cod_21 hok.1 hp
      rw [← q] at h
      exact nI_pos (by omega) h
    · by_cases q : ∃ p, p ∈ allA A.1 ∧ cod p.1 = t
      · obtain ⟨p, hp, hpt⟩ := q
        refine Or.inr ⟨p, hp, by rw [hpt], fun s hc => ?_⟩
        obtain ⟨r, e, h, hx⟩ := f_decode (ra := 56) hok.1 hc.1 t ht
        rcases h with ⟨v, p', hp', hc', hrow⟩ | ⟨v, hn⟩
        · have : p' = p := by
            obtain ⟨i, hi⟩ := List.getElem?_of_mem hp
            obtain ⟨k, hk⟩ := List.getElem?_of_mem hp'
            have := (ex_inj hk hi).2 (by rw [hc', hpt])
            rw [this] at hk
            rw [hi] at hk
            exact (Option.some.inj hk).symm
          subst this
          exact ⟨r, e, v, hrow, hx⟩
        · exact absurd hpt (hn p hp)
      · refine Or.inl ⟨fun p hp z => q ⟨p, hp, ?_⟩, fun s hc => ?_⟩
        · have := cod_21 hok.1 hp
          exact (nI_eq (by omega) (by omega)).mp z
        · obtain ⟨r, e, h, hx⟩ := f_decode (ra := 56) hok.1 hc.1 t ht
          rcases h with ⟨v, p', hp', hc', hrow⟩ | ⟨v, hn⟩
          · exact absurd ⟨p', hp', hc'⟩ q
          · exact ⟨r, e, v, hx⟩
  rcases hd with ⟨hno, hcd⟩ | ⟨p, hp, hpx, hcd⟩
  · refine st_q (f1 := f_X11_place x) (f2 := f_X12_place x) (-1) hok hc hr (fun hc => ?_) (lo_X11_place _) (cF_X11_place _) (fun s1 hr1 => ?_) (hi_X12_place _) (rF_X12_place _)
    · obtain ⟨r, e, v, hx⟩ := hcd s hc
      refine ⟨(-1, r.2), ?_, rfl⟩
      unfold f_X11_place
      rw [bnd e, if_pos v]
    · obtain ⟨s2, e2, hl, ht, _⟩ := r_all hok hr1
      obtain ⟨b, e3, h1, h2⟩ := r_find (f := f_X12_place_L8) hok.1 hl x (fun a => rfl)
      have : b = none := by
        cases b with
        | none => rfl
        | some k =>
          obtain ⟨p, hp, hpx⟩ := h2 k rfl
          exact absurd hpx (hno p (List.mem_of_getElem? hp))
      subst this
      have hL : whT (f_X12_place_L43 (oI none)) (0, 0, s2) = some (0, s2) := by
        rw [whT_eq]
        simp only [f_X12_place_L43, hl.1]
        by_cases q : nI (allA A.1).length ≤ 0
        · rw [if_pos q]; rfl
        · rw [if_neg q, if_pos (show oI none = -1 from rfl)]; rfl
      refine ⟨(-1, s2), ?_, rfl⟩
      unfold f_X12_place
      rw [bnd e2, bnd e3, bnd hL, if_pos (show oI none = -1 from rfl)]
  · have hpb := bA.2 p hp
    refine st_q (f1 := f_X11_place x) (f2 := f_X12_place x) (nI (cnB (-1000000000) (p.2 - 1) (allA A.1) + bef A.1.2.2 0 0 p.2 p.1)) hok hc hr (fun hc => ?_) (lo_X11_place _) (cF_X11_place _) (fun s1 hr1 => ?_) (hi_X12_place _) (rF_X12_place _)
    · obtain ⟨r, e, v, hrow, hx⟩ := hcd s hc
      have g1 : gridIs 3 A.1 r.2 := grid_eq hx (fun z => z) (fun z => z) (fun z => z) hc.1
      have r1 : ranksIs 3 A.1 r.2 := ranks_eq hx (by simp only [Dar]; omega) (fun z => z) (fun z => z) hc.2.1
      refine ⟨(_, r.2), ?_, rfl⟩
      unfold f_X11_place
      rw [bnd e, v, if_neg n1_0]
      exact bnd (f_before hok.1 g1 r1 hp hrow) _
    · obtain ⟨s2, e2, hl, ht, _⟩ := r_all hok hr1
      obtain ⟨b, e3, h1, h2⟩ := r_find (f := f_X12_place_L8) hok.1 hl x (fun a => rfl)
      cases b with
      | none => exact absurd hpx (h1 rfl p hp)
      | some k =>
        obtain ⟨p', hp', hpx'⟩ := h2 k rfl
        have hk : k < (allA A.1).length := (List.getElem?_eq_some_iff.mp hp').1
        obtain ⟨i0, hi0, hbef⟩ := bef_ex p.2 hp
        have hi0' : (allA A.1)[i0]? = some p := hi0
        have c1 := cod_21 hok.1 hp
        have c2 := cod_21 hok.1 (List.mem_of_getElem? hp')
        have hik : i0 = k := (ex_inj hi0' hp').2 ((nI_eq (by omega) (by omega)).mp (by rw [hpx, hpx']))
        subst hik
        rw [hi0'] at hp'
        cases hp'
        have hin0 : ¬ (nI i0 < 0 ∨ 40320 ≤ (nI i0).toNatClampNeg) := by
          rw [nI_cl (by omega)]
          exact fun q => q.elim (nI_pos (by omega)) (by omega)
        have hm1 : ¬ nI i0 = (-1 : Int32) := of_eq_false (nI_m_F (a := i0) (by omega))
        have hL : whT (f_X12_place_L43 (nI i0)) (nI (cnB (-1000000000) (p.2 - 1) ((allA A.1).take 0) + cnB p.2 p.2 ((allA A.1).take (min 0 i0))), nI 0, s2) = some (nI (cnB (-1000000000) (p.2 - 1) ((allA A.1).take (allA A.1).length) + cnB p.2 p.2 ((allA A.1).take (min (allA A.1).length i0))), s2) := by
          refine wh_for (fun i => (nI (cnB (-1000000000) (p.2 - 1) ((allA A.1).take i) + cnB p.2 p.2 ((allA A.1).take (min i i0))), nI i, s2)) (allA A.1).length (fun i hi => ?_) ?_ rfl
          · obtain ⟨q, hq⟩ : ∃ q, (allA A.1)[i]? = some q := ⟨(allA A.1)[i], List.getElem?_eq_getElem hi⟩
            have hqb := bA.2 q (List.mem_of_getElem? hq)
            have hin : ¬ (nI i < 0 ∨ 40320 ≤ (nI i).toNatClampNeg) := by
              rw [nI_cl (by omega)]
              exact fun q => q.elim (nI_pos (by omega)) (by omega)
            have t1 : cnB (-1000000000) (p.2 - 1) ((allA A.1).take (i + 1)) = cnB (-1000000000) (p.2 - 1) ((allA A.1).take i) + (if q.2 < p.2 then 1 else 0) := by
              unfold cnB
              rw [cp_take hq]
              congr 1
              by_cases z : q.2 < p.2
              · rw [if_pos z, if_pos (by simp; omega)]
              · rw [if_neg z, if_neg (by simp; omega)]
            have t2 : cnB p.2 p.2 ((allA A.1).take (min (i + 1) i0)) = cnB p.2 p.2 ((allA A.1).take (min i i0)) + (if i < i0 ∧ q.2 = p.2 then 1 else 0) := by
              by_cases z : i < i0
              · rw [show min (i + 1) i0 = i + 1 by omega, show min i i0 = i by omega]
                unfold cnB
                rw [cp_take hq]
                congr 1
                by_cases z2 : q.2 = p.2
                · rw [if_pos (show (decide (p.2 ≤ q.2) && decide (q.2 ≤ p.2)) = true by simp; omega), if_pos (show i < i0 ∧ q.2 = p.2 from ⟨z, z2⟩)]
                · rw [if_neg (show ¬ (decide (p.2 ≤ q.2) && decide (q.2 ≤ p.2)) = true by simp; omega), if_neg (show ¬ (i < i0 ∧ q.2 = p.2) from fun y => z2 y.2)]
              · rw [show min (i + 1) i0 = i0 by omega, show min i i0 = i0 by omega, if_neg (show ¬ (i < i0 ∧ q.2 = p.2) from fun y => z y.1), Nat.add_zero]
            simp only [f_X12_place_L43, f_X12_place_L43_J101, hl.1]
            rw [if_neg (nI_ge hi (by omega)), if_neg hm1, if_pos hin, if_pos hin0, if_pos hin, if_pos hin0, nI_cl (by omega), nI_cl (by omega), (hl.2 i q hq).2, (hl.2 i0 p hi0').2, t1, t2, nI_1]
            by_cases z : q.2 < p.2
            · rw [if_pos (of_eq_true (iI_lt_T z (by omega) (by omega))), if_pos z, if_neg (show ¬ (i < i0 ∧ q.2 = p.2) by omega), nI_1]
              congr 4
              omega
            · rw [if_neg (of_eq_false (iI_lt_F (by omega) (by omega) (by omega))), if_neg z]
              by_cases z2 : q.2 = p.2
              · rw [z2, if_pos rfl]
                by_cases z3 : i < i0
                · rw [if_neg (nI_ge z3 (by omega)), if_pos (show i < i0 ∧ p.2 = p.2 from ⟨z3, rfl⟩), nI_1]
                  congr 4
                · rw [if_pos (nI_le (by omega) (by omega)), if_neg (show ¬ (i < i0 ∧ p.2 = p.2) from fun y => z3 y.1), show (0 : Int32) = nI 0 from rfl, nI_add, nI_1]
                  simp only [Nat.add_zero]
              · rw [if_neg (of_eq_false (iI_eq_F z2 (by omega) (by omega) (by omega) (by omega))), if_neg (show ¬ (i < i0 ∧ q.2 = p.2) from fun y => z2 y.2), show (0 : Int32) = nI 0 from rfl, nI_add, nI_1]
                simp only [Nat.add_zero]
          · simp only [f_X12_place_L43, hl.1]
            rw [if_pos (nI_le (Nat.le_refl _) (by omega))]
        rw [List.take_length, show min (allA A.1).length i0 = i0 by omega] at hL
        have hbef' : cnB p.2 p.2 ((allA A.1).take i0) = bef A.1.2.2 0 0 p.2 p.1 := hbef
        rw [hbef'] at hL
        refine ⟨(nI (cnB (-1000000000) (p.2 - 1) (allA A.1) + bef A.1.2.2 0 0 p.2 p.1), s2), ?_, rfl⟩
        unfold f_X12_place
        have hL' : whT (f_X12_place_L43 (nI i0)) (0, 0, s2) = some (nI (cnB (-1000000000) (p.2 - 1) (allA A.1) + bef A.1.2.2 0 0 p.2 p.1), s2) := by
          rw [show min 0 i0 = 0 by omega] at hL
          exact hL
        rw [bnd e2, bnd e3, oI_s, bnd hL', if_neg hm1]
