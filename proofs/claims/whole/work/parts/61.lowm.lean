/-! the least sum and the first of it, as both sides find them -/
theorem wk_40 {T : tb} (hT : tb_wk T) : (allA T).length ≤ 40320 := ex_40 _ (by omega) hT.1
theorem f_leastSum {g : Nat} {T : tb} {s : sx_M} (hT : tb_wk T) (hr : ranksIs g T s) : f_X5_leastSum g s = some (cH (lowL (allA T)), s) := by
  have h40 := wk_40 hT
  have h := hr 0 (Nat.pow_pos (by omega)) (by rw [pcn_0]; omega)
  rw [exS_0] at h
  unfold f_X5_leastSum
  rw [show (0 : Int32).toNatClampNeg = 0 by decide, h.1]
  by_cases q : (allA T).length = 0
  · rw [q, if_pos (show nI 0 = 0 from rfl), List.eq_nil_of_length_eq_zero q]; rfl
  · rw [if_neg (nI_ne0 (by omega) (by omega)), (h.2 (by omega)).1]
    cases hl : lowL (allA T) with
    | none => rw [lowL_none.mp hl] at q; exact absurd rfl q
    | some x => rfl
theorem rk_at {g : Nat} {T : tb} {s : sx_M} (hr : ranksIs g T s) {S : Nat} (hS : S < 2 ^ T.2.1) (hp : pcn S ≤ T.1) : rA s (g + 3) S = nI (exS T S).length ∧ (0 < (exS T S).length → rB s (g + 4) S = c64 (lowL (exS T S)) ∧ rB s (g + 5) S = c64 (higL (exS T S))) := hr S hS hp
theorem exS_s {T : tb} {S n : Nat} (h : pcn S + n + 1 = T.1) : exS T S = ex T.2.2 (n + 1) (pcn S) S := by
  unfold exS
  rw [show T.1 - pcn S = n + 1 by omega]
theorem exS_then {T : tb} {S n j : Nat} (h : pcn S + n + 1 = T.1) (hS : S < 256) (hj : j < 8) (hb : S.testBit j = false) : exS T (S ||| 2 ^ j) = ex T.2.2 n (pcn S + 1) (S ||| 2 ^ j) := by
  unfold exS
  rw [pcn_or hS hj hb, show T.1 - (pcn S + 1) = n by omega]
theorem exS_40 {T : tb} (hT : tb_wk T) {S : Nat} (hS : S < 256) : (exS T S).length ≤ 40320 := ex_40 _ hS (by have := hT.1; omega)
theorem f_lgo {g : Nat} {T : tb} {s : sx_M} (hT : tb_wk T) (hg : gridIs g T s) (hr : ranksIs g T s) {S n : Nat} (hS : S < 2 ^ T.2.1) (hn : pcn S + n + 1 = T.1) {v : Int} (hv : lowL (ex T.2.2 (n + 1) (pcn S) S) = some v) : ∃ j, j < T.2.1 ∧ goesL T.2.2 n (pcn S) S v j ∧ (∀ i, i < j → ¬ goesL T.2.2 n (pcn S) S v i) ∧ f_X5_leastGoingOn g (nI S) (nI (pcn S)) s = some (nI j, s) := by
  have h7 := hT.1
  have h8 := hT.2.1
  have hS2 : S < 256 := pw_256 h8 hS
  have hvb := (ex_far (wk_cbd hT) (show n + 1 ≤ 7 by omega)).1 v hv
  have hlowS : rB s (g + 4) S = jJ v := by
    have h := rk_at hr hS (by omega)
    rw [exS_s hn] at h
    have : 0 < (ex T.2.2 (n + 1) (pcn S) S).length := by
      cases hq : ex T.2.2 (n + 1) (pcn S) S with
      | nil => rw [hq] at hv; cases hv
      | cons a l => simp
    rw [(h.2 this).1, hv]; rfl
  have : Ev (whT (f_X5_leastGoingOn_L2 g (nI S) (nI (pcn S))) (0, s)) (fun r => ∃ j, j < T.2.1 ∧ goesL T.2.2 n (pcn S) S v j ∧ (∀ i, i < j → ¬ goesL T.2.2 n (pcn S) S v i) ∧ r = .inr (nI j, s)) := by
    refine ev_f (fun i a => a = (nI i, s) ∧ ∀ k, k < i → ¬ goesL T.2.2 n (pcn S) S v k) T.2.1 ?_ ?_ (i := 0) (by omega) ⟨rfl, fun k hk => by omega⟩
    · rintro i a hi ⟨rfl, hf⟩
      have hat := at_F h7 h8 hg (w := pcn S) (j := i) (by omega) hi
      have hbt := nbit (show i < 31 by omega)
      have skip : ¬ goesL T.2.2 n (pcn S) S v i → (f_X5_leastGoingOn_L2 g (nI S) (nI (pcn S)) (nI i, s) = some (.inl (nI (i + 1), s))) → Ev (f_X5_leastGoingOn_L2 g (nI S) (nI (pcn S)) (nI i, s)) (Sum.elim (fun a => a = (nI (i + 1), s) ∧ ∀ k, k < i + 1 → ¬ goesL T.2.2 n (pcn S) S v k) (fun r => ∃ j, j < T.2.1 ∧ goesL T.2.2 n (pcn S) S v j ∧ (∀ i, i < j → ¬ goesL T.2.2 n (pcn S) S v i) ∧ r = .inr (nI j, s))) := by
        intro hn e
        refine ⟨_, e, rfl, fun k hk => ?_⟩
        by_cases q : k = i
        · rw [q]; exact hn
        · exact hf k (by omega)
      have hf0 : f_X5_leastGoingOn_L2 g (nI S) (nI (pcn S)) (nI i, s) = (if nI (S ||| 2 ^ i) = nI S then some (.inl (nI (i + 1), s)) else (if c64 (T.2.2 (pcn S) i) = (9223372036854775807 : Int64) then some (.inl (nI (i + 1), s)) else (if ¬ (nI (S ||| 2 ^ i) < nI 0 ∨ 256 ≤ (nI (S ||| 2 ^ i)).toNatClampNeg) then (if rA s (g + 3) (nI (S ||| 2 ^ i)).toNatClampNeg ≤ nI 0 then some (.inl (nI (i + 1), s)) else (if ¬ (nI (S ||| 2 ^ i) < nI 0 ∨ 256 ≤ (nI (S ||| 2 ^ i)).toNatClampNeg) then (if ¬ (nI S < nI 0 ∨ 256 ≤ (nI S).toNatClampNeg) then (if c64 (T.2.2 (pcn S) i) + rB s (g + 4) (nI (S ||| 2 ^ i)).toNatClampNeg = rB s (g + 4) (nI S).toNatClampNeg then some (.inr (.inr (nI i, s))) else some (.inl (nI (i + 1), s))) else none) else none)) else none))) := by
        simp only [f_X5_leastGoingOn_L2, hg.2.1]
        rw [if_neg (nI_ge hi (by omega)), bnd hat, nI_bit (by omega), nI_or, nI_1]
        rfl
      cases hb : S.testBit i with
      | true =>
        refine skip (fun ⟨x, l, _, q, _⟩ => by rw [hb] at q; cases q) ?_
        rw [hf0, if_pos (by rw [(or_bit S i).mpr hb])]
      | false =>
        have hne : S ||| 2 ^ i ≠ S := fun q => by rw [(or_bit S i).mp q] at hb; cases hb
        have hlt : S ||| 2 ^ i < 256 := or_256 hS2 (by omega)
        have hp := pcn_or hS2 (show i < 8 by omega) hb
        rw [if_neg (of_eq_false (nI_eq_F hne (by omega) (by omega)))] at hf0
        cases hc : T.2.2 (pcn S) i with
        | none =>
          refine skip (fun ⟨x, l, q, _⟩ => by rw [hc] at q; cases q) ?_
          rw [hf0, hc, if_pos c64_n]
        | some x =>
          have hx := hT.2.2.1 _ _ x hc
          have hin : ¬ (nI (S ||| 2 ^ i) < nI 0 ∨ 256 ≤ (nI (S ||| 2 ^ i)).toNatClampNeg) := by
            rw [nI_cl (by omega)]
            exact fun q => q.elim (nI_pos (by omega)) (by omega)
          have hin2 : ¬ (nI S < nI 0 ∨ 256 ≤ (nI S).toNatClampNeg) := by
            rw [nI_cl (by omega)]
            exact fun q => q.elim (nI_pos (by omega)) (by omega)
          have hrk := rk_at hr (or_lt hS hi) (by omega)
          rw [exS_then hn hS2 (by omega) hb] at hrk
          have hl2 := ex_40 T.2.2 (n := n) (w := pcn S + 1) hlt (by omega)
          rw [hc, c64_s, if_neg (of_eq_false (jnv (by omega) (by omega))), if_pos hin, if_pos hin, if_pos hin2, nI_cl (by omega), nI_cl (by omega), hrk.1, hlowS] at hf0
          by_cases h0 : (ex T.2.2 n (pcn S + 1) (S ||| 2 ^ i)).length = 0
          · refine skip (fun ⟨y, l, _, _, q, _⟩ => by rw [List.eq_nil_of_length_eq_zero h0] at q; cases q) ?_
            rw [hf0, h0, if_pos (show nI 0 ≤ nI 0 by decide)]
          · cases hlo : lowL (ex T.2.2 n (pcn S + 1) (S ||| 2 ^ i)) with
            | none => exact absurd (by rw [lowL_none.mp hlo]; rfl) h0
            | some lo =>
              have b1 := (ex_far (wk_cbd hT) (show n ≤ 7 by omega)).1 lo hlo
              rw [if_neg (nI_ge (by omega) (by omega)), (hrk.2 (by omega)).1, hlo, c64_s, jJ_add] at hf0
              by_cases q : x + lo = v
              · refine ⟨.inr (.inr (nI i, s)), ?_, i, hi, ⟨x, lo, hc, hb, hlo, q⟩, hf, rfl⟩
                rw [hf0, q, if_pos rfl]
              · refine skip (fun ⟨y, l, q1, _, q2, q3⟩ => ?_) ?_
                · rw [hc] at q1; rw [hlo] at q2; cases q1; cases q2; exact q q3
                · rw [hf0, if_neg (of_eq_false (jJ_eq_F q (by omega) (by omega) (by omega) (by omega)))]
    · rintro a ⟨rfl, hf⟩
      exfalso
      obtain ⟨j, hj, hgl⟩ := goes_ex hv
      have hgl' := hgl
      obtain ⟨x, l, hx, _⟩ := hgl'
      have hjJ : j < T.2.1 := Decidable.byContradiction (fun q => by rw [hT.2.2.2 _ _ (by omega)] at hx; cases hx)
      exact hf j hjJ hgl
  obtain ⟨r, e, j, h1, h2, h3, rfl⟩ := this
  exact ⟨j, h1, h2, h3, by unfold f_X5_leastGoingOn; exact bnd e _⟩
def Dar (ra : Nat) : sx_D := (fun _ _ => False, fun _ _ => False, fun o => o = ra, fun _ => False)
theorem ff_0 {g ra : Nat} {T : tb} {s : sx_M} (hr : ranksIs g T s) (h : allA T = []) : f_X5_findFirst g ra s = some (0, s) := by
  have h0 := rk_all hr
  rw [h] at h0
  unfold f_X5_findFirst
  rw [show (0 : Int32).toNatClampNeg = 0 by decide, h0, if_pos (show nI ([] : List asg).length = 0 from rfl)]
theorem ff_1 {g ra : Nat} {T : tb} {s : sx_M} (hT : tb_wk T) (hg : gridIs g T s) (hr : ranksIs g T s) (hra : ra ≠ g + 3) {p : asg} (hp : fmin (allA T) = some p) : Ev (f_X5_findFirst g ra s) (fun r => r.1 = 1 ∧ (∀ i j, p.1[i]? = some j → rA r.2 ra i = nI j) ∧ sx_eq (Dar ra) s r.2) := by
  have h7 := hT.1
  have h8 := hT.2.1
  have h40 := wk_40 hT
  have hpm : p ∈ allA T := List.mem_of_find?_eq_some hp
  have hne : (allA T).length ≠ 0 := fun q => by rw [List.eq_nil_of_length_eq_zero q] at hpm; cases hpm
  have hL : Ev (whT (f_X5_findFirst_L27 g ra) (0, 0, s)) (fun s' => (∀ i j, p.1[i]? = some j → rA s' ra i = nI j) ∧ sx_eq (Dar ra) s s') := by
    refine ev_f (fun w a => ∃ (S : Nat) (r : List Nat) (q : asg), a.1 = nI S ∧ a.2.1 = nI w ∧ S < 2 ^ T.2.1 ∧ pcn S = w ∧ r.length = w ∧ fmin (ex T.2.2 (T.1 - w) w S) = some q ∧ p.1 = r ++ q.1 ∧ (∀ i j, r[i]? = some j → rA a.2.2 ra i = nI j) ∧ sx_eq (Dar ra) s a.2.2) T.1 ?_ ?_ (i := 0) (by omega) ⟨0, [], p, rfl, rfl, Nat.pow_pos (by omega), pcn_0, rfl, by rw [Nat.sub_zero]; exact hp, rfl, fun i j q => by simp at q, sx_rf _ _⟩
    · rintro w ⟨a1, a2, s1⟩ hw ⟨S, r, q, e1, e2, hS, hpc, hrl, hq, hpr, hra1, hx⟩
      simp only at e1 e2 hra1 hx
      subst e1 e2 hpc
      have hS2 : S < 256 := pw_256 h8 hS
      obtain ⟨n, hn⟩ : ∃ n, pcn S + n + 1 = T.1 := ⟨T.1 - pcn S - 1, by omega⟩
      rw [show T.1 - pcn S = n + 1 by omega] at hq
      have hg1 : gridIs g T s1 := grid_eq hx (fun z => z) (fun z => z) (fun z => z) hg
      have hr1 : ranksIs g T s1 := ranks_eq hx (by simp only [Dar]; omega) (fun z => z) (fun z => z) hr
      cases hv : lowL (ex T.2.2 (n + 1) (pcn S) S) with
      | none => rw [lowL_none.mp hv] at hq; cases hq
      | some v =>
      obtain ⟨j, hj, hgl, hfi, e⟩ := f_lgo hT hg1 hr1 hS hn hv
      obtain ⟨x, q', hx1, hx2, hq', hfm⟩ := fmin_step hv (show j < 8 by omega) hgl hfi
      rw [hfm] at hq
      cases hq
      refine ⟨.inl (nI (S ||| 2 ^ j), nI (pcn S + 1), wA s1 ra (pcn S) (nI j)), ?_, S ||| 2 ^ j, r ++ [j], q', rfl, rfl, or_lt hS hj, pcn_or hS2 (by omega) hx2, by simp [hrl], by rw [show T.1 - (pcn S + 1) = n by omega]; exact hq', by rw [hpr]; simp, fun i k hi => ?_, sx_wA' hx rfl⟩
      · have hin : ¬ (nI (pcn S) < 0 ∨ 7 ≤ (nI (pcn S)).toNatClampNeg) := by
          rw [nI_cl (by omega)]
          exact fun q => q.elim (nI_pos (by omega)) (by omega)
        simp only [f_X5_findFirst_L27, hg1.1]
        rw [if_neg (nI_ge hw (by omega)), bnd e, if_pos hin, if_pos hin, nI_cl (by omega), rA_T ⟨rfl, rfl⟩, nI_bit (by omega), nI_or, nI_1]
      · by_cases z : i < r.length
        · rw [List.getElem?_append_left z] at hi
          rw [rA_F (by omega)]
          exact hra1 i k hi
        · have hl2 : i < (r ++ [j]).length := (List.getElem?_eq_some_iff.mp hi).1
          simp at hl2
          have : i = r.length := by omega
          subst this
          simp at hi
          rw [hrl, rA_T ⟨rfl, rfl⟩, hi]
    · rintro ⟨a1, a2, s1⟩ ⟨S, r, q, e1, e2, hS, hpc, hrl, hq, hpr, hra1, hx⟩
      simp only at e1 e2 hra1 hx
      subst e1 e2
      have hg1 : gridIs g T s1 := grid_eq hx (fun z => z) (fun z => z) (fun z => z) hg
      refine ⟨.inr s1, ?_, fun i j hi => ?_, hx⟩
      · simp only [f_X5_findFirst_L27, hg1.1]
        rw [if_pos (nI_le (Nat.le_refl _) (by omega))]
      · rw [Nat.sub_self] at hq
        have : q = ([], 0) := by
          have : fmin (ex T.2.2 0 T.1 S) = some ([], 0) := rfl
          rw [this] at hq
          exact (Option.some.inj hq).symm
        rw [this, List.append_nil] at hpr
        rw [hpr] at hi
        exact hra1 i j hi
  obtain ⟨s', e, h1, h2⟩ := hL
  refine ⟨(1, s'), ?_, rfl, h1, h2⟩
  unfold f_X5_findFirst
  rw [show (0 : Int32).toNatClampNeg = 0 by decide, rk_all hr, if_neg (nI_ne0 (by omega) (by omega)), hg.1, if_pos (show nI T.1 ≤ 7 from nI_le (b := 7) h7 (by omega))]
  exact bnd e _
/-! the reference -/
theorem lst_eq {D : sx_D} {L : List asg} {s s' : sx_M} (h : sx_eq D s s') (h1 : ¬ D.1 58 15) (h2 : ¬ D.2.2.1 63) (h3 : ¬ D.2.2.1 64) (hl : lst L s) : lst L s' :=
  ⟨(h.1 _ _ h1).trans hl.1, fun i p hi => by rw [h.2.2.1 _ _ h2, h.2.2.1 _ _ h3]; exact hl.2 i p hi⟩
abbrev lbd (L : List asg) : Prop := L.length ≤ 40320 ∧ ∀ p, p ∈ L → -10000000 ≤ p.2 ∧ p.2 ≤ 10000000
theorem r_least {L : List asg} {s : sx_M} (hb : lbd L) (hl : lst L s) : ∃ b, f_X12_least s = some (oI b, s) ∧ isB (fun _ => true) L L.length b := by
  have h40 := hb.1
  have : Ev (whT f_X12_least_L4 (-1, 0, s)) (fun r => ∃ b, r = (oI b, s) ∧ isB (fun _ => true) L L.length b) := by
    refine ev_f (fun i a => ∃ b, a = (oI b, nI i, s) ∧ isB (fun _ => true) L i b) L.length ?_ ?_ (i := 0) (by omega) ⟨none, rfl, fun m q hm => by omega⟩
    · rintro i a hi ⟨b, rfl, hB⟩
      obtain ⟨p, hp⟩ : ∃ p, L[i]? = some p := ⟨L[i], List.getElem?_eq_getElem hi⟩
      have hpb := hb.2 p (List.mem_of_getElem? hp)
      have hrow := (hl.2 i p hp).2
      have hin : ¬ (nI i < 0 ∨ 40320 ≤ (nI i).toNatClampNeg) := by
        rw [nI_cl (by omega)]
        exact fun q => q.elim (nI_pos (by omega)) (by omega)
      have hless : (rI s 58 15) = nI L.length := hl.1
      cases b with
      | none =>
        refine ⟨.inl (nI i, nI (i + 1), s), ?_, some i, rfl, p, by omega, hp, rfl, fun m q hm hq _ => ?_⟩
        · simp only [f_X12_least_L4, f_X12_least_L4_J32, hless]
          rw [if_neg (nI_ge hi (by omega)), if_pos (show oI none = -1 from rfl), nI_1]
        · by_cases z : m = i
          · rw [z, hp] at hq; cases hq; exact ⟨Int.le_refl _, fun z => by omega⟩
          · have := hB m q (by omega) hq; cases this
      | some k =>
        obtain ⟨pk, hk, hpk, _, hm⟩ := hB
        have hkb := hb.2 pk (List.mem_of_getElem? hpk)
        have hkr := (hl.2 k pk hpk).2
        have hin2 : ¬ (nI k < 0 ∨ 40320 ≤ (nI k).toNatClampNeg) := by
          rw [nI_cl (by omega)]
          exact fun q => q.elim (nI_pos (by omega)) (by omega)
        have hm1 : ¬ nI k = (-1 : Int32) := of_eq_false (nI_m_F (a := k) (by omega))
        by_cases z : pk.2 ≤ p.2
        · refine ⟨.inl (nI k, nI (i + 1), s), ?_, some k, rfl, pk, by omega, hpk, rfl, fun m q hmi hq hP => ?_⟩
          · simp only [f_X12_least_L4, hless]
            rw [if_neg (nI_ge hi (by omega)), if_neg (show ¬ oI (some k) = -1 from hm1), oI_s, if_pos hin, if_pos hin2, nI_cl (by omega), nI_cl (by omega), hrow, hkr, if_pos (of_eq_true (iI_le_T z (by omega) (by omega))), nI_1]
          · by_cases z2 : m = i
            · rw [z2, hp] at hq; cases hq; exact ⟨z, fun z => by omega⟩
            · exact hm m q (by omega) hq hP
        · refine ⟨.inl (nI i, nI (i + 1), s), ?_, some i, rfl, p, by omega, hp, rfl, fun m q hmi hq hP => ?_⟩
          · simp only [f_X12_least_L4, f_X12_least_L4_J32, hless]
            rw [if_neg (nI_ge hi (by omega)), if_neg (show ¬ oI (some k) = -1 from hm1), oI_s, if_pos hin, if_pos hin2, nI_cl (by omega), nI_cl (by omega), hrow, hkr, if_neg (of_eq_false (iI_le_F (by omega) (by omega) (by omega))), nI_1]
          · by_cases z2 : m = i
            · rw [z2, hp] at hq; cases hq; exact ⟨Int.le_refl _, fun z => by omega⟩
            · have := (hm m q (by omega) hq hP).1
              exact ⟨by omega, fun _ => by omega⟩
    · rintro a ⟨b, rfl, hB⟩
      refine ⟨.inr (oI b, s), ?_, b, rfl, hB⟩
      simp only [f_X12_least_L4, hl.1]
      rw [if_pos (nI_le (Nat.le_refl _) (by omega))]
  obtain ⟨r, e, b, rfl, hB⟩ := this
  exact ⟨b, by unfold f_X12_least; exact bnd e _, hB⟩
/-- the job of a worker in an assignment of the list -/
theorem r_job {T : tb} {L : List asg} {s : sx_M} (hT : tb_ok T) (hg : tabIs 59 0 T s) (hl : lst L s) {k w j : Nat} {p : asg} (hk : L[k]? = some p) (hk4 : k < 40320) (hrow : p.1.length = T.1) (h8 : ∀ j, j ∈ p.1 → j < 8) (hw : p.1[w]? = some j) : f_X12_jobOf (nI k) (nI w) s = some (nI j, s) := by
  have h7 := hT.1
  have hwl : w < p.1.length := (List.getElem?_eq_some_iff.mp hw).1
  have hc := (hl.2 k p hk).1
  have hlt := cod_lt p.1 h8
  rw [hrow] at hlt
  have h87 := le87 h7
  have hin : ¬ (nI k < 0 ∨ 40320 ≤ (nI k).toNatClampNeg) := by
    rw [nI_cl (by omega)]
    exact fun q => q.elim (nI_pos (by omega)) (by omega)
  have hd := cod_dig p.1 w j h8 hw
  have hj8 := h8 j (List.mem_of_getElem? hw)
  unfold f_X12_jobOf f_X12_digit
  rw [if_pos hin, nI_cl (by omega), hc, bnd (f_wk hg), Option.bind_some]
  have e : nI (cod p.1) >>> ((3 : Int32) * (nI T.1 - (1 : Int32) - nI w) &&& 31) &&& (7 : Int32) = nI j := by
    rw [show (1 : Int32) = nI 1 from rfl, show (3 : Int32) = nI 3 from rfl, nI_sb (by omega), nI_sb (by omega), pk_mul, nI_shr (by omega) (by omega), p8, pk_andN (Nat.lt_of_le_of_lt (Nat.div_le_self _ _) (by omega)) 3 (by decide), ← hrow]
    congr 1
  rw [e]
theorem all_row {T : tb} {p : asg} (h : p ∈ allA T) : p.1.length = T.1 ∧ ∀ j, j ∈ p.1 → j < 8 := ⟨ex_row h, ex_lt8 h⟩
theorem ok_cbd {T : tb} (h : tb_ok T) : cbd 9999 T.2.2 := h.2.2.1
theorem all_bd {T : tb} (hT : tb_ok T) : lbd (allA T) := by
  refine ⟨all_40 hT, fun p hp => ?_⟩
  have := ex_bd (ok_cbd hT) hp
  have h7 : (T.1 : Int) ≤ 7 := by have := hT.1; omega
  omega
theorem row_get {r : List Nat} {n w : Nat} (h : r.length = n) (hw : w < n) : ∃ j, r[w]? = some j := ⟨r[w]'(by omega), List.getElem?_eq_getElem (by omega)⟩
/-- of those in which a worker has a job, or has not -/
def hasJ (w j : Nat) (b : Bool) (p : asg) : Bool := (p.1[w]? == some j) == b
theorem r_leastBy {T : tb} {s : sx_M} (hT : tb_ok T) (hg : tabIs 59 0 T s) (hl : lst (allA T) s) {w j : Nat} (hw : w < T.1) (hj : j < T.2.1) (b : Bool) : f_X12_leastBy (nI w) (nI j) (nI (if b then 1 else 0)) s = some (cH (lowL ((allA T).filter (hasJ w j b))), s) := by
  have hb := all_bd hT
  have h40 := hb.1
  have h8 := hT.2.1
  have : Ev (whT (f_X12_leastBy_L6 (nI w) (nI j) (nI (if b then 1 else 0))) (-1, 0, s)) (fun r => ∃ k, r = (oI k, s) ∧ isB (hasJ w j b) (allA T) (allA T).length k) := by
    refine ev_f (fun i a => ∃ k, a = (oI k, nI i, s) ∧ isB (hasJ w j b) (allA T) i k) (allA T).length ?_ ?_ (i := 0) (by omega) ⟨none, rfl, fun m q hm => by omega⟩
    · rintro i a hi ⟨bk, rfl, hB⟩
      obtain ⟨p, hp⟩ : ∃ p, (allA T)[i]? = some p := ⟨(allA T)[i], List.getElem?_eq_getElem hi⟩
      have hpm := List.mem_of_getElem? hp
      have hpb := hb.2 p hpm
      obtain ⟨pj, hpj⟩ := row_get (all_row hpm).1 hw
      have hpj8 := (all_row hpm).2 pj (List.mem_of_getElem? hpj)
      have hjo := r_job hT hg hl hp (by omega) (all_row hpm).1 (all_row hpm).2 hpj
      have hrow := (hl.2 i p hp).2
      have hin : ¬ (nI i < 0 ∨ 40320 ≤ (nI i).toNatClampNeg) := by
        rw [nI_cl (by omega)]
        exact fun q => q.elim (nI_pos (by omega)) (by omega)
      have hless : (rI s 58 15) = nI (allA T).length := hl.1
      have hhas : hasJ w j b p = ((if pj = j then true else false) == b) := by
        unfold hasJ
        rw [hpj]
        by_cases z : pj = j
        · simp [z]
        · rw [if_neg z, show (some pj == some j) = false by simp [z]]
      have e0 : f_X12_leastBy_L6 (nI w) (nI j) (nI (if b then 1 else 0)) (oI bk, nI i, s) = f_X12_leastBy_L6_J31 (nI w) (nI j) (nI (if b then 1 else 0)) (oI bk) (nI i) (nI (if pj = j then 1 else 0)) s := by
        simp only [f_X12_leastBy_L6, hless]
        rw [if_neg (nI_ge hi (by omega)), bnd hjo]
        by_cases z : pj = j
        · rw [z, if_pos rfl, if_pos rfl]; rfl
        · rw [if_neg (of_eq_false (nI_eq_F z (by omega) (by omega))), if_neg z]; rfl
      have hcond : (nI (if pj = j then 1 else 0) = nI (if b then 1 else 0)) ↔ hasJ w j b p = true := by
        rw [hhas]
        by_cases z : pj = j
        · rw [if_pos z, if_pos z]
          cases b
          · simp; decide
          · simp
        · rw [if_neg z, if_neg z]
          cases b
          · simp
          · simp; decide
      rw [e0]
      unfold f_X12_leastBy_L6_J31 f_X12_leastBy_L6_J63
      by_cases hP : hasJ w j b p = true
      · rw [if_pos (hcond.mpr hP)]
        cases bk with
        | none =>
          refine ⟨.inl (nI i, nI (i + 1), s), ?_, some i, rfl, p, by omega, hp, hP, fun m q hm hq hPq => ?_⟩
          · rw [oI_n, if_pos (show -nI 1 = -1 from rfl), if_neg n1_0, nI_1]
          · by_cases z : m = i
            · rw [z, hp] at hq; cases hq; exact ⟨Int.le_refl _, fun z => by omega⟩
            · have := hB m q (by omega) hq
              rw [this] at hPq; cases hPq
        | some k =>
          obtain ⟨pk, hk, hpk, hPk, hm⟩ := hB
          have hkb := hb.2 pk (List.mem_of_getElem? hpk)
          have hkr := (hl.2 k pk hpk).2
          have hin2 : ¬ (nI k < 0 ∨ 40320 ≤ (nI k).toNatClampNeg) := by
            rw [nI_cl (by omega)]
            exact fun q => q.elim (nI_pos (by omega)) (by omega)
          have hm1 : ¬ nI k = (-1 : Int32) := of_eq_false (nI_m_F (a := k) (by omega))
          by_cases z : pk.2 ≤ p.2
          · refine ⟨.inl (nI k, nI (i + 1), s), ?_, some k, rfl, pk, by omega, hpk, hPk, fun m q hmi hq hPq => ?_⟩
            · rw [oI_s, if_neg hm1, if_pos hin, if_pos hin2, nI_cl (by omega), nI_cl (by omega), hrow, hkr, if_pos (of_eq_true (iI_le_T z (by omega) (by omega))), if_pos rfl, nI_1]
            · by_cases z2 : m = i
              · rw [z2, hp] at hq; cases hq; exact ⟨z, fun z => by omega⟩
              · exact hm m q (by omega) hq hPq
          · refine ⟨.inl (nI i, nI (i + 1), s), ?_, some i, rfl, p, by omega, hp, hP, fun m q hmi hq hPq => ?_⟩
            · rw [oI_s, if_neg hm1, if_pos hin, if_pos hin2, nI_cl (by omega), nI_cl (by omega), hrow, hkr, if_neg (of_eq_false (iI_le_F (by omega) (by omega) (by omega))), if_neg n1_0, nI_1]
            · by_cases z2 : m = i
              · rw [z2, hp] at hq; cases hq; exact ⟨Int.le_refl _, fun z => by omega⟩
              · have := (hm m q (by omega) hq hPq).1
                exact ⟨by omega, fun _ => by omega⟩
      · rw [if_neg (fun z => hP (hcond.mp z)), if_pos rfl]
        refine ⟨.inl (oI bk, nI (i + 1), s), by rw [nI_1], bk, rfl, ?_⟩
        cases bk with
        | none =>
          intro m q hm hq
          by_cases z : m = i
          · rw [z, hp] at hq; cases hq
            simpa using hP
          · exact hB m q (by omega) hq
        | some k =>
          obtain ⟨pk, hk, hpk, hPk, hm⟩ := hB
          refine ⟨pk, by omega, hpk, hPk, fun m q hmi hq hPq => ?_⟩
          by_cases z : m = i
          · rw [z, hp] at hq; cases hq
            exact absurd hPq hP
          · exact hm m q (by omega) hq hPq
    · rintro a ⟨k, rfl, hB⟩
      refine ⟨.inr (oI k, s), ?_, k, rfl, hB⟩
      simp only [f_X12_leastBy_L6, hl.1]
      rw [if_pos (nI_le (Nat.le_refl _) (by omega))]
  obtain ⟨r, e, k, rfl, hB⟩ := this
  unfold f_X12_leastBy
  rw [bnd e]
  cases k with
  | none => rw [if_pos (show oI none = -1 from rfl), isB_none hB]; rfl
  | some k =>
    obtain ⟨p, hp, _, hlow, _⟩ := isB_some hB
    have hk : k < (allA T).length := (List.getElem?_eq_some_iff.mp hp).1
    have hin2 : ¬ (nI k < 0 ∨ 40320 ≤ (nI k).toNatClampNeg) := by
      rw [nI_cl (by omega)]
      exact fun q => q.elim (nI_pos (by omega)) (by omega)
    have hpb := hb.2 p (List.mem_of_getElem? hp)
    rw [if_neg (show ¬ oI (some k) = -1 from of_eq_false (nI_m_F (a := k) (by omega))), oI_s, if_pos hin2, nI_cl (by omega), (hl.2 k p hp).2, hlow, cH_s, iI_64 (by omega) (by omega)]
/-- the least sum of the list -/
theorem r_sumb {L : List asg} {s : sx_M} (hb : lbd L) (hl : lst L s) {b : Option Nat} (hB : isB (fun _ => true) L L.length b) : (if oI b = (-1 : Int32) then some ((-9223372036854775808 : Int64), s) else (if ¬ (oI b < 0 ∨ 40320 ≤ (oI b).toNatClampNeg) then some (((rA s 64 (oI b).toNatClampNeg)).toInt64, s) else none)) = some (cH (lowL L), s) := by
  have hf : L.filter (fun _ => true) = L := List.filter_eq_self.mpr (fun _ _ => rfl)
  cases b with
  | none =>
    have := isB_none hB
    rw [hf] at this
    rw [if_pos (show oI none = -1 from rfl), this]; rfl
  | some k =>
    obtain ⟨p, hp, _, hlow, _⟩ := isB_some hB
    rw [hf] at hlow
    have hk : k < L.length := (List.getElem?_eq_some_iff.mp hp).1
    have h40 := hb.1
    have hin2 : ¬ (nI k < 0 ∨ 40320 ≤ (nI k).toNatClampNeg) := by
      rw [nI_cl (by omega)]
      exact fun q => q.elim (nI_pos (by omega)) (by omega)
    have hpb := hb.2 p (List.mem_of_getElem? hp)
    rw [if_neg (show ¬ oI (some k) = -1 from of_eq_false (nI_m_F (a := k) (by omega))), oI_s, if_pos hin2, nI_cl (by omega), (hl.2 k p hp).2, hlow, cH_s, iI_64 (by omega) (by omega)]
theorem exb_bd {c : cst} {B : Int} (h0 : 0 ≤ B) (hc : cbd B c) {bo : Option Nat} : ∀ {n w S : Nat} {p : asg}, p ∈ exb c bo n w S → -(B * n) ≤ p.2 ∧ p.2 ≤ B * n
  | 0, _, _, p, h => by simp [exb] at h; rw [h]; simp
  | n + 1, w, S, p, h => by
    have e : B * ((n + 1 : Nat) : Int) = B * n + B := by rw [Int.natCast_add, Int.mul_add]; simp
    have h : p ∈ (List.range 8).flatMap _ := h
    rw [List.mem_flatMap] at h
    obtain ⟨j, hj, h⟩ := h
    cases hcn : cn c bo w S j with
    | false => rw [brb_F hcn] at h; cases h
    | true =>
      by_cases hb : bo = some w
      · rw [(brb_b hb hcn).2] at h
        obtain ⟨q, hq, rfl⟩ := mem_bx.mp h
        have h4 := exb_bd h0 hc hq
        rw [e]
        constructor
        · show _ ≤ 0 + q.2; omega
        · show 0 + q.2 ≤ _; omega
      · obtain ⟨y, hy, _, e2⟩ := brb_n (rec := exb c bo n (w + 1)) hb hcn
        rw [e2] at h
        obtain ⟨q, hq, rfl⟩ := mem_bx.mp h
        have h4 := exb_bd h0 hc hq
        have h5 := hc w j y hy
        rw [e]
        constructor
        · show _ ≤ y + q.2; omega
        · show y + q.2 ≤ _; omega
theorem cV_bd {T : tb} (hT : tb_ok T) (V : Nat) : cbd 9999 (cV T V) := fun w j x hx => by
  have hx : (if V.testBit j then T.2.2 w j else none) = some x := hx
  split at hx
  · exact hT.2.2.1 _ _ x hx
  · cases hx
theorem r_leastWith {T : tb} {s : sx_M} (hT : tb_ok T) (hg : tabIs 59 0 T s) {V : Nat} (hV : V < 2 ^ T.2.1) {bo : Option Nat} (hbo : ∀ b, bo = some b → b < 7) : Ev (f_X12_leastWith (nI V) (oI bo) s) (fun p => p.1 = cH (lowL (exb (cV T V) bo T.1 0 0)) ∧ sx_eq gtD s p.2) := by
  have h7 := hT.1
  obtain ⟨s1, e1, hl, hx⟩ := f_goes hT hV hbo hg
  have hb : lbd (exb (cV T V) bo T.1 0 0) := by
    refine ⟨exb_40 _ _ h7, fun p hp => ?_⟩
    have := exb_bd (by omega) (cV_bd hT V) hp
    have h7 : (T.1 : Int) ≤ 7 := by omega
    omega
  obtain ⟨b, e2, hB⟩ := r_least hb hl
  refine ⟨(cH (lowL (exb (cV T V) bo T.1 0 0)), s1), ?_, rfl, hx⟩
  unfold f_X12_leastWith
  rw [bnd e1, bnd e2]
  exact r_sumb hb hl hB
