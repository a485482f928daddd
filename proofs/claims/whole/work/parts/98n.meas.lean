/-! what the measures are of a row -/
theorem mx_I {T : tb} (hT : tb_ok T) {p : asg} (hp : p ∈ allA T) : ∀ n, 1 ≤ n → n ≤ T.1 → ∃ M : Int, mxD T p n = jJ M ∧ (-9999 ≤ M ∧ M ≤ 9999) ∧ (∀ w x, w < n → celO T p w = some x → x ≤ M) ∧ ∃ w, w < n ∧ celO T p w = some M
  | 0, h, _ => by omega
  | n + 1, _, hn => by
    obtain ⟨j, x, _, _, _, _, hx, hb⟩ := cel_s hT hp (show n < T.1 by omega)
    have e : mxD T p (n + 1) = if mxD T p n < c64 (celO T p n) then c64 (celO T p n) else mxD T p n := rfl
    rw [hx, c64_s] at e
    by_cases z : n = 0
    · subst z
      refine ⟨x, ?_, hb, fun w y hw hy => ?_, 0, by omega, hx⟩
      · rw [e, if_pos]
        show (-9223372036854775808 : Int64) < jJ x
        rw [jJ_ns]
        exact of_eq_true (jJ_lt_T (by omega) (by omega) (by omega))
      · rw [show w = 0 by omega, hx] at hy
        cases hy
        omega
    · obtain ⟨M, h1, h2, h3, w0, h4, h5⟩ := mx_I hT hp n (by omega) (by omega)
      rw [h1] at e
      by_cases y : M < x
      · rw [if_pos (show jJ M < jJ x from of_eq_true (jJ_lt_T y (by omega) (by omega)))] at e
        refine ⟨x, e, hb, fun w v hw hv => ?_, n, by omega, hx⟩
        by_cases q : w = n
        · rw [q, hx] at hv; cases hv; omega
        · have := h3 w v (by omega) hv
          omega
      · rw [if_neg (show ¬ jJ M < jJ x from of_eq_false (jJ_lt_F (by omega) (by omega) (by omega)))] at e
        refine ⟨M, e, h2, fun w v hw hv => ?_, w0, by omega, h5⟩
        by_cases q : w = n
        · rw [q, hx] at hv; cases hv; omega
        · exact h3 w v (by omega) hv
theorem mn_I {T : tb} (hT : tb_ok T) {p : asg} (hp : p ∈ allA T) : ∀ n, 1 ≤ n → n ≤ T.1 → ∃ M : Int, mnD T p n = jJ M ∧ (-9999 ≤ M ∧ M ≤ 9999) ∧ (∀ w x, w < n → celO T p w = some x → M ≤ x) ∧ ∃ w, w < n ∧ celO T p w = some M
  | 0, h, _ => by omega
  | n + 1, _, hn => by
    obtain ⟨j, x, _, _, _, _, hx, hb⟩ := cel_s hT hp (show n < T.1 by omega)
    have e : mnD T p (n + 1) = if c64 (celO T p n) < mnD T p n then c64 (celO T p n) else mnD T p n := rfl
    rw [hx, c64_s] at e
    by_cases z : n = 0
    · subst z
      refine ⟨x, ?_, hb, fun w y hw hy => ?_, 0, by omega, hx⟩
      · rw [e, if_pos]
        show jJ x < (9223372036854775807 : Int64)
        rw [jJ_nv]
        exact of_eq_true (jJ_lt_T (by omega) (by omega) (by omega))
      · rw [show w = 0 by omega, hx] at hy
        cases hy
        omega
    · obtain ⟨M, h1, h2, h3, w0, h4, h5⟩ := mn_I hT hp n (by omega) (by omega)
      rw [h1] at e
      by_cases y : x < M
      · rw [if_pos (show jJ x < jJ M from of_eq_true (jJ_lt_T y (by omega) (by omega)))] at e
        refine ⟨x, e, hb, fun w v hw hv => ?_, n, by omega, hx⟩
        by_cases q : w = n
        · rw [q, hx] at hv; cases hv; omega
        · have := h3 w v (by omega) hv
          omega
      · rw [if_neg (show ¬ jJ x < jJ M from of_eq_false (jJ_lt_F (by omega) (by omega) (by omega)))] at e
        refine ⟨M, e, h2, fun w v hw hv => ?_, w0, by omega, h5⟩
        by_cases q : w = n
        · rw [q, hx] at hv; cases hv; omega
        · exact h3 w v (by omega) hv
theorem ok_cel {T : tb} (hT : tb_ok T) {p : asg} (hp : p ∈ allA T) {b t : Int} : okR (wR T b t) 0 p.1 = true ↔ ∀ w x, w < T.1 → celO T p w = some x → b ≤ x ∧ x ≤ t := by
  rw [okR_iff]
  have hl := (all_row hp).1
  constructor
  · intro h w x hw hx
    obtain ⟨j, y, h1, _, _, h4, h5, _⟩ := cel_s hT hp hw
    rw [h5] at hx
    cases hx
    obtain ⟨x', e, q⟩ := wR_iff.mp (h w j h1)
    rw [Nat.zero_add, h4] at e
    cases e
    exact q
  · intro h i j hij
    have hi : i < T.1 := by
      have := (List.getElem?_eq_some_iff.mp hij).1
      omega
    obtain ⟨j', y, h1, _, _, h4, h5, _⟩ := cel_s hT hp hi
    rw [hij] at h1
    cases h1
    rw [Nat.zero_add]
    exact wR_iff.mpr ⟨y, h4, h i y hi h5⟩
theorem all_pw (T : tb) : (allA T).Pairwise (fun p q => cod p.1 < cod q.1) := ex_ord T.2.2 T.1 0 0
theorem all_sm {T : tb} (hT : tb_ok T) {p : asg} (hp : p ∈ allA T) : -(9999 * (T.1 : Int)) ≤ p.2 ∧ p.2 ≤ 9999 * (T.1 : Int) := ex_bd hT.2.2.1 hp
/-- by the sum -/
theorem ms_0 {T : tb} (hT : tb_ok T) {p : asg} (hp : p ∈ allA T) (y : Int32) : (msO T p 0 y).toInt = p.2 := by
  have h7 := hT.1
  have hs := all_sm hT hp
  unfold msO
  by_cases z : T.1 = 0
  · rw [if_pos z]
    rw [z] at hs
    show (0 : Int) = p.2
    omega
  · rw [if_neg z, if_pos rfl, jJ_toInt (by omega) (by omega)]
theorem isF_0 {T : tb} (hT : tb_ok T) (y : Int32) {p : asg} (h : fmin (allA T) = some p) : isF (fun q => (msO T q 0 y).toInt) (allA T) p := by
  obtain ⟨h1, h2⟩ := fmin_F (all_pw T) h
  refine ⟨h1, fun q hq => ?_⟩
  simp only
  rw [ms_0 hT h1, ms_0 hT hq]
  have := h2 q hq
  omega
/-- by the greatest cost -/
theorem isF_1 {T : tb} (hT : tb_ok T) (y : Int32) {u : Int} (hu : tpP T (-9999) 0 (allA T) (some u)) {p : asg} (h : fmin (allA (resT T (wR T (-9999) u))) = some p) : isF (fun q => (msO T q 1 y).toInt) (allA T) p := by
  have h7 := hT.1
  have hpw : ((allA T).filter (fun p => okR (wR T (-9999) u) 0 p.1)).Pairwise (fun p q => cod p.1 < cod q.1) := (all_pw T).filter _
  rw [resT_all] at h
  obtain ⟨h1, h2⟩ := fmin_F hpw h
  obtain ⟨h1, h1k⟩ := List.mem_filter.mp h1
  refine ⟨h1, fun q hq => ?_⟩
  simp only
  by_cases z : T.1 = 0
  · have e : ∀ q, msO T q 1 y = 0 := fun q => by unfold msO; rw [if_pos z]
    rw [e, e]
    have hok : okR (wR T (-9999) u) 0 q.1 = true := (ok_cel hT hq).mpr (fun w x hw => by omega)
    have := h2 q (List.mem_filter.mpr ⟨hq, hok⟩)
    exact Or.inr ⟨rfl, this⟩
  · have e : ∀ q, msO T q 1 y = mxD T q T.1 := fun q => by
      unfold msO
      rw [if_neg z, if_neg (by decide), if_pos rfl]
    have key : ∀ q, q ∈ allA T → ∃ M, (msO T q 1 y).toInt = M ∧ (-9999 ≤ M ∧ M ≤ 9999) ∧ okR (wR T (-9999) M) 0 q.1 = true ∧ ∀ t, okR (wR T (-9999) t) 0 q.1 = true → M ≤ t := by
      intro q hq
      obtain ⟨M, a1, a2, a3, w0, a4, a5⟩ := mx_I hT hq T.1 (by omega) (Nat.le_refl _)
      refine ⟨M, by rw [e, a1, jJ_toInt (by omega) (by omega)], a2, (ok_cel hT hq).mpr (fun w x hw hx => ?_), fun t ht => ?_⟩
      · obtain ⟨_, x', _, _, _, _, b5, b6⟩ := cel_s hT hq hw
        rw [b5] at hx
        cases hx
        exact ⟨b6.1, a3 w _ hw b5⟩
      · exact ((ok_cel hT hq).mp ht w0 M a4 a5).2
    obtain ⟨Mp, p1, p2, p3, p4⟩ := key p h1
    obtain ⟨Mq, q1, q2, q3, q4⟩ := key q hq
    obtain ⟨u1, e1, hu1⟩ := hu.1 Mp p h1 p3
    cases e1
    have hp' := p4 u h1k
    have hu1 := hu1 (by omega)
    obtain ⟨u2, e2, hu2⟩ := hu.1 Mq q hq q3
    cases e2
    have hu2 := hu2 (by omega)
    rw [p1, q1]
    by_cases y : Mq ≤ u
    · have := h2 q (List.mem_filter.mpr ⟨hq, okR_mono y q3⟩)
      exact Or.inr ⟨by omega, this⟩
    · exact Or.inl (by omega)
/-- by how many are above -/
def abv (T : tb) (z : Int32) (w j : Nat) : Bool :=
  match T.2.2 w j with
  | none => false
  | some x => decide (z.toInt < x)
def cnt (T : tb) (z : Int32) : Nat → List Nat → Nat
  | _, [] => 0
  | w, j :: r => (if abv T z w j = true then 1 else 0) + cnt T z (w + 1) r
theorem cnt_app (T : tb) (z : Int32) (j : Nat) : ∀ (a : List Nat) (w : Nat), cnt T z w (a ++ [j]) = cnt T z w a + (if abv T z (w + a.length) j = true then 1 else 0)
  | [], w => by
    show (if abv T z w j = true then 1 else 0) + 0 = 0 + _
    rw [Nat.zero_add, Nat.add_zero]
    rfl
  | i :: a, w => by
    show (if abv T z w i = true then 1 else 0) + cnt T z (w + 1) (a ++ [j]) = (if abv T z w i = true then 1 else 0) + cnt T z (w + 1) a + _
    rw [cnt_app T z j a (w + 1), show w + 1 + a.length = w + (i :: a).length by simp; omega, Nat.add_assoc]
theorem cnt_le (T : tb) (z : Int32) : ∀ (a : List Nat) (w : Nat), cnt T z w a ≤ a.length
  | [], _ => Nat.le_refl _
  | i :: a, w => by
    have := cnt_le T z a (w + 1)
    show (if abv T z w i = true then 1 else 0) + cnt T z (w + 1) a ≤ a.length + 1
    split <;> omega
theorem ex_W (T : tb) (z : Int32) : ∀ n w S, ex (wtT T z).2.2 n w S = (ex T.2.2 n w S).map (fun p => (p.1, p.2 + 1000000 * (cnt T z w p.1 : Int)))
  | 0, w, S => rfl
  | n + 1, w, S => by
    show (List.range 8).flatMap _ = ((List.range 8).flatMap _).map _
    rw [List.map_flatMap]
    congr 1
    funext j
    cases hb : S.testBit j with
    | true => rw [br_in hb, br_in hb]; rfl
    | false =>
      have er : (wtT T z).2.2 w j = (T.2.2 w j).map (fun x => if x ≤ z.toInt then x else x + 1000000) := rfl
      cases hc : T.2.2 w j with
      | none =>
        rw [hc] at er
        rw [br_none hc, br_none er]
        rfl
      | some x =>
        rw [hc] at er
        rw [br_some hc hb, br_some er hb, ex_W T z n]
        unfold bx
        rw [List.map_map, List.map_map]
        apply List.map_congr_left
        intro p _
        have ea : abv T z w j = decide (z.toInt < x) := by unfold abv; rw [hc]
        show (j :: p.1, (if x ≤ z.toInt then x else x + 1000000) + (p.2 + 1000000 * (cnt T z (w + 1) p.1 : Int))) = (j :: p.1, x + p.2 + 1000000 * (((if abv T z w j = true then 1 else 0) + cnt T z (w + 1) p.1 : Nat) : Int))
        congr 1
        by_cases y : x ≤ z.toInt
        · rw [if_pos y, if_neg (by rw [ea]; simp; omega)]
          omega
        · rw [if_neg y, if_pos (by rw [ea]; simp; omega)]
          omega
theorem ov_cnt {T : tb} (hT : tb_ok T) {p : asg} (hp : p ∈ allA T) (z : Int32) : ∀ n, n ≤ T.1 → ovD T p z n = nI (cnt T z 0 (p.1.take n))
  | 0, _ => rfl
  | n + 1, hn => by
    obtain ⟨j, x, h1, _, _, h4, h5, hb⟩ := cel_s hT hp (show n < T.1 by omega)
    have hl := (all_row hp).1
    have e : ovD T p z (n + 1) = ovD T p z n + (if c32 (celO T p n) ≤ z then 0 else 1) := rfl
    have ea : abv T z n j = decide (z.toInt < x) := by unfold abv; rw [h4]
    have hlt : (p.1.take n).length = n := by rw [List.length_take]; omega
    rw [e, ov_cnt hT hp z n (by omega), List.take_succ, h1, h5, c32_s]
    show _ = nI (cnt T z 0 (p.1.take n ++ [j]))
    rw [cnt_app, hlt, Nat.zero_add]
    by_cases y : x ≤ z.toInt
    · rw [if_pos (show iI x ≤ z by rw [Int32.le_iff_toInt_le, iI_toInt (by omega) (by omega)]; exact y), if_neg (by rw [ea]; simp; omega), Nat.add_zero, Int32.add_zero]
    · rw [if_neg (show ¬ iI x ≤ z by rw [Int32.le_iff_toInt_le, iI_toInt (by omega) (by omega)]; exact y), if_pos (by rw [ea]; simp; omega), nI_1]
theorem ms_3 {T : tb} (hT : tb_ok T) {p : asg} (hp : p ∈ allA T) {x : Int32} (h0 : x ≠ 0) (h1 : x ≠ 1) (h2 : x ≠ 2) (y : Int32) : (msO T p x y).toInt = (cnt T y 0 p.1 : Int) := by
  have h7 := hT.1
  have hl := (all_row hp).1
  have hc := cnt_le T y p.1 0
  unfold msO
  by_cases z : T.1 = 0
  · rw [if_pos z]
    show (0 : Int) = _
    omega
  · rw [if_neg z, if_neg h0, if_neg h1, if_neg h2, ov_cnt hT hp y T.1 (Nat.le_refl _), List.take_of_length_le (by omega), Int32.toInt_toInt64]
    exact iI_toInt (x := ((cnt T y 0 p.1 : Nat) : Int)) (by omega) (by omega)
theorem isF_3 {T : tb} (hT : tb_ok T) {x : Int32} (h0 : x ≠ 0) (h1 : x ≠ 1) (h2 : x ≠ 2) (y : Int32) {p' : asg} (h : fmin (allA (wtT T y)) = some p') : ∃ p, p.1 = p'.1 ∧ isF (fun q => (msO T q x y).toInt) (allA T) p := by
  have h7 := hT.1
  obtain ⟨m1, m2⟩ := fmin_F (all_pw (wtT T y)) h
  have e : allA (wtT T y) = (allA T).map (fun p => (p.1, p.2 + 1000000 * (cnt T y 0 p.1 : Int))) := ex_W T y T.1 0 0
  rw [e] at m1 m2
  obtain ⟨p, hp, rfl⟩ := List.mem_map.mp m1
  refine ⟨p, rfl, hp, fun q hq => ?_⟩
  simp only
  rw [ms_3 hT hp h0 h1 h2, ms_3 hT hq h0 h1 h2]
  have hq' := m2 (q.1, q.2 + 1000000 * (cnt T y 0 q.1 : Int)) (List.mem_map.mpr ⟨q, hq, rfl⟩)
  simp only at hq'
  have b1 := all_sm hT hp
  have b2 := all_sm hT hq
  omega
