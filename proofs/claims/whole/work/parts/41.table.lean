/-! A TABLE: workers, jobs, costs (none: never) -/
abbrev tb : Type := Nat × Nat × (Nat → Nat → Option Int)
def c64 : Option Int → Int64
  | none => 9223372036854775807
  | some x => Int64.ofInt x
def c32 : Option Int → Int32
  | none => 2147483647
  | some x => Int32.ofInt x
def tb_b (B : Int) (T : tb) : Prop := T.1 ≤ 7 ∧ T.2.1 ≤ 8 ∧ (∀ w j x, T.2.2 w j = some x → -B ≤ x ∧ x ≤ B) ∧ ∀ w j, ¬ (w < T.1 ∧ j < T.2.1) → T.2.2 w j = none
/-- its costs as they may be told; the weak bound is that of weighted ones -/
abbrev tb_ok (T : tb) : Prop := tb_b 9999 T
abbrev tb_wk (T : tb) : Prop := tb_b 1100000 T
theorem tb_ok_wk {T : tb} (h : tb_ok T) : tb_wk T := ⟨h.1, h.2.1, fun w j x q => ⟨by have := (h.2.2.1 w j x q).1; omega, by have := (h.2.2.1 w j x q).2; omega⟩, h.2.2.2⟩
/-- the class's grid g holds it -/
def gridIs (g : Nat) (T : tb) (s : sx_M) : Prop := rI s g 1 = nI T.1 ∧ rI s g 2 = nI T.2.1 ∧ ∀ w j, w < T.1 → j < T.2.1 → rB s (g + 1) (8 * w + j) = c64 (T.2.2 w j)
/-- the reference's array a holds it from place o on -/
def tabIs (a o : Nat) (T : tb) (s : sx_M) : Prop := rA s a o = nI T.1 ∧ rA s a (o + 1) = nI T.2.1 ∧ ∀ w j, w < T.1 → j < T.2.1 → rA s a (o + 2 + (8 * w + j)) = c32 (T.2.2 w j)
theorem f_has_in {g : Nat} {T : tb} {s : sx_M} {B : Int} (hT : tb_b B T) (hg : gridIs g T s) {w j : Nat} (hw : w < T.1) (hj : j < T.2.1) : f_X1_has g (nI w) (nI j) s = some (1, s) := by
  have h7 := hT.1
  have h8 := hT.2.1
  unfold f_X1_has
  rw [if_neg (nI_pos (by omega)), hg.1, if_neg (nI_ge hw (by omega)), if_neg (nI_pos (by omega)), hg.2.1, if_neg (nI_ge hj (by omega))]
theorem f_has_out {g : Nat} {T : tb} {s : sx_M} (hg : gridIs g T s) {x y : Int32} (h : x < 0 ∨ nI T.1 ≤ x ∨ y < 0 ∨ nI T.2.1 ≤ y) : f_X1_has g x y s = some (0, s) := by
  unfold f_X1_has
  rw [hg.1, hg.2.1]
  by_cases h1 : x < 0
  · rw [if_pos h1]
  rw [if_neg h1]
  by_cases h2 : nI T.1 ≤ x
  · rw [if_pos h2]
  rw [if_neg h2]
  by_cases h3 : y < 0
  · rw [if_pos h3]
  rw [if_neg h3]
  by_cases h4 : nI T.2.1 ≤ y
  · rw [if_pos h4]
  exact absurd h (fun q => q.elim h1 (fun q => q.elim h2 (fun q => q.elim h3 h4)))
theorem f_at_in {g : Nat} {T : tb} {s : sx_M} {B : Int} (hT : tb_b B T) (hg : gridIs g T s) {w j : Nat} (hw : w < T.1) (hj : j < T.2.1) : f_X1_at g (nI w) (nI j) s = some (c64 (T.2.2 w j), s) := by
  have h7 := hT.1
  have h8 := hT.2.1
  unfold f_X1_at
  rw [if_neg (nI_pos (by omega)), hg.1, if_neg (nI_ge hw (by omega)), if_neg (nI_pos (by omega)), hg.2.1, if_neg (nI_ge hj (by omega))]
  unfold f_X1_at_J29
  have e : nI w * (8 : Int32) + nI j = nI (8 * w + j) := by
    rw [show (8 : Int32) = nI 8 from by decide, pk_mul, nI_add, Nat.mul_comm]
  rw [if_neg (by decide), e, if_pos (nI_in (by omega) (by omega)), nI_clamp (by omega), hg.2.2 w j hw hj]
theorem f_isW_in {T : tb} {s : sx_M} (hT : tb_ok T) (hg : tabIs 59 0 T s) {w : Nat} (hw : w < T.1) : f_X12_isWorker (nI w) s = some (1, s) := by
  have h7 := hT.1
  obtain ⟨n, hn⟩ : ∃ n, T.1 = n + 1 := ⟨T.1 - 1, by omega⟩
  have e : rA s 59 ((0 : Int32)).toNatClampNeg = nI (n + 1) := by rw [← hn]; exact hg.1
  show (some _).bind _ = _
  show (f_X12_in (nI w).toInt64 0 (rA s 59 ((0 : Int32)).toNatClampNeg - 1).toInt64 s).bind _ = _
  rw [e, nI_pred, f_in0, if_neg (fun q => q.elim (nI_pos (by omega)) (nI_nlt (by omega) (by omega)))]
  rfl
theorem f_isJ_in {T : tb} {s : sx_M} (hT : tb_ok T) (hg : tabIs 59 0 T s) {j : Nat} (hj : j < T.2.1) : f_X12_isJob (nI j) s = some (1, s) := by
  have h8 := hT.2.1
  obtain ⟨n, hn⟩ : ∃ n, T.2.1 = n + 1 := ⟨T.2.1 - 1, by omega⟩
  have e : rA s 59 ((1 : Int32)).toNatClampNeg = nI (n + 1) := by rw [← hn]; exact hg.2.1
  show (f_X12_in (nI j).toInt64 0 (rA s 59 ((1 : Int32)).toNatClampNeg - 1).toInt64 s).bind _ = _
  rw [e, nI_pred, f_in0, if_neg (fun q => q.elim (nI_pos (by omega)) (nI_nlt (by omega) (by omega)))]
  rfl
theorem i_lt1 {x : Int32} {n : Nat} (hn : n ≤ 100) (h0 : ¬ x < 0) (h : nI n ≤ x) : nI n - 1 < x := by
  rw [Int32.lt_iff_toInt_lt, show (1 : Int32) = nI 1 from by decide, pk_sub_toInt (by omega) (by omega)]
  rw [Int32.le_iff_toInt_le, nI_toInt (by omega)] at h
  omega
theorem f_isW_out {T : tb} {s : sx_M} (hT : tb_ok T) (hg : tabIs 59 0 T s) {x : Int32} (h : x < 0 ∨ nI T.1 ≤ x) : f_X12_isWorker x s = some (0, s) := by
  have h7 := hT.1
  have e : rA s 59 ((0 : Int32)).toNatClampNeg = nI T.1 := hg.1
  show (f_X12_in x.toInt64 0 (rA s 59 ((0 : Int32)).toNatClampNeg - 1).toInt64 s).bind _ = _
  rw [e, f_in0, if_pos (by
    by_cases h0 : x < 0
    · exact Or.inl h0
    · exact Or.inr (i_lt1 (by omega) h0 (h.resolve_left h0)))]
  rfl
theorem f_isJ_out {T : tb} {s : sx_M} (hT : tb_ok T) (hg : tabIs 59 0 T s) {x : Int32} (h : x < 0 ∨ nI T.2.1 ≤ x) : f_X12_isJob x s = some (0, s) := by
  have h8 := hT.2.1
  have e : rA s 59 ((1 : Int32)).toNatClampNeg = nI T.2.1 := hg.2.1
  show (f_X12_in x.toInt64 0 (rA s 59 ((1 : Int32)).toNatClampNeg - 1).toInt64 s).bind _ = _
  rw [e, f_in0, if_pos (by
    by_cases h0 : x < 0
    · exact Or.inl h0
    · exact Or.inr (i_lt1 (by omega) h0 (h.resolve_left h0)))]
  rfl
theorem f_cost_in {T : tb} {s : sx_M} (hT : tb_ok T) (hg : tabIs 59 0 T s) {w j : Nat} (hw : w < T.1) (hj : j < T.2.1) : f_X12_costOf (nI w) (nI j) s = some (c32 (T.2.2 w j), s) := by
  have h7 := hT.1
  have h8 := hT.2.1
  have e : (2 : Int32) + (8 : Int32) * nI w + nI j = nI (2 + (8 * w + j)) := by
    rw [show (8 : Int32) = nI 8 from by decide, show (2 : Int32) = nI 2 from by decide, pk_mul, nI_add, nI_add, Nat.add_assoc]
  show (if ¬ (((2 : Int32) + (8 : Int32) * nI w + nI j) < 0 ∨ 58 ≤ ((2 : Int32) + (8 : Int32) * nI w + nI j).toNatClampNeg) then some (rA s 59 ((2 : Int32) + (8 : Int32) * nI w + nI j).toNatClampNeg, s) else none) = _
  rw [e, if_pos (nI_in (by omega) (by omega)), nI_clamp (by omega)]
  have h := hg.2.2 w j hw hj
  rw [show 0 + 2 + (8 * w + j) = 2 + (8 * w + j) by omega] at h
  rw [h]
theorem c_told {T : tb} (hT : tb_ok T) (w j : Nat) (s : sx_M) : f_X12_told (c32 (T.2.2 w j)) s = some (c64 (T.2.2 w j), s) := by
  unfold f_X12_told
  cases hc : T.2.2 w j with
  | none => exact if_pos rfl
  | some x =>
    obtain ⟨h1, h2⟩ := hT.2.2.1 w j x hc
    have e1 : (Int32.ofInt x).toInt = x := Int32.toInt_ofInt_of_le (by omega) (by omega)
    have hne : ¬ c32 (some x) = (2147483647 : Int32) := by
      intro q
      have := congrArg Int32.toInt q
      rw [show c32 (some x) = Int32.ofInt x from rfl, e1] at this
      have e2 : (2147483647 : Int32).toInt = 2147483647 := by decide
      omega
    rw [if_neg hne]
    congr 2
    apply Int64.toInt_inj.mp
    rw [Int32.toInt_toInt64]
    show (Int32.ofInt x).toInt = (Int64.ofInt x).toInt
    rw [e1, Int64.toInt_ofInt_of_le (by omega) (by omega)]
/-- cost, for any relation that knows of the table -/
theorem stp_5 {Rel : sx_M → Prop} (h : ∀ s, Rel s → ∃ T, tb_ok T ∧ gridIs 3 T s ∧ tabIs 59 0 T s) : st_ok_5 Rel := by
  intro x y s hs
  obtain ⟨T, hT, hg, ht⟩ := h s hs
  have h7 := hT.1
  have h8 := hT.2.1
  have out : (x < 0 ∨ nI T.1 ≤ x ∨ y < 0 ∨ nI T.2.1 ≤ y) → f_X12_cost x y s = some (-9223372036854775808, s) → ∃ p1 p2, f_X11_cost x y s = some p1 ∧ f_X12_cost x y p1.2 = some p2 ∧ p1.1 = p2.1 ∧ Rel p2.2 := by
    intro ho h2
    refine ⟨(-9223372036854775808, s), (-9223372036854775808, s), ?_, h2, rfl, hs⟩
    unfold f_X11_cost
    rw [f_has_out hg ho]
    rfl
  rcases pk_ix x (n := T.1) (by omega) with h1 | h1 | ⟨w, hw, rfl⟩
  · refine out (Or.inl h1) ?_
    unfold f_X12_cost
    rw [f_isW_out hT ht (Or.inl h1)]; rfl
  · refine out (Or.inr (Or.inl h1)) ?_
    unfold f_X12_cost
    rw [f_isW_out hT ht (Or.inr h1)]; rfl
  rcases pk_ix y (n := T.2.1) (by omega) with h1 | h1 | ⟨j, hj, rfl⟩
  · refine out (Or.inr (Or.inr (Or.inl h1))) ?_
    unfold f_X12_cost
    rw [f_isW_in hT ht hw]
    show (f_X12_isJob y s).bind _ = _
    rw [f_isJ_out hT ht (Or.inl h1)]; rfl
  · refine out (Or.inr (Or.inr (Or.inr h1))) ?_
    unfold f_X12_cost
    rw [f_isW_in hT ht hw]
    show (f_X12_isJob y s).bind _ = _
    rw [f_isJ_out hT ht (Or.inr h1)]; rfl
  refine ⟨(c64 (T.2.2 w j), s), (c64 (T.2.2 w j), s), ?_, ?_, rfl, hs⟩
  · unfold f_X11_cost
    rw [f_has_in hT hg hw hj]
    show (f_X1_at 3 (nI w) (nI j) s).bind _ = _
    rw [f_at_in hT hg hw hj]; rfl
  · unfold f_X12_cost
    rw [f_isW_in hT ht hw]
    show (f_X12_isJob (nI j) s).bind _ = _
    rw [f_isJ_in hT ht hj]
    show (f_X12_costOf (nI w) (nI j) s).bind _ = _
    rw [f_cost_in hT ht hw hj]
    show (f_X12_told (c32 (T.2.2 w j)) s).bind _ = _
    rw [c_told hT]; rfl
