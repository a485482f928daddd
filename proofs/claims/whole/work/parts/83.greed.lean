/-! greedy: the least cell that is free, again and again -/
abbrev hs : Type := Nat → Option Nat
def wo (h : hs) (j : Nat) : Nat → Nat → Option Nat
  | _, 0 => none
  | i, n + 1 => if h i = some j then some i else wo h j (i + 1) n
abbrev bt : Type := Option (Nat × Nat × Int)
def bsX (w j : Nat) (x : Int) (b : bt) : bt :=
  match b with
  | none => some (w, j, x)
  | some c => if c.2.2 ≤ x then b else some (w, j, x)
def bs1 (T : tb) (h : hs) (w j : Nat) (b : bt) : bt :=
  if h w = none ∧ wo h j 0 T.1 = none then
    (match T.2.2 w j with
    | none => b
    | some x => bsX w j x b)
  else b
def bsR (T : tb) (h : hs) (w : Nat) (b : bt) : Nat → bt
  | 0 => b
  | n + 1 => bs1 T h w n (bsR T h w b n)
def bsA (T : tb) (h : hs) : Nat → bt
  | 0 => none
  | n + 1 => bsR T h n (bsA T h n) T.2.1
def bOK (T : tb) (h : hs) (b : bt) : Prop := ∀ w j x, b = some (w, j, x) → w < T.1 ∧ j < T.2.1 ∧ T.2.2 w j = some x ∧ h w = none ∧ wo h j 0 T.1 = none
theorem bs1_ok {T : tb} {h : hs} {w j : Nat} {b : bt} (hw : w < T.1) (hj : j < T.2.1) (hb : bOK T h b) : bOK T h (bs1 T h w j b) := by
  unfold bs1
  split
  · rename_i hc
    cases hx : T.2.2 w j with
    | none => exact hb
    | some x =>
      show bOK T h (bsX w j x b)
      have hnew : bOK T h (some (w, j, x)) := by
        intro w' j' x' e
        cases e
        exact ⟨hw, hj, hx, hc.1, hc.2⟩
      unfold bsX
      cases b with
      | none => exact hnew
      | some c =>
        show bOK T h (if c.2.2 ≤ x then some c else some (w, j, x))
        split
        · exact hb
        · exact hnew
  · exact hb
theorem bsR_ok {T : tb} {h : hs} {w : Nat} {b : bt} (hw : w < T.1) (hb : bOK T h b) : ∀ n, n ≤ T.2.1 → bOK T h (bsR T h w b n)
  | 0, _ => hb
  | n + 1, hn => bs1_ok hw (by omega) (bsR_ok hw hb n (by omega))
theorem bsA_ok {T : tb} {h : hs} : ∀ n, n ≤ T.1 → bOK T h (bsA T h n)
  | 0, _ => fun _ _ _ e => by cases e
  | n + 1, hn => bsR_ok (by omega) (bsA_ok n (by omega)) _ (Nat.le_refl _)
theorem oN_n1' {T : tb} (hT : tb_ok T) {o : Option Nat} (ho : ∀ v, o = some v → v < 8) : oN o = (-1 : Int32) ↔ o = none := by
  cases o with
  | none => exact ⟨fun _ => rfl, fun _ => rfl⟩
  | some v => exact ⟨fun h => absurd h (oN_n1 v (ho v rfl)), fun h => by cases h⟩
theorem wo_lt {h : hs} {j w : Nat} : ∀ {n i : Nat}, wo h j i n = some w → w < i + n ∧ h w = some j
  | 0, _, h => by cases h
  | n + 1, i, e => by
    unfold wo at e
    by_cases z : h i = some j
    · rw [if_pos z] at e
      cases e
      exact ⟨by omega, z⟩
    · rw [if_neg z] at e
      have := wo_lt e
      exact ⟨by omega, this.2⟩
theorem wo_n {h : hs} {j : Nat} : ∀ {n i : Nat}, wo h j i n = none ↔ ∀ w, i ≤ w → w < i + n → h w ≠ some j
  | 0, _ => ⟨fun _ w h1 h2 => by omega, fun _ => rfl⟩
  | n + 1, i => by
    unfold wo
    by_cases z : h i = some j
    · rw [if_pos z]
      exact ⟨fun q => (by cases q), fun q => absurd z (q i (by omega) (by omega))⟩
    · rw [if_neg z, wo_n]
      constructor
      · intro q w h1 h2
        by_cases y : w = i
        · rw [y]; exact z
        · exact q w (by omega) (by omega)
      · intro q w h1 h2
        exact q w (by omega) (by omega)
/-- the class's two arrays -/
def hC (T : tb) (h : hs) (s : sx_M) : Prop := (∀ w, w < T.1 → rA s 47 w = oN (h w) ∧ ∀ j, h w = some j → j < 8) ∧ ∀ j, j < T.2.1 → rA s 48 j = oN (wo h j 0 T.1)
/-- the reference's one -/
def hR (T : tb) (h : hs) (s : sx_M) : Prop := ∀ w, w < T.1 → rA s 67 w = oN (h w) ∧ ∀ j, h w = some j → j < 8
def cb1 (b : bt) : Int64 := c64 (b.map (fun c => c.2.2))
def cb2 (b : bt) : Int32 := (b.map (fun c => nI c.1)).getD 0
def cb3 (b : bt) : Int32 := (b.map (fun c => nI c.2.1)).getD 0
theorem le_mx (a : Int64) : a ≤ 9223372036854775807 := by
  rw [Int64.le_iff_toInt_le, show (9223372036854775807 : Int64).toInt = 9223372036854775807 by decide]
  have := Int64.toInt_le a
  have h2 : Int64.maxValue.toInt = 9223372036854775807 := by decide
  omega
theorem bs1_no {T : tb} {h : hs} {w j : Nat} {b : bt} (hc : ¬ (h w = none ∧ wo h j 0 T.1 = none)) : bs1 T h w j b = b := by
  unfold bs1
  rw [if_neg hc]
theorem bs1_n {T : tb} {h : hs} {w j : Nat} {b : bt} (hx : T.2.2 w j = none) : bs1 T h w j b = b := by
  unfold bs1
  rw [hx]
  split <;> rfl
theorem bs1_x {T : tb} {h : hs} {w j : Nat} {b : bt} {x : Int} (hc : h w = none ∧ wo h j 0 T.1 = none) (hx : T.2.2 w j = some x) : bs1 T h w j b = bsX w j x b := by
  unfold bs1
  rw [if_pos hc, hx]
theorem bsX_le {w j w' j' : Nat} {x y : Int} (h : y ≤ x) : bsX w j x (some (w', j', y)) = some (w', j', y) := if_pos h
theorem bsX_gt {w j w' j' : Nat} {x y : Int} (h : ¬ y ≤ x) : bsX w j x (some (w', j', y)) = some (w, j, x) := if_neg h
theorem c_cell {T : tb} {h : hs} {s : sx_M} {b : bt} {w j : Nat} (hT : tb_ok T) (hg : gridIs 3 T s) (hh : hC T h s) (hb : bOK T h b) (hw : w < T.1) (hj : j < T.2.1) : f_X0_takeLeast_L27 (nI w) (cb1 b, cb2 b, cb3 b, nI j, s) = some (.inl (cb1 (bs1 T h w j b), cb2 (bs1 T h w j b), cb3 (bs1 T h w j b), nI (j + 1), s)) := by
  have h7 := hT.1
  have h8 := hT.2.1
  have hin : ¬ (nI w < 0 ∨ 7 ≤ (nI w).toNatClampNeg) := by
    rw [nI_cl (by omega)]
    exact fun q => q.elim (nI_pos (by omega)) (by omega)
  have hin2 : ¬ (nI j < 0 ∨ 8 ≤ (nI j).toNatClampNeg) := by
    rw [nI_cl (by omega)]
    exact fun q => q.elim (nI_pos (by omega)) (by omega)
  have hat := f_at_in hT hg hw hj
  have e1 := oN_n1' hT (o := h w) (hh.1 w hw).2
  have e2 := oN_n1' hT (o := wo h j 0 T.1) (fun v hv => by have := (wo_lt hv).1; omega)
  simp only [f_X0_takeLeast_L27, f_X0_takeLeast_L27_J66, hg.2.1]
  rw [if_neg (show ¬ nI T.2.1 ≤ nI j from nI_ge hj (by omega)), if_pos hin, nI_cl (show w < 2147483648 by omega), (hh.1 w hw).1, nI_1]
  by_cases z1 : h w = none
  · rw [if_pos (e1.mpr z1), if_pos hin2, nI_cl (show j < 2147483648 by omega), hh.2 j hj]
    by_cases z2 : wo h j 0 T.1 = none
    · rw [if_pos (e2.mpr z2), if_neg n1_0, bnd hat]
      cases hx : T.2.2 w j with
      | none =>
        simp only []
        rw [bs1_n hx, if_pos (show cb1 b ≤ c64 none from le_mx _)]
      | some x =>
        have hxb := hT.2.2.1 _ _ x hx
        rw [hx] at hat
        simp only []
        rw [bs1_x ⟨z1, z2⟩ hx]
        cases b with
        | none =>
          rw [if_neg (show ¬ cb1 none ≤ c64 (some x) from of_eq_false (by
            show (c64 none ≤ c64 (some x)) = False
            rw [c64_n, c64_s, jJ_nv]
            exact jJ_le_F (by omega) (by omega) (by omega))), bnd hat]
          rfl
        | some c =>
          obtain ⟨w', j', y⟩ := c
          have hyb := hT.2.2.1 _ _ y (hb w' j' y rfl).2.2.1
          by_cases q : y ≤ x
          · rw [if_pos (show cb1 (some (w', j', y)) ≤ c64 (some x) from of_eq_true (jJ_le_T (a := y) (b := x) q (by omega) (by omega))), bsX_le q]
          · rw [if_neg (show ¬ cb1 (some (w', j', y)) ≤ c64 (some x) from of_eq_false (jJ_le_F (a := y) (b := x) (by omega) (by omega) (by omega))), bsX_gt q, bnd hat]
            rfl
    · rw [if_neg (fun q => z2 (e2.mp q)), if_pos trivial, bs1_no (fun q => z2 q.2)]
  · rw [if_neg (fun q => z1 (e1.mp q)), if_pos trivial, bs1_no (fun q => z1 q.1)]
theorem c_scan {T : tb} {h : hs} {s : sx_M} (hT : tb_ok T) (hg : gridIs 3 T s) (hh : hC T h s) : whT f_X0_takeLeast_L12 (9223372036854775807, 0, 0, 0, s) = some (cb1 (bsA T h T.1), cb2 (bsA T h T.1), cb3 (bsA T h T.1), s) := by
  have h7 := hT.1
  have h8 := hT.2.1
  refine wh_for (fun i => (cb1 (bsA T h i), cb2 (bsA T h i), cb3 (bsA T h i), nI i, s)) T.1 (fun i hi => ?_) ?_ rfl
  · have hL : whT (f_X0_takeLeast_L27 (nI i)) (cb1 (bsA T h i), cb2 (bsA T h i), cb3 (bsA T h i), 0, s) = some (cb1 (bsA T h (i + 1)), cb2 (bsA T h (i + 1)), cb3 (bsA T h (i + 1)), s) := by
      refine wh_for (fun j => (cb1 (bsR T h i (bsA T h i) j), cb2 (bsR T h i (bsA T h i) j), cb3 (bsR T h i (bsA T h i) j), nI j, s)) T.2.1 (fun j hj => ?_) ?_ rfl
      · exact c_cell hT hg hh (bsR_ok hi (bsA_ok i (by omega)) j (by omega)) hi hj
      · simp only [f_X0_takeLeast_L27, hg.2.1]
        rw [if_pos (show nI T.2.1 ≤ nI T.2.1 from nI_le (Nat.le_refl _) (by omega))]
        rfl
    simp only [f_X0_takeLeast_L12, hg.1]
    rw [if_neg (show ¬ nI T.1 ≤ nI i from nI_ge hi (by omega)), bnd hL, nI_1]
  · simp only [f_X0_takeLeast_L12, hg.1]
    rw [if_pos (show nI T.1 ≤ nI T.1 from nI_le (Nat.le_refl _) (by omega))]
