/-! auction: bid by bid -/
def nt (T : tb) (p : Nat → Int64) (w j : Nat) : Int64 := c64 (T.2.2 w j) + p j
def lnO (T : tb) (p : Nat → Int64) (w : Nat) (a : Option Nat) : Nat → Option Nat
  | 0 => none
  | n + 1 =>
    if a = some n ∨ T.2.2 w n = none then lnO T p w a n
    else
      match lnO T p w a n with
      | none => some n
      | some k => if nt T p w k ≤ nt T p w n then some k else some n
theorem ln_no {T : tb} {p : Nat → Int64} {w : Nat} {a : Option Nat} {n : Nat} (h : a = some n ∨ T.2.2 w n = none) : lnO T p w a (n + 1) = lnO T p w a n := if_pos h
theorem ln_1 {T : tb} {p : Nat → Int64} {w : Nat} {a : Option Nat} {n : Nat} (h : ¬ (a = some n ∨ T.2.2 w n = none)) (e : lnO T p w a n = none) : lnO T p w a (n + 1) = some n := by
  conv => lhs; unfold lnO
  rw [if_neg h, e]
theorem ln_2 {T : tb} {p : Nat → Int64} {w : Nat} {a : Option Nat} {n k : Nat} (h : ¬ (a = some n ∨ T.2.2 w n = none)) (e : lnO T p w a n = some k) : lnO T p w a (n + 1) = if nt T p w k ≤ nt T p w n then some k else some n := by
  conv => lhs; unfold lnO
  rw [if_neg h, e]
theorem ln_ok {T : tb} {p : Nat → Int64} {w : Nat} {a : Option Nat} : ∀ {n k : Nat}, lnO T p w a n = some k → k < n ∧ T.2.2 w k ≠ none
  | 0, _, h => by cases h
  | n + 1, k, h => by
    by_cases z : a = some n ∨ T.2.2 w n = none
    · rw [ln_no z] at h
      have := ln_ok h
      exact ⟨by omega, this.2⟩
    · cases e : lnO T p w a n with
      | none =>
        rw [ln_1 z e] at h
        cases h
        exact ⟨by omega, fun q => z (Or.inr q)⟩
      | some k' =>
        rw [ln_2 z e] at h
        have := ln_ok e
        split at h
        · cases h
          exact ⟨by omega, this.2⟩
        · cases h
          exact ⟨by omega, fun q => z (Or.inr q)⟩
theorem oN_some {o : Option Nat} {j : Nat} (ho : ∀ v, o = some v → v < 8) (hj : j < 8) : nI j = oN o ↔ o = some j := ⟨fun q => (oN_eq ho hj).mp q.symm, fun q => ((oN_eq ho hj).mpr q).symm⟩
theorem c_net {T : tb} {p : Nat → Int64} {s : sx_M} (hT : tb_ok T) (hg : gridIs 3 T s) (hp : ∀ j, j < 8 → rB s 50 j = p j) {w j : Nat} (hw : w < T.1) (hj : j < T.2.1) : f_X8_net (nI w) (nI j) s = some (nt T p w j, s) := by
  have h8 := hT.2.1
  have hin2 : ¬ (nI j < 0 ∨ 8 ≤ (nI j).toNatClampNeg) := by
    rw [nI_cl (by omega)]
    exact fun q => q.elim (nI_pos (by omega)) (by omega)
  unfold f_X8_net
  rw [bnd (f_at_in hT hg hw hj), if_pos hin2, nI_cl (by omega), hp j (by omega)]
  rfl
theorem c_ln {T : tb} {p : Nat → Int64} {s : sx_M} (hT : tb_ok T) (hg : gridIs 3 T s) (hp : ∀ j, j < 8 → rB s 50 j = p j) {w : Nat} (hw : w < T.1) {a : Option Nat} (ha : ∀ v, a = some v → v < 8) : f_X8_leastNet (nI w) (oN a) s = some (oN (lnO T p w a T.2.1), s) := by
  have h7 := hT.1
  have h8 := hT.2.1
  have hL : whT (f_X8_leastNet_L5 (nI w) (oN a)) (-1, 0, s) = some (oN (lnO T p w a T.2.1), s) := by
    refine wh_for (fun i => (oN (lnO T p w a i), nI i, s)) T.2.1 (fun i hi => ?_) ?_ rfl
    · have hat := f_at_in hT hg hw hi
      have e1 := oN_some ha (show i < 8 by omega)
      simp only [f_X8_leastNet_L5, f_X8_leastNet_L5_J45, f_X8_leastNet_L5_J74, hg.2.1]
      rw [if_neg (show ¬ nI T.2.1 ≤ nI i from nI_ge hi (by omega))]
      by_cases z : a = some i
      · rw [if_pos (e1.mpr z), if_pos trivial, ln_no (Or.inl z), nI_1]
      · rw [if_neg (fun q => z (e1.mp q)), bnd hat]
        cases hx : T.2.2 w i with
        | none =>
          rw [if_pos (show c64 none = 9223372036854775807 from rfl), if_pos trivial, ln_no (Or.inr hx), nI_1]
        | some x =>
          have hxb := hT.2.2.1 _ _ x hx
          have hz : ¬ (a = some i ∨ T.2.2 w i = none) := fun q => q.elim z (fun q => by rw [hx] at q; cases q)
          rw [if_neg (show ¬ c64 (some x) = 9223372036854775807 from of_eq_false (jnv (by omega) (by omega))), if_neg n1_0]
          cases e : lnO T p w a i with
          | none =>
            rw [if_pos (show oN none = -1 from rfl), ln_1 hz e, nI_1]
            rfl
          | some k =>
            have hk := ln_ok e
            have hn2 := c_net hT hg hp hw hi
            have hn1 : f_X8_net (nI w) (oN (some k)) s = some (nt T p w k, s) := c_net hT hg hp hw (show k < T.2.1 by omega)
            rw [if_neg (show ¬ oN (some k) = -1 from oN_n1 k (by omega)), bnd hn2, bnd hn1, ln_2 hz e]
            by_cases q : nt T p w k ≤ nt T p w i
            · rw [if_pos q, if_pos q, nI_1]
            · rw [if_neg q, if_neg q, nI_1]
              rfl
    · simp only [f_X8_leastNet_L5, hg.2.1]
      rw [if_pos (show nI T.2.1 ≤ nI T.2.1 from nI_le (Nat.le_refl _) (by omega))]
  unfold f_X8_leastNet
  rw [bnd hL]
theorem c3264 {T : tb} (hT : tb_ok T) {w j : Nat} (h : T.2.2 w j ≠ none) : (c32 (T.2.2 w j)).toInt64 = c64 (T.2.2 w j) := by
  cases hx : T.2.2 w j with
  | none => exact absurd hx h
  | some x =>
    have hxb := hT.2.2.1 _ _ x hx
    rw [c32_s, iI_64 (by omega) (by omega)]
    rfl
theorem r_lnet {T : tb} {p : Nat → Int64} {s : sx_M} (hT : tb_ok T) (hg : tabIs 59 0 T s) (hp : ∀ j, j < 8 → rB s 68 j = p j) {w : Nat} (hw : w < T.1) {a : Option Nat} (ha : ∀ v, a = some v → v < 8) : f_X12_leastNet (nI w) (oN a) s = some (oN (lnO T p w a T.2.1), s) := by
  have h7 := hT.1
  have h8 := hT.2.1
  have hL : whT (f_X12_leastNet_L5 (nI w) (oN a)) (-1, 0, s) = some (oN (lnO T p w a T.2.1), s) := by
    refine wh_for (fun i => (oN (lnO T p w a i), nI i, s)) T.2.1 (fun i hi => ?_) ?_ rfl
    · have hat := f_cost_in hT hg hw hi
      have e1 := oN_some ha (show i < 8 by omega)
      have hin : ¬ (nI i < 0 ∨ 8 ≤ (nI i).toNatClampNeg) := by
        rw [nI_cl (by omega)]
        exact fun q => q.elim (nI_pos (by omega)) (by omega)
      simp only [f_X12_leastNet_L5, f_X12_leastNet_L5_J76]
      rw [bnd (f_jb hg), if_neg (show ¬ nI T.2.1 ≤ nI i from nI_ge hi (by omega))]
      by_cases z : a = some i
      · rw [if_pos (e1.mpr z), if_pos trivial, ln_no (Or.inl z), nI_1]
      · rw [if_neg (fun q => z (e1.mp q)), bnd hat]
        cases hx : T.2.2 w i with
        | none =>
          rw [if_pos c32_n, if_pos trivial, ln_no (Or.inr hx), nI_1]
        | some x =>
          have hxb := hT.2.2.1 _ _ x hx
          have hz : ¬ (a = some i ∨ T.2.2 w i = none) := fun q => q.elim z (fun q => by rw [hx] at q; cases q)
          have h64i := c3264 hT (w := w) (j := i) (by rw [hx]; simp)
          rw [if_neg (show ¬ c32 (some x) = 2147483647 from of_eq_false (inv_F (by omega) (by omega)))]
          cases e : lnO T p w a i with
          | none =>
            rw [if_pos (show oN none = -1 from rfl), if_neg n1_0, ln_1 hz e, nI_1]
            rfl
          | some k =>
            have hk := ln_ok e
            have hink : ¬ (oN (some k) < 0 ∨ 8 ≤ (oN (some k)).toNatClampNeg) := by
              show ¬ (nI k < 0 ∨ 8 ≤ (nI k).toNatClampNeg)
              rw [nI_cl (by omega)]
              exact fun q => q.elim (nI_pos (by omega)) (by omega)
            have hcl : (oN (some k)).toNatClampNeg = k := nI_cl (by omega)
            have hco2 : f_X12_costOf (nI w) (oN (some k)) s = some (c32 (T.2.2 w k), s) := f_cost_in hT hg hw (show k < T.2.1 by omega)
            have h64k := c3264 hT hk.2
            rw [if_neg (show ¬ oN (some k) = -1 from oN_n1 k (by omega)), bnd hat, if_pos hin, bnd hco2, if_pos hink, ln_2 hz e, hcl, nI_cl (show i < 2147483648 by omega)]
            simp only []
            rw [h64i, h64k, hp k (by omega), hp i (by omega)]
            by_cases q : nt T p w k ≤ nt T p w i
            · rw [if_pos q, if_pos (show c64 (T.2.2 w k) + p k ≤ c64 (T.2.2 w i) + p i from q), if_pos trivial, nI_1]
            · rw [if_neg q, if_neg (show ¬ c64 (T.2.2 w k) + p k ≤ c64 (T.2.2 w i) + p i from q), if_neg n1_0, nI_1]
              rfl
    · simp only [f_X12_leastNet_L5]
      rw [bnd (f_jb hg), if_pos (show nI T.2.1 ≤ nI T.2.1 from nI_le (Nat.le_refl _) (by omega))]
  unfold f_X12_leastNet
  rw [bnd hL]
