/-! NUMBERS: what a comparison of ints comes to, decided by their bounds -/
theorem nI_lt_T {a b : Nat} (h : a < b) (hb : b < 2147483648) : (nI a < nI b) = True := eq_true (nI_lt h hb)
theorem nI_lt_F {a b : Nat} (h : b ≤ a) (ha : a < 2147483648) : (nI a < nI b) = False := eq_false (nI_nlt h ha)
theorem nI_le_T {a b : Nat} (h : a ≤ b) (hb : b < 2147483648) : (nI a ≤ nI b) = True := eq_true (nI_le h hb)
theorem nI_le_F {a b : Nat} (h : b < a) (ha : a < 2147483648) : (nI a ≤ nI b) = False := eq_false (nI_ge h ha)
theorem nI_eq_T {a b : Nat} (h : a = b) : (nI a = nI b) = True := eq_true (by rw [h])
theorem nI_eq_F {a b : Nat} (h : a ≠ b) (ha : a < 2147483648) (hb : b < 2147483648) : (nI a = nI b) = False := eq_false (fun q => h ((nI_eq ha hb).mp q))
theorem nI_cl {n : Nat} (h : n < 2147483648) : (nI n).toNatClampNeg = n := nI_clamp h
theorem le_T {a b : Nat} (h : a ≤ b) : (a ≤ b) = True := eq_true h
theorem le_F {a b : Nat} (h : b < a) : (a ≤ b) = False := eq_false (by omega)
theorem nI_m_F {a : Nat} (h : a < 2147483648) : (nI a = -nI 1) = False := eq_false (by
  intro q
  have := congrArg Int32.toInt q
  rw [nI_toInt h, show (-nI 1).toInt = -1 from by decide] at this
  omega)
theorem m_nI_F {a : Nat} (h : a < 2147483648) : (-nI 1 = nI a) = False := eq_false (by
  intro q
  exact (nI_m_F h).mp q.symm)
theorem nI_dn {a : Nat} (h : 1 ≤ a) : nI a + -nI 1 = nI (a - 1) := by
  obtain ⟨b, rfl⟩ : ∃ b, a = b + 1 := ⟨a - 1, by omega⟩
  exact pk_m1 b
theorem m_nI (a : Nat) : -nI 1 + nI (a + 1) = nI a := by
  rw [Int32.add_comm]; exact pk_m1 a
theorem m_lt : (-nI 1 < nI 0) = True := eq_true (by decide)
theorem bnd {α β : Type} {x : Option α} {a : α} (h : x = some a) (f : α → Option β) : x.bind f = f a := by rw [h]; rfl
theorem ite_T {α : Type} {c : Prop} [Decidable c] {a b : α} (h : c = True) : (if c then a else b) = a := if_pos (of_eq_true h)
theorem ite_F {α : Type} {c : Prop} [Decidable c] {a b : α} (h : c = False) : (if c then a else b) = b := if_neg (of_eq_false h)
def oI : Option Nat → Int32
  | none => -nI 1
  | some n => nI n
theorem oI_n : oI none = -nI 1 := rfl
theorem oI_s (n : Nat) : oI (some n) = nI n := rfl
theorem Ev_some {β : Type} {b : β} {Q : β → Prop} : Ev (some b) Q ↔ Q b := ⟨fun ⟨_, e, h⟩ => Option.some.inj e ▸ h, fun h => ⟨b, rfl, h⟩⟩
theorem Ev_bind {α β : Type} {x : Option α} {f : α → Option β} {Q : β → Prop} : Ev (x.bind f) Q ↔ Ev x (fun a => Ev (f a) Q) := by
  constructor
  · rintro ⟨b, e, h⟩
    cases x with
    | none => cases e
    | some a => exact ⟨a, rfl, b, e, h⟩
  · exact ev_b
/-- a value of a run as it is told -/
theorem ev_eq {β : Type} {x : Option β} {b : β} (h : Ev x (fun r => r = b)) : x = some b := by
  obtain ⟨r, e, rfl⟩ := h; exact e
/-- nothing is changed -/
theorem sx_id {s s' : sx_M} (h : sx_eq (fun _ _ => False, fun _ _ => False, fun _ => False, fun _ => False) s s') : s' = s := by
  obtain ⟨h1, h2, h3, h4⟩ := h
  obtain ⟨a, b, c, d⟩ := s
  obtain ⟨a', b', c', d'⟩ := s'
  have e1 : a' = a := by funext o k; exact h1 o k (fun q => q)
  have e2 : b' = b := by funext o k; exact h2 o k (fun q => q)
  have e3 : c' = c := by funext o k; exact h3 o k (fun q => q)
  have e4 : d' = d := by funext o k; exact h4 o k (fun q => q)
  subst e1 e2 e3 e4
  rfl
/-! reads behind writes, decided -/
theorem rA_T {s : sx_M} {o k : Nat} {v : Int32} {a b : Nat} (h : a = o ∧ b = k) : rA (wA s o k v) a b = v := by rw [rA_wA, if_pos h]
theorem rA_F {s : sx_M} {o k : Nat} {v : Int32} {a b : Nat} (h : a ≠ o ∨ b ≠ k) : rA (wA s o k v) a b = rA s a b := by rw [rA_wA, if_neg (by omega)]
theorem rB_T {s : sx_M} {o k : Nat} {v : Int64} {a b : Nat} (h : a = o ∧ b = k) : rB (wB s o k v) a b = v := by rw [rB_wB, if_pos h]
theorem rB_F {s : sx_M} {o k : Nat} {v : Int64} {a b : Nat} (h : a ≠ o ∨ b ≠ k) : rB (wB s o k v) a b = rB s a b := by rw [rB_wB, if_neg (by omega)]
theorem rI_T {s : sx_M} {o k : Nat} {v : Int32} {a b : Nat} (h : a = o ∧ b = k) : rI (wI s o k v) a b = v := by rw [rI_wI, if_pos h]
theorem rI_F {s : sx_M} {o k : Nat} {v : Int32} {a b : Nat} (h : a ≠ o ∨ b ≠ k) : rI (wI s o k v) a b = rI s a b := by rw [rI_wI, if_neg (by omega)]
theorem rJ_T {s : sx_M} {o k : Nat} {v : Int64} {a b : Nat} (h : a = o ∧ b = k) : rJ (wJ s o k v) a b = v := by rw [rJ_wJ, if_pos h]
theorem rJ_F {s : sx_M} {o k : Nat} {v : Int64} {a b : Nat} (h : a ≠ o ∨ b ≠ k) : rJ (wJ s o k v) a b = rJ s a b := by rw [rJ_wJ, if_neg (by omega)]
/-! the costs told in ints and longs -/
def omin : Option Int → Option Int → Option Int
  | none, b => b
  | some x, none => some x
  | some x, some y => some (if y < x then y else x)
def omax : Option Int → Option Int → Option Int
  | none, b => b
  | some x, none => some x
  | some x, some y => some (if x < y then y else x)
theorem far_min {a b : Option Int} (ha : far a) (hb : far b) : far (omin a b) := by
  intro x hx
  cases a with
  | none => exact hb x hx
  | some y =>
    cases b with
    | none => exact ha x hx
    | some z =>
      have := ha y rfl
      have := hb z rfl
      have e : (if z < y then z else y) = x := Option.some.inj hx
      split at e <;> omega
theorem jJ_lt_T {a b : Int} (h : a < b) (h1 : -9223372036854775808 ≤ a) (h4 : b ≤ 9223372036854775807) : (jJ a < jJ b) = True := eq_true ((jJ_lt h1 (by omega) (by omega) h4).mpr h)
theorem jJ_lt_F {a b : Int} (h : b ≤ a) (h1 : -9223372036854775808 ≤ b) (h4 : a ≤ 9223372036854775807) : (jJ a < jJ b) = False := eq_false (fun q => absurd ((jJ_lt (by omega) h4 h1 (by omega)).mp q) (by omega))
theorem jJ_le_T {a b : Int} (h : a ≤ b) (h1 : -9223372036854775808 ≤ a) (h4 : b ≤ 9223372036854775807) : (jJ a ≤ jJ b) = True := eq_true ((jJ_le h1 (by omega) (by omega) h4).mpr h)
theorem jJ_le_F {a b : Int} (h : b < a) (h1 : -9223372036854775808 ≤ b) (h4 : a ≤ 9223372036854775807) : (jJ a ≤ jJ b) = False := eq_false (fun q => absurd ((jJ_le (by omega) h4 h1 (by omega)).mp q) (by omega))
theorem jJ_eq_F {a b : Int} (h : a ≠ b) (h1 : -9223372036854775808 ≤ a) (h2 : a ≤ 9223372036854775807) (h3 : -9223372036854775808 ≤ b) (h4 : b ≤ 9223372036854775807) : (jJ a = jJ b) = False := eq_false (fun q => h ((jJ_eq h1 h2 h3 h4).mp q))
theorem iI_lt_T {a b : Int} (h : a < b) (h1 : -2147483648 ≤ a) (h4 : b ≤ 2147483647) : (iI a < iI b) = True := eq_true ((iI_lt h1 (by omega) (by omega) h4).mpr h)
theorem iI_lt_F {a b : Int} (h : b ≤ a) (h1 : -2147483648 ≤ b) (h4 : a ≤ 2147483647) : (iI a < iI b) = False := eq_false (fun q => absurd ((iI_lt (by omega) h4 h1 (by omega)).mp q) (by omega))
theorem iI_le_T {a b : Int} (h : a ≤ b) (h1 : -2147483648 ≤ a) (h4 : b ≤ 2147483647) : (iI a ≤ iI b) = True := eq_true ((iI_le h1 (by omega) (by omega) h4).mpr h)
theorem iI_le_F {a b : Int} (h : b < a) (h1 : -2147483648 ≤ b) (h4 : a ≤ 2147483647) : (iI a ≤ iI b) = False := eq_false (fun q => absurd ((iI_le (by omega) h4 h1 (by omega)).mp q) (by omega))
theorem iI_eq_F {a b : Int} (h : a ≠ b) (h1 : -2147483648 ≤ a) (h2 : a ≤ 2147483647) (h3 : -2147483648 ≤ b) (h4 : b ≤ 2147483647) : (iI a = iI b) = False := eq_false (fun q => h ((iI_eq h1 h2 h3 h4).mp q))
theorem jnv {x : Int} (h : -1000000000 ≤ x) (h2 : x ≤ 1000000000) : (jJ x = (9223372036854775807 : Int64)) = False := by
  rw [jJ_nv]; exact jJ_eq_F (by omega) (by omega) (by omega) (by omega) (by omega)
theorem jns {x : Int} (h : -1000000000 ≤ x) (h2 : x ≤ 1000000000) : (jJ x = (-9223372036854775808 : Int64)) = False := by
  rw [jJ_ns]; exact jJ_eq_F (by omega) (by omega) (by omega) (by omega) (by omega)
theorem jlt_nv {x : Int} (h : -1000000000 ≤ x) (h2 : x ≤ 1000000000) : (jJ x < (9223372036854775807 : Int64)) = True := by
  rw [jJ_nv]; exact jJ_lt_T (by omega) (by omega) (by omega)
theorem nv_lt (x : Int64) : ((9223372036854775807 : Int64) < x) = False := eq_false (by
  rw [Int64.lt_iff_toInt_lt, jJ_nv, jJ_toInt (by omega) (by omega)]
  have := Int64.toInt_lt x
  omega)
theorem lt_ns (x : Int64) : (x < (-9223372036854775808 : Int64)) = False := eq_false (by
  rw [Int64.lt_iff_toInt_lt, jJ_ns, jJ_toInt (by omega) (by omega)]
  have := Int64.le_toInt x
  omega)
theorem ns_lt {x : Int} (h : -1000000000 ≤ x) (h2 : x ≤ 1000000000) : ((-9223372036854775808 : Int64) < jJ x) = True := by
  rw [jJ_ns]; exact jJ_lt_T (by omega) (by omega) (by omega)
theorem inv_F {x : Int} (h : -1000000000 ≤ x) (h2 : x ≤ 1000000000) : (iI x = (2147483647 : Int32)) = False := by
  rw [iI_nv]; exact iI_eq_F (by omega) (by omega) (by omega) (by omega) (by omega)
theorem inv_N {x : Int} (h : -1000000000 ≤ x) (h2 : x ≤ 1000000000) : (iI x = nI 2147483647) = False := inv_F h h2
theorem c32_N : (c32 none = nI 2147483647) = True := eq_true rfl
theorem f_minJ (a b : Option Int) (ha : far a) (hb : far b) (s : sx_M) : f_J9_min_f86c9 (c64 a) (c64 b) s = some (c64 (omin a b), s) := by
  unfold f_J9_min_f86c9
  cases a with
  | none =>
    cases b with
    | none => rw [c64_n, ite_F (nv_lt _)]; rfl
    | some y =>
      have := hb y rfl
      rw [c64_n, c64_s, ite_T (jlt_nv this.1 this.2)]; rfl
  | some x =>
    cases b with
    | none => rw [c64_n, ite_F (nv_lt _)]; rfl
    | some y =>
      have := hb y rfl
      have := ha x rfl
      rw [c64_s, c64_s]
      by_cases h : y < x
      · rw [ite_T (jJ_lt_T h (by omega) (by omega))]
        simp only [omin, h, if_true, c64_s]
      · rw [ite_F (jJ_lt_F (by omega) (by omega) (by omega))]
        simp only [omin, h, if_false, c64_s]
theorem f_minI (a b : Option Int) (ha : far a) (hb : far b) (s : sx_M) : f_J9_min_7cf53 (c32 a) (c32 b) s = some (c32 (omin a b), s) := by
  have nv : ∀ x : Int32, ((2147483647 : Int32) < x) = False := fun x => eq_false (by
    rw [Int32.lt_iff_toInt_lt, iI_nv, iI_toInt (by omega) (by omega)]
    have := Int32.toInt_lt x
    omega)
  unfold f_J9_min_7cf53
  cases a with
  | none =>
    cases b with
    | none => rw [c32_n, ite_F (nv _)]; rfl
    | some y =>
      have := hb y rfl
      rw [c32_n, c32_s, iI_nv, ite_T (iI_lt_T (by omega) (by omega) (by omega))]; rfl
  | some x =>
    cases b with
    | none => rw [c32_n, ite_F (nv _)]; rfl
    | some y =>
      have := hb y rfl
      have := ha x rfl
      rw [c32_s, c32_s]
      by_cases h : y < x
      · rw [ite_T (iI_lt_T h (by omega) (by omega))]
        simp only [omin, h, if_true, c32_s]
      · rw [ite_F (iI_lt_F (by omega) (by omega) (by omega))]
        simp only [omin, h, if_false, c32_s]
