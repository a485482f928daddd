/-! THE PURE LAYER. What is read behind a write -/
theorem rI_wI (s : sx_M) (o k : Nat) (v : Int32) (a b : Nat) : rI (wI s o k v) a b = if a = o ∧ b = k then v else rI s a b := rfl
theorem rJ_wI (s : sx_M) (o k : Nat) (v : Int32) (a b : Nat) : rJ (wI s o k v) a b = rJ s a b := rfl
theorem rA_wI (s : sx_M) (o k : Nat) (v : Int32) (a b : Nat) : rA (wI s o k v) a b = rA s a b := rfl
theorem rB_wI (s : sx_M) (o k : Nat) (v : Int32) (a b : Nat) : rB (wI s o k v) a b = rB s a b := rfl
theorem rI_wJ (s : sx_M) (o k : Nat) (v : Int64) (a b : Nat) : rI (wJ s o k v) a b = rI s a b := rfl
theorem rJ_wJ (s : sx_M) (o k : Nat) (v : Int64) (a b : Nat) : rJ (wJ s o k v) a b = if a = o ∧ b = k then v else rJ s a b := rfl
theorem rA_wJ (s : sx_M) (o k : Nat) (v : Int64) (a b : Nat) : rA (wJ s o k v) a b = rA s a b := rfl
theorem rB_wJ (s : sx_M) (o k : Nat) (v : Int64) (a b : Nat) : rB (wJ s o k v) a b = rB s a b := rfl
theorem rI_wA (s : sx_M) (o k : Nat) (v : Int32) (a b : Nat) : rI (wA s o k v) a b = rI s a b := rfl
theorem rJ_wA (s : sx_M) (o k : Nat) (v : Int32) (a b : Nat) : rJ (wA s o k v) a b = rJ s a b := rfl
theorem rA_wA (s : sx_M) (o k : Nat) (v : Int32) (a b : Nat) : rA (wA s o k v) a b = if a = o ∧ b = k then v else rA s a b := rfl
theorem rB_wA (s : sx_M) (o k : Nat) (v : Int32) (a b : Nat) : rB (wA s o k v) a b = rB s a b := rfl
theorem rI_wB (s : sx_M) (o k : Nat) (v : Int64) (a b : Nat) : rI (wB s o k v) a b = rI s a b := rfl
theorem rJ_wB (s : sx_M) (o k : Nat) (v : Int64) (a b : Nat) : rJ (wB s o k v) a b = rJ s a b := rfl
theorem rA_wB (s : sx_M) (o k : Nat) (v : Int64) (a b : Nat) : rA (wB s o k v) a b = rA s a b := rfl
theorem rB_wB (s : sx_M) (o k : Nat) (v : Int64) (a b : Nat) : rB (wB s o k v) a b = if a = o ∧ b = k then v else rB s a b := rfl
/-! ints and longs -/
theorem i64_lt (x y : Int32) : x.toInt64 < y.toInt64 ↔ x < y := by
  rw [Int64.lt_iff_toInt_lt, Int32.lt_iff_toInt_lt, Int32.toInt_toInt64, Int32.toInt_toInt64]
theorem i64_le (x y : Int32) : x.toInt64 ≤ y.toInt64 ↔ x ≤ y := by
  rw [Int64.le_iff_toInt_le, Int32.le_iff_toInt_le, Int32.toInt_toInt64, Int32.toInt_toInt64]
theorem i64_0 : (0 : Int32).toInt64 = 0 := by decide
/-- the reference's in(x, 0, y) of ints -/
theorem f_in0 (x y : Int32) (s : sx_M) : f_X12_in x.toInt64 0 y.toInt64 s = some (if x < 0 ∨ y < x then 0 else 1, s) := by
  unfold f_X12_in
  rw [← i64_0]
  by_cases h1 : x < 0
  · rw [if_pos ((i64_lt x 0).mpr h1), if_pos (Or.inl h1)]
  · rw [if_neg (fun q => h1 ((i64_lt x 0).mp q))]
    by_cases h2 : y < x
    · rw [if_pos ((i64_lt y x).mpr h2), if_pos (Or.inr h2)]
    · rw [if_neg (fun q => h2 ((i64_lt y x).mp q)), if_neg (fun q => q.elim h1 h2)]
/-- fault, for any relation that knows of it -/
theorem stp_3 {Rel : sx_M → Prop} (h : ∀ s, Rel s → rI s 19 6 = rI s 58 5 ∧ rI s 19 7 = rI s 58 6) : st_ok_3 Rel := by
  intro v s hs
  obtain ⟨h1, h2⟩ := h s hs
  unfold f_X11_fault f_X12_fault
  by_cases c0 : v = 0
  · exact ⟨_, _, if_pos c0, if_pos c0, h1, hs⟩
  · by_cases c1 : v = 1
    · exact ⟨_, _, (if_neg c0).trans (if_pos c1), (if_neg c0).trans (if_pos c1), h2, hs⟩
    · exact ⟨_, _, (if_neg c0).trans (if_neg c1), (if_neg c0).trans (if_neg c1), rfl, hs⟩
/-- end, for any relation that knows of the tape's length and lets it be cut -/
theorem stp_1 {Rel : sx_M → Prop} (h : ∀ s, Rel s → rI s 1 1 = rI s 58 4) (hc : ∀ s n, Rel s → ¬ n < 0 → n ≤ rI s 1 1 → Rel (wI (wI s 1 1 n) 58 4 n)) : st_ok_1 Rel := by
  intro v s hs
  have he := h s hs
  unfold f_X11_end f_X12_end f_X9_cut
  by_cases c0 : v < 0
  · refine ⟨(-1, s), (-1, s), ?_, ?_, rfl, hs⟩
    · rw [if_pos c0]; rfl
    · show (f_X12_in v.toInt64 0 (rI s 58 4).toInt64 s).bind _ = _
      rw [f_in0, if_pos (Or.inl c0)]; rfl
  · by_cases c1 : v ≤ rI s 1 1
    · refine ⟨(v, wI s 1 1 v), (v, wI (wI s 1 1 v) 58 4 v), ?_, ?_, rfl, hc s v hs c0 c1⟩
      · rw [if_neg c0, if_pos c1]; rfl
      · show (f_X12_in v.toInt64 0 (rI s 58 4).toInt64 (wI s 1 1 v)).bind _ = _
        rw [f_in0, if_neg (fun q => q.elim c0 (fun z => absurd c1 (Int32.not_le.mpr (by rw [he]; exact z))))]; rfl
    · refine ⟨(-1, s), (-1, s), ?_, ?_, rfl, hs⟩
      · rw [if_neg c0, if_neg c1]; rfl
      · show (f_X12_in v.toInt64 0 (rI s 58 4).toInt64 s).bind _ = _
        rw [f_in0, if_pos (Or.inr (by rw [← he]; exact Int32.not_le.mp c1))]; rfl
