def shI : Nat → Int32
  | 0 => 24
  | 1 => 16
  | 2 => 8
  | 3 => 0
  | _ => -8
theorem shI_s : ∀ i, i < 4 → shI i = nI (24 - 8 * i) ∧ ¬ shI i < 0 ∧ shI i + (-8 : Int32) = shI (i + 1) := by decide
theorem c_add {s : sx_M} {n : Nat} (hn : n + 4 ≤ 600) (h1 : rI s 1 1 = nI n) (x : Int32) : Ev (f_X9_addNumber x s) (fun s' => rI s' 1 1 = nI (n + 4) ∧ (∀ k, k < 4 → rA s' 2 (n + k) = byC x (24 - 8 * k)) ∧ (∀ k, k < n → rA s' 2 k = rA s 2 k)) := by
  have hL : Ev (whT (f_X9_addNumber_L3 x) (24, s)) (fun s' => rI s' 1 1 = nI (n + 4) ∧ (∀ k, k < 4 → rA s' 2 (n + k) = byC x (24 - 8 * k)) ∧ (∀ k, k < n → rA s' 2 k = rA s 2 k)) := by
    refine ev_f (fun (i : Nat) (a : Int32 × sx_M) => a.1 = shI i ∧ rI a.2 1 1 = nI (n + i) ∧ (∀ k, k < i → rA a.2 2 (n + k) = byC x (24 - 8 * k)) ∧ (∀ k, k < n → rA a.2 2 k = rA s 2 k)) 4 ?_ ?_ (i := 0) (by omega) ⟨rfl, h1, fun k hk => by omega, fun k _ => rfl⟩
    · rintro i ⟨a1, s1⟩ hi ⟨ea, b1, b2, b3⟩
      simp only at ea b1 b2 b3
      subst ea
      obtain ⟨c1, c2, c3⟩ := shI_s i hi
      have hin : ¬ (nI (n + i) < 0 ∨ 600 ≤ (nI (n + i)).toNatClampNeg) := by
        rw [nI_cl (by omega)]
        exact fun q => q.elim (nI_pos (by omega)) (by omega)
      refine ⟨.inl (shI (i + 1), wI (wA s1 2 (n + i) (byC x (24 - 8 * i))) 1 1 (nI (n + i) + 1)), ?_, rfl, ?_, fun k hk => ?_, fun k hk => ?_⟩
      · simp only [f_X9_addNumber_L3, b1]
        rw [if_neg c2, if_neg (show ¬ 600 ≤ nI (n + i) from of_eq_false (nI_le_F (a := 600) (by omega) (by omega))), if_pos hin, nI_cl (by omega), c3, rI_wA, b1, c1]
        rfl
      · show rI (wI _ 1 1 _) 1 1 = _
        rw [rI_T ⟨rfl, rfl⟩, nI_1]
        rfl
      · show rA (wA s1 2 (n + i) (byC x (24 - 8 * i))) 2 (n + k) = _
        by_cases z : k = i
        · rw [z, rA_T ⟨rfl, rfl⟩]
        · rw [rA_F (by omega)]; exact b2 k (by omega)
      · show rA (wA s1 2 (n + i) (byC x (24 - 8 * i))) 2 k = _
        rw [rA_F (by omega)]; exact b3 k hk
    · rintro ⟨a1, s1⟩ ⟨ea, b1, b2, b3⟩
      simp only at ea b1 b2 b3
      subst ea
      refine ⟨.inr s1, ?_, b1, b2, b3⟩
      simp only [f_X9_addNumber_L3]
      rw [if_pos (show shI 4 < 0 by decide)]
  obtain ⟨s', e, h⟩ := hL
  refine ⟨s', ?_, h⟩
  unfold f_X9_addNumber
  rw [bnd e]
def X5 (x1 x2 x3 x4 x5 : Int32) : Nat → Int32 := upd (upd (upd (upd (upd (fun _ => 0) 0 x1) 1 x2) 2 x3) 3 x4) 4 x5
theorem c_feed {s : sx_M} {n : Nat} (hn : n + 20 ≤ 600) (h1 : rI s 1 1 = nI n) (x1 x2 x3 x4 x5 : Int32) : Ev (f_X11_feed x1 x2 x3 x4 x5 s) (fun p => p.1 = nI (n + 20) ∧ rI p.2 1 1 = nI (n + 20) ∧ (∀ k, k < 20 → rA p.2 2 (n + k) = byC (X5 x1 x2 x3 x4 x5 (k / 4)) (24 - 8 * (k % 4))) ∧ (∀ k, k < n → rA p.2 2 k = rA s 2 k)) := by
  obtain ⟨s1, e1, a1, b1, c1⟩ := c_add (by omega) h1 x1
  obtain ⟨s2, e2, a2, b2, c2⟩ := c_add (by omega) a1 x2
  obtain ⟨s3, e3, a3, b3, c3⟩ := c_add (by omega) a2 x3
  obtain ⟨s4, e4, a4, b4, c4⟩ := c_add (by omega) a3 x4
  obtain ⟨s5, e5, a5, b5, c5⟩ := c_add (by omega) a4 x5
  have a5' : rI s5 1 1 = nI (n + 20) := by rw [a5, show n + 4 + 4 + 4 + 4 + 4 = n + 20 by omega]
  refine ⟨(nI (n + 20), s5), ?_, rfl, a5', fun k hk => ?_, fun k hk => ?_⟩
  · have hr : f_X9_hasRoom 20 s = some (1, s) := by
      unfold f_X9_hasRoom
      rw [h1, show (20 : Int32) = nI 20 from rfl, nI_add, if_neg (show ¬ 600 < nI (n + 20) from of_eq_false (nI_lt_F (a := 600) (by omega) (by omega)))]
    unfold f_X11_feed
    rw [bnd hr, if_neg n1_0, bnd e1, bnd e2, bnd e3, bnd e4, bnd e5, a5']
  · show rA s5 2 (n + k) = _
    obtain ⟨r, hr, q, hq, rfl⟩ : ∃ r, r < 4 ∧ ∃ q, q < 5 ∧ k = 4 * q + r := ⟨k % 4, by omega, k / 4, by omega, by omega⟩
    rw [show (4 * q + r) / 4 = q by omega, show (4 * q + r) % 4 = r by omega]
    obtain rfl | rfl | rfl | rfl | rfl : q = 0 ∨ q = 1 ∨ q = 2 ∨ q = 3 ∨ q = 4 := by omega
    · rw [show n + (4 * 0 + r) = n + r by omega, c5 _ (by omega), c4 _ (by omega), c3 _ (by omega), c2 _ (by omega)]; exact b1 r hr
    · rw [show n + (4 * 1 + r) = n + 4 + r by omega, c5 _ (by omega), c4 _ (by omega), c3 _ (by omega)]; exact b2 r hr
    · rw [show n + (4 * 2 + r) = n + 4 + 4 + r by omega, c5 _ (by omega), c4 _ (by omega)]; exact b3 r hr
    · rw [show n + (4 * 3 + r) = n + 4 + 4 + 4 + r by omega, c5 _ (by omega)]; exact b4 r hr
    · rw [show n + (4 * 4 + r) = n + 4 + 4 + 4 + 4 + r by omega]; exact b5 r hr
  · show rA s5 2 k = _
    rw [c5 _ (by omega), c4 _ (by omega), c3 _ (by omega), c2 _ (by omega)]; exact c1 k hk
