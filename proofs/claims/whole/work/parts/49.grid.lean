/-! THE GRID's methods, over what its cells hold -/
def gridF (g W J : Nat) (F : Nat → Nat → Int64) (s : sx_M) : Prop := rI s g 1 = nI W ∧ rI s g 2 = nI J ∧ ∀ w j, w < W → j < J → rB s (g + 1) (8 * w + j) = F w j
abbrev fT (T : tb) : Nat → Nat → Int64 := fun w j => c64 (T.2.2 w j)
theorem gridF_T {g : Nat} {T : tb} {s : sx_M} : gridIs g T s ↔ gridF g T.1 T.2.1 (fT T) s := Iff.rfl
theorem gridF_ext {g W J : Nat} {F F' : Nat → Nat → Int64} {s : sx_M} (h : gridF g W J F s) (hF : ∀ w j, w < W → j < J → F' w j = F w j) : gridF g W J F' s :=
  ⟨h.1, h.2.1, fun w j hw hj => (h.2.2 w j hw hj).trans (hF w j hw hj).symm⟩
section GF
variable {g W J : Nat} {F : Nat → Nat → Int64} {s : sx_M}
theorem at_F (hW : W ≤ 7) (hJ : J ≤ 8) (hg : gridF g W J F s) {w j : Nat} (hw : w < W) (hj : j < J) : f_X1_at g (nI w) (nI j) s = some (F w j, s) := by
  unfold f_X1_at
  rw [if_neg (nI_pos (by omega)), hg.1, if_neg (nI_ge hw (by omega)), if_neg (nI_pos (by omega)), hg.2.1, if_neg (nI_ge hj (by omega))]
  unfold f_X1_at_J29
  have e : nI w * (8 : Int32) + nI j = nI (8 * w + j) := by
    rw [show (8 : Int32) = nI 8 from rfl, pk_mul, nI_add, Nat.mul_comm]
  rw [if_neg (by decide), e, if_pos (nI_in (by omega) (by omega)), nI_clamp (by omega), hg.2.2 w j hw hj]
theorem has_F (hW : W ≤ 7) (hJ : J ≤ 8) (hg : gridF g W J F s) {w j : Nat} (hw : w < W) (hj : j < J) : f_X1_has g (nI w) (nI j) s = some (1, s) := by
  unfold f_X1_has
  rw [if_neg (nI_pos (by omega)), hg.1, if_neg (nI_ge hw (by omega)), if_neg (nI_pos (by omega)), hg.2.1, if_neg (nI_ge hj (by omega))]
theorem put_F (hW : W ≤ 7) (hJ : J ≤ 8) (hg : gridF g W J F s) {w j : Nat} (hw : w < W) (hj : j < J) (v : Int64) : f_X1_put g (nI w) (nI j) v s = some (wB s (g + 1) (8 * w + j) v) := by
  unfold f_X1_put
  have e : nI w * (8 : Int32) + nI j = nI (8 * w + j) := by
    rw [show (8 : Int32) = nI 8 from rfl, pk_mul, nI_add, Nat.mul_comm]
  rw [has_F hW hJ hg hw hj, Option.bind_some, if_neg (show ¬ (1 : Int32) = 0 by decide), e, if_pos (nI_in (by omega) (by omega)), nI_clamp (by omega)]
def upF (F : Nat → Nat → Int64) (w j : Nat) (v : Int64) : Nat → Nat → Int64 := fun a b => if a = w ∧ b = j then v else F a b
theorem gput_F (hJ : J ≤ 8) (hg : gridF g W J F s) {w j : Nat} (hj : j < J) (v : Int64) : gridF g W J (upF F w j v) (wB s (g + 1) (8 * w + j) v) := by
  refine ⟨hg.1, hg.2.1, fun a b ha hb => ?_⟩
  rw [rB_wB]
  unfold upF
  by_cases h : a = w ∧ b = j
  · rw [if_pos h, if_pos (by rw [h.1, h.2]; exact ⟨rfl, rfl⟩)]
  · rw [if_neg h, if_neg (by omega)]
    exact hg.2.2 a b ha hb
/-- a put, and what is held then -/
theorem ev_put (hW : W ≤ 7) (hJ : J ≤ 8) (hg : gridF g W J F s) {w j : Nat} (hw : w < W) (hj : j < J) (v : Int64) : Ev (f_X1_put g (nI w) (nI j) v s) (fun s' => gridF g W J (upF F w j v) s') :=
  ⟨_, put_F hW hJ hg hw hj v, gput_F hJ hg hj v⟩
theorem ev_copy {g2 : Nat} (hg : gridF g2 W J F s) (hne : g + 1 < g2 ∨ g2 + 1 < g) (hW : W ≤ 7) (hJ : J ≤ 8) : Ev (f_X1_copy g g2 s) (fun s' => gridF g W J F s') := by
  unfold f_X1_copy
  rw [Ev_bind]
  simp only [Ev_some]
  refine ev_f (fun i a => a.1 = nI i ∧ rI a.2 g 1 = nI W ∧ rI a.2 g 2 = nI J ∧ (∀ k, rB a.2 (g2 + 1) k = rB s (g2 + 1) k) ∧ ∀ k, k < i → rB a.2 (g + 1) k = rB s (g2 + 1) k) 56 ?_ ?_ (i := 0) (by omega) ?_
  · rintro i ⟨a1, s1⟩ hi ⟨h1, h2, h3, h4, h5⟩
    simp only at h1 h2 h3 h4 h5
    subst h1
    refine ⟨.inl (nI (i + 1), wB s1 (g + 1) i (rB s1 (g2 + 1) i)), ?_, rfl, h2, h3, fun k => ?_, fun k hk => ?_⟩
    · simp only [f_X1_copy_L18]
      simp (disch := omega) only [↓reduceIte, nI_lit, nI_add, pk_mul, nI_lt_T, nI_lt_F, nI_le_T, nI_le_F, nI_eq_T, nI_eq_F, nI_cl, le_F, le_T, nI_m_F, m_nI_F, nI_dn, m_lt, Option.bind_some, if_true, if_false, not_false_eq_true, not_true_eq_false, or_self, or_false, false_or, true_or, or_true, true_and, and_true, false_and, and_false]
    · rw [rB_F (by omega)]; exact h4 k
    · by_cases q : k = i
      · rw [q, rB_T ⟨rfl, rfl⟩]; exact h4 i
      · rw [rB_F (by omega)]; exact h5 k (by omega)
  · rintro ⟨a1, s1⟩ ⟨h1, h2, h3, h4, h5⟩
    simp only at h1 h2 h3 h4 h5
    subst h1
    refine ⟨.inr s1, ?_, h2, h3, fun w j hw hj => ?_⟩
    · simp only [f_X1_copy_L18]
      simp (disch := omega) only [↓reduceIte, nI_lit, nI_add, pk_mul, nI_lt_T, nI_lt_F, nI_le_T, nI_le_F, nI_eq_T, nI_eq_F, nI_cl, le_F, le_T, nI_m_F, m_nI_F, nI_dn, m_lt, Option.bind_some, if_true, if_false, not_false_eq_true, not_true_eq_false, or_self, or_false, false_or, true_or, or_true, true_and, and_true, false_and, and_false]
    · rw [h5 _ (by omega)]; exact hg.2.2 w j hw hj
  · refine ⟨rfl, ?_, ?_, fun k => rfl, fun k hk => by omega⟩
    · simp (disch := omega) only [rI_F, rI_T]; exact hg.1
    · simp (disch := omega) only [rI_F, rI_T]; exact hg.2.1
end GF
/-- a loop whose steps put into the grid: from one picture to the next -/
theorem ev_gl {g W J : Nat} {f : (Int32 × sx_M) → Option ((Int32 × sx_M) ⊕ sx_M)} (Fi : Nat → Nat → Nat → Int64) (n i0 : Nat) {s : sx_M} {Q : sx_M → Prop} (hi : i0 ≤ n) (h0 : gridF g W J (Fi i0) s) (H : ∀ i s1, i0 ≤ i → i < n → gridF g W J (Fi i) s1 → Ev (f (nI i, s1)) (fun r => ∃ s2, r = .inl (nI (i + 1), s2) ∧ gridF g W J (Fi (i + 1)) s2)) (E : ∀ s1, gridF g W J (Fi n) s1 → f (nI n, s1) = some (.inr s1)) (hQ : ∀ s1, gridF g W J (Fi n) s1 → Q s1) : Ev (whT f (nI i0, s)) Q := by
  refine ev_f (fun i a => i0 ≤ i ∧ a.1 = nI i ∧ gridF g W J (Fi i) a.2) n ?_ ?_ hi ⟨Nat.le_refl _, rfl, h0⟩
  · rintro i ⟨a1, s1⟩ hi ⟨h0, h1, h2⟩
    simp only at h1 h2
    subst h1
    obtain ⟨r, e, s2, rfl, h3⟩ := H i s1 h0 hi h2
    exact ⟨_, e, by omega, rfl, h3⟩
  · rintro ⟨a1, s1⟩ ⟨_, h1, h2⟩
    simp only at h1 h2
    subst h1
    exact ⟨_, E s1 h2, hQ s1 h2⟩
section GL
variable {g W J : Nat} {F : Nat → Nat → Int64} {s : sx_M}
theorem ev_barJob (hW : W ≤ 7) (hJ : J ≤ 8) (hg : gridF g W J F s) {j : Nat} (hj : j < J) : Ev (f_X1_barJob g (nI j) s) (fun s' => gridF g W J (fun a b => if b = j then 9223372036854775807 else F a b) s') := by
  unfold f_X1_barJob
  rw [Ev_bind]
  simp only [Ev_some]
  refine ev_gl (fun i a b => if b = j ∧ a < i then 9223372036854775807 else F a b) W 0 (by omega) (gridF_ext hg (fun a b _ _ => by simp)) (fun i s1 _ hi h1 => ?_) (fun s1 h1 => ?_) (fun s1 h1 => gridF_ext h1 (fun a b ha _ => by simp [ha]))
  · obtain ⟨s2, e, h2⟩ := ev_put hW hJ h1 hi hj 9223372036854775807
    refine ⟨_, ?_, s2, rfl, gridF_ext h2 (fun a b _ _ => ?_)⟩
    · simp only [f_X1_barJob_L2, h1.1]
      simp (disch := omega) only [↓reduceIte, nI_lit, nI_add, pk_mul, nI_lt_T, nI_lt_F, nI_le_T, nI_le_F, nI_eq_T, nI_eq_F, nI_cl, le_F, le_T, nI_m_F, m_nI_F, nI_dn, m_lt, Option.bind_some, if_true, if_false, not_false_eq_true, not_true_eq_false, or_self, or_false, false_or, true_or, or_true, true_and, and_true, false_and, and_false, e]
    · simp only [upF]; grind
  · simp only [f_X1_barJob_L2, h1.1]
    simp (disch := omega) only [↓reduceIte, nI_lit, nI_add, pk_mul, nI_lt_T, nI_lt_F, nI_le_T, nI_le_F, nI_eq_T, nI_eq_F, nI_cl, le_F, le_T, nI_m_F, m_nI_F, nI_dn, m_lt, Option.bind_some, if_true, if_false, not_false_eq_true, not_true_eq_false, or_self, or_false, false_or, true_or, or_true, true_and, and_true, false_and, and_false]
theorem ev_addWorker (hW : W < 7) (hJ : J ≤ 8) (hg : gridF g W J F s) (v : Int64) : Ev (f_X1_addWorker g v s) (fun s' => gridF g (W + 1) J (fun a b => if a = W then v else F a b) s') := by
  unfold f_X1_addWorker
  rw [hg.1]
  rw [if_neg (show ¬ (7 : Int32) ≤ nI W from nI_ge (b := 7) hW (by omega))]
  rw [Ev_bind]
  simp only [Ev_some]
  refine ev_gl (fun i a b => if a = W then (if b < i then v else rB s (g + 1) (8 * W + b)) else F a b) J 0 (by omega) ⟨?_, ?_, fun a b ha hb => ?_⟩ (fun i s1 _ hi h1 => ?_) (fun s1 h1 => ?_) (fun s1 h1 => gridF_ext h1 (fun a b ha hb => by simp [hb]))
  · simp (disch := omega) only [↓reduceIte, nI_lit, nI_add, pk_mul, nI_lt_T, nI_lt_F, nI_le_T, nI_le_F, nI_eq_T, nI_eq_F, nI_cl, le_F, le_T, nI_m_F, m_nI_F, nI_dn, m_lt, Option.bind_some, if_true, if_false, not_false_eq_true, not_true_eq_false, or_self, or_false, false_or, true_or, or_true, true_and, and_true, false_and, and_false, rA_T, rA_F, rB_T, rB_F, rI_T, rI_F, rJ_T, rJ_F, rA_wI, rA_wJ, rA_wB, rB_wI, rB_wJ, rB_wA, rI_wJ, rI_wA, rI_wB, rJ_wI, rJ_wA, rJ_wB]
  · simp (disch := omega) only [↓reduceIte, nI_lit, nI_add, pk_mul, nI_lt_T, nI_lt_F, nI_le_T, nI_le_F, nI_eq_T, nI_eq_F, nI_cl, le_F, le_T, nI_m_F, m_nI_F, nI_dn, m_lt, Option.bind_some, if_true, if_false, not_false_eq_true, not_true_eq_false, or_self, or_false, false_or, true_or, or_true, true_and, and_true, false_and, and_false, rA_T, rA_F, rB_T, rB_F, rI_T, rI_F, rJ_T, rJ_F, rA_wI, rA_wJ, rA_wB, rB_wI, rB_wJ, rB_wA, rI_wJ, rI_wA, rI_wB, rJ_wI, rJ_wA, rJ_wB]
    exact hg.2.1
  · rw [rB_wI]
    have := hg.2.2 a b
    grind
  · obtain ⟨s2, e, h2⟩ := ev_put (w := W) (by omega) hJ h1 (by omega) hi v
    refine ⟨_, ?_, s2, rfl, gridF_ext h2 (fun a b _ _ => ?_)⟩
    · simp only [f_X1_addWorker_L21, h1.1, h1.2.1]
      simp (disch := omega) only [↓reduceIte, nI_lit, nI_add, pk_mul, nI_lt_T, nI_lt_F, nI_le_T, nI_le_F, nI_eq_T, nI_eq_F, nI_cl, le_F, le_T, nI_m_F, m_nI_F, nI_dn, m_lt, Option.bind_some, if_true, if_false, not_false_eq_true, not_true_eq_false, or_self, or_false, false_or, true_or, or_true, true_and, and_true, false_and, and_false, e, nI_k1]
    · simp only [upF]; grind
  · simp only [f_X1_addWorker_L21, h1.2.1]
    simp (disch := omega) only [↓reduceIte, nI_lit, nI_add, pk_mul, nI_lt_T, nI_lt_F, nI_le_T, nI_le_F, nI_eq_T, nI_eq_F, nI_cl, le_F, le_T, nI_m_F, m_nI_F, nI_dn, m_lt, Option.bind_some, if_true, if_false, not_false_eq_true, not_true_eq_false, or_self, or_false, false_or, true_or, or_true, true_and, and_true, false_and, and_false]
theorem ev_addJob (hW : W ≤ 7) (hJ : J < 8) (hg : gridF g W J F s) (v : Int64) : Ev (f_X1_addJob g v s) (fun s' => gridF g W (J + 1) (fun a b => if b = J then v else F a b) s') := by
  unfold f_X1_addJob
  rw [hg.2.1]
  rw [if_neg (show ¬ (8 : Int32) ≤ nI J from nI_ge (b := 8) hJ (by omega))]
  rw [Ev_bind]
  simp only [Ev_some]
  refine ev_gl (fun i a b => if b = J then (if a < i then v else rB s (g + 1) (8 * a + J)) else F a b) W 0 (by omega) ⟨?_, ?_, fun a b ha hb => ?_⟩ (fun i s1 _ hi h1 => ?_) (fun s1 h1 => ?_) (fun s1 h1 => gridF_ext h1 (fun a b ha hb => by simp [ha]))
  · simp (disch := omega) only [↓reduceIte, nI_lit, nI_add, pk_mul, nI_lt_T, nI_lt_F, nI_le_T, nI_le_F, nI_eq_T, nI_eq_F, nI_cl, le_F, le_T, nI_m_F, m_nI_F, nI_dn, m_lt, Option.bind_some, if_true, if_false, not_false_eq_true, not_true_eq_false, or_self, or_false, false_or, true_or, or_true, true_and, and_true, false_and, and_false, rA_T, rA_F, rB_T, rB_F, rI_T, rI_F, rJ_T, rJ_F, rA_wI, rA_wJ, rA_wB, rB_wI, rB_wJ, rB_wA, rI_wJ, rI_wA, rI_wB, rJ_wI, rJ_wA, rJ_wB]
    exact hg.1
  · simp (disch := omega) only [↓reduceIte, nI_lit, nI_add, pk_mul, nI_lt_T, nI_lt_F, nI_le_T, nI_le_F, nI_eq_T, nI_eq_F, nI_cl, le_F, le_T, nI_m_F, m_nI_F, nI_dn, m_lt, Option.bind_some, if_true, if_false, not_false_eq_true, not_true_eq_false, or_self, or_false, false_or, true_or, or_true, true_and, and_true, false_and, and_false, rA_T, rA_F, rB_T, rB_F, rI_T, rI_F, rJ_T, rJ_F, rA_wI, rA_wJ, rA_wB, rB_wI, rB_wJ, rB_wA, rI_wJ, rI_wA, rI_wB, rJ_wI, rJ_wA, rJ_wB]
  · rw [rB_wI]
    have := hg.2.2 a b
    grind
  · obtain ⟨s2, e, h2⟩ := ev_put (j := J) hW (by omega) h1 hi (by omega) v
    refine ⟨_, ?_, s2, rfl, gridF_ext h2 (fun a b _ _ => ?_)⟩
    · simp only [f_X1_addJob_L21, h1.1, h1.2.1]
      simp (disch := omega) only [↓reduceIte, nI_lit, nI_add, pk_mul, nI_lt_T, nI_lt_F, nI_le_T, nI_le_F, nI_eq_T, nI_eq_F, nI_cl, le_F, le_T, nI_m_F, m_nI_F, nI_dn, m_lt, Option.bind_some, if_true, if_false, not_false_eq_true, not_true_eq_false, or_self, or_false, false_or, true_or, or_true, true_and, and_true, false_and, and_false, e, nI_k1]
    · simp only [upF]; grind
  · simp only [f_X1_addJob_L21, h1.1]
    simp (disch := omega) only [↓reduceIte, nI_lit, nI_add, pk_mul, nI_lt_T, nI_lt_F, nI_le_T, nI_le_F, nI_eq_T, nI_eq_F, nI_cl, le_F, le_T, nI_m_F, m_nI_F, nI_dn, m_lt, Option.bind_some, if_true, if_false, not_false_eq_true, not_true_eq_false, or_self, or_false, false_or, true_or, or_true, true_and, and_true, false_and, and_false]
theorem ev_dropWorker (hW : W ≤ 7) (hJ : J ≤ 8) (hg : gridF g W J F s) {o : Nat} (ho : o < W) : Ev (f_X1_dropWorker g (nI o) s) (fun s' => gridF g (W - 1) J (fun a b => if a < o then F a b else F (a + 1) b) s') := by
  have hh : f_X1_hasWorker g (nI o) s = some (1, s) := by
    unfold f_X1_hasWorker
    rw [if_neg (nI_pos (by omega)), hg.1, if_neg (nI_ge ho (by omega))]
  unfold f_X1_dropWorker
  rw [hh, Option.bind_some, if_neg (show ¬ (1 : Int32) = 0 by decide), Ev_bind]
  simp only [Ev_some]
  refine ev_gl (fun i a b => if o ≤ a ∧ a < i then F (a + 1) b else F a b) (W - 1) o (by omega) (gridF_ext hg (fun a b _ _ => by rw [if_neg (by omega)])) (fun i s1 hio hi h1 => ?_) (fun s1 h1 => ?_) (fun s1 h1 => ⟨?_, ?_, fun a b ha hb => ?_⟩)
  · have hin : Ev (whT (f_X1_dropWorker_L23 g (nI i)) (nI 0, s1)) (fun s2 => gridF g W J (fun a b => if o ≤ a ∧ a < i + 1 then F (a + 1) b else F a b) s2) := by
      refine ev_gl (fun k a b => if (o ≤ a ∧ a < i) ∨ (a = i ∧ b < k) then F (a + 1) b else F a b) J 0 (by omega) (gridF_ext h1 (fun a b _ _ => ?_)) (fun k s2 _ hk h2 => ?_) (fun s2 h2 => ?_) (fun s2 h2 => gridF_ext h2 (fun a b ha hb => ?_))
      · grind
      · have hat := at_F (w := i + 1) (j := k) hW hJ h2 (by omega) hk
        rw [if_neg (by omega)] at hat
        obtain ⟨s3, e, h3⟩ := ev_put (w := i) (j := k) hW hJ h2 (by omega) hk (F (i + 1) k)
        refine ⟨_, ?_, s3, rfl, gridF_ext h3 (fun a b _ _ => ?_)⟩
        · simp only [f_X1_dropWorker_L23, h2.2.1]
          simp (disch := omega) only [↓reduceIte, nI_lit, nI_add, pk_mul, nI_lt_T, nI_lt_F, nI_le_T, nI_le_F, nI_eq_T, nI_eq_F, nI_cl, le_F, le_T, nI_m_F, m_nI_F, nI_dn, m_lt, Option.bind_some, if_true, if_false, not_false_eq_true, not_true_eq_false, or_self, or_false, false_or, true_or, or_true, true_and, and_true, false_and, and_false, hat, e]
        · simp only [upF]; grind
      · simp only [f_X1_dropWorker_L23, h2.2.1]
        simp (disch := omega) only [↓reduceIte, nI_lit, nI_add, pk_mul, nI_lt_T, nI_lt_F, nI_le_T, nI_le_F, nI_eq_T, nI_eq_F, nI_cl, le_F, le_T, nI_m_F, m_nI_F, nI_dn, m_lt, Option.bind_some, if_true, if_false, not_false_eq_true, not_true_eq_false, or_self, or_false, false_or, true_or, or_true, true_and, and_true, false_and, and_false]
      · grind
    obtain ⟨s2, e, h2⟩ := hin
    refine ⟨_, ?_, s2, rfl, h2⟩
    simp only [f_X1_dropWorker_L11, h1.1]
    simp (disch := omega) only [↓reduceIte, nI_lit, nI_add, pk_mul, nI_lt_T, nI_lt_F, nI_le_T, nI_le_F, nI_eq_T, nI_eq_F, nI_cl, le_F, le_T, nI_m_F, m_nI_F, nI_dn, m_lt, Option.bind_some, if_true, if_false, not_false_eq_true, not_true_eq_false, or_self, or_false, false_or, true_or, or_true, true_and, and_true, false_and, and_false, nI_sb, e]
  · simp only [f_X1_dropWorker_L11, h1.1]
    simp (disch := omega) only [↓reduceIte, nI_lit, nI_add, pk_mul, nI_lt_T, nI_lt_F, nI_le_T, nI_le_F, nI_eq_T, nI_eq_F, nI_cl, le_F, le_T, nI_m_F, m_nI_F, nI_dn, m_lt, Option.bind_some, if_true, if_false, not_false_eq_true, not_true_eq_false, or_self, or_false, false_or, true_or, or_true, true_and, and_true, false_and, and_false, nI_sb]
  · simp (disch := omega) only [↓reduceIte, nI_lit, nI_add, pk_mul, nI_lt_T, nI_lt_F, nI_le_T, nI_le_F, nI_eq_T, nI_eq_F, nI_cl, le_F, le_T, nI_m_F, m_nI_F, nI_dn, m_lt, Option.bind_some, if_true, if_false, not_false_eq_true, not_true_eq_false, or_self, or_false, false_or, true_or, or_true, true_and, and_true, false_and, and_false, rA_T, rA_F, rB_T, rB_F, rI_T, rI_F, rJ_T, rJ_F, rA_wI, rA_wJ, rA_wB, rB_wI, rB_wJ, rB_wA, rI_wJ, rI_wA, rI_wB, rJ_wI, rJ_wA, rJ_wB, h1.1, nI_sb]
  · simp (disch := omega) only [↓reduceIte, nI_lit, nI_add, pk_mul, nI_lt_T, nI_lt_F, nI_le_T, nI_le_F, nI_eq_T, nI_eq_F, nI_cl, le_F, le_T, nI_m_F, m_nI_F, nI_dn, m_lt, Option.bind_some, if_true, if_false, not_false_eq_true, not_true_eq_false, or_self, or_false, false_or, true_or, or_true, true_and, and_true, false_and, and_false, rA_T, rA_F, rB_T, rB_F, rI_T, rI_F, rJ_T, rJ_F, rA_wI, rA_wJ, rA_wB, rB_wI, rB_wJ, rB_wA, rI_wJ, rI_wA, rI_wB, rJ_wI, rJ_wA, rJ_wB]
    exact h1.2.1
  · rw [rB_wI, h1.2.2 a b (by omega) hb]
    grind
theorem ev_dropJob (hW : W ≤ 7) (hJ : J ≤ 8) (hg : gridF g W J F s) {o : Nat} (ho : o < J) : Ev (f_X1_dropJob g (nI o) s) (fun s' => gridF g W (J - 1) (fun a b => if b < o then F a b else F a (b + 1)) s') := by
  have hh : f_X1_hasJob g (nI o) s = some (1, s) := by
    unfold f_X1_hasJob
    rw [if_neg (nI_pos (by omega)), hg.2.1, if_neg (nI_ge ho (by omega))]
  unfold f_X1_dropJob
  rw [hh, Option.bind_some, if_neg (show ¬ (1 : Int32) = 0 by decide), Ev_bind]
  simp only [Ev_some]
  refine ev_gl (fun i a b => if a < i ∧ o ≤ b ∧ b + 1 < J then F a (b + 1) else F a b) W 0 (by omega) (gridF_ext hg (fun a b _ _ => by rw [if_neg (by omega)])) (fun i s1 hio hi h1 => ?_) (fun s1 h1 => ?_) (fun s1 h1 => ⟨?_, ?_, fun a b ha hb => ?_⟩)
  · have hin : Ev (whT (f_X1_dropJob_L21 g (nI o) (nI o) (nI i)) (nI o, s1)) (fun s2 => gridF g W J (fun a b => if a < i + 1 ∧ o ≤ b ∧ b + 1 < J then F a (b + 1) else F a b) s2) := by
      refine ev_gl (fun k a b => if (a < i ∧ o ≤ b ∧ b + 1 < J) ∨ (a = i ∧ o ≤ b ∧ b < k) then F a (b + 1) else F a b) (J - 1) o (by omega) (gridF_ext h1 (fun a b _ _ => ?_)) (fun k s2 hok hk h2 => ?_) (fun s2 h2 => ?_) (fun s2 h2 => gridF_ext h2 (fun a b ha hb => ?_))
      · grind
      · have hat := at_F (w := i) (j := k + 1) hW hJ h2 (by omega) (by omega)
        rw [if_neg (by omega)] at hat
        obtain ⟨s3, e, h3⟩ := ev_put (w := i) (j := k) hW hJ h2 (by omega) (by omega) (F i (k + 1))
        refine ⟨_, ?_, s3, rfl, gridF_ext h3 (fun a b _ _ => ?_)⟩
        · simp only [f_X1_dropJob_L21, h2.2.1]
          simp (disch := omega) only [↓reduceIte, nI_lit, nI_add, pk_mul, nI_lt_T, nI_lt_F, nI_le_T, nI_le_F, nI_eq_T, nI_eq_F, nI_cl, le_F, le_T, nI_m_F, m_nI_F, nI_dn, m_lt, Option.bind_some, if_true, if_false, not_false_eq_true, not_true_eq_false, or_self, or_false, false_or, true_or, or_true, true_and, and_true, false_and, and_false, nI_sb, hat, e]
        · simp only [upF]; grind
      · simp only [f_X1_dropJob_L21, h2.2.1]
        simp (disch := omega) only [↓reduceIte, nI_lit, nI_add, pk_mul, nI_lt_T, nI_lt_F, nI_le_T, nI_le_F, nI_eq_T, nI_eq_F, nI_cl, le_F, le_T, nI_m_F, m_nI_F, nI_dn, m_lt, Option.bind_some, if_true, if_false, not_false_eq_true, not_true_eq_false, or_self, or_false, false_or, true_or, or_true, true_and, and_true, false_and, and_false, nI_sb]
      · grind
    obtain ⟨s2, e, h2⟩ := hin
    refine ⟨_, ?_, s2, rfl, h2⟩
    simp only [f_X1_dropJob_L11, h1.1]
    simp (disch := omega) only [↓reduceIte, nI_lit, nI_add, pk_mul, nI_lt_T, nI_lt_F, nI_le_T, nI_le_F, nI_eq_T, nI_eq_F, nI_cl, le_F, le_T, nI_m_F, m_nI_F, nI_dn, m_lt, Option.bind_some, if_true, if_false, not_false_eq_true, not_true_eq_false, or_self, or_false, false_or, true_or, or_true, true_and, and_true, false_and, and_false, e]
  · simp only [f_X1_dropJob_L11, h1.1]
    simp (disch := omega) only [↓reduceIte, nI_lit, nI_add, pk_mul, nI_lt_T, nI_lt_F, nI_le_T, nI_le_F, nI_eq_T, nI_eq_F, nI_cl, le_F, le_T, nI_m_F, m_nI_F, nI_dn, m_lt, Option.bind_some, if_true, if_false, not_false_eq_true, not_true_eq_false, or_self, or_false, false_or, true_or, or_true, true_and, and_true, false_and, and_false]
  · simp (disch := omega) only [↓reduceIte, nI_lit, nI_add, pk_mul, nI_lt_T, nI_lt_F, nI_le_T, nI_le_F, nI_eq_T, nI_eq_F, nI_cl, le_F, le_T, nI_m_F, m_nI_F, nI_dn, m_lt, Option.bind_some, if_true, if_false, not_false_eq_true, not_true_eq_false, or_self, or_false, false_or, true_or, or_true, true_and, and_true, false_and, and_false, rA_T, rA_F, rB_T, rB_F, rI_T, rI_F, rJ_T, rJ_F, rA_wI, rA_wJ, rA_wB, rB_wI, rB_wJ, rB_wA, rI_wJ, rI_wA, rI_wB, rJ_wI, rJ_wA, rJ_wB]
    exact h1.1
  · simp (disch := omega) only [↓reduceIte, nI_lit, nI_add, pk_mul, nI_lt_T, nI_lt_F, nI_le_T, nI_le_F, nI_eq_T, nI_eq_F, nI_cl, le_F, le_T, nI_m_F, m_nI_F, nI_dn, m_lt, Option.bind_some, if_true, if_false, not_false_eq_true, not_true_eq_false, or_self, or_false, false_or, true_or, or_true, true_and, and_true, false_and, and_false, rA_T, rA_F, rB_T, rB_F, rI_T, rI_F, rJ_T, rJ_F, rA_wI, rA_wJ, rA_wB, rB_wI, rB_wJ, rB_wA, rI_wJ, rI_wA, rI_wB, rJ_wI, rJ_wA, rJ_wB, h1.2.1, nI_sb]
  · rw [rB_wI, h1.2.2 a b ha (by omega)]
    grind
theorem ev_swap (hW : W ≤ 7) (hJ : J ≤ 8) (hg : gridF g W J F s) {u v : Nat} (hu : u < W) (hv : v < W) : Ev (f_X1_swap g (nI u) (nI v) s) (fun s' => gridF g W J (fun a b => if a = v then F u b else if a = u then F v b else F a b) s') := by
  unfold f_X1_swap
  rw [Ev_bind]
  simp only [Ev_some]
  refine ev_gl (fun i a b => if b < i then (if a = v then F u b else if a = u then F v b else F a b) else F a b) J 0 (by omega) (gridF_ext hg (fun a b _ _ => by rw [if_neg (by omega)])) (fun i s1 _ hi h1 => ?_) (fun s1 h1 => ?_) (fun s1 h1 => gridF_ext h1 (fun a b ha hb => by simp [hb]))
  · have hat1 := at_F (w := u) (j := i) hW hJ h1 hu hi
    have hat2 := at_F (w := v) (j := i) hW hJ h1 hv hi
    rw [if_neg (by omega)] at hat1 hat2
    obtain ⟨s2, e2, h2⟩ := ev_put (w := u) (j := i) hW hJ h1 hu hi (F v i)
    obtain ⟨s3, e3, h3⟩ := ev_put (w := v) (j := i) hW hJ h2 hv hi (F u i)
    refine ⟨_, ?_, s3, rfl, gridF_ext h3 (fun a b _ _ => ?_)⟩
    · simp only [f_X1_swap_L2, h1.2.1]
      simp (disch := omega) only [↓reduceIte, nI_lit, nI_add, pk_mul, nI_lt_T, nI_lt_F, nI_le_T, nI_le_F, nI_eq_T, nI_eq_F, nI_cl, le_F, le_T, nI_m_F, m_nI_F, nI_dn, m_lt, Option.bind_some, if_true, if_false, not_false_eq_true, not_true_eq_false, or_self, or_false, false_or, true_or, or_true, true_and, and_true, false_and, and_false, hat1, hat2, e2, e3]
    · simp only [upF]; grind
  · simp only [f_X1_swap_L2, h1.2.1]
    simp (disch := omega) only [↓reduceIte, nI_lit, nI_add, pk_mul, nI_lt_T, nI_lt_F, nI_le_T, nI_le_F, nI_eq_T, nI_eq_F, nI_cl, le_F, le_T, nI_m_F, m_nI_F, nI_dn, m_lt, Option.bind_some, if_true, if_false, not_false_eq_true, not_true_eq_false, or_self, or_false, false_or, true_or, or_true, true_and, and_true, false_and, and_false]
end GL
