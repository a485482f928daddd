/-! THE CLASS's HALF OF THE ACTS -/
/-- the history with one more -/
def kp (H : List tb) (T : tb) : List tb := (if H.length = 10 then H.drop 1 else H) ++ [T]
theorem kp_len {H : List tb} (h : H.length ≤ 10) (T : tb) : (kp H T).length ≤ 10 := by
  unfold kp
  split <;> simp <;> omega
theorem kp_ok {H : List tb} {T : tb} (h : ∀ X, X ∈ H → tb_ok X) (hT : tb_ok T) : ∀ X, X ∈ kp H T → tb_ok X := by
  intro X hX
  unfold kp at hX
  rcases List.mem_append.mp hX with q | q
  · split at q
    · exact h X (List.mem_of_mem_drop q)
    · exact h X q
  · rw [List.mem_singleton.mp q]; exact hT
theorem nrem {a : Nat} (h : a < 2147483648) : nI a - nI a / nI 10 * nI 10 = nI (a % 10) := pk_rem (by omega) (by omega) (by omega)
def hiT (H : List tb) (o : Nat) (s : sx_M) : Prop := ∀ i T, i < 10 → H[i]? = some T → gridIs (22 + 2 * ((o + i) % 10)) T s
theorem ax_Gh {k : Nat} (h : k < 10) : ax_G (22 + 2 * k) := by
  have : ∀ k, k < 10 → sx_sh[22 + 2 * k]? = some (.inr (1, [.inl (22 + 2 * k + 1), .inr false, .inr false])) ∧ sx_sh[22 + 2 * k + 1]? = some (.inl (.long, 56)) := by
    intro k hk
    have : k = 0 ∨ k = 1 ∨ k = 2 ∨ k = 3 ∨ k = 4 ∨ k = 5 ∨ k = 6 ∨ k = 7 ∨ k = 8 ∨ k = 9 := by omega
    rcases this with rfl | rfl | rfl | rfl | rfl | rfl | rfl | rfl | rfl | rfl <;> exact ⟨rfl, rfl⟩
  exact this k h
theorem keep_J {T : tb} {H : List tb} {s : sx_M} {o : Nat} (hT : tb_ok T) (hg : gridIs 3 T s) (ho : o < 10) (hl : H.length < 10) (h1 : rI s 20 1 = nI o) (h2 : rI s 20 2 = nI H.length) (hh : hiT H o s) : Ev (f_X2_keep_J32 s) (fun s' => chist (H ++ [T]) s' ∧ gridIs 3 T s') := by
  have hm := Nat.mod_lt (o + H.length) (show 0 < 10 by omega)
  have hc : Ev (f_X1_copy (22 + 2 * ((o + H.length) % 10)) 3 s) (fun s' => gridIs (22 + 2 * ((o + H.length) % 10)) T s') := ev_copy hg (by omega) hT.1 hT.2.1
  obtain ⟨s1, e, hg1⟩ := hc
  have hf := fr_f_X1_copy (22 + 2 * ((o + H.length) % 10)) 3 s (ax_Gh hm) ax_G3 e
  simp only [xS_X1_copy, xI_X1_copy, xJ_X1_copy, xA_X1_copy, xB_X1_copy] at hf
  have g3 : gridIs 3 T s1 := grid_eq hf (by first | exact fun q => q | (simp only; omega)) (by first | exact fun q => q | (simp only; omega)) (by first | exact fun q => q | (simp only; omega)) hg
  have i1 : rI s1 20 1 = nI o := (hf.1 20 1 (by first | exact fun q => q | (simp only; omega))).trans h1
  have i2 : rI s1 20 2 = nI H.length := (hf.1 20 2 (by first | exact fun q => q | (simp only; omega))).trans h2
  refine ⟨wI s1 20 2 (nI (H.length + 1)), ?_, ⟨o, ho, ?_, ?_, fun i X hi hX => ?_⟩, ?_⟩
  · unfold f_X2_keep_J32
    rw [h1, h2]
    have e1 : nI o + nI H.length - (nI o + nI H.length) / (10 : Int32) * (10 : Int32) = nI ((o + H.length) % 10) := by
      rw [nI_add]; exact nrem (by omega)
    rw [e1, nI_cl (by omega), e]
    simp (disch := omega) only [↓reduceIte, nI_lit, nI_add, pk_mul, nI_lt_T, nI_lt_F, nI_le_T, nI_le_F, nI_eq_T, nI_eq_F, nI_cl, le_F, le_T, nI_m_F, m_nI_F, nI_dn, m_lt, Option.bind_some, if_true, if_false, not_false_eq_true, not_true_eq_false, or_self, or_false, false_or, true_or, or_true, true_and, and_true, false_and, and_false, i2]
  · simp (disch := omega) only [↓reduceIte, nI_lit, nI_add, pk_mul, nI_lt_T, nI_lt_F, nI_le_T, nI_le_F, nI_eq_T, nI_eq_F, nI_cl, le_F, le_T, nI_m_F, m_nI_F, nI_dn, m_lt, Option.bind_some, if_true, if_false, not_false_eq_true, not_true_eq_false, or_self, or_false, false_or, true_or, or_true, true_and, and_true, false_and, and_false, rA_T, rA_F, rB_T, rB_F, rI_T, rI_F, rJ_T, rJ_F, rA_wI, rA_wJ, rA_wB, rB_wI, rB_wJ, rB_wA, rI_wJ, rI_wA, rI_wB, rJ_wI, rJ_wA, rJ_wB]; exact i1
  · simp (disch := omega) only [↓reduceIte, nI_lit, nI_add, pk_mul, nI_lt_T, nI_lt_F, nI_le_T, nI_le_F, nI_eq_T, nI_eq_F, nI_cl, le_F, le_T, nI_m_F, m_nI_F, nI_dn, m_lt, Option.bind_some, if_true, if_false, not_false_eq_true, not_true_eq_false, or_self, or_false, false_or, true_or, or_true, true_and, and_true, false_and, and_false, rA_T, rA_F, rB_T, rB_F, rI_T, rI_F, rJ_T, rJ_F, rA_wI, rA_wJ, rA_wB, rB_wI, rB_wJ, rB_wA, rI_wJ, rI_wA, rI_wB, rJ_wI, rJ_wA, rJ_wB]; simp
  · have e3 : sx_eq ((fun a k => a = 20, fun _ _ => False, fun _ => False, fun _ => False) : sx_D) s1 (wI s1 20 2 (nI (H.length + 1))) := sx_wI' (sx_rf _ _) rfl
    have hm2 := Nat.mod_lt (o + i) (show 0 < 10 by omega)
    refine grid_eq e3 (by first | exact fun q => q | (simp only; omega)) (by first | exact fun q => q | (simp only; omega)) (by first | exact fun q => q | (simp only; omega)) ?_
    by_cases q : i < H.length
    · rw [List.getElem?_append_left q] at hX
      have hne : (o + i) % 10 ≠ (o + H.length) % 10 := by omega
      exact grid_eq hf (by first | exact fun q => q | (simp only; omega)) (by first | exact fun q => q | (simp only; omega)) (by first | exact fun q => q | (simp only; omega)) (hh i X hi hX)
    · have hl2 : i < (H ++ [T]).length := (List.getElem?_eq_some_iff.mp hX).1
      simp at hl2
      have : i = H.length := by omega
      subst this
      simp at hX
      subst hX
      exact hg1
  · exact grid_eq (D := (fun a k => a = 20, fun _ _ => False, fun _ => False, fun _ => False)) (sx_wI' (sx_rf _ _) rfl) (by first | exact fun q => q | (simp only; omega)) (by first | exact fun q => q | (simp only; omega)) (by first | exact fun q => q | (simp only; omega)) g3
theorem ev_keep {T : tb} {H : List tb} {s : sx_M} (hT : tb_ok T) (hg : gridIs 3 T s) (hl : H.length ≤ 10) (hh : chist H s) : Ev (f_X2_keep s) (fun s' => chist (kp H T) s' ∧ gridIs 3 T s') := by
  obtain ⟨o, ho, h1, h2, h3⟩ := hh
  unfold f_X2_keep
  rw [h1, h2]
  by_cases q : H.length = 10
  · have e1 : nI o + (1 : Int32) - (nI o + (1 : Int32)) / (10 : Int32) * (10 : Int32) = nI ((o + 1) % 10) := by
      rw [show (1 : Int32) = nI 1 from rfl, nI_add]; exact nrem (by omega)
    rw [if_pos (by rw [q]; rfl), e1]
    have e2 : rI (wI s 20 1 (nI ((o + 1) % 10))) 20 2 - (1 : Int32) = nI 9 := by
      rw [rI_F (by omega), h2, q]; decide
    rw [e2]
    have hx : sx_eq ((fun a k => a = 20, fun _ _ => False, fun _ => False, fun _ => False) : sx_D) s (wI (wI s 20 1 (nI ((o + 1) % 10))) 20 2 (nI 9)) := sx_wI' (sx_wI' (sx_rf _ _) rfl) rfl
    have hm := Nat.mod_lt (o + 1) (show 0 < 10 by omega)
    have := keep_J (H := H.drop 1) (o := (o + 1) % 10) hT (grid_eq hx (by first | exact fun q => q | (simp only; omega)) (by first | exact fun q => q | (simp only; omega)) (by first | exact fun q => q | (simp only; omega)) hg) hm (by simp; omega) (by simp (disch := omega) only [↓reduceIte, nI_lit, nI_add, pk_mul, nI_lt_T, nI_lt_F, nI_le_T, nI_le_F, nI_eq_T, nI_eq_F, nI_cl, le_F, le_T, nI_m_F, m_nI_F, nI_dn, m_lt, Option.bind_some, if_true, if_false, not_false_eq_true, not_true_eq_false, or_self, or_false, false_or, true_or, or_true, true_and, and_true, false_and, and_false, rA_T, rA_F, rB_T, rB_F, rI_T, rI_F, rJ_T, rJ_F, rA_wI, rA_wJ, rA_wB, rB_wI, rB_wJ, rB_wA, rI_wJ, rI_wA, rI_wB, rJ_wI, rJ_wA, rJ_wB]) (by simp (disch := omega) only [↓reduceIte, nI_lit, nI_add, pk_mul, nI_lt_T, nI_lt_F, nI_le_T, nI_le_F, nI_eq_T, nI_eq_F, nI_cl, le_F, le_T, nI_m_F, m_nI_F, nI_dn, m_lt, Option.bind_some, if_true, if_false, not_false_eq_true, not_true_eq_false, or_self, or_false, false_or, true_or, or_true, true_and, and_true, false_and, and_false, rA_T, rA_F, rB_T, rB_F, rI_T, rI_F, rJ_T, rJ_F, rA_wI, rA_wJ, rA_wB, rB_wI, rB_wJ, rB_wA, rI_wJ, rI_wA, rI_wB, rJ_wI, rJ_wA, rJ_wB, List.length_drop]) (fun i X hi hX => ?_)
    · unfold kp; rw [if_pos q]; exact this
    · rw [List.getElem?_drop] at hX
      have hlt : 1 + i < H.length := (List.getElem?_eq_some_iff.mp hX).1
      have := h3 (1 + i) X (by omega) hX
      rw [show (o + (1 + i)) % 10 = ((o + 1) % 10 + i) % 10 by omega] at this
      have hm2 := Nat.mod_lt ((o + 1) % 10 + i) (show 0 < 10 by omega)
      exact grid_eq hx (by first | exact fun q => q | (simp only; omega)) (by first | exact fun q => q | (simp only; omega)) (by first | exact fun q => q | (simp only; omega)) this
  · rw [if_neg (by rw [show (10 : Int32) = nI 10 from rfl, nI_eq_F (by omega) (by omega) (by omega)]; exact fun z => z)]
    have := keep_J hT hg ho (show H.length < 10 by omega) h1 h2 h3
    unfold kp; rw [if_neg q]; exact this
theorem ev_restore0 {s : sx_M} (hh : chist [] s) : f_X2_restore s = some (0, s) := by
  obtain ⟨o, ho, h1, h2, h3⟩ := hh
  unfold f_X2_restore
  rw [h2, if_pos (show nI ([] : List tb).length = 0 from rfl)]
theorem ev_restore {T : tb} {H : List tb} {s : sx_M} (hT : tb_ok T) (hl : H.length < 10) (hh : chist (H ++ [T]) s) : Ev (f_X2_restore s) (fun p => p.1 = 1 ∧ chist H p.2 ∧ gridIs 3 T p.2) := by
  obtain ⟨o, ho, h1, h2, h3⟩ := hh
  simp at h2
  have hm := Nat.mod_lt (o + H.length) (show 0 < 10 by omega)
  have hx : sx_eq ((fun a k => a = 20 ∧ k = 2, fun _ _ => False, fun _ => False, fun _ => False) : sx_D) s (wI s 20 2 (nI H.length)) := sx_wI' (sx_rf _ _) ⟨rfl, rfl⟩
  have hgT : gridIs (22 + 2 * ((o + H.length) % 10)) T (wI s 20 2 (nI H.length)) := grid_eq hx (by first | exact fun q => q | (simp only; omega)) (by first | exact fun q => q | (simp only; omega)) (by first | exact fun q => q | (simp only; omega)) (h3 H.length T (by omega) (by simp))
  have hc : Ev (f_X1_copy 3 (22 + 2 * ((o + H.length) % 10)) (wI s 20 2 (nI H.length))) (fun s' => gridIs 3 T s') := ev_copy hgT (by omega) hT.1 hT.2.1
  obtain ⟨s1, e, hg1⟩ := hc
  have hf := fr_f_X1_copy 3 (22 + 2 * ((o + H.length) % 10)) _ ax_G3 (ax_Gh hm) e
  simp only [xS_X1_copy, xI_X1_copy, xJ_X1_copy, xA_X1_copy, xB_X1_copy] at hf
  refine ⟨(1, s1), ?_, rfl, ⟨o, ho, ?_, ?_, fun i X hi hX => ?_⟩, hg1⟩
  · unfold f_X2_restore
    have e0 : nI (H.length + 1) - (1 : Int32) = nI H.length := nI_pred _
    have e1 : nI o + nI H.length - (nI o + nI H.length) / (10 : Int32) * (10 : Int32) = nI ((o + H.length) % 10) := by
      rw [nI_add]; exact nrem (by omega)
    have e2 : rI (wI s 20 2 (nI H.length)) 20 1 = nI o := by rw [rI_F (by omega)]; exact h1
    have e3 : rI (wI s 20 2 (nI H.length)) 20 2 = nI H.length := rI_T ⟨rfl, rfl⟩
    rw [h2, e0, e2, e3, e1, nI_cl (by omega), e]
    simp (disch := omega) only [↓reduceIte, nI_lit, nI_add, pk_mul, nI_lt_T, nI_lt_F, nI_le_T, nI_le_F, nI_eq_T, nI_eq_F, nI_cl, le_F, le_T, nI_m_F, m_nI_F, nI_dn, m_lt, Option.bind_some, if_true, if_false, not_false_eq_true, not_true_eq_false, or_self, or_false, false_or, true_or, or_true, true_and, and_true, false_and, and_false]
  · rw [hf.1 20 1 (by first | exact fun q => q | (simp only; omega)), rI_F (by omega)]; exact h1
  · rw [hf.1 20 2 (by first | exact fun q => q | (simp only; omega)), rI_T ⟨rfl, rfl⟩]
  · have hlt : i < H.length := (List.getElem?_eq_some_iff.mp hX).1
    have hm2 := Nat.mod_lt (o + i) (show 0 < 10 by omega)
    have := h3 i X hi (by rw [List.getElem?_append_left hlt]; exact hX)
    exact grid_eq hf (by first | exact fun q => q | (simp only; omega)) (by first | exact fun q => q | (simp only; omega)) (by first | exact fun q => q | (simp only; omega)) (grid_eq hx (by first | exact fun q => q | (simp only; omega)) (by first | exact fun q => q | (simp only; omega)) (by first | exact fun q => q | (simp only; omega)) this)
/-- changed: the ranks of the new table, nothing listed -/
theorem ev_changed {T : tb} {s : sx_M} (hT : tb_ok T) (hg : gridIs 3 T s) : Ev (f_X11_changed s) (fun s' => ranksIs 3 T s' ∧ gridIs 3 T s' ∧ rI s' 9 4 = 0) := by
  unfold f_X11_changed
  rw [Ev_bind]
  refine ev_m (f_refresh (tb_ok_wk hT) hg) (fun s1 h1 => ?_)
  unfold f_X4_forget
  simp only [Option.bind_some, Ev_some]
  have hx : sx_eq ((fun a k => a = 9, fun _ _ => False, fun _ => False, fun _ => False) : sx_D) s1 (wI s1 9 4 0) := sx_wI' (sx_rf _ _) rfl
  exact ⟨ranks_eq hx (by first | exact fun q => q | (simp only; omega)) (by first | exact fun q => q | (simp only; omega)) (by first | exact fun q => q | (simp only; omega)) h1.1, grid_eq hx (by first | exact fun q => q | (simp only; omega)) (by first | exact fun q => q | (simp only; omega)) (by first | exact fun q => q | (simp only; omega)) h1.2, rI_T ⟨rfl, rfl⟩⟩
/-- the grid is changed to another table behind a keep -/
theorem cl_act {T' : tb} {A : ast} {s : sx_M} {f : sx_M → Option sx_M} (hok : okA A) (hT' : tb_ok T') (hc : clA A s) (h : ∀ s1, gridIs 3 A.1 s1 → Ev (f s1) (fun s' => gridIs 3 T' s')) (hf : ∀ s1 s2, f s1 = some s2 → sx_eq ((fun o k => o = 3, fun _ _ => False, fun _ => False, fun o => o = 4) : sx_D) s1 s2) : Ev ((f_X2_keep s).bind (fun p2 => (f p2).bind (fun p3 => f_X11_changed p3))) (fun s' => clA (T', kp A.2.1 A.1, A.2.2) s') := by
  obtain ⟨a1, a2, a3, a4, a5, a6, a7⟩ := hc
  obtain ⟨s1, e1, c1, g1⟩ := ev_keep hok.1 a1 hok.2.2.1 a4
  obtain ⟨s2, e2, g2⟩ := h s1 g1
  obtain ⟨s3, e3, r3, g3, o3⟩ := ev_changed hT' g2
  refine ⟨s3, ?_, g3, r3, Or.inl o3, ?_, ?_⟩
  · rw [e1, Option.bind_some, e2, Option.bind_some, e3]
  · have x2 := hf s1 s2 e2
    have x3 := fr_f_X11_changed s2 e3
    simp only [xS_X11_changed, xI_X11_changed, xJ_X11_changed, xA_X11_changed, xB_X11_changed] at x3
    exact chist_eq x3 (fun o k q1 q2 => by first | exact fun q => q | (simp only; omega)) (fun o q1 q2 => by first | exact fun q => q | (simp only; omega)) (chist_eq x2 (fun o k q1 q2 => by first | exact fun q => q | (simp only; omega)) (fun o q1 q2 => by first | exact fun q => q | (simp only; omega)) c1)
  · have x1 := fr_f_X2_keep s e1
    simp only [xS_X2_keep, xI_X2_keep, xJ_X2_keep, xA_X2_keep, xB_X2_keep] at x1
    have x2 := hf s1 s2 e2
    have x3 := fr_f_X11_changed s2 e3
    simp only [xS_X11_changed, xI_X11_changed, xJ_X11_changed, xA_X11_changed, xB_X11_changed] at x3
    have eI : ∀ o k, (o = 1 ∨ o = 19) → rI s3 o k = rI s o k := fun o k q => by
      rw [x3.1 o k (by first | exact fun q => q | (simp only; omega)), x2.1 o k (by first | exact fun q => q | (simp only; omega)), x1.1 o k (by first | exact fun q => q | (simp only; omega))]
    have eA : ∀ k, rA s3 2 k = rA s 2 k := fun k => by
      rw [x3.2.2.1 2 k (by first | exact fun q => q | (simp only; omega)), x2.2.2.1 2 k (by first | exact fun q => q | (simp only; omega)), x1.2.2.1 2 k (by first | exact fun q => q | (simp only; omega))]
    rw [eI 1 1 (by omega), eI 19 6 (by omega), eI 19 7 (by omega)]
    refine ⟨⟨a5.1, fun k hk => ?_⟩, a6, a7⟩
    rw [eA]; exact a5.2 k hk
