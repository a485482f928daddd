/-! THE REFERENCE's HALF OF THE ACTS -/
def tabF (a o W J : Nat) (F : Nat → Nat → Int32) (s : sx_M) : Prop := rA s a o = nI W ∧ rA s a (o + 1) = nI J ∧ ∀ w j, w < W → j < J → rA s a (o + 2 + (8 * w + j)) = F w j
abbrev iT (T : tb) : Nat → Nat → Int32 := fun w j => c32 (T.2.2 w j)
theorem tabF_T {a o : Nat} {T : tb} {s : sx_M} : tabIs a o T s ↔ tabF a o T.1 T.2.1 (iT T) s := Iff.rfl
theorem tabF_ext {a o W J : Nat} {F F' : Nat → Nat → Int32} {s : sx_M} (h : tabF a o W J F s) (hF : ∀ w j, w < W → j < J → F' w j = F w j) : tabF a o W J F' s :=
  ⟨h.1, h.2.1, fun w j hw hj => (h.2.2 w j hw hj).trans (hF w j hw hj).symm⟩
def D59 : sx_D := (fun _ _ => False, fun _ _ => False, fun o => o = 59, fun _ => False)
theorem tab_sh {a o a' o' : Nat} {T : tb} {s s' : sx_M} (hT : tb_ok T) (h : tabIs a o T s) (he : ∀ k, k < 58 → rA s' a' (o' + k) = rA s a (o + k)) : tabIs a' o' T s' := by
  have h7 := hT.1
  have h8 := hT.2.1
  refine ⟨(he 0 (by omega)).trans h.1, (he 1 (by omega)).trans h.2.1, fun w j hw hj => ?_⟩
  have := he (2 + (8 * w + j)) (by omega)
  rw [show o' + (2 + (8 * w + j)) = o' + 2 + (8 * w + j) by omega, show o + (2 + (8 * w + j)) = o + 2 + (8 * w + j) by omega] at this
  rw [this]
  exact h.2.2 w j hw hj
theorem ev_rem (s : sx_M) : Ev (f_X12_remembers s) (fun s' => ∀ k, k < 58 → rA s' 70 k = rA s 59 k) := by
  unfold f_X12_remembers
  rw [Ev_bind]
  simp only [Ev_some]
  refine ev_f (fun i a => a.1 = nI i ∧ (∀ k, rA a.2 59 k = rA s 59 k) ∧ ∀ k, k < i → rA a.2 70 k = rA s 59 k) 58 ?_ ?_ (i := 0) (by omega) ⟨rfl, fun _ => rfl, fun k hk => by omega⟩
  · rintro i ⟨a1, s1⟩ hi ⟨h1, h2, h3⟩
    simp only at h1 h2 h3
    subst h1
    refine ⟨.inl (nI (i + 1), wA s1 70 i (rA s1 59 i)), ?_, rfl, fun k => ?_, fun k hk => ?_⟩
    · simp only [f_X12_remembers_L2]
      simp (disch := omega) only [↓reduceIte, nI_lit, nI_add, pk_mul, nI_lt_T, nI_lt_F, nI_le_T, nI_le_F, nI_eq_T, nI_eq_F, nI_cl, le_F, le_T, nI_m_F, m_nI_F, nI_dn, m_lt, Option.bind_some, if_true, if_false, not_false_eq_true, not_true_eq_false, or_self, or_false, false_or, true_or, or_true, true_and, and_true, false_and, and_false]
    · rw [rA_F (by omega)]; exact h2 k
    · by_cases q : k = i
      · rw [q, rA_T ⟨rfl, rfl⟩]; exact h2 i
      · rw [rA_F (by omega)]; exact h3 k (by omega)
  · rintro ⟨a1, s1⟩ ⟨h1, h2, h3⟩
    simp only at h1 h2 h3
    subst h1
    refine ⟨.inr s1, ?_, h3⟩
    simp only [f_X12_remembers_L2]
    simp (disch := omega) only [↓reduceIte, nI_lit, nI_add, pk_mul, nI_lt_T, nI_lt_F, nI_le_T, nI_le_F, nI_eq_T, nI_eq_F, nI_cl, le_F, le_T, nI_m_F, m_nI_F, nI_dn, m_lt, Option.bind_some, if_true, if_false, not_false_eq_true, not_true_eq_false, or_self, or_false, false_or, true_or, or_true, true_and, and_true, false_and, and_false]
theorem keeps_L4 (s : sx_M) : ∃ b, b ≤ 1 ∧ whT f_X12_keeps_L4 (0, 0, s) = some (nI b, s) ∧ (b = 0 → ∀ k, k < 58 → rA s 70 k = rA s 59 k) ∧ (b = 1 → ∃ k, k < 58 ∧ rA s 70 k ≠ rA s 59 k) := by
  have : Ev (whT f_X12_keeps_L4 (0, 0, s)) (fun r => ∃ b, b ≤ 1 ∧ r = (nI b, s) ∧ (b = 0 → ∀ k, k < 58 → rA s 70 k = rA s 59 k) ∧ (b = 1 → ∃ k, k < 58 ∧ rA s 70 k ≠ rA s 59 k)) := by
    refine ev_f (fun i a => ∃ b, b ≤ 1 ∧ a = (nI b, nI i, s) ∧ (b = 0 → ∀ k, k < i → rA s 70 k = rA s 59 k) ∧ (b = 1 → ∃ k, k < i ∧ rA s 70 k ≠ rA s 59 k)) 58 ?_ ?_ (i := 0) (by omega) ⟨0, by omega, rfl, fun _ k hk => by omega, fun q => by omega⟩
    · rintro i a hi ⟨b, hb, rfl, h0, h1⟩
      simp only [f_X12_keeps_L4, f_X12_keeps_L4_J29]
      by_cases hb0 : b = 0
      · by_cases he : rA s 70 i = rA s 59 i
        · refine ⟨.inl (nI 0, nI (i + 1), s), ?_, 0, by omega, rfl, fun _ k hk => ?_, fun q => by omega⟩
          · simp (disch := omega) only [↓reduceIte, nI_lit, nI_add, pk_mul, nI_lt_T, nI_lt_F, nI_le_T, nI_le_F, nI_eq_T, nI_eq_F, nI_cl, le_F, le_T, nI_m_F, m_nI_F, nI_dn, m_lt, Option.bind_some, if_true, if_false, not_false_eq_true, not_true_eq_false, or_self, or_false, false_or, true_or, or_true, true_and, and_true, false_and, and_false, he]
          · by_cases q : k = i
            · rw [q]; exact he
            · exact h0 hb0 k (by omega)
        · refine ⟨.inl (nI 1, nI (i + 1), s), ?_, 1, by omega, rfl, fun q => by omega, fun _ => ⟨i, by omega, he⟩⟩
          simp (disch := omega) only [↓reduceIte, nI_lit, nI_add, pk_mul, nI_lt_T, nI_lt_F, nI_le_T, nI_le_F, nI_eq_T, nI_eq_F, nI_cl, le_F, le_T, nI_m_F, m_nI_F, nI_dn, m_lt, Option.bind_some, if_true, if_false, not_false_eq_true, not_true_eq_false, or_self, or_false, false_or, true_or, or_true, true_and, and_true, false_and, and_false, he]
      · obtain ⟨k, hk, hne⟩ := h1 (by omega)
        refine ⟨.inl (nI 1, nI (i + 1), s), ?_, 1, by omega, rfl, fun q => by omega, fun _ => ⟨k, by omega, hne⟩⟩
        simp (disch := omega) only [↓reduceIte, nI_lit, nI_add, pk_mul, nI_lt_T, nI_lt_F, nI_le_T, nI_le_F, nI_eq_T, nI_eq_F, nI_cl, le_F, le_T, nI_m_F, m_nI_F, nI_dn, m_lt, Option.bind_some, if_true, if_false, not_false_eq_true, not_true_eq_false, or_self, or_false, false_or, true_or, or_true, true_and, and_true, false_and, and_false]
    · rintro a ⟨b, hb, rfl, h0, h1⟩
      refine ⟨.inr (nI b, s), ?_, b, hb, rfl, h0, h1⟩
      simp only [f_X12_keeps_L4]
      simp (disch := omega) only [↓reduceIte, nI_lit, nI_add, pk_mul, nI_lt_T, nI_lt_F, nI_le_T, nI_le_F, nI_eq_T, nI_eq_F, nI_cl, le_F, le_T, nI_m_F, m_nI_F, nI_dn, m_lt, Option.bind_some, if_true, if_false, not_false_eq_true, not_true_eq_false, or_self, or_false, false_or, true_or, or_true, true_and, and_true, false_and, and_false]
  obtain ⟨r, e, b, hb, rfl, h0, h1⟩ := this
  exact ⟨b, hb, e, h0, h1⟩
theorem keeps_0 {s : sx_M} (h : ∀ k, k < 58 → rA s 70 k = rA s 59 k) : f_X12_keeps s = some (0, s) := by
  obtain ⟨b, hb, e, h0, h1⟩ := keeps_L4 s
  have : b = 0 := by
    by_cases q : b = 1
    · obtain ⟨k, hk, hne⟩ := h1 q
      exact absurd (h k hk) hne
    · omega
  subst this
  unfold f_X12_keeps
  rw [e, Option.bind_some, if_pos (show nI 0 = 0 from rfl)]
theorem keeps_J {H : List tb} {T : tb} {s : sx_M} (hT : tb_ok T) (hok : ∀ X, X ∈ H → tb_ok X) (hl : H.length < 10) (hh : rhist H s) (hw : tabIs 70 0 T s) : Ev (f_X12_keeps_J96 s) (fun p => p.1 = 1 ∧ rhist (H ++ [T]) p.2) := by
  have hL : Ev (whT f_X12_keeps_L98 (0, s)) (fun s' => rI s' 58 2 = nI H.length ∧ ∀ k, rA s' 60 k = if 58 * H.length ≤ k ∧ k < 58 * H.length + 58 then rA s 70 (k - 58 * H.length) else rA s 60 k) := by
    refine ev_f (fun i a => a.1 = nI i ∧ rI a.2 58 2 = nI H.length ∧ (∀ k, rA a.2 70 k = rA s 70 k) ∧ ∀ k, rA a.2 60 k = if 58 * H.length ≤ k ∧ k < 58 * H.length + i then rA s 70 (k - 58 * H.length) else rA s 60 k) 58 ?_ ?_ (i := 0) (by omega) ⟨rfl, hh.1, fun _ => rfl, fun k => by rw [if_neg (by omega)]⟩
    · rintro i ⟨a1, s1⟩ hi ⟨h1, h2, h3, h4⟩
      simp only at h1 h2 h3 h4
      subst h1
      refine ⟨.inl (nI (i + 1), wA s1 60 (58 * H.length + i) (rA s1 70 i)), ?_, rfl, ?_, fun k => ?_, fun k => ?_⟩
      · simp only [f_X12_keeps_L98, h2]
        simp (disch := omega) only [↓reduceIte, nI_lit, nI_add, pk_mul, nI_lt_T, nI_lt_F, nI_le_T, nI_le_F, nI_eq_T, nI_eq_F, nI_cl, le_F, le_T, nI_m_F, m_nI_F, nI_dn, m_lt, Option.bind_some, if_true, if_false, not_false_eq_true, not_true_eq_false, or_self, or_false, false_or, true_or, or_true, true_and, and_true, false_and, and_false]
      · exact h2
      · rw [rA_F (by omega)]; exact h3 k
      · by_cases q : k = 58 * H.length + i
        · rw [rA_T (by omega), if_pos (by omega), h3]
          congr 1; omega
        · rw [rA_F (by omega), h4 k]
          by_cases q2 : 58 * H.length ≤ k ∧ k < 58 * H.length + i
          · rw [if_pos q2, if_pos (by omega)]
          · rw [if_neg q2, if_neg (by omega)]
    · rintro ⟨a1, s1⟩ ⟨h1, h2, h3, h4⟩
      simp only at h1 h2 h3 h4
      subst h1
      refine ⟨.inr s1, ?_, h2, h4⟩
      simp only [f_X12_keeps_L98]
      simp (disch := omega) only [↓reduceIte, nI_lit, nI_add, pk_mul, nI_lt_T, nI_lt_F, nI_le_T, nI_le_F, nI_eq_T, nI_eq_F, nI_cl, le_F, le_T, nI_m_F, m_nI_F, nI_dn, m_lt, Option.bind_some, if_true, if_false, not_false_eq_true, not_true_eq_false, or_self, or_false, false_or, true_or, or_true, true_and, and_true, false_and, and_false]
  obtain ⟨s1, e, i1, i2⟩ := hL
  refine ⟨(1, wI s1 58 2 (nI (H.length + 1))), ?_, rfl, ?_, fun i X hX => ?_⟩
  · unfold f_X12_keeps_J96
    rw [e, Option.bind_some, i1, show (1 : Int32) = nI 1 from rfl, nI_add]
  · rw [rI_T ⟨rfl, rfl⟩]; simp
  · by_cases q : i < H.length
    · rw [List.getElem?_append_left q] at hX
      refine tab_sh (hok X (List.mem_of_getElem? hX)) (hh.2 i X hX) (fun k hk => ?_)
      rw [rA_wI, i2, if_neg (by omega)]
    · have hl2 : i < (H ++ [T]).length := (List.getElem?_eq_some_iff.mp hX).1
      simp at hl2
      have : i = H.length := by omega
      subst this
      simp at hX
      subst hX
      refine tab_sh hT hw (fun k hk => ?_)
      rw [rA_wI, i2, if_pos (by omega)]
      congr 1; omega
theorem keeps_1 {H : List tb} {T : tb} {s : sx_M} (hT : tb_ok T) (hok : ∀ X, X ∈ H → tb_ok X) (hl : H.length ≤ 10) (hh : rhist H s) (hw : tabIs 70 0 T s) (hne : ∃ k, k < 58 ∧ rA s 70 k ≠ rA s 59 k) : Ev (f_X12_keeps s) (fun p => p.1 = 1 ∧ rhist (kp H T) p.2) := by
  obtain ⟨b, hb, e, h0, h1⟩ := keeps_L4 s
  have : b = 1 := by
    by_cases q : b = 0
    · obtain ⟨k, hk, hne⟩ := hne
      exact absurd (h0 q k hk) hne
    · omega
  subst this
  unfold f_X12_keeps
  rw [e, Option.bind_some, if_neg (show ¬ nI 1 = 0 by decide)]
  simp only [hh.1]
  by_cases q : H.length = 10
  · rw [if_pos (show nI H.length = 10 by rw [q]; rfl)]
    have hL : Ev (whT f_X12_keeps_L58 (0, s)) (fun s' => rI s' 58 2 = nI 10 ∧ (∀ k, rA s' 70 k = rA s 70 k) ∧ ∀ k, k < 522 → rA s' 60 k = rA s 60 (k + 58)) := by
      refine ev_f (fun i a => a.1 = nI i ∧ rI a.2 58 2 = nI 10 ∧ (∀ k, rA a.2 70 k = rA s 70 k) ∧ (∀ k, k < i → rA a.2 60 k = rA s 60 (k + 58)) ∧ ∀ k, i ≤ k → rA a.2 60 k = rA s 60 k) 522 ?_ ?_ (i := 0) (by omega) ⟨rfl, by rw [hh.1, q], fun _ => rfl, fun k hk => by omega, fun _ _ => rfl⟩
      · rintro i ⟨a1, s1⟩ hi ⟨h1, h2, h3, h4, h5⟩
        simp only at h1 h2 h3 h4 h5
        subst h1
        refine ⟨.inl (nI (i + 1), wA s1 60 i (rA s1 60 (i + 58))), ?_, rfl, h2, fun k => ?_, fun k hk => ?_, fun k hk => ?_⟩
        · simp only [f_X12_keeps_L58]
          simp (disch := omega) only [↓reduceIte, nI_lit, nI_add, pk_mul, nI_lt_T, nI_lt_F, nI_le_T, nI_le_F, nI_eq_T, nI_eq_F, nI_cl, le_F, le_T, nI_m_F, m_nI_F, nI_dn, m_lt, Option.bind_some, if_true, if_false, not_false_eq_true, not_true_eq_false, or_self, or_false, false_or, true_or, or_true, true_and, and_true, false_and, and_false]
        · rw [rA_F (by omega)]; exact h3 k
        · by_cases q : k = i
          · rw [q, rA_T ⟨rfl, rfl⟩]; exact h5 _ (by omega)
          · rw [rA_F (by omega)]; exact h4 k (by omega)
        · rw [rA_F (by omega)]; exact h5 k (by omega)
      · rintro ⟨a1, s1⟩ ⟨h1, h2, h3, h4, h5⟩
        simp only at h1 h2 h3 h4 h5
        subst h1
        refine ⟨.inr s1, ?_, h2, h3, h4⟩
        simp only [f_X12_keeps_L58]
        simp (disch := omega) only [↓reduceIte, nI_lit, nI_add, pk_mul, nI_lt_T, nI_lt_F, nI_le_T, nI_le_F, nI_eq_T, nI_eq_F, nI_cl, le_F, le_T, nI_m_F, m_nI_F, nI_dn, m_lt, Option.bind_some, if_true, if_false, not_false_eq_true, not_true_eq_false, or_self, or_false, false_or, true_or, or_true, true_and, and_true, false_and, and_false]
    obtain ⟨s1, e1, i1, i2, i3⟩ := hL
    rw [e1, Option.bind_some, i1, show nI 10 - (1 : Int32) = nI 9 by decide]
    have hd : (H.drop 1).length = 9 := by simp; omega
    have := keeps_J (H := H.drop 1) (T := T) (s := wI s1 58 2 (nI 9)) hT (fun X hX => hok X (List.mem_of_mem_drop hX)) (by omega) ⟨by rw [rI_T ⟨rfl, rfl⟩, hd], fun i X hX => ?_⟩ (tab_sh hT hw (fun k hk => by rw [rA_wI]; exact i2 _))
    · unfold kp; rw [if_pos q]; exact this
    · have hlt : i < (H.drop 1).length := (List.getElem?_eq_some_iff.mp hX).1
      rw [List.getElem?_drop] at hX
      refine tab_sh (hok X (List.mem_of_getElem? hX)) (hh.2 _ X hX) (fun k hk => ?_)
      rw [rA_wI, i3 _ (by omega)]
      congr 1; omega
  · rw [if_neg (show ¬ nI H.length = 10 by rw [show (10 : Int32) = nI 10 from rfl, nI_eq_F (by omega) (by omega) (by omega)]; exact fun z => z)]
    have := keeps_J hT hok (show H.length < 10 by omega) hh hw
    unfold kp; rw [if_neg q]; exact this
def D70 : sx_D := (fun _ _ => False, fun _ _ => False, fun o => o = 70, fun _ => False)
/-- remembered; the table is another one then; kept -/
theorem rf_act {A : ast} {T' : tb} {s s1 s2 : sx_M} (hok : okA A) (hr : rfA A s) (e1 : f_X12_remembers s = some s1) (h2 : tabIs 59 0 T' s2) (x2 : sx_eq D59 s1 s2) (hne : ∃ k, k < 58 ∧ rA s 59 k ≠ rA s2 59 k) : Ev (f_X12_keeps s2) (fun p => p.1 = 1 ∧ rfA (T', kp A.2.1 A.1, A.2.2) p.2) := by
  obtain ⟨a1, a2, a3, a4, a5⟩ := hr
  have x1 := fr_f_X12_remembers s e1
  simp only [xS_X12_remembers, xI_X12_remembers, xJ_X12_remembers, xA_X12_remembers, xB_X12_remembers] at x1
  have hw : ∀ k, k < 58 → rA s2 70 k = rA s 59 k := by
    obtain ⟨s1', e1', h⟩ := ev_rem s
    rw [e1] at e1'
    cases e1'
    intro k hk
    rw [x2.2.2.1 70 k (by simp only [D59]; omega)]
    exact h k hk
  have t70 : tabIs 70 0 A.1 s2 := tab_sh hok.1 a1 (fun k hk => by rw [Nat.zero_add]; exact hw k hk)
  have e60 : ∀ k, rA s2 60 k = rA s 60 k := fun k => by rw [x2.2.2.1 60 k (by simp only [D59]; omega), x1.2.2.1 60 k (by first | exact fun q => q | (simp only; omega))]
  have eI : ∀ k, rI s2 58 k = rI s 58 k := fun k => by rw [x2.1 58 k (fun q => q), x1.1 58 k (fun q => q)]
  have hk2 : rhist A.2.1 s2 := ⟨(eI 2).trans a2.1, fun i X hX => tab_sh (hok.2.1 X (List.mem_of_getElem? hX)) (a2.2 i X hX) (fun k _ => e60 _)⟩
  obtain ⟨k, hk, hne⟩ := hne
  obtain ⟨p, e, v, hp⟩ := keeps_1 hok.1 hok.2.1 hok.2.2.1 hk2 t70 ⟨k, hk, by rw [hw k hk]; exact hne⟩
  have x3 := fr_f_X12_keeps s2 e
  simp only [xS_X12_keeps, xI_X12_keeps, xJ_X12_keeps, xA_X12_keeps, xB_X12_keeps] at x3
  refine ⟨p, e, v, tab_eq x3 (by first | exact fun q => q | (simp only; omega)) h2, hp, ⟨?_, fun k hk => ?_⟩, ?_, ?_⟩
  · rw [x3.1 58 4 (by first | exact fun q => q | (simp only; omega)), eI]; exact a3.1
  · rw [x3.2.2.1 61 k (by first | exact fun q => q | (simp only; omega)), x2.2.2.1 61 k (by simp only [D59]; omega), x1.2.2.1 61 k (by first | exact fun q => q | (simp only; omega))]; exact a3.2 k hk
  · rw [x3.1 58 5 (by first | exact fun q => q | (simp only; omega)), eI]; exact a4
  · rw [x3.1 58 6 (by first | exact fun q => q | (simp only; omega)), eI]; exact a5
/-- the same, and nothing is another one -/
theorem rf_act0 {A : ast} {s s1 s2 : sx_M} (hr : rfA A s) (e1 : f_X12_remembers s = some s1) (x2 : sx_eq D59 s1 s2) (h2 : tabIs 59 0 A.1 s2) (he : ∀ k, k < 58 → rA s 59 k = rA s2 59 k) : f_X12_keeps s2 = some (0, s2) ∧ rfA A s2 := by
  obtain ⟨a1, a2, a3, a4, a5⟩ := hr
  have x1 := fr_f_X12_remembers s e1
  simp only [xS_X12_remembers, xI_X12_remembers, xJ_X12_remembers, xA_X12_remembers, xB_X12_remembers] at x1
  have hw : ∀ k, k < 58 → rA s2 70 k = rA s 59 k := by
    obtain ⟨s1', e1', h⟩ := ev_rem s
    rw [e1] at e1'
    cases e1'
    intro k hk
    rw [x2.2.2.1 70 k (by simp only [D59]; omega)]
    exact h k hk
  have eI : ∀ k, rI s2 58 k = rI s 58 k := fun k => by rw [x2.1 58 k (fun q => q), x1.1 58 k (fun q => q)]
  have eA : ∀ o k, o = 60 ∨ o = 61 → rA s2 o k = rA s o k := fun o k q => by rw [x2.2.2.1 o k (by simp only [D59]; omega), x1.2.2.1 o k (by simp only; omega)]
  refine ⟨keeps_0 (fun k hk => by rw [hw k hk]; exact he k hk), h2, ⟨(eI 2).trans a2.1, fun i X hX => ?_⟩, ⟨(eI 4).trans a3.1, fun k hk => (eA 61 k (by omega)).trans (a3.2 k hk)⟩, (eI 5).trans a4, (eI 6).trans a5⟩
  have := a2.2 i X hX
  refine ⟨?_, ?_, fun w j hw hj => ?_⟩
  · rw [eA 60 _ (by omega)]; exact this.1
  · rw [eA 60 _ (by omega)]; exact this.2.1
  · rw [eA 60 _ (by omega)]; exact this.2.2 w j hw hj
theorem f_place (w j : Nat) (s : sx_M) : f_X12_placeOf (nI w) (nI j) s = some (nI (2 + (8 * w + j)), s) := by
  unfold f_X12_placeOf
  rw [show (2 : Int32) = nI 2 from rfl, show (8 : Int32) = nI 8 from rfl, pk_mul, nI_add, nI_add, Nat.add_assoc]
def upI (F : Nat → Nat → Int32) (w j : Nat) (v : Int32) : Nat → Nat → Int32 := fun a b => if a = w ∧ b = j then v else F a b
theorem tput {W J : Nat} {F : Nat → Nat → Int32} {s : sx_M} (hJ : J ≤ 8) (h : tabF 59 0 W J F s) {w j : Nat} (hj : j < J) (v : Int32) : tabF 59 0 W J (upI F w j v) (wA s 59 (2 + (8 * w + j)) v) := by
  refine ⟨?_, ?_, fun a b ha hb => ?_⟩
  · rw [rA_F (by omega)]; exact h.1
  · rw [rA_F (by omega)]; exact h.2.1
  · have := h.2.2 a b ha hb
    rw [rA_wA]
    unfold upI
    by_cases q : a = w ∧ b = j
    · rw [if_pos q, if_pos (by omega)]
    · rw [if_neg q, if_neg (by omega)]; exact this
/-- nothing but costs of the table is another one -/
def sq (W J : Nat) (s s' : sx_M) : Prop := sx_eq D59 s s' ∧ ∀ k, (∀ w j, w < W → j < J → k ≠ 2 + (8 * w + j)) → rA s' 59 k = rA s 59 k
theorem sq_rf (W J : Nat) (s : sx_M) : sq W J s s := ⟨sx_rf _ _, fun _ _ => rfl⟩
theorem sq_tr {W J : Nat} {s s1 s2 : sx_M} (h : sq W J s s1) (h2 : sq W J s1 s2) : sq W J s s2 := ⟨sx_tr h.1 h2.1, fun k hk => (h2.2 k hk).trans (h.2 k hk)⟩
theorem sq_w {W J : Nat} {s s1 : sx_M} (h : sq W J s s1) {w j : Nat} (hw : w < W) (hj : j < J) (v : Int32) : sq W J s (wA s1 59 (2 + (8 * w + j)) v) :=
  ⟨sx_wA' h.1 rfl, fun k hk => by rw [rA_F (Or.inr (hk w j hw hj))]; exact h.2 k hk⟩
/-- a loop whose steps put into the table -/
theorem ev_tl {W J : Nat} {f : (Int32 × sx_M) → Option ((Int32 × sx_M) ⊕ sx_M)} (Fi : Nat → Nat → Nat → Int32) (n : Nat) {s : sx_M} (h0 : tabF 59 0 W J (Fi 0) s) (H : ∀ i s1, i < n → tabF 59 0 W J (Fi i) s1 → sx_eq D59 s s1 → Ev (f (nI i, s1)) (fun r => ∃ s2, r = .inl (nI (i + 1), s2) ∧ tabF 59 0 W J (Fi (i + 1)) s2 ∧ sq W J s1 s2)) (E : ∀ s1, tabF 59 0 W J (Fi n) s1 → f (nI n, s1) = some (.inr s1)) : Ev (whT f (nI 0, s)) (fun s' => tabF 59 0 W J (Fi n) s' ∧ sq W J s s') := by
  refine ev_f (fun i a => a.1 = nI i ∧ tabF 59 0 W J (Fi i) a.2 ∧ sq W J s a.2) n ?_ ?_ (i := 0) (by omega) ⟨rfl, h0, sq_rf _ _ _⟩
  · rintro i ⟨a1, s1⟩ hi ⟨h1, h2, h3⟩
    simp only at h1 h2 h3
    subst h1
    obtain ⟨r, e, s2, rfl, h4, h5⟩ := H i s1 hi h2 h3.1
    exact ⟨_, e, rfl, h4, sq_tr h3 h5⟩
  · rintro ⟨a1, s1⟩ ⟨h1, h2, h3⟩
    simp only at h1 h2 h3
    subst h1
    exact ⟨_, E s1 h2, h2, h3⟩
/-- all cells are as they were if the costs are -/
theorem sq_all {T : tb} {s s' : sx_M} (h : sq T.1 T.2.1 s s') (h1 : tabIs 59 0 T s) (h2 : tabIs 59 0 T s') (k : Nat) : rA s 59 k = rA s' 59 k := by
  by_cases q : ∃ w j, w < T.1 ∧ j < T.2.1 ∧ k = 2 + (8 * w + j)
  · obtain ⟨w, j, hw, hj, rfl⟩ := q
    have e1 := h1.2.2 w j hw hj
    have e2 := h2.2.2 w j hw hj
    rw [show 0 + 2 + (8 * w + j) = 2 + (8 * w + j) by omega] at e1 e2
    rw [e1, e2]
  · exact (h.2 k (fun w j hw hj e => q ⟨w, j, hw, hj, e⟩)).symm
