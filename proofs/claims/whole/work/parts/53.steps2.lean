/-! undo, turn, comes, goes -/
theorem n1_0 : ¬ (1 : Int32) = 0 := by decide
theorem hW_in {g W J : Nat} {F : Nat → Nat → Int64} {s : sx_M} (hW : W ≤ 7) (hg : gridF g W J F s) {w : Nat} (hw : w < W) : f_X1_hasWorker g (nI w) s = some (1, s) := by
  unfold f_X1_hasWorker
  rw [if_neg (nI_pos (by omega)), hg.1, if_neg (nI_ge hw (by omega))]
theorem hW_out {g W J : Nat} {F : Nat → Nat → Int64} {s : sx_M} (hg : gridF g W J F s) {x : Int32} (h : x < 0 ∨ nI W ≤ x) : f_X1_hasWorker g x s = some (0, s) := by
  unfold f_X1_hasWorker
  rw [hg.1]
  by_cases h1 : x < 0
  · rw [if_pos h1]
  · rw [if_neg h1, if_pos (h.resolve_left h1)]
theorem hJ_in {g W J : Nat} {F : Nat → Nat → Int64} {s : sx_M} (hJ : J ≤ 8) (hg : gridF g W J F s) {w : Nat} (hw : w < J) : f_X1_hasJob g (nI w) s = some (1, s) := by
  unfold f_X1_hasJob
  rw [if_neg (nI_pos (by omega)), hg.2.1, if_neg (nI_ge hw (by omega))]
theorem hJ_out {g W J : Nat} {F : Nat → Nat → Int64} {s : sx_M} (hg : gridF g W J F s) {x : Int32} (h : x < 0 ∨ nI J ≤ x) : f_X1_hasJob g x s = some (0, s) := by
  unfold f_X1_hasJob
  rw [hg.2.1]
  by_cases h1 : x < 0
  · rw [if_pos h1]
  · rw [if_neg h1, if_pos (h.resolve_left h1)]
theorem rfA_tape {A A' : ast} {s s' : sx_M} (hr : rfA A s) (h1 : tabIs 59 0 A'.1 s') (h2 : rhist A'.2.1 s') (h3 : A'.2.2 = A.2.2) (hx : ∀ k, (k = 4 ∨ k = 5 ∨ k = 6) → rI s' 58 k = rI s 58 k) (hy : ∀ k, rA s' 61 k = rA s 61 k) : rfA A' s' := by
  obtain ⟨_, _, a3, a4, a5⟩ := hr
  refine ⟨h1, h2, ?_⟩
  rw [h3, hx 4 (by omega), hx 5 (by omega), hx 6 (by omega)]
  exact ⟨⟨a3.1, fun k hk => (hy k).trans (a3.2 k hk)⟩, a4, a5⟩
theorem stp_45 : st_ok_45 Rel := by
  intro s ⟨A, hok, hc, hr⟩
  by_cases hH : A.2.1 = []
  · refine st_a (f1 := f_X11_undo) (f2 := f_X12_undo) (-1) hok hc hr (fun hc => ⟨(-1, s), ?_, rfl, hc⟩) lo_X11_undo (fun s1 hr1 => ⟨(-1, s1), ?_, rfl, hr1⟩) hi_X12_undo
    · unfold f_X11_undo
      have := hc.2.2.2.1
      rw [hH] at this
      rw [ev_restore0 this]; rfl
    · unfold f_X12_undo
      have := hr1.2.1.1
      rw [hH] at this
      rw [this, if_pos (show nI ([] : List tb).length = 0 from rfl)]
  · obtain ⟨H, T, hHT⟩ : ∃ H T, A.2.1 = H ++ [T] := ⟨A.2.1.dropLast, A.2.1.getLast hH, (List.dropLast_concat_getLast hH).symm⟩
    have hTok : tb_ok T := hok.2.1 T (by rw [hHT]; simp)
    have hl : H.length < 10 := by have := hok.2.2.1; rw [hHT] at this; simp at this; omega
    refine st_a (f1 := f_X11_undo) (f2 := f_X12_undo) (A' := (T, H, A.2.2)) (nI H.length) ⟨hTok, fun X hX => hok.2.1 X (by rw [hHT]; exact List.mem_append_left _ hX), by show H.length ≤ 10; omega, hok.2.2.2⟩ hc hr (fun hc => ?_) lo_X11_undo (fun s1 hr1 => ?_) hi_X12_undo
    · obtain ⟨a1, a2, a3, a4, a5, a6, a7⟩ := hc
      rw [hHT] at a4
      obtain ⟨p, e1, v1, c1, g1⟩ := ev_restore hTok hl a4
      obtain ⟨s2, e2, r2, g2, o2⟩ := ev_changed hTok g1
      have x1 := fr_f_X2_restore s e1
      have x2 := fr_f_X11_changed p.2 e2
      simp only [xS_X2_restore, xI_X2_restore, xJ_X2_restore, xA_X2_restore, xB_X2_restore] at x1
      simp only [xS_X11_changed, xI_X11_changed, xJ_X11_changed, xA_X11_changed, xB_X11_changed] at x2
      have c2 : chist H s2 := chist_eq x2 (fun o k q1 q2 => by first | exact fun q => q | (simp only; omega)) (fun o q1 q2 => by first | exact fun q => q | (simp only; omega)) c1
      have eI : ∀ o k, (o = 1 ∨ o = 19) → rI s2 o k = rI s o k := fun o k q => by rw [x2.1 o k (by first | exact fun q => q | (simp only; omega)), x1.1 o k (by first | exact fun q => q | (simp only; omega))]
      have eA : ∀ k, rA s2 2 k = rA s 2 k := fun k => by rw [x2.2.2.1 2 k (by first | exact fun q => q | (simp only; omega)), x1.2.2.1 2 k (by first | exact fun q => q | (simp only; omega))]
      refine ⟨(rI s2 20 2, s2), ?_, ?_, g2, r2, Or.inl o2, c2, ?_⟩
      · unfold f_X11_undo
        rw [e1, Option.bind_some, v1, if_neg n1_0, e2, Option.bind_some]
      · obtain ⟨o, _, _, h, _⟩ := c2
        exact h
      · show (rI s2 1 1 = _ ∧ _) ∧ rI s2 19 6 = _ ∧ rI s2 19 7 = _
        rw [eI 1 1 (by omega), eI 19 6 (by omega), eI 19 7 (by omega)]
        refine ⟨⟨a5.1, fun k hk => ?_⟩, a6, a7⟩
        rw [eA]; exact a5.2 k hk
    · have hh := hr1.2.1
      rw [hHT] at hh
      have h1 : rI s1 58 2 = nI (H.length + 1) := by rw [hh.1]; simp
      have hL : Ev (whT f_X12_undo_L21 (0, wI s1 58 2 (nI H.length))) (fun s' => rI s' 58 2 = nI H.length ∧ (∀ k, rA s' 60 k = rA s1 60 k) ∧ ∀ k, k < 58 → rA s' 59 k = rA s1 60 (58 * H.length + k)) := by
        refine ev_f (fun i a => a.1 = nI i ∧ rI a.2 58 2 = nI H.length ∧ (∀ k, rA a.2 60 k = rA s1 60 k) ∧ ∀ k, k < i → rA a.2 59 k = rA s1 60 (58 * H.length + k)) 58 ?_ ?_ (i := 0) (by omega) ⟨rfl, rI_T ⟨rfl, rfl⟩, fun _ => rfl, fun k hk => by omega⟩
        · rintro i ⟨b1, t1⟩ hi ⟨h1, h2, h3, h4⟩
          simp only at h1 h2 h3 h4
          subst h1
          refine ⟨.inl (nI (i + 1), wA t1 59 i (rA t1 60 (58 * H.length + i))), ?_, rfl, h2, fun k => ?_, fun k hk => ?_⟩
          · simp only [f_X12_undo_L21, h2]
            simp (disch := omega) only [↓reduceIte, nI_lit, nI_add, pk_mul, nI_lt_T, nI_lt_F, nI_le_T, nI_le_F, nI_eq_T, nI_eq_F, nI_cl, le_F, le_T, nI_m_F, m_nI_F, nI_dn, m_lt, Option.bind_some, if_true, if_false, not_false_eq_true, not_true_eq_false, or_self, or_false, false_or, true_or, or_true, true_and, and_true, false_and, and_false]
          · rw [rA_F (by omega)]; exact h3 k
          · by_cases q : k = i
            · rw [q, rA_T ⟨rfl, rfl⟩]; exact h3 _
            · rw [rA_F (by omega)]; exact h4 k (by omega)
        · rintro ⟨b1, t1⟩ ⟨h1, h2, h3, h4⟩
          simp only at h1 h2 h3 h4
          subst h1
          refine ⟨.inr t1, ?_, h2, h3, h4⟩
          simp only [f_X12_undo_L21]
          simp (disch := omega) only [↓reduceIte, nI_lit, nI_add, pk_mul, nI_lt_T, nI_lt_F, nI_le_T, nI_le_F, nI_eq_T, nI_eq_F, nI_cl, le_F, le_T, nI_m_F, m_nI_F, nI_dn, m_lt, Option.bind_some, if_true, if_false, not_false_eq_true, not_true_eq_false, or_self, or_false, false_or, true_or, or_true, true_and, and_true, false_and, and_false]
      obtain ⟨s2, e2, i1, i2, i3⟩ := hL
      have ef : f_X12_undo s1 = some (rI s2 58 2, s2) := by
        unfold f_X12_undo
        rw [h1, if_neg (by rw [show (0 : Int32) = nI 0 from rfl, nI_eq_F (by omega) (by omega) (by omega)]; exact fun q => q), show nI (H.length + 1) - (1 : Int32) = nI H.length from nI_pred _, e2, Option.bind_some]
      have x1 := fr_f_X12_undo s1 ef
      simp only [xS_X12_undo, xI_X12_undo, xJ_X12_undo, xA_X12_undo, xB_X12_undo] at x1
      refine ⟨_, ef, i1, rfA_tape hr1 (tab_sh hTok (hh.2 H.length T (by simp)) (fun k hk => by rw [Nat.zero_add]; exact i3 k hk)) ⟨i1, fun i X hX => ?_⟩ rfl (fun k q => x1.1 58 k (by first | exact fun q => q | (simp only; omega))) (fun k => x1.2.2.1 61 k (by first | exact fun q => q | (simp only; omega)))⟩
      have hlt : i < H.length := (List.getElem?_eq_some_iff.mp hX).1
      have hX2 : (H ++ [T])[i]? = some X := by rw [List.getElem?_append_left hlt]; exact hX
      exact tab_sh (hok.2.1 X (by rw [hHT]; exact List.mem_of_getElem? hX2)) (hh.2 i X hX2) (fun k _ => i2 _)
/-! turn -/
theorem f_same {T : tb} {s : sx_M} (hT : tb_ok T) (hg : gridIs 3 T s) {u v : Nat} (hu : u < T.1) (hv : v < T.1) : ∃ b, b ≤ 1 ∧ f_X1_sameCosts 3 (nI u) (nI v) s = some (nI b, s) ∧ (b = 1 → ∀ j, j < T.2.1 → T.2.2 u j = T.2.2 v j) ∧ (b = 0 → ∃ j, j < T.2.1 ∧ T.2.2 u j ≠ T.2.2 v j) := by
  have h7 := hT.1
  have h8 := hT.2.1
  have : Ev (whT (f_X1_sameCosts_L2 3 (nI u) (nI v)) (0, s)) (fun r => (r = .inl s ∧ ∀ j, j < T.2.1 → T.2.2 u j = T.2.2 v j) ∨ (r = .inr (0, s) ∧ ∃ j, j < T.2.1 ∧ T.2.2 u j ≠ T.2.2 v j)) := by
    refine ev_f (fun i a => a = (nI i, s) ∧ ∀ j, j < i → T.2.2 u j = T.2.2 v j) T.2.1 ?_ ?_ (i := 0) (by omega) ⟨rfl, fun j hj => by omega⟩
    · rintro i a hi ⟨rfl, h⟩
      have h1 := at_F h7 h8 hg hu hi
      have h2 := at_F h7 h8 hg hv hi
      by_cases he : T.2.2 u i = T.2.2 v i
      · refine ⟨.inl (nI (i + 1), s), ?_, rfl, fun j hj => ?_⟩
        · simp only [f_X1_sameCosts_L2, hg.2.1]
          simp (disch := omega) only [↓reduceIte, nI_lit, nI_add, pk_mul, nI_lt_T, nI_lt_F, nI_le_T, nI_le_F, nI_eq_T, nI_eq_F, nI_cl, le_F, le_T, nI_m_F, m_nI_F, nI_dn, m_lt, Option.bind_some, if_true, if_false, not_false_eq_true, not_true_eq_false, or_self, or_false, false_or, true_or, or_true, true_and, and_true, false_and, and_false, h1, h2, he]
        · by_cases q : j = i
          · rw [q]; exact he
          · exact h j (by omega)
      · refine ⟨.inr (.inr (0, s)), ?_, Or.inr ⟨rfl, i, hi, he⟩⟩
        have hne : ¬ c64 (T.2.2 u i) = c64 (T.2.2 v i) := fun q => he ((c64_inj (ok_far hT u i) (ok_far hT v i)).mp q)
        simp only [f_X1_sameCosts_L2, hg.2.1]
        simp (disch := omega) only [↓reduceIte, nI_lit, nI_add, pk_mul, nI_lt_T, nI_lt_F, nI_le_T, nI_le_F, nI_eq_T, nI_eq_F, nI_cl, le_F, le_T, nI_m_F, m_nI_F, nI_dn, m_lt, Option.bind_some, if_true, if_false, not_false_eq_true, not_true_eq_false, or_self, or_false, false_or, true_or, or_true, true_and, and_true, false_and, and_false, h1, h2, hne]
    · rintro a ⟨rfl, h⟩
      refine ⟨.inr (.inl s), ?_, Or.inl ⟨rfl, h⟩⟩
      simp only [f_X1_sameCosts_L2, hg.2.1]
      simp (disch := omega) only [↓reduceIte, nI_lit, nI_add, pk_mul, nI_lt_T, nI_lt_F, nI_le_T, nI_le_F, nI_eq_T, nI_eq_F, nI_cl, le_F, le_T, nI_m_F, m_nI_F, nI_dn, m_lt, Option.bind_some, if_true, if_false, not_false_eq_true, not_true_eq_false, or_self, or_false, false_or, true_or, or_true, true_and, and_true, false_and, and_false]
  obtain ⟨r, e, ⟨rfl, h⟩ | ⟨rfl, h⟩⟩ := this
  · refine ⟨1, by omega, ?_, fun _ => h, fun q => by omega⟩
    unfold f_X1_sameCosts
    rw [e]; rfl
  · refine ⟨0, by omega, ?_, fun q => by omega, fun _ => h⟩
    unfold f_X1_sameCosts
    rw [e]; rfl
def turnT (T : tb) (u v : Nat) : tb := (T.1, T.2.1, fun a b => if a = v then T.2.2 u b else if a = u then T.2.2 v b else T.2.2 a b)
theorem turnT_ok {T : tb} (hT : tb_ok T) {u v : Nat} (hu : u < T.1) (hv : v < T.1) : tb_ok (turnT T u v) := by
  refine ⟨hT.1, hT.2.1, fun a b x hx => ?_, fun a b hab => ?_⟩
  · have hx : (if a = v then T.2.2 u b else if a = u then T.2.2 v b else T.2.2 a b) = some x := hx
    split at hx
    · exact hT.2.2.1 _ _ x hx
    · split at hx
      · exact hT.2.2.1 _ _ x hx
      · exact hT.2.2.1 _ _ x hx
  · have hab : ¬ (a < T.1 ∧ b < T.2.1) := hab
    show (if a = v then T.2.2 u b else if a = u then T.2.2 v b else T.2.2 a b) = none
    split
    · exact hT.2.2.2 _ _ (by omega)
    · split
      · exact hT.2.2.2 _ _ (by omega)
      · exact hT.2.2.2 _ _ hab
theorem rf_rem {A : ast} {s : sx_M} (hok : okA A) (hr : rfA A s) : ∃ s1, f_X12_remembers s = some s1 ∧ tabIs 59 0 A.1 s1 ∧ tabIs 70 0 A.1 s1 ∧ ∀ k, rA s1 59 k = rA s 59 k := by
  obtain ⟨s1, e1, h1⟩ := ev_rem s
  have x1 := fr_f_X12_remembers s e1
  simp only [xS_X12_remembers, xI_X12_remembers, xJ_X12_remembers, xA_X12_remembers, xB_X12_remembers] at x1
  exact ⟨s1, e1, tab_eq x1 (by first | exact fun q => q | (simp only; omega)) hr.1, tab_sh hok.1 hr.1 (fun k hk => by rw [Nat.zero_add]; exact h1 k hk), fun k => x1.2.2.1 59 k (by first | exact fun q => q | (simp only; omega))⟩
theorem t70 {T : tb} {s : sx_M} (h : tabIs 70 0 T s) {w j : Nat} (hw : w < T.1) (hj : j < T.2.1) : rA s 70 (2 + (8 * w + j)) = c32 (T.2.2 w j) := by
  have := h.2.2 w j hw hj
  rwa [show 0 + 2 + (8 * w + j) = 2 + (8 * w + j) by omega] at this
theorem t59 {T : tb} {s : sx_M} (h : tabIs 59 0 T s) {w j : Nat} (hw : w < T.1) (hj : j < T.2.1) : rA s 59 (2 + (8 * w + j)) = c32 (T.2.2 w j) := by
  have := h.2.2 w j hw hj
  rwa [show 0 + 2 + (8 * w + j) = 2 + (8 * w + j) by omega] at this
theorem d59_70 {s s' : sx_M} (h : sx_eq D59 s s') {T : tb} (ht : tabIs 70 0 T s) : tabIs 70 0 T s' := tab_eq h (by simp only [D59]; omega) ht
theorem turn_L {T : tb} {s : sx_M} (hT : tb_ok T) (h59 : tabIs 59 0 T s) (h70 : tabIs 70 0 T s) {u v : Nat} (hu : u < T.1) (hv : v < T.1) : Ev (whT (f_X12_turn_L25 (nI u) (nI v)) (nI 0, s)) (fun s' => tabIs 59 0 (turnT T u v) s' ∧ sq T.1 T.2.1 s s') := by
  have h7 := hT.1
  have h8 := hT.2.1
  have h := ev_tl (W := T.1) (J := T.2.1) (f := f_X12_turn_L25 (nI u) (nI v)) (s := s) (fun i a b => if b < i then (if a = v then iT T u b else if a = u then iT T v b else iT T a b) else iT T a b) T.2.1 (tabF_ext h59 (fun a b _ _ => by rw [if_neg (by omega)])) (fun i s1 hi h1 x1 => ?_) (fun s1 h1 => ?_)
  · refine ev_m h (fun s' hs => ⟨tabF_ext hs.1 (fun a b ha hb => ?_), hs.2⟩)
    rw [if_pos (show b < T.2.1 from hb)]
    show c32 (if a = v then T.2.2 u b else if a = u then T.2.2 v b else T.2.2 a b) = _
    split
    · rfl
    · split <;> rfl
  · have a1 := t70 (d59_70 x1 h70) hv hi
    have a2 := t70 (d59_70 x1 h70) hu hi
    have p1 := tput (w := u) h8 h1 hi (c32 (T.2.2 v i))
    have p2 := tput (w := v) h8 p1 hi (c32 (T.2.2 u i))
    have hjb : f_X12_jobs s1 = some (nI T.2.1, s1) := by
      unfold f_X12_jobs
      rw [show rA s1 59 ((1 : Int32)).toNatClampNeg = nI T.2.1 from h1.2.1]
    refine ⟨_, ?_, wA (wA s1 59 (2 + (8 * u + i)) (c32 (T.2.2 v i))) 59 (2 + (8 * v + i)) (c32 (T.2.2 u i)), rfl, tabF_ext p2 (fun a b _ _ => ?_), sq_w (sq_w (sq_rf _ _ _) hu hi _) hv hi _⟩
    · simp only [f_X12_turn_L25, hjb, Option.bind_some, f_place]
      simp (disch := omega) only [↓reduceIte, nI_lit, nI_add, pk_mul, nI_lt_T, nI_lt_F, nI_le_T, nI_le_F, nI_eq_T, nI_eq_F, nI_cl, le_F, le_T, nI_m_F, m_nI_F, nI_dn, m_lt, Option.bind_some, if_true, if_false, not_false_eq_true, not_true_eq_false, or_self, or_false, false_or, true_or, or_true, true_and, and_true, false_and, and_false, a1, a2, rA_F]
    · simp only [upI]; grind
  · have hjb : f_X12_jobs s1 = some (nI T.2.1, s1) := by
      unfold f_X12_jobs
      rw [show rA s1 59 ((1 : Int32)).toNatClampNeg = nI T.2.1 from h1.2.1]
    simp only [f_X12_turn_L25, hjb, Option.bind_some]
    simp (disch := omega) only [↓reduceIte, nI_lit, nI_add, pk_mul, nI_lt_T, nI_lt_F, nI_le_T, nI_le_F, nI_eq_T, nI_eq_F, nI_cl, le_F, le_T, nI_m_F, m_nI_F, nI_dn, m_lt, Option.bind_some, if_true, if_false, not_false_eq_true, not_true_eq_false, or_self, or_false, false_or, true_or, or_true, true_and, and_true, false_and, and_false]
theorem stp_44 : st_ok_44 Rel := by
  intro x y s ⟨A, hok, hc, hr⟩
  have h7 := hok.1.1
  have h8 := hok.1.2.1
  rcases ix_W hok.1 x with hx | ⟨u, hu, rfl⟩
  · refine st_a (f1 := f_X11_turn x y) (f2 := f_X12_turn x y) (-2) hok hc hr (fun hc => ⟨(-2, s), ?_, rfl, hc⟩) (lo_X11_turn x y) (fun s1 hr1 => ⟨(-2, s1), ?_, rfl, hr1⟩) (hi_X12_turn x y)
    · unfold f_X11_turn
      rw [hW_out hc.1 hx]; rfl
    · unfold f_X12_turn
      rw [f_isW_out hok.1 hr1.1 hx]; rfl
  rcases ix_W hok.1 y with hy | ⟨v, hv, rfl⟩
  · refine st_a (f1 := f_X11_turn (nI u) y) (f2 := f_X12_turn (nI u) y) (-2) hok hc hr (fun hc => ⟨(-2, s), ?_, rfl, hc⟩) (lo_X11_turn (nI u) y) (fun s1 hr1 => ⟨(-2, s1), ?_, rfl, hr1⟩) (hi_X12_turn (nI u) y)
    · unfold f_X11_turn
      rw [hW_in h7 hc.1 hu, Option.bind_some, if_neg n1_0, hW_out hc.1 hy]; rfl
    · unfold f_X12_turn
      rw [f_isW_in hok.1 hr1.1 hu, Option.bind_some, if_neg n1_0, f_isW_out hok.1 hr1.1 hy]; rfl
  have key : ∀ s1, rfA A s1 → ∃ s2 s3, f_X12_remembers s1 = some s2 ∧ whT (f_X12_turn_L25 (nI u) (nI v)) (0, s2) = some s3 ∧ tabIs 59 0 (turnT A.1 u v) s3 ∧ sq A.1.1 A.1.2.1 s2 s3 ∧ tabIs 59 0 A.1 s2 := by
    intro s1 hr1
    obtain ⟨s2, e2, t2, w2, _⟩ := rf_rem hok hr1
    obtain ⟨s3, e3, t3, x3⟩ := turn_L hok.1 t2 w2 hu hv
    exact ⟨s2, s3, e2, e3, t3, x3, t2⟩
  have ru : ∀ s1 s2 s3 p, rfA A s1 → f_X12_remembers s1 = some s2 → whT (f_X12_turn_L25 (nI u) (nI v)) (0, s2) = some s3 → f_X12_keeps s3 = some p → f_X12_turn (nI u) (nI v) s1 = if p.1 = 0 then some (0, p.2) else some (1, p.2) := by
    intro s1 s2 s3 p hr1 e2 e3 e4
    unfold f_X12_turn
    rw [f_isW_in hok.1 hr1.1 hu, Option.bind_some, if_neg n1_0, f_isW_in hok.1 hr1.1 hv, Option.bind_some, if_neg n1_0, e2, Option.bind_some, e3, Option.bind_some, e4, Option.bind_some]
  obtain ⟨b, hb, eb, hb1, hb0⟩ := f_same hok.1 hc.1 hu hv
  by_cases q : b = 1
  · subst q
    have hsame := hb1 rfl
    have eT : turnT A.1 u v = A.1 := by
      unfold turnT
      have : (fun a b => if a = v then A.1.2.2 u b else if a = u then A.1.2.2 v b else A.1.2.2 a b) = A.1.2.2 := by
        funext a b
        have h1 : A.1.2.2 u b = A.1.2.2 v b := by
          by_cases hbJ : b < A.1.2.1
          · exact hsame b hbJ
          · rw [hok.1.2.2.2 u b (by omega), hok.1.2.2.2 v b (by omega)]
        grind
      rw [this]
    refine st_a (f1 := f_X11_turn (nI u) (nI v)) (f2 := f_X12_turn (nI u) (nI v)) 0 hok hc hr (fun hc => ⟨(0, s), ?_, rfl, hc⟩) (lo_X11_turn (nI u) (nI v)) (fun s1 hr1 => ?_) (hi_X12_turn (nI u) (nI v))
    · unfold f_X11_turn
      rw [hW_in h7 hc.1 hu, Option.bind_some, if_neg n1_0, hW_in h7 hc.1 hv, Option.bind_some, if_neg n1_0, eb, Option.bind_some, if_neg (show ¬ nI 1 = 0 from n1_0)]
    · obtain ⟨s2, s3, e2, e3, t3, x3, t2⟩ := key s1 hr1
      rw [eT] at t3
      obtain ⟨s2', e2', _, _, h59⟩ := rf_rem hok hr1
      rw [e2] at e2'
      cases e2'
      obtain ⟨e4, h4⟩ := rf_act0 hr1 e2 x3.1 t3 (fun k hk => by rw [← h59 k]; exact sq_all x3 t2 t3 k)
      exact ⟨(0, s3), by rw [ru s1 s2 s3 _ hr1 e2 e3 e4]; rfl, rfl, h4⟩
  · have hb0 := hb0 (by omega)
    obtain ⟨j, hj, hne⟩ := hb0
    refine st_a (f1 := f_X11_turn (nI u) (nI v)) (f2 := f_X12_turn (nI u) (nI v)) (A' := (turnT A.1 u v, kp A.2.1 A.1, A.2.2)) 1 ⟨turnT_ok hok.1 hu hv, kp_ok hok.2.1 hok.1, kp_len hok.2.2.1 _, hok.2.2.2⟩ hc hr (fun hc => ?_) (lo_X11_turn (nI u) (nI v)) (fun s1 hr1 => ?_) (hi_X12_turn (nI u) (nI v))
    · have h := cl_act (T' := turnT A.1 u v) (f := f_X1_swap 3 (nI u) (nI v)) hok (turnT_ok hok.1 hu hv) hc (fun s1 h1 => ?_) (fun s1 s2 e => ?_)
      · obtain ⟨s', e, hs⟩ := h
        refine ⟨(1, s'), ?_, rfl, hs⟩
        have hb : b = 0 := by omega
        subst hb
        unfold f_X11_turn
        rw [hW_in h7 hc.1 hu, Option.bind_some, if_neg n1_0, hW_in h7 hc.1 hv, Option.bind_some, if_neg n1_0, eb, Option.bind_some, if_pos (show nI 0 = 0 from rfl)]
        obtain ⟨s1, e1, e⟩ := Option.bind_eq_some_iff.mp e
        obtain ⟨s2, e2, e⟩ := Option.bind_eq_some_iff.mp e
        rw [e1, Option.bind_some, e2, Option.bind_some, e, Option.bind_some]
      · refine ev_m (ev_swap h7 h8 h1 hu hv) (fun s2 h2 => gridF_ext h2 (fun a b _ _ => ?_))
        show c64 (if a = v then A.1.2.2 u b else if a = u then A.1.2.2 v b else A.1.2.2 a b) = _
        split
        · rfl
        · split <;> rfl
      · refine sx_mono (fr_f_X1_swap 3 (nI u) (nI v) s1 ax_G3 e) (fun o k q => q.elim) (fun o k q => q) (fun o q => q) (fun o q => q)
    · obtain ⟨s2, s3, e2, e3, t3, x3, t2⟩ := key s1 hr1
      obtain ⟨p, e4, v4, h4⟩ := rf_act hok hr1 e2 t3 x3.1 ⟨2 + (8 * u + j), by omega, by
        rw [t59 hr1.1 hu hj, t59 (T := turnT A.1 u v) t3 hu hj]
        show c32 (A.1.2.2 u j) ≠ c32 (if u = v then A.1.2.2 u j else if u = u then A.1.2.2 v j else A.1.2.2 u j)
        rw [if_neg (by intro q; subst q; exact hne rfl), if_pos rfl]
        exact fun q => hne ((c32_inj (ok_far hok.1 u j) (ok_far hok.1 v j)).mp q)⟩
      exact ⟨(1, p.2), by rw [ru s1 s2 s3 _ hr1 e2 e3 e4, v4, if_neg n1_0], rfl, h4⟩
