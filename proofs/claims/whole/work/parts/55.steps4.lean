/-! goes -/
def goW (T : tb) (o : Nat) : tb := (T.1 - 1, T.2.1, fun a b => if a < o then T.2.2 a b else T.2.2 (a + 1) b)
def goJ (T : tb) (o : Nat) : tb := (T.1, T.2.1 - 1, fun a b => if b < o then T.2.2 a b else T.2.2 a (b + 1))
theorem goW_ok {T : tb} (hT : tb_ok T) {o : Nat} (ho : o < T.1) : tb_ok (goW T o) := by
  have h7 := hT.1
  refine ⟨by show T.1 - 1 ≤ 7; omega, hT.2.1, fun a b x hx => ?_, fun a b hab => ?_⟩
  · have hx : (if a < o then T.2.2 a b else T.2.2 (a + 1) b) = some x := hx
    split at hx
    · exact hT.2.2.1 _ _ x hx
    · exact hT.2.2.1 _ _ x hx
  · have hab : ¬ (a < T.1 - 1 ∧ b < T.2.1) := hab
    show (if a < o then T.2.2 a b else T.2.2 (a + 1) b) = none
    split
    · exact hT.2.2.2 _ _ (by omega)
    · exact hT.2.2.2 _ _ (by omega)
theorem goJ_ok {T : tb} (hT : tb_ok T) {o : Nat} (ho : o < T.2.1) : tb_ok (goJ T o) := by
  have h8 := hT.2.1
  refine ⟨hT.1, by show T.2.1 - 1 ≤ 8; omega, fun a b x hx => ?_, fun a b hab => ?_⟩
  · have hx : (if b < o then T.2.2 a b else T.2.2 a (b + 1)) = some x := hx
    split at hx
    · exact hT.2.2.1 _ _ x hx
    · exact hT.2.2.1 _ _ x hx
  · have hab : ¬ (a < T.1 ∧ b < T.2.1 - 1) := hab
    show (if b < o then T.2.2 a b else T.2.2 a (b + 1)) = none
    split
    · exact hT.2.2.2 _ _ (by omega)
    · exact hT.2.2.2 _ _ (by omega)
theorem goes_J144 {s1 : sx_M} {z1 z2 : Int32} {w k b fr : Nat} (hw : w < 7) (hk : k < 8) (hb : b ≤ 1) (hfr : b = 1 → fr < 58) (hf2 : fr < 1000) : f_X12_goes_L65_J144 z1 z2 z1 z2 (nI w) (nI k) (nI b) (nI fr) s1 = some (.inl (nI (k + 1), wA s1 59 (2 + (8 * w + k)) (if b = 1 then rA s1 70 fr else 0))) := by
  unfold f_X12_goes_L65_J144
  rw [f_place, Option.bind_some]
  have hin : ¬ (nI (2 + (8 * w + k)) < 0 ∨ 58 ≤ (nI (2 + (8 * w + k))).toNatClampNeg) := by
    rw [nI_cl (by omega)]
    exact fun q => q.elim (nI_pos (by omega)) (by omega)
  by_cases h : b = 1
  · subst h
    have hin2 : ¬ (nI fr < 0 ∨ 58 ≤ (nI fr).toNatClampNeg) := by
      have := hfr rfl
      rw [nI_cl (by omega)]
      exact fun q => q.elim (nI_pos (by omega)) (by omega)
    rw [if_neg (show ¬ nI 1 = 0 from n1_0), if_pos hin2, if_pos hin, nI_1, nI_cl (by omega), nI_cl (by omega), if_pos rfl]
  · have : b = 0 := by omega
    subst this
    rw [if_pos (show nI 0 = 0 from rfl), if_pos hin, nI_1, nI_cl (by omega), if_neg (by omega)]
theorem goes_step0 {s1 : sx_M} {W' J' o w k : Nat} (hW : W' ≤ 7) (hJ : J' ≤ 8) (ho : o < 8) (h0 : rA s1 59 0 = nI W') (h1 : rA s1 59 1 = nI J') (hw : w < 7) (hk : k < 8) (hW6 : W' ≤ 6) : f_X12_goes_L65 (nI o) 0 (nI o) 0 (nI w) (nI k, s1) = some (.inl (nI (k + 1), wA s1 59 (2 + (8 * w + k)) (if w < W' ∧ k < J' then rA s1 70 (2 + (8 * (if w < o then w else w + 1) + k)) else 0))) := by
  have hwk : f_X12_workers s1 = some (nI W', s1) := by
    unfold f_X12_workers
    rw [show rA s1 59 ((0 : Int32)).toNatClampNeg = nI W' from h0]
  have hjb : f_X12_jobs s1 = some (nI J', s1) := by
    unfold f_X12_jobs
    rw [show rA s1 59 ((1 : Int32)).toNatClampNeg = nI J' from h1]
  have key : ∀ b, b ≤ 1 → (b = 1 ↔ (w < W' ∧ k < J')) → f_X12_goes_L65_J95 (nI o) 0 (nI o) 0 (nI w) (nI k) (nI b) s1 = some (.inl (nI (k + 1), wA s1 59 (2 + (8 * w + k)) (if w < W' ∧ k < J' then rA s1 70 (2 + (8 * (if w < o then w else w + 1) + k)) else 0))) := by
    intro b hb hbi
    unfold f_X12_goes_L65_J95 f_X12_goes_L65_J116
    rw [if_pos rfl]
    have hif : (if w < W' ∧ k < J' then rA s1 70 (2 + (8 * (if w < o then w else w + 1) + k)) else 0) = (if b = 1 then rA s1 70 (2 + (8 * (if w < o then w else w + 1) + k)) else 0) := by
      by_cases q : b = 1
      · rw [if_pos q, if_pos (hbi.mp q)]
      · rw [if_neg q, if_neg (fun z => q (hbi.mpr z))]
    rw [hif]
    by_cases q : w < o
    · rw [if_neg (nI_ge q (by omega)), f_place, Option.bind_some, if_pos q]
      exact goes_J144 hw hk hb (fun z => by have := hbi.mp z; omega) (by omega)
    · rw [if_pos (nI_le (by omega) (by omega)), nI_1, f_place, Option.bind_some, if_neg q]
      exact goes_J144 hw hk hb (fun z => by have := hbi.mp z; omega) (by omega)
  have k0 := key 0 (by omega)
  have k1 := key 1 (by omega)
  simp only [f_X12_goes_L65]
  rw [if_neg (show ¬ (8 : Int32) ≤ nI k from nI_ge (b := 8) hk (by omega)), hwk, Option.bind_some]
  by_cases q : W' ≤ w
  · rw [if_pos (nI_le q (by omega))]
    exact k0 (by omega)
  · rw [if_neg (nI_ge (by omega) (by omega)), hjb, Option.bind_some]
    by_cases q2 : J' ≤ k
    · rw [if_pos (nI_le q2 (by omega))]
      exact k0 (by omega)
    · rw [if_neg (nI_ge (by omega) (by omega))]
      exact k1 (by omega)
theorem goes_step1 {s1 : sx_M} {W' J' o w k : Nat} (hW : W' ≤ 7) (hJ : J' ≤ 7) (ho : o < 8) (h0 : rA s1 59 0 = nI W') (h1 : rA s1 59 1 = nI J') (hw : w < 7) (hk : k < 8) : f_X12_goes_L65 (nI o) 1 (nI o) 1 (nI w) (nI k, s1) = some (.inl (nI (k + 1), wA s1 59 (2 + (8 * w + k)) (if w < W' ∧ k < J' then rA s1 70 (2 + (8 * w + (if k < o then k else k + 1))) else 0))) := by
  have hwk : f_X12_workers s1 = some (nI W', s1) := by
    unfold f_X12_workers
    rw [show rA s1 59 ((0 : Int32)).toNatClampNeg = nI W' from h0]
  have hjb : f_X12_jobs s1 = some (nI J', s1) := by
    unfold f_X12_jobs
    rw [show rA s1 59 ((1 : Int32)).toNatClampNeg = nI J' from h1]
  have key : ∀ b, b ≤ 1 → (b = 1 ↔ (w < W' ∧ k < J')) → f_X12_goes_L65_J95 (nI o) 1 (nI o) 1 (nI w) (nI k) (nI b) s1 = some (.inl (nI (k + 1), wA s1 59 (2 + (8 * w + k)) (if w < W' ∧ k < J' then rA s1 70 (2 + (8 * w + (if k < o then k else k + 1))) else 0))) := by
    intro b hb hbi
    unfold f_X12_goes_L65_J95 f_X12_goes_L65_J141
    rw [if_neg n1_0]
    have hif : (if w < W' ∧ k < J' then rA s1 70 (2 + (8 * w + (if k < o then k else k + 1))) else 0) = (if b = 1 then rA s1 70 (2 + (8 * w + (if k < o then k else k + 1))) else 0) := by
      by_cases q : b = 1
      · rw [if_pos q, if_pos (hbi.mp q)]
      · rw [if_neg q, if_neg (fun z => q (hbi.mpr z))]
    rw [hif]
    by_cases q : k < o
    · rw [if_neg (nI_ge q (by omega)), f_place, Option.bind_some, if_pos q]
      exact goes_J144 hw hk hb (fun z => by have := hbi.mp z; omega) (by omega)
    · rw [if_pos (nI_le (by omega) (by omega)), nI_1, f_place, Option.bind_some, if_neg q]
      exact goes_J144 hw hk hb (fun z => by have := hbi.mp z; omega) (by omega)
  have k0 := key 0 (by omega)
  have k1 := key 1 (by omega)
  simp only [f_X12_goes_L65]
  rw [if_neg (show ¬ (8 : Int32) ≤ nI k from nI_ge (b := 8) hk (by omega)), hwk, Option.bind_some]
  by_cases q : W' ≤ w
  · rw [if_pos (nI_le q (by omega))]
    exact k0 (by omega)
  · rw [if_neg (nI_ge (by omega) (by omega)), hjb, Option.bind_some]
    by_cases q2 : J' ≤ k
    · rw [if_pos (nI_le q2 (by omega))]
      exact k0 (by omega)
    · rw [if_neg (nI_ge (by omega) (by omega))]
      exact k1 (by omega)
theorem goes_L {z : Int32} {o W' J' : Nat} {F : Nat → Nat → Int32} {s0 : sx_M} (hW : W' ≤ 7) (hJ : J' ≤ 8) (i0 : rA s0 59 0 = nI W') (i1 : rA s0 59 1 = nI J') (H : ∀ w k s1, w < 7 → k < 8 → rA s1 59 0 = nI W' → rA s1 59 1 = nI J' → sx_eq D59 s0 s1 → ∃ v, f_X12_goes_L65 (nI o) z (nI o) z (nI w) (nI k, s1) = some (.inl (nI (k + 1), wA s1 59 (2 + (8 * w + k)) v)) ∧ (w < W' → k < J' → v = F w k)) : Ev (whT (f_X12_goes_L55 (nI o) z) (0, s0)) (fun s' => tabF 59 0 W' J' F s' ∧ sx_eq D59 s0 s') := by
  refine ev_f (fun i a => a.1 = nI i ∧ rA a.2 59 0 = nI W' ∧ rA a.2 59 1 = nI J' ∧ (∀ w j, w < i → w < W' → j < J' → rA a.2 59 (2 + (8 * w + j)) = F w j) ∧ sx_eq D59 s0 a.2) 7 ?_ ?_ (i := 0) (by omega) ⟨rfl, i0, i1, fun w j q => by omega, sx_rf _ _⟩
  · rintro i ⟨a1, s1⟩ hi ⟨e1, h0, h1, h2, h3⟩
    simp only at e1 h0 h1 h2 h3
    subst e1
    have hin : Ev (whT (f_X12_goes_L65 (nI o) z (nI o) z (nI i)) (0, s1)) (fun s' => rA s' 59 0 = nI W' ∧ rA s' 59 1 = nI J' ∧ (∀ w j, w < i + 1 → w < W' → j < J' → rA s' 59 (2 + (8 * w + j)) = F w j) ∧ sx_eq D59 s0 s') := by
      refine ev_f (fun k a => a.1 = nI k ∧ rA a.2 59 0 = nI W' ∧ rA a.2 59 1 = nI J' ∧ (∀ w j, (w < i ∨ (w = i ∧ j < k)) → w < W' → j < J' → rA a.2 59 (2 + (8 * w + j)) = F w j) ∧ sx_eq D59 s0 a.2) 8 ?_ ?_ (i := 0) (by omega) ⟨rfl, h0, h1, fun w j q => h2 w j (by omega), h3⟩
      · rintro k ⟨a1, s2⟩ hk ⟨e1, g0, g1, g2, g3⟩
        simp only at e1 g0 g1 g2 g3
        subst e1
        obtain ⟨v, ev, hv⟩ := H i k s2 hi hk g0 g1 g3
        refine ⟨_, ev, rfl, ?_, ?_, fun w j q hw hj => ?_, sx_wA' g3 rfl⟩
        · rw [rA_F (by omega)]; exact g0
        · rw [rA_F (by omega)]; exact g1
        · by_cases q2 : w = i ∧ j = k
          · rw [q2.1, q2.2, rA_T ⟨rfl, rfl⟩]
            exact hv (by omega) (by omega)
          · rw [rA_F (by omega)]; exact g2 w j (by omega) hw hj
      · rintro ⟨a1, s2⟩ ⟨e1, g0, g1, g2, g3⟩
        simp only at e1 g0 g1 g2 g3
        subst e1
        refine ⟨.inr s2, ?_, g0, g1, fun w j q hw hj => g2 w j (by omega) hw hj, g3⟩
        simp only [f_X12_goes_L65]
        rw [if_pos (show (8 : Int32) ≤ nI 8 by decide)]
    obtain ⟨s2, e2, g0, g1, g2, g3⟩ := hin
    refine ⟨.inl (nI (i + 1), s2), ?_, rfl, g0, g1, g2, g3⟩
    simp only [f_X12_goes_L55]
    rw [if_neg (show ¬ (7 : Int32) ≤ nI i from nI_ge (b := 7) hi (by omega)), e2, Option.bind_some, nI_1]
  · rintro ⟨a1, s1⟩ ⟨e1, h0, h1, h2, h3⟩
    simp only at e1 h0 h1 h2 h3
    subst e1
    refine ⟨.inr s1, ?_, ⟨h0, h1, fun w j hw hj => ?_⟩, h3⟩
    · simp only [f_X12_goes_L55]
      rw [if_pos (show (7 : Int32) ≤ nI 7 by decide)]
    · rw [show 0 + 2 + (8 * w + j) = 2 + (8 * w + j) by omega]
      exact h2 w j (by omega) hw hj
theorem rf_go {A : ast} {T' : tb} {s : sx_M} (hok : okA A) (hr : rfA A s) {x y : Int32} {k W' : Nat} (hk : k ≤ 1) (hy : y = nI k) (hn : rA s 59 k = nI (W' + 1)) (hT' : rA s 59 k ≠ nI W') (hL : ∀ s1, tabIs 70 0 A.1 s1 → tabIs 59 0 A.1 s1 → Ev (whT (f_X12_goes_L55 x y) (0, wA s1 59 k (nI W'))) (fun s' => tabIs 59 0 T' s' ∧ sx_eq D59 (wA s1 59 k (nI W')) s')) (hv : ∀ s', tabIs 59 0 T' s' → rA s' 59 k = nI W') : Ev (f_X12_goes_J30 x y 1 s) (fun p => p.1 = nI W' ∧ rfA (T', kp A.2.1 A.1, A.2.2) p.2) := by
  obtain ⟨s2, e2, t2, w2, h59⟩ := rf_rem hok hr
  obtain ⟨s3, e3, t3, x3⟩ := hL s2 w2 t2
  obtain ⟨p, e4, v4, h4⟩ := rf_act hok hr e2 t3 (sx_tr (sx_wA' (sx_rf _ _) rfl) x3) ⟨k, by omega, by rw [hv s3 t3]; exact hT'⟩
  refine ⟨(nI W', p.2), ?_, rfl, h4⟩
  have hin : ¬ (y < 0 ∨ 58 ≤ y.toNatClampNeg) := by
    rw [hy, nI_cl (by omega)]
    exact fun q => q.elim (nI_pos (by omega)) (by omega)
  have hcl : y.toNatClampNeg = k := by rw [hy, nI_cl (by omega)]
  have hnn : rA s2 59 k - (1 : Int32) = nI W' := by rw [h59, hn]; exact nI_pred _
  unfold f_X12_goes_J30
  rw [if_neg n1_0, e2, Option.bind_some, if_pos hin, if_pos hin, hcl, hnn, e3, Option.bind_some, e4, Option.bind_some, if_pos (show ¬ (y < 0 ∨ 58 ≤ k) by rw [← hcl]; exact hin), hv p.2 h4.1]
/-- a worker or a job that is there, or none such: both sides -/
theorem ix_L {A : ast} (hok : okA A) (x y : Int32) : (∃ w, w < A.1.1 ∧ x = nI w ∧ y = 0) ∨ (∃ j, j < A.1.2.1 ∧ x = nI j ∧ y = 1) ∨ ((∀ s, clA A s → f_X1_hasLine 3 x y s = some (0, s)) ∧ (y = 0 → x < 0 ∨ nI A.1.1 ≤ x) ∧ (y = 1 → x < 0 ∨ nI A.1.2.1 ≤ x)) := by
  by_cases h0 : y = 0
  · subst h0
    rcases ix_W hok.1 x with hx | ⟨w, hw, rfl⟩
    · refine Or.inr (Or.inr ⟨fun s hc => ?_, fun _ => hx, fun q => absurd q.symm n1_0⟩)
      unfold f_X1_hasLine f_X11_isKind f_X1_howMany
      rw [if_pos rfl, Option.bind_some, if_neg n1_0]
      by_cases h1 : x < 0
      · rw [if_pos h1]
      · rw [if_neg h1, if_pos rfl, Option.bind_some]
        simp only [hc.1.1]
        rw [if_pos (hx.resolve_left h1)]
    · exact Or.inl ⟨w, hw, rfl, rfl⟩
  · by_cases h1 : y = 1
    · subst h1
      rcases ix_J hok.1 x with hx | ⟨w, hw, rfl⟩
      · refine Or.inr (Or.inr ⟨fun s hc => ?_, fun q => absurd q n1_0, fun _ => hx⟩)
        unfold f_X1_hasLine f_X11_isKind f_X1_howMany
        rw [if_neg n1_0, if_pos rfl, Option.bind_some, if_neg n1_0]
        by_cases h1 : x < 0
        · rw [if_pos h1]
        · rw [if_neg h1, if_neg n1_0, Option.bind_some]
          simp only [hc.1.2.1]
          rw [if_pos (hx.resolve_left h1)]
      · exact Or.inr (Or.inl ⟨w, hw, rfl, rfl⟩)
    · refine Or.inr (Or.inr ⟨fun s hc => ?_, fun q => absurd q h0, fun q => absurd q h1⟩)
      unfold f_X1_hasLine f_X11_isKind
      rw [if_neg h0, if_neg h1]; rfl
theorem hl_W {A : ast} {s : sx_M} (hok : okA A) (hc : clA A s) {w : Nat} (hw : w < A.1.1) : f_X1_hasLine 3 (nI w) 0 s = some (1, s) := by
  have := hok.1.1
  unfold f_X1_hasLine f_X11_isKind f_X1_howMany
  rw [if_pos rfl, Option.bind_some, if_neg n1_0, if_neg (nI_pos (by omega)), if_pos rfl, Option.bind_some]
  simp only [hc.1.1]
  rw [if_neg (nI_ge hw (by omega))]
theorem hl_J {A : ast} {s : sx_M} (hok : okA A) (hc : clA A s) {w : Nat} (hw : w < A.1.2.1) : f_X1_hasLine 3 (nI w) 1 s = some (1, s) := by
  have := hok.1.2.1
  unfold f_X1_hasLine f_X11_isKind f_X1_howMany
  rw [if_neg n1_0, if_pos rfl, Option.bind_some, if_neg n1_0, if_neg (nI_pos (by omega)), if_neg n1_0, Option.bind_some]
  simp only [hc.1.2.1]
  rw [if_neg (nI_ge hw (by omega))]
theorem stp_43 : st_ok_43 Rel := by
  intro x y s ⟨A, hok, hc, hr⟩
  have h7 := hok.1.1
  have h8 := hok.1.2.1
  rcases ix_L hok x y with ⟨w, hw, rfl, rfl⟩ | ⟨j, hj, rfl, rfl⟩ | ⟨hx, hy0, hy1⟩
  · refine st_a (f1 := f_X11_goes (nI w) 0) (f2 := f_X12_goes (nI w) 0) (A' := (goW A.1 w, kp A.2.1 A.1, A.2.2)) (nI (A.1.1 - 1)) ⟨goW_ok hok.1 hw, kp_ok hok.2.1 hok.1, kp_len hok.2.2.1 _, hok.2.2.2⟩ hc hr (fun hc => ?_) (lo_X11_goes (nI w) 0) (fun s1 hr1 => ?_) (hi_X12_goes (nI w) 0)
    · have h := cl_act (T' := goW A.1 w) (f := f_X1_dropWorker 3 (nI w)) hok (goW_ok hok.1 hw) hc (fun s1 h1 => ?_) (fun s1 s2 e => ?_)
      · obtain ⟨s', e, hs⟩ := h
        refine ⟨(nI (A.1.1 - 1), s'), ?_, rfl, hs⟩
        obtain ⟨s1, e1, e⟩ := Option.bind_eq_some_iff.mp e
        obtain ⟨s2, e2, e⟩ := Option.bind_eq_some_iff.mp e
        unfold f_X11_goes f_X11_goes_J49 f_X1_howMany
        rw [hl_W hok hc hw, Option.bind_some, if_neg n1_0, e1, Option.bind_some, if_pos rfl, e2, Option.bind_some, e, Option.bind_some, if_pos rfl, Option.bind_some, hs.1.1]; rfl
      · refine ev_m (ev_dropWorker h7 h8 h1 hw) (fun s2 h2 => gridF_ext h2 (fun a b ha hb => ?_))
        show c64 (if a < w then A.1.2.2 a b else A.1.2.2 (a + 1) b) = _
        split <;> rfl
      · refine sx_mono (fr_f_X1_dropWorker 3 (nI w) s1 ax_G3 e) (fun o k q => ?_) (fun o k q => q) (fun o q => q) (fun o q => q)
        simp only at q ⊢; omega
    · unfold f_X12_goes
      rw [if_pos rfl, f_isW_in hok.1 hr1.1 hw, Option.bind_some, if_neg n1_0]
      refine rf_go (k := 0) hok hr1 (by omega) rfl (by rw [hr1.1.1, show A.1.1 - 1 + 1 = A.1.1 by omega]) (by rw [hr1.1.1]; exact fun q => absurd ((nI_eq (by omega) (by omega)).mp q) (by omega)) (fun s2 h70 h59 => ?_) (fun s' h => h.1)
      refine goes_L (W' := A.1.1 - 1) (J' := A.1.2.1) (by omega) h8 (rA_T ⟨rfl, rfl⟩) (by rw [rA_F (by omega)]; exact h59.2.1) (fun u k s3 hu hk g0 g1 g3 => ⟨_, goes_step0 (by omega) h8 (by omega) g0 g1 hu hk (by omega), fun q1 q2 => ?_⟩)
      rw [if_pos ⟨q1, q2⟩]
      have h70' : tabIs 70 0 A.1 s3 := d59_70 (sx_tr (sx_wA' (sx_rf _ _) rfl) g3) h70
      show _ = c32 (if u < w then A.1.2.2 u k else A.1.2.2 (u + 1) k)
      by_cases q : u < w
      · rw [if_pos q, if_pos q, t70 h70' (by omega) q2]
      · rw [if_neg q, if_neg q, t70 h70' (by omega) q2]
  · refine st_a (f1 := f_X11_goes (nI j) 1) (f2 := f_X12_goes (nI j) 1) (A' := (goJ A.1 j, kp A.2.1 A.1, A.2.2)) (nI (A.1.2.1 - 1)) ⟨goJ_ok hok.1 hj, kp_ok hok.2.1 hok.1, kp_len hok.2.2.1 _, hok.2.2.2⟩ hc hr (fun hc => ?_) (lo_X11_goes (nI j) 1) (fun s1 hr1 => ?_) (hi_X12_goes (nI j) 1)
    · have h := cl_act (T' := goJ A.1 j) (f := f_X1_dropJob 3 (nI j)) hok (goJ_ok hok.1 hj) hc (fun s1 h1 => ?_) (fun s1 s2 e => ?_)
      · obtain ⟨s', e, hs⟩ := h
        refine ⟨(nI (A.1.2.1 - 1), s'), ?_, rfl, hs⟩
        obtain ⟨s1, e1, e⟩ := Option.bind_eq_some_iff.mp e
        obtain ⟨s2, e2, e⟩ := Option.bind_eq_some_iff.mp e
        unfold f_X11_goes f_X11_goes_J49 f_X1_howMany
        rw [hl_J hok hc hj, Option.bind_some, if_neg n1_0, e1, Option.bind_some, if_neg n1_0, e2, Option.bind_some, e, Option.bind_some, if_neg n1_0, Option.bind_some, hs.1.2.1]; rfl
      · refine ev_m (ev_dropJob h7 h8 h1 hj) (fun s2 h2 => gridF_ext h2 (fun a b ha hb => ?_))
        show c64 (if b < j then A.1.2.2 a b else A.1.2.2 a (b + 1)) = _
        split <;> rfl
      · refine sx_mono (fr_f_X1_dropJob 3 (nI j) s1 ax_G3 e) (fun o k q => ?_) (fun o k q => q) (fun o q => q) (fun o q => q)
        simp only at q ⊢; omega
    · unfold f_X12_goes f_X12_goes_J12
      rw [if_neg n1_0, if_pos rfl, f_isJ_in hok.1 hr1.1 hj, Option.bind_some, if_neg n1_0]
      refine rf_go (k := 1) hok hr1 (by omega) rfl (by rw [hr1.1.2.1, show A.1.2.1 - 1 + 1 = A.1.2.1 by omega]) (by rw [hr1.1.2.1]; exact fun q => absurd ((nI_eq (by omega) (by omega)).mp q) (by omega)) (fun s2 h70 h59 => ?_) (fun s' h => h.2.1)
      refine goes_L (W' := A.1.1) (J' := A.1.2.1 - 1) h7 (by omega) (by rw [rA_F (by omega)]; exact h59.1) (rA_T ⟨rfl, rfl⟩) (fun u k s3 hu hk g0 g1 g3 => ⟨_, goes_step1 h7 (by omega) (by omega) g0 g1 hu hk, fun q1 q2 => ?_⟩)
      rw [if_pos ⟨q1, q2⟩]
      have h70' : tabIs 70 0 A.1 s3 := d59_70 (sx_tr (sx_wA' (sx_rf _ _) rfl) g3) h70
      show _ = c32 (if k < j then A.1.2.2 u k else A.1.2.2 u (k + 1))
      by_cases q : k < j
      · rw [if_pos q, if_pos q, t70 h70' q1 (by omega)]
      · rw [if_neg q, if_neg q, t70 h70' q1 (by omega)]
  · refine ⟨(-2, s), (-2, s), ?_, ?_, rfl, A, hok, hc, hr⟩
    · unfold f_X11_goes
      rw [hx s hc]; rfl
    · unfold f_X12_goes f_X12_goes_J12 f_X12_goes_J30
      by_cases h0 : y = 0
      · rw [if_pos h0, f_isW_out hok.1 hr.1 (hy0 h0), Option.bind_some, if_pos rfl, if_neg (by rw [h0]; exact fun q => n1_0 q.symm), if_pos rfl]
      · rw [if_neg h0]
        by_cases h1 : y = 1
        · rw [if_pos h1, f_isJ_out hok.1 hr.1 (hy1 h1), Option.bind_some, if_pos rfl, if_pos rfl]
        · rw [if_neg h1, if_pos rfl]
