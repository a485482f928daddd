/-! tilts -/
theorem i32_64 (v : Int32) : v.toInt64 = jJ v.toInt := by
  apply Int64.toInt_inj.mp
  have h1 := Int32.le_toInt v
  have h2 := Int32.toInt_lt v
  rw [Int32.toInt_toInt64, jJ_toInt (by omega) (by omega)]
theorem v_bd (v : Int32) : -3000000000 ≤ v.toInt ∧ v.toInt ≤ 3000000000 := by
  have h1 := Int32.le_toInt v
  have h2 := Int32.toInt_lt v
  omega
theorem rt_chk0 {T : tb} {s : sx_M} (hT : tb_ok T) (hg : tabIs 59 0 T s) {o : Nat} (ho : o < T.1) (v : Int32) : (whT (f_X12_tilts_L60 (nI o) v 0 (nI T.2.1)) (0, s) = some (.inl s) ∧ tlO (ln T 0 o) v.toInt T.2.1) ∨ (whT (f_X12_tilts_L60 (nI o) v 0 (nI T.2.1)) (0, s) = some (.inr (-5, s)) ∧ ¬ tlO (ln T 0 o) v.toInt T.2.1) := by
  have h7 := hT.1
  have h8 := hT.2.1
  have hV := v_bd v
  have : Ev (whT (f_X12_tilts_L60 (nI o) v 0 (nI T.2.1)) (0, s)) (fun r => (r = .inl s ∧ tlO (ln T 0 o) v.toInt T.2.1) ∨ (r = .inr (-5, s) ∧ ¬ tlO (ln T 0 o) v.toInt T.2.1)) := by
    refine ev_f (fun i a => a = (nI i, s) ∧ tlO (ln T 0 o) v.toInt i) T.2.1 ?_ ?_ (i := 0) (by omega) ⟨rfl, fun j x hj => by omega⟩
    · rintro i a hi ⟨rfl, h⟩
      have hco := f_cost_in hT hg (w := o) (j := i) (by omega) (by omega)
      have hln : ln T 0 o i = T.2.2 o i := rfl
      simp only [f_X12_tilts_L60, f_X12_tilts_L60_J88]
      rw [if_neg (nI_ge hi (by omega)), if_pos trivial, bnd hco]
      cases hh : T.2.2 o i with
      | none =>
        refine ⟨.inl (nI (i + 1), s), by rw [if_pos c32_n, nI_1], rfl, fun j x hj hx => ?_⟩
        by_cases q : j = i
        · rw [q, hln, hh] at hx; cases hx
        · exact h j x (by omega) hx
      | some x =>
        have hb := hT.2.2.1 _ _ x hh
        have hic := isc2 (y := x + v.toInt) (by omega) (by omega) s
        rw [c32_s, if_neg (of_eq_false (inv_F (by omega) (by omega))), iI_64 (by omega) (by omega), i32_64, jJ_add, bnd hic]
        by_cases q : -9999 ≤ x + v.toInt ∧ x + v.toInt ≤ 9999
        · refine ⟨.inl (nI (i + 1), s), by rw [if_pos q, if_neg (show ¬ nI 1 = 0 from n1_0), nI_1], rfl, fun j y hj hy => ?_⟩
          by_cases q2 : j = i
          · rw [q2, hln, hh] at hy; cases hy; exact q
          · exact h j y (by omega) hy
        · refine ⟨.inr (.inr (-5, s)), by rw [if_neg q, if_pos (show nI 0 = 0 from rfl)], Or.inr ⟨rfl, fun z => q (z i x hi (by rw [hln]; exact hh))⟩⟩
    · rintro a ⟨rfl, h⟩
      refine ⟨.inr (.inl s), ?_, Or.inl ⟨rfl, h⟩⟩
      simp only [f_X12_tilts_L60]
      rw [if_pos (nI_le (Nat.le_refl _) (by omega))]
  obtain ⟨r, e, ⟨rfl, h⟩ | ⟨rfl, h⟩⟩ := this
  · exact Or.inl ⟨e, h⟩
  · exact Or.inr ⟨e, h⟩
theorem rt_do0 {T : tb} {s : sx_M} (hT : tb_ok T) (hg : tabIs 59 0 T s) {o : Nat} (ho : o < T.1) (v : Int32) : Ev (whT (f_X12_tilts_L128 (nI o) v 0 (nI T.2.1)) (0, 0, s)) (fun r => r.1 = nI (cnO (ln T 0 o) T.2.1) ∧ tabIs 59 0 (tltT T 0 o v.toInt) r.2 ∧ sq T.1 T.2.1 s r.2) := by
  have h7 := hT.1
  have h8 := hT.2.1
  have h0 : tabF 59 0 T.1 T.2.1 (fun a b => if a = o ∧ b < 0 then c32 ((T.2.2 a b).map (fun x => x + v.toInt)) else c32 (T.2.2 a b)) s := tabF_ext (tabF_T.mp hg) (fun a b _ _ => by rw [if_neg (by omega)])
  refine ev_f (fun i a => a.1 = nI (cnO (ln T 0 o) i) ∧ a.2.1 = nI i ∧ tabF 59 0 T.1 T.2.1 (fun a b => if a = o ∧ b < i then c32 ((T.2.2 a b).map (fun x => x + v.toInt)) else c32 (T.2.2 a b)) a.2.2 ∧ sq T.1 T.2.1 s a.2.2) T.2.1 ?_ ?_ (i := 0) (by omega) ⟨rfl, rfl, h0, sq_rf _ _ _⟩
  · rintro i ⟨a1, a2, s1⟩ hi ⟨e1, e2, h1, h2⟩
    simp only at e1 e2 h1 h2
    subst e1 e2
    have hcell := h1.2.2 o i (by omega) (by omega)
    simp only at hcell
    rw [if_neg (by omega), show 0 + 2 + (8 * o + i) = 2 + (8 * o + i) by omega] at hcell
    have hin : ¬ (nI (2 + (8 * o + i)) < 0 ∨ 58 ≤ (nI (2 + (8 * o + i))).toNatClampNeg) := by
      rw [nI_cl (by omega)]
      exact fun q => q.elim (nI_pos (by omega)) (by omega)
    have hln : ln T 0 o i = T.2.2 o i := rfl
    simp only [f_X12_tilts_L128, f_X12_tilts_L128_J154, cnO]
    rw [if_neg (nI_ge hi (by omega)), if_pos trivial, f_place, Option.bind_some, if_pos hin, nI_cl (by omega), hcell, hln]
    cases hh : T.2.2 o i with
    | none =>
      refine ⟨.inl (nI (cnO (ln T 0 o) i + (if (none : Option Int).isSome then 1 else 0)), nI (i + 1), s1), ?_, rfl, rfl, tabF_ext h1 (fun a b _ _ => ?_), h2⟩
      · rw [if_pos c32_n, nI_1]; rfl
      · by_cases q : a = o ∧ b = i
        · rw [q.1, q.2, hh, if_pos (by omega), if_neg (by omega)]; rfl
        · by_cases q2 : a = o ∧ b < i
          · rw [if_pos (by omega), if_pos q2]
          · rw [if_neg (by omega), if_neg q2]
    | some x =>
      have hb := hT.2.2.1 _ _ x hh
      have hin' : ¬ (nI (2 + (8 * o + i)) < 0 ∨ 58 ≤ 2 + (8 * o + i)) := fun q => q.elim (nI_pos (by omega)) (by omega)
      refine ⟨.inl (nI (cnO (ln T 0 o) i + (if (some x).isSome then 1 else 0)), nI (i + 1), wA s1 59 (2 + (8 * o + i)) (c32 (some (x + v.toInt)))), ?_, rfl, rfl, tabF_ext (tput (w := o) h8 h1 (by omega) (c32 (some (x + v.toInt)))) (fun a b _ _ => ?_), sq_w h2 (by omega) (by omega) _⟩
      · have e3 : iI x + v = c32 (some (x + v.toInt)) := by rw [c32_s, ← iI_add, ← iI_of]
        rw [c32_s, if_neg (of_eq_false (inv_F (by omega) (by omega))), if_pos hin', if_pos hin', nI_1, nI_1, e3]; rfl
      · simp only [upI]
        by_cases q : a = o ∧ b = i
        · rw [q.1, q.2, hh, if_pos (by omega), if_pos ⟨rfl, rfl⟩]; rfl
        · rw [if_neg q]
          by_cases q2 : a = o ∧ b < i
          · rw [if_pos (by omega), if_pos q2]
          · rw [if_neg (by omega), if_neg q2]
  · rintro ⟨a1, a2, s1⟩ ⟨e1, e2, h1, h2⟩
    simp only at e1 e2 h1 h2
    subst e1 e2
    refine ⟨.inr (nI (cnO (ln T 0 o) T.2.1), s1), ?_, rfl, tabF_ext h1 (fun a b ha hb => ?_), h2⟩
    · simp only [f_X12_tilts_L128]
      rw [if_pos (nI_le (Nat.le_refl _) (by omega))]
    · have ha : a < T.1 := ha
      have hb : b < T.2.1 := hb
      show c32 (if (0 = 0 ∧ a = o) ∨ (0 = 1 ∧ b = o) then (T.2.2 a b).map (fun x => x + v.toInt) else T.2.2 a b) = _
      by_cases q : a = o
      · rw [if_pos (by omega), if_pos (by omega)]
      · rw [if_neg (by omega), if_neg (by omega)]
theorem rt_chk1 {T : tb} {s : sx_M} (hT : tb_ok T) (hg : tabIs 59 0 T s) {o : Nat} (ho : o < T.2.1) (v : Int32) : (whT (f_X12_tilts_L60 (nI o) v 1 (nI T.1)) (0, s) = some (.inl s) ∧ tlO (ln T 1 o) v.toInt T.1) ∨ (whT (f_X12_tilts_L60 (nI o) v 1 (nI T.1)) (0, s) = some (.inr (-5, s)) ∧ ¬ tlO (ln T 1 o) v.toInt T.1) := by
  have h7 := hT.1
  have h8 := hT.2.1
  have hV := v_bd v
  have : Ev (whT (f_X12_tilts_L60 (nI o) v 1 (nI T.1)) (0, s)) (fun r => (r = .inl s ∧ tlO (ln T 1 o) v.toInt T.1) ∨ (r = .inr (-5, s) ∧ ¬ tlO (ln T 1 o) v.toInt T.1)) := by
    refine ev_f (fun i a => a = (nI i, s) ∧ tlO (ln T 1 o) v.toInt i) T.1 ?_ ?_ (i := 0) (by omega) ⟨rfl, fun j x hj => by omega⟩
    · rintro i a hi ⟨rfl, h⟩
      have hco := f_cost_in hT hg (w := i) (j := o) (by omega) (by omega)
      have hln : ln T 1 o i = T.2.2 i o := rfl
      simp only [f_X12_tilts_L60, f_X12_tilts_L60_J88]
      rw [if_neg (nI_ge hi (by omega)), if_neg n1_0, bnd hco]
      cases hh : T.2.2 i o with
      | none =>
        refine ⟨.inl (nI (i + 1), s), by rw [if_pos c32_n, nI_1], rfl, fun j x hj hx => ?_⟩
        by_cases q : j = i
        · rw [q, hln, hh] at hx; cases hx
        · exact h j x (by omega) hx
      | some x =>
        have hb := hT.2.2.1 _ _ x hh
        have hic := isc2 (y := x + v.toInt) (by omega) (by omega) s
        rw [c32_s, if_neg (of_eq_false (inv_F (by omega) (by omega))), iI_64 (by omega) (by omega), i32_64, jJ_add, bnd hic]
        by_cases q : -9999 ≤ x + v.toInt ∧ x + v.toInt ≤ 9999
        · refine ⟨.inl (nI (i + 1), s), by rw [if_pos q, if_neg (show ¬ nI 1 = 0 from n1_0), nI_1], rfl, fun j y hj hy => ?_⟩
          by_cases q2 : j = i
          · rw [q2, hln, hh] at hy; cases hy; exact q
          · exact h j y (by omega) hy
        · refine ⟨.inr (.inr (-5, s)), by rw [if_neg q, if_pos (show nI 0 = 0 from rfl)], Or.inr ⟨rfl, fun z => q (z i x hi (by rw [hln]; exact hh))⟩⟩
    · rintro a ⟨rfl, h⟩
      refine ⟨.inr (.inl s), ?_, Or.inl ⟨rfl, h⟩⟩
      simp only [f_X12_tilts_L60]
      rw [if_pos (nI_le (Nat.le_refl _) (by omega))]
  obtain ⟨r, e, ⟨rfl, h⟩ | ⟨rfl, h⟩⟩ := this
  · exact Or.inl ⟨e, h⟩
  · exact Or.inr ⟨e, h⟩
theorem rt_do1 {T : tb} {s : sx_M} (hT : tb_ok T) (hg : tabIs 59 0 T s) {o : Nat} (ho : o < T.2.1) (v : Int32) : Ev (whT (f_X12_tilts_L128 (nI o) v 1 (nI T.1)) (0, 0, s)) (fun r => r.1 = nI (cnO (ln T 1 o) T.1) ∧ tabIs 59 0 (tltT T 1 o v.toInt) r.2 ∧ sq T.1 T.2.1 s r.2) := by
  have h7 := hT.1
  have h8 := hT.2.1
  have h0 : tabF 59 0 T.1 T.2.1 (fun a b => if b = o ∧ a < 0 then c32 ((T.2.2 a b).map (fun x => x + v.toInt)) else c32 (T.2.2 a b)) s := tabF_ext (tabF_T.mp hg) (fun a b _ _ => by rw [if_neg (by omega)])
  refine ev_f (fun i a => a.1 = nI (cnO (ln T 1 o) i) ∧ a.2.1 = nI i ∧ tabF 59 0 T.1 T.2.1 (fun a b => if b = o ∧ a < i then c32 ((T.2.2 a b).map (fun x => x + v.toInt)) else c32 (T.2.2 a b)) a.2.2 ∧ sq T.1 T.2.1 s a.2.2) T.1 ?_ ?_ (i := 0) (by omega) ⟨rfl, rfl, h0, sq_rf _ _ _⟩
  · rintro i ⟨a1, a2, s1⟩ hi ⟨e1, e2, h1, h2⟩
    simp only at e1 e2 h1 h2
    subst e1 e2
    have hcell := h1.2.2 i o (by omega) (by omega)
    simp only at hcell
    rw [if_neg (by omega), show 0 + 2 + (8 * i + o) = 2 + (8 * i + o) by omega] at hcell
    have hin : ¬ (nI (2 + (8 * i + o)) < 0 ∨ 58 ≤ (nI (2 + (8 * i + o))).toNatClampNeg) := by
      rw [nI_cl (by omega)]
      exact fun q => q.elim (nI_pos (by omega)) (by omega)
    have hln : ln T 1 o i = T.2.2 i o := rfl
    simp only [f_X12_tilts_L128, f_X12_tilts_L128_J154, cnO]
    rw [if_neg (nI_ge hi (by omega)), if_neg n1_0, f_place, Option.bind_some, if_pos hin, nI_cl (by omega), hcell, hln]
    cases hh : T.2.2 i o with
    | none =>
      refine ⟨.inl (nI (cnO (ln T 1 o) i + (if (none : Option Int).isSome then 1 else 0)), nI (i + 1), s1), ?_, rfl, rfl, tabF_ext h1 (fun a b _ _ => ?_), h2⟩
      · rw [if_pos c32_n, nI_1]; rfl
      · by_cases q : a = i ∧ b = o
        · rw [q.1, q.2, hh, if_pos (by omega), if_neg (by omega)]; rfl
        · by_cases q2 : b = o ∧ a < i
          · rw [if_pos (by omega), if_pos q2]
          · rw [if_neg (by omega), if_neg q2]
    | some x =>
      have hb := hT.2.2.1 _ _ x hh
      have hin' : ¬ (nI (2 + (8 * i + o)) < 0 ∨ 58 ≤ 2 + (8 * i + o)) := fun q => q.elim (nI_pos (by omega)) (by omega)
      refine ⟨.inl (nI (cnO (ln T 1 o) i + (if (some x).isSome then 1 else 0)), nI (i + 1), wA s1 59 (2 + (8 * i + o)) (c32 (some (x + v.toInt)))), ?_, rfl, rfl, tabF_ext (tput (w := i) h8 h1 (by omega) (c32 (some (x + v.toInt)))) (fun a b _ _ => ?_), sq_w h2 (by omega) (by omega) _⟩
      · have e3 : iI x + v = c32 (some (x + v.toInt)) := by rw [c32_s, ← iI_add, ← iI_of]
        rw [c32_s, if_neg (of_eq_false (inv_F (by omega) (by omega))), if_pos hin', if_pos hin', nI_1, nI_1, e3]; rfl
      · simp only [upI]
        by_cases q : a = i ∧ b = o
        · rw [q.1, q.2, hh, if_pos (by omega), if_pos ⟨rfl, rfl⟩]; rfl
        · rw [if_neg q]
          by_cases q2 : b = o ∧ a < i
          · rw [if_pos (by omega), if_pos q2]
          · rw [if_neg (by omega), if_neg q2]
  · rintro ⟨a1, a2, s1⟩ ⟨e1, e2, h1, h2⟩
    simp only at e1 e2 h1 h2
    subst e1 e2
    refine ⟨.inr (nI (cnO (ln T 1 o) T.1), s1), ?_, rfl, tabF_ext h1 (fun a b ha hb => ?_), h2⟩
    · simp only [f_X12_tilts_L128]
      rw [if_pos (nI_le (Nat.le_refl _) (by omega))]
    · have ha : a < T.1 := ha
      have hb : b < T.2.1 := hb
      show c32 (if (1 = 0 ∧ a = o) ∨ (1 = 1 ∧ b = o) then (T.2.2 a b).map (fun x => x + v.toInt) else T.2.2 a b) = _
      by_cases q : b = o
      · rw [if_pos (by omega), if_pos (by omega)]
      · rw [if_neg (by omega), if_neg (by omega)]
theorem stp_41 : st_ok_41 Rel := by
  intro x y z s ⟨A, hok, hc, hr⟩
  have h7' := hok.1.1
  have h8' := hok.1.2.1
  rcases ix_L hok x z with ⟨w, hw, rfl, rfl⟩ | ⟨w, hw, rfl, rfl⟩ | ⟨hx, hy0, hy1⟩
  · have hV := v_bd y
    have hvL : vL A.1 0 w := Or.inl ⟨rfl, hw⟩
    rcases f_bears hok.1 hc.1 hvL hV with ⟨eb, ht⟩ | ⟨eb, ht⟩
    rotate_left
    · refine st_a (f1 := f_X11_tilts (nI w) y 0) (f2 := f_X12_tilts (nI w) y 0) (-5) hok hc hr (fun hc => ⟨(-5, s), ?_, rfl, hc⟩) (lo_X11_tilts (nI w) y 0) (fun s1 hr1 => ⟨(-5, s1), ?_, rfl, hr1⟩) (hi_X12_tilts (nI w) y 0)
      · unfold f_X11_tilts
        rw [hl_W hok hc hw, Option.bind_some, if_neg n1_0, i32_64]
        have eb' : f_X1_bearsTilt 3 (nI w) (jJ y.toInt) 0 s = some (0, s) := eb
        rw [bnd eb']; rfl
      · rcases rt_chk0 hok.1 hr1.1 hw y with ⟨_, h⟩ | ⟨e, _⟩
        · exact absurd h ht
        · unfold f_X12_tilts f_X12_tilts_J12 f_X12_tilts_J30 f_X12_tilts_J55
          rw [if_pos rfl, f_isW_in hok.1 hr1.1 hw, Option.bind_some, if_neg n1_0, if_neg n1_0, if_pos rfl, f_jb hr1.1, Option.bind_some]
          rw [e]; rfl
    · have eb' : f_X1_bearsTilt 3 (nI w) (jJ y.toInt) 0 s = some (1, s) := eb
      have eo : f_X1_openIn 3 (nI w) 0 s = some (nI (cnO (ln A.1 0 w) (nl A.1 0)), s) := f_openIn hok.1 hc.1 hvL
      have hcl := cnO_le (ln A.1 0 w) (nl A.1 0)
      have h8 := nl_8 hok.1 0
      have rfe : ∀ s1, rfA A s1 → ∃ s2 r, f_X12_remembers s1 = some s2 ∧ whT (f_X12_tilts_L128 (nI w) y 0 (nI A.1.2.1)) (0, 0, s2) = some r ∧ r.1 = nI (cnO (ln A.1 0 w) (nl A.1 0)) ∧ tabIs 59 0 (tltT A.1 0 w y.toInt) r.2 ∧ sq A.1.1 A.1.2.1 s2 r.2 ∧ tabIs 59 0 A.1 s2 ∧ (∀ k, rA s2 59 k = rA s1 59 k) ∧ ∀ p, f_X12_keeps r.2 = some p → f_X12_tilts (nI w) y 0 s1 = some (r.1, p.2) := by
        intro s1 hr1
        obtain ⟨s2, e2, t2, w2, h59⟩ := rf_rem hok hr1
        obtain ⟨r, e3, v3, t3, x3⟩ := rt_do0 hok.1 t2 hw y
        refine ⟨s2, r, e2, e3, v3, t3, x3, t2, h59, fun p ep => ?_⟩
        rcases rt_chk0 hok.1 hr1.1 hw y with ⟨e, _⟩ | ⟨_, h⟩
        · unfold f_X12_tilts f_X12_tilts_J12 f_X12_tilts_J30 f_X12_tilts_J55
          rw [if_pos rfl, f_isW_in hok.1 hr1.1 hw, Option.bind_some, if_neg n1_0, if_neg n1_0, if_pos rfl, f_jb hr1.1, Option.bind_some]
          rw [e, Option.bind_some, Sum.elim_inl, e2, Option.bind_some, e3, Option.bind_some, ep, Option.bind_some]
        · exact absurd ht h
      by_cases hz : cnO (ln A.1 0 w) (nl A.1 0) = 0 ∨ y = 0
      · have eT : tltT A.1 0 w y.toInt = A.1 := by
          unfold tltT
          have : (fun a b => if (0 = 0 ∧ a = w) ∨ (0 = 1 ∧ b = w) then (A.1.2.2 a b).map (fun x => x + y.toInt) else A.1.2.2 a b) = A.1.2.2 := by
            funext a b
            by_cases q : (0 = 0 ∧ a = w) ∨ (0 = 1 ∧ b = w)
            · rw [if_pos q]
              rcases hz with hz | hz
              · have : A.1.2.2 a b = none := by
                  by_cases hb : a < A.1.1 ∧ b < A.1.2.1
                  · exact (show a = w by omega) ▸ cnO_0 hz b hb.2
                  · exact hok.1.2.2.2 a b hb
                rw [this]; rfl
              · rw [hz, show (0 : Int32).toInt = 0 by decide]
                cases A.1.2.2 a b <;> simp
            · rw [if_neg q]
          rw [this]
        refine st_a (f1 := f_X11_tilts (nI w) y 0) (f2 := f_X12_tilts (nI w) y 0) (nI (cnO (ln A.1 0 w) (nl A.1 0))) hok hc hr (fun hc => ⟨(nI (cnO (ln A.1 0 w) (nl A.1 0)), s), ?_, rfl, hc⟩) (lo_X11_tilts (nI w) y 0) (fun s1 hr1 => ?_) (hi_X12_tilts (nI w) y 0)
        · unfold f_X11_tilts
          rw [hl_W hok hc hw, Option.bind_some, if_neg n1_0, i32_64, bnd eb', if_neg n1_0, bnd eo]
          by_cases q : cnO (ln A.1 0 w) (nl A.1 0) = 0
          · rw [q, if_pos (show nI 0 ≤ 0 by decide)]
          · rw [if_neg (nI_nle (by omega) (by omega)), if_pos (hz.resolve_left q)]
        · obtain ⟨s2, r, e2, e3, v3, t3, x3, t2, h59, hfin⟩ := rfe s1 hr1
          rw [eT] at t3
          obtain ⟨e4, h4⟩ := rf_act0 hr1 e2 x3.1 t3 (fun k hk => by rw [← h59 k]; exact sq_all x3 t2 t3 k)
          exact ⟨_, hfin _ e4, v3, h4⟩
      · have hz1 : 0 < cnO (ln A.1 0 w) (nl A.1 0) := by omega
        have hz2 : ¬ y = 0 := fun q => hz (Or.inr q)
        have hy0 : y.toInt ≠ 0 := fun q => hz2 (Int32.toInt_inj.mp q)
        obtain ⟨i, x, hi, hx⟩ := cnO_pos hz1
        have okT : tb_ok (tltT A.1 0 w y.toInt) := tltT_ok hok.1 hvL ht
        refine st_a (f1 := f_X11_tilts (nI w) y 0) (f2 := f_X12_tilts (nI w) y 0) (A' := (tltT A.1 0 w y.toInt, kp A.2.1 A.1, A.2.2)) (nI (cnO (ln A.1 0 w) (nl A.1 0))) ⟨okT, kp_ok hok.2.1 hok.1, kp_len hok.2.2.1 _, hok.2.2.2⟩ hc hr (fun hc => ?_) (lo_X11_tilts (nI w) y 0) (fun s1 hr1 => ?_) (hi_X12_tilts (nI w) y 0)
        · have h := cl_act (T' := tltT A.1 0 w y.toInt) (f := f_X1_tilt 3 (nI w) (jJ y.toInt) 0) hok okT hc (fun s1 h1 => ev_tilt0 hok.1 h1 hw) (fun s1 s2 e => ?_)
          · obtain ⟨s', e, hs⟩ := h
            refine ⟨(nI (cnO (ln A.1 0 w) (nl A.1 0)), s'), ?_, rfl, hs⟩
            obtain ⟨s1, e1, e⟩ := Option.bind_eq_some_iff.mp e
            obtain ⟨s2, e2, e⟩ := Option.bind_eq_some_iff.mp e
            unfold f_X11_tilts
            rw [hl_W hok hc hw, Option.bind_some, if_neg n1_0, i32_64, bnd eb', if_neg n1_0, bnd eo, if_neg (nI_nle (by omega) (by omega)), if_neg hz2, e1, Option.bind_some, e2, Option.bind_some, e, Option.bind_some]
          · refine sx_mono (fr_f_X1_tilt 3 (nI w) (jJ y.toInt) 0 s1 ax_G3 e) (fun o k q => q.elim) (fun o k q => q) (fun o q => q) (fun o q => q)
        · obtain ⟨s2, r, e2, e3, v3, t3, x3, t2, h59, hfin⟩ := rfe s1 hr1
          have hi' : i < A.1.2.1 := hi
          have hx' : A.1.2.2 w i = some x := hx
          obtain ⟨p, e4, v4, h4⟩ := rf_act hok hr1 e2 t3 x3.1 ⟨2 + (8 * w + i), by omega, by
            rw [t59 hr1.1 (w := w) (j := i) (by omega) (by omega), t59 (T := tltT A.1 0 w y.toInt) t3 (w := w) (j := i) (show w < A.1.1 by omega) (show i < A.1.2.1 by omega)]
            show c32 (A.1.2.2 w i) ≠ c32 (if (0 = 0 ∧ w = w) ∨ (0 = 1 ∧ i = w) then (A.1.2.2 w i).map (fun x => x + y.toInt) else A.1.2.2 w i)
            rw [if_pos (by omega), hx']
            have hb := hok.1.2.2.1 _ _ x hx'
            have hb2 := okT.2.2.1 w i (x + y.toInt) (by
              show (if (0 = 0 ∧ w = w) ∨ (0 = 1 ∧ i = w) then (A.1.2.2 w i).map (fun x => x + y.toInt) else A.1.2.2 w i) = _
              rw [if_pos (by omega), hx']; rfl)
            intro q
            have q2 : iI x = iI (x + y.toInt) := q
            rw [iI_eq (by omega) (by omega) (by omega) (by omega)] at q2
            omega⟩
          exact ⟨_, hfin _ e4, v3, h4⟩
  · have hV := v_bd y
    have hvL : vL A.1 1 w := Or.inr ⟨rfl, hw⟩
    rcases f_bears hok.1 hc.1 hvL hV with ⟨eb, ht⟩ | ⟨eb, ht⟩
    rotate_left
    · refine st_a (f1 := f_X11_tilts (nI w) y 1) (f2 := f_X12_tilts (nI w) y 1) (-5) hok hc hr (fun hc => ⟨(-5, s), ?_, rfl, hc⟩) (lo_X11_tilts (nI w) y 1) (fun s1 hr1 => ⟨(-5, s1), ?_, rfl, hr1⟩) (hi_X12_tilts (nI w) y 1)
      · unfold f_X11_tilts
        rw [hl_J hok hc hw, Option.bind_some, if_neg n1_0, i32_64]
        have eb' : f_X1_bearsTilt 3 (nI w) (jJ y.toInt) 1 s = some (0, s) := eb
        rw [bnd eb']; rfl
      · rcases rt_chk1 hok.1 hr1.1 hw y with ⟨_, h⟩ | ⟨e, _⟩
        · exact absurd h ht
        · unfold f_X12_tilts f_X12_tilts_J12 f_X12_tilts_J30 f_X12_tilts_J55
          rw [if_neg n1_0, if_pos rfl, f_isJ_in hok.1 hr1.1 hw, Option.bind_some, if_neg n1_0, if_neg n1_0, if_neg n1_0, f_wk hr1.1, Option.bind_some]
          rw [e]; rfl
    · have eb' : f_X1_bearsTilt 3 (nI w) (jJ y.toInt) 1 s = some (1, s) := eb
      have eo : f_X1_openIn 3 (nI w) 1 s = some (nI (cnO (ln A.1 1 w) (nl A.1 1)), s) := f_openIn hok.1 hc.1 hvL
      have hcl := cnO_le (ln A.1 1 w) (nl A.1 1)
      have h8 := nl_8 hok.1 1
      have rfe : ∀ s1, rfA A s1 → ∃ s2 r, f_X12_remembers s1 = some s2 ∧ whT (f_X12_tilts_L128 (nI w) y 1 (nI A.1.1)) (0, 0, s2) = some r ∧ r.1 = nI (cnO (ln A.1 1 w) (nl A.1 1)) ∧ tabIs 59 0 (tltT A.1 1 w y.toInt) r.2 ∧ sq A.1.1 A.1.2.1 s2 r.2 ∧ tabIs 59 0 A.1 s2 ∧ (∀ k, rA s2 59 k = rA s1 59 k) ∧ ∀ p, f_X12_keeps r.2 = some p → f_X12_tilts (nI w) y 1 s1 = some (r.1, p.2) := by
        intro s1 hr1
        obtain ⟨s2, e2, t2, w2, h59⟩ := rf_rem hok hr1
        obtain ⟨r, e3, v3, t3, x3⟩ := rt_do1 hok.1 t2 hw y
        refine ⟨s2, r, e2, e3, v3, t3, x3, t2, h59, fun p ep => ?_⟩
        rcases rt_chk1 hok.1 hr1.1 hw y with ⟨e, _⟩ | ⟨_, h⟩
        · unfold f_X12_tilts f_X12_tilts_J12 f_X12_tilts_J30 f_X12_tilts_J55
          rw [if_neg n1_0, if_pos rfl, f_isJ_in hok.1 hr1.1 hw, Option.bind_some, if_neg n1_0, if_neg n1_0, if_neg n1_0, f_wk hr1.1, Option.bind_some]
          rw [e, Option.bind_some, Sum.elim_inl, e2, Option.bind_some, e3, Option.bind_some, ep, Option.bind_some]
        · exact absurd ht h
      by_cases hz : cnO (ln A.1 1 w) (nl A.1 1) = 0 ∨ y = 0
      · have eT : tltT A.1 1 w y.toInt = A.1 := by
          unfold tltT
          have : (fun a b => if (1 = 0 ∧ a = w) ∨ (1 = 1 ∧ b = w) then (A.1.2.2 a b).map (fun x => x + y.toInt) else A.1.2.2 a b) = A.1.2.2 := by
            funext a b
            by_cases q : (1 = 0 ∧ a = w) ∨ (1 = 1 ∧ b = w)
            · rw [if_pos q]
              rcases hz with hz | hz
              · have : A.1.2.2 a b = none := by
                  by_cases hb : a < A.1.1 ∧ b < A.1.2.1
                  · exact (show b = w by omega) ▸ cnO_0 hz a hb.1
                  · exact hok.1.2.2.2 a b hb
                rw [this]; rfl
              · rw [hz, show (0 : Int32).toInt = 0 by decide]
                cases A.1.2.2 a b <;> simp
            · rw [if_neg q]
          rw [this]
        refine st_a (f1 := f_X11_tilts (nI w) y 1) (f2 := f_X12_tilts (nI w) y 1) (nI (cnO (ln A.1 1 w) (nl A.1 1))) hok hc hr (fun hc => ⟨(nI (cnO (ln A.1 1 w) (nl A.1 1)), s), ?_, rfl, hc⟩) (lo_X11_tilts (nI w) y 1) (fun s1 hr1 => ?_) (hi_X12_tilts (nI w) y 1)
        · unfold f_X11_tilts
          rw [hl_J hok hc hw, Option.bind_some, if_neg n1_0, i32_64, bnd eb', if_neg n1_0, bnd eo]
          by_cases q : cnO (ln A.1 1 w) (nl A.1 1) = 0
          · rw [q, if_pos (show nI 0 ≤ 0 by decide)]
          · rw [if_neg (nI_nle (by omega) (by omega)), if_pos (hz.resolve_left q)]
        · obtain ⟨s2, r, e2, e3, v3, t3, x3, t2, h59, hfin⟩ := rfe s1 hr1
          rw [eT] at t3
          obtain ⟨e4, h4⟩ := rf_act0 hr1 e2 x3.1 t3 (fun k hk => by rw [← h59 k]; exact sq_all x3 t2 t3 k)
          exact ⟨_, hfin _ e4, v3, h4⟩
      · have hz1 : 0 < cnO (ln A.1 1 w) (nl A.1 1) := by omega
        have hz2 : ¬ y = 0 := fun q => hz (Or.inr q)
        have hy0 : y.toInt ≠ 0 := fun q => hz2 (Int32.toInt_inj.mp q)
        obtain ⟨i, x, hi, hx⟩ := cnO_pos hz1
        have okT : tb_ok (tltT A.1 1 w y.toInt) := tltT_ok hok.1 hvL ht
        refine st_a (f1 := f_X11_tilts (nI w) y 1) (f2 := f_X12_tilts (nI w) y 1) (A' := (tltT A.1 1 w y.toInt, kp A.2.1 A.1, A.2.2)) (nI (cnO (ln A.1 1 w) (nl A.1 1))) ⟨okT, kp_ok hok.2.1 hok.1, kp_len hok.2.2.1 _, hok.2.2.2⟩ hc hr (fun hc => ?_) (lo_X11_tilts (nI w) y 1) (fun s1 hr1 => ?_) (hi_X12_tilts (nI w) y 1)
        · have h := cl_act (T' := tltT A.1 1 w y.toInt) (f := f_X1_tilt 3 (nI w) (jJ y.toInt) 1) hok okT hc (fun s1 h1 => ev_tilt1 hok.1 h1 hw) (fun s1 s2 e => ?_)
          · obtain ⟨s', e, hs⟩ := h
            refine ⟨(nI (cnO (ln A.1 1 w) (nl A.1 1)), s'), ?_, rfl, hs⟩
            obtain ⟨s1, e1, e⟩ := Option.bind_eq_some_iff.mp e
            obtain ⟨s2, e2, e⟩ := Option.bind_eq_some_iff.mp e
            unfold f_X11_tilts
            rw [hl_J hok hc hw, Option.bind_some, if_neg n1_0, i32_64, bnd eb', if_neg n1_0, bnd eo, if_neg (nI_nle (by omega) (by omega)), if_neg hz2, e1, Option.bind_some, e2, Option.bind_some, e, Option.bind_some]
          · refine sx_mono (fr_f_X1_tilt 3 (nI w) (jJ y.toInt) 1 s1 ax_G3 e) (fun o k q => q.elim) (fun o k q => q) (fun o q => q) (fun o q => q)
        · obtain ⟨s2, r, e2, e3, v3, t3, x3, t2, h59, hfin⟩ := rfe s1 hr1
          have hi' : i < A.1.1 := hi
          have hx' : A.1.2.2 i w = some x := hx
          obtain ⟨p, e4, v4, h4⟩ := rf_act hok hr1 e2 t3 x3.1 ⟨2 + (8 * i + w), by omega, by
            rw [t59 hr1.1 (w := i) (j := w) (by omega) (by omega), t59 (T := tltT A.1 1 w y.toInt) t3 (w := i) (j := w) (show i < A.1.1 by omega) (show w < A.1.2.1 by omega)]
            show c32 (A.1.2.2 i w) ≠ c32 (if (1 = 0 ∧ i = w) ∨ (1 = 1 ∧ w = w) then (A.1.2.2 i w).map (fun x => x + y.toInt) else A.1.2.2 i w)
            rw [if_pos (by omega), hx']
            have hb := hok.1.2.2.1 _ _ x hx'
            have hb2 := okT.2.2.1 i w (x + y.toInt) (by
              show (if (1 = 0 ∧ i = w) ∨ (1 = 1 ∧ w = w) then (A.1.2.2 i w).map (fun x => x + y.toInt) else A.1.2.2 i w) = _
              rw [if_pos (by omega), hx']; rfl)
            intro q
            have q2 : iI x = iI (x + y.toInt) := q
            rw [iI_eq (by omega) (by omega) (by omega) (by omega)] at q2
            omega⟩
          exact ⟨_, hfin _ e4, v3, h4⟩
  · refine ⟨(-2, s), (-2, s), ?_, ?_, rfl, A, hok, hc, hr⟩
    · unfold f_X11_tilts
      rw [hx s hc]; rfl
    · unfold f_X12_tilts f_X12_tilts_J12 f_X12_tilts_J30
      by_cases h0 : z = 0
      · rw [if_pos h0, f_isW_out hok.1 hr.1 (hy0 h0), Option.bind_some, if_pos rfl, if_neg (by rw [h0]; exact fun q => n1_0 q.symm), if_pos rfl]
      · rw [if_neg h0]
        by_cases h1 : z = 1
        · rw [if_pos h1, f_isJ_out hok.1 hr.1 (hy1 h1), Option.bind_some, if_pos rfl, if_pos rfl]
        · rw [if_neg h1, if_pos rfl]
