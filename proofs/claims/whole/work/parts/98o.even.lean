/-! the most even -/
theorem cod_lx : ∀ (r r' : List Nat) (i a b : Nat), r.length = r'.length → (∀ j, j ∈ r → j < 8) → (∀ j, j ∈ r' → j < 8) → (∀ m, m < i → r[m]? = r'[m]?) → r[i]? = some a → r'[i]? = some b → a < b → cod r < cod r'
  | [], _, i, a, b, _, _, _, _, h, _, _ => by simp at h
  | _ :: _, [], i, a, b, _, _, _, _, _, h, _ => by simp at h
  | x :: r, y :: r', 0, a, b, hl, h8, h8', hm, ha, hb, hab => by
    have ha : x = a := by simpa using ha
    have hb : y = b := by simpa using hb
    have hl : r.length = r'.length := by simpa using hl
    have c1 := cod_lt r (fun j hj => h8 j (List.mem_cons_of_mem _ hj))
    show x * 8 ^ r.length + cod r < y * 8 ^ r'.length + cod r'
    rw [← hl]
    have : (x + 1) * 8 ^ r.length ≤ y * 8 ^ r.length := Nat.mul_le_mul_right _ (by omega)
    rw [Nat.add_mul, Nat.one_mul] at this
    omega
  | x :: r, y :: r', i + 1, a, b, hl, h8, h8', hm, ha, hb, hab => by
    have hxy : x = y := by
      have := hm 0 (by omega)
      simpa using this
    have hl : r.length = r'.length := by simpa using hl
    have ih := cod_lx r r' i a b hl (fun j hj => h8 j (List.mem_cons_of_mem _ hj)) (fun j hj => h8' j (List.mem_cons_of_mem _ hj)) (fun m hm' => by
      have := hm (m + 1) (by omega)
      simpa using this) (by simpa using ha) (by simpa using hb) hab
    show x * 8 ^ r.length + cod r < y * 8 ^ r'.length + cod r'
    rw [← hl, hxy]
    omega
theorem c_tried {T : tb} {s : sx_M} (hT : tb_ok T) (hg : gridIs 3 T s) {p p' : asg} (hp : p ∈ allA T) (hp' : p' ∈ allA T) (h4 : ∀ i j, p.1[i]? = some j → rA s 44 i = nI j) (h5 : ∀ i j, p'.1[i]? = some j → rA s 45 i = nI j) : f_X7_triedComesFirst s = some (if cod p'.1 < cod p.1 then 1 else 0, s) := by
  have h7 := hT.1
  obtain ⟨l1, b1⟩ := all_row hp
  obtain ⟨l2, b2⟩ := all_row hp'
  have key : ∀ n i, i + n = T.1 → (∀ m, m < i → p'.1[m]? = p.1[m]?) → ∃ r, whT f_X7_triedComesFirst_L2 (nI i, s) = some r ∧ (Sum.elim (fun e2 => some ((0 : Int32), e2)) (fun e3 => some e3) r : Option (Int32 × sx_M)) = some (if cod p'.1 < cod p.1 then 1 else 0, s) := by
    intro n
    induction n with
    | zero =>
      intro i hi hm
      refine ⟨.inl s, ?_, ?_⟩
      · rw [whT_eq]
        simp only [f_X7_triedComesFirst_L2]
        rw [hg.1, if_pos (show nI T.1 ≤ nI i from nI_le (by omega) (by omega))]
        rfl
      · have : p'.1 = p.1 := by
          refine List.ext_getElem? (fun m => ?_)
          by_cases z : m < i
          · exact hm m z
          · rw [List.getElem?_eq_none (by omega), List.getElem?_eq_none (by omega)]
        rw [this, if_neg (Nat.lt_irrefl _)]
        rfl
    | succ n ih =>
      intro i hi hm
      have hin : ¬ (nI i < 0 ∨ 7 ≤ (nI i).toNatClampNeg) := by
        rw [nI_cl (by omega)]
        exact fun q => q.elim (nI_pos (by omega)) (by omega)
      obtain ⟨j, x, c1, _, c3, _⟩ := all_cell hT hp (show i < T.1 by omega)
      obtain ⟨j', x', d1, _, d3, _⟩ := all_cell hT hp' (show i < T.1 by omega)
      have pre : f_X7_triedComesFirst_L2 (nI i, s) = (if nI j' = nI j then some (.inl (nI (i + 1), s)) else if nI j ≤ nI j' then some (.inr (.inr (0, s))) else some (.inr (.inr (1, s)))) := by
        simp only [f_X7_triedComesFirst_L2]
        rw [hg.1, if_neg (show ¬ nI T.1 ≤ nI i from nI_ge (by omega) (by omega)), if_pos hin, if_pos hin, if_pos hin, if_pos hin, nI_cl (by omega), h4 i j c1, h5 i j' d1, nI_1]
      by_cases z : j' = j
      · obtain ⟨r, e, hr⟩ := ih (i + 1) (by omega) (fun m hm' => by
          by_cases y : m = i
          · rw [y, c1, d1, z]
          · exact hm m (by omega))
        refine ⟨r, ?_, hr⟩
        rw [whT_eq, pre, if_pos (by rw [z])]
        exact e
      · rw [if_neg (show ¬ nI j' = nI j from of_eq_false (nI_eq_F z (by omega) (by omega)))] at pre
        by_cases y : j ≤ j'
        · rw [if_pos (show nI j ≤ nI j' from nI_le y (by omega))] at pre
          refine ⟨.inr (0, s), ?_, ?_⟩
          · rw [whT_eq, pre]
            rfl
          · have := cod_lx p.1 p'.1 i j j' (by omega) b1 b2 (fun m hm' => (hm m hm').symm) c1 d1 (by omega)
            rw [if_neg (by omega)]
            rfl
        · rw [if_neg (show ¬ nI j ≤ nI j' from nI_ge (by omega) (by omega))] at pre
          refine ⟨.inr (1, s), ?_, ?_⟩
          · rw [whT_eq, pre]
            rfl
          · have := cod_lx p'.1 p.1 i j' j (by omega) b2 b1 hm d1 c1 (by omega)
            rw [if_pos this]
            rfl
  obtain ⟨r, e, hr⟩ := key T.1 0 (by omega) (fun m hm => by omega)
  have e : whT f_X7_triedComesFirst_L2 (0, s) = some r := e
  unfold f_X7_triedComesFirst
  rw [bnd e]
  exact hr
abbrev evb : Type := Option (Int × asg)
def evS (best : evb) (s : sx_M) : Prop := rJ s 42 6 = c64 (best.map (fun c => c.1)) ∧ rJ s 42 7 = c64 (best.map (fun c => c.2.2)) ∧ ∀ d p, best = some (d, p) → ∀ i j, p.1[i]? = some j → rA s 44 i = nI j
def evI (T : tb) (P : Int → Prop) (best : evb) : Prop :=
  (best = none → ∀ b, P b → ∀ t q, q ∈ allA T → okR (wR T b t) 0 q.1 = true → False) ∧
  (∀ d p, best = some (d, p) → p ∈ allA T ∧ (∃ b t, d = t - b ∧ okR (wR T b t) 0 p.1 = true) ∧ (-100000 ≤ d ∧ d ≤ 100000) ∧ ∀ b, P b → ∀ t q, q ∈ allA T → b ≤ t → okR (wR T b t) 0 q.1 = true → d < t - b ∨ (d = t - b ∧ (p.2 < q.2 ∨ (p.2 = q.2 ∧ cod p.1 ≤ cod q.1))))
def Dch : sx_D := (fun o _ => o = 13, fun o k => o = 42 ∧ (k = 6 ∨ k = 7), fun o => o = 16 ∨ o = 44 ∨ o = 45, fun o => o = 14 ∨ o = 17 ∨ o = 18 ∨ o = 43)
theorem ch_g3 {T : tb} {s s' : sx_M} (hx : sx_eq Dch s s') (hg : gridIs 3 T s) : gridIs 3 T s' := grid_eq hx (by simp only [Dch]; omega) (by simp only [Dch]; omega) (by simp only [Dch]; omega) hg
theorem ch_d {s s' : sx_M} (hx : sx_eq dD s s') : sx_eq Dch s s' := sx_mono hx (fun _ _ z => z) (fun _ _ z => z.elim) (fun _ z => Or.inl z) (fun o z => by simp only [dD, Dch] at z ⊢; omega)
theorem ch_43 {s s' : sx_M} (hx : sx_eq D43 s s') : sx_eq Dch s s' := sx_mono hx (fun _ _ z => z.elim) (fun _ _ z => z.elim) (fun _ z => z.elim) (fun o z => by simp only [D43, Dch] at z ⊢; omega)
theorem ch_45 {s s' : sx_M} (hx : sx_eq (Dar 45) s s') : sx_eq Dch s s' := sx_mono hx (fun _ _ z => z.elim) (fun _ _ z => z.elim) (fun _ z => Or.inr (Or.inr z)) (fun _ z => z.elim)
theorem ch_44 {s s' : sx_M} (hx : sx_eq (Dar 44) s s') : sx_eq Dch s s' := sx_mono hx (fun _ _ z => z.elim) (fun _ _ z => z.elim) (fun _ z => Or.inr (Or.inl z)) (fun _ z => z.elim)
/-- the tried one is taken -/
theorem c_J105 {T : tb} {s : sx_M} (hT : tb_ok T) (hg : gridIs 3 T s) {p : asg} (hp : p ∈ allA T) (h5 : ∀ i j, p.1[i]? = some j → rA s 45 i = nI j) (b t : Int) : Ev (f_X7_tryBottom_J105 (jJ b) (jJ t) (jJ p.2) s) (fun s' => evS (some (t - b, p)) s' ∧ sx_eq Dch s s') := by
  have h7 := hT.1
  have hl := (all_row hp).1
  have x0 : sx_eq Dch s (wJ (wJ s 42 6 (jJ t - jJ b)) 42 7 (jJ p.2)) := sx_wJ' (sx_wJ' (sx_rf _ _) ⟨rfl, Or.inl rfl⟩) ⟨rfl, Or.inr rfl⟩
  have hL : Ev (whT f_X7_tryBottom_L121 (0, wJ (wJ s 42 6 (jJ t - jJ b)) 42 7 (jJ p.2))) (fun s' => (∀ i, i < T.1 → rA s' 44 i = rA s 45 i) ∧ sx_eq (Dar 44) (wJ (wJ s 42 6 (jJ t - jJ b)) 42 7 (jJ p.2)) s') := by
    refine ev_f (fun (i : Nat) (a : Int32 × sx_M) => a.1 = nI i ∧ (∀ m, m < i → rA a.2 44 m = rA s 45 m) ∧ sx_eq (Dar 44) (wJ (wJ s 42 6 (jJ t - jJ b)) 42 7 (jJ p.2)) a.2) T.1 ?_ ?_ (i := 0) (by omega) ⟨rfl, fun m hm => by omega, sx_rf _ _⟩
    · rintro i ⟨a1, s1⟩ hi ⟨ea, b1, b2⟩
      simp only at ea b1 b2
      subst ea
      have hg1 : rI s1 3 1 = nI T.1 := by rw [b2.1 3 1 (fun z => z)]; exact hg.1
      have h45 : rA s1 45 i = rA s 45 i := b2.2.2.1 45 i (by simp only [Dar]; omega)
      have hin : ¬ (nI i < 0 ∨ 7 ≤ (nI i).toNatClampNeg) := by
        rw [nI_cl (by omega)]
        exact fun q => q.elim (nI_pos (by omega)) (by omega)
      refine ⟨.inl (nI (i + 1), wA s1 44 i (rA s 45 i)), ?_, rfl, fun m hm => ?_, sx_wA' b2 rfl⟩
      · simp only [f_X7_tryBottom_L121]
        rw [hg1, if_neg (show ¬ nI T.1 ≤ nI i from nI_ge hi (by omega)), if_pos hin, if_pos hin, nI_cl (by omega), h45, nI_1]
      · show rA (wA s1 44 i (rA s 45 i)) 44 m = _
        by_cases z : m = i
        · rw [rA_T ⟨rfl, z⟩, z]
        · rw [rA_F (by omega)]; exact b1 m (by omega)
    · rintro ⟨a1, s1⟩ ⟨ea, b1, b2⟩
      simp only at ea b1 b2
      subst ea
      have hg1 : rI s1 3 1 = nI T.1 := by rw [b2.1 3 1 (fun z => z)]; exact hg.1
      refine ⟨.inr s1, ?_, b1, b2⟩
      simp only [f_X7_tryBottom_L121]
      rw [hg1, if_pos (show nI T.1 ≤ nI T.1 from nI_le (Nat.le_refl _) (by omega))]
  obtain ⟨s1, e1, c1, x1⟩ := hL
  refine ⟨s1, ?_, ⟨?_, ?_, fun d q hq i j hij => ?_⟩, sx_tr x0 (ch_44 x1)⟩
  · unfold f_X7_tryBottom_J105
    rw [bnd e1]
  · rw [x1.2.1 42 6 (fun z => z), rJ_F (by omega), rJ_T ⟨rfl, rfl⟩, jJ_sub]
    rfl
  · rw [x1.2.1 42 7 (fun z => z), rJ_T ⟨rfl, rfl⟩]
    rfl
  · cases hq
    have hi : i < T.1 := by
      have := (List.getElem?_eq_some_iff.mp hij).1
      omega
    rw [c1 i hi]
    exact h5 i j hij
