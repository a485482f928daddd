/-! mended: a step done -/
def injH (T : tb) (h : hs) : Prop := ∀ v w j, v < T.1 → w < T.1 → h v = some j → h w = some j → v = w
def stO (T : tb) (h : hs) (g : Int) (w t : Nat) (k : Bool) : Prop :=
  w < T.1 ∧ ((k = false ∧ t < T.2.1 ∧ wo h t 0 T.1 = none ∧ goG T h w t = some g) ∨ (k = true ∧ w < t ∧ t < T.1 ∧ chG T h w t ((h w).getD 0) ((h t).getD 0) = some g))
def mOK (T : tb) (h : hs) (m : mv) : Prop := ∀ g w t k, m = some (g, w, t, k) → 0 < g ∧ stO T h g w t k
theorem mOK_n (T : tb) (h : hs) : mOK T h none := fun _ _ _ _ e => by cases e
theorem mOK_g {T : tb} {h : hs} {m : mv} (hm : mOK T h m) : 0 ≤ gnM m := by
  cases m with
  | none => exact Int.le_refl 0
  | some c =>
    obtain ⟨g, w, t, k⟩ := c
    have := (hm g w t k rfl).1
    show 0 ≤ g
    omega
theorem mOK_X {T : tb} {h : hs} {m : mv} {o : Option Int} {w t : Nat} {k : Bool} (hm : mOK T h m) (ho : ∀ a, o = some a → stO T h a w t k) : mOK T h (mvX o w t k m) := by
  cases o with
  | none => exact hm
  | some a =>
    by_cases z : a ≤ gnM m
    · rw [mvX_le z]; exact hm
    · rw [mvX_gt z]
      have h0 := mOK_g hm
      intro g w' t' k' e
      cases e
      exact ⟨by omega, ho _ rfl⟩
theorem m1R_ok {T : tb} {h : hs} {w : Nat} (hw : w < T.1) {m : mv} (hm : mOK T h m) : ∀ n, n ≤ T.2.1 → mOK T h (m1R T h w m n)
  | 0, _ => hm
  | n + 1, hn => by
    have ih := m1R_ok hw hm n (by omega)
    unfold m1R
    by_cases z : wo h n 0 T.1 = none
    · rw [if_pos z]
      exact mOK_X ih (fun a e => ⟨hw, Or.inl ⟨rfl, by omega, z, e⟩⟩)
    · rw [if_neg z]; exact ih
theorem m1A_ok {T : tb} {h : hs} : ∀ n, n ≤ T.1 → mOK T h (m1A T h n)
  | 0, _ => mOK_n T h
  | n + 1, hn => m1R_ok (by omega) (m1A_ok n (by omega)) _ (Nat.le_refl _)
theorem m2R_ok {T : tb} {h : hs} {w : Nat} {m : mv} (hm : mOK T h m) : ∀ n, w + 1 + n ≤ T.1 → mOK T h (m2R T h w m n)
  | 0, _ => hm
  | n + 1, hn => by
    have ih := m2R_ok (w := w) hm n (by omega)
    unfold m2R
    exact mOK_X ih (fun a e => ⟨by omega, Or.inr ⟨rfl, by omega, by omega, e⟩⟩)
theorem m2A_ok {T : tb} {h : hs} {m : mv} (hm : mOK T h m) : ∀ n, n ≤ T.1 → mOK T h (m2A T h m n)
  | 0, _ => hm
  | n + 1, hn => by
    unfold m2A
    exact m2R_ok (m2A_ok hm n (by omega)) _ (by omega)
theorem mvB_ok (T : tb) (h : hs) : mOK T h (mvB T h) := m2A_ok (m1A_ok T.1 (Nat.le_refl _)) T.1 (Nat.le_refl _)
theorem wo_is {T : tb} {h : hs} (hi : injH T h) {v j : Nat} (hv : v < T.1) (e : h v = some j) : wo h j 0 T.1 = some v := by
  cases hw : wo h j 0 T.1 with
  | none => exact absurd e (wo_n.mp hw v (by omega) (by omega))
  | some u =>
    have := wo_lt hw
    rw [hi u v j (by omega) hv this.2 e]
theorem wo_cg {h h' : hs} {j : Nat} : ∀ n i, (∀ v, i ≤ v → v < i + n → (h v = some j ↔ h' v = some j)) → wo h j i n = wo h' j i n
  | 0, _, _ => rfl
  | n + 1, i, H => by
    unfold wo
    rw [wo_cg n (i + 1) (fun v h1 h2 => H v (by omega) (by omega))]
    have := H i (by omega) (by omega)
    by_cases z : h i = some j
    · rw [if_pos z, if_pos (this.mp z)]
    · rw [if_neg z, if_neg (fun q => z (this.mpr q))]
def nxH (h : hs) (w t : Nat) (k : Bool) : hs := if k = true then up (up h t ((h w).getD 0)) w ((h t).getD 0) else up h w t
theorem goG_s {T : tb} {h : hs} {w j : Nat} {g : Int} (e : goG T h w j = some g) : ∃ x, T.2.2 w j = some x ∧ g = cyO T h w - x := by
  unfold goG at e
  cases hx : T.2.2 w j with
  | none => rw [hx] at e; cases e
  | some x => rw [hx] at e; exact ⟨x, rfl, (Option.some.inj e).symm⟩
theorem chG_s {T : tb} {h : hs} {w v jw jv : Nat} {g : Int} (e : chG T h w v jw jv = some g) : ∃ a b, goG T h w jv = some a ∧ goG T h v jw = some b ∧ g = a + b := by
  unfold chG at e
  cases h1 : goG T h w jv with
  | none => rw [h1] at e; cases e
  | some a =>
    cases h2 : goG T h v jw with
    | none => rw [h1, h2] at e; cases e
    | some b => rw [h1, h2] at e; exact ⟨a, b, rfl, rfl, (Option.some.inj e).symm⟩
/-- what a step keeps -/
theorem nx_ok {T : tb} {h : hs} {g : Int} {w t : Nat} {k : Bool} (hk : gok T h) (hf : flH T h) (hi : injH T h) (hs : stO T h g w t k) : gok T (nxH h w t k) ∧ flH T (nxH h w t k) ∧ injH T (nxH h w t k) := by
  obtain ⟨hw, hs⟩ := hs
  rcases hs with ⟨rfl, ht, hn, hg⟩ | ⟨rfl, hwt, ht, hg⟩
  · obtain ⟨x, hx, _⟩ := goG_s hg
    have hn := wo_n.mp hn
    have e : nxH h w t false = up h w t := rfl
    rw [e]
    refine ⟨fun v j hv hj => ?_, fun v hv => ?_, fun u v j hu hv h1 h2 => ?_⟩
    · by_cases z : v = w
      · rw [z, up_w] at hj; cases hj; rw [z]; exact ⟨ht, x, hx⟩
      · rw [up_o z] at hj; exact hk v j hv hj
    · by_cases z : v = w
      · rw [z, up_w]; exact ⟨t, rfl⟩
      · rw [up_o z]; exact hf v hv
    · by_cases z : u = w
      · rw [z, up_w] at h1
        cases h1
        by_cases y : v = w
        · rw [z, y]
        · rw [up_o y] at h2
          exact absurd h2 (hn v (by omega) (by omega))
      · rw [up_o z] at h1
        by_cases y : v = w
        · rw [y, up_w] at h2
          cases h2
          exact absurd h1 (hn u (by omega) (by omega))
        · rw [up_o y] at h2
          exact hi u v j hu hv h1 h2
  · obtain ⟨jw, hjw⟩ := hf w hw
    obtain ⟨jt, hjt⟩ := hf t ht
    rw [hjw, hjt] at hg
    obtain ⟨a, b, ha, hb, _⟩ := chG_s hg
    obtain ⟨x, hx, _⟩ := goG_s ha
    obtain ⟨y, hy, _⟩ := goG_s hb
    have e : nxH h w t true = up (up h t jw) w jt := by
      unfold nxH
      rw [if_pos rfl, hjw, hjt]
      rfl
    have hx : T.2.2 w jt = some x := hx
    have hy : T.2.2 t jw = some y := hy
    rw [e]
    have e1 : up (up h t jw) w jt w = some jt := up_w _ _ _
    have e2 : up (up h t jw) w jt t = some jw := by rw [up_o (by omega), up_w]
    have e3 : ∀ v, v ≠ w → v ≠ t → up (up h t jw) w jt v = h v := fun v h1 h2 => by rw [up_o h1, up_o h2]
    have hne : jt ≠ jw := fun q => by
      rw [q] at hjt
      have := hi w t jw hw ht hjw hjt
      omega
    refine ⟨fun v j hv hj => ?_, fun v hv => ?_, fun u v j hu hv h1 h2 => ?_⟩
    · by_cases z : v = w
      · rw [z, e1] at hj; cases hj; rw [z]; exact ⟨(hk t _ ht hjt).1, x, hx⟩
      · by_cases z2 : v = t
        · rw [z2, e2] at hj; cases hj; rw [z2]; exact ⟨(hk w _ hw hjw).1, y, hy⟩
        · rw [e3 v z z2] at hj; exact hk v j hv hj
    · by_cases z : v = w
      · rw [z, e1]; exact ⟨_, rfl⟩
      · by_cases z2 : v = t
        · rw [z2, e2]; exact ⟨_, rfl⟩
        · rw [e3 v z z2]; exact hf v hv
    · have key : ∀ p, p < T.1 → up (up h t jw) w jt p = some j → (p = w ∧ j = jt) ∨ (p = t ∧ j = jw) ∨ (p ≠ w ∧ p ≠ t ∧ h p = some j ∧ j ≠ jt ∧ j ≠ jw) := by
        intro p hp q
        by_cases z : p = w
        · rw [z, e1] at q; cases q; exact Or.inl ⟨z, rfl⟩
        · by_cases z2 : p = t
          · rw [z2, e2] at q; cases q; exact Or.inr (Or.inl ⟨z2, rfl⟩)
          · rw [e3 p z z2] at q
            refine Or.inr (Or.inr ⟨z, z2, q, fun q2 => ?_, fun q2 => ?_⟩)
            · rw [q2] at q; exact z2 (hi p t _ hp ht q hjt)
            · rw [q2] at q; exact z (hi p w _ hp hw q hjw)
      rcases key u hu h1 with ⟨a1, a2⟩ | ⟨a1, a2⟩ | ⟨a1, a2, a3, a4, a5⟩ <;> rcases key v hv h2 with ⟨b1, b2⟩ | ⟨b1, b2⟩ | ⟨b1, b2, b3, b4, b5⟩
      · omega
      · exact absurd (a2.symm.trans b2) hne
      · exact absurd a2 b4
      · exact absurd (b2.symm.trans a2) hne
      · omega
      · exact absurd a2 b5
      · exact absurd b2 a4
      · exact absurd b2 a5
      · exact hi u v j hu hv a3 b3
def ocO (T : tb) (h : hs) (w : Nat) : Int := ((h w).map (fun j => (T.2.2 w j).getD 0)).getD 0
theorem oc_cy (T : tb) (h : hs) (w : Nat) : ocO T h w = cyO T h w := by
  unfold ocO cyO
  cases h w with
  | none => rfl
  | some j => rfl
theorem sm_up2 {T : tb} {h : hs} {w j : Nat} : ∀ n, smN T (up h w j) n = smN T h n + (if w < n then (T.2.2 w j).getD 0 - ocO T h w else 0)
  | 0 => rfl
  | n + 1 => by
    have e1 : ∀ h : hs, smN T h (n + 1) = smN T h n + ocO T h n := fun h => rfl
    rw [e1, e1, sm_up2 n]
    by_cases z : n = w
    · have : ocO T (up h w j) n = (T.2.2 w j).getD 0 := by
        unfold ocO
        rw [z, up_w]
        rfl
      rw [this, z, if_neg (show ¬ w < w by omega), if_pos (show w < w + 1 by omega)]
      omega
    · have : ocO T (up h w j) n = ocO T h n := by
        unfold ocO
        rw [up_o z]
      rw [this]
      by_cases y : w < n
      · rw [if_pos y, if_pos (show w < n + 1 by omega)]; omega
      · rw [if_neg y, if_neg (show ¬ w < n + 1 by omega)]; omega
theorem nx_sm {T : tb} {h : hs} {g : Int} {w t : Nat} {k : Bool} (hf : flH T h) (hs : stO T h g w t k) : smN T (nxH h w t k) T.1 = smN T h T.1 - g := by
  obtain ⟨hw, hs⟩ := hs
  rcases hs with ⟨rfl, ht, hn, hg⟩ | ⟨rfl, hwt, ht, hg⟩
  · obtain ⟨x, hx, e⟩ := goG_s hg
    show smN T (up h w t) T.1 = _
    rw [sm_up2, if_pos hw, oc_cy, hx, e]
    show _ + (x - _) = _
    omega
  · obtain ⟨jw, hjw⟩ := hf w hw
    obtain ⟨jt, hjt⟩ := hf t ht
    rw [hjw, hjt] at hg
    obtain ⟨a, b, ha, hb, eg⟩ := chG_s hg
    obtain ⟨x, hx, ea⟩ := goG_s ha
    obtain ⟨y, hy, eb⟩ := goG_s hb
    have e : nxH h w t true = up (up h t jw) w jt := by
      unfold nxH
      rw [if_pos rfl, hjw, hjt]
      rfl
    have hx : T.2.2 w jt = some x := hx
    have hy : T.2.2 t jw = some y := hy
    have eo : ocO T (up h t jw) w = ocO T h w := by
      unfold ocO
      rw [up_o (by omega)]
    rw [e, sm_up2, if_pos hw, sm_up2, if_pos ht, eo, oc_cy, oc_cy, hx, hy]
    show _ + (y - _) + (x - _) = _
    omega
theorem sm_bd {T : tb} {h : hs} (hT : tb_ok T) (hk : gok T h) : ∀ n : Nat, n ≤ T.1 → -(9999 * (n : Int)) ≤ smN T h n ∧ smN T h n ≤ 9999 * (n : Int)
  | 0, _ => by
    show -(9999 * ((0 : Nat) : Int)) ≤ 0 ∧ (0 : Int) ≤ 9999 * ((0 : Nat) : Int)
    decide
  | n + 1, hn => by
    have ih := sm_bd hT hk n (by omega)
    have e1 : smN T h (n + 1) = smN T h n + ocO T h n := rfl
    have h2 : -9999 ≤ ocO T h n ∧ ocO T h n ≤ 9999 := by
      rw [oc_cy]
      unfold cyO
      cases hi : h n with
      | none => exact (show (-9999 : Int) ≤ 0 ∧ (0 : Int) ≤ 9999 by decide)
      | some i =>
        obtain ⟨b1, y, b2⟩ := hk n i (by omega) hi
        have := hT.2.2.1 _ _ y b2
        show -9999 ≤ (T.2.2 n i).getD 0 ∧ (T.2.2 n i).getD 0 ≤ 9999
        rw [b2]
        exact this
    rw [e1]
    omega
theorem gr_inj {T : tb} : ∀ n h, injH T h → injH T (gr T n h)
  | 0, _, hh => hh
  | n + 1, h, hh => by
    cases hb : bsA T h T.1 with
    | none => rw [gr_n (n + 1) hb]; exact hh
    | some c =>
      obtain ⟨w, j, x⟩ := c
      obtain ⟨a1, a2, a3, a4, a5⟩ := bsA_ok (T := T) (h := h) T.1 (Nat.le_refl _) w j x hb
      have hn := wo_n.mp a5
      rw [gr_s hb]
      refine gr_inj n _ (fun u v i hu hv h1 h2 => ?_)
      by_cases z : u = w
      · rw [z, up_w] at h1
        cases h1
        by_cases y : v = w
        · rw [z, y]
        · rw [up_o y] at h2
          exact absurd h2 (hn v (by omega) (by omega))
      · rw [up_o z] at h1
        by_cases y : v = w
        · rw [y, up_w] at h2
          cases h2
          exact absurd h1 (hn u (by omega) (by omega))
        · rw [up_o y] at h2
          exact hh u v i hu hv h1 h2
