/-! the least that the greatest cost can be, none below the bottom -/
def wR (T : tb) (b t : Int) (w j : Nat) : Bool :=
  match T.2.2 w j with
  | none => false
  | some x => decide (b ≤ x ∧ x ≤ t)
theorem wR_iff {T : tb} {b t : Int} {w j : Nat} : wR T b t w j = true ↔ ∃ x, T.2.2 w j = some x ∧ b ≤ x ∧ x ≤ t := by
  unfold wR
  cases hx : T.2.2 w j with
  | none => exact ⟨(fun q => by cases q), (fun ⟨x, q, _⟩ => by cases q)⟩
  | some x =>
    show decide (b ≤ x ∧ x ≤ t) = true ↔ _
    rw [decide_eq_true_iff]
    exact ⟨fun q => ⟨x, rfl, q⟩, fun ⟨y, e, q⟩ => by cases e; exact q⟩
theorem okR_mono {T : tb} {b t u : Int} (h : t ≤ u) : ∀ {r : List Nat} {w : Nat}, okR (wR T b t) w r = true → okR (wR T b u) w r = true := by
  intro r w hr
  rw [okR_iff] at hr ⊢
  intro i j hij
  obtain ⟨x, h1, h2, h3⟩ := wR_iff.mp (hr i j hij)
  exact wR_iff.mpr ⟨x, h1, h2, by omega⟩
def tpP (T : tb) (b : Int) (w : Nat) (L : List asg) (o : Option Int) : Prop :=
  (∀ t q, q ∈ L → okR (wR T b t) w q.1 = true → ∃ u, o = some u ∧ (b ≤ t → u ≤ t)) ∧ (∀ u, o = some u → b ≤ u ∧ ∃ q, q ∈ L ∧ okR (wR T b u) w q.1 = true)
theorem tp_nil (T : tb) (b : Int) (w : Nat) : tpP T b w [] none := ⟨(fun _ _ h => by cases h), (fun _ h => by cases h)⟩
theorem tp_one (T : tb) (b : Int) (w : Nat) : tpP T b w [([], 0)] (some b) := ⟨fun _ _ _ _ => ⟨b, rfl, fun h => h⟩, fun u h => by cases h; exact ⟨Int.le_refl _, ([], 0), List.mem_singleton.mpr rfl, rfl⟩⟩
theorem tp_app {T : tb} {b : Int} {w : Nat} {L M : List asg} {o1 o2 : Option Int} (h1 : tpP T b w L o1) (h2 : tpP T b w M o2) : tpP T b w (L ++ M) (omin o1 o2) := by
  refine ⟨fun t q hq hok => ?_, fun u hu => ?_⟩
  · rcases List.mem_append.mp hq with ha | ha
    · obtain ⟨u, e, hu⟩ := h1.1 t q ha hok
      subst e
      cases o2 with
      | none => exact ⟨u, rfl, hu⟩
      | some y =>
        refine ⟨_, rfl, fun hb => ?_⟩
        have := hu hb
        split <;> omega
    · obtain ⟨u, e, hu⟩ := h2.1 t q ha hok
      subst e
      cases o1 with
      | none => exact ⟨u, rfl, hu⟩
      | some y =>
        refine ⟨_, rfl, fun hb => ?_⟩
        have := hu hb
        split <;> omega
  · have hcase : o1 = some u ∨ o2 = some u := by
      cases o1 with
      | none => exact Or.inr hu
      | some x =>
        cases o2 with
        | none => exact Or.inl hu
        | some y =>
          have hu : some (if y < x then y else x) = some u := hu
          split at hu
          · exact Or.inr hu
          · exact Or.inl hu
    rcases hcase with e | e
    · obtain ⟨a, q, hq, hk⟩ := h1.2 u e
      exact ⟨a, q, List.mem_append.mpr (Or.inl hq), hk⟩
    · obtain ⟨a, q, hq, hk⟩ := h2.2 u e
      exact ⟨a, q, List.mem_append.mpr (Or.inr hq), hk⟩
def mxO : Option Int → Option Int → Option Int
  | some x, some y => some (if x < y then y else x)
  | _, _ => none
theorem mxO_n (a : Option Int) : mxO a none = none := by cases a <;> rfl
theorem tp_bx {T : tb} {b : Int} {w j : Nat} {x : Int} {L : List asg} {o : Option Int} (hx : T.2.2 w j = some x) (h : tpP T b (w + 1) L o) : tpP T b w (bx x j L) (if x < b then none else mxO (some x) o) := by
  refine ⟨fun t q hq hok => ?_, fun u hu => ?_⟩
  · obtain ⟨q', hq', rfl⟩ := mem_bx.mp hq
    have hok : (wR T b t w j && okR (wR T b t) (w + 1) q'.1) = true := hok
    rw [Bool.and_eq_true] at hok
    obtain ⟨x', e, hb, ht⟩ := wR_iff.mp hok.1
    rw [hx] at e
    cases e
    obtain ⟨u, e, hu⟩ := h.1 t q' hq' hok.2
    subst e
    rw [if_neg (by omega)]
    refine ⟨_, rfl, fun hbt => ?_⟩
    have := hu hbt
    split <;> omega
  · by_cases z : x < b
    · rw [if_pos z] at hu; cases hu
    · rw [if_neg z] at hu
      cases o with
      | none => cases hu
      | some y =>
        have hu : some (if x < y then y else x) = some u := hu
        have hu := Option.some.inj hu
        obtain ⟨hb, q, hq, hk⟩ := h.2 y rfl
        have hyu : y ≤ u ∧ x ≤ u := by
          split at hu <;> omega
        refine ⟨by omega, (j :: q.1, x + q.2), mem_bx.mpr ⟨q, hq, rfl⟩, ?_⟩
        show (wR T b u w j && okR (wR T b u) (w + 1) q.1) = true
        rw [Bool.and_eq_true]
        exact ⟨wR_iff.mpr ⟨x, hx, by omega, hyu.2⟩, okR_mono hyu.1 hk⟩
theorem f_mxO (a b : Option Int) (ha : far a) (hb : far b) (s : sx_M) : f_J9_max_f86c9 (c64 a) (c64 b) s = some (c64 (mxO a b), s) := by
  rw [mx_f]
  cases a with
  | none =>
    rw [if_neg (show ¬ c64 none < c64 b from fun q => by
      rw [Int64.lt_iff_toInt_lt] at q
      have := Int64.le_iff_toInt_le.mp (le_mx (c64 b))
      have e : c64 none = 9223372036854775807 := rfl
      rw [e] at q
      omega)]
    rfl
  | some x =>
    have hx := ha x rfl
    cases b with
    | none =>
      rw [if_pos (show c64 (some x) < c64 none from by
        rw [c64_n, c64_s, jJ_nv]
        exact of_eq_true (jJ_lt_T (by omega) (by omega) (by omega)))]
      rfl
    | some y =>
      have hy := hb y rfl
      show some ((if jJ x < jJ y then jJ y else jJ x), s) = some (jJ (if x < y then y else x), s)
      by_cases z : x < y
      · rw [if_pos z, if_pos (show jJ x < jJ y from of_eq_true (jJ_lt_T z (by omega) (by omega)))]
      · rw [if_neg z, if_neg (show ¬ jJ x < jJ y from of_eq_false (jJ_lt_F (by omega) (by omega) (by omega)))]
theorem far_mx {a b : Option Int} (ha : far a) (hb : far b) : far (mxO a b) := by
  intro u hu
  cases a with
  | none => cases hu
  | some x =>
    cases b with
    | none => cases hu
    | some y =>
      have h1 := ha x rfl
      have h2 := hb y rfl
      have hu : some (if x < y then y else x) = some u := hu
      have hu := Option.some.inj hu
      split at hu <;> omega
theorem far_mn {a b : Option Int} (ha : far a) (hb : far b) : far (omin a b) := by
  intro u hu
  cases a with
  | none => exact hb u hu
  | some x =>
    cases b with
    | none => exact ha u hu
    | some y =>
      have h1 := ha x rfl
      have h2 := hb y rfl
      have hu : some (if y < x then y else x) = some u := hu
      have hu := Option.some.inj hu
      split at hu <;> omega
def D43 : sx_D := (fun _ _ => False, fun _ _ => False, fun _ => False, fun o => o = 43)
def topI (T : tb) (b : Int) (S : Nat) (s : sx_M) : Prop := pcn S ≤ T.1 → ∃ o, tpP T b (pcn S) (exS T S) o ∧ far o ∧ rB s 43 S = c64 o
theorem c_top1 {T : tb} {b : Int} {s : sx_M} (hT : tb_ok T) (hb : -9999 ≤ b ∧ b ≤ 9999) (hg : gridIs 3 T s) {S : Nat} (hS : S < 2 ^ T.2.1) (hr : ∀ j, j < T.2.1 → S.testBit j = false → topI T b (S ||| 2 ^ j) s) (hw : pcn S < T.1) (h0 : rB s 43 S = c64 none) : Ev (whT (f_X7_lowestTop_L50 (jJ b) (jJ b) (nI S) (nI (pcn S))) (0, s)) (fun s' => (∃ o, tpP T b (pcn S) (exS T S) o ∧ far o ∧ rB s' 43 S = c64 o) ∧ (∀ S', S' ≠ S → rB s' 43 S' = rB s 43 S') ∧ sx_eq D43 s s') := by
  have h7 := hT.1
  have h8 := hT.2.1
  have hS2 : S < 256 := pw_256 h8 hS
  obtain ⟨n, hn⟩ : ∃ n, T.1 - pcn S = n + 1 := ⟨T.1 - pcn S - 1, by omega⟩
  have eS : exS T S = exT T.2.2 n (pcn S) S T.2.1 := by
    unfold exS
    rw [hn]
    exact ex_J (fun j hj => hT.2.2.2 (pcn S) j (by omega)) h8
  rw [eS]
  have hinS : ¬ (nI S < 0 ∨ 256 ≤ (nI S).toNatClampNeg) := by
    rw [nI_cl (by omega)]
    exact fun q => q.elim (nI_pos (by omega)) (by omega)
  refine ev_f (fun (k : Nat) (a : Int32 × sx_M) => a.1 = nI k ∧ (∃ o, tpP T b (pcn S) (exT T.2.2 n (pcn S) S k) o ∧ far o ∧ rB a.2 43 S = c64 o) ∧ (∀ S', S' ≠ S → rB a.2 43 S' = rB s 43 S') ∧ sx_eq D43 s a.2) T.2.1 ?_ ?_ (i := 0) (by omega) ⟨rfl, ⟨none, by rw [exT_0]; exact tp_nil T b _, (fun x q => by cases q), h0⟩, fun _ _ => rfl, sx_rf _ _⟩
  · rintro k ⟨a1, s1⟩ hk ⟨ea, ⟨o, p1, p2, p3⟩, b2, b3⟩
    simp only at ea p3 b2 b3
    subst ea
    have hg1 : gridIs 3 T s1 := grid_eq b3 (fun z => z) (fun z => z) (by simp only [D43]; omega) hg
    have hat := f_at_in hT hg1 hw hk
    have hbt := nI_bit (show k < 31 by omega)
    have hhas := nI_has (S := S) (j := k) (by omega) (by omega)
    have pre : f_X7_lowestTop_L50 (jJ b) (jJ b) (nI S) (nI (pcn S)) (nI k, s1) = (if nI (if S.testBit k then 1 else 0) = 0 then (if c64 (T.2.2 (pcn S) k) < jJ b then some (.inl (nI (k + 1), s1)) else (if ¬ (nI (S ||| 2 ^ k) < 0 ∨ 256 ≤ (nI (S ||| 2 ^ k)).toNatClampNeg) then (f_J9_max_f86c9 (c64 (T.2.2 (pcn S) k)) (rB s1 43 (nI (S ||| 2 ^ k)).toNatClampNeg) s1).bind (fun p2 => (f_J9_min_f86c9 (rB s1 43 S) p2.1 p2.2).bind (fun p3 => some (.inl (nI (k + 1), (wB p3.2 43 S p3.1))))) else none)) else some (.inl (nI (k + 1), s1))) := by
      simp only [f_X7_lowestTop_L50]
      rw [hg1.1, if_neg (show ¬ nI T.1 ≤ nI (pcn S) from nI_ge hw (by omega)), hg1.2.1, if_neg (show ¬ nI T.2.1 ≤ nI k from nI_ge hk (by omega)), bnd hat, hhas, hbt, nI_or]
      simp only [if_pos hinS]
      rw [nI_cl (show S < 2147483648 by omega), nI_1]
    cases hb' : S.testBit k with
    | true =>
      rw [hb', if_neg (show ¬ nI (if true = true then 1 else 0) = 0 by decide)] at pre
      refine ⟨_, pre, rfl, ⟨o, ?_, p2, p3⟩, b2, b3⟩
      rw [exT_s, br_in hb', List.append_nil]
      exact p1
    | false =>
      rw [hb', if_pos (show nI (if false = true then 1 else 0) = 0 by decide)] at pre
      have hlt : S ||| 2 ^ k < 256 := or_256 hS2 (by omega)
      have hin2 : ¬ (nI (S ||| 2 ^ k) < 0 ∨ 256 ≤ (nI (S ||| 2 ^ k)).toNatClampNeg) := by
        rw [nI_cl (by omega)]
        exact fun q => q.elim (nI_pos (by omega)) (by omega)
      have hp := pcn_or hS2 (show k < 8 by omega) hb'
      have hne : S ||| 2 ^ k ≠ S := fun q => by rw [(or_bit S k).mp q] at hb'; cases hb'
      obtain ⟨o', q1, q2, q3⟩ := hr k hk hb' (by omega)
      have eL : exS T (S ||| 2 ^ k) = ex T.2.2 n (pcn S + 1) (S ||| 2 ^ k) := by
        unfold exS
        rw [hp, show T.1 - (pcn S + 1) = n by omega]
      rw [eL, hp] at q1
      rw [if_pos hin2, nI_cl (show S ||| 2 ^ k < 2147483648 by omega), b2 _ hne, q3, p3] at pre
      cases hx : T.2.2 (pcn S) k with
      | none =>
        have m1 : f_J9_max_f86c9 (c64 none) (c64 o') s1 = some (c64 none, s1) := f_mxO none o' (fun x q => by cases q) q2 s1
        rw [hx, if_neg (show ¬ c64 none < jJ b from fun q => by
          rw [Int64.lt_iff_toInt_lt] at q
          have := Int64.le_iff_toInt_le.mp (le_mx (jJ b))
          have e : c64 none = 9223372036854775807 := rfl
          rw [e] at q
          omega), bnd m1, bnd (f_minJ o none p2 (fun x q => by cases q) s1), omin_n] at pre
        refine ⟨_, pre, rfl, ⟨o, ?_, p2, rB_T ⟨rfl, rfl⟩⟩, fun S' hS' => ?_, sx_wB' b3 rfl⟩
        · rw [exT_s, br_none hx, List.append_nil]
          exact p1
        · show rB (wB s1 43 S _) 43 S' = _
          rw [rB_F (by omega)]
          exact b2 S' hS'
      | some x =>
        have hxb := hT.2.2.1 _ _ x hx
        have e1 := br_some (rec := ex T.2.2 n (pcn S + 1)) hx hb'
        have hbx := tp_bx hx q1
        by_cases z : x < b
        · rw [hx, if_pos (show c64 (some x) < jJ b from of_eq_true (jJ_lt_T (a := x) z (by omega) (by omega)))] at pre
          rw [if_pos z] at hbx
          refine ⟨_, pre, rfl, ⟨o, ?_, p2, p3⟩, b2, b3⟩
          rw [exT_s, e1]
          have := tp_app p1 hbx
          rw [omin_n] at this
          exact this
        · have fx : far (some x) := fun y q => by cases q; omega
          rw [hx, if_neg (show ¬ c64 (some x) < jJ b from of_eq_false (jJ_lt_F (a := x) (by omega) (by omega) (by omega))), bnd (f_mxO (some x) o' fx q2 s1), bnd (f_minJ o (mxO (some x) o') p2 (far_mx fx q2) s1)] at pre
          rw [if_neg z] at hbx
          refine ⟨_, pre, rfl, ⟨omin o (mxO (some x) o'), ?_, far_mn p2 (far_mx fx q2), rB_T ⟨rfl, rfl⟩⟩, fun S' hS' => ?_, sx_wB' b3 rfl⟩
          · rw [exT_s, e1]
            exact tp_app p1 hbx
          · show rB (wB s1 43 S _) 43 S' = _
            rw [rB_F (by omega)]
            exact b2 S' hS'
  · rintro ⟨a1, s1⟩ ⟨ea, hp, b2, b3⟩
    simp only at ea hp b2 b3
    subst ea
    have hg1 : gridIs 3 T s1 := grid_eq b3 (fun z => z) (fun z => z) (by simp only [D43]; omega) hg
    refine ⟨.inr s1, ?_, hp, b2, b3⟩
    simp only [f_X7_lowestTop_L50]
    rw [hg1.1, if_neg (show ¬ nI T.1 ≤ nI (pcn S) from nI_ge hw (by omega)), hg1.2.1, if_pos (show nI T.2.1 ≤ nI T.2.1 from nI_le (Nat.le_refl _) (by omega))]
theorem c_top {T : tb} {b : Int} {s : sx_M} (hT : tb_ok T) (hb : -9999 ≤ b ∧ b ≤ 9999) (hg : gridIs 3 T s) : Ev (f_X7_lowestTop (jJ b) s) (fun r => (∃ o, tpP T b 0 (allA T) o ∧ far o ∧ r.1 = c64 o) ∧ sx_eq D43 s r.2) := by
  have h7 := hT.1
  have h8 := hT.2.1
  have hpw : 2 ^ T.2.1 ≤ 256 := pw_le h8
  have hp0 : 1 ≤ 2 ^ T.2.1 := Nat.one_le_two_pow
  have hL : Ev (whT (f_X7_lowestTop_L12 (jJ b)) (((1 : Int32) <<< ((rI s 3 2) &&& 31)) - (1 : Int32), s)) (fun s' => (∀ S, S < 2 ^ T.2.1 → topI T b S s') ∧ sx_eq D43 s s') := by
    refine ev_d (fun k (a : Int32 × sx_M) => k ≤ 2 ^ T.2.1 ∧ a.1 = nI k - nI 1 ∧ (∀ S, k ≤ S → S < 2 ^ T.2.1 → topI T b S a.2) ∧ sx_eq D43 s a.2) ?_ ?_ (2 ^ T.2.1) _ ?_
    · rintro k ⟨a1, s1⟩ ⟨hk, ha, hr, hx⟩
      simp only at ha hr hx
      subst ha
      have hk2 : k < 2 ^ T.2.1 := by omega
      have hk6 : k < 256 := by omega
      have hg1 : gridIs 3 T s1 := grid_eq hx (fun z => z) (fun z => z) (by simp only [D43]; omega) hg
      have hpk := f_pcn hk6 s1
      have hple := pcn_le k
      have hinS : ¬ (nI k < 0 ∨ 256 ≤ (nI k).toNatClampNeg) := by
        rw [nI_cl (by omega)]
        exact fun q => q.elim (nI_pos (by omega)) (by omega)
      have hneg : ¬ nI k < 0 := nI_pos (by omega)
      have hdn : nI k + (-1 : Int32) = nI k - nI 1 := by
        rw [Int32.sub_eq_add_neg]
        rfl
      by_cases hw : pcn k < T.1
      · have hg2 : gridIs 3 T (wB s1 43 k 9223372036854775807) := grid_eq (D := D43) (sx_wB' (sx_rf _ _) rfl) (fun z => z) (fun z => z) (by simp only [D43]; omega) hg1
        obtain ⟨s2, e2, c1, c2, c3⟩ := c_top1 hT hb hg2 hk2 (fun j hj hbj => by
          intro hp
          have hgt := or_gt hbj
          obtain ⟨o, a1, a2, a3⟩ := hr _ (by omega) (or_lt hk2 hj) hp
          refine ⟨o, a1, a2, ?_⟩
          rw [rB_F (by omega)]
          exact a3) hw (rB_T ⟨rfl, rfl⟩)
        refine ⟨.inl (nI k - nI 1, s2), ?_, by omega, rfl, fun S hkS hS => ?_, sx_tr (sx_wB' hx rfl) c3⟩
        · simp only [f_X7_lowestTop_L12, f_X7_lowestTop_L12_J46, nI_k1]
          rw [if_neg hneg, bnd hpk, hg1.1, if_pos (show nI (pcn k) < nI T.1 from of_eq_true (nI_lt_T hw (by omega))), if_pos hinS, nI_cl (show k < 2147483648 by omega), bnd e2, hdn]
        · by_cases z : S = k
          · rw [z]
            exact fun _ => c1
          · intro hp
            obtain ⟨o, a1, a2, a3⟩ := hr S (by omega) hS hp
            refine ⟨o, a1, a2, ?_⟩
            show rB s2 43 S = _
            rw [c2 S z, rB_F (by omega)]
            exact a3
      · refine ⟨.inl (nI k - nI 1, wB s1 43 k (jJ b)), ?_, by omega, rfl, fun S hkS hS => ?_, sx_wB' hx rfl⟩
        · have e2 : whT (f_X7_lowestTop_L50 (jJ b) (jJ b) (nI k) (nI (pcn k))) (0, wB s1 43 k (jJ b)) = some (wB s1 43 k (jJ b)) := by
            rw [whT_eq]
            simp only [f_X7_lowestTop_L50]
            rw [show rI (wB s1 43 k (jJ b)) 3 1 = nI T.1 from hg1.1, if_pos (show nI T.1 ≤ nI (pcn k) from nI_le (by omega) (by omega))]
            rfl
          simp only [f_X7_lowestTop_L12, f_X7_lowestTop_L12_J46, nI_k1]
          rw [if_neg hneg, bnd hpk, hg1.1, if_neg (show ¬ nI (pcn k) < nI T.1 from of_eq_false (nI_lt_F (by omega) (by omega))), if_pos hinS, nI_cl (show k < 2147483648 by omega), bnd e2, hdn]
        · intro hp
          by_cases z : S = k
          · subst z
            have e : exS T S = [([], 0)] := by
              unfold exS
              rw [show T.1 - pcn S = 0 by omega]
              rfl
            rw [e]
            exact ⟨some b, tp_one T b _, fun x q => by cases q; omega, rB_T ⟨rfl, rfl⟩⟩
          · obtain ⟨o, a1, a2, a3⟩ := hr S (by omega) hS hp
            refine ⟨o, a1, a2, ?_⟩
            show rB (wB s1 43 k (jJ b)) 43 S = _
            rw [rB_F (by omega)]
            exact a3
    · rintro ⟨a1, s1⟩ ⟨hk, ha, hr, hx⟩
      simp only at ha hr hx
      subst ha
      refine ⟨.inr s1, ?_, fun S hS => hr S (Nat.zero_le _) hS, hx⟩
      simp only [f_X7_lowestTop_L12]
      rw [if_pos (by decide)]
    · refine ⟨Nat.le_refl _, ?_, fun S h1 h2 => by omega, sx_rf _ _⟩
      show (1 : Int32) <<< (rI s 3 2 &&& 31) - 1 = _
      rw [hg.2.1, nI_bit (by omega)]
      rfl
  obtain ⟨s1, e1, c1, x1⟩ := hL
  obtain ⟨o, a1, a2, a3⟩ := c1 0 (by omega) (by rw [pcn_0]; omega)
  refine ⟨(rB s1 43 0, s1), ?_, ⟨o, ?_, a2, a3⟩, x1⟩
  · unfold f_X7_lowestTop
    rw [bnd e1, show (0 : Int32).toNatClampNeg = 0 by decide]
  · have e : exS T 0 = allA T := by
      unfold exS
      rw [pcn_0, Nat.sub_zero]
      rfl
    rw [e, pcn_0] at a1
    exact a1
