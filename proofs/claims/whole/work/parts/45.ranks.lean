/-! THE RANKS: what goes on from each set -/
def cH : Option Int → Int64
  | none => -9223372036854775808
  | some x => jJ x
theorem cH_n : cH none = -9223372036854775808 := rfl
theorem cH_s (x : Int) : cH (some x) = jJ x := rfl
theorem f_maxJ (a : Option Int) (y : Int) (ha : far a) (hy : -1000000000 ≤ y ∧ y ≤ 1000000000) (s : sx_M) : f_J9_max_f86c9 (cH a) (jJ y) s = some (cH (omax a (some y)), s) := by
  unfold f_J9_max_f86c9
  cases a with
  | none => rw [cH_n, ite_T (ns_lt hy.1 hy.2)]; rfl
  | some x =>
    have := ha x rfl
    rw [cH_s]
    by_cases h : x < y
    · rw [ite_T (jJ_lt_T h (by omega) (by omega))]
      simp only [omax, h, if_true, cH_s]
    · rw [ite_F (jJ_lt_F (by omega) (by omega) (by omega))]
      simp only [omax, h, if_false, cH_s]
theorem far_max {a b : Option Int} (ha : far a) (hb : far b) : far (omax a b) := by
  intro x hx
  cases a with
  | none => exact hb x hx
  | some y =>
    cases b with
    | none => exact ha x hx
    | some z =>
      have := ha y rfl
      have := hb z rfl
      have e : (if y < z then z else y) = x := Option.some.inj hx
      split at e <;> omega
/-- all that goes on from a set -/
def exS (T : tb) (S : Nat) : List asg := ex T.2.2 (T.1 - pcn S) (pcn S) S
def rkE (g : Nat) (T : tb) (S : Nat) (s : sx_M) : Prop := pcn S ≤ T.1 → rA s (g + 3) S = nI (exS T S).length ∧ (0 < (exS T S).length → rB s (g + 4) S = c64 (lowL (exS T S)) ∧ rB s (g + 5) S = c64 (higL (exS T S)))
def ranksIs (g : Nat) (T : tb) (s : sx_M) : Prop := ∀ S, S < 2 ^ T.2.1 → rkE g T S s
theorem nbit {k : Nat} (h : k < 31) : nI 1 <<< (nI k &&& nI 31) = nI (2 ^ k) := nI_bit h
theorem wk_cbd {T : tb} (h : tb_wk T) : cbd 1100000 T.2.2 := h.2.2.1
theorem ex_far {c : cst} (hc : cbd 1100000 c) {n w S : Nat} (hn : n ≤ 7) : far (lowL (ex c n w S)) ∧ far (higL (ex c n w S)) := by
  constructor
  · intro x hx
    have := low_bd hc hx
    have : (n : Int) ≤ 7 := by omega
    omega
  · intro x hx
    have := hig_bd hc hx
    have : (n : Int) ≤ 7 := by omega
    omega
theorem exT_mem {c : cst} {n w S k : Nat} {p : asg} (hk : k ≤ 8) (h : p ∈ exT c n w S k) : p ∈ ex c (n + 1) w S := by
  unfold exT at h
  rw [List.mem_flatMap] at h
  obtain ⟨j, hj, h⟩ := h
  show p ∈ (List.range 8).flatMap _
  rw [List.mem_flatMap]
  exact ⟨j, List.mem_range.mpr (by have := List.mem_range.mp hj; omega), h⟩
theorem exT_len (c : cst) (n w S : Nat) : ∀ a b, a ≤ b → (exT c n w S a).length ≤ (exT c n w S b).length
  | a, 0, h => by rw [show a = 0 by omega]; exact Nat.le_refl _
  | a, b + 1, h => by
    by_cases q : a = b + 1
    · rw [q]; exact Nat.le_refl _
    · have := exT_len c n w S a b (by omega)
      rw [exT_s, List.length_append]
      omega
theorem exT_far {c : cst} (hc : cbd 1100000 c) {n w S k : Nat} (hn : n + 1 ≤ 7) (hk : k ≤ 8) : far (lowL (exT c n w S k)) ∧ far (higL (exT c n w S k)) := by
  constructor
  · intro x hx
    obtain ⟨⟨p, hp, rfl⟩, _⟩ := lowL_some.mp hx
    have := ex_bd hc (exT_mem hk hp)
    have : ((n + 1 : Nat) : Int) ≤ 7 := by omega
    omega
  · intro x hx
    obtain ⟨⟨p, hp, rfl⟩, _⟩ := higL_some.mp hx
    have := ex_bd hc (exT_mem hk hp)
    have : ((n + 1 : Nat) : Int) ≤ 7 := by omega
    omega
theorem settle_L {g : Nat} {T : tb} {s : sx_M} (hT : tb_wk T) (hg : gridIs g T s) {S : Nat} (hS : S < 2 ^ T.2.1) (hw : pcn S < T.1) (hr : ∀ j, j < T.2.1 → S.testBit j = false → rkE g T (S ||| 2 ^ j) s) : whT (f_X5_settle_L64 g (nI S) (nI (pcn S)) 0) (nI 0, c64 none, cH none, 0, s) = some (nI (exS T S).length, c64 (lowL (exS T S)), cH (higL (exS T S)), s) := by
  have h7 := hT.1
  have h8 := hT.2.1
  have hS2 : S < 256 := pw_256 h8 hS
  obtain ⟨n, hn⟩ : ∃ n, T.1 - pcn S = n + 1 := ⟨T.1 - pcn S - 1, by omega⟩
  have eS : exS T S = exT T.2.2 n (pcn S) S T.2.1 := by
    unfold exS
    rw [hn]
    exact ex_J (fun j hj => hT.2.2.2 (pcn S) j (by omega)) h8
  have hlen : ∀ k, k ≤ T.2.1 → (exT T.2.2 n (pcn S) S k).length ≤ 40320 := by
    intro k hk
    have h1 := exT_len T.2.2 n (pcn S) S k 8 (by omega)
    have h2 := ex_40 T.2.2 (n := n + 1) (w := pcn S) hS2 (by omega)
    rw [ex_s] at h2
    omega
  rw [eS]
  refine wh_for (fun k => (nI (exT T.2.2 n (pcn S) S k).length, c64 (lowL (exT T.2.2 n (pcn S) S k)), cH (higL (exT T.2.2 n (pcn S) S k)), nI k, s)) T.2.1 (fun k hk => ?_) ?_ rfl
  · have hat := f_at_in hT hg hw hk
    have hbt := nbit (show k < 31 by omega)
    have hlk := hlen k (by omega)
    simp only [f_X5_settle_L64, if_true, hg.2.1]
    simp (disch := omega) only [↓reduceIte, nI_lit, nI_add, pk_mul, nI_lt_T, nI_lt_F, nI_le_T, nI_le_F, nI_eq_T, nI_eq_F, nI_cl, le_F, le_T, nI_m_F, m_nI_F, nI_dn, m_lt, Option.bind_some, if_true, if_false, not_false_eq_true, not_true_eq_false, or_self, or_false, false_or, true_or, or_true, true_and, and_true, false_and, and_false, ↓bnd hat, hbt, nI_or]
    cases hb : S.testBit k with
    | true =>
      rw [if_pos (by rw [(or_bit S k).mpr hb]), exT_s, br_in hb, List.append_nil]
    | false =>
      have hne : S ||| 2 ^ k ≠ S := fun q => by rw [(or_bit S k).mp q] at hb; cases hb
      have hlt : S ||| 2 ^ k < 256 := or_256 hS2 (by omega)
      have hp := pcn_or hS2 (show k < 8 by omega) hb
      have hrk := hr k hk hb (by omega)
      have eL : exS T (S ||| 2 ^ k) = ex T.2.2 n (pcn S + 1) (S ||| 2 ^ k) := by
        unfold exS
        rw [hp, show T.1 - (pcn S + 1) = n by omega]
      rw [eL] at hrk
      have hl2 := ex_40 T.2.2 (n := n) (w := pcn S + 1) hlt (by omega)
      simp (disch := omega) only [↓reduceIte, nI_lit, nI_add, pk_mul, nI_lt_T, nI_lt_F, nI_le_T, nI_le_F, nI_eq_T, nI_eq_F, nI_cl, le_F, le_T, nI_m_F, m_nI_F, nI_dn, m_lt, Option.bind_some, if_true, if_false, not_false_eq_true, not_true_eq_false, or_self, or_false, false_or, true_or, or_true, true_and, and_true, false_and, and_false]
      cases hc : T.2.2 (pcn S) k with
      | none => rw [if_pos c64_n, exT_s, br_none hc, List.append_nil]
      | some x =>
        have hx := hT.2.2.1 _ _ x hc
        have e1 := br_some (rec := ex T.2.2 n (pcn S + 1)) hc hb
        simp (disch := omega) only [↓reduceIte, nI_lit, nI_add, pk_mul, nI_lt_T, nI_lt_F, nI_le_T, nI_le_F, nI_eq_T, nI_eq_F, nI_cl, le_F, le_T, nI_m_F, m_nI_F, nI_dn, m_lt, Option.bind_some, if_true, if_false, not_false_eq_true, not_true_eq_false, or_self, or_false, false_or, true_or, or_true, true_and, and_true, false_and, and_false, c64_s, jnv, hrk.1]
        by_cases h0 : (ex T.2.2 n (pcn S + 1) (S ||| 2 ^ k)).length = 0
        · rw [exT_s, e1, List.eq_nil_of_length_eq_zero h0]
          simp (disch := omega) only [↓reduceIte, nI_lit, nI_add, pk_mul, nI_lt_T, nI_lt_F, nI_le_T, nI_le_F, nI_eq_T, nI_eq_F, nI_cl, le_F, le_T, nI_m_F, m_nI_F, nI_dn, m_lt, Option.bind_some, if_true, if_false, not_false_eq_true, not_true_eq_false, or_self, or_false, false_or, true_or, or_true, true_and, and_true, false_and, and_false, List.length_nil]
          simp only [bx, List.map_nil, List.append_nil]
        · have hlh := hrk.2 (by omega)
          cases hlo : lowL (ex T.2.2 n (pcn S + 1) (S ||| 2 ^ k)) with
          | none => exact absurd (by rw [lowL_none.mp hlo]; rfl) h0
          | some lo =>
          cases hhi : higL (ex T.2.2 n (pcn S + 1) (S ||| 2 ^ k)) with
          | none => exact absurd (by rw [higL_none.mp hhi]; rfl) h0
          | some hi =>
          have b1 := (ex_far (wk_cbd hT) (show n ≤ 7 by omega)).1 lo hlo
          have b2 := (ex_far (wk_cbd hT) (show n ≤ 7 by omega)).2 hi hhi
          have b3 := exT_far (wk_cbd hT) (n := n) (w := pcn S) (S := S) (k := k) (by omega) (by omega)
          rw [hlo, hhi] at hlh
          have bl := low_bd (wk_cbd hT) hlo
          have bh := hig_bd (wk_cbd hT) hhi
          have hn7 : (n : Int) ≤ 6 := by omega
          have m1 := f_minJ (lowL (exT T.2.2 n (pcn S) S k)) (some (x + lo)) b3.1 (fun y hy => by cases hy; omega) s
          have m2 := f_maxJ (higL (exT T.2.2 n (pcn S) S k)) (x + hi) b3.2 (by omega) s
          rw [c64_s] at m1
          simp (disch := omega) only [↓reduceIte, nI_lit, nI_add, pk_mul, nI_lt_T, nI_lt_F, nI_le_T, nI_le_F, nI_eq_T, nI_eq_F, nI_cl, le_F, le_T, nI_m_F, m_nI_F, nI_dn, m_lt, Option.bind_some, if_true, if_false, not_false_eq_true, not_true_eq_false, or_self, or_false, false_or, true_or, or_true, true_and, and_true, false_and, and_false, hlh.1, hlh.2, c64_s, jJ_add, m1, m2]
          rw [exT_s, e1, List.length_append, lowL_app, higL_app, lowL_bx, higL_bx, hlo, hhi, bx_len]
          rfl
  · simp only [f_X5_settle_L64, if_true, hg.2.1]
    simp (disch := omega) only [↓reduceIte, nI_lit, nI_add, pk_mul, nI_lt_T, nI_lt_F, nI_le_T, nI_le_F, nI_eq_T, nI_eq_F, nI_cl, le_F, le_T, nI_m_F, m_nI_F, nI_dn, m_lt, Option.bind_some, if_true, if_false, not_false_eq_true, not_true_eq_false, or_self, or_false, false_or, true_or, or_true, true_and, and_true, false_and, and_false]
theorem f_settle {g : Nat} {T : tb} {s : sx_M} (hT : tb_wk T) (hg : gridIs g T s) {S : Nat} (hS : S < 2 ^ T.2.1) (hr : ∀ j, j < T.2.1 → S.testBit j = false → rkE g T (S ||| 2 ^ j) s) : ∃ (m : Int32) (l h : Int64), f_X5_settle g (nI S) (nI (pcn S)) s = some (wB (wB (wA s (g + 3) S m) (g + 4) S l) (g + 5) S h) ∧ (pcn S ≤ T.1 → m = nI (exS T S).length ∧ (0 < (exS T S).length → l = c64 (lowL (exS T S)) ∧ h = c64 (higL (exS T S)))) := by
  have h7 := hT.1
  have h8 := hT.2.1
  have hS2 : S < 256 := pw_256 h8 hS
  have hp := pcn_le S
  by_cases hw : pcn S < T.1
  · refine ⟨nI (exS T S).length, c64 (lowL (exS T S)), cH (higL (exS T S)), ?_, fun _ => ⟨rfl, fun h0 => ⟨rfl, ?_⟩⟩⟩
    · have := settle_L hT hg hS hw hr
      simp only [f_X5_settle, f_X5_settle_J16, f_X5_settle_J33, f_X5_settle_J46, f_X5_settle_J59, hg.1]
      rw [show (0 : Int32) = nI 0 from rfl] at this
      rw [c64_n, cH_n] at this
      simp (disch := omega) only [↓reduceIte, nI_lit, nI_add, pk_mul, nI_lt_T, nI_lt_F, nI_le_T, nI_le_F, nI_eq_T, nI_eq_F, nI_cl, le_F, le_T, nI_m_F, m_nI_F, nI_dn, m_lt, Option.bind_some, if_true, if_false, not_false_eq_true, not_true_eq_false, or_self, or_false, false_or, true_or, or_true, true_and, and_true, false_and, and_false, this]
    · cases hh : higL (exS T S) with
      | none => rw [higL_none.mp hh] at h0; simp at h0
      | some y => rfl
  · by_cases hw2 : pcn S = T.1
    · refine ⟨nI 1, 0, 0, ?_, fun _ => ?_⟩
      · have : whT (f_X5_settle_L64 g (nI S) (nI (pcn S)) (nI 1)) (nI 1, 0, 0, nI 0, s) = some (nI 1, 0, 0, s) := by
          rw [whT_eq]
          simp only [f_X5_settle_L64]
          simp (disch := omega) only [↓reduceIte, nI_lit, nI_add, pk_mul, nI_lt_T, nI_lt_F, nI_le_T, nI_le_F, nI_eq_T, nI_eq_F, nI_cl, le_F, le_T, nI_m_F, m_nI_F, nI_dn, m_lt, Option.bind_some, if_true, if_false, not_false_eq_true, not_true_eq_false, or_self, or_false, false_or, true_or, or_true, true_and, and_true, false_and, and_false]
          rfl
        simp only [f_X5_settle, f_X5_settle_J16, f_X5_settle_J33, f_X5_settle_J46, f_X5_settle_J59, hg.1]
        simp (disch := omega) only [↓reduceIte, nI_lit, nI_add, pk_mul, nI_lt_T, nI_lt_F, nI_le_T, nI_le_F, nI_eq_T, nI_eq_F, nI_cl, le_F, le_T, nI_m_F, m_nI_F, nI_dn, m_lt, Option.bind_some, if_true, if_false, not_false_eq_true, not_true_eq_false, or_self, or_false, false_or, true_or, or_true, true_and, and_true, false_and, and_false, this]
      · have e : exS T S = [([], 0)] := by
          unfold exS; rw [hw2, Nat.sub_self]; rfl
        rw [e]
        exact ⟨rfl, fun _ => ⟨rfl, rfl⟩⟩
    · refine ⟨nI 0, 0, 0, ?_, fun q => by omega⟩
      have : whT (f_X5_settle_L64 g (nI S) (nI (pcn S)) (nI 1)) (nI 0, 0, 0, nI 0, s) = some (nI 0, 0, 0, s) := by
        rw [whT_eq]
        simp only [f_X5_settle_L64]
        simp (disch := omega) only [↓reduceIte, nI_lit, nI_add, pk_mul, nI_lt_T, nI_lt_F, nI_le_T, nI_le_F, nI_eq_T, nI_eq_F, nI_cl, le_F, le_T, nI_m_F, m_nI_F, nI_dn, m_lt, Option.bind_some, if_true, if_false, not_false_eq_true, not_true_eq_false, or_self, or_false, false_or, true_or, or_true, true_and, and_true, false_and, and_false]
        rfl
      simp only [f_X5_settle, f_X5_settle_J16, f_X5_settle_J33, f_X5_settle_J46, f_X5_settle_J59, hg.1]
      simp (disch := omega) only [↓reduceIte, nI_lit, nI_add, pk_mul, nI_lt_T, nI_lt_F, nI_le_T, nI_le_F, nI_eq_T, nI_eq_F, nI_cl, le_F, le_T, nI_m_F, m_nI_F, nI_dn, m_lt, Option.bind_some, if_true, if_false, not_false_eq_true, not_true_eq_false, or_self, or_false, false_or, true_or, or_true, true_and, and_true, false_and, and_false, this]
/-- a loop that counts down -/
theorem ev_d {α β : Type} {f : α → Option (α ⊕ β)} (I : Nat → α → Prop) {Q : β → Prop} (H : ∀ k a, I (k + 1) a → Ev (f a) (Sum.elim (I k) Q)) (E : ∀ a, I 0 a → Ev (f a) (Sum.elim (fun _ => False) Q)) : ∀ n a, I n a → Ev (whT f a) Q
  | 0, a, h => by
    obtain ⟨r, e, hr⟩ := E a h
    rcases r with a' | b
    · exact hr.elim
    · exact ⟨b, by rw [whT_eq, e]; rfl, hr⟩
  | n + 1, a, h => by
    obtain ⟨r, e, hr⟩ := H n a h
    rcases r with a' | b
    · obtain ⟨b, e2, hb⟩ := ev_d I H E n a' hr
      exact ⟨b, by rw [whT_eq, e]; exact e2, hb⟩
    · exact ⟨b, by rw [whT_eq, e]; rfl, hr⟩
theorem nI_k1 (k : Nat) : nI (k + 1) - nI 1 = nI k := nI_pred k
theorem grid_eq {D : sx_D} {s s' : sx_M} (h : sx_eq D s s') {g : Nat} {T : tb} (h1 : ¬ D.1 g 1) (h2 : ¬ D.1 g 2) (h3 : ¬ D.2.2.2 (g + 1)) (hg : gridIs g T s) : gridIs g T s' :=
  ⟨(h.1 _ _ h1).trans hg.1, (h.1 _ _ h2).trans hg.2.1, fun w j hw hj => (h.2.2.2 _ _ h3).trans (hg.2.2 w j hw hj)⟩
/-- refresh: the ranks are those of the grid then -/
theorem f_refresh {g : Nat} {T : tb} {s : sx_M} (hT : tb_wk T) (hg : gridIs g T s) : Ev (f_X5_refresh g s) (fun s' => ranksIs g T s' ∧ gridIs g T s') := by
  have h7 := hT.1
  have h8 := hT.2.1
  have hpw : 2 ^ T.2.1 ≤ 256 := pw_le h8
  have hp0 : 1 ≤ 2 ^ T.2.1 := Nat.one_le_two_pow
  unfold f_X5_refresh
  rw [Ev_bind]
  simp only [Ev_some, hg.2.1]
  refine ev_d (fun k a => k ≤ 2 ^ T.2.1 ∧ a.1 = nI k - nI 1 ∧ gridIs g T a.2 ∧ ∀ S, k ≤ S → S < 2 ^ T.2.1 → rkE g T S a.2) ?_ ?_ (2 ^ T.2.1) _ ?_
  · rintro k ⟨a1, s1⟩ ⟨hk, ha, hg1, hr⟩
    simp only at ha hg1 hr
    subst ha
    have hk2 : k < 2 ^ T.2.1 := by omega
    obtain ⟨m, l, h, e, hm⟩ := f_settle hT hg1 hk2 (fun j hj hb => hr _ (by have := or_gt hb; omega) (or_lt hk2 hj))
    have hb := f_pcn (pw_256 h8 hk2) s1
    refine ⟨.inl (nI k - nI 1, wB (wB (wA s1 (g + 3) k m) (g + 4) k l) (g + 5) k h), ?_, ?_⟩
    · simp only [f_X5_refresh_L12, nI_k1]
      simp (disch := omega) only [↓reduceIte, nI_lit, nI_add, pk_mul, nI_lt_T, nI_lt_F, nI_le_T, nI_le_F, nI_eq_T, nI_eq_F, nI_cl, le_F, le_T, nI_m_F, m_nI_F, nI_dn, m_lt, Option.bind_some, if_true, if_false, not_false_eq_true, not_true_eq_false, or_self, or_false, false_or, true_or, or_true, true_and, and_true, false_and, and_false, hb, e, Int32.sub_eq_add_neg]
    · refine ⟨by omega, rfl, ⟨hg1.1, hg1.2.1, fun w j hw hj => ?_⟩, fun S hkS hS => ?_⟩
      · simp (disch := omega) only [rB_F, rB_wA]
        exact hg1.2.2 w j hw hj
      · by_cases q : S = k
        · subst q
          intro hp
          simp (disch := omega) only [rB_T, rB_F, rB_wA, rA_wB, rA_T]
          exact hm hp
        · intro hp
          simp (disch := omega) only [rB_F, rB_wA, rA_wB, rA_F]
          exact hr S (by omega) hS hp
  · rintro ⟨a1, s1⟩ ⟨hk, ha, hg1, hr⟩
    simp only at ha hg1 hr
    subst ha
    refine ⟨.inr s1, ?_, fun S hS => hr S (Nat.zero_le _) hS, hg1⟩
    simp only [f_X5_refresh_L12]
    rw [if_pos (by decide)]
  · refine ⟨Nat.le_refl _, ?_, hg, fun S h1 h2 => by omega⟩
    show (1 : Int32) <<< (nI T.2.1 &&& 31) - 1 = _
    rw [nI_bit (by omega)]
    rfl
