/-! THE REFERENCE GOES THROUGH ALL: one worker may be left aside -/
def cn (c : cst) (bo : Option Nat) (w S j : Nat) : Bool := if bo = some w then j == 0 else (c w j).isSome && !S.testBit j
def brb (c : cst) (bo : Option Nat) (rec : Nat → List asg) (w S j : Nat) : List asg := if bo = some w then (if j = 0 then bx 0 0 (rec S) else []) else br c rec w S j
def exb (c : cst) (bo : Option Nat) : Nat → Nat → Nat → List asg
  | 0, _, _ => [([], 0)]
  | n + 1, w, S => (List.range 8).flatMap (brb c bo (exb c bo n (w + 1)) w S)
/-- from a job on -/
def exF (c : cst) (bo : Option Nat) (n w S j0 m : Nat) : List asg := (List.range' j0 m).flatMap (brb c bo (exb c bo n (w + 1)) w S)
theorem exb_s (c : cst) (bo : Option Nat) (n w S : Nat) : exb c bo (n + 1) w S = exF c bo n w S 0 8 := by
  show (List.range 8).flatMap _ = _
  rw [List.range_eq_range']; rfl
theorem exF_s (c : cst) (bo : Option Nat) (n w S j0 m : Nat) : exF c bo n w S j0 (m + 1) = brb c bo (exb c bo n (w + 1)) w S j0 ++ exF c bo n w S (j0 + 1) m := by
  unfold exF
  rw [List.range'_succ, List.flatMap_cons]
theorem brb_F {c : cst} {bo : Option Nat} {rec : Nat → List asg} {w S j : Nat} (h : cn c bo w S j = false) : brb c bo rec w S j = [] := by
  unfold cn at h
  unfold brb
  by_cases hb : bo = some w
  · rw [if_pos hb] at h ⊢
    rw [if_neg (by intro q; rw [q] at h; cases h)]
  · rw [if_neg hb] at h ⊢
    cases hc : c w j with
    | none => exact br_none hc
    | some x =>
      rw [hc] at h
      exact br_in (by simpa using h)
theorem brb_b {c : cst} {bo : Option Nat} {rec : Nat → List asg} {w S j : Nat} (hb : bo = some w) (h : cn c bo w S j = true) : j = 0 ∧ brb c bo rec w S j = bx 0 0 (rec S) := by
  unfold cn at h
  rw [if_pos hb] at h
  have : j = 0 := by simpa using h
  refine ⟨this, ?_⟩
  unfold brb
  rw [if_pos hb, if_pos this]
theorem brb_n {c : cst} {bo : Option Nat} {rec : Nat → List asg} {w S j : Nat} (hb : ¬ bo = some w) (h : cn c bo w S j = true) : ∃ y, c w j = some y ∧ S.testBit j = false ∧ brb c bo rec w S j = bx y j (rec (S ||| 2 ^ j)) := by
  unfold cn at h
  rw [if_neg hb] at h
  cases hc : c w j with
  | none => rw [hc] at h; cases h
  | some y =>
    rw [hc] at h
    have h2 : S.testBit j = false := by simpa using h
    refine ⟨y, rfl, h2, ?_⟩
    unfold brb
    rw [if_neg hb, br_some hc h2]
theorem exb_none (c : cst) : ∀ n w S, exb c none n w S = ex c n w S
  | 0, _, _ => rfl
  | n + 1, w, S => by
    show (List.range 8).flatMap _ = (List.range 8).flatMap _
    congr 1
    funext j
    unfold brb
    rw [if_neg (by intro q; cases q)]
    congr 1
    funext S
    exact exb_none c n (w + 1) S
theorem exb_row {c : cst} {bo : Option Nat} : ∀ {n w S : Nat} {p : asg}, p ∈ exb c bo n w S → p.1.length = n
  | 0, _, _, p, h => by simp [exb] at h; rw [h]; rfl
  | n + 1, w, S, p, h => by
    have h : p ∈ (List.range 8).flatMap _ := h
    rw [List.mem_flatMap] at h
    obtain ⟨j, hj, h⟩ := h
    cases hc : cn c bo w S j with
    | false => rw [brb_F hc] at h; cases h
    | true =>
      by_cases hb : bo = some w
      · rw [(brb_b hb hc).2] at h
        obtain ⟨q, hq, rfl⟩ := mem_bx.mp h
        simp [exb_row hq]
      · obtain ⟨y, _, _, e⟩ := brb_n (rec := exb c bo n (w + 1)) hb hc
        rw [e] at h
        obtain ⟨q, hq, rfl⟩ := mem_bx.mp h
        simp [exb_row hq]
theorem ffc_up : ∀ m n, n < m → ffc m n ≤ ffc m (n + 1)
  | m, 0, h => by show 1 ≤ m * 1; omega
  | m, n + 1, h => Nat.mul_le_mul (Nat.le_refl m) (ffc_up (m - 1) n (by omega))
theorem exb_len (c : cst) (bo : Option Nat) : ∀ n w S, S < 256 → n < frn S → (exb c bo n w S).length ≤ ffc (frn S) n
  | 0, w, S, _, _ => by simp [exb, ffc]
  | n + 1, w, S, hS, hn => by
    by_cases hb : bo = some w
    · have e : exb c bo (n + 1) w S = bx 0 0 (exb c bo n (w + 1) S) := by
        show (List.range 8).flatMap _ = _
        rw [show List.range 8 = [0, 1, 2, 3, 4, 5, 6, 7] from rfl]
        simp [brb, hb]
      rw [e, bx_len]
      exact Nat.le_trans (exb_len c bo n (w + 1) S hS (by omega)) (ffc_up _ _ (by omega))
    · refine fm_len (List.range 8) _ (fun j => !S.testBit j) (ffc (frn S - 1) n) (fun j hj => ?_)
      have hj8 : j < 8 := List.mem_range.mp hj
      cases hc : cn c bo w S j with
      | false => rw [brb_F hc]; simp
      | true =>
        obtain ⟨y, _, h2, e⟩ := brb_n (rec := exb c bo n (w + 1)) hb hc
        rw [e, bx_len]
        have h3 := frn_or hS hj8 h2
        have h1 := exb_len c bo n (w + 1) (S ||| 2 ^ j) (or_256 hS hj8) (by omega)
        rw [show frn (S ||| 2 ^ j) = frn S - 1 by omega] at h1
        simpa [h2] using h1
theorem exb_40 (c : cst) (bo : Option Nat) {n : Nat} (hn : n ≤ 7) : (exb c bo n 0 0).length ≤ 40320 := by
  have h := exb_len c bo n 0 0 (by omega) (by have : frn 0 = 8 := by decide
                                              omega)
  have : frn 0 = 8 := by decide
  rw [this] at h
  exact Nat.le_trans h (ffc_le hn)
/-- a row as a number -/
def cod : List Nat → Nat
  | [] => 0
  | j :: r => j * 8 ^ r.length + cod r
def enc (P n : Nat) (x : Int) (L : List asg) : List (Nat × Int) := L.map (fun p => (P * 8 ^ n + cod p.1, x + p.2))
theorem enc_bx {P n : Nat} {x y : Int} {j : Nat} {L : List asg} (h : ∀ p, p ∈ L → p.1.length = n) : enc P (n + 1) x (bx y j L) = enc (8 * P + j) n (x + y) L := by
  unfold enc bx
  rw [List.map_map]
  apply List.map_congr_left
  intro p hp
  have := h p hp
  simp only [Function.comp, cod, this]
  rw [Nat.pow_succ, Nat.add_mul, Nat.add_assoc, Int.add_assoc]
  congr 2
  rw [Nat.mul_comm (8 ^ n) 8, ← Nat.mul_assoc, Nat.mul_comm P 8]
theorem enc_app (P n : Nat) (x : Int) (L M : List asg) : enc P n x (L ++ M) = enc P n x L ++ enc P n x M := by simp [enc]
def gtD : sx_D := (fun o k => o = 58 ∧ k = 15, fun _ _ => False, fun o => o = 63 ∨ o = 64 ∨ o = 65, fun _ => False)
/-- what came behind the first a -/
def ap (a : Nat) (L : List (Nat × Int)) (s s' : sx_M) : Prop := (∀ k, k < a → rA s' 63 k = rA s 63 k ∧ rA s' 64 k = rA s 64 k) ∧ (∀ i p, L[i]? = some p → rA s' 63 (a + i) = nI p.1 ∧ rA s' 64 (a + i) = iI p.2) ∧ rI s' 58 15 = nI (a + L.length) ∧ sx_eq gtD s s'
theorem ap_tr {a : Nat} {L M : List (Nat × Int)} {s s1 s2 : sx_M} (h : ap a L s s1) (h2 : ap (a + L.length) M s1 s2) : ap a (L ++ M) s s2 := by
  refine ⟨fun k hk => ?_, fun i p hi => ?_, ?_, sx_tr h.2.2.2 h2.2.2.2⟩
  · have e1 := h.1 k hk
    have e2 := h2.1 k (by omega)
    exact ⟨e2.1.trans e1.1, e2.2.trans e1.2⟩
  · by_cases hl : i < L.length
    · rw [List.getElem?_append_left hl] at hi
      have e1 := h.2.1 i p hi
      have e2 := h2.1 (a + i) (by omega)
      exact ⟨e2.1.trans e1.1, e2.2.trans e1.2⟩
    · rw [List.getElem?_append_right (by omega)] at hi
      have e2 := h2.2.1 (i - L.length) p hi
      rw [show a + L.length + (i - L.length) = a + i by omega] at e2
      exact e2
  · rw [h2.2.2.1, List.length_append]
    congr 1
    omega
theorem ap_nil {a : Nat} {s s' : sx_M} (h : ∀ k, rA s' 63 k = rA s 63 k ∧ rA s' 64 k = rA s 64 k) (h1 : rI s' 58 15 = nI a) (h2 : sx_eq gtD s s') : ap a [] s s' :=
  ⟨fun k _ => h k, fun i p hi => by simp at hi, h1, h2⟩
theorem tab_eq {D : sx_D} {s s' : sx_M} (h : sx_eq D s s') {a o : Nat} {T : tb} (h1 : ¬ D.2.2.1 a) (hg : tabIs a o T s) : tabIs a o T s' :=
  ⟨(h.2.2.1 _ _ h1).trans hg.1, (h.2.2.1 _ _ h1).trans hg.2.1, fun w j hw hj => (h.2.2.1 _ _ h1).trans (hg.2.2 w j hw hj)⟩
theorem tab_g {s s' : sx_M} (h : sx_eq gtD s s') {T : tb} (hg : tabIs 59 0 T s) : tabIs 59 0 T s' := tab_eq h (by show ¬ (59 = 63 ∨ 59 = 64 ∨ 59 = 65); omega) hg
theorem nI_shl {a k : Nat} (hk : k < 32) (h : a * 2 ^ k < 2147483648) : nI a <<< (nI k &&& nI 31) = nI (a * 2 ^ k) := by
  refine pk_shlN _ k ?_ (by omega)
  have : ∀ k, k < 32 → ((nI k &&& nI 31).toBitVec.smod 32).toNat = k := by decide
  exact this k hk
theorem nI_shr' {S j : Nat} (hS : S < 2147483648) (h : j < 32) : nI S >>> (nI j &&& nI 31) = nI (S / 2 ^ j) := nI_shr hS h
theorem nI_has' {S j : Nat} (hS : S < 2147483648) (h : j < 32) : (nI S >>> (nI j &&& nI 31)) &&& nI 1 = nI (if S.testBit j then 1 else 0) := nI_has hS h
theorem nI_sb {a b : Nat} (h : b ≤ a) : nI a - nI b = nI (a - b) := pk_sub h
theorem and_256 {V S : Nat} (h : V < 256) : V ^^^ (V &&& S) < 256 := Nat.xor_lt_two_pow (n := 8) h (Nat.lt_of_le_of_lt Nat.and_le_left h)
theorem tb_andn (V S j : Nat) : (V ^^^ (V &&& S)).testBit j = (V.testBit j && !S.testBit j) := by
  rw [Nat.testBit_xor, Nat.testBit_and]
  cases V.testBit j <;> cases S.testBit j <;> rfl
def cV (T : tb) (V : Nat) : cst := cR (fun _ j => V.testBit j) T.2.2
theorem f_canTake {T : tb} {s : sx_M} (hT : tb_ok T) (hg : tabIs 59 0 T s) {V S w j : Nat} {bo : Option Nat} (hV : V < 2 ^ T.2.1) (hw : w < T.1) (hj : j < 8) (hbo : ∀ b, bo = some b → b < 7) : f_X12_canTake (nI w) (nI j) (nI V &&& (nI S ^^^ (-1 : Int32))) (oI bo) s = some (nI (if cn (cV T V) bo w S j then 1 else 0), s) := by
  have h7 := hT.1
  have h8 := hT.2.1
  have hV2 := pw_256 h8 hV
  unfold f_X12_canTake cn
  by_cases hb : bo = some w
  · subst hb
    rw [oI_s, if_pos rfl, if_pos rfl]
    by_cases h0 : j = 0
    · subst h0; rfl
    · simp (disch := omega) only [↓reduceIte, nI_lit, nI_add, pk_mul, nI_lt_T, nI_lt_F, nI_le_T, nI_le_F, nI_eq_T, nI_eq_F, nI_cl, le_F, le_T, nI_m_F, m_nI_F, nI_dn, m_lt, Option.bind_some, if_true, if_false, not_false_eq_true, not_true_eq_false, or_self, or_false, false_or, true_or, or_true, true_and, and_true, false_and, and_false]
      simp [h0]
  · have e1 : ¬ nI w = oI bo := by
      cases bo with
      | none => rw [oI_n, nI_m_F (by omega)]; exact fun q => q
      | some b =>
        have := hbo b rfl
        rw [oI_s, nI_eq_F (fun q => hb (by rw [q])) (by omega) (by omega)]
        exact fun q => q
    rw [if_neg e1, if_neg hb, nI_andn]
    have hlt := and_256 (S := S) hV2
    have hh := nI_has' (j := j) (S := V ^^^ (V &&& S)) (by omega) (by omega)
    unfold f_X12_has
    simp (disch := omega) only [↓reduceIte, nI_lit, nI_add, pk_mul, nI_lt_T, nI_lt_F, nI_le_T, nI_le_F, nI_eq_T, nI_eq_F, nI_cl, le_F, le_T, nI_m_F, m_nI_F, nI_dn, m_lt, Option.bind_some, if_true, if_false, not_false_eq_true, not_true_eq_false, or_self, or_false, false_or, true_or, or_true, true_and, and_true, false_and, and_false, hh]
    rw [tb_andn]
    unfold cV cR
    cases hv : V.testBit j with
    | false => simp only [hv, Bool.false_and, Bool.false_eq_true, if_false, Option.isSome_none]; rfl
    | true =>
      have hjJ : j < T.2.1 := Nat.lt_of_not_le (fun q => by
        have := Nat.testBit_lt_two_pow (Nat.lt_of_lt_of_le hV (pw_le q))
        rw [this] at hv; cases hv)
      cases hs : S.testBit j with
      | true => simp only [hv, Bool.not_true, Bool.and_false, Bool.false_eq_true, if_false]; rfl
      | false =>
        have hc := f_cost_in hT hg hw hjJ
        simp only [hv, Bool.not_false, Bool.and_self, Bool.and_true, if_true]
        simp (disch := omega) only [↓reduceIte, nI_lit, nI_add, pk_mul, nI_lt_T, nI_lt_F, nI_le_T, nI_le_F, nI_eq_T, nI_eq_F, nI_cl, le_F, le_T, nI_m_F, m_nI_F, nI_dn, m_lt, Option.bind_some, if_true, if_false, not_false_eq_true, not_true_eq_false, or_self, or_false, false_or, true_or, or_true, true_and, and_true, false_and, and_false, hc]
        cases hcc : T.2.2 w j with
        | none => simp (disch := omega) only [↓reduceIte, nI_lit, nI_add, pk_mul, nI_lt_T, nI_lt_F, nI_le_T, nI_le_F, nI_eq_T, nI_eq_F, nI_cl, le_F, le_T, nI_m_F, m_nI_F, nI_dn, m_lt, Option.bind_some, if_true, if_false, not_false_eq_true, not_true_eq_false, or_self, or_false, false_or, true_or, or_true, true_and, and_true, false_and, and_false, c32_N, Option.isSome_none, Bool.false_eq_true]
        | some y =>
          have := hT.2.2.1 _ _ y hcc
          simp (disch := omega) only [↓reduceIte, nI_lit, nI_add, pk_mul, nI_lt_T, nI_lt_F, nI_le_T, nI_le_F, nI_eq_T, nI_eq_F, nI_cl, le_F, le_T, nI_m_F, m_nI_F, nI_dn, m_lt, Option.bind_some, if_true, if_false, not_false_eq_true, not_true_eq_false, or_self, or_false, false_or, true_or, or_true, true_and, and_true, false_and, and_false, c32_s, inv_N, Option.isSome_some]
theorem gt_find {T : tb} {s : sx_M} (hT : tb_ok T) (hg : tabIs 59 0 T s) {V S w : Nat} {bo : Option Nat} (hV : V < 2 ^ T.2.1) (hw : w < T.1) (hbo : ∀ b, bo = some b → b < 7) (u1 u2 u3 u4 : Int32) : ∀ m j0, j0 + m = 8 → ∃ j1, j0 ≤ j1 ∧ j1 ≤ 8 ∧ (∀ j, j0 ≤ j → j < j1 → cn (cV T V) bo w S j = false) ∧ (j1 < 8 → cn (cV T V) bo w S j1 = true) ∧ whT (f_X12_goesThrough_L132 u1 u2 (nI V) (oI bo) (nI w) (nI S) u3 u4) (nI j0, s) = some (nI j1, s)
  | 0, j0, h => ⟨j0, by omega, by omega, fun j h1 h2 => by omega, fun h => by omega, by
      rw [whT_eq]
      simp only [f_X12_goesThrough_L132]
      simp (disch := omega) only [↓reduceIte, nI_lit, nI_add, pk_mul, nI_lt_T, nI_lt_F, nI_le_T, nI_le_F, nI_eq_T, nI_eq_F, nI_cl, le_F, le_T, nI_m_F, m_nI_F, nI_dn, m_lt, Option.bind_some, if_true, if_false, not_false_eq_true, not_true_eq_false, or_self, or_false, false_or, true_or, or_true, true_and, and_true, false_and, and_false]
      rfl⟩
  | m + 1, j0, h => by
    have hc := f_canTake hT hg (S := S) hV hw (show j0 < 8 by omega) hbo
    cases hcn : cn (cV T V) bo w S j0 with
    | true =>
      refine ⟨j0, by omega, by omega, fun j h1 h2 => by omega, fun _ => hcn, ?_⟩
      rw [hcn] at hc
      rw [whT_eq]
      simp only [f_X12_goesThrough_L132, hc]
      simp (disch := omega) only [↓reduceIte, nI_lit, nI_add, pk_mul, nI_lt_T, nI_lt_F, nI_le_T, nI_le_F, nI_eq_T, nI_eq_F, nI_cl, le_F, le_T, nI_m_F, m_nI_F, nI_dn, m_lt, Option.bind_some, if_true, if_false, not_false_eq_true, not_true_eq_false, or_self, or_false, false_or, true_or, or_true, true_and, and_true, false_and, and_false]
      rfl
    | false =>
      obtain ⟨j1, h1, h2, h3, h4, h5⟩ := gt_find hT hg hV hw hbo u1 u2 u3 u4 m (j0 + 1) (by omega)
      refine ⟨j1, by omega, h2, fun j q1 q2 => ?_, h4, ?_⟩
      · by_cases q : j = j0
        · rw [q]; exact hcn
        · exact h3 j (by omega) q2
      · rw [hcn] at hc
        rw [whT_eq]
        simp only [f_X12_goesThrough_L132, hc]
        simp (disch := omega) only [↓reduceIte, nI_lit, nI_add, pk_mul, nI_lt_T, nI_lt_F, nI_le_T, nI_le_F, nI_eq_T, nI_eq_F, nI_cl, le_F, le_T, nI_m_F, m_nI_F, nI_dn, m_lt, Option.bind_some, if_true, if_false, not_false_eq_true, not_true_eq_false, or_self, or_false, false_or, true_or, or_true, true_and, and_true, false_and, and_false]
        simp only [Bool.false_eq_true, if_false]
        simp (disch := omega) only [↓reduceIte, nI_lit, nI_add, pk_mul, nI_lt_T, nI_lt_F, nI_le_T, nI_le_F, nI_eq_T, nI_eq_F, nI_cl, le_F, le_T, nI_m_F, m_nI_F, nI_dn, m_lt, Option.bind_some, if_true, if_false, not_false_eq_true, not_true_eq_false, or_self, or_false, false_or, true_or, or_true, true_and, and_true, false_and, and_false]
        exact h5
theorem exF_skip {c : cst} {bo : Option Nat} {n w S : Nat} : ∀ d j0 m, (∀ j, j0 ≤ j → j < j0 + d → cn c bo w S j = false) → exF c bo n w S j0 (d + m) = exF c bo n w S (j0 + d) m
  | 0, j0, m, _ => by rw [Nat.zero_add, Nat.add_zero]
  | d + 1, j0, m, h => by
    rw [show d + 1 + m = (d + m) + 1 by omega, exF_s, brb_F (h j0 (by omega) (by omega)), List.nil_append, exF_skip d (j0 + 1) m (fun j q1 q2 => h j (by omega) (by omega)), show j0 + 1 + d = j0 + (d + 1) by omega]
theorem p8 (n : Nat) : 2 ^ (3 * n) = 8 ^ n := by rw [Nat.pow_mul]
theorem or_8 {P j n : Nat} (hj : j < 8) : P * 8 ^ (n + 1) ||| j * 8 ^ n = (8 * P + j) * 8 ^ n := by
  rw [← p8, ← p8, show P * 2 ^ (3 * (n + 1)) = (P * 8) * 2 ^ (3 * n) by rw [Nat.mul_assoc, show (8 : Nat) * 2 ^ (3 * n) = 2 ^ (3 * (n + 1)) by rw [show 3 * (n + 1) = 3 * n + 3 by omega, Nat.pow_add]; omega]]
  rw [← Nat.shiftLeft_eq, ← Nat.shiftLeft_eq, ← Nat.shiftLeft_or_distrib, Nat.shiftLeft_eq]
  congr 1
  have := Nat.two_pow_add_eq_or_of_lt (i := 3) (b := j) hj P
  rw [show P * 8 = 2 ^ 3 * P by omega, ← this]
theorem unor {S j : Nat} (hS : S < 256) (hj : j < 8) (h : S.testBit j = false) : (S ||| 2 ^ j) ^^^ ((S ||| 2 ^ j) &&& 2 ^ j) = S := by
  have : ∀ S, S < 256 → ∀ j, j < 8 → S.testBit j = false → (S ||| 2 ^ j) ^^^ ((S ||| 2 ^ j) &&& 2 ^ j) = S := by decide +kernel
  exact this S hS j hj h
