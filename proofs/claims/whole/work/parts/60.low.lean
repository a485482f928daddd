/-! WHAT THE LEAST SUM IS OF -/
theorem ex_lt8 {c : cst} : ∀ {n w S : Nat} {p : asg}, p ∈ ex c n w S → ∀ j, j ∈ p.1 → j < 8
  | 0, _, _, p, h, j, hj => by simp [ex] at h; rw [h] at hj; cases hj
  | n + 1, w, S, p, h, j, hj => by
    obtain ⟨i, x, q, hi, _, _, h3, rfl⟩ := mem_ex.mp h
    rcases List.mem_cons.mp hj with rfl | hj
    · exact hi
    · exact ex_lt8 h3 j hj
theorem cod_lt : ∀ (r : List Nat), (∀ j, j ∈ r → j < 8) → cod r < 8 ^ r.length
  | [], _ => by show 0 < 1; omega
  | j :: r, h => by
    have h1 := cod_lt r (fun i hi => h i (List.mem_cons_of_mem _ hi))
    have h2 := h j (List.mem_cons_self ..)
    show j * 8 ^ r.length + cod r < 8 ^ (r.length + 1)
    rw [Nat.pow_succ]
    have : j * 8 ^ r.length ≤ 7 * 8 ^ r.length := Nat.mul_le_mul_right _ (by omega)
    omega
theorem cod_dig : ∀ (r : List Nat) (i j : Nat), (∀ j, j ∈ r → j < 8) → r[i]? = some j → cod r / 8 ^ (r.length - 1 - i) % 8 = j
  | [], i, j, _, h => by simp at h
  | a :: r, 0, j, h, hi => by
    have hi : a = j := by simpa using hi
    subst hi
    have h1 := cod_lt r (fun i hi => h i (List.mem_cons_of_mem _ hi))
    have h2 := h a (List.mem_cons_self ..)
    show (a * 8 ^ r.length + cod r) / 8 ^ (r.length + 1 - 1 - 0) % 8 = a
    rw [show r.length + 1 - 1 - 0 = r.length by omega, Nat.add_comm, Nat.add_mul_div_right _ _ (Nat.pow_pos (by omega)), Nat.div_eq_of_lt h1]
    omega
  | a :: r, i + 1, j, h, hi => by
    have hi : r[i]? = some j := by simpa using hi
    have hl : i < r.length := (List.getElem?_eq_some_iff.mp hi).1
    have ih := cod_dig r i j (fun i hi => h i (List.mem_cons_of_mem _ hi)) hi
    show (a * 8 ^ r.length + cod r) / 8 ^ (r.length + 1 - 1 - (i + 1)) % 8 = j
    rw [show r.length + 1 - 1 - (i + 1) = r.length - 1 - i by omega]
    have e : 8 ^ r.length = 8 * 8 ^ i * 8 ^ (r.length - 1 - i) := by
      rw [show r.length = (i + 1) + (r.length - 1 - i) by omega, Nat.pow_add, Nat.pow_succ, show i + 1 + (r.length - 1 - i) - 1 - i = r.length - 1 - i by omega, Nat.mul_comm (8 ^ i) 8]
    rw [e, ← Nat.mul_assoc, Nat.add_comm, Nat.add_mul_div_right _ _ (Nat.pow_pos (by omega))]
    rw [show a * (8 * 8 ^ i) = 8 * (a * 8 ^ i) by rw [Nat.mul_left_comm]]
    omega
/-- barred pairs, as the row tells it -/
theorem okR_iff {R : Nat → Nat → Bool} : ∀ (r : List Nat) (w : Nat), okR R w r = true ↔ ∀ i j, r[i]? = some j → R (w + i) j = true
  | [], w => by simp [okR]
  | a :: r, w => by
    unfold okR
    rw [Bool.and_eq_true, okR_iff r (w + 1)]
    constructor
    · rintro ⟨h1, h2⟩ i j hi
      cases i with
      | zero =>
        have : a = j := by simpa using hi
        rw [← this]; exact h1
      | succ i =>
        have hi : r[i]? = some j := by simpa using hi
        have := h2 i j hi
        rwa [show w + 1 + i = w + (i + 1) by omega] at this
    · intro h
      refine ⟨h 0 a rfl, fun i j hi => ?_⟩
      have := h (i + 1) j (by simpa using hi)
      rwa [show w + (i + 1) = w + 1 + i by omega] at this
theorem lowL_fm {β : Type} {f g : β → List asg} (h : ∀ b, lowL (f b) = lowL (g b)) : ∀ L : List β, lowL (L.flatMap f) = lowL (L.flatMap g)
  | [] => rfl
  | a :: L => by rw [List.flatMap_cons, List.flatMap_cons, lowL_app, lowL_app, h a, lowL_fm h L]
/-! one worker left aside -/
theorem ex_congr {c c' : cst} : ∀ n w S, (∀ i j, i < n → c' (w + i) j = c (w + i) j) → ex c' n w S = ex c n w S
  | 0, _, _, _ => rfl
  | n + 1, w, S, h => by
    show (List.range 8).flatMap _ = (List.range 8).flatMap _
    congr 1
    funext j
    have h0 := h 0 j (by omega)
    rw [Nat.add_zero] at h0
    unfold br
    rw [h0]
    cases c w j with
    | none => rfl
    | some x =>
      simp only
      rw [ex_congr (c := c) (c' := c') n (w + 1) (S ||| 2 ^ j) (fun i j hi => by rw [show w + 1 + i = w + (i + 1) by omega]; exact h (i + 1) j (by omega))]
theorem ex_shift {c c' : cst} : ∀ n w v S, (∀ i j, i < n → c' (v + i) j = c (w + i) j) → ex c' n v S = ex c n w S
  | 0, _, _, _, _ => rfl
  | n + 1, w, v, S, h => by
    show (List.range 8).flatMap _ = (List.range 8).flatMap _
    congr 1
    funext j
    have h0 := h 0 j (by omega)
    rw [Nat.add_zero, Nat.add_zero] at h0
    unfold br
    rw [h0]
    cases c w j with
    | none => rfl
    | some x =>
      simp only
      rw [ex_shift (c := c) (c' := c') n (w + 1) (v + 1) (S ||| 2 ^ j) (fun i j hi => by rw [show v + 1 + i = v + (i + 1) by omega, show w + 1 + i = w + (i + 1) by omega]; exact h (i + 1) j (by omega))]
theorem exb_after (c : cst) {b : Nat} : ∀ n w S, b < w → exb c (some b) n w S = ex c n w S
  | 0, _, _, _ => rfl
  | n + 1, w, S, h => by
    show (List.range 8).flatMap _ = (List.range 8).flatMap _
    congr 1
    funext j
    unfold brb
    rw [if_neg (by intro q; cases q; omega)]
    congr 1
    funext S
    exact exb_after c n (w + 1) S (by omega)
theorem low_b0 (L : List asg) : lowL (bx 0 0 L) = lowL L := by
  rw [lowL_bx]
  cases lowL L with
  | none => rfl
  | some y => simp
/-- the costs without a worker -/
def cD (c : cst) (b : Nat) : cst := fun a j => if a < b then c a j else c (a + 1) j
theorem exb_low (c : cst) {b : Nat} : ∀ n w S, w ≤ b → b ≤ w + n → lowL (exb c (some b) (n + 1) w S) = lowL (ex (cD c b) n w S)
  | n, w, S, h1, h2 => by
    by_cases q : w = b
    · subst q
      have e : exb c (some w) (n + 1) w S = bx 0 0 (exb c (some w) n (w + 1) S) := by
        show (List.range 8).flatMap _ = _
        rw [show List.range 8 = [0, 1, 2, 3, 4, 5, 6, 7] from rfl]
        simp [brb]
      rw [e, low_b0, exb_after c n (w + 1) S (by omega)]
      congr 1
      symm
      exact ex_shift n (w + 1) w S (fun i j _ => by
        unfold cD
        rw [if_neg (by omega)]
        congr 1; omega)
    · cases n with
      | zero => omega
      | succ n =>
        show lowL ((List.range 8).flatMap _) = lowL ((List.range 8).flatMap _)
        refine lowL_fm (fun j => ?_) _
        unfold brb
        rw [if_neg (by intro z; cases z; omega)]
        have hc : cD c b w j = c w j := by unfold cD; rw [if_pos (by omega)]
        unfold br
        rw [hc]
        cases c w j with
        | none => rfl
        | some x =>
          simp only
          split
          · rfl
          · rw [lowL_bx, lowL_bx, exb_low c n (w + 1) (S ||| 2 ^ j) (by omega) (by omega)]
/-! the first of least sum -/
def fmin (L : List asg) : Option asg := L.find? (fun p => lowL L == some p.2)
theorem find_bx (x : Int) (j : Nat) (v : Int) (L : List asg) : (bx x j L).find? (fun p => p.2 == x + v) = (L.find? (fun p => p.2 == v)).map (fun p => (j :: p.1, x + p.2)) := by
  induction L with
  | nil => rfl
  | cons p L ih =>
    show ((j :: p.1, x + p.2) :: bx x j L).find? _ = _
    rw [List.find?_cons, List.find?_cons]
    by_cases q : p.2 = v
    · simp [q]
    · have : ((x + p.2 == x + v) = false) := by simp; omega
      have h2 : ((p.2 == v) = false) := by simp [q]
      rw [h2]
      simp only
      rw [show (((j :: p.1, x + p.2) : asg).2 == x + v) = false from this]
      exact ih
theorem fmin_eq {L : List asg} {v : Int} (h : lowL L = some v) : fmin L = L.find? (fun p => p.2 == v) := by
  unfold fmin
  rw [h]
  congr 1
  funext p
  rw [Bool.eq_iff_iff]
  simp
  omega
theorem fmin_some {L : List asg} {v : Int} (h : lowL L = some v) : ∃ p, fmin L = some p ∧ p ∈ L ∧ p.2 = v := by
  rw [fmin_eq h]
  obtain ⟨⟨p, hp, hv⟩, _⟩ := lowL_some.mp h
  cases hf : L.find? (fun p => p.2 == v) with
  | none =>
    have := List.find?_eq_none.mp hf p hp
    simp [hv] at this
  | some q =>
    exact ⟨q, rfl, List.mem_of_find?_eq_some hf, by have := List.find?_some hf; simpa using this⟩
/-- whether a job leads on to the least sum -/
def goesL (c : cst) (n w S : Nat) (v : Int) (j : Nat) : Prop := ∃ x l, c w j = some x ∧ S.testBit j = false ∧ lowL (ex c n (w + 1) (S ||| 2 ^ j)) = some l ∧ x + l = v
theorem br_find {c : cst} {n w S : Nat} {v : Int} (hv : lowL (ex c (n + 1) w S) = some v) {j : Nat} (hj : j < 8) : ¬ goesL c n w S v j → (br c (ex c n (w + 1)) w S j).find? (fun p => p.2 == v) = none := by
  intro hn
  rw [List.find?_eq_none]
  intro p hp hpv
  have hpv : p.2 = v := by simpa using hpv
  obtain ⟨x, q, h1, h2, h3, rfl⟩ := mem_br.mp hp
  have hpv : x + q.2 = v := hpv
  apply hn
  cases hl : lowL (ex c n (w + 1) (S ||| 2 ^ j)) with
  | none => rw [lowL_none.mp hl] at h3; cases h3
  | some l =>
    refine ⟨x, l, h1, h2, hl, ?_⟩
    obtain ⟨⟨p0, hp0, hp0v⟩, hmin⟩ := lowL_some.mp hl
    have a1 := hmin q h3
    have a2 := (lowL_some.mp hv).2 (j :: p0.1, x + p0.2) (mem_ex.mpr ⟨j, x, p0, hj, h1, h2, hp0, rfl⟩)
    have a2 : v ≤ x + p0.2 := a2
    omega
theorem fs_first {β : Type} {f : Nat → Option β} {r : β} : ∀ n j, j < n → (∀ i, i < j → f i = none) → f j = some r → (List.range n).findSome? f = some r
  | 0, j, h, _, _ => by omega
  | n + 1, j, h, h1, h2 => by
    rw [List.range_succ, List.findSome?_append]
    by_cases q : j = n
    · subst q
      have : (List.range j).findSome? f = none := by
        rw [List.findSome?_eq_none_iff]
        intro i hi
        exact h1 i (List.mem_range.mp hi)
      rw [this]
      simp [h2]
    · rw [fs_first n j (by omega) h1 h2]; rfl
theorem fmin_step {c : cst} {n w S : Nat} {v : Int} (hv : lowL (ex c (n + 1) w S) = some v) {j : Nat} (hj : j < 8) (hg : goesL c n w S v j) (hf : ∀ i, i < j → ¬ goesL c n w S v i) : ∃ x q, c w j = some x ∧ S.testBit j = false ∧ fmin (ex c n (w + 1) (S ||| 2 ^ j)) = some q ∧ fmin (ex c (n + 1) w S) = some (j :: q.1, x + q.2) := by
  obtain ⟨x, l, h1, h2, h3, h4⟩ := hg
  obtain ⟨q, hq, _, _⟩ := fmin_some h3
  refine ⟨x, q, h1, h2, hq, ?_⟩
  rw [fmin_eq hv]
  show ((List.range 8).flatMap _).find? _ = _
  rw [List.find?_flatMap]
  refine fs_first 8 j hj (fun i hi => br_find hv (by omega) (hf i hi)) ?_
  rw [br_some h1 h2, ← h4, find_bx, ← fmin_eq h3, hq]; rfl
theorem goes_ex {c : cst} {n w S : Nat} {v : Int} (hv : lowL (ex c (n + 1) w S) = some v) : ∃ j, j < 8 ∧ goesL c n w S v j := by
  obtain ⟨⟨p, hp, hpv⟩, hmin⟩ := lowL_some.mp hv
  obtain ⟨j, x, q, hj, h1, h2, h3, rfl⟩ := mem_ex.mp hp
  refine ⟨j, hj, ?_⟩
  cases hl : lowL (ex c n (w + 1) (S ||| 2 ^ j)) with
  | none => rw [lowL_none.mp hl] at h3; cases h3
  | some l =>
    refine ⟨x, l, h1, h2, hl, ?_⟩
    obtain ⟨⟨p0, hp0, hp0v⟩, hm0⟩ := lowL_some.mp hl
    have a1 := hm0 q h3
    have a2 := hmin (j :: p0.1, x + p0.2) (mem_ex.mpr ⟨j, x, p0, hj, h1, h2, hp0, rfl⟩)
    have a2 : v ≤ x + p0.2 := a2
    have hpv : x + q.2 = v := hpv
    omega
/-! the reference's best index -/
def isB (P : asg → Bool) (L : List asg) (i : Nat) : Option Nat → Prop
  | none => ∀ m q, m < i → L[m]? = some q → P q = false
  | some k => ∃ p, k < i ∧ L[k]? = some p ∧ P p = true ∧ ∀ m q, m < i → L[m]? = some q → P q = true → p.2 ≤ q.2 ∧ (m < k → p.2 < q.2)
theorem isB_none {P : asg → Bool} {L : List asg} (h : isB P L L.length none) : lowL (L.filter P) = none := by
  rw [lowL_none, List.filter_eq_nil_iff]
  intro p hp
  obtain ⟨m, hm⟩ := List.getElem?_of_mem hp
  have := h m p (List.getElem?_eq_some_iff.mp hm).1 hm
  simp [this]
theorem isB_some {P : asg → Bool} {L : List asg} {k : Nat} (h : isB P L L.length (some k)) : ∃ p, L[k]? = some p ∧ P p = true ∧ lowL (L.filter P) = some p.2 ∧ (P = (fun _ => true) → fmin L = some p) := by
  obtain ⟨p, hk, hp, hP, hm⟩ := h
  refine ⟨p, hp, hP, ?_, fun hPt => ?_⟩
  · rw [lowL_some]
    refine ⟨⟨p, List.mem_filter.mpr ⟨List.mem_of_getElem? hp, hP⟩, rfl⟩, fun q hq => ?_⟩
    obtain ⟨hq1, hq2⟩ := List.mem_filter.mp hq
    obtain ⟨m, hmq⟩ := List.getElem?_of_mem hq1
    exact (hm m q (List.getElem?_eq_some_iff.mp hmq).1 hmq hq2).1
  · have hlow : lowL L = some p.2 := by
      rw [lowL_some]
      refine ⟨⟨p, List.mem_of_getElem? hp, rfl⟩, fun q hq => ?_⟩
      obtain ⟨m, hmq⟩ := List.getElem?_of_mem hq
      exact (hm m q (List.getElem?_eq_some_iff.mp hmq).1 hmq (by rw [hPt])).1
    rw [fmin_eq hlow, List.find?_eq_some_iff_getElem]
    obtain ⟨hk', hpe⟩ := List.getElem?_eq_some_iff.mp hp
    refine ⟨by simp, k, hk', hpe, fun m hmk => ?_⟩
    have := (hm m L[m] (by omega) (List.getElem?_eq_getElem (by omega)) (by rw [hPt])).2 hmk
    simp
    omega
