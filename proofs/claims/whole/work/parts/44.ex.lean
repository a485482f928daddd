/-! ALL ASSIGNMENTS that go on from a set of taken jobs, by their rows: the jobs and their sum -/
abbrev asg : Type := List Nat × Int
abbrev cst : Type := Nat → Nat → Option Int
def bx (x : Int) (j : Nat) (L : List asg) : List asg := L.map (fun p => (j :: p.1, x + p.2))
def br (c : cst) (rec : Nat → List asg) (w S j : Nat) : List asg :=
  match c w j with
  | none => []
  | some x => if S.testBit j then [] else bx x j (rec (S ||| 2 ^ j))
def ex (c : cst) : Nat → Nat → Nat → List asg
  | 0, _, _ => [([], 0)]
  | n + 1, w, S => (List.range 8).flatMap (br c (ex c n (w + 1)) w S)
/-- those of the first jobs alone -/
def exT (c : cst) (n w S k : Nat) : List asg := (List.range k).flatMap (br c (ex c n (w + 1)) w S)
theorem ex_s (c : cst) (n w S : Nat) : ex c (n + 1) w S = exT c n w S 8 := rfl
theorem exT_0 (c : cst) (n w S : Nat) : exT c n w S 0 = [] := rfl
theorem exT_s (c : cst) (n w S k : Nat) : exT c n w S (k + 1) = exT c n w S k ++ br c (ex c n (w + 1)) w S k := by
  unfold exT
  rw [List.range_succ, List.flatMap_append]
  simp
theorem br_none {c : cst} {rec : Nat → List asg} {w S j : Nat} (h : c w j = none) : br c rec w S j = [] := by
  unfold br; rw [h]
theorem br_in {c : cst} {rec : Nat → List asg} {w S j : Nat} (h : S.testBit j = true) : br c rec w S j = [] := by
  unfold br
  cases c w j with
  | none => rfl
  | some x => simp [h]
theorem br_some {c : cst} {rec : Nat → List asg} {w S j : Nat} {x : Int} (h : c w j = some x) (hS : S.testBit j = false) : br c rec w S j = bx x j (rec (S ||| 2 ^ j)) := by
  unfold br; rw [h]; simp [hS]
/-- beyond the jobs there is nothing -/
theorem exT_J {c : cst} {n w S J : Nat} (h : ∀ j, J ≤ j → c w j = none) : ∀ k, J ≤ k → exT c n w S k = exT c n w S J
  | 0, hk => by rw [show J = 0 by omega]
  | k + 1, hk => by
    by_cases hJ : J = k + 1
    · rw [hJ]
    · rw [exT_s, br_none (h k (by omega)), List.append_nil, exT_J h k (by omega)]
theorem ex_J {c : cst} {n w S J : Nat} (h : ∀ j, J ≤ j → c w j = none) (hJ : J ≤ 8) : ex c (n + 1) w S = exT c n w S J := exT_J h 8 hJ
theorem bx_len (x : Int) (j : Nat) (L : List asg) : (bx x j L).length = L.length := by simp [bx]
/-! bits -/
def pcn (S : Nat) : Nat := ((List.range 8).filter (fun j => S.testBit j)).length
theorem pcn_le (S : Nat) : pcn S ≤ 8 := by
  have := List.length_filter_le (fun j => S.testBit j) (List.range 8)
  simpa [pcn] using this
theorem pcn_or {S j : Nat} (hS : S < 256) (hj : j < 8) (h : S.testBit j = false) : pcn (S ||| 2 ^ j) = pcn S + 1 := by
  have : ∀ S, S < 256 → ∀ j, j < 8 → S.testBit j = false → pcn (S ||| 2 ^ j) = pcn S + 1 := by decide +kernel
  exact this S hS j hj h
theorem or_256 {S j : Nat} (hS : S < 256) (hj : j < 8) : S ||| 2 ^ j < 256 := or_lt (n := 8) hS hj
theorem or_gt {S j : Nat} (h : S.testBit j = false) : S < S ||| 2 ^ j := by
  have h1 : S ≤ S ||| 2 ^ j := Nat.left_le_or
  have h2 : S ||| 2 ^ j ≠ S := fun q => by rw [(or_bit S j).mp q] at h; cases h
  omega
theorem f_pcn {S : Nat} (hS : S < 256) (s : sx_M) : f_J6_bitCount_0f7a4 (nI S) s = some (nI (pcn S), s) := by
  have key : ∀ S, S < 256 → (match f_J6_bitCount_0f7a4 (nI S) (fun _ _ => 0, fun _ _ => 0, fun _ _ => 0, fun _ _ => 0) with | some p => p.1 == nI (pcn S) | none => false) = true := by
    unfold f_J6_bitCount_0f7a4
    decide +kernel
  have k1 := key S hS
  unfold f_J6_bitCount_0f7a4 at k1 ⊢
  exact congrArg (fun x => some (x, s)) (eq_of_beq k1)
/-! how many -/
def frn (S : Nat) : Nat := ((List.range 8).filter (fun j => !S.testBit j)).length
theorem frn_or {S j : Nat} (hS : S < 256) (hj : j < 8) (h : S.testBit j = false) : frn (S ||| 2 ^ j) + 1 = frn S := by
  have : ∀ S, S < 256 → ∀ j, j < 8 → S.testBit j = false → frn (S ||| 2 ^ j) + 1 = frn S := by decide +kernel
  exact this S hS j hj h
def ffc : Nat → Nat → Nat
  | _, 0 => 1
  | m, n + 1 => m * ffc (m - 1) n
theorem fm_len {β γ : Type} (L : List β) (f : β → List γ) (p : β → Bool) (B : Nat) (h : ∀ b, b ∈ L → (f b).length ≤ if p b then B else 0) : (L.flatMap f).length ≤ (L.filter p).length * B := by
  induction L with
  | nil => simp
  | cons a L ih =>
    have h1 := h a (List.mem_cons_self ..)
    have h2 := ih (fun b hb => h b (List.mem_cons_of_mem _ hb))
    rw [List.flatMap_cons, List.length_append, List.filter_cons]
    cases hp : p a with
    | true =>
      simp only [hp, if_true] at h1 ⊢
      rw [List.length_cons, Nat.add_mul]
      omega
    | false =>
      rw [hp] at h1
      have h1 : (f a).length ≤ 0 := h1
      rw [if_neg (by intro q; cases q)]
      omega
theorem ex_len (c : cst) : ∀ n w S, S < 256 → (ex c n w S).length ≤ ffc (frn S) n
  | 0, w, S, _ => by simp [ex, ffc]
  | n + 1, w, S, hS => by
    refine fm_len (List.range 8) _ (fun j => !S.testBit j) (ffc (frn S - 1) n) (fun j hj => ?_)
    have hj8 : j < 8 := List.mem_range.mp hj
    cases hb : S.testBit j with
    | true => rw [br_in hb]; simp
    | false =>
      cases hc : c w j with
      | none => rw [br_none hc]; simp
      | some x =>
        rw [br_some hc hb, bx_len]
        have h1 := ex_len c n (w + 1) (S ||| 2 ^ j) (or_256 hS hj8)
        have h2 := frn_or hS hj8 hb
        rw [show frn (S ||| 2 ^ j) = frn S - 1 by omega] at h1
        simpa using h1
theorem ffc_le {n : Nat} (h : n ≤ 7) : ffc 8 n ≤ 40320 := by
  have : ∀ n, n ≤ 7 → ffc 8 n ≤ 40320 := by decide
  exact this n h
theorem ffc_m : ∀ m k n, m ≤ k → ffc m n ≤ ffc k n
  | _, _, 0, _ => Nat.le_refl _
  | m, k, n + 1, h => Nat.mul_le_mul h (ffc_m (m - 1) (k - 1) n (by omega))
theorem frn_le (S : Nat) : frn S ≤ 8 := by
  have := List.length_filter_le (fun j => !S.testBit j) (List.range 8)
  simpa [frn] using this
theorem ex_40 (c : cst) {n w S : Nat} (hS : S < 256) (hn : n ≤ 7) : (ex c n w S).length ≤ 40320 :=
  Nat.le_trans (ex_len c n w S hS) (Nat.le_trans (ffc_m _ _ n (frn_le S)) (ffc_le hn))
/-! what an assignment is -/
theorem mem_bx {x : Int} {j : Nat} {L : List asg} {p : asg} : p ∈ bx x j L ↔ ∃ q, q ∈ L ∧ p = (j :: q.1, x + q.2) := by
  unfold bx
  rw [List.mem_map]
  constructor
  · rintro ⟨q, h, e⟩; exact ⟨q, h, e.symm⟩
  · rintro ⟨q, h, e⟩; exact ⟨q, h, e.symm⟩
theorem mem_br {c : cst} {rec : Nat → List asg} {w S j : Nat} {p : asg} : p ∈ br c rec w S j ↔ ∃ x q, c w j = some x ∧ S.testBit j = false ∧ q ∈ rec (S ||| 2 ^ j) ∧ p = (j :: q.1, x + q.2) := by
  cases hc : c w j with
  | none => rw [br_none hc]; simp
  | some x =>
    cases hb : S.testBit j with
    | true => rw [br_in hb]; simp
    | false =>
      rw [br_some hc hb, mem_bx]
      constructor
      · rintro ⟨q, h, e⟩; exact ⟨x, q, rfl, rfl, h, e⟩
      · rintro ⟨y, q, e1, _, h, e⟩
        cases e1
        exact ⟨q, h, e⟩
theorem mem_ex {c : cst} {n w S : Nat} {p : asg} : p ∈ ex c (n + 1) w S ↔ ∃ j x q, j < 8 ∧ c w j = some x ∧ S.testBit j = false ∧ q ∈ ex c n (w + 1) (S ||| 2 ^ j) ∧ p = (j :: q.1, x + q.2) := by
  show p ∈ (List.range 8).flatMap _ ↔ _
  rw [List.mem_flatMap]
  constructor
  · rintro ⟨j, hj, h⟩
    obtain ⟨x, q, h1, h2, h3, h4⟩ := mem_br.mp h
    exact ⟨j, x, q, List.mem_range.mp hj, h1, h2, h3, h4⟩
  · rintro ⟨j, x, q, hj, h1, h2, h3, h4⟩
    exact ⟨j, List.mem_range.mpr hj, mem_br.mpr ⟨x, q, h1, h2, h3, h4⟩⟩
theorem ex_row {c : cst} : ∀ {n w S : Nat} {p : asg}, p ∈ ex c n w S → p.1.length = n
  | 0, _, _, p, h => by simp [ex] at h; rw [h]; rfl
  | n + 1, w, S, p, h => by
    obtain ⟨j, x, q, _, _, _, h3, rfl⟩ := mem_ex.mp h
    simp [ex_row h3]
/-- costs that are bounded -/
abbrev cbd (B : Int) (c : cst) : Prop := ∀ w j x, c w j = some x → -B ≤ x ∧ x ≤ B
theorem ex_bd {c : cst} {B : Int} (hc : cbd B c) : ∀ {n w S : Nat} {p : asg}, p ∈ ex c n w S → -(B * n) ≤ p.2 ∧ p.2 ≤ B * n
  | 0, _, _, p, h => by simp [ex] at h; rw [h]; simp
  | n + 1, w, S, p, h => by
    obtain ⟨j, x, q, _, h1, _, h3, rfl⟩ := mem_ex.mp h
    have h4 := ex_bd hc h3
    have h5 := hc w j x h1
    have e : B * ((n + 1 : Nat) : Int) = B * n + B := by rw [Int.natCast_add, Int.mul_add]; simp
    rw [e]
    constructor
    · show _ ≤ x + q.2; omega
    · show x + q.2 ≤ _; omega
/-! the least and the greatest sum -/
def lowL : List asg → Option Int
  | [] => none
  | p :: L => omin (some p.2) (lowL L)
def higL : List asg → Option Int
  | [] => none
  | p :: L => omax (some p.2) (higL L)
theorem omin_assoc (a b d : Option Int) : omin (omin a b) d = omin a (omin b d) := by
  cases a <;> cases b <;> cases d <;> simp only [omin] <;> (try rfl)
  rename_i x y z
  congr 1
  split <;> split <;> (try split) <;> omega
theorem omax_assoc (a b d : Option Int) : omax (omax a b) d = omax a (omax b d) := by
  cases a <;> cases b <;> cases d <;> simp only [omax] <;> (try rfl)
  rename_i x y z
  congr 1
  split <;> split <;> (try split) <;> omega
theorem omin_n (a : Option Int) : omin a none = a := by cases a <;> rfl
theorem omax_n (a : Option Int) : omax a none = a := by cases a <;> rfl
theorem lowL_app : ∀ L M : List asg, lowL (L ++ M) = omin (lowL L) (lowL M)
  | [], M => rfl
  | p :: L, M => by
    show omin (some p.2) (lowL (L ++ M)) = omin (omin (some p.2) (lowL L)) (lowL M)
    rw [lowL_app L M, omin_assoc]
theorem higL_app : ∀ L M : List asg, higL (L ++ M) = omax (higL L) (higL M)
  | [], M => rfl
  | p :: L, M => by
    show omax (some p.2) (higL (L ++ M)) = omax (omax (some p.2) (higL L)) (higL M)
    rw [higL_app L M, omax_assoc]
theorem lowL_bx (x : Int) (j : Nat) : ∀ L : List asg, lowL (bx x j L) = (lowL L).map (fun y => x + y)
  | [] => rfl
  | p :: L => by
    show omin (some (x + p.2)) (lowL (bx x j L)) = _
    rw [lowL_bx x j L]
    show _ = (omin (some p.2) (lowL L)).map _
    cases lowL L with
    | none => rfl
    | some y =>
      simp only [omin, Option.map_some]
      congr 1
      split <;> split <;> omega
theorem higL_bx (x : Int) (j : Nat) : ∀ L : List asg, higL (bx x j L) = (higL L).map (fun y => x + y)
  | [] => rfl
  | p :: L => by
    show omax (some (x + p.2)) (higL (bx x j L)) = _
    rw [higL_bx x j L]
    show _ = (omax (some p.2) (higL L)).map _
    cases higL L with
    | none => rfl
    | some y =>
      simp only [omax, Option.map_some]
      congr 1
      split <;> split <;> omega
theorem lowL_none {L : List asg} : lowL L = none ↔ L = [] := by
  cases L with
  | nil => exact ⟨fun _ => rfl, fun _ => rfl⟩
  | cons p L =>
    constructor
    · intro h
      have h : omin (some p.2) (lowL L) = none := h
      cases hl : lowL L <;> rw [hl] at h <;> cases h
    · intro h; cases h
theorem higL_none {L : List asg} : higL L = none ↔ L = [] := by
  cases L with
  | nil => exact ⟨fun _ => rfl, fun _ => rfl⟩
  | cons p L =>
    constructor
    · intro h
      have h : omax (some p.2) (higL L) = none := h
      cases hl : higL L <;> rw [hl] at h <;> cases h
    · intro h; cases h
theorem lowL_some {x : Int} : ∀ {L : List asg}, lowL L = some x ↔ (∃ p, p ∈ L ∧ p.2 = x) ∧ ∀ p, p ∈ L → x ≤ p.2
  | [] => by simp [lowL]
  | p :: L => by
    show omin (some p.2) (lowL L) = some x ↔ _
    cases hl : lowL L with
    | none =>
      have hL := lowL_none.mp hl
      subst hL
      simp [omin]
      omega
    | some y =>
      have ih := (lowL_some (x := y) (L := L)).mp hl
      obtain ⟨⟨q, hq, hqy⟩, ih2⟩ := ih
      simp only [omin, Option.some.injEq]
      constructor
      · intro e
        constructor
        · split at e
          · exact ⟨q, List.mem_cons_of_mem _ hq, by omega⟩
          · exact ⟨p, List.mem_cons_self .., e⟩
        · intro r hr
          rcases List.mem_cons.mp hr with rfl | hr
          · split at e <;> omega
          · have := ih2 r hr
            split at e <;> omega
      · rintro ⟨⟨r, hr, hrx⟩, h2⟩
        have a1 := h2 p (List.mem_cons_self ..)
        have a2 := h2 q (List.mem_cons_of_mem _ hq)
        rcases List.mem_cons.mp hr with rfl | hr
        · split <;> omega
        · have := ih2 r hr
          split <;> omega
theorem higL_some {x : Int} : ∀ {L : List asg}, higL L = some x ↔ (∃ p, p ∈ L ∧ p.2 = x) ∧ ∀ p, p ∈ L → p.2 ≤ x
  | [] => by simp [higL]
  | p :: L => by
    show omax (some p.2) (higL L) = some x ↔ _
    cases hl : higL L with
    | none =>
      have hL := higL_none.mp hl
      subst hL
      simp [omax]
      omega
    | some y =>
      have ih := (higL_some (x := y) (L := L)).mp hl
      obtain ⟨⟨q, hq, hqy⟩, ih2⟩ := ih
      simp only [omax, Option.some.injEq]
      constructor
      · intro e
        constructor
        · split at e
          · exact ⟨q, List.mem_cons_of_mem _ hq, by omega⟩
          · exact ⟨p, List.mem_cons_self .., e⟩
        · intro r hr
          rcases List.mem_cons.mp hr with rfl | hr
          · split at e <;> omega
          · have := ih2 r hr
            split at e <;> omega
      · rintro ⟨⟨r, hr, hrx⟩, h2⟩
        have a1 := h2 p (List.mem_cons_self ..)
        have a2 := h2 q (List.mem_cons_of_mem _ hq)
        rcases List.mem_cons.mp hr with rfl | hr
        · split <;> omega
        · have := ih2 r hr
          split <;> omega
theorem low_bd {c : cst} {B : Int} (hc : cbd B c) {n w S : Nat} {x : Int} (h : lowL (ex c n w S) = some x) : -(B * n) ≤ x ∧ x ≤ B * n := by
  obtain ⟨⟨p, hp, rfl⟩, _⟩ := lowL_some.mp h
  exact ex_bd hc hp
theorem hig_bd {c : cst} {B : Int} (hc : cbd B c) {n w S : Nat} {x : Int} (h : higL (ex c n w S) = some x) : -(B * n) ≤ x ∧ x ≤ B * n := by
  obtain ⟨⟨p, hp, rfl⟩, _⟩ := higL_some.mp h
  exact ex_bd hc hp
/-! what is left when some pairs are barred -/
def okR (R : Nat → Nat → Bool) : Nat → List Nat → Bool
  | _, [] => true
  | w, j :: r => R w j && okR R (w + 1) r
def cR (R : Nat → Nat → Bool) (c : cst) : cst := fun w j => if R w j then c w j else none
theorem fm_filter {β γ : Type} (p : γ → Bool) (f : β → List γ) (L : List β) : (L.flatMap f).filter p = L.flatMap (fun b => (f b).filter p) := by
  induction L with
  | nil => rfl
  | cons a L ih => rw [List.flatMap_cons, List.filter_append, ih, List.flatMap_cons]
theorem ex_R (R : Nat → Nat → Bool) (c : cst) : ∀ n w S, ex (cR R c) n w S = (ex c n w S).filter (fun p => okR R w p.1)
  | 0, w, S => rfl
  | n + 1, w, S => by
    show (List.range 8).flatMap _ = ((List.range 8).flatMap _).filter _
    rw [fm_filter]
    congr 1
    funext j
    cases hb : S.testBit j with
    | true => rw [br_in hb, br_in hb]; rfl
    | false =>
      cases hc : c w j with
      | none =>
        rw [br_none hc, br_none (by unfold cR; split <;> simp [hc])]; rfl
      | some x =>
        cases hR : R w j with
        | true =>
          rw [br_some hc hb, br_some (c := cR R c) (x := x) (by unfold cR; simp [hR, hc]) hb, ex_R R c n]
          unfold bx
          rw [List.filter_map]
          congr 1
          apply List.filter_congr
          intro p _
          simp [okR, hR]
        | false =>
          rw [br_some hc hb, br_none (by unfold cR; simp [hR])]
          symm
          rw [List.filter_eq_nil_iff]
          intro p hp
          obtain ⟨q, _, rfl⟩ := mem_bx.mp hp
          simp [okR, hR]
