/-! A run that has an end, and what holds there -/
def Ev {β : Type} (x : Option β) (Q : β → Prop) : Prop := ∃ b, x = some b ∧ Q b
theorem ev_s {β : Type} {b : β} {Q : β → Prop} (h : Q b) : Ev (some b) Q := ⟨b, rfl, h⟩
theorem ev_e {β : Type} {x : Option β} {b : β} {Q : β → Prop} (e : x = some b) (h : Q b) : Ev x Q := ⟨b, e, h⟩
theorem ev_b {α β : Type} {x : Option α} {f : α → Option β} {Q : β → Prop} (h : Ev x (fun a => Ev (f a) Q)) : Ev (x.bind f) Q := by
  obtain ⟨a, rfl, b, hb, hq⟩ := h
  exact ⟨b, hb, hq⟩
theorem ev_be {α β : Type} {x : Option α} {f : α → Option β} {Q : β → Prop} {a : α} (e : x = some a) (h : Ev (f a) Q) : Ev (x.bind f) Q := by
  rw [e]; exact h
theorem ev_i {β : Type} {c : Prop} [Decidable c] {A B : Option β} {Q : β → Prop} (h1 : c → Ev A Q) (h2 : ¬ c → Ev B Q) : Ev (if c then A else B) Q := by
  by_cases h : c
  · rw [if_pos h]; exact h1 h
  · rw [if_neg h]; exact h2 h
theorem ev_ip {β : Type} {c : Prop} [Decidable c] {A B : Option β} {Q : β → Prop} (h : c) (h1 : Ev A Q) : Ev (if c then A else B) Q := by rw [if_pos h]; exact h1
theorem ev_in {β : Type} {c : Prop} [Decidable c] {A B : Option β} {Q : β → Prop} (h : ¬ c) (h1 : Ev B Q) : Ev (if c then A else B) Q := by rw [if_neg h]; exact h1
theorem ev_m {β : Type} {x : Option β} {P Q : β → Prop} (h : Ev x P) (hq : ∀ b, P b → Q b) : Ev x Q := by
  obtain ⟨b, e, hb⟩ := h
  exact ⟨b, e, hq b hb⟩
theorem ev_and {β : Type} {x : Option β} {P Q : β → Prop} (h : Ev x P) (hq : ∀ b, x = some b → Q b) : Ev x (fun b => P b ∧ Q b) := by
  obtain ⟨b, e, hb⟩ := h
  exact ⟨b, e, hb, hq b e⟩
theorem ev_w {α β : Type} {f : α → Option (α ⊕ β)} (I : α → Prop) (μ : α → Nat) {Q : β → Prop} (H : ∀ a, I a → Ev (f a) (Sum.elim (fun a' => I a' ∧ μ a' < μ a) Q)) {a : α} (h : I a) : Ev (whT f a) Q := by
  refine wh_end I μ Q (fun a ha => ?_) a h
  obtain ⟨r, e, hr⟩ := H a ha
  rcases r with a' | b
  · exact Or.inr ⟨a', e, hr.1, hr.2⟩
  · exact Or.inl ⟨b, e, hr⟩
/-- a loop that counts up to n (it may leave early) -/
theorem ev_f {α β : Type} {f : α → Option (α ⊕ β)} (I : Nat → α → Prop) (n : Nat) {Q : β → Prop} (H : ∀ i a, i < n → I i a → Ev (f a) (Sum.elim (I (i + 1)) Q)) (E : ∀ a, I n a → Ev (f a) (Sum.elim (fun _ => False) Q)) {i : Nat} {a : α} (hi : i ≤ n) (h : I i a) : Ev (whT f a) Q := by
  have key : ∀ m i a, i + m = n → I i a → Ev (whT f a) Q := by
    intro m
    induction m with
    | zero =>
      intro i a hm h
      have : i = n := by omega
      subst this
      obtain ⟨r, e, hr⟩ := E a h
      rcases r with a' | b
      · exact hr.elim
      · exact ⟨b, by rw [whT_eq, e]; rfl, hr⟩
    | succ m ih =>
      intro i a hm h
      obtain ⟨r, e, hr⟩ := H i a (by omega) h
      rcases r with a' | b
      · obtain ⟨b, e2, hb⟩ := ih (i + 1) a' (by omega) hr
        exact ⟨b, by rw [whT_eq, e]; exact e2, hb⟩
      · exact ⟨b, by rw [whT_eq, e]; rfl, hr⟩
  exact key (n - i) i a (by omega) h
/-- the same, its states told -/
theorem wh_for {α β : Type} {f : α → Option (α ⊕ β)} (st : Nat → α) (n : Nat) {b : β} (hs : ∀ i, i < n → f (st i) = some (.inl (st (i + 1)))) (hb : f (st n) = some (.inr b)) {a : α} (ha : a = st 0) : whT f a = some b := by
  subst ha
  have key : ∀ m i, i + m = n → whT f (st i) = some b := by
    intro m
    induction m with
    | zero =>
      intro i hm
      have : i = n := by omega
      subst this
      rw [whT_eq, hb]; rfl
    | succ m ih =>
      intro i hm
      rw [whT_eq, hs i (by omega)]
      exact ih (i + 1) (by omega)
  exact key n 0 (by omega)
/-- from one state to a later one -/
theorem wh_to {α β : Type} {f : α → Option (α ⊕ β)} (st : Nat → α) (n : Nat) (hs : ∀ i, i < n → f (st i) = some (.inl (st (i + 1)))) : whT f (st 0) = whT f (st n) := by
  induction n with
  | zero => rfl
  | succ n ih =>
    rw [ih (fun i h => hs i (by omega)), whT_eq, hs n (by omega)]
    rfl
/-! numbers -/
theorem nI_lit (n : Nat) : (OfNat.ofNat n : Int32) = nI n := rfl
def iI (x : Int) : Int32 := Int32.ofInt x
def jJ (x : Int) : Int64 := Int64.ofInt x
theorem iI_n (n : Nat) : nI n = iI n := (Int32.ofInt_eq_ofNat (n := n)).symm
theorem iI_0 : iI 0 = 0 := rfl
theorem iI_m1 : iI (-1) = -1 := by decide
theorem iI_add (a b : Int) : iI a + iI b = iI (a + b) := (Int32.ofInt_add a b).symm
theorem iI_sub (a b : Int) : iI a - iI b = iI (a - b) := (Int32.ofInt_sub a b).symm
theorem iI_mul (a b : Int) : iI a * iI b = iI (a * b) := (Int32.ofInt_mul a b).symm
theorem iI_neg (a : Int) : - iI a = iI (-a) := (Int32.ofInt_neg a).symm
theorem iI_toInt {x : Int} (h : -2147483648 ≤ x) (h2 : x ≤ 2147483647) : (iI x).toInt = x := Int32.toInt_ofInt_of_le (by omega) (by omega)
theorem iI_lt {a b : Int} (h : -2147483648 ≤ a) (h2 : a ≤ 2147483647) (h3 : -2147483648 ≤ b) (h4 : b ≤ 2147483647) : iI a < iI b ↔ a < b := by
  rw [Int32.lt_iff_toInt_lt, iI_toInt h h2, iI_toInt h3 h4]
theorem iI_le {a b : Int} (h : -2147483648 ≤ a) (h2 : a ≤ 2147483647) (h3 : -2147483648 ≤ b) (h4 : b ≤ 2147483647) : iI a ≤ iI b ↔ a ≤ b := by
  rw [Int32.le_iff_toInt_le, iI_toInt h h2, iI_toInt h3 h4]
theorem iI_eq {a b : Int} (h : -2147483648 ≤ a) (h2 : a ≤ 2147483647) (h3 : -2147483648 ≤ b) (h4 : b ≤ 2147483647) : iI a = iI b ↔ a = b := by
  rw [← Int32.toInt_inj, iI_toInt h h2, iI_toInt h3 h4]
theorem jJ_add (a b : Int) : jJ a + jJ b = jJ (a + b) := (Int64.ofInt_add a b).symm
theorem jJ_sub (a b : Int) : jJ a - jJ b = jJ (a - b) := (Int64.ofInt_sub a b).symm
theorem jJ_mul (a b : Int) : jJ a * jJ b = jJ (a * b) := (Int64.ofInt_mul a b).symm
theorem jJ_neg (a : Int) : - jJ a = jJ (-a) := (Int64.ofInt_neg a).symm
theorem jJ_toInt {x : Int} (h : -9223372036854775808 ≤ x) (h2 : x ≤ 9223372036854775807) : (jJ x).toInt = x := Int64.toInt_ofInt_of_le (by omega) (by omega)
theorem jJ_lt {a b : Int} (h : -9223372036854775808 ≤ a) (h2 : a ≤ 9223372036854775807) (h3 : -9223372036854775808 ≤ b) (h4 : b ≤ 9223372036854775807) : jJ a < jJ b ↔ a < b := by
  rw [Int64.lt_iff_toInt_lt, jJ_toInt h h2, jJ_toInt h3 h4]
theorem jJ_le {a b : Int} (h : -9223372036854775808 ≤ a) (h2 : a ≤ 9223372036854775807) (h3 : -9223372036854775808 ≤ b) (h4 : b ≤ 9223372036854775807) : jJ a ≤ jJ b ↔ a ≤ b := by
  rw [Int64.le_iff_toInt_le, jJ_toInt h h2, jJ_toInt h3 h4]
theorem jJ_eq {a b : Int} (h : -9223372036854775808 ≤ a) (h2 : a ≤ 9223372036854775807) (h3 : -9223372036854775808 ≤ b) (h4 : b ≤ 9223372036854775807) : jJ a = jJ b ↔ a = b := by
  rw [← Int64.toInt_inj, jJ_toInt h h2, jJ_toInt h3 h4]
theorem iI_64 {x : Int} (h : -2147483648 ≤ x) (h2 : x ≤ 2147483647) : (iI x).toInt64 = jJ x := by
  apply Int64.toInt_inj.mp
  rw [Int32.toInt_toInt64, iI_toInt h h2, jJ_toInt (by omega) (by omega)]
theorem nI_64 {n : Nat} (h : n < 2147483648) : (nI n).toInt64 = jJ n := by
  rw [iI_n, iI_64 (by omega) (by omega)]
theorem jJ_32 (x : Int) : (jJ x).toInt32 = iI x := Int64.toInt32_ofInt
theorem jJ_of (x : Int64) : x = jJ x.toInt := (Int64.ofInt_toInt x).symm
theorem iI_of (x : Int32) : x = iI x.toInt := (Int32.ofInt_toInt x).symm
theorem jJ_nv : (9223372036854775807 : Int64) = jJ 9223372036854775807 := by decide
theorem jJ_ns : (-9223372036854775808 : Int64) = jJ (-9223372036854775808) := by decide
theorem iI_nv : (2147483647 : Int32) = iI 2147483647 := by decide
theorem c64_s (x : Int) : c64 (some x) = jJ x := rfl
theorem c64_n : c64 none = 9223372036854775807 := rfl
theorem c32_s (x : Int) : c32 (some x) = iI x := rfl
theorem c32_n : c32 none = 2147483647 := rfl
/-- a cost that is far from the bounds -/
abbrev far (o : Option Int) : Prop := ∀ x, o = some x → -1000000000 ≤ x ∧ x ≤ 1000000000
theorem c64_nv {o : Option Int} (h : far o) : c64 o = 9223372036854775807 ↔ o = none := by
  cases o with
  | none => exact ⟨fun _ => rfl, fun _ => rfl⟩
  | some x =>
    have := h x rfl
    rw [c64_s, jJ_nv, jJ_eq (by omega) (by omega) (by omega) (by omega)]
    constructor
    · intro q; omega
    · intro q; cases q
theorem c64_inj {o p : Option Int} (h : far o) (h2 : far p) : c64 o = c64 p ↔ o = p := by
  cases o with
  | none =>
    rw [c64_n]
    constructor
    · intro q; exact ((c64_nv h2).mp q.symm).symm
    · intro q; rw [← q]; rfl
  | some x =>
    cases p with
    | none =>
      rw [c64_n, c64_nv h]
    | some y =>
      have := h x rfl
      have := h2 y rfl
      rw [c64_s, c64_s, jJ_eq (by omega) (by omega) (by omega) (by omega)]
      constructor
      · intro q; rw [q]
      · intro q; exact Option.some.inj q
theorem c32_nv {o : Option Int} (h : far o) : c32 o = 2147483647 ↔ o = none := by
  cases o with
  | none => exact ⟨fun _ => rfl, fun _ => rfl⟩
  | some x =>
    have := h x rfl
    rw [c32_s, iI_nv, iI_eq (by omega) (by omega) (by omega) (by omega)]
    constructor
    · intro q; omega
    · intro q; cases q
theorem c32_inj {o p : Option Int} (h : far o) (h2 : far p) : c32 o = c32 p ↔ o = p := by
  cases o with
  | none =>
    rw [c32_n]
    constructor
    · intro q; exact ((c32_nv h2).mp q.symm).symm
    · intro q; rw [← q]; rfl
  | some x =>
    cases p with
    | none => rw [c32_n, c32_nv h]
    | some y =>
      have := h x rfl
      have := h2 y rfl
      rw [c32_s, c32_s, iI_eq (by omega) (by omega) (by omega) (by omega)]
      constructor
      · intro q; rw [q]
      · intro q; exact Option.some.inj q
theorem tb_far {B : Int} (hB : B ≤ 1000000000) {T : tb} (h : tb_b B T) (w j : Nat) : far (T.2.2 w j) := fun x q => by
  have := h.2.2.1 w j x q
  omega
theorem wk_far {T : tb} (h : tb_wk T) (w j : Nat) : far (T.2.2 w j) := tb_far (by omega) h w j
theorem ok_far {T : tb} (h : tb_ok T) (w j : Nat) : far (T.2.2 w j) := tb_far (by omega) h w j
/-! bits -/
theorem nI_bit {j : Nat} (h : j < 31) : (1 : Int32) <<< (nI j &&& 31) = nI (2 ^ j) := by
  have : ∀ j, j < 31 → (1 : Int32) <<< (nI j &&& 31) = nI (2 ^ j) := by decide
  exact this j h
theorem nI_bv (n : Nat) : (nI n).toBitVec = BitVec.ofNat 32 n := rfl
theorem nI_or (a b : Nat) : nI a ||| nI b = nI (a ||| b) := by
  apply Int32.toBitVec_inj.mp
  rw [Int32.toBitVec_or, nI_bv, nI_bv, nI_bv, BitVec.ofNat_or]
theorem nI_and (a b : Nat) : nI a &&& nI b = nI (a &&& b) := by
  apply Int32.toBitVec_inj.mp
  rw [Int32.toBitVec_and, nI_bv, nI_bv, nI_bv, BitVec.ofNat_and]
theorem nI_xor (a b : Nat) : nI a ^^^ nI b = nI (a ^^^ b) := by
  apply Int32.toBitVec_inj.mp
  rw [Int32.toBitVec_xor, nI_bv, nI_bv, nI_bv, BitVec.ofNat_xor]
theorem nI_andn (a b : Nat) : nI a &&& (nI b ^^^ (-1 : Int32)) = nI (a ^^^ (a &&& b)) := by
  rw [← nI_xor, ← nI_and]
  apply Int32.toBitVec_inj.mp
  rw [Int32.toBitVec_and, Int32.toBitVec_xor, Int32.toBitVec_xor, Int32.toBitVec_and]
  generalize (nI a).toBitVec = x
  generalize (nI b).toBitVec = y
  have : (-1 : Int32).toBitVec = BitVec.allOnes 32 := by decide
  rw [this]
  ext i hi
  simp only [BitVec.getElem_and, BitVec.getElem_xor, BitVec.getElem_allOnes]
  cases x[i] <;> cases y[i] <;> rfl
theorem or_bit (S j : Nat) : S ||| 2 ^ j = S ↔ S.testBit j = true := by
  constructor
  · intro h
    have := congrArg (fun n => n.testBit j) h
    simp only [Nat.testBit_or, Nat.testBit_two_pow_self, Bool.or_true] at this
    exact this.symm
  · intro h
    apply Nat.eq_of_testBit_eq
    intro i
    rw [Nat.testBit_or, Nat.testBit_two_pow]
    by_cases hi : j = i
    · subst hi; simp [h]
    · simp [hi]
theorem or_lt {S j n : Nat} (h : S < 2 ^ n) (hj : j < n) : S ||| 2 ^ j < 2 ^ n := Nat.or_lt_two_pow h (Nat.pow_lt_pow_right (by omega) hj)
theorem pw_le {a b : Nat} (h : a ≤ b) : 2 ^ a ≤ 2 ^ b := Nat.pow_le_pow_right (by omega) h
theorem pw_256 {J S : Nat} (h : J ≤ 8) (hS : S < 2 ^ J) : S < 256 := Nat.lt_of_lt_of_le hS (pw_le h)
theorem nI_shr {S j : Nat} (hS : S < 2 ^ 31) (h : j < 32) : nI S >>> (nI j &&& 31) = nI (S / 2 ^ j) := by
  refine pk_shrN hS _ j ?_
  have : ∀ j, j < 32 → ((nI j &&& 31).toBitVec.smod 32).toNat = j := by decide
  exact this j h
theorem nI_has {S j : Nat} (hS : S < 2 ^ 31) (h : j < 32) : (nI S >>> (nI j &&& 31)) &&& 1 = nI (if S.testBit j then 1 else 0) := by
  rw [nI_shr hS h, pk_andN (Nat.lt_of_le_of_lt (Nat.div_le_self _ _) (by omega)) 1 (by decide)]
  congr 1
  rw [Nat.testBit_eq_decide_div_mod_eq]
  have : S / 2 ^ j % 2 < 2 := Nat.mod_lt _ (by omega)
  by_cases q : S / 2 ^ j % 2 = 1
  · simp [q]
  · simp [q]; omega
