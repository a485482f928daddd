/-! table: the two readers, sign by sign -/
def scn (P : Nat → Bool) (b : Nat → Nat) (n : Nat) : Nat → Nat → Nat
  | 0, i => i
  | m + 1, i => if i < n ∧ P (b i) = true then scn P b n m (i + 1) else i
theorem scn_le {P : Nat → Bool} {b : Nat → Nat} {n : Nat} : ∀ {m i : Nat}, i ≤ n → i ≤ scn P b n m i ∧ scn P b n m i ≤ n
  | 0, i, h => ⟨Nat.le_refl _, h⟩
  | m + 1, i, h => by
    unfold scn
    split
    · rename_i hc
      have := scn_le (P := P) (b := b) (m := m) (show i + 1 ≤ n by omega)
      omega
    · exact ⟨Nat.le_refl _, h⟩
theorem scn_end {P : Nat → Bool} {b : Nat → Nat} {n : Nat} : ∀ {m i : Nat}, n ≤ i + m → i ≤ n → scn P b n m i = n ∨ P (b (scn P b n m i)) = false
  | 0, i, h, h2 => Or.inl (by show i = n; omega)
  | m + 1, i, h, h2 => by
    unfold scn
    by_cases hc : i < n ∧ P (b i) = true
    · rw [if_pos hc]
      exact scn_end (by omega) (by omega)
    · rw [if_neg hc]
      by_cases z : i = n
      · exact Or.inl z
      · right
        cases hp : P (b i) with
        | false => rfl
        | true => exact absurd ⟨by omega, hp⟩ hc
theorem scan_ev {P : Nat → Bool} {b : Nat → Nat} {n : Nat} (hn : n ≤ 600) {f : sx_M → Option (sx_M ⊕ sx_M)} {o k : Nat} {I : sx_M → Prop} (hI : ∀ s v, I s → I (wI s o k v)) (H : ∀ i s, I s → rI s o k = nI i → i ≤ n → f s = if i < n ∧ P (b i) = true then some (.inl (wI s o k (nI (i + 1)))) else some (.inr s)) : ∀ m i s, n ≤ i + m → i ≤ n → I s → rI s o k = nI i → Ev (whT f s) (fun s' => rI s' o k = nI (scn P b n m i) ∧ I s' ∧ sx_eq (Dix o k) s s')
  | 0, i, s, hm, hi, hs, hr => by
    refine ⟨s, ?_, hr, hs, sx_rf _ _⟩
    rw [whT_eq, H i s hs hr hi, if_neg (by omega)]
    rfl
  | m + 1, i, s, hm, hi, hs, hr => by
    unfold scn
    by_cases hc : i < n ∧ P (b i) = true
    · rw [if_pos hc]
      obtain ⟨s', e, h1, h2, h3⟩ := scan_ev hn hI H m (i + 1) (wI s o k (nI (i + 1))) (by omega) (by omega) (hI s _ hs) (rI_T ⟨rfl, rfl⟩)
      refine ⟨s', ?_, h1, h2, sx_tr (sx_wI' (sx_rf _ _) ⟨rfl, rfl⟩) h3⟩
      rw [whT_eq, H i s hs hr hi, if_pos hc]
      exact e
    · rw [if_neg hc]
      refine ⟨s, ?_, hr, hs, sx_rf _ _⟩
      rw [whT_eq, H i s hs hr hi, if_neg hc]
      rfl
def isBl (c : Nat) : Bool := c == 32 || c == 10
def isDg (c : Nat) : Bool := decide (48 ≤ c ∧ c ≤ 57)
def isLt (c : Nat) : Bool := decide (97 ≤ c ∧ c ≤ 122)
def nxV (v c : Nat) : Nat := min 10000 (10 * v + c - 48)
def nmv (b : Nat → Nat) (n : Nat) : Nat → Nat → Nat → Nat × Nat
  | 0, i, v => (i, v)
  | m + 1, i, v => if i < n ∧ isDg (b i) = true then nmv b n m (i + 1) (nxV v (b i)) else (i, v)
theorem nmv_le {b : Nat → Nat} {n : Nat} : ∀ {m i v : Nat}, i ≤ n → v ≤ 10000 → i ≤ (nmv b n m i v).1 ∧ (nmv b n m i v).1 ≤ n ∧ (nmv b n m i v).2 ≤ 10000
  | 0, i, v, h, h2 => ⟨Nat.le_refl _, h, h2⟩
  | m + 1, i, v, h, h2 => by
    unfold nmv
    split
    · rename_i hc
      have := nmv_le (b := b) (m := m) (v := nxV v (b i)) (show i + 1 ≤ n by omega) (by unfold nxV; omega)
      omega
    · exact ⟨Nat.le_refl _, h, h2⟩
theorem num_ev {b : Nat → Nat} {n : Nat} (hn : n ≤ 600) {f : sx_M → Option (sx_M ⊕ sx_M)} {o kp kv : Nat} (hk : kp ≠ kv) {I : sx_M → Prop} (hI : ∀ s k v, (k = kp ∨ k = kv) → I s → I (wI s o k v)) (H : ∀ i v s, I s → rI s o kp = nI i → i ≤ n → rI s o kv = nI v → v ≤ 10000 → f s = if i < n ∧ isDg (b i) = true then some (.inl (wI (wI s o kv (nI (nxV v (b i)))) o kp (nI (i + 1)))) else some (.inr s)) : ∀ m i v s, n ≤ i + m → i ≤ n → v ≤ 10000 → I s → rI s o kp = nI i → rI s o kv = nI v → Ev (whT f s) (fun s' => rI s' o kp = nI (nmv b n m i v).1 ∧ rI s' o kv = nI (nmv b n m i v).2 ∧ I s' ∧ sx_eq ((fun a c => a = o ∧ (c = kp ∨ c = kv), fun _ _ => False, fun _ => False, fun _ => False) : sx_D) s s')
  | 0, i, v, s, hm, hi, hv, hs, hr, hr2 => by
    refine ⟨s, ?_, hr, hr2, hs, sx_rf _ _⟩
    rw [whT_eq, H i v s hs hr hi hr2 hv, if_neg (by omega)]
    rfl
  | m + 1, i, v, s, hm, hi, hv, hs, hr, hr2 => by
    unfold nmv
    by_cases hc : i < n ∧ isDg (b i) = true
    · rw [if_pos hc]
      obtain ⟨s', e, h1, h2, h3, h4⟩ := num_ev hn hk hI H m (i + 1) (nxV v (b i)) (wI (wI s o kv (nI (nxV v (b i)))) o kp (nI (i + 1))) (by omega) (by omega) (by unfold nxV; omega) (hI _ _ _ (Or.inl rfl) (hI _ _ _ (Or.inr rfl) hs)) (rI_T ⟨rfl, rfl⟩) (by rw [rI_F (by omega)]; exact rI_T ⟨rfl, rfl⟩)
      refine ⟨s', ?_, h1, h2, h3, sx_tr (sx_wI' (sx_wI' (sx_rf _ _) ⟨rfl, Or.inr rfl⟩) ⟨rfl, Or.inl rfl⟩) h4⟩
      rw [whT_eq, H i v s hs hr hi hr2 hv, if_pos hc]
      exact e
    · rw [if_neg hc]
      refine ⟨s, ?_, hr, hr2, hs, sx_rf _ _⟩
      rw [whT_eq, H i v s hs hr hi hr2 hv, if_neg hc]
      rfl
def wdJ : List Nat := [106, 111, 98, 115]
def wdW : List Nat := [119, 111, 114, 107, 101, 114]
def wdX : List Nat := [120]
abbrev isW (l : List Nat) (b : Nat → Nat) (f e : Nat) : Prop := e = f + l.length ∧ ∀ i, i < l.length → b (f + i) = l.getD i 0
def sgK (c : Nat) : Nat := if c = 44 then 7 else if c = 45 then 8 else if c = 59 then 6 else 1
def wdK (b : Nat → Nat) (f e : Nat) : Nat := if isW wdJ b f e then 3 else if isW wdW b f e then 4 else if isW wdX b f e then 5 else 1
/-- a token: its kind, where it begins, where the next is looked for, its number -/
abbrev tok : Type := Nat × Nat × Nat × Nat
def lxA (b : Nat → Nat) (n f : Nat) : tok :=
  if n ≤ f then (0, f, f, 0)
  else if isDg (b f) = true then (2, f, (nmv b n (n - f) f 0).1, (nmv b n (n - f) f 0).2)
  else if isLt (b f) = true then (wdK b f (scn isLt b n (n - (f + 1)) (f + 1)), f, scn isLt b n (n - (f + 1)) (f + 1), 0)
  else (sgK (b f), f, f + 1, 0)
def lx (b : Nat → Nat) (n g : Nat) : tok := lxA b n (scn isBl b n (n - g) g)
theorem wdK_r (b : Nat → Nat) (f e : Nat) : wdK b f e = 3 ∨ wdK b f e = 4 ∨ wdK b f e = 5 ∨ wdK b f e = 1 := by
  unfold wdK
  split
  · exact Or.inl rfl
  · split
    · exact Or.inr (Or.inl rfl)
    · split
      · exact Or.inr (Or.inr (Or.inl rfl))
      · exact Or.inr (Or.inr (Or.inr rfl))
theorem sgK_r (c : Nat) : sgK c = 7 ∨ sgK c = 8 ∨ sgK c = 6 ∨ sgK c = 1 := by
  unfold sgK
  split
  · exact Or.inl rfl
  · split
    · exact Or.inr (Or.inl rfl)
    · split
      · exact Or.inr (Or.inr (Or.inl rfl))
      · exact Or.inr (Or.inr (Or.inr rfl))
theorem lxA_ok {b : Nat → Nat} {n f : Nat} (hf : f ≤ n) : (lxA b n f).1 ≤ 8 ∧ (lxA b n f).2.1 = f ∧ (lxA b n f).2.2.1 ≤ n ∧ f ≤ (lxA b n f).2.2.1 ∧ (lxA b n f).2.2.2 ≤ 10000 := by
  unfold lxA
  by_cases z : n ≤ f
  · rw [if_pos z]; exact ⟨by omega, rfl, hf, Nat.le_refl _, (show 0 ≤ 10000 by omega)⟩
  · rw [if_neg z]
    by_cases z1 : isDg (b f) = true
    · rw [if_pos z1]
      have := nmv_le (b := b) (n := n) (m := n - f) (v := 0) hf (by omega)
      exact ⟨by omega, rfl, this.2.1, this.1, this.2.2⟩
    · rw [if_neg z1]
      by_cases z2 : isLt (b f) = true
      · rw [if_pos z2]
        have := scn_le (P := isLt) (b := b) (n := n) (m := n - (f + 1)) (i := f + 1) (by omega)
        have h2 := wdK_r b f (scn isLt b n (n - (f + 1)) (f + 1))
        exact ⟨by simp only; omega, rfl, this.2, by simp only; omega, by simp only; omega⟩
      · rw [if_neg z2]
        have h2 := sgK_r (b f)
        exact ⟨by simp only; omega, rfl, by simp only; omega, by simp only; omega, by simp only; omega⟩
theorem lx_ok {b : Nat → Nat} {n g : Nat} (hg : g ≤ n) : (lx b n g).1 ≤ 8 ∧ (lx b n g).2.1 ≤ n ∧ (lx b n g).2.2.1 ≤ n ∧ (lx b n g).2.2.2 ≤ 10000 := by
  have h1 := scn_le (P := isBl) (b := b) (m := n - g) hg
  have h2 := lxA_ok (b := b) h1.2
  unfold lx
  exact ⟨h2.1, by rw [h2.2.1]; exact h1.2, h2.2.2.1, h2.2.2.2.2⟩
/-! the class -/
def tpC (b : Nat → Nat) (n : Nat) (s : sx_M) : Prop := (rI s 1 1 = nI n ∧ ∀ k, k < n → rA s 2 k &&& 255 = nI (b k)) ∧ n ≤ 600 ∧ ∀ k, b k < 256
theorem tpC_w {b : Nat → Nat} {n : Nat} {s : sx_M} {o k : Nat} {v : Int32} (ho : o ≠ 1) (h : tpC b n s) : tpC b n (wI s o k v) := ⟨⟨by rw [rI_F (Or.inl (fun q => ho q.symm))]; exact h.1.1, h.1.2⟩, h.2⟩
theorem c_at {b : Nat → Nat} {n i : Nat} {s : sx_M} (h : tpC b n s) (hi : i < 2147483648) : f_X9_at (nI i) s = some (if i < n then nI (b i) else -1, s) := by
  have hn := h.2.1
  unfold f_X9_at
  rw [if_neg (nI_pos hi), h.1.1]
  by_cases z : i < n
  · have hin : ¬ (nI i < 0 ∨ 600 ≤ (nI i).toNatClampNeg) := by
      rw [nI_cl (by omega)]
      exact fun q => q.elim (nI_pos (by omega)) (by omega)
    rw [if_neg (show ¬ nI n ≤ nI i from nI_ge z (by omega)), if_pos hin, nI_cl hi, h.1.2 i z, if_pos z]
  · rw [if_pos (show nI n ≤ nI i from nI_le (by omega) hi), if_neg z]
theorem c_dg {c : Nat} (hc : c < 256) (s : sx_M) : f_X6_isDigit (nI c) s = some (if isDg c = true then 1 else 0, s) := by
  unfold f_X6_isDigit isDg
  by_cases z1 : c < 48
  · rw [if_pos (show nI c < 48 from of_eq_true (nI_lt_T (b := 48) z1 (by omega))), if_neg (by simp; omega)]
  · rw [if_neg (show ¬ nI c < 48 from of_eq_false (nI_lt_F (b := 48) (by omega) (by omega)))]
    by_cases z2 : 57 < c
    · rw [if_pos (show 57 < nI c from of_eq_true (nI_lt_T (a := 57) z2 (by omega))), if_neg (by simp; omega)]
    · rw [if_neg (show ¬ 57 < nI c from of_eq_false (nI_lt_F (a := 57) (by omega) (by omega))), if_pos (by simp; omega)]
theorem c_lt {c : Nat} (hc : c < 256) (s : sx_M) : f_X6_isLetter (nI c) s = some (if isLt c = true then 1 else 0, s) := by
  unfold f_X6_isLetter isLt
  by_cases z1 : c < 97
  · rw [if_pos (show nI c < 97 from of_eq_true (nI_lt_T (b := 97) z1 (by omega))), if_neg (by simp; omega)]
  · rw [if_neg (show ¬ nI c < 97 from of_eq_false (nI_lt_F (b := 97) (by omega) (by omega)))]
    by_cases z2 : 122 < c
    · rw [if_pos (show 122 < nI c from of_eq_true (nI_lt_T (a := 122) z2 (by omega))), if_neg (by simp; omega)]
    · rw [if_neg (show ¬ 122 < nI c from of_eq_false (nI_lt_F (a := 122) (by omega) (by omega))), if_pos (by simp; omega)]
theorem nI_lit_eq {c d : Nat} (hc : c < 256) (hd : d < 256) : (nI c = nI d) ↔ c = d := nI_eq (by omega) (by omega)
theorem c_bl {c : Nat} (hc : c < 256) (s : sx_M) : f_X6_isBlank (nI c) s = some (if isBl c = true then 1 else 0, s) := by
  unfold f_X6_isBlank isBl
  by_cases z1 : c = 32
  · rw [if_pos (show nI c = 32 by rw [z1]; rfl), if_pos (by simp [z1])]
  · rw [if_neg (show ¬ nI c = 32 from fun q => z1 ((nI_lit_eq hc (d := 32) (by omega)).mp q))]
    by_cases z2 : c = 10
    · rw [if_pos (show nI c = 10 by rw [z2]; rfl), if_pos (by simp [z2])]
    · rw [if_neg (show ¬ nI c = 10 from fun q => z2 ((nI_lit_eq hc (d := 10) (by omega)).mp q)), if_neg (by simp [z1, z2])]
theorem c_sg {c : Nat} (hc : c < 256) (s : sx_M) : f_X6_kindOfSign (nI c) s = some (nI (sgK c), s) := by
  unfold f_X6_kindOfSign sgK
  rw [if_neg (show ¬ nI c = (-1 : Int32) from of_eq_false (nI_m_F (by omega)))]
  by_cases z1 : c = 44
  · rw [if_pos (show nI c = 44 by rw [z1]; rfl), if_pos z1]; rfl
  · rw [if_neg (show ¬ nI c = 44 from fun q => z1 ((nI_lit_eq hc (d := 44) (by omega)).mp q)), if_neg z1]
    by_cases z2 : c = 45
    · rw [if_pos (show nI c = 45 by rw [z2]; rfl), if_pos z2]; rfl
    · rw [if_neg (show ¬ nI c = 45 from fun q => z2 ((nI_lit_eq hc (d := 45) (by omega)).mp q)), if_neg z2]
      by_cases z3 : c = 59
      · rw [if_pos (show nI c = 59 by rw [z3]; rfl), if_pos z3]; rfl
      · rw [if_neg (show ¬ nI c = 59 from fun q => z3 ((nI_lit_eq hc (d := 59) (by omega)).mp q)), if_neg z3]; rfl
