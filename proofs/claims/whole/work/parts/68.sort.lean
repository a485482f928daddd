/-! THE FIRST BY SUM: a stable order -/
def srtd (Q : List asg) : Prop := Q.Pairwise (fun p q => p.2 ≤ q.2)
theorem ins_mem {p q : asg} : ∀ {Q : List asg}, q ∈ ins p Q ↔ q = p ∨ q ∈ Q
  | [] => by simp [ins]
  | a :: Q => by
    unfold ins
    split
    · simp
    · rw [List.mem_cons, ins_mem (Q := Q), List.mem_cons]
      constructor
      · rintro (h | h | h)
        · exact Or.inr (Or.inl h)
        · exact Or.inl h
        · exact Or.inr (Or.inr h)
      · rintro (h | h | h)
        · exact Or.inr (Or.inl h)
        · exact Or.inl h
        · exact Or.inr (Or.inr h)
theorem ins_srt (p : asg) : ∀ {Q : List asg}, srtd Q → srtd (ins p Q)
  | [], _ => by unfold ins srtd; simp
  | a :: Q, h => by
    obtain ⟨h1, h2⟩ := List.pairwise_cons.mp h
    unfold ins
    split
    · rename_i hlt
      refine List.pairwise_cons.mpr ⟨fun q hq => ?_, h⟩
      rcases List.mem_cons.mp hq with rfl | hq
      · omega
      · have := h1 q hq; omega
    · rename_i hge
      refine List.pairwise_cons.mpr ⟨fun q hq => ?_, ins_srt p h2⟩
      rcases ins_mem.mp hq with rfl | hq
      · omega
      · exact h1 q hq
theorem isort_app (L : List asg) (p : asg) : isort (L ++ [p]) = ins p (isort L) := by
  unfold isort
  rw [List.foldl_append]; rfl
theorem rev_ind {P : List asg → Prop} (h0 : P []) (h1 : ∀ L p, P L → P (L ++ [p])) (L : List asg) : P L := by
  have : ∀ n (L : List asg), L.length = n → P L := by
    intro n
    induction n with
    | zero =>
      intro L hL
      rw [List.eq_nil_of_length_eq_zero hL]; exact h0
    | succ n ih =>
      intro L hL
      have hne : L ≠ [] := fun q => by rw [q] at hL; cases hL
      have := h1 L.dropLast (L.getLast hne) (ih L.dropLast (by rw [List.length_dropLast]; omega))
      rw [List.dropLast_concat_getLast] at this
      exact this
  exact this L.length L rfl
theorem isort_srt (L : List asg) : srtd (isort L) := by
  refine rev_ind (P := fun L => srtd (isort L)) List.Pairwise.nil (fun L p ih => ?_) L
  rw [isort_app]; exact ins_srt p ih
theorem ins_len (p : asg) : ∀ Q : List asg, (ins p Q).length = Q.length + 1
  | [] => rfl
  | a :: Q => by
    unfold ins
    split
    · rfl
    · rw [List.length_cons, ins_len p Q, List.length_cons]
theorem isort_len (L : List asg) : (isort L).length = L.length := by
  refine rev_ind (P := fun L => (isort L).length = L.length) rfl (fun L p ih => ?_) L
  rw [isort_app, ins_len, ih, List.length_append]; rfl
theorem isort_mem (L : List asg) : ∀ q, q ∈ isort L ↔ q ∈ L := by
  refine rev_ind (P := fun L => ∀ q, q ∈ isort L ↔ q ∈ L) (fun q => Iff.rfl) (fun L p ih q => ?_) L
  rw [isort_app, ins_mem, ih, List.mem_append, List.mem_singleton]
  exact Or.comm
/-- where it goes in -/
theorem ins_at {p : asg} : ∀ {Q : List asg} {k : Nat}, k ≤ Q.length → (∀ i q, k ≤ i → Q[i]? = some q → p.2 < q.2) → (∀ i q, i < k → Q[i]? = some q → q.2 ≤ p.2) → ins p Q = Q.take k ++ p :: Q.drop k
  | [], k, hk, _, _ => by
    have : k = 0 := by simpa using hk
    subst this; rfl
  | a :: Q, 0, hk, h1, h2 => by
    have := h1 0 a (by omega) rfl
    unfold ins
    rw [if_pos this]; rfl
  | a :: Q, k + 1, hk, h1, h2 => by
    have h3 := h2 0 a (by omega) rfl
    unfold ins
    rw [if_neg (by omega), ins_at (Q := Q) (k := k) (by simpa using hk) (fun i q hi hq => h1 (i + 1) q (by omega) (by simpa using hq)) (fun i q hi hq => h2 (i + 1) q (by omega) (by simpa using hq))]
    rfl
theorem ins_c1 {p a : asg} {Q : List asg} (h : p.2 < a.2) : ins p (a :: Q) = p :: a :: Q := if_pos h
theorem ins_c2 {p a : asg} {Q : List asg} (h : ¬ p.2 < a.2) : ins p (a :: Q) = a :: ins p Q := if_neg h
theorem ins_filter (P : asg → Bool) (p : asg) : ∀ {Q : List asg}, srtd Q → (ins p Q).filter P = if P p then ins p (Q.filter P) else Q.filter P
  | [], _ => by
    show [p].filter P = if P p then [p] else []
    cases h : P p <;> simp [h]
  | a :: Q, hs => by
    obtain ⟨h1, h2⟩ := List.pairwise_cons.mp hs
    by_cases hlt : p.2 < a.2
    · have hall : ∀ q, q ∈ (a :: Q).filter P → p.2 < q.2 := by
        intro q hq
        rcases List.mem_cons.mp (List.mem_filter.mp hq).1 with rfl | hm
        · exact hlt
        · have := h1 q hm; omega
      rw [ins_c1 hlt, List.filter_cons]
      cases hP : P p with
      | false => rfl
      | true =>
        simp only [if_true]
        generalize (a :: Q).filter P = M at hall
        cases M with
        | nil => rfl
        | cons m M => rw [ins_c1 (hall m (List.mem_cons_self ..))]
    · rw [ins_c2 hlt, List.filter_cons, ins_filter P p h2, List.filter_cons]
      cases hA : P a with
      | false => rfl
      | true =>
        cases hP : P p with
        | false => rfl
        | true =>
          simp only [if_true]
          rw [ins_c2 hlt]
theorem isort_filter (P : asg → Bool) (L : List asg) : (isort L).filter P = isort (L.filter P) := by
  refine rev_ind (P := fun L => (isort L).filter P = isort (L.filter P)) rfl (fun L p ih => ?_) L
  rw [isort_app, ins_filter P p (isort_srt L), ih, List.filter_append]
  cases h : P p with
  | false => simp [h]
  | true => simp [h]; rw [isort_app]
theorem srt_split (v : Int) : ∀ {Q : List asg}, srtd Q → Q = Q.filter (fun p => decide (p.2 < v)) ++ (Q.filter (fun p => decide (p.2 = v)) ++ Q.filter (fun p => decide (v < p.2)))
  | [], _ => rfl
  | a :: Q, h => by
    obtain ⟨h1, h2⟩ := List.pairwise_cons.mp h
    have ih := srt_split v h2
    rw [List.filter_cons, List.filter_cons, List.filter_cons]
    by_cases c1 : a.2 < v
    · rw [if_pos (by simpa using c1), if_neg (by simp; omega), if_neg (by simp; omega), List.cons_append, ← ih]
    · have e1 : Q.filter (fun p => decide (p.2 < v)) = [] := by
        rw [List.filter_eq_nil_iff]
        intro q hq
        have := h1 q hq
        simp; omega
      rw [if_neg (by simpa using c1), e1, List.nil_append]
      rw [e1, List.nil_append] at ih
      by_cases c2 : a.2 = v
      · rw [if_pos (by simpa using c2), if_neg (by simp; omega), List.cons_append, ← ih]
      · have e2 : Q.filter (fun p => decide (p.2 = v)) = [] := by
          rw [List.filter_eq_nil_iff]
          intro q hq
          have := h1 q hq
          simp; omega
        rw [if_neg (by simpa using c2), if_pos (by simp; omega), e2, List.nil_append]
        rw [e2, List.nil_append] at ih
        rw [← ih]
theorem isort_eqs {v : Int} (L : List asg) (h : ∀ p, p ∈ L → p.2 = v) : isort L = L := by
  revert h
  refine rev_ind (P := fun L => (∀ p, p ∈ L → p.2 = v) → isort L = L) (fun _ => rfl) (fun L p ih h => ?_) L
  have hL := ih (fun q hq => h q (List.mem_append_left _ hq))
  have hp := h p (by simp)
  rw [isort_app, hL, ins_at (k := L.length) (Nat.le_refl _) (fun i q hi hq => by
    have := (List.getElem?_eq_some_iff.mp hq).1
    omega) (fun i q hi hq => by
    have := h q (List.mem_append_left _ (List.mem_of_getElem? hq))
    omega)]
  rw [List.take_length, List.drop_length]
/-- those below v, and the first R of v -/
def sl (v : Int) : Nat → List asg → List asg
  | _, [] => []
  | R, p :: M => if p.2 < v then p :: sl v R M else if p.2 = v ∧ 0 < R then p :: sl v (R - 1) M else sl v R M
def nE (v : Int) (M : List asg) : Nat := M.countP (fun p => decide (p.2 = v))
theorem sl_n (v : Int) (R : Nat) : sl v R [] = [] := by unfold sl; rfl
theorem sl_1 {v : Int} {R : Nat} {p : asg} {M : List asg} (h : p.2 < v) : sl v R (p :: M) = p :: sl v R M := if_pos h
theorem sl_2 {v : Int} {R : Nat} {p : asg} {M : List asg} (h : p.2 = v) (hR : 0 < R) : sl v R (p :: M) = p :: sl v (R - 1) M := (if_neg (by omega)).trans (if_pos ⟨h, hR⟩)
theorem sl_3 {v : Int} {R : Nat} {p : asg} {M : List asg} (h : ¬ p.2 < v) (hR : ¬ (p.2 = v ∧ 0 < R)) : sl v R (p :: M) = sl v R M := (if_neg h).trans (if_neg hR)
theorem nE_t {v : Int} {p : asg} {M : List asg} (h : p.2 = v) : nE v (p :: M) = nE v M + 1 := List.countP_cons_of_pos (by simpa using h)
theorem nE_f {v : Int} {p : asg} {M : List asg} (h : ¬ p.2 = v) : nE v (p :: M) = nE v M := List.countP_cons_of_neg (by simpa using h)
theorem sl_app (v : Int) : ∀ (M N : List asg) (R : Nat), sl v R (M ++ N) = sl v R M ++ sl v (R - nE v M) N
  | [], N, R => by rw [sl_n, List.nil_append, List.nil_append]; rfl
  | p :: M, N, R => by
    rw [List.cons_append]
    by_cases c1 : p.2 < v
    · rw [sl_1 c1, sl_1 c1, sl_app v M N R, List.cons_append, nE_f (by omega)]
    · by_cases c2 : p.2 = v
      · by_cases c3 : 0 < R
        · rw [sl_2 c2 c3, sl_2 c2 c3, sl_app v M N (R - 1), List.cons_append, nE_t c2, show R - 1 - nE v M = R - (nE v M + 1) by omega]
        · rw [sl_3 c1 (fun z => c3 z.2), sl_3 c1 (fun z => c3 z.2), sl_app v M N R, nE_t c2, show R - nE v M = R - (nE v M + 1) by omega]
      · rw [sl_3 c1 (fun z => c2 z.1), sl_3 c1 (fun z => c2 z.1), sl_app v M N R, nE_f c2]
theorem fc_t {P : asg → Bool} {p : asg} {M : List asg} (h : P p = true) : (p :: M).filter P = p :: M.filter P := List.filter_cons_of_pos h
theorem fc_f {P : asg → Bool} {p : asg} {M : List asg} (h : ¬ P p = true) : (p :: M).filter P = M.filter P := List.filter_cons_of_neg h
theorem sl_lt (v : Int) : ∀ (M : List asg) (R : Nat), (sl v R M).filter (fun p => decide (p.2 < v)) = M.filter (fun p => decide (p.2 < v))
  | [], R => by rw [sl_n]
  | p :: M, R => by
    by_cases c1 : p.2 < v
    · rw [sl_1 c1, fc_t (by simpa using c1), fc_t (by simpa using c1), sl_lt v M R]
    · rw [fc_f (M := M) (by simpa using c1)]
      by_cases c2 : p.2 = v ∧ 0 < R
      · rw [sl_2 c2.1 c2.2, fc_f (by simpa using c1), sl_lt v M]
      · rw [sl_3 c1 c2, sl_lt v M R]
theorem sl_eq (v : Int) : ∀ (M : List asg) (R : Nat), (sl v R M).filter (fun p => decide (p.2 = v)) = (M.filter (fun p => decide (p.2 = v))).take R
  | [], R => by rw [sl_n, List.filter_nil, List.take_nil]
  | p :: M, R => by
    by_cases c1 : p.2 < v
    · rw [sl_1 c1, fc_f (by simp; omega), fc_f (M := M) (by simp; omega), sl_eq v M R]
    · by_cases c2 : p.2 = v
      · rw [fc_t (M := M) (by simpa using c2)]
        by_cases c3 : 0 < R
        · obtain ⟨k, rfl⟩ : ∃ k, R = k + 1 := ⟨R - 1, by omega⟩
          rw [sl_2 c2 c3, fc_t (by simpa using c2), List.take_succ_cons, Nat.add_sub_cancel, sl_eq v M k]
        · have : R = 0 := by omega
          subst this
          rw [sl_3 c1 (fun z => c3 z.2), sl_eq v M 0, List.take_zero, List.take_zero]
      · rw [sl_3 c1 (fun z => c2 z.1), fc_f (M := M) (by simpa using c2), sl_eq v M R]
theorem sl_gt (v : Int) : ∀ (M : List asg) (R : Nat), (sl v R M).filter (fun p => decide (v < p.2)) = []
  | [], R => by rw [sl_n, List.filter_nil]
  | p :: M, R => by
    by_cases c1 : p.2 < v
    · rw [sl_1 c1, fc_f (by simp; omega), sl_gt v M R]
    · by_cases c2 : p.2 = v ∧ 0 < R
      · rw [sl_2 c2.1 c2.2, fc_f (by simp; omega), sl_gt v M]
      · rw [sl_3 c1 c2, sl_gt v M R]
theorem cp_filter (P : asg → Bool) (L : List asg) : (L.filter P).length = L.countP P := (List.countP_eq_length_filter).symm
/-- the selected ones in order are the first in order -/
theorem sl_first {v : Int} {L : List asg} {R : Nat} (hR : R ≤ nE v L) : isort (sl v R L) = (isort L).take (L.countP (fun p => decide (p.2 < v)) + R) := by
  have e1 := srt_split v (isort_srt (sl v R L))
  have e2 := srt_split v (isort_srt L)
  rw [isort_filter, isort_filter, isort_filter, sl_lt, sl_eq, sl_gt] at e1
  rw [isort_filter, isort_filter, isort_filter] at e2
  rw [e1, e2]
  have f1 : isort ((L.filter (fun p => decide (p.2 = v))).take R) = (L.filter (fun p => decide (p.2 = v))).take R := isort_eqs (v := v) _ (fun p hp => by
    have := (List.mem_filter.mp (List.mem_of_mem_take hp)).2
    simpa using this)
  have f2 : isort (L.filter (fun p => decide (p.2 = v))) = L.filter (fun p => decide (p.2 = v)) := isort_eqs (v := v) _ (fun p hp => by
    have := (List.mem_filter.mp hp).2
    simpa using this)
  have hlen : (isort (L.filter (fun p => decide (p.2 < v)))).length = L.countP (fun p => decide (p.2 < v)) := by rw [isort_len, cp_filter]
  have hlen2 : (L.filter (fun p => decide (p.2 = v))).length = nE v L := cp_filter _ _
  rw [f1, f2, ← hlen, List.take_length_add_append, List.take_append_of_le_length (by rw [hlen2]; exact hR)]
  show _ ++ (_ ++ isort []) = _
  rw [show isort [] = [] from rfl, List.append_nil]
/-- only the first n are kept while going on -/
theorem ins_take (p : asg) : ∀ (n : Nat) (Q : List asg), (ins p (Q.take n)).take n = (ins p Q).take n
  | 0, Q => by rw [List.take_zero, List.take_zero]
  | n + 1, [] => rfl
  | n + 1, a :: Q => by
    rw [List.take_succ_cons]
    by_cases c : p.2 < a.2
    · rw [ins_c1 c, ins_c1 c, List.take_succ_cons, List.take_succ_cons]
      congr 1
      cases n with
      | zero => rfl
      | succ n =>
        rw [List.take_succ_cons, List.take_succ_cons, List.take_take]
        congr 2
        omega
    · rw [ins_c2 c, ins_c2 c, List.take_succ_cons, List.take_succ_cons, ins_take p n Q]
