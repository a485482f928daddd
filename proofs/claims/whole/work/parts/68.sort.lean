/-! THE FIRST BY SUM: a stable order -/
def srtd (Q : List asg) : Prop := Q.Pairwise (fun p q => p.2 ≤ q.2)
theorem ins_mem {p q : asg} : ∀ {Q : List asg}, q ∈ ins p Q ↔ q = p ∨ q ∈ Q
  | [] => by simp [ins]
  | a :: Q => by
    unfold ins
    split
    · simp
    · rw [List.mem_cons, ins_mem (Q := Q), List.mem_cons]
      constructor
      · rintro (h | h | h)
        · exact Or.inr (Or.inl h)
        · exact Or.inl h
        · exact Or.inr (Or.inr h)
      · rintro (h | h | h)
        · exact Or.inr (Or.inl h)
        · exact Or.inl h
        · exact Or.inr (Or.inr h)
theorem ins_srt (p : asg) : ∀ {Q : List asg}, srtd Q → srtd (ins p Q)
  | [], _ => by unfold ins srtd; simp
  | a :: Q, h => by
    obtain ⟨h1, h2⟩ := List.pairwise_cons.mp h
    unfold ins
    split
    · rename_i hlt
      refine List.pairwise_cons.mpr ⟨fun q hq => ?_, h⟩
      rcases List.mem_cons.mp hq with rfl | hq
      · omega
      · have := h1 q hq; omega
    · rename_i hge
      refine List.pairwise_cons.mpr ⟨fun q hq => ?_, ins_srt p h2⟩
      rcases ins_mem.mp hq with rfl | hq
      · omega
      · exact h1 q hq
theorem isort_app (L : List asg) (p : asg) : isort (L ++ [p]) = ins p (isort L) := by
  unfold isort
  rw [List.foldl_append]; rfl
theorem rev_ind {P : List asg → Prop} (h0 : P []) (h1 : ∀ L p, P L → P (L ++ [p])) (L : List asg) : P L := by
  have : ∀ n (L : List asg), L.length = n → P L := by
    intro n
    induction n with
    | zero =>
      intro L hL
      rw [List.eq_nil_of_length_eq_zero hL]; exact h0
    | succ n ih =>
      intro L hL
      have hne : L ≠ [] := fun q => by rw [q] at hL; cases hL
      have := h1 L.dropLast (L.getLast hne) (ih L.dropLast (by rw [List.length_dropLast]; omega))
      rw [List.dropLast_concat_getLast] at this
      exact this
  exact this L.length L rfl
theorem isort_srt (L : List asg) : srtd (isort L) := by
  refine rev_ind (P := fun L => srtd (isort L)) List.Pairwise.nil (fun L p ih => ?_) L
  rw [isort_app]; exact ins_srt p ih
theorem ins_len (p : asg) : ∀ Q : List asg, (ins p Q).length = Q.length + 1
  | [] => rfl
  | a :: Q => by
    unfold ins
    split
    · rfl
    · rw [List.length_cons, ins_len p Q, List.length_cons]
theorem isort_len (L : List asg) : (isort L).length = L.length := by
  refine rev_ind (P := fun L => (isort L).length = L.length) rfl (fun L p ih => ?_) L
  rw [isort_app, ins_len, ih, List.length_append]; rfl
theorem isort_mem (L : List asg) : ∀ q, q ∈ isort L ↔ q ∈ L := by
  refine rev_ind (P := fun L => ∀ q, q ∈ isort L ↔ q ∈ L) (fun q => Iff.rfl) (fun L p ih q => ?_) L
  rw [isort_app, ins_mem, ih, List.mem_append, List.mem_singleton]
  exact Or.comm
/-- where it goes in -/
theorem ins_at {p : asg} : ∀ {Q : List asg} {k : Nat}, k ≤ Q.length → (∀ i q, k ≤ i → Q[i]? = some q → p.2 < q.2) → (∀ i q, i < k → Q[i]? = some q → q.2 ≤ p.2) → ins p Q = Q.take k ++ p :: Q.drop k
  | [], k, hk, _, _ => by
    have : k = 0 := by simpa using hk
    subst this; rfl
  | a :: Q, 0, hk, h1, h2 => by
    have := h1 0 a (by omega) rfl
    unfold ins
    rw [if_pos this]; rfl
  | a :: Q, k + 1, hk, h1, h2 => by
    have h3 := h2 0 a (by omega) rfl
    unfold ins
    rw [if_neg (by omega), ins_at (Q := Q) (k := k) (by simpa using hk) (fun i q hi hq => h1 (i + 1) q (by omega) (by simpa using hq)) (fun i q hi hq => h2 (i + 1) q (by omega) (by simpa using hq))]
    rfl
theorem ins_filter (P : asg → Bool) (p : asg) : ∀ {Q : List asg}, srtd Q → (ins p Q).filter P = if P p then ins p (Q.filter P) else Q.filter P
  | [], _ => by
    unfold ins
    cases h : P p <;> simp [h, ins]
  | a :: Q, hs => by
    obtain ⟨h1, h2⟩ := List.pairwise_cons.mp hs
    unfold ins
    split
    · rename_i hlt
      have hall : ∀ q, q ∈ (a :: Q).filter P → p.2 < q.2 := by
        intro q hq
        rcases List.mem_cons.mp (List.mem_filter.mp hq).1 with rfl | hm
        · exact hlt
        · have := h1 q hm; omega
      rw [List.filter_cons]
      cases hP : P p with
      | false => simp
      | true =>
        simp only [if_true]
        generalize (a :: Q).filter P = M at hall
        cases M with
        | nil => rfl
        | cons m M =>
          unfold ins
          rw [if_pos (hall m (List.mem_cons_self ..))]
    · rename_i hge
      rw [List.filter_cons, ins_filter P p h2, List.filter_cons]
      cases hA : P a with
      | false => simp
      | true =>
        cases hP : P p with
        | false => simp
        | true =>
          simp only [if_true]
          conv => rhs; unfold ins
          rw [if_neg hge]
theorem isort_filter (P : asg → Bool) (L : List asg) : (isort L).filter P = isort (L.filter P) := by
  refine rev_ind (P := fun L => (isort L).filter P = isort (L.filter P)) rfl (fun L p ih => ?_) L
  rw [isort_app, ins_filter P p (isort_srt L), ih, List.filter_append]
  cases h : P p with
  | false => simp [h]
  | true => simp [h]; rw [isort_app]
theorem srt_split (v : Int) : ∀ {Q : List asg}, srtd Q → Q = Q.filter (fun p => decide (p.2 < v)) ++ (Q.filter (fun p => decide (p.2 = v)) ++ Q.filter (fun p => decide (v < p.2)))
  | [], _ => rfl
  | a :: Q, h => by
    obtain ⟨h1, h2⟩ := List.pairwise_cons.mp h
    have ih := srt_split v h2
    rw [List.filter_cons, List.filter_cons, List.filter_cons]
    by_cases c1 : a.2 < v
    · rw [if_pos (by simpa using c1), if_neg (by simp; omega), if_neg (by simp; omega), List.cons_append, ← ih]
    · have e1 : Q.filter (fun p => decide (p.2 < v)) = [] := by
        rw [List.filter_eq_nil_iff]
        intro q hq
        have := h1 q hq
        simp; omega
      rw [if_neg (by simpa using c1), e1, List.nil_append]
      rw [e1, List.nil_append] at ih
      by_cases c2 : a.2 = v
      · rw [if_pos (by simpa using c2), if_neg (by simp; omega), List.cons_append, ← ih]
      · have e2 : Q.filter (fun p => decide (p.2 = v)) = [] := by
          rw [List.filter_eq_nil_iff]
          intro q hq
          have := h1 q hq
          simp; omega
        rw [if_neg (by simpa using c2), if_pos (by simp; omega), e2, List.nil_append]
        rw [e2, List.nil_append] at ih
        rw [← ih]
theorem isort_eqs {v : Int} (L : List asg) (h : ∀ p, p ∈ L → p.2 = v) : isort L = L := by
  revert h
  refine rev_ind (P := fun L => (∀ p, p ∈ L → p.2 = v) → isort L = L) (fun _ => rfl) (fun L p ih h => ?_) L
  have hL := ih (fun q hq => h q (List.mem_append_left _ hq))
  have hp := h p (by simp)
  rw [isort_app, hL, ins_at (k := L.length) (Nat.le_refl _) (fun i q hi hq => by
    have := (List.getElem?_eq_some_iff.mp hq).1
    omega) (fun i q hi hq => by
    have := h q (List.mem_append_left _ (List.mem_of_getElem? hq))
    omega)]
  rw [List.take_length, List.drop_length]
/-- those below v, and the first R of v -/
def sl (v : Int) : Nat → List asg → List asg
  | _, [] => []
  | R, p :: M => if p.2 < v then p :: sl v R M else if p.2 = v ∧ 0 < R then p :: sl v (R - 1) M else sl v R M
def nE (v : Int) (M : List asg) : Nat := M.countP (fun p => decide (p.2 = v))
theorem sl_app (v : Int) : ∀ (M N : List asg) (R : Nat), sl v R (M ++ N) = sl v R M ++ sl v (R - nE v M) N
  | [], N, R => by simp [sl, nE]
  | p :: M, N, R => by
    show sl v R (p :: (M ++ N)) = sl v R (p :: M) ++ _
    unfold sl
    by_cases c1 : p.2 < v
    · rw [if_pos c1, if_pos c1, sl_app v M N R, List.cons_append]
      congr 3
      unfold nE
      rw [List.countP_cons_of_neg (by simp; omega)]
    · rw [if_neg c1, if_neg c1]
      by_cases c2 : p.2 = v
      · by_cases c3 : 0 < R
        · rw [if_pos ⟨c2, c3⟩, if_pos ⟨c2, c3⟩, sl_app v M N (R - 1), List.cons_append]
          congr 3
          unfold nE
          rw [List.countP_cons_of_pos (by simpa using c2)]
          omega
        · rw [if_neg (fun z => c3 z.2), if_neg (fun z => c3 z.2), sl_app v M N R]
          congr 2
          omega
      · rw [if_neg (fun z => c2 z.1), if_neg (fun z => c2 z.1), sl_app v M N R]
        congr 2
        unfold nE
        rw [List.countP_cons_of_neg (by simp [c2])]
theorem sl_lt (v : Int) : ∀ (M : List asg) (R : Nat), (sl v R M).filter (fun p => decide (p.2 < v)) = M.filter (fun p => decide (p.2 < v))
  | [], _ => rfl
  | p :: M, R => by
    unfold sl
    by_cases c1 : p.2 < v
    · rw [if_pos c1, List.filter_cons, List.filter_cons, if_pos (by simpa using c1), if_pos (by simpa using c1), sl_lt v M R]
    · rw [if_neg c1, List.filter_cons, if_neg (by simpa using c1)]
      split
      · rw [List.filter_cons, if_neg (by simpa using c1), sl_lt v M]
      · exact sl_lt v M R
theorem sl_eq (v : Int) : ∀ (M : List asg) (R : Nat), (sl v R M).filter (fun p => decide (p.2 = v)) = (M.filter (fun p => decide (p.2 = v))).take R
  | [], R => by simp [sl]
  | p :: M, R => by
    unfold sl
    by_cases c1 : p.2 < v
    · rw [if_pos c1, List.filter_cons, List.filter_cons, if_neg (by simp; omega), if_neg (by simp; omega), sl_eq v M R]
    · rw [if_neg c1]
      by_cases c2 : p.2 = v
      · rw [List.filter_cons (l := M), if_pos (by simpa using c2)]
        by_cases c3 : 0 < R
        · obtain ⟨k, rfl⟩ : ∃ k, R = k + 1 := ⟨R - 1, by omega⟩
          rw [if_pos ⟨c2, c3⟩, List.filter_cons, if_pos (by simpa using c2), List.take_succ_cons, Nat.add_sub_cancel, sl_eq v M k]
        · have : R = 0 := by omega
          subst this
          rw [if_neg (fun z => c3 z.2), sl_eq v M 0, List.take_zero, List.take_zero]
      · rw [if_neg (fun z => c2 z.1), List.filter_cons (l := M), if_neg (by simpa using c2), sl_eq v M R]
theorem sl_gt (v : Int) : ∀ (M : List asg) (R : Nat), (sl v R M).filter (fun p => decide (v < p.2)) = []
  | [], _ => rfl
  | p :: M, R => by
    unfold sl
    by_cases c1 : p.2 < v
    · rw [if_pos c1, List.filter_cons, if_neg (by simp; omega), sl_gt v M R]
    · rw [if_neg c1]
      split
      · rename_i c
        rw [List.filter_cons, if_neg (by simp; omega), sl_gt v M]
      · exact sl_gt v M R
theorem cp_filter (P : asg → Bool) (L : List asg) : (L.filter P).length = L.countP P := (List.countP_eq_length_filter).symm
/-- the selected ones in order are the first in order -/
theorem sl_first {v : Int} {L : List asg} {R : Nat} (hR : R ≤ nE v L) : isort (sl v R L) = (isort L).take (L.countP (fun p => decide (p.2 < v)) + R) := by
  have e1 := srt_split v (isort_srt (sl v R L))
  have e2 := srt_split v (isort_srt L)
  rw [isort_filter, isort_filter, isort_filter, sl_lt, sl_eq, sl_gt] at e1
  rw [isort_filter, isort_filter, isort_filter] at e2
  rw [e1, e2]
  have f1 : isort ((L.filter (fun p => decide (p.2 = v))).take R) = (L.filter (fun p => decide (p.2 = v))).take R := isort_eqs (v := v) _ (fun p hp => by
    have := (List.mem_filter.mp (List.mem_of_mem_take hp)).2
    simpa using this)
  have f2 : isort (L.filter (fun p => decide (p.2 = v))) = L.filter (fun p => decide (p.2 = v)) := isort_eqs (v := v) _ (fun p hp => by
    have := (List.mem_filter.mp hp).2
    simpa using this)
  have hlen : (isort (L.filter (fun p => decide (p.2 < v)))).length = L.countP (fun p => decide (p.2 < v)) := by rw [isort_len, cp_filter]
  have hlen2 : (L.filter (fun p => decide (p.2 = v))).length = nE v L := cp_filter _ _
  rw [f1, f2, ← hlen, List.take_length_add_append, List.take_append_of_le_length (by rw [hlen2]; exact hR)]
  show _ ++ (_ ++ isort []) = _
  rw [show isort [] = [] from rfl, List.append_nil]
/-- only the first n are kept while going on -/
theorem ins_take (p : asg) : ∀ (n : Nat) (Q : List asg), (ins p (Q.take n)).take n = (ins p Q).take n
  | 0, Q => by rw [List.take_zero, List.take_zero]
  | n + 1, [] => rfl
  | n + 1, a :: Q => by
    rw [List.take_succ_cons]
    unfold ins
    by_cases c : p.2 < a.2
    · rw [if_pos c, if_pos c, List.take_succ_cons, List.take_succ_cons]
      congr 1
      cases n with
      | zero => rfl
      | succ n =>
        rw [List.take_succ_cons, List.take_succ_cons, List.take_take]
        congr 2
        omega
    · rw [if_neg c, if_neg c, List.take_succ_cons, List.take_succ_cons, ins_take p n Q]
