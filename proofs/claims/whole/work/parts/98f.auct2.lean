def dn (h : hs) (w : Nat) : hs := fun v => if v = w then none else h v
theorem dn_w (h : hs) (w : Nat) : dn h w w = none := if_pos rfl
theorem dn_o {h : hs} {w v : Nat} (hv : v ≠ w) : dn h w v = h v := if_neg hv
theorem nn_dn {h : hs} {w : Nat} (hw : h w ≠ none) : ∀ n, nnN (dn h w) n + (if w < n then 1 else 0) = nnN h n
  | 0 => rfl
  | n + 1 => by
    have ih := nn_dn hw n
    unfold nnN
    by_cases z : n = w
    · subst z
      rw [dn_w, if_pos rfl, if_pos (show n < n + 1 by omega), if_neg hw]
      rw [if_neg (show ¬ n < n by omega)] at ih
      omega
    · rw [dn_o z]
      by_cases y : w < n
      · rw [if_pos y] at ih
        rw [if_pos (show w < n + 1 by omega)]
        omega
      · rw [if_neg y] at ih
        rw [if_neg (show ¬ w < n + 1 by omega)]
        omega
def ou (j : Nat) (h : hs) (q : List Nat) : Nat → hs × List Nat
  | 0 => (h, q)
  | n + 1 => if (ou j h q n).1 n = some j then (dn (ou j h q n).1 n, (ou j h q n).2 ++ [n]) else ou j h q n
theorem ou_p {j : Nat} {h : hs} {q : List Nat} {n : Nat} (e : (ou j h q n).1 n = some j) : ou j h q (n + 1) = (dn (ou j h q n).1 n, (ou j h q n).2 ++ [n]) := if_pos e
theorem ou_n {j : Nat} {h : hs} {q : List Nat} {n : Nat} (e : ¬ (ou j h q n).1 n = some j) : ou j h q (n + 1) = ou j h q n := if_neg e
def auI (T : tb) (h : hs) (q : List Nat) : Prop := (∀ v, v ∈ q → v < T.1 ∧ h v = none) ∧ q.Nodup ∧ gok T h ∧ nnN h T.1 + q.length = T.1
theorem ou_I {T : tb} {j w : Nat} {h : hs} {q : List Nat} (hI : auI T h (w :: q)) : ∀ n, n ≤ T.1 → auI T (ou j h q n).1 (w :: (ou j h q n).2)
  | 0, _ => hI
  | n + 1, hn => by
    have ih := ou_I (j := j) hI n (by omega)
    by_cases z : (ou j h q n).1 n = some j
    · rw [ou_p z]
      generalize (ou j h q n).1 = h1 at ih z ⊢
      generalize (ou j h q n).2 = q1 at ih ⊢
      obtain ⟨i1, i2, i3, i4⟩ := ih
      have hz : h1 n ≠ none := by rw [z]; simp
      have hnot : n ∉ w :: q1 := fun q => hz (i1 n q).2
      have hnd := nn_dn hz T.1
      rw [if_pos (show n < T.1 by omega)] at hnd
      refine ⟨fun v hv => ?_, ?_, fun v k hv hk => ?_, ?_⟩
      · by_cases y : v = n
        · rw [y]; exact ⟨by omega, dn_w _ _⟩
        · show v < T.1 ∧ dn h1 n v = none
          rw [dn_o y]
          refine i1 v ?_
          have hv : v ∈ (w :: q1) ++ [n] := hv
          rcases List.mem_append.mp hv with q | q
          · exact q
          · exact absurd (List.mem_singleton.mp q) y
      · show ((w :: q1) ++ [n]).Nodup
        rw [List.nodup_append]
        refine ⟨i2, by simp, fun a ha b hb => ?_⟩
        rw [List.mem_singleton.mp hb]
        exact fun q => hnot (q ▸ ha)
      · by_cases y : v = n
        · rw [y] at hk
          have hk : dn h1 n n = some k := hk
          rw [dn_w] at hk; cases hk
        · have hk : dn h1 n v = some k := hk
          rw [dn_o y] at hk
          exact i3 v k hv hk
      · show nnN (dn h1 n) T.1 + (w :: (q1 ++ [n])).length = T.1
        have : (w :: (q1 ++ [n])).length = (w :: q1).length + 1 := by simp
        omega
    · rw [ou_n z]; exact ih
theorem up_I {T : tb} {h : hs} {q : List Nat} {w j : Nat} (hI : auI T h (w :: q)) (hj : j < T.2.1) (hx : T.2.2 w j ≠ none) : auI T (up h w j) q := by
  obtain ⟨i1, i2, i3, i4⟩ := hI
  have hw := i1 w (List.mem_cons_self ..)
  obtain ⟨i2a, i2b⟩ := List.nodup_cons.mp i2
  have hnn := nn_up (j := j) hw.2 T.1
  rw [if_pos hw.1] at hnn
  refine ⟨fun v hv => ?_, i2b, fun v k hv hk => ?_, ?_⟩
  · have := i1 v (List.mem_cons_of_mem _ hv)
    have hne : v ≠ w := fun y => i2a (by rw [← y]; exact hv)
    rw [up_o hne]
    exact this
  · by_cases y : v = w
    · rw [y, up_w] at hk
      cases hk
      rw [y]
      cases hx' : T.2.2 w j with
      | none => exact absurd hx' hx
      | some x => exact ⟨hj, x, rfl⟩
    · rw [up_o y] at hk
      exact i3 v k hv hk
  · have : (w :: q).length = q.length + 1 := rfl
    omega
def ahd (T : tb) (p : Nat → Int64) (w j : Nat) : Int64 :=
  match lnO T p w (some j) T.2.1 with
  | none => 1000
  | some k => nt T p w k - nt T p w j
def pup (p : Nat → Int64) (j : Nat) (v : Int64) : Nat → Int64 := fun i => if i = j then p j + v else p i
def auN (T : tb) (z : Int64) : Nat → hs → List Nat → (Nat → Int64) → Nat × hs × List Nat × (Nat → Int64)
  | 0, h, q, p => (0, h, q, p)
  | _ + 1, h, [], p => (0, h, [], p)
  | n + 1, h, w :: q, p =>
    match lnO T p w none T.2.1 with
    | none => (0, h, w :: q, p)
    | some j => ((auN T z n (up (ou j h q T.1).1 w j) (ou j h q T.1).2 (pup p j (ahd T p w j + z))).1 + 1, (auN T z n (up (ou j h q T.1).1 w j) (ou j h q T.1).2 (pup p j (ahd T p w j + z))).2)
theorem auN_e {T : tb} {z : Int64} {h : hs} {p : Nat → Int64} : ∀ n, auN T z n h [] p = (0, h, [], p)
  | 0 => rfl
  | _ + 1 => rfl
theorem auN_n {T : tb} {z : Int64} {h : hs} {w : Nat} {q : List Nat} {p : Nat → Int64} (e : lnO T p w none T.2.1 = none) : ∀ n, auN T z n h (w :: q) p = (0, h, w :: q, p)
  | 0 => rfl
  | n + 1 => by unfold auN; rw [e]
theorem auN_s {T : tb} {z : Int64} {h : hs} {w j : Nat} {q : List Nat} {p : Nat → Int64} {n : Nat} (e : lnO T p w none T.2.1 = some j) : auN T z (n + 1) h (w :: q) p = ((auN T z n (up (ou j h q T.1).1 w j) (ou j h q T.1).2 (pup p j (ahd T p w j + z))).1 + 1, (auN T z n (up (ou j h q T.1).1 w j) (ou j h q T.1).2 (pup p j (ahd T p w j + z))).2) := by
  conv => lhs; unfold auN
  rw [e]
def qIs (o b : Nat) (q : List Nat) (s : sx_M) : Prop := ∀ i v, q[i]? = some v → rA s o (b + i) = nI v
theorem qIs_ap {o b : Nat} {q : List Nat} {v : Nat} {s s' : sx_M} (h : qIs o b q s) (e1 : ∀ i, i < q.length → rA s' o (b + i) = rA s o (b + i)) (e2 : rA s' o (b + q.length) = nI v) : qIs o b (q ++ [v]) s' := by
  intro i u hu
  rw [List.getElem?_append] at hu
  by_cases z : i < q.length
  · rw [if_pos z] at hu
    rw [e1 i z]
    exact h i u hu
  · rw [if_neg z] at hu
    have hi : i - q.length = 0 := by
      cases hk : i - q.length with
      | zero => rfl
      | succ k => rw [hk] at hu; simp at hu
    rw [hi] at hu
    have hu : some v = some u := hu
    cases hu
    rw [show i = q.length by omega]
    exact e2
theorem qIs_lt {q : List Nat} {i v : Nat} (h : q[i]? = some v) : i < q.length := by
  obtain ⟨q, _⟩ := List.getElem?_eq_some_iff.mp h
  exact q
theorem qIs_e {o b : Nat} {q : List Nat} {s s' : sx_M} (h : qIs o b q s) (e : ∀ i, i < q.length → rA s' o (b + i) = rA s o (b + i)) : qIs o b q s' := fun i v hv => by
  rw [e i (qIs_lt hv)]
  exact h i v hv
/-! the class -/
theorem c_leave {w : Nat} {q : List Nat} {s : sx_M} (hq : qIs 52 0 (w :: q) s) (h4 : rI s 49 4 = nI (q.length + 1)) (hl : q.length + 1 ≤ 7) : Ev (f_X8_leaveQueue s) (fun s' => qIs 52 0 q s' ∧ rI s' 49 4 = nI q.length ∧ sx_eq ((fun o k => o = 49 ∧ k = 4, fun _ _ => False, fun o => o = 52, fun _ => False) : sx_D) s s') := by
  have hL : Ev (whT f_X8_leaveQueue_L2 (1, s)) (fun s' => (∀ m, m < q.length → rA s' 52 m = rA s 52 (m + 1)) ∧ sx_eq (Dar 52) s s') := by
    refine ev_f (fun (i : Nat) (a : Int32 × sx_M) => 1 ≤ i ∧ a.1 = nI i ∧ (∀ m, m + 1 < i → rA a.2 52 m = rA s 52 (m + 1)) ∧ (∀ m, i ≤ m → rA a.2 52 m = rA s 52 m) ∧ sx_eq (Dar 52) s a.2) (q.length + 1) ?_ ?_ (i := 1) (by omega) ⟨by omega, rfl, fun m hm => by omega, fun m _ => rfl, sx_rf _ _⟩
    · rintro i ⟨a1, s1⟩ hi ⟨e0, ea, b1, b3, b2⟩
      simp only at ea b1 b2 b3
      subst ea
      have h41 : rI s1 49 4 = nI (q.length + 1) := by rw [b2.1 49 4 (fun z => z)]; exact h4
      obtain ⟨k, rfl⟩ : ∃ k, i = k + 1 := ⟨i - 1, by omega⟩
      have hin : ¬ (nI (k + 1) < 0 ∨ 7 ≤ (nI (k + 1)).toNatClampNeg) := by
        rw [nI_cl (by omega)]
        exact fun q => q.elim (nI_pos (by omega)) (by omega)
      have hin2 : ¬ (nI k < 0 ∨ 7 ≤ (nI k).toNatClampNeg) := by
        rw [nI_cl (by omega)]
        exact fun q => q.elim (nI_pos (by omega)) (by omega)
      have hk : nI (k + 1) - 1 = nI k := nI_k1 k
      refine ⟨.inl (nI (k + 1 + 1), wA s1 52 k (rA s1 52 (k + 1))), ?_, by omega, rfl, fun m hm => ?_, fun m hm => ?_, sx_wA' b2 rfl⟩
      · simp only [f_X8_leaveQueue_L2]
        rw [h41, if_neg (show ¬ nI (q.length + 1) ≤ nI (k + 1) from nI_ge hi (by omega)), if_pos hin, hk, if_pos hin2, nI_cl (show k + 1 < 2147483648 by omega), nI_cl (show k < 2147483648 by omega), nI_1]
      · show rA (wA s1 52 k _) 52 m = _
        by_cases z : m = k
        · rw [rA_T ⟨rfl, z⟩, z]; exact b3 _ (by omega)
        · rw [rA_F (by omega)]; exact b1 m (by omega)
      · show rA (wA s1 52 k _) 52 m = _
        rw [rA_F (by omega)]; exact b3 m (by omega)
    · rintro ⟨a1, s1⟩ ⟨e0, ea, b1, b3, b2⟩
      simp only at ea b1 b2 b3
      subst ea
      have h41 : rI s1 49 4 = nI (q.length + 1) := by rw [b2.1 49 4 (fun z => z)]; exact h4
      refine ⟨.inr s1, ?_, fun m hm => b1 m (by omega), b2⟩
      simp only [f_X8_leaveQueue_L2]
      rw [h41, if_pos (show nI (q.length + 1) ≤ nI (q.length + 1) from nI_le (Nat.le_refl _) (by omega))]
  obtain ⟨s1, e1, c1, x1⟩ := hL
  have h41 : rI s1 49 4 = nI (q.length + 1) := by rw [x1.1 49 4 (fun z => z)]; exact h4
  have hk : nI (q.length + 1) - 1 = nI q.length := nI_k1 _
  refine ⟨wI s1 49 4 (nI q.length), ?_, fun i v hv => ?_, rI_T ⟨rfl, rfl⟩, ?_⟩
  · unfold f_X8_leaveQueue
    rw [bnd e1, h41, hk]
  · show rA s1 52 (0 + i) = nI v
    have hi := qIs_lt hv
    rw [Nat.zero_add, c1 i hi]
    have := hq (i + 1) v (by simpa using hv)
    rw [Nat.zero_add] at this
    exact this
  · exact sx_wI' (sx_mono x1 (fun _ _ z => z.elim) (fun _ _ z => z.elim) (fun _ z => z) (fun _ z => z.elim)) ⟨rfl, rfl⟩
