/-! ROWS: which are assignments; their order -/
def okV (c : cst) : Nat → Nat → List Nat → Prop
  | _, _, [] => True
  | w, S, j :: r => j < 8 ∧ (c w j).isSome = true ∧ S.testBit j = false ∧ okV c (w + 1) (S ||| 2 ^ j) r
def smR (c : cst) : Nat → List Nat → Int
  | _, [] => 0
  | w, j :: r => (c w j).getD 0 + smR c (w + 1) r
theorem ex_iff {c : cst} : ∀ {n w S : Nat} {p : asg}, p ∈ ex c n w S ↔ p.1.length = n ∧ okV c w S p.1 ∧ p.2 = smR c w p.1
  | 0, w, S, (r, v) => by
    constructor
    · intro h
      have h : (r, v) = (([], 0) : asg) := by simpa [ex] using h
      cases h
      exact ⟨rfl, trivial, rfl⟩
    · rintro ⟨h1, _, h3⟩
      have : r = [] := List.eq_nil_of_length_eq_zero h1
      subst this
      have : v = 0 := h3
      subst this
      simp [ex]
  | n + 1, w, S, (r, v) => by
    rw [mem_ex]
    constructor
    · rintro ⟨j, x, q, hj, h1, h2, h3, e⟩
      cases e
      obtain ⟨a1, a2, a3⟩ := ex_iff.mp h3
      refine ⟨by simp [a1], ⟨hj, by rw [h1]; rfl, h2, a2⟩, ?_⟩
      show x + q.2 = (c w j).getD 0 + smR c (w + 1) q.1
      rw [h1, a3]; rfl
    · rintro ⟨h1, h2, h3⟩
      cases r with
      | nil => simp at h1
      | cons j r =>
        obtain ⟨b1, b2, b3, b4⟩ := h2
        obtain ⟨x, hx⟩ := Option.isSome_iff_exists.mp b2
        refine ⟨j, x, (r, smR c (w + 1) r), b1, hx, b3, ex_iff.mpr ⟨by simpa using h1, b4, rfl⟩, ?_⟩
        have h3 : v = (c w j).getD 0 + smR c (w + 1) r := h3
        rw [h3, hx]; rfl
theorem okV_iff {c : cst} : ∀ {r : List Nat} {w S : Nat}, okV c w S r ↔ (∀ i j, r[i]? = some j → j < 8 ∧ (c (w + i) j).isSome = true ∧ S.testBit j = false) ∧ r.Nodup
  | [], w, S => by simp [okV]
  | a :: r, w, S => by
    unfold okV
    rw [okV_iff (r := r), List.nodup_cons]
    constructor
    · rintro ⟨h1, h2, h3, h4, h5⟩
      refine ⟨fun i j hi => ?_, fun hm => ?_, h5⟩
      · cases i with
        | zero =>
          have : a = j := by simpa using hi
          subst this
          exact ⟨h1, h2, h3⟩
        | succ i =>
          obtain ⟨b1, b2, b3⟩ := h4 i j (by simpa using hi)
          rw [Nat.testBit_or] at b3
          simp at b3
          rw [show w + 1 + i = w + (i + 1) by omega] at b2
          exact ⟨b1, b2, b3.1⟩
      · obtain ⟨i, hi⟩ := List.getElem?_of_mem hm
        obtain ⟨_, _, b3⟩ := h4 i a hi
        rw [Nat.testBit_or, Nat.testBit_two_pow_self] at b3
        simp at b3
    · rintro ⟨h1, h2, h3⟩
      obtain ⟨a1, a2, a3⟩ := h1 0 a rfl
      refine ⟨a1, a2, a3, fun i j hi => ?_, h3⟩
      obtain ⟨b1, b2, b3⟩ := h1 (i + 1) j (by simpa using hi)
      rw [show w + (i + 1) = w + 1 + i by omega] at b2
      refine ⟨b1, b2, ?_⟩
      rw [or_tb, b3]
      have : a ≠ j := fun q => by rw [← q] at hi; exact h2 (List.mem_of_getElem? hi)
      simp [this]
/-- rows come in the order of their numbers -/
theorem ex_ord (c : cst) : ∀ n w S, (ex c n w S).Pairwise (fun p q => cod p.1 < cod q.1)
  | 0, w, S => by simp [ex]
  | n + 1, w, S => by
    show ((List.range 8).flatMap _).Pairwise _
    rw [List.pairwise_flatMap]
    refine ⟨fun j _ => ?_, ?_⟩
    · cases hb : S.testBit j with
      | true => rw [br_in hb]; exact List.Pairwise.nil
      | false =>
        cases hc : c w j with
        | none => rw [br_none hc]; exact List.Pairwise.nil
        | some x =>
          rw [br_some hc hb]
          unfold bx
          rw [List.pairwise_map]
          refine (ex_ord c n (w + 1) (S ||| 2 ^ j)).imp_of_mem (fun {p q} hp hq h => ?_)
          show j * 8 ^ p.1.length + cod p.1 < j * 8 ^ q.1.length + cod q.1
          rw [ex_row hp, ex_row hq]
          omega
    · refine List.pairwise_lt_range.imp (fun {a b} hab p hp q hq => ?_)
      obtain ⟨x, p', _, _, h3, rfl⟩ := mem_br.mp hp
      obtain ⟨y, q', _, _, h4, rfl⟩ := mem_br.mp hq
      show a * 8 ^ p'.1.length + cod p'.1 < b * 8 ^ q'.1.length + cod q'.1
      rw [ex_row h3, ex_row h4]
      have h1 := cod_lt p'.1 (ex_lt8 h3)
      rw [ex_row h3] at h1
      have h2 : (a + 1) * 8 ^ n ≤ b * 8 ^ n := Nat.mul_le_mul_right _ (by omega)
      rw [Nat.add_mul] at h2
      omega
theorem ex_inj {c : cst} {n w S i k : Nat} {p q : asg} (hi : (ex c n w S)[i]? = some p) (hk : (ex c n w S)[k]? = some q) : (i < k → cod p.1 < cod q.1) ∧ (cod p.1 = cod q.1 → i = k) := by
  have h := List.pairwise_iff_getElem.mp (ex_ord c n w S)
  obtain ⟨hi', ei⟩ := List.getElem?_eq_some_iff.mp hi
  obtain ⟨hk', ek⟩ := List.getElem?_eq_some_iff.mp hk
  have a : i < k → cod p.1 < cod q.1 := fun z => by
    have := h i k hi' hk' z
    rw [ei, ek] at this; exact this
  have b : k < i → cod q.1 < cod p.1 := fun z => by
    have := h k i hk' hi' z
    rw [ei, ek] at this; exact this
  exact ⟨a, fun z => by
    rcases Nat.lt_trichotomy i k with q | q | q
    · have := a q; omega
    · exact q
    · have := b q; omega⟩
/-- how many of like sum come ahead of a row -/
def bef (c : cst) : Nat → Nat → Int → List Nat → Nat
  | _, _, _, [] => 0
  | w, S, v, j :: r => cnB v v (exT c r.length w S j) + bef c (w + 1) (S ||| 2 ^ j) (v - (c w j).getD 0) r
theorem exT_split (c : cst) (n w S : Nat) : ∀ a b, a ≤ b → ∃ M, exT c n w S b = exT c n w S a ++ M
  | a, 0, h => ⟨[], by rw [show a = 0 by omega, List.append_nil]⟩
  | a, b + 1, h => by
    by_cases q : a = b + 1
    · exact ⟨[], by rw [q, List.append_nil]⟩
    · obtain ⟨M, hM⟩ := exT_split c n w S a b (by omega)
      exact ⟨M ++ br c (ex c n (w + 1)) w S b, by rw [exT_s, hM, List.append_assoc]⟩
theorem bef_ex {c : cst} : ∀ {n w S : Nat} {p : asg} (v : Int), p ∈ ex c n w S → ∃ i, (ex c n w S)[i]? = some p ∧ cnB v v ((ex c n w S).take i) = bef c w S v p.1
  | 0, w, S, p, v, h => by
    have h : p = (([], 0) : asg) := by simpa [ex] using h
    subst h
    exact ⟨0, rfl, rfl⟩
  | n + 1, w, S, p, v, h => by
    obtain ⟨j, x, q, hj, h1, h2, h3, rfl⟩ := mem_ex.mp h
    obtain ⟨i, hi, hc⟩ := bef_ex (v - x) h3
    have hil : i < (ex c n (w + 1) (S ||| 2 ^ j)).length := (List.getElem?_eq_some_iff.mp hi).1
    obtain ⟨M, hM⟩ := exT_split c n w S (j + 1) 8 (by omega)
    rw [ex_s, hM, exT_s, br_some h1 h2, List.append_assoc]
    refine ⟨(exT c n w S j).length + i, ?_, ?_⟩
    · rw [List.getElem?_append_right (by omega), show (exT c n w S j).length + i - (exT c n w S j).length = i by omega, List.getElem?_append_left (by rw [bx_len]; exact hil)]
      unfold bx
      rw [List.getElem?_map, hi]; rfl
    · rw [List.take_length_add_append, cnB_app, List.take_append_of_le_length (by rw [bx_len]; omega)]
      unfold bx
      rw [← List.map_take]
      have : cnB v v (bx x j ((ex c n (w + 1) (S ||| 2 ^ j)).take i)) = bef c (w + 1) (S ||| 2 ^ j) (v - x) q.1 := by rw [cnB_bx, hc]
      unfold bx at this
      rw [this]
      show _ = cnB v v (exT c q.1.length w S j) + bef c (w + 1) (S ||| 2 ^ j) (v - (c w j).getD 0) q.1
      rw [ex_row h3, h1]; rfl
/-! the class decodes -/
theorem at_all {g : Nat} {T : tb} {s : sx_M} {B : Int} (hT : tb_b B T) (hg : gridIs g T s) {w j : Nat} (hw : w < T.1) (hj : j < 8) : f_X1_at g (nI w) (nI j) s = some (c64 (T.2.2 w j), s) := by
  by_cases q : j < T.2.1
  · exact at_F hT.1 hT.2.1 hg hw q
  · have h7 := hT.1
    have h8 := hT.2.1
    unfold f_X1_at
    rw [if_neg (nI_pos (by omega)), hg.1, if_neg (nI_ge hw (by omega)), if_neg (nI_pos (by omega)), hg.2.1, if_pos (nI_le (by omega) (by omega)), hT.2.2.2 w j (by omega)]
    rfl
theorem f_decode {g ra : Nat} {T : tb} {s : sx_M} (hT : tb_ok T) (hg : gridIs g T s) (t : Nat) (ht : t < 2147483648) : Ev (f_X1_decode g ra (nI t) s) (fun r => ((r.1 = 1 ∧ ∃ p, p ∈ allA T ∧ cod p.1 = t ∧ ∀ i j, p.1[i]? = some j → rA r.2 ra i = nI j) ∨ (r.1 = 0 ∧ ∀ p, p ∈ allA T → cod p.1 ≠ t)) ∧ sx_eq (Dar ra) s r.2) := by
  have h7 := hT.1
  have h8 := hT.2.1
  have dig : ∀ p, p ∈ allA T → cod p.1 = t → ∀ i j, p.1[i]? = some j → j = t / 8 ^ (T.1 - 1 - i) % 8 := by
    intro p hp hc i j hi
    have := cod_dig p.1 i j (all_row hp).2 hi
    rw [(all_row hp).1, hc] at this
    exact this.symm
  have hL : Ev (whT (f_X1_decode_L28 g ra) (nI t, 0, nI T.1 - nI 1, s)) (fun r => (∃ s1, r = .inl (nI (t / 8 ^ T.1), s1) ∧ sx_eq (Dar ra) s s1 ∧ ∃ p, p ∈ allA T ∧ cod p.1 = t % 8 ^ T.1 ∧ ∀ i j, p.1[i]? = some j → rA s1 ra i = nI j) ∨ (∃ s1, r = .inr (0, s1) ∧ sx_eq (Dar ra) s s1 ∧ ∀ p, p ∈ allA T → cod p.1 ≠ t)) := by
    refine ev_d (fun k a => k ≤ T.1 ∧ ∃ U r s1, a = (nI (t / 8 ^ (T.1 - k)), nI U, nI k - nI 1, s1) ∧ U < 256 ∧ r.length = T.1 - k ∧ r.Nodup ∧ (∀ i j, r[i]? = some j → j < 8 ∧ (T.2.2 (k + i) j).isSome = true ∧ rA s1 ra (k + i) = nI j ∧ j = t / 8 ^ (T.1 - 1 - (k + i)) % 8) ∧ (∀ j, U.testBit j = true ↔ j ∈ r) ∧ cod r = t % 8 ^ (T.1 - k) ∧ sx_eq (Dar ra) s s1) ?_ ?_ T.1 _ ?_
    · rintro k a ⟨hk, U, r, s1, rfl, hU, hrl, hnd, hr, hbit, hcod, hx⟩
      have hg1 : gridIs g T s1 := grid_eq hx (fun z => z) (fun z => z) (fun z => z) hg
      have hq : t / 8 ^ (T.1 - (k + 1)) ≤ t := Nat.div_le_self _ _
      have hd8 : t / 8 ^ (T.1 - (k + 1)) % 8 < 8 := Nat.mod_lt _ (by omega)
      have hand : nI (t / 8 ^ (T.1 - (k + 1))) &&& (7 : Int32) = nI (t / 8 ^ (T.1 - (k + 1)) % 8) := by
        rw [pk_andN (by omega) 3 (by decide)]
      have hat := at_all hT hg1 (w := k) (by omega) hd8
      simp only [f_X1_decode_L28, nI_k1]
      rw [if_neg (nI_pos (by omega)), hand, bnd hat]
      have fail : (∀ p, p ∈ allA T → cod p.1 ≠ t) → Ev (some (Sum.inr (Sum.inr ((0 : Int32), s1))) : Option ((Int32 × Int32 × Int32 × sx_M) ⊕ ((Int32 × sx_M) ⊕ (Int32 × sx_M)))) (Sum.elim (fun a => k ≤ T.1 ∧ ∃ U r s1, a = (nI (t / 8 ^ (T.1 - k)), nI U, nI k - nI 1, s1) ∧ U < 256 ∧ r.length = T.1 - k ∧ r.Nodup ∧ (∀ i j, r[i]? = some j → j < 8 ∧ (T.2.2 (k + i) j).isSome = true ∧ rA s1 ra (k + i) = nI j ∧ j = t / 8 ^ (T.1 - 1 - (k + i)) % 8) ∧ (∀ j, U.testBit j = true ↔ j ∈ r) ∧ cod r = t % 8 ^ (T.1 - k) ∧ sx_eq (Dar ra) s s1) (fun r => (∃ s1, r = .inl (nI (t / 8 ^ T.1), s1) ∧ sx_eq (Dar ra) s s1 ∧ ∃ p, p ∈ allA T ∧ cod p.1 = t % 8 ^ T.1 ∧ ∀ i j, p.1[i]? = some j → rA s1 ra i = nI j) ∨ (∃ s1, r = .inr (0, s1) ∧ sx_eq (Dar ra) s s1 ∧ ∀ p, p ∈ allA T → cod p.1 ≠ t))) := fun h => ⟨_, rfl, Or.inr ⟨s1, rfl, hx, h⟩⟩
      cases hc : T.2.2 k (t / 8 ^ (T.1 - (k + 1)) % 8) with
      | none =>
        rw [if_pos c64_n]
        refine fail (fun p hp hcp => ?_)
        obtain ⟨pj, hpj⟩ := row_get (all_row hp).1 (show k < T.1 by omega)
        have h1 := dig p hp hcp k pj hpj
        have h2 := (okV_iff.mp (ex_iff.mp hp).2.1).1 k pj hpj
        rw [Nat.zero_add, h1, show T.1 - 1 - k = T.1 - (k + 1) by omega, hc] at h2
        cases h2.2.1
      | some x =>
        have hxb := hT.2.2.1 _ _ x hc
        rw [c64_s, if_neg (of_eq_false (jnv (by omega) (by omega))), nI_has (by omega) (by omega)]
        cases hb : U.testBit (t / 8 ^ (T.1 - (k + 1)) % 8) with
        | true =>
          rw [if_pos (show nI (if true = true then 1 else 0) = 1 by decide)]
          refine fail (fun p hp hcp => ?_)
          obtain ⟨pj, hpj⟩ := row_get (all_row hp).1 (show k < T.1 by omega)
          have h1 := dig p hp hcp k pj hpj
          obtain ⟨i, hi⟩ := List.getElem?_of_mem ((hbit _).mp hb)
          have hil : i < r.length := (List.getElem?_eq_some_iff.mp hi).1
          have h2 := (hr i _ hi).2.2.2
          obtain ⟨pj2, hpj2⟩ := row_get (all_row hp).1 (show k + 1 + i < T.1 by omega)
          have h3 := dig p hp hcp (k + 1 + i) pj2 hpj2
          have hnd := (okV_iff.mp (ex_iff.mp hp).2.1).2
          have : pj = pj2 := by
            rw [h1, h3, show T.1 - 1 - k = T.1 - (k + 1) by omega, h2]
          rw [this] at hpj
          obtain ⟨l1, e1⟩ := List.getElem?_eq_some_iff.mp hpj
          obtain ⟨l2, e2⟩ := List.getElem?_eq_some_iff.mp hpj2
          exact (List.pairwise_iff_getElem.mp hnd) k (k + 1 + i) l1 l2 (by omega) (by rw [e1, e2])
        | false =>
          have hin : ¬ (nI k < 0 ∨ 7 ≤ (nI k).toNatClampNeg) := by
            rw [nI_cl (by omega)]
            exact fun q => q.elim (nI_pos (by omega)) (by omega)
          have hpw : T.1 - k = T.1 - (k + 1) + 1 := by omega
          have hsh : nI (t / 8 ^ (T.1 - (k + 1))) >>> ((3 : Int32) &&& 31) = nI (t / 8 ^ (T.1 - k)) := by
            rw [show (3 : Int32) = nI 3 from rfl, nI_shr (by omega) (by omega), Nat.div_div_eq_div_mul, hpw, show (8 : Nat) ^ (T.1 - (k + 1) + 1) = 8 ^ (T.1 - (k + 1)) * 2 ^ 3 from Nat.pow_succ 8 _]
          rw [if_neg (show ¬ nI (if false = true then 1 else 0) = 1 by decide), if_pos hin, nI_bit (by omega), nI_or, nI_cl (by omega), hsh, Int32.sub_eq_add_neg]
          refine ⟨_, rfl, by omega, U ||| 2 ^ (t / 8 ^ (T.1 - (k + 1)) % 8), (t / 8 ^ (T.1 - (k + 1)) % 8) :: r, _, rfl, or_256 hU hd8, by simp [hrl]; omega, List.nodup_cons.mpr ⟨fun z => ?_, hnd⟩, fun i j hi => ?_, fun j => ?_, ?_, sx_wA' hx rfl⟩
          · rw [(hbit _).mpr z] at hb; cases hb
          · cases i with
            | zero =>
              have hi : t / 8 ^ (T.1 - (k + 1)) % 8 = j := by simpa using hi
              subst hi
              refine ⟨hd8, by rw [Nat.add_zero, hc]; rfl, by rw [rA_wA, if_pos ⟨rfl, by omega⟩], by rw [show T.1 - 1 - (k + 0) = T.1 - (k + 1) by omega]⟩
            | succ i =>
              obtain ⟨a1, a2, a3, a4⟩ := hr i j (by simpa using hi)
              rw [show k + 1 + i = k + (i + 1) by omega] at a2 a3 a4
              exact ⟨a1, a2, by rw [rA_F (by omega)]; exact a3, a4⟩
          · rw [or_tb, Bool.or_eq_true_iff, hbit j, List.mem_cons]
            constructor
            · rintro (z | z)
              · exact Or.inr z
              · exact Or.inl (of_decide_eq_true z).symm
            · rintro (z | z)
              · exact Or.inr (by simp [z])
              · exact Or.inl z
          · show (t / 8 ^ (T.1 - (k + 1)) % 8) * 8 ^ r.length + cod r = _
            rw [hrl, hcod, hpw, Nat.mod_pow_succ, Nat.add_comm, Nat.mul_comm]
    · rintro a ⟨_, U, r, s1, rfl, hU, hrl, hnd, hr, hbit, hcod, hx⟩
      refine ⟨.inr (.inl (nI (t / 8 ^ T.1), s1)), ?_, Or.inl ⟨s1, rfl, hx, (r, smR T.2.2 0 r), ?_, ?_, fun i j hi => ?_⟩⟩
      · simp only [f_X1_decode_L28]
        rw [if_pos (show nI 0 - nI 1 < 0 by decide), Nat.sub_zero]
      · refine ex_iff.mpr ⟨by simpa using hrl, okV_iff.mpr ⟨fun i j hi => ?_, hnd⟩, rfl⟩
        obtain ⟨a1, a2, _, _⟩ := hr i j hi
        exact ⟨a1, a2, Nat.zero_testBit j⟩
      · rw [hcod, Nat.sub_zero]
      · have := (hr i j hi).2.2.1
        rwa [Nat.zero_add] at this
    · refine ⟨Nat.le_refl _, 0, [], s, ?_, by omega, by simp, List.nodup_nil, fun i j hi => by simp at hi, fun j => by simp, ?_, sx_rf _ _⟩
      · rw [Nat.sub_self, Nat.pow_zero, Nat.div_one]; rfl
      · rw [Nat.sub_self, Nat.pow_zero, Nat.mod_one]; rfl
  obtain ⟨r, e, hr⟩ := hL
  unfold f_X1_decode
  rw [if_neg (nI_pos (by omega)), hg.1, if_pos (show nI T.1 ≤ 7 from nI_le (b := 7) h7 (by omega))]
  have e' : whT (f_X1_decode_L28 g ra) (nI t, 0, nI T.1 - 1, s) = some r := e
  rw [bnd e']
  rcases hr with ⟨s1, rfl, hx, p, hp, hc, hrow⟩ | ⟨s1, rfl, hx, hn⟩
  · have hdl : t / 8 ^ T.1 ≤ t := Nat.div_le_self _ _
    have hdm := Nat.div_add_mod t (8 ^ T.1)
    have hml := Nat.mod_lt t (show 0 < 8 ^ T.1 from Nat.pow_pos (by omega))
    by_cases q : t / 8 ^ T.1 = 0
    · refine ⟨(1, s1), ?_, Or.inl ⟨rfl, p, hp, ?_, hrow⟩, hx⟩
      · show (if nI (t / 8 ^ T.1) = 0 then _ else _) = _
        rw [q, if_pos (show nI 0 = 0 from rfl)]
      · rw [q, Nat.mul_zero, Nat.zero_add] at hdm
        rw [hc, hdm]
    · refine ⟨(0, s1), ?_, Or.inr ⟨rfl, fun p' hp' hc' => ?_⟩, hx⟩
      · show (if nI (t / 8 ^ T.1) = 0 then _ else _) = _
        rw [if_neg (nI_ne0 (Nat.pos_of_ne_zero q) (Nat.lt_of_le_of_lt hdl (by omega)))]
      · have := cod_lt p'.1 (all_row hp').2
        rw [(all_row hp').1, hc'] at this
        exact q (Nat.div_eq_of_lt this)
  · exact ⟨(0, s1), rfl, Or.inr ⟨rfl, hn⟩, hx⟩
theorem f_sumOf {g ra : Nat} {T : tb} {s : sx_M} (hT : tb_ok T) (hg : gridIs g T s) {p : asg} (hp : p ∈ allA T) (hrow : ∀ i j, p.1[i]? = some j → rA s ra i = nI j) : f_X1_sumOf g ra s = some (jJ p.2, s) := by
  have h7 := hT.1
  obtain ⟨hl, hok, hsum⟩ := ex_iff.mp hp
  have hv := (okV_iff.mp hok).1
  have hL : ∀ n w r, w + n = T.1 → p.1.drop w = r → whT (f_X1_sumOf_L5 g ra) (jJ (p.2 - smR T.2.2 w r), nI w, s) = some (jJ p.2, s) := by
    intro n
    induction n with
    | zero =>
      intro w r hw hr
      have : r = [] := by rw [← hr]; exact List.drop_eq_nil_of_le (by omega)
      subst this
      rw [whT_eq]
      simp only [f_X1_sumOf_L5, hg.1]
      rw [if_pos (nI_le (by omega) (by omega))]
      show some (jJ (p.2 - 0), s) = _
      rw [Int.sub_zero]
    | succ n ih =>
      intro w r hw hr
      obtain ⟨j, hj⟩ := row_get hl (show w < T.1 by omega)
      obtain ⟨a1, a2, _⟩ := hv w j hj
      rw [Nat.zero_add] at a2
      obtain ⟨x, hx⟩ := Option.isSome_iff_exists.mp a2
      have hr2 : r = j :: p.1.drop (w + 1) := by
        rw [← hr]
        obtain ⟨hlt, e⟩ := List.getElem?_eq_some_iff.mp hj
        rw [List.drop_eq_getElem_cons hlt, e]
      have hin : ¬ (nI w < 0 ∨ 7 ≤ (nI w).toNatClampNeg) := by
        rw [nI_cl (by omega)]
        exact fun q => q.elim (nI_pos (by omega)) (by omega)
      rw [whT_eq]
      simp only [f_X1_sumOf_L5, hg.1]
      rw [if_neg (nI_ge (by omega) (by omega)), if_neg (show ¬ (7 : Int32) ≤ nI w from nI_ge (b := 7) (by omega) (by omega)), if_pos hin, nI_cl (by omega), hrow w j hj, bnd (at_all hT hg (by omega) a1), hx, c64_s, jJ_add, nI_1]
      show whT _ _ = _
      have e : p.2 - smR T.2.2 w r + x = p.2 - smR T.2.2 (w + 1) (p.1.drop (w + 1)) := by
        rw [hr2]
        show p.2 - ((T.2.2 w j).getD 0 + smR T.2.2 (w + 1) (p.1.drop (w + 1))) + x = _
        rw [hx]
        show p.2 - (x + smR T.2.2 (w + 1) (p.1.drop (w + 1))) + x = _
        omega
      rw [e]
      exact ih (w + 1) _ (by omega) rfl
  have h := hL T.1 0 p.1 (by omega) rfl
  rw [← hsum, Int.sub_self] at h
  unfold f_X1_sumOf
  exact bnd h _
