/-! rounds: who goes where, from one assignment to another -/
def fw (r : List Nat) (j : Nat) : Nat → Nat → Option Nat
  | _, 0 => none
  | i, n + 1 => if r.getD i 0 = j then some i else fw r j (i + 1) n
def oN : Option Nat → Int32
  | none => -1
  | some w => nI w
theorem fw_s {r : List Nat} {j w : Nat} : ∀ {n i : Nat}, fw r j i n = some w → w < i + n ∧ r.getD w 0 = j
  | 0, _, h => by cases h
  | n + 1, i, h => by
    unfold fw at h
    by_cases z : r.getD i 0 = j
    · rw [if_pos z] at h
      cases h
      exact ⟨by omega, z⟩
    · rw [if_neg z] at h
      have := fw_s h
      exact ⟨by omega, this.2⟩
theorem fw_n {r : List Nat} {j : Nat} : ∀ {n i : Nat}, fw r j i n = none → ∀ w, i ≤ w → w < i + n → r.getD w 0 ≠ j
  | 0, _, _, w, h1, h2 => by omega
  | n + 1, i, h, w, h1, h2 => by
    unfold fw at h
    by_cases z : r.getD i 0 = j
    · rw [if_pos z] at h; cases h
    · rw [if_neg z] at h
      by_cases y : w = i
      · rw [y]; exact z
      · exact fw_n h w (by omega) (by omega)
def wk (p q : List Nat) (W : Nat) : Nat → Option Nat → Nat → Nat × Nat
  | 0, _, S => (0, S)
  | _ + 1, none, S => (0, S)
  | n + 1, some w, S => if S.testBit w then (0, S) else ((wk p q W n (fw p (q.getD w 0) 0 W) (S ||| 2 ^ w)).1 + 1, (wk p q W n (fw p (q.getD w 0) 0 W) (S ||| 2 ^ w)).2)
theorem or_lt' {S w W : Nat} (hS : S < 2 ^ W) (hw : w < W) : S ||| 2 ^ w < 2 ^ W := Nat.or_lt_two_pow hS (Nat.pow_lt_pow_right (by omega) hw)
theorem wk_lt {p q : List Nat} {W : Nat} : ∀ {n : Nat} {o : Option Nat} {S : Nat}, S < 2 ^ W → (∀ w, o = some w → w < W) → (wk p q W n o S).2 < 2 ^ W
  | 0, _, _, h, _ => h
  | _ + 1, none, _, h, _ => h
  | n + 1, some w, S, h, ho => by
    unfold wk
    by_cases z : S.testBit w = true
    · rw [if_pos z]; exact h
    · rw [if_neg z]
      exact wk_lt (or_lt' h (ho w rfl)) (fun v hv => by have := (fw_s hv).1; omega)
theorem wk_bit {p q : List Nat} {W v : Nat} : ∀ {n : Nat} {o : Option Nat} {S : Nat}, (∀ w, o = some w → w < W) → (wk p q W n o S).2.testBit v = true → S.testBit v = true ∨ o = some v ∨ ∃ u, u < W ∧ p.getD v 0 = q.getD u 0
  | 0, _, _, _, h => Or.inl h
  | _ + 1, none, _, _, h => Or.inl h
  | n + 1, some w, S, ho, h => by
    unfold wk at h
    by_cases z : S.testBit w = true
    · rw [if_pos z] at h; exact Or.inl h
    · rw [if_neg z] at h
      rcases wk_bit (fun v hv => by have := (fw_s hv).1; omega) h with h1 | h1 | h1
      · rw [Nat.testBit_or, Nat.testBit_two_pow] at h1
        by_cases y : w = v
        · rw [y]; exact Or.inr (Or.inl rfl)
        · left
          simpa [y] using h1
      · exact Or.inr (Or.inr ⟨w, ho w rfl, (fw_s h1).2⟩)
      · exact Or.inr (Or.inr h1)
theorem wk_go {p q : List Nat} {W n w S : Nat} (hb : S.testBit w = false) : wk p q W (n + 1) (some w) S = ((wk p q W n (fw p (q.getD w 0) 0 W) (S ||| 2 ^ w)).1 + 1, (wk p q W n (fw p (q.getD w 0) 0 W) (S ||| 2 ^ w)).2) := by
  show (if S.testBit w then _ else _) = _
  rw [if_neg (by rw [hb]; decide)]
theorem pcn_W : ∀ W, W < 8 → ∀ S, S < 2 ^ W → pcn S ≤ W := by decide +kernel
theorem pcn_s {S w W : Nat} (hW : W ≤ 7) (hS : S < 2 ^ W) (hw : w < W) (h : S.testBit w = false) : pcn (S ||| 2 ^ w) = pcn S + 1 ∧ pcn S + 1 ≤ W ∧ S < 128 := by
  have h1 : 2 ^ W ≤ 2 ^ 7 := Nat.pow_le_pow_right (by omega) hW
  have h2 := pcn_or (S := S) (j := w) (by omega) (by omega) h
  have h3 := pcn_W W (by omega) _ (or_lt' hS hw)
  omega
def Dix (a b : Nat) : sx_D := (fun o k => o = a ∧ k = b, fun _ _ => False, fun _ => False, fun _ => False)
def rowH (ra W : Nat) (r : List Nat) (s : sx_M) : Prop := ∀ i, i < W → rA s ra i = nI (r.getD i 0) ∧ r.getD i 0 < 8
theorem rowH_eq {D : sx_D} {ra W : Nat} {r : List Nat} {s s' : sx_M} (h : sx_eq D s s') (hD : ¬ D.2.2.1 ra) (hr : rowH ra W r s) : rowH ra W r s' := fun i hi => by
  rw [h.2.2.1 _ _ hD]; exact hr i hi
theorem c_holder {ra W : Nat} {r : List Nat} {s : sx_M} (hW : W ≤ 7) (hr : rowH ra W r s) {j : Nat} (hj : j < 8) : f_X10_holder ra (nI j) (nI W) s = some (oN (fw r j 0 W), s) := by
  have key : ∀ n i, i + n = W → whT (f_X10_holder_L2 ra (nI j) (nI W)) (nI i, s) = some ((fw r j i n).elim (.inl s) (fun w => .inr (nI w, s))) := by
    intro n
    induction n with
    | zero =>
      intro i hi
      rw [whT_eq]
      simp only [f_X10_holder_L2]
      rw [if_pos (show nI W ≤ nI i from nI_le (by omega) (by omega))]
      rfl
    | succ n ih =>
      intro i hi
      have hin : ¬ (nI i < 0 ∨ 7 ≤ (nI i).toNatClampNeg) := by
        rw [nI_cl (by omega)]
        exact fun q => q.elim (nI_pos (by omega)) (by omega)
      rw [whT_eq]
      simp only [f_X10_holder_L2]
      rw [if_neg (show ¬ nI W ≤ nI i from nI_ge (by omega) (by omega)), if_neg (show ¬ 7 ≤ nI i from of_eq_false (nI_le_F (a := 7) (by omega) (by omega))), if_pos hin, nI_cl (by omega), (hr i (by omega)).1]
      have h8 := (hr i (by omega)).2
      unfold fw
      by_cases z : r.getD i 0 = j
      · rw [if_pos (show nI (r.getD i 0) = nI j by rw [z]), if_pos z]; rfl
      · rw [if_neg (show ¬ nI (r.getD i 0) = nI j from of_eq_false (nI_eq_F z (by omega) (by omega))), if_neg z, nI_1]
        exact ih (i + 1) (by omega)
  have h := key W 0 (by omega)
  have h' : whT (f_X10_holder_L2 ra (nI j) (nI W)) (0, s) = _ := h
  unfold f_X10_holder
  rw [bnd h']
  cases fw r j 0 W <;> rfl
theorem r_who {T : tb} {L : List asg} {s : sx_M} (hT : tb_ok T) (hg : tabIs 59 0 T s) (hl : lst L s) {m : Nat} {p : asg} (hm : L[m]? = some p) (hm4 : m < 40320) (hp : p ∈ allA T) {j : Nat} (hj : j < 8) : f_X12_whoHad (nI m) (nI j) s = some (oN (fw p.1 j 0 T.1), s) := by
  have h7 := hT.1
  have rp := all_row hp
  have key : ∀ n i, i + n = T.1 → whT (f_X12_whoHad_L2 (nI m) (nI j)) (nI i, s) = some ((fw p.1 j i n).elim (.inl s) (fun w => .inr (nI w, s))) := by
    intro n
    induction n with
    | zero =>
      intro i hi
      rw [whT_eq]
      simp only [f_X12_whoHad_L2]
      rw [bnd (f_wk hg), if_pos (show nI T.1 ≤ nI i from nI_le (by omega) (by omega))]
      rfl
    | succ n ih =>
      intro i hi
      obtain ⟨k, hk⟩ := row_get rp.1 (show i < T.1 by omega)
      have h8 := rp.2 k (List.mem_of_getElem? hk)
      rw [whT_eq]
      simp only [f_X12_whoHad_L2]
      rw [bnd (f_wk hg), if_neg (show ¬ nI T.1 ≤ nI i from nI_ge (by omega) (by omega)), bnd (r_job hT hg hl hm hm4 rp.1 rp.2 hk)]
      unfold fw
      rw [getD_s hk]
      by_cases z : k = j
      · rw [if_pos (show nI k = nI j by rw [z]), if_pos z]; rfl
      · rw [if_neg (show ¬ nI k = nI j from of_eq_false (nI_eq_F z (by omega) (by omega))), if_neg z, nI_1]
        exact ih (i + 1) (by omega)
  have h := key T.1 0 (by omega)
  have h' : whT (f_X12_whoHad_L2 (nI m) (nI j)) (0, s) = _ := h
  unfold f_X12_whoHad
  rw [bnd h']
  cases fw p.1 j 0 T.1 <;> rfl
theorem oN_n1 (w : Nat) (h : w < 8) : ¬ nI w = (-1 : Int32) := by
  have : ∀ w, w < 8 → ¬ nI w = (-1 : Int32) := by decide
  exact this w h
/-- the class's walk -/
theorem c_walk {ra rb W : Nat} {p q : List Nat} (hW : W ≤ 7) : ∀ (n : Nat) (o : Option Nat) (S cnt : Nat) (s : sx_M), W ≤ pcn S + n → cnt + n ≤ W → S < 2 ^ W → (∀ w, o = some w → w < W) → rI s 55 4 = nI S → rowH ra W p s → rowH rb W q s → Ev (whT (f_X10_follow_L6 ra rb (nI W)) (nI cnt, oN o, s)) (fun r => r.1 = nI (cnt + (wk p q W n o S).1) ∧ rI r.2 55 4 = nI (wk p q W n o S).2 ∧ sx_eq (Dix 55 4) s r.2) := by
  intro n
  have stop : ∀ (n : Nat) (o : Option Nat) (S cnt : Nat) (s : sx_M), wk p q W n o S = (0, S) → rI s 55 4 = nI S → f_X10_follow_L6 ra rb (nI W) (nI cnt, oN o, s) = some (.inr (nI cnt, s)) → Ev (whT (f_X10_follow_L6 ra rb (nI W)) (nI cnt, oN o, s)) (fun r => r.1 = nI (cnt + (wk p q W n o S).1) ∧ rI r.2 55 4 = nI (wk p q W n o S).2 ∧ sx_eq (Dix 55 4) s r.2) := by
    intro n o S cnt s h1 h2 h3
    refine ⟨(nI cnt, s), ?_, ?_, ?_, sx_rf _ _⟩
    · rw [whT_eq, h3]; rfl
    · rw [h1]; rfl
    · rw [h1]; exact h2
  have hbit : ∀ (S w cnt : Nat) (s : sx_M), S < 2 ^ W → w < W → rI s 55 4 = nI S → S.testBit w = true → f_X10_follow_L6 ra rb (nI W) (nI cnt, oN (some w), s) = some (.inr (nI cnt, s)) := by
    intro S w cnt s hS hw h4 hb
    have h1 : 2 ^ W ≤ 2 ^ 7 := Nat.pow_le_pow_right (by omega) hW
    simp only [f_X10_follow_L6, oN, h4]
    rw [if_neg (oN_n1 w (by omega)), nI_has (show S < 2 ^ 31 by omega) (by omega), hb, if_pos rfl, if_neg (show ¬ nI 1 = 0 from n1_0)]
  have hnone : ∀ (cnt : Nat) (s : sx_M), f_X10_follow_L6 ra rb (nI W) (nI cnt, oN none, s) = some (.inr (nI cnt, s)) := by
    intro cnt s
    unfold f_X10_follow_L6
    exact if_pos rfl
  induction n with
  | zero =>
    intro o S cnt s h1 h2 hS ho h4 hp hq
    cases o with
    | none => exact stop 0 none S cnt s rfl h4 (hnone cnt s)
    | some w =>
      have hw := ho w rfl
      cases hb : S.testBit w with
      | true => exact stop 0 (some w) S cnt s rfl h4 (hbit S w cnt s hS hw h4 hb)
      | false =>
        have := pcn_s hW hS hw hb
        omega
  | succ n ih =>
    intro o S cnt s h1 h2 hS ho h4 hp hq
    cases o with
    | none => exact stop (n + 1) none S cnt s rfl h4 (hnone cnt s)
    | some w =>
      have hw := ho w rfl
      cases hb : S.testBit w with
      | true => exact stop (n + 1) (some w) S cnt s (by unfold wk; rw [if_pos hb]) h4 (hbit S w cnt s hS hw h4 hb)
      | false =>
        have hpc := pcn_s hW hS hw hb
        have hin : ¬ (nI w < 0 ∨ 7 ≤ (nI w).toNatClampNeg) := by
          rw [nI_cl (by omega)]
          exact fun q => q.elim (nI_pos (by omega)) (by omega)
        have hx : sx_eq (Dix 55 4) s (wI s 55 4 (nI (S ||| 2 ^ w))) := sx_wI' (sx_rf _ _) ⟨rfl, rfl⟩
        have hp1 := rowH_eq hx (fun z => z) hp
        have hq1 := rowH_eq hx (fun z => z) hq
        have hqw := hq1 w hw
        have hst : f_X10_follow_L6 ra rb (nI W) (nI cnt, oN (some w), s) = some (.inl (nI (cnt + 1), oN (fw p (q.getD w 0) 0 W), wI s 55 4 (nI (S ||| 2 ^ w)))) := by
          simp only [f_X10_follow_L6, oN, h4]
          rw [if_neg (oN_n1 w (by omega)), nI_has (show S < 2 ^ 31 by omega) (by omega), hb, if_neg (show ¬ (false = true) by decide), if_pos (show nI 0 = 0 from rfl), if_neg (show ¬ nI W ≤ nI cnt from nI_ge (by omega) (by omega)), if_pos hin, nI_bit (by omega), nI_or, nI_cl (by omega), hqw.1, bnd (c_holder hW hp1 hqw.2), nI_1]
          rfl
        obtain ⟨r, e, r1, r2, r3⟩ := ih (fw p (q.getD w 0) 0 W) (S ||| 2 ^ w) (cnt + 1) _ (by omega) (by omega) (or_lt' hS hw) (fun v hv => by have := (fw_s hv).1; omega) (rI_T ⟨rfl, rfl⟩) hp1 hq1
        refine ⟨r, ?_, ?_, ?_, sx_tr hx r3⟩
        · rw [whT_eq, hst]; exact e
        · rw [r1]
          rw [wk_go hb]
          congr 1
          show cnt + 1 + _ = cnt + (_ + 1)
          omega
        · rw [r2, wk_go hb]
/-- the reference's -/
theorem r_walk {T : tb} {L : List asg} {m1 m2 : Nat} {p q : asg} (hT : tb_ok T) (hm1 : L[m1]? = some p) (hm2 : L[m2]? = some q) (h1 : m1 < 40320) (h2 : m2 < 40320) (hp : p ∈ allA T) (hq : q ∈ allA T) (y3 y4 y5 y6 y7 y8 y9 : Int32) : ∀ (n : Nat) (o : Option Nat) (S cnt : Nat) (s : sx_M), T.1 ≤ pcn S + n → S < 2 ^ T.1 → (∀ w, o = some w → w < T.1) → rI s 58 31 = nI S → tabIs 59 0 T s → lst L s → Ev (whT (f_X12_laysRounds_L128 y3 y4 y5 y6 y7 (nI m1) (nI m2) y8 y9) (nI cnt, oN o, s)) (fun r => r.1 = nI (cnt + (wk p.1 q.1 T.1 n o S).1) ∧ rI r.2 58 31 = nI (wk p.1 q.1 T.1 n o S).2 ∧ sx_eq (Dix 58 31) s r.2) := by
  intro n
  have hW := hT.1
  have hbt : 2 ^ T.1 ≤ 2 ^ 7 := Nat.pow_le_pow_right (by omega) hW
  have rq := all_row hq
  have stop : ∀ (n : Nat) (o : Option Nat) (S cnt : Nat) (s : sx_M), wk p.1 q.1 T.1 n o S = (0, S) → rI s 58 31 = nI S → f_X12_laysRounds_L128 y3 y4 y5 y6 y7 (nI m1) (nI m2) y8 y9 (nI cnt, oN o, s) = some (.inr (nI cnt, s)) → Ev (whT (f_X12_laysRounds_L128 y3 y4 y5 y6 y7 (nI m1) (nI m2) y8 y9) (nI cnt, oN o, s)) (fun r => r.1 = nI (cnt + (wk p.1 q.1 T.1 n o S).1) ∧ rI r.2 58 31 = nI (wk p.1 q.1 T.1 n o S).2 ∧ sx_eq (Dix 58 31) s r.2) := by
    intro n o S cnt s h1 h2 h3
    refine ⟨(nI cnt, s), ?_, ?_, ?_, sx_rf _ _⟩
    · rw [whT_eq, h3]; rfl
    · rw [h1]; rfl
    · rw [h1]; exact h2
  have hbit : ∀ (S w cnt : Nat) (s : sx_M), S < 2 ^ T.1 → w < T.1 → rI s 58 31 = nI S → S.testBit w = true → f_X12_laysRounds_L128 y3 y4 y5 y6 y7 (nI m1) (nI m2) y8 y9 (nI cnt, oN (some w), s) = some (.inr (nI cnt, s)) := by
    intro S w cnt s hS hw h4 hb
    simp only [f_X12_laysRounds_L128, f_X12_has, oN, h4]
    rw [if_neg (oN_n1 w (by omega)), nI_has (show S < 2 ^ 31 by omega) (by omega), hb, if_pos rfl, if_pos (show nI 1 = 1 from rfl), Option.bind_some, if_neg n1_0]
  have hnone : ∀ (cnt : Nat) (s : sx_M), f_X12_laysRounds_L128 y3 y4 y5 y6 y7 (nI m1) (nI m2) y8 y9 (nI cnt, oN none, s) = some (.inr (nI cnt, s)) := by
    intro cnt s
    unfold f_X12_laysRounds_L128
    exact if_pos rfl
  induction n with
  | zero =>
    intro o S cnt s h1 hS ho h4 ht hl
    cases o with
    | none => exact stop 0 none S cnt s rfl h4 (hnone cnt s)
    | some w =>
      have hw := ho w rfl
      cases hb : S.testBit w with
      | true => exact stop 0 (some w) S cnt s rfl h4 (hbit S w cnt s hS hw h4 hb)
      | false =>
        have := pcn_s hW hS hw hb
        omega
  | succ n ih =>
    intro o S cnt s h1 hS ho h4 ht hl
    cases o with
    | none => exact stop (n + 1) none S cnt s rfl h4 (hnone cnt s)
    | some w =>
      have hw := ho w rfl
      cases hb : S.testBit w with
      | true => exact stop (n + 1) (some w) S cnt s (by unfold wk; rw [if_pos hb]) h4 (hbit S w cnt s hS hw h4 hb)
      | false =>
        have hpc := pcn_s hW hS hw hb
        have hx : sx_eq (Dix 58 31) s (wI s 58 31 (nI (S ||| 2 ^ w))) := sx_wI' (sx_rf _ _) ⟨rfl, rfl⟩
        have ht1 := tab_eq hx (fun z => z) ht
        have hl1 := lst_eq hx (by simp only [Dix]; omega) (fun z => z) (fun z => z) hl
        obtain ⟨k, hk⟩ := row_get rq.1 hw
        have hk8 := rq.2 k (List.mem_of_getElem? hk)
        have hst : f_X12_laysRounds_L128 y3 y4 y5 y6 y7 (nI m1) (nI m2) y8 y9 (nI cnt, oN (some w), s) = some (.inl (nI (cnt + 1), oN (fw p.1 (q.1.getD w 0) 0 T.1), wI s 58 31 (nI (S ||| 2 ^ w)))) := by
          simp only [f_X12_laysRounds_L128, f_X12_has, oN, h4]
          rw [if_neg (oN_n1 w (by omega)), nI_has (show S < 2 ^ 31 by omega) (by omega), hb, if_neg (show ¬ (false = true) by decide), if_neg (show ¬ nI 0 = 1 by decide), Option.bind_some, if_pos rfl, h4, nI_bit (by omega), nI_or, bnd (r_job hT ht1 hl1 hm2 (by omega) rq.1 rq.2 hk), bnd (r_who hT ht1 hl1 hm1 (by omega) hp hk8), nI_1, getD_s hk]
          rfl
        obtain ⟨r, e, r1, r2, r3⟩ := ih (fw p.1 (q.1.getD w 0) 0 T.1) (S ||| 2 ^ w) (cnt + 1) _ (by omega) (or_lt' hS hw) (fun v hv => by have := (fw_s hv).1; omega) (rI_T ⟨rfl, rfl⟩) ht1 hl1
        refine ⟨r, ?_, ?_, ?_, sx_tr hx r3⟩
        · rw [whT_eq, hst]; exact e
        · rw [r1]
          rw [wk_go hb]
          congr 1
          show cnt + 1 + _ = cnt + (_ + 1)
          omega
        · rw [r2, wk_go hb]
