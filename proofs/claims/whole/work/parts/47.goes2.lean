theorem lt8 {Q a b : Nat} (h : Q < 8 ^ a) : Q * 8 ^ b < 8 ^ (a + b) := by
  rw [Nat.pow_add]
  exact Nat.mul_lt_mul_of_pos_right h (Nat.pow_pos (by omega))
theorem le87 {a : Nat} (h : a ≤ 7) : 8 ^ a ≤ 2097152 := Nat.le_trans (Nat.pow_le_pow_right (by omega) h) (by decide)
theorem f_wk {T : tb} {s : sx_M} (hg : tabIs 59 0 T s) : f_X12_workers s = some (nI T.1, s) := by
  unfold f_X12_workers
  rw [show rA s 59 ((0 : Int32)).toNatClampNeg = nI T.1 from hg.1]
theorem f_jb {T : tb} {s : sx_M} (hg : tabIs 59 0 T s) : f_X12_jobs s = some (nI T.2.1, s) := by
  unfold f_X12_jobs
  rw [show rA s 59 ((1 : Int32)).toNatClampNeg = nI T.2.1 from hg.2.1]
section GT
variable {T : tb} {V : Nat} {bo : Option Nat}
theorem gt_b1 {s : sx_M} {w j : Nat} {a b c : Int32} (hw : w < 7) (hn : rA s 65 w = nI j) (hj : j < 9) (hb : bo = some w) : f_X12_goesThrough_L50 (nI V) (oI bo) (nI w, a, b, c, s) = f_X12_goesThrough_L50_J100 (nI V) (oI bo) (nI w) a b c s := by
  simp only [f_X12_goesThrough_L50]
  simp (disch := omega) only [↓reduceIte, nI_lit, nI_add, pk_mul, nI_lt_T, nI_lt_F, nI_le_T, nI_le_F, nI_eq_T, nI_eq_F, nI_cl, le_F, le_T, nI_m_F, m_nI_F, nI_dn, m_lt, Option.bind_some, if_true, if_false, not_false_eq_true, not_true_eq_false, or_self, or_false, false_or, true_or, or_true, true_and, and_true, false_and, and_false, hn, hb, oI_s]
theorem gt_b3 {s : sx_M} {w : Nat} {a b c : Int32} (hw : w < 7) (hn : rA s 65 w = -nI 1) : f_X12_goesThrough_L50 (nI V) (oI bo) (nI w, a, b, c, s) = f_X12_goesThrough_L50_J100 (nI V) (oI bo) (nI w) a b c s := by
  simp only [f_X12_goesThrough_L50]
  simp (disch := omega) only [↓reduceIte, nI_lit, nI_add, pk_mul, nI_lt_T, nI_lt_F, nI_le_T, nI_le_F, nI_eq_T, nI_eq_F, nI_cl, le_F, le_T, nI_m_F, m_nI_F, nI_dn, m_lt, Option.bind_some, if_true, if_false, not_false_eq_true, not_true_eq_false, or_self, or_false, false_or, true_or, or_true, true_and, and_true, false_and, and_false, hn]
theorem oI_ne {bo : Option Nat} {w : Nat} (hbo : ∀ b, bo = some b → b < 7) (hw : w < 7) (hb : ¬ bo = some w) : (nI w = oI bo) = False := eq_false (by
  cases bo with
  | none => rw [oI_n, nI_m_F (by omega)]; exact fun q => q
  | some b =>
    have := hbo b rfl
    rw [oI_s, nI_eq_F (fun q => hb (by rw [q])) (by omega) (by omega)]
    exact fun q => q)
theorem gt_b2 {s : sx_M} (hT : tb_ok T) (hg : tabIs 59 0 T s) (hbo : ∀ b, bo = some b → b < 7) {w j S : Nat} {x y : Int} {c : Int32} (hw : w < T.1) (hn : rA s 65 w = nI j) (hj : j < T.2.1) (hb : ¬ bo = some w) (hc : T.2.2 w j = some y) (hS : S < 256) (hs : S.testBit j = false) : f_X12_goesThrough_L50 (nI V) (oI bo) (nI w, nI (S ||| 2 ^ j), iI (x + y), c, s) = f_X12_goesThrough_L50_J100 (nI V) (oI bo) (nI w) (nI S) (iI x) c s := by
  have h7 := hT.1
  have h8 := hT.2.1
  have hco := f_cost_in hT hg hw hj
  rw [hc, c32_s] at hco
  have e1 : nI (S ||| 2 ^ j) &&& ((1 : Int32) <<< (nI j &&& 31) ^^^ (-1 : Int32)) = nI S := by
    rw [nI_bit (by omega), nI_andn, unor hS (by omega) hs]
  have hne := oI_ne hbo (show w < 7 by omega) hb
  simp only [f_X12_goesThrough_L50]
  have e2 : iI (x + y) - iI y = iI x := by rw [iI_sub]; congr 1; omega
  have h0 : ¬ nI w < 0 := nI_pos (by omega)
  have hcl : (nI w).toNatClampNeg = w := nI_cl (by omega)
  have hm : ¬ nI j = (-1 : Int32) := fun q => (nI_m_F (a := j) (by omega)).mp q
  have hin : ¬ (nI w < 0 ∨ 7 ≤ w) := fun q => q.elim h0 (by omega)
  rw [if_neg h0, hcl, if_pos hin, hn, if_neg hm, ite_F hne, if_pos hin, if_pos hin, hco, Option.bind_some, e1, e2]
theorem gt_j0 {s : sx_M} (hT : tb_ok T) (hg : tabIs 59 0 T s) {w j P A : Nat} {a b : Int32} (hw : w + 1 = T.1) (hP : P < 8 ^ w) (hj : j < 8) (hA : rI s 58 15 = nI A) (hA2 : A < 40320) : f_X12_goesThrough_L50_J209 (nI V) (oI bo) (nI w) a b (nI (P * 8 ^ (0 + 1))) (nI j) s = some (.inl (nI w, a, b, nI (8 * P + j), wI (wA (wA s 63 A (nI (8 * P + j))) 64 A b) 58 15 (nI (A + 1)))) := by
  have h7 := hT.1
  have hwk := f_wk hg
  have hl := lt8 (b := 1) hP
  have hl2 := le87 (a := w + 1) (by omega)
  have e : nI (P * 8 ^ (0 + 1)) ||| nI j <<< (nI 3 * (nI T.1 - nI 1 - nI w) &&& nI 31) = nI (8 * P + j) := by
    rw [nI_sb (by omega), nI_sb (by omega), show T.1 - 1 - w = 0 by omega, pk_mul, nI_shl (by omega) (by omega), nI_or]
    have := or_8 (P := P) (n := 0) hj
    simpa using congrArg nI this
  unfold f_X12_goesThrough_L50_J209
  simp only [hwk, Option.bind_some]
  rw [show ((nI T.1 - (1 : Int32)) = nI w) from by rw [← hw]; exact nI_pred w, if_pos rfl, hA, nI_cl (by omega)]
  have e2 : nI (P * 8 ^ (0 + 1)) ||| nI j <<< ((3 : Int32) * (nI w - nI w) &&& 31) = nI (8 * P + j) := by
    rw [← e, nI_sb (a := T.1) (by omega), show T.1 - 1 = w by omega]; rfl
  rw [e2]
  simp (disch := omega) only [↓reduceIte, nI_lit, nI_add, pk_mul, nI_lt_T, nI_lt_F, nI_le_T, nI_le_F, nI_eq_T, nI_eq_F, nI_cl, le_F, le_T, nI_m_F, m_nI_F, nI_dn, m_lt, Option.bind_some, if_true, if_false, not_false_eq_true, not_true_eq_false, or_self, or_false, false_or, true_or, or_true, true_and, and_true, false_and, and_false, rA_T, rA_F, rB_T, rB_F, rI_T, rI_F, rJ_T, rJ_F, rA_wI, rA_wJ, rA_wB, rB_wI, rB_wJ, rB_wA, rI_wJ, rI_wA, rI_wB, rJ_wI, rJ_wA, rJ_wB, hA]
theorem gt_j1 {s : sx_M} (hT : tb_ok T) (hg : tabIs 59 0 T s) {w n j P : Nat} {a b : Int32} (hw : w + (n + 1) + 1 = T.1) (hP : P < 8 ^ w) (hj : j < 8) : f_X12_goesThrough_L50_J209 (nI V) (oI bo) (nI w) a b (nI (P * 8 ^ (n + 1 + 1))) (nI j) s = some (.inl (nI (w + 1), a, b, nI ((8 * P + j) * 8 ^ (n + 1)), wA s 65 (w + 1) (-nI 1))) := by
  have h7 := hT.1
  have hwk := f_wk hg
  have hl2 := le87 (a := n + 2) (by omega)
  have hj8 : j * 8 ^ (n + 1) < 8 ^ (n + 2) := by
    have := lt8 (Q := j) (a := 1) (b := n + 1) (by omega)
    rwa [show 1 + (n + 1) = n + 2 by omega] at this
  have e : nI (P * 8 ^ (n + 1 + 1)) ||| nI j <<< (nI 3 * (nI T.1 - nI 1 - nI w) &&& nI 31) = nI ((8 * P + j) * 8 ^ (n + 1)) := by
    rw [nI_sb (by omega), nI_sb (by omega), show T.1 - 1 - w = n + 1 by omega, pk_mul, nI_shl (by omega) (by rw [p8]; omega), nI_or, p8, or_8 hj]
  unfold f_X12_goesThrough_L50_J209
  simp only [hwk, Option.bind_some]
  rw [if_neg (by rw [show (1 : Int32) = nI 1 from rfl, nI_sb (by omega), nI_eq_F (by omega) (by omega) (by omega)]; exact fun q => q)]
  rw [show (1 : Int32) = nI 1 from rfl, show (3 : Int32) = nI 3 from rfl, show (31 : Int32) = nI 31 from rfl, e, nI_add, nI_cl (by omega), if_pos (by rw [show (0 : Int32) = nI 0 from rfl, nI_lt_F (by omega) (by omega)]; simp; omega)]
/-- the continuation of the loop -/
noncomputable def gtK (V : Nat) (bo : Option Nat) (r : (Int32 × Int32 × Int32 × Int32 × sx_M) ⊕ sx_M) : Option sx_M := Sum.elim (fun a' => whT (f_X12_goesThrough_L50 (nI V) (oI bo)) a') (fun b => some b) r
theorem gtK_eq (a : Int32 × Int32 × Int32 × Int32 × sx_M) : whT (f_X12_goesThrough_L50 (nI V) (oI bo)) a = (f_X12_goesThrough_L50 (nI V) (oI bo) a).bind (gtK V bo) := whT_eq _ _
def gtD_P (V : Nat) (bo : Option Nat) (T : tb) (n w : Nat) : Prop := ∀ (S P j A : Nat) (x : Int) (s : sx_M), S < 256 → P < 8 ^ w → j < 8 → tabIs 59 0 T s → rI s 58 15 = nI A → A + (exb (cV T V) bo n (w + 1) S).length ≤ 40320 → ∃ s', (f_X12_goesThrough_L50_J209 (nI V) (oI bo) (nI w) (nI S) (iI x) (nI (P * 8 ^ (n + 1))) (nI j) s).bind (gtK V bo) = whT (f_X12_goesThrough_L50 (nI V) (oI bo)) (nI w, nI S, iI x, nI ((8 * P + j) * 8 ^ n), s') ∧ ap A (enc (8 * P + j) n x (exb (cV T V) bo n (w + 1) S)) s s' ∧ (∀ k, k ≤ w → rA s' 65 k = rA s 65 k)
def gtG_P (V : Nat) (bo : Option Nat) (T : tb) (n w : Nat) : Prop := ∀ (m j0 S P C A : Nat) (x : Int) (s : sx_M), j0 + m = 8 → S < 256 → P < 8 ^ w → C < 8 ^ T.1 → C / 8 ^ (n + 1) = P → tabIs 59 0 T s → rI s 58 15 = nI A → A + (exF (cV T V) bo n w S j0 m).length ≤ 40320 → rA s 65 w = nI j0 - nI 1 → ∃ s', (f_X12_goesThrough_L50_J100 (nI V) (oI bo) (nI w) (nI S) (iI x) (nI C) s).bind (gtK V bo) = whT (f_X12_goesThrough_L50 (nI V) (oI bo)) (nI w - nI 1, nI S, iI x, nI (P * 8 ^ (n + 1)), s') ∧ ap A (enc P (n + 1) x (exF (cV T V) bo n w S j0 m)) s s' ∧ (∀ k, k < w → rA s' 65 k = rA s 65 k)
theorem gt_D0 (hT : tb_ok T) {w : Nat} (hw : w + 1 = T.1) : gtD_P V bo T 0 w := by
  intro S P j A x s hS hP hj hg hA hl
  have hl : A + 1 ≤ 40320 := hl
  refine ⟨wI (wA (wA s 63 A (nI (8 * P + j))) 64 A (iI x)) 58 15 (nI (A + 1)), ?_, ?_, fun k _ => ?_⟩
  · rw [gt_j0 hT hg hw hP hj hA (by omega), Option.bind_some, Nat.pow_zero, Nat.mul_one]; rfl
  · refine ⟨fun k hk => ?_, fun i p hi => ?_, ?_, ?_⟩
    · simp (disch := omega) only [↓reduceIte, nI_lit, nI_add, pk_mul, nI_lt_T, nI_lt_F, nI_le_T, nI_le_F, nI_eq_T, nI_eq_F, nI_cl, le_F, le_T, nI_m_F, m_nI_F, nI_dn, m_lt, Option.bind_some, if_true, if_false, not_false_eq_true, not_true_eq_false, or_self, or_false, false_or, true_or, or_true, true_and, and_true, false_and, and_false, rA_T, rA_F, rB_T, rB_F, rI_T, rI_F, rJ_T, rJ_F, rA_wI, rA_wJ, rA_wB, rB_wI, rB_wJ, rB_wA, rI_wJ, rI_wA, rI_wB, rJ_wI, rJ_wA, rJ_wB]
    · have hi : [((8 * P + j) * 8 ^ 0 + 0, x + 0)][i]? = some p := hi
      cases i with
      | zero =>
        have hi : ((8 * P + j) * 8 ^ 0 + 0, x + 0) = p := by simpa using hi
        subst hi
        simp (disch := omega) only [↓reduceIte, nI_lit, nI_add, pk_mul, nI_lt_T, nI_lt_F, nI_le_T, nI_le_F, nI_eq_T, nI_eq_F, nI_cl, le_F, le_T, nI_m_F, m_nI_F, nI_dn, m_lt, Option.bind_some, if_true, if_false, not_false_eq_true, not_true_eq_false, or_self, or_false, false_or, true_or, or_true, true_and, and_true, false_and, and_false, rA_T, rA_F, rB_T, rB_F, rI_T, rI_F, rJ_T, rJ_F, rA_wI, rA_wJ, rA_wB, rB_wI, rB_wJ, rB_wA, rI_wJ, rI_wA, rI_wB, rJ_wI, rJ_wA, rJ_wB]
        simp
      | succ i => simp at hi
    · rfl
    · exact sx_wI' (sx_wA' (sx_wA' (sx_rf _ _) (Or.inl rfl)) (Or.inr (Or.inl rfl))) ⟨rfl, rfl⟩
  · simp (disch := omega) only [↓reduceIte, nI_lit, nI_add, pk_mul, nI_lt_T, nI_lt_F, nI_le_T, nI_le_F, nI_eq_T, nI_eq_F, nI_cl, le_F, le_T, nI_m_F, m_nI_F, nI_dn, m_lt, Option.bind_some, if_true, if_false, not_false_eq_true, not_true_eq_false, or_self, or_false, false_or, true_or, or_true, true_and, and_true, false_and, and_false, rA_T, rA_F, rB_T, rB_F, rI_T, rI_F, rJ_T, rJ_F, rA_wI, rA_wJ, rA_wB, rB_wI, rB_wJ, rB_wA, rI_wJ, rI_wA, rI_wB, rJ_wI, rJ_wA, rJ_wB]
theorem gt_D1 (hT : tb_ok T) {n w : Nat} (hw : w + (n + 1) + 1 = T.1) (G : gtG_P V bo T n (w + 1)) : gtD_P V bo T (n + 1) w := by
  intro S P j A x s hS hP hj hg hA hl
  have h7 := hT.1
  have hQ : 8 * P + j < 8 ^ (w + 1) := by rw [Nat.pow_succ]; omega
  have hQ2 := lt8 (b := n + 1) hQ
  rw [show w + 1 + (n + 1) = T.1 by omega] at hQ2
  obtain ⟨s', e, ha, hk⟩ := G 8 0 S (8 * P + j) ((8 * P + j) * 8 ^ (n + 1)) A x (wA s 65 (w + 1) (-nI 1)) rfl hS hQ hQ2 (Nat.mul_div_cancel _ (Nat.pow_pos (by omega))) (tab_g (sx_wA' (sx_rf _ _) (Or.inr (Or.inr rfl))) hg) hA (by rw [← exb_s]; exact hl) (by rw [rA_T ⟨rfl, rfl⟩]; decide)
  rw [← exb_s] at ha
  refine ⟨s', ?_, ?_, fun k hk2 => ?_⟩
  · rw [gt_j1 hT hg hw hP hj, Option.bind_some]
    show whT _ _ = _
    rw [gtK_eq, gt_b3 (by omega) (rA_T ⟨rfl, rfl⟩), e, nI_k1]
  · refine ⟨fun k hk => ?_, ha.2.1, ha.2.2.1, sx_tr (sx_wA' (sx_rf _ _) (Or.inr (Or.inr rfl))) ha.2.2.2⟩
    have := ha.1 k hk
    rw [rA_F (by omega), rA_F (by omega)] at this
    exact this
  · rw [hk k (by omega), rA_F (by omega)]
theorem gt_J100 (hT : tb_ok T) {n w : Nat} (hw : w + n + 1 = T.1) {j0 j1 S P C : Nat} {x : Int} {s : sx_M} (hC : C < 8 ^ T.1) (hCP : C / 8 ^ (n + 1) = P) (hg : tabIs 59 0 T s) (hnow : rA s 65 w = nI j0 - nI 1) (q5 : whT (f_X12_goesThrough_L132 (nI V) (oI bo) (nI V) (oI bo) (nI w) (nI S) (iI x) (nI (P * 8 ^ (n + 1)))) (nI j0, s) = some (nI j1, s)) : f_X12_goesThrough_L50_J100 (nI V) (oI bo) (nI w) (nI S) (iI x) (nI C) s = (if nI j1 = nI 8 then some (.inl (nI w + -nI 1, nI S, iI x, nI (P * 8 ^ (n + 1)), wA s 65 w (nI j1))) else (if nI w = oI bo then f_X12_goesThrough_L50_J209 (nI V) (oI bo) (nI w) (nI S) (iI x) (nI (P * 8 ^ (n + 1))) (nI j1) (wA s 65 w (nI j1)) else (f_X12_costOf (nI w) (nI j1) (wA s 65 w (nI j1))).bind (fun p8 => f_X12_goesThrough_L50_J209 (nI V) (oI bo) (nI w) (nI S ||| (nI 1 <<< (nI j1 &&& nI 31))) (iI x + p8.1) (nI (P * 8 ^ (n + 1))) (nI j1) p8.2))) := by
  have h7 := hT.1
  have hC7 := le87 h7
  have hwk := f_wk hg
  have eC : nI C >>> (nI 3 * (nI T.1 - nI w) &&& nI 31) <<< (nI 3 * (nI T.1 - nI w) &&& nI 31) = nI (P * 8 ^ (n + 1)) := by
    have hle : P * 8 ^ (n + 1) ≤ C := by rw [← hCP]; exact Nat.div_mul_le_self _ _
    rw [nI_sb (by omega), show T.1 - w = n + 1 by omega, pk_mul, nI_shr' (by omega) (by omega), p8, hCP, nI_shl (by omega) (by rw [p8]; omega), p8]
  have hcl : (nI w).toNatClampNeg = w := nI_cl (by omega)
  have h0 : ¬ nI w < 0 := nI_pos (by omega)
  have e1 : nI j0 - nI 1 + nI 1 = nI j0 := Int32.sub_add_cancel _ _
  have hin : ¬ (nI w < 0 ∨ 7 ≤ w) := fun q => q.elim h0 (by omega)
  unfold f_X12_goesThrough_L50_J100
  rw [hwk, Option.bind_some, hwk, Option.bind_some, hcl, if_pos hin, hnow]
  have q6 : whT (f_X12_goesThrough_L132 (nI V) (oI bo) (nI V) (oI bo) (nI w) (nI S) (iI x) (nI C >>> (3 * (nI T.1 - nI w) &&& 31) <<< (3 * (nI T.1 - nI w) &&& 31))) (nI j0 - nI 1 + 1, s) = some (nI j1, s) := by
    have e2 : nI C >>> (3 * (nI T.1 - nI w) &&& 31) <<< (3 * (nI T.1 - nI w) &&& 31) = nI (P * 8 ^ (n + 1)) := eC
    have e3 : nI j0 - nI 1 + 1 = nI j0 := e1
    rw [e2, e3, q5]
  have e2 : nI C >>> (3 * (nI T.1 - nI w) &&& 31) <<< (3 * (nI T.1 - nI w) &&& 31) = nI (P * 8 ^ (n + 1)) := eC
  rw [bnd q6, if_pos hin, e2]
  rfl
theorem gt_G (hT : tb_ok T) (hV : V < 2 ^ T.2.1) (hbo : ∀ b, bo = some b → b < 7) {n w : Nat} (hw : w + n + 1 = T.1) (D : gtD_P V bo T n w) : gtG_P V bo T n w := by
  have h7 := hT.1
  have h8 := hT.2.1
  intro m
  induction m using Nat.strongRecOn with
  | ind m ih =>
  intro j0 S P C A x s hj0 hS hP hC hCP hg hA hl hnow
  have hC7 := le87 h7
  have hwk := f_wk hg
  obtain ⟨j1, q1, q2, q3, q4, q5⟩ := gt_find hT hg (S := S) hV (show w < T.1 by omega) hbo (nI V) (oI bo) (iI x) (nI (P * 8 ^ (n + 1))) m j0 hj0
  have hsk : exF (cV T V) bo n w S j0 m = exF (cV T V) bo n w S j1 (8 - j1) := by
    have := exF_skip (c := cV T V) (bo := bo) (n := n) (w := w) (S := S) (j1 - j0) j0 (8 - j1) (fun j a b => q3 j a (by omega))
    rw [show j1 - j0 + (8 - j1) = m by omega, show j0 + (j1 - j0) = j1 by omega] at this
    exact this
  rw [hsk] at hl ⊢
  have eJ := gt_J100 (V := V) (bo := bo) hT hw hC hCP hg hnow q5
  rw [eJ]
  by_cases hj8 : j1 = 8
  · subst hj8
    refine ⟨wA s 65 w (nI 8), ?_, ?_, fun k hk => ?_⟩
    · rw [if_pos rfl, Option.bind_some, ← Int32.sub_eq_add_neg]; rfl
    · refine ap_nil (fun k => ?_) hA (sx_wA' (sx_rf _ _) (Or.inr (Or.inr rfl)))
      simp (disch := omega) only [↓reduceIte, nI_lit, nI_add, pk_mul, nI_lt_T, nI_lt_F, nI_le_T, nI_le_F, nI_eq_T, nI_eq_F, nI_cl, le_F, le_T, nI_m_F, m_nI_F, nI_dn, m_lt, Option.bind_some, if_true, if_false, not_false_eq_true, not_true_eq_false, or_self, or_false, false_or, true_or, or_true, true_and, and_true, false_and, and_false, rA_T, rA_F, rB_T, rB_F, rI_T, rI_F, rJ_T, rJ_F, rA_wI, rA_wJ, rA_wB, rB_wI, rB_wJ, rB_wA, rI_wJ, rI_wA, rI_wB, rJ_wI, rJ_wA, rJ_wB]
    · rw [rA_F (by omega)]
  · have hj : j1 < 8 := by omega
    have hcn := q4 hj
    have hg1 : tabIs 59 0 T (wA s 65 w (nI j1)) := tab_g (sx_wA' (sx_rf _ _) (Or.inr (Or.inr rfl))) hg
    have hx1 : sx_eq gtD s (wA s 65 w (nI j1)) := sx_wA' (sx_rf _ _) (Or.inr (Or.inr rfl))
    rw [show 8 - j1 = (8 - (j1 + 1)) + 1 by omega, exF_s] at hl ⊢
    rw [List.length_append] at hl
    rw [if_neg (by rw [nI_eq_F (by omega) (by omega) (by omega)]; exact fun q => q)]
    have hP8 : 8 * P + j1 < 8 ^ (w + 1) := by rw [Nat.pow_succ]; omega
    have hQ := lt8 (b := n) hP8
    rw [show w + 1 + n = T.1 by omega] at hQ
    have hQd : (8 * P + j1) * 8 ^ n / 8 ^ (n + 1) = P := by
      rw [Nat.pow_succ, Nat.mul_comm (8 ^ n) 8, Nat.mul_div_mul_right _ _ (Nat.pow_pos (by omega))]
      omega
    have ha0 : ∀ {L s'}, ap A L (wA s 65 w (nI j1)) s' → ap A L s s' := by
      intro L s' ha
      refine ⟨fun k hk => ?_, ha.2.1, ha.2.2.1, sx_tr hx1 ha.2.2.2⟩
      have := ha.1 k hk
      rw [rA_F (by omega), rA_F (by omega)] at this
      exact this
    by_cases hb : bo = some w
    · obtain ⟨e0, e1⟩ := brb_b (rec := exb (cV T V) bo n (w + 1)) hb hcn
      subst e0
      rw [e1] at hl ⊢
      rw [bx_len] at hl
      obtain ⟨s1, d1, d2, d3⟩ := D S P 0 A x (wA s 65 w (nI 0)) hS hP hj hg1 hA (by omega)
      have hn1 : rA s1 65 w = nI 0 := by rw [d3 w (Nat.le_refl _), rA_T ⟨rfl, rfl⟩]
      obtain ⟨s2, g1, g2, g3⟩ := ih (8 - (0 + 1)) (by omega) (0 + 1) S P ((8 * P + 0) * 8 ^ n) (A + (exb (cV T V) bo n (w + 1) S).length) x s1 (by omega) hS hP hQ hQd (tab_g d2.2.2.2 hg1) (by rw [d2.2.2.1]; simp [enc]) (by omega) (by rw [hn1, nI_k1])
      refine ⟨s2, ?_, ?_, fun k hk => ?_⟩
      · rw [if_pos (by rw [hb]; rfl), d1, gtK_eq, gt_b1 (by omega) hn1 (by omega) hb, g1]
      · rw [enc_app]
        have hh := enc_bx (P := P) (n := n) (x := x) (y := 0) (j := 0) (L := exb (cV T V) bo n (w + 1) S) (fun p hp => exb_row hp)
        rw [hh]
        rw [Int.add_zero]
        refine ap_tr (ha0 d2) ?_
        have : (enc (8 * P + 0) n x (exb (cV T V) bo n (w + 1) S)).length = (exb (cV T V) bo n (w + 1) S).length := by simp [enc]
        rw [this]
        exact g2
      · rw [g3 k hk, d3 k (by omega), rA_F (by omega)]
    · obtain ⟨y, hy, hs, e1⟩ := brb_n (rec := exb (cV T V) bo n (w + 1)) hb hcn
      rw [e1] at hl ⊢
      rw [bx_len] at hl
      have hyT : T.2.2 w j1 = some y ∧ V.testBit j1 = true := by
        have hy : (if V.testBit j1 then T.2.2 w j1 else none) = some y := hy
        split at hy
        · exact ⟨hy, by assumption⟩
        · cases hy
      have hjJ : j1 < T.2.1 := Nat.lt_of_not_le (fun q => by
        have := Nat.testBit_lt_two_pow (Nat.lt_of_lt_of_le hV (pw_le q))
        rw [this] at hyT; cases hyT.2)
      have hco := f_cost_in hT hg1 (show w < T.1 by omega) hjJ
      rw [hyT.1, c32_s] at hco
      obtain ⟨s1, d1, d2, d3⟩ := D (S ||| 2 ^ j1) P j1 A (x + y) (wA s 65 w (nI j1)) (or_256 hS hj) hP hj hg1 hA (by omega)
      have hn1 : rA s1 65 w = nI j1 := by rw [d3 w (Nat.le_refl _), rA_T ⟨rfl, rfl⟩]
      obtain ⟨s2, g1, g2, g3⟩ := ih (8 - (j1 + 1)) (by omega) (j1 + 1) S P ((8 * P + j1) * 8 ^ n) (A + (exb (cV T V) bo n (w + 1) (S ||| 2 ^ j1)).length) x s1 (by omega) hS hP hQ hQd (tab_g d2.2.2.2 hg1) (by rw [d2.2.2.1]; simp [enc]) (by omega) (by rw [hn1, nI_k1])
      refine ⟨s2, ?_, ?_, fun k hk => ?_⟩
      · rw [ite_F (oI_ne hbo (by omega) hb), hco, Option.bind_some, iI_add, nbit (by omega), nI_or, d1, gtK_eq, gt_b2 hT (tab_g d2.2.2.2 hg1) hbo (by omega) hn1 hjJ hb hyT.1 hS hs, g1]
      · rw [enc_app]
        have hh := enc_bx (P := P) (n := n) (x := x) (y := y) (j := j1) (L := exb (cV T V) bo n (w + 1) (S ||| 2 ^ j1)) (fun p hp => exb_row hp)
        rw [hh]
        refine ap_tr (ha0 d2) ?_
        have : (enc (8 * P + j1) n (x + y) (exb (cV T V) bo n (w + 1) (S ||| 2 ^ j1))).length = (exb (cV T V) bo n (w + 1) (S ||| 2 ^ j1)).length := by simp [enc]
        rw [this]
        exact g2
      · rw [g3 k hk, d3 k (by omega), rA_F (by omega)]
theorem gt_all (hT : tb_ok T) (hV : V < 2 ^ T.2.1) (hbo : ∀ b, bo = some b → b < 7) : ∀ n w, w + n + 1 = T.1 → gtG_P V bo T n w
  | 0, w, hw => gt_G hT hV hbo hw (gt_D0 hT hw)
  | n + 1, w, hw => gt_G hT hV hbo hw (gt_D1 hT hw (gt_all hT hV hbo n (w + 1) (by omega)))
/-- the reference's list -/
def lst (L : List asg) (s : sx_M) : Prop := rI s 58 15 = nI L.length ∧ ∀ i p, L[i]? = some p → rA s 63 i = nI (cod p.1) ∧ rA s 64 i = iI p.2
theorem f_goes (hT : tb_ok T) (hV : V < 2 ^ T.2.1) (hbo : ∀ b, bo = some b → b < 7) {s : sx_M} (hg : tabIs 59 0 T s) : Ev (f_X12_goesThrough (nI V) (oI bo) s) (fun s' => lst (exb (cV T V) bo T.1 0 0) s' ∧ sx_eq gtD s s') := by
  have h7 := hT.1
  have hx0 : sx_eq gtD s (wA (wI s 58 15 (0 : Int32)) 65 ((0 : Int32)).toNatClampNeg (-1 : Int32)) := sx_wA' (sx_wI' (sx_rf _ _) ⟨rfl, rfl⟩) (Or.inr (Or.inr rfl))
  have hg0 := tab_g hx0 hg
  unfold f_X12_goesThrough
  rw [f_wk hg0, Option.bind_some]
  by_cases h0 : T.1 = 0
  · rw [if_pos (by rw [h0]; rfl), Ev_some, h0]
    refine ⟨⟨rfl, fun i p hi => ?_⟩, sx_wI' (sx_wA' (sx_wA' hx0 (Or.inl rfl)) (Or.inr (Or.inl rfl))) ⟨rfl, rfl⟩⟩
    have hi : [([], 0)][i]? = some p := hi
    cases i with
    | zero =>
      have hi : (([], 0) : asg) = p := by simpa using hi
      subst hi
      exact ⟨rfl, rfl⟩
    | succ i => simp at hi
  · rw [if_neg (by rw [show (0 : Int32) = nI 0 from rfl, nI_eq_F (by omega) (by omega) (by omega)]; exact fun q => q)]
    obtain ⟨n, hn⟩ : ∃ n, T.1 = n + 1 := ⟨T.1 - 1, by omega⟩
    have hl := exb_40 (cV T V) bo h7
    rw [hn, exb_s] at hl
    obtain ⟨s', e, ha, _⟩ := gt_all hT hV hbo n 0 (by omega) 8 0 0 0 0 0 0 _ rfl (by omega) (by decide) (Nat.pow_pos (by omega)) (Nat.zero_div _) hg0 rfl (by omega) (show (-1 : Int32) = nI 0 - nI 1 from by decide)
    refine ⟨s', ?_, ?_, sx_tr hx0 ha.2.2.2⟩
    · have hb := gt_b3 (V := V) (bo := bo) (s := wA (wI s 58 15 (0 : Int32)) 65 ((0 : Int32)).toNatClampNeg (-1 : Int32)) (w := 0) (a := nI 0) (b := iI 0) (c := nI 0) (by omega) rfl
      have h1 : whT (f_X12_goesThrough_L50 (nI V) (oI bo)) ((0 : Int32), (0 : Int32), (0 : Int32), (0 : Int32), wA (wI s 58 15 (0 : Int32)) 65 ((0 : Int32)).toNatClampNeg (-1 : Int32)) = some s' := by
        show whT (f_X12_goesThrough_L50 (nI V) (oI bo)) (nI 0, nI 0, iI 0, nI 0, wA (wI s 58 15 (0 : Int32)) 65 ((0 : Int32)).toNatClampNeg (-1 : Int32)) = some s'
        rw [gtK_eq, hb, e, gtK_eq]
        have : f_X12_goesThrough_L50 (nI V) (oI bo) (nI 0 - nI 1, nI 0, iI 0, nI (0 * 8 ^ (n + 1)), s') = some (.inr s') := by
          simp only [f_X12_goesThrough_L50]
          rw [if_pos (by decide)]
        rw [this]; rfl
      rw [h1]; rfl
    · rw [hn, exb_s]
      refine ⟨?_, fun i p hi => ?_⟩
      · have := ha.2.2.1
        rw [Nat.zero_add] at this
        rw [this]; simp [enc]
      · have := ha.2.1 i (0 * 8 ^ (n + 1) + cod p.1, 0 + p.2) (by unfold enc; rw [List.getElem?_map, hi]; rfl)
        simpa using this
theorem f_allJobs (hT : tb_ok T) {s : sx_M} (hg : tabIs 59 0 T s) : f_X12_allJobs s = some (nI (2 ^ T.2.1 - 1), s) := by
  have h8 := hT.2.1
  unfold f_X12_allJobs
  rw [f_jb hg, Option.bind_some, nI_bit (by omega), show (1 : Int32) = nI 1 from rfl, nI_sb Nat.one_le_two_pow]
theorem cV_all (hT : tb_ok T) : cV T (2 ^ T.2.1 - 1) = T.2.2 := by
  funext w j
  show (if (2 ^ T.2.1 - 1).testBit j then T.2.2 w j else none) = _
  rw [Nat.testBit_two_pow_sub_one]
  by_cases h : j < T.2.1
  · simp [h]
  · simp [h]
    exact (hT.2.2.2 w j (by omega)).symm
/-- all assignments of a table -/
def allA (T : tb) : List asg := ex T.2.2 T.1 0 0
theorem f_goesAll (hT : tb_ok T) {s : sx_M} (hg : tabIs 59 0 T s) : Ev (f_X12_goesAll s) (fun s' => lst (allA T) s' ∧ sx_eq gtD s s') := by
  unfold f_X12_goesAll
  rw [f_allJobs hT hg, Option.bind_some, Ev_bind]
  have h := f_goes (bo := none) hT (show 2 ^ T.2.1 - 1 < 2 ^ T.2.1 by have := Nat.one_le_two_pow (n := T.2.1); omega) (fun b q => by cases q) hg
  rw [cV_all hT] at h
  refine ev_m h (fun s' hs => ?_)
  rw [Ev_some]
  rw [exb_none] at hs
  exact hs
end GT
