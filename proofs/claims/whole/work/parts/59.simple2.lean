/-! noughts, blocked, count, drawn -/
/-- how many of a worker's first k jobs; of the first w workers -/
def cnR (P : Nat → Nat → Bool) (w : Nat) : Nat → Nat
  | 0 => 0
  | k + 1 => cnR P w k + (if P w k then 1 else 0)
def cnW (P : Nat → Nat → Bool) (J : Nat) : Nat → Nat
  | 0 => 0
  | w + 1 => cnW P J w + cnR P w J
def isN (T : tb) (w j : Nat) : Bool := rdO T w j == some 0
theorem c_noughts {T : tb} {s : sx_M} (hT : tb_ok T) (hg : gridIs 3 T s) : f_X11_noughts s = some (nI (cnW (isN T) T.2.1 T.1), s) := by
  have h7 := hT.1
  have h8 := hT.2.1
  have hL : whT f_X11_noughts_L4 (nI (cnW (isN T) T.2.1 0), nI 0, s) = some (nI (cnW (isN T) T.2.1 T.1), s) := by
    refine wh_for (fun w => (nI (cnW (isN T) T.2.1 w), nI w, s)) T.1 (fun w hw => ?_) ?_ rfl
    · have hin : whT (f_X11_noughts_L17 (nI w)) (nI (cnW (isN T) T.2.1 w + cnR (isN T) w 0), nI 0, s) = some (nI (cnW (isN T) T.2.1 w + cnR (isN T) w T.2.1), s) := by
        refine wh_for (fun k => (nI (cnW (isN T) T.2.1 w + cnR (isN T) w k), nI k, s)) T.2.1 (fun k hk => ?_) ?_ rfl
        · simp only [f_X11_noughts_L17, hg.2.1, cnR]
          rw [if_neg (nI_ge hk (by omega)), bnd (f_reducedAt hT hg hw hk)]
          cases hd : rdO T w k with
          | none =>
            rw [if_neg (show ¬ c64 none = 0 by decide), nI_1]
            simp [isN, hd]
          | some d =>
            have hb : 0 ≤ d ∧ d ≤ 19998 := by
              unfold rdO at hd
              cases hy : lsR T w k with
              | none => rw [hy] at hd; cases hd
              | some y =>
                obtain ⟨m, hm, e, b1, b2, b3⟩ := rd_s hT hw hy
                unfold rdO at e
                rw [e] at hd
                cases hd
                omega
            by_cases q : d = 0
            · subst q
              rw [if_pos (show c64 (some 0) = 0 from rfl), nI_1, nI_1]
              simp [isN, hd, Nat.add_assoc]
            · rw [if_neg (show ¬ c64 (some d) = 0 by
                rw [c64_s, show (0 : Int64) = jJ 0 by decide, jJ_eq_F q (by omega) (by omega) (by omega) (by omega)]; exact fun z => z), nI_1]
              simp [isN, hd, q]
        · simp only [f_X11_noughts_L17, hg.2.1]
          rw [if_pos (nI_le (Nat.le_refl _) (by omega))]
      simp only [f_X11_noughts_L4, hg.1, cnW]
      rw [if_neg (nI_ge hw (by omega))]
      have hin' : whT (f_X11_noughts_L17 (nI w)) (nI (cnW (isN T) T.2.1 w), 0, s) = some (nI (cnW (isN T) T.2.1 w + cnR (isN T) w T.2.1), s) := hin
      rw [bnd hin', nI_1]
    · simp only [f_X11_noughts_L4, hg.1]
      rw [if_pos (nI_le (Nat.le_refl _) (by omega))]
  unfold f_X11_noughts
  have hL' : whT f_X11_noughts_L4 (0, 0, s) = some (nI (cnW (isN T) T.2.1 T.1), s) := hL
  rw [bnd hL']
theorem r_noughts {T : tb} {s : sx_M} (hT : tb_ok T) (hg : tabIs 59 0 T s) : f_X12_noughts s = some (nI (cnW (isN T) T.2.1 T.1), s) := by
  have h7 := hT.1
  have h8 := hT.2.1
  have hL : whT f_X12_noughts_L4 (nI (cnW (isN T) T.2.1 0), nI 0, s) = some (nI (cnW (isN T) T.2.1 T.1), s) := by
    refine wh_for (fun w => (nI (cnW (isN T) T.2.1 w), nI w, s)) T.1 (fun w hw => ?_) ?_ rfl
    · have hin : whT (f_X12_noughts_L14 (nI w)) (nI (cnW (isN T) T.2.1 w + cnR (isN T) w 0), nI 0, s) = some (nI (cnW (isN T) T.2.1 w + cnR (isN T) w T.2.1), s) := by
        refine wh_for (fun k => (nI (cnW (isN T) T.2.1 w + cnR (isN T) w k), nI k, s)) T.2.1 (fun k hk => ?_) ?_ rfl
        · simp only [f_X12_noughts_L14, f_X12_noughts_L14_J50, cnR]
          rw [bnd (f_jb hg), if_neg (nI_ge hk (by omega)), bnd (f_cost_in hT hg hw hk)]
          cases hc : T.2.2 w k with
          | none =>
            rw [if_pos c32_n, nI_1]
            have : rdO T w k = none := by unfold rdO; rw [lsR_n hc]
            simp [isN, this]
          | some x =>
            have hb := hT.2.2.1 _ _ x hc
            obtain ⟨l, _, e2, _⟩ := lsR_s hT hc
            obtain ⟨d, e3, b1, b2, e4⟩ := r_reduced hT hg hw hk e2
            rw [c32_s, if_neg (of_eq_false (inv_F (by omega) (by omega))), bnd e4]
            by_cases q : d = 0
            · subst q
              rw [if_pos (show jJ 0 = 0 from rfl), nI_1, nI_1]
              simp [isN, e3, Nat.add_assoc]
            · rw [if_neg (show ¬ jJ d = 0 by
                rw [show (0 : Int64) = jJ 0 by decide, jJ_eq_F q (by omega) (by omega) (by omega) (by omega)]; exact fun z => z), nI_1]
              simp [isN, e3, q]
        · simp only [f_X12_noughts_L14]
          rw [bnd (f_jb hg), if_pos (nI_le (Nat.le_refl _) (by omega))]
      simp only [f_X12_noughts_L4, cnW]
      rw [bnd (f_wk hg), if_neg (nI_ge hw (by omega))]
      have hin' : whT (f_X12_noughts_L14 (nI w)) (nI (cnW (isN T) T.2.1 w), 0, s) = some (nI (cnW (isN T) T.2.1 w + cnR (isN T) w T.2.1), s) := hin
      rw [bnd hin', nI_1]
    · simp only [f_X12_noughts_L4]
      rw [bnd (f_wk hg), if_pos (nI_le (Nat.le_refl _) (by omega))]
  unfold f_X12_noughts
  have hL' : whT f_X12_noughts_L4 (0, 0, s) = some (nI (cnW (isN T) T.2.1 T.1), s) := hL
  rw [bnd hL']
theorem stp_38 : st_ok_38 Rel := by
  intro s ⟨A, hok, hc, hr⟩
  exact ⟨_, _, c_noughts hok.1 hc.1, r_noughts hok.1 hr.1, rfl, A, hok, hc, hr⟩
/-! blocked -/
def opJ (T : tb) (S w : Nat) : Nat → Nat → Nat
  | 0, a => a
  | k + 1, a => if S.testBit w && (T.2.2 w k).isSome then opJ T S w k a ||| 2 ^ k else opJ T S w k a
def opW (T : tb) (S : Nat) : Nat → Nat
  | 0 => 0
  | w + 1 => opJ T S w T.2.1 (opW T S w)
theorem opJ_lt {T : tb} {S w : Nat} : ∀ k a, k ≤ 8 → a < 256 → opJ T S w k a < 256
  | 0, a, _, h => h
  | k + 1, a, hk, h => by
    have := opJ_lt (T := T) (S := S) (w := w) k a (by omega) h
    unfold opJ
    split
    · exact or_256 this (by omega)
    · exact this
theorem opW_lt {T : tb} (hT : tb_ok T) (S : Nat) : ∀ w, opW T S w < 256
  | 0 => by show 0 < 256; omega
  | w + 1 => opJ_lt _ _ hT.2.1 (opW_lt hT S w)
theorem nI_or0 (a : Nat) : nI a ||| 0 = nI a := by
  rw [show (0 : Int32) = nI 0 from rfl, nI_or, Nat.or_zero]
theorem c_open {T : tb} {s : sx_M} (hT : tb_ok T) (hg : gridIs 3 T s) {S : Nat} (hS : S < 256) : f_X1_jobsOpenTo 3 (nI S) s = some (nI (opW T S T.1), s) := by
  have h7 := hT.1
  have h8 := hT.2.1
  have hL : whT (f_X1_jobsOpenTo_L4 3 (nI S)) (nI (opW T S 0), nI 0, s) = some (nI (opW T S T.1), s) := by
    refine wh_for (fun w => (nI (opW T S w), nI w, s)) T.1 (fun w hw => ?_) ?_ rfl
    · have hin : whT (f_X1_jobsOpenTo_L15 3 (nI S) (nI S) (nI w)) (nI (opJ T S w 0 (opW T S w)), nI 0, s) = some (nI (opJ T S w T.2.1 (opW T S w)), s) := by
        refine wh_for (fun k => (nI (opJ T S w k (opW T S w)), nI k, s)) T.2.1 (fun k hk => ?_) ?_ rfl
        · simp only [f_X1_jobsOpenTo_L15, hg.2.1, opJ]
          rw [if_neg (nI_ge hk (by omega)), nI_has (by omega) (by omega)]
          cases hb : S.testBit w with
          | false => rw [if_neg (show ¬ nI (if false = true then 1 else 0) = 1 by decide), nI_1]; simp
          | true =>
            rw [if_pos (show nI (if true = true then 1 else 0) = 1 by decide), bnd (at_F h7 h8 hg hw hk)]
            cases hc : T.2.2 w k with
            | none => rw [if_pos c64_n, nI_1]; simp
            | some x =>
              have hb := hT.2.2.1 _ _ x hc
              rw [c64_s, if_neg (of_eq_false (jnv (by omega) (by omega))), nI_1, nI_bit (by omega), nI_or]; simp
        · simp only [f_X1_jobsOpenTo_L15, hg.2.1]
          rw [if_pos (nI_le (Nat.le_refl _) (by omega))]
      simp only [f_X1_jobsOpenTo_L4, hg.1, opW]
      rw [if_neg (nI_ge hw (by omega))]
      have hin' : whT (f_X1_jobsOpenTo_L15 3 (nI S) (nI S) (nI w)) (nI (opW T S w), 0, s) = some (nI (opJ T S w T.2.1 (opW T S w)), s) := hin
      rw [bnd hin', nI_1]
    · simp only [f_X1_jobsOpenTo_L4, hg.1]
      rw [if_pos (nI_le (Nat.le_refl _) (by omega))]
  unfold f_X1_jobsOpenTo
  have hL' : whT (f_X1_jobsOpenTo_L4 3 (nI S)) (0, 0, s) = some (nI (opW T S T.1), s) := hL
  rw [bnd hL']
theorem r_open {T : tb} {s : sx_M} (hT : tb_ok T) (hg : tabIs 59 0 T s) {S : Nat} (hS : S < 256) : whT (f_X12_blocked_L16 (nI S)) (0, 0, s) = some (nI (opW T S T.1), s) := by
  have h7 := hT.1
  have h8 := hT.2.1
  have hL : whT (f_X12_blocked_L16 (nI S)) (nI (opW T S 0), nI 0, s) = some (nI (opW T S T.1), s) := by
    refine wh_for (fun w => (nI (opW T S w), nI w, s)) T.1 (fun w hw => ?_) ?_ rfl
    · have hin : whT (f_X12_blocked_L27 (nI S) (nI S) (nI w)) (nI (opJ T S w 0 (opW T S w)), nI 0, s) = some (nI (opJ T S w T.2.1 (opW T S w)), s) := by
        refine wh_for (fun k => (nI (opJ T S w k (opW T S w)), nI k, s)) T.2.1 (fun k hk => ?_) ?_ rfl
        · simp only [f_X12_blocked_L27, f_X12_blocked_L27_J65, f_X12_has, opJ]
          rw [bnd (f_jb hg), if_neg (nI_ge hk (by omega)), nI_has (by omega) (by omega)]
          cases hb : S.testBit w with
          | false =>
            rw [if_neg (show ¬ nI (if false = true then 1 else 0) = 1 by decide), Option.bind_some, if_pos rfl, nI_or0, nI_1]; simp
          | true =>
            rw [if_pos (show nI (if true = true then 1 else 0) = 1 by decide), Option.bind_some, if_neg n1_0, bnd (f_cost_in hT hg hw hk)]
            cases hc : T.2.2 w k with
            | none => rw [if_pos c32_n, nI_or0, nI_1]; simp
            | some x =>
              have hb := hT.2.2.1 _ _ x hc
              rw [c32_s, if_neg (of_eq_false (inv_F (by omega) (by omega))), nI_1, nI_bit (by omega), nI_or]; simp
        · simp only [f_X12_blocked_L27]
          rw [bnd (f_jb hg), if_pos (nI_le (Nat.le_refl _) (by omega))]
      simp only [f_X12_blocked_L16, opW]
      rw [bnd (f_wk hg), if_neg (nI_ge hw (by omega))]
      have hin' : whT (f_X12_blocked_L27 (nI S) (nI S) (nI w)) (nI (opW T S w), 0, s) = some (nI (opJ T S w T.2.1 (opW T S w)), s) := hin
      rw [bnd hin', nI_1]
    · simp only [f_X12_blocked_L16]
      rw [bnd (f_wk hg), if_pos (nI_le (Nat.le_refl _) (by omega))]
  exact hL
def pcI (S : Nat) : Nat → Nat
  | 0 => 0
  | k + 1 => pcI S k + (if S.testBit k then 1 else 0)
theorem pcI_eq (S : Nat) : pcI S 8 = pcn S := by
  have : ∀ k, pcI S k = ((List.range k).filter (fun j => S.testBit j)).length := by
    intro k
    induction k with
    | zero => rfl
    | succ k ih =>
      rw [List.range_succ, List.filter_append, List.length_append, pcI, ih]
      cases h : S.testBit k <;> simp [h]
  exact this 8
theorem r_bits {S : Nat} (hS : S < 256) (s : sx_M) : f_X12_bits (nI S) s = some (nI (pcn S), s) := by
  have hL : whT (f_X12_bits_L4 (nI S)) (nI (pcI S 0), nI 0, s) = some (nI (pcI S 8), s) := by
    refine wh_for (fun k => (nI (pcI S k), nI k, s)) 8 (fun k hk => ?_) ?_ rfl
    · simp only [f_X12_bits_L4, pcI]
      rw [if_neg (show ¬ (8 : Int32) ≤ nI k from nI_ge (b := 8) hk (by omega)), nI_has (by omega) (by omega), nI_add, nI_1]
    · simp only [f_X12_bits_L4]
      rw [if_pos (show (8 : Int32) ≤ nI 8 by decide)]
  rw [pcI_eq] at hL
  unfold f_X12_bits
  have hL' : whT (f_X12_bits_L4 (nI S)) (0, 0, s) = some (nI (pcn S), s) := hL
  rw [bnd hL']
theorem stp_34 : st_ok_34 Rel := by
  intro s ⟨A, hok, hc, hr⟩
  have h7 := hok.1.1
  have hpw : 2 ^ A.1.1 ≤ 128 := Nat.le_trans (pw_le h7) (by decide)
  have key : ∀ n S, S + n = 2 ^ A.1.1 → ∃ r : sx_M ⊕ (Int32 × sx_M), whT (f_X11_blocked_L12 (nI (2 ^ A.1.1))) (nI S, s) = some r ∧ whT f_X12_blocked_L2 (nI S, s) = some r ∧ (r = .inl s ∨ ∃ v, r = .inr (v, s)) := by
    intro n
    induction n with
    | zero =>
      intro S hS
      refine ⟨.inl s, ?_, ?_, Or.inl rfl⟩
      · rw [whT_eq]
        simp only [f_X11_blocked_L12]
        rw [if_pos (nI_le (by omega) (by omega))]; rfl
      · rw [whT_eq]
        simp only [f_X12_blocked_L2]
        rw [bnd (f_wk hr.1), nI_bit (by omega), if_pos (nI_le (by omega) (by omega))]; rfl
    | succ n ih =>
      intro S hS
      have ho := opW_lt hok.1 S A.1.1
      have p1 := pcn_le S
      have p2 := pcn_le (opW A.1 S A.1.1)
      by_cases q : pcn S ≤ pcn (opW A.1 S A.1.1)
      · obtain ⟨r, e1, e2, hr3⟩ := ih (S + 1) (by omega)
        refine ⟨r, ?_, ?_, hr3⟩
        · rw [whT_eq]
          simp only [f_X11_blocked_L12]
          rw [if_neg (nI_ge (by omega) (by omega)), bnd (c_open hok.1 hc.1 (by omega)), bnd (f_pcn ho s), bnd (f_pcn (by omega) s), if_pos (nI_le q (by omega)), nI_1]
          exact e1
        · rw [whT_eq]
          simp only [f_X12_blocked_L2]
          rw [bnd (f_wk hr.1), nI_bit (by omega), if_neg (nI_ge (by omega) (by omega)), bnd (r_open hok.1 hr.1 (by omega)), bnd (r_bits ho s), bnd (r_bits (by omega) s), if_pos (nI_le q (by omega)), nI_1]
          exact e2
      · refine ⟨.inr (nI S, s), ?_, ?_, Or.inr ⟨_, rfl⟩⟩
        · rw [whT_eq]
          simp only [f_X11_blocked_L12]
          rw [if_neg (nI_ge (by omega) (by omega)), bnd (c_open hok.1 hc.1 (by omega)), bnd (f_pcn ho s), bnd (f_pcn (by omega) s), if_neg (nI_ge (by omega) (by omega))]
          rfl
        · rw [whT_eq]
          simp only [f_X12_blocked_L2]
          rw [bnd (f_wk hr.1), nI_bit (by omega), if_neg (nI_ge (by omega) (by omega)), bnd (r_open hok.1 hr.1 (by omega)), bnd (r_bits ho s), bnd (r_bits (by omega) s), if_neg (nI_ge (by omega) (by omega))]
          rfl
  obtain ⟨r, e1, e2, hr3⟩ := key (2 ^ A.1.1 - 1) 1 (by have := Nat.one_le_two_pow (n := A.1.1); omega)
  have f1 : f_X11_blocked s = (Sum.elim (fun e5 => some ((0 : Int32), e5)) (fun e6 => some e6)) r := by
    unfold f_X11_blocked
    rw [hc.1.1, nI_bit (by omega)]
    exact bnd e1 _
  have f2 : f_X12_blocked s = (Sum.elim (fun e5 => some ((0 : Int32), e5)) (fun e6 => some e6)) r := by
    unfold f_X12_blocked
    exact bnd e2 _
  rcases hr3 with rfl | ⟨v, rfl⟩
  · exact ⟨(0, s), (0, s), f1, f2, rfl, A, hok, hc, hr⟩
  · exact ⟨(v, s), (v, s), f1, f2, rfl, A, hok, hc, hr⟩
/-! count, drawn -/
theorem pcn_0 : pcn 0 = 0 := by decide
theorem exS_0 (T : tb) : exS T 0 = allA T := by
  unfold exS allA
  have : pcn 0 = 0 := by decide
  rw [this]; rfl
theorem rk_all {T : tb} {g : Nat} {s : sx_M} (hr : ranksIs g T s) : rA s (g + 3) 0 = nI (allA T).length := by
  have h := hr 0 (Nat.pow_pos (by omega)) (by rw [pcn_0]; omega)
  rw [exS_0] at h
  exact h.1
theorem all_40 {T : tb} (hT : tb_ok T) : (allA T).length ≤ 40320 := ex_40 _ (by omega) hT.1
def nvW (T : tb) : Nat → Nat
  | 0 => 0
  | w + 1 => nvW T w + (T.2.1 - cnO (ln T 0 w) T.2.1)
theorem c_barred {T : tb} {s : sx_M} (hT : tb_ok T) (hg : gridIs 3 T s) : f_X1_barred 3 s = some (nI (nvW T T.1), s) := by
  have h7 := hT.1
  have h8 := hT.2.1
  have hL : whT (f_X1_barred_L4 3) (nI (nvW T 0), nI 0, s) = some (nI (nvW T T.1), s) := by
    refine wh_for (fun w => (nI (nvW T w), nI w, s)) T.1 (fun w hw => ?_) ?_ rfl
    · have ho : f_X1_openIn 3 (nI w) 0 s = some (nI (cnO (ln T 0 w) T.2.1), s) := f_openIn hT hg (z := 0) (o := w) (Or.inl ⟨rfl, hw⟩)
      have hle := cnO_le (ln T 0 w) T.2.1
      simp only [f_X1_barred_L4, hg.1, hg.2.1, nvW]
      rw [if_neg (nI_ge hw (by omega)), bnd ho, nI_sb hle, nI_add, nI_1]
    · simp only [f_X1_barred_L4, hg.1]
      rw [if_pos (nI_le (Nat.le_refl _) (by omega))]
  unfold f_X1_barred
  have hL' : whT (f_X1_barred_L4 3) (0, 0, s) = some (nI (nvW T T.1), s) := hL
  rw [bnd hL']
theorem r_barred {T : tb} {s : sx_M} (hT : tb_ok T) (hg : tabIs 59 0 T s) (x : Int32) : whT (f_X12_count_L4 x) (0, 0, s) = some (nI (nvW T T.1), s) := by
  have h7 := hT.1
  have h8 := hT.2.1
  have hL : whT (f_X12_count_L4 x) (nI (nvW T 0), nI 0, s) = some (nI (nvW T T.1), s) := by
    refine wh_for (fun w => (nI (nvW T w), nI w, s)) T.1 (fun w hw => ?_) ?_ rfl
    · have hin : whT (f_X12_count_L15 x x (nI w)) (nI (nvW T w + (0 - cnO (ln T 0 w) 0)), nI 0, s) = some (nI (nvW T w + (T.2.1 - cnO (ln T 0 w) T.2.1)), s) := by
        refine wh_for (fun k => (nI (nvW T w + (k - cnO (ln T 0 w) k)), nI k, s)) T.2.1 (fun k hk => ?_) ?_ rfl
        · have hle := cnO_le (ln T 0 w) k
          have hln : ln T 0 w k = T.2.2 w k := rfl
          simp only [f_X12_count_L15, f_X12_count_L15_J42, cnO, hln]
          rw [bnd (f_jb hg), if_neg (nI_ge hk (by omega)), bnd (f_cost_in hT hg hw hk)]
          cases hc : T.2.2 w k with
          | none =>
            rw [if_pos c32_n, nI_1, nI_1]
            simp
            congr 1
            omega
          | some v =>
            have hb := hT.2.2.1 _ _ v hc
            rw [c32_s, if_neg (of_eq_false (inv_F (by omega) (by omega))), nI_1, show (0 : Int32) = nI 0 from rfl, nI_add]
            simp
        · simp only [f_X12_count_L15]
          rw [bnd (f_jb hg), if_pos (nI_le (Nat.le_refl _) (by omega))]
      simp only [f_X12_count_L4, nvW]
      rw [bnd (f_wk hg), if_neg (nI_ge hw (by omega))]
      have hin' : whT (f_X12_count_L15 x x (nI w)) (nI (nvW T w), 0, s) = some (nI (nvW T w + (T.2.1 - cnO (ln T 0 w) T.2.1)), s) := hin
      rw [bnd hin', nI_1]
    · simp only [f_X12_count_L4]
      rw [bnd (f_wk hg), if_pos (nI_le (Nat.le_refl _) (by omega))]
  exact hL
theorem stp_4 : st_ok_4 Rel := by
  intro x s ⟨A, hok, hc, hr⟩
  have hres : ∃ v, (∀ s, clA A s → Ev (f_X11_count x s) (fun p => p.1 = v)) ∧ ∀ s, rfA A s → Ev (f_X12_count x s) (fun p => p.1 = v) := by
    have hR : ∀ s, rfA A s → ∃ s', f_X12_goesAll s = some s' ∧ lst (allA A.1) s' ∧ tabIs 59 0 A.1 s' ∧ rI s' 58 2 = rI s 58 2 ∧ rI s' 58 4 = rI s 58 4 := by
      intro s hr
      obtain ⟨s', e, hl, hx⟩ := f_goesAll hok.1 hr.1
      exact ⟨s', e, hl, tab_g hx hr.1, hx.1 58 2 (by simp only [gtD]; omega), hx.1 58 4 (by simp only [gtD]; omega)⟩
    have hRF : ∀ (v : Int32), (∀ s s', rfA A s → lst (allA A.1) s' → tabIs 59 0 A.1 s' → rI s' 58 2 = rI s 58 2 → rI s' 58 4 = rI s 58 4 → Ev (if x = (0 : Int32) then (f_X12_workers s').bind (fun p7 => some (p7.1, p7.2)) else (if x = (1 : Int32) then (f_X12_jobs s').bind (fun p8 => some (p8.1, p8.2)) else (if x = (2 : Int32) then some (nI (nvW A.1 A.1.1), s') else (if x = (3 : Int32) then some ((rI s' 58 15), s') else (if x = (4 : Int32) then some ((rI s' 58 2), s') else (if x = (5 : Int32) then some ((rI s' 58 4), s') else some ((-1 : Int32), s'))))))) (fun p => p.1 = v)) → ∀ s, rfA A s → Ev (f_X12_count x s) (fun p => p.1 = v) := by
      intro v h s hr
      obtain ⟨s', e, hl, ht, h2, h4⟩ := hR s hr
      unfold f_X12_count
      rw [bnd (r_barred hok.1 hr.1 x), bnd e]
      exact h s s' hr hl ht h2 h4
    by_cases c0 : x = 0
    · refine ⟨nI A.1.1, fun s hc => ⟨(rI s 3 1, s), ?_, hc.1.1⟩, hRF _ (fun s s' hr hl ht h2 h4 => ?_)⟩
      · unfold f_X11_count; rw [if_pos c0]
      · rw [if_pos c0, bnd (f_wk ht)]; exact ev_s rfl
    by_cases c1 : x = 1
    · refine ⟨nI A.1.2.1, fun s hc => ⟨(rI s 3 2, s), ?_, hc.1.2.1⟩, hRF _ (fun s s' hr hl ht h2 h4 => ?_)⟩
      · unfold f_X11_count; rw [if_neg c0, if_pos c1]
      · rw [if_neg c0, if_pos c1, bnd (f_jb ht)]; exact ev_s rfl
    by_cases c2 : x = 2
    · refine ⟨nI (nvW A.1 A.1.1), fun s hc => ⟨(nI (nvW A.1 A.1.1), s), ?_, rfl⟩, hRF _ (fun s s' hr hl ht h2 h4 => ?_)⟩
      · unfold f_X11_count; rw [if_neg c0, if_neg c1, if_pos c2, bnd (c_barred hok.1 hc.1)]
      · rw [if_neg c0, if_neg c1, if_pos c2]; exact ev_s rfl
    by_cases c3 : x = 3
    · refine ⟨nI (allA A.1).length, fun s hc => ⟨(rA s 6 0, s), ?_, rk_all hc.2.1⟩, hRF _ (fun s s' hr hl ht h2 h4 => ?_)⟩
      · unfold f_X11_count f_X5_all; rw [if_neg c0, if_neg c1, if_neg c2, if_pos c3]; rfl
      · rw [if_neg c0, if_neg c1, if_neg c2, if_pos c3]; exact ev_s hl.1
    by_cases c4 : x = 4
    · refine ⟨nI A.2.1.length, fun s hc => ⟨(rI s 20 2, s), ?_, ?_⟩, hRF _ (fun s s' hr hl ht h2 h4 => ?_)⟩
      · unfold f_X11_count; rw [if_neg c0, if_neg c1, if_neg c2, if_neg c3, if_pos c4]
      · obtain ⟨o, _, _, h, _⟩ := hc.2.2.2.1; exact h
      · rw [if_neg c0, if_neg c1, if_neg c2, if_neg c3, if_pos c4]; exact ev_s (h2.trans hr.2.1.1)
    by_cases c5 : x = 5
    · refine ⟨nI A.2.2.1.1, fun s hc => ⟨(rI s 1 1, s), ?_, hc.2.2.2.2.1.1⟩, hRF _ (fun s s' hr hl ht h2 h4 => ?_)⟩
      · unfold f_X11_count; rw [if_neg c0, if_neg c1, if_neg c2, if_neg c3, if_neg c4, if_pos c5]
      · rw [if_neg c0, if_neg c1, if_neg c2, if_neg c3, if_neg c4, if_pos c5]; exact ev_s (h4.trans hr.2.2.1.1)
    · refine ⟨-1, fun s hc => ⟨(-1, s), ?_, rfl⟩, hRF _ (fun s s' hr hl ht h2 h4 => ?_)⟩
      · unfold f_X11_count; rw [if_neg c0, if_neg c1, if_neg c2, if_neg c3, if_neg c4, if_neg c5]
      · rw [if_neg c0, if_neg c1, if_neg c2, if_neg c3, if_neg c4, if_neg c5]; exact ev_s rfl
  obtain ⟨v, h1, h2⟩ := hres
  exact st_q (f1 := f_X11_count x) (f2 := f_X12_count x) v hok hc hr (h1 s) (lo_X11_count x) (cF_X11_count x) h2 (hi_X12_count x) (rF_X12_count x)
def drw (x : Int64) (n : Int32) : Int32 := (((((((x * (6364136223846793005 : Int64)) + (1442695040888963407 : Int64))).toUInt64 >>> (((33 : Int32)).toInt64.toUInt64 &&& Int64.toUInt64 63)).toInt64 - ((((x * (6364136223846793005 : Int64)) + (1442695040888963407 : Int64))).toUInt64 >>> (((33 : Int32)).toInt64.toUInt64 &&& Int64.toUInt64 63)).toInt64 / n.toInt64 * n.toInt64)).toInt32)
theorem stp_26 : st_ok_26 Rel := by
  intro x s ⟨A, hok, hc, hr⟩
  have h40 := all_40 hok.1
  have hc1 := rk_all hc.2.1
  have hR : ∀ s, rfA A s → ∃ s', f_X12_goesAll s = some s' ∧ rI s' 58 15 = nI (allA A.1).length := by
    intro s hr
    obtain ⟨s', e, hl, hx⟩ := f_goesAll hok.1 hr.1
    exact ⟨s', e, hl.1⟩
  have e0 : (0 : Int32).toNatClampNeg = 0 := by decide
  by_cases q : (allA A.1).length = 0
  · refine st_q (f1 := f_X11_drawn x) (f2 := f_X12_drawn x) (-1) hok hc hr (fun hc => ⟨(-1, s), ?_, rfl⟩) (lo_X11_drawn x) (cF_X11_drawn x) (fun s1 hr1 => ?_) (hi_X12_drawn x) (rF_X12_drawn x)
    · unfold f_X11_drawn f_X5_all
      rw [Option.bind_some, e0, hc1, q, if_neg (show ¬ (0 : Int32) < nI 0 by decide)]
    · obtain ⟨s', e, h⟩ := hR s1 hr1
      refine ⟨(-1, s'), ?_, rfl⟩
      unfold f_X12_drawn
      rw [bnd e, h, q, if_pos (show nI 0 = 0 from rfl)]
  · have hn : ¬ (nI (allA A.1).length).toInt64 = 0 := by
      rw [nI_64 (by omega), show (0 : Int64) = jJ 0 by decide, jJ_eq_F (by omega) (by omega) (by omega) (by omega) (by omega)]
      exact fun z => z
    refine st_q (f1 := f_X11_drawn x) (f2 := f_X12_drawn x) (drw x (nI (allA A.1).length)) hok hc hr (fun hc => ⟨(drw x (nI (allA A.1).length), s), ?_, rfl⟩) (lo_X11_drawn x) (cF_X11_drawn x) (fun s1 hr1 => ?_) (hi_X12_drawn x) (rF_X12_drawn x)
    · unfold f_X11_drawn f_X5_all
      rw [Option.bind_some, e0, hc1, if_pos (show (0 : Int32) < nI (allA A.1).length from nI_lt (a := 0) (by omega) (by omega)), if_pos hn]; rfl
    · obtain ⟨s', e, h⟩ := hR s1 hr1
      refine ⟨(drw x (nI (allA A.1).length), s'), ?_, rfl⟩
      unfold f_X12_drawn
      rw [bnd e, h, if_neg (show ¬ nI (allA A.1).length = 0 from nI_ne0 (by omega) (by omega)), if_pos hn]; rfl
