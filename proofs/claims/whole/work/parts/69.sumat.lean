/-! THE SUM OF THE K-TH, by ever narrower parts -/
theorem j_shr {v : Int} (h1 : -9223372036854775808 ≤ v) (h2 : v ≤ 9223372036854775807) {d : Nat} (hd : d < 32) : jJ v >>> ((nI d).toInt64 &&& 63) = jJ (v / 2 ^ d) := by
  have hs : ∀ d, d < 32 → (((nI d).toInt64 &&& 63).toBitVec.smod 64).toNat = d := by decide
  have hp : (0 : Int) < 2 ^ d := Int.pow_pos (by omega)
  have q1 : -9223372036854775808 ≤ v / 2 ^ d := by
    rcases Int.lt_or_le v 0 with h | h
    · have : v ≤ v / 2 ^ d := by
        apply Int.le_ediv_of_mul_le hp
        have := Int.mul_le_mul_of_nonpos_left (a := v) (by omega) (show (1 : Int) ≤ 2 ^ d by omega)
        omega
      omega
    · have := Int.ediv_nonneg h (by omega : (0 : Int) ≤ 2 ^ d)
      omega
  have q2 : v / 2 ^ d ≤ 9223372036854775807 := by
    rcases Int.lt_or_le v 0 with h | h
    · have := Int.ediv_neg_of_neg_of_pos h hp
      omega
    · have := Int.ediv_le_self (2 ^ d) h
      omega
  apply Int64.toInt_inj.mp
  rw [jJ_toInt q1 q2]
  show ((jJ v).toBitVec.sshiftRight (((nI d).toInt64 &&& 63).toBitVec.smod 64).toNat).toInt = _
  rw [hs d hd, BitVec.toInt_sshiftRight]
  show (jJ v).toInt >>> d = _
  rw [jJ_toInt h1 h2, Int.shiftRight_eq_div_pow]
  rfl
theorem j_shl {q d : Nat} (hq : q < 64) (hd : d ≤ 12) : (nI q).toInt64 <<< ((nI d).toInt64 &&& 63) = jJ ((q : Int) * 2 ^ d) := by
  have : ∀ q, q < 64 → ∀ d, d ≤ 12 → (nI q).toInt64 <<< ((nI d).toInt64 &&& 63) = jJ ((q : Int) * 2 ^ d) := by decide +kernel
  exact this q hq d hd
/-- how many lie from a up to b -/
def cI (a b : Int) (M : List Int) : Nat := M.countP (fun v => decide (a ≤ v) && decide (v < b))
theorem cI_app (a b : Int) (M N : List Int) : cI a b (M ++ N) = cI a b M + cI a b N := List.countP_append
theorem cI_0 {a b : Int} {M : List Int} (h : ∀ v, v ∈ M → v < a ∨ b ≤ v) : cI a b M = 0 := by
  unfold cI
  rw [List.countP_eq_zero]
  intro v hv
  have := h v hv
  simp; omega
theorem cI_all {a b : Int} {M : List Int} (h : ∀ v, v ∈ M → a ≤ v ∧ v < b) : cI a b M = M.length := by
  unfold cI
  rw [List.countP_eq_length]
  intro v hv
  have := h v hv
  simp; omega
theorem cI_add {a b c : Int} (h1 : a ≤ b) (h2 : b ≤ c) : ∀ M : List Int, cI a c M = cI a b M + cI b c M
  | [] => rfl
  | v :: M => by
    have ih := cI_add h1 h2 M
    unfold cI at ih ⊢
    rw [List.countP_cons, List.countP_cons, List.countP_cons, ih]
    by_cases c1 : v < a
    · have e1 : (decide (a ≤ v) && decide (v < c)) = false := by simp; omega
      have e2 : (decide (a ≤ v) && decide (v < b)) = false := by simp; omega
      have e3 : (decide (b ≤ v) && decide (v < c)) = false := by simp; omega
      rw [e1, e2, e3]; simp
    · by_cases c2 : v < b
      · have e1 : (decide (a ≤ v) && decide (v < c)) = true := by simp; omega
        have e2 : (decide (a ≤ v) && decide (v < b)) = true := by simp; omega
        have e3 : (decide (b ≤ v) && decide (v < c)) = false := by simp; omega
        rw [e1, e2, e3]; simp; omega
      · by_cases c3 : v < c
        · have e1 : (decide (a ≤ v) && decide (v < c)) = true := by simp; omega
          have e2 : (decide (a ≤ v) && decide (v < b)) = false := by simp; omega
          have e3 : (decide (b ≤ v) && decide (v < c)) = true := by simp; omega
          rw [e1, e2, e3]; simp; omega
        · have e1 : (decide (a ≤ v) && decide (v < c)) = false := by simp; omega
          have e2 : (decide (a ≤ v) && decide (v < b)) = false := by simp; omega
          have e3 : (decide (b ≤ v) && decide (v < c)) = false := by simp; omega
          rw [e1, e2, e3]; simp
theorem cI_len (a b : Int) (M : List Int) : cI a b M ≤ M.length := List.countP_le_length
def spD : sx_D := (fun o k => o = 9 ∧ (k = 11 ∨ k = 12), fun _ _ => False, fun o => o = 12, fun _ => False)
/-- what is counted into the parts so far; P is a part's width -/
def spI (sh skip : Nat) (P : Int) (s0 : sx_M) (top : Nat) (M : List Int) (s : sx_M) : Prop := top ≤ 63 ∧ rI s 9 9 = nI sh ∧ rI s 9 10 = nI skip ∧ rI s 9 11 = nI top ∧ rI s 9 12 = nI (cI 0 ((top + 1) * P) M) ∧ (∀ i : Nat, i ≤ top → rA s 12 i = nI (cI (i * P) ((i + 1) * P) M)) ∧ (top < 63 → skip < cI 0 ((top + 1) * P) M) ∧ sx_eq spD s0 s
theorem sp_skip {sh skip top : Nat} {P : Int} {s0 s : sx_M} {M C : List Int} (hP : 0 < P) (h : spI sh skip P s0 top M s) (hC : ∀ v, v ∈ C → v < 0 ∨ (top + 1) * P ≤ v) : spI sh skip P s0 top (M ++ C) s := by
  obtain ⟨a1, a2, a3, a4, a5, a6, a7, a8⟩ := h
  have e0 : cI 0 ((top + 1) * P) C = 0 := cI_0 hC
  refine ⟨a1, a2, a3, a4, ?_, fun i hi => ?_, fun ht => ?_, a8⟩
  · rw [cI_app, e0, Nat.add_zero]; exact a5
  · have hle : ((i : Int) + 1) * P ≤ ((top : Int) + 1) * P := Int.mul_le_mul_of_nonneg_right (by omega) (by omega)
    have hi0 : 0 ≤ (i : Int) * P := Int.mul_nonneg (by omega) (by omega)
    have : cI (i * P) ((i + 1) * P) C = 0 := cI_0 (fun v hv => by have := hC v hv; omega)
    rw [cI_app, this, Nat.add_zero]; exact a6 i hi
  · rw [cI_app, e0, Nat.add_zero]; exact a7 ht
theorem sp_add {sh skip top i : Nat} {P : Int} {s0 s : sx_M} {M C : List Int} (hP : 0 < P) (h : spI sh skip P s0 top M s) (hi : i ≤ top) (hM : (M ++ C).length ≤ 40320) (hsk : skip < 100000) (hC : ∀ v, v ∈ C → i * P ≤ v ∧ v < (i + 1) * P) : Ev (f_X4_addToPart (nI i) (nI C.length) s) (fun s' => ∃ top', spI sh skip P s0 top' (M ++ C) s') := by
  obtain ⟨a1, a2, a3, a4, a5, a6, a7, a8⟩ := h
  have hi0 : 0 ≤ (i : Int) * P := Int.mul_nonneg (by omega) (by omega)
  have hle : ((i : Int) + 1) * P ≤ ((top : Int) + 1) * P := Int.mul_le_mul_of_nonneg_right (by omega) (by omega)
  have e0 : cI 0 ((top + 1) * P) C = C.length := cI_all (fun v hv => by have := hC v hv; omega)
  have hin : ¬ (nI i < 0 ∨ 64 ≤ (nI i).toNatClampNeg) := by
    rw [nI_cl (by omega)]
    exact fun q => q.elim (nI_pos (by omega)) (by omega)
  -- behind the two writes all but the last bound holds
  let s1 := wI (wA s 12 i (nI (cI (i * P) ((i + 1) * P) (M ++ C)))) 9 12 (nI (cI 0 ((top + 1) * P) (M ++ C)))
  have hp0 : rA s 12 i + nI C.length = nI (cI (i * P) ((i + 1) * P) (M ++ C)) := by
    rw [a6 i hi, nI_add, cI_app, cI_all hC]
  have hs1 : spI sh skip P s0 top (M ++ C) s1 := by
    refine ⟨a1, a2, a3, a4, rI_T ⟨rfl, rfl⟩, fun k hk => ?_, fun ht => ?_, sx_wI' (sx_wA' a8 rfl) ⟨rfl, Or.inr rfl⟩⟩
    · show rA (wA s 12 i _) 12 k = _
      by_cases q : k = i
      · rw [q, rA_T ⟨rfl, rfl⟩]
      · rw [rA_F (by omega), a6 k hk, cI_app]
        have : cI (k * P) ((k + 1) * P) C = 0 := cI_0 (fun v hv => by
          have h1 := hC v hv
          rcases Nat.lt_or_gt_of_ne q with z | z
          · have := Int.mul_le_mul_of_nonneg_right (show ((k : Int) + 1) ≤ i by omega) (show 0 ≤ P by omega)
            omega
          · have := Int.mul_le_mul_of_nonneg_right (show ((i : Int) + 1) ≤ k by omega) (show 0 ≤ P by omega)
            omega)
        rw [this, Nat.add_zero]
    · have := a7 ht
      rw [cI_app]; omega
  have hloop : ∀ t (s2 : sx_M), spI sh skip P s0 t (M ++ C) s2 → Ev (whT f_X4_addToPart_L31 s2) (fun s' => ∃ top', spI sh skip P s0 top' (M ++ C) s') := by
    intro t
    induction t with
    | zero =>
      intro s2 h2
      obtain ⟨b1, b2, b3, b4, b5, b6, b7, b8⟩ := h2
      refine ⟨s2, ?_, 0, b1, b2, b3, b4, b5, b6, b7, b8⟩
      rw [whT_eq]
      simp only [f_X4_addToPart_L31, b4]
      rw [if_pos (show nI 0 ≤ 0 by decide)]; rfl
    | succ t ih =>
      intro s2 h2
      have h2' := h2
      obtain ⟨b1, b2, b3, b4, b5, b6, b7, b8⟩ := h2
      have hint : ¬ (nI (t + 1) < 0 ∨ 64 ≤ (nI (t + 1)).toNatClampNeg) := by
        rw [nI_cl (by omega)]
        exact fun q => q.elim (nI_pos (by omega)) (by omega)
      have hb6 := b6 (t + 1) (Nat.le_refl _)
      have hsplit : cI 0 (((t + 1 : Nat) : Int) * P + P) (M ++ C) = cI 0 (((t + 1 : Nat) : Int) * P) (M ++ C) + cI (((t + 1 : Nat) : Int) * P) (((t + 1 : Nat) : Int) * P + P) (M ++ C) := cI_add (Int.mul_nonneg (by omega) (by omega)) (by omega) _
      have hw : (((t + 1 : Nat) : Int) + 1) * P = ((t + 1 : Nat) : Int) * P + P := by rw [Int.add_mul]; omega
      rw [hw] at b5 hb6
      have hlen := cI_len 0 (((t + 1 : Nat) : Int) * P + P) (M ++ C)
      have hsub : nI (cI 0 (((t + 1 : Nat) : Int) * P + P) (M ++ C)) - nI (cI (((t + 1 : Nat) : Int) * P) (((t + 1 : Nat) : Int) * P + P) (M ++ C)) = nI (cI 0 (((t + 1 : Nat) : Int) * P) (M ++ C)) := by
        rw [nI_sb (by omega)]; congr 1; omega
      rw [whT_eq]
      simp only [f_X4_addToPart_L31, b4, b5, b3]
      rw [if_neg (show ¬ nI (t + 1) ≤ 0 from nI_nle (by omega) (by omega)), if_pos hint, nI_cl (by omega), hb6, hsub]
      by_cases q : cI 0 (((t + 1 : Nat) : Int) * P) (M ++ C) ≤ skip
      · rw [if_pos (nI_le q (by omega))]
        exact ⟨s2, rfl, t + 1, h2'⟩
      · rw [if_neg (nI_ge (by omega) (by omega))]
        rw [nI_cl (by omega)] at hint
        rw [if_pos hint]
        show Ev (whT f_X4_addToPart_L31 _) _
        have hpc : (((t + 1 : Nat) : Int)) = (t : Int) + 1 := by omega
        refine ih _ ⟨by omega, ?_, ?_, ?_, ?_, fun k hk => ?_, fun _ => ?_, sx_wI' (sx_wI' b8 ⟨rfl, Or.inr rfl⟩) ⟨rfl, Or.inl rfl⟩⟩
        · simp (disch := omega) only [↓reduceIte, nI_lit, nI_add, pk_mul, nI_lt_T, nI_lt_F, nI_le_T, nI_le_F, nI_eq_T, nI_eq_F, nI_cl, le_F, le_T, nI_m_F, m_nI_F, nI_dn, m_lt, Option.bind_some, if_true, if_false, not_false_eq_true, not_true_eq_false, or_self, or_false, false_or, true_or, or_true, true_and, and_true, false_and, and_false, rA_T, rA_F, rB_T, rB_F, rI_T, rI_F, rJ_T, rJ_F, rA_wI, rA_wJ, rA_wB, rB_wI, rB_wJ, rB_wA, rI_wJ, rI_wA, rI_wB, rJ_wI, rJ_wA, rJ_wB]; exact b2
        · simp (disch := omega) only [↓reduceIte, nI_lit, nI_add, pk_mul, nI_lt_T, nI_lt_F, nI_le_T, nI_le_F, nI_eq_T, nI_eq_F, nI_cl, le_F, le_T, nI_m_F, m_nI_F, nI_dn, m_lt, Option.bind_some, if_true, if_false, not_false_eq_true, not_true_eq_false, or_self, or_false, false_or, true_or, or_true, true_and, and_true, false_and, and_false, rA_T, rA_F, rB_T, rB_F, rI_T, rI_F, rJ_T, rJ_F, rA_wI, rA_wJ, rA_wB, rB_wI, rB_wJ, rB_wA, rI_wJ, rI_wA, rI_wB, rJ_wI, rJ_wA, rJ_wB]; exact b3
        · rw [rI_T ⟨rfl, rfl⟩, rI_F (by omega), b4]; exact nI_pred _
        · rw [rI_F (by omega), rI_T ⟨rfl, rfl⟩, hpc]
        · exact b6 k (by omega)
        · rw [← hpc]; omega
  obtain ⟨s', e, hs'⟩ := hloop top s1 hs1
  refine ⟨s', ?_, hs'⟩
  unfold f_X4_addToPart
  rw [if_neg (nI_pos (by omega)), if_pos (show nI i < 64 from nI_lt (b := 64) (by omega) (by omega)), if_pos hin, if_pos hin, nI_cl (by omega), hp0]
  have e12 : rI (wA s 12 i (nI (cI (i * P) ((i + 1) * P) (M ++ C)))) 9 12 + nI C.length = nI (cI 0 ((top + 1) * P) (M ++ C)) := by
    rw [rI_wA, a5, nI_add, cI_app, e0]
  rw [e12]
  exact bnd e _
theorem sp_grid {sh skip top : Nat} {P : Int} {s0 s : sx_M} {M : List Int} {T : tb} (h : spI sh skip P s0 top M s) (hg : gridIs 3 T s0) (hr : ranksIs 3 T s0) : gridIs 3 T s ∧ ranksIs 3 T s := by
  have hx := h.2.2.2.2.2.2.2
  exact ⟨grid_eq hx (by simp only [spD]; omega) (by simp only [spD]; omega) (fun z => z) hg, ranks_eq hx (by simp only [spD]; omega) (fun z => z) (fun z => z) hr⟩
theorem f_spread {T : tb} {s0 : sx_M} {sh skip : Nat} {P : Int} (hT : tb_ok T) (hg0 : gridIs 3 T s0) (hr0 : ranksIs 3 T s0) (hsh : sh ≤ 12) (hP : P = 2 ^ sh) (hsk : skip < 100000) : ∀ (f n S : Nat) (a : Int) (M : List Int) (s : sx_M) (top : Nat), S < 2 ^ T.2.1 → pcn S + n + 1 = T.1 → n < f → -(1000000 + 10000 * (pcn S : Int)) ≤ a → a ≤ 1000000 + 10000 * (pcn S : Int) → (M ++ (ex T.2.2 (n + 1) (pcn S) S).map (fun p => a + p.2)).length ≤ 40320 → spI sh skip P s0 top M s → Ev (fr_X4_spread f (nI S) (nI (pcn S)) (jJ a) s) (fun s' => ∃ top', spI sh skip P s0 top' (M ++ (ex T.2.2 (n + 1) (pcn S) S).map (fun p => a + p.2)) s')
  | 0, n, S, a, M, s, top, _, _, h, _, _, _, _ => by omega
  | f + 1, n, S, a, M, s, top, hS, hn, hf, ha1, ha2, hlen, hsp => by
    have h7 := hT.1
    have h8 := hT.2.1
    have hS2 : S < 256 := pw_256 h8 hS
    have hw := tb_ok_wk hT
    have hPp : 0 < P := by rw [hP]; exact Int.pow_pos (by omega)
    rw [ex_J (fun j hj => hT.2.2.2 (pcn S) j (by omega)) h8] at hlen ⊢
    have hL : Ev (whT (f_X4_spread_L9 (fr_X4_spread f) (nI S) (nI (pcn S)) (jJ a)) (0, s)) (fun s' => ∃ top', spI sh skip P s0 top' (M ++ (exT T.2.2 n (pcn S) S T.2.1).map (fun p => a + p.2)) s') := by
      refine ev_f (fun k b => b.1 = nI k ∧ ∃ top', spI sh skip P s0 top' (M ++ (exT T.2.2 n (pcn S) S k).map (fun p => a + p.2)) b.2) T.2.1 ?_ ?_ (i := 0) (by omega) ⟨rfl, top, by rw [exT_0, List.map_nil, List.append_nil]; exact hsp⟩
      · rintro k ⟨b1, s1⟩ hk ⟨eb, top1, hsp1⟩
        simp only at eb hsp1
        subst eb
        obtain ⟨hg, hr⟩ := sp_grid hsp1 hg0 hr0
        have hat := at_F h7 h8 hg (w := pcn S) (j := k) (by omega) hk
        have hlk : (M ++ (exT T.2.2 n (pcn S) S (k + 1)).map (fun p => a + p.2)).length ≤ 40320 := by
          have := exT_len T.2.2 n (pcn S) S (k + 1) T.2.1 (by omega)
          rw [List.length_append, List.length_map] at hlen ⊢
          omega
        simp only [f_X4_spread_L9, hg.1, hg.2.1]
        rw [if_neg (nI_ge (by omega) (by omega)), if_neg (nI_ge hk (by omega)), bnd hat, nI_bit (by omega), nI_or, nI_1]
        rw [exT_s, List.map_append, ← List.append_assoc] at hlk
        have same : br T.2.2 (ex T.2.2 n (pcn S + 1)) (pcn S) S k = [] → Ev (some (Sum.inl (nI (k + 1), s1)) : Option ((Int32 × sx_M) ⊕ sx_M)) (Sum.elim (fun b => b.1 = nI (k + 1) ∧ ∃ top', spI sh skip P s0 top' (M ++ (exT T.2.2 n (pcn S) S (k + 1)).map (fun p => a + p.2)) b.2) (fun s' => ∃ top', spI sh skip P s0 top' (M ++ (exT T.2.2 n (pcn S) S T.2.1).map (fun p => a + p.2)) s')) := by
          intro h0
          refine ⟨_, rfl, rfl, top1, ?_⟩
          rw [exT_s, h0, List.append_nil]; exact hsp1
        cases hb : S.testBit k with
        | true => rw [if_pos (by rw [(or_bit S k).mpr hb])]; exact same (br_in hb)
        | false =>
          have hne : S ||| 2 ^ k ≠ S := fun q => by rw [(or_bit S k).mp q] at hb; cases hb
          have hlt : S ||| 2 ^ k < 256 := or_256 hS2 (by omega)
          have hp := pcn_or hS2 (show k < 8 by omega) hb
          rw [if_neg (of_eq_false (nI_eq_F hne (by omega) (by omega)))]
          cases hc : T.2.2 (pcn S) k with
          | none => rw [if_pos c64_n]; exact same (br_none hc)
          | some x =>
            have hx := hT.2.2.1 _ _ x hc
            have hin : ¬ (nI (S ||| 2 ^ k) < 0 ∨ 256 ≤ (nI (S ||| 2 ^ k)).toNatClampNeg) := by
              rw [nI_cl (by omega)]
              exact fun q => q.elim (nI_pos (by omega)) (by omega)
            have hin' : ¬ (nI (S ||| 2 ^ k) < 0 ∨ 256 ≤ S ||| 2 ^ k) := fun q => q.elim (nI_pos (by omega)) (by omega)
            have hrk : rA s1 6 (S ||| 2 ^ k) = nI (exS T (S ||| 2 ^ k)).length := (rk_at hr (or_lt hS hk) (by omega)).1
            have eL := exS_then hn hS2 (show k < 8 by omega) hb
            have hl2 := ex_40 T.2.2 (n := n) (w := pcn S + 1) hlt (by omega)
            have ebr := br_some (rec := ex T.2.2 n (pcn S + 1)) hc hb
            rw [c64_s, if_neg (of_eq_false (jnv (by omega) (by omega))), if_pos hin]
            by_cases h0 : (exS T (S ||| 2 ^ k)).length = 0
            · rw [nI_cl (by omega), hrk, h0, if_pos (show nI 0 = 0 from rfl)]
              rw [eL] at h0
              exact same (by rw [ebr, List.eq_nil_of_length_eq_zero h0]; rfl)
            · obtain ⟨lo, hi, hlo, hhi, e4, e5, hlh, bl, bh⟩ := rk_lh hw hr (or_lt hS hk) (by omega) h0
              have e4 : rB s1 7 (S ||| 2 ^ k) = jJ lo := e4
              have e5 : rB s1 8 (S ||| 2 ^ k) = jJ hi := e5
              obtain ⟨b1', b2, b3, b4, b5, b6, b7, b8⟩ := hsp1
              have hsp1 : spI sh skip P s0 top1 (M ++ (exT T.2.2 n (pcn S) S k).map (fun p => a + p.2)) s1 := ⟨b1', b2, b3, b4, b5, b6, b7, b8⟩
              rw [nI_cl (by omega), hrk, if_neg (nI_ne0 (by omega) (by rw [eL]; omega)), if_pos hin', if_pos hin', e4, e5, b2, b4, jJ_add, jJ_add, jJ_add, if_pos hin']
              rw [eL] at hlo hhi h0 ⊢
              have hmin := (lowL_some.mp hlo).2
              have hmax := (higL_some.mp hhi).2
              -- the chunk that goes on from there
              have eC : (br T.2.2 (ex T.2.2 n (pcn S + 1)) (pcn S) S k).map (fun p => a + p.2) = (ex T.2.2 n (pcn S + 1) (S ||| 2 ^ k)).map (fun p => (a + x) + p.2) := by
                rw [ebr]
                unfold bx
                rw [List.map_map]
                apply List.map_congr_left
                intro p _
                show a + (x + p.2) = a + x + p.2
                omega
              rw [eC] at hlk
              have hCb : ∀ v, v ∈ (ex T.2.2 n (pcn S + 1) (S ||| 2 ^ k)).map (fun p => (a + x) + p.2) → a + x + lo ≤ v ∧ v ≤ a + x + hi := by
                intro v hv
                obtain ⟨p, hp, rfl⟩ := List.mem_map.mp hv
                have := hmin p hp
                have := hmax p hp
                omega
              have done : ∀ {top2 s2}, spI sh skip P s0 top2 (M ++ (exT T.2.2 n (pcn S) S k).map (fun p => a + p.2) ++ (ex T.2.2 n (pcn S + 1) (S ||| 2 ^ k)).map (fun p => (a + x) + p.2)) s2 → Ev (some (Sum.inl (nI (k + 1), s2)) : Option ((Int32 × sx_M) ⊕ sx_M)) (Sum.elim (fun b => b.1 = nI (k + 1) ∧ ∃ top', spI sh skip P s0 top' (M ++ (exT T.2.2 n (pcn S) S (k + 1)).map (fun p => a + p.2)) b.2) (fun s' => ∃ top', spI sh skip P s0 top' (M ++ (exT T.2.2 n (pcn S) S T.2.1).map (fun p => a + p.2)) s')) := by
                intro top2 s2 h2
                refine ⟨_, rfl, rfl, top2, ?_⟩
                rw [exT_s, List.map_append, ← List.append_assoc, eC]; exact h2
              have lo_d : ∀ i : Int, (a + x + lo) / P = i → i * P ≤ a + x + lo ∧ a + x + lo < (i + 1) * P := by
                intro i hi
                have h1 := Int.ediv_mul_le (a + x + lo) (show P ≠ 0 by omega)
                have h2 := Int.lt_ediv_add_one_mul_self (a + x + lo) hPp
                rw [hi] at h1 h2
                exact ⟨h1, h2⟩
              have hi_d : ∀ i : Int, (a + x + hi) / P = i → i * P ≤ a + x + hi ∧ a + x + hi < (i + 1) * P := by
                intro i hi'
                have h1 := Int.ediv_mul_le (a + x + hi) (show P ≠ 0 by omega)
                have h2 := Int.lt_ediv_add_one_mul_self (a + x + hi) hPp
                rw [hi'] at h1 h2
                exact ⟨h1, h2⟩
              rw [show (0 : Int64) = jJ 0 by decide]
              by_cases q1 : a + x + hi < 0
              · rw [if_pos (of_eq_true (jJ_lt_T q1 (by omega) (by omega)))]
                exact done (sp_skip hPp hsp1 (fun v hv => by have := hCb v hv; omega))
              · rw [if_neg (of_eq_false (jJ_lt_F (by omega) (by omega) (by omega))), j_shr (by omega) (by omega) (by omega), j_shr (by omega) (by omega) (by omega), ← hP, nI_64 (by omega)]
                have d1 := lo_d _ rfl
                have d2 := hi_d _ rfl
                have hdl : -9000000000 ≤ (a + x + lo) / P ∧ (a + x + lo) / P ≤ 9000000000 := by
                  constructor
                  · apply Int.le_ediv_of_mul_le hPp
                    have : (1 : Int) ≤ P := by omega
                    have := Int.mul_le_mul_of_nonpos_left (a := -9000000000) (by omega) this
                    omega
                  · have : (a + x + lo) / P < 9000000001 := by
                      apply Int.ediv_lt_of_lt_mul hPp
                      have : (1 : Int) ≤ P := by omega
                      have := Int.mul_le_mul_of_nonneg_left (c := 9000000001) this (by omega)
                      omega
                    omega
                have hdh : 0 ≤ (a + x + hi) / P ∧ (a + x + hi) / P ≤ 9000000000 := by
                  constructor
                  · exact Int.ediv_nonneg (by omega) (by omega)
                  · have : (a + x + hi) / P < 9000000001 := by
                      apply Int.ediv_lt_of_lt_mul hPp
                      have : (1 : Int) ≤ P := by omega
                      have := Int.mul_le_mul_of_nonneg_left (c := 9000000001) this (by omega)
                      omega
                    omega
                have rec' : ¬ (0 ≤ a + x + lo ∧ (a + x + lo) / P = (a + x + hi) / P) → Ev (f_X4_spread_L9_J185 (fr_X4_spread f) (nI S) (nI (pcn S)) (jJ a) (nI k) (nI (S ||| 2 ^ k)) (jJ x) s1) (Sum.elim (fun b => b.1 = nI (k + 1) ∧ ∃ top', spI sh skip P s0 top' (M ++ (exT T.2.2 n (pcn S) S (k + 1)).map (fun p => a + p.2)) b.2) (fun s' => ∃ top', spI sh skip P s0 top' (M ++ (exT T.2.2 n (pcn S) S T.2.1).map (fun p => a + p.2)) s')) := by
                  intro hnot
                  cases n with
                  | zero =>
                    exfalso
                    have z1 : lo = 0 := (Option.some.inj (show some (0 : Int) = some lo from hlo)).symm
                    have z2 : hi = 0 := (Option.some.inj (show some (0 : Int) = some hi from hhi)).symm
                    subst z1 z2
                    exact hnot ⟨by omega, rfl⟩
                  | succ n =>
                    have hrec := f_spread hT hg0 hr0 hsh hP hsk f n (S ||| 2 ^ k) (a + x) (M ++ (exT T.2.2 (n + 1) (pcn S) S k).map (fun p => a + p.2)) s1 top1 (or_lt hS hk) (by omega) (by omega) (by rw [hp]; omega) (by rw [hp]; omega) (by rw [hp]; exact hlk) hsp1
                    rw [hp] at hrec
                    obtain ⟨s2, e2, top2, h2⟩ := hrec
                    unfold f_X4_spread_L9_J185
                    rw [nI_1, jJ_add, bnd e2, nI_1]
                    exact done h2
                by_cases q2 : (a + x + lo) / P ≤ (top1 : Int)
                · rw [if_pos (of_eq_true (jJ_le_T q2 (by omega) (by omega)))]
                  by_cases q3 : a + x + lo < 0
                  · rw [if_pos (of_eq_true (jJ_lt_T q3 (by omega) (by omega)))]
                    exact rec' (by omega)
                  · rw [if_neg (of_eq_false (jJ_lt_F (by omega) (by omega) (by omega)))]
                    by_cases q4 : (a + x + lo) / P = (a + x + hi) / P
                    · rw [q4, if_pos rfl]
                      rw [← q4, jJ_32]
                      obtain ⟨i, hi'⟩ : ∃ i : Nat, (a + x + lo) / P = i := ⟨((a + x + lo) / P).toNat, by have := Int.ediv_nonneg (show 0 ≤ a + x + lo by omega) (show 0 ≤ P by omega); omega⟩
                      have d1' := lo_d i hi'
                      have d2' := hi_d i (by rw [← q4]; exact hi')
                      have hlenC : ((ex T.2.2 n (pcn S + 1) (S ||| 2 ^ k)).map (fun p => (a + x) + p.2)).length = (ex T.2.2 n (pcn S + 1) (S ||| 2 ^ k)).length := List.length_map _
                      obtain ⟨s2, e2, top2, h2⟩ := sp_add (i := i) hPp hsp1 (by omega) hlk hsk (fun v hv => by have := hCb v hv; omega)
                      rw [hi', ← iI_n, ← hlenC, bnd e2]
                      exact done h2
                    · rw [if_neg (of_eq_false (jJ_eq_F q4 (by omega) (by omega) (by omega) (by omega)))]
                      exact rec' (fun z => q4 z.2)
                · rw [if_neg (of_eq_false (jJ_le_F (by omega) (by omega) (by omega)))]
                  refine done (sp_skip hPp hsp1 (fun v hv => ?_))
                  have := hCb v hv
                  have := Int.mul_le_mul_of_nonneg_right (show (top1 : Int) + 1 ≤ (a + x + lo) / P by omega) (show 0 ≤ P by omega)
                  omega
      · rintro ⟨b1, s1⟩ ⟨eb, top1, hsp1⟩
        simp only at eb hsp1
        subst eb
        obtain ⟨hg, hr⟩ := sp_grid hsp1 hg0 hr0
        refine ⟨.inr s1, ?_, top1, hsp1⟩
        simp only [f_X4_spread_L9, hg.1, hg.2.1]
        rw [if_neg (nI_ge (by omega) (by omega)), if_pos (nI_le (Nat.le_refl _) (by omega))]
    obtain ⟨s', e, hs'⟩ := hL
    refine ⟨s', ?_, hs'⟩
    show fb_X4_spread (fr_X4_spread f) (nI S) (nI (pcn S)) (jJ a) s = _
    unfold fb_X4_spread
    exact bnd e _
