theorem cod_snoc : ∀ (r : List Nat) (j : Nat), cod (r ++ [j]) = 8 * cod r + j
  | [], j => by simp [cod]
  | a :: r, j => by
    show a * 8 ^ (r ++ [j]).length + cod (r ++ [j]) = 8 * (a * 8 ^ r.length + cod r) + j
    rw [cod_snoc r j, List.length_append]
    show a * 8 ^ (r.length + 1) + (8 * cod r + j) = _
    rw [Nat.pow_succ, Nat.mul_add, ← Nat.mul_assoc, Nat.mul_comm 8 (a * 8 ^ r.length), Nat.mul_assoc]
    omega
/-- those that go on, behind a row -/
def pre (r : List Nat) (a : Int) (L : List asg) : List asg := L.map (fun q => (r ++ q.1, a + q.2))
theorem pre_bx (r : List Nat) (a x : Int) (j : Nat) (L : List asg) : pre r a (bx x j L) = pre (r ++ [j]) (a + x) L := by
  unfold pre bx
  rw [List.map_map]
  apply List.map_congr_left
  intro p _
  show (r ++ j :: p.1, a + (x + p.2)) = (r ++ [j] ++ p.1, a + x + p.2)
  rw [List.append_assoc, Int.add_assoc]; rfl
theorem sl_mono (v : Int) (R : Nat) (M N : List asg) : (sl v R M).length ≤ (sl v R (M ++ N)).length := by
  rw [sl_app, List.length_append]; omega
theorem sl_nil {v : Int} {R : Nat} {C : List asg} (h : ∀ q, q ∈ C → v < q.2 ∨ (v ≤ q.2 ∧ R = 0)) : sl v R C = [] := by
  induction C with
  | nil => exact sl_n v R
  | cons a C ih =>
    have h1 := h a (List.mem_cons_self ..)
    rw [sl_3 (by omega) (by omega)]
    exact ih (fun q hq => h q (List.mem_cons_of_mem _ hq))
theorem nE_0 {v : Int} {C : List asg} (h : ∀ q, q ∈ C → v < q.2) : nE v C = 0 := by
  unfold nE
  rw [List.countP_eq_zero]
  intro q hq
  have := h q hq
  simp; omega
theorem co_skip {v : Int} {R : Nat} {s0 s : sx_M} {M C : List asg} (h : coI v R s0 M s) (hC : (∀ q, q ∈ C → v < q.2) ∨ ((∀ q, q ∈ C → v ≤ q.2) ∧ R ≤ nE v M)) : coI v R s0 (M ++ C) s := by
  obtain ⟨a1, a2, a3, a4, a5⟩ := h
  have e1 : sl v R (M ++ C) = sl v R M := by
    rw [sl_app, sl_nil (C := C), List.append_nil]
    intro q hq
    rcases hC with h | ⟨h, h2⟩
    · exact Or.inl (h q hq)
    · exact Or.inr ⟨h q hq, by omega⟩
  have e2 : R - nE v (M ++ C) = R - nE v M := by
    rw [nE_app]
    rcases hC with h | ⟨h, h2⟩
    · rw [nE_0 h]; rfl
    · omega
  exact ⟨a1, by rw [e2]; exact a2, by rw [e1]; exact a3, by rw [e1]; exact a4, a5⟩
theorem co_grid {v : Int} {R : Nat} {s0 s : sx_M} {M : List asg} {T : tb} (h : coI v R s0 M s) (hg : gridIs 3 T s0) (hr : ranksIs 3 T s0) : gridIs 3 T s ∧ ranksIs 3 T s := by
  have hx := h.2.2.2.2
  exact ⟨grid_eq hx (by simp only [coD]; omega) (by simp only [coD]; omega) (by simp only [coD]; omega) hg, ranks_eq hx (by simp only [coD]; omega) (by simp only [coD]; omega) (by simp only [coD]; omega) hr⟩
theorem f_collect {T : tb} {s0 : sx_M} {v : Int} {R : Nat} (hT : tb_ok T) (hg0 : gridIs 3 T s0) (hr0 : ranksIs 3 T s0) (hv : -1000000 ≤ v ∧ v ≤ 1000000) (hR : R < 1000) : ∀ (f n S : Nat) (a : Int) (r : List Nat) (M : List asg) (s : sx_M), S < 2 ^ T.2.1 → pcn S + n = T.1 → n < f → r.length = pcn S → (∀ j, j ∈ r → j < 8) → -(10000 * (pcn S : Int)) ≤ a → a ≤ 10000 * (pcn S : Int) → (∀ q, q ∈ M → -1000000 ≤ q.2 ∧ q.2 ≤ 1000000) → (sl v R (M ++ pre r a (ex T.2.2 n (pcn S) S))).length ≤ 200 → (n = 0 → a < v ∨ (a = v ∧ nE v M < R)) → coI v R s0 M s → Ev (fr_X4_collect f (nI S) (nI (pcn S)) (jJ a) (nI (cod r)) s) (fun s' => coI v R s0 (M ++ pre r a (ex T.2.2 n (pcn S) S)) s')
  | 0, n, S, a, r, M, s, _, _, h, _, _, _, _, _, _, _, _ => by omega
  | f + 1, 0, S, a, r, M, s, hS, hn, hf, hrl, hr8, ha1, ha2, hM, hsz, hsel, hco => by
    have h7 := hT.1
    obtain ⟨hg, hr⟩ := co_grid hco hg0 hr0
    have epre : pre r a (ex T.2.2 0 (pcn S) S) = [(r, a)] := by
      show [(r ++ [], a + 0)] = _
      rw [List.append_nil, Int.add_zero]
    rw [epre] at hsz ⊢
    have hsel := hsel rfl
    have hsl : (sl v R (M ++ [(r, a)])).length = (sl v R M).length + 1 := by
      rw [sl_app, List.length_append]
      congr 1
      rcases hsel with c | ⟨c1, c2⟩
      · rw [sl_1 (p := (r, a)) c, sl_n]; rfl
      · rw [sl_2 (p := (r, a)) c1 (by omega), sl_n]; rfl
    obtain ⟨s', e, hs'⟩ := f_add (p := (r, a)) hco hv (show -1000000 ≤ a ∧ a ≤ 1000000 by omega) hM hsel hR (by omega)
    refine ⟨s', ?_, hs'⟩
    show fb_X4_collect (fr_X4_collect f) (nI S) (nI (pcn S)) (jJ a) (nI (cod r)) s = _
    unfold fb_X4_collect
    rw [hg.1, if_neg (nI_nlt (by omega) (by omega))]
    exact bnd e _
  | f + 1, n + 1, S, a, r, M, s, hS, hn, hf, hrl, hr8, ha1, ha2, hM, hsz, hsel, hco => by
    have h7 := hT.1
    have h8 := hT.2.1
    have hS2 : S < 256 := pw_256 h8 hS
    have hw := tb_ok_wk hT
    have hcod : cod r < 8 ^ (pcn S) := by rw [← hrl]; exact cod_lt r hr8
    have hcod2 := le87 (a := pcn S) (by omega)
    rw [ex_J (fun j hj => hT.2.2.2 (pcn S) j (by omega)) h8] at hsz ⊢
    have hL : Ev (whT (f_X4_collect_L22 (fr_X4_collect f) (nI S) (nI (pcn S)) (jJ a) (nI (cod r))) (0, s)) (fun s' => coI v R s0 (M ++ pre r a (exT T.2.2 n (pcn S) S T.2.1)) s') := by
      refine ev_f (fun k b => b.1 = nI k ∧ coI v R s0 (M ++ pre r a (exT T.2.2 n (pcn S) S k)) b.2) T.2.1 ?_ ?_ (i := 0) (by omega) ⟨rfl, by rw [exT_0]; show coI v R s0 (M ++ []) s; rw [List.append_nil]; exact hco⟩
      · rintro k ⟨b1, s1⟩ hk ⟨eb, hco1⟩
        simp only at eb hco1
        subst eb
        obtain ⟨hg, hr⟩ := co_grid hco1 hg0 hr0
        have hat := at_F h7 h8 hg (w := pcn S) (j := k) (by omega) hk
        have hszk : (sl v R (M ++ pre r a (exT T.2.2 n (pcn S) S (k + 1)))).length ≤ 200 := by
          obtain ⟨N, hN⟩ := exT_split T.2.2 n (pcn S) S (k + 1) T.2.1 (by omega)
          rw [hN] at hsz
          have e : pre r a (exT T.2.2 n (pcn S) S (k + 1) ++ N) = pre r a (exT T.2.2 n (pcn S) S (k + 1)) ++ pre r a N := by unfold pre; rw [List.map_append]
          rw [e, ← List.append_assoc] at hsz
          exact Nat.le_trans (sl_mono v R _ _) hsz
        simp only [f_X4_collect_L22, hg.2.1]
        rw [if_neg (nI_ge hk (by omega)), bnd hat, nI_bit (by omega), nI_or, nI_1]
        have epre : pre r a (exT T.2.2 n (pcn S) S (k + 1)) = pre r a (exT T.2.2 n (pcn S) S k) ++ pre r a (br T.2.2 (ex T.2.2 n (pcn S + 1)) (pcn S) S k) := by
          rw [exT_s]; unfold pre; rw [List.map_append]
        rw [epre, ← List.append_assoc] at hszk
        have fin : ∀ {s2}, coI v R s0 (M ++ pre r a (exT T.2.2 n (pcn S) S k) ++ pre r a (br T.2.2 (ex T.2.2 n (pcn S + 1)) (pcn S) S k)) s2 → Ev (some (Sum.inl (nI (k + 1), s2)) : Option ((Int32 × sx_M) ⊕ sx_M)) (Sum.elim (fun b => b.1 = nI (k + 1) ∧ coI v R s0 (M ++ pre r a (exT T.2.2 n (pcn S) S (k + 1))) b.2) (fun s' => coI v R s0 (M ++ pre r a (exT T.2.2 n (pcn S) S T.2.1)) s')) := by
          intro s2 h2
          refine ⟨_, rfl, rfl, ?_⟩
          rw [epre, ← List.append_assoc]; exact h2
        have same : br T.2.2 (ex T.2.2 n (pcn S + 1)) (pcn S) S k = [] → Ev (some (Sum.inl (nI (k + 1), s1)) : Option ((Int32 × sx_M) ⊕ sx_M)) (Sum.elim (fun b => b.1 = nI (k + 1) ∧ coI v R s0 (M ++ pre r a (exT T.2.2 n (pcn S) S (k + 1))) b.2) (fun s' => coI v R s0 (M ++ pre r a (exT T.2.2 n (pcn S) S T.2.1)) s')) := by
          intro h0
          refine fin ?_
          rw [h0]
          show coI v R s0 (M ++ pre r a (exT T.2.2 n (pcn S) S k) ++ []) s1
          rw [List.append_nil]; exact hco1
        cases hb : S.testBit k with
        | true => rw [if_pos (by rw [(or_bit S k).mpr hb])]; exact same (br_in hb)
        | false =>
          have hne : S ||| 2 ^ k ≠ S := fun q => by rw [(or_bit S k).mp q] at hb; cases hb
          have hlt : S ||| 2 ^ k < 256 := or_256 hS2 (by omega)
          have hp := pcn_or hS2 (show k < 8 by omega) hb
          rw [if_neg (of_eq_false (nI_eq_F hne (by omega) (by omega)))]
          cases hc : T.2.2 (pcn S) k with
          | none => rw [if_pos c64_n]; exact same (br_none hc)
          | some x =>
            have hx := hT.2.2.1 _ _ x hc
            have hin : ¬ (nI (S ||| 2 ^ k) < 0 ∨ 256 ≤ (nI (S ||| 2 ^ k)).toNatClampNeg) := by
              rw [nI_cl (by omega)]
              exact fun q => q.elim (nI_pos (by omega)) (by omega)
            have hin' : ¬ (nI (S ||| 2 ^ k) < 0 ∨ 256 ≤ S ||| 2 ^ k) := fun q => q.elim (nI_pos (by omega)) (by omega)
            have hrk : rA s1 6 (S ||| 2 ^ k) = nI (exS T (S ||| 2 ^ k)).length := (rk_at hr (or_lt hS hk) (by omega)).1
            have hn' : pcn S + n + 1 = T.1 := by omega
            have eL := exS_then hn' hS2 (show k < 8 by omega) hb
            have hl2 := ex_40 T.2.2 (n := n) (w := pcn S + 1) hlt (by omega)
            have ebr := br_some (rec := ex T.2.2 n (pcn S + 1)) hc hb
            rw [c64_s, if_neg (of_eq_false (jnv (by omega) (by omega))), if_pos hin]
            by_cases h0 : (exS T (S ||| 2 ^ k)).length = 0
            · rw [nI_cl (by omega), hrk, h0, if_pos (show nI 0 ≤ 0 by decide)]
              rw [eL] at h0
              exact same (by rw [ebr, List.eq_nil_of_length_eq_zero h0]; rfl)
            · obtain ⟨lo, hi, hlo, hhi, e4, e5, hlh, bl, bh⟩ := rk_lh hw hr (or_lt hS hk) (by omega) h0
              have e4 : rB s1 7 (S ||| 2 ^ k) = jJ lo := e4
              rw [nI_cl (by omega), hrk, if_neg (nI_nle (by omega) (by rw [eL]; omega)), if_pos hin', e4, jJ_add, jJ_add]
              rw [eL] at hlo hhi h0
              have hmin := (lowL_some.mp hlo).2
              rw [ebr, pre_bx] at hszk fin
              have hM1 : ∀ q, q ∈ M ++ pre r a (exT T.2.2 n (pcn S) S k) → -1000000 ≤ q.2 ∧ q.2 ≤ 1000000 := by
                intro q hq
                rcases List.mem_append.mp hq with z | z
                · exact hM q z
                · obtain ⟨q', hq', rfl⟩ := List.mem_map.mp z
                  have := ex_bd (ok_cbd hT) (exT_mem (by omega) hq')
                  have h7' : (((n + 1 : Nat)) : Int) ≤ 7 := by omega
                  show -1000000 ≤ a + q'.2 ∧ a + q'.2 ≤ 1000000
                  omega
              have hCge : ∀ q, q ∈ pre (r ++ [k]) (a + x) (ex T.2.2 n (pcn S + 1) (S ||| 2 ^ k)) → a + x + lo ≤ q.2 := by
                intro q hq
                obtain ⟨q', hq', rfl⟩ := List.mem_map.mp hq
                have := hmin q' hq'
                show a + x + lo ≤ a + x + q'.2
                omega
              have hr1 := hco1.2.1
              have hr2 := hco1.1
              -- whether it belongs
              have hbel : f_X4_belongs (jJ (a + x + lo)) s1 = some (nI (if a + x + lo < v ∨ (a + x + lo = v ∧ nE v (M ++ pre r a (exT T.2.2 n (pcn S) S k)) < R) then 1 else 0), s1) := by
                unfold f_X4_belongs
                rw [hr1, hr2]
                by_cases c1 : a + x + lo < v
                · rw [if_pos (of_eq_true (jJ_lt_T c1 (by omega) (by omega))), if_pos (Or.inl c1)]; rfl
                · rw [if_neg (of_eq_false (jJ_lt_F (by omega) (by omega) (by omega)))]
                  by_cases c2 : a + x + lo = v
                  · rw [c2, if_pos rfl]
                    by_cases c3 : nE v (M ++ pre r a (exT T.2.2 n (pcn S) S k)) < R
                    · rw [if_neg (nI_nle (by omega) (by omega)), if_pos (Or.inr ⟨rfl, c3⟩)]; rfl
                    · rw [if_pos (show nI (R - nE v (M ++ pre r a (exT T.2.2 n (pcn S) S k))) ≤ 0 by rw [show R - nE v (M ++ pre r a (exT T.2.2 n (pcn S) S k)) = 0 by omega]; decide), if_neg (fun z => by omega)]; rfl
                  · rw [if_neg (of_eq_false (jJ_eq_F c2 (by omega) (by omega) (by omega) (by omega))), if_neg (fun z => by omega)]; rfl
              rw [bnd hbel]
              by_cases c : a + x + lo < v ∨ (a + x + lo = v ∧ nE v (M ++ pre r a (exT T.2.2 n (pcn S) S k)) < R)
              · rw [if_pos c, if_neg (show ¬ nI 1 = 0 from n1_0)]
                have hcode : nI (cod r) * (8 : Int32) + nI k = nI (cod (r ++ [k])) := by
                  rw [show (8 : Int32) = nI 8 from rfl, pk_mul, nI_add, cod_snoc, Nat.mul_comm]
                have hrec := f_collect hT hg0 hr0 hv hR f n (S ||| 2 ^ k) (a + x) (r ++ [k]) (M ++ pre r a (exT T.2.2 n (pcn S) S k)) s1 (or_lt hS hk) (by omega) (by omega) (by rw [List.length_append, hrl, hp]; rfl) (fun j hj => by
                  rcases List.mem_append.mp hj with z | z
                  · exact hr8 j z
                  · rw [List.mem_singleton.mp z]; omega) (by rw [hp]; omega) (by rw [hp]; omega) hM1 (by rw [hp]; exact hszk) (fun z => by
                  subst z
                  have z1 : lo = 0 := (Option.some.inj (show some (0 : Int) = some lo from hlo)).symm
                  rw [z1, Int.add_zero] at c
                  exact c) hco1
                rw [hp] at hrec
                obtain ⟨s2, e2, h2⟩ := hrec
                rw [nI_1, hcode, bnd e2]
                exact fin h2
              · rw [if_neg c, if_pos (show nI 0 = 0 from rfl)]
                refine fin (co_skip hco1 ?_)
                by_cases c1 : v < a + x + lo
                · exact Or.inl (fun q hq => by have := hCge q hq; omega)
                · exact Or.inr ⟨fun q hq => by have := hCge q hq; omega, by omega⟩
      · rintro ⟨b1, s1⟩ ⟨eb, hco1⟩
        simp only at eb hco1
        subst eb
        obtain ⟨hg, hr⟩ := co_grid hco1 hg0 hr0
        refine ⟨.inr s1, ?_, hco1⟩
        simp only [f_X4_collect_L22, hg.2.1]
        rw [if_pos (nI_le (Nat.le_refl _) (by omega))]
    obtain ⟨s', e, hs'⟩ := hL
    obtain ⟨hg, hr⟩ := co_grid hco hg0 hr0
    refine ⟨s', ?_, hs'⟩
    show fb_X4_collect (fr_X4_collect f) (nI S) (nI (pcn S)) (jJ a) (nI (cod r)) s = _
    unfold fb_X4_collect
    rw [hg.1, if_pos (nI_lt (by omega) (by omega))]
    exact bnd e _
/-- list: the first 200 by sum -/
theorem f_list {T : tb} {s : sx_M} (hT : tb_ok T) (hg : gridIs 3 T s) (hr : ranksIs 3 T s) (ho : orderIs T s) : Ev (f_X4_list s) (fun s' => rI s' 9 4 = 1 ∧ listIs T s') := by
  have h40 := all_40 hT
  have hlen := isort_len (allA T)
  unfold f_X4_list
  rcases ho with h0 | ⟨h1, hl⟩
  · rw [if_pos h0]
    have hx1 : sx_eq ((fun o k => o = 9, fun _ _ => False, fun _ => False, fun _ => False) : sx_D) s (wI (wI s 9 4 1) 9 5 0) := sx_wI' (sx_wI' (sx_rf _ _) rfl) rfl
    have hg1 : gridIs 3 T (wI (wI s 9 4 1) 9 5 0) := grid_eq hx1 (by simp only; omega) (by simp only; omega) (fun z => z) hg
    have hr1 : ranksIs 3 T (wI (wI s 9 4 1) 9 5 0) := ranks_eq hx1 (fun z => z) (fun z => z) (fun z => z) hr
    have hall : f_X5_all 3 (wI (wI s 9 4 1) 9 5 0) = some (nI (allA T).length, wI (wI s 9 4 1) 9 5 0) := by
      unfold f_X5_all
      rw [show (0 : Int32).toNatClampNeg = 0 by decide, rk_all hr1]
    have hmin : f_J9_min_7cf53 200 (nI (allA T).length) (wI (wI s 9 4 1) 9 5 0) = some (nI (min 200 (allA T).length), wI (wI s 9 4 1) 9 5 0) := by
      unfold f_J9_min_7cf53
      by_cases q : (allA T).length < 200
      · rw [if_pos (show nI (allA T).length < 200 from nI_lt (b := 200) q (by omega)), show min 200 (allA T).length = (allA T).length by omega]
      · rw [if_neg (show ¬ nI (allA T).length < 200 from nI_nlt (b := 200) (by omega) (by omega)), show min 200 (allA T).length = 200 by omega]; rfl
    rw [bnd hall, bnd hmin]
    by_cases hz : (allA T).length = 0
    · rw [hz, if_pos (show nI (min 200 0) ≤ 0 by decide)]
      refine ⟨_, rfl, ?_, ?_, fun i p hi => ?_⟩
      · simp (disch := omega) only [↓reduceIte, nI_lit, nI_add, pk_mul, nI_lt_T, nI_lt_F, nI_le_T, nI_le_F, nI_eq_T, nI_eq_F, nI_cl, le_F, le_T, nI_m_F, m_nI_F, nI_dn, m_lt, Option.bind_some, if_true, if_false, not_false_eq_true, not_true_eq_false, or_self, or_false, false_or, true_or, or_true, true_and, and_true, false_and, and_false, rA_T, rA_F, rB_T, rB_F, rI_T, rI_F, rJ_T, rJ_F, rA_wI, rA_wJ, rA_wB, rB_wI, rB_wJ, rB_wA, rI_wJ, rI_wA, rI_wB, rJ_wI, rJ_wA, rJ_wB]
      · unfold f200
        rw [List.length_take, hlen, hz]
        exact rI_T ⟨rfl, rfl⟩
      · unfold f200 at hi
        rw [List.eq_nil_of_length_eq_zero (show (isort (allA T)).length = 0 by omega)] at hi
        simp at hi
    · rw [if_neg (nI_nle (by omega) (by omega)), show nI (min 200 (allA T).length) - (1 : Int32) = nI (min 200 (allA T).length - 1) by rw [show (1 : Int32) = nI 1 from rfl, nI_sb (by omega)]]
      obtain ⟨p3, e3, v, hv, hv1, hv2, x3⟩ := f_sumAt hT hg1 hr1 (K := min 200 (allA T).length - 1) (by omega)
      have hbd := all_bd hT
      have hvb : -1000000 ≤ v ∧ v ≤ 1000000 := by
        have hb : ∀ p, p ∈ allA T → -69993 ≤ p.2 ∧ p.2 ≤ 69993 := by
          intro p hp
          have := ex_bd (ok_cbd hT) hp
          have h7 : (T.1 : Int) ≤ 7 := by have := hT.1; omega
          omega
        constructor
        · refine Decidable.byContradiction (fun z => ?_)
          have : nL (v + 1) (allA T) = 0 := by
            unfold nL
            rw [List.countP_eq_zero]
            intro p hp
            have := hb p hp
            simp; omega
          omega
        · refine Decidable.byContradiction (fun z => ?_)
          have : nL v (allA T) = (allA T).length := by
            unfold nL
            rw [List.countP_eq_length]
            intro p hp
            have := hb p hp
            simp; omega
          omega
      have hx2 : sx_eq soD (wI (wI s 9 4 1) 9 5 0) p3.2 := x3
      have hg3 : gridIs 3 T (wJ p3.2 9 6 (jJ v)) := grid_eq (D := ((fun o k => o = 9, fun o k => o = 9, fun o => o = 12, fun _ => False) : sx_D)) (sx_wJ' (sx_mono hx2 (fun o k q => by simp only [soD] at q ⊢; omega) (fun o k q => q.elim) (fun o q => q) (fun o q => q)) rfl) (by simp only; omega) (by simp only; omega) (fun z => z) hg1
      have hr3 : ranksIs 3 T (wJ p3.2 9 6 (jJ v)) := ranks_eq (D := ((fun o k => o = 9, fun o k => o = 9, fun o => o = 12, fun _ => False) : sx_D)) (sx_wJ' (sx_mono hx2 (fun o k q => by simp only [soD] at q ⊢; omega) (fun o k q => q.elim) (fun o q => q) (fun o q => q)) rfl) (by simp only; omega) (fun z => z) (fun z => z) hr1
      have hup := f_upTo (tb_ok_wk hT) hg3 hr3 (b := v - 1) (by omega)
      have hNv : cnB (-1000000000) (v - 1) (allA T) = nL v (allA T) := by
        unfold cnB nL
        apply List.countP_congr
        intro p hp
        have := hbd.2 p hp
        simp
        omega
      rw [hNv] at hup
      have hnE : nL (v + 1) (allA T) = nL v (allA T) + nE v (allA T) := by
        unfold nL nE
        generalize allA T = L
        induction L with
        | nil => rfl
        | cons p L ih =>
          rw [List.countP_cons, List.countP_cons, List.countP_cons, ih]
          by_cases c1 : p.2 < v
          · have a1 : decide (p.2 < v + 1) = true := by simp; omega
            have a2 : decide (p.2 < v) = true := by simp; omega
            have a3 : decide (p.2 = v) = false := by simp; omega
            rw [a1, a2, a3]; simp; omega
          · by_cases c2 : p.2 = v
            · have a1 : decide (p.2 < v + 1) = true := by simp; omega
              have a2 : decide (p.2 < v) = false := by simp; omega
              have a3 : decide (p.2 = v) = true := by simp; omega
              rw [a1, a2, a3]; simp; omega
            · have a1 : decide (p.2 < v + 1) = false := by simp; omega
              have a2 : decide (p.2 < v) = false := by simp; omega
              have a3 : decide (p.2 = v) = false := by simp; omega
              rw [a1, a2, a3]; simp
      have hco0 : coI v (min 200 (allA T).length - nL v (allA T)) (wI (wJ p3.2 9 6 (jJ v)) 9 7 (nI (min 200 (allA T).length - nL v (allA T)))) [] (wI (wJ p3.2 9 6 (jJ v)) 9 7 (nI (min 200 (allA T).length - nL v (allA T)))) := by
        refine ⟨?_, ?_, ?_, fun i p hi => ?_, sx_rf _ _⟩
        · simp (disch := omega) only [↓reduceIte, nI_lit, nI_add, pk_mul, nI_lt_T, nI_lt_F, nI_le_T, nI_le_F, nI_eq_T, nI_eq_F, nI_cl, le_F, le_T, nI_m_F, m_nI_F, nI_dn, m_lt, Option.bind_some, if_true, if_false, not_false_eq_true, not_true_eq_false, or_self, or_false, false_or, true_or, or_true, true_and, and_true, false_and, and_false, rA_T, rA_F, rB_T, rB_F, rI_T, rI_F, rJ_T, rJ_F, rA_wI, rA_wJ, rA_wB, rB_wI, rB_wJ, rB_wA, rI_wJ, rI_wA, rI_wB, rJ_wI, rJ_wA, rJ_wB]
        · rw [rI_T ⟨rfl, rfl⟩]; rfl
        · simp (disch := omega) only [↓reduceIte, nI_lit, nI_add, pk_mul, nI_lt_T, nI_lt_F, nI_le_T, nI_le_F, nI_eq_T, nI_eq_F, nI_cl, le_F, le_T, nI_m_F, m_nI_F, nI_dn, m_lt, Option.bind_some, if_true, if_false, not_false_eq_true, not_true_eq_false, or_self, or_false, false_or, true_or, or_true, true_and, and_true, false_and, and_false, rA_T, rA_F, rB_T, rB_F, rI_T, rI_F, rJ_T, rJ_F, rA_wI, rA_wJ, rA_wB, rB_wI, rB_wJ, rB_wA, rI_wJ, rI_wA, rI_wB, rJ_wI, rJ_wA, rJ_wB]
          rw [x3.1 9 5 (by simp only [soD]; omega), rI_T ⟨rfl, rfl⟩]
          rw [sl_n]; rfl
        · rw [sl_n] at hi
          simp [isort] at hi
      have hfirst := sl_first (v := v) (L := allA T) (R := min 200 (allA T).length - nL v (allA T)) (by omega)
      have hcnt : (allA T).countP (fun p => decide (p.2 < v)) = nL v (allA T) := rfl
      rw [hcnt, show nL v (allA T) + (min 200 (allA T).length - nL v (allA T)) = min 200 (allA T).length by omega] at hfirst
      have hf200 : f200 T = isort (sl v (min 200 (allA T).length - nL v (allA T)) (allA T)) := by
        rw [hfirst]
        unfold f200
        by_cases q : (allA T).length ≤ 200
        · rw [List.take_of_length_le (by omega), List.take_of_length_le (by omega)]
        · rw [show min 200 (allA T).length = 200 by omega]
      have hsll : (sl v (min 200 (allA T).length - nL v (allA T)) (allA T)).length ≤ 200 := by
        have := isort_len (sl v (min 200 (allA T).length - nL v (allA T)) (allA T))
        rw [← this, hfirst, List.length_take]
        omega
      have epre : pre [] 0 (allA T) = allA T := by
        unfold pre
        have : (fun q : asg => (([] : List Nat) ++ q.1, (0 : Int) + q.2)) = id := by
          funext q
          simp
        rw [this, List.map_id]
      have hx4 : sx_eq ((fun o k => o = 9, fun o k => o = 9, fun o => o = 12, fun _ => False) : sx_D) (wI (wI s 9 4 1) 9 5 0) (wI (wJ p3.2 9 6 (jJ v)) 9 7 (nI (min 200 (allA T).length - nL v (allA T)))) := sx_wI' (sx_wJ' (sx_mono hx2 (fun o k q => by simp only [soD] at q ⊢; omega) (fun o k q => q.elim) (fun o q => q) (fun o q => q)) rfl) rfl
      have hcol := f_collect (v := v) (R := min 200 (allA T).length - nL v (allA T)) hT (grid_eq hx4 (by simp only; omega) (by simp only; omega) (fun z => z) hg1) (ranks_eq hx4 (by simp only; omega) (fun z => z) (fun z => z) hr1) hvb (by omega) 9 T.1 0 0 [] [] _ (Nat.pow_pos (by omega)) (by rw [pcn_0]; omega) (by have := hT.1; omega) (by rw [pcn_0]; rfl) (fun j hj => by cases hj) (by rw [pcn_0]; omega) (by rw [pcn_0]; omega) (fun q hq => by cases hq) (by
        rw [pcn_0]
        show (sl v _ ([] ++ pre [] 0 (allA T))).length ≤ 200
        rw [epre, List.nil_append]; exact hsll) (fun z => by
        have e : allA T = [([], 0)] := by unfold allA; rw [z]; rfl
        have hb0 : nL v (allA T) = if 0 < v then 1 else 0 := by
          rw [e]
          unfold nL
          by_cases y : 0 < v
          · simp [y]
          · simp [y]
        have hb1 : nL (v + 1) (allA T) = if 0 < v + 1 then 1 else 0 := by
          rw [e]
          unfold nL
          by_cases y : 0 < v + 1
          · simp [y]
          · simp [y]
        have hl1 : (allA T).length = 1 := by rw [e]; rfl
        by_cases y : 0 < v
        · exact Or.inl y
        · rw [if_neg y] at hb0
          by_cases y2 : 0 < v + 1
          · right
            refine ⟨by omega, ?_⟩
            show nE v [] < _
            have : nE v [] = 0 := rfl
            omega
          · rw [if_neg y2] at hb1
            omega) hco0
      rw [pcn_0] at hcol
      obtain ⟨s5, e5, hco5⟩ := hcol
      have hco5 : coI v (min 200 (allA T).length - nL v (allA T)) _ ([] ++ pre [] 0 (allA T)) s5 := hco5
      rw [epre, List.nil_append] at hco5
      obtain ⟨c1, c2, c3, c4, c5⟩ := hco5
      have hsub : nI (min 200 (allA T).length) - nI (nL v (allA T)) = nI (min 200 (allA T).length - nL v (allA T)) := nI_sb (by omega)
      have eup : rJ (wJ p3.2 9 6 (jJ v)) 9 6 - (1 : Int64) = jJ (v - 1) := by
        rw [rJ_T ⟨rfl, rfl⟩, show (1 : Int64) = jJ 1 by decide, jJ_sub]
      refine ⟨s5, ?_, ?_, ?_, ?_⟩
      · rw [bnd e3, hv, eup, bnd hup, hsub]
        exact bnd e5 _
      · rw [c5.1 9 4 (by simp only [coD]; omega), rI_F (by omega), rI_wJ, x3.1 9 4 (by simp only [soD]; omega), rI_F (by omega), rI_T ⟨rfl, rfl⟩]
      · rw [hf200, isort_len]; exact c3
      · rw [hf200]; exact c4
  · rw [if_neg (by rw [h1]; exact n1_0)]
    exact ⟨s, rfl, h1, hl⟩
