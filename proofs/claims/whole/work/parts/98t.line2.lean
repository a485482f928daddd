theorem V0_lt {p q : List Nat} {W w : Nat} (hw : w < W) : V0 p q W w < 2 ^ W := wk_lt (Nat.pow_pos (by omega)) (some_lt hw)
theorem one_bw {p q : List Nat} {W w0 : Nat} (hW : W ≤ 7) (hp : inj p W) (hq : inj q W) (hw : Cg p q W w0) (hc : ∀ v, v < W → ((V0 p q W w0).testBit v = true ↔ Cg p q W v)) (hH : fw q (p.getD w0 0) 0 W = none ∨ ∀ X : Nat → Prop, (∀ u, Cg p q W u → X u → ∀ v, fw p (q.getD u 0) 0 W = some v → X v) → ∀ m, Cg p q W m → X m → X w0) : cntP (rdE p q W) = 1 ∧ (rdE p q W).1 = V0 p q W w0 := by
  have hpre : ∀ i, Cg p q W i → i ≠ w0 → fw q (p.getD i 0) 0 W ≠ none := by
    intro i hi hne hn
    rcases wk_pre ((hc i hi.1).mpr hi) with h1 | h1 | ⟨u, h1, h2⟩
    · rw [Nat.zero_testBit] at h1; cases h1
    · cases h1; exact hne rfl
    · have hu : u < W := (V0_sub hq hw h1).1
      exact absurd (fw_s h2).2.symm (fw_n hn u (by omega) (by omega))
  by_cases z : fw q (p.getD w0 0) 0 W = none
  · have e0 : ∀ i, i ≤ W → ps (g0 p q W) P00 i = if i ≤ w0 then P00 else ad0 P00 (wk p q W W (some w0) 0) := by
      intro i
      induction i with
      | zero => intro _; rw [if_pos (by omega)]; rfl
      | succ i ih =>
        intro hi
        show g0 p q W (ps (g0 p q W) P00 i) i = _
        rw [ih (by omega)]
        by_cases y : i = w0
        · subst y
          rw [if_pos (Nat.le_refl _), if_neg (by omega)]
          unfold g0
          rw [if_neg hw.2, if_pos z, if_neg (show ¬ P00.1.testBit i = true by show ¬ (0 : Nat).testBit i = true; rw [Nat.zero_testBit]; decide)]
          show ad0 P00 (wk p q W (W - pcn 0) (some i) 0) = _
          rw [pc0, Nat.sub_zero]
        · have hsame : ∀ P, g0 p q W P i = P := by
            intro P
            unfold g0
            by_cases y2 : p.getD i 0 = q.getD i 0
            · rw [if_pos y2]
            · rw [if_neg y2, if_neg (hpre i ⟨by omega, y2⟩ y)]
          rw [hsame]
          by_cases y3 : i ≤ w0
          · rw [if_pos y3, if_pos (by omega)]
          · rw [if_neg y3, if_neg (by omega)]
    have e1 : ∀ i, i ≤ W → ps (g1 p q W) (ad0 P00 (wk p q W W (some w0) 0)) i = ad0 P00 (wk p q W W (some w0) 0) := by
      intro i
      induction i with
      | zero => intro _; rfl
      | succ i ih =>
        intro hi
        show g1 p q W (ps (g1 p q W) _ i) i = _
        rw [ih (by omega)]
        unfold g1
        by_cases y2 : p.getD i 0 = q.getD i 0
        · rw [if_pos y2]
        · rw [if_neg y2, if_pos (show (ad0 P00 (wk p q W W (some w0) 0)).1.testBit i = true from (hc i (by omega)).mpr ⟨by omega, y2⟩)]
    have e : rdE p q W = ad0 P00 (wk p q W W (some w0) 0) := by
      unfold rdE
      rw [e0 W (Nat.le_refl _), if_neg (by have := hw.1; omega), e1 W (Nat.le_refl _)]
    rw [e]
    exact ⟨by rw [cnt_a0]; rfl, rfl⟩
  · have hH := hH.resolve_left z
    have hrot : ∀ m, Cg p q W m → V0 p q W m = V0 p q W w0 := by
      intro m hm
      have hcl : ∀ u, (V0 p q W m).testBit u = true → ∀ v, fw p (q.getD u 0) 0 W = some v → (V0 p q W m).testBit v = true := fun u hu v hv => wk_cl hW (Nat.pow_pos (by omega)) (some_lt hm.1) (by omega) hu (Nat.zero_testBit u) hv
      have hm0 : (V0 p q W m).testBit m = true := wk_st hW (Nat.pow_pos (by omega)) hm.1 (by omega)
      have hx0 := hH (fun v => (V0 p q W m).testBit v = true) (fun u _ hu v hv => hcl u hu v hv) m hm hm0
      apply Nat.eq_of_testBit_eq
      intro v
      cases h1 : (V0 p q W w0).testBit v with
      | true =>
        rcases wk_sub (fun v => (V0 p q W m).testBit v = true) hcl (fun x hx => by cases hx; exact hx0) h1 with h2 | h2
        · rw [Nat.zero_testBit] at h2; cases h2
        · exact h2
      | false =>
        cases h2 : (V0 p q W m).testBit v with
        | false => rfl
        | true =>
          have hcv := V0_sub hq hm h2
          rw [(hc v hcv.1).mpr hcv] at h1
          cases h1
    have hnn : ∀ i, Cg p q W i → fw q (p.getD i 0) 0 W ≠ none := by
      intro i hi
      by_cases y : i = w0
      · rw [y]; exact z
      · exact hpre i hi y
    have e0 : ∀ i, i ≤ W → ps (g0 p q W) P00 i = P00 := by
      intro i
      induction i with
      | zero => intro _; rfl
      | succ i ih =>
        intro hi
        show g0 p q W (ps (g0 p q W) P00 i) i = _
        rw [ih (by omega)]
        unfold g0
        by_cases y2 : p.getD i 0 = q.getD i 0
        · rw [if_pos y2]
        · rw [if_neg y2, if_neg (hnn i ⟨by omega, y2⟩)]
    have e1 : ∀ i, i ≤ W → ((∀ v, v < i → ¬ Cg p q W v) ∧ ps (g1 p q W) P00 i = P00) ∨ (cntP (ps (g1 p q W) P00 i) = 1 ∧ (ps (g1 p q W) P00 i).1 = V0 p q W w0) := by
      intro i
      induction i with
      | zero => intro _; exact Or.inl ⟨fun v hv => by omega, rfl⟩
      | succ i ih =>
        intro hi
        have es : ps (g1 p q W) P00 (i + 1) = g1 p q W (ps (g1 p q W) P00 i) i := rfl
        rw [es]
        rcases ih (by omega) with ⟨h1, h2⟩ | ⟨h1, h2⟩
        · rw [h2]
          by_cases y2 : p.getD i 0 = q.getD i 0
          · refine Or.inl ⟨fun v hv hcv => ?_, by unfold g1; rw [if_pos y2]⟩
            by_cases y : v = i
            · rw [y] at hcv; exact hcv.2 y2
            · exact h1 v (by omega) hcv
          · have e : g1 p q W P00 i = ad1 P00 (wk p q W W (some i) 0) := by
              unfold g1
              rw [if_neg y2, if_neg (show ¬ P00.1.testBit i = true by show ¬ (0 : Nat).testBit i = true; rw [Nat.zero_testBit]; decide)]
              show ad1 P00 (wk p q W (W - pcn 0) (some i) 0) = _
              rw [pc0, Nat.sub_zero]
            rw [e]
            exact Or.inr ⟨by rw [cnt_a1]; rfl, hrot i ⟨by omega, y2⟩⟩
        · have e : g1 p q W (ps (g1 p q W) P00 i) i = ps (g1 p q W) P00 i := by
            generalize ps (g1 p q W) P00 i = P1 at h1 h2 ⊢
            unfold g1
            by_cases y2 : p.getD i 0 = q.getD i 0
            · rw [if_pos y2]
            · rw [if_neg y2, if_pos (by rw [h2]; exact (hc i (by omega)).mpr ⟨by omega, y2⟩)]
          rw [e]
          exact Or.inr ⟨h1, h2⟩
    have e : rdE p q W = ps (g1 p q W) P00 W := by
      unfold rdE
      rw [e0 W (Nat.le_refl _)]
    rw [e]
    rcases e1 W (Nat.le_refl _) with ⟨h1, _⟩ | h
    · exact absurd hw (h1 w0 hw.1)
    · exact h
/-! sums by workers -/
def smF (f : Nat → Int) : Nat → Int
  | 0 => 0
  | n + 1 => smF f n + f n
theorem smF_ext {f g : Nat → Int} : ∀ n, (∀ i, i < n → f i = g i) → smF f n = smF g n
  | 0, _ => rfl
  | n + 1, h => by
    show smF f n + f n = smF g n + g n
    rw [smF_ext n (fun i hi => h i (by omega)), h n (by omega)]
theorem smF_add (f g : Nat → Int) : ∀ n, smF (fun i => f i + g i) n = smF f n + smF g n
  | 0 => rfl
  | n + 1 => by
    show smF (fun i => f i + g i) n + (f n + g n) = smF f n + f n + (smF g n + g n)
    rw [smF_add f g n]
    omega
theorem smF_one (w : Nat) (x : Int) : ∀ n, smF (fun i => if i = w then x else 0) n = if w < n then x else 0
  | 0 => by rw [if_neg (by omega)]; rfl
  | n + 1 => by
    show smF (fun i => if i = w then x else 0) n + (if n = w then x else 0) = _
    rw [smF_one w x n]
    by_cases z : n = w
    · rw [if_pos z, if_neg (by omega), if_pos (by omega)]; omega
    · rw [if_neg z]
      by_cases y : w < n
      · rw [if_pos y, if_pos (by omega)]; omega
      · rw [if_neg y, if_neg (by omega)]; omega
theorem smF_or {f : Nat → Int} {S w n : Nat} (hw : w < n) (hb : S.testBit w = false) : smF (fun i => if (S ||| 2 ^ w).testBit i = true then f i else 0) n = smF (fun i => if S.testBit i = true then f i else 0) n + f w := by
  have e : smF (fun i => if (S ||| 2 ^ w).testBit i = true then f i else 0) n = smF (fun i => (if S.testBit i = true then f i else 0) + (if i = w then f w else 0)) n := by
    refine smF_ext n (fun i hi => ?_)
    by_cases z : i = w
    · subst z
      rw [if_pos (tb_or.mpr (Or.inr rfl)), if_neg (by rw [hb]; decide), if_pos rfl]
      omega
    · rw [if_neg z]
      by_cases y : S.testBit i = true
      · rw [if_pos y, if_pos (tb_or.mpr (Or.inl y))]; omega
      · rw [if_neg y, if_neg (fun q => (tb_or.mp q).elim y (fun q => z q.symm))]; omega
  rw [e, smF_add, smF_one, if_pos hw]
theorem smF_fr (f : Nat → Int) : ∀ n, smF f (n + 1) = f 0 + smF (fun i => f (i + 1)) n
  | 0 => by show (0 : Int) + f 0 = f 0 + 0; omega
  | n + 1 => by
    show smF f (n + 1) + f (n + 1) = f 0 + (smF (fun i => f (i + 1)) n + f (n + 1))
    rw [smF_fr f n]
    omega
theorem smR_F (c : cst) : ∀ (r : List Nat) (w : Nat), smR c w r = smF (fun i => (c (w + i) (r.getD i 0)).getD 0) r.length
  | [], _ => rfl
  | j :: r, w => by
    show (c w j).getD 0 + smR c (w + 1) r = smF _ (r.length + 1)
    rw [smF_fr, smR_F c r (w + 1)]
    show _ + _ = (c w j).getD 0 + _
    congr 1
    refine smF_ext _ (fun i _ => ?_)
    show (c (w + 1 + i) (r.getD i 0)).getD 0 = (c (w + (i + 1)) (r.getD i 0)).getD 0
    rw [show w + 1 + i = w + (i + 1) by omega]
theorem all_smF {T : tb} {p : asg} (hp : p ∈ allA T) : p.2 = smF (fun i => (T.2.2 i (p.1.getD i 0)).getD 0) T.1 := by
  obtain ⟨h1, _, h3⟩ := ex_iff.mp hp
  rw [h3, smR_F, h1]
  refine smF_ext _ (fun i _ => ?_)
  rw [Nat.zero_add]
theorem all_inj {T : tb} {p : asg} (hp : p ∈ allA T) : inj p.1 T.1 := by
  obtain ⟨h1, h2, _⟩ := ex_iff.mp hp
  have hn := (okV_iff.mp h2).2
  intro u v hu hv e
  rw [List.getD_eq_getElem?_getD, List.getD_eq_getElem?_getD, List.getElem?_eq_getElem (by omega), List.getElem?_eq_getElem (by omega)] at e
  have e : p.1[u]'(by omega) = p.1[v]'(by omega) := e
  have hpw := List.pairwise_iff_getElem.mp hn
  rcases Nat.lt_trichotomy u v with h | h | h
  · exact absurd e (hpw u v (by omega) (by omega) h)
  · exact h
  · exact absurd e.symm (hpw v u (by omega) (by omega) h)
theorem all_get {T : tb} (hT : tb_ok T) {p : asg} (hp : p ∈ allA T) {w : Nat} (hw : w < T.1) : p.1.getD w 0 < T.2.1 ∧ ∃ x, T.2.2 w (p.1.getD w 0) = some x ∧ -9999 ≤ x ∧ x ≤ 9999 := by
  obtain ⟨j, x, h1, h2, _, h4, h5⟩ := all_cell hT hp hw
  rw [getD_s h1]
  exact ⟨h2, x, h4, h5⟩
