def wdS (x : UInt32) (l : List Nat) : Prop := sx_isS x ∧ sx_len_s x = nI l.length ∧ 1 ≤ l.length ∧ l.length ≤ 6 ∧ ∀ i, i < l.length → sx_chr x (nI i) = nI (l.getD i 0) ∧ l.getD i 0 < 256
theorem wdS_1 : wdS 1 wdJ := ⟨Or.inl rfl, by decide, by decide, by decide, by decide⟩
theorem wdS_2 : wdS 2 wdW := ⟨Or.inr (Or.inl rfl), by decide, by decide, by decide, by decide⟩
theorem wdS_3 : wdS 3 wdX := ⟨Or.inr (Or.inr rfl), by decide, by decide, by decide, by decide⟩
theorem c_spells {b : Nat → Nat} {n f e : Nat} {s : sx_M} {x : UInt32} {l : List Nat} (hx : wdS x l) (h : tpC b n s) (hf : f ≤ e) (he : e ≤ n) (h3 : rI s 19 3 = nI f) (h4 : rI s 19 4 = nI e) : f_X6_spells x s = some (if isW l b f e then 1 else 0, s) := by
  obtain ⟨x1, x2, x0, x3, x4⟩ := hx
  have hn := h.2.1
  have key : e = f + l.length → ∀ m i, i + m = l.length → (∀ k, k < i → b (f + k) = l.getD k 0) → ∃ r, whT (f_X6_spells_L20 x) (nI i, s) = some r ∧ (Sum.elim (fun e3 => some ((1 : Int32), e3)) (fun e4 => some e4) r : Option (Int32 × sx_M)) = some (if ∀ k, k < l.length → b (f + k) = l.getD k 0 then 1 else 0, s) := by
    intro hle m
    induction m with
    | zero =>
      intro i hi hk
      refine ⟨.inl s, ?_, ?_⟩
      · rw [whT_eq]
        simp only [f_X6_spells_L20]
        rw [if_pos x1, x2, if_pos (show nI l.length ≤ nI i from nI_le (by omega) (by omega))]
        rfl
      · rw [if_pos (fun k hk' => hk k (by omega))]
        rfl
    | succ m ih =>
      intro i hi hk
      have hat := c_at (i := f + i) h (by omega)
      rw [if_pos (show f + i < n by omega)] at hat
      have hi2 : ¬ (nI i < 0 ∨ nI l.length ≤ nI i) := fun q => q.elim (nI_pos (by omega)) (nI_ge (by omega) (by omega))
      have pre : f_X6_spells_L20 x (nI i, s) = (if nI (b (f + i)) = nI (l.getD i 0) then some (.inl (nI (i + 1), s)) else some (.inr (.inr (0, s)))) := by
        simp only [f_X6_spells_L20]
        rw [if_pos x1, x2, if_neg (show ¬ nI l.length ≤ nI i from nI_ge (by omega) (by omega)), h3, nI_add, bnd hat, if_pos x1, if_pos hi2, (x4 i (by omega)).1, nI_1]
      by_cases z : b (f + i) = l.getD i 0
      · obtain ⟨r, e1, hr⟩ := ih (i + 1) (by omega) (fun k hk' => by
          by_cases y : k = i
          · rw [y]; exact z
          · exact hk k (by omega))
        refine ⟨r, ?_, hr⟩
        rw [whT_eq, pre, if_pos (by rw [z])]
        exact e1
      · refine ⟨.inr (0, s), ?_, ?_⟩
        · rw [whT_eq, pre, if_neg (fun q => z ((nI_lit_eq (h.2.2 _) (x4 i (by omega)).2).mp q))]
          rfl
        · rw [if_neg (fun q => z (q i (by omega)))]
          rfl
  unfold f_X6_spells
  rw [if_pos x1, h3, h4, nI_sb hf, x2]
  by_cases z : e = f + l.length
  · obtain ⟨r, e1, hr⟩ := key z l.length 0 (by omega) (fun k hk => by omega)
    have e1 : whT (f_X6_spells_L20 x) (0, s) = some r := e1
    rw [if_pos (show nI (e - f) = nI l.length by rw [show e - f = l.length by omega]), bnd e1]
    refine hr.trans ?_
    by_cases y : ∀ k, k < l.length → b (f + k) = l.getD k 0
    · rw [if_pos y, if_pos (⟨z, y⟩ : isW l b f e)]
    · rw [if_neg y, if_neg (fun q : isW l b f e => y q.2)]
  · rw [if_neg (show ¬ nI (e - f) = nI l.length from of_eq_false (nI_eq_F (by omega) (by omega) (by omega))), if_neg (fun q : isW l b f e => z q.1)]
def tkC (t : tok) (s : sx_M) : Prop := rI s 19 2 = nI t.1 ∧ rI s 19 3 = nI t.2.1 ∧ (t.1 ≠ 0 → rI s 19 4 = nI t.2.2.1) ∧ (t.1 = 2 → rI s 19 5 = nI t.2.2.2)
theorem mnI_f (a b : Nat) (ha : a < 2147483648) (hb : b < 2147483648) (s : sx_M) : f_J9_min_7cf53 (nI a) (nI b) s = some (nI (min a b), s) := by
  unfold f_J9_min_7cf53
  by_cases z : b < a
  · rw [if_pos (show nI b < nI a from of_eq_true (nI_lt_T z ha)), Nat.min_eq_right (by omega)]
  · rw [if_neg (show ¬ nI b < nI a from of_eq_false (nI_lt_F (by omega) hb)), Nat.min_eq_left (by omega)]
theorem c_step {b : Nat → Nat} {n g : Nat} {s : sx_M} (h : tpC b n s) (hg : g ≤ n) (h4 : rI s 19 4 = nI g) : Ev (f_X6_step s) (fun s' => tkC (lx b n g) s' ∧ tpC b n s') := by
  have hn := h.2.1
  have hb := h.2.2
  have hsk := scn_le (P := isBl) (b := b) (m := n - g) hg
  -- blanks
  obtain ⟨s1, e1, c1, c2, c3⟩ := scan_ev (P := isBl) (b := b) (n := n) hn (f := f_X6_step_L8) (o := 19) (k := 3) (I := tpC b n) (fun s v hs => tpC_w (by omega) hs) (fun i s hs hr hi => by
    unfold f_X6_step_L8
    rw [hs.1.1, hr]
    by_cases z : i < n
    · have hat := c_at (i := i) hs (by omega)
      rw [if_pos z] at hat
      rw [if_neg (show ¬ nI n ≤ nI i from nI_ge z (by omega)), bnd hat, bnd (c_bl (hb i) s)]
      by_cases y : isBl (b i) = true
      · rw [if_pos y, if_neg n1_0, if_pos ⟨z, y⟩]
        show some (Sum.inl (wI s 19 3 (rI s 19 3 + 1))) = _
        rw [hr, nI_1]
      · rw [if_neg y, if_pos rfl, if_neg (fun q => y q.2)]
    · rw [if_pos (show nI n ≤ nI i from nI_le (by omega) (by omega)), if_neg (fun q => z q.1)]) (n - g) g (wI s 19 3 (nI g)) (by omega) hg (tpC_w (by omega) h) (rI_T ⟨rfl, rfl⟩)
  have e1 : whT f_X6_step_L8 (wI s 19 3 (rI s 19 4)) = some s1 := by rw [h4]; exact e1
  unfold f_X6_step
  rw [bnd e1, c1]
  unfold lx
  generalize hfe : scn isBl b n (n - g) g = f at c1 hsk ⊢
  have hat := c_at (i := f) c2 (by omega)
  rw [bnd hat]
  have h13 : rI s1 19 3 + 1 = nI (f + 1) := by rw [c1, nI_1]
  have eb : rI ((if f < n then nI (b f) else -1, s1) : Int32 × sx_M).2 19 3 + 1 = nI (f + 1) := h13
  simp only []
  rw [h13]
  have t2 : tpC b n (wI s1 19 4 (nI (f + 1))) := tpC_w (by omega) c2
  have r3 : rI (wI s1 19 4 (nI (f + 1))) 19 3 = nI f := by rw [rI_F (by omega)]; exact c1
  by_cases zn : f < n
  · rw [if_pos zn, bnd (c_dg (hb f) _)]
    unfold lxA
    rw [if_neg (show ¬ n ≤ f by omega)]
    by_cases zd : isDg (b f) = true
    · rw [if_pos zd, if_pos zd, if_neg n1_0]
      -- a number
      have t3 : tpC b n (wI (wI (wI (wI s1 19 4 (nI (f + 1))) 19 2 2) 19 5 0) 19 4 (nI f)) := tpC_w (by omega) (tpC_w (by omega) (tpC_w (by omega) t2))
      obtain ⟨s2, e2, d1, d2, d3, d4⟩ := num_ev (b := b) (n := n) hn (f := f_X6_stepOverNumber_L13) (o := 19) (kp := 4) (kv := 5) (by omega) (I := tpC b n) (fun s k v _ hs => tpC_w (by omega) hs) (fun i v s hs hr hi hr2 hv => by
        unfold f_X6_stepOverNumber_L13
        rw [hs.1.1, hr]
        by_cases z : i < n
        · have hat := c_at (i := i) hs (by omega)
          rw [if_pos z] at hat
          have hbi := hb i
          rw [if_neg (show ¬ nI n ≤ nI i from nI_ge z (by omega)), bnd hat, bnd (c_dg (hb i) s)]
          by_cases y : isDg (b i) = true
          · have hdg : 48 ≤ b i ∧ b i ≤ 57 := by
              unfold isDg at y
              exact decide_eq_true_iff.mp y
            rw [if_pos y, if_neg n1_0, if_pos ⟨z, y⟩]
            show (f_X9_at (rI s 19 4) s).bind _ = _
            rw [hr, bnd hat]
            have ev : nI v * 10 + nI (b i) - 48 = nI (10 * v + b i - 48) := by
              rw [show (10 : Int32) = nI 10 from rfl, pk_mul, nI_add, show (48 : Int32) = nI 48 from rfl, nI_sb (by omega), Nat.mul_comm]
            show (f_J9_min_7cf53 (rI s 19 5 * 10 + nI (b i) - 48) 10000 s).bind _ = _
            rw [hr2, ev, show (10000 : Int32) = nI 10000 from rfl, bnd (mnI_f _ _ (by omega) (by omega) s)]
            show some (Sum.inl (wI (wI s 19 5 (nI (min (10 * v + b i - 48) 10000))) 19 4 (rI (wI s 19 5 (nI (min (10 * v + b i - 48) 10000))) 19 4 + 1))) = _
            rw [rI_F (by omega), hr, nI_1, Nat.min_comm]
            rfl
          · rw [if_neg y, if_pos rfl, if_neg (fun q => y q.2)]
        · rw [if_pos (show nI n ≤ nI i from nI_le (by omega) (by omega)), if_neg (fun q => z q.1)]) (n - f) f 0 _ (by omega) (by omega) (by omega) t3 (rI_T ⟨rfl, rfl⟩) (by rw [rI_F (by omega)]; exact rI_T ⟨rfl, rfl⟩)
      have eN : f_X6_stepOverNumber (wI (wI s1 19 4 (nI (f + 1))) 19 2 2) = some s2 := by
        unfold f_X6_stepOverNumber
        rw [show rI (wI (wI (wI s1 19 4 (nI (f + 1))) 19 2 2) 19 5 0) 19 3 = nI f by rw [rI_F (by omega), rI_F (by omega)]; exact r3, bnd e2]
      rw [bnd eN]
      refine ⟨s2, rfl, ⟨?_, ?_, fun _ => d1, fun _ => d2⟩, d3⟩
      · rw [d4.1 19 2 (by simp only; omega), rI_F (by omega), rI_F (by omega), rI_T ⟨rfl, rfl⟩]
        rfl
      · rw [d4.1 19 3 (by simp only; omega), rI_F (by omega), rI_F (by omega), rI_F (by omega)]
        exact r3
    · rw [if_neg zd, if_neg zd, if_pos rfl, bnd (c_lt (hb f) _)]
      by_cases zl : isLt (b f) = true
      · rw [if_pos zl, if_pos zl, if_neg n1_0]
        -- a word
        have hwe := scn_le (P := isLt) (b := b) (n := n) (m := n - (f + 1)) (i := f + 1) (by omega)
        obtain ⟨s2, e2, d1, d2, d3⟩ := scan_ev (P := isLt) (b := b) (n := n) hn (f := f_X6_stepOverWord_L0) (o := 19) (k := 4) (I := tpC b n) (fun s v hs => tpC_w (by omega) hs) (fun i s hs hr hi => by
          unfold f_X6_stepOverWord_L0
          rw [hs.1.1, hr]
          by_cases z : i < n
          · have hat := c_at (i := i) hs (by omega)
            rw [if_pos z] at hat
            rw [if_neg (show ¬ nI n ≤ nI i from nI_ge z (by omega)), bnd hat, bnd (c_lt (hb i) s)]
            by_cases y : isLt (b i) = true
            · rw [if_pos y, if_neg n1_0, if_pos ⟨z, y⟩]
              show some (Sum.inl (wI s 19 4 (rI s 19 4 + 1))) = _
              rw [hr, nI_1]
            · rw [if_neg y, if_pos rfl, if_neg (fun q => y q.2)]
          · rw [if_pos (show nI n ≤ nI i from nI_le (by omega) (by omega)), if_neg (fun q => z q.1)]) (n - (f + 1)) (f + 1) _ (by omega) (by omega) t2 (rI_T ⟨rfl, rfl⟩)
        have eW : f_X6_stepOverWord (wI s1 19 4 (nI (f + 1))) = some s2 := by
          unfold f_X6_stepOverWord
          rw [bnd e2]
        have r32 : rI s2 19 3 = nI f := by rw [d3.1 19 3 (by simp only [Dix]; omega)]; exact r3
        generalize scn isLt b n (n - (f + 1)) (f + 1) = e at d1 hwe ⊢
        rw [bnd eW, bnd (c_spells wdS_1 d2 (by omega) hwe.2 r32 d1)]
        have fin : ∀ K : Nat, K ≠ 0 → K ≠ 2 → tkC (K, f, e, 0) (wI s2 19 2 (nI K)) ∧ tpC b n (wI s2 19 2 (nI K)) := fun K k0 k2 => ⟨⟨rI_T ⟨rfl, rfl⟩, by rw [rI_F (by omega)]; exact r32, fun _ => by rw [rI_F (by omega)]; exact d1, fun q => absurd q k2⟩, tpC_w (by omega) d2⟩
        unfold wdK
        by_cases w1 : isW wdJ b f e
        · rw [if_pos w1, if_pos w1, if_neg n1_0]
          exact ⟨_, rfl, fin 3 (by omega) (by omega)⟩
        · rw [if_neg w1, if_neg w1, if_pos rfl, bnd (c_spells wdS_2 d2 (by omega) hwe.2 r32 d1)]
          by_cases w2 : isW wdW b f e
          · rw [if_pos w2, if_pos w2, if_neg n1_0]
            exact ⟨_, rfl, fin 4 (by omega) (by omega)⟩
          · rw [if_neg w2, if_neg w2, if_pos rfl, bnd (c_spells wdS_3 d2 (by omega) hwe.2 r32 d1)]
            by_cases w3 : isW wdX b f e
            · rw [if_pos w3, if_pos w3, if_neg n1_0]
              exact ⟨_, rfl, fin 5 (by omega) (by omega)⟩
            · rw [if_neg w3, if_neg w3, if_pos rfl]
              exact ⟨_, rfl, fin 1 (by omega) (by omega)⟩
      · rw [if_neg zl, if_neg zl, if_pos rfl, bnd (c_sg (hb f) _)]
        have hsr := sgK_r (b f)
        refine ⟨_, rfl, ⟨rI_T ⟨rfl, rfl⟩, by rw [rI_F (by omega)]; exact r3, fun _ => by rw [rI_F (by omega)]; exact rI_T ⟨rfl, rfl⟩, fun q => ?_⟩, tpC_w (by omega) t2⟩
        have q : sgK (b f) = 2 := q
        omega
  · have d0 : f_X6_isDigit (-1) (wI s1 19 4 (nI (f + 1))) = some (0, wI s1 19 4 (nI (f + 1))) := by
      unfold f_X6_isDigit
      rw [if_pos (by decide)]
    have l0 : f_X6_isLetter (-1) (wI s1 19 4 (nI (f + 1))) = some (0, wI s1 19 4 (nI (f + 1))) := by
      unfold f_X6_isLetter
      rw [if_pos (by decide)]
    have k0 : f_X6_kindOfSign (-1) (wI s1 19 4 (nI (f + 1))) = some (0, wI s1 19 4 (nI (f + 1))) := by
      unfold f_X6_kindOfSign
      rw [if_pos rfl]
    rw [if_neg zn, bnd d0, if_pos rfl, bnd l0, if_pos rfl, bnd k0]
    unfold lxA
    rw [if_pos (show n ≤ f by omega)]
    exact ⟨_, rfl, ⟨rI_T ⟨rfl, rfl⟩, by rw [rI_F (by omega)]; exact r3, fun q => absurd rfl q, fun q => by cases q⟩, tpC_w (by omega) t2⟩
