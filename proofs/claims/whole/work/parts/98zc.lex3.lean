/-! the reference -/
def tpR (b : Nat → Nat) (n : Nat) (s : sx_M) : Prop := (rI s 58 4 = nI n ∧ ∀ k, k < n → rA s 61 k = nI (b k)) ∧ n ≤ 600 ∧ ∀ k, b k < 256
theorem tpR_w {b : Nat → Nat} {n : Nat} {s : sx_M} {o k : Nat} {v : Int32} (ho : o ≠ 58 ∨ k ≠ 4) (h : tpR b n s) : tpR b n (wI s o k v) := ⟨⟨by rw [rI_F (by omega)]; exact h.1.1, h.1.2⟩, h.2⟩
theorem f_inN {c lo hi : Nat} (hc : c < 2147483648) (hlo : lo < 2147483648) (hhi : hi < 2147483648) (s : sx_M) : f_X12_in (nI c).toInt64 (nI lo).toInt64 (nI hi).toInt64 s = some (if lo ≤ c ∧ c ≤ hi then 1 else 0, s) := by
  unfold f_X12_in
  by_cases z1 : c < lo
  · rw [if_pos ((i64_lt _ _).mpr (of_eq_true (nI_lt_T z1 hlo))), if_neg (by omega)]
  · rw [if_neg (fun q => absurd ((i64_lt _ _).mp q) (of_eq_false (nI_lt_F (by omega) hc)))]
    by_cases z2 : hi < c
    · rw [if_pos ((i64_lt _ _).mpr (of_eq_true (nI_lt_T z2 hc))), if_neg (by omega)]
    · rw [if_neg (fun q => absurd ((i64_lt _ _).mp q) (of_eq_false (nI_lt_F (by omega) hhi))), if_pos (by omega)]
theorem r_isAt {b : Nat → Nat} {n i lo hi : Nat} {s : sx_M} (h : tpR b n s) (hi8 : rI s 58 8 = nI i) (hi' : i ≤ n) (hlo : lo < 256) (hhi : hi < 256) : f_X12_isAt (nI lo) (nI hi) s = some (if i < n ∧ lo ≤ b i ∧ b i ≤ hi then 1 else 0, s) := by
  have hn := h.2.1
  have hb := h.2.2 i
  unfold f_X12_isAt
  rw [h.1.1, hi8]
  by_cases z : i < n
  · have hin : ¬ (nI i < 0 ∨ 600 ≤ (nI i).toNatClampNeg) := by
      rw [nI_cl (by omega)]
      exact fun q => q.elim (nI_pos (by omega)) (by omega)
    rw [if_neg (show ¬ nI n ≤ nI i from nI_ge z (by omega)), if_pos hin, nI_cl (by omega), h.1.2 i z, bnd (f_inN (by omega) (by omega) (by omega) s)]
    by_cases y : lo ≤ b i ∧ b i ≤ hi
    · rw [if_pos y, if_neg n1_0, if_pos ⟨z, y⟩]
    · rw [if_neg y, if_pos rfl, if_neg (fun q => y q.2)]
  · rw [if_pos (show nI n ≤ nI i from nI_le (by omega) (by omega)), if_neg (fun q => z q.1)]
def tkR (b : Nat → Nat) (n : Nat) (t : tok) (s : sx_M) : Prop := rI s 58 9 = nI t.2.1 ∧ rI s 58 8 = nI t.2.2.1 ∧ rI s 58 11 = nI t.2.2.2 ∧ ∃ TT, rI s 58 10 = nI TT ∧ TT < 8 ∧ (TT = 0 ↔ t.1 = 0) ∧ (TT = 2 ↔ t.1 = 2) ∧ (TT = 3 ↔ t.1 = 6) ∧ (TT = 4 ↔ t.1 = 7) ∧ (TT = 5 ↔ t.1 = 8) ∧ ((TT = 1 ∧ t.1 = wdK b t.2.1 t.2.2.1 ∧ t.2.1 ≤ t.2.2.1 ∧ t.2.2.1 ≤ n) ∨ (TT ≠ 1 ∧ t.1 ≠ 3 ∧ t.1 ≠ 4 ∧ t.1 ≠ 5))
theorem r_next {b : Nat → Nat} {n g : Nat} {s : sx_M} (h : tpR b n s) (hg : g ≤ n) (h8 : rI s 58 8 = nI g) : Ev (f_X12_next s) (fun s' => tkR b n (lx b n g) s') := by
  have hn := h.2.1
  have hb := h.2.2
  have hsk := scn_le (P := isBl) (b := b) (m := n - g) hg
  obtain ⟨s1, e1, c1, c2, c3⟩ := scan_ev (P := isBl) (b := b) (n := n) hn (f := f_X12_next_L0) (o := 58) (k := 8) (I := tpR b n) (fun s v hs => tpR_w (by omega) hs) (fun i s hs hr hi => by
    unfold f_X12_next_L0 f_X12_next_L0_J22
    have a1 : f_X12_isAt 32 32 s = _ := r_isAt (lo := 32) (hi := 32) hs hr hi (by omega) (by omega)
    have a2 : f_X12_isAt 10 10 s = _ := r_isAt (lo := 10) (hi := 10) hs hr hi (by omega) (by omega)
    rw [bnd a1]
    have hbl : isBl (b i) = true ↔ b i = 32 ∨ b i = 10 := by unfold isBl; simp
    by_cases z : i < n ∧ 32 ≤ b i ∧ b i ≤ 32
    · rw [if_pos z, if_neg n1_0, if_pos (⟨z.1, hbl.mpr (Or.inl (by omega))⟩ : i < n ∧ isBl (b i) = true)]
      show some (Sum.inl (wI s 58 8 (rI s 58 8 + 1))) = _
      rw [hr, nI_1]
    · rw [if_neg z, if_pos rfl, bnd a2]
      by_cases y : i < n ∧ 10 ≤ b i ∧ b i ≤ 10
      · rw [if_pos y, if_neg n1_0, if_pos (⟨y.1, hbl.mpr (Or.inr (by omega))⟩ : i < n ∧ isBl (b i) = true)]
        show some (Sum.inl (wI s 58 8 (rI s 58 8 + 1))) = _
        rw [hr, nI_1]
      · rw [if_neg y, if_pos rfl, if_neg (fun q : i < n ∧ isBl (b i) = true => by
          rcases hbl.mp q.2 with q2 | q2
          · exact z ⟨q.1, by omega, by omega⟩
          · exact y ⟨q.1, by omega, by omega⟩)]) (n - g) g s (by omega) hg h h8
  unfold f_X12_next
  rw [bnd e1]
  unfold lx
  generalize scn isBl b n (n - g) g = f at c1 hsk ⊢
  have t3 : tpR b n (wI (wI s1 58 9 (rI s1 58 8)) 58 11 0) := tpR_w (by omega) (tpR_w (by omega) c2)
  have r8 : rI (wI (wI s1 58 9 (rI s1 58 8)) 58 11 0) 58 8 = nI f := by rw [rI_F (by omega), rI_F (by omega)]; exact c1
  have r9 : rI (wI (wI s1 58 9 (rI s1 58 8)) 58 11 0) 58 9 = nI f := by rw [rI_F (by omega), rI_T ⟨rfl, rfl⟩]; exact c1
  have r11 : rI (wI (wI s1 58 9 (rI s1 58 8)) 58 11 0) 58 11 = 0 := rI_T ⟨rfl, rfl⟩
  generalize wI (wI s1 58 9 (rI s1 58 8)) 58 11 0 = s3 at t3 r8 r9 r11 ⊢
  rw [r8, t3.1.1]
  unfold lxA
  by_cases zn : n ≤ f
  · rw [if_pos (show nI f = nI n by rw [show f = n by omega]), if_pos zn]
    refine ⟨_, rfl, by rw [rI_F (by omega)]; exact r9, by rw [rI_F (by omega)]; exact r8, by rw [rI_F (by omega)]; exact r11, 0, rI_T ⟨rfl, rfl⟩, by omega, by simp, by simp, by simp, by simp, by simp, Or.inr ⟨by omega, by simp, by simp, by simp⟩⟩
  · have hfn : f < n := by omega
    have hbf := hb f
    rw [if_neg (show ¬ nI f = nI n from of_eq_false (nI_eq_F (by omega) (by omega) (by omega))), if_neg zn]
    have aL : f_X12_isAt 97 122 s3 = _ := r_isAt (lo := 97) (hi := 122) t3 r8 (by omega) (by omega) (by omega)
    have aD : f_X12_isAt 48 57 s3 = _ := r_isAt (lo := 48) (hi := 57) t3 r8 (by omega) (by omega) (by omega)
    have a59 : f_X12_isAt 59 59 s3 = _ := r_isAt (lo := 59) (hi := 59) t3 r8 (by omega) (by omega) (by omega)
    have a44 : f_X12_isAt 44 44 s3 = _ := r_isAt (lo := 44) (hi := 44) t3 r8 (by omega) (by omega) (by omega)
    have a45 : f_X12_isAt 45 45 s3 = _ := r_isAt (lo := 45) (hi := 45) t3 r8 (by omega) (by omega) (by omega)
    have dL : isLt (b f) = true ↔ 97 ≤ b f ∧ b f ≤ 122 := by unfold isLt; exact decide_eq_true_iff
    have dD' : isDg (b f) = true ↔ 48 ≤ b f ∧ b f ≤ 57 := by unfold isDg; exact decide_eq_true_iff
    by_cases zl : 97 ≤ b f ∧ b f ≤ 122
    · rw [if_pos (⟨hfn, zl⟩ : f < n ∧ 97 ≤ b f ∧ b f ≤ 122)] at aL
      rw [bnd aL, if_neg n1_0, if_neg (fun q => by have := dD'.mp q; omega), if_pos (dL.mpr zl)]
      have hwe := scn_le (P := isLt) (b := b) (n := n) (m := n - (f + 1)) (i := f + 1) (by omega)
      obtain ⟨s4, e4, d1, d2, d3⟩ := scan_ev (P := isLt) (b := b) (n := n) hn (f := f_X12_next_L83) (o := 58) (k := 8) (I := tpR b n) (fun s v hs => tpR_w (by omega) hs) (fun i s hs hr hi => by
        unfold f_X12_next_L83
        have a1 : f_X12_isAt 97 122 s = _ := r_isAt (lo := 97) (hi := 122) hs hr hi (by omega) (by omega)
        have dLi : isLt (b i) = true ↔ 97 ≤ b i ∧ b i ≤ 122 := by unfold isLt; exact decide_eq_true_iff
        rw [bnd a1]
        by_cases z : i < n ∧ 97 ≤ b i ∧ b i ≤ 122
        · rw [if_pos z, if_neg n1_0, if_pos (⟨z.1, dLi.mpr z.2⟩ : i < n ∧ isLt (b i) = true)]
          show some (Sum.inl (wI s 58 8 (rI s 58 8 + 1))) = _
          rw [hr, nI_1]
        · rw [if_neg z, if_pos rfl, if_neg (fun q : i < n ∧ isLt (b i) = true => z ⟨q.1, dLi.mp q.2⟩)]) (n - f) f (wI s3 58 10 1) (by omega) (by omega) (tpR_w (by omega) t3) (by rw [rI_F (by omega)]; exact r8)
      have esc : scn isLt b n (n - f) f = scn isLt b n (n - (f + 1)) (f + 1) := by
        obtain ⟨m, hm⟩ : ∃ m, n - f = m + 1 := ⟨n - f - 1, by omega⟩
        rw [hm, show n - (f + 1) = m by omega]
        conv => lhs; unfold scn
        rw [if_pos ⟨hfn, dL.mpr zl⟩]
      rw [esc] at d1
      generalize scn isLt b n (n - (f + 1)) (f + 1) = e at d1 hwe ⊢
      rw [bnd e4]
      have hk := wdK_r b f e
      refine ⟨s4, rfl, ?_, d1, ?_, 1, ?_, by omega, ?_, ?_, ?_, ?_, ?_, Or.inl ⟨rfl, rfl, by simp only; omega, hwe.2⟩⟩
      · rw [d3.1 58 9 (by simp only [Dix]; omega), rI_F (by omega)]; exact r9
      · rw [d3.1 58 11 (by simp only [Dix]; omega), rI_F (by omega)]; exact r11
      · rw [d3.1 58 10 (by simp only [Dix]; omega), rI_T ⟨rfl, rfl⟩]; rfl
      all_goals (simp only; omega)
    · rw [if_neg (fun q : f < n ∧ 97 ≤ b f ∧ b f ≤ 122 => zl q.2)] at aL
      rw [bnd aL, if_pos rfl]
      by_cases zd : 48 ≤ b f ∧ b f ≤ 57
      · rw [if_pos (⟨hfn, zd⟩ : f < n ∧ 48 ≤ b f ∧ b f ≤ 57)] at aD
        rw [bnd aD, if_neg n1_0, if_pos (dD'.mpr zd)]
        have hv := nmv_le (b := b) (n := n) (m := n - f) (i := f) (v := 0) (by omega) (by omega)
        obtain ⟨s4, e4, d1, d2, d3, d4⟩ := num_ev (b := b) (n := n) hn (f := f_X12_next_L123) (o := 58) (kp := 8) (kv := 11) (by omega) (I := tpR b n) (fun s k v hk hs => tpR_w (by omega) hs) (fun i v s hs hr hi hr2 hv => by
          unfold f_X12_next_L123
          have a1 : f_X12_isAt 48 57 s = _ := r_isAt (lo := 48) (hi := 57) hs hr hi (by omega) (by omega)
          have dDi : isDg (b i) = true ↔ 48 ≤ b i ∧ b i ≤ 57 := by unfold isDg; exact decide_eq_true_iff
          have hbi := hb i
          rw [bnd a1]
          by_cases z : i < n ∧ 48 ≤ b i ∧ b i ≤ 57
          · have hin : ¬ (nI i < 0 ∨ 600 ≤ (nI i).toNatClampNeg) := by
              rw [nI_cl (by omega)]
              exact fun q => q.elim (nI_pos (by omega)) (by omega)
            have ev : (10 : Int32) * nI v + nI (b i) - 48 = nI (10 * v + b i - 48) := by
              rw [show (10 : Int32) = nI 10 from rfl, pk_mul, nI_add, show (48 : Int32) = nI 48 from rfl, nI_sb (by omega)]
            rw [if_pos z, if_neg n1_0, hr, if_pos hin, nI_cl (by omega), hr2, hs.1.2 i z.1, ev, show (10000 : Int32) = nI 10000 from rfl, bnd (mnI_f _ _ (by omega) (by omega) s), if_pos (⟨z.1, dDi.mpr z.2⟩ : i < n ∧ isDg (b i) = true)]
            show some (Sum.inl (wI (wI s 58 11 (nI (min 10000 (10 * v + b i - 48)))) 58 8 (rI (wI s 58 11 (nI (min 10000 (10 * v + b i - 48)))) 58 8 + 1))) = _
            rw [rI_F (by omega), hr, nI_1]
            rfl
          · rw [if_neg z, if_pos rfl, if_neg (fun q : i < n ∧ isDg (b i) = true => z ⟨q.1, dDi.mp q.2⟩)]) (n - f) f 0 (wI s3 58 10 2) (by omega) (by omega) (by omega) (tpR_w (by omega) t3) (by rw [rI_F (by omega)]; exact r8) (by rw [rI_F (by omega)]; exact r11)
        rw [bnd e4]
        refine ⟨s4, rfl, ?_, d1, d2, 2, ?_, by omega, ?_, ?_, ?_, ?_, ?_, Or.inr ⟨by omega, by simp only; omega, by simp only; omega, by simp only; omega⟩⟩
        · rw [d4.1 58 9 (by simp only; omega), rI_F (by omega)]; exact r9
        · rw [d4.1 58 10 (by simp only; omega), rI_T ⟨rfl, rfl⟩]; rfl
        all_goals (simp only <;> omega)
      · rw [if_neg (fun q : f < n ∧ 48 ≤ b f ∧ b f ≤ 57 => zd q.2)] at aD
        rw [bnd aD, if_pos rfl, if_neg (fun q => zd (dD'.mp q)), if_neg (fun q => zl (dL.mp q))]
        have fin : ∀ (TT : Nat) (K : Nat), TT < 8 → TT ≠ 1 → (TT = 0 ↔ K = 0) → (TT = 2 ↔ K = 2) → (TT = 3 ↔ K = 6) → (TT = 4 ↔ K = 7) → (TT = 5 ↔ K = 8) → (K ≠ 3 ∧ K ≠ 4 ∧ K ≠ 5) → Ev (f_X12_next_J225 (nI TT) s3) (fun s' => tkR b n (K, f, f + 1, 0) s') := by
          intro TT K q1 q2 q3 q4 q5 q6 q7 q8
          refine ⟨_, rfl, ?_, ?_, ?_, TT, ?_, q1, q3, q4, q5, q6, q7, Or.inr ⟨q2, q8⟩⟩
          · rw [rI_F (by omega), rI_F (by omega)]; exact r9
          · rw [rI_T ⟨rfl, rfl⟩, rI_F (by omega), r8, nI_1]
          · rw [rI_F (by omega), rI_F (by omega)]; exact r11
          · rw [rI_F (by omega)]; exact rI_T ⟨rfl, rfl⟩
        unfold sgK
        by_cases y1 : b f = 59
        · rw [if_pos (⟨hfn, by omega, by omega⟩ : f < n ∧ 59 ≤ b f ∧ b f ≤ 59)] at a59
          rw [bnd a59, if_neg n1_0, if_neg (show ¬ b f = 44 by omega), if_neg (show ¬ b f = 45 by omega), if_pos y1]
          exact fin 3 6 (by omega) (by omega) (by omega) (by omega) (by omega) (by omega) (by omega) (by omega)
        · rw [if_neg (fun q : f < n ∧ 59 ≤ b f ∧ b f ≤ 59 => y1 (by omega))] at a59
          rw [bnd a59, if_pos rfl]
          by_cases y2 : b f = 44
          · rw [if_pos (⟨hfn, by omega, by omega⟩ : f < n ∧ 44 ≤ b f ∧ b f ≤ 44)] at a44
            rw [bnd a44, if_neg n1_0, if_pos y2]
            exact fin 4 7 (by omega) (by omega) (by omega) (by omega) (by omega) (by omega) (by omega) (by omega)
          · rw [if_neg (fun q : f < n ∧ 44 ≤ b f ∧ b f ≤ 44 => y2 (by omega))] at a44
            rw [bnd a44, if_pos rfl, if_neg y2]
            by_cases y3 : b f = 45
            · rw [if_pos (⟨hfn, by omega, by omega⟩ : f < n ∧ 45 ≤ b f ∧ b f ≤ 45)] at a45
              rw [bnd a45, if_neg n1_0, if_pos y3]
              exact fin 5 8 (by omega) (by omega) (by omega) (by omega) (by omega) (by omega) (by omega) (by omega)
            · rw [if_neg (fun q : f < n ∧ 45 ≤ b f ∧ b f ≤ 45 => y3 (by omega))] at a45
              rw [bnd a45, if_pos rfl, if_neg y3, if_neg y1]
              exact fin 6 1 (by omega) (by omega) (by omega) (by omega) (by omega) (by omega) (by omega) (by omega)
/-- which word it is -/
theorem r_isW {b : Nat → Nat} {n f e : Nat} {s : sx_M} {x : UInt32} {l : List Nat} (hx : wdS x l) (h : tpR b n s) (hf : f ≤ e) (he : e ≤ n) (h9 : rI s 58 9 = nI f) (h8 : rI s 58 8 = nI e) (h10 : rI s 58 10 = 1) : f_X12_isWord x s = some (if isW l b f e then 1 else 0, s) := by
  obtain ⟨x1, x2, x0, x3, x4⟩ := hx
  have hn := h.2.1
  have ex0 : ∀ k, whT (f_X12_isWord_L32 x) (0, nI k, s) = some (0, s) := by
    intro k
    rw [whT_eq]
    simp only [f_X12_isWord_L32]
    rw [if_pos x1]
    by_cases z : sx_len_s x ≤ nI k
    · rw [if_pos z]; rfl
    · rw [if_neg z, if_pos trivial]; rfl
  have key : e = f + l.length → ∀ m i, i + m = l.length → (∀ k, k < i → b (f + k) = l.getD k 0) → whT (f_X12_isWord_L32 x) (1, nI i, s) = some (if ∀ k, k < l.length → b (f + k) = l.getD k 0 then 1 else 0, s) := by
    intro hle m
    induction m with
    | zero =>
      intro i hi hk
      rw [whT_eq, if_pos (fun k hk' => hk k (by omega))]
      simp only [f_X12_isWord_L32]
      rw [if_pos x1, x2, if_pos (show nI l.length ≤ nI i from nI_le (by omega) (by omega))]
      rfl
    | succ m ih =>
      intro i hi hk
      have hi2 : ¬ (nI i < 0 ∨ nI l.length ≤ nI i) := fun q => q.elim (nI_pos (by omega)) (nI_ge (by omega) (by omega))
      have hin : ¬ (nI (f + i) < 0 ∨ 600 ≤ (nI (f + i)).toNatClampNeg) := by
        rw [nI_cl (by omega)]
        exact fun q => q.elim (nI_pos (by omega)) (by omega)
      have pre : f_X12_isWord_L32 x (1, nI i, s) = (if nI (b (f + i)) = nI (l.getD i 0) then some (.inl (1, nI (i + 1), s)) else some (.inl (0, nI (i + 1), s))) := by
        simp only [f_X12_isWord_L32]
        rw [if_pos x1, x2, if_neg (show ¬ nI l.length ≤ nI i from nI_ge (by omega) (by omega)), if_neg n1_0, h9, nI_add, if_pos hin, if_pos x1, if_pos hi2, nI_cl (by omega), h.1.2 (f + i) (by omega), (x4 i (by omega)).1, nI_1]
      by_cases z : b (f + i) = l.getD i 0
      · have := ih (i + 1) (by omega) (fun k hk' => by
          by_cases y : k = i
          · rw [y]; exact z
          · exact hk k (by omega))
        rw [whT_eq, pre, if_pos (by rw [z])]
        exact this
      · rw [whT_eq, pre, if_neg (fun q => z ((nI_lit_eq (h.2.2 _) (x4 i (by omega)).2).mp q)), if_neg (fun q => z (q i (by omega)))]
        exact ex0 (i + 1)
  unfold f_X12_isWord
  rw [if_pos h10, if_pos x1, h8, h9, nI_sb hf, x2]
  unfold f_X12_isWord_J29
  by_cases z : e = f + l.length
  · have e1 : whT (f_X12_isWord_L32 x) (1, 0, s) = _ := key z l.length 0 (by omega) (fun k hk => by omega)
    rw [if_pos (show nI (e - f) = nI l.length by rw [show e - f = l.length by omega]), bnd e1]
    by_cases y : ∀ k, k < l.length → b (f + k) = l.getD k 0
    · rw [if_pos y, if_pos (⟨z, y⟩ : isW l b f e), if_pos (Or.inr rfl)]
    · rw [if_neg y, if_neg (fun q : isW l b f e => y q.2), if_pos (Or.inl rfl)]
  · have e1 : whT (f_X12_isWord_L32 x) (0, 0, s) = some (0, s) := ex0 0
    rw [if_neg (show ¬ nI (e - f) = nI l.length from of_eq_false (nI_eq_F (by omega) (by omega) (by omega))), bnd e1, if_neg (fun q : isW l b f e => z q.1), if_pos (Or.inl rfl)]
theorem r_isW0 {s : sx_M} {x : UInt32} {l : List Nat} (hx : wdS x l) (h10 : rI s 58 10 ≠ 1) : f_X12_isWord x s = some (0, s) := by
  obtain ⟨x1, x2, x0, x3, x4⟩ := hx
  have e1 : whT (f_X12_isWord_L32 x) (0, 0, s) = some (0, s) := by
    rw [whT_eq]
    simp only [f_X12_isWord_L32]
    rw [if_pos x1]
    by_cases z : sx_len_s x ≤ 0
    · rw [if_pos z]; rfl
    · rw [if_neg z, if_pos trivial]; rfl
  unfold f_X12_isWord f_X12_isWord_J29
  rw [if_neg h10, bnd e1, if_pos (Or.inl rfl)]
def kX (x : UInt32) : Nat := if x = 1 then 3 else if x = 2 then 4 else 5
theorem r_word {b : Nat → Nat} {n : Nat} {t : tok} {s : sx_M} (h : tpR b n s) (ht : tkR b n t s) : f_X12_isWord 1 s = some (if t.1 = 3 then 1 else 0, s) ∧ f_X12_isWord 2 s = some (if t.1 = 4 then 1 else 0, s) ∧ f_X12_isWord 3 s = some (if t.1 = 5 then 1 else 0, s) := by
  obtain ⟨K, f, e, v⟩ := t
  obtain ⟨h9, h8, h11, TT, q1, q2, q3, q4, q5, q6, q7, q8⟩ := ht
  simp only at *
  have l1 : wdJ.length = 4 := rfl
  have l2 : wdW.length = 6 := rfl
  have l3 : wdX.length = 1 := rfl
  rcases q8 with ⟨z1, z2, z3, z4⟩ | ⟨z1, z2, z3, z4⟩
  · have h10 : rI s 58 10 = 1 := by rw [q1, z1]; rfl
    rw [r_isW wdS_1 h z3 z4 h9 h8 h10, r_isW wdS_2 h z3 z4 h9 h8 h10, r_isW wdS_3 h z3 z4 h9 h8 h10, z2]
    by_cases w1 : isW wdJ b f e
    · have n2 : ¬ isW wdW b f e := fun q => by have := w1.1; have := q.1; omega
      have n3 : ¬ isW wdX b f e := fun q => by have := w1.1; have := q.1; omega
      have ek : wdK b f e = 3 := by unfold wdK; rw [if_pos w1]
      rw [ek, if_pos w1, if_neg n2, if_neg n3]
      exact ⟨rfl, rfl, rfl⟩
    · by_cases w2 : isW wdW b f e
      · have n3 : ¬ isW wdX b f e := fun q => by have := w2.1; have := q.1; omega
        have ek : wdK b f e = 4 := by unfold wdK; rw [if_neg w1, if_pos w2]
        rw [ek, if_neg w1, if_pos w2, if_neg n3]
        exact ⟨rfl, rfl, rfl⟩
      · by_cases w3 : isW wdX b f e
        · have ek : wdK b f e = 5 := by unfold wdK; rw [if_neg w1, if_neg w2, if_pos w3]
          rw [ek, if_neg w1, if_neg w2, if_pos w3]
          exact ⟨rfl, rfl, rfl⟩
        · have ek : wdK b f e = 1 := by unfold wdK; rw [if_neg w1, if_neg w2, if_neg w3]
          rw [ek, if_neg w1, if_neg w2, if_neg w3]
          exact ⟨rfl, rfl, rfl⟩
  · have h10 : rI s 58 10 ≠ 1 := by
      rw [q1]
      exact of_eq_false (nI_eq_F (b := 1) z1 (by omega) (by omega))
    rw [r_isW0 wdS_1 h10, r_isW0 wdS_2 h10, r_isW0 wdS_3 h10, if_neg z2, if_neg z3, if_neg z4]
    exact ⟨rfl, rfl, rfl⟩
