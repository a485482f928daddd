/-! one ring or one chain: how a walk goes -/
abbrev inj (p : List Nat) (W : Nat) : Prop := ∀ u v, u < W → v < W → p.getD u 0 = p.getD v 0 → u = v
theorem fw_is {p : List Nat} {W v j : Nat} (hi : inj p W) (hv : v < W) (e : p.getD v 0 = j) : fw p j 0 W = some v := by
  cases h : fw p j 0 W with
  | none => exact absurd e (fw_n h v (by omega) (by omega))
  | some u =>
    have := fw_s h
    rw [hi u v (by omega) hv (by rw [this.2, e])]
theorem fw_lt {p : List Nat} {W v j : Nat} (h : fw p j 0 W = some v) : v < W := by
  have := (fw_s h).1
  omega
theorem tb_or {S w v : Nat} : (S ||| 2 ^ w).testBit v = true ↔ S.testBit v = true ∨ w = v := by
  rw [Nat.testBit_or, Nat.testBit_two_pow, Bool.or_eq_true, decide_eq_true_iff]
theorem wk_n0 (p q : List Nat) (W n S : Nat) : wk p q W n none S = (0, S) := by cases n <;> rfl
theorem wk_in1 {p q : List Nat} {W n w S : Nat} (hb : S.testBit w = true) : wk p q W n (some w) S = (0, S) := by
  cases n with
  | zero => rfl
  | succ n =>
    show (if S.testBit w then _ else _) = _
    rw [if_pos hb]
/-- what a walk comes by: closed sets hold it -/
theorem wk_sub {p q : List Nat} {W v : Nat} (X : Nat → Prop) (hX : ∀ u, X u → ∀ v, fw p (q.getD u 0) 0 W = some v → X v) : ∀ {n : Nat} {o : Option Nat} {S : Nat}, (∀ w, o = some w → X w) → (wk p q W n o S).2.testBit v = true → S.testBit v = true ∨ X v
  | 0, _, _, _, h => Or.inl h
  | _ + 1, none, _, _, h => Or.inl h
  | n + 1, some w, S, ho, h => by
    cases hb : S.testBit w with
    | true =>
      rw [wk_in1 hb] at h
      exact Or.inl h
    | false =>
      rw [wk_go hb] at h
      rcases wk_sub X hX (hX w (ho w rfl)) h with h1 | h1
      · rcases tb_or.mp h1 with h2 | h2
        · exact Or.inl h2
        · exact Or.inr (h2 ▸ ho w rfl)
      · exact Or.inr h1
theorem wk_mono {p q : List Nat} {W v : Nat} : ∀ {n : Nat} {o : Option Nat} {S : Nat}, S.testBit v = true → (wk p q W n o S).2.testBit v = true
  | 0, _, _, h => h
  | _ + 1, none, _, h => h
  | n + 1, some w, S, h => by
    cases hb : S.testBit w with
    | true => rw [wk_in1 hb]; exact h
    | false =>
      rw [wk_go hb]
      exact wk_mono (tb_or.mpr (Or.inl h))
theorem wk_st {p q : List Nat} {W n w S : Nat} (hW : W ≤ 7) (hS : S < 2 ^ W) (hw : w < W) (hn : W ≤ pcn S + n) : (wk p q W n (some w) S).2.testBit w = true := by
  cases hb : S.testBit w with
  | true => rw [wk_in1 hb]; exact hb
  | false =>
    cases n with
    | zero =>
      have := pcn_s hW hS hw hb
      omega
    | succ n =>
      rw [wk_go hb]
      exact wk_mono (tb_or.mpr (Or.inr rfl))
theorem wk_cl {p q : List Nat} {W u v : Nat} (hW : W ≤ 7) : ∀ {n : Nat} {o : Option Nat} {S : Nat}, S < 2 ^ W → (∀ w, o = some w → w < W) → W ≤ pcn S + n → (wk p q W n o S).2.testBit u = true → S.testBit u = false → fw p (q.getD u 0) 0 W = some v → (wk p q W n o S).2.testBit v = true
  | 0, _, S, _, _, _, h, h2, _ => by
    have h : S.testBit u = true := h
    rw [h] at h2; cases h2
  | _ + 1, none, S, _, _, _, h, h2, _ => by
    have h : S.testBit u = true := h
    rw [h] at h2; cases h2
  | n + 1, some w, S, hS, ho, hn, h, h2, h3 => by
    cases hb : S.testBit w with
    | true =>
      rw [wk_in1 hb] at h
      have h : S.testBit u = true := h
      rw [h] at h2; cases h2
    | false =>
      have hw := ho w rfl
      have hp := pcn_s hW hS hw hb
      rw [wk_go hb] at h ⊢
      have h : (wk p q W n (fw p (q.getD w 0) 0 W) (S ||| 2 ^ w)).2.testBit u = true := h
      show (wk p q W n (fw p (q.getD w 0) 0 W) (S ||| 2 ^ w)).2.testBit v = true
      by_cases z : u = w
      · subst z
        rw [h3]
        exact wk_st hW (or_lt' hS hw) (fw_lt h3) (by omega)
      · refine wk_cl hW (or_lt' hS hw) (fun x hx => fw_lt hx) (by omega) h ?_ h3
        cases hq : (S ||| 2 ^ w).testBit u with
        | false => rfl
        | true =>
          rcases tb_or.mp hq with q1 | q1
          · rw [q1] at h2; cases h2
          · exact absurd q1.symm z
theorem wk_pre {p q : List Nat} {W v : Nat} : ∀ {n : Nat} {o : Option Nat} {S : Nat}, (wk p q W n o S).2.testBit v = true → S.testBit v = true ∨ o = some v ∨ ∃ u, (wk p q W n o S).2.testBit u = true ∧ fw p (q.getD u 0) 0 W = some v
  | 0, _, _, h => Or.inl h
  | _ + 1, none, _, h => Or.inl h
  | n + 1, some w, S, h => by
    cases hb : S.testBit w with
    | true => rw [wk_in1 hb] at h; exact Or.inl h
    | false =>
      rw [wk_go hb] at h ⊢
      rcases wk_pre h with h1 | h1 | ⟨u, h1, h2⟩
      · rcases tb_or.mp h1 with h2 | h2
        · exact Or.inl h2
        · exact Or.inr (Or.inl (congrArg some h2))
      · exact Or.inr (Or.inr ⟨w, wk_mono (tb_or.mpr (Or.inr rfl)), h1⟩)
      · exact Or.inr (Or.inr ⟨u, h1, h2⟩)
/-- who changes -/
def Cg (p q : List Nat) (W v : Nat) : Prop := v < W ∧ p.getD v 0 ≠ q.getD v 0
theorem Cg_nx {p q : List Nat} {W : Nat} (hq : inj q W) : ∀ u, Cg p q W u → ∀ v, fw p (q.getD u 0) 0 W = some v → Cg p q W v := by
  intro u hu v hv
  have h1 := fw_s hv
  have h2 := fw_lt hv
  refine ⟨h2, fun e => hu.2 ?_⟩
  have := hq v u h2 hu.1 (by rw [← e, h1.2])
  rw [this] at h1
  exact h1.2
theorem Cg_pr {p q : List Nat} {W : Nat} (hp : inj p W) : ∀ u v, Cg p q W v → u < W → q.getD u 0 = p.getD v 0 → Cg p q W u := by
  intro u v hv hu e
  refine ⟨hu, fun h => hv.2 ?_⟩
  have := hp u v hu hv.1 (by rw [h, e])
  rw [this] at e
  exact e.symm
abbrev V0 (p q : List Nat) (W w : Nat) : Nat := (wk p q W W (some w) 0).2
theorem pc0 : pcn 0 = 0 := pcn_0
theorem V0_sub {p q : List Nat} {W w v : Nat} (hq : inj q W) (hw : Cg p q W w) (h : (V0 p q W w).testBit v = true) : Cg p q W v := by
  rcases wk_sub (Cg p q W) (Cg_nx hq) (fun x hx => by cases hx; exact hw) h with h1 | h1
  · rw [Nat.zero_testBit] at h1; cases h1
  · exact h1
theorem Cg_dec (p q : List Nat) (W v : Nat) : Cg p q W v ∨ ¬ Cg p q W v := Classical.em _
/-! the two passes -/
def cntP (P : rdP) : Int32 := P.2.1 + P.2.2.1
def fwI (p q : List Nat) (W b : Nat) (P : rdP) : Prop := ∃ k, k ≤ b ∧ cntP P = nI k ∧ ((k = 0 ∧ P.1 = 0) ∨ (k = 1 ∧ ∃ w, Cg p q W w ∧ P.1 = V0 p q W w) ∨ 2 ≤ k)
theorem cnt_a0 (P : rdP) (r : Nat × Nat) : cntP (ad0 P r) = cntP P + 1 := by
  show P.2.1 + (P.2.2.1 + 1) = P.2.1 + P.2.2.1 + 1
  rw [Int32.add_assoc]
theorem cnt_a1 (P : rdP) (r : Nat × Nat) : cntP (ad1 P r) = cntP P + 1 := by
  show (P.2.1 + 1) + P.2.2.1 = P.2.1 + P.2.2.1 + 1
  rw [Int32.add_assoc, Int32.add_assoc, Int32.add_comm 1]
theorem fwI_ad {p q : List Nat} {W b w : Nat} {P P' : rdP} (h : fwI p q W b P) (hw : Cg p q W w) (hc : cntP P' = cntP P + 1) (hs : P'.1 = (wk p q W (W - pcn P.1) (some w) P.1).2) : fwI p q W (b + 1) P' := by
  obtain ⟨k, hk, hc0, hcase⟩ := h
  refine ⟨k + 1, by omega, by rw [hc, hc0, nI_1], ?_⟩
  rcases hcase with ⟨k0, h0⟩ | ⟨k1, _⟩ | k2
  · refine Or.inr (Or.inl ⟨by omega, w, hw, ?_⟩)
    rw [hs, h0, pc0, Nat.sub_zero]
  · exact Or.inr (Or.inr (by omega))
  · exact Or.inr (Or.inr (by omega))
theorem fwI_up {p q : List Nat} {W b : Nat} {P : rdP} (h : fwI p q W b P) : fwI p q W (b + 1) P := by
  obtain ⟨k, hk, r⟩ := h
  exact ⟨k, by omega, r⟩
theorem fwI_0 {p q : List Nat} {W b : Nat} {P : rdP} (h : fwI p q W b P) : ∀ i, i ≤ W → fwI p q W (b + i) (ps (g0 p q W) P i)
  | 0, _ => h
  | i + 1, hi => by
    have ih := fwI_0 h i (by omega)
    show fwI p q W (b + i + 1) (g0 p q W (ps (g0 p q W) P i) i)
    generalize ps (g0 p q W) P i = P1 at ih ⊢
    unfold g0
    by_cases z : p.getD i 0 = q.getD i 0
    · rw [if_pos z]; exact fwI_up ih
    · rw [if_neg z]
      by_cases z2 : fw q (p.getD i 0) 0 W = none
      · rw [if_pos z2]
        by_cases z3 : P1.1.testBit i = true
        · rw [if_pos z3]; exact fwI_up ih
        · rw [if_neg z3]
          exact fwI_ad ih ⟨by omega, z⟩ (cnt_a0 _ _) rfl
      · rw [if_neg z2]; exact fwI_up ih
theorem fwI_1 {p q : List Nat} {W b : Nat} {P : rdP} (hW : W ≤ 7) (hS : P.1 < 2 ^ W) (h : fwI p q W b P) : ∀ i, i ≤ W → fwI p q W (b + i) (ps (g1 p q W) P i) ∧ ∀ v, v < i → Cg p q W v → (ps (g1 p q W) P i).1.testBit v = true
  | 0, _ => ⟨h, fun v hv => by omega⟩
  | i + 1, hi => by
    obtain ⟨ih, ic⟩ := fwI_1 hW hS h i (by omega)
    have hlt := ps_lt (fun P w => g1_lt (p := p) (q := q)) hS i (show i ≤ W by omega)
    have hpl := pcn_W W (by omega) _ hlt
    show fwI p q W (b + i + 1) (g1 p q W (ps (g1 p q W) P i) i) ∧ ∀ v, v < i + 1 → Cg p q W v → (g1 p q W (ps (g1 p q W) P i) i).1.testBit v = true
    generalize ps (g1 p q W) P i = P1 at ih ic hlt hpl ⊢
    unfold g1
    by_cases z : p.getD i 0 = q.getD i 0
    · rw [if_pos z]
      refine ⟨fwI_up ih, fun v hv hc => ?_⟩
      by_cases y : v = i
      · rw [y] at hc; exact absurd z hc.2
      · exact ic v (by omega) hc
    · rw [if_neg z]
      by_cases z3 : P1.1.testBit i = true
      · rw [if_pos z3]
        refine ⟨fwI_up ih, fun v hv hc => ?_⟩
        by_cases y : v = i
        · rw [y]; exact z3
        · exact ic v (by omega) hc
      · rw [if_neg z3]
        refine ⟨fwI_ad ih ⟨by omega, z⟩ (cnt_a1 _ _) rfl, fun v hv hc => ?_⟩
        show (wk p q W (W - pcn P1.1) (some i) P1.1).2.testBit v = true
        by_cases y : v = i
        · rw [y]
          exact wk_st hW hlt (by omega) (by omega)
        · exact wk_mono (ic v (by omega) hc)
/-- where it is one, a walk goes through all that change -/
theorem one_fw {p q : List Nat} {W : Nat} (hW : W ≤ 7) (hq : inj q W) (h : cntP (rdE p q W) = 1) : ∃ w, Cg p q W w ∧ (rdE p q W).1 = V0 p q W w ∧ ∀ v, v < W → ((V0 p q W w).testBit v = true ↔ Cg p q W v) := by
  have hS0 : P00.1 < 2 ^ W := Nat.pow_pos (by omega)
  have h0 : fwI p q W 0 P00 := ⟨0, Nat.le_refl _, rfl, Or.inl ⟨rfl, rfl⟩⟩
  have h1 := fwI_0 h0 W (Nat.le_refl _)
  obtain ⟨h2, h3⟩ := fwI_1 hW (ps_lt (fun P w => g0_lt (p := p) (q := q)) hS0 W (Nat.le_refl _)) h1 W (Nat.le_refl _)
  obtain ⟨k, hk, hc, hcase⟩ := h2
  have hc : cntP (rdE p q W) = nI k := hc
  rw [h] at hc
  have hk1 : k = 1 := by
    have e : nI 1 = nI k := hc
    exact ((nI_eq (by omega) (by omega)).mp e).symm
  rcases hcase with ⟨k0, _⟩ | ⟨_, w, hw, e⟩ | k2
  · omega
  · refine ⟨w, hw, e, fun v hv => ⟨fun hb => V0_sub hq hw hb, fun hc => ?_⟩⟩
    rw [← e]
    exact h3 v hv hc
  · omega
