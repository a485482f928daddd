/-! rounds: the two passes -/
abbrev rdP : Type := Nat × Int32 × Int32 × Int32 × Int32
def mxI (a b : Int32) : Int32 := if a < b then b else a
theorem mxI_f (a b : Int32) (s : sx_M) : f_J9_max_7cf53 a b s = some (mxI a b, s) := by
  unfold f_J9_max_7cf53 mxI
  by_cases z : a < b
  · rw [if_pos z, if_pos z]
  · rw [if_neg z, if_neg z]
def ad0 (P : rdP) (r : Nat × Nat) : rdP := (r.2, P.2.1, P.2.2.1 + 1, mxI P.2.2.2.1 (nI r.1), P.2.2.2.2 + nI r.1)
def ad1 (P : rdP) (r : Nat × Nat) : rdP := (r.2, P.2.1 + 1, P.2.2.1, mxI P.2.2.2.1 (nI r.1), P.2.2.2.2 + (nI r.1 - 1))
def g0 (p q : List Nat) (W : Nat) (P : rdP) (w : Nat) : rdP := if p.getD w 0 = q.getD w 0 then P else if fw q (p.getD w 0) 0 W = none then (if P.1.testBit w = true then P else ad0 P (wk p q W (W - pcn P.1) (some w) P.1)) else P
def g1 (p q : List Nat) (W : Nat) (P : rdP) (w : Nat) : rdP := if p.getD w 0 = q.getD w 0 then P else if P.1.testBit w = true then P else ad1 P (wk p q W (W - pcn P.1) (some w) P.1)
def ps (f : rdP → Nat → rdP) (P : rdP) : Nat → rdP
  | 0 => P
  | i + 1 => f (ps f P i) i
theorem some_lt {w W : Nat} (hw : w < W) : ∀ v, (some w : Option Nat) = some v → v < W := fun v h => by cases h; exact hw
theorem g0_lt {p q : List Nat} {W : Nat} {P : rdP} {w : Nat} (hw : w < W) (h : P.1 < 2 ^ W) : (g0 p q W P w).1 < 2 ^ W := by
  unfold g0
  split
  · exact h
  · split
    · split
      · exact h
      · exact wk_lt h (some_lt hw)
    · exact h
theorem g1_lt {p q : List Nat} {W : Nat} {P : rdP} {w : Nat} (hw : w < W) (h : P.1 < 2 ^ W) : (g1 p q W P w).1 < 2 ^ W := by
  unfold g1
  split
  · exact h
  · split
    · exact h
    · exact wk_lt h (some_lt hw)
theorem ps_lt {f : rdP → Nat → rdP} {W : Nat} (hf : ∀ P w, w < W → P.1 < 2 ^ W → (f P w).1 < 2 ^ W) {P : rdP} (h : P.1 < 2 ^ W) : ∀ i, i ≤ W → (ps f P i).1 < 2 ^ W
  | 0, _ => h
  | i + 1, hi => hf _ i (by omega) (ps_lt hf h i (by omega))
/-- a start of a path is never one that was met -/
theorem seen0 {p q : List Nat} {W : Nat} {P : rdP} (h : P.1 = 0) : ∀ i, i ≤ W → ∀ v, (ps (g0 p q W) P i).1.testBit v = true → v < i ∨ fw q (p.getD v 0) 0 W ≠ none
  | 0, _, v, hv => by
    have : (ps (g0 p q W) P 0).1 = 0 := h
    rw [this, Nat.zero_testBit] at hv; cases hv
  | i + 1, hi, v, hv => by
    have ih := seen0 (p := p) (q := q) (W := W) h i (by omega) v
    have keep : (ps (g0 p q W) P i).1.testBit v = true → v < i + 1 ∨ fw q (p.getD v 0) 0 W ≠ none := fun z => (ih z).imp (fun y => by omega) id
    have hv : (g0 p q W (ps (g0 p q W) P i) i).1.testBit v = true := hv
    unfold g0 at hv
    split at hv
    · exact keep hv
    · split at hv
      · split at hv
        · exact keep hv
        · rcases wk_bit (some_lt (show i < W by omega)) hv with h1 | h1 | ⟨u, hu, h1⟩
          · exact keep h1
          · cases h1; exact Or.inl (by omega)
          · exact Or.inr (fun z => fw_n z u (by omega) (by omega) h1.symm)
      · exact keep hv
/-! the class -/
def cP (P : rdP) (s : sx_M) : Prop := rI s 55 0 = P.2.1 ∧ rI s 55 1 = P.2.2.1 ∧ rI s 55 2 = P.2.2.2.1 ∧ rI s 55 3 = P.2.2.2.2 ∧ rI s 55 4 = nI P.1
def D55 : sx_D := (fun o _ => o = 55, fun _ _ => False, fun _ => False, fun _ => False)
theorem c_follow {ra rb W : Nat} {p q : List Nat} {P : rdP} {s : sx_M} (hW : W ≤ 7) (hS : P.1 < 2 ^ W) (hc : cP P s) (hp : rowH ra W p s) (hq : rowH rb W q s) {w : Nat} (hw : w < W) : Ev (f_X10_follow ra rb (nI w) (nI W) s) (fun r => r.1 = nI (wk p q W (W - pcn P.1) (some w) P.1).1 ∧ cP ((wk p q W (W - pcn P.1) (some w) P.1).2, P.2.1, P.2.2.1, mxI P.2.2.2.1 (nI (wk p q W (W - pcn P.1) (some w) P.1).1), P.2.2.2.2) r.2 ∧ sx_eq D55 s r.2) := by
  have hpc := pcn_W W (by omega) P.1 hS
  obtain ⟨r, e, r1, r2, r3⟩ := c_walk (ra := ra) (rb := rb) (p := p) (q := q) hW (W - pcn P.1) (some w) P.1 0 s (by omega) (by omega) hS (some_lt hw) hc.2.2.2.2 hp hq
  generalize wk p q W (W - pcn P.1) (some w) P.1 = R at r1 r2
  rw [Nat.zero_add] at r1
  have k : ∀ k, k ≠ 4 → rI r.2 55 k = rI s 55 k := fun k hk => r3.1 55 k (by simp only [Dix]; omega)
  have e' : whT (f_X10_follow_L6 ra rb (nI W)) (0, nI w, s) = some r := e
  refine ⟨(nI R.1, wI r.2 55 2 (mxI P.2.2.2.1 (nI R.1))), ?_, rfl, ⟨?_, ?_, rI_T ⟨rfl, rfl⟩, ?_, ?_⟩, ?_⟩
  · unfold f_X10_follow
    rw [bnd e', r1, bnd (mxI_f _ _ _), k 2 (by omega), hc.2.2.1]
  · rw [rI_F (by omega), k 0 (by omega)]; exact hc.1
  · rw [rI_F (by omega), k 1 (by omega)]; exact hc.2.1
  · rw [rI_F (by omega), k 3 (by omega)]; exact hc.2.2.2.1
  · rw [rI_F (by omega)]; exact r2
  · exact sx_wI' (sx_mono r3 (fun o k z => z.1) (fun _ _ z => z.elim) (fun _ z => z.elim) (fun _ z => z.elim)) rfl
theorem c_pass0 {ra rb W : Nat} {p q : List Nat} {P : rdP} {s : sx_M} (hW : W ≤ 7) (hP : P.1 = 0) (hc : cP P s) (hp : rowH ra W p s) (hq : rowH rb W q s) : Ev (whT (f_X10_trace_L41 ra rb (nI W)) (0, s)) (fun s' => cP (ps (g0 p q W) P W) s' ∧ sx_eq D55 s s') := by
  have hS0 : P.1 < 2 ^ W := by rw [hP]; exact Nat.pow_pos (by omega)
  refine ev_f (fun (i : Nat) (a : Int32 × sx_M) => a.1 = nI i ∧ cP (ps (g0 p q W) P i) a.2 ∧ sx_eq D55 s a.2) W ?_ ?_ (i := 0) (by omega) ⟨rfl, hc, sx_rf _ _⟩
  · rintro i ⟨a1, s1⟩ hi ⟨ea, h1, h2⟩
    simp only at ea h1 h2
    subst ea
    have hp1 := rowH_eq h2 (fun z => z) hp
    have hq1 := rowH_eq h2 (fun z => z) hq
    have hS := ps_lt (fun P w => g0_lt (p := p) (q := q)) hS0 i (by omega)
    have hseen := seen0 (p := p) (q := q) (W := W) hP i (by omega) i
    have hin : ¬ (nI i < 0 ∨ 7 ≤ (nI i).toNatClampNeg) := by
      rw [nI_cl (by omega)]
      exact fun q => q.elim (nI_pos (by omega)) (by omega)
    have e : ps (g0 p q W) P (i + 1) = g0 p q W (ps (g0 p q W) P i) i := rfl
    rw [e]
    generalize ps (g0 p q W) P i = Q at h1 hS hseen
    have h8 := (hp1 i hi).2
    have h8' := (hq1 i hi).2
    simp only [f_X10_trace_L41]
    rw [if_neg (show ¬ nI W ≤ nI i from nI_ge hi (by omega)), if_pos hin, if_pos hin, if_pos hin, nI_cl (by omega), (hp1 i hi).1, (hq1 i hi).1]
    unfold g0
    by_cases z : p.getD i 0 = q.getD i 0
    · rw [if_pos (show nI (p.getD i 0) = nI (q.getD i 0) by rw [z]), if_pos z]
      exact ⟨.inl (nI i + 1, s1), rfl, nI_1 i, h1, h2⟩
    · rw [if_neg (show ¬ nI (p.getD i 0) = nI (q.getD i 0) from of_eq_false (nI_eq_F z (by omega) (by omega))), if_neg z, bnd (c_holder hW hq1 h8)]
      cases hf : fw q (p.getD i 0) 0 W with
      | some v =>
        have := (fw_s hf).1
        rw [if_neg (show ¬ oN (some v) = (-1 : Int32) from oN_n1 v (by omega)), if_neg (by simp)]
        exact ⟨.inl (nI i + 1, s1), rfl, nI_1 i, h1, h2⟩
      | none =>
        have hns : ¬ Q.1.testBit i = true := fun y => (hseen y).elim (fun z => by omega) (fun z => z hf)
        rw [if_pos (show oN none = (-1 : Int32) from rfl), if_pos rfl, if_neg hns]
        obtain ⟨r, e, r1, r2, r3⟩ := c_follow hW hS h1 hp1 hq1 hi
        rw [bnd e, r1]
        refine ⟨_, rfl, nI_1 i, ⟨?_, ?_, ?_, ?_, ?_⟩, sx_wI' (sx_wI' (sx_tr h2 r3) rfl) rfl⟩
        · show rI (wI (wI _ _ _ _) _ _ _) _ _ = _
          rw [rI_F (by omega), rI_F (by omega)]; exact r2.1
        · show rI (wI (wI _ _ _ _) _ _ _) _ _ = _
          rw [rI_F (by omega), rI_T ⟨rfl, rfl⟩, r2.2.1]; rfl
        · show rI (wI (wI _ _ _ _) _ _ _) _ _ = _
          rw [rI_F (by omega), rI_F (by omega)]; exact r2.2.2.1
        · show rI (wI (wI _ _ _ _) _ _ _) _ _ = _
          rw [rI_T ⟨rfl, rfl⟩, rI_F (by omega), r2.2.2.2.1]; rfl
        · show rI (wI (wI _ _ _ _) _ _ _) _ _ = _
          rw [rI_F (by omega), rI_F (by omega)]; exact r2.2.2.2.2
  · rintro ⟨a1, s1⟩ ⟨ea, h1, h2⟩
    simp only at ea h1 h2
    subst ea
    refine ⟨.inr s1, ?_, h1, h2⟩
    simp only [f_X10_trace_L41]
    rw [if_pos (nI_le (Nat.le_refl _) (by omega))]
theorem c_pass1 {ra rb W : Nat} {p q : List Nat} {P : rdP} {s : sx_M} (hW : W ≤ 7) (hS0 : P.1 < 2 ^ W) (hc : cP P s) (hp : rowH ra W p s) (hq : rowH rb W q s) : Ev (whT (f_X10_trace_L115 ra rb (nI W)) (0, s)) (fun s' => cP (ps (g1 p q W) P W) s' ∧ sx_eq D55 s s') := by
  refine ev_f (fun (i : Nat) (a : Int32 × sx_M) => a.1 = nI i ∧ cP (ps (g1 p q W) P i) a.2 ∧ sx_eq D55 s a.2) W ?_ ?_ (i := 0) (by omega) ⟨rfl, hc, sx_rf _ _⟩
  · rintro i ⟨a1, s1⟩ hi ⟨ea, h1, h2⟩
    simp only at ea h1 h2
    subst ea
    have hp1 := rowH_eq h2 (fun z => z) hp
    have hq1 := rowH_eq h2 (fun z => z) hq
    have hS := ps_lt (fun P w => g1_lt (p := p) (q := q)) hS0 i (by omega)
    have hin : ¬ (nI i < 0 ∨ 7 ≤ (nI i).toNatClampNeg) := by
      rw [nI_cl (by omega)]
      exact fun q => q.elim (nI_pos (by omega)) (by omega)
    have e : ps (g1 p q W) P (i + 1) = g1 p q W (ps (g1 p q W) P i) i := rfl
    rw [e]
    generalize ps (g1 p q W) P i = Q at h1 hS
    have h8 := (hp1 i hi).2
    have h8' := (hq1 i hi).2
    have hbt : 2 ^ W ≤ 2 ^ 7 := Nat.pow_le_pow_right (by omega) hW
    simp only [f_X10_trace_L115]
    rw [if_neg (show ¬ nI W ≤ nI i from nI_ge hi (by omega)), if_pos hin, if_pos hin, nI_cl (by omega), (hp1 i hi).1, (hq1 i hi).1]
    unfold g1
    by_cases z : p.getD i 0 = q.getD i 0
    · rw [if_pos (show nI (p.getD i 0) = nI (q.getD i 0) by rw [z]), if_pos z]
      exact ⟨.inl (nI i + 1, s1), rfl, nI_1 i, h1, h2⟩
    · rw [if_neg (show ¬ nI (p.getD i 0) = nI (q.getD i 0) from of_eq_false (nI_eq_F z (by omega) (by omega))), if_neg z, h1.2.2.2.2, nI_has (show Q.1 < 2 ^ 31 by omega) (by omega)]
      by_cases hb : Q.1.testBit i = true
      · rw [if_pos hb, if_neg (show ¬ nI 1 = 0 from n1_0)]
        exact ⟨.inl (nI i + 1, s1), rfl, nI_1 i, by rw [if_pos hb]; exact h1, h2⟩
      · rw [if_neg hb, if_pos (show nI 0 = 0 from rfl)]
        obtain ⟨r, e, r1, r2, r3⟩ := c_follow hW hS h1 hp1 hq1 hi
        rw [bnd e, r1]
        refine ⟨_, rfl, nI_1 i, by
          rw [if_neg hb]
          refine ⟨?_, ?_, ?_, ?_, ?_⟩
          · show rI (wI (wI _ _ _ _) _ _ _) _ _ = _
            rw [rI_F (by omega), rI_T ⟨rfl, rfl⟩, r2.1]; rfl
          · show rI (wI (wI _ _ _ _) _ _ _) _ _ = _
            rw [rI_F (by omega), rI_F (by omega)]; exact r2.2.1
          · show rI (wI (wI _ _ _ _) _ _ _) _ _ = _
            rw [rI_F (by omega), rI_F (by omega)]; exact r2.2.2.1
          · show rI (wI (wI _ _ _ _) _ _ _) _ _ = _
            rw [rI_T ⟨rfl, rfl⟩, rI_F (by omega), r2.2.2.2.1]; rfl
          · show rI (wI (wI _ _ _ _) _ _ _) _ _ = _
            rw [rI_F (by omega), rI_F (by omega)]; exact r2.2.2.2.2, sx_wI' (sx_wI' (sx_tr h2 r3) rfl) rfl⟩
  · rintro ⟨a1, s1⟩ ⟨ea, h1, h2⟩
    simp only at ea h1 h2
    subst ea
    refine ⟨.inr s1, ?_, h1, h2⟩
    simp only [f_X10_trace_L115]
    rw [if_pos (nI_le (Nat.le_refl _) (by omega))]
def P00 : rdP := (0, 0, 0, 0, 0)
def rdE (p q : List Nat) (W : Nat) : rdP := ps (g1 p q W) (ps (g0 p q W) P00 W) W
theorem c_trace {ra rb W : Nat} {p q : List Nat} {s : sx_M} (hW : W ≤ 7) (hp : rowH ra W p s) (hq : rowH rb W q s) : Ev (f_X10_trace ra rb (nI W) s) (fun s' => cP (rdE p q W) s') := by
  have hx : sx_eq D55 s (wI (wI (wI (wI (wI s 55 0 (0 : Int32)) 55 1 (0 : Int32)) 55 2 (0 : Int32)) 55 3 (0 : Int32)) 55 4 (0 : Int32)) := sx_wI' (sx_wI' (sx_wI' (sx_wI' (sx_wI' (sx_rf _ _) rfl) rfl) rfl) rfl) rfl
  have h0 : cP P00 (wI (wI (wI (wI (wI s 55 0 (0 : Int32)) 55 1 (0 : Int32)) 55 2 (0 : Int32)) 55 3 (0 : Int32)) 55 4 (0 : Int32)) := by
    refine ⟨?_, ?_, ?_, ?_, rI_T ⟨rfl, rfl⟩⟩
    · rw [rI_F (by omega), rI_F (by omega), rI_F (by omega), rI_F (by omega), rI_T ⟨rfl, rfl⟩]; rfl
    · rw [rI_F (by omega), rI_F (by omega), rI_F (by omega), rI_T ⟨rfl, rfl⟩]; rfl
    · rw [rI_F (by omega), rI_F (by omega), rI_T ⟨rfl, rfl⟩]; rfl
    · rw [rI_F (by omega), rI_T ⟨rfl, rfl⟩]; rfl
  unfold f_X10_trace
  generalize wI (wI (wI (wI (wI s 55 0 (0 : Int32)) 55 1 (0 : Int32)) 55 2 (0 : Int32)) 55 3 (0 : Int32)) 55 4 (0 : Int32) = s0 at hx h0 ⊢
  have m1 : f_J9_min_7cf53 7 7 s0 = some (7, s0) := by
    unfold f_J9_min_7cf53
    rw [if_neg (by decide)]
  have m2 : f_J9_min_7cf53 (nI W) 7 s0 = some (nI W, s0) := by
    unfold f_J9_min_7cf53
    rw [if_neg (show ¬ 7 < nI W from of_eq_false (nI_lt_F (a := 7) (b := W) hW (by omega)))]
  have hp0 := rowH_eq hx (fun z => z) hp
  have hq0 := rowH_eq hx (fun z => z) hq
  obtain ⟨s1, e1, c1, x1⟩ := c_pass0 (P := P00) hW rfl h0 hp0 hq0
  obtain ⟨s2, e2, c2, x2⟩ := c_pass1 hW (ps_lt (fun P w => g0_lt (p := p) (q := q)) (show P00.1 < 2 ^ W from Nat.pow_pos (by omega)) W (Nat.le_refl _)) c1 (rowH_eq x1 (fun z => z) hp0) (rowH_eq x1 (fun z => z) hq0)
  refine ⟨s2, ?_, c2⟩
  rw [bnd m1, bnd m2, bnd e1, bnd e2]
