/-! mended: the best step so far: gain, worker, job or other worker, whether two change -/
abbrev mv : Type := Option (Int × Nat × Nat × Bool)
def gnM (m : mv) : Int := (m.map (fun c => c.1)).getD 0
def mvX (o : Option Int) (w t : Nat) (k : Bool) (m : mv) : mv :=
  match o with
  | none => m
  | some a => if a ≤ gnM m then m else some (a, w, t, k)
theorem mvX_n (w t : Nat) (k : Bool) (m : mv) : mvX none w t k m = m := rfl
theorem mvX_le {a : Int} {w t : Nat} {k : Bool} {m : mv} (h : a ≤ gnM m) : mvX (some a) w t k m = m := if_pos h
theorem mvX_gt {a : Int} {w t : Nat} {k : Bool} {m : mv} (h : ¬ a ≤ gnM m) : mvX (some a) w t k m = some (a, w, t, k) := if_neg h
def tgJ (h : hs) (t : Nat) (k : Bool) : Nat := if k = true then (h t).getD 0 else t
def cM (h : hs) (m : mv) (s : sx_M) : Prop := rJ s 46 6 = jJ (gnM m) ∧ ∀ g w t k, m = some (g, w, t, k) → rI s 46 7 = nI w ∧ rI s 46 8 = nI (tgJ h t k)
def Dm : sx_D := (fun o k => o = 46 ∧ (k = 7 ∨ k = 8), fun o k => o = 46 ∧ k = 6, fun _ => False, fun _ => False)
theorem c_weigh {h : hs} {m : mv} {s : sx_M} (hm : 0 ≤ gnM m ∧ gnM m ≤ 1000000) (hc : cM h m s) {o : Option Int} (ho : ∀ a, o = some a → -1000000 ≤ a ∧ a ≤ 1000000) (w t : Nat) (k : Bool) : Ev (f_X0_weigh (nI w) (nI (tgJ h t k)) (cH o) s) (fun s' => cM h (mvX o w t k m) s' ∧ sx_eq Dm s s') := by
  unfold f_X0_weigh
  rw [hc.1]
  cases o with
  | none =>
    rw [if_pos (show cH none ≤ jJ (gnM m) from of_eq_true (by
      show ((-9223372036854775808 : Int64) ≤ jJ (gnM m)) = True
      rw [jJ_ns]
      exact jJ_le_T (by omega) (by omega) (by omega)))]
    exact ⟨s, rfl, hc, sx_rf _ _⟩
  | some a =>
    have ha := ho a rfl
    by_cases z : a ≤ gnM m
    · rw [if_pos (show cH (some a) ≤ jJ (gnM m) from of_eq_true (jJ_le_T (a := a) (b := gnM m) z (by omega) (by omega))), mvX_le z]
      exact ⟨s, rfl, hc, sx_rf _ _⟩
    · rw [if_neg (show ¬ cH (some a) ≤ jJ (gnM m) from of_eq_false (jJ_le_F (a := a) (b := gnM m) (by omega) (by omega) (by omega))), mvX_gt z]
      refine ⟨_, rfl, ⟨?_, fun g w' t' k' e => ?_⟩, sx_wI' (sx_wI' (sx_wJ' (sx_rf _ _) ⟨rfl, rfl⟩) ⟨rfl, Or.inl rfl⟩) ⟨rfl, Or.inr rfl⟩⟩
      · rw [rJ_wI, rJ_wI, rJ_T ⟨rfl, rfl⟩]; rfl
      · cases e
        exact ⟨by rw [rI_F (by omega), rI_T ⟨rfl, rfl⟩], rI_T ⟨rfl, rfl⟩⟩
/-- the reference's best step -/
def rM (m : mv) (s : sx_M) : Prop := rI s 58 20 = iI (gnM m) ∧ ∀ g w t k, m = some (g, w, t, k) → rI s 58 21 = nI w ∧ rI s 58 22 = nI t ∧ rI s 58 23 = if k = true then 1 else 0
def Dmr : sx_D := (fun o k => o = 58 ∧ 20 ≤ k ∧ k ≤ 23, fun _ _ => False, fun _ => False, fun _ => False)
theorem r_offers {m : mv} {s : sx_M} (hm : 0 ≤ gnM m ∧ gnM m ≤ 1000000) (hc : rM m s) {a : Int} (ha : -1000000 ≤ a ∧ a ≤ 1000000) (w t : Nat) (k : Bool) : Ev (f_X12_offers (iI a) (nI w) (nI t) (if k = true then 1 else 0) s) (fun s' => rM (mvX (some a) w t k m) s' ∧ sx_eq Dmr s s') := by
  unfold f_X12_offers
  rw [hc.1]
  by_cases z : a ≤ gnM m
  · rw [if_pos (of_eq_true (iI_le_T z (by omega) (by omega))), mvX_le z]
    exact ⟨s, rfl, hc, sx_rf _ _⟩
  · rw [if_neg (of_eq_false (iI_le_F (by omega) (by omega) (by omega))), mvX_gt z, if_pos (by cases k <;> decide)]
    refine ⟨_, rfl, ⟨?_, fun g w' t' k' e => ?_⟩, sx_wI' (sx_wI' (sx_wI' (sx_wI' (sx_rf _ _) ⟨rfl, by omega⟩) ⟨rfl, by omega⟩) ⟨rfl, by omega⟩) ⟨rfl, by omega⟩⟩
    · rw [rI_F (by omega), rI_F (by omega), rI_F (by omega), rI_T ⟨rfl, rfl⟩]; rfl
    · cases e
      exact ⟨by rw [rI_F (by omega), rI_F (by omega), rI_T ⟨rfl, rfl⟩], by rw [rI_F (by omega), rI_T ⟨rfl, rfl⟩], rI_T ⟨rfl, rfl⟩⟩
