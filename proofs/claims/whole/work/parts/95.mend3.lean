/-! mended: the two scans, the class's first -/
def bdM (m : mv) : Prop := 0 ≤ gnM m ∧ gnM m ≤ 1000000
theorem bdM_X {o : Option Int} {w t : Nat} {k : Bool} {m : mv} (hm : bdM m) (ho : ∀ a, o = some a → -1000000 ≤ a ∧ a ≤ 1000000) : bdM (mvX o w t k m) := by
  cases o with
  | none => exact hm
  | some a =>
    have ha := ho a rfl
    by_cases z : a ≤ gnM m
    · rw [mvX_le z]; exact hm
    · rw [mvX_gt z]
      have h1 := hm.1
      exact ⟨show 0 ≤ a by omega, show a ≤ 1000000 by omega⟩
def m1R (T : tb) (h : hs) (w : Nat) (m : mv) : Nat → mv
  | 0 => m
  | n + 1 => if wo h n 0 T.1 = none then mvX (goG T h w n) w n false (m1R T h w m n) else m1R T h w m n
def m1A (T : tb) (h : hs) : Nat → mv
  | 0 => none
  | n + 1 => m1R T h n (m1A T h n) T.2.1
theorem goG_b {T : tb} {h : hs} (hT : tb_ok T) (hk : gok T h) {w j : Nat} (hw : w < T.1) : ∀ a, goG T h w j = some a → -1000000 ≤ a ∧ a ≤ 1000000 := fun a e => by
  have := goG_bd hT hk hw e
  omega
theorem m1R_bd {T : tb} {h : hs} (hT : tb_ok T) (hk : gok T h) {w : Nat} (hw : w < T.1) {m : mv} (hm : bdM m) : ∀ n, bdM (m1R T h w m n)
  | 0 => hm
  | n + 1 => by
    unfold m1R
    split
    · exact bdM_X (m1R_bd hT hk hw hm n) (goG_b hT hk hw)
    · exact m1R_bd hT hk hw hm n
theorem m1A_bd {T : tb} {h : hs} (hT : tb_ok T) (hk : gok T h) : ∀ n, n ≤ T.1 → bdM (m1A T h n)
  | 0, _ => ⟨show (0 : Int) ≤ 0 by decide, show (0 : Int) ≤ 1000000 by decide⟩
  | n + 1, hn => m1R_bd hT hk (by omega) (m1A_bd hT hk n (by omega)) _
theorem hC_eq {D : sx_D} {T : tb} {h : hs} {s s' : sx_M} (hx : sx_eq D s s') (h1 : ¬ D.2.2.1 47) (h2 : ¬ D.2.2.1 48) (hh : hC T h s) : hC T h s' :=
  ⟨fun w hw => by rw [hx.2.2.1 _ _ h1]; exact hh.1 w hw, fun j hj => by rw [hx.2.2.1 _ _ h2]; exact hh.2 j hj⟩
theorem c_row1 {T : tb} {h : hs} {s : sx_M} {m : mv} (hT : tb_ok T) (hg : gridIs 3 T s) (hh : hC T h s) (hk : gok T h) {w i : Nat} (hw : w < T.1) (hi : h w = some i) (hm : bdM m) (hc : cM h m s) : Ev (whT (f_X0_findStep_L20 (nI w)) (0, s)) (fun s' => cM h (m1R T h w m T.2.1) s' ∧ sx_eq Dm s s') := by
  have h7 := hT.1
  have h8 := hT.2.1
  refine ev_f (fun (j : Nat) (a : Int32 × sx_M) => a.1 = nI j ∧ cM h (m1R T h w m j) a.2 ∧ sx_eq Dm s a.2) T.2.1 ?_ ?_ (i := 0) (by omega) ⟨rfl, hc, sx_rf _ _⟩
  · rintro j ⟨a1, s1⟩ hj ⟨ea, b1, b2⟩
    simp only at ea b1 b2
    subst ea
    have hin : ¬ (nI j < 0 ∨ 8 ≤ (nI j).toNatClampNeg) := by
      rw [nI_cl (by omega)]
      exact fun q => q.elim (nI_pos (by omega)) (by omega)
    have hg1 : gridIs 3 T s1 := grid_eq b2 (by simp only [Dm]; omega) (by simp only [Dm]; omega) (fun z => z) hg
    have hh1 := hC_eq b2 (fun z => z) (fun z => z) hh
    have e2 := oN_n1' hT (o := wo h j 0 T.1) (fun v hv => by have := (wo_lt hv).1; omega)
    simp only [f_X0_findStep_L20, hg1.2.1]
    rw [if_neg (show ¬ nI T.2.1 ≤ nI j from nI_ge hj (by omega)), if_pos hin, nI_cl (by omega), hh1.2 j hj]
    by_cases z : wo h j 0 T.1 = none
    · rw [if_pos (e2.mpr z), bnd (c_going hT hg1 hh1 hk hw hi hj)]
      obtain ⟨s2, e, c1, c2⟩ := c_weigh (m1R_bd hT hk hw hm j) b1 (goG_b hT hk hw (j := j)) w j false
      have e' : f_X0_weigh (nI w) (nI j) (cH (goG T h w j)) s1 = some s2 := e
      refine ⟨.inl (nI j + 1, s2), ?_, nI_1 j, ?_, sx_tr b2 c2⟩
      · simp only []
        rw [bnd e']
      · show cM h (m1R T h w m (j + 1)) s2
        unfold m1R
        rw [if_pos z]
        exact c1
    · rw [if_neg (fun q => z (e2.mp q))]
      refine ⟨.inl (nI j + 1, s1), rfl, nI_1 j, ?_, b2⟩
      show cM h (m1R T h w m (j + 1)) s1
      unfold m1R
      rw [if_neg z]
      exact b1
  · rintro ⟨a1, s1⟩ ⟨ea, b1, b2⟩
    simp only at ea b1 b2
    subst ea
    have hg1 : gridIs 3 T s1 := grid_eq b2 (by simp only [Dm]; omega) (by simp only [Dm]; omega) (fun z => z) hg
    refine ⟨.inr s1, ?_, b1, b2⟩
    simp only [f_X0_findStep_L20, hg1.2.1]
    rw [if_pos (show nI T.2.1 ≤ nI T.2.1 from nI_le (Nat.le_refl _) (by omega))]
