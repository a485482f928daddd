def Dg : sx_D := (fun o k => o = 46 ∧ k = 4, fun o k => o = 46 ∧ k = 3, fun o => o = 47 ∨ o = 48, fun _ => False)
def h0 : hs := fun _ => none
theorem cb1_n {T : tb} (hT : tb_ok T) {h : hs} {b : bt} (hb : bOK T h b) : cb1 b = (9223372036854775807 : Int64) ↔ b = none := by
  cases b with
  | none => exact ⟨fun _ => rfl, fun _ => rfl⟩
  | some c =>
    obtain ⟨w, j, y⟩ := c
    have hyb := hT.2.2.1 _ _ y (hb w j y rfl).2.2.1
    refine ⟨fun q => ?_, fun q => by cases q⟩
    have q : jJ y = (9223372036854775807 : Int64) := q
    exact absurd q (of_eq_false (jnv (by omega) (by omega)))
theorem c_least0 {T : tb} {h : hs} {s : sx_M} (hT : tb_ok T) (hg : gridIs 3 T s) (hh : hC T h s) (hb : bsA T h T.1 = none) : f_X0_takeLeast s = some (0, s) := by
  unfold f_X0_takeLeast
  rw [bnd (c_scan hT hg hh), hb, if_pos (show cb1 none = 9223372036854775807 from rfl)]
theorem c_least1 {T : tb} {h : hs} {s : sx_M} (hT : tb_ok T) (hg : gridIs 3 T s) (hh : hC T h s) {w j : Nat} {x : Int} (hb : bsA T h T.1 = some (w, j, x)) : f_X0_takeLeast s = some (1, wJ (wA (wA s 47 w (nI j)) 48 j (nI w)) 46 3 (rJ s 46 3 + jJ x)) := by
  have h7 := hT.1
  have h8 := hT.2.1
  have hok := bsA_ok (T := T) (h := h) T.1 (Nat.le_refl _)
  have hc := cb1_n hT hok
  obtain ⟨a1, a2, a3, a4, a5⟩ := hok w j x hb
  have hin : ¬ (nI w < 0 ∨ 7 ≤ (nI w).toNatClampNeg) := by
    rw [nI_cl (by omega)]
    exact fun q => q.elim (nI_pos (by omega)) (by omega)
  have hin2 : ¬ (nI j < 0 ∨ 8 ≤ (nI j).toNatClampNeg) := by
    rw [nI_cl (by omega)]
    exact fun q => q.elim (nI_pos (by omega)) (by omega)
  have hse : f_X0_seat (nI w) (nI j) s = some (wA (wA s 47 w (nI j)) 48 j (nI w)) := by
    unfold f_X0_seat
    rw [bnd (f_has_in hT hg a1 a2), if_neg n1_0, if_pos hin, if_pos hin2, nI_cl (show w < 2147483648 by omega), nI_cl (show j < 2147483648 by omega)]
  have hse' : f_X0_seat (cb2 (some (w, j, x))) (cb3 (some (w, j, x))) s = some (wA (wA s 47 w (nI j)) 48 j (nI w)) := hse
  unfold f_X0_takeLeast
  rw [bnd (c_scan hT hg hh), if_neg (fun q => by rw [hc.mp q] at hb; cases hb), hb, bnd hse']
  rfl
theorem hC_up {T : tb} {h : hs} {s s' : sx_M} {w j : Nat} (hh : hC T h s) (hw : w < T.1) (hj : j < T.2.1) (hj8 : j < 8) (hn : h w = none) (hf : wo h j 0 T.1 = none) (e1 : ∀ v, rA s' 47 v = if v = w then nI j else rA s 47 v) (e2 : ∀ k, rA s' 48 k = if k = j then nI w else rA s 48 k) : hC T (up h w j) s' := by
  refine ⟨fun v hv => ?_, fun k hk => ?_⟩
  · rw [e1]
    by_cases z : v = w
    · rw [if_pos z, z, up_w]
      exact ⟨rfl, fun i hi => by cases hi; exact hj8⟩
    · rw [if_neg z, up_o z]
      exact hh.1 v hv
  · rw [e2]
    by_cases z : k = j
    · rw [if_pos z, z, wo_up1 T.1 0 hf (by omega) (by omega)]
      rfl
    · rw [if_neg z, wo_up hn z]
      exact hh.2 k hk
theorem c_take52 {T : tb} (hT : tb_ok T) : ∀ (n : Nat) (h : hs) (s : sx_M), T.1 = nnN h T.1 + n → gridIs 3 T s → cG T h s → Ev (whT f_X0_take_L52 s) (fun s' => cG T (gr T n h) s') := by
  have h7 := hT.1
  have h8 := hT.2.1
  intro n
  induction n with
  | zero =>
    intro h s hn hg hc
    refine ⟨s, ?_, hc⟩
    rw [whT_eq]
    simp only [f_X0_take_L52, hg.1, hc.2.2]
    rw [if_pos (show nI T.1 ≤ nI (nnN h T.1) from nI_le (by omega) (by omega))]
    rfl
  | succ n ih =>
    intro h s hn hg hc
    have hle := nn_le h T.1
    cases hb : bsA T h T.1 with
    | none =>
      refine ⟨s, ?_, by rw [gr_n (n + 1) hb]; exact hc⟩
      rw [whT_eq]
      simp only [f_X0_take_L52, hg.1, hc.2.2]
      rw [if_neg (show ¬ nI T.1 ≤ nI (nnN h T.1) from nI_ge (by omega) (by omega)), bnd (c_least0 hT hg hc.1 hb), if_pos rfl]
      rfl
    | some c =>
      obtain ⟨w, j, x⟩ := c
      obtain ⟨a1, a2, a3, a4, a5⟩ := bsA_ok (T := T) (h := h) T.1 (Nat.le_refl _) w j x hb
      have hst : f_X0_take_L52 s = some (.inl (wI (wJ (wA (wA s 47 w (nI j)) 48 j (nI w)) 46 3 (rJ s 46 3 + jJ x)) 46 4 (nI (nnN h T.1) + 1))) := by
        simp only [f_X0_take_L52, hg.1, hc.2.2]
        rw [if_neg (show ¬ nI T.1 ≤ nI (nnN h T.1) from nI_ge (by omega) (by omega)), bnd (c_least1 hT hg hc.1 hb), if_neg n1_0, ← hc.2.2]
        rfl
      have hx : sx_eq Dg s (wI (wJ (wA (wA s 47 w (nI j)) 48 j (nI w)) 46 3 (rJ s 46 3 + jJ x)) 46 4 (nI (nnN h T.1) + 1)) := sx_wI' (sx_wJ' (sx_wA' (sx_wA' (sx_rf _ _) (Or.inl rfl)) (Or.inr rfl)) ⟨rfl, rfl⟩) ⟨rfl, rfl⟩
      have hnn := nn_up (j := j) a4 T.1
      have hsm := sm_up a4 a3 T.1
      rw [if_pos a1] at hnn hsm
      have hG : cG T (up h w j) (wI (wJ (wA (wA s 47 w (nI j)) 48 j (nI w)) 46 3 (rJ s 46 3 + jJ x)) 46 4 (nI (nnN h T.1) + 1)) := by
        refine ⟨hC_up hc.1 a1 a2 (by omega) a4 a5 (fun v => ?_) (fun k => ?_), ?_, ?_⟩
        · show rA (wA (wA s 47 w (nI j)) 48 j (nI w)) 47 v = _
          rw [rA_F (by omega)]
          by_cases z : v = w
          · rw [if_pos z, rA_T ⟨rfl, z⟩]
          · rw [if_neg z, rA_F (by omega)]
        · show rA (wA (wA s 47 w (nI j)) 48 j (nI w)) 48 k = _
          by_cases z : k = j
          · rw [if_pos z, rA_T ⟨rfl, z⟩]
          · rw [if_neg z, rA_F (by omega), rA_F (by omega)]
        · show rJ (wJ (wA (wA s 47 w (nI j)) 48 j (nI w)) 46 3 (rJ s 46 3 + jJ x)) 46 3 = _
          rw [hsm, rJ_wJ, if_pos ⟨rfl, rfl⟩, hc.2.1, jJ_add]
        · rw [rI_T ⟨rfl, rfl⟩, hnn, nI_1]
      obtain ⟨r, e, hr⟩ := ih (up h w j) _ (by omega) (grid_eq hx (by simp only [Dg]; omega) (by simp only [Dg]; omega) (fun z => z) hg) hG
      refine ⟨r, ?_, by rw [gr_s hb]; exact hr⟩
      rw [whT_eq, hst]
      exact e
