/-! mended: what a step gains -/
def cyO (T : tb) (h : hs) (w : Nat) : Int := ((h w).bind (fun i => T.2.2 w i)).getD 0
def goG (T : tb) (h : hs) (w j : Nat) : Option Int := (T.2.2 w j).map (fun x => cyO T h w - x)
def chG (T : tb) (h : hs) (w v jw jv : Nat) : Option Int := (goG T h w jv).bind (fun a => (goG T h v jw).map (fun b => a + b))
theorem goG_bd {T : tb} {h : hs} (hT : tb_ok T) (hk : gok T h) {w j : Nat} (hw : w < T.1) {a : Int} (e : goG T h w j = some a) : -19998 ≤ a ∧ a ≤ 19998 := by
  unfold goG at e
  cases hx : T.2.2 w j with
  | none => rw [hx] at e; cases e
  | some x =>
    rw [hx] at e
    have e : cyO T h w - x = a := Option.some.inj e
    have h1 := hT.2.2.1 _ _ x hx
    have h2 : -9999 ≤ cyO T h w ∧ cyO T h w ≤ 9999 := by
      unfold cyO
      cases hi : h w with
      | none => exact (show (-9999 : Int) ≤ 0 ∧ (0 : Int) ≤ 9999 by decide)
      | some i =>
        obtain ⟨b1, y, b2⟩ := hk w i hw hi
        have := hT.2.2.1 _ _ y b2
        show -9999 ≤ (T.2.2 w i).getD 0 ∧ (T.2.2 w i).getD 0 ≤ 9999
        rw [b2]
        exact this
    omega
theorem c_going {T : tb} {h : hs} {s : sx_M} (hT : tb_ok T) (hg : gridIs 3 T s) (hh : hC T h s) (hk : gok T h) {w i j : Nat} (hw : w < T.1) (hi : h w = some i) (hj : j < T.2.1) : f_X0_goingGain (nI w) (nI j) s = some (cH (goG T h w j), s) := by
  have h7 := hT.1
  obtain ⟨b1, y, b2⟩ := hk w i hw hi
  have hin : ¬ (nI w < 0 ∨ 7 ≤ (nI w).toNatClampNeg) := by
    rw [nI_cl (by omega)]
    exact fun q => q.elim (nI_pos (by omega)) (by omega)
  have hat := f_at_in hT hg hw hj
  have hat2 := f_at_in hT hg hw b1
  rw [b2] at hat2
  have e47 : rA s 47 w = nI i := by rw [(hh.1 w hw).1, hi]; rfl
  have ecy : cyO T h w = y := by unfold cyO; rw [hi]; show (T.2.2 w i).getD 0 = y; rw [b2]; rfl
  unfold f_X0_goingGain goG
  cases hx : T.2.2 w j with
  | none =>
    rw [hx] at hat
    rw [bnd hat, if_pos (show c64 none = 9223372036854775807 from rfl)]
    rfl
  | some x =>
    have hxb := hT.2.2.1 _ _ x hx
    rw [hx] at hat
    rw [bnd hat, if_neg (show ¬ c64 (some x) = 9223372036854775807 from of_eq_false (jnv (by omega) (by omega))), if_pos hin, nI_cl (by omega), e47, bnd hat2, ecy]
    show some (jJ y - jJ x, s) = some (jJ (y - x), s)
    rw [jJ_sub]
theorem c_changing {T : tb} {h : hs} {s : sx_M} (hT : tb_ok T) (hg : gridIs 3 T s) (hh : hC T h s) (hk : gok T h) {w v jw jv : Nat} (hw : w < T.1) (hv : v < T.1) (hjw : h w = some jw) (hjv : h v = some jv) : f_X0_changingGain (nI w) (nI v) s = some (cH (chG T h w v jw jv), s) := by
  have h7 := hT.1
  obtain ⟨b1, _⟩ := hk w jw hw hjw
  obtain ⟨b3, _⟩ := hk v jv hv hjv
  have hin1 : ¬ (nI w < 0 ∨ 7 ≤ (nI w).toNatClampNeg) := by
    rw [nI_cl (by omega)]
    exact fun q => q.elim (nI_pos (by omega)) (by omega)
  have hin2 : ¬ (nI v < 0 ∨ 7 ≤ (nI v).toNatClampNeg) := by
    rw [nI_cl (by omega)]
    exact fun q => q.elim (nI_pos (by omega)) (by omega)
  have ew : rA s 47 w = nI jw := by rw [(hh.1 w hw).1, hjw]; rfl
  have ev : rA s 47 v = nI jv := by rw [(hh.1 v hv).1, hjv]; rfl
  unfold f_X0_changingGain chG
  rw [if_pos hin2, nI_cl (show v < 2147483648 by omega), ev, bnd (c_going hT hg hh hk hw hjw b3), if_pos hin1, nI_cl (show w < 2147483648 by omega), ew, bnd (c_going hT hg hh hk hv hjv b1)]
  cases h1 : goG T h w jv with
  | none => rw [if_pos (show cH none = -9223372036854775808 from rfl)]; rfl
  | some a =>
    have ha := goG_bd hT hk hw h1
    rw [if_neg (show ¬ cH (some a) = -9223372036854775808 by
      show ¬ jJ a = _
      rw [jJ_ns]
      exact of_eq_false (jJ_eq_F (by omega) (by omega) (by omega) (by omega) (by omega)))]
    cases h2 : goG T h v jw with
    | none => rw [if_pos (show cH none = -9223372036854775808 from rfl)]; rfl
    | some b =>
      have hb := goG_bd hT hk hv h2
      rw [if_neg (show ¬ cH (some b) = -9223372036854775808 by
        show ¬ jJ b = _
        rw [jJ_ns]
        exact of_eq_false (jJ_eq_F (by omega) (by omega) (by omega) (by omega) (by omega)))]
      show some (jJ a + jJ b, s) = some (jJ (a + b), s)
      rw [jJ_add]
