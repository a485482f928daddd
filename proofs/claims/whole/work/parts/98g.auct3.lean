def h5 (T : tb) (h : hs) (s : sx_M) : Prop := ∀ w, w < T.1 → rA s 51 w = oN (h w)
def Dou : sx_D := (fun o k => o = 49 ∧ k = 4, fun _ _ => False, fun o => o = 51 ∨ o = 52, fun _ => False)
theorem gok8 {T : tb} {h : hs} (hT : tb_ok T) (hk : gok T h) {w : Nat} (hw : w < T.1) : ∀ j, h w = some j → j < 8 := fun j hj => by
  have := (hk w j hw hj).1
  have := hT.2.1
  omega
theorem c_oust {T : tb} {w j : Nat} {h : hs} {q : List Nat} {s : sx_M} (hT : tb_ok T) (hI : auI T h (w :: q)) (hj : j < 8) (hg : gridIs 3 T s) (hh : h5 T h s) (hq : qIs 52 0 q s) (h4 : rI s 49 4 = nI q.length) : Ev (f_X8_ousted (nI j) s) (fun s' => h5 T (ou j h q T.1).1 s' ∧ qIs 52 0 (ou j h q T.1).2 s' ∧ rI s' 49 4 = nI (ou j h q T.1).2.length ∧ sx_eq Dou s s') := by
  have h7 := hT.1
  have hL : Ev (whT (f_X8_ousted_L2 (nI j)) (0, s)) (fun s' => h5 T (ou j h q T.1).1 s' ∧ qIs 52 0 (ou j h q T.1).2 s' ∧ rI s' 49 4 = nI (ou j h q T.1).2.length ∧ sx_eq Dou s s') := by
    refine ev_f (fun (i : Nat) (a : Int32 × sx_M) => a.1 = nI i ∧ h5 T (ou j h q i).1 a.2 ∧ qIs 52 0 (ou j h q i).2 a.2 ∧ rI a.2 49 4 = nI (ou j h q i).2.length ∧ sx_eq Dou s a.2) T.1 ?_ ?_ (i := 0) (by omega) ⟨rfl, hh, hq, h4, sx_rf _ _⟩
    · rintro i ⟨a1, s1⟩ hi ⟨ea, b1, b2, b3, b4⟩
      simp only at ea b1 b2 b3 b4
      subst ea
      have hI1 := ou_I (j := j) hI i (by omega)
      have hg1 : gridIs 3 T s1 := grid_eq b4 (by simp only [Dou]; omega) (by simp only [Dou]; omega) (fun z => z) hg
      have hin : ¬ (nI i < 0 ∨ 7 ≤ (nI i).toNatClampNeg) := by
        rw [nI_cl (by omega)]
        exact fun q => q.elim (nI_pos (by omega)) (by omega)
      have e1 := oN_eq (gok8 hT hI1.2.2.1 hi) hj
      by_cases z : (ou j h q i).1 i = some j
      · have hlen : (ou j h q i).2.length < 7 := by
          have h1 := hI1.2.2.2
          have h2 : (w :: (ou j h q i).2).length = (ou j h q i).2.length + 1 := rfl
          omega
        have hin2 : ¬ (nI (ou j h q i).2.length < 0 ∨ 7 ≤ (nI (ou j h q i).2.length).toNatClampNeg) := by
          rw [nI_cl (by omega)]
          exact fun q => q.elim (nI_pos (by omega)) (by omega)
        refine ⟨.inl (nI (i + 1), wI (wA (wA s1 51 i (-1)) 52 (ou j h q i).2.length (nI i)) 49 4 (nI ((ou j h q i).2.length + 1))), ?_, rfl, ?_, ?_, ?_, sx_wI' (sx_wA' (sx_wA' b4 (Or.inl rfl)) (Or.inr rfl)) ⟨rfl, rfl⟩⟩
        · simp only [f_X8_ousted_L2]
          rw [hg1.1, if_neg (show ¬ nI T.1 ≤ nI i from nI_ge hi (by omega)), if_pos hin, nI_cl (show i < 2147483648 by omega), b1 i hi, if_pos (e1.mpr z), b3, if_neg (show ¬ (7 : Int32) ≤ nI (ou j h q i).2.length from nI_ge (b := 7) hlen (by omega)), if_pos (show ¬ (nI i < 0 ∨ 7 ≤ i) from fun q => q.elim (nI_pos (by omega)) (by omega)), show rI (wA s1 51 i (-1)) 49 4 = nI (ou j h q i).2.length from b3, if_pos hin2, nI_cl (show (ou j h q i).2.length < 2147483648 by omega), show rI (wA (wA s1 51 i (-1)) 52 (ou j h q i).2.length (nI i)) 49 4 = nI (ou j h q i).2.length from b3, nI_1, nI_1]
        · rw [ou_p z]
          intro v hv
          show rA (wA (wA s1 51 i (-1)) 52 (ou j h q i).2.length (nI i)) 51 v = oN (dn (ou j h q i).1 i v)
          rw [rA_F (by omega)]
          by_cases y : v = i
          · rw [rA_T ⟨rfl, y⟩, y, dn_w]; rfl
          · rw [rA_F (by omega), dn_o y]; exact b1 v hv
        · rw [ou_p z]
          refine qIs_ap (s := s1) b2 (fun m hm => ?_) ?_
          · show rA (wA (wA s1 51 i (-1)) 52 (ou j h q i).2.length (nI i)) 52 (0 + m) = _
            rw [rA_F (by omega), rA_F (by omega)]
          · show rA (wA (wA s1 51 i (-1)) 52 (ou j h q i).2.length (nI i)) 52 (0 + (ou j h q i).2.length) = _
            rw [rA_T ⟨rfl, by omega⟩]
        · rw [ou_p z]
          show rI (wI _ 49 4 _) 49 4 = nI ((ou j h q i).2 ++ [i]).length
          rw [rI_T ⟨rfl, rfl⟩, List.length_append]
          rfl
      · refine ⟨.inl (nI (i + 1), s1), ?_, rfl, by rw [ou_n z]; exact b1, by rw [ou_n z]; exact b2, by rw [ou_n z]; exact b3, b4⟩
        simp only [f_X8_ousted_L2]
        rw [hg1.1, if_neg (show ¬ nI T.1 ≤ nI i from nI_ge hi (by omega)), if_pos hin, nI_cl (show i < 2147483648 by omega), b1 i hi, if_neg (fun q => z (e1.mp q)), nI_1]
    · rintro ⟨a1, s1⟩ ⟨ea, b1, b2, b3, b4⟩
      simp only at ea b1 b2 b3 b4
      subst ea
      have hg1 : gridIs 3 T s1 := grid_eq b4 (by simp only [Dou]; omega) (by simp only [Dou]; omega) (fun z => z) hg
      refine ⟨.inr s1, ?_, b1, b2, b3, b4⟩
      simp only [f_X8_ousted_L2]
      rw [hg1.1, if_pos (show nI T.1 ≤ nI T.1 from nI_le (Nat.le_refl _) (by omega))]
  obtain ⟨s1, e1, c1⟩ := hL
  refine ⟨s1, ?_, c1⟩
  unfold f_X8_ousted
  rw [bnd e1]
def auC (T : tb) (c : Nat) (h : hs) (q : List Nat) (p : Nat → Int64) (s : sx_M) : Prop := h5 T h s ∧ qIs 52 0 q s ∧ rI s 49 4 = nI q.length ∧ rI s 49 5 = nI c ∧ ∀ j, j < 8 → rB s 50 j = p j
def Dbd : sx_D := (fun o k => o = 49 ∧ k = 4, fun _ _ => False, fun o => o = 51 ∨ o = 52, fun o => o = 50)
theorem c_bid1 {T : tb} {w j c : Nat} {h : hs} {q : List Nat} {p : Nat → Int64} {s : sx_M} (hT : tb_ok T) (hI : auI T h (w :: q)) (hg : gridIs 3 T s) (hc : auC T c h (w :: q) p s) (z : Int32) (hj : lnO T p w none T.2.1 = some j) : Ev (f_X8_bid (nI w) z s) (fun r => r.1 = 1 ∧ auC T c (up (ou j h q T.1).1 w j) (ou j h q T.1).2 (pup p j (ahd T p w j + z.toInt64)) r.2 ∧ sx_eq Dbd s r.2) := by
  have h7 := hT.1
  have h8 := hT.2.1
  obtain ⟨c1, c2, c3, c4, c5⟩ := hc
  have hw := (hI.1 w (List.mem_cons_self ..)).1
  obtain ⟨j1, j2⟩ := ln_ok hj
  have hin : ¬ (nI j < 0 ∨ 8 ≤ (nI j).toNatClampNeg) := by
    rw [nI_cl (by omega)]
    exact fun q => q.elim (nI_pos (by omega)) (by omega)
  have hinw : ¬ (nI w < 0 ∨ 7 ≤ (nI w).toNatClampNeg) := by
    rw [nI_cl (by omega)]
    exact fun q => q.elim (nI_pos (by omega)) (by omega)
  have key : ∀ t0 : Int64, Ev (f_X8_bid_J48 (nI w) z (nI j) t0 s) (fun r => r.1 = 1 ∧ auC T c (up (ou j h q T.1).1 w j) (ou j h q T.1).2 (pup p j (t0 + z.toInt64)) r.2 ∧ sx_eq Dbd s r.2) := by
    intro t0
    have x0 : sx_eq Dbd s (wB s 50 j (p j + (t0 + z.toInt64))) := sx_wB' (sx_rf _ _) rfl
    obtain ⟨s1, e1, d1, d2, x1⟩ := c_leave (w := w) (q := q) (s := wB s 50 j (p j + (t0 + z.toInt64))) c2 c3 (by
      have h1 := hI.2.2.2
      have h2 : (w :: q).length = q.length + 1 := rfl
      omega)
    have x1 : sx_eq Dbd (wB s 50 j (p j + (t0 + z.toInt64))) s1 := sx_mono x1 (fun _ _ z => z) (fun _ _ z => z) (fun _ z => Or.inr z) (fun _ z => z.elim)
    have x01 := sx_tr x0 x1
    have hg1 : gridIs 3 T s1 := grid_eq x01 (by simp only [Dbd]; omega) (by simp only [Dbd]; omega) (by simp only [Dbd]; omega) hg
    obtain ⟨s2, e2, f1, f2, f3, x2⟩ := c_oust hT hI (show j < 8 by omega) hg1 (fun v hv => by
      have x1' := (sx_mono (D := ((fun o k => o = 49 ∧ k = 4, fun _ _ => False, fun o => o = 51 ∨ o = 52, fun o => o = 50) : sx_D)) x1 (fun _ _ z => z) (fun _ _ z => z) (fun _ z => z) (fun _ z => z))
      obtain ⟨s1', e1', _, _, x1''⟩ := c_leave (w := w) (q := q) (s := wB s 50 j (p j + (t0 + z.toInt64))) c2 c3 (by
        have h1 := hI.2.2.2
        have h2 : (w :: q).length = q.length + 1 := rfl
        omega)
      rw [e1] at e1'
      cases e1'
      rw [x1''.2.2.1 51 v (by simp only; omega)]
      exact c1 v hv) d1 d2
    refine ⟨(1, wA s2 51 w (nI j)), ?_, rfl, ⟨fun v hv => ?_, ?_, f3, ?_, fun i hi => ?_⟩, sx_wA' (sx_tr x01 (sx_mono x2 (fun _ _ z => z) (fun _ _ z => z) (fun _ z => z) (fun _ z => z.elim))) (Or.inl rfl)⟩
    · unfold f_X8_bid_J48
      rw [if_pos hin, if_pos hin, nI_cl (show j < 2147483648 by omega), c5 j (by omega), bnd e1, bnd e2, if_pos hinw, nI_cl (show w < 2147483648 by omega)]
    · show rA (wA s2 51 w (nI j)) 51 v = oN (up (ou j h q T.1).1 w j v)
      by_cases y : v = w
      · rw [rA_T ⟨rfl, y⟩, y, up_w]; rfl
      · rw [rA_F (by omega), up_o y]; exact f1 v hv
    · refine qIs_e (s := s2) f2 (fun i hi => ?_)
      rw [rA_F (by omega)]
    · show rI s2 49 5 = nI c
      rw [x2.1 49 5 (by simp only [Dou]; omega), x1.1 49 5 (by simp only [Dbd]; omega)]
      exact c4
    · show rB s2 50 i = pup p j (t0 + z.toInt64) i
      rw [x2.2.2.2 50 i (fun z => z)]
      obtain ⟨s1', e1', _, _, x1''⟩ := c_leave (w := w) (q := q) (s := wB s 50 j (p j + (t0 + z.toInt64))) c2 c3 (by
        have h1 := hI.2.2.2
        have h2 : (w :: q).length = q.length + 1 := rfl
        omega)
      rw [e1] at e1'
      cases e1'
      rw [x1''.2.2.2 50 i (fun z => z)]
      unfold pup
      by_cases y : i = j
      · rw [if_pos y, rB_T ⟨rfl, y⟩]
      · rw [if_neg y, rB_F (by omega)]; exact c5 i hi
  have l1 : f_X8_leastNet (nI w) (-1) s = some (oN (lnO T p w none T.2.1), s) := c_ln hT hg c5 hw (a := none) (fun v hv => by cases hv)
  have l2 : f_X8_leastNet (nI w) (nI j) s = some (oN (lnO T p w (some j) T.2.1), s) := c_ln hT hg c5 hw (a := some j) (fun v hv => by cases hv; omega)
  rw [hj] at l1
  have l1 : f_X8_leastNet (nI w) (-1) s = some (nI j, s) := l1
  unfold f_X8_bid
  rw [bnd l1, if_neg (oN_n1 j (by omega)), bnd l2]
  unfold ahd
  cases hk : lnO T p w (some j) T.2.1 with
  | none =>
    rw [if_pos (show oN none = -1 from rfl)]
    exact key 1000
  | some k =>
    obtain ⟨k1, k2⟩ := ln_ok hk
    have n1 : f_X8_net (nI w) (oN (some k)) s = some (nt T p w k, s) := c_net hT hg c5 hw k1
    rw [if_neg (show ¬ oN (some k) = -1 from oN_n1 k (by omega)), bnd n1, bnd (c_net hT hg c5 hw j1)]
    exact key _
theorem c_bid0 {T : tb} {w c : Nat} {h : hs} {q : List Nat} {p : Nat → Int64} {s : sx_M} (hT : tb_ok T) (hI : auI T h (w :: q)) (hg : gridIs 3 T s) (hc : auC T c h (w :: q) p s) (z : Int32) (hj : lnO T p w none T.2.1 = none) : f_X8_bid (nI w) z s = some (0, s) := by
  have hw := (hI.1 w (List.mem_cons_self ..)).1
  have l1 : f_X8_leastNet (nI w) (-1) s = some (oN (lnO T p w none T.2.1), s) := c_ln hT hg hc.2.2.2.2 hw (a := none) (fun v hv => by cases hv)
  unfold f_X8_bid
  rw [bnd l1, hj, if_pos (show oN none = -1 from rfl)]
theorem au_c {T : tb} (hT : tb_ok T) (z : Int32) : ∀ (n c : Nat) (h : hs) (q : List Nat) (p : Nat → Int64) (s : sx_M), c + n = 500 → auI T h q → gridIs 3 T s → auC T c h q p s → Ev (whT (f_X8_hold_L4 z) s) (fun s' => auC T (c + (auN T z.toInt64 n h q p).1) (auN T z.toInt64 n h q p).2.1 (auN T z.toInt64 n h q p).2.2.1 (auN T z.toInt64 n h q p).2.2.2 s' ∧ gridIs 3 T s' ∧ auI T (auN T z.toInt64 n h q p).2.1 (auN T z.toInt64 n h q p).2.2.1) := by
  have h7 := hT.1
  intro n
  induction n with
  | zero =>
    intro c h q p s hcn hI hg hc
    refine ⟨s, ?_, hc, hg, hI⟩
    rw [whT_eq]
    simp only [f_X8_hold_L4]
    rw [hc.2.2.2.1, if_pos (show (500 : Int32) ≤ nI c from nI_le (a := 500) (by omega) (by omega))]
    rfl
  | succ n ih =>
    intro c h q p s hcn hI hg hc
    have h500 : ¬ (500 : Int32) ≤ nI c := nI_ge (b := 500) (by omega) (by omega)
    cases q with
    | nil =>
      rw [auN_e]
      refine ⟨s, ?_, hc, hg, hI⟩
      have : rI s 49 4 = nI 0 := hc.2.2.1
      rw [whT_eq]
      simp only [f_X8_hold_L4]
      rw [hc.2.2.2.1, if_neg h500, this, if_pos (show nI 0 ≤ 0 by decide)]
      rfl
    | cons w q =>
      have h4 : rI s 49 4 = nI (q.length + 1) := hc.2.2.1
      have hl : q.length + 1 ≤ 7 := by
        have h1 := hI.2.2.2
        have h2 : (w :: q).length = q.length + 1 := rfl
        omega
      have hq0 : rA s 52 ((0 : Int32)).toNatClampNeg = nI w := hc.2.1 0 w rfl
      have hn0 : ¬ nI (q.length + 1) ≤ 0 := nI_ge (b := q.length + 1) (a := 0) (by omega) (by omega)
      cases hj : lnO T p w none T.2.1 with
      | none =>
        rw [auN_n hj]
        refine ⟨s, ?_, hc, hg, hI⟩
        rw [whT_eq]
        simp only [f_X8_hold_L4]
        rw [hc.2.2.2.1, if_neg h500, h4, if_neg hn0, hq0, bnd (c_bid0 hT hI hg hc z hj), if_pos rfl]
        rfl
      | some j =>
        obtain ⟨⟨r1, s1⟩, e1, er, d1, x1⟩ := c_bid1 hT hI hg hc z hj
        simp only at er d1 x1
        subst er
        obtain ⟨j1, j2⟩ := ln_ok hj
        have hI1 := up_I (ou_I (j := j) hI T.1 (Nat.le_refl _)) j1 j2
        have hg1 : gridIs 3 T s1 := grid_eq x1 (by simp only [Dbd]; omega) (by simp only [Dbd]; omega) (by simp only [Dbd]; omega) hg
        have x2 : sx_eq ((fun o k => o = 49 ∧ k = 5, fun _ _ => False, fun _ => False, fun _ => False) : sx_D) s1 (wI s1 49 5 (nI (c + 1))) := sx_wI' (sx_rf _ _) ⟨rfl, rfl⟩
        have hg2 : gridIs 3 T (wI s1 49 5 (nI (c + 1))) := grid_eq x2 (by simp only; omega) (by simp only; omega) (fun z => z) hg1
        obtain ⟨s3, e3, f1, f2, f3⟩ := ih (c + 1) _ _ _ (wI s1 49 5 (nI (c + 1))) (by omega) hI1 hg2 ⟨d1.1, d1.2.1, by rw [rI_F (by omega)]; exact d1.2.2.1, rI_T ⟨rfl, rfl⟩, d1.2.2.2.2⟩
        rw [auN_s hj]
        refine ⟨s3, ?_, ?_, f2, f3⟩
        · rw [whT_eq]
          simp only [f_X8_hold_L4]
          rw [hc.2.2.2.1, if_neg h500, h4, if_neg hn0, hq0, bnd e1, if_neg n1_0]
          simp only []
          rw [d1.2.2.2.1, nI_1]
          exact e3
        · have : ∀ x, c + 1 + x = c + (x + 1) := fun x => by omega
          rw [this] at f1
          exact f1
