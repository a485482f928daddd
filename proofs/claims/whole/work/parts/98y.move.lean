def Dse : sx_D := (fun o k => o = 53 ∧ (k = 2 ∨ k = 4), fun o k => o = 53 ∧ k = 3, fun o => o = 54, fun _ => False)
theorem c_search {T : tb} {s : sx_M} (hT : tb_ok T) (hg : gridIs 3 T s) {p : asg} (hp : p ∈ allA T) (hrow : ∀ i j, p.1[i]? = some j → rA s 56 i = nI j) : Ev (f_X3_search 56 s) (fun r => ∃ m, r.1 = (if m = none then 0 else 1) ∧ mvC m r.2 ∧ bsI (fun S t => ∃ w, w < T.1 ∧ offs T p.1 9 w w (2 ^ w) 0 S t) m) := by
  have h7 := hT.1
  have hr6 : rowH 56 T.1 p.1 s := rowH_of hp hrow
  have x0 : sx_eq Dse s (wI (wI s 53 4 0) 53 2 0) := sx_wI' (sx_wI' (sx_rf _ _) ⟨rfl, Or.inr rfl⟩) ⟨rfl, Or.inl rfl⟩
  have i1 : Ev (whT (f_X3_search_L12 56) (0, wI (wI s 53 4 0) 53 2 0)) (fun s' => rowH 54 T.1 p.1 s' ∧ (∃ TK, rI s' 53 2 = nI TK ∧ tkI p.1 T.1 TK) ∧ rI s' 53 4 = 0 ∧ sx_eq Dse s s') := by
    refine ev_f (fun (i : Nat) (a : Int32 × sx_M) => a.1 = nI i ∧ (rowH 54 i p.1 a.2 ∧ (∃ TK, rI a.2 53 2 = nI TK ∧ tkI p.1 i TK) ∧ rI a.2 53 4 = 0 ∧ sx_eq Dse s a.2)) T.1 ?_ ?_ (i := 0) (by omega) ⟨rfl, fun w hw => by omega, ⟨0, rI_T ⟨rfl, rfl⟩, by omega, fun j => ⟨(fun h => by rw [Nat.zero_testBit] at h; cases h), (fun ⟨w, h, _⟩ => by omega)⟩⟩, by rw [rI_F (by omega)]; exact rI_T ⟨rfl, rfl⟩, x0⟩
    · rintro i ⟨a1, s1⟩ hi ⟨ea, c1, ⟨TK, t1, t2⟩, c3, c4⟩
      simp only at ea c1 t1 c3 c4
      subst ea
      have hg1 : gridIs 3 T s1 := grid_eq c4 (by simp only [Dse]; omega) (by simp only [Dse]; omega) (fun z => z) hg
      have h56 : rA s1 56 i = nI (p.1.getD i 0) := by rw [c4.2.2.1 56 i (by simp only [Dse]; omega)]; exact (hr6 i hi).1
      have h8 := (hr6 i hi).2
      have hin : ¬ (nI i < 0 ∨ 7 ≤ (nI i).toNatClampNeg) := by
        rw [nI_cl (by omega)]
        exact fun q => q.elim (nI_pos (by omega)) (by omega)
      refine ⟨.inl (nI (i + 1), wI (wA s1 54 i (nI (p.1.getD i 0))) 53 2 (nI (TK ||| 2 ^ p.1.getD i 0))), ?_, rfl, fun w hw => ?_, ⟨TK ||| 2 ^ p.1.getD i 0, rI_T ⟨rfl, rfl⟩, or_256 t2.1 h8, fun j => ?_⟩, by rw [rI_F (by omega)]; exact c3, sx_wI' (sx_wA' c4 rfl) ⟨rfl, Or.inl rfl⟩⟩
      · simp only [f_X3_search_L12]
        rw [hg1.1, if_neg (show ¬ nI T.1 ≤ nI i from nI_ge hi (by omega)), if_neg (show ¬ 7 ≤ nI i from of_eq_false (nI_le_F (a := 7) (by omega) (by omega))), if_pos hin, if_pos hin, if_pos hin, nI_cl (by omega), h56, rA_F (show (56 : Nat) ≠ 54 ∨ i ≠ i by omega), h56, nI_bit (by omega), show rI (wA s1 54 i (nI (p.1.getD i 0))) 53 2 = nI TK from t1, nI_or, nI_1]
      · show rA (wA s1 54 i (nI (p.1.getD i 0))) 54 w = nI (p.1.getD w 0) ∧ p.1.getD w 0 < 8
        by_cases z : w = i
        · rw [rA_T ⟨rfl, z⟩, z]; exact ⟨rfl, h8⟩
        · rw [rA_F (by omega)]; exact c1 w (by omega)
      · rw [tb_or, t2.2 j]
        constructor
        · rintro (⟨w, h1, h2⟩ | h)
          · exact ⟨w, by omega, h2⟩
          · exact ⟨i, by omega, h⟩
        · rintro ⟨w, h1, h2⟩
          by_cases z : w = i
          · rw [z] at h2; exact Or.inr h2
          · exact Or.inl ⟨w, by omega, h2⟩
    · rintro ⟨a1, s1⟩ ⟨ea, hQ⟩
      simp only at ea hQ
      subst ea
      have hg1 : gridIs 3 T s1 := grid_eq hQ.2.2.2 (by simp only [Dse]; omega) (by simp only [Dse]; omega) (fun z => z) hg
      refine ⟨.inr s1, ?_, hQ⟩
      simp only [f_X3_search_L12]
      rw [hg1.1, if_pos (show nI T.1 ≤ nI T.1 from nI_le (Nat.le_refl _) (by omega))]
  obtain ⟨s1, e1, c1, ⟨TK, t1, t2⟩, c3, c4⟩ := i1
  have hg1 : gridIs 3 T s1 := grid_eq c4 (by simp only [Dse]; omega) (by simp only [Dse]; omega) (fun z => z) hg
  have i2 : Ev (whT (f_X3_search_L60 56) (0, s1)) (fun s' => ∃ m, mvC m s' ∧ bsI (fun S t => ∃ w, w < T.1 ∧ offs T p.1 9 w w (2 ^ w) 0 S t) m ∧ sx_eq Dmo s1 s') := by
    refine ev_f (fun (i : Nat) (a : Int32 × sx_M) => a.1 = nI i ∧ ∃ m, mvC m a.2 ∧ bsI (fun S t => ∃ w, w < i ∧ offs T p.1 9 w w (2 ^ w) 0 S t) m ∧ sx_eq Dmo s1 a.2) T.1 ?_ ?_ (i := 0) (by omega) ⟨rfl, none, ⟨fun _ => c3, fun t S e => by cases e⟩, ⟨fun _ S t ⟨w, h, _⟩ => by omega, fun t S e => by cases e⟩, sx_rf _ _⟩
    · rintro i ⟨a1, s2⟩ hi ⟨ea, m, d1, d2, d3⟩
      simp only at ea d1 d3
      subst ea
      have hg2 := mo_g d3 hg1
      have hlt : 2 ^ i < 2 ^ T.1 := Nat.pow_lt_pow_right (by omega) hi
      have hps : 0 < 2 ^ i := Nat.pow_pos (by omega)
      obtain ⟨s3, e3, m3, f1, f2, f3⟩ := c_ext hT hp t2 9 i i (2 ^ i) 0 m _ s2 hi hi hlt hps (by omega) (by omega) hg2 (rowH_eq d3 (fun z => z) c1) (by rw [d3.1 53 2 (by simp only [Dmo]; omega)]; exact t1) d1 d2
      have e3 : f_X3_extend (nI i) (nI i) (nI (2 ^ i)) 0 s2 = some s3 := e3
      refine ⟨.inl (nI (i + 1), s3), ?_, rfl, m3, f1, bsI_c f2 (fun S t => ?_), sx_tr d3 f3⟩
      · simp only [f_X3_search_L60]
        rw [hg2.1, if_neg (show ¬ nI T.1 ≤ nI i from nI_ge hi (by omega)), nI_bit (by omega), bnd e3, nI_1]
      · constructor
        · rintro ⟨w, h1, h2⟩
          by_cases z : w = i
          · rw [z] at h2; exact Or.inr h2
          · exact Or.inl ⟨w, by omega, h2⟩
        · rintro (⟨w, h1, h2⟩ | h)
          · exact ⟨w, by omega, h2⟩
          · exact ⟨i, by omega, h⟩
    · rintro ⟨a1, s2⟩ ⟨ea, m, d1, d2, d3⟩
      simp only at ea d1 d3
      subst ea
      refine ⟨.inr s2, ?_, m, d1, d2, d3⟩
      simp only [f_X3_search_L60]
      rw [(mo_g d3 hg1).1, if_pos (show nI T.1 ≤ nI T.1 from nI_le (Nat.le_refl _) (by omega))]
  obtain ⟨s2, e2, m, d1, d2, d3⟩ := i2
  refine ⟨(if m = none then 0 else 1, s2), ?_, m, rfl, d1, d2⟩
  unfold f_X3_search
  rw [bnd e1, bnd e2]
  cases m with
  | none => rw [if_pos (d1.1 rfl), if_pos rfl]
  | some c =>
    obtain ⟨t, S⟩ := c
    obtain ⟨a1, _, a3, a4, _⟩ := d1.2 t S rfl
    rw [a1, if_neg (show ¬ nI S = 0 from of_eq_false (nI_eq_F (b := 0) (by omega) (by omega) (by omega))), if_neg (by simp)]
/-! the reference -/
def rfO (T : tb) (p : asg) (n : Nat) (S : Nat) (t : Int) : Prop := ∃ k q, k < n ∧ (allA T)[k]? = some q ∧ cntP (rdE p.1 q.1 T.1) = 1 ∧ (rdE p.1 q.1 T.1).1 = S ∧ t = q.2 - p.2
def mvR (T : tb) (p : asg) (m : mb) (a1 a2 : Int32) : Prop := (m = none ∧ a1 = -1) ∨ ∃ b q S, m = some (q.2 - p.2, S) ∧ b < 40320 ∧ q ∈ allA T ∧ (allA T)[b]? = some q ∧ a1 = nI b ∧ a2 = nI S ∧ S < 256
theorem rdE_lt {p q : List Nat} {W : Nat} : (rdE p q W).1 < 2 ^ W := ps_lt (fun P w => g1_lt) (ps_lt (fun P w => g0_lt) (Nat.pow_pos (by omega)) W (Nat.le_refl _)) W (Nat.le_refl _)
theorem r_move {T : tb} {s : sx_M} (hT : tb_ok T) (ht : tabIs 59 0 T s) (hl : lst (allA T) s) {mp : Nat} {p : asg} (hm : (allA T)[mp]? = some p) (z : Int32) : Ev (whT (f_X12_move_L72 z (nI mp)) (-1, 0, 0, s)) (fun r => lst (allA T) r.2.2 ∧ ∃ m, bsI (rfO T p (allA T).length) m ∧ mvR T p m r.1 r.2.1) := by
  have h7 := hT.1
  have bA := all_bd hT
  have h40 := bA.1
  have hmp : mp < (allA T).length := (List.getElem?_eq_some_iff.mp hm).1
  have hpA := List.mem_of_getElem? hm
  have hpb := bA.2 p hpA
  refine ev_f (fun (i : Nat) (a : Int32 × Int32 × Int32 × sx_M) => a.2.2.1 = nI i ∧ lst (allA T) a.2.2.2 ∧ tabIs 59 0 T a.2.2.2 ∧ ∃ m, bsI (rfO T p i) m ∧ mvR T p m a.1 a.2.1) (allA T).length ?_ ?_ (i := 0) (by omega) ⟨rfl, hl, ht, none, ⟨fun _ S t ⟨k, q, h, _⟩ => by omega, fun t S e => by cases e⟩, Or.inl ⟨rfl, rfl⟩⟩
  · rintro i ⟨a1, a2, a3, s1⟩ hi ⟨ea, hl1, ht1, m, c1, c2⟩
    simp only at ea hl1 ht1 c2
    subst ea
    obtain ⟨q, hq⟩ : ∃ q, (allA T)[i]? = some q := ⟨(allA T)[i], List.getElem?_eq_getElem hi⟩
    have hqA := List.mem_of_getElem? hq
    have hqb := bA.2 q hqA
    have hin : ¬ (nI i < 0 ∨ 40320 ≤ (nI i).toNatClampNeg) := by
      rw [nI_cl (by omega)]
      exact fun q => q.elim (nI_pos (by omega)) (by omega)
    obtain ⟨s2, e2, hr⟩ := r_rounds hT hm hq (by omega) (by omega) hpA hqA ht1 hl1
    have hx := fr_f_X12_laysRounds _ _ _ e2
    have hl2 : lst (allA T) s2 := lst_eq hx (by simp only; omega) (fun z => z) (fun z => z) hl1
    have ht2 : tabIs 59 0 T s2 := tab_eq hx (fun z => z) ht1
    have hlt := rdE_lt (p := p.1) (q := q.1) (W := T.1)
    have hS6 : (rdE p.1 q.1 T.1).1 < 256 := Nat.lt_of_lt_of_le hlt (pw_le (show T.1 ≤ 8 by omega))
    have ecnt : rI s2 58 27 + rI s2 58 28 = cntP (rdE p.1 q.1 T.1) := by
      rw [hr.1, hr.2.1]
      rfl
    have nx : ∀ m', bsI (fun S t => rfO T p i S t ∨ (cntP (rdE p.1 q.1 T.1) = 1 ∧ S = (rdE p.1 q.1 T.1).1 ∧ t = q.2 - p.2)) m' → bsI (rfO T p (i + 1)) m' := fun m' h => bsI_c h (fun S t => by
      constructor
      · rintro ⟨k, q', h1, h2, h3, h4, h5⟩
        by_cases z : k = i
        · rw [z, hq] at h2
          cases h2
          exact Or.inr ⟨h3, h4.symm, h5⟩
        · exact Or.inl ⟨k, q', by omega, h2, h3, h4, h5⟩
      · rintro (⟨k, q', h1, h2⟩ | ⟨h3, h4, h5⟩)
        · exact ⟨k, q', by omega, h2⟩
        · exact ⟨i, q, by omega, hq, h3, h4.symm, h5⟩)
    by_cases z1 : cntP (rdE p.1 q.1 T.1) = 1
    · have eO : ∀ S t, (rfO T p i S t ∨ (cntP (rdE p.1 q.1 T.1) = 1 ∧ S = (rdE p.1 q.1 T.1).1 ∧ t = q.2 - p.2)) ↔ (rfO T p i S t ∨ (S = (rdE p.1 q.1 T.1).1 ∧ t = q.2 - p.2)) := fun S t => ⟨fun h => h.imp id (fun h => h.2), fun h => h.imp id (fun h => ⟨z1, h⟩)⟩
      have tk : ∀ t0 : Int32, ¬ 0 ≤ t0 → f_X12_move_L72_J187 z (nI mp) a1 a2 (nI i) t0 s2 = some (.inl (nI i, nI (rdE p.1 q.1 T.1).1, nI (i + 1), s2)) := fun t0 h => by
        unfold f_X12_move_L72_J187
        rw [if_neg h, hr.2.2.2.2, nI_1]
      have kp : ∀ t0 : Int32, 0 ≤ t0 → f_X12_move_L72_J187 z (nI mp) a1 a2 (nI i) t0 s2 = some (.inl (a1, a2, nI (i + 1), s2)) := fun t0 h => by
        unfold f_X12_move_L72_J187
        rw [if_pos h, nI_1]
      have fin1 : (∀ t0 S0, m = some (t0, S0) → ltM (q.2 - p.2) (rdE p.1 q.1 T.1).1 t0 S0) → f_X12_move_L72 z (nI mp) (a1, a2, nI i, s1) = some (.inl (nI i, nI (rdE p.1 q.1 T.1).1, nI (i + 1), s2)) → Ev (f_X12_move_L72 z (nI mp) (a1, a2, nI i, s1)) (Sum.elim (fun a => a.2.2.1 = nI (i + 1) ∧ lst (allA T) a.2.2.2 ∧ tabIs 59 0 T a.2.2.2 ∧ ∃ m, bsI (rfO T p (i + 1)) m ∧ mvR T p m a.1 a.2.1) (fun r => lst (allA T) r.2.2 ∧ ∃ m, bsI (rfO T p (allA T).length) m ∧ mvR T p m r.1 r.2.1)) := by
        intro hlt2 e
        exact ⟨_, e, rfl, hl2, ht2, some (q.2 - p.2, (rdE p.1 q.1 T.1).1), nx _ (bsI_c (bsI_new c1 hlt2) eO), Or.inr ⟨i, q, _, rfl, by omega, hqA, hq, rfl, rfl, hS6⟩⟩
      have fin2 : (∃ t0 S0, m = some (t0, S0) ∧ ¬ ltM (q.2 - p.2) (rdE p.1 q.1 T.1).1 t0 S0) → f_X12_move_L72 z (nI mp) (a1, a2, nI i, s1) = some (.inl (a1, a2, nI (i + 1), s2)) → Ev (f_X12_move_L72 z (nI mp) (a1, a2, nI i, s1)) (Sum.elim (fun a => a.2.2.1 = nI (i + 1) ∧ lst (allA T) a.2.2.2 ∧ tabIs 59 0 T a.2.2.2 ∧ ∃ m, bsI (rfO T p (i + 1)) m ∧ mvR T p m a.1 a.2.1) (fun r => lst (allA T) r.2.2 ∧ ∃ m, bsI (rfO T p (allA T).length) m ∧ mvR T p m r.1 r.2.1)) := by
        rintro ⟨t0, S0, em, hn⟩ e
        refine ⟨_, e, rfl, hl2, ht2, m, nx _ (bsI_c ?_ eO), c2⟩
        rw [em] at c1 ⊢
        exact bsI_old c1 hn
      rcases c2 with ⟨em, e1⟩ | ⟨b, qb, Sb, em, hb4, hqbA, hqb', e1, e3, hSb⟩
      · refine fin1 (fun t0 S0 e => by rw [em] at e; cases e) ?_
        simp only [f_X12_move_L72]
        rw [hl1.1, if_neg (show ¬ nI (allA T).length ≤ nI i from nI_ge hi (by omega)), bnd e2, ecnt, if_pos z1, if_pos e1]
        exact tk (-1) (by decide)
      · have hqbb := bA.2 qb hqbA
        have hinb : ¬ (nI b < 0 ∨ 40320 ≤ (nI b).toNatClampNeg) := by
          rw [nI_cl (by omega)]
          exact fun q => q.elim (nI_pos (by omega)) (by omega)
        have p1 := pcn_le (rdE p.1 q.1 T.1).1
        have p2 := pcn_le Sb
        have hm1 : ¬ nI b = (-1 : Int32) := of_eq_false (nI_m_F (by omega))
        have sg : ∀ x y : Int, -1000000000 ≤ x → x ≤ 1000000000 → -1000000000 ≤ y → y ≤ 1000000000 → (0 ≤ iI x - iI y ↔ y ≤ x) := by
          intro x y h1 h2 h3 h4
          rw [Int32.le_iff_toInt_le, iI_sub, iI_toInt (by omega) (by omega), show (0 : Int32).toInt = 0 by decide]
          omega
        have sgn : ∀ x y : Nat, x < 1000000 → y < 1000000 → (0 ≤ nI x - nI y ↔ y ≤ x) := by
          intro x y h1 h2
          have := sg (x : Int) (y : Int) (by omega) (by omega) (by omega) (by omega)
          rw [show (iI (x : Int)) = nI x from rfl, show (iI (y : Int)) = nI y from rfl] at this
          rw [this]
          omega
        have pre : f_X12_move_L72 z (nI mp) (a1, a2, nI i, s1) = f_X12_move_L72_J187 z (nI mp) a1 a2 (nI i) (if iI q.2 = iI qb.2 then (if nI (pcn (rdE p.1 q.1 T.1).1) = nI (pcn Sb) then nI (rdE p.1 q.1 T.1).1 - nI Sb else nI (pcn (rdE p.1 q.1 T.1).1) - nI (pcn Sb)) else iI q.2 - iI qb.2) s2 := by
          simp only [f_X12_move_L72]
          rw [hl1.1, if_neg (show ¬ nI (allA T).length ≤ nI i from nI_ge hi (by omega)), bnd e2, ecnt, if_pos z1, e1, if_neg hm1, if_pos hin, if_pos hinb, if_pos hin, if_pos hinb, nI_cl (show i < 2147483648 by omega), nI_cl (show b < 2147483648 by omega), (hl2.2 i q hq).2, (hl2.2 b qb hqb').2, hr.2.2.2.2, bnd (r_bits hS6 s2), e3, bnd (r_bits hSb s2)]
          by_cases y1 : iI q.2 = iI qb.2
          · rw [if_pos y1, if_pos y1]
            simp only []
            by_cases y2 : nI (pcn (rdE p.1 q.1 T.1).1) = nI (pcn Sb)
            · rw [if_pos y2, if_pos y2, hr.2.2.2.2]
            · rw [if_neg y2, if_neg y2, hr.2.2.2.2, bnd (r_bits hS6 s2), bnd (r_bits hSb s2)]
          · rw [if_neg y1, if_neg y1]
        by_cases y1 : q.2 = qb.2
        · rw [if_pos (show iI q.2 = iI qb.2 by rw [y1])] at pre
          by_cases y2 : pcn (rdE p.1 q.1 T.1).1 = pcn Sb
          · rw [if_pos (show nI (pcn (rdE p.1 q.1 T.1).1) = nI (pcn Sb) by rw [y2])] at pre
            have hs := sgn (rdE p.1 q.1 T.1).1 Sb (by omega) (by omega)
            by_cases y3 : Sb ≤ (rdE p.1 q.1 T.1).1
            · refine fin2 ⟨_, _, em, fun h => by unfold ltM at h; omega⟩ (pre.trans (kp _ (hs.mpr y3)))
            · refine fin1 (fun t0 S0 e => ?_) (pre.trans (tk _ (fun h => y3 (hs.mp h))))
              rw [em] at e; cases e
              unfold ltM; omega
          · rw [if_neg (show ¬ nI (pcn (rdE p.1 q.1 T.1).1) = nI (pcn Sb) from of_eq_false (nI_eq_F y2 (by omega) (by omega)))] at pre
            have hs := sgn (pcn (rdE p.1 q.1 T.1).1) (pcn Sb) (by omega) (by omega)
            by_cases y3 : pcn Sb ≤ pcn (rdE p.1 q.1 T.1).1
            · refine fin2 ⟨_, _, em, fun h => by unfold ltM at h; omega⟩ (pre.trans (kp _ (hs.mpr y3)))
            · refine fin1 (fun t0 S0 e => ?_) (pre.trans (tk _ (fun h => y3 (hs.mp h))))
              rw [em] at e; cases e
              unfold ltM; omega
        · rw [if_neg (show ¬ iI q.2 = iI qb.2 from of_eq_false (iI_eq_F y1 (by omega) (by omega) (by omega) (by omega)))] at pre
          have hs := sg q.2 qb.2 (by omega) (by omega) (by omega) (by omega)
          by_cases y3 : qb.2 ≤ q.2
          · refine fin2 ⟨_, _, em, fun h => by unfold ltM at h; omega⟩ (pre.trans (kp _ (hs.mpr y3)))
          · refine fin1 (fun t0 S0 e => ?_) (pre.trans (tk _ (fun h => y3 (hs.mp h))))
            rw [em] at e; cases e
            unfold ltM; omega
    · refine ⟨.inl (a1, a2, nI (i + 1), s2), ?_, rfl, hl2, ht2, m, nx _ (bsI_c c1 (fun S t => ⟨fun h => h.resolve_right (fun h => z1 h.1), Or.inl⟩)), c2⟩
      simp only [f_X12_move_L72]
      rw [hl1.1, if_neg (show ¬ nI (allA T).length ≤ nI i from nI_ge hi (by omega)), bnd e2, ecnt, if_neg z1, nI_1]
  · rintro ⟨a1, a2, a3, s1⟩ ⟨ea, hl1, ht1, hQ⟩
    simp only at ea hl1 ht1 hQ
    subst ea
    refine ⟨.inr (a1, a2, s1), ?_, hl1, hQ⟩
    simp only [f_X12_move_L72]
    rw [hl1.1, if_pos (show nI (allA T).length ≤ nI (allA T).length from nI_le (Nat.le_refl _) (by omega))]
