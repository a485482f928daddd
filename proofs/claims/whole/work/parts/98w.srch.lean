/-! the best of what is offered -/
abbrev mb : Type := Option (Int × Nat)
def leM (t : Int) (S : Nat) (t' : Int) (S' : Nat) : Prop := t < t' ∨ (t = t' ∧ (pcn S < pcn S' ∨ (pcn S = pcn S' ∧ S ≤ S')))
def ltM (t : Int) (S : Nat) (t' : Int) (S' : Nat) : Prop := t < t' ∨ (t = t' ∧ (pcn S < pcn S' ∨ (pcn S = pcn S' ∧ S < S')))
def bsI (Off : Nat → Int → Prop) (m : mb) : Prop := (m = none → ∀ S t, ¬ Off S t) ∧ ∀ t S, m = some (t, S) → Off S t ∧ ∀ S' t', Off S' t' → leM t S t' S'
theorem bsI_c {Off Off' : Nat → Int → Prop} {m : mb} (h : bsI Off m) (e : ∀ S t, Off' S t ↔ Off S t) : bsI Off' m :=
  ⟨fun hm S t ho => h.1 hm S t ((e S t).mp ho), fun t S hm => ⟨(e S t).mpr (h.2 t S hm).1, fun S' t' ho => (h.2 t S hm).2 S' t' ((e S' t').mp ho)⟩⟩
theorem bsI_u {Off : Nat → Int → Prop} {m m' : mb} (h : bsI Off m) (h' : bsI Off m') : m = m' := by
  cases m with
  | none =>
    cases m' with
    | none => rfl
    | some c => exact absurd (h'.2 c.1 c.2 rfl).1 (h.1 rfl _ _)
  | some c =>
    cases m' with
    | none => exact absurd (h.2 c.1 c.2 rfl).1 (h'.1 rfl _ _)
    | some c' =>
      obtain ⟨t, S⟩ := c
      obtain ⟨t', S'⟩ := c'
      obtain ⟨a1, a2⟩ := h.2 t S rfl
      obtain ⟨b1, b2⟩ := h'.2 t' S' rfl
      have x1 := a2 S' t' b1
      have x2 := b2 S t a1
      unfold leM at x1 x2
      have e1 : t = t' := by omega
      have e2 : S = S' := by omega
      rw [e1, e2]
theorem bsI_new {Off : Nat → Int → Prop} {m : mb} {t : Int} {S : Nat} (h : bsI Off m) (hn : ∀ t0 S0, m = some (t0, S0) → ltM t S t0 S0) : bsI (fun S' t' => Off S' t' ∨ (S' = S ∧ t' = t)) (some (t, S)) := by
  refine ⟨(fun e => by cases e), fun t1 S1 e => ?_⟩
  cases e
  refine ⟨Or.inr ⟨rfl, rfl⟩, fun S' t' ho => ?_⟩
  rcases ho with ho | ⟨rfl, rfl⟩
  · cases m with
    | none => exact absurd ho (h.1 rfl S' t')
    | some c =>
      have h1 := (h.2 c.1 c.2 rfl).2 S' t' ho
      have h2 := hn c.1 c.2 rfl
      unfold leM at h1 ⊢
      unfold ltM at h2
      omega
  · unfold leM
    omega
theorem bsI_old {Off : Nat → Int → Prop} {t0 t : Int} {S0 S : Nat} (h : bsI Off (some (t0, S0))) (hn : ¬ ltM t S t0 S0) : bsI (fun S' t' => Off S' t' ∨ (S' = S ∧ t' = t)) (some (t0, S0)) := by
  refine ⟨(fun e => by cases e), fun t1 S1 e => ?_⟩
  cases e
  obtain ⟨a1, a2⟩ := h.2 t0 S0 rfl
  refine ⟨Or.inl a1, fun S' t' ho => ?_⟩
  rcases ho with ho | ⟨rfl, rfl⟩
  · exact a2 S' t' ho
  · unfold ltM at hn
    unfold leM
    omega
def mvC (m : mb) (s : sx_M) : Prop := (m = none → rI s 53 4 = 0) ∧ ∀ t S, m = some (t, S) → rI s 53 4 = nI S ∧ rJ s 53 3 = jJ t ∧ 0 < S ∧ S < 256 ∧ (-10000000 ≤ t ∧ t ≤ 10000000)
def Dmo : sx_D := (fun o k => o = 53 ∧ k = 4, fun o k => o = 53 ∧ k = 3, fun _ => False, fun _ => False)
theorem c_offer {Off : Nat → Int → Prop} {m : mb} {s : sx_M} {S : Nat} {sf : Int} {o : Option Int} (hS0 : 0 < S) (hS : S < 256) (hsf : -1000000 ≤ sf ∧ sf ≤ 1000000) (ho : ∀ d, o = some d → -100000 ≤ d ∧ d ≤ 100000) (hm : mvC m s) (hb : bsI Off m) : Ev (f_X3_offer (nI S) (jJ sf) (c64 o) s) (fun s' => ∃ m', mvC m' s' ∧ bsI (fun S' t' => Off S' t' ∨ ∃ d, o = some d ∧ S' = S ∧ t' = sf + d) m' ∧ sx_eq Dmo s s') := by
  cases o with
  | none =>
    refine ⟨s, ?_, m, hm, bsI_c hb (fun S' t' => ⟨fun h => h.resolve_right (fun ⟨d, e, _⟩ => by cases e), Or.inl⟩), sx_rf _ _⟩
    unfold f_X3_offer
    rw [if_pos (show c64 none = 9223372036854775807 from rfl)]
  | some d =>
    have hd := ho d rfl
    have eO : ∀ S' t', (Off S' t' ∨ ∃ d', some d = some d' ∧ S' = S ∧ t' = sf + d') ↔ (Off S' t' ∨ (S' = S ∧ t' = sf + d)) := fun S' t' => ⟨fun h => h.imp id (fun ⟨d', e, h1, h2⟩ => by cases e; exact ⟨h1, h2⟩), fun h => h.imp id (fun ⟨h1, h2⟩ => ⟨d, rfl, h1, h2⟩)⟩
    have eadd : jJ sf + c64 (some d) = jJ (sf + d) := by
      show jJ sf + jJ d = _
      rw [jJ_add]
    have take : (∀ t0 S0, m = some (t0, S0) → ltM (sf + d) S t0 S0) → Ev (f_X3_offer_J54 (nI S) (jJ (sf + d)) s) (fun s' => ∃ m', mvC m' s' ∧ bsI (fun S' t' => Off S' t' ∨ ∃ d', some d = some d' ∧ S' = S ∧ t' = sf + d') m' ∧ sx_eq Dmo s s') := by
      intro hn
      refine ⟨_, rfl, some (sf + d, S), ⟨(fun e => by cases e), fun t S1 e => ?_⟩, bsI_c (bsI_new hb hn) eO, sx_wI' (sx_wJ' (sx_rf _ _) ⟨rfl, rfl⟩) ⟨rfl, rfl⟩⟩
      cases e
      exact ⟨rI_T ⟨rfl, rfl⟩, by rw [rJ_wI]; exact rJ_T ⟨rfl, rfl⟩, hS0, hS, by omega⟩
    unfold f_X3_offer
    rw [if_neg (show ¬ c64 (some d) = 9223372036854775807 from of_eq_false (jnv (x := d) (by omega) (by omega))), eadd]
    cases m with
    | none =>
      rw [if_pos (hm.1 rfl)]
      exact take (fun t0 S0 e => by cases e)
    | some c =>
      obtain ⟨t0, S0⟩ := c
      obtain ⟨m1, m2, m3, m4, m5⟩ := hm.2 t0 S0 rfl
      rw [m1, if_neg (show ¬ nI S0 = 0 from of_eq_false (nI_eq_F (b := 0) (by omega) (by omega) (by omega))), m2]
      have stay : ¬ ltM (sf + d) S t0 S0 → Ev (some s) (fun s' => ∃ m', mvC m' s' ∧ bsI (fun S' t' => Off S' t' ∨ ∃ d', some d = some d' ∧ S' = S ∧ t' = sf + d') m' ∧ sx_eq Dmo s s') := fun hn => ⟨s, rfl, some (t0, S0), hm, bsI_c (bsI_old hb hn) eO, sx_rf _ _⟩
      have take' : ltM (sf + d) S t0 S0 → _ := fun h => take (fun t1 S1 e => by cases e; exact h)
      by_cases z1 : sf + d < t0
      · rw [if_pos (show jJ (sf + d) < jJ t0 from of_eq_true (jJ_lt_T z1 (by omega) (by omega)))]
        exact take' (Or.inl z1)
      · rw [if_neg (show ¬ jJ (sf + d) < jJ t0 from of_eq_false (jJ_lt_F (by omega) (by omega) (by omega)))]
        by_cases z2 : sf + d = t0
        · have p1 := pcn_le S
          have p2 := pcn_le S0
          have ecb : f_X3_comesBefore (nI S) (nI S0) s = some (if pcn S < pcn S0 ∨ (pcn S = pcn S0 ∧ S < S0) then 1 else 0, s) := by
            unfold f_X3_comesBefore
            rw [bnd (f_pcn hS s), bnd (f_pcn m4 s)]
            simp only []
            by_cases y1 : pcn S < pcn S0
            · rw [if_pos (show nI (pcn S) < nI (pcn S0) from of_eq_true (nI_lt_T y1 (by omega))), if_pos (Or.inl y1)]
            · rw [if_neg (show ¬ nI (pcn S) < nI (pcn S0) from of_eq_false (nI_lt_F (by omega) (by omega)))]
              by_cases y2 : pcn S = pcn S0
              · rw [if_pos (show nI (pcn S) = nI (pcn S0) by rw [y2])]
                by_cases y3 : S0 ≤ S
                · rw [if_pos (show nI S0 ≤ nI S from nI_le y3 (by omega)), if_neg (by omega)]
                · rw [if_neg (show ¬ nI S0 ≤ nI S from nI_ge (by omega) (by omega)), if_pos (Or.inr ⟨y2, by omega⟩)]
              · rw [if_neg (show ¬ nI (pcn S) = nI (pcn S0) from of_eq_false (nI_eq_F y2 (by omega) (by omega))), if_neg (by omega)]
          rw [if_pos (show jJ (sf + d) = jJ t0 by rw [z2]), bnd ecb]
          by_cases y : pcn S < pcn S0 ∨ (pcn S = pcn S0 ∧ S < S0)
          · rw [if_pos y, if_neg n1_0]
            exact take' (Or.inr ⟨z2, y⟩)
          · rw [if_neg y, if_pos rfl]
            exact stay (fun h => by unfold ltM at h; omega)
        · rw [if_neg (show ¬ jJ (sf + d) = jJ t0 from of_eq_false (jJ_eq_F z2 (by omega) (by omega) (by omega) (by omega)))]
          exact stay (fun h => by unfold ltM at h; omega)
theorem c_shift {T : tb} {s : sx_M} (hT : tb_ok T) (hg : gridIs 3 T s) {p : asg} (hp : p ∈ allA T) (hr : rowH 54 T.1 p.1 s) {w j : Nat} (hw : w < T.1) (hj : j < 8) : f_X3_shift (nI w) (nI j) s = some (c64 (shO T p.1 w j), s) := by
  have h7 := hT.1
  obtain ⟨g1, y, hy, _⟩ := all_get hT hp hw
  have hin : ¬ (nI w < 0 ∨ 7 ≤ (nI w).toNatClampNeg) := by
    rw [nI_cl (by omega)]
    exact fun q => q.elim (nI_pos (by omega)) (by omega)
  unfold f_X3_shift shO
  rw [bnd (at_all hT hg hw hj)]
  cases hx : T.2.2 w j with
  | none =>
    rw [if_pos (show c64 none = 9223372036854775807 from rfl)]
    rfl
  | some x =>
    have hxb := hT.2.2.1 _ _ x hx
    rw [if_neg (show ¬ c64 (some x) = 9223372036854775807 from of_eq_false (jnv (x := x) (by omega) (by omega))), if_pos hin, nI_cl (by omega), (hr w hw).1, bnd (at_all hT hg hw (hr w hw).2), hy]
    show some (jJ x - jJ y, s) = some (jJ (x - y), s)
    rw [jJ_sub]
theorem sh_bd {T : tb} (hT : tb_ok T) {p : asg} (hp : p ∈ allA T) {w j : Nat} (hw : w < T.1) : ∀ d, shO T p.1 w j = some d → -20000 ≤ d ∧ d ≤ 20000 := by
  intro d hd
  obtain ⟨x, hx, e⟩ := sh_some hd
  obtain ⟨_, y, hy, hyb⟩ := all_get hT hp hw
  have := hT.2.2.1 _ _ x hx
  rw [hy] at e
  have e : d = x - y := e
  omega
def tkI (p : List Nat) (W TK : Nat) : Prop := TK < 256 ∧ ∀ j, TK.testBit j = true ↔ ∃ w, w < W ∧ p.getD w 0 = j
theorem tk_fw {p : List Nat} {W TK j : Nat} (h : tkI p W TK) : TK.testBit j = false ↔ fw p j 0 W = none := by
  constructor
  · intro hb
    cases hf : fw p j 0 W with
    | none => rfl
    | some w =>
      rw [(h.2 j).mpr ⟨w, fw_lt hf, (fw_s hf).2⟩] at hb
      cases hb
  · intro hf
    cases hb : TK.testBit j with
    | false => rfl
    | true =>
      obtain ⟨w, hw, e⟩ := (h.2 j).mp hb
      exact absurd e (fw_n hf w (by omega) (by omega))
