/-! what the class's lines offer -/
def shO (T : tb) (p : List Nat) (w j : Nat) : Option Int := (T.2.2 w j).map (fun x => x - (T.2.2 w (p.getD w 0)).getD 0)
def offs (T : tb) (p : List Nat) : Nat → Nat → Nat → Nat → Int → Nat → Int → Prop
  | 0, _, _, _, _, _, _ => False
  | n + 1, lead, last, S, sf, S', t' =>
    (lead ≠ last ∧ ∃ d, shO T p last (p.getD lead 0) = some d ∧ S' = S ∧ t' = sf + d) ∨
    (∃ j d, j < T.2.1 ∧ fw p j 0 T.1 = none ∧ shO T p last j = some d ∧ S' = S ∧ t' = sf + d) ∨
    (∃ v d, v < T.1 ∧ S.testBit v = false ∧ shO T p last (p.getD v 0) = some d ∧ offs T p n lead v (S ||| 2 ^ v) (sf + d) S' t')
def dfQ (T : tb) (p q : List Nat) (w : Nat) : Int := (T.2.2 w (q.getD w 0)).getD 0 - (T.2.2 w (p.getD w 0)).getD 0
def dfS (T : tb) (p q : List Nat) (S : Nat) : Int := smF (fun w => if S.testBit w = true then dfQ T p q w else 0) T.1
theorem sh_q {T : tb} (hT : tb_ok T) {p q : asg} (hq : q ∈ allA T) {w : Nat} (hw : w < T.1) : shO T p.1 w (q.1.getD w 0) = some (dfQ T p.1 q.1 w) := by
  obtain ⟨_, x, hx, _⟩ := all_get hT hq hw
  unfold shO dfQ
  rw [hx]
  rfl
/-- whoever gets there by one walk is offered -/
theorem off_B {T : tb} (hT : tb_ok T) {p q : asg} (hp : p ∈ allA T) (hq : q ∈ allA T) : ∀ (n lead last S : Nat), last < T.1 → lead < T.1 → S < 2 ^ T.1 → S.testBit last = true → S.testBit lead = true → T.1 + 1 ≤ pcn S + n → (∀ v, S.testBit v = true → Cg p.1 q.1 T.1 v) → (∀ v, S.testBit v = true → v ≠ lead → ∃ u, S.testBit u = true ∧ u ≠ last ∧ q.1.getD u 0 = p.1.getD v 0) → offs T p.1 n lead last S (dfS T p.1 q.1 S - dfQ T p.1 q.1 last) (wk p.1 q.1 T.1 (T.1 - pcn S) (fw p.1 (q.1.getD last 0) 0 T.1) S).2 (dfS T p.1 q.1 (wk p.1 q.1 T.1 (T.1 - pcn S) (fw p.1 (q.1.getD last 0) 0 T.1) S).2) := by
  have h7 := hT.1
  have ip := all_inj hp
  have iq := all_inj hq
  intro n
  induction n with
  | zero =>
    intro lead last S _ _ hS _ _ hn _ _
    have := pcn_W T.1 (by omega) S hS
    omega
  | succ n ih =>
    intro lead last S hla hle hS bla ble hn hC hpr
    have hcl := hC last bla
    have hsh := sh_q hT (p := p) hq hla
    have hJ := (all_get hT hq hla).1
    cases hx : fw p.1 (q.1.getD last 0) 0 T.1 with
    | none =>
      rw [wk_n0]
      refine Or.inr (Or.inl ⟨q.1.getD last 0, _, hJ, hx, hsh, rfl, ?_⟩)
      show dfS T p.1 q.1 S = _
      omega
    | some v =>
      have hv := fw_lt hx
      have hv2 := (fw_s hx).2
      cases hb : S.testBit v with
      | true =>
        rw [wk_in1 hb]
        have hvl : v = lead := Decidable.byContradiction (fun hne => by
          obtain ⟨u, u1, u2, u3⟩ := hpr v hb hne
          exact u2 (iq u last (hC u u1).1 hla (by rw [u3, hv2])))
        refine Or.inl ⟨fun e => ?_, dfQ T p.1 q.1 last, ?_, rfl, ?_⟩
        · rw [hvl, e] at hv2
          exact hcl.2 hv2
        · rw [← hvl, hv2]
          exact hsh
        · show dfS T p.1 q.1 S = _
          omega
      | false =>
        have hpc := pcn_s h7 hS hv hb
        obtain ⟨m, hm⟩ : ∃ m, T.1 - pcn S = m + 1 := ⟨T.1 - pcn S - 1, by omega⟩
        rw [hm, wk_go hb]
        have hm' : m = T.1 - pcn (S ||| 2 ^ v) := by omega
        rw [hm']
        refine Or.inr (Or.inr ⟨v, _, hv, hb, by rw [hv2]; exact hsh, ?_⟩)
        have hd : dfS T p.1 q.1 (S ||| 2 ^ v) = dfS T p.1 q.1 S + dfQ T p.1 q.1 v := smF_or hv hb
        have := ih lead v (S ||| 2 ^ v) hv hle (or_lt' hS hv) (tb_or.mpr (Or.inr rfl)) (tb_or.mpr (Or.inl ble)) (by omega) (fun u hu => ?_) (fun u hu hne => ?_)
        · rw [show dfS T p.1 q.1 S - dfQ T p.1 q.1 last + dfQ T p.1 q.1 last = dfS T p.1 q.1 (S ||| 2 ^ v) - dfQ T p.1 q.1 v by omega]
          exact this
        · rcases tb_or.mp hu with h | h
          · exact hC u h
          · rw [← h]; exact Cg_nx iq last hcl v hx
        · rcases tb_or.mp hu with h | h
          · obtain ⟨u', a1, a2, a3⟩ := hpr u h hne
            refine ⟨u', tb_or.mpr (Or.inl a1), fun e => ?_, a3⟩
            rw [e, hb] at a1; cases a1
          · refine ⟨last, tb_or.mpr (Or.inl bla), fun e => ?_, by rw [← h, hv2]⟩
            rw [e, hb] at bla; cases bla
theorem df_all {T : tb} (hT : tb_ok T) {p q : asg} (hp : p ∈ allA T) (hq : q ∈ allA T) {S : Nat} (hS : ∀ v, v < T.1 → (S.testBit v = true ↔ Cg p.1 q.1 T.1 v)) : dfS T p.1 q.1 S = q.2 - p.2 := by
  have e : dfS T p.1 q.1 S + p.2 = q.2 := by
    rw [all_smF hp, all_smF hq]
    unfold dfS
    rw [← smF_add]
    refine smF_ext _ (fun i hi => ?_)
    by_cases z : S.testBit i = true
    · rw [if_pos z]
      unfold dfQ
      omega
    · rw [if_neg z]
      have : ¬ Cg p.1 q.1 T.1 i := fun h => z ((hS i hi).mpr h)
      have e : p.1.getD i 0 = q.1.getD i 0 := Decidable.byContradiction (fun h => this ⟨hi, h⟩)
      rw [e]
      omega
  omega
theorem off_fw {T : tb} (hT : tb_ok T) {p q : asg} (hp : p ∈ allA T) (hq : q ∈ allA T) (h : cntP (rdE p.1 q.1 T.1) = 1) : ∃ w, w < T.1 ∧ offs T p.1 9 w w (2 ^ w) 0 (rdE p.1 q.1 T.1).1 (q.2 - p.2) := by
  have h7 := hT.1
  obtain ⟨w, hw, e, hc⟩ := one_fw h7 (all_inj hq) h
  refine ⟨w, hw.1, ?_⟩
  have hS0 : (0 : Nat) < 2 ^ T.1 := Nat.pow_pos (by omega)
  have hz : (0 : Nat).testBit w = false := Nat.zero_testBit w
  have hpc := pcn_s h7 hS0 hw.1 hz
  rw [Nat.zero_or, pc0] at hpc
  obtain ⟨m, hm⟩ : ∃ m, T.1 = m + 1 := ⟨T.1 - 1, by have := hw.1; omega⟩
  have eV : V0 p.1 q.1 T.1 w = (wk p.1 q.1 T.1 (T.1 - pcn (2 ^ w)) (fw p.1 (q.1.getD w 0) 0 T.1) (2 ^ w)).2 := by
    have h1 : wk p.1 q.1 T.1 (m + 1) (some w) 0 = _ := wk_go hz
    rw [Nat.zero_or] at h1
    unfold V0
    conv => lhs; arg 1; arg 4; rw [hm]
    rw [h1, hpc.1, show T.1 - (0 + 1) = m by omega]
  have hlt : 2 ^ w < 2 ^ T.1 := Nat.pow_lt_pow_right (by omega) hw.1
  have hbit : ∀ v, (2 ^ w).testBit v = true ↔ w = v := fun v => by rw [Nat.testBit_two_pow, decide_eq_true_iff]
  have hd : dfS T p.1 q.1 (2 ^ w) = dfQ T p.1 q.1 w := by
    have := smF_or (f := dfQ T p.1 q.1) (S := 0) hw.1 hz
    rw [Nat.zero_or] at this
    show smF _ _ = _
    rw [this]
    have h0 : smF (fun i => if (0 : Nat).testBit i = true then dfQ T p.1 q.1 i else 0) T.1 = smF (fun _ => 0) T.1 := smF_ext _ (fun i _ => by rw [Nat.zero_testBit, if_neg (by decide)])
    have h1 : ∀ n, smF (fun _ => 0) n = 0 := by
      intro n
      induction n with
      | zero => rfl
      | succ n ih => show smF (fun _ => 0) n + 0 = 0; omega
    rw [h0, h1]
    omega
  have hb := off_B hT hp hq 9 w w (2 ^ w) hw.1 hw.1 hlt ((hbit w).mpr rfl) ((hbit w).mpr rfl) (by omega) (fun v hv => by rw [← (hbit v).mp hv]; exact hw) (fun v hv hne => absurd ((hbit v).mp hv).symm hne)
  rw [← eV, df_all hT hp hq hc, hd, Int.sub_self] at hb
  rw [e]
  exact hb
