/-! what a line has laid so far -/
def lnI (T : tb) (p : List Nat) (R : Nat → Nat) (lead last S0 : Nat) (sf : Int) : Prop :=
  (S0 < 2 ^ T.1 ∧ last < T.1 ∧ lead < T.1 ∧ S0.testBit last = false ∧ (S0 ||| 2 ^ last).testBit lead = true) ∧
  (∀ v, S0.testBit v = false → R v = p.getD v 0) ∧
  (∀ u, S0.testBit u = true → u < T.1 ∧ (R u < T.2.1 ∧ (T.2.2 u (R u)).isSome = true) ∧ R u ≠ p.getD u 0 ∧ ∃ v, v < T.1 ∧ (S0 ||| 2 ^ last).testBit v = true ∧ v ≠ lead ∧ R u = p.getD v 0) ∧
  (∀ u u', S0.testBit u = true → S0.testBit u' = true → R u = R u' → u = u') ∧
  sf = smF (fun w => if S0.testBit w = true then (T.2.2 w (R w)).getD 0 - (T.2.2 w (p.getD w 0)).getD 0 else 0) T.1 ∧
  (∀ ql : List Nat, (∀ u, S0.testBit u = true → ql.getD u 0 = R u) → V0 p ql T.1 lead = (wk p ql T.1 (T.1 - pcn S0) (some last) S0).2) ∧
  (∀ ql : List Nat, (∀ u, S0.testBit u = true → ql.getD u 0 = R u) → ∀ X : Nat → Prop, (∀ u, S0.testBit u = true → X u → ∀ v, fw p (ql.getD u 0) 0 T.1 = some v → X v) → ∀ m, (S0 ||| 2 ^ last).testBit m = true → X m → X last)
theorem ln_fin {T : tb} (hT : tb_ok T) {p : asg} (hp : p ∈ allA T) {R : Nat → Nat} {lead last S0 : Nat} {sf : Int} (h : lnI T p.1 R lead last S0 sf) {j : Nat} {x : Int} (hj : j < T.2.1) (hx : T.2.2 last j = some x) (hk : fw p.1 j 0 T.1 = none ∨ (lead ≠ last ∧ j = p.1.getD lead 0)) : ∃ q, q ∈ allA T ∧ cntP (rdE p.1 q.1 T.1) = 1 ∧ (rdE p.1 q.1 T.1).1 = S0 ||| 2 ^ last ∧ q.2 = p.2 + (sf + (x - (T.2.2 last (p.1.getD last 0)).getD 0)) := by
  have h7 := hT.1
  have h8 := hT.2.1
  have ip := all_inj hp
  obtain ⟨⟨a1, a2, a3, a4, a5⟩, b1, b2, b3, b4, b5, b6⟩ := h
  let Rq : Nat → Nat := fun v => if v = last then j else R v
  let ql : List Nat := (List.range T.1).map Rq
  have hlen : ql.length = T.1 := by
    show ((List.range T.1).map Rq).length = T.1
    rw [List.length_map, List.length_range]
  have hgt : ∀ v, v < T.1 → ql[v]? = some (Rq v) := fun v hv => by
    show ((List.range T.1).map Rq)[v]? = _
    rw [List.getElem?_map, List.getElem?_range hv]
    rfl
  have hgd : ∀ v, v < T.1 → ql.getD v 0 = Rq v := fun v hv => by
    rw [List.getD_eq_getElem?_getD, hgt v hv]
    rfl
  have eqL : Rq last = j := if_pos rfl
  have eqR : ∀ v, v ≠ last → Rq v = R v := fun v hv => if_neg hv
  have nl : ∀ u, S0.testBit u = true → u ≠ last := fun u hu e => by rw [e, a4] at hu; cases hu
  have bl : (S0 ||| 2 ^ last).testBit last = true := tb_or.mpr (Or.inr rfl)
  have kind : ∀ u, u < T.1 → (u = last ∧ Rq u = j) ∨ (S0.testBit u = true ∧ Rq u = R u ∧ ∃ v, v < T.1 ∧ (S0 ||| 2 ^ last).testBit v = true ∧ v ≠ lead ∧ Rq u = p.1.getD v 0) ∨ ((S0 ||| 2 ^ last).testBit u = false ∧ Rq u = p.1.getD u 0) := by
    intro u hu
    by_cases z : u = last
    · exact Or.inl ⟨z, by rw [z]; exact eqL⟩
    · cases hb : S0.testBit u with
      | true =>
        obtain ⟨_, _, _, v, v1, v2, v3, v4⟩ := b2 u hb
        exact Or.inr (Or.inl ⟨rfl, eqR u z, v, v1, v2, v3, by rw [eqR u z, v4]⟩)
      | false =>
        refine Or.inr (Or.inr ⟨?_, by rw [eqR u z]; exact b1 u hb⟩)
        cases hq : (S0 ||| 2 ^ last).testBit u with
        | false => rfl
        | true =>
          rcases tb_or.mp hq with q | q
          · rw [q] at hb; cases hb
          · exact absurd q.symm z
  have jv : ∀ v, v < T.1 → v ≠ lead → j ≠ p.1.getD v 0 := by
    intro v hv hne e
    rcases hk with hk | ⟨_, hk⟩
    · exact fw_n hk v (by omega) (by omega) e.symm
    · exact hne (ip v lead hv a3 (by rw [← e, hk]))
  have outl : ∀ v, (S0 ||| 2 ^ last).testBit v = false → v ≠ lead := fun v hv e => by rw [e, a5] at hv; cases hv
  have hinj : ∀ u v, u < T.1 → v < T.1 → Rq u = Rq v → u = v := by
    intro u v hu hv e
    rcases kind u hu with ⟨u1, u2⟩ | ⟨u1, u2, u3, u4, u5, u6, u7⟩ | ⟨u1, u2⟩ <;> rcases kind v hv with ⟨v1, v2⟩ | ⟨v1, v2, v3, v4, v5, v6, v7⟩ | ⟨v1, v2⟩
    · rw [u1, v1]
    · exact absurd (u2.symm.trans (e.trans v7)) (jv v3 v4 v6)
    · exact absurd (u2.symm.trans (e.trans v2)) (jv v hv (outl v v1))
    · exact absurd (v2.symm.trans (e.symm.trans u7)) (jv u3 u4 u6)
    · exact b3 u v u1 v1 (by rw [← u2, ← v2, e])
    · have := ip u3 v u4 hv (by rw [← u7, ← v2, e])
      rw [this, v1] at u5; cases u5
    · exact absurd (v2.symm.trans (e.symm.trans u2)) (jv u hu (outl u u1))
    · have := ip v3 u v4 hu (by rw [← v7, ← u2, e])
      rw [this, u1] at v5; cases v5
    · exact ip u v hu hv (by rw [← u2, ← v2, e])
  have iq : inj ql T.1 := fun u v hu hv e => hinj u v hu hv (by rw [← hgd u hu, ← hgd v hv, e])
  have cel : ∀ u, u < T.1 → Rq u < T.2.1 ∧ (T.2.2 u (Rq u)).isSome = true := by
    intro u hu
    rcases kind u hu with ⟨u1, u2⟩ | ⟨u1, u2, _⟩ | ⟨u1, u2⟩
    · rw [u2, u1, hx]; exact ⟨hj, rfl⟩
    · rw [u2]; exact (b2 u u1).2.1
    · obtain ⟨g1, y, g2, _⟩ := all_get hT hp hu
      rw [u2, g2]; exact ⟨g1, rfl⟩
  have hq : (ql, smR T.2.2 0 ql) ∈ allA T := by
    refine ex_iff.mpr ⟨hlen, okV_iff.mpr ⟨fun i j' hij => ?_, ?_⟩, rfl⟩
    · have hi : i < T.1 := by
        have := (List.getElem?_eq_some_iff.mp hij).1
        rw [hlen] at this
        exact this
      have e := hgt i hi
      rw [hij] at e
      cases e
      have := cel i hi
      refine ⟨by omega, ?_, Nat.zero_testBit _⟩
      rw [Nat.zero_add]
      exact this.2
    · show ((List.range T.1).map Rq).Nodup
      refine List.pairwise_map.mpr (List.Pairwise.imp_of_mem (fun {a b} ha hb hab e => ?_) List.pairwise_lt_range)
      have := hinj a b (List.mem_range.mp ha) (List.mem_range.mp hb) e
      omega
  have hCg : ∀ v, v < T.1 → ((S0 ||| 2 ^ last).testBit v = true ↔ Cg p.1 ql T.1 v) := by
    intro v hv
    constructor
    · intro hb
      refine ⟨hv, fun e => ?_⟩
      rw [hgd v hv] at e
      rcases tb_or.mp hb with hb | hb
      · rw [eqR v (nl v hb)] at e
        exact (b2 v hb).2.2.1 e.symm
      · rw [← hb, eqL] at e
        rcases hk with hk | ⟨hk1, hk2⟩
        · exact fw_n hk last (by omega) (by omega) e
        · exact jv last a2 (fun q => hk1 q.symm) e.symm
    · intro hc
      cases hb : (S0 ||| 2 ^ last).testBit v with
      | true => rfl
      | false =>
        rcases kind v hv with ⟨u1, _⟩ | ⟨u1, _⟩ | ⟨_, u2⟩
        · rw [u1, bl] at hb; cases hb
        · rw [tb_or.mpr (Or.inl u1)] at hb; cases hb
        · exact absurd (by rw [hgd v hv, u2]) hc.2
  have agr : ∀ u, S0.testBit u = true → ql.getD u 0 = R u := fun u hu => by rw [hgd u (b2 u hu).1, eqR u (nl u hu)]
  have hpc := pcn_s h7 a1 a2 a4
  have hV : V0 p.1 ql T.1 lead = S0 ||| 2 ^ last := by
    rw [b5 ql agr]
    obtain ⟨m, hm⟩ : ∃ m, T.1 - pcn S0 = m + 1 := ⟨T.1 - pcn S0 - 1, by omega⟩
    rw [hm, wk_go a4, hgd last a2, eqL]
    rcases hk with hk | ⟨hk1, hk2⟩
    · rw [hk, wk_n0]
    · rw [fw_is ip a3 hk2.symm, wk_in1 a5]
  have hcl := (hCg lead a3).mp a5
  have hone := one_bw h7 ip iq hcl (fun v hv => by rw [hV]; exact hCg v hv) (by
    rcases hk with hk | ⟨hk1, hk2⟩
    · left
      cases hf : fw ql (p.1.getD lead 0) 0 T.1 with
      | none => rfl
      | some u =>
        have hu := fw_lt hf
        have e := (fw_s hf).2
        rw [hgd u hu] at e
        rcases kind u hu with ⟨u1, u2⟩ | ⟨u1, u2, u3, u4, u5, u6, u7⟩ | ⟨u1, u2⟩
        · exact absurd (e.symm.trans u2) (fw_n hk lead (by omega) (by omega))
        · exact absurd (ip u3 lead u4 a3 (by rw [← u7, e])) u6
        · exact absurd (ip u lead hu a3 (by rw [← u2, e])) (outl u u1)
    · right
      intro X hX m hm hxm
      have hS0 : ∀ u, S0.testBit u = true → Cg p.1 ql T.1 u := fun u hu => (hCg u (b2 u hu).1).mp (tb_or.mpr (Or.inl hu))
      have hl := b6 ql agr X (fun u hu hxu v hv => hX u (hS0 u hu) hxu v hv) m ((hCg m hm.1).mpr hm) hxm
      refine hX last ((hCg last a2).mp bl) hl lead ?_
      rw [hgd last a2, eqL]
      exact fw_is ip a3 hk2.symm)
  refine ⟨(ql, smR T.2.2 0 ql), hq, hone.1, by rw [hone.2, hV], ?_⟩
  have hd := df_all hT hp hq (S := S0 ||| 2 ^ last) hCg
  have hd2 : dfS T p.1 ql (S0 ||| 2 ^ last) = sf + (x - (T.2.2 last (p.1.getD last 0)).getD 0) := by
    have e : dfS T p.1 ql (S0 ||| 2 ^ last) = smF (fun w => if S0.testBit w = true then dfQ T p.1 ql w else 0) T.1 + dfQ T p.1 ql last := smF_or a2 a4
    rw [e, b4]
    congr 1
    · refine smF_ext _ (fun i hi => ?_)
      by_cases z : S0.testBit i = true
      · rw [if_pos z, if_pos z]
        unfold dfQ
        rw [agr i z]
      · rw [if_neg z, if_neg z]
    · unfold dfQ
      rw [hgd last a2, eqL, hx]
      rfl
  have hd : dfS T p.1 ql (S0 ||| 2 ^ last) = smR T.2.2 0 ql - p.2 := hd
  show smR T.2.2 0 ql = _
  omega
theorem sh_some {T : tb} {p : List Nat} {w j : Nat} {d : Int} (h : shO T p w j = some d) : ∃ x, T.2.2 w j = some x ∧ d = x - (T.2.2 w (p.getD w 0)).getD 0 := by
  unfold shO at h
  cases hx : T.2.2 w j with
  | none => rw [hx] at h; cases h
  | some x => rw [hx] at h; exact ⟨x, rfl, (Option.some.inj h).symm⟩
def rU (R : Nat → Nat) (l j : Nat) : Nat → Nat := fun u => if u = l then j else R u
theorem rU_l {R : Nat → Nat} {l j : Nat} : rU R l j l = j := if_pos rfl
theorem rU_o {R : Nat → Nat} {l j u : Nat} (h : u ≠ l) : rU R l j u = R u := if_neg h
theorem ln_step {T : tb} (hT : tb_ok T) {p : asg} (hp : p ∈ allA T) {R : Nat → Nat} {lead last S0 v : Nat} {sf d : Int} (h : lnI T p.1 R lead last S0 sf) (hv : v < T.1) (hb : (S0 ||| 2 ^ last).testBit v = false) (hd : shO T p.1 last (p.1.getD v 0) = some d) : lnI T p.1 (rU R last (p.1.getD v 0)) lead v (S0 ||| 2 ^ last) (sf + d) := by
  have h7 := hT.1
  have ip := all_inj hp
  obtain ⟨⟨a1, a2, a3, a4, a5⟩, b1, b2, b3, b4, b5, b6⟩ := h
  obtain ⟨x, hx, ed⟩ := sh_some hd
  have nl : ∀ u, S0.testBit u = true → u ≠ last := fun u hu e => by rw [e, a4] at hu; cases hu
  have bl : (S0 ||| 2 ^ last).testBit last = true := tb_or.mpr (Or.inr rfl)
  have nS : ∀ u, (S0 ||| 2 ^ last).testBit u = true → u ≠ v := fun u hu e => by rw [e, hb] at hu; cases hu
  have up1 : ∀ u, (S0 ||| 2 ^ last).testBit u = true → (S0 ||| 2 ^ last ||| 2 ^ v).testBit u = true := fun u hu => tb_or.mpr (Or.inl hu)
  have hpc := pcn_s h7 a1 a2 a4
  refine ⟨⟨or_lt' a1 a2, hv, a3, hb, up1 lead a5⟩, fun u hu => ?_, fun u hu => ?_, fun u u' hu hu' e => ?_, ?_, fun ql hql => ?_, fun ql hql X hX m hm hxm => ?_⟩
  · have hne : u ≠ last := fun e => by rw [e, bl] at hu; cases hu
    rw [rU_o hne]
    refine b1 u ?_
    cases hq : S0.testBit u with
    | false => rfl
    | true => rw [tb_or.mpr (Or.inl hq)] at hu; cases hu
  · by_cases z : u = last
    · subst z
      rw [rU_l]
      refine ⟨a2, ⟨(all_get hT hp hv).1, by rw [hx]; rfl⟩, fun e => ?_, v, hv, tb_or.mpr (Or.inr rfl), fun e => ?_, rfl⟩
      · exact nS u bl (ip v u hv a2 e).symm
      · exact nS lead a5 e.symm
    · rw [rU_o z]
      have hu : S0.testBit u = true := (tb_or.mp hu).resolve_right (fun q => z q.symm)
      obtain ⟨c1, c2, c3, v', v1, v2, v3, v4⟩ := b2 u hu
      exact ⟨c1, c2, c3, v', v1, up1 v' v2, v3, v4⟩
  · have key : ∀ u, S0.testBit u = true → R u ≠ p.1.getD v 0 := by
      intro u hu e
      obtain ⟨_, _, _, v', v1, v2, v3, v4⟩ := b2 u hu
      exact nS v' v2 (ip v' v v1 hv (by rw [← v4, e]))
    by_cases z : u = last
    · by_cases z' : u' = last
      · rw [z, z']
      · rw [z, rU_l, rU_o z'] at e
        exact absurd e.symm (key u' ((tb_or.mp hu').resolve_right (fun q => z' q.symm)))
    · by_cases z' : u' = last
      · rw [z', rU_l, rU_o z] at e
        exact absurd e (key u ((tb_or.mp hu).resolve_right (fun q => z q.symm)))
      · rw [rU_o z, rU_o z'] at e
        exact b3 u u' ((tb_or.mp hu).resolve_right (fun q => z q.symm)) ((tb_or.mp hu').resolve_right (fun q => z' q.symm)) e
  · have e := smF_or (f := fun w => (T.2.2 w (rU R last (p.1.getD v 0) w)).getD 0 - (T.2.2 w (p.1.getD w 0)).getD 0) a2 a4
    have e2 : smF (fun i => if S0.testBit i = true then (T.2.2 i (rU R last (p.1.getD v 0) i)).getD 0 - (T.2.2 i (p.1.getD i 0)).getD 0 else 0) T.1 = sf := by
      rw [b4]
      refine smF_ext _ (fun i hi => ?_)
      by_cases z : S0.testBit i = true
      · rw [if_pos z, if_pos z, rU_o (nl i z)]
      · rw [if_neg z, if_neg z]
    refine Eq.trans ?_ e.symm
    rw [e2, rU_l, hx, ed]
    rfl
  · have agr : ∀ u, S0.testBit u = true → ql.getD u 0 = R u := fun u hu => by
      have := hql u (tb_or.mpr (Or.inl hu))
      rw [this, rU_o (nl u hu)]
    have ela : ql.getD last 0 = p.1.getD v 0 := by rw [hql last bl, rU_l]
    rw [b5 ql agr]
    obtain ⟨m, hm⟩ : ∃ m, T.1 - pcn S0 = m + 1 := ⟨T.1 - pcn S0 - 1, by omega⟩
    rw [hm, wk_go a4, ela, fw_is ip hv rfl, show T.1 - pcn (S0 ||| 2 ^ last) = m by omega]
  · have agr : ∀ u, S0.testBit u = true → ql.getD u 0 = R u := fun u hu => by
      have := hql u (tb_or.mpr (Or.inl hu))
      rw [this, rU_o (nl u hu)]
    have ela : ql.getD last 0 = p.1.getD v 0 := by rw [hql last bl, rU_l]
    rcases tb_or.mp hm with hm | hm
    · have hxl := b6 ql agr X (fun u hu => hX u (tb_or.mpr (Or.inl hu))) m hm hxm
      exact hX last bl hxl v (by rw [ela]; exact fw_is ip hv rfl)
    · rw [hm]; exact hxm
theorem ln_0 {T : tb} {p : asg} {w : Nat} (hw : w < T.1) : lnI T p.1 (fun v => p.1.getD v 0) w w 0 0 := by
  have hz : ∀ v, (0 : Nat).testBit v = true → False := fun v h => by rw [Nat.zero_testBit] at h; cases h
  refine ⟨⟨Nat.pow_pos (by omega), hw, hw, Nat.zero_testBit w, tb_or.mpr (Or.inr rfl)⟩, fun _ _ => rfl, fun u hu => (hz u hu).elim, fun u _ hu => (hz u hu).elim, ?_, fun ql _ => ?_, fun ql _ X _ m hm hxm => ?_⟩
  · have h1 : ∀ n, smF (fun _ => 0) n = 0 := by
      intro n
      induction n with
      | zero => rfl
      | succ n ih => show smF (fun _ => 0) n + 0 = 0; omega
    refine (h1 T.1).symm.trans (smF_ext _ (fun i _ => ?_))
    rw [Nat.zero_testBit, if_neg (by decide)]
  · rw [pc0, Nat.sub_zero]
  · rcases tb_or.mp hm with h | h
    · exact (hz m h).elim
    · rw [h]; exact hxm
theorem off_A {T : tb} (hT : tb_ok T) {p : asg} (hp : p ∈ allA T) {S' : Nat} {t' : Int} : ∀ (n : Nat) (R : Nat → Nat) (lead last S0 : Nat) (sf : Int), lnI T p.1 R lead last S0 sf → offs T p.1 n lead last (S0 ||| 2 ^ last) sf S' t' → ∃ q, q ∈ allA T ∧ cntP (rdE p.1 q.1 T.1) = 1 ∧ (rdE p.1 q.1 T.1).1 = S' ∧ q.2 = p.2 + t'
  | 0, _, _, _, _, _, _, ho => ho.elim
  | n + 1, R, lead, last, S0, sf, h, ho => by
    rcases ho with ⟨h1, d, h2, rfl, rfl⟩ | ⟨j, d, hj, h1, h2, rfl, rfl⟩ | ⟨v, d, hv, hb, h2, ho⟩
    · obtain ⟨x, hx, rfl⟩ := sh_some h2
      exact ln_fin hT hp h (all_get hT hp h.1.2.2.1).1 hx (Or.inr ⟨h1, rfl⟩)
    · obtain ⟨x, hx, rfl⟩ := sh_some h2
      exact ln_fin hT hp h hj hx (Or.inl h1)
    · exact off_A hT hp n _ lead v _ _ (ln_step hT hp h hv hb h2) ho
theorem off_iff {T : tb} (hT : tb_ok T) {p : asg} (hp : p ∈ allA T) (S : Nat) (t : Int) : (∃ w, w < T.1 ∧ offs T p.1 9 w w (2 ^ w) 0 S t) ↔ ∃ q, q ∈ allA T ∧ cntP (rdE p.1 q.1 T.1) = 1 ∧ (rdE p.1 q.1 T.1).1 = S ∧ t = q.2 - p.2 := by
  constructor
  · rintro ⟨w, hw, ho⟩
    have ho : offs T p.1 9 w w (0 ||| 2 ^ w) 0 S t := by rw [Nat.zero_or]; exact ho
    obtain ⟨q, h1, h2, h3, h4⟩ := off_A hT hp 9 _ w w 0 0 (ln_0 hw) ho
    exact ⟨q, h1, h2, h3, by omega⟩
  · rintro ⟨q, hq, h1, rfl, rfl⟩
    exact off_fw hT hp hq h1
