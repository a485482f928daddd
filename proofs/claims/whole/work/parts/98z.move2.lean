theorem dec_any {A : ast} (hok : okA A) (x : Int32) : (∀ p, p ∈ allA A.1 → nI (cod p.1) ≠ x) ∧ (∀ s, clA A s → Ev (f_X1_decode 3 56 x s) (fun r => r.1 = 0 ∧ sx_eq (Dar 56) s r.2)) ∨ ∃ p, p ∈ allA A.1 ∧ nI (cod p.1) = x ∧ ∀ s, clA A s → Ev (f_X1_decode 3 56 x s) (fun r => r.1 = 1 ∧ (∀ i j, p.1[i]? = some j → rA r.2 56 i = nI j) ∧ sx_eq (Dar 56) s r.2) := by
  rcases i32_nat x with h | ⟨t, ht, rfl⟩
  · refine Or.inl ⟨fun p hp q => ?_, fun s _ => ⟨(0, s), dec_neg h, rfl, sx_rf _ _⟩⟩
    have := cod_21 hok.1 hp
    rw [← q] at h
    exact nI_pos (by omega) h
  · by_cases q : ∃ p, p ∈ allA A.1 ∧ cod p.1 = t
    · obtain ⟨p, hp, hpt⟩ := q
      refine Or.inr ⟨p, hp, by rw [hpt], fun s hc => ?_⟩
      obtain ⟨r, e, h, hx⟩ := f_decode (ra := 56) hok.1 hc.1 t ht
      rcases h with ⟨v, p', hp', hc', hrow⟩ | ⟨v, hn⟩
      · have : p' = p := by
          obtain ⟨i, hi⟩ := List.getElem?_of_mem hp
          obtain ⟨k, hk⟩ := List.getElem?_of_mem hp'
          have := (ex_inj hk hi).2 (by rw [hc', hpt])
          rw [this] at hk
          rw [hi] at hk
          exact (Option.some.inj hk).symm
        subst this
        exact ⟨r, e, v, hrow, hx⟩
      · exact absurd hpt (hn p hp)
    · refine Or.inl ⟨fun p hp z => q ⟨p, hp, ?_⟩, fun s hc => ?_⟩
      · have := cod_21 hok.1 hp
        exact (nI_eq (by omega) (by omega)).mp z
      · obtain ⟨r, e, h, hx⟩ := f_decode (ra := 56) hok.1 hc.1 t ht
        rcases h with ⟨v, p', hp', hc', hrow⟩ | ⟨v, hn⟩
        · exact absurd ⟨p', hp', hc'⟩ q
        · exact ⟨r, e, v, hx⟩
def mvV (z : Int32) (m : mb) : Int64 :=
  match m with
  | none => -9223372036854775808
  | some c => if z = 0 then jJ c.1 else if z = 1 then (nI (pcn c.2)).toInt64 else (nI c.2).toInt64
theorem stp_35 : st_ok_35 Rel := by
  intro x z s ⟨A, hok, hc, hr⟩
  have bA : lbd (allA A.1) := all_bd hok.1
  have h40 := bA.1
  rcases in_2k z with hz | hz | hz | ⟨hz, hzi⟩
  rotate_left 3
  · -- a word that isn't one
    refine st_q (f1 := f_X11_move x z) (f2 := f_X12_move x z) (-9223372036854775808) hok hc hr (fun hc => ?_) (lo_X11_move _ _) (cF_X11_move _ _) (fun s1 hr1 => ?_) (hi_X12_move _ _) (rF_X12_move _ _)
    · unfold f_X11_move
      rcases hz with hz | hz
      · rw [if_pos hz]; exact ⟨_, rfl, rfl⟩
      · by_cases y : z < 0
        · rw [if_pos y]; exact ⟨_, rfl, rfl⟩
        · rw [if_neg y, if_pos (Int32.not_le.mp hz)]; exact ⟨_, rfl, rfl⟩
    · obtain ⟨s2, e2, hl, ht, _⟩ := r_all hok hr1
      obtain ⟨b, e3, h1, h2⟩ := r_find (f := fun x a => f_X12_move_L9 x z a) hok.1 hl x (fun a => rfl)
      unfold f_X12_move
      rw [bnd e2, bnd e3]
      by_cases y : oI b = -1
      · rw [if_pos y]; exact ⟨_, rfl, rfl⟩
      · rw [if_neg y, bnd (hzi s2), if_pos rfl]; exact ⟨_, rfl, rfl⟩
  all_goals
    have hz0 : ¬ z < 0 := by rw [hz]; decide
    have hz2 : ¬ (2 : Int32) < z := by rw [hz]; decide
    have hzr : ∀ s, f_X12_in z.toInt64 0 2 s = some (1, s) := fun s => by rw [hz]; rfl
    rcases dec_any hok x with ⟨hno, hcd⟩ | ⟨p, hp, hpx, hcd⟩
    · refine st_q (f1 := f_X11_move x z) (f2 := f_X12_move x z) (-9223372036854775808) hok hc hr (fun hc => ?_) (lo_X11_move _ _) (cF_X11_move _ _) (fun s1 hr1 => ?_) (hi_X12_move _ _) (rF_X12_move _ _)
      · obtain ⟨r, e, v, hx⟩ := hcd s hc
        unfold f_X11_move
        rw [if_neg hz0, if_neg hz2, bnd e, if_pos v]
        exact ⟨_, rfl, rfl⟩
      · obtain ⟨s2, e2, hl, ht, _⟩ := r_all hok hr1
        obtain ⟨b, e3, h1, h2⟩ := r_find (f := fun x a => f_X12_move_L9 x z a) hok.1 hl x (fun a => rfl)
        have : b = none := by
          cases b with
          | none => rfl
          | some k =>
            obtain ⟨p, hp, hpx⟩ := h2 k rfl
            exact absurd hpx (hno p (List.mem_of_getElem? hp))
        subst this
        unfold f_X12_move
        rw [bnd e2, bnd e3, if_pos (show oI none = -1 from rfl)]
        exact ⟨_, rfl, rfl⟩
    · have hpb := bA.2 p hp
      have hex : ∃ m : mb, bsI (fun S t => ∃ w, w < A.1.1 ∧ offs A.1 p.1 9 w w (2 ^ w) 0 S t) m ∧ ∀ t S, m = some (t, S) → S < 256 := by
        obtain ⟨r, e, v, hrow, hx⟩ := hcd s hc
        obtain ⟨r2, _, m, _, h1, h2⟩ := c_search hok.1 (grid_eq hx (fun z => z) (fun z => z) (fun z => z) hc.1) hp hrow
        exact ⟨m, h2, fun t S e => (h1.2 t S e).2.2.2.1⟩
      obtain ⟨m, hm, hmS⟩ := hex
      refine st_q (f1 := f_X11_move x z) (f2 := f_X12_move x z) (mvV z m) hok hc hr (fun hc => ?_) (lo_X11_move _ _) (cF_X11_move _ _) (fun s1 hr1 => ?_) (hi_X12_move _ _) (rF_X12_move _ _)
      · obtain ⟨r, e, v, hrow, hx⟩ := hcd s hc
        obtain ⟨⟨r1, s2⟩, e2, m', k1, k2, k3⟩ := c_search hok.1 (grid_eq hx (fun z => z) (fun z => z) (fun z => z) hc.1) hp hrow
        simp only at k1 k2
        have em := bsI_u k3 hm
        subst em
        unfold f_X11_move
        rw [if_neg hz0, if_neg hz2, bnd e, v, if_neg n1_0, bnd e2]
        cases m' with
        | none =>
          rw [if_pos rfl] at k1
          rw [if_pos k1]
          exact ⟨_, rfl, rfl⟩
        | some c =>
          obtain ⟨t, S⟩ := c
          obtain ⟨a1, a2, a3, a4, a5⟩ := k2.2 t S rfl
          rw [if_neg (by simp)] at k1
          rw [k1, if_neg n1_0]
          by_cases y0 : z = 0
          · rw [if_pos y0]
            refine ⟨_, rfl, ?_⟩
            show rJ s2 53 3 = if z = 0 then _ else _
            rw [if_pos y0, a2]
          · rw [if_neg y0]
            by_cases y1 : z = 1
            · rw [if_pos y1, a1, bnd (f_pcn a4 s2)]
              refine ⟨_, rfl, ?_⟩
              show _ = if z = 0 then _ else if z = 1 then _ else _
              rw [if_neg y0, if_pos y1]
            · rw [if_neg y1, a1]
              refine ⟨_, rfl, ?_⟩
              show _ = if z = 0 then _ else if z = 1 then _ else _
              rw [if_neg y0, if_neg y1]
      · obtain ⟨s2, e2, hl, ht, _⟩ := r_all hok hr1
        obtain ⟨b, e3, h1, h2⟩ := r_find (f := fun x a => f_X12_move_L9 x z a) hok.1 hl x (fun a => rfl)
        cases b with
        | none => exact absurd hpx (h1 rfl p hp)
        | some k =>
          obtain ⟨p', hp', hpx'⟩ := h2 k rfl
          have hk : k < (allA A.1).length := (List.getElem?_eq_some_iff.mp hp').1
          have c1 := cod_21 hok.1 hp
          have c2 := cod_21 hok.1 (List.mem_of_getElem? hp')
          obtain ⟨i0, hi0⟩ := List.getElem?_of_mem hp
          have hik : i0 = k := (ex_inj hi0 hp').2 ((nI_eq (by omega) (by omega)).mp (by rw [hpx, hpx']))
          subst hik
          have hpp : p' = p := by
            rw [hi0] at hp'
            exact (Option.some.inj hp').symm
          subst hpp
          have hin0 : ¬ (nI i0 < 0 ∨ 40320 ≤ (nI i0).toNatClampNeg) := by
            rw [nI_cl (by omega)]
            exact fun q => q.elim (nI_pos (by omega)) (by omega)
          have hm1 : ¬ oI (some i0) = (-1 : Int32) := of_eq_false (nI_m_F (a := i0) (by omega))
          obtain ⟨⟨b1, b2, s3⟩, e4, hl3, m', k1, k2⟩ := r_move hok.1 ht hl hp' z
          simp only at hl3 k2
          have em : m' = m := by
            refine bsI_u k1 (bsI_c hm (fun S t => ?_))
            rw [off_iff hok.1 hp]
            constructor
            · rintro ⟨k, q, _, g2, g3⟩
              exact ⟨q, List.mem_of_getElem? g2, g3⟩
            · rintro ⟨q, g1, g3⟩
              obtain ⟨k, hk⟩ := List.getElem?_of_mem g1
              exact ⟨k, q, (List.getElem?_eq_some_iff.mp hk).1, hk, g3⟩
          subst em
          have e4 : whT (f_X12_move_L72 z (oI (some i0))) (-1, 0, 0, s2) = some (b1, b2, s3) := e4
          unfold f_X12_move
          rw [bnd e2, bnd e3, if_neg hm1, bnd (hzr s2), if_neg n1_0, bnd e4]
          rcases k2 with ⟨em, e1⟩ | ⟨b, q, S, em, hb4, hqA, hq, e1, e5, hS6⟩
          · rw [if_pos e1, em]
            exact ⟨_, rfl, rfl⟩
          · have hqb := bA.2 q hqA
            have hinb : ¬ (nI b < 0 ∨ 40320 ≤ (nI b).toNatClampNeg) := by
              rw [nI_cl (by omega)]
              exact fun q => q.elim (nI_pos (by omega)) (by omega)
            have hin1 : ¬ (oI (some i0) < 0 ∨ 40320 ≤ (oI (some i0)).toNatClampNeg) := hin0
            have hcl : (oI (some i0)).toNatClampNeg = i0 := nI_cl (by omega)
            rw [e1, if_neg (show ¬ nI b = (-1 : Int32) from of_eq_false (nI_m_F (by omega))), em]
            by_cases y0 : z = 0
            · rw [if_pos y0, if_pos hinb, if_pos hin1, hcl, nI_cl (by omega)]
              refine ⟨_, rfl, ?_⟩
              show (rA s3 64 b - rA s3 64 i0).toInt64 = if z = 0 then jJ (q.2 - p'.2) else _
              rw [if_pos y0, (hl3.2 b q hq).2, (hl3.2 i0 p' hp').2, iI_sub, iI_64 (by omega) (by omega)]
            · rw [if_neg y0]
              by_cases y1 : z = 1
              · rw [if_pos y1, e5, bnd (r_bits hS6 s3)]
                refine ⟨_, rfl, ?_⟩
                show _ = if z = 0 then _ else if z = 1 then _ else _
                rw [if_neg y0, if_pos y1]
              · rw [if_neg y1, e5]
                refine ⟨_, rfl, ?_⟩
                show _ = if z = 0 then _ else if z = 1 then _ else _
                rw [if_neg y0, if_neg y1]
