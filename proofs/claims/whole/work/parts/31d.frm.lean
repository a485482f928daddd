abbrev xI_X0_seat : Nat → Nat → Prop := fun o k => False
abbrev xJ_X0_seat : Nat → Nat → Prop := fun o k => False
abbrev xA_X0_seat : Nat → Prop := fun o => o = 47 ∨ o = 48
abbrev xB_X0_seat : Nat → Prop := fun o => False
abbrev xS_X0_seat : sx_D := (xI_X0_seat, xJ_X0_seat, xA_X0_seat, xB_X0_seat)
set_option maxRecDepth 100000 in
set_option maxHeartbeats 1000000 in
theorem fr_f_X0_seat (x1 : Int32) (x2 : Int32) (s : sx_M) {p : sx_M} (hf : f_X0_seat x1 x2 s = some p) : sx_eq (xS_X0_seat) s p := by
  unfold f_X0_seat at hf
  obtain ⟨p1, hp1, hf⟩ := ax_bind hf
  rcases ax_or hf with ⟨hc3, hf⟩ | ⟨hc3, hf⟩
  · exact ax_ret (P := fun q : sx_M => sx_eq (xS_X0_seat) s q) hf (sx_tr (sx_rf _ s) (sx_mono (D1 := xS_X1_has 3) (fr_f_X1_has (p := p1) 3 x1 x2 s ax_G3 hp1) (fun o k h => h.elim) (fun o k h => h.elim) (fun o h => h.elim) (fun o h => h.elim)))
  · obtain ⟨_, hf⟩ := ax_ite hf
    obtain ⟨_, hf⟩ := ax_ite hf
    exact ax_ret (P := fun q : sx_M => sx_eq (xS_X0_seat) s q) hf (sx_wA' (D := (xS_X0_seat)) (sx_wA' (D := (xS_X0_seat)) (sx_tr (sx_rf _ s) (sx_mono (D1 := xS_X1_has 3) (fr_f_X1_has (p := p1) 3 x1 x2 s ax_G3 hp1) (fun o k h => h.elim) (fun o k h => h.elim) (fun o h => h.elim) (fun o h => h.elim))) ((fun q => Or.inl q) rfl)) ((fun q => Or.inr (q)) rfl))
abbrev xI_X0_takeLeast : Nat → Nat → Prop := fun o k => False
abbrev xJ_X0_takeLeast : Nat → Nat → Prop := fun o k => (o = 46 ∧ k = 3)
abbrev xA_X0_takeLeast : Nat → Prop := fun o => o = 47 ∨ o = 48
abbrev xB_X0_takeLeast : Nat → Prop := fun o => False
abbrev xS_X0_takeLeast : sx_D := (xI_X0_takeLeast, xJ_X0_takeLeast, xA_X0_takeLeast, xB_X0_takeLeast)
set_option maxRecDepth 100000 in
set_option maxHeartbeats 1000000 in
theorem fr_f_X0_takeLeast (s : sx_M) {p : Int32 × sx_M} (hf : f_X0_takeLeast s = some p) : sx_eq (xS_X0_takeLeast) s p.2 := by
  unfold f_X0_takeLeast at hf
  obtain ⟨b4, hb4, hf⟩ := ax_bind hf
  have hvb4 := wh_inv ((9223372036854775807 : Int64), (0 : Int32), (0 : Int32), (0 : Int32), s) (fun a12 : Int64 × Int32 × Int32 × Int32 × sx_M => sx_eq (xS_X0_takeLeast) s a12.2.2.2.2) (fun e : Int64 × Int32 × Int32 × sx_M => sx_eq (xS_X0_takeLeast) s e.2.2.2) hb4 ?_ (sx_rf _ s)
  rotate_left
  · intro a12 r ha12 hf
    unfold f_X0_takeLeast_L12 at hf
    rcases ax_or hf with ⟨hc8, hf⟩ | ⟨hc8, hf⟩
    · exact ax_ret (P := Sum.elim (fun a12 : Int64 × Int32 × Int32 × Int32 × sx_M => sx_eq (xS_X0_takeLeast) s a12.2.2.2.2) (fun e : Int64 × Int32 × Int32 × sx_M => sx_eq (xS_X0_takeLeast) s e.2.2.2)) hf ha12
    · obtain ⟨b3, hb3, hf⟩ := ax_bind hf
      have hvb3 := wh_inv (a12.1, a12.2.1, a12.2.2.1, (0 : Int32), a12.2.2.2.2) (fun a27 : Int64 × Int32 × Int32 × Int32 × sx_M => sx_eq (xS_X0_takeLeast) s a27.2.2.2.2) (fun e : Int64 × Int32 × Int32 × sx_M => sx_eq (xS_X0_takeLeast) s e.2.2.2) hb3 ?_ ha12
      rotate_left
      · intro a27 r ha27 hf
        unfold f_X0_takeLeast_L27 at hf
        have J66 : ∀ (y1_66 : Int64) (y3_66 : Int32) (y4_66 : Int32) (y6_66 : Int32) (t0_66 : Int32) (s_66 : sx_M), sx_eq (xS_X0_takeLeast) s s_66 → f_X0_takeLeast_L27_J66 a12.2.2.2.1 y1_66 y3_66 y4_66 y6_66 t0_66 s_66 = some r → Sum.elim (fun a27 : Int64 × Int32 × Int32 × Int32 × sx_M => sx_eq (xS_X0_takeLeast) s a27.2.2.2.2) (fun e : Int64 × Int32 × Int32 × sx_M => sx_eq (xS_X0_takeLeast) s e.2.2.2) r := by
          intro y1_66 y3_66 y4_66 y6_66 t0_66 s_66 hs_66 hf
          unfold f_X0_takeLeast_L27_J66 at hf
          rcases ax_or hf with ⟨hc2, hf⟩ | ⟨hc2, hf⟩
          · exact ax_ret (P := Sum.elim (fun a27 : Int64 × Int32 × Int32 × Int32 × sx_M => sx_eq (xS_X0_takeLeast) s a27.2.2.2.2) (fun e : Int64 × Int32 × Int32 × sx_M => sx_eq (xS_X0_takeLeast) s e.2.2.2)) hf hs_66
          · obtain ⟨p1, hp1, hf⟩ := ax_bind hf
            rcases ax_or hf with ⟨hc1, hf⟩ | ⟨hc1, hf⟩
            · exact ax_ret (P := Sum.elim (fun a27 : Int64 × Int32 × Int32 × Int32 × sx_M => sx_eq (xS_X0_takeLeast) s a27.2.2.2.2) (fun e : Int64 × Int32 × Int32 × sx_M => sx_eq (xS_X0_takeLeast) s e.2.2.2)) hf (sx_tr hs_66 (sx_mono (D1 := xS_X1_at 3) (fr_f_X1_at (p := p1) 3 a12.2.2.2.1 y6_66 s_66 ax_G3 hp1) (fun o k h => h.elim) (fun o k h => h.elim) (fun o h => h.elim) (fun o h => h.elim)))
            · obtain ⟨p2, hp2, hf⟩ := ax_bind hf
              exact ax_ret (P := Sum.elim (fun a27 : Int64 × Int32 × Int32 × Int32 × sx_M => sx_eq (xS_X0_takeLeast) s a27.2.2.2.2) (fun e : Int64 × Int32 × Int32 × sx_M => sx_eq (xS_X0_takeLeast) s e.2.2.2)) hf (sx_tr (sx_tr hs_66 (sx_mono (D1 := xS_X1_at 3) (fr_f_X1_at (p := p1) 3 a12.2.2.2.1 y6_66 s_66 ax_G3 hp1) (fun o k h => h.elim) (fun o k h => h.elim) (fun o h => h.elim) (fun o h => h.elim))) (sx_mono (D1 := xS_X1_at 3) (fr_f_X1_at (p := p2) 3 a12.2.2.2.1 y6_66 p1.2 ax_G3 hp2) (fun o k h => h.elim) (fun o k h => h.elim) (fun o h => h.elim) (fun o h => h.elim)))
        rcases ax_or hf with ⟨hc7, hf⟩ | ⟨hc7, hf⟩
        · exact ax_ret (P := Sum.elim (fun a27 : Int64 × Int32 × Int32 × Int32 × sx_M => sx_eq (xS_X0_takeLeast) s a27.2.2.2.2) (fun e : Int64 × Int32 × Int32 × sx_M => sx_eq (xS_X0_takeLeast) s e.2.2.2)) hf ha27
        · obtain ⟨_, hf⟩ := ax_ite hf
          rcases ax_or hf with ⟨hc6, hf⟩ | ⟨hc6, hf⟩
          · obtain ⟨_, hf⟩ := ax_ite hf
            rcases ax_or hf with ⟨hc5, hf⟩ | ⟨hc5, hf⟩
            · exact J66 a27.1 a27.2.1 a27.2.2.1 a27.2.2.2.1 (1 : Int32) a27.2.2.2.2 ha27 hf
            · exact J66 a27.1 a27.2.1 a27.2.2.1 a27.2.2.2.1 (0 : Int32) a27.2.2.2.2 ha27 hf
          · exact J66 a27.1 a27.2.1 a27.2.2.1 a27.2.2.2.1 (0 : Int32) a27.2.2.2.2 ha27 hf
      exact ax_ret (P := Sum.elim (fun a12 : Int64 × Int32 × Int32 × Int32 × sx_M => sx_eq (xS_X0_takeLeast) s a12.2.2.2.2) (fun e : Int64 × Int32 × Int32 × sx_M => sx_eq (xS_X0_takeLeast) s e.2.2.2)) hf hvb3
  rcases ax_or hf with ⟨hc9, hf⟩ | ⟨hc9, hf⟩
  · exact ax_ret (P := fun q : Int32 × sx_M => sx_eq (xS_X0_takeLeast) s q.2) hf hvb4
  · obtain ⟨p5, hp5, hf⟩ := ax_bind hf
    exact ax_ret (P := fun q : Int32 × sx_M => sx_eq (xS_X0_takeLeast) s q.2) hf (sx_wJ' (D := (xS_X0_takeLeast)) (sx_tr hvb4 (sx_mono (D1 := xS_X0_seat) (fr_f_X0_seat (p := p5) b4.2.1 b4.2.2.1 b4.2.2.2 hp5) (fun o k h => h.elim) (fun o k h => h.elim) (fun o h => Or.elim h (fun q => (fun q => Or.inl q) q) (fun q0 => (fun q => Or.inr (q)) q0)) (fun o h => h.elim))) ((fun q => q) ⟨rfl, rfl⟩))
abbrev xI_X0_take : Nat → Nat → Prop := fun o k => (o = 46 ∧ k = 4)
abbrev xJ_X0_take : Nat → Nat → Prop := fun o k => (o = 46 ∧ k = 3)
abbrev xA_X0_take : Nat → Prop := fun o => o = 47 ∨ o = 48
abbrev xB_X0_take : Nat → Prop := fun o => False
abbrev xS_X0_take : sx_D := (xI_X0_take, xJ_X0_take, xA_X0_take, xB_X0_take)
set_option maxRecDepth 100000 in
set_option maxHeartbeats 1000000 in
theorem fr_f_X0_take (s : sx_M) {p : sx_M} (hf : f_X0_take s = some p) : sx_eq (xS_X0_take) s p := by
  unfold f_X0_take at hf
  obtain ⟨b1, hb1, hf⟩ := ax_bind hf
  have hvb1 := wh_inv ((0 : Int32), s) (fun a2 : Int32 × sx_M => sx_eq (xS_X0_take) s a2.2) (fun e : sx_M => sx_eq (xS_X0_take) s e) hb1 ?_ (sx_rf _ s)
  rotate_left
  · intro a2 r ha2 hf
    unfold f_X0_take_L2 at hf
    rcases ax_or hf with ⟨hc2, hf⟩ | ⟨hc2, hf⟩
    · exact ax_ret (P := Sum.elim (fun a2 : Int32 × sx_M => sx_eq (xS_X0_take) s a2.2) (fun e : sx_M => sx_eq (xS_X0_take) s e)) hf ha2
    · obtain ⟨_, hf⟩ := ax_ite hf
      exact ax_ret (P := Sum.elim (fun a2 : Int32 × sx_M => sx_eq (xS_X0_take) s a2.2) (fun e : sx_M => sx_eq (xS_X0_take) s e)) hf (sx_wA' (D := (xS_X0_take)) ha2 ((fun q => Or.inl q) rfl))
  obtain ⟨b2, hb2, hf⟩ := ax_bind hf
  have hvb2 := wh_inv ((0 : Int32), b1) (fun a23 : Int32 × sx_M => sx_eq (xS_X0_take) s a23.2) (fun e : sx_M => sx_eq (xS_X0_take) s e) hb2 ?_ hvb1
  rotate_left
  · intro a23 r ha23 hf
    unfold f_X0_take_L23 at hf
    rcases ax_or hf with ⟨hc4, hf⟩ | ⟨hc4, hf⟩
    · exact ax_ret (P := Sum.elim (fun a23 : Int32 × sx_M => sx_eq (xS_X0_take) s a23.2) (fun e : sx_M => sx_eq (xS_X0_take) s e)) hf ha23
    · obtain ⟨_, hf⟩ := ax_ite hf
      exact ax_ret (P := Sum.elim (fun a23 : Int32 × sx_M => sx_eq (xS_X0_take) s a23.2) (fun e : sx_M => sx_eq (xS_X0_take) s e)) hf (sx_wA' (D := (xS_X0_take)) ha23 ((fun q => Or.inr (q)) rfl))
  obtain ⟨b4, hb4, hf⟩ := ax_bind hf
  have hvb4 := wh_inv (wI (wJ b2 46 3 (0 : Int64)) 46 4 (0 : Int32)) (fun a52 : sx_M => sx_eq (xS_X0_take) s a52) (fun e : sx_M => sx_eq (xS_X0_take) s e) hb4 ?_ (sx_wI' (D := (xS_X0_take)) (sx_wJ' (D := (xS_X0_take)) hvb2 ((fun q => q) ⟨rfl, rfl⟩)) ((fun q => q) ⟨rfl, rfl⟩))
  rotate_left
  · intro a52 r ha52 hf
    unfold f_X0_take_L52 at hf
    rcases ax_or hf with ⟨hc6, hf⟩ | ⟨hc6, hf⟩
    · exact ax_ret (P := Sum.elim (fun a52 : sx_M => sx_eq (xS_X0_take) s a52) (fun e : sx_M => sx_eq (xS_X0_take) s e)) hf ha52
    · obtain ⟨p3, hp3, hf⟩ := ax_bind hf
      rcases ax_or hf with ⟨hc5, hf⟩ | ⟨hc5, hf⟩
      · exact ax_ret (P := Sum.elim (fun a52 : sx_M => sx_eq (xS_X0_take) s a52) (fun e : sx_M => sx_eq (xS_X0_take) s e)) hf (sx_tr ha52 (sx_mono (D1 := xS_X0_takeLeast) (fr_f_X0_takeLeast (p := p3) a52 hp3) (fun o k h => h.elim) (fun o k h => (fun q => q) h) (fun o h => Or.elim h (fun q => (fun q => Or.inl q) q) (fun q0 => (fun q => Or.inr (q)) q0)) (fun o h => h.elim)))
      · exact ax_ret (P := Sum.elim (fun a52 : sx_M => sx_eq (xS_X0_take) s a52) (fun e : sx_M => sx_eq (xS_X0_take) s e)) hf (sx_wI' (D := (xS_X0_take)) (sx_tr ha52 (sx_mono (D1 := xS_X0_takeLeast) (fr_f_X0_takeLeast (p := p3) a52 hp3) (fun o k h => h.elim) (fun o k h => (fun q => q) h) (fun o h => Or.elim h (fun q => (fun q => Or.inl q) q) (fun q0 => (fun q => Or.inr (q)) q0)) (fun o h => h.elim))) ((fun q => q) ⟨rfl, rfl⟩))
  exact ax_ret (P := fun q : sx_M => sx_eq (xS_X0_take) s q) hf hvb4
abbrev xI_X0_goingGain : Nat → Nat → Prop := fun o k => False
abbrev xJ_X0_goingGain : Nat → Nat → Prop := fun o k => False
abbrev xA_X0_goingGain : Nat → Prop := fun o => False
abbrev xB_X0_goingGain : Nat → Prop := fun o => False
abbrev xS_X0_goingGain : sx_D := (xI_X0_goingGain, xJ_X0_goingGain, xA_X0_goingGain, xB_X0_goingGain)
set_option maxRecDepth 100000 in
set_option maxHeartbeats 1000000 in
theorem fr_f_X0_goingGain (x1 : Int32) (x2 : Int32) (s : sx_M) {p : Int64 × sx_M} (hf : f_X0_goingGain x1 x2 s = some p) : sx_eq (xS_X0_goingGain) s p.2 := by
  unfold f_X0_goingGain at hf
  obtain ⟨p1, hp1, hf⟩ := ax_bind hf
  rcases ax_or hf with ⟨hc2, hf⟩ | ⟨hc2, hf⟩
  · exact ax_ret (P := fun q : Int64 × sx_M => sx_eq (xS_X0_goingGain) s q.2) hf (sx_tr (sx_rf _ s) (sx_mono (D1 := xS_X1_at 3) (fr_f_X1_at (p := p1) 3 x1 x2 s ax_G3 hp1) (fun o k h => h.elim) (fun o k h => h.elim) (fun o h => h.elim) (fun o h => h.elim)))
  · obtain ⟨_, hf⟩ := ax_ite hf
    obtain ⟨p2, hp2, hf⟩ := ax_bind hf
    exact ax_ret (P := fun q : Int64 × sx_M => sx_eq (xS_X0_goingGain) s q.2) hf (sx_tr (sx_tr (sx_rf _ s) (sx_mono (D1 := xS_X1_at 3) (fr_f_X1_at (p := p1) 3 x1 x2 s ax_G3 hp1) (fun o k h => h.elim) (fun o k h => h.elim) (fun o h => h.elim) (fun o h => h.elim))) (sx_mono (D1 := xS_X1_at 3) (fr_f_X1_at (p := p2) 3 x1 (rA p1.2 47 (x1).toNatClampNeg) p1.2 ax_G3 hp2) (fun o k h => h.elim) (fun o k h => h.elim) (fun o h => h.elim) (fun o h => h.elim)))
abbrev xI_X0_weigh : Nat → Nat → Prop := fun o k => (o = 46 ∧ k = 7) ∨ (o = 46 ∧ k = 8)
abbrev xJ_X0_weigh : Nat → Nat → Prop := fun o k => (o = 46 ∧ k = 6)
abbrev xA_X0_weigh : Nat → Prop := fun o => False
abbrev xB_X0_weigh : Nat → Prop := fun o => False
abbrev xS_X0_weigh : sx_D := (xI_X0_weigh, xJ_X0_weigh, xA_X0_weigh, xB_X0_weigh)
set_option maxRecDepth 100000 in
set_option maxHeartbeats 1000000 in
theorem fr_f_X0_weigh (x1 : Int32) (x2 : Int32) (x3 : Int64) (s : sx_M) {p : sx_M} (hf : f_X0_weigh x1 x2 x3 s = some p) : sx_eq (xS_X0_weigh) s p := by
  unfold f_X0_weigh at hf
  rcases ax_or hf with ⟨hc1, hf⟩ | ⟨hc1, hf⟩
  · exact ax_ret (P := fun q : sx_M => sx_eq (xS_X0_weigh) s q) hf (sx_rf _ s)
  · exact ax_ret (P := fun q : sx_M => sx_eq (xS_X0_weigh) s q) hf (sx_wI' (D := (xS_X0_weigh)) (sx_wI' (D := (xS_X0_weigh)) (sx_wJ' (D := (xS_X0_weigh)) (sx_rf _ s) ((fun q => q) ⟨rfl, rfl⟩)) ((fun q => Or.inl q) ⟨rfl, rfl⟩)) ((fun q => Or.inr (q)) ⟨rfl, rfl⟩))
abbrev xI_X0_changingGain : Nat → Nat → Prop := fun o k => False
abbrev xJ_X0_changingGain : Nat → Nat → Prop := fun o k => False
abbrev xA_X0_changingGain : Nat → Prop := fun o => False
abbrev xB_X0_changingGain : Nat → Prop := fun o => False
abbrev xS_X0_changingGain : sx_D := (xI_X0_changingGain, xJ_X0_changingGain, xA_X0_changingGain, xB_X0_changingGain)
set_option maxRecDepth 100000 in
set_option maxHeartbeats 1000000 in
theorem fr_f_X0_changingGain (x1 : Int32) (x2 : Int32) (s : sx_M) {p : Int64 × sx_M} (hf : f_X0_changingGain x1 x2 s = some p) : sx_eq (xS_X0_changingGain) s p.2 := by
  unfold f_X0_changingGain at hf
  obtain ⟨_, hf⟩ := ax_ite hf
  obtain ⟨p1, hp1, hf⟩ := ax_bind hf
  obtain ⟨_, hf⟩ := ax_ite hf
  obtain ⟨p2, hp2, hf⟩ := ax_bind hf
  rcases ax_or hf with ⟨hc4, hf⟩ | ⟨hc4, hf⟩
  · exact ax_ret (P := fun q : Int64 × sx_M => sx_eq (xS_X0_changingGain) s q.2) hf (sx_tr (sx_tr (sx_rf _ s) (sx_mono (D1 := xS_X0_goingGain) (fr_f_X0_goingGain (p := p1) x1 (rA s 47 (x2).toNatClampNeg) s hp1) (fun o k h => h.elim) (fun o k h => h.elim) (fun o h => h.elim) (fun o h => h.elim))) (sx_mono (D1 := xS_X0_goingGain) (fr_f_X0_goingGain (p := p2) x2 (rA p1.2 47 (x1).toNatClampNeg) p1.2 hp2) (fun o k h => h.elim) (fun o k h => h.elim) (fun o h => h.elim) (fun o h => h.elim)))
  · rcases ax_or hf with ⟨hc3, hf⟩ | ⟨hc3, hf⟩
    · exact ax_ret (P := fun q : Int64 × sx_M => sx_eq (xS_X0_changingGain) s q.2) hf (sx_tr (sx_tr (sx_rf _ s) (sx_mono (D1 := xS_X0_goingGain) (fr_f_X0_goingGain (p := p1) x1 (rA s 47 (x2).toNatClampNeg) s hp1) (fun o k h => h.elim) (fun o k h => h.elim) (fun o h => h.elim) (fun o h => h.elim))) (sx_mono (D1 := xS_X0_goingGain) (fr_f_X0_goingGain (p := p2) x2 (rA p1.2 47 (x1).toNatClampNeg) p1.2 hp2) (fun o k h => h.elim) (fun o k h => h.elim) (fun o h => h.elim) (fun o h => h.elim)))
    · exact ax_ret (P := fun q : Int64 × sx_M => sx_eq (xS_X0_changingGain) s q.2) hf (sx_tr (sx_tr (sx_rf _ s) (sx_mono (D1 := xS_X0_goingGain) (fr_f_X0_goingGain (p := p1) x1 (rA s 47 (x2).toNatClampNeg) s hp1) (fun o k h => h.elim) (fun o k h => h.elim) (fun o h => h.elim) (fun o h => h.elim))) (sx_mono (D1 := xS_X0_goingGain) (fr_f_X0_goingGain (p := p2) x2 (rA p1.2 47 (x1).toNatClampNeg) p1.2 hp2) (fun o k h => h.elim) (fun o k h => h.elim) (fun o h => h.elim) (fun o h => h.elim)))
abbrev xI_X0_findStep : Nat → Nat → Prop := fun o k => (o = 46 ∧ k = 7) ∨ (o = 46 ∧ k = 8)
abbrev xJ_X0_findStep : Nat → Nat → Prop := fun o k => (o = 46 ∧ k = 6)
abbrev xA_X0_findStep : Nat → Prop := fun o => False
abbrev xB_X0_findStep : Nat → Prop := fun o => False
abbrev xS_X0_findStep : sx_D := (xI_X0_findStep, xJ_X0_findStep, xA_X0_findStep, xB_X0_findStep)
set_option maxRecDepth 100000 in
set_option maxHeartbeats 1000000 in
theorem fr_f_X0_findStep (s : sx_M) {p : Int32 × sx_M} (hf : f_X0_findStep s = some p) : sx_eq (xS_X0_findStep) s p.2 := by
  unfold f_X0_findStep at hf
  obtain ⟨b4, hb4, hf⟩ := ax_bind hf
  have hvb4 := wh_inv ((0 : Int32), (wJ s 46 6 (0 : Int64))) (fun a7 : Int32 × sx_M => sx_eq (xS_X0_findStep) s a7.2) (fun e : sx_M => sx_eq (xS_X0_findStep) s e) hb4 ?_ (sx_wJ' (D := (xS_X0_findStep)) (sx_rf _ s) ((fun q => q) ⟨rfl, rfl⟩))
  rotate_left
  · intro a7 r ha7 hf
    unfold f_X0_findStep_L7 at hf
    rcases ax_or hf with ⟨hc4, hf⟩ | ⟨hc4, hf⟩
    · exact ax_ret (P := Sum.elim (fun a7 : Int32 × sx_M => sx_eq (xS_X0_findStep) s a7.2) (fun e : sx_M => sx_eq (xS_X0_findStep) s e)) hf ha7
    · obtain ⟨b3, hb3, hf⟩ := ax_bind hf
      have hvb3 := wh_inv ((0 : Int32), a7.2) (fun a20 : Int32 × sx_M => sx_eq (xS_X0_findStep) s a20.2) (fun e : sx_M => sx_eq (xS_X0_findStep) s e) hb3 ?_ ha7
      rotate_left
      · intro a20 r ha20 hf
        unfold f_X0_findStep_L20 at hf
        rcases ax_or hf with ⟨hc3, hf⟩ | ⟨hc3, hf⟩
        · exact ax_ret (P := Sum.elim (fun a20 : Int32 × sx_M => sx_eq (xS_X0_findStep) s a20.2) (fun e : sx_M => sx_eq (xS_X0_findStep) s e)) hf ha20
        · obtain ⟨_, hf⟩ := ax_ite hf
          rcases ax_or hf with ⟨hc2, hf⟩ | ⟨hc2, hf⟩
          · obtain ⟨p1, hp1, hf⟩ := ax_bind hf
            obtain ⟨p2, hp2, hf⟩ := ax_bind hf
            exact ax_ret (P := Sum.elim (fun a20 : Int32 × sx_M => sx_eq (xS_X0_findStep) s a20.2) (fun e : sx_M => sx_eq (xS_X0_findStep) s e)) hf (sx_tr (sx_tr ha20 (sx_mono (D1 := xS_X0_goingGain) (fr_f_X0_goingGain (p := p1) a7.1 a20.1 a20.2 hp1) (fun o k h => h.elim) (fun o k h => h.elim) (fun o h => h.elim) (fun o h => h.elim))) (sx_mono (D1 := xS_X0_weigh) (fr_f_X0_weigh (p := p2) a7.1 a20.1 p1.1 p1.2 hp2) (fun o k h => Or.elim h (fun q => (fun q => Or.inl q) q) (fun q0 => (fun q => Or.inr (q)) q0)) (fun o k h => (fun q => q) h) (fun o h => h.elim) (fun o h => h.elim)))
          · exact ax_ret (P := Sum.elim (fun a20 : Int32 × sx_M => sx_eq (xS_X0_findStep) s a20.2) (fun e : sx_M => sx_eq (xS_X0_findStep) s e)) hf ha20
      exact ax_ret (P := Sum.elim (fun a7 : Int32 × sx_M => sx_eq (xS_X0_findStep) s a7.2) (fun e : sx_M => sx_eq (xS_X0_findStep) s e)) hf hvb3
  obtain ⟨b8, hb8, hf⟩ := ax_bind hf
  have hvb8 := wh_inv ((0 : Int32), b4) (fun a67 : Int32 × sx_M => sx_eq (xS_X0_findStep) s a67.2) (fun e : sx_M => sx_eq (xS_X0_findStep) s e) hb8 ?_ hvb4
  rotate_left
  · intro a67 r ha67 hf
    unfold f_X0_findStep_L67 at hf
    rcases ax_or hf with ⟨hc7, hf⟩ | ⟨hc7, hf⟩
    · exact ax_ret (P := Sum.elim (fun a67 : Int32 × sx_M => sx_eq (xS_X0_findStep) s a67.2) (fun e : sx_M => sx_eq (xS_X0_findStep) s e)) hf ha67
    · obtain ⟨b7, hb7, hf⟩ := ax_bind hf
      have hvb7 := wh_inv ((a67.1 + (1 : Int32)), a67.2) (fun a82 : Int32 × sx_M => sx_eq (xS_X0_findStep) s a82.2) (fun e : sx_M => sx_eq (xS_X0_findStep) s e) hb7 ?_ ha67
      rotate_left
      · intro a82 r ha82 hf
        unfold f_X0_findStep_L82 at hf
        rcases ax_or hf with ⟨hc6, hf⟩ | ⟨hc6, hf⟩
        · exact ax_ret (P := Sum.elim (fun a82 : Int32 × sx_M => sx_eq (xS_X0_findStep) s a82.2) (fun e : sx_M => sx_eq (xS_X0_findStep) s e)) hf ha82
        · obtain ⟨_, hf⟩ := ax_ite hf
          obtain ⟨p5, hp5, hf⟩ := ax_bind hf
          obtain ⟨p6, hp6, hf⟩ := ax_bind hf
          exact ax_ret (P := Sum.elim (fun a82 : Int32 × sx_M => sx_eq (xS_X0_findStep) s a82.2) (fun e : sx_M => sx_eq (xS_X0_findStep) s e)) hf (sx_tr (sx_tr ha82 (sx_mono (D1 := xS_X0_changingGain) (fr_f_X0_changingGain (p := p5) a67.1 a82.1 a82.2 hp5) (fun o k h => h.elim) (fun o k h => h.elim) (fun o h => h.elim) (fun o h => h.elim))) (sx_mono (D1 := xS_X0_weigh) (fr_f_X0_weigh (p := p6) a67.1 (rA a82.2 47 (a82.1).toNatClampNeg) p5.1 p5.2 hp6) (fun o k h => Or.elim h (fun q => (fun q => Or.inl q) q) (fun q0 => (fun q => Or.inr (q)) q0)) (fun o k h => (fun q => q) h) (fun o h => h.elim) (fun o h => h.elim)))
      exact ax_ret (P := Sum.elim (fun a67 : Int32 × sx_M => sx_eq (xS_X0_findStep) s a67.2) (fun e : sx_M => sx_eq (xS_X0_findStep) s e)) hf hvb7
  rcases ax_or hf with ⟨hc8, hf⟩ | ⟨hc8, hf⟩
  · exact ax_ret (P := fun q : Int32 × sx_M => sx_eq (xS_X0_findStep) s q.2) hf hvb8
  · exact ax_ret (P := fun q : Int32 × sx_M => sx_eq (xS_X0_findStep) s q.2) hf hvb8
abbrev xI_X0_doStep : Nat → Nat → Prop := fun o k => False
abbrev xJ_X0_doStep : Nat → Nat → Prop := fun o k => (o = 46 ∧ k = 3)
abbrev xA_X0_doStep : Nat → Prop := fun o => o = 47 ∨ o = 48
abbrev xB_X0_doStep : Nat → Prop := fun o => False
abbrev xS_X0_doStep : sx_D := (xI_X0_doStep, xJ_X0_doStep, xA_X0_doStep, xB_X0_doStep)
set_option maxRecDepth 100000 in
set_option maxHeartbeats 1000000 in
theorem fr_f_X0_doStep (s : sx_M) {p : sx_M} (hf : f_X0_doStep s = some p) : sx_eq (xS_X0_doStep) s p := by
  unfold f_X0_doStep at hf
  have J58 : ∀ (s_58 : sx_M), sx_eq (xS_X0_doStep) s s_58 → f_X0_doStep_J58 s_58 = some p → sx_eq (xS_X0_doStep) s p := by
    intro s_58 hs_58 hf
    unfold f_X0_doStep_J58 at hf
    exact ax_ret (P := fun q : sx_M => sx_eq (xS_X0_doStep) s q) hf (sx_wJ' (D := (xS_X0_doStep)) hs_58 ((fun q => q) ⟨rfl, rfl⟩))
  obtain ⟨_, hf⟩ := ax_ite hf
  obtain ⟨_, hf⟩ := ax_ite hf
  obtain ⟨p1, hp1, hf⟩ := ax_bind hf
  rcases ax_or hf with ⟨hc5, hf⟩ | ⟨hc5, hf⟩
  · rcases ax_or hf with ⟨hc4, hf⟩ | ⟨hc4, hf⟩
    · exact J58 p1 (sx_tr (sx_rf _ s) (sx_mono (D1 := xS_X0_seat) (fr_f_X0_seat (p := p1) (rI s 46 7) (rI s 46 8) s hp1) (fun o k h => h.elim) (fun o k h => h.elim) (fun o h => Or.elim h (fun q => (fun q => Or.inl q) q) (fun q0 => (fun q => Or.inr (q)) q0)) (fun o h => h.elim))) hf
    · obtain ⟨_, hf⟩ := ax_ite hf
      exact J58 (wA p1 48 ((rA s 47 ((rI s 46 7)).toNatClampNeg)).toNatClampNeg (-1 : Int32)) (sx_wA' (D := (xS_X0_doStep)) (sx_tr (sx_rf _ s) (sx_mono (D1 := xS_X0_seat) (fr_f_X0_seat (p := p1) (rI s 46 7) (rI s 46 8) s hp1) (fun o k h => h.elim) (fun o k h => h.elim) (fun o h => Or.elim h (fun q => (fun q => Or.inl q) q) (fun q0 => (fun q => Or.inr (q)) q0)) (fun o h => h.elim))) ((fun q => Or.inr (q)) rfl)) hf
  · obtain ⟨p2, hp2, hf⟩ := ax_bind hf
    exact J58 p2 (sx_tr (sx_tr (sx_rf _ s) (sx_mono (D1 := xS_X0_seat) (fr_f_X0_seat (p := p1) (rI s 46 7) (rI s 46 8) s hp1) (fun o k h => h.elim) (fun o k h => h.elim) (fun o h => Or.elim h (fun q => (fun q => Or.inl q) q) (fun q0 => (fun q => Or.inr (q)) q0)) (fun o h => h.elim))) (sx_mono (D1 := xS_X0_seat) (fr_f_X0_seat (p := p2) (rA s 48 ((rI s 46 8)).toNatClampNeg) (rA s 47 ((rI s 46 7)).toNatClampNeg) p1 hp2) (fun o k h => h.elim) (fun o k h => h.elim) (fun o h => Or.elim h (fun q => (fun q => Or.inl q) q) (fun q0 => (fun q => Or.inr (q)) q0)) (fun o h => h.elim))) hf
abbrev xI_X0_mend : Nat → Nat → Prop := fun o k => (o = 46 ∧ k = 5) ∨ (o = 46 ∧ k = 7) ∨ (o = 46 ∧ k = 8)
abbrev xJ_X0_mend : Nat → Nat → Prop := fun o k => (o = 46 ∧ k = 3) ∨ (o = 46 ∧ k = 6)
abbrev xA_X0_mend : Nat → Prop := fun o => o = 47 ∨ o = 48
abbrev xB_X0_mend : Nat → Prop := fun o => False
abbrev xS_X0_mend : sx_D := (xI_X0_mend, xJ_X0_mend, xA_X0_mend, xB_X0_mend)
set_option maxRecDepth 100000 in
set_option maxHeartbeats 1000000 in
theorem fr_f_X0_mend (s : sx_M) {p : sx_M} (hf : f_X0_mend s = some p) : sx_eq (xS_X0_mend) s p := by
  unfold f_X0_mend at hf
  obtain ⟨b3, hb3, hf⟩ := ax_bind hf
  have hvb3 := wh_inv (wI s 46 5 (0 : Int32)) (fun a5 : sx_M => sx_eq (xS_X0_mend) s a5) (fun e : sx_M => sx_eq (xS_X0_mend) s e) hb3 ?_ (sx_wI' (D := (xS_X0_mend)) (sx_rf _ s) ((fun q => Or.inl q) ⟨rfl, rfl⟩))
  rotate_left
  · intro a5 r ha5 hf
    unfold f_X0_mend_L5 at hf
    rcases ax_or hf with ⟨hc3, hf⟩ | ⟨hc3, hf⟩
    · rcases ax_or hf with ⟨hc2, hf⟩ | ⟨hc2, hf⟩
      · exact ax_ret (P := Sum.elim (fun a5 : sx_M => sx_eq (xS_X0_mend) s a5) (fun e : sx_M => sx_eq (xS_X0_mend) s e)) hf ha5
      · obtain ⟨p1, hp1, hf⟩ := ax_bind hf
        rcases ax_or hf with ⟨hc1, hf⟩ | ⟨hc1, hf⟩
        · exact ax_ret (P := Sum.elim (fun a5 : sx_M => sx_eq (xS_X0_mend) s a5) (fun e : sx_M => sx_eq (xS_X0_mend) s e)) hf (sx_tr ha5 (sx_mono (D1 := xS_X0_findStep) (fr_f_X0_findStep (p := p1) a5 hp1) (fun o k h => Or.elim h (fun q => (fun q => Or.inr (Or.inl q)) q) (fun q0 => (fun q => Or.inr (Or.inr (q))) q0)) (fun o k h => (fun q => Or.inr (q)) h) (fun o h => h.elim) (fun o h => h.elim)))
        · obtain ⟨p2, hp2, hf⟩ := ax_bind hf
          exact ax_ret (P := Sum.elim (fun a5 : sx_M => sx_eq (xS_X0_mend) s a5) (fun e : sx_M => sx_eq (xS_X0_mend) s e)) hf (sx_wI' (D := (xS_X0_mend)) (sx_tr (sx_tr ha5 (sx_mono (D1 := xS_X0_findStep) (fr_f_X0_findStep (p := p1) a5 hp1) (fun o k h => Or.elim h (fun q => (fun q => Or.inr (Or.inl q)) q) (fun q0 => (fun q => Or.inr (Or.inr (q))) q0)) (fun o k h => (fun q => Or.inr (q)) h) (fun o h => h.elim) (fun o h => h.elim))) (sx_mono (D1 := xS_X0_doStep) (fr_f_X0_doStep (p := p2) p1.2 hp2) (fun o k h => h.elim) (fun o k h => (fun q => Or.inl q) h) (fun o h => Or.elim h (fun q => (fun q => Or.inl q) q) (fun q0 => (fun q => Or.inr (q)) q0)) (fun o h => h.elim))) ((fun q => Or.inl q) ⟨rfl, rfl⟩))
    · exact ax_ret (P := Sum.elim (fun a5 : sx_M => sx_eq (xS_X0_mend) s a5) (fun e : sx_M => sx_eq (xS_X0_mend) s e)) hf ha5
  exact ax_ret (P := fun q : sx_M => sx_eq (xS_X0_mend) s q) hf hvb3
abbrev xI_X2_clear : Nat → Nat → Prop := fun o k => (o = 20 ∧ k = 2)
abbrev xJ_X2_clear : Nat → Nat → Prop := fun o k => False
abbrev xA_X2_clear : Nat → Prop := fun o => False
abbrev xB_X2_clear : Nat → Prop := fun o => False
abbrev xS_X2_clear : sx_D := (xI_X2_clear, xJ_X2_clear, xA_X2_clear, xB_X2_clear)
set_option maxRecDepth 100000 in
set_option maxHeartbeats 1000000 in
theorem fr_f_X2_clear (s : sx_M) {p : sx_M} (hf : f_X2_clear s = some p) : sx_eq (xS_X2_clear) s p := by
  unfold f_X2_clear at hf
  exact ax_ret (P := fun q : sx_M => sx_eq (xS_X2_clear) s q) hf (sx_wI' (D := (xS_X2_clear)) (sx_rf _ s) ((fun q => q) ⟨rfl, rfl⟩))
abbrev xI_X2_keep : Nat → Nat → Prop := fun o k => (22 ≤ o ∧ o < 42) ∨ (o = 20 ∧ k = 1) ∨ (o = 20 ∧ k = 2)
abbrev xJ_X2_keep : Nat → Nat → Prop := fun o k => False
abbrev xA_X2_keep : Nat → Prop := fun o => False
abbrev xB_X2_keep : Nat → Prop := fun o => (22 ≤ o ∧ o < 42)
abbrev xS_X2_keep : sx_D := (xI_X2_keep, xJ_X2_keep, xA_X2_keep, xB_X2_keep)
set_option maxRecDepth 100000 in
set_option maxHeartbeats 1000000 in
theorem fr_f_X2_keep (s : sx_M) {p : sx_M} (hf : f_X2_keep s = some p) : sx_eq (xS_X2_keep) s p := by
  unfold f_X2_keep at hf
  have J32 : ∀ (s_32 : sx_M), sx_eq (xS_X2_keep) s s_32 → f_X2_keep_J32 s_32 = some p → sx_eq (xS_X2_keep) s p := by
    intro s_32 hs_32 hf
    unfold f_X2_keep_J32 at hf
    obtain ⟨hb48, hf⟩ := ax_ite hf
    obtain ⟨p1, hp1, hf⟩ := ax_bind hf
    exact ax_ret (P := fun q : sx_M => sx_eq (xS_X2_keep) s q) hf (sx_wI' (D := (xS_X2_keep)) (sx_tr hs_32 (sx_mono (D1 := xS_X1_copy (22 + 2 * ((((rI s_32 20 1) + (rI s_32 20 2)) - ((rI s_32 20 1) + (rI s_32 20 2)) / (10 : Int32) * (10 : Int32))).toNatClampNeg) 3) (fr_f_X1_copy (p := p1) (22 + 2 * ((((rI s_32 20 1) + (rI s_32 20 2)) - ((rI s_32 20 1) + (rI s_32 20 2)) / (10 : Int32) * (10 : Int32))).toNatClampNeg) 3 s_32 (ax_Gk _ (Nat.not_le.mp (fun q => hb48 (Or.inr q)))) ax_G3 hp1) (fun o k h => Or.elim h (fun q => (fun q => (fun q => Or.inl q) (by have hxk := Nat.not_le.mp (fun q => hb48 (Or.inr q)); omega)) q) (fun q0 => (fun q => (fun q => Or.inl q) (by have hxk := Nat.not_le.mp (fun q => hb48 (Or.inr q)); omega)) q0)) (fun o k h => h.elim) (fun o h => h.elim) (fun o h => (fun q => (fun q => q) (by have hxk := Nat.not_le.mp (fun q => hb48 (Or.inr q)); omega)) h))) ((fun q => Or.inr (Or.inr (q))) ⟨rfl, rfl⟩))
  rcases ax_or hf with ⟨hc2, hf⟩ | ⟨hc2, hf⟩
  · exact J32 (wI (wI s 20 1 (((rI s 20 1) + (1 : Int32)) - ((rI s 20 1) + (1 : Int32)) / (10 : Int32) * (10 : Int32))) 20 2 ((rI (wI s 20 1 (((rI s 20 1) + (1 : Int32)) - ((rI s 20 1) + (1 : Int32)) / (10 : Int32) * (10 : Int32))) 20 2) - (1 : Int32))) (sx_wI' (D := (xS_X2_keep)) (sx_wI' (D := (xS_X2_keep)) (sx_rf _ s) ((fun q => Or.inr (Or.inl q)) ⟨rfl, rfl⟩)) ((fun q => Or.inr (Or.inr (q))) ⟨rfl, rfl⟩)) hf
  · exact J32 s (sx_rf _ s) hf
abbrev xI_X2_restore : Nat → Nat → Prop := fun o k => (o = 20 ∧ k = 2) ∨ (o = 3 ∧ k = 1) ∨ (o = 3 ∧ k = 2)
abbrev xJ_X2_restore : Nat → Nat → Prop := fun o k => False
abbrev xA_X2_restore : Nat → Prop := fun o => False
abbrev xB_X2_restore : Nat → Prop := fun o => o = (3 + 1)
abbrev xS_X2_restore : sx_D := (xI_X2_restore, xJ_X2_restore, xA_X2_restore, xB_X2_restore)
set_option maxRecDepth 100000 in
set_option maxHeartbeats 1000000 in
theorem fr_f_X2_restore (s : sx_M) {p : Int32 × sx_M} (hf : f_X2_restore s = some p) : sx_eq (xS_X2_restore) s p.2 := by
  unfold f_X2_restore at hf
  rcases ax_or hf with ⟨hc2, hf⟩ | ⟨hc2, hf⟩
  · exact ax_ret (P := fun q : Int32 × sx_M => sx_eq (xS_X2_restore) s q.2) hf (sx_rf _ s)
  · obtain ⟨hb36, hf⟩ := ax_ite hf
    obtain ⟨p1, hp1, hf⟩ := ax_bind hf
    exact ax_ret (P := fun q : Int32 × sx_M => sx_eq (xS_X2_restore) s q.2) hf (sx_tr (sx_wI' (D := (xS_X2_restore)) (sx_rf _ s) ((fun q => Or.inl q) ⟨rfl, rfl⟩)) (sx_mono (D1 := xS_X1_copy 3 (22 + 2 * ((((rI (wI s 20 2 ((rI s 20 2) - (1 : Int32))) 20 1) + (rI (wI s 20 2 ((rI s 20 2) - (1 : Int32))) 20 2)) - ((rI (wI s 20 2 ((rI s 20 2) - (1 : Int32))) 20 1) + (rI (wI s 20 2 ((rI s 20 2) - (1 : Int32))) 20 2)) / (10 : Int32) * (10 : Int32))).toNatClampNeg)) (fr_f_X1_copy (p := p1) 3 (22 + 2 * ((((rI (wI s 20 2 ((rI s 20 2) - (1 : Int32))) 20 1) + (rI (wI s 20 2 ((rI s 20 2) - (1 : Int32))) 20 2)) - ((rI (wI s 20 2 ((rI s 20 2) - (1 : Int32))) 20 1) + (rI (wI s 20 2 ((rI s 20 2) - (1 : Int32))) 20 2)) / (10 : Int32) * (10 : Int32))).toNatClampNeg) (wI s 20 2 ((rI s 20 2) - (1 : Int32))) ax_G3 (ax_Gk _ (Nat.not_le.mp (fun q => hb36 (Or.inr q)))) hp1) (fun o k h => Or.elim h (fun q => (fun q => Or.inr (Or.inl q)) q) (fun q0 => (fun q => Or.inr (Or.inr (q))) q0)) (fun o k h => h.elim) (fun o h => h.elim) (fun o h => (fun q => q) h)))
abbrev xI_X3_shift : Nat → Nat → Prop := fun o k => False
abbrev xJ_X3_shift : Nat → Nat → Prop := fun o k => False
abbrev xA_X3_shift : Nat → Prop := fun o => False
abbrev xB_X3_shift : Nat → Prop := fun o => False
abbrev xS_X3_shift : sx_D := (xI_X3_shift, xJ_X3_shift, xA_X3_shift, xB_X3_shift)
set_option maxRecDepth 100000 in
set_option maxHeartbeats 1000000 in
theorem fr_f_X3_shift (x1 : Int32) (x2 : Int32) (s : sx_M) {p : Int64 × sx_M} (hf : f_X3_shift x1 x2 s = some p) : sx_eq (xS_X3_shift) s p.2 := by
  unfold f_X3_shift at hf
  obtain ⟨p1, hp1, hf⟩ := ax_bind hf
  rcases ax_or hf with ⟨hc2, hf⟩ | ⟨hc2, hf⟩
  · exact ax_ret (P := fun q : Int64 × sx_M => sx_eq (xS_X3_shift) s q.2) hf (sx_tr (sx_rf _ s) (sx_mono (D1 := xS_X1_at 3) (fr_f_X1_at (p := p1) 3 x1 x2 s ax_G3 hp1) (fun o k h => h.elim) (fun o k h => h.elim) (fun o h => h.elim) (fun o h => h.elim)))
  · obtain ⟨_, hf⟩ := ax_ite hf
    obtain ⟨p2, hp2, hf⟩ := ax_bind hf
    exact ax_ret (P := fun q : Int64 × sx_M => sx_eq (xS_X3_shift) s q.2) hf (sx_tr (sx_tr (sx_rf _ s) (sx_mono (D1 := xS_X1_at 3) (fr_f_X1_at (p := p1) 3 x1 x2 s ax_G3 hp1) (fun o k h => h.elim) (fun o k h => h.elim) (fun o h => h.elim) (fun o h => h.elim))) (sx_mono (D1 := xS_X1_at 3) (fr_f_X1_at (p := p2) 3 x1 (rA p1.2 54 (x1).toNatClampNeg) p1.2 ax_G3 hp2) (fun o k h => h.elim) (fun o k h => h.elim) (fun o h => h.elim) (fun o h => h.elim)))
abbrev xI_X3_comesBefore : Nat → Nat → Prop := fun o k => False
abbrev xJ_X3_comesBefore : Nat → Nat → Prop := fun o k => False
abbrev xA_X3_comesBefore : Nat → Prop := fun o => False
abbrev xB_X3_comesBefore : Nat → Prop := fun o => False
abbrev xS_X3_comesBefore : sx_D := (xI_X3_comesBefore, xJ_X3_comesBefore, xA_X3_comesBefore, xB_X3_comesBefore)
set_option maxRecDepth 100000 in
set_option maxHeartbeats 1000000 in
theorem fr_f_X3_comesBefore (x0 : Int32) (x1 : Int32) (s : sx_M) {p : Int32 × sx_M} (hf : f_X3_comesBefore x0 x1 s = some p) : sx_eq (xS_X3_comesBefore) s p.2 := by
  unfold f_X3_comesBefore at hf
  obtain ⟨p1, hp1, hf⟩ := ax_bind hf
  obtain ⟨p2, hp2, hf⟩ := ax_bind hf
  rcases ax_or hf with ⟨hc3, hf⟩ | ⟨hc3, hf⟩
  · exact ax_ret (P := fun q : Int32 × sx_M => sx_eq (xS_X3_comesBefore) s q.2) hf (sx_tr (sx_tr (sx_rf _ s) (sx_mono (D1 := xS_J6_bitCount_0f7a4) (fr_f_J6_bitCount_0f7a4 (p := p1) x0 s hp1) (fun o k h => h.elim) (fun o k h => h.elim) (fun o h => h.elim) (fun o h => h.elim))) (sx_mono (D1 := xS_J6_bitCount_0f7a4) (fr_f_J6_bitCount_0f7a4 (p := p2) x1 p1.2 hp2) (fun o k h => h.elim) (fun o k h => h.elim) (fun o h => h.elim) (fun o h => h.elim)))
  · rcases ax_or hf with ⟨hc2, hf⟩ | ⟨hc2, hf⟩
    · rcases ax_or hf with ⟨hc1, hf⟩ | ⟨hc1, hf⟩
      · exact ax_ret (P := fun q : Int32 × sx_M => sx_eq (xS_X3_comesBefore) s q.2) hf (sx_tr (sx_tr (sx_rf _ s) (sx_mono (D1 := xS_J6_bitCount_0f7a4) (fr_f_J6_bitCount_0f7a4 (p := p1) x0 s hp1) (fun o k h => h.elim) (fun o k h => h.elim) (fun o h => h.elim) (fun o h => h.elim))) (sx_mono (D1 := xS_J6_bitCount_0f7a4) (fr_f_J6_bitCount_0f7a4 (p := p2) x1 p1.2 hp2) (fun o k h => h.elim) (fun o k h => h.elim) (fun o h => h.elim) (fun o h => h.elim)))
      · exact ax_ret (P := fun q : Int32 × sx_M => sx_eq (xS_X3_comesBefore) s q.2) hf (sx_tr (sx_tr (sx_rf _ s) (sx_mono (D1 := xS_J6_bitCount_0f7a4) (fr_f_J6_bitCount_0f7a4 (p := p1) x0 s hp1) (fun o k h => h.elim) (fun o k h => h.elim) (fun o h => h.elim) (fun o h => h.elim))) (sx_mono (D1 := xS_J6_bitCount_0f7a4) (fr_f_J6_bitCount_0f7a4 (p := p2) x1 p1.2 hp2) (fun o k h => h.elim) (fun o k h => h.elim) (fun o h => h.elim) (fun o h => h.elim)))
    · exact ax_ret (P := fun q : Int32 × sx_M => sx_eq (xS_X3_comesBefore) s q.2) hf (sx_tr (sx_tr (sx_rf _ s) (sx_mono (D1 := xS_J6_bitCount_0f7a4) (fr_f_J6_bitCount_0f7a4 (p := p1) x0 s hp1) (fun o k h => h.elim) (fun o k h => h.elim) (fun o h => h.elim) (fun o h => h.elim))) (sx_mono (D1 := xS_J6_bitCount_0f7a4) (fr_f_J6_bitCount_0f7a4 (p := p2) x1 p1.2 hp2) (fun o k h => h.elim) (fun o k h => h.elim) (fun o h => h.elim) (fun o h => h.elim)))
abbrev xI_X3_offer : Nat → Nat → Prop := fun o k => (o = 53 ∧ k = 4)
abbrev xJ_X3_offer : Nat → Nat → Prop := fun o k => (o = 53 ∧ k = 3)
abbrev xA_X3_offer : Nat → Prop := fun o => False
abbrev xB_X3_offer : Nat → Prop := fun o => False
abbrev xS_X3_offer : sx_D := (xI_X3_offer, xJ_X3_offer, xA_X3_offer, xB_X3_offer)
set_option maxRecDepth 100000 in
set_option maxHeartbeats 1000000 in
theorem fr_f_X3_offer (x1 : Int32) (x2 : Int64) (x4 : Int64) (s : sx_M) {p : sx_M} (hf : f_X3_offer x1 x2 x4 s = some p) : sx_eq (xS_X3_offer) s p := by
  unfold f_X3_offer at hf
  have J54 : ∀ (y1_54 : Int32) (y6_54 : Int64) (s_54 : sx_M), sx_eq (xS_X3_offer) s s_54 → f_X3_offer_J54 y1_54 y6_54 s_54 = some p → sx_eq (xS_X3_offer) s p := by
    intro y1_54 y6_54 s_54 hs_54 hf
    unfold f_X3_offer_J54 at hf
    exact ax_ret (P := fun q : sx_M => sx_eq (xS_X3_offer) s q) hf (sx_wI' (D := (xS_X3_offer)) (sx_wJ' (D := (xS_X3_offer)) hs_54 ((fun q => q) ⟨rfl, rfl⟩)) ((fun q => q) ⟨rfl, rfl⟩))
  rcases ax_or hf with ⟨hc5, hf⟩ | ⟨hc5, hf⟩
  · exact ax_ret (P := fun q : sx_M => sx_eq (xS_X3_offer) s q) hf (sx_rf _ s)
  · rcases ax_or hf with ⟨hc4, hf⟩ | ⟨hc4, hf⟩
    · exact J54 x1 (x2 + x4) s (sx_rf _ s) hf
    · rcases ax_or hf with ⟨hc3, hf⟩ | ⟨hc3, hf⟩
      · exact J54 x1 (x2 + x4) s (sx_rf _ s) hf
      · rcases ax_or hf with ⟨hc2, hf⟩ | ⟨hc2, hf⟩
        · obtain ⟨p1, hp1, hf⟩ := ax_bind hf
          rcases ax_or hf with ⟨hc1, hf⟩ | ⟨hc1, hf⟩
          · exact ax_ret (P := fun q : sx_M => sx_eq (xS_X3_offer) s q) hf (sx_tr (sx_rf _ s) (sx_mono (D1 := xS_X3_comesBefore) (fr_f_X3_comesBefore (p := p1) x1 (rI s 53 4) s hp1) (fun o k h => h.elim) (fun o k h => h.elim) (fun o h => h.elim) (fun o h => h.elim)))
          · exact J54 x1 (x2 + x4) p1.2 (sx_tr (sx_rf _ s) (sx_mono (D1 := xS_X3_comesBefore) (fr_f_X3_comesBefore (p := p1) x1 (rI s 53 4) s hp1) (fun o k h => h.elim) (fun o k h => h.elim) (fun o h => h.elim) (fun o h => h.elim))) hf
        · exact ax_ret (P := fun q : sx_M => sx_eq (xS_X3_offer) s q) hf (sx_rf _ s)
abbrev xI_X3_extend : Nat → Nat → Prop := fun o k => (o = 53 ∧ k = 4)
abbrev xJ_X3_extend : Nat → Nat → Prop := fun o k => (o = 53 ∧ k = 3)
abbrev xA_X3_extend : Nat → Prop := fun o => False
abbrev xB_X3_extend : Nat → Prop := fun o => False
abbrev xS_X3_extend : sx_D := (xI_X3_extend, xJ_X3_extend, xA_X3_extend, xB_X3_extend)
set_option maxRecDepth 100000 in
set_option maxHeartbeats 1000000 in
theorem frr_X3_extend : ∀ (n : Nat) (x1 : Int32) (x2 : Int32) (x3 : Int32) (x4 : Int64) (s : sx_M) {p : sx_M}, fr_X3_extend n x1 x2 x3 x4 s = some p → sx_eq (xS_X3_extend) s p := by
  intro n
  induction n with
  | zero => intro x1 x2 x3 x4 s p hf; cases hf
  | succ n ih =>
    intro x1 x2 x3 x4 s p hf
    have hf : fb_X3_extend (fr_X3_extend n) x1 x2 x3 x4 s = some p := hf
    unfold fb_X3_extend at hf
    have J38 : ∀ (y1_38 : Int32) (y2_38 : Int32) (y3_38 : Int32) (y4_38 : Int64) (s_38 : sx_M), sx_eq (xS_X3_extend) s s_38 → f_X3_extend_J38 (fr_X3_extend n) y1_38 y2_38 y3_38 y4_38 s_38 = some p → sx_eq (xS_X3_extend) s p := by
      intro y1_38 y2_38 y3_38 y4_38 s_38 hs_38 hf
      unfold f_X3_extend_J38 at hf
      obtain ⟨b3, hb3, hf⟩ := ax_bind hf
      have hvb3 := wh_inv ((0 : Int32), s_38) (fun a41 : Int32 × sx_M => sx_eq (xS_X3_extend) s a41.2) (fun e : sx_M => sx_eq (xS_X3_extend) s e) hb3 ?_ hs_38
      rotate_left
      · intro a41 r ha41 hf
        unfold f_X3_extend_L41 at hf
        rcases ax_or hf with ⟨hc2, hf⟩ | ⟨hc2, hf⟩
        · exact ax_ret (P := Sum.elim (fun a41 : Int32 × sx_M => sx_eq (xS_X3_extend) s a41.2) (fun e : sx_M => sx_eq (xS_X3_extend) s e)) hf ha41
        · rcases ax_or hf with ⟨hc1, hf⟩ | ⟨hc1, hf⟩
          · obtain ⟨p1, hp1, hf⟩ := ax_bind hf
            obtain ⟨p2, hp2, hf⟩ := ax_bind hf
            exact ax_ret (P := Sum.elim (fun a41 : Int32 × sx_M => sx_eq (xS_X3_extend) s a41.2) (fun e : sx_M => sx_eq (xS_X3_extend) s e)) hf (sx_tr (sx_tr ha41 (sx_mono (D1 := xS_X3_shift) (fr_f_X3_shift (p := p1) y2_38 a41.1 a41.2 hp1) (fun o k h => h.elim) (fun o k h => h.elim) (fun o h => h.elim) (fun o h => h.elim))) (sx_mono (D1 := xS_X3_offer) (fr_f_X3_offer (p := p2) y3_38 y4_38 p1.1 p1.2 hp2) (fun o k h => (fun q => q) h) (fun o k h => (fun q => q) h) (fun o h => h.elim) (fun o h => h.elim)))
          · exact ax_ret (P := Sum.elim (fun a41 : Int32 × sx_M => sx_eq (xS_X3_extend) s a41.2) (fun e : sx_M => sx_eq (xS_X3_extend) s e)) hf ha41
      obtain ⟨b6, hb6, hf⟩ := ax_bind hf
      have hvb6 := wh_inv ((0 : Int32), b3) (fun a88 : Int32 × sx_M => sx_eq (xS_X3_extend) s a88.2) (fun e : sx_M => sx_eq (xS_X3_extend) s e) hb6 ?_ hvb3
      rotate_left
      · intro a88 r ha88 hf
        unfold f_X3_extend_L88 at hf
        rcases ax_or hf with ⟨hc6, hf⟩ | ⟨hc6, hf⟩
        · exact ax_ret (P := Sum.elim (fun a88 : Int32 × sx_M => sx_eq (xS_X3_extend) s a88.2) (fun e : sx_M => sx_eq (xS_X3_extend) s e)) hf ha88
        · rcases ax_or hf with ⟨hc5, hf⟩ | ⟨hc5, hf⟩
          · obtain ⟨_, hf⟩ := ax_ite hf
            obtain ⟨p4, hp4, hf⟩ := ax_bind hf
            rcases ax_or hf with ⟨hc4, hf⟩ | ⟨hc4, hf⟩
            · exact ax_ret (P := Sum.elim (fun a88 : Int32 × sx_M => sx_eq (xS_X3_extend) s a88.2) (fun e : sx_M => sx_eq (xS_X3_extend) s e)) hf (sx_tr ha88 (sx_mono (D1 := xS_X3_shift) (fr_f_X3_shift (p := p4) y2_38 (rA a88.2 54 (a88.1).toNatClampNeg) a88.2 hp4) (fun o k h => h.elim) (fun o k h => h.elim) (fun o h => h.elim) (fun o h => h.elim)))
            · obtain ⟨p5, hp5, hf⟩ := ax_bind hf
              exact ax_ret (P := Sum.elim (fun a88 : Int32 × sx_M => sx_eq (xS_X3_extend) s a88.2) (fun e : sx_M => sx_eq (xS_X3_extend) s e)) hf (sx_tr (sx_tr ha88 (sx_mono (D1 := xS_X3_shift) (fr_f_X3_shift (p := p4) y2_38 (rA a88.2 54 (a88.1).toNatClampNeg) a88.2 hp4) (fun o k h => h.elim) (fun o k h => h.elim) (fun o h => h.elim) (fun o h => h.elim))) (ih y1_38 a88.1 (y3_38 ||| ((1 : Int32) <<< (a88.1 &&& 31))) (y4_38 + p4.1) p4.2 (p := p5) hp5))
          · exact ax_ret (P := Sum.elim (fun a88 : Int32 × sx_M => sx_eq (xS_X3_extend) s a88.2) (fun e : sx_M => sx_eq (xS_X3_extend) s e)) hf ha88
      exact ax_ret (P := fun q : sx_M => sx_eq (xS_X3_extend) s q) hf hvb6
    obtain ⟨p7, hp7, hf⟩ := ax_bind hf
    rcases ax_or hf with ⟨hc9, hf⟩ | ⟨hc9, hf⟩
    · rcases ax_or hf with ⟨hc8, hf⟩ | ⟨hc8, hf⟩
      · exact J38 x1 x2 x3 x4 p7.2 (sx_tr (sx_rf _ s) (sx_mono (D1 := xS_J6_bitCount_0f7a4) (fr_f_J6_bitCount_0f7a4 (p := p7) x3 s hp7) (fun o k h => h.elim) (fun o k h => h.elim) (fun o h => h.elim) (fun o h => h.elim))) hf
      · obtain ⟨_, hf⟩ := ax_ite hf
        obtain ⟨p8, hp8, hf⟩ := ax_bind hf
        obtain ⟨p9, hp9, hf⟩ := ax_bind hf
        exact J38 x1 x2 x3 x4 p9 (sx_tr (sx_tr (sx_tr (sx_rf _ s) (sx_mono (D1 := xS_J6_bitCount_0f7a4) (fr_f_J6_bitCount_0f7a4 (p := p7) x3 s hp7) (fun o k h => h.elim) (fun o k h => h.elim) (fun o h => h.elim) (fun o h => h.elim))) (sx_mono (D1 := xS_X3_shift) (fr_f_X3_shift (p := p8) x2 (rA p7.2 54 (x1).toNatClampNeg) p7.2 hp8) (fun o k h => h.elim) (fun o k h => h.elim) (fun o h => h.elim) (fun o h => h.elim))) (sx_mono (D1 := xS_X3_offer) (fr_f_X3_offer (p := p9) x3 x4 p8.1 p8.2 hp9) (fun o k h => (fun q => q) h) (fun o k h => (fun q => q) h) (fun o h => h.elim) (fun o h => h.elim))) hf
    · exact ax_ret (P := fun q : sx_M => sx_eq (xS_X3_extend) s q) hf (sx_tr (sx_rf _ s) (sx_mono (D1 := xS_J6_bitCount_0f7a4) (fr_f_J6_bitCount_0f7a4 (p := p7) x3 s hp7) (fun o k h => h.elim) (fun o k h => h.elim) (fun o h => h.elim) (fun o h => h.elim)))
theorem fr_f_X3_extend (x1 : Int32) (x2 : Int32) (x3 : Int32) (x4 : Int64) (s : sx_M) {p : sx_M} (hf : f_X3_extend x1 x2 x3 x4 s = some p) : sx_eq (xS_X3_extend) s p := frr_X3_extend 9 x1 x2 x3 x4 s hf
abbrev xI_X3_search (ra : Nat) : Nat → Nat → Prop := fun o k => (o = 53 ∧ k = 2) ∨ (o = 53 ∧ k = 4)
abbrev xJ_X3_search (ra : Nat) : Nat → Nat → Prop := fun o k => (o = 53 ∧ k = 3)
abbrev xA_X3_search (ra : Nat) : Nat → Prop := fun o => o = 54
abbrev xB_X3_search (ra : Nat) : Nat → Prop := fun o => False
abbrev xS_X3_search (ra : Nat) : sx_D := (xI_X3_search ra, xJ_X3_search ra, xA_X3_search ra, xB_X3_search ra)
set_option maxRecDepth 100000 in
set_option maxHeartbeats 1000000 in
theorem fr_f_X3_search (ra : Nat) (s : sx_M) (hra : sx_sh[ra]? = some (.inl (.int, 7))) {p : Int32 × sx_M} (hf : f_X3_search ra s = some p) : sx_eq (xS_X3_search ra) s p.2 := by
  unfold f_X3_search at hf
  obtain ⟨b1, hb1, hf⟩ := ax_bind hf
  have hvb1 := wh_inv ((0 : Int32), (wI (wI s 53 4 (0 : Int32)) 53 2 (0 : Int32))) (fun a12 : Int32 × sx_M => sx_eq (xS_X3_search ra) s a12.2) (fun e : sx_M => sx_eq (xS_X3_search ra) s e) hb1 ?_ (sx_wI' (D := (xS_X3_search ra)) (sx_wI' (D := (xS_X3_search ra)) (sx_rf _ s) ((fun q => Or.inr (q)) ⟨rfl, rfl⟩)) ((fun q => Or.inl q) ⟨rfl, rfl⟩))
  rotate_left
  · intro a12 r ha12 hf
    unfold f_X3_search_L12 at hf
    rcases ax_or hf with ⟨hc5, hf⟩ | ⟨hc5, hf⟩
    · exact ax_ret (P := Sum.elim (fun a12 : Int32 × sx_M => sx_eq (xS_X3_search ra) s a12.2) (fun e : sx_M => sx_eq (xS_X3_search ra) s e)) hf ha12
    · rcases ax_or hf with ⟨hc4, hf⟩ | ⟨hc4, hf⟩
      · exact ax_ret (P := Sum.elim (fun a12 : Int32 × sx_M => sx_eq (xS_X3_search ra) s a12.2) (fun e : sx_M => sx_eq (xS_X3_search ra) s e)) hf ha12
      · obtain ⟨_, hf⟩ := ax_ite hf
        obtain ⟨_, hf⟩ := ax_ite hf
        obtain ⟨_, hf⟩ := ax_ite hf
        exact ax_ret (P := Sum.elim (fun a12 : Int32 × sx_M => sx_eq (xS_X3_search ra) s a12.2) (fun e : sx_M => sx_eq (xS_X3_search ra) s e)) hf (sx_wI' (D := (xS_X3_search ra)) (sx_wA' (D := (xS_X3_search ra)) ha12 ((fun q => q) rfl)) ((fun q => Or.inl q) ⟨rfl, rfl⟩))
  obtain ⟨b3, hb3, hf⟩ := ax_bind hf
  have hvb3 := wh_inv ((0 : Int32), b1) (fun a60 : Int32 × sx_M => sx_eq (xS_X3_search ra) s a60.2) (fun e : sx_M => sx_eq (xS_X3_search ra) s e) hb3 ?_ hvb1
  rotate_left
  · intro a60 r ha60 hf
    unfold f_X3_search_L60 at hf
    rcases ax_or hf with ⟨hc6, hf⟩ | ⟨hc6, hf⟩
    · exact ax_ret (P := Sum.elim (fun a60 : Int32 × sx_M => sx_eq (xS_X3_search ra) s a60.2) (fun e : sx_M => sx_eq (xS_X3_search ra) s e)) hf ha60
    · obtain ⟨p2, hp2, hf⟩ := ax_bind hf
      exact ax_ret (P := Sum.elim (fun a60 : Int32 × sx_M => sx_eq (xS_X3_search ra) s a60.2) (fun e : sx_M => sx_eq (xS_X3_search ra) s e)) hf (sx_tr ha60 (sx_mono (D1 := xS_X3_extend) (fr_f_X3_extend (p := p2) a60.1 a60.1 ((1 : Int32) <<< (a60.1 &&& 31)) (0 : Int64) a60.2 hp2) (fun o k h => (fun q => Or.inr (q)) h) (fun o k h => (fun q => q) h) (fun o h => h.elim) (fun o h => h.elim)))
  rcases ax_or hf with ⟨hc7, hf⟩ | ⟨hc7, hf⟩
  · exact ax_ret (P := fun q : Int32 × sx_M => sx_eq (xS_X3_search ra) s q.2) hf hvb3
  · exact ax_ret (P := fun q : Int32 × sx_M => sx_eq (xS_X3_search ra) s q.2) hf hvb3
abbrev xI_X7_lowestTop : Nat → Nat → Prop := fun o k => False
abbrev xJ_X7_lowestTop : Nat → Nat → Prop := fun o k => False
abbrev xA_X7_lowestTop : Nat → Prop := fun o => False
abbrev xB_X7_lowestTop : Nat → Prop := fun o => o = 43
abbrev xS_X7_lowestTop : sx_D := (xI_X7_lowestTop, xJ_X7_lowestTop, xA_X7_lowestTop, xB_X7_lowestTop)
set_option maxRecDepth 100000 in
set_option maxHeartbeats 1000000 in
theorem fr_f_X7_lowestTop (x1 : Int64) (s : sx_M) {p : Int64 × sx_M} (hf : f_X7_lowestTop x1 s = some p) : sx_eq (xS_X7_lowestTop) s p.2 := by
  unfold f_X7_lowestTop at hf
  obtain ⟨b6, hb6, hf⟩ := ax_bind hf
  have hvb6 := wh_inv ((((1 : Int32) <<< ((rI s 3 2) &&& 31)) - (1 : Int32)), s) (fun a12 : Int32 × sx_M => sx_eq (xS_X7_lowestTop) s a12.2) (fun e : sx_M => sx_eq (xS_X7_lowestTop) s e) hb6 ?_ (sx_rf _ s)
  rotate_left
  · intro a12 r ha12 hf
    unfold f_X7_lowestTop_L12 at hf
    have J46 : ∀ (y3_46 : Int32) (y4_46 : Int32) (t1_46 : Int32) (t2_46 : Int64) (s_46 : sx_M), sx_eq (xS_X7_lowestTop) s s_46 → f_X7_lowestTop_L12_J46 x1 y3_46 y4_46 t1_46 t2_46 s_46 = some r → Sum.elim (fun a12 : Int32 × sx_M => sx_eq (xS_X7_lowestTop) s a12.2) (fun e : sx_M => sx_eq (xS_X7_lowestTop) s e) r := by
      intro y3_46 y4_46 t1_46 t2_46 s_46 hs_46 hf
      unfold f_X7_lowestTop_L12_J46 at hf
      obtain ⟨_, hf⟩ := ax_ite hf
      obtain ⟨b4, hb4, hf⟩ := ax_bind hf
      have hvb4 := wh_inv ((0 : Int32), (wB s_46 43 (t1_46).toNatClampNeg t2_46)) (fun a50 : Int32 × sx_M => sx_eq (xS_X7_lowestTop) s a50.2) (fun e : sx_M => sx_eq (xS_X7_lowestTop) s e) hb4 ?_ (sx_wB' (D := (xS_X7_lowestTop)) hs_46 ((fun q => q) rfl))
      rotate_left
      · intro a50 r ha50 hf
        unfold f_X7_lowestTop_L50 at hf
        rcases ax_or hf with ⟨hc8, hf⟩ | ⟨hc8, hf⟩
        · exact ax_ret (P := Sum.elim (fun a50 : Int32 × sx_M => sx_eq (xS_X7_lowestTop) s a50.2) (fun e : sx_M => sx_eq (xS_X7_lowestTop) s e)) hf ha50
        · rcases ax_or hf with ⟨hc7, hf⟩ | ⟨hc7, hf⟩
          · exact ax_ret (P := Sum.elim (fun a50 : Int32 × sx_M => sx_eq (xS_X7_lowestTop) s a50.2) (fun e : sx_M => sx_eq (xS_X7_lowestTop) s e)) hf ha50
          · obtain ⟨p1, hp1, hf⟩ := ax_bind hf
            rcases ax_or hf with ⟨hc6, hf⟩ | ⟨hc6, hf⟩
            · rcases ax_or hf with ⟨hc5, hf⟩ | ⟨hc5, hf⟩
              · exact ax_ret (P := Sum.elim (fun a50 : Int32 × sx_M => sx_eq (xS_X7_lowestTop) s a50.2) (fun e : sx_M => sx_eq (xS_X7_lowestTop) s e)) hf (sx_tr ha50 (sx_mono (D1 := xS_X1_at 3) (fr_f_X1_at (p := p1) 3 y4_46 a50.1 a50.2 ax_G3 hp1) (fun o k h => h.elim) (fun o k h => h.elim) (fun o h => h.elim) (fun o h => h.elim)))
              · obtain ⟨_, hf⟩ := ax_ite hf
                obtain ⟨_, hf⟩ := ax_ite hf
                obtain ⟨p2, hp2, hf⟩ := ax_bind hf
                obtain ⟨p3, hp3, hf⟩ := ax_bind hf
                obtain ⟨_, hf⟩ := ax_ite hf
                exact ax_ret (P := Sum.elim (fun a50 : Int32 × sx_M => sx_eq (xS_X7_lowestTop) s a50.2) (fun e : sx_M => sx_eq (xS_X7_lowestTop) s e)) hf (sx_wB' (D := (xS_X7_lowestTop)) (sx_tr (sx_tr (sx_tr ha50 (sx_mono (D1 := xS_X1_at 3) (fr_f_X1_at (p := p1) 3 y4_46 a50.1 a50.2 ax_G3 hp1) (fun o k h => h.elim) (fun o k h => h.elim) (fun o h => h.elim) (fun o h => h.elim))) (sx_mono (D1 := xS_J9_max_f86c9) (fr_f_J9_max_f86c9 (p := p2) p1.1 (rB p1.2 43 ((y3_46 ||| ((1 : Int32) <<< (a50.1 &&& 31)))).toNatClampNeg) p1.2 hp2) (fun o k h => h.elim) (fun o k h => h.elim) (fun o h => h.elim) (fun o h => h.elim))) (sx_mono (D1 := xS_J9_min_f86c9) (fr_f_J9_min_f86c9 (p := p3) (rB p1.2 43 (y3_46).toNatClampNeg) p2.1 p2.2 hp3) (fun o k h => h.elim) (fun o k h => h.elim) (fun o h => h.elim) (fun o h => h.elim))) ((fun q => q) rfl))
            · exact ax_ret (P := Sum.elim (fun a50 : Int32 × sx_M => sx_eq (xS_X7_lowestTop) s a50.2) (fun e : sx_M => sx_eq (xS_X7_lowestTop) s e)) hf (sx_tr ha50 (sx_mono (D1 := xS_X1_at 3) (fr_f_X1_at (p := p1) 3 y4_46 a50.1 a50.2 ax_G3 hp1) (fun o k h => h.elim) (fun o k h => h.elim) (fun o h => h.elim) (fun o h => h.elim)))
      exact ax_ret (P := Sum.elim (fun a12 : Int32 × sx_M => sx_eq (xS_X7_lowestTop) s a12.2) (fun e : sx_M => sx_eq (xS_X7_lowestTop) s e)) hf hvb4
    rcases ax_or hf with ⟨hc10, hf⟩ | ⟨hc10, hf⟩
    · exact ax_ret (P := Sum.elim (fun a12 : Int32 × sx_M => sx_eq (xS_X7_lowestTop) s a12.2) (fun e : sx_M => sx_eq (xS_X7_lowestTop) s e)) hf ha12
    · obtain ⟨p5, hp5, hf⟩ := ax_bind hf
      rcases ax_or hf with ⟨hc9, hf⟩ | ⟨hc9, hf⟩
      · exact J46 a12.1 p5.1 a12.1 (9223372036854775807 : Int64) p5.2 (sx_tr ha12 (sx_mono (D1 := xS_J6_bitCount_0f7a4) (fr_f_J6_bitCount_0f7a4 (p := p5) a12.1 a12.2 hp5) (fun o k h => h.elim) (fun o k h => h.elim) (fun o h => h.elim) (fun o h => h.elim))) hf
      · exact J46 a12.1 p5.1 a12.1 x1 p5.2 (sx_tr ha12 (sx_mono (D1 := xS_J6_bitCount_0f7a4) (fr_f_J6_bitCount_0f7a4 (p := p5) a12.1 a12.2 hp5) (fun o k h => h.elim) (fun o k h => h.elim) (fun o h => h.elim) (fun o h => h.elim))) hf
  exact ax_ret (P := fun q : Int64 × sx_M => sx_eq (xS_X7_lowestTop) s q.2) hf hvb6
abbrev xI_X7_supposeWithin : Nat → Nat → Prop := fun o k => (o = 13 ∧ k = 1) ∨ (o = 13 ∧ k = 2)
abbrev xJ_X7_supposeWithin : Nat → Nat → Prop := fun o k => False
abbrev xA_X7_supposeWithin : Nat → Prop := fun o => False
abbrev xB_X7_supposeWithin : Nat → Prop := fun o => o = (13 + 1)
abbrev xS_X7_supposeWithin : sx_D := (xI_X7_supposeWithin, xJ_X7_supposeWithin, xA_X7_supposeWithin, xB_X7_supposeWithin)
set_option maxRecDepth 100000 in
set_option maxHeartbeats 1000000 in
theorem fr_f_X7_supposeWithin (x1 : Int64) (x3 : Int64) (s : sx_M) {p : sx_M} (hf : f_X7_supposeWithin x1 x3 s = some p) : sx_eq (xS_X7_supposeWithin) s p := by
  unfold f_X7_supposeWithin at hf
  obtain ⟨p1, hp1, hf⟩ := ax_bind hf
  obtain ⟨b5, hb5, hf⟩ := ax_bind hf
  have hvb5 := wh_inv ((0 : Int32), p1) (fun a14 : Int32 × sx_M => sx_eq (xS_X7_supposeWithin) s a14.2) (fun e : sx_M => sx_eq (xS_X7_supposeWithin) s e) hb5 ?_ (sx_tr (sx_rf _ s) (sx_mono (D1 := xS_X1_copy 13 3) (fr_f_X1_copy (p := p1) 13 3 s ax_G13 ax_G3 hp1) (fun o k h => Or.elim h (fun q => (fun q => Or.inl q) q) (fun q0 => (fun q => Or.inr (q)) q0)) (fun o k h => h.elim) (fun o h => h.elim) (fun o h => (fun q => q) h)))
  rotate_left
  · intro a14 r ha14 hf
    unfold f_X7_supposeWithin_L14 at hf
    rcases ax_or hf with ⟨hc4, hf⟩ | ⟨hc4, hf⟩
    · exact ax_ret (P := Sum.elim (fun a14 : Int32 × sx_M => sx_eq (xS_X7_supposeWithin) s a14.2) (fun e : sx_M => sx_eq (xS_X7_supposeWithin) s e)) hf ha14
    · obtain ⟨b4, hb4, hf⟩ := ax_bind hf
      have hvb4 := wh_inv ((0 : Int32), a14.2) (fun a29 : Int32 × sx_M => sx_eq (xS_X7_supposeWithin) s a29.2) (fun e : sx_M => sx_eq (xS_X7_supposeWithin) s e) hb4 ?_ ha14
      rotate_left
      · intro a29 r ha29 hf
        unfold f_X7_supposeWithin_L29 at hf
        have J68 : ∀ (y6_68 : Int32) (s_68 : sx_M), sx_eq (xS_X7_supposeWithin) s s_68 → f_X7_supposeWithin_L29_J68 x1 x3 x1 x3 a14.1 y6_68 s_68 = some r → Sum.elim (fun a29 : Int32 × sx_M => sx_eq (xS_X7_supposeWithin) s a29.2) (fun e : sx_M => sx_eq (xS_X7_supposeWithin) s e) r := by
          intro y6_68 s_68 hs_68 hf
          unfold f_X7_supposeWithin_L29_J68 at hf
          obtain ⟨p2, hp2, hf⟩ := ax_bind hf
          exact ax_ret (P := Sum.elim (fun a29 : Int32 × sx_M => sx_eq (xS_X7_supposeWithin) s a29.2) (fun e : sx_M => sx_eq (xS_X7_supposeWithin) s e)) hf (sx_tr hs_68 (sx_mono (D1 := xS_X1_put 13) (fr_f_X1_put (p := p2) 13 a14.1 y6_68 (9223372036854775807 : Int64) s_68 ax_G13 hp2) (fun o k h => h.elim) (fun o k h => h.elim) (fun o h => h.elim) (fun o h => (fun q => q) h)))
        rcases ax_or hf with ⟨hc3, hf⟩ | ⟨hc3, hf⟩
        · exact ax_ret (P := Sum.elim (fun a29 : Int32 × sx_M => sx_eq (xS_X7_supposeWithin) s a29.2) (fun e : sx_M => sx_eq (xS_X7_supposeWithin) s e)) hf ha29
        · obtain ⟨p3, hp3, hf⟩ := ax_bind hf
          rcases ax_or hf with ⟨hc2, hf⟩ | ⟨hc2, hf⟩
          · exact J68 a29.1 p3.2 (sx_tr ha29 (sx_mono (D1 := xS_X1_at 3) (fr_f_X1_at (p := p3) 3 a14.1 a29.1 a29.2 ax_G3 hp3) (fun o k h => h.elim) (fun o k h => h.elim) (fun o h => h.elim) (fun o h => h.elim))) hf
          · rcases ax_or hf with ⟨hc1, hf⟩ | ⟨hc1, hf⟩
            · exact ax_ret (P := Sum.elim (fun a29 : Int32 × sx_M => sx_eq (xS_X7_supposeWithin) s a29.2) (fun e : sx_M => sx_eq (xS_X7_supposeWithin) s e)) hf (sx_tr ha29 (sx_mono (D1 := xS_X1_at 3) (fr_f_X1_at (p := p3) 3 a14.1 a29.1 a29.2 ax_G3 hp3) (fun o k h => h.elim) (fun o k h => h.elim) (fun o h => h.elim) (fun o h => h.elim)))
            · exact J68 a29.1 p3.2 (sx_tr ha29 (sx_mono (D1 := xS_X1_at 3) (fr_f_X1_at (p := p3) 3 a14.1 a29.1 a29.2 ax_G3 hp3) (fun o k h => h.elim) (fun o k h => h.elim) (fun o h => h.elim) (fun o h => h.elim))) hf
      exact ax_ret (P := Sum.elim (fun a14 : Int32 × sx_M => sx_eq (xS_X7_supposeWithin) s a14.2) (fun e : sx_M => sx_eq (xS_X7_supposeWithin) s e)) hf hvb4
  exact ax_ret (P := fun q : sx_M => sx_eq (xS_X7_supposeWithin) s q) hf hvb5
abbrev xI_X7_triedComesFirst : Nat → Nat → Prop := fun o k => False
abbrev xJ_X7_triedComesFirst : Nat → Nat → Prop := fun o k => False
abbrev xA_X7_triedComesFirst : Nat → Prop := fun o => False
abbrev xB_X7_triedComesFirst : Nat → Prop := fun o => False
abbrev xS_X7_triedComesFirst : sx_D := (xI_X7_triedComesFirst, xJ_X7_triedComesFirst, xA_X7_triedComesFirst, xB_X7_triedComesFirst)
set_option maxRecDepth 100000 in
set_option maxHeartbeats 1000000 in
theorem fr_f_X7_triedComesFirst (s : sx_M) {p : Int32 × sx_M} (hf : f_X7_triedComesFirst s = some p) : sx_eq (xS_X7_triedComesFirst) s p.2 := by
  unfold f_X7_triedComesFirst at hf
  obtain ⟨b1, hb1, hf⟩ := ax_bind hf
  have hvb1 := wh_inv ((0 : Int32), s) (fun a2 : Int32 × sx_M => sx_eq (xS_X7_triedComesFirst) s a2.2) (Sum.elim (fun e : sx_M => sx_eq (xS_X7_triedComesFirst) s e) (fun v : Int32 × sx_M => sx_eq (xS_X7_triedComesFirst) s v.2)) hb1 ?_ (sx_rf _ s)
  rotate_left
  · intro a2 r ha2 hf
    unfold f_X7_triedComesFirst_L2 at hf
    rcases ax_or hf with ⟨hc7, hf⟩ | ⟨hc7, hf⟩
    · exact ax_ret (P := Sum.elim (fun a2 : Int32 × sx_M => sx_eq (xS_X7_triedComesFirst) s a2.2) (Sum.elim (fun e : sx_M => sx_eq (xS_X7_triedComesFirst) s e) (fun v : Int32 × sx_M => sx_eq (xS_X7_triedComesFirst) s v.2))) hf ha2
    · obtain ⟨_, hf⟩ := ax_ite hf
      obtain ⟨_, hf⟩ := ax_ite hf
      rcases ax_or hf with ⟨hc6, hf⟩ | ⟨hc6, hf⟩
      · exact ax_ret (P := Sum.elim (fun a2 : Int32 × sx_M => sx_eq (xS_X7_triedComesFirst) s a2.2) (Sum.elim (fun e : sx_M => sx_eq (xS_X7_triedComesFirst) s e) (fun v : Int32 × sx_M => sx_eq (xS_X7_triedComesFirst) s v.2))) hf ha2
      · obtain ⟨_, hf⟩ := ax_ite hf
        obtain ⟨_, hf⟩ := ax_ite hf
        rcases ax_or hf with ⟨hc5, hf⟩ | ⟨hc5, hf⟩
        · exact ax_ret (P := Sum.elim (fun a2 : Int32 × sx_M => sx_eq (xS_X7_triedComesFirst) s a2.2) (Sum.elim (fun e : sx_M => sx_eq (xS_X7_triedComesFirst) s e) (fun v : Int32 × sx_M => sx_eq (xS_X7_triedComesFirst) s v.2))) hf ha2
        · exact ax_ret (P := Sum.elim (fun a2 : Int32 × sx_M => sx_eq (xS_X7_triedComesFirst) s a2.2) (Sum.elim (fun e : sx_M => sx_eq (xS_X7_triedComesFirst) s e) (fun v : Int32 × sx_M => sx_eq (xS_X7_triedComesFirst) s v.2))) hf ha2
  rcases b1 with e2 | e3
  · exact ax_ret (P := fun q : Int32 × sx_M => sx_eq (xS_X7_triedComesFirst) s q.2) hf hvb1
  · exact ax_ret (P := fun q : Int32 × sx_M => sx_eq (xS_X7_triedComesFirst) s q.2) hf hvb1
abbrev xI_X7_tryBottom : Nat → Nat → Prop := fun o k => (o = 13 ∧ k = 1) ∨ (o = 13 ∧ k = 2)
abbrev xJ_X7_tryBottom : Nat → Nat → Prop := fun o k => (o = 42 ∧ k = 6) ∨ (o = 42 ∧ k = 7)
abbrev xA_X7_tryBottom : Nat → Prop := fun o => o = (13 + 3) ∨ o = 44 ∨ o = 45
abbrev xB_X7_tryBottom : Nat → Prop := fun o => o = (13 + 1) ∨ o = (13 + 4) ∨ o = (13 + 5) ∨ o = 43
abbrev xS_X7_tryBottom : sx_D := (xI_X7_tryBottom, xJ_X7_tryBottom, xA_X7_tryBottom, xB_X7_tryBottom)
set_option maxRecDepth 100000 in
set_option maxHeartbeats 1000000 in
theorem fr_f_X7_tryBottom (x1 : Int64) (s : sx_M) {p : sx_M} (hf : f_X7_tryBottom x1 s = some p) : sx_eq (xS_X7_tryBottom) s p := by
  unfold f_X7_tryBottom at hf
  have J105 : ∀ (y1_105 : Int64) (y3_105 : Int64) (y5_105 : Int64) (s_105 : sx_M), sx_eq (xS_X7_tryBottom) s s_105 → f_X7_tryBottom_J105 y1_105 y3_105 y5_105 s_105 = some p → sx_eq (xS_X7_tryBottom) s p := by
    intro y1_105 y3_105 y5_105 s_105 hs_105 hf
    unfold f_X7_tryBottom_J105 at hf
    obtain ⟨b1, hb1, hf⟩ := ax_bind hf
    have hvb1 := wh_inv ((0 : Int32), (wJ (wJ s_105 42 6 (y3_105 - y1_105)) 42 7 y5_105)) (fun a121 : Int32 × sx_M => sx_eq (xS_X7_tryBottom) s a121.2) (fun e : sx_M => sx_eq (xS_X7_tryBottom) s e) hb1 ?_ (sx_wJ' (D := (xS_X7_tryBottom)) (sx_wJ' (D := (xS_X7_tryBottom)) hs_105 ((fun q => Or.inl q) ⟨rfl, rfl⟩)) ((fun q => Or.inr (q)) ⟨rfl, rfl⟩))
    rotate_left
    · intro a121 r ha121 hf
      unfold f_X7_tryBottom_L121 at hf
      rcases ax_or hf with ⟨hc3, hf⟩ | ⟨hc3, hf⟩
      · exact ax_ret (P := Sum.elim (fun a121 : Int32 × sx_M => sx_eq (xS_X7_tryBottom) s a121.2) (fun e : sx_M => sx_eq (xS_X7_tryBottom) s e)) hf ha121
      · obtain ⟨_, hf⟩ := ax_ite hf
        obtain ⟨_, hf⟩ := ax_ite hf
        exact ax_ret (P := Sum.elim (fun a121 : Int32 × sx_M => sx_eq (xS_X7_tryBottom) s a121.2) (fun e : sx_M => sx_eq (xS_X7_tryBottom) s e)) hf (sx_wA' (D := (xS_X7_tryBottom)) ha121 ((fun q => Or.inr (Or.inl q)) rfl))
    exact ax_ret (P := fun q : sx_M => sx_eq (xS_X7_tryBottom) s q) hf hvb1
  obtain ⟨p2, hp2, hf⟩ := ax_bind hf
  rcases ax_or hf with ⟨hc10, hf⟩ | ⟨hc10, hf⟩
  · exact ax_ret (P := fun q : sx_M => sx_eq (xS_X7_tryBottom) s q) hf (sx_tr (sx_rf _ s) (sx_mono (D1 := xS_X7_lowestTop) (fr_f_X7_lowestTop (p := p2) x1 s hp2) (fun o k h => h.elim) (fun o k h => h.elim) (fun o h => h.elim) (fun o h => (fun q => Or.inr (Or.inr (Or.inr (q)))) h)))
  · rcases ax_or hf with ⟨hc9, hf⟩ | ⟨hc9, hf⟩
    · obtain ⟨p3, hp3, hf⟩ := ax_bind hf
      obtain ⟨p4, hp4, hf⟩ := ax_bind hf
      obtain ⟨p5, hp5, hf⟩ := ax_bind hf
      rcases ax_or hf with ⟨hc8, hf⟩ | ⟨hc8, hf⟩
      · exact ax_ret (P := fun q : sx_M => sx_eq (xS_X7_tryBottom) s q) hf (sx_tr (sx_tr (sx_tr (sx_tr (sx_rf _ s) (sx_mono (D1 := xS_X7_lowestTop) (fr_f_X7_lowestTop (p := p2) x1 s hp2) (fun o k h => h.elim) (fun o k h => h.elim) (fun o h => h.elim) (fun o h => (fun q => Or.inr (Or.inr (Or.inr (q)))) h))) (sx_mono (D1 := xS_X7_supposeWithin) (fr_f_X7_supposeWithin (p := p3) x1 p2.1 p2.2 hp3) (fun o k h => Or.elim h (fun q => (fun q => Or.inl q) q) (fun q0 => (fun q => Or.inr (q)) q0)) (fun o k h => h.elim) (fun o h => h.elim) (fun o h => (fun q => Or.inl q) h))) (sx_mono (D1 := xS_X5_refresh 13) (fr_f_X5_refresh (p := p4) 13 p3 ax_RK13 hp4) (fun o k h => h.elim) (fun o k h => h.elim) (fun o h => (fun q => Or.inl q) h) (fun o h => Or.elim h (fun q => (fun q => Or.inr (Or.inl q)) q) (fun q0 => (fun q => Or.inr (Or.inr (Or.inl q))) q0)))) (sx_mono (D1 := xS_X5_findFirst 13 45) (fr_f_X5_findFirst (p := p5) 13 45 p4 ax_RK13 sh_45 hp5) (fun o k h => h.elim) (fun o k h => h.elim) (fun o h => (fun q => Or.inr (Or.inr (q))) h) (fun o h => h.elim)))
      · obtain ⟨p6, hp6, hf⟩ := ax_bind hf
        rcases ax_or hf with ⟨hc7, hf⟩ | ⟨hc7, hf⟩
        · exact J105 x1 p2.1 p6.1 p6.2 (sx_tr (sx_tr (sx_tr (sx_tr (sx_tr (sx_rf _ s) (sx_mono (D1 := xS_X7_lowestTop) (fr_f_X7_lowestTop (p := p2) x1 s hp2) (fun o k h => h.elim) (fun o k h => h.elim) (fun o h => h.elim) (fun o h => (fun q => Or.inr (Or.inr (Or.inr (q)))) h))) (sx_mono (D1 := xS_X7_supposeWithin) (fr_f_X7_supposeWithin (p := p3) x1 p2.1 p2.2 hp3) (fun o k h => Or.elim h (fun q => (fun q => Or.inl q) q) (fun q0 => (fun q => Or.inr (q)) q0)) (fun o k h => h.elim) (fun o h => h.elim) (fun o h => (fun q => Or.inl q) h))) (sx_mono (D1 := xS_X5_refresh 13) (fr_f_X5_refresh (p := p4) 13 p3 ax_RK13 hp4) (fun o k h => h.elim) (fun o k h => h.elim) (fun o h => (fun q => Or.inl q) h) (fun o h => Or.elim h (fun q => (fun q => Or.inr (Or.inl q)) q) (fun q0 => (fun q => Or.inr (Or.inr (Or.inl q))) q0)))) (sx_mono (D1 := xS_X5_findFirst 13 45) (fr_f_X5_findFirst (p := p5) 13 45 p4 ax_RK13 sh_45 hp5) (fun o k h => h.elim) (fun o k h => h.elim) (fun o h => (fun q => Or.inr (Or.inr (q))) h) (fun o h => h.elim))) (sx_mono (D1 := xS_X1_sumOf 3 45) (fr_f_X1_sumOf (p := p6) 3 45 p5.2 ax_G3 sh_45 hp6) (fun o k h => h.elim) (fun o k h => h.elim) (fun o h => h.elim) (fun o h => h.elim))) hf
        · rcases ax_or hf with ⟨hc6, hf⟩ | ⟨hc6, hf⟩
          · exact J105 x1 p2.1 p6.1 p6.2 (sx_tr (sx_tr (sx_tr (sx_tr (sx_tr (sx_rf _ s) (sx_mono (D1 := xS_X7_lowestTop) (fr_f_X7_lowestTop (p := p2) x1 s hp2) (fun o k h => h.elim) (fun o k h => h.elim) (fun o h => h.elim) (fun o h => (fun q => Or.inr (Or.inr (Or.inr (q)))) h))) (sx_mono (D1 := xS_X7_supposeWithin) (fr_f_X7_supposeWithin (p := p3) x1 p2.1 p2.2 hp3) (fun o k h => Or.elim h (fun q => (fun q => Or.inl q) q) (fun q0 => (fun q => Or.inr (q)) q0)) (fun o k h => h.elim) (fun o h => h.elim) (fun o h => (fun q => Or.inl q) h))) (sx_mono (D1 := xS_X5_refresh 13) (fr_f_X5_refresh (p := p4) 13 p3 ax_RK13 hp4) (fun o k h => h.elim) (fun o k h => h.elim) (fun o h => (fun q => Or.inl q) h) (fun o h => Or.elim h (fun q => (fun q => Or.inr (Or.inl q)) q) (fun q0 => (fun q => Or.inr (Or.inr (Or.inl q))) q0)))) (sx_mono (D1 := xS_X5_findFirst 13 45) (fr_f_X5_findFirst (p := p5) 13 45 p4 ax_RK13 sh_45 hp5) (fun o k h => h.elim) (fun o k h => h.elim) (fun o h => (fun q => Or.inr (Or.inr (q))) h) (fun o h => h.elim))) (sx_mono (D1 := xS_X1_sumOf 3 45) (fr_f_X1_sumOf (p := p6) 3 45 p5.2 ax_G3 sh_45 hp6) (fun o k h => h.elim) (fun o k h => h.elim) (fun o h => h.elim) (fun o h => h.elim))) hf
          · rcases ax_or hf with ⟨hc5, hf⟩ | ⟨hc5, hf⟩
            · obtain ⟨p7, hp7, hf⟩ := ax_bind hf
              rcases ax_or hf with ⟨hc4, hf⟩ | ⟨hc4, hf⟩
              · exact ax_ret (P := fun q : sx_M => sx_eq (xS_X7_tryBottom) s q) hf (sx_tr (sx_tr (sx_tr (sx_tr (sx_tr (sx_tr (sx_rf _ s) (sx_mono (D1 := xS_X7_lowestTop) (fr_f_X7_lowestTop (p := p2) x1 s hp2) (fun o k h => h.elim) (fun o k h => h.elim) (fun o h => h.elim) (fun o h => (fun q => Or.inr (Or.inr (Or.inr (q)))) h))) (sx_mono (D1 := xS_X7_supposeWithin) (fr_f_X7_supposeWithin (p := p3) x1 p2.1 p2.2 hp3) (fun o k h => Or.elim h (fun q => (fun q => Or.inl q) q) (fun q0 => (fun q => Or.inr (q)) q0)) (fun o k h => h.elim) (fun o h => h.elim) (fun o h => (fun q => Or.inl q) h))) (sx_mono (D1 := xS_X5_refresh 13) (fr_f_X5_refresh (p := p4) 13 p3 ax_RK13 hp4) (fun o k h => h.elim) (fun o k h => h.elim) (fun o h => (fun q => Or.inl q) h) (fun o h => Or.elim h (fun q => (fun q => Or.inr (Or.inl q)) q) (fun q0 => (fun q => Or.inr (Or.inr (Or.inl q))) q0)))) (sx_mono (D1 := xS_X5_findFirst 13 45) (fr_f_X5_findFirst (p := p5) 13 45 p4 ax_RK13 sh_45 hp5) (fun o k h => h.elim) (fun o k h => h.elim) (fun o h => (fun q => Or.inr (Or.inr (q))) h) (fun o h => h.elim))) (sx_mono (D1 := xS_X1_sumOf 3 45) (fr_f_X1_sumOf (p := p6) 3 45 p5.2 ax_G3 sh_45 hp6) (fun o k h => h.elim) (fun o k h => h.elim) (fun o h => h.elim) (fun o h => h.elim))) (sx_mono (D1 := xS_X7_triedComesFirst) (fr_f_X7_triedComesFirst (p := p7) p6.2 hp7) (fun o k h => h.elim) (fun o k h => h.elim) (fun o h => h.elim) (fun o h => h.elim)))
              · exact J105 x1 p2.1 p6.1 p7.2 (sx_tr (sx_tr (sx_tr (sx_tr (sx_tr (sx_tr (sx_rf _ s) (sx_mono (D1 := xS_X7_lowestTop) (fr_f_X7_lowestTop (p := p2) x1 s hp2) (fun o k h => h.elim) (fun o k h => h.elim) (fun o h => h.elim) (fun o h => (fun q => Or.inr (Or.inr (Or.inr (q)))) h))) (sx_mono (D1 := xS_X7_supposeWithin) (fr_f_X7_supposeWithin (p := p3) x1 p2.1 p2.2 hp3) (fun o k h => Or.elim h (fun q => (fun q => Or.inl q) q) (fun q0 => (fun q => Or.inr (q)) q0)) (fun o k h => h.elim) (fun o h => h.elim) (fun o h => (fun q => Or.inl q) h))) (sx_mono (D1 := xS_X5_refresh 13) (fr_f_X5_refresh (p := p4) 13 p3 ax_RK13 hp4) (fun o k h => h.elim) (fun o k h => h.elim) (fun o h => (fun q => Or.inl q) h) (fun o h => Or.elim h (fun q => (fun q => Or.inr (Or.inl q)) q) (fun q0 => (fun q => Or.inr (Or.inr (Or.inl q))) q0)))) (sx_mono (D1 := xS_X5_findFirst 13 45) (fr_f_X5_findFirst (p := p5) 13 45 p4 ax_RK13 sh_45 hp5) (fun o k h => h.elim) (fun o k h => h.elim) (fun o h => (fun q => Or.inr (Or.inr (q))) h) (fun o h => h.elim))) (sx_mono (D1 := xS_X1_sumOf 3 45) (fr_f_X1_sumOf (p := p6) 3 45 p5.2 ax_G3 sh_45 hp6) (fun o k h => h.elim) (fun o k h => h.elim) (fun o h => h.elim) (fun o h => h.elim))) (sx_mono (D1 := xS_X7_triedComesFirst) (fr_f_X7_triedComesFirst (p := p7) p6.2 hp7) (fun o k h => h.elim) (fun o k h => h.elim) (fun o h => h.elim) (fun o h => h.elim))) hf
            · exact ax_ret (P := fun q : sx_M => sx_eq (xS_X7_tryBottom) s q) hf (sx_tr (sx_tr (sx_tr (sx_tr (sx_tr (sx_rf _ s) (sx_mono (D1 := xS_X7_lowestTop) (fr_f_X7_lowestTop (p := p2) x1 s hp2) (fun o k h => h.elim) (fun o k h => h.elim) (fun o h => h.elim) (fun o h => (fun q => Or.inr (Or.inr (Or.inr (q)))) h))) (sx_mono (D1 := xS_X7_supposeWithin) (fr_f_X7_supposeWithin (p := p3) x1 p2.1 p2.2 hp3) (fun o k h => Or.elim h (fun q => (fun q => Or.inl q) q) (fun q0 => (fun q => Or.inr (q)) q0)) (fun o k h => h.elim) (fun o h => h.elim) (fun o h => (fun q => Or.inl q) h))) (sx_mono (D1 := xS_X5_refresh 13) (fr_f_X5_refresh (p := p4) 13 p3 ax_RK13 hp4) (fun o k h => h.elim) (fun o k h => h.elim) (fun o h => (fun q => Or.inl q) h) (fun o h => Or.elim h (fun q => (fun q => Or.inr (Or.inl q)) q) (fun q0 => (fun q => Or.inr (Or.inr (Or.inl q))) q0)))) (sx_mono (D1 := xS_X5_findFirst 13 45) (fr_f_X5_findFirst (p := p5) 13 45 p4 ax_RK13 sh_45 hp5) (fun o k h => h.elim) (fun o k h => h.elim) (fun o h => (fun q => Or.inr (Or.inr (q))) h) (fun o h => h.elim))) (sx_mono (D1 := xS_X1_sumOf 3 45) (fr_f_X1_sumOf (p := p6) 3 45 p5.2 ax_G3 sh_45 hp6) (fun o k h => h.elim) (fun o k h => h.elim) (fun o h => h.elim) (fun o h => h.elim)))
    · exact ax_ret (P := fun q : sx_M => sx_eq (xS_X7_tryBottom) s q) hf (sx_tr (sx_rf _ s) (sx_mono (D1 := xS_X7_lowestTop) (fr_f_X7_lowestTop (p := p2) x1 s hp2) (fun o k h => h.elim) (fun o k h => h.elim) (fun o h => h.elim) (fun o h => (fun q => Or.inr (Or.inr (Or.inr (q)))) h)))
abbrev xI_X7_chooseEven : Nat → Nat → Prop := fun o k => (o = 13 ∧ k = 1) ∨ (o = 13 ∧ k = 2)
abbrev xJ_X7_chooseEven : Nat → Nat → Prop := fun o k => (o = 42 ∧ k = 6) ∨ (o = 42 ∧ k = 7)
abbrev xA_X7_chooseEven : Nat → Prop := fun o => o = (13 + 3) ∨ o = 44 ∨ o = 45
abbrev xB_X7_chooseEven : Nat → Prop := fun o => o = (13 + 1) ∨ o = (13 + 4) ∨ o = (13 + 5) ∨ o = 43
abbrev xS_X7_chooseEven : sx_D := (xI_X7_chooseEven, xJ_X7_chooseEven, xA_X7_chooseEven, xB_X7_chooseEven)
set_option maxRecDepth 100000 in
set_option maxHeartbeats 1000000 in
theorem fr_f_X7_chooseEven (s : sx_M) {p : Int32 × sx_M} (hf : f_X7_chooseEven s = some p) : sx_eq (xS_X7_chooseEven) s p.2 := by
  unfold f_X7_chooseEven at hf
  obtain ⟨b5, hb5, hf⟩ := ax_bind hf
  have hvb5 := wh_inv ((0 : Int32), (wJ (wJ s 42 6 (9223372036854775807 : Int64)) 42 7 (9223372036854775807 : Int64))) (fun a16 : Int32 × sx_M => sx_eq (xS_X7_chooseEven) s a16.2) (fun e : sx_M => sx_eq (xS_X7_chooseEven) s e) hb5 ?_ (sx_wJ' (D := (xS_X7_chooseEven)) (sx_wJ' (D := (xS_X7_chooseEven)) (sx_rf _ s) ((fun q => Or.inl q) ⟨rfl, rfl⟩)) ((fun q => Or.inr (q)) ⟨rfl, rfl⟩))
  rotate_left
  · intro a16 r ha16 hf
    unfold f_X7_chooseEven_L16 at hf
    rcases ax_or hf with ⟨hc3, hf⟩ | ⟨hc3, hf⟩
    · exact ax_ret (P := Sum.elim (fun a16 : Int32 × sx_M => sx_eq (xS_X7_chooseEven) s a16.2) (fun e : sx_M => sx_eq (xS_X7_chooseEven) s e)) hf ha16
    · obtain ⟨b4, hb4, hf⟩ := ax_bind hf
      have hvb4 := wh_inv ((0 : Int32), a16.2) (fun a29 : Int32 × sx_M => sx_eq (xS_X7_chooseEven) s a29.2) (fun e : sx_M => sx_eq (xS_X7_chooseEven) s e) hb4 ?_ ha16
      rotate_left
      · intro a29 r ha29 hf
        unfold f_X7_chooseEven_L29 at hf
        rcases ax_or hf with ⟨hc2, hf⟩ | ⟨hc2, hf⟩
        · exact ax_ret (P := Sum.elim (fun a29 : Int32 × sx_M => sx_eq (xS_X7_chooseEven) s a29.2) (fun e : sx_M => sx_eq (xS_X7_chooseEven) s e)) hf ha29
        · obtain ⟨p1, hp1, hf⟩ := ax_bind hf
          rcases ax_or hf with ⟨hc1, hf⟩ | ⟨hc1, hf⟩
          · exact ax_ret (P := Sum.elim (fun a29 : Int32 × sx_M => sx_eq (xS_X7_chooseEven) s a29.2) (fun e : sx_M => sx_eq (xS_X7_chooseEven) s e)) hf (sx_tr ha29 (sx_mono (D1 := xS_X1_at 3) (fr_f_X1_at (p := p1) 3 a16.1 a29.1 a29.2 ax_G3 hp1) (fun o k h => h.elim) (fun o k h => h.elim) (fun o h => h.elim) (fun o h => h.elim)))
          · obtain ⟨p2, hp2, hf⟩ := ax_bind hf
            obtain ⟨p3, hp3, hf⟩ := ax_bind hf
            exact ax_ret (P := Sum.elim (fun a29 : Int32 × sx_M => sx_eq (xS_X7_chooseEven) s a29.2) (fun e : sx_M => sx_eq (xS_X7_chooseEven) s e)) hf (sx_tr (sx_tr (sx_tr ha29 (sx_mono (D1 := xS_X1_at 3) (fr_f_X1_at (p := p1) 3 a16.1 a29.1 a29.2 ax_G3 hp1) (fun o k h => h.elim) (fun o k h => h.elim) (fun o h => h.elim) (fun o h => h.elim))) (sx_mono (D1 := xS_X1_at 3) (fr_f_X1_at (p := p2) 3 a16.1 a29.1 p1.2 ax_G3 hp2) (fun o k h => h.elim) (fun o k h => h.elim) (fun o h => h.elim) (fun o h => h.elim))) (sx_mono (D1 := xS_X7_tryBottom) (fr_f_X7_tryBottom (p := p3) p2.1 p2.2 hp3) (fun o k h => Or.elim h (fun q => (fun q => Or.inl q) q) (fun q0 => (fun q => Or.inr (q)) q0)) (fun o k h => Or.elim h (fun q => (fun q => Or.inl q) q) (fun q0 => (fun q => Or.inr (q)) q0)) (fun o h => Or.elim h (fun q => (fun q => Or.inl q) q) (fun q0 => Or.elim q0 (fun q => (fun q => Or.inr (Or.inl q)) q) (fun q1 => (fun q => Or.inr (Or.inr (q))) q1))) (fun o h => Or.elim h (fun q => (fun q => Or.inl q) q) (fun q0 => Or.elim q0 (fun q => (fun q => Or.inr (Or.inl q)) q) (fun q1 => Or.elim q1 (fun q => (fun q => Or.inr (Or.inr (Or.inl q))) q) (fun q2 => (fun q => Or.inr (Or.inr (Or.inr (q)))) q2))))))
      exact ax_ret (P := Sum.elim (fun a16 : Int32 × sx_M => sx_eq (xS_X7_chooseEven) s a16.2) (fun e : sx_M => sx_eq (xS_X7_chooseEven) s e)) hf hvb4
  rcases ax_or hf with ⟨hc4, hf⟩ | ⟨hc4, hf⟩
  · exact ax_ret (P := fun q : Int32 × sx_M => sx_eq (xS_X7_chooseEven) s q.2) hf hvb5
  · exact ax_ret (P := fun q : Int32 × sx_M => sx_eq (xS_X7_chooseEven) s q.2) hf hvb5
abbrev xI_X7_supposeWeighted : Nat → Nat → Prop := fun o k => (o = 13 ∧ k = 1) ∨ (o = 13 ∧ k = 2)
abbrev xJ_X7_supposeWeighted : Nat → Nat → Prop := fun o k => False
abbrev xA_X7_supposeWeighted : Nat → Prop := fun o => False
abbrev xB_X7_supposeWeighted : Nat → Prop := fun o => o = (13 + 1)
abbrev xS_X7_supposeWeighted : sx_D := (xI_X7_supposeWeighted, xJ_X7_supposeWeighted, xA_X7_supposeWeighted, xB_X7_supposeWeighted)
set_option maxRecDepth 100000 in
set_option maxHeartbeats 1000000 in
theorem fr_f_X7_supposeWeighted (x1 : Int32) (s : sx_M) {p : sx_M} (hf : f_X7_supposeWeighted x1 s = some p) : sx_eq (xS_X7_supposeWeighted) s p := by
  unfold f_X7_supposeWeighted at hf
  obtain ⟨p1, hp1, hf⟩ := ax_bind hf
  obtain ⟨b5, hb5, hf⟩ := ax_bind hf
  have hvb5 := wh_inv ((0 : Int32), p1) (fun a13 : Int32 × sx_M => sx_eq (xS_X7_supposeWeighted) s a13.2) (fun e : sx_M => sx_eq (xS_X7_supposeWeighted) s e) hb5 ?_ (sx_tr (sx_rf _ s) (sx_mono (D1 := xS_X1_copy 13 3) (fr_f_X1_copy (p := p1) 13 3 s ax_G13 ax_G3 hp1) (fun o k h => Or.elim h (fun q => (fun q => Or.inl q) q) (fun q0 => (fun q => Or.inr (q)) q0)) (fun o k h => h.elim) (fun o h => h.elim) (fun o h => (fun q => q) h)))
  rotate_left
  · intro a13 r ha13 hf
    unfold f_X7_supposeWeighted_L13 at hf
    rcases ax_or hf with ⟨hc4, hf⟩ | ⟨hc4, hf⟩
    · exact ax_ret (P := Sum.elim (fun a13 : Int32 × sx_M => sx_eq (xS_X7_supposeWeighted) s a13.2) (fun e : sx_M => sx_eq (xS_X7_supposeWeighted) s e)) hf ha13
    · obtain ⟨b4, hb4, hf⟩ := ax_bind hf
      have hvb4 := wh_inv ((0 : Int32), a13.2) (fun a26 : Int32 × sx_M => sx_eq (xS_X7_supposeWeighted) s a26.2) (fun e : sx_M => sx_eq (xS_X7_supposeWeighted) s e) hb4 ?_ ha13
      rotate_left
      · intro a26 r ha26 hf
        unfold f_X7_supposeWeighted_L26 at hf
        rcases ax_or hf with ⟨hc3, hf⟩ | ⟨hc3, hf⟩
        · exact ax_ret (P := Sum.elim (fun a26 : Int32 × sx_M => sx_eq (xS_X7_supposeWeighted) s a26.2) (fun e : sx_M => sx_eq (xS_X7_supposeWeighted) s e)) hf ha26
        · obtain ⟨p2, hp2, hf⟩ := ax_bind hf
          rcases ax_or hf with ⟨hc2, hf⟩ | ⟨hc2, hf⟩
          · exact ax_ret (P := Sum.elim (fun a26 : Int32 × sx_M => sx_eq (xS_X7_supposeWeighted) s a26.2) (fun e : sx_M => sx_eq (xS_X7_supposeWeighted) s e)) hf (sx_tr ha26 (sx_mono (D1 := xS_X1_at 3) (fr_f_X1_at (p := p2) 3 a13.1 a26.1 a26.2 ax_G3 hp2) (fun o k h => h.elim) (fun o k h => h.elim) (fun o h => h.elim) (fun o h => h.elim)))
          · rcases ax_or hf with ⟨hc1, hf⟩ | ⟨hc1, hf⟩
            · exact ax_ret (P := Sum.elim (fun a26 : Int32 × sx_M => sx_eq (xS_X7_supposeWeighted) s a26.2) (fun e : sx_M => sx_eq (xS_X7_supposeWeighted) s e)) hf (sx_tr ha26 (sx_mono (D1 := xS_X1_at 3) (fr_f_X1_at (p := p2) 3 a13.1 a26.1 a26.2 ax_G3 hp2) (fun o k h => h.elim) (fun o k h => h.elim) (fun o h => h.elim) (fun o h => h.elim)))
            · obtain ⟨p3, hp3, hf⟩ := ax_bind hf
              exact ax_ret (P := Sum.elim (fun a26 : Int32 × sx_M => sx_eq (xS_X7_supposeWeighted) s a26.2) (fun e : sx_M => sx_eq (xS_X7_supposeWeighted) s e)) hf (sx_tr (sx_tr ha26 (sx_mono (D1 := xS_X1_at 3) (fr_f_X1_at (p := p2) 3 a13.1 a26.1 a26.2 ax_G3 hp2) (fun o k h => h.elim) (fun o k h => h.elim) (fun o h => h.elim) (fun o h => h.elim))) (sx_mono (D1 := xS_X1_put 13) (fr_f_X1_put (p := p3) 13 a13.1 a26.1 (p2.1 + (1000000 : Int64)) p2.2 ax_G13 hp3) (fun o k h => h.elim) (fun o k h => h.elim) (fun o h => h.elim) (fun o h => (fun q => q) h)))
      exact ax_ret (P := Sum.elim (fun a13 : Int32 × sx_M => sx_eq (xS_X7_supposeWeighted) s a13.2) (fun e : sx_M => sx_eq (xS_X7_supposeWeighted) s e)) hf hvb4
  exact ax_ret (P := fun q : sx_M => sx_eq (xS_X7_supposeWeighted) s q) hf hvb5
abbrev xI_X7_choose : Nat → Nat → Prop := fun o k => (o = 13 ∧ k = 1) ∨ (o = 13 ∧ k = 2)
abbrev xJ_X7_choose : Nat → Nat → Prop := fun o k => (o = 42 ∧ k = 6) ∨ (o = 42 ∧ k = 7)
abbrev xA_X7_choose : Nat → Prop := fun o => o = (13 + 3) ∨ o = 44 ∨ o = 45
abbrev xB_X7_choose : Nat → Prop := fun o => o = (13 + 1) ∨ o = (13 + 4) ∨ o = (13 + 5) ∨ o = 43
abbrev xS_X7_choose : sx_D := (xI_X7_choose, xJ_X7_choose, xA_X7_choose, xB_X7_choose)
set_option maxRecDepth 100000 in
set_option maxHeartbeats 1000000 in
theorem fr_f_X7_choose (x1 : Int32) (x2 : Int32) (s : sx_M) {p : Int32 × sx_M} (hf : f_X7_choose x1 x2 s = some p) : sx_eq (xS_X7_choose) s p.2 := by
  unfold f_X7_choose at hf
  have J87 : ∀ (s_87 : sx_M), sx_eq (xS_X7_choose) s s_87 → f_X7_choose_J87 s_87 = some p → sx_eq (xS_X7_choose) s p.2 := by
    intro s_87 hs_87 hf
    unfold f_X7_choose_J87 at hf
    obtain ⟨p1, hp1, hf⟩ := ax_bind hf
    obtain ⟨p2, hp2, hf⟩ := ax_bind hf
    obtain ⟨_, hf⟩ := ax_ite hf
    exact ax_ret (P := fun q : Int32 × sx_M => sx_eq (xS_X7_choose) s q.2) hf (sx_tr (sx_tr hs_87 (sx_mono (D1 := xS_X5_refresh 13) (fr_f_X5_refresh (p := p1) 13 s_87 ax_RK13 hp1) (fun o k h => h.elim) (fun o k h => h.elim) (fun o h => (fun q => Or.inl q) h) (fun o h => Or.elim h (fun q => (fun q => Or.inr (Or.inl q)) q) (fun q0 => (fun q => Or.inr (Or.inr (Or.inl q))) q0)))) (sx_mono (D1 := xS_X5_findFirst 13 44) (fr_f_X5_findFirst (p := p2) 13 44 p1 ax_RK13 sh_44 hp2) (fun o k h => h.elim) (fun o k h => h.elim) (fun o h => (fun q => Or.inr (Or.inl q)) h) (fun o h => h.elim)))
  rcases ax_or hf with ⟨hc1, hf⟩ | ⟨hc1, hf⟩
  · obtain ⟨p3, hp3, hf⟩ := ax_bind hf
    exact J87 p3 (sx_tr (sx_rf _ s) (sx_mono (D1 := xS_X1_copy 13 3) (fr_f_X1_copy (p := p3) 13 3 s ax_G13 ax_G3 hp3) (fun o k h => Or.elim h (fun q => (fun q => Or.inl q) q) (fun q0 => (fun q => Or.inr (q)) q0)) (fun o k h => h.elim) (fun o h => h.elim) (fun o h => (fun q => Or.inl q) h))) hf
  rcases ax_or hf with ⟨hc2, hf⟩ | ⟨hc2, hf⟩
  · obtain ⟨p4, hp4, hf⟩ := ax_bind hf
    obtain ⟨p5, hp5, hf⟩ := ax_bind hf
    exact J87 p5 (sx_tr (sx_tr (sx_rf _ s) (sx_mono (D1 := xS_X7_lowestTop) (fr_f_X7_lowestTop (p := p4) (-9999 : Int64) s hp4) (fun o k h => h.elim) (fun o k h => h.elim) (fun o h => h.elim) (fun o h => (fun q => Or.inr (Or.inr (Or.inr (q)))) h))) (sx_mono (D1 := xS_X7_supposeWithin) (fr_f_X7_supposeWithin (p := p5) (-9999 : Int64) p4.1 p4.2 hp5) (fun o k h => Or.elim h (fun q => (fun q => Or.inl q) q) (fun q0 => (fun q => Or.inr (q)) q0)) (fun o k h => h.elim) (fun o h => h.elim) (fun o h => (fun q => Or.inl q) h))) hf
  rcases ax_or hf with ⟨hc5, hf⟩ | ⟨hc5, hf⟩
  · rcases ax_or hf with ⟨hc4, hf⟩ | ⟨hc4, hf⟩
    · exact ax_ret (P := fun q : Int32 × sx_M => sx_eq (xS_X7_choose) s q.2) hf (sx_rf _ s)
    · obtain ⟨p6, hp6, hf⟩ := ax_bind hf
      rcases ax_or hf with ⟨hc3, hf⟩ | ⟨hc3, hf⟩
      · exact ax_ret (P := fun q : Int32 × sx_M => sx_eq (xS_X7_choose) s q.2) hf (sx_tr (sx_rf _ s) (sx_mono (D1 := xS_X7_chooseEven) (fr_f_X7_chooseEven (p := p6) s hp6) (fun o k h => Or.elim h (fun q => (fun q => Or.inl q) q) (fun q0 => (fun q => Or.inr (q)) q0)) (fun o k h => Or.elim h (fun q => (fun q => Or.inl q) q) (fun q0 => (fun q => Or.inr (q)) q0)) (fun o h => Or.elim h (fun q => (fun q => Or.inl q) q) (fun q0 => Or.elim q0 (fun q => (fun q => Or.inr (Or.inl q)) q) (fun q1 => (fun q => Or.inr (Or.inr (q))) q1))) (fun o h => Or.elim h (fun q => (fun q => Or.inl q) q) (fun q0 => Or.elim q0 (fun q => (fun q => Or.inr (Or.inl q)) q) (fun q1 => Or.elim q1 (fun q => (fun q => Or.inr (Or.inr (Or.inl q))) q) (fun q2 => (fun q => Or.inr (Or.inr (Or.inr (q)))) q2))))))
      · exact ax_ret (P := fun q : Int32 × sx_M => sx_eq (xS_X7_choose) s q.2) hf (sx_tr (sx_rf _ s) (sx_mono (D1 := xS_X7_chooseEven) (fr_f_X7_chooseEven (p := p6) s hp6) (fun o k h => Or.elim h (fun q => (fun q => Or.inl q) q) (fun q0 => (fun q => Or.inr (q)) q0)) (fun o k h => Or.elim h (fun q => (fun q => Or.inl q) q) (fun q0 => (fun q => Or.inr (q)) q0)) (fun o h => Or.elim h (fun q => (fun q => Or.inl q) q) (fun q0 => Or.elim q0 (fun q => (fun q => Or.inr (Or.inl q)) q) (fun q1 => (fun q => Or.inr (Or.inr (q))) q1))) (fun o h => Or.elim h (fun q => (fun q => Or.inl q) q) (fun q0 => Or.elim q0 (fun q => (fun q => Or.inr (Or.inl q)) q) (fun q1 => Or.elim q1 (fun q => (fun q => Or.inr (Or.inr (Or.inl q))) q) (fun q2 => (fun q => Or.inr (Or.inr (Or.inr (q)))) q2))))))
  obtain ⟨p7, hp7, hf⟩ := ax_bind hf
  exact J87 p7 (sx_tr (sx_rf _ s) (sx_mono (D1 := xS_X7_supposeWeighted) (fr_f_X7_supposeWeighted (p := p7) x2 s hp7) (fun o k h => Or.elim h (fun q => (fun q => Or.inl q) q) (fun q0 => (fun q => Or.inr (q)) q0)) (fun o k h => h.elim) (fun o h => h.elim) (fun o h => (fun q => Or.inl q) h))) hf
abbrev xI_X7_howManyAbove : Nat → Nat → Prop := fun o k => False
abbrev xJ_X7_howManyAbove : Nat → Nat → Prop := fun o k => False
abbrev xA_X7_howManyAbove : Nat → Prop := fun o => False
abbrev xB_X7_howManyAbove : Nat → Prop := fun o => False
abbrev xS_X7_howManyAbove : sx_D := (xI_X7_howManyAbove, xJ_X7_howManyAbove, xA_X7_howManyAbove, xB_X7_howManyAbove)
set_option maxRecDepth 100000 in
set_option maxHeartbeats 1000000 in
theorem fr_f_X7_howManyAbove (x1 : Int32) (s : sx_M) {p : Int64 × sx_M} (hf : f_X7_howManyAbove x1 s = some p) : sx_eq (xS_X7_howManyAbove) s p.2 := by
  unfold f_X7_howManyAbove at hf
  obtain ⟨b2, hb2, hf⟩ := ax_bind hf
  have hvb2 := wh_inv ((0 : Int32), (0 : Int32), s) (fun a4 : Int32 × Int32 × sx_M => sx_eq (xS_X7_howManyAbove) s a4.2.2) (fun e : Int32 × sx_M => sx_eq (xS_X7_howManyAbove) s e.2) hb2 ?_ (sx_rf _ s)
  rotate_left
  · intro a4 r ha4 hf
    unfold f_X7_howManyAbove_L4 at hf
    rcases ax_or hf with ⟨hc3, hf⟩ | ⟨hc3, hf⟩
    · exact ax_ret (P := Sum.elim (fun a4 : Int32 × Int32 × sx_M => sx_eq (xS_X7_howManyAbove) s a4.2.2) (fun e : Int32 × sx_M => sx_eq (xS_X7_howManyAbove) s e.2)) hf ha4
    · obtain ⟨_, hf⟩ := ax_ite hf
      obtain ⟨p1, hp1, hf⟩ := ax_bind hf
      rcases ax_or hf with ⟨hc2, hf⟩ | ⟨hc2, hf⟩
      · exact ax_ret (P := Sum.elim (fun a4 : Int32 × Int32 × sx_M => sx_eq (xS_X7_howManyAbove) s a4.2.2) (fun e : Int32 × sx_M => sx_eq (xS_X7_howManyAbove) s e.2)) hf (sx_tr ha4 (sx_mono (D1 := xS_X1_at 3) (fr_f_X1_at (p := p1) 3 a4.2.1 (rA a4.2.2 44 (a4.2.1).toNatClampNeg) a4.2.2 ax_G3 hp1) (fun o k h => h.elim) (fun o k h => h.elim) (fun o h => h.elim) (fun o h => h.elim)))
      · exact ax_ret (P := Sum.elim (fun a4 : Int32 × Int32 × sx_M => sx_eq (xS_X7_howManyAbove) s a4.2.2) (fun e : Int32 × sx_M => sx_eq (xS_X7_howManyAbove) s e.2)) hf (sx_tr ha4 (sx_mono (D1 := xS_X1_at 3) (fr_f_X1_at (p := p1) 3 a4.2.1 (rA a4.2.2 44 (a4.2.1).toNatClampNeg) a4.2.2 ax_G3 hp1) (fun o k h => h.elim) (fun o k h => h.elim) (fun o h => h.elim) (fun o h => h.elim)))
  exact ax_ret (P := fun q : Int64 × sx_M => sx_eq (xS_X7_howManyAbove) s q.2) hf hvb2
abbrev xI_X7_measure : Nat → Nat → Prop := fun o k => False
abbrev xJ_X7_measure : Nat → Nat → Prop := fun o k => False
abbrev xA_X7_measure : Nat → Prop := fun o => False
abbrev xB_X7_measure : Nat → Prop := fun o => False
abbrev xS_X7_measure : sx_D := (xI_X7_measure, xJ_X7_measure, xA_X7_measure, xB_X7_measure)
set_option maxRecDepth 100000 in
set_option maxHeartbeats 1000000 in
theorem fr_f_X7_measure (x1 : Int32) (x2 : Int32) (s : sx_M) {p : Int64 × sx_M} (hf : f_X7_measure x1 x2 s = some p) : sx_eq (xS_X7_measure) s p.2 := by
  unfold f_X7_measure at hf
  rcases ax_or hf with ⟨hc4, hf⟩ | ⟨hc4, hf⟩
  · exact ax_ret (P := fun q : Int64 × sx_M => sx_eq (xS_X7_measure) s q.2) hf (sx_rf _ s)
  · rcases ax_or hf with ⟨hc1, hf⟩ | ⟨hc1, hf⟩
    · obtain ⟨p1, hp1, hf⟩ := ax_bind hf
      exact ax_ret (P := fun q : Int64 × sx_M => sx_eq (xS_X7_measure) s q.2) hf (sx_tr (sx_rf _ s) (sx_mono (D1 := xS_X1_sumOf 3 44) (fr_f_X1_sumOf (p := p1) 3 44 s ax_G3 sh_44 hp1) (fun o k h => h.elim) (fun o k h => h.elim) (fun o h => h.elim) (fun o h => h.elim)))
    rcases ax_or hf with ⟨hc2, hf⟩ | ⟨hc2, hf⟩
    · obtain ⟨p2, hp2, hf⟩ := ax_bind hf
      exact ax_ret (P := fun q : Int64 × sx_M => sx_eq (xS_X7_measure) s q.2) hf (sx_tr (sx_rf _ s) (sx_mono (D1 := xS_X1_greatestOf 3 44) (fr_f_X1_greatestOf (p := p2) 3 44 s ax_G3 sh_44 hp2) (fun o k h => h.elim) (fun o k h => h.elim) (fun o h => h.elim) (fun o h => h.elim)))
    rcases ax_or hf with ⟨hc3, hf⟩ | ⟨hc3, hf⟩
    · obtain ⟨p3, hp3, hf⟩ := ax_bind hf
      obtain ⟨p4, hp4, hf⟩ := ax_bind hf
      exact ax_ret (P := fun q : Int64 × sx_M => sx_eq (xS_X7_measure) s q.2) hf (sx_tr (sx_tr (sx_rf _ s) (sx_mono (D1 := xS_X1_greatestOf 3 44) (fr_f_X1_greatestOf (p := p3) 3 44 s ax_G3 sh_44 hp3) (fun o k h => h.elim) (fun o k h => h.elim) (fun o h => h.elim) (fun o h => h.elim))) (sx_mono (D1 := xS_X1_smallestOf 3 44) (fr_f_X1_smallestOf (p := p4) 3 44 p3.2 ax_G3 sh_44 hp4) (fun o k h => h.elim) (fun o k h => h.elim) (fun o h => h.elim) (fun o h => h.elim)))
    obtain ⟨p5, hp5, hf⟩ := ax_bind hf
    exact ax_ret (P := fun q : Int64 × sx_M => sx_eq (xS_X7_measure) s q.2) hf (sx_tr (sx_rf _ s) (sx_mono (D1 := xS_X7_howManyAbove) (fr_f_X7_howManyAbove (p := p5) x2 s hp5) (fun o k h => h.elim) (fun o k h => h.elim) (fun o h => h.elim) (fun o h => h.elim)))
abbrev xI_X8_open : Nat → Nat → Prop := fun o k => (o = 49 ∧ k = 4) ∨ (o = 49 ∧ k = 5)
abbrev xJ_X8_open : Nat → Nat → Prop := fun o k => False
abbrev xA_X8_open : Nat → Prop := fun o => o = 51 ∨ o = 52
abbrev xB_X8_open : Nat → Prop := fun o => o = 50
abbrev xS_X8_open : sx_D := (xI_X8_open, xJ_X8_open, xA_X8_open, xB_X8_open)
set_option maxRecDepth 100000 in
set_option maxHeartbeats 1000000 in
theorem fr_f_X8_open (s : sx_M) {p : sx_M} (hf : f_X8_open s = some p) : sx_eq (xS_X8_open) s p := by
  unfold f_X8_open at hf
  obtain ⟨b1, hb1, hf⟩ := ax_bind hf
  have hvb1 := wh_inv ((0 : Int32), (wI (wI s 49 5 (0 : Int32)) 49 4 (rI (wI s 49 5 (0 : Int32)) 3 1))) (fun a18 : Int32 × sx_M => sx_eq (xS_X8_open) s a18.2) (fun e : sx_M => sx_eq (xS_X8_open) s e) hb1 ?_ (sx_wI' (D := (xS_X8_open)) (sx_wI' (D := (xS_X8_open)) (sx_rf _ s) ((fun q => Or.inr (q)) ⟨rfl, rfl⟩)) ((fun q => Or.inl q) ⟨rfl, rfl⟩))
  rotate_left
  · intro a18 r ha18 hf
    unfold f_X8_open_L18 at hf
    rcases ax_or hf with ⟨hc2, hf⟩ | ⟨hc2, hf⟩
    · exact ax_ret (P := Sum.elim (fun a18 : Int32 × sx_M => sx_eq (xS_X8_open) s a18.2) (fun e : sx_M => sx_eq (xS_X8_open) s e)) hf ha18
    · obtain ⟨_, hf⟩ := ax_ite hf
      exact ax_ret (P := Sum.elim (fun a18 : Int32 × sx_M => sx_eq (xS_X8_open) s a18.2) (fun e : sx_M => sx_eq (xS_X8_open) s e)) hf (sx_wB' (D := (xS_X8_open)) ha18 ((fun q => q) rfl))
  obtain ⟨b2, hb2, hf⟩ := ax_bind hf
  have hvb2 := wh_inv ((0 : Int32), b1) (fun a39 : Int32 × sx_M => sx_eq (xS_X8_open) s a39.2) (fun e : sx_M => sx_eq (xS_X8_open) s e) hb2 ?_ hvb1
  rotate_left
  · intro a39 r ha39 hf
    unfold f_X8_open_L39 at hf
    rcases ax_or hf with ⟨hc5, hf⟩ | ⟨hc5, hf⟩
    · exact ax_ret (P := Sum.elim (fun a39 : Int32 × sx_M => sx_eq (xS_X8_open) s a39.2) (fun e : sx_M => sx_eq (xS_X8_open) s e)) hf ha39
    · obtain ⟨_, hf⟩ := ax_ite hf
      obtain ⟨_, hf⟩ := ax_ite hf
      exact ax_ret (P := Sum.elim (fun a39 : Int32 × sx_M => sx_eq (xS_X8_open) s a39.2) (fun e : sx_M => sx_eq (xS_X8_open) s e)) hf (sx_wA' (D := (xS_X8_open)) (sx_wA' (D := (xS_X8_open)) ha39 ((fun q => Or.inl q) rfl)) ((fun q => Or.inr (q)) rfl))
  exact ax_ret (P := fun q : sx_M => sx_eq (xS_X8_open) s q) hf hvb2
abbrev xI_X8_net : Nat → Nat → Prop := fun o k => False
abbrev xJ_X8_net : Nat → Nat → Prop := fun o k => False
abbrev xA_X8_net : Nat → Prop := fun o => False
abbrev xB_X8_net : Nat → Prop := fun o => False
abbrev xS_X8_net : sx_D := (xI_X8_net, xJ_X8_net, xA_X8_net, xB_X8_net)
set_option maxRecDepth 100000 in
set_option maxHeartbeats 1000000 in
theorem fr_f_X8_net (x1 : Int32) (x2 : Int32) (s : sx_M) {p : Int64 × sx_M} (hf : f_X8_net x1 x2 s = some p) : sx_eq (xS_X8_net) s p.2 := by
  unfold f_X8_net at hf
  obtain ⟨p1, hp1, hf⟩ := ax_bind hf
  obtain ⟨_, hf⟩ := ax_ite hf
  exact ax_ret (P := fun q : Int64 × sx_M => sx_eq (xS_X8_net) s q.2) hf (sx_tr (sx_rf _ s) (sx_mono (D1 := xS_X1_at 3) (fr_f_X1_at (p := p1) 3 x1 x2 s ax_G3 hp1) (fun o k h => h.elim) (fun o k h => h.elim) (fun o h => h.elim) (fun o h => h.elim)))
abbrev xI_X8_leastNet : Nat → Nat → Prop := fun o k => False
abbrev xJ_X8_leastNet : Nat → Nat → Prop := fun o k => False
abbrev xA_X8_leastNet : Nat → Prop := fun o => False
abbrev xB_X8_leastNet : Nat → Prop := fun o => False
abbrev xS_X8_leastNet : sx_D := (xI_X8_leastNet, xJ_X8_leastNet, xA_X8_leastNet, xB_X8_leastNet)
set_option maxRecDepth 100000 in
set_option maxHeartbeats 1000000 in
theorem fr_f_X8_leastNet (x1 : Int32) (x2 : Int32) (s : sx_M) {p : Int32 × sx_M} (hf : f_X8_leastNet x1 x2 s = some p) : sx_eq (xS_X8_leastNet) s p.2 := by
  unfold f_X8_leastNet at hf
  obtain ⟨b4, hb4, hf⟩ := ax_bind hf
  have hvb4 := wh_inv ((-1 : Int32), (0 : Int32), s) (fun a5 : Int32 × Int32 × sx_M => sx_eq (xS_X8_leastNet) s a5.2.2) (fun e : Int32 × sx_M => sx_eq (xS_X8_leastNet) s e.2) hb4 ?_ (sx_rf _ s)
  rotate_left
  · intro a5 r ha5 hf
    unfold f_X8_leastNet_L5 at hf
    have J74 : ∀ (y4_74 : Int32) (s_74 : sx_M), sx_eq (xS_X8_leastNet) s s_74 → f_X8_leastNet_L5_J74 x1 x2 y4_74 s_74 = some r → Sum.elim (fun a5 : Int32 × Int32 × sx_M => sx_eq (xS_X8_leastNet) s a5.2.2) (fun e : Int32 × sx_M => sx_eq (xS_X8_leastNet) s e.2) r := by
      intro y4_74 s_74 hs_74 hf
      unfold f_X8_leastNet_L5_J74 at hf
      exact ax_ret (P := Sum.elim (fun a5 : Int32 × Int32 × sx_M => sx_eq (xS_X8_leastNet) s a5.2.2) (fun e : Int32 × sx_M => sx_eq (xS_X8_leastNet) s e.2)) hf hs_74
    have J45 : ∀ (y3_45 : Int32) (y4_45 : Int32) (t0_45 : Int32) (s_45 : sx_M), sx_eq (xS_X8_leastNet) s s_45 → f_X8_leastNet_L5_J45 x1 x2 y3_45 y4_45 t0_45 s_45 = some r → Sum.elim (fun a5 : Int32 × Int32 × sx_M => sx_eq (xS_X8_leastNet) s a5.2.2) (fun e : Int32 × sx_M => sx_eq (xS_X8_leastNet) s e.2) r := by
      intro y3_45 y4_45 t0_45 s_45 hs_45 hf
      unfold f_X8_leastNet_L5_J45 at hf
      rcases ax_or hf with ⟨hc3, hf⟩ | ⟨hc3, hf⟩
      · exact ax_ret (P := Sum.elim (fun a5 : Int32 × Int32 × sx_M => sx_eq (xS_X8_leastNet) s a5.2.2) (fun e : Int32 × sx_M => sx_eq (xS_X8_leastNet) s e.2)) hf hs_45
      · rcases ax_or hf with ⟨hc2, hf⟩ | ⟨hc2, hf⟩
        · exact J74 y4_45 s_45 hs_45 hf
        · obtain ⟨p1, hp1, hf⟩ := ax_bind hf
          obtain ⟨p2, hp2, hf⟩ := ax_bind hf
          rcases ax_or hf with ⟨hc1, hf⟩ | ⟨hc1, hf⟩
          · exact ax_ret (P := Sum.elim (fun a5 : Int32 × Int32 × sx_M => sx_eq (xS_X8_leastNet) s a5.2.2) (fun e : Int32 × sx_M => sx_eq (xS_X8_leastNet) s e.2)) hf (sx_tr (sx_tr hs_45 (sx_mono (D1 := xS_X8_net) (fr_f_X8_net (p := p1) x1 y4_45 s_45 hp1) (fun o k h => h.elim) (fun o k h => h.elim) (fun o h => h.elim) (fun o h => h.elim))) (sx_mono (D1 := xS_X8_net) (fr_f_X8_net (p := p2) x1 y3_45 p1.2 hp2) (fun o k h => h.elim) (fun o k h => h.elim) (fun o h => h.elim) (fun o h => h.elim)))
          · exact J74 y4_45 p2.2 (sx_tr (sx_tr hs_45 (sx_mono (D1 := xS_X8_net) (fr_f_X8_net (p := p1) x1 y4_45 s_45 hp1) (fun o k h => h.elim) (fun o k h => h.elim) (fun o h => h.elim) (fun o h => h.elim))) (sx_mono (D1 := xS_X8_net) (fr_f_X8_net (p := p2) x1 y3_45 p1.2 hp2) (fun o k h => h.elim) (fun o k h => h.elim) (fun o h => h.elim) (fun o h => h.elim))) hf
    rcases ax_or hf with ⟨hc6, hf⟩ | ⟨hc6, hf⟩
    · exact ax_ret (P := Sum.elim (fun a5 : Int32 × Int32 × sx_M => sx_eq (xS_X8_leastNet) s a5.2.2) (fun e : Int32 × sx_M => sx_eq (xS_X8_leastNet) s e.2)) hf ha5
    · rcases ax_or hf with ⟨hc5, hf⟩ | ⟨hc5, hf⟩
      · exact J45 a5.1 a5.2.1 (0 : Int32) a5.2.2 ha5 hf
      · obtain ⟨p3, hp3, hf⟩ := ax_bind hf
        rcases ax_or hf with ⟨hc4, hf⟩ | ⟨hc4, hf⟩
        · exact J45 a5.1 a5.2.1 (0 : Int32) p3.2 (sx_tr ha5 (sx_mono (D1 := xS_X1_at 3) (fr_f_X1_at (p := p3) 3 x1 a5.2.1 a5.2.2 ax_G3 hp3) (fun o k h => h.elim) (fun o k h => h.elim) (fun o h => h.elim) (fun o h => h.elim))) hf
        · exact J45 a5.1 a5.2.1 (1 : Int32) p3.2 (sx_tr ha5 (sx_mono (D1 := xS_X1_at 3) (fr_f_X1_at (p := p3) 3 x1 a5.2.1 a5.2.2 ax_G3 hp3) (fun o k h => h.elim) (fun o k h => h.elim) (fun o h => h.elim) (fun o h => h.elim))) hf
  exact ax_ret (P := fun q : Int32 × sx_M => sx_eq (xS_X8_leastNet) s q.2) hf hvb4
abbrev xI_X8_leaveQueue : Nat → Nat → Prop := fun o k => (o = 49 ∧ k = 4)
abbrev xJ_X8_leaveQueue : Nat → Nat → Prop := fun o k => False
abbrev xA_X8_leaveQueue : Nat → Prop := fun o => o = 52
abbrev xB_X8_leaveQueue : Nat → Prop := fun o => False
abbrev xS_X8_leaveQueue : sx_D := (xI_X8_leaveQueue, xJ_X8_leaveQueue, xA_X8_leaveQueue, xB_X8_leaveQueue)
set_option maxRecDepth 100000 in
set_option maxHeartbeats 1000000 in
theorem fr_f_X8_leaveQueue (s : sx_M) {p : sx_M} (hf : f_X8_leaveQueue s = some p) : sx_eq (xS_X8_leaveQueue) s p := by
  unfold f_X8_leaveQueue at hf
  obtain ⟨b1, hb1, hf⟩ := ax_bind hf
  have hvb1 := wh_inv ((1 : Int32), s) (fun a2 : Int32 × sx_M => sx_eq (xS_X8_leaveQueue) s a2.2) (fun e : sx_M => sx_eq (xS_X8_leaveQueue) s e) hb1 ?_ (sx_rf _ s)
  rotate_left
  · intro a2 r ha2 hf
    unfold f_X8_leaveQueue_L2 at hf
    rcases ax_or hf with ⟨hc3, hf⟩ | ⟨hc3, hf⟩
    · exact ax_ret (P := Sum.elim (fun a2 : Int32 × sx_M => sx_eq (xS_X8_leaveQueue) s a2.2) (fun e : sx_M => sx_eq (xS_X8_leaveQueue) s e)) hf ha2
    · obtain ⟨_, hf⟩ := ax_ite hf
      obtain ⟨_, hf⟩ := ax_ite hf
      exact ax_ret (P := Sum.elim (fun a2 : Int32 × sx_M => sx_eq (xS_X8_leaveQueue) s a2.2) (fun e : sx_M => sx_eq (xS_X8_leaveQueue) s e)) hf (sx_wA' (D := (xS_X8_leaveQueue)) ha2 ((fun q => q) rfl))
  exact ax_ret (P := fun q : sx_M => sx_eq (xS_X8_leaveQueue) s q) hf (sx_wI' (D := (xS_X8_leaveQueue)) hvb1 ((fun q => q) ⟨rfl, rfl⟩))
abbrev xI_X8_ousted : Nat → Nat → Prop := fun o k => (o = 49 ∧ k = 4)
abbrev xJ_X8_ousted : Nat → Nat → Prop := fun o k => False
abbrev xA_X8_ousted : Nat → Prop := fun o => o = 51 ∨ o = 52
abbrev xB_X8_ousted : Nat → Prop := fun o => False
abbrev xS_X8_ousted : sx_D := (xI_X8_ousted, xJ_X8_ousted, xA_X8_ousted, xB_X8_ousted)
set_option maxRecDepth 100000 in
set_option maxHeartbeats 1000000 in
theorem fr_f_X8_ousted (x1 : Int32) (s : sx_M) {p : sx_M} (hf : f_X8_ousted x1 s = some p) : sx_eq (xS_X8_ousted) s p := by
  unfold f_X8_ousted at hf
  obtain ⟨b1, hb1, hf⟩ := ax_bind hf
  have hvb1 := wh_inv ((0 : Int32), s) (fun a2 : Int32 × sx_M => sx_eq (xS_X8_ousted) s a2.2) (fun e : sx_M => sx_eq (xS_X8_ousted) s e) hb1 ?_ (sx_rf _ s)
  rotate_left
  · intro a2 r ha2 hf
    unfold f_X8_ousted_L2 at hf
    rcases ax_or hf with ⟨hc6, hf⟩ | ⟨hc6, hf⟩
    · exact ax_ret (P := Sum.elim (fun a2 : Int32 × sx_M => sx_eq (xS_X8_ousted) s a2.2) (fun e : sx_M => sx_eq (xS_X8_ousted) s e)) hf ha2
    · obtain ⟨_, hf⟩ := ax_ite hf
      rcases ax_or hf with ⟨hc5, hf⟩ | ⟨hc5, hf⟩
      · rcases ax_or hf with ⟨hc4, hf⟩ | ⟨hc4, hf⟩
        · exact ax_ret (P := Sum.elim (fun a2 : Int32 × sx_M => sx_eq (xS_X8_ousted) s a2.2) (fun e : sx_M => sx_eq (xS_X8_ousted) s e)) hf ha2
        · obtain ⟨_, hf⟩ := ax_ite hf
          obtain ⟨_, hf⟩ := ax_ite hf
          exact ax_ret (P := Sum.elim (fun a2 : Int32 × sx_M => sx_eq (xS_X8_ousted) s a2.2) (fun e : sx_M => sx_eq (xS_X8_ousted) s e)) hf (sx_wI' (D := (xS_X8_ousted)) (sx_wA' (D := (xS_X8_ousted)) (sx_wA' (D := (xS_X8_ousted)) ha2 ((fun q => Or.inl q) rfl)) ((fun q => Or.inr (q)) rfl)) ((fun q => q) ⟨rfl, rfl⟩))
      · exact ax_ret (P := Sum.elim (fun a2 : Int32 × sx_M => sx_eq (xS_X8_ousted) s a2.2) (fun e : sx_M => sx_eq (xS_X8_ousted) s e)) hf ha2
  exact ax_ret (P := fun q : sx_M => sx_eq (xS_X8_ousted) s q) hf hvb1
abbrev xI_X8_bid : Nat → Nat → Prop := fun o k => (o = 49 ∧ k = 4)
abbrev xJ_X8_bid : Nat → Nat → Prop := fun o k => False
abbrev xA_X8_bid : Nat → Prop := fun o => o = 51 ∨ o = 52
abbrev xB_X8_bid : Nat → Prop := fun o => o = 50
abbrev xS_X8_bid : sx_D := (xI_X8_bid, xJ_X8_bid, xA_X8_bid, xB_X8_bid)
set_option maxRecDepth 100000 in
set_option maxHeartbeats 1000000 in
theorem fr_f_X8_bid (x1 : Int32) (x2 : Int32) (s : sx_M) {p : Int32 × sx_M} (hf : f_X8_bid x1 x2 s = some p) : sx_eq (xS_X8_bid) s p.2 := by
  unfold f_X8_bid at hf
  have J48 : ∀ (y1_48 : Int32) (y2_48 : Int32) (y3_48 : Int32) (t0_48 : Int64) (s_48 : sx_M), sx_eq (xS_X8_bid) s s_48 → f_X8_bid_J48 y1_48 y2_48 y3_48 t0_48 s_48 = some p → sx_eq (xS_X8_bid) s p.2 := by
    intro y1_48 y2_48 y3_48 t0_48 s_48 hs_48 hf
    unfold f_X8_bid_J48 at hf
    obtain ⟨_, hf⟩ := ax_ite hf
    obtain ⟨_, hf⟩ := ax_ite hf
    obtain ⟨p1, hp1, hf⟩ := ax_bind hf
    obtain ⟨p2, hp2, hf⟩ := ax_bind hf
    obtain ⟨_, hf⟩ := ax_ite hf
    exact ax_ret (P := fun q : Int32 × sx_M => sx_eq (xS_X8_bid) s q.2) hf (sx_wA' (D := (xS_X8_bid)) (sx_tr (sx_tr (sx_wB' (D := (xS_X8_bid)) hs_48 ((fun q => q) rfl)) (sx_mono (D1 := xS_X8_leaveQueue) (fr_f_X8_leaveQueue (p := p1) (wB s_48 50 (y3_48).toNatClampNeg ((rB s_48 50 (y3_48).toNatClampNeg) + (t0_48 + (y2_48).toInt64))) hp1) (fun o k h => (fun q => q) h) (fun o k h => h.elim) (fun o h => (fun q => Or.inr (q)) h) (fun o h => h.elim))) (sx_mono (D1 := xS_X8_ousted) (fr_f_X8_ousted (p := p2) y3_48 p1 hp2) (fun o k h => (fun q => q) h) (fun o k h => h.elim) (fun o h => Or.elim h (fun q => (fun q => Or.inl q) q) (fun q0 => (fun q => Or.inr (q)) q0)) (fun o h => h.elim))) ((fun q => Or.inl q) rfl))
  obtain ⟨p3, hp3, hf⟩ := ax_bind hf
  rcases ax_or hf with ⟨hc5, hf⟩ | ⟨hc5, hf⟩
  · exact ax_ret (P := fun q : Int32 × sx_M => sx_eq (xS_X8_bid) s q.2) hf (sx_tr (sx_rf _ s) (sx_mono (D1 := xS_X8_leastNet) (fr_f_X8_leastNet (p := p3) x1 (-1 : Int32) s hp3) (fun o k h => h.elim) (fun o k h => h.elim) (fun o h => h.elim) (fun o h => h.elim)))
  · obtain ⟨p4, hp4, hf⟩ := ax_bind hf
    rcases ax_or hf with ⟨hc4, hf⟩ | ⟨hc4, hf⟩
    · exact J48 x1 x2 p3.1 (1000 : Int64) p4.2 (sx_tr (sx_tr (sx_rf _ s) (sx_mono (D1 := xS_X8_leastNet) (fr_f_X8_leastNet (p := p3) x1 (-1 : Int32) s hp3) (fun o k h => h.elim) (fun o k h => h.elim) (fun o h => h.elim) (fun o h => h.elim))) (sx_mono (D1 := xS_X8_leastNet) (fr_f_X8_leastNet (p := p4) x1 p3.1 p3.2 hp4) (fun o k h => h.elim) (fun o k h => h.elim) (fun o h => h.elim) (fun o h => h.elim))) hf
    · obtain ⟨p5, hp5, hf⟩ := ax_bind hf
      obtain ⟨p6, hp6, hf⟩ := ax_bind hf
      exact J48 x1 x2 p3.1 (p5.1 - p6.1) p6.2 (sx_tr (sx_tr (sx_tr (sx_tr (sx_rf _ s) (sx_mono (D1 := xS_X8_leastNet) (fr_f_X8_leastNet (p := p3) x1 (-1 : Int32) s hp3) (fun o k h => h.elim) (fun o k h => h.elim) (fun o h => h.elim) (fun o h => h.elim))) (sx_mono (D1 := xS_X8_leastNet) (fr_f_X8_leastNet (p := p4) x1 p3.1 p3.2 hp4) (fun o k h => h.elim) (fun o k h => h.elim) (fun o h => h.elim) (fun o h => h.elim))) (sx_mono (D1 := xS_X8_net) (fr_f_X8_net (p := p5) x1 p4.1 p4.2 hp5) (fun o k h => h.elim) (fun o k h => h.elim) (fun o h => h.elim) (fun o h => h.elim))) (sx_mono (D1 := xS_X8_net) (fr_f_X8_net (p := p6) x1 p3.1 p5.2 hp6) (fun o k h => h.elim) (fun o k h => h.elim) (fun o h => h.elim) (fun o h => h.elim))) hf
abbrev xI_X8_hold : Nat → Nat → Prop := fun o k => (o = 49 ∧ k = 4) ∨ (o = 49 ∧ k = 5)
abbrev xJ_X8_hold : Nat → Nat → Prop := fun o k => False
abbrev xA_X8_hold : Nat → Prop := fun o => o = 51 ∨ o = 52
abbrev xB_X8_hold : Nat → Prop := fun o => o = 50
abbrev xS_X8_hold : sx_D := (xI_X8_hold, xJ_X8_hold, xA_X8_hold, xB_X8_hold)
set_option maxRecDepth 100000 in
set_option maxHeartbeats 1000000 in
theorem fr_f_X8_hold (x1 : Int32) (s : sx_M) {p : sx_M} (hf : f_X8_hold x1 s = some p) : sx_eq (xS_X8_hold) s p := by
  unfold f_X8_hold at hf
  obtain ⟨p1, hp1, hf⟩ := ax_bind hf
  obtain ⟨b3, hb3, hf⟩ := ax_bind hf
  have hvb3 := wh_inv p1 (fun a4 : sx_M => sx_eq (xS_X8_hold) s a4) (fun e : sx_M => sx_eq (xS_X8_hold) s e) hb3 ?_ (sx_tr (sx_rf _ s) (sx_mono (D1 := xS_X8_open) (fr_f_X8_open (p := p1) s hp1) (fun o k h => Or.elim h (fun q => (fun q => Or.inl q) q) (fun q0 => (fun q => Or.inr (q)) q0)) (fun o k h => h.elim) (fun o h => Or.elim h (fun q => (fun q => Or.inl q) q) (fun q0 => (fun q => Or.inr (q)) q0)) (fun o h => (fun q => q) h)))
  rotate_left
  · intro a4 r ha4 hf
    unfold f_X8_hold_L4 at hf
    rcases ax_or hf with ⟨hc3, hf⟩ | ⟨hc3, hf⟩
    · exact ax_ret (P := Sum.elim (fun a4 : sx_M => sx_eq (xS_X8_hold) s a4) (fun e : sx_M => sx_eq (xS_X8_hold) s e)) hf ha4
    · rcases ax_or hf with ⟨hc2, hf⟩ | ⟨hc2, hf⟩
      · exact ax_ret (P := Sum.elim (fun a4 : sx_M => sx_eq (xS_X8_hold) s a4) (fun e : sx_M => sx_eq (xS_X8_hold) s e)) hf ha4
      · obtain ⟨p2, hp2, hf⟩ := ax_bind hf
        rcases ax_or hf with ⟨hc1, hf⟩ | ⟨hc1, hf⟩
        · exact ax_ret (P := Sum.elim (fun a4 : sx_M => sx_eq (xS_X8_hold) s a4) (fun e : sx_M => sx_eq (xS_X8_hold) s e)) hf (sx_tr ha4 (sx_mono (D1 := xS_X8_bid) (fr_f_X8_bid (p := p2) (rA a4 52 ((0 : Int32)).toNatClampNeg) x1 a4 hp2) (fun o k h => (fun q => Or.inl q) h) (fun o k h => h.elim) (fun o h => Or.elim h (fun q => (fun q => Or.inl q) q) (fun q0 => (fun q => Or.inr (q)) q0)) (fun o h => (fun q => q) h)))
        · exact ax_ret (P := Sum.elim (fun a4 : sx_M => sx_eq (xS_X8_hold) s a4) (fun e : sx_M => sx_eq (xS_X8_hold) s e)) hf (sx_wI' (D := (xS_X8_hold)) (sx_tr ha4 (sx_mono (D1 := xS_X8_bid) (fr_f_X8_bid (p := p2) (rA a4 52 ((0 : Int32)).toNatClampNeg) x1 a4 hp2) (fun o k h => (fun q => Or.inl q) h) (fun o k h => h.elim) (fun o h => Or.elim h (fun q => (fun q => Or.inl q) q) (fun q0 => (fun q => Or.inr (q)) q0)) (fun o h => (fun q => q) h))) ((fun q => Or.inr (q)) ⟨rfl, rfl⟩))
  exact ax_ret (P := fun q : sx_M => sx_eq (xS_X8_hold) s q) hf hvb3
abbrev xI_X8_total : Nat → Nat → Prop := fun o k => False
abbrev xJ_X8_total : Nat → Nat → Prop := fun o k => False
abbrev xA_X8_total : Nat → Prop := fun o => False
abbrev xB_X8_total : Nat → Prop := fun o => False
abbrev xS_X8_total : sx_D := (xI_X8_total, xJ_X8_total, xA_X8_total, xB_X8_total)
set_option maxRecDepth 100000 in
set_option maxHeartbeats 1000000 in
theorem fr_f_X8_total (s : sx_M) {p : Int64 × sx_M} (hf : f_X8_total s = some p) : sx_eq (xS_X8_total) s p.2 := by
  unfold f_X8_total at hf
  obtain ⟨b2, hb2, hf⟩ := ax_bind hf
  have hvb2 := wh_inv ((0 : Int64), (0 : Int32), s) (fun a4 : Int64 × Int32 × sx_M => sx_eq (xS_X8_total) s a4.2.2) (fun e : Int64 × sx_M => sx_eq (xS_X8_total) s e.2) hb2 ?_ (sx_rf _ s)
  rotate_left
  · intro a4 r ha4 hf
    unfold f_X8_total_L4 at hf
    rcases ax_or hf with ⟨hc4, hf⟩ | ⟨hc4, hf⟩
    · exact ax_ret (P := Sum.elim (fun a4 : Int64 × Int32 × sx_M => sx_eq (xS_X8_total) s a4.2.2) (fun e : Int64 × sx_M => sx_eq (xS_X8_total) s e.2)) hf ha4
    · obtain ⟨_, hf⟩ := ax_ite hf
      rcases ax_or hf with ⟨hc3, hf⟩ | ⟨hc3, hf⟩
      · exact ax_ret (P := Sum.elim (fun a4 : Int64 × Int32 × sx_M => sx_eq (xS_X8_total) s a4.2.2) (fun e : Int64 × sx_M => sx_eq (xS_X8_total) s e.2)) hf ha4
      · obtain ⟨_, hf⟩ := ax_ite hf
        obtain ⟨p1, hp1, hf⟩ := ax_bind hf
        exact ax_ret (P := Sum.elim (fun a4 : Int64 × Int32 × sx_M => sx_eq (xS_X8_total) s a4.2.2) (fun e : Int64 × sx_M => sx_eq (xS_X8_total) s e.2)) hf (sx_tr ha4 (sx_mono (D1 := xS_X1_at 3) (fr_f_X1_at (p := p1) 3 a4.2.1 (rA a4.2.2 51 (a4.2.1).toNatClampNeg) a4.2.2 ax_G3 hp1) (fun o k h => h.elim) (fun o k h => h.elim) (fun o h => h.elim) (fun o h => h.elim)))
  exact ax_ret (P := fun q : Int64 × sx_M => sx_eq (xS_X8_total) s q.2) hf hvb2
abbrev xI_X11_feed : Nat → Nat → Prop := fun o k => (o = 1 ∧ k = 1)
abbrev xJ_X11_feed : Nat → Nat → Prop := fun o k => False
abbrev xA_X11_feed : Nat → Prop := fun o => o = 2
abbrev xB_X11_feed : Nat → Prop := fun o => False
abbrev xS_X11_feed : sx_D := (xI_X11_feed, xJ_X11_feed, xA_X11_feed, xB_X11_feed)
set_option maxRecDepth 100000 in
set_option maxHeartbeats 1000000 in
theorem fr_f_X11_feed (x1 : Int32) (x2 : Int32) (x3 : Int32) (x4 : Int32) (x5 : Int32) (s : sx_M) {p : Int32 × sx_M} (hf : f_X11_feed x1 x2 x3 x4 x5 s = some p) : sx_eq (xS_X11_feed) s p.2 := by
  unfold f_X11_feed at hf
  obtain ⟨p1, hp1, hf⟩ := ax_bind hf
  rcases ax_or hf with ⟨hc1, hf⟩ | ⟨hc1, hf⟩
  · exact ax_ret (P := fun q : Int32 × sx_M => sx_eq (xS_X11_feed) s q.2) hf (sx_tr (sx_rf _ s) (sx_mono (D1 := xS_X9_hasRoom) (fr_f_X9_hasRoom (p := p1) (20 : Int32) s hp1) (fun o k h => h.elim) (fun o k h => h.elim) (fun o h => h.elim) (fun o h => h.elim)))
  · obtain ⟨p2, hp2, hf⟩ := ax_bind hf
    obtain ⟨p3, hp3, hf⟩ := ax_bind hf
    obtain ⟨p4, hp4, hf⟩ := ax_bind hf
    obtain ⟨p5, hp5, hf⟩ := ax_bind hf
    obtain ⟨p6, hp6, hf⟩ := ax_bind hf
    exact ax_ret (P := fun q : Int32 × sx_M => sx_eq (xS_X11_feed) s q.2) hf (sx_tr (sx_tr (sx_tr (sx_tr (sx_tr (sx_tr (sx_rf _ s) (sx_mono (D1 := xS_X9_hasRoom) (fr_f_X9_hasRoom (p := p1) (20 : Int32) s hp1) (fun o k h => h.elim) (fun o k h => h.elim) (fun o h => h.elim) (fun o h => h.elim))) (sx_mono (D1 := xS_X9_addNumber) (fr_f_X9_addNumber (p := p2) x1 p1.2 hp2) (fun o k h => (fun q => q) h) (fun o k h => h.elim) (fun o h => (fun q => q) h) (fun o h => h.elim))) (sx_mono (D1 := xS_X9_addNumber) (fr_f_X9_addNumber (p := p3) x2 p2 hp3) (fun o k h => (fun q => q) h) (fun o k h => h.elim) (fun o h => (fun q => q) h) (fun o h => h.elim))) (sx_mono (D1 := xS_X9_addNumber) (fr_f_X9_addNumber (p := p4) x3 p3 hp4) (fun o k h => (fun q => q) h) (fun o k h => h.elim) (fun o h => (fun q => q) h) (fun o h => h.elim))) (sx_mono (D1 := xS_X9_addNumber) (fr_f_X9_addNumber (p := p5) x4 p4 hp5) (fun o k h => (fun q => q) h) (fun o k h => h.elim) (fun o h => (fun q => q) h) (fun o h => h.elim))) (sx_mono (D1 := xS_X9_addNumber) (fr_f_X9_addNumber (p := p6) x5 p5 hp6) (fun o k h => (fun q => q) h) (fun o k h => h.elim) (fun o h => (fun q => q) h) (fun o h => h.elim)))
abbrev xI_X11_end : Nat → Nat → Prop := fun o k => (o = 1 ∧ k = 1)
abbrev xJ_X11_end : Nat → Nat → Prop := fun o k => False
abbrev xA_X11_end : Nat → Prop := fun o => False
abbrev xB_X11_end : Nat → Prop := fun o => False
abbrev xS_X11_end : sx_D := (xI_X11_end, xJ_X11_end, xA_X11_end, xB_X11_end)
set_option maxRecDepth 100000 in
set_option maxHeartbeats 1000000 in
theorem fr_f_X11_end (x1 : Int32) (s : sx_M) {p : Int32 × sx_M} (hf : f_X11_end x1 s = some p) : sx_eq (xS_X11_end) s p.2 := by
  unfold f_X11_end at hf
  obtain ⟨p1, hp1, hf⟩ := ax_bind hf
  rcases ax_or hf with ⟨hc1, hf⟩ | ⟨hc1, hf⟩
  · exact ax_ret (P := fun q : Int32 × sx_M => sx_eq (xS_X11_end) s q.2) hf (sx_tr (sx_rf _ s) (sx_mono (D1 := xS_X9_cut) (fr_f_X9_cut (p := p1) x1 s hp1) (fun o k h => (fun q => q) h) (fun o k h => h.elim) (fun o h => h.elim) (fun o h => h.elim)))
  · exact ax_ret (P := fun q : Int32 × sx_M => sx_eq (xS_X11_end) s q.2) hf (sx_tr (sx_rf _ s) (sx_mono (D1 := xS_X9_cut) (fr_f_X9_cut (p := p1) x1 s hp1) (fun o k h => (fun q => q) h) (fun o k h => h.elim) (fun o h => h.elim) (fun o h => h.elim)))
abbrev xI_X11_changed : Nat → Nat → Prop := fun o k => (o = 9 ∧ k = 4)
abbrev xJ_X11_changed : Nat → Nat → Prop := fun o k => False
abbrev xA_X11_changed : Nat → Prop := fun o => o = (3 + 3)
abbrev xB_X11_changed : Nat → Prop := fun o => o = (3 + 4) ∨ o = (3 + 5)
abbrev xS_X11_changed : sx_D := (xI_X11_changed, xJ_X11_changed, xA_X11_changed, xB_X11_changed)
set_option maxRecDepth 100000 in
set_option maxHeartbeats 1000000 in
theorem fr_f_X11_changed (s : sx_M) {p : sx_M} (hf : f_X11_changed s = some p) : sx_eq (xS_X11_changed) s p := by
  unfold f_X11_changed at hf
  obtain ⟨p1, hp1, hf⟩ := ax_bind hf
  obtain ⟨p2, hp2, hf⟩ := ax_bind hf
  exact ax_ret (P := fun q : sx_M => sx_eq (xS_X11_changed) s q) hf (sx_tr (sx_tr (sx_rf _ s) (sx_mono (D1 := xS_X5_refresh 3) (fr_f_X5_refresh (p := p1) 3 s ax_RK3 hp1) (fun o k h => h.elim) (fun o k h => h.elim) (fun o h => (fun q => q) h) (fun o h => Or.elim h (fun q => (fun q => Or.inl q) q) (fun q0 => (fun q => Or.inr (q)) q0)))) (sx_mono (D1 := xS_X4_forget) (fr_f_X4_forget (p := p2) p1 hp2) (fun o k h => (fun q => q) h) (fun o k h => h.elim) (fun o h => h.elim) (fun o h => h.elim)))
abbrev xI_X11_table : Nat → Nat → Prop := fun o k => (o = 1 ∧ k = 1) ∨ (o = 13 ∧ k = 1) ∨ (o = 13 ∧ k = 2) ∨ (o = 19 ∧ k = 2) ∨ (o = 19 ∧ k = 3) ∨ (o = 19 ∧ k = 4) ∨ (o = 19 ∧ k = 5) ∨ (o = 19 ∧ k = 6) ∨ (o = 19 ∧ k = 7) ∨ (o = 20 ∧ k = 2) ∨ (o = 3 ∧ k = 1) ∨ (o = 3 ∧ k = 2) ∨ (o = 9 ∧ k = 4)
abbrev xJ_X11_table : Nat → Nat → Prop := fun o k => False
abbrev xA_X11_table : Nat → Prop := fun o => o = (3 + 3)
abbrev xB_X11_table : Nat → Prop := fun o => o = (13 + 1) ∨ o = (3 + 1) ∨ o = (3 + 4) ∨ o = (3 + 5)
abbrev xS_X11_table : sx_D := (xI_X11_table, xJ_X11_table, xA_X11_table, xB_X11_table)
set_option maxRecDepth 100000 in
set_option maxHeartbeats 1000000 in
theorem fr_f_X11_table (s : sx_M) {p : Int32 × sx_M} (hf : f_X11_table s = some p) : sx_eq (xS_X11_table) s p.2 := by
  unfold f_X11_table at hf
  obtain ⟨p1, hp1, hf⟩ := ax_bind hf
  obtain ⟨p2, hp2, hf⟩ := ax_bind hf
  rcases ax_or hf with ⟨hc1, hf⟩ | ⟨hc1, hf⟩
  · exact ax_ret (P := fun q : Int32 × sx_M => sx_eq (xS_X11_table) s q.2) hf (sx_tr (sx_tr (sx_rf _ s) (sx_mono (D1 := xS_X6_read) (fr_f_X6_read (p := p1) s hp1) (fun o k h => Or.elim h (fun q => (fun q => Or.inr (Or.inl q)) q) (fun q0 => Or.elim q0 (fun q => (fun q => Or.inr (Or.inr (Or.inl q))) q) (fun q1 => Or.elim q1 (fun q => (fun q => Or.inr (Or.inr (Or.inr (Or.inl q)))) q) (fun q2 => Or.elim q2 (fun q => (fun q => Or.inr (Or.inr (Or.inr (Or.inr (Or.inl q))))) q) (fun q3 => Or.elim q3 (fun q => (fun q => Or.inr (Or.inr (Or.inr (Or.inr (Or.inr (Or.inl q)))))) q) (fun q4 => Or.elim q4 (fun q => (fun q => Or.inr (Or.inr (Or.inr (Or.inr (Or.inr (Or.inr (Or.inl q))))))) q) (fun q5 => Or.elim q5 (fun q => (fun q => Or.inr (Or.inr (Or.inr (Or.inr (Or.inr (Or.inr (Or.inr (Or.inl q)))))))) q) (fun q6 => (fun q => Or.inr (Or.inr (Or.inr (Or.inr (Or.inr (Or.inr (Or.inr (Or.inr (Or.inl q))))))))) q6)))))))) (fun o k h => h.elim) (fun o h => h.elim) (fun o h => (fun q => Or.inl q) h))) (sx_mono (D1 := xS_X9_cut) (fr_f_X9_cut (p := p2) (0 : Int32) p1.2 hp2) (fun o k h => (fun q => Or.inl q) h) (fun o k h => h.elim) (fun o h => h.elim) (fun o h => h.elim)))
  · obtain ⟨p3, hp3, hf⟩ := ax_bind hf
    obtain ⟨p4, hp4, hf⟩ := ax_bind hf
    obtain ⟨p5, hp5, hf⟩ := ax_bind hf
    exact ax_ret (P := fun q : Int32 × sx_M => sx_eq (xS_X11_table) s q.2) hf (sx_tr (sx_tr (sx_tr (sx_tr (sx_tr (sx_rf _ s) (sx_mono (D1 := xS_X6_read) (fr_f_X6_read (p := p1) s hp1) (fun o k h => Or.elim h (fun q => (fun q => Or.inr (Or.inl q)) q) (fun q0 => Or.elim q0 (fun q => (fun q => Or.inr (Or.inr (Or.inl q))) q) (fun q1 => Or.elim q1 (fun q => (fun q => Or.inr (Or.inr (Or.inr (Or.inl q)))) q) (fun q2 => Or.elim q2 (fun q => (fun q => Or.inr (Or.inr (Or.inr (Or.inr (Or.inl q))))) q) (fun q3 => Or.elim q3 (fun q => (fun q => Or.inr (Or.inr (Or.inr (Or.inr (Or.inr (Or.inl q)))))) q) (fun q4 => Or.elim q4 (fun q => (fun q => Or.inr (Or.inr (Or.inr (Or.inr (Or.inr (Or.inr (Or.inl q))))))) q) (fun q5 => Or.elim q5 (fun q => (fun q => Or.inr (Or.inr (Or.inr (Or.inr (Or.inr (Or.inr (Or.inr (Or.inl q)))))))) q) (fun q6 => (fun q => Or.inr (Or.inr (Or.inr (Or.inr (Or.inr (Or.inr (Or.inr (Or.inr (Or.inl q))))))))) q6)))))))) (fun o k h => h.elim) (fun o h => h.elim) (fun o h => (fun q => Or.inl q) h))) (sx_mono (D1 := xS_X9_cut) (fr_f_X9_cut (p := p2) (0 : Int32) p1.2 hp2) (fun o k h => (fun q => Or.inl q) h) (fun o k h => h.elim) (fun o h => h.elim) (fun o h => h.elim))) (sx_mono (D1 := xS_X1_copy 3 13) (fr_f_X1_copy (p := p3) 3 13 p2.2 ax_G3 ax_G13 hp3) (fun o k h => Or.elim h (fun q => (fun q => Or.inr (Or.inr (Or.inr (Or.inr (Or.inr (Or.inr (Or.inr (Or.inr (Or.inr (Or.inr (Or.inl q))))))))))) q) (fun q0 => (fun q => Or.inr (Or.inr (Or.inr (Or.inr (Or.inr (Or.inr (Or.inr (Or.inr (Or.inr (Or.inr (Or.inr (Or.inl q)))))))))))) q0)) (fun o k h => h.elim) (fun o h => h.elim) (fun o h => (fun q => Or.inr (Or.inl q)) h))) (sx_mono (D1 := xS_X2_clear) (fr_f_X2_clear (p := p4) p3 hp4) (fun o k h => (fun q => Or.inr (Or.inr (Or.inr (Or.inr (Or.inr (Or.inr (Or.inr (Or.inr (Or.inr (Or.inl q)))))))))) h) (fun o k h => h.elim) (fun o h => h.elim) (fun o h => h.elim))) (sx_mono (D1 := xS_X11_changed) (fr_f_X11_changed (p := p5) p4 hp5) (fun o k h => (fun q => Or.inr (Or.inr (Or.inr (Or.inr (Or.inr (Or.inr (Or.inr (Or.inr (Or.inr (Or.inr (Or.inr (Or.inr (q))))))))))))) h) (fun o k h => h.elim) (fun o h => (fun q => q) h) (fun o h => Or.elim h (fun q => (fun q => Or.inr (Or.inr (Or.inl q))) q) (fun q0 => (fun q => Or.inr (Or.inr (Or.inr (q)))) q0))))
abbrev xI_X11_fault : Nat → Nat → Prop := fun o k => False
abbrev xJ_X11_fault : Nat → Nat → Prop := fun o k => False
abbrev xA_X11_fault : Nat → Prop := fun o => False
abbrev xB_X11_fault : Nat → Prop := fun o => False
abbrev xS_X11_fault : sx_D := (xI_X11_fault, xJ_X11_fault, xA_X11_fault, xB_X11_fault)
set_option maxRecDepth 100000 in
set_option maxHeartbeats 1000000 in
theorem fr_f_X11_fault (x1 : Int32) (s : sx_M) {p : Int32 × sx_M} (hf : f_X11_fault x1 s = some p) : sx_eq (xS_X11_fault) s p.2 := by
  unfold f_X11_fault at hf
  rcases ax_or hf with ⟨hc2, hf⟩ | ⟨hc2, hf⟩
  · exact ax_ret (P := fun q : Int32 × sx_M => sx_eq (xS_X11_fault) s q.2) hf (sx_rf _ s)
  · rcases ax_or hf with ⟨hc1, hf⟩ | ⟨hc1, hf⟩
    · exact ax_ret (P := fun q : Int32 × sx_M => sx_eq (xS_X11_fault) s q.2) hf (sx_rf _ s)
    · exact ax_ret (P := fun q : Int32 × sx_M => sx_eq (xS_X11_fault) s q.2) hf (sx_rf _ s)
abbrev xI_X11_count : Nat → Nat → Prop := fun o k => False
abbrev xJ_X11_count : Nat → Nat → Prop := fun o k => False
abbrev xA_X11_count : Nat → Prop := fun o => False
abbrev xB_X11_count : Nat → Prop := fun o => False
abbrev xS_X11_count : sx_D := (xI_X11_count, xJ_X11_count, xA_X11_count, xB_X11_count)
set_option maxRecDepth 100000 in
set_option maxHeartbeats 1000000 in
theorem fr_f_X11_count (x1 : Int32) (s : sx_M) {p : Int32 × sx_M} (hf : f_X11_count x1 s = some p) : sx_eq (xS_X11_count) s p.2 := by
  unfold f_X11_count at hf
  rcases ax_or hf with ⟨hc1, hf⟩ | ⟨hc1, hf⟩
  · exact ax_ret (P := fun q : Int32 × sx_M => sx_eq (xS_X11_count) s q.2) hf (sx_rf _ s)
  rcases ax_or hf with ⟨hc2, hf⟩ | ⟨hc2, hf⟩
  · exact ax_ret (P := fun q : Int32 × sx_M => sx_eq (xS_X11_count) s q.2) hf (sx_rf _ s)
  rcases ax_or hf with ⟨hc3, hf⟩ | ⟨hc3, hf⟩
  · obtain ⟨p1, hp1, hf⟩ := ax_bind hf
    exact ax_ret (P := fun q : Int32 × sx_M => sx_eq (xS_X11_count) s q.2) hf (sx_tr (sx_rf _ s) (sx_mono (D1 := xS_X1_barred 3) (fr_f_X1_barred (p := p1) 3 s ax_G3 hp1) (fun o k h => h.elim) (fun o k h => h.elim) (fun o h => h.elim) (fun o h => h.elim)))
  rcases ax_or hf with ⟨hc4, hf⟩ | ⟨hc4, hf⟩
  · obtain ⟨p2, hp2, hf⟩ := ax_bind hf
    exact ax_ret (P := fun q : Int32 × sx_M => sx_eq (xS_X11_count) s q.2) hf (sx_tr (sx_rf _ s) (sx_mono (D1 := xS_X5_all 3) (fr_f_X5_all (p := p2) 3 s ax_RK3 hp2) (fun o k h => h.elim) (fun o k h => h.elim) (fun o h => h.elim) (fun o h => h.elim)))
  rcases ax_or hf with ⟨hc5, hf⟩ | ⟨hc5, hf⟩
  · exact ax_ret (P := fun q : Int32 × sx_M => sx_eq (xS_X11_count) s q.2) hf (sx_rf _ s)
  rcases ax_or hf with ⟨hc6, hf⟩ | ⟨hc6, hf⟩
  · exact ax_ret (P := fun q : Int32 × sx_M => sx_eq (xS_X11_count) s q.2) hf (sx_rf _ s)
  exact ax_ret (P := fun q : Int32 × sx_M => sx_eq (xS_X11_count) s q.2) hf (sx_rf _ s)
abbrev xI_X11_cost : Nat → Nat → Prop := fun o k => False
abbrev xJ_X11_cost : Nat → Nat → Prop := fun o k => False
abbrev xA_X11_cost : Nat → Prop := fun o => False
abbrev xB_X11_cost : Nat → Prop := fun o => False
abbrev xS_X11_cost : sx_D := (xI_X11_cost, xJ_X11_cost, xA_X11_cost, xB_X11_cost)
set_option maxRecDepth 100000 in
set_option maxHeartbeats 1000000 in
theorem fr_f_X11_cost (x1 : Int32) (x2 : Int32) (s : sx_M) {p : Int64 × sx_M} (hf : f_X11_cost x1 x2 s = some p) : sx_eq (xS_X11_cost) s p.2 := by
  unfold f_X11_cost at hf
  obtain ⟨p1, hp1, hf⟩ := ax_bind hf
  rcases ax_or hf with ⟨hc1, hf⟩ | ⟨hc1, hf⟩
  · exact ax_ret (P := fun q : Int64 × sx_M => sx_eq (xS_X11_cost) s q.2) hf (sx_tr (sx_rf _ s) (sx_mono (D1 := xS_X1_has 3) (fr_f_X1_has (p := p1) 3 x1 x2 s ax_G3 hp1) (fun o k h => h.elim) (fun o k h => h.elim) (fun o h => h.elim) (fun o h => h.elim)))
  · obtain ⟨p2, hp2, hf⟩ := ax_bind hf
    exact ax_ret (P := fun q : Int64 × sx_M => sx_eq (xS_X11_cost) s q.2) hf (sx_tr (sx_tr (sx_rf _ s) (sx_mono (D1 := xS_X1_has 3) (fr_f_X1_has (p := p1) 3 x1 x2 s ax_G3 hp1) (fun o k h => h.elim) (fun o k h => h.elim) (fun o h => h.elim) (fun o h => h.elim))) (sx_mono (D1 := xS_X1_at 3) (fr_f_X1_at (p := p2) 3 x1 x2 p1.2 ax_G3 hp2) (fun o k h => h.elim) (fun o k h => h.elim) (fun o h => h.elim) (fun o h => h.elim)))
abbrev xI_X11_sum : Nat → Nat → Prop := fun o k => (o = 9 ∧ k = 10) ∨ (o = 9 ∧ k = 11) ∨ (o = 9 ∧ k = 12) ∨ (o = 9 ∧ k = 4) ∨ (o = 9 ∧ k = 5) ∨ (o = 9 ∧ k = 7) ∨ (o = 9 ∧ k = 9)
abbrev xJ_X11_sum : Nat → Nat → Prop := fun o k => (o = 9 ∧ k = 6)
abbrev xA_X11_sum : Nat → Prop := fun o => o = 10 ∨ o = 12
abbrev xB_X11_sum : Nat → Prop := fun o => o = 11
abbrev xS_X11_sum : sx_D := (xI_X11_sum, xJ_X11_sum, xA_X11_sum, xB_X11_sum)
set_option maxRecDepth 100000 in
set_option maxHeartbeats 1000000 in
theorem fr_f_X11_sum (x1 : Int32) (s : sx_M) {p : Int64 × sx_M} (hf : f_X11_sum x1 s = some p) : sx_eq (xS_X11_sum) s p.2 := by
  unfold f_X11_sum at hf
  obtain ⟨p1, hp1, hf⟩ := ax_bind hf
  rcases ax_or hf with ⟨hc1, hf⟩ | ⟨hc1, hf⟩
  · exact ax_ret (P := fun q : Int64 × sx_M => sx_eq (xS_X11_sum) s q.2) hf (sx_tr (sx_rf _ s) (sx_mono (D1 := xS_X11_isRank) (fr_f_X11_isRank (p := p1) x1 s hp1) (fun o k h => h.elim) (fun o k h => h.elim) (fun o h => h.elim) (fun o h => h.elim)))
  · obtain ⟨p2, hp2, hf⟩ := ax_bind hf
    exact ax_ret (P := fun q : Int64 × sx_M => sx_eq (xS_X11_sum) s q.2) hf (sx_tr (sx_tr (sx_rf _ s) (sx_mono (D1 := xS_X11_isRank) (fr_f_X11_isRank (p := p1) x1 s hp1) (fun o k h => h.elim) (fun o k h => h.elim) (fun o h => h.elim) (fun o h => h.elim))) (sx_mono (D1 := xS_X4_sumOf) (fr_f_X4_sumOf (p := p2) x1 p1.2 hp2) (fun o k h => Or.elim h (fun q => (fun q => Or.inl q) q) (fun q0 => Or.elim q0 (fun q => (fun q => Or.inr (Or.inl q)) q) (fun q1 => Or.elim q1 (fun q => (fun q => Or.inr (Or.inr (Or.inl q))) q) (fun q2 => Or.elim q2 (fun q => (fun q => Or.inr (Or.inr (Or.inr (Or.inl q)))) q) (fun q3 => Or.elim q3 (fun q => (fun q => Or.inr (Or.inr (Or.inr (Or.inr (Or.inl q))))) q) (fun q4 => Or.elim q4 (fun q => (fun q => Or.inr (Or.inr (Or.inr (Or.inr (Or.inr (Or.inl q)))))) q) (fun q5 => (fun q => Or.inr (Or.inr (Or.inr (Or.inr (Or.inr (Or.inr (q))))))) q5))))))) (fun o k h => (fun q => q) h) (fun o h => Or.elim h (fun q => (fun q => Or.inl q) q) (fun q0 => (fun q => Or.inr (q)) q0)) (fun o h => (fun q => q) h)))
abbrev xI_X11_job : Nat → Nat → Prop := fun o k => (o = 9 ∧ k = 10) ∨ (o = 9 ∧ k = 11) ∨ (o = 9 ∧ k = 12) ∨ (o = 9 ∧ k = 4) ∨ (o = 9 ∧ k = 5) ∨ (o = 9 ∧ k = 7) ∨ (o = 9 ∧ k = 9)
abbrev xJ_X11_job : Nat → Nat → Prop := fun o k => (o = 9 ∧ k = 6)
abbrev xA_X11_job : Nat → Prop := fun o => o = 10 ∨ o = 12 ∨ o = 56
abbrev xB_X11_job : Nat → Prop := fun o => o = 11
abbrev xS_X11_job : sx_D := (xI_X11_job, xJ_X11_job, xA_X11_job, xB_X11_job)
set_option maxRecDepth 100000 in
set_option maxHeartbeats 1000000 in
theorem fr_f_X11_job (x1 : Int32) (x2 : Int32) (s : sx_M) {p : Int32 × sx_M} (hf : f_X11_job x1 x2 s = some p) : sx_eq (xS_X11_job) s p.2 := by
  unfold f_X11_job at hf
  obtain ⟨p1, hp1, hf⟩ := ax_bind hf
  rcases ax_or hf with ⟨hc4, hf⟩ | ⟨hc4, hf⟩
  · exact ax_ret (P := fun q : Int32 × sx_M => sx_eq (xS_X11_job) s q.2) hf (sx_tr (sx_rf _ s) (sx_mono (D1 := xS_X11_isRank) (fr_f_X11_isRank (p := p1) x1 s hp1) (fun o k h => h.elim) (fun o k h => h.elim) (fun o h => h.elim) (fun o h => h.elim)))
  · obtain ⟨p2, hp2, hf⟩ := ax_bind hf
    rcases ax_or hf with ⟨hc3, hf⟩ | ⟨hc3, hf⟩
    · exact ax_ret (P := fun q : Int32 × sx_M => sx_eq (xS_X11_job) s q.2) hf (sx_tr (sx_tr (sx_rf _ s) (sx_mono (D1 := xS_X11_isRank) (fr_f_X11_isRank (p := p1) x1 s hp1) (fun o k h => h.elim) (fun o k h => h.elim) (fun o h => h.elim) (fun o h => h.elim))) (sx_mono (D1 := xS_X1_hasWorker 3) (fr_f_X1_hasWorker (p := p2) 3 x2 p1.2 ax_G3 hp2) (fun o k h => h.elim) (fun o k h => h.elim) (fun o h => h.elim) (fun o h => h.elim)))
    · obtain ⟨p3, hp3, hf⟩ := ax_bind hf
      rcases ax_or hf with ⟨hc2, hf⟩ | ⟨hc2, hf⟩
      · exact ax_ret (P := fun q : Int32 × sx_M => sx_eq (xS_X11_job) s q.2) hf (sx_tr (sx_tr (sx_tr (sx_rf _ s) (sx_mono (D1 := xS_X11_isRank) (fr_f_X11_isRank (p := p1) x1 s hp1) (fun o k h => h.elim) (fun o k h => h.elim) (fun o h => h.elim) (fun o h => h.elim))) (sx_mono (D1 := xS_X1_hasWorker 3) (fr_f_X1_hasWorker (p := p2) 3 x2 p1.2 ax_G3 hp2) (fun o k h => h.elim) (fun o k h => h.elim) (fun o h => h.elim) (fun o h => h.elim))) (sx_mono (D1 := xS_X4_lay 56) (fr_f_X4_lay (p := p3) 56 x1 p2.2 sh_56 hp3) (fun o k h => Or.elim h (fun q => (fun q => Or.inl q) q) (fun q0 => Or.elim q0 (fun q => (fun q => Or.inr (Or.inl q)) q) (fun q1 => Or.elim q1 (fun q => (fun q => Or.inr (Or.inr (Or.inl q))) q) (fun q2 => Or.elim q2 (fun q => (fun q => Or.inr (Or.inr (Or.inr (Or.inl q)))) q) (fun q3 => Or.elim q3 (fun q => (fun q => Or.inr (Or.inr (Or.inr (Or.inr (Or.inl q))))) q) (fun q4 => Or.elim q4 (fun q => (fun q => Or.inr (Or.inr (Or.inr (Or.inr (Or.inr (Or.inl q)))))) q) (fun q5 => (fun q => Or.inr (Or.inr (Or.inr (Or.inr (Or.inr (Or.inr (q))))))) q5))))))) (fun o k h => (fun q => q) h) (fun o h => Or.elim h (fun q => (fun q => Or.inl q) q) (fun q0 => Or.elim q0 (fun q => (fun q => Or.inr (Or.inl q)) q) (fun q1 => (fun q => Or.inr (Or.inr (q))) q1))) (fun o h => (fun q => q) h)))
      · obtain ⟨_, hf⟩ := ax_ite hf
        exact ax_ret (P := fun q : Int32 × sx_M => sx_eq (xS_X11_job) s q.2) hf (sx_tr (sx_tr (sx_tr (sx_rf _ s) (sx_mono (D1 := xS_X11_isRank) (fr_f_X11_isRank (p := p1) x1 s hp1) (fun o k h => h.elim) (fun o k h => h.elim) (fun o h => h.elim) (fun o h => h.elim))) (sx_mono (D1 := xS_X1_hasWorker 3) (fr_f_X1_hasWorker (p := p2) 3 x2 p1.2 ax_G3 hp2) (fun o k h => h.elim) (fun o k h => h.elim) (fun o h => h.elim) (fun o h => h.elim))) (sx_mono (D1 := xS_X4_lay 56) (fr_f_X4_lay (p := p3) 56 x1 p2.2 sh_56 hp3) (fun o k h => Or.elim h (fun q => (fun q => Or.inl q) q) (fun q0 => Or.elim q0 (fun q => (fun q => Or.inr (Or.inl q)) q) (fun q1 => Or.elim q1 (fun q => (fun q => Or.inr (Or.inr (Or.inl q))) q) (fun q2 => Or.elim q2 (fun q => (fun q => Or.inr (Or.inr (Or.inr (Or.inl q)))) q) (fun q3 => Or.elim q3 (fun q => (fun q => Or.inr (Or.inr (Or.inr (Or.inr (Or.inl q))))) q) (fun q4 => Or.elim q4 (fun q => (fun q => Or.inr (Or.inr (Or.inr (Or.inr (Or.inr (Or.inl q)))))) q) (fun q5 => (fun q => Or.inr (Or.inr (Or.inr (Or.inr (Or.inr (Or.inr (q))))))) q5))))))) (fun o k h => (fun q => q) h) (fun o h => Or.elim h (fun q => (fun q => Or.inl q) q) (fun q0 => Or.elim q0 (fun q => (fun q => Or.inr (Or.inl q)) q) (fun q1 => (fun q => Or.inr (Or.inr (q))) q1))) (fun o h => (fun q => q) h)))
abbrev xI_X11_ties : Nat → Nat → Prop := fun o k => (o = 9 ∧ k = 10) ∨ (o = 9 ∧ k = 11) ∨ (o = 9 ∧ k = 12) ∨ (o = 9 ∧ k = 4) ∨ (o = 9 ∧ k = 5) ∨ (o = 9 ∧ k = 7) ∨ (o = 9 ∧ k = 9)
abbrev xJ_X11_ties : Nat → Nat → Prop := fun o k => (o = 9 ∧ k = 6)
abbrev xA_X11_ties : Nat → Prop := fun o => o = 10 ∨ o = 12
abbrev xB_X11_ties : Nat → Prop := fun o => o = 11
abbrev xS_X11_ties : sx_D := (xI_X11_ties, xJ_X11_ties, xA_X11_ties, xB_X11_ties)
set_option maxRecDepth 100000 in
set_option maxHeartbeats 1000000 in
theorem fr_f_X11_ties (x1 : Int32) (s : sx_M) {p : Int32 × sx_M} (hf : f_X11_ties x1 s = some p) : sx_eq (xS_X11_ties) s p.2 := by
  unfold f_X11_ties at hf
  obtain ⟨p1, hp1, hf⟩ := ax_bind hf
  rcases ax_or hf with ⟨hc2, hf⟩ | ⟨hc2, hf⟩
  · exact ax_ret (P := fun q : Int32 × sx_M => sx_eq (xS_X11_ties) s q.2) hf (sx_tr (sx_rf _ s) (sx_mono (D1 := xS_X11_isRank) (fr_f_X11_isRank (p := p1) x1 s hp1) (fun o k h => h.elim) (fun o k h => h.elim) (fun o h => h.elim) (fun o h => h.elim)))
  · obtain ⟨p2, hp2, hf⟩ := ax_bind hf
    rcases ax_or hf with ⟨hc1, hf⟩ | ⟨hc1, hf⟩
    · exact ax_ret (P := fun q : Int32 × sx_M => sx_eq (xS_X11_ties) s q.2) hf (sx_tr (sx_tr (sx_rf _ s) (sx_mono (D1 := xS_X11_isRank) (fr_f_X11_isRank (p := p1) x1 s hp1) (fun o k h => h.elim) (fun o k h => h.elim) (fun o h => h.elim) (fun o h => h.elim))) (sx_mono (D1 := xS_X4_sumOf) (fr_f_X4_sumOf (p := p2) x1 p1.2 hp2) (fun o k h => Or.elim h (fun q => (fun q => Or.inl q) q) (fun q0 => Or.elim q0 (fun q => (fun q => Or.inr (Or.inl q)) q) (fun q1 => Or.elim q1 (fun q => (fun q => Or.inr (Or.inr (Or.inl q))) q) (fun q2 => Or.elim q2 (fun q => (fun q => Or.inr (Or.inr (Or.inr (Or.inl q)))) q) (fun q3 => Or.elim q3 (fun q => (fun q => Or.inr (Or.inr (Or.inr (Or.inr (Or.inl q))))) q) (fun q4 => Or.elim q4 (fun q => (fun q => Or.inr (Or.inr (Or.inr (Or.inr (Or.inr (Or.inl q)))))) q) (fun q5 => (fun q => Or.inr (Or.inr (Or.inr (Or.inr (Or.inr (Or.inr (q))))))) q5))))))) (fun o k h => (fun q => q) h) (fun o h => Or.elim h (fun q => (fun q => Or.inl q) q) (fun q0 => (fun q => Or.inr (q)) q0)) (fun o h => (fun q => q) h)))
    · obtain ⟨p3, hp3, hf⟩ := ax_bind hf
      exact ax_ret (P := fun q : Int32 × sx_M => sx_eq (xS_X11_ties) s q.2) hf (sx_tr (sx_tr (sx_tr (sx_rf _ s) (sx_mono (D1 := xS_X11_isRank) (fr_f_X11_isRank (p := p1) x1 s hp1) (fun o k h => h.elim) (fun o k h => h.elim) (fun o h => h.elim) (fun o h => h.elim))) (sx_mono (D1 := xS_X4_sumOf) (fr_f_X4_sumOf (p := p2) x1 p1.2 hp2) (fun o k h => Or.elim h (fun q => (fun q => Or.inl q) q) (fun q0 => Or.elim q0 (fun q => (fun q => Or.inr (Or.inl q)) q) (fun q1 => Or.elim q1 (fun q => (fun q => Or.inr (Or.inr (Or.inl q))) q) (fun q2 => Or.elim q2 (fun q => (fun q => Or.inr (Or.inr (Or.inr (Or.inl q)))) q) (fun q3 => Or.elim q3 (fun q => (fun q => Or.inr (Or.inr (Or.inr (Or.inr (Or.inl q))))) q) (fun q4 => Or.elim q4 (fun q => (fun q => Or.inr (Or.inr (Or.inr (Or.inr (Or.inr (Or.inl q)))))) q) (fun q5 => (fun q => Or.inr (Or.inr (Or.inr (Or.inr (Or.inr (Or.inr (q))))))) q5))))))) (fun o k h => (fun q => q) h) (fun o h => Or.elim h (fun q => (fun q => Or.inl q) q) (fun q0 => (fun q => Or.inr (q)) q0)) (fun o h => (fun q => q) h))) (sx_mono (D1 := xS_X5_alike 3) (fr_f_X5_alike (p := p3) 3 p2.1 p2.2 ax_RK3 hp3) (fun o k h => h.elim) (fun o k h => h.elim) (fun o h => h.elim) (fun o h => h.elim)))
abbrev xI_X11_under : Nat → Nat → Prop := fun o k => False
abbrev xJ_X11_under : Nat → Nat → Prop := fun o k => False
abbrev xA_X11_under : Nat → Prop := fun o => False
abbrev xB_X11_under : Nat → Prop := fun o => False
abbrev xS_X11_under : sx_D := (xI_X11_under, xJ_X11_under, xA_X11_under, xB_X11_under)
set_option maxRecDepth 100000 in
set_option maxHeartbeats 1000000 in
theorem fr_f_X11_under (x1 : Int64) (s : sx_M) {p : Int32 × sx_M} (hf : f_X11_under x1 s = some p) : sx_eq (xS_X11_under) s p.2 := by
  unfold f_X11_under at hf
  obtain ⟨p1, hp1, hf⟩ := ax_bind hf
  exact ax_ret (P := fun q : Int32 × sx_M => sx_eq (xS_X11_under) s q.2) hf (sx_tr (sx_rf _ s) (sx_mono (D1 := xS_X5_upTo 3) (fr_f_X5_upTo (p := p1) 3 x1 s ax_RK3 hp1) (fun o k h => h.elim) (fun o k h => h.elim) (fun o h => h.elim) (fun o h => h.elim)))
abbrev xI_X11_place : Nat → Nat → Prop := fun o k => False
abbrev xJ_X11_place : Nat → Nat → Prop := fun o k => False
abbrev xA_X11_place : Nat → Prop := fun o => o = 56
abbrev xB_X11_place : Nat → Prop := fun o => False
abbrev xS_X11_place : sx_D := (xI_X11_place, xJ_X11_place, xA_X11_place, xB_X11_place)
set_option maxRecDepth 100000 in
set_option maxHeartbeats 1000000 in
theorem fr_f_X11_place (x1 : Int32) (s : sx_M) {p : Int32 × sx_M} (hf : f_X11_place x1 s = some p) : sx_eq (xS_X11_place) s p.2 := by
  unfold f_X11_place at hf
  obtain ⟨p1, hp1, hf⟩ := ax_bind hf
  rcases ax_or hf with ⟨hc1, hf⟩ | ⟨hc1, hf⟩
  · exact ax_ret (P := fun q : Int32 × sx_M => sx_eq (xS_X11_place) s q.2) hf (sx_tr (sx_rf _ s) (sx_mono (D1 := xS_X1_decode 3 56) (fr_f_X1_decode (p := p1) 3 56 x1 s ax_G3 sh_56 hp1) (fun o k h => h.elim) (fun o k h => h.elim) (fun o h => (fun q => q) h) (fun o h => h.elim)))
  · obtain ⟨p2, hp2, hf⟩ := ax_bind hf
    exact ax_ret (P := fun q : Int32 × sx_M => sx_eq (xS_X11_place) s q.2) hf (sx_tr (sx_tr (sx_rf _ s) (sx_mono (D1 := xS_X1_decode 3 56) (fr_f_X1_decode (p := p1) 3 56 x1 s ax_G3 sh_56 hp1) (fun o k h => h.elim) (fun o k h => h.elim) (fun o h => (fun q => q) h) (fun o h => h.elim))) (sx_mono (D1 := xS_X5_before 3 56) (fr_f_X5_before (p := p2) 3 56 p1.2 ax_RK3 sh_56 hp2) (fun o k h => h.elim) (fun o k h => h.elim) (fun o h => h.elim) (fun o h => h.elim)))
abbrev xI_X11_drawn : Nat → Nat → Prop := fun o k => False
abbrev xJ_X11_drawn : Nat → Nat → Prop := fun o k => False
abbrev xA_X11_drawn : Nat → Prop := fun o => False
abbrev xB_X11_drawn : Nat → Prop := fun o => False
abbrev xS_X11_drawn : sx_D := (xI_X11_drawn, xJ_X11_drawn, xA_X11_drawn, xB_X11_drawn)
set_option maxRecDepth 100000 in
set_option maxHeartbeats 1000000 in
theorem fr_f_X11_drawn (x1 : Int64) (s : sx_M) {p : Int32 × sx_M} (hf : f_X11_drawn x1 s = some p) : sx_eq (xS_X11_drawn) s p.2 := by
  unfold f_X11_drawn at hf
  obtain ⟨p1, hp1, hf⟩ := ax_bind hf
  rcases ax_or hf with ⟨hc2, hf⟩ | ⟨hc2, hf⟩
  · obtain ⟨_, hf⟩ := ax_ite hf
    exact ax_ret (P := fun q : Int32 × sx_M => sx_eq (xS_X11_drawn) s q.2) hf (sx_tr (sx_rf _ s) (sx_mono (D1 := xS_X5_all 3) (fr_f_X5_all (p := p1) 3 s ax_RK3 hp1) (fun o k h => h.elim) (fun o k h => h.elim) (fun o h => h.elim) (fun o h => h.elim)))
  · exact ax_ret (P := fun q : Int32 × sx_M => sx_eq (xS_X11_drawn) s q.2) hf (sx_tr (sx_rf _ s) (sx_mono (D1 := xS_X5_all 3) (fr_f_X5_all (p := p1) 3 s ax_RK3 hp1) (fun o k h => h.elim) (fun o k h => h.elim) (fun o h => h.elim) (fun o h => h.elim)))
abbrev xI_X11_middle : Nat → Nat → Prop := fun o k => (o = 9 ∧ k = 10) ∨ (o = 9 ∧ k = 11) ∨ (o = 9 ∧ k = 12) ∨ (o = 9 ∧ k = 9)
abbrev xJ_X11_middle : Nat → Nat → Prop := fun o k => False
abbrev xA_X11_middle : Nat → Prop := fun o => o = 12
abbrev xB_X11_middle : Nat → Prop := fun o => False
abbrev xS_X11_middle : sx_D := (xI_X11_middle, xJ_X11_middle, xA_X11_middle, xB_X11_middle)
set_option maxRecDepth 100000 in
set_option maxHeartbeats 1000000 in
theorem fr_f_X11_middle (s : sx_M) {p : Int64 × sx_M} (hf : f_X11_middle s = some p) : sx_eq (xS_X11_middle) s p.2 := by
  unfold f_X11_middle at hf
  obtain ⟨p1, hp1, hf⟩ := ax_bind hf
  rcases ax_or hf with ⟨hc1, hf⟩ | ⟨hc1, hf⟩
  · exact ax_ret (P := fun q : Int64 × sx_M => sx_eq (xS_X11_middle) s q.2) hf (sx_tr (sx_rf _ s) (sx_mono (D1 := xS_X5_all 3) (fr_f_X5_all (p := p1) 3 s ax_RK3 hp1) (fun o k h => h.elim) (fun o k h => h.elim) (fun o h => h.elim) (fun o h => h.elim)))
  · obtain ⟨p2, hp2, hf⟩ := ax_bind hf
    exact ax_ret (P := fun q : Int64 × sx_M => sx_eq (xS_X11_middle) s q.2) hf (sx_tr (sx_tr (sx_rf _ s) (sx_mono (D1 := xS_X5_all 3) (fr_f_X5_all (p := p1) 3 s ax_RK3 hp1) (fun o k h => h.elim) (fun o k h => h.elim) (fun o h => h.elim) (fun o h => h.elim))) (sx_mono (D1 := xS_X4_sumAt) (fr_f_X4_sumAt (p := p2) ((p1.1 - (1 : Int32)) / (2 : Int32)) p1.2 hp2) (fun o k h => Or.elim h (fun q => (fun q => Or.inl q) q) (fun q0 => Or.elim q0 (fun q => (fun q => Or.inr (Or.inl q)) q) (fun q1 => Or.elim q1 (fun q => (fun q => Or.inr (Or.inr (Or.inl q))) q) (fun q2 => (fun q => Or.inr (Or.inr (Or.inr (q)))) q2)))) (fun o k h => h.elim) (fun o h => (fun q => q) h) (fun o h => h.elim)))
abbrev xI_X11_loss : Nat → Nat → Prop := fun o k => (o = 9 ∧ k = 10) ∨ (o = 9 ∧ k = 11) ∨ (o = 9 ∧ k = 12) ∨ (o = 9 ∧ k = 4) ∨ (o = 9 ∧ k = 5) ∨ (o = 9 ∧ k = 7) ∨ (o = 9 ∧ k = 9)
abbrev xJ_X11_loss : Nat → Nat → Prop := fun o k => (o = 9 ∧ k = 6)
abbrev xA_X11_loss : Nat → Prop := fun o => o = 10 ∨ o = 12
abbrev xB_X11_loss : Nat → Prop := fun o => o = 11
abbrev xS_X11_loss : sx_D := (xI_X11_loss, xJ_X11_loss, xA_X11_loss, xB_X11_loss)
set_option maxRecDepth 100000 in
set_option maxHeartbeats 1000000 in
theorem fr_f_X11_loss (x1 : Int32) (s : sx_M) {p : Int64 × sx_M} (hf : f_X11_loss x1 s = some p) : sx_eq (xS_X11_loss) s p.2 := by
  unfold f_X11_loss at hf
  have J21 : ∀ (t0_21 : Int64) (s_21 : sx_M), sx_eq (xS_X11_loss) s s_21 → f_X11_loss_J21 t0_21 s_21 = some p → sx_eq (xS_X11_loss) s p.2 := by
    intro t0_21 s_21 hs_21 hf
    unfold f_X11_loss_J21 at hf
    rcases ax_or hf with ⟨hc2, hf⟩ | ⟨hc2, hf⟩
    · exact ax_ret (P := fun q : Int64 × sx_M => sx_eq (xS_X11_loss) s q.2) hf hs_21
    · obtain ⟨b2, hb2, hf⟩ := ax_bind hf
      have hvb2 := wh_inv (t0_21, (0 : Int32), s_21) (fun a37 : Int64 × Int32 × sx_M => sx_eq (xS_X11_loss) s a37.2.2) (fun e : Int64 × sx_M => sx_eq (xS_X11_loss) s e.2) hb2 ?_ hs_21
      rotate_left
      · intro a37 r ha37 hf
        unfold f_X11_loss_L37 at hf
        rcases ax_or hf with ⟨hc1, hf⟩ | ⟨hc1, hf⟩
        · exact ax_ret (P := Sum.elim (fun a37 : Int64 × Int32 × sx_M => sx_eq (xS_X11_loss) s a37.2.2) (fun e : Int64 × sx_M => sx_eq (xS_X11_loss) s e.2)) hf ha37
        · obtain ⟨p1, hp1, hf⟩ := ax_bind hf
          exact ax_ret (P := Sum.elim (fun a37 : Int64 × Int32 × sx_M => sx_eq (xS_X11_loss) s a37.2.2) (fun e : Int64 × sx_M => sx_eq (xS_X11_loss) s e.2)) hf (sx_tr ha37 (sx_mono (D1 := xS_X1_leastOf 3) (fr_f_X1_leastOf (p := p1) 3 a37.2.1 (0 : Int32) a37.2.2 ax_G3 hp1) (fun o k h => h.elim) (fun o k h => h.elim) (fun o h => h.elim) (fun o h => h.elim)))
      exact ax_ret (P := fun q : Int64 × sx_M => sx_eq (xS_X11_loss) s q.2) hf hvb2
  obtain ⟨p3, hp3, hf⟩ := ax_bind hf
  rcases ax_or hf with ⟨hc3, hf⟩ | ⟨hc3, hf⟩
  · exact J21 (-9223372036854775808 : Int64) p3.2 (sx_tr (sx_rf _ s) (sx_mono (D1 := xS_X11_isRank) (fr_f_X11_isRank (p := p3) x1 s hp3) (fun o k h => h.elim) (fun o k h => h.elim) (fun o h => h.elim) (fun o h => h.elim))) hf
  · obtain ⟨p4, hp4, hf⟩ := ax_bind hf
    exact J21 p4.1 p4.2 (sx_tr (sx_tr (sx_rf _ s) (sx_mono (D1 := xS_X11_isRank) (fr_f_X11_isRank (p := p3) x1 s hp3) (fun o k h => h.elim) (fun o k h => h.elim) (fun o h => h.elim) (fun o h => h.elim))) (sx_mono (D1 := xS_X4_sumOf) (fr_f_X4_sumOf (p := p4) x1 p3.2 hp4) (fun o k h => Or.elim h (fun q => (fun q => Or.inl q) q) (fun q0 => Or.elim q0 (fun q => (fun q => Or.inr (Or.inl q)) q) (fun q1 => Or.elim q1 (fun q => (fun q => Or.inr (Or.inr (Or.inl q))) q) (fun q2 => Or.elim q2 (fun q => (fun q => Or.inr (Or.inr (Or.inr (Or.inl q)))) q) (fun q3 => Or.elim q3 (fun q => (fun q => Or.inr (Or.inr (Or.inr (Or.inr (Or.inl q))))) q) (fun q4 => Or.elim q4 (fun q => (fun q => Or.inr (Or.inr (Or.inr (Or.inr (Or.inr (Or.inl q)))))) q) (fun q5 => (fun q => Or.inr (Or.inr (Or.inr (Or.inr (Or.inr (Or.inr (q))))))) q5))))))) (fun o k h => (fun q => q) h) (fun o h => Or.elim h (fun q => (fun q => Or.inl q) q) (fun q0 => (fun q => Or.inr (q)) q0)) (fun o h => (fun q => q) h))) hf
abbrev xI_X11_dearest : Nat → Nat → Prop := fun o k => (o = 9 ∧ k = 10) ∨ (o = 9 ∧ k = 11) ∨ (o = 9 ∧ k = 12) ∨ (o = 9 ∧ k = 4) ∨ (o = 9 ∧ k = 5) ∨ (o = 9 ∧ k = 7) ∨ (o = 9 ∧ k = 9)
abbrev xJ_X11_dearest : Nat → Nat → Prop := fun o k => (o = 9 ∧ k = 6)
abbrev xA_X11_dearest : Nat → Prop := fun o => o = 10 ∨ o = 12 ∨ o = 56
abbrev xB_X11_dearest : Nat → Prop := fun o => o = 11
abbrev xS_X11_dearest : sx_D := (xI_X11_dearest, xJ_X11_dearest, xA_X11_dearest, xB_X11_dearest)
set_option maxRecDepth 100000 in
set_option maxHeartbeats 1000000 in
theorem fr_f_X11_dearest (x1 : Int32) (s : sx_M) {p : Int64 × sx_M} (hf : f_X11_dearest x1 s = some p) : sx_eq (xS_X11_dearest) s p.2 := by
  unfold f_X11_dearest at hf
  rcases ax_or hf with ⟨hc3, hf⟩ | ⟨hc3, hf⟩
  · exact ax_ret (P := fun q : Int64 × sx_M => sx_eq (xS_X11_dearest) s q.2) hf (sx_rf _ s)
  · obtain ⟨p1, hp1, hf⟩ := ax_bind hf
    rcases ax_or hf with ⟨hc2, hf⟩ | ⟨hc2, hf⟩
    · exact ax_ret (P := fun q : Int64 × sx_M => sx_eq (xS_X11_dearest) s q.2) hf (sx_tr (sx_rf _ s) (sx_mono (D1 := xS_X11_isRank) (fr_f_X11_isRank (p := p1) x1 s hp1) (fun o k h => h.elim) (fun o k h => h.elim) (fun o h => h.elim) (fun o h => h.elim)))
    · obtain ⟨p2, hp2, hf⟩ := ax_bind hf
      rcases ax_or hf with ⟨hc1, hf⟩ | ⟨hc1, hf⟩
      · exact ax_ret (P := fun q : Int64 × sx_M => sx_eq (xS_X11_dearest) s q.2) hf (sx_tr (sx_tr (sx_rf _ s) (sx_mono (D1 := xS_X11_isRank) (fr_f_X11_isRank (p := p1) x1 s hp1) (fun o k h => h.elim) (fun o k h => h.elim) (fun o h => h.elim) (fun o h => h.elim))) (sx_mono (D1 := xS_X4_lay 56) (fr_f_X4_lay (p := p2) 56 x1 p1.2 sh_56 hp2) (fun o k h => Or.elim h (fun q => (fun q => Or.inl q) q) (fun q0 => Or.elim q0 (fun q => (fun q => Or.inr (Or.inl q)) q) (fun q1 => Or.elim q1 (fun q => (fun q => Or.inr (Or.inr (Or.inl q))) q) (fun q2 => Or.elim q2 (fun q => (fun q => Or.inr (Or.inr (Or.inr (Or.inl q)))) q) (fun q3 => Or.elim q3 (fun q => (fun q => Or.inr (Or.inr (Or.inr (Or.inr (Or.inl q))))) q) (fun q4 => Or.elim q4 (fun q => (fun q => Or.inr (Or.inr (Or.inr (Or.inr (Or.inr (Or.inl q)))))) q) (fun q5 => (fun q => Or.inr (Or.inr (Or.inr (Or.inr (Or.inr (Or.inr (q))))))) q5))))))) (fun o k h => (fun q => q) h) (fun o h => Or.elim h (fun q => (fun q => Or.inl q) q) (fun q0 => Or.elim q0 (fun q => (fun q => Or.inr (Or.inl q)) q) (fun q1 => (fun q => Or.inr (Or.inr (q))) q1))) (fun o h => (fun q => q) h)))
      · obtain ⟨p3, hp3, hf⟩ := ax_bind hf
        exact ax_ret (P := fun q : Int64 × sx_M => sx_eq (xS_X11_dearest) s q.2) hf (sx_tr (sx_tr (sx_tr (sx_rf _ s) (sx_mono (D1 := xS_X11_isRank) (fr_f_X11_isRank (p := p1) x1 s hp1) (fun o k h => h.elim) (fun o k h => h.elim) (fun o h => h.elim) (fun o h => h.elim))) (sx_mono (D1 := xS_X4_lay 56) (fr_f_X4_lay (p := p2) 56 x1 p1.2 sh_56 hp2) (fun o k h => Or.elim h (fun q => (fun q => Or.inl q) q) (fun q0 => Or.elim q0 (fun q => (fun q => Or.inr (Or.inl q)) q) (fun q1 => Or.elim q1 (fun q => (fun q => Or.inr (Or.inr (Or.inl q))) q) (fun q2 => Or.elim q2 (fun q => (fun q => Or.inr (Or.inr (Or.inr (Or.inl q)))) q) (fun q3 => Or.elim q3 (fun q => (fun q => Or.inr (Or.inr (Or.inr (Or.inr (Or.inl q))))) q) (fun q4 => Or.elim q4 (fun q => (fun q => Or.inr (Or.inr (Or.inr (Or.inr (Or.inr (Or.inl q)))))) q) (fun q5 => (fun q => Or.inr (Or.inr (Or.inr (Or.inr (Or.inr (Or.inr (q))))))) q5))))))) (fun o k h => (fun q => q) h) (fun o h => Or.elim h (fun q => (fun q => Or.inl q) q) (fun q0 => Or.elim q0 (fun q => (fun q => Or.inr (Or.inl q)) q) (fun q1 => (fun q => Or.inr (Or.inr (q))) q1))) (fun o h => (fun q => q) h))) (sx_mono (D1 := xS_X1_greatestOf 3 56) (fr_f_X1_greatestOf (p := p3) 3 56 p2.2 ax_G3 sh_56 hp3) (fun o k h => h.elim) (fun o k h => h.elim) (fun o h => h.elim) (fun o h => h.elim)))
abbrev xI_X11_apart : Nat → Nat → Prop := fun o k => (o = 9 ∧ k = 10) ∨ (o = 9 ∧ k = 11) ∨ (o = 9 ∧ k = 12) ∨ (o = 9 ∧ k = 4) ∨ (o = 9 ∧ k = 5) ∨ (o = 9 ∧ k = 7) ∨ (o = 9 ∧ k = 9)
abbrev xJ_X11_apart : Nat → Nat → Prop := fun o k => (o = 9 ∧ k = 6)
abbrev xA_X11_apart : Nat → Prop := fun o => o = 10 ∨ o = 12 ∨ o = 56 ∨ o = 57
abbrev xB_X11_apart : Nat → Prop := fun o => o = 11
abbrev xS_X11_apart : sx_D := (xI_X11_apart, xJ_X11_apart, xA_X11_apart, xB_X11_apart)
set_option maxRecDepth 100000 in
set_option maxHeartbeats 1000000 in
theorem fr_f_X11_apart (x1 : Int32) (x2 : Int32) (s : sx_M) {p : Int32 × sx_M} (hf : f_X11_apart x1 x2 s = some p) : sx_eq (xS_X11_apart) s p.2 := by
  unfold f_X11_apart at hf
  obtain ⟨p1, hp1, hf⟩ := ax_bind hf
  rcases ax_or hf with ⟨hc8, hf⟩ | ⟨hc8, hf⟩
  · exact ax_ret (P := fun q : Int32 × sx_M => sx_eq (xS_X11_apart) s q.2) hf (sx_tr (sx_rf _ s) (sx_mono (D1 := xS_X11_isRank) (fr_f_X11_isRank (p := p1) x1 s hp1) (fun o k h => h.elim) (fun o k h => h.elim) (fun o h => h.elim) (fun o h => h.elim)))
  · obtain ⟨p2, hp2, hf⟩ := ax_bind hf
    rcases ax_or hf with ⟨hc7, hf⟩ | ⟨hc7, hf⟩
    · exact ax_ret (P := fun q : Int32 × sx_M => sx_eq (xS_X11_apart) s q.2) hf (sx_tr (sx_tr (sx_rf _ s) (sx_mono (D1 := xS_X11_isRank) (fr_f_X11_isRank (p := p1) x1 s hp1) (fun o k h => h.elim) (fun o k h => h.elim) (fun o h => h.elim) (fun o h => h.elim))) (sx_mono (D1 := xS_X11_isRank) (fr_f_X11_isRank (p := p2) x2 p1.2 hp2) (fun o k h => h.elim) (fun o k h => h.elim) (fun o h => h.elim) (fun o h => h.elim)))
    · obtain ⟨p3, hp3, hf⟩ := ax_bind hf
      rcases ax_or hf with ⟨hc6, hf⟩ | ⟨hc6, hf⟩
      · exact ax_ret (P := fun q : Int32 × sx_M => sx_eq (xS_X11_apart) s q.2) hf (sx_tr (sx_tr (sx_tr (sx_rf _ s) (sx_mono (D1 := xS_X11_isRank) (fr_f_X11_isRank (p := p1) x1 s hp1) (fun o k h => h.elim) (fun o k h => h.elim) (fun o h => h.elim) (fun o h => h.elim))) (sx_mono (D1 := xS_X11_isRank) (fr_f_X11_isRank (p := p2) x2 p1.2 hp2) (fun o k h => h.elim) (fun o k h => h.elim) (fun o h => h.elim) (fun o h => h.elim))) (sx_mono (D1 := xS_X4_lay 56) (fr_f_X4_lay (p := p3) 56 x1 p2.2 sh_56 hp3) (fun o k h => Or.elim h (fun q => (fun q => Or.inl q) q) (fun q0 => Or.elim q0 (fun q => (fun q => Or.inr (Or.inl q)) q) (fun q1 => Or.elim q1 (fun q => (fun q => Or.inr (Or.inr (Or.inl q))) q) (fun q2 => Or.elim q2 (fun q => (fun q => Or.inr (Or.inr (Or.inr (Or.inl q)))) q) (fun q3 => Or.elim q3 (fun q => (fun q => Or.inr (Or.inr (Or.inr (Or.inr (Or.inl q))))) q) (fun q4 => Or.elim q4 (fun q => (fun q => Or.inr (Or.inr (Or.inr (Or.inr (Or.inr (Or.inl q)))))) q) (fun q5 => (fun q => Or.inr (Or.inr (Or.inr (Or.inr (Or.inr (Or.inr (q))))))) q5))))))) (fun o k h => (fun q => q) h) (fun o h => Or.elim h (fun q => (fun q => Or.inl q) q) (fun q0 => Or.elim q0 (fun q => (fun q => Or.inr (Or.inl q)) q) (fun q1 => (fun q => Or.inr (Or.inr (Or.inl q))) q1))) (fun o h => (fun q => q) h)))
      · obtain ⟨p4, hp4, hf⟩ := ax_bind hf
        rcases ax_or hf with ⟨hc5, hf⟩ | ⟨hc5, hf⟩
        · exact ax_ret (P := fun q : Int32 × sx_M => sx_eq (xS_X11_apart) s q.2) hf (sx_tr (sx_tr (sx_tr (sx_tr (sx_rf _ s) (sx_mono (D1 := xS_X11_isRank) (fr_f_X11_isRank (p := p1) x1 s hp1) (fun o k h => h.elim) (fun o k h => h.elim) (fun o h => h.elim) (fun o h => h.elim))) (sx_mono (D1 := xS_X11_isRank) (fr_f_X11_isRank (p := p2) x2 p1.2 hp2) (fun o k h => h.elim) (fun o k h => h.elim) (fun o h => h.elim) (fun o h => h.elim))) (sx_mono (D1 := xS_X4_lay 56) (fr_f_X4_lay (p := p3) 56 x1 p2.2 sh_56 hp3) (fun o k h => Or.elim h (fun q => (fun q => Or.inl q) q) (fun q0 => Or.elim q0 (fun q => (fun q => Or.inr (Or.inl q)) q) (fun q1 => Or.elim q1 (fun q => (fun q => Or.inr (Or.inr (Or.inl q))) q) (fun q2 => Or.elim q2 (fun q => (fun q => Or.inr (Or.inr (Or.inr (Or.inl q)))) q) (fun q3 => Or.elim q3 (fun q => (fun q => Or.inr (Or.inr (Or.inr (Or.inr (Or.inl q))))) q) (fun q4 => Or.elim q4 (fun q => (fun q => Or.inr (Or.inr (Or.inr (Or.inr (Or.inr (Or.inl q)))))) q) (fun q5 => (fun q => Or.inr (Or.inr (Or.inr (Or.inr (Or.inr (Or.inr (q))))))) q5))))))) (fun o k h => (fun q => q) h) (fun o h => Or.elim h (fun q => (fun q => Or.inl q) q) (fun q0 => Or.elim q0 (fun q => (fun q => Or.inr (Or.inl q)) q) (fun q1 => (fun q => Or.inr (Or.inr (Or.inl q))) q1))) (fun o h => (fun q => q) h))) (sx_mono (D1 := xS_X4_lay 57) (fr_f_X4_lay (p := p4) 57 x2 p3.2 sh_57 hp4) (fun o k h => Or.elim h (fun q => (fun q => Or.inl q) q) (fun q0 => Or.elim q0 (fun q => (fun q => Or.inr (Or.inl q)) q) (fun q1 => Or.elim q1 (fun q => (fun q => Or.inr (Or.inr (Or.inl q))) q) (fun q2 => Or.elim q2 (fun q => (fun q => Or.inr (Or.inr (Or.inr (Or.inl q)))) q) (fun q3 => Or.elim q3 (fun q => (fun q => Or.inr (Or.inr (Or.inr (Or.inr (Or.inl q))))) q) (fun q4 => Or.elim q4 (fun q => (fun q => Or.inr (Or.inr (Or.inr (Or.inr (Or.inr (Or.inl q)))))) q) (fun q5 => (fun q => Or.inr (Or.inr (Or.inr (Or.inr (Or.inr (Or.inr (q))))))) q5))))))) (fun o k h => (fun q => q) h) (fun o h => Or.elim h (fun q => (fun q => Or.inl q) q) (fun q0 => Or.elim q0 (fun q => (fun q => Or.inr (Or.inl q)) q) (fun q1 => (fun q => Or.inr (Or.inr (Or.inr (q)))) q1))) (fun o h => (fun q => q) h)))
        · obtain ⟨b5, hb5, hf⟩ := ax_bind hf
          have hvb5 := wh_inv ((0 : Int32), (0 : Int32), p4.2) (fun a54 : Int32 × Int32 × sx_M => sx_eq (xS_X11_apart) s a54.2.2) (fun e : Int32 × sx_M => sx_eq (xS_X11_apart) s e.2) hb5 ?_ (sx_tr (sx_tr (sx_tr (sx_tr (sx_rf _ s) (sx_mono (D1 := xS_X11_isRank) (fr_f_X11_isRank (p := p1) x1 s hp1) (fun o k h => h.elim) (fun o k h => h.elim) (fun o h => h.elim) (fun o h => h.elim))) (sx_mono (D1 := xS_X11_isRank) (fr_f_X11_isRank (p := p2) x2 p1.2 hp2) (fun o k h => h.elim) (fun o k h => h.elim) (fun o h => h.elim) (fun o h => h.elim))) (sx_mono (D1 := xS_X4_lay 56) (fr_f_X4_lay (p := p3) 56 x1 p2.2 sh_56 hp3) (fun o k h => Or.elim h (fun q => (fun q => Or.inl q) q) (fun q0 => Or.elim q0 (fun q => (fun q => Or.inr (Or.inl q)) q) (fun q1 => Or.elim q1 (fun q => (fun q => Or.inr (Or.inr (Or.inl q))) q) (fun q2 => Or.elim q2 (fun q => (fun q => Or.inr (Or.inr (Or.inr (Or.inl q)))) q) (fun q3 => Or.elim q3 (fun q => (fun q => Or.inr (Or.inr (Or.inr (Or.inr (Or.inl q))))) q) (fun q4 => Or.elim q4 (fun q => (fun q => Or.inr (Or.inr (Or.inr (Or.inr (Or.inr (Or.inl q)))))) q) (fun q5 => (fun q => Or.inr (Or.inr (Or.inr (Or.inr (Or.inr (Or.inr (q))))))) q5))))))) (fun o k h => (fun q => q) h) (fun o h => Or.elim h (fun q => (fun q => Or.inl q) q) (fun q0 => Or.elim q0 (fun q => (fun q => Or.inr (Or.inl q)) q) (fun q1 => (fun q => Or.inr (Or.inr (Or.inl q))) q1))) (fun o h => (fun q => q) h))) (sx_mono (D1 := xS_X4_lay 57) (fr_f_X4_lay (p := p4) 57 x2 p3.2 sh_57 hp4) (fun o k h => Or.elim h (fun q => (fun q => Or.inl q) q) (fun q0 => Or.elim q0 (fun q => (fun q => Or.inr (Or.inl q)) q) (fun q1 => Or.elim q1 (fun q => (fun q => Or.inr (Or.inr (Or.inl q))) q) (fun q2 => Or.elim q2 (fun q => (fun q => Or.inr (Or.inr (Or.inr (Or.inl q)))) q) (fun q3 => Or.elim q3 (fun q => (fun q => Or.inr (Or.inr (Or.inr (Or.inr (Or.inl q))))) q) (fun q4 => Or.elim q4 (fun q => (fun q => Or.inr (Or.inr (Or.inr (Or.inr (Or.inr (Or.inl q)))))) q) (fun q5 => (fun q => Or.inr (Or.inr (Or.inr (Or.inr (Or.inr (Or.inr (q))))))) q5))))))) (fun o k h => (fun q => q) h) (fun o h => Or.elim h (fun q => (fun q => Or.inl q) q) (fun q0 => Or.elim q0 (fun q => (fun q => Or.inr (Or.inl q)) q) (fun q1 => (fun q => Or.inr (Or.inr (Or.inr (q)))) q1))) (fun o h => (fun q => q) h)))
          rotate_left
          · intro a54 r ha54 hf
            unfold f_X11_apart_L54 at hf
            rcases ax_or hf with ⟨hc4, hf⟩ | ⟨hc4, hf⟩
            · exact ax_ret (P := Sum.elim (fun a54 : Int32 × Int32 × sx_M => sx_eq (xS_X11_apart) s a54.2.2) (fun e : Int32 × sx_M => sx_eq (xS_X11_apart) s e.2)) hf ha54
            · obtain ⟨_, hf⟩ := ax_ite hf
              obtain ⟨_, hf⟩ := ax_ite hf
              rcases ax_or hf with ⟨hc3, hf⟩ | ⟨hc3, hf⟩
              · exact ax_ret (P := Sum.elim (fun a54 : Int32 × Int32 × sx_M => sx_eq (xS_X11_apart) s a54.2.2) (fun e : Int32 × sx_M => sx_eq (xS_X11_apart) s e.2)) hf ha54
              · exact ax_ret (P := Sum.elim (fun a54 : Int32 × Int32 × sx_M => sx_eq (xS_X11_apart) s a54.2.2) (fun e : Int32 × sx_M => sx_eq (xS_X11_apart) s e.2)) hf ha54
          exact ax_ret (P := fun q : Int32 × sx_M => sx_eq (xS_X11_apart) s q.2) hf hvb5
abbrev xI_X11_rounds : Nat → Nat → Prop := fun o k => (o = 55 ∧ k = 0) ∨ (o = 55 ∧ k = 1) ∨ (o = 55 ∧ k = 2) ∨ (o = 55 ∧ k = 3) ∨ (o = 55 ∧ k = 4) ∨ (o = 9 ∧ k = 10) ∨ (o = 9 ∧ k = 11) ∨ (o = 9 ∧ k = 12) ∨ (o = 9 ∧ k = 4) ∨ (o = 9 ∧ k = 5) ∨ (o = 9 ∧ k = 7) ∨ (o = 9 ∧ k = 9)
abbrev xJ_X11_rounds : Nat → Nat → Prop := fun o k => (o = 9 ∧ k = 6)
abbrev xA_X11_rounds : Nat → Prop := fun o => o = 10 ∨ o = 12 ∨ o = 56 ∨ o = 57
abbrev xB_X11_rounds : Nat → Prop := fun o => o = 11
abbrev xS_X11_rounds : sx_D := (xI_X11_rounds, xJ_X11_rounds, xA_X11_rounds, xB_X11_rounds)
set_option maxRecDepth 100000 in
set_option maxHeartbeats 1000000 in
theorem fr_f_X11_rounds (x1 : Int32) (x2 : Int32) (x3 : Int32) (s : sx_M) {p : Int32 × sx_M} (hf : f_X11_rounds x1 x2 x3 s = some p) : sx_eq (xS_X11_rounds) s p.2 := by
  unfold f_X11_rounds at hf
  obtain ⟨p1, hp1, hf⟩ := ax_bind hf
  rcases ax_or hf with ⟨hc9, hf⟩ | ⟨hc9, hf⟩
  · exact ax_ret (P := fun q : Int32 × sx_M => sx_eq (xS_X11_rounds) s q.2) hf (sx_tr (sx_rf _ s) (sx_mono (D1 := xS_X11_isRank) (fr_f_X11_isRank (p := p1) x1 s hp1) (fun o k h => h.elim) (fun o k h => h.elim) (fun o h => h.elim) (fun o h => h.elim)))
  · obtain ⟨p2, hp2, hf⟩ := ax_bind hf
    rcases ax_or hf with ⟨hc8, hf⟩ | ⟨hc8, hf⟩
    · exact ax_ret (P := fun q : Int32 × sx_M => sx_eq (xS_X11_rounds) s q.2) hf (sx_tr (sx_tr (sx_rf _ s) (sx_mono (D1 := xS_X11_isRank) (fr_f_X11_isRank (p := p1) x1 s hp1) (fun o k h => h.elim) (fun o k h => h.elim) (fun o h => h.elim) (fun o h => h.elim))) (sx_mono (D1 := xS_X11_isRank) (fr_f_X11_isRank (p := p2) x2 p1.2 hp2) (fun o k h => h.elim) (fun o k h => h.elim) (fun o h => h.elim) (fun o h => h.elim)))
    · rcases ax_or hf with ⟨hc7, hf⟩ | ⟨hc7, hf⟩
      · exact ax_ret (P := fun q : Int32 × sx_M => sx_eq (xS_X11_rounds) s q.2) hf (sx_tr (sx_tr (sx_rf _ s) (sx_mono (D1 := xS_X11_isRank) (fr_f_X11_isRank (p := p1) x1 s hp1) (fun o k h => h.elim) (fun o k h => h.elim) (fun o h => h.elim) (fun o h => h.elim))) (sx_mono (D1 := xS_X11_isRank) (fr_f_X11_isRank (p := p2) x2 p1.2 hp2) (fun o k h => h.elim) (fun o k h => h.elim) (fun o h => h.elim) (fun o h => h.elim)))
      · rcases ax_or hf with ⟨hc6, hf⟩ | ⟨hc6, hf⟩
        · obtain ⟨p3, hp3, hf⟩ := ax_bind hf
          rcases ax_or hf with ⟨hc5, hf⟩ | ⟨hc5, hf⟩
          · exact ax_ret (P := fun q : Int32 × sx_M => sx_eq (xS_X11_rounds) s q.2) hf (sx_tr (sx_tr (sx_tr (sx_rf _ s) (sx_mono (D1 := xS_X11_isRank) (fr_f_X11_isRank (p := p1) x1 s hp1) (fun o k h => h.elim) (fun o k h => h.elim) (fun o h => h.elim) (fun o h => h.elim))) (sx_mono (D1 := xS_X11_isRank) (fr_f_X11_isRank (p := p2) x2 p1.2 hp2) (fun o k h => h.elim) (fun o k h => h.elim) (fun o h => h.elim) (fun o h => h.elim))) (sx_mono (D1 := xS_X4_lay 56) (fr_f_X4_lay (p := p3) 56 x1 p2.2 sh_56 hp3) (fun o k h => Or.elim h (fun q => (fun q => Or.inr (Or.inr (Or.inr (Or.inr (Or.inr (Or.inl q)))))) q) (fun q0 => Or.elim q0 (fun q => (fun q => Or.inr (Or.inr (Or.inr (Or.inr (Or.inr (Or.inr (Or.inl q))))))) q) (fun q1 => Or.elim q1 (fun q => (fun q => Or.inr (Or.inr (Or.inr (Or.inr (Or.inr (Or.inr (Or.inr (Or.inl q)))))))) q) (fun q2 => Or.elim q2 (fun q => (fun q => Or.inr (Or.inr (Or.inr (Or.inr (Or.inr (Or.inr (Or.inr (Or.inr (Or.inl q))))))))) q) (fun q3 => Or.elim q3 (fun q => (fun q => Or.inr (Or.inr (Or.inr (Or.inr (Or.inr (Or.inr (Or.inr (Or.inr (Or.inr (Or.inl q)))))))))) q) (fun q4 => Or.elim q4 (fun q => (fun q => Or.inr (Or.inr (Or.inr (Or.inr (Or.inr (Or.inr (Or.inr (Or.inr (Or.inr (Or.inr (Or.inl q))))))))))) q) (fun q5 => (fun q => Or.inr (Or.inr (Or.inr (Or.inr (Or.inr (Or.inr (Or.inr (Or.inr (Or.inr (Or.inr (Or.inr (q)))))))))))) q5))))))) (fun o k h => (fun q => q) h) (fun o h => Or.elim h (fun q => (fun q => Or.inl q) q) (fun q0 => Or.elim q0 (fun q => (fun q => Or.inr (Or.inl q)) q) (fun q1 => (fun q => Or.inr (Or.inr (Or.inl q))) q1))) (fun o h => (fun q => q) h)))
          · obtain ⟨p4, hp4, hf⟩ := ax_bind hf
            rcases ax_or hf with ⟨hc4, hf⟩ | ⟨hc4, hf⟩
            · exact ax_ret (P := fun q : Int32 × sx_M => sx_eq (xS_X11_rounds) s q.2) hf (sx_tr (sx_tr (sx_tr (sx_tr (sx_rf _ s) (sx_mono (D1 := xS_X11_isRank) (fr_f_X11_isRank (p := p1) x1 s hp1) (fun o k h => h.elim) (fun o k h => h.elim) (fun o h => h.elim) (fun o h => h.elim))) (sx_mono (D1 := xS_X11_isRank) (fr_f_X11_isRank (p := p2) x2 p1.2 hp2) (fun o k h => h.elim) (fun o k h => h.elim) (fun o h => h.elim) (fun o h => h.elim))) (sx_mono (D1 := xS_X4_lay 56) (fr_f_X4_lay (p := p3) 56 x1 p2.2 sh_56 hp3) (fun o k h => Or.elim h (fun q => (fun q => Or.inr (Or.inr (Or.inr (Or.inr (Or.inr (Or.inl q)))))) q) (fun q0 => Or.elim q0 (fun q => (fun q => Or.inr (Or.inr (Or.inr (Or.inr (Or.inr (Or.inr (Or.inl q))))))) q) (fun q1 => Or.elim q1 (fun q => (fun q => Or.inr (Or.inr (Or.inr (Or.inr (Or.inr (Or.inr (Or.inr (Or.inl q)))))))) q) (fun q2 => Or.elim q2 (fun q => (fun q => Or.inr (Or.inr (Or.inr (Or.inr (Or.inr (Or.inr (Or.inr (Or.inr (Or.inl q))))))))) q) (fun q3 => Or.elim q3 (fun q => (fun q => Or.inr (Or.inr (Or.inr (Or.inr (Or.inr (Or.inr (Or.inr (Or.inr (Or.inr (Or.inl q)))))))))) q) (fun q4 => Or.elim q4 (fun q => (fun q => Or.inr (Or.inr (Or.inr (Or.inr (Or.inr (Or.inr (Or.inr (Or.inr (Or.inr (Or.inr (Or.inl q))))))))))) q) (fun q5 => (fun q => Or.inr (Or.inr (Or.inr (Or.inr (Or.inr (Or.inr (Or.inr (Or.inr (Or.inr (Or.inr (Or.inr (q)))))))))))) q5))))))) (fun o k h => (fun q => q) h) (fun o h => Or.elim h (fun q => (fun q => Or.inl q) q) (fun q0 => Or.elim q0 (fun q => (fun q => Or.inr (Or.inl q)) q) (fun q1 => (fun q => Or.inr (Or.inr (Or.inl q))) q1))) (fun o h => (fun q => q) h))) (sx_mono (D1 := xS_X4_lay 57) (fr_f_X4_lay (p := p4) 57 x2 p3.2 sh_57 hp4) (fun o k h => Or.elim h (fun q => (fun q => Or.inr (Or.inr (Or.inr (Or.inr (Or.inr (Or.inl q)))))) q) (fun q0 => Or.elim q0 (fun q => (fun q => Or.inr (Or.inr (Or.inr (Or.inr (Or.inr (Or.inr (Or.inl q))))))) q) (fun q1 => Or.elim q1 (fun q => (fun q => Or.inr (Or.inr (Or.inr (Or.inr (Or.inr (Or.inr (Or.inr (Or.inl q)))))))) q) (fun q2 => Or.elim q2 (fun q => (fun q => Or.inr (Or.inr (Or.inr (Or.inr (Or.inr (Or.inr (Or.inr (Or.inr (Or.inl q))))))))) q) (fun q3 => Or.elim q3 (fun q => (fun q => Or.inr (Or.inr (Or.inr (Or.inr (Or.inr (Or.inr (Or.inr (Or.inr (Or.inr (Or.inl q)))))))))) q) (fun q4 => Or.elim q4 (fun q => (fun q => Or.inr (Or.inr (Or.inr (Or.inr (Or.inr (Or.inr (Or.inr (Or.inr (Or.inr (Or.inr (Or.inl q))))))))))) q) (fun q5 => (fun q => Or.inr (Or.inr (Or.inr (Or.inr (Or.inr (Or.inr (Or.inr (Or.inr (Or.inr (Or.inr (Or.inr (q)))))))))))) q5))))))) (fun o k h => (fun q => q) h) (fun o h => Or.elim h (fun q => (fun q => Or.inl q) q) (fun q0 => Or.elim q0 (fun q => (fun q => Or.inr (Or.inl q)) q) (fun q1 => (fun q => Or.inr (Or.inr (Or.inr (q)))) q1))) (fun o h => (fun q => q) h)))
            · obtain ⟨p5, hp5, hf⟩ := ax_bind hf
              rcases ax_or hf with ⟨hc1, hf⟩ | ⟨hc1, hf⟩
              · exact ax_ret (P := fun q : Int32 × sx_M => sx_eq (xS_X11_rounds) s q.2) hf (sx_tr (sx_tr (sx_tr (sx_tr (sx_tr (sx_rf _ s) (sx_mono (D1 := xS_X11_isRank) (fr_f_X11_isRank (p := p1) x1 s hp1) (fun o k h => h.elim) (fun o k h => h.elim) (fun o h => h.elim) (fun o h => h.elim))) (sx_mono (D1 := xS_X11_isRank) (fr_f_X11_isRank (p := p2) x2 p1.2 hp2) (fun o k h => h.elim) (fun o k h => h.elim) (fun o h => h.elim) (fun o h => h.elim))) (sx_mono (D1 := xS_X4_lay 56) (fr_f_X4_lay (p := p3) 56 x1 p2.2 sh_56 hp3) (fun o k h => Or.elim h (fun q => (fun q => Or.inr (Or.inr (Or.inr (Or.inr (Or.inr (Or.inl q)))))) q) (fun q0 => Or.elim q0 (fun q => (fun q => Or.inr (Or.inr (Or.inr (Or.inr (Or.inr (Or.inr (Or.inl q))))))) q) (fun q1 => Or.elim q1 (fun q => (fun q => Or.inr (Or.inr (Or.inr (Or.inr (Or.inr (Or.inr (Or.inr (Or.inl q)))))))) q) (fun q2 => Or.elim q2 (fun q => (fun q => Or.inr (Or.inr (Or.inr (Or.inr (Or.inr (Or.inr (Or.inr (Or.inr (Or.inl q))))))))) q) (fun q3 => Or.elim q3 (fun q => (fun q => Or.inr (Or.inr (Or.inr (Or.inr (Or.inr (Or.inr (Or.inr (Or.inr (Or.inr (Or.inl q)))))))))) q) (fun q4 => Or.elim q4 (fun q => (fun q => Or.inr (Or.inr (Or.inr (Or.inr (Or.inr (Or.inr (Or.inr (Or.inr (Or.inr (Or.inr (Or.inl q))))))))))) q) (fun q5 => (fun q => Or.inr (Or.inr (Or.inr (Or.inr (Or.inr (Or.inr (Or.inr (Or.inr (Or.inr (Or.inr (Or.inr (q)))))))))))) q5))))))) (fun o k h => (fun q => q) h) (fun o h => Or.elim h (fun q => (fun q => Or.inl q) q) (fun q0 => Or.elim q0 (fun q => (fun q => Or.inr (Or.inl q)) q) (fun q1 => (fun q => Or.inr (Or.inr (Or.inl q))) q1))) (fun o h => (fun q => q) h))) (sx_mono (D1 := xS_X4_lay 57) (fr_f_X4_lay (p := p4) 57 x2 p3.2 sh_57 hp4) (fun o k h => Or.elim h (fun q => (fun q => Or.inr (Or.inr (Or.inr (Or.inr (Or.inr (Or.inl q)))))) q) (fun q0 => Or.elim q0 (fun q => (fun q => Or.inr (Or.inr (Or.inr (Or.inr (Or.inr (Or.inr (Or.inl q))))))) q) (fun q1 => Or.elim q1 (fun q => (fun q => Or.inr (Or.inr (Or.inr (Or.inr (Or.inr (Or.inr (Or.inr (Or.inl q)))))))) q) (fun q2 => Or.elim q2 (fun q => (fun q => Or.inr (Or.inr (Or.inr (Or.inr (Or.inr (Or.inr (Or.inr (Or.inr (Or.inl q))))))))) q) (fun q3 => Or.elim q3 (fun q => (fun q => Or.inr (Or.inr (Or.inr (Or.inr (Or.inr (Or.inr (Or.inr (Or.inr (Or.inr (Or.inl q)))))))))) q) (fun q4 => Or.elim q4 (fun q => (fun q => Or.inr (Or.inr (Or.inr (Or.inr (Or.inr (Or.inr (Or.inr (Or.inr (Or.inr (Or.inr (Or.inl q))))))))))) q) (fun q5 => (fun q => Or.inr (Or.inr (Or.inr (Or.inr (Or.inr (Or.inr (Or.inr (Or.inr (Or.inr (Or.inr (Or.inr (q)))))))))))) q5))))))) (fun o k h => (fun q => q) h) (fun o h => Or.elim h (fun q => (fun q => Or.inl q) q) (fun q0 => Or.elim q0 (fun q => (fun q => Or.inr (Or.inl q)) q) (fun q1 => (fun q => Or.inr (Or.inr (Or.inr (q)))) q1))) (fun o h => (fun q => q) h))) (sx_mono (D1 := xS_X10_trace 56 57) (fr_f_X10_trace (p := p5) 56 57 (rI p4.2 3 1) p4.2 sh_56 sh_57 hp5) (fun o k h => Or.elim h (fun q => (fun q => Or.inl q) q) (fun q0 => Or.elim q0 (fun q => (fun q => Or.inr (Or.inl q)) q) (fun q1 => Or.elim q1 (fun q => (fun q => Or.inr (Or.inr (Or.inl q))) q) (fun q2 => Or.elim q2 (fun q => (fun q => Or.inr (Or.inr (Or.inr (Or.inl q)))) q) (fun q3 => (fun q => Or.inr (Or.inr (Or.inr (Or.inr (Or.inl q))))) q3))))) (fun o k h => h.elim) (fun o h => h.elim) (fun o h => h.elim)))
              rcases ax_or hf with ⟨hc2, hf⟩ | ⟨hc2, hf⟩
              · exact ax_ret (P := fun q : Int32 × sx_M => sx_eq (xS_X11_rounds) s q.2) hf (sx_tr (sx_tr (sx_tr (sx_tr (sx_tr (sx_rf _ s) (sx_mono (D1 := xS_X11_isRank) (fr_f_X11_isRank (p := p1) x1 s hp1) (fun o k h => h.elim) (fun o k h => h.elim) (fun o h => h.elim) (fun o h => h.elim))) (sx_mono (D1 := xS_X11_isRank) (fr_f_X11_isRank (p := p2) x2 p1.2 hp2) (fun o k h => h.elim) (fun o k h => h.elim) (fun o h => h.elim) (fun o h => h.elim))) (sx_mono (D1 := xS_X4_lay 56) (fr_f_X4_lay (p := p3) 56 x1 p2.2 sh_56 hp3) (fun o k h => Or.elim h (fun q => (fun q => Or.inr (Or.inr (Or.inr (Or.inr (Or.inr (Or.inl q)))))) q) (fun q0 => Or.elim q0 (fun q => (fun q => Or.inr (Or.inr (Or.inr (Or.inr (Or.inr (Or.inr (Or.inl q))))))) q) (fun q1 => Or.elim q1 (fun q => (fun q => Or.inr (Or.inr (Or.inr (Or.inr (Or.inr (Or.inr (Or.inr (Or.inl q)))))))) q) (fun q2 => Or.elim q2 (fun q => (fun q => Or.inr (Or.inr (Or.inr (Or.inr (Or.inr (Or.inr (Or.inr (Or.inr (Or.inl q))))))))) q) (fun q3 => Or.elim q3 (fun q => (fun q => Or.inr (Or.inr (Or.inr (Or.inr (Or.inr (Or.inr (Or.inr (Or.inr (Or.inr (Or.inl q)))))))))) q) (fun q4 => Or.elim q4 (fun q => (fun q => Or.inr (Or.inr (Or.inr (Or.inr (Or.inr (Or.inr (Or.inr (Or.inr (Or.inr (Or.inr (Or.inl q))))))))))) q) (fun q5 => (fun q => Or.inr (Or.inr (Or.inr (Or.inr (Or.inr (Or.inr (Or.inr (Or.inr (Or.inr (Or.inr (Or.inr (q)))))))))))) q5))))))) (fun o k h => (fun q => q) h) (fun o h => Or.elim h (fun q => (fun q => Or.inl q) q) (fun q0 => Or.elim q0 (fun q => (fun q => Or.inr (Or.inl q)) q) (fun q1 => (fun q => Or.inr (Or.inr (Or.inl q))) q1))) (fun o h => (fun q => q) h))) (sx_mono (D1 := xS_X4_lay 57) (fr_f_X4_lay (p := p4) 57 x2 p3.2 sh_57 hp4) (fun o k h => Or.elim h (fun q => (fun q => Or.inr (Or.inr (Or.inr (Or.inr (Or.inr (Or.inl q)))))) q) (fun q0 => Or.elim q0 (fun q => (fun q => Or.inr (Or.inr (Or.inr (Or.inr (Or.inr (Or.inr (Or.inl q))))))) q) (fun q1 => Or.elim q1 (fun q => (fun q => Or.inr (Or.inr (Or.inr (Or.inr (Or.inr (Or.inr (Or.inr (Or.inl q)))))))) q) (fun q2 => Or.elim q2 (fun q => (fun q => Or.inr (Or.inr (Or.inr (Or.inr (Or.inr (Or.inr (Or.inr (Or.inr (Or.inl q))))))))) q) (fun q3 => Or.elim q3 (fun q => (fun q => Or.inr (Or.inr (Or.inr (Or.inr (Or.inr (Or.inr (Or.inr (Or.inr (Or.inr (Or.inl q)))))))))) q) (fun q4 => Or.elim q4 (fun q => (fun q => Or.inr (Or.inr (Or.inr (Or.inr (Or.inr (Or.inr (Or.inr (Or.inr (Or.inr (Or.inr (Or.inl q))))))))))) q) (fun q5 => (fun q => Or.inr (Or.inr (Or.inr (Or.inr (Or.inr (Or.inr (Or.inr (Or.inr (Or.inr (Or.inr (Or.inr (q)))))))))))) q5))))))) (fun o k h => (fun q => q) h) (fun o h => Or.elim h (fun q => (fun q => Or.inl q) q) (fun q0 => Or.elim q0 (fun q => (fun q => Or.inr (Or.inl q)) q) (fun q1 => (fun q => Or.inr (Or.inr (Or.inr (q)))) q1))) (fun o h => (fun q => q) h))) (sx_mono (D1 := xS_X10_trace 56 57) (fr_f_X10_trace (p := p5) 56 57 (rI p4.2 3 1) p4.2 sh_56 sh_57 hp5) (fun o k h => Or.elim h (fun q => (fun q => Or.inl q) q) (fun q0 => Or.elim q0 (fun q => (fun q => Or.inr (Or.inl q)) q) (fun q1 => Or.elim q1 (fun q => (fun q => Or.inr (Or.inr (Or.inl q))) q) (fun q2 => Or.elim q2 (fun q => (fun q => Or.inr (Or.inr (Or.inr (Or.inl q)))) q) (fun q3 => (fun q => Or.inr (Or.inr (Or.inr (Or.inr (Or.inl q))))) q3))))) (fun o k h => h.elim) (fun o h => h.elim) (fun o h => h.elim)))
              rcases ax_or hf with ⟨hc3, hf⟩ | ⟨hc3, hf⟩
              · exact ax_ret (P := fun q : Int32 × sx_M => sx_eq (xS_X11_rounds) s q.2) hf (sx_tr (sx_tr (sx_tr (sx_tr (sx_tr (sx_rf _ s) (sx_mono (D1 := xS_X11_isRank) (fr_f_X11_isRank (p := p1) x1 s hp1) (fun o k h => h.elim) (fun o k h => h.elim) (fun o h => h.elim) (fun o h => h.elim))) (sx_mono (D1 := xS_X11_isRank) (fr_f_X11_isRank (p := p2) x2 p1.2 hp2) (fun o k h => h.elim) (fun o k h => h.elim) (fun o h => h.elim) (fun o h => h.elim))) (sx_mono (D1 := xS_X4_lay 56) (fr_f_X4_lay (p := p3) 56 x1 p2.2 sh_56 hp3) (fun o k h => Or.elim h (fun q => (fun q => Or.inr (Or.inr (Or.inr (Or.inr (Or.inr (Or.inl q)))))) q) (fun q0 => Or.elim q0 (fun q => (fun q => Or.inr (Or.inr (Or.inr (Or.inr (Or.inr (Or.inr (Or.inl q))))))) q) (fun q1 => Or.elim q1 (fun q => (fun q => Or.inr (Or.inr (Or.inr (Or.inr (Or.inr (Or.inr (Or.inr (Or.inl q)))))))) q) (fun q2 => Or.elim q2 (fun q => (fun q => Or.inr (Or.inr (Or.inr (Or.inr (Or.inr (Or.inr (Or.inr (Or.inr (Or.inl q))))))))) q) (fun q3 => Or.elim q3 (fun q => (fun q => Or.inr (Or.inr (Or.inr (Or.inr (Or.inr (Or.inr (Or.inr (Or.inr (Or.inr (Or.inl q)))))))))) q) (fun q4 => Or.elim q4 (fun q => (fun q => Or.inr (Or.inr (Or.inr (Or.inr (Or.inr (Or.inr (Or.inr (Or.inr (Or.inr (Or.inr (Or.inl q))))))))))) q) (fun q5 => (fun q => Or.inr (Or.inr (Or.inr (Or.inr (Or.inr (Or.inr (Or.inr (Or.inr (Or.inr (Or.inr (Or.inr (q)))))))))))) q5))))))) (fun o k h => (fun q => q) h) (fun o h => Or.elim h (fun q => (fun q => Or.inl q) q) (fun q0 => Or.elim q0 (fun q => (fun q => Or.inr (Or.inl q)) q) (fun q1 => (fun q => Or.inr (Or.inr (Or.inl q))) q1))) (fun o h => (fun q => q) h))) (sx_mono (D1 := xS_X4_lay 57) (fr_f_X4_lay (p := p4) 57 x2 p3.2 sh_57 hp4) (fun o k h => Or.elim h (fun q => (fun q => Or.inr (Or.inr (Or.inr (Or.inr (Or.inr (Or.inl q)))))) q) (fun q0 => Or.elim q0 (fun q => (fun q => Or.inr (Or.inr (Or.inr (Or.inr (Or.inr (Or.inr (Or.inl q))))))) q) (fun q1 => Or.elim q1 (fun q => (fun q => Or.inr (Or.inr (Or.inr (Or.inr (Or.inr (Or.inr (Or.inr (Or.inl q)))))))) q) (fun q2 => Or.elim q2 (fun q => (fun q => Or.inr (Or.inr (Or.inr (Or.inr (Or.inr (Or.inr (Or.inr (Or.inr (Or.inl q))))))))) q) (fun q3 => Or.elim q3 (fun q => (fun q => Or.inr (Or.inr (Or.inr (Or.inr (Or.inr (Or.inr (Or.inr (Or.inr (Or.inr (Or.inl q)))))))))) q) (fun q4 => Or.elim q4 (fun q => (fun q => Or.inr (Or.inr (Or.inr (Or.inr (Or.inr (Or.inr (Or.inr (Or.inr (Or.inr (Or.inr (Or.inl q))))))))))) q) (fun q5 => (fun q => Or.inr (Or.inr (Or.inr (Or.inr (Or.inr (Or.inr (Or.inr (Or.inr (Or.inr (Or.inr (Or.inr (q)))))))))))) q5))))))) (fun o k h => (fun q => q) h) (fun o h => Or.elim h (fun q => (fun q => Or.inl q) q) (fun q0 => Or.elim q0 (fun q => (fun q => Or.inr (Or.inl q)) q) (fun q1 => (fun q => Or.inr (Or.inr (Or.inr (q)))) q1))) (fun o h => (fun q => q) h))) (sx_mono (D1 := xS_X10_trace 56 57) (fr_f_X10_trace (p := p5) 56 57 (rI p4.2 3 1) p4.2 sh_56 sh_57 hp5) (fun o k h => Or.elim h (fun q => (fun q => Or.inl q) q) (fun q0 => Or.elim q0 (fun q => (fun q => Or.inr (Or.inl q)) q) (fun q1 => Or.elim q1 (fun q => (fun q => Or.inr (Or.inr (Or.inl q))) q) (fun q2 => Or.elim q2 (fun q => (fun q => Or.inr (Or.inr (Or.inr (Or.inl q)))) q) (fun q3 => (fun q => Or.inr (Or.inr (Or.inr (Or.inr (Or.inl q))))) q3))))) (fun o k h => h.elim) (fun o h => h.elim) (fun o h => h.elim)))
              exact ax_ret (P := fun q : Int32 × sx_M => sx_eq (xS_X11_rounds) s q.2) hf (sx_tr (sx_tr (sx_tr (sx_tr (sx_tr (sx_rf _ s) (sx_mono (D1 := xS_X11_isRank) (fr_f_X11_isRank (p := p1) x1 s hp1) (fun o k h => h.elim) (fun o k h => h.elim) (fun o h => h.elim) (fun o h => h.elim))) (sx_mono (D1 := xS_X11_isRank) (fr_f_X11_isRank (p := p2) x2 p1.2 hp2) (fun o k h => h.elim) (fun o k h => h.elim) (fun o h => h.elim) (fun o h => h.elim))) (sx_mono (D1 := xS_X4_lay 56) (fr_f_X4_lay (p := p3) 56 x1 p2.2 sh_56 hp3) (fun o k h => Or.elim h (fun q => (fun q => Or.inr (Or.inr (Or.inr (Or.inr (Or.inr (Or.inl q)))))) q) (fun q0 => Or.elim q0 (fun q => (fun q => Or.inr (Or.inr (Or.inr (Or.inr (Or.inr (Or.inr (Or.inl q))))))) q) (fun q1 => Or.elim q1 (fun q => (fun q => Or.inr (Or.inr (Or.inr (Or.inr (Or.inr (Or.inr (Or.inr (Or.inl q)))))))) q) (fun q2 => Or.elim q2 (fun q => (fun q => Or.inr (Or.inr (Or.inr (Or.inr (Or.inr (Or.inr (Or.inr (Or.inr (Or.inl q))))))))) q) (fun q3 => Or.elim q3 (fun q => (fun q => Or.inr (Or.inr (Or.inr (Or.inr (Or.inr (Or.inr (Or.inr (Or.inr (Or.inr (Or.inl q)))))))))) q) (fun q4 => Or.elim q4 (fun q => (fun q => Or.inr (Or.inr (Or.inr (Or.inr (Or.inr (Or.inr (Or.inr (Or.inr (Or.inr (Or.inr (Or.inl q))))))))))) q) (fun q5 => (fun q => Or.inr (Or.inr (Or.inr (Or.inr (Or.inr (Or.inr (Or.inr (Or.inr (Or.inr (Or.inr (Or.inr (q)))))))))))) q5))))))) (fun o k h => (fun q => q) h) (fun o h => Or.elim h (fun q => (fun q => Or.inl q) q) (fun q0 => Or.elim q0 (fun q => (fun q => Or.inr (Or.inl q)) q) (fun q1 => (fun q => Or.inr (Or.inr (Or.inl q))) q1))) (fun o h => (fun q => q) h))) (sx_mono (D1 := xS_X4_lay 57) (fr_f_X4_lay (p := p4) 57 x2 p3.2 sh_57 hp4) (fun o k h => Or.elim h (fun q => (fun q => Or.inr (Or.inr (Or.inr (Or.inr (Or.inr (Or.inl q)))))) q) (fun q0 => Or.elim q0 (fun q => (fun q => Or.inr (Or.inr (Or.inr (Or.inr (Or.inr (Or.inr (Or.inl q))))))) q) (fun q1 => Or.elim q1 (fun q => (fun q => Or.inr (Or.inr (Or.inr (Or.inr (Or.inr (Or.inr (Or.inr (Or.inl q)))))))) q) (fun q2 => Or.elim q2 (fun q => (fun q => Or.inr (Or.inr (Or.inr (Or.inr (Or.inr (Or.inr (Or.inr (Or.inr (Or.inl q))))))))) q) (fun q3 => Or.elim q3 (fun q => (fun q => Or.inr (Or.inr (Or.inr (Or.inr (Or.inr (Or.inr (Or.inr (Or.inr (Or.inr (Or.inl q)))))))))) q) (fun q4 => Or.elim q4 (fun q => (fun q => Or.inr (Or.inr (Or.inr (Or.inr (Or.inr (Or.inr (Or.inr (Or.inr (Or.inr (Or.inr (Or.inl q))))))))))) q) (fun q5 => (fun q => Or.inr (Or.inr (Or.inr (Or.inr (Or.inr (Or.inr (Or.inr (Or.inr (Or.inr (Or.inr (Or.inr (q)))))))))))) q5))))))) (fun o k h => (fun q => q) h) (fun o h => Or.elim h (fun q => (fun q => Or.inl q) q) (fun q0 => Or.elim q0 (fun q => (fun q => Or.inr (Or.inl q)) q) (fun q1 => (fun q => Or.inr (Or.inr (Or.inr (q)))) q1))) (fun o h => (fun q => q) h))) (sx_mono (D1 := xS_X10_trace 56 57) (fr_f_X10_trace (p := p5) 56 57 (rI p4.2 3 1) p4.2 sh_56 sh_57 hp5) (fun o k h => Or.elim h (fun q => (fun q => Or.inl q) q) (fun q0 => Or.elim q0 (fun q => (fun q => Or.inr (Or.inl q)) q) (fun q1 => Or.elim q1 (fun q => (fun q => Or.inr (Or.inr (Or.inl q))) q) (fun q2 => Or.elim q2 (fun q => (fun q => Or.inr (Or.inr (Or.inr (Or.inl q)))) q) (fun q3 => (fun q => Or.inr (Or.inr (Or.inr (Or.inr (Or.inl q))))) q3))))) (fun o k h => h.elim) (fun o h => h.elim) (fun o h => h.elim)))
        · exact ax_ret (P := fun q : Int32 × sx_M => sx_eq (xS_X11_rounds) s q.2) hf (sx_tr (sx_tr (sx_rf _ s) (sx_mono (D1 := xS_X11_isRank) (fr_f_X11_isRank (p := p1) x1 s hp1) (fun o k h => h.elim) (fun o k h => h.elim) (fun o h => h.elim) (fun o h => h.elim))) (sx_mono (D1 := xS_X11_isRank) (fr_f_X11_isRank (p := p2) x2 p1.2 hp2) (fun o k h => h.elim) (fun o k h => h.elim) (fun o h => h.elim) (fun o h => h.elim)))
abbrev xI_X11_often : Nat → Nat → Prop := fun o k => (o = 9 ∧ k = 10) ∨ (o = 9 ∧ k = 11) ∨ (o = 9 ∧ k = 12) ∨ (o = 9 ∧ k = 4) ∨ (o = 9 ∧ k = 5) ∨ (o = 9 ∧ k = 7) ∨ (o = 9 ∧ k = 9)
abbrev xJ_X11_often : Nat → Nat → Prop := fun o k => (o = 9 ∧ k = 6)
abbrev xA_X11_often : Nat → Prop := fun o => o = 10 ∨ o = 12
abbrev xB_X11_often : Nat → Prop := fun o => o = 11
abbrev xS_X11_often : sx_D := (xI_X11_often, xJ_X11_often, xA_X11_often, xB_X11_often)
set_option maxRecDepth 100000 in
set_option maxHeartbeats 1000000 in
theorem fr_f_X11_often (x1 : Int32) (x2 : Int32) (x3 : Int32) (s : sx_M) {p : Int32 × sx_M} (hf : f_X11_often x1 x2 x3 s = some p) : sx_eq (xS_X11_often) s p.2 := by
  unfold f_X11_often at hf
  obtain ⟨p1, hp1, hf⟩ := ax_bind hf
  rcases ax_or hf with ⟨hc3, hf⟩ | ⟨hc3, hf⟩
  · exact ax_ret (P := fun q : Int32 × sx_M => sx_eq (xS_X11_often) s q.2) hf (sx_tr (sx_rf _ s) (sx_mono (D1 := xS_X1_has 3) (fr_f_X1_has (p := p1) 3 x1 x2 s ax_G3 hp1) (fun o k h => h.elim) (fun o k h => h.elim) (fun o h => h.elim) (fun o h => h.elim)))
  · rcases ax_or hf with ⟨hc2, hf⟩ | ⟨hc2, hf⟩
    · exact ax_ret (P := fun q : Int32 × sx_M => sx_eq (xS_X11_often) s q.2) hf (sx_tr (sx_rf _ s) (sx_mono (D1 := xS_X1_has 3) (fr_f_X1_has (p := p1) 3 x1 x2 s ax_G3 hp1) (fun o k h => h.elim) (fun o k h => h.elim) (fun o h => h.elim) (fun o h => h.elim)))
    · rcases ax_or hf with ⟨hc1, hf⟩ | ⟨hc1, hf⟩
      · obtain ⟨p2, hp2, hf⟩ := ax_bind hf
        exact ax_ret (P := fun q : Int32 × sx_M => sx_eq (xS_X11_often) s q.2) hf (sx_tr (sx_tr (sx_rf _ s) (sx_mono (D1 := xS_X1_has 3) (fr_f_X1_has (p := p1) 3 x1 x2 s ax_G3 hp1) (fun o k h => h.elim) (fun o k h => h.elim) (fun o h => h.elim) (fun o h => h.elim))) (sx_mono (D1 := xS_X4_with) (fr_f_X4_with (p := p2) x1 x2 x3 p1.2 hp2) (fun o k h => Or.elim h (fun q => (fun q => Or.inl q) q) (fun q0 => Or.elim q0 (fun q => (fun q => Or.inr (Or.inl q)) q) (fun q1 => Or.elim q1 (fun q => (fun q => Or.inr (Or.inr (Or.inl q))) q) (fun q2 => Or.elim q2 (fun q => (fun q => Or.inr (Or.inr (Or.inr (Or.inl q)))) q) (fun q3 => Or.elim q3 (fun q => (fun q => Or.inr (Or.inr (Or.inr (Or.inr (Or.inl q))))) q) (fun q4 => Or.elim q4 (fun q => (fun q => Or.inr (Or.inr (Or.inr (Or.inr (Or.inr (Or.inl q)))))) q) (fun q5 => (fun q => Or.inr (Or.inr (Or.inr (Or.inr (Or.inr (Or.inr (q))))))) q5))))))) (fun o k h => (fun q => q) h) (fun o h => Or.elim h (fun q => (fun q => Or.inl q) q) (fun q0 => (fun q => Or.inr (q)) q0)) (fun o h => (fun q => q) h)))
      · exact ax_ret (P := fun q : Int32 × sx_M => sx_eq (xS_X11_often) s q.2) hf (sx_tr (sx_rf _ s) (sx_mono (D1 := xS_X1_has 3) (fr_f_X1_has (p := p1) 3 x1 x2 s ax_G3 hp1) (fun o k h => h.elim) (fun o k h => h.elim) (fun o h => h.elim) (fun o h => h.elim)))
abbrev xI_X11_supposeForced : Nat → Nat → Prop := fun o k => (o = 13 ∧ k = 1) ∨ (o = 13 ∧ k = 2)
abbrev xJ_X11_supposeForced : Nat → Nat → Prop := fun o k => False
abbrev xA_X11_supposeForced : Nat → Prop := fun o => o = (13 + 3)
abbrev xB_X11_supposeForced : Nat → Prop := fun o => o = (13 + 1) ∨ o = (13 + 4) ∨ o = (13 + 5)
abbrev xS_X11_supposeForced : sx_D := (xI_X11_supposeForced, xJ_X11_supposeForced, xA_X11_supposeForced, xB_X11_supposeForced)
set_option maxRecDepth 100000 in
set_option maxHeartbeats 1000000 in
theorem fr_f_X11_supposeForced (x1 : Int32) (x2 : Int32) (s : sx_M) {p : sx_M} (hf : f_X11_supposeForced x1 x2 s = some p) : sx_eq (xS_X11_supposeForced) s p := by
  unfold f_X11_supposeForced at hf
  obtain ⟨p1, hp1, hf⟩ := ax_bind hf
  obtain ⟨b3, hb3, hf⟩ := ax_bind hf
  have hvb3 := wh_inv ((0 : Int32), p1) (fun a13 : Int32 × sx_M => sx_eq (xS_X11_supposeForced) s a13.2) (fun e : sx_M => sx_eq (xS_X11_supposeForced) s e) hb3 ?_ (sx_tr (sx_rf _ s) (sx_mono (D1 := xS_X1_copy 13 3) (fr_f_X1_copy (p := p1) 13 3 s ax_G13 ax_G3 hp1) (fun o k h => Or.elim h (fun q => (fun q => Or.inl q) q) (fun q0 => (fun q => Or.inr (q)) q0)) (fun o k h => h.elim) (fun o h => h.elim) (fun o h => (fun q => Or.inl q) h)))
  rotate_left
  · intro a13 r ha13 hf
    unfold f_X11_supposeForced_L13 at hf
    rcases ax_or hf with ⟨hc2, hf⟩ | ⟨hc2, hf⟩
    · exact ax_ret (P := Sum.elim (fun a13 : Int32 × sx_M => sx_eq (xS_X11_supposeForced) s a13.2) (fun e : sx_M => sx_eq (xS_X11_supposeForced) s e)) hf ha13
    · rcases ax_or hf with ⟨hc1, hf⟩ | ⟨hc1, hf⟩
      · exact ax_ret (P := Sum.elim (fun a13 : Int32 × sx_M => sx_eq (xS_X11_supposeForced) s a13.2) (fun e : sx_M => sx_eq (xS_X11_supposeForced) s e)) hf ha13
      · obtain ⟨p2, hp2, hf⟩ := ax_bind hf
        exact ax_ret (P := Sum.elim (fun a13 : Int32 × sx_M => sx_eq (xS_X11_supposeForced) s a13.2) (fun e : sx_M => sx_eq (xS_X11_supposeForced) s e)) hf (sx_tr ha13 (sx_mono (D1 := xS_X1_put 13) (fr_f_X1_put (p := p2) 13 x1 a13.1 (9223372036854775807 : Int64) a13.2 ax_G13 hp2) (fun o k h => h.elim) (fun o k h => h.elim) (fun o h => h.elim) (fun o h => (fun q => Or.inl q) h)))
  obtain ⟨p4, hp4, hf⟩ := ax_bind hf
  exact ax_ret (P := fun q : sx_M => sx_eq (xS_X11_supposeForced) s q) hf (sx_tr hvb3 (sx_mono (D1 := xS_X5_refresh 13) (fr_f_X5_refresh (p := p4) 13 b3 ax_RK13 hp4) (fun o k h => h.elim) (fun o k h => h.elim) (fun o h => (fun q => q) h) (fun o h => Or.elim h (fun q => (fun q => Or.inr (Or.inl q)) q) (fun q0 => (fun q => Or.inr (Or.inr (q))) q0))))
abbrev xI_X11_forced : Nat → Nat → Prop := fun o k => (o = 13 ∧ k = 1) ∨ (o = 13 ∧ k = 2)
abbrev xJ_X11_forced : Nat → Nat → Prop := fun o k => False
abbrev xA_X11_forced : Nat → Prop := fun o => o = (13 + 3)
abbrev xB_X11_forced : Nat → Prop := fun o => o = (13 + 1) ∨ o = (13 + 4) ∨ o = (13 + 5)
abbrev xS_X11_forced : sx_D := (xI_X11_forced, xJ_X11_forced, xA_X11_forced, xB_X11_forced)
set_option maxRecDepth 100000 in
set_option maxHeartbeats 1000000 in
theorem fr_f_X11_forced (x1 : Int32) (x2 : Int32) (s : sx_M) {p : Int64 × sx_M} (hf : f_X11_forced x1 x2 s = some p) : sx_eq (xS_X11_forced) s p.2 := by
  unfold f_X11_forced at hf
  obtain ⟨p1, hp1, hf⟩ := ax_bind hf
  rcases ax_or hf with ⟨hc1, hf⟩ | ⟨hc1, hf⟩
  · exact ax_ret (P := fun q : Int64 × sx_M => sx_eq (xS_X11_forced) s q.2) hf (sx_tr (sx_rf _ s) (sx_mono (D1 := xS_X1_has 3) (fr_f_X1_has (p := p1) 3 x1 x2 s ax_G3 hp1) (fun o k h => h.elim) (fun o k h => h.elim) (fun o h => h.elim) (fun o h => h.elim)))
  · obtain ⟨p2, hp2, hf⟩ := ax_bind hf
    obtain ⟨p3, hp3, hf⟩ := ax_bind hf
    exact ax_ret (P := fun q : Int64 × sx_M => sx_eq (xS_X11_forced) s q.2) hf (sx_tr (sx_tr (sx_tr (sx_rf _ s) (sx_mono (D1 := xS_X1_has 3) (fr_f_X1_has (p := p1) 3 x1 x2 s ax_G3 hp1) (fun o k h => h.elim) (fun o k h => h.elim) (fun o h => h.elim) (fun o h => h.elim))) (sx_mono (D1 := xS_X11_supposeForced) (fr_f_X11_supposeForced (p := p2) x1 x2 p1.2 hp2) (fun o k h => Or.elim h (fun q => (fun q => Or.inl q) q) (fun q0 => (fun q => Or.inr (q)) q0)) (fun o k h => h.elim) (fun o h => (fun q => q) h) (fun o h => Or.elim h (fun q => (fun q => Or.inl q) q) (fun q0 => Or.elim q0 (fun q => (fun q => Or.inr (Or.inl q)) q) (fun q1 => (fun q => Or.inr (Or.inr (q))) q1))))) (sx_mono (D1 := xS_X5_leastSum 13) (fr_f_X5_leastSum (p := p3) 13 p2 ax_RK13 hp3) (fun o k h => h.elim) (fun o k h => h.elim) (fun o h => h.elim) (fun o h => h.elim)))
abbrev xI_X11_supposeCost : Nat → Nat → Prop := fun o k => (o = 13 ∧ k = 1) ∨ (o = 13 ∧ k = 2)
abbrev xJ_X11_supposeCost : Nat → Nat → Prop := fun o k => False
abbrev xA_X11_supposeCost : Nat → Prop := fun o => o = (13 + 3)
abbrev xB_X11_supposeCost : Nat → Prop := fun o => o = (13 + 1) ∨ o = (13 + 4) ∨ o = (13 + 5)
abbrev xS_X11_supposeCost : sx_D := (xI_X11_supposeCost, xJ_X11_supposeCost, xA_X11_supposeCost, xB_X11_supposeCost)
set_option maxRecDepth 100000 in
set_option maxHeartbeats 1000000 in
theorem fr_f_X11_supposeCost (x1 : Int32) (x2 : Int32) (x3 : Int64) (s : sx_M) {p : sx_M} (hf : f_X11_supposeCost x1 x2 x3 s = some p) : sx_eq (xS_X11_supposeCost) s p := by
  unfold f_X11_supposeCost at hf
  obtain ⟨p1, hp1, hf⟩ := ax_bind hf
  obtain ⟨p2, hp2, hf⟩ := ax_bind hf
  obtain ⟨p3, hp3, hf⟩ := ax_bind hf
  exact ax_ret (P := fun q : sx_M => sx_eq (xS_X11_supposeCost) s q) hf (sx_tr (sx_tr (sx_tr (sx_rf _ s) (sx_mono (D1 := xS_X1_copy 13 3) (fr_f_X1_copy (p := p1) 13 3 s ax_G13 ax_G3 hp1) (fun o k h => Or.elim h (fun q => (fun q => Or.inl q) q) (fun q0 => (fun q => Or.inr (q)) q0)) (fun o k h => h.elim) (fun o h => h.elim) (fun o h => (fun q => Or.inl q) h))) (sx_mono (D1 := xS_X1_put 13) (fr_f_X1_put (p := p2) 13 x1 x2 x3 p1 ax_G13 hp2) (fun o k h => h.elim) (fun o k h => h.elim) (fun o h => h.elim) (fun o h => (fun q => Or.inl q) h))) (sx_mono (D1 := xS_X5_refresh 13) (fr_f_X5_refresh (p := p3) 13 p2 ax_RK13 hp3) (fun o k h => h.elim) (fun o k h => h.elim) (fun o h => (fun q => q) h) (fun o h => Or.elim h (fun q => (fun q => Or.inr (Or.inl q)) q) (fun q0 => (fun q => Or.inr (Or.inr (q))) q0))))
abbrev xI_X11_without : Nat → Nat → Prop := fun o k => (o = 13 ∧ k = 1) ∨ (o = 13 ∧ k = 2)
abbrev xJ_X11_without : Nat → Nat → Prop := fun o k => False
abbrev xA_X11_without : Nat → Prop := fun o => o = (13 + 3)
abbrev xB_X11_without : Nat → Prop := fun o => o = (13 + 1) ∨ o = (13 + 4) ∨ o = (13 + 5)
abbrev xS_X11_without : sx_D := (xI_X11_without, xJ_X11_without, xA_X11_without, xB_X11_without)
set_option maxRecDepth 100000 in
set_option maxHeartbeats 1000000 in
theorem fr_f_X11_without (x1 : Int32) (x2 : Int32) (s : sx_M) {p : Int64 × sx_M} (hf : f_X11_without x1 x2 s = some p) : sx_eq (xS_X11_without) s p.2 := by
  unfold f_X11_without at hf
  obtain ⟨p1, hp1, hf⟩ := ax_bind hf
  rcases ax_or hf with ⟨hc1, hf⟩ | ⟨hc1, hf⟩
  · exact ax_ret (P := fun q : Int64 × sx_M => sx_eq (xS_X11_without) s q.2) hf (sx_tr (sx_rf _ s) (sx_mono (D1 := xS_X1_has 3) (fr_f_X1_has (p := p1) 3 x1 x2 s ax_G3 hp1) (fun o k h => h.elim) (fun o k h => h.elim) (fun o h => h.elim) (fun o h => h.elim)))
  · obtain ⟨p2, hp2, hf⟩ := ax_bind hf
    obtain ⟨p3, hp3, hf⟩ := ax_bind hf
    exact ax_ret (P := fun q : Int64 × sx_M => sx_eq (xS_X11_without) s q.2) hf (sx_tr (sx_tr (sx_tr (sx_rf _ s) (sx_mono (D1 := xS_X1_has 3) (fr_f_X1_has (p := p1) 3 x1 x2 s ax_G3 hp1) (fun o k h => h.elim) (fun o k h => h.elim) (fun o h => h.elim) (fun o h => h.elim))) (sx_mono (D1 := xS_X11_supposeCost) (fr_f_X11_supposeCost (p := p2) x1 x2 (9223372036854775807 : Int64) p1.2 hp2) (fun o k h => Or.elim h (fun q => (fun q => Or.inl q) q) (fun q0 => (fun q => Or.inr (q)) q0)) (fun o k h => h.elim) (fun o h => (fun q => q) h) (fun o h => Or.elim h (fun q => (fun q => Or.inl q) q) (fun q0 => Or.elim q0 (fun q => (fun q => Or.inr (Or.inl q)) q) (fun q1 => (fun q => Or.inr (Or.inr (q))) q1))))) (sx_mono (D1 := xS_X5_leastSum 13) (fr_f_X5_leastSum (p := p3) 13 p2 ax_RK13 hp3) (fun o k h => h.elim) (fun o k h => h.elim) (fun o h => h.elim) (fun o h => h.elim)))
abbrev xI_X11_stays : Nat → Nat → Prop := fun o k => (o = 13 ∧ k = 1) ∨ (o = 13 ∧ k = 2)
abbrev xJ_X11_stays : Nat → Nat → Prop := fun o k => False
abbrev xA_X11_stays : Nat → Prop := fun o => o = (13 + 3) ∨ o = 56
abbrev xB_X11_stays : Nat → Prop := fun o => o = (13 + 1) ∨ o = (13 + 4) ∨ o = (13 + 5)
abbrev xS_X11_stays : sx_D := (xI_X11_stays, xJ_X11_stays, xA_X11_stays, xB_X11_stays)
set_option maxRecDepth 100000 in
set_option maxHeartbeats 1000000 in
theorem fr_f_X11_stays (x1 : Int32) (x2 : Int32) (x3 : Int32) (s : sx_M) {p : Int64 × sx_M} (hf : f_X11_stays x1 x2 x3 s = some p) : sx_eq (xS_X11_stays) s p.2 := by
  unfold f_X11_stays at hf
  have J101 : ∀ (y1_101 : Int32) (y2_101 : Int32) (y4_101 : Int32) (t0_101 : Int64) (s_101 : sx_M), sx_eq (xS_X11_stays) s s_101 → f_X11_stays_J101 y1_101 y2_101 y4_101 t0_101 s_101 = some p → sx_eq (xS_X11_stays) s p.2 := by
    intro y1_101 y2_101 y4_101 t0_101 s_101 hs_101 hf
    unfold f_X11_stays_J101 at hf
    rcases ax_or hf with ⟨hc2, hf⟩ | ⟨hc2, hf⟩
    · exact ax_ret (P := fun q : Int64 × sx_M => sx_eq (xS_X11_stays) s q.2) hf hs_101
    · obtain ⟨p1, hp1, hf⟩ := ax_bind hf
      obtain ⟨p2, hp2, hf⟩ := ax_bind hf
      rcases ax_or hf with ⟨hc1, hf⟩ | ⟨hc1, hf⟩
      · exact ax_ret (P := fun q : Int64 × sx_M => sx_eq (xS_X11_stays) s q.2) hf (sx_tr (sx_tr hs_101 (sx_mono (D1 := xS_X5_leastSum 3) (fr_f_X5_leastSum (p := p1) 3 s_101 ax_RK3 hp1) (fun o k h => h.elim) (fun o k h => h.elim) (fun o h => h.elim) (fun o h => h.elim))) (sx_mono (D1 := xS_X1_at 3) (fr_f_X1_at (p := p2) 3 y1_101 y2_101 p1.2 ax_G3 hp2) (fun o k h => h.elim) (fun o k h => h.elim) (fun o h => h.elim) (fun o h => h.elim)))
      · exact ax_ret (P := fun q : Int64 × sx_M => sx_eq (xS_X11_stays) s q.2) hf (sx_tr (sx_tr hs_101 (sx_mono (D1 := xS_X5_leastSum 3) (fr_f_X5_leastSum (p := p1) 3 s_101 ax_RK3 hp1) (fun o k h => h.elim) (fun o k h => h.elim) (fun o h => h.elim) (fun o h => h.elim))) (sx_mono (D1 := xS_X1_at 3) (fr_f_X1_at (p := p2) 3 y1_101 y2_101 p1.2 ax_G3 hp2) (fun o k h => h.elim) (fun o k h => h.elim) (fun o h => h.elim) (fun o h => h.elim)))
  have J74 : ∀ (y1_74 : Int32) (y2_74 : Int32) (y4_74 : Int32) (t0_74 : Int32) (t1_74 : Int32) (s_74 : sx_M), sx_eq (xS_X11_stays) s s_74 → f_X11_stays_J74 y1_74 y2_74 y4_74 t0_74 t1_74 s_74 = some p → sx_eq (xS_X11_stays) s p.2 := by
    intro y1_74 y2_74 y4_74 t0_74 t1_74 s_74 hs_74 hf
    unfold f_X11_stays_J74 at hf
    rcases ax_or hf with ⟨hc4, hf⟩ | ⟨hc4, hf⟩
    · rcases ax_or hf with ⟨hc3, hf⟩ | ⟨hc3, hf⟩
      · obtain ⟨p3, hp3, hf⟩ := ax_bind hf
        exact J101 y1_74 y2_74 y4_74 p3.1 p3.2 (sx_tr hs_74 (sx_mono (D1 := xS_X11_forced) (fr_f_X11_forced (p := p3) y1_74 y2_74 s_74 hp3) (fun o k h => Or.elim h (fun q => (fun q => Or.inl q) q) (fun q0 => (fun q => Or.inr (q)) q0)) (fun o k h => h.elim) (fun o h => (fun q => Or.inl q) h) (fun o h => Or.elim h (fun q => (fun q => Or.inl q) q) (fun q0 => Or.elim q0 (fun q => (fun q => Or.inr (Or.inl q)) q) (fun q1 => (fun q => Or.inr (Or.inr (q))) q1))))) hf
      · obtain ⟨p4, hp4, hf⟩ := ax_bind hf
        exact J101 y1_74 y2_74 y4_74 p4.1 p4.2 (sx_tr hs_74 (sx_mono (D1 := xS_X11_without) (fr_f_X11_without (p := p4) y1_74 y2_74 s_74 hp4) (fun o k h => Or.elim h (fun q => (fun q => Or.inl q) q) (fun q0 => (fun q => Or.inr (q)) q0)) (fun o k h => h.elim) (fun o h => (fun q => Or.inl q) h) (fun o h => Or.elim h (fun q => (fun q => Or.inl q) q) (fun q0 => Or.elim q0 (fun q => (fun q => Or.inr (Or.inl q)) q) (fun q1 => (fun q => Or.inr (Or.inr (q))) q1))))) hf
    · exact ax_ret (P := fun q : Int64 × sx_M => sx_eq (xS_X11_stays) s q.2) hf hs_74
  have J61 : ∀ (y1_61 : Int32) (y2_61 : Int32) (y3_61 : Int32) (t0_61 : Int32) (s_61 : sx_M), sx_eq (xS_X11_stays) s s_61 → f_X11_stays_J61 y1_61 y2_61 y3_61 t0_61 s_61 = some p → sx_eq (xS_X11_stays) s p.2 := by
    intro y1_61 y2_61 y3_61 t0_61 s_61 hs_61 hf
    unfold f_X11_stays_J61 at hf
    rcases ax_or hf with ⟨hc5, hf⟩ | ⟨hc5, hf⟩
    · exact J74 y1_61 y2_61 t0_61 y3_61 (0 : Int32) s_61 hs_61 hf
    · exact J74 y1_61 y2_61 t0_61 y3_61 (1 : Int32) s_61 hs_61 hf
  obtain ⟨p5, hp5, hf⟩ := ax_bind hf
  rcases ax_or hf with ⟨hc10, hf⟩ | ⟨hc10, hf⟩
  · exact ax_ret (P := fun q : Int64 × sx_M => sx_eq (xS_X11_stays) s q.2) hf (sx_tr (sx_rf _ s) (sx_mono (D1 := xS_X1_has 3) (fr_f_X1_has (p := p5) 3 x1 x2 s ax_G3 hp5) (fun o k h => h.elim) (fun o k h => h.elim) (fun o h => h.elim) (fun o h => h.elim)))
  · obtain ⟨p6, hp6, hf⟩ := ax_bind hf
    rcases ax_or hf with ⟨hc9, hf⟩ | ⟨hc9, hf⟩
    · exact ax_ret (P := fun q : Int64 × sx_M => sx_eq (xS_X11_stays) s q.2) hf (sx_tr (sx_tr (sx_rf _ s) (sx_mono (D1 := xS_X1_has 3) (fr_f_X1_has (p := p5) 3 x1 x2 s ax_G3 hp5) (fun o k h => h.elim) (fun o k h => h.elim) (fun o h => h.elim) (fun o h => h.elim))) (sx_mono (D1 := xS_X1_at 3) (fr_f_X1_at (p := p6) 3 x1 x2 p5.2 ax_G3 hp6) (fun o k h => h.elim) (fun o k h => h.elim) (fun o h => h.elim) (fun o h => h.elim)))
    · obtain ⟨p7, hp7, hf⟩ := ax_bind hf
      rcases ax_or hf with ⟨hc8, hf⟩ | ⟨hc8, hf⟩
      · exact ax_ret (P := fun q : Int64 × sx_M => sx_eq (xS_X11_stays) s q.2) hf (sx_tr (sx_tr (sx_tr (sx_rf _ s) (sx_mono (D1 := xS_X1_has 3) (fr_f_X1_has (p := p5) 3 x1 x2 s ax_G3 hp5) (fun o k h => h.elim) (fun o k h => h.elim) (fun o h => h.elim) (fun o h => h.elim))) (sx_mono (D1 := xS_X1_at 3) (fr_f_X1_at (p := p6) 3 x1 x2 p5.2 ax_G3 hp6) (fun o k h => h.elim) (fun o k h => h.elim) (fun o h => h.elim) (fun o h => h.elim))) (sx_mono (D1 := xS_X5_findFirst 3 56) (fr_f_X5_findFirst (p := p7) 3 56 p6.2 ax_RK3 sh_56 hp7) (fun o k h => h.elim) (fun o k h => h.elim) (fun o h => (fun q => Or.inr (q)) h) (fun o h => h.elim)))
      · obtain ⟨_, hf⟩ := ax_ite hf
        rcases ax_or hf with ⟨hc7, hf⟩ | ⟨hc7, hf⟩
        · exact J61 x1 x2 x3 (1 : Int32) p7.2 (sx_tr (sx_tr (sx_tr (sx_rf _ s) (sx_mono (D1 := xS_X1_has 3) (fr_f_X1_has (p := p5) 3 x1 x2 s ax_G3 hp5) (fun o k h => h.elim) (fun o k h => h.elim) (fun o h => h.elim) (fun o h => h.elim))) (sx_mono (D1 := xS_X1_at 3) (fr_f_X1_at (p := p6) 3 x1 x2 p5.2 ax_G3 hp6) (fun o k h => h.elim) (fun o k h => h.elim) (fun o h => h.elim) (fun o h => h.elim))) (sx_mono (D1 := xS_X5_findFirst 3 56) (fr_f_X5_findFirst (p := p7) 3 56 p6.2 ax_RK3 sh_56 hp7) (fun o k h => h.elim) (fun o k h => h.elim) (fun o h => (fun q => Or.inr (q)) h) (fun o h => h.elim))) hf
        · exact J61 x1 x2 x3 (0 : Int32) p7.2 (sx_tr (sx_tr (sx_tr (sx_rf _ s) (sx_mono (D1 := xS_X1_has 3) (fr_f_X1_has (p := p5) 3 x1 x2 s ax_G3 hp5) (fun o k h => h.elim) (fun o k h => h.elim) (fun o h => h.elim) (fun o h => h.elim))) (sx_mono (D1 := xS_X1_at 3) (fr_f_X1_at (p := p6) 3 x1 x2 p5.2 ax_G3 hp6) (fun o k h => h.elim) (fun o k h => h.elim) (fun o h => h.elim) (fun o h => h.elim))) (sx_mono (D1 := xS_X5_findFirst 3 56) (fr_f_X5_findFirst (p := p7) 3 56 p6.2 ax_RK3 sh_56 hp7) (fun o k h => h.elim) (fun o k h => h.elim) (fun o h => (fun q => Or.inr (q)) h) (fun o h => h.elim))) hf
abbrev xI_X11_would : Nat → Nat → Prop := fun o k => (o = 13 ∧ k = 1) ∨ (o = 13 ∧ k = 2)
abbrev xJ_X11_would : Nat → Nat → Prop := fun o k => False
abbrev xA_X11_would : Nat → Prop := fun o => o = (13 + 3)
abbrev xB_X11_would : Nat → Prop := fun o => o = (13 + 1) ∨ o = (13 + 4) ∨ o = (13 + 5)
abbrev xS_X11_would : sx_D := (xI_X11_would, xJ_X11_would, xA_X11_would, xB_X11_would)
set_option maxRecDepth 100000 in
set_option maxHeartbeats 1000000 in
theorem fr_f_X11_would (x1 : Int32) (x2 : Int32) (x3 : Int32) (s : sx_M) {p : Int64 × sx_M} (hf : f_X11_would x1 x2 x3 s = some p) : sx_eq (xS_X11_would) s p.2 := by
  unfold f_X11_would at hf
  obtain ⟨p1, hp1, hf⟩ := ax_bind hf
  rcases ax_or hf with ⟨hc2, hf⟩ | ⟨hc2, hf⟩
  · exact ax_ret (P := fun q : Int64 × sx_M => sx_eq (xS_X11_would) s q.2) hf (sx_tr (sx_rf _ s) (sx_mono (D1 := xS_X1_has 3) (fr_f_X1_has (p := p1) 3 x1 x2 s ax_G3 hp1) (fun o k h => h.elim) (fun o k h => h.elim) (fun o h => h.elim) (fun o h => h.elim)))
  · obtain ⟨p2, hp2, hf⟩ := ax_bind hf
    rcases ax_or hf with ⟨hc1, hf⟩ | ⟨hc1, hf⟩
    · exact ax_ret (P := fun q : Int64 × sx_M => sx_eq (xS_X11_would) s q.2) hf (sx_tr (sx_tr (sx_rf _ s) (sx_mono (D1 := xS_X1_has 3) (fr_f_X1_has (p := p1) 3 x1 x2 s ax_G3 hp1) (fun o k h => h.elim) (fun o k h => h.elim) (fun o h => h.elim) (fun o h => h.elim))) (sx_mono (D1 := xS_X11_isCost) (fr_f_X11_isCost (p := p2) ((x3).toInt64) p1.2 hp2) (fun o k h => h.elim) (fun o k h => h.elim) (fun o h => h.elim) (fun o h => h.elim)))
    · obtain ⟨p3, hp3, hf⟩ := ax_bind hf
      obtain ⟨p4, hp4, hf⟩ := ax_bind hf
      exact ax_ret (P := fun q : Int64 × sx_M => sx_eq (xS_X11_would) s q.2) hf (sx_tr (sx_tr (sx_tr (sx_tr (sx_rf _ s) (sx_mono (D1 := xS_X1_has 3) (fr_f_X1_has (p := p1) 3 x1 x2 s ax_G3 hp1) (fun o k h => h.elim) (fun o k h => h.elim) (fun o h => h.elim) (fun o h => h.elim))) (sx_mono (D1 := xS_X11_isCost) (fr_f_X11_isCost (p := p2) ((x3).toInt64) p1.2 hp2) (fun o k h => h.elim) (fun o k h => h.elim) (fun o h => h.elim) (fun o h => h.elim))) (sx_mono (D1 := xS_X11_supposeCost) (fr_f_X11_supposeCost (p := p3) x1 x2 ((x3).toInt64) p2.2 hp3) (fun o k h => Or.elim h (fun q => (fun q => Or.inl q) q) (fun q0 => (fun q => Or.inr (q)) q0)) (fun o k h => h.elim) (fun o h => (fun q => q) h) (fun o h => Or.elim h (fun q => (fun q => Or.inl q) q) (fun q0 => Or.elim q0 (fun q => (fun q => Or.inr (Or.inl q)) q) (fun q1 => (fun q => Or.inr (Or.inr (q))) q1))))) (sx_mono (D1 := xS_X5_leastSum 13) (fr_f_X5_leastSum (p := p4) 13 p3 ax_RK13 hp4) (fun o k h => h.elim) (fun o k h => h.elim) (fun o h => h.elim) (fun o h => h.elim)))
abbrev xI_X11_ever : Nat → Nat → Prop := fun o k => (o = 13 ∧ k = 1) ∨ (o = 13 ∧ k = 2)
abbrev xJ_X11_ever : Nat → Nat → Prop := fun o k => False
abbrev xA_X11_ever : Nat → Prop := fun o => o = (13 + 3)
abbrev xB_X11_ever : Nat → Prop := fun o => o = (13 + 1) ∨ o = (13 + 4) ∨ o = (13 + 5)
abbrev xS_X11_ever : sx_D := (xI_X11_ever, xJ_X11_ever, xA_X11_ever, xB_X11_ever)
set_option maxRecDepth 100000 in
set_option maxHeartbeats 1000000 in
theorem fr_f_X11_ever (x1 : Int32) (s : sx_M) {p : Int32 × sx_M} (hf : f_X11_ever x1 s = some p) : sx_eq (xS_X11_ever) s p.2 := by
  unfold f_X11_ever at hf
  obtain ⟨p1, hp1, hf⟩ := ax_bind hf
  rcases ax_or hf with ⟨hc4, hf⟩ | ⟨hc4, hf⟩
  · exact ax_ret (P := fun q : Int32 × sx_M => sx_eq (xS_X11_ever) s q.2) hf (sx_tr (sx_rf _ s) (sx_mono (D1 := xS_X1_hasWorker 3) (fr_f_X1_hasWorker (p := p1) 3 x1 s ax_G3 hp1) (fun o k h => h.elim) (fun o k h => h.elim) (fun o h => h.elim) (fun o h => h.elim)))
  · obtain ⟨p2, hp2, hf⟩ := ax_bind hf
    obtain ⟨b4, hb4, hf⟩ := ax_bind hf
    have hvb4 := wh_inv ((0 : Int32), (0 : Int32), p2.2) (fun a28 : Int32 × Int32 × sx_M => sx_eq (xS_X11_ever) s a28.2.2) (fun e : Int32 × sx_M => sx_eq (xS_X11_ever) s e.2) hb4 ?_ (sx_tr (sx_tr (sx_rf _ s) (sx_mono (D1 := xS_X1_hasWorker 3) (fr_f_X1_hasWorker (p := p1) 3 x1 s ax_G3 hp1) (fun o k h => h.elim) (fun o k h => h.elim) (fun o h => h.elim) (fun o h => h.elim))) (sx_mono (D1 := xS_X5_leastSum 3) (fr_f_X5_leastSum (p := p2) 3 p1.2 ax_RK3 hp2) (fun o k h => h.elim) (fun o k h => h.elim) (fun o h => h.elim) (fun o h => h.elim)))
    rotate_left
    · intro a28 r ha28 hf
      unfold f_X11_ever_L28 at hf
      rcases ax_or hf with ⟨hc3, hf⟩ | ⟨hc3, hf⟩
      · exact ax_ret (P := Sum.elim (fun a28 : Int32 × Int32 × sx_M => sx_eq (xS_X11_ever) s a28.2.2) (fun e : Int32 × sx_M => sx_eq (xS_X11_ever) s e.2)) hf ha28
      · rcases ax_or hf with ⟨hc2, hf⟩ | ⟨hc2, hf⟩
        · exact ax_ret (P := Sum.elim (fun a28 : Int32 × Int32 × sx_M => sx_eq (xS_X11_ever) s a28.2.2) (fun e : Int32 × sx_M => sx_eq (xS_X11_ever) s e.2)) hf ha28
        · obtain ⟨p3, hp3, hf⟩ := ax_bind hf
          rcases ax_or hf with ⟨hc1, hf⟩ | ⟨hc1, hf⟩
          · exact ax_ret (P := Sum.elim (fun a28 : Int32 × Int32 × sx_M => sx_eq (xS_X11_ever) s a28.2.2) (fun e : Int32 × sx_M => sx_eq (xS_X11_ever) s e.2)) hf (sx_tr ha28 (sx_mono (D1 := xS_X11_forced) (fr_f_X11_forced (p := p3) x1 a28.2.1 a28.2.2 hp3) (fun o k h => Or.elim h (fun q => (fun q => Or.inl q) q) (fun q0 => (fun q => Or.inr (q)) q0)) (fun o k h => h.elim) (fun o h => (fun q => q) h) (fun o h => Or.elim h (fun q => (fun q => Or.inl q) q) (fun q0 => Or.elim q0 (fun q => (fun q => Or.inr (Or.inl q)) q) (fun q1 => (fun q => Or.inr (Or.inr (q))) q1)))))
          · exact ax_ret (P := Sum.elim (fun a28 : Int32 × Int32 × sx_M => sx_eq (xS_X11_ever) s a28.2.2) (fun e : Int32 × sx_M => sx_eq (xS_X11_ever) s e.2)) hf (sx_tr ha28 (sx_mono (D1 := xS_X11_forced) (fr_f_X11_forced (p := p3) x1 a28.2.1 a28.2.2 hp3) (fun o k h => Or.elim h (fun q => (fun q => Or.inl q) q) (fun q0 => (fun q => Or.inr (q)) q0)) (fun o k h => h.elim) (fun o h => (fun q => q) h) (fun o h => Or.elim h (fun q => (fun q => Or.inl q) q) (fun q0 => Or.elim q0 (fun q => (fun q => Or.inr (Or.inl q)) q) (fun q1 => (fun q => Or.inr (Or.inr (q))) q1)))))
    exact ax_ret (P := fun q : Int32 × sx_M => sx_eq (xS_X11_ever) s q.2) hf hvb4
abbrev xI_X11_only : Nat → Nat → Prop := fun o k => (o = 13 ∧ k = 1) ∨ (o = 13 ∧ k = 2)
abbrev xJ_X11_only : Nat → Nat → Prop := fun o k => False
abbrev xA_X11_only : Nat → Prop := fun o => o = (13 + 3)
abbrev xB_X11_only : Nat → Prop := fun o => o = (13 + 1) ∨ o = (13 + 4) ∨ o = (13 + 5)
abbrev xS_X11_only : sx_D := (xI_X11_only, xJ_X11_only, xA_X11_only, xB_X11_only)
set_option maxRecDepth 100000 in
set_option maxHeartbeats 1000000 in
theorem fr_f_X11_only (x1 : Int32) (s : sx_M) {p : Int64 × sx_M} (hf : f_X11_only x1 s = some p) : sx_eq (xS_X11_only) s p.2 := by
  unfold f_X11_only at hf
  rcases ax_or hf with ⟨hc4, hf⟩ | ⟨hc4, hf⟩
  · exact ax_ret (P := fun q : Int64 × sx_M => sx_eq (xS_X11_only) s q.2) hf (sx_rf _ s)
  · rcases ax_or hf with ⟨hc3, hf⟩ | ⟨hc3, hf⟩
    · obtain ⟨p1, hp1, hf⟩ := ax_bind hf
      obtain ⟨b3, hb3, hf⟩ := ax_bind hf
      have hvb3 := wh_inv ((0 : Int32), p1) (fun a34 : Int32 × sx_M => sx_eq (xS_X11_only) s a34.2) (fun e : sx_M => sx_eq (xS_X11_only) s e) hb3 ?_ (sx_tr (sx_rf _ s) (sx_mono (D1 := xS_X1_copy 13 3) (fr_f_X1_copy (p := p1) 13 3 s ax_G13 ax_G3 hp1) (fun o k h => Or.elim h (fun q => (fun q => Or.inl q) q) (fun q0 => (fun q => Or.inr (q)) q0)) (fun o k h => h.elim) (fun o h => h.elim) (fun o h => (fun q => Or.inl q) h)))
      rotate_left
      · intro a34 r ha34 hf
        unfold f_X11_only_L34 at hf
        rcases ax_or hf with ⟨hc2, hf⟩ | ⟨hc2, hf⟩
        · exact ax_ret (P := Sum.elim (fun a34 : Int32 × sx_M => sx_eq (xS_X11_only) s a34.2) (fun e : sx_M => sx_eq (xS_X11_only) s e)) hf ha34
        · rcases ax_or hf with ⟨hc1, hf⟩ | ⟨hc1, hf⟩
          · obtain ⟨p2, hp2, hf⟩ := ax_bind hf
            exact ax_ret (P := Sum.elim (fun a34 : Int32 × sx_M => sx_eq (xS_X11_only) s a34.2) (fun e : sx_M => sx_eq (xS_X11_only) s e)) hf (sx_tr ha34 (sx_mono (D1 := xS_X1_barJob 13) (fr_f_X1_barJob (p := p2) 13 a34.1 a34.2 ax_G13 hp2) (fun o k h => h.elim) (fun o k h => h.elim) (fun o h => h.elim) (fun o h => (fun q => Or.inl q) h)))
          · exact ax_ret (P := Sum.elim (fun a34 : Int32 × sx_M => sx_eq (xS_X11_only) s a34.2) (fun e : sx_M => sx_eq (xS_X11_only) s e)) hf ha34
      obtain ⟨p4, hp4, hf⟩ := ax_bind hf
      obtain ⟨p5, hp5, hf⟩ := ax_bind hf
      exact ax_ret (P := fun q : Int64 × sx_M => sx_eq (xS_X11_only) s q.2) hf (sx_tr (sx_tr hvb3 (sx_mono (D1 := xS_X5_refresh 13) (fr_f_X5_refresh (p := p4) 13 b3 ax_RK13 hp4) (fun o k h => h.elim) (fun o k h => h.elim) (fun o h => (fun q => q) h) (fun o h => Or.elim h (fun q => (fun q => Or.inr (Or.inl q)) q) (fun q0 => (fun q => Or.inr (Or.inr (q))) q0)))) (sx_mono (D1 := xS_X5_leastSum 13) (fr_f_X5_leastSum (p := p5) 13 p4 ax_RK13 hp5) (fun o k h => h.elim) (fun o k h => h.elim) (fun o h => h.elim) (fun o h => h.elim)))
    · exact ax_ret (P := fun q : Int64 × sx_M => sx_eq (xS_X11_only) s q.2) hf (sx_rf _ s)
abbrev xI_X11_blocked : Nat → Nat → Prop := fun o k => False
abbrev xJ_X11_blocked : Nat → Nat → Prop := fun o k => False
abbrev xA_X11_blocked : Nat → Prop := fun o => False
abbrev xB_X11_blocked : Nat → Prop := fun o => False
abbrev xS_X11_blocked : sx_D := (xI_X11_blocked, xJ_X11_blocked, xA_X11_blocked, xB_X11_blocked)
set_option maxRecDepth 100000 in
set_option maxHeartbeats 1000000 in
theorem fr_f_X11_blocked (s : sx_M) {p : Int32 × sx_M} (hf : f_X11_blocked s = some p) : sx_eq (xS_X11_blocked) s p.2 := by
  unfold f_X11_blocked at hf
  obtain ⟨b4, hb4, hf⟩ := ax_bind hf
  have hvb4 := wh_inv ((1 : Int32), s) (fun a12 : Int32 × sx_M => sx_eq (xS_X11_blocked) s a12.2) (Sum.elim (fun e : sx_M => sx_eq (xS_X11_blocked) s e) (fun v : Int32 × sx_M => sx_eq (xS_X11_blocked) s v.2)) hb4 ?_ (sx_rf _ s)
  rotate_left
  · intro a12 r ha12 hf
    unfold f_X11_blocked_L12 at hf
    rcases ax_or hf with ⟨hc2, hf⟩ | ⟨hc2, hf⟩
    · exact ax_ret (P := Sum.elim (fun a12 : Int32 × sx_M => sx_eq (xS_X11_blocked) s a12.2) (Sum.elim (fun e : sx_M => sx_eq (xS_X11_blocked) s e) (fun v : Int32 × sx_M => sx_eq (xS_X11_blocked) s v.2))) hf ha12
    · obtain ⟨p1, hp1, hf⟩ := ax_bind hf
      obtain ⟨p2, hp2, hf⟩ := ax_bind hf
      obtain ⟨p3, hp3, hf⟩ := ax_bind hf
      rcases ax_or hf with ⟨hc1, hf⟩ | ⟨hc1, hf⟩
      · exact ax_ret (P := Sum.elim (fun a12 : Int32 × sx_M => sx_eq (xS_X11_blocked) s a12.2) (Sum.elim (fun e : sx_M => sx_eq (xS_X11_blocked) s e) (fun v : Int32 × sx_M => sx_eq (xS_X11_blocked) s v.2))) hf (sx_tr (sx_tr (sx_tr ha12 (sx_mono (D1 := xS_X1_jobsOpenTo 3) (fr_f_X1_jobsOpenTo (p := p1) 3 a12.1 a12.2 ax_G3 hp1) (fun o k h => h.elim) (fun o k h => h.elim) (fun o h => h.elim) (fun o h => h.elim))) (sx_mono (D1 := xS_J6_bitCount_0f7a4) (fr_f_J6_bitCount_0f7a4 (p := p2) p1.1 p1.2 hp2) (fun o k h => h.elim) (fun o k h => h.elim) (fun o h => h.elim) (fun o h => h.elim))) (sx_mono (D1 := xS_J6_bitCount_0f7a4) (fr_f_J6_bitCount_0f7a4 (p := p3) a12.1 p2.2 hp3) (fun o k h => h.elim) (fun o k h => h.elim) (fun o h => h.elim) (fun o h => h.elim)))
      · exact ax_ret (P := Sum.elim (fun a12 : Int32 × sx_M => sx_eq (xS_X11_blocked) s a12.2) (Sum.elim (fun e : sx_M => sx_eq (xS_X11_blocked) s e) (fun v : Int32 × sx_M => sx_eq (xS_X11_blocked) s v.2))) hf (sx_tr (sx_tr (sx_tr ha12 (sx_mono (D1 := xS_X1_jobsOpenTo 3) (fr_f_X1_jobsOpenTo (p := p1) 3 a12.1 a12.2 ax_G3 hp1) (fun o k h => h.elim) (fun o k h => h.elim) (fun o h => h.elim) (fun o h => h.elim))) (sx_mono (D1 := xS_J6_bitCount_0f7a4) (fr_f_J6_bitCount_0f7a4 (p := p2) p1.1 p1.2 hp2) (fun o k h => h.elim) (fun o k h => h.elim) (fun o h => h.elim) (fun o h => h.elim))) (sx_mono (D1 := xS_J6_bitCount_0f7a4) (fr_f_J6_bitCount_0f7a4 (p := p3) a12.1 p2.2 hp3) (fun o k h => h.elim) (fun o k h => h.elim) (fun o h => h.elim) (fun o h => h.elim)))
  rcases b4 with e5 | e6
  · exact ax_ret (P := fun q : Int32 × sx_M => sx_eq (xS_X11_blocked) s q.2) hf hvb4
  · exact ax_ret (P := fun q : Int32 × sx_M => sx_eq (xS_X11_blocked) s q.2) hf hvb4
abbrev xI_X11_price : Nat → Nat → Prop := fun o k => (o = 13 ∧ k = 1) ∨ (o = 13 ∧ k = 2)
abbrev xJ_X11_price : Nat → Nat → Prop := fun o k => False
abbrev xA_X11_price : Nat → Prop := fun o => o = (13 + 3)
abbrev xB_X11_price : Nat → Prop := fun o => o = (13 + 1) ∨ o = (13 + 4) ∨ o = (13 + 5)
abbrev xS_X11_price : sx_D := (xI_X11_price, xJ_X11_price, xA_X11_price, xB_X11_price)
set_option maxRecDepth 100000 in
set_option maxHeartbeats 1000000 in
theorem fr_f_X11_price (x1 : Int32) (s : sx_M) {p : Int64 × sx_M} (hf : f_X11_price x1 s = some p) : sx_eq (xS_X11_price) s p.2 := by
  unfold f_X11_price at hf
  obtain ⟨p1, hp1, hf⟩ := ax_bind hf
  rcases ax_or hf with ⟨hc1, hf⟩ | ⟨hc1, hf⟩
  · exact ax_ret (P := fun q : Int64 × sx_M => sx_eq (xS_X11_price) s q.2) hf (sx_tr (sx_rf _ s) (sx_mono (D1 := xS_X1_hasJob 3) (fr_f_X1_hasJob (p := p1) 3 x1 s ax_G3 hp1) (fun o k h => h.elim) (fun o k h => h.elim) (fun o h => h.elim) (fun o h => h.elim)))
  · obtain ⟨p2, hp2, hf⟩ := ax_bind hf
    obtain ⟨p3, hp3, hf⟩ := ax_bind hf
    obtain ⟨p4, hp4, hf⟩ := ax_bind hf
    obtain ⟨p5, hp5, hf⟩ := ax_bind hf
    obtain ⟨p6, hp6, hf⟩ := ax_bind hf
    obtain ⟨p7, hp7, hf⟩ := ax_bind hf
    exact ax_ret (P := fun q : Int64 × sx_M => sx_eq (xS_X11_price) s q.2) hf (sx_tr (sx_tr (sx_tr (sx_tr (sx_tr (sx_tr (sx_tr (sx_rf _ s) (sx_mono (D1 := xS_X1_hasJob 3) (fr_f_X1_hasJob (p := p1) 3 x1 s ax_G3 hp1) (fun o k h => h.elim) (fun o k h => h.elim) (fun o h => h.elim) (fun o h => h.elim))) (sx_mono (D1 := xS_X1_copy 13 3) (fr_f_X1_copy (p := p2) 13 3 p1.2 ax_G13 ax_G3 hp2) (fun o k h => Or.elim h (fun q => (fun q => Or.inl q) q) (fun q0 => (fun q => Or.inr (q)) q0)) (fun o k h => h.elim) (fun o h => h.elim) (fun o h => (fun q => Or.inl q) h))) (sx_mono (D1 := xS_X1_barJob 13) (fr_f_X1_barJob (p := p3) 13 x1 p2 ax_G13 hp3) (fun o k h => h.elim) (fun o k h => h.elim) (fun o h => h.elim) (fun o h => (fun q => Or.inl q) h))) (sx_mono (D1 := xS_X5_refresh 13) (fr_f_X5_refresh (p := p4) 13 p3 ax_RK13 hp4) (fun o k h => h.elim) (fun o k h => h.elim) (fun o h => (fun q => q) h) (fun o h => Or.elim h (fun q => (fun q => Or.inr (Or.inl q)) q) (fun q0 => (fun q => Or.inr (Or.inr (q))) q0)))) (sx_mono (D1 := xS_X5_leastSum 13) (fr_f_X5_leastSum (p := p5) 13 p4 ax_RK13 hp5) (fun o k h => h.elim) (fun o k h => h.elim) (fun o h => h.elim) (fun o h => h.elim))) (sx_mono (D1 := xS_X5_leastSum 3) (fr_f_X5_leastSum (p := p6) 3 p5.2 ax_RK3 hp6) (fun o k h => h.elim) (fun o k h => h.elim) (fun o h => h.elim) (fun o h => h.elim))) (sx_mono (D1 := xS_X11_difference) (fr_f_X11_difference (p := p7) p5.1 p6.1 p6.2 hp7) (fun o k h => h.elim) (fun o k h => h.elim) (fun o h => h.elim) (fun o h => h.elim)))
abbrev xI_X11_pay : Nat → Nat → Prop := fun o k => (o = 13 ∧ k = 1) ∨ (o = 13 ∧ k = 2)
abbrev xJ_X11_pay : Nat → Nat → Prop := fun o k => False
abbrev xA_X11_pay : Nat → Prop := fun o => o = (13 + 3) ∨ o = 56
abbrev xB_X11_pay : Nat → Prop := fun o => o = (13 + 1) ∨ o = (13 + 4) ∨ o = (13 + 5)
abbrev xS_X11_pay : sx_D := (xI_X11_pay, xJ_X11_pay, xA_X11_pay, xB_X11_pay)
set_option maxRecDepth 100000 in
set_option maxHeartbeats 1000000 in
theorem fr_f_X11_pay (x1 : Int32) (s : sx_M) {p : Int64 × sx_M} (hf : f_X11_pay x1 s = some p) : sx_eq (xS_X11_pay) s p.2 := by
  unfold f_X11_pay at hf
  obtain ⟨p1, hp1, hf⟩ := ax_bind hf
  rcases ax_or hf with ⟨hc3, hf⟩ | ⟨hc3, hf⟩
  · exact ax_ret (P := fun q : Int64 × sx_M => sx_eq (xS_X11_pay) s q.2) hf (sx_tr (sx_rf _ s) (sx_mono (D1 := xS_X1_hasWorker 3) (fr_f_X1_hasWorker (p := p1) 3 x1 s ax_G3 hp1) (fun o k h => h.elim) (fun o k h => h.elim) (fun o h => h.elim) (fun o h => h.elim)))
  · obtain ⟨p2, hp2, hf⟩ := ax_bind hf
    rcases ax_or hf with ⟨hc2, hf⟩ | ⟨hc2, hf⟩
    · exact ax_ret (P := fun q : Int64 × sx_M => sx_eq (xS_X11_pay) s q.2) hf (sx_tr (sx_tr (sx_rf _ s) (sx_mono (D1 := xS_X1_hasWorker 3) (fr_f_X1_hasWorker (p := p1) 3 x1 s ax_G3 hp1) (fun o k h => h.elim) (fun o k h => h.elim) (fun o h => h.elim) (fun o h => h.elim))) (sx_mono (D1 := xS_X5_findFirst 3 56) (fr_f_X5_findFirst (p := p2) 3 56 p1.2 ax_RK3 sh_56 hp2) (fun o k h => h.elim) (fun o k h => h.elim) (fun o h => (fun q => Or.inr (q)) h) (fun o h => h.elim)))
    · obtain ⟨p3, hp3, hf⟩ := ax_bind hf
      obtain ⟨p4, hp4, hf⟩ := ax_bind hf
      obtain ⟨p5, hp5, hf⟩ := ax_bind hf
      obtain ⟨p6, hp6, hf⟩ := ax_bind hf
      obtain ⟨_, hf⟩ := ax_ite hf
      obtain ⟨p7, hp7, hf⟩ := ax_bind hf
      obtain ⟨p8, hp8, hf⟩ := ax_bind hf
      obtain ⟨p9, hp9, hf⟩ := ax_bind hf
      obtain ⟨p10, hp10, hf⟩ := ax_bind hf
      exact ax_ret (P := fun q : Int64 × sx_M => sx_eq (xS_X11_pay) s q.2) hf (sx_tr (sx_tr (sx_tr (sx_tr (sx_tr (sx_tr (sx_tr (sx_tr (sx_tr (sx_tr (sx_rf _ s) (sx_mono (D1 := xS_X1_hasWorker 3) (fr_f_X1_hasWorker (p := p1) 3 x1 s ax_G3 hp1) (fun o k h => h.elim) (fun o k h => h.elim) (fun o h => h.elim) (fun o h => h.elim))) (sx_mono (D1 := xS_X5_findFirst 3 56) (fr_f_X5_findFirst (p := p2) 3 56 p1.2 ax_RK3 sh_56 hp2) (fun o k h => h.elim) (fun o k h => h.elim) (fun o h => (fun q => Or.inr (q)) h) (fun o h => h.elim))) (sx_mono (D1 := xS_X1_copy 13 3) (fr_f_X1_copy (p := p3) 13 3 p2.2 ax_G13 ax_G3 hp3) (fun o k h => Or.elim h (fun q => (fun q => Or.inl q) q) (fun q0 => (fun q => Or.inr (q)) q0)) (fun o k h => h.elim) (fun o h => h.elim) (fun o h => (fun q => Or.inl q) h))) (sx_mono (D1 := xS_X1_dropWorker 13) (fr_f_X1_dropWorker (p := p4) 13 x1 p3 ax_G13 hp4) (fun o k h => (fun q => Or.inl q) h) (fun o k h => h.elim) (fun o h => h.elim) (fun o h => (fun q => Or.inl q) h))) (sx_mono (D1 := xS_X5_refresh 13) (fr_f_X5_refresh (p := p5) 13 p4 ax_RK13 hp5) (fun o k h => h.elim) (fun o k h => h.elim) (fun o h => (fun q => Or.inl q) h) (fun o h => Or.elim h (fun q => (fun q => Or.inr (Or.inl q)) q) (fun q0 => (fun q => Or.inr (Or.inr (q))) q0)))) (sx_mono (D1 := xS_X5_leastSum 13) (fr_f_X5_leastSum (p := p6) 13 p5 ax_RK13 hp6) (fun o k h => h.elim) (fun o k h => h.elim) (fun o h => h.elim) (fun o h => h.elim))) (sx_mono (D1 := xS_X1_barJob 13) (fr_f_X1_barJob (p := p7) 13 (rA p6.2 56 (x1).toNatClampNeg) p6.2 ax_G13 hp7) (fun o k h => h.elim) (fun o k h => h.elim) (fun o h => h.elim) (fun o h => (fun q => Or.inl q) h))) (sx_mono (D1 := xS_X5_refresh 13) (fr_f_X5_refresh (p := p8) 13 p7 ax_RK13 hp8) (fun o k h => h.elim) (fun o k h => h.elim) (fun o h => (fun q => Or.inl q) h) (fun o h => Or.elim h (fun q => (fun q => Or.inr (Or.inl q)) q) (fun q0 => (fun q => Or.inr (Or.inr (q))) q0)))) (sx_mono (D1 := xS_X5_leastSum 13) (fr_f_X5_leastSum (p := p9) 13 p8 ax_RK13 hp9) (fun o k h => h.elim) (fun o k h => h.elim) (fun o h => h.elim) (fun o h => h.elim))) (sx_mono (D1 := xS_X11_difference) (fr_f_X11_difference (p := p10) p9.1 p6.1 p9.2 hp10) (fun o k h => h.elim) (fun o k h => h.elim) (fun o h => h.elim) (fun o h => h.elim)))
abbrev xI_X11_first : Nat → Nat → Prop := fun o k => (o = 13 ∧ k = 1) ∨ (o = 13 ∧ k = 2)
abbrev xJ_X11_first : Nat → Nat → Prop := fun o k => (o = 42 ∧ k = 6) ∨ (o = 42 ∧ k = 7)
abbrev xA_X11_first : Nat → Prop := fun o => o = (13 + 3) ∨ o = 44 ∨ o = 45
abbrev xB_X11_first : Nat → Prop := fun o => o = (13 + 1) ∨ o = (13 + 4) ∨ o = (13 + 5) ∨ o = 43
abbrev xS_X11_first : sx_D := (xI_X11_first, xJ_X11_first, xA_X11_first, xB_X11_first)
set_option maxRecDepth 100000 in
set_option maxHeartbeats 1000000 in
theorem fr_f_X11_first (x1 : Int32) (x2 : Int32) (x3 : Int32) (s : sx_M) {p : Int64 × sx_M} (hf : f_X11_first x1 x2 x3 s = some p) : sx_eq (xS_X11_first) s p.2 := by
  unfold f_X11_first at hf
  obtain ⟨p1, hp1, hf⟩ := ax_bind hf
  rcases ax_or hf with ⟨hc5, hf⟩ | ⟨hc5, hf⟩
  · exact ax_ret (P := fun q : Int64 × sx_M => sx_eq (xS_X11_first) s q.2) hf (sx_tr (sx_rf _ s) (sx_mono (D1 := xS_X11_isRule) (fr_f_X11_isRule (p := p1) x1 s hp1) (fun o k h => h.elim) (fun o k h => h.elim) (fun o h => h.elim) (fun o h => h.elim)))
  · rcases ax_or hf with ⟨hc4, hf⟩ | ⟨hc4, hf⟩
    · exact ax_ret (P := fun q : Int64 × sx_M => sx_eq (xS_X11_first) s q.2) hf (sx_tr (sx_rf _ s) (sx_mono (D1 := xS_X11_isRule) (fr_f_X11_isRule (p := p1) x1 s hp1) (fun o k h => h.elim) (fun o k h => h.elim) (fun o h => h.elim) (fun o h => h.elim)))
    · rcases ax_or hf with ⟨hc3, hf⟩ | ⟨hc3, hf⟩
      · exact ax_ret (P := fun q : Int64 × sx_M => sx_eq (xS_X11_first) s q.2) hf (sx_tr (sx_rf _ s) (sx_mono (D1 := xS_X11_isRule) (fr_f_X11_isRule (p := p1) x1 s hp1) (fun o k h => h.elim) (fun o k h => h.elim) (fun o h => h.elim) (fun o h => h.elim)))
      · obtain ⟨p2, hp2, hf⟩ := ax_bind hf
        rcases ax_or hf with ⟨hc2, hf⟩ | ⟨hc2, hf⟩
        · exact ax_ret (P := fun q : Int64 × sx_M => sx_eq (xS_X11_first) s q.2) hf (sx_tr (sx_tr (sx_rf _ s) (sx_mono (D1 := xS_X11_isRule) (fr_f_X11_isRule (p := p1) x1 s hp1) (fun o k h => h.elim) (fun o k h => h.elim) (fun o h => h.elim) (fun o h => h.elim))) (sx_mono (D1 := xS_X7_choose) (fr_f_X7_choose (p := p2) x1 x2 p1.2 hp2) (fun o k h => Or.elim h (fun q => (fun q => Or.inl q) q) (fun q0 => (fun q => Or.inr (q)) q0)) (fun o k h => Or.elim h (fun q => (fun q => Or.inl q) q) (fun q0 => (fun q => Or.inr (q)) q0)) (fun o h => Or.elim h (fun q => (fun q => Or.inl q) q) (fun q0 => Or.elim q0 (fun q => (fun q => Or.inr (Or.inl q)) q) (fun q1 => (fun q => Or.inr (Or.inr (q))) q1))) (fun o h => Or.elim h (fun q => (fun q => Or.inl q) q) (fun q0 => Or.elim q0 (fun q => (fun q => Or.inr (Or.inl q)) q) (fun q1 => Or.elim q1 (fun q => (fun q => Or.inr (Or.inr (Or.inl q))) q) (fun q2 => (fun q => Or.inr (Or.inr (Or.inr (q)))) q2))))))
        · rcases ax_or hf with ⟨hc1, hf⟩ | ⟨hc1, hf⟩
          · obtain ⟨p4, hp4, hf⟩ := ax_bind hf
            exact ax_ret (P := fun q : Int64 × sx_M => sx_eq (xS_X11_first) s q.2) hf (sx_tr (sx_tr (sx_tr (sx_rf _ s) (sx_mono (D1 := xS_X11_isRule) (fr_f_X11_isRule (p := p1) x1 s hp1) (fun o k h => h.elim) (fun o k h => h.elim) (fun o h => h.elim) (fun o h => h.elim))) (sx_mono (D1 := xS_X7_choose) (fr_f_X7_choose (p := p2) x1 x2 p1.2 hp2) (fun o k h => Or.elim h (fun q => (fun q => Or.inl q) q) (fun q0 => (fun q => Or.inr (q)) q0)) (fun o k h => Or.elim h (fun q => (fun q => Or.inl q) q) (fun q0 => (fun q => Or.inr (q)) q0)) (fun o h => Or.elim h (fun q => (fun q => Or.inl q) q) (fun q0 => Or.elim q0 (fun q => (fun q => Or.inr (Or.inl q)) q) (fun q1 => (fun q => Or.inr (Or.inr (q))) q1))) (fun o h => Or.elim h (fun q => (fun q => Or.inl q) q) (fun q0 => Or.elim q0 (fun q => (fun q => Or.inr (Or.inl q)) q) (fun q1 => Or.elim q1 (fun q => (fun q => Or.inr (Or.inr (Or.inl q))) q) (fun q2 => (fun q => Or.inr (Or.inr (Or.inr (q)))) q2)))))) (sx_mono (D1 := xS_X7_measure) (fr_f_X7_measure (p := p4) x1 x2 p2.2 hp4) (fun o k h => h.elim) (fun o k h => h.elim) (fun o h => h.elim) (fun o h => h.elim)))
          · obtain ⟨p3, hp3, hf⟩ := ax_bind hf
            exact ax_ret (P := fun q : Int64 × sx_M => sx_eq (xS_X11_first) s q.2) hf (sx_tr (sx_tr (sx_tr (sx_rf _ s) (sx_mono (D1 := xS_X11_isRule) (fr_f_X11_isRule (p := p1) x1 s hp1) (fun o k h => h.elim) (fun o k h => h.elim) (fun o h => h.elim) (fun o h => h.elim))) (sx_mono (D1 := xS_X7_choose) (fr_f_X7_choose (p := p2) x1 x2 p1.2 hp2) (fun o k h => Or.elim h (fun q => (fun q => Or.inl q) q) (fun q0 => (fun q => Or.inr (q)) q0)) (fun o k h => Or.elim h (fun q => (fun q => Or.inl q) q) (fun q0 => (fun q => Or.inr (q)) q0)) (fun o h => Or.elim h (fun q => (fun q => Or.inl q) q) (fun q0 => Or.elim q0 (fun q => (fun q => Or.inr (Or.inl q)) q) (fun q1 => (fun q => Or.inr (Or.inr (q))) q1))) (fun o h => Or.elim h (fun q => (fun q => Or.inl q) q) (fun q0 => Or.elim q0 (fun q => (fun q => Or.inr (Or.inl q)) q) (fun q1 => Or.elim q1 (fun q => (fun q => Or.inr (Or.inr (Or.inl q))) q) (fun q2 => (fun q => Or.inr (Or.inr (Or.inr (q)))) q2)))))) (sx_mono (D1 := xS_X1_sumOf 3 44) (fr_f_X1_sumOf (p := p3) 3 44 p2.2 ax_G3 sh_44 hp3) (fun o k h => h.elim) (fun o k h => h.elim) (fun o h => h.elim) (fun o h => h.elim)))
abbrev xI_X11_firstJob : Nat → Nat → Prop := fun o k => (o = 13 ∧ k = 1) ∨ (o = 13 ∧ k = 2)
abbrev xJ_X11_firstJob : Nat → Nat → Prop := fun o k => (o = 42 ∧ k = 6) ∨ (o = 42 ∧ k = 7)
abbrev xA_X11_firstJob : Nat → Prop := fun o => o = (13 + 3) ∨ o = 44 ∨ o = 45
abbrev xB_X11_firstJob : Nat → Prop := fun o => o = (13 + 1) ∨ o = (13 + 4) ∨ o = (13 + 5) ∨ o = 43
abbrev xS_X11_firstJob : sx_D := (xI_X11_firstJob, xJ_X11_firstJob, xA_X11_firstJob, xB_X11_firstJob)
set_option maxRecDepth 100000 in
set_option maxHeartbeats 1000000 in
theorem fr_f_X11_firstJob (x1 : Int32) (x2 : Int32) (x3 : Int32) (s : sx_M) {p : Int32 × sx_M} (hf : f_X11_firstJob x1 x2 x3 s = some p) : sx_eq (xS_X11_firstJob) s p.2 := by
  unfold f_X11_firstJob at hf
  obtain ⟨p1, hp1, hf⟩ := ax_bind hf
  rcases ax_or hf with ⟨hc4, hf⟩ | ⟨hc4, hf⟩
  · exact ax_ret (P := fun q : Int32 × sx_M => sx_eq (xS_X11_firstJob) s q.2) hf (sx_tr (sx_rf _ s) (sx_mono (D1 := xS_X11_isRule) (fr_f_X11_isRule (p := p1) x1 s hp1) (fun o k h => h.elim) (fun o k h => h.elim) (fun o h => h.elim) (fun o h => h.elim)))
  · obtain ⟨p2, hp2, hf⟩ := ax_bind hf
    rcases ax_or hf with ⟨hc3, hf⟩ | ⟨hc3, hf⟩
    · exact ax_ret (P := fun q : Int32 × sx_M => sx_eq (xS_X11_firstJob) s q.2) hf (sx_tr (sx_tr (sx_rf _ s) (sx_mono (D1 := xS_X11_isRule) (fr_f_X11_isRule (p := p1) x1 s hp1) (fun o k h => h.elim) (fun o k h => h.elim) (fun o h => h.elim) (fun o h => h.elim))) (sx_mono (D1 := xS_X1_hasWorker 3) (fr_f_X1_hasWorker (p := p2) 3 x3 p1.2 ax_G3 hp2) (fun o k h => h.elim) (fun o k h => h.elim) (fun o h => h.elim) (fun o h => h.elim)))
    · obtain ⟨p3, hp3, hf⟩ := ax_bind hf
      rcases ax_or hf with ⟨hc2, hf⟩ | ⟨hc2, hf⟩
      · exact ax_ret (P := fun q : Int32 × sx_M => sx_eq (xS_X11_firstJob) s q.2) hf (sx_tr (sx_tr (sx_tr (sx_rf _ s) (sx_mono (D1 := xS_X11_isRule) (fr_f_X11_isRule (p := p1) x1 s hp1) (fun o k h => h.elim) (fun o k h => h.elim) (fun o h => h.elim) (fun o h => h.elim))) (sx_mono (D1 := xS_X1_hasWorker 3) (fr_f_X1_hasWorker (p := p2) 3 x3 p1.2 ax_G3 hp2) (fun o k h => h.elim) (fun o k h => h.elim) (fun o h => h.elim) (fun o h => h.elim))) (sx_mono (D1 := xS_X7_choose) (fr_f_X7_choose (p := p3) x1 x2 p2.2 hp3) (fun o k h => Or.elim h (fun q => (fun q => Or.inl q) q) (fun q0 => (fun q => Or.inr (q)) q0)) (fun o k h => Or.elim h (fun q => (fun q => Or.inl q) q) (fun q0 => (fun q => Or.inr (q)) q0)) (fun o h => Or.elim h (fun q => (fun q => Or.inl q) q) (fun q0 => Or.elim q0 (fun q => (fun q => Or.inr (Or.inl q)) q) (fun q1 => (fun q => Or.inr (Or.inr (q))) q1))) (fun o h => Or.elim h (fun q => (fun q => Or.inl q) q) (fun q0 => Or.elim q0 (fun q => (fun q => Or.inr (Or.inl q)) q) (fun q1 => Or.elim q1 (fun q => (fun q => Or.inr (Or.inr (Or.inl q))) q) (fun q2 => (fun q => Or.inr (Or.inr (Or.inr (q)))) q2))))))
      · obtain ⟨_, hf⟩ := ax_ite hf
        exact ax_ret (P := fun q : Int32 × sx_M => sx_eq (xS_X11_firstJob) s q.2) hf (sx_tr (sx_tr (sx_tr (sx_rf _ s) (sx_mono (D1 := xS_X11_isRule) (fr_f_X11_isRule (p := p1) x1 s hp1) (fun o k h => h.elim) (fun o k h => h.elim) (fun o h => h.elim) (fun o h => h.elim))) (sx_mono (D1 := xS_X1_hasWorker 3) (fr_f_X1_hasWorker (p := p2) 3 x3 p1.2 ax_G3 hp2) (fun o k h => h.elim) (fun o k h => h.elim) (fun o h => h.elim) (fun o h => h.elim))) (sx_mono (D1 := xS_X7_choose) (fr_f_X7_choose (p := p3) x1 x2 p2.2 hp3) (fun o k h => Or.elim h (fun q => (fun q => Or.inl q) q) (fun q0 => (fun q => Or.inr (q)) q0)) (fun o k h => Or.elim h (fun q => (fun q => Or.inl q) q) (fun q0 => (fun q => Or.inr (q)) q0)) (fun o h => Or.elim h (fun q => (fun q => Or.inl q) q) (fun q0 => Or.elim q0 (fun q => (fun q => Or.inr (Or.inl q)) q) (fun q1 => (fun q => Or.inr (Or.inr (q))) q1))) (fun o h => Or.elim h (fun q => (fun q => Or.inl q) q) (fun q0 => Or.elim q0 (fun q => (fun q => Or.inr (Or.inl q)) q) (fun q1 => Or.elim q1 (fun q => (fun q => Or.inr (Or.inr (Or.inl q))) q) (fun q2 => (fun q => Or.inr (Or.inr (Or.inr (q)))) q2))))))
abbrev xI_X11_greedy : Nat → Nat → Prop := fun o k => (o = 46 ∧ k = 4)
abbrev xJ_X11_greedy : Nat → Nat → Prop := fun o k => (o = 46 ∧ k = 3)
abbrev xA_X11_greedy : Nat → Prop := fun o => o = 47 ∨ o = 48
abbrev xB_X11_greedy : Nat → Prop := fun o => False
abbrev xS_X11_greedy : sx_D := (xI_X11_greedy, xJ_X11_greedy, xA_X11_greedy, xB_X11_greedy)
set_option maxRecDepth 100000 in
set_option maxHeartbeats 1000000 in
theorem fr_f_X11_greedy (x1 : Int32) (s : sx_M) {p : Int64 × sx_M} (hf : f_X11_greedy x1 s = some p) : sx_eq (xS_X11_greedy) s p.2 := by
  unfold f_X11_greedy at hf
  rcases ax_or hf with ⟨hc3, hf⟩ | ⟨hc3, hf⟩
  · exact ax_ret (P := fun q : Int64 × sx_M => sx_eq (xS_X11_greedy) s q.2) hf (sx_rf _ s)
  · rcases ax_or hf with ⟨hc2, hf⟩ | ⟨hc2, hf⟩
    · obtain ⟨p1, hp1, hf⟩ := ax_bind hf
      rcases ax_or hf with ⟨hc1, hf⟩ | ⟨hc1, hf⟩
      · exact ax_ret (P := fun q : Int64 × sx_M => sx_eq (xS_X11_greedy) s q.2) hf (sx_tr (sx_rf _ s) (sx_mono (D1 := xS_X0_take) (fr_f_X0_take (p := p1) s hp1) (fun o k h => (fun q => q) h) (fun o k h => (fun q => q) h) (fun o h => Or.elim h (fun q => (fun q => Or.inl q) q) (fun q0 => (fun q => Or.inr (q)) q0)) (fun o h => h.elim)))
      · exact ax_ret (P := fun q : Int64 × sx_M => sx_eq (xS_X11_greedy) s q.2) hf (sx_tr (sx_rf _ s) (sx_mono (D1 := xS_X0_take) (fr_f_X0_take (p := p1) s hp1) (fun o k h => (fun q => q) h) (fun o k h => (fun q => q) h) (fun o h => Or.elim h (fun q => (fun q => Or.inl q) q) (fun q0 => (fun q => Or.inr (q)) q0)) (fun o h => h.elim)))
    · exact ax_ret (P := fun q : Int64 × sx_M => sx_eq (xS_X11_greedy) s q.2) hf (sx_rf _ s)
abbrev xI_X11_greedyJob : Nat → Nat → Prop := fun o k => (o = 46 ∧ k = 4)
abbrev xJ_X11_greedyJob : Nat → Nat → Prop := fun o k => (o = 46 ∧ k = 3)
abbrev xA_X11_greedyJob : Nat → Prop := fun o => o = 47 ∨ o = 48
abbrev xB_X11_greedyJob : Nat → Prop := fun o => False
abbrev xS_X11_greedyJob : sx_D := (xI_X11_greedyJob, xJ_X11_greedyJob, xA_X11_greedyJob, xB_X11_greedyJob)
set_option maxRecDepth 100000 in
set_option maxHeartbeats 1000000 in
theorem fr_f_X11_greedyJob (x1 : Int32) (s : sx_M) {p : Int32 × sx_M} (hf : f_X11_greedyJob x1 s = some p) : sx_eq (xS_X11_greedyJob) s p.2 := by
  unfold f_X11_greedyJob at hf
  obtain ⟨p1, hp1, hf⟩ := ax_bind hf
  rcases ax_or hf with ⟨hc2, hf⟩ | ⟨hc2, hf⟩
  · exact ax_ret (P := fun q : Int32 × sx_M => sx_eq (xS_X11_greedyJob) s q.2) hf (sx_tr (sx_rf _ s) (sx_mono (D1 := xS_X1_hasWorker 3) (fr_f_X1_hasWorker (p := p1) 3 x1 s ax_G3 hp1) (fun o k h => h.elim) (fun o k h => h.elim) (fun o h => h.elim) (fun o h => h.elim)))
  · obtain ⟨p2, hp2, hf⟩ := ax_bind hf
    obtain ⟨_, hf⟩ := ax_ite hf
    exact ax_ret (P := fun q : Int32 × sx_M => sx_eq (xS_X11_greedyJob) s q.2) hf (sx_tr (sx_tr (sx_rf _ s) (sx_mono (D1 := xS_X1_hasWorker 3) (fr_f_X1_hasWorker (p := p1) 3 x1 s ax_G3 hp1) (fun o k h => h.elim) (fun o k h => h.elim) (fun o h => h.elim) (fun o h => h.elim))) (sx_mono (D1 := xS_X0_take) (fr_f_X0_take (p := p2) p1.2 hp2) (fun o k h => (fun q => q) h) (fun o k h => (fun q => q) h) (fun o h => Or.elim h (fun q => (fun q => Or.inl q) q) (fun q0 => (fun q => Or.inr (q)) q0)) (fun o h => h.elim)))
abbrev xI_X11_mended : Nat → Nat → Prop := fun o k => (o = 46 ∧ k = 4) ∨ (o = 46 ∧ k = 5) ∨ (o = 46 ∧ k = 7) ∨ (o = 46 ∧ k = 8)
abbrev xJ_X11_mended : Nat → Nat → Prop := fun o k => (o = 46 ∧ k = 3) ∨ (o = 46 ∧ k = 6)
abbrev xA_X11_mended : Nat → Prop := fun o => o = 47 ∨ o = 48
abbrev xB_X11_mended : Nat → Prop := fun o => False
abbrev xS_X11_mended : sx_D := (xI_X11_mended, xJ_X11_mended, xA_X11_mended, xB_X11_mended)
set_option maxRecDepth 100000 in
set_option maxHeartbeats 1000000 in
theorem fr_f_X11_mended (x1 : Int32) (s : sx_M) {p : Int64 × sx_M} (hf : f_X11_mended x1 s = some p) : sx_eq (xS_X11_mended) s p.2 := by
  unfold f_X11_mended at hf
  rcases ax_or hf with ⟨hc4, hf⟩ | ⟨hc4, hf⟩
  · exact ax_ret (P := fun q : Int64 × sx_M => sx_eq (xS_X11_mended) s q.2) hf (sx_rf _ s)
  · rcases ax_or hf with ⟨hc3, hf⟩ | ⟨hc3, hf⟩
    · obtain ⟨p1, hp1, hf⟩ := ax_bind hf
      rcases ax_or hf with ⟨hc2, hf⟩ | ⟨hc2, hf⟩
      · obtain ⟨p2, hp2, hf⟩ := ax_bind hf
        rcases ax_or hf with ⟨hc1, hf⟩ | ⟨hc1, hf⟩
        · exact ax_ret (P := fun q : Int64 × sx_M => sx_eq (xS_X11_mended) s q.2) hf (sx_tr (sx_tr (sx_rf _ s) (sx_mono (D1 := xS_X0_take) (fr_f_X0_take (p := p1) s hp1) (fun o k h => (fun q => Or.inl q) h) (fun o k h => (fun q => Or.inl q) h) (fun o h => Or.elim h (fun q => (fun q => Or.inl q) q) (fun q0 => (fun q => Or.inr (q)) q0)) (fun o h => h.elim))) (sx_mono (D1 := xS_X0_mend) (fr_f_X0_mend (p := p2) p1 hp2) (fun o k h => Or.elim h (fun q => (fun q => Or.inr (Or.inl q)) q) (fun q0 => Or.elim q0 (fun q => (fun q => Or.inr (Or.inr (Or.inl q))) q) (fun q1 => (fun q => Or.inr (Or.inr (Or.inr (q)))) q1))) (fun o k h => Or.elim h (fun q => (fun q => Or.inl q) q) (fun q0 => (fun q => Or.inr (q)) q0)) (fun o h => Or.elim h (fun q => (fun q => Or.inl q) q) (fun q0 => (fun q => Or.inr (q)) q0)) (fun o h => h.elim)))
        · exact ax_ret (P := fun q : Int64 × sx_M => sx_eq (xS_X11_mended) s q.2) hf (sx_tr (sx_tr (sx_rf _ s) (sx_mono (D1 := xS_X0_take) (fr_f_X0_take (p := p1) s hp1) (fun o k h => (fun q => Or.inl q) h) (fun o k h => (fun q => Or.inl q) h) (fun o h => Or.elim h (fun q => (fun q => Or.inl q) q) (fun q0 => (fun q => Or.inr (q)) q0)) (fun o h => h.elim))) (sx_mono (D1 := xS_X0_mend) (fr_f_X0_mend (p := p2) p1 hp2) (fun o k h => Or.elim h (fun q => (fun q => Or.inr (Or.inl q)) q) (fun q0 => Or.elim q0 (fun q => (fun q => Or.inr (Or.inr (Or.inl q))) q) (fun q1 => (fun q => Or.inr (Or.inr (Or.inr (q)))) q1))) (fun o k h => Or.elim h (fun q => (fun q => Or.inl q) q) (fun q0 => (fun q => Or.inr (q)) q0)) (fun o h => Or.elim h (fun q => (fun q => Or.inl q) q) (fun q0 => (fun q => Or.inr (q)) q0)) (fun o h => h.elim)))
      · exact ax_ret (P := fun q : Int64 × sx_M => sx_eq (xS_X11_mended) s q.2) hf (sx_tr (sx_rf _ s) (sx_mono (D1 := xS_X0_take) (fr_f_X0_take (p := p1) s hp1) (fun o k h => (fun q => Or.inl q) h) (fun o k h => (fun q => Or.inl q) h) (fun o h => Or.elim h (fun q => (fun q => Or.inl q) q) (fun q0 => (fun q => Or.inr (q)) q0)) (fun o h => h.elim)))
    · exact ax_ret (P := fun q : Int64 × sx_M => sx_eq (xS_X11_mended) s q.2) hf (sx_rf _ s)
abbrev xI_X11_auction : Nat → Nat → Prop := fun o k => (o = 49 ∧ k = 4) ∨ (o = 49 ∧ k = 5)
abbrev xJ_X11_auction : Nat → Nat → Prop := fun o k => False
abbrev xA_X11_auction : Nat → Prop := fun o => o = 51 ∨ o = 52
abbrev xB_X11_auction : Nat → Prop := fun o => o = 50
abbrev xS_X11_auction : sx_D := (xI_X11_auction, xJ_X11_auction, xA_X11_auction, xB_X11_auction)
set_option maxRecDepth 100000 in
set_option maxHeartbeats 1000000 in
theorem fr_f_X11_auction (x1 : Int32) (x2 : Int32) (s : sx_M) {p : Int64 × sx_M} (hf : f_X11_auction x1 x2 s = some p) : sx_eq (xS_X11_auction) s p.2 := by
  unfold f_X11_auction at hf
  obtain ⟨p1, hp1, hf⟩ := ax_bind hf
  rcases ax_or hf with ⟨hc6, hf⟩ | ⟨hc6, hf⟩
  · exact ax_ret (P := fun q : Int64 × sx_M => sx_eq (xS_X11_auction) s q.2) hf (sx_tr (sx_rf _ s) (sx_mono (D1 := xS_X11_isStep) (fr_f_X11_isStep (p := p1) x1 s hp1) (fun o k h => h.elim) (fun o k h => h.elim) (fun o h => h.elim) (fun o h => h.elim)))
  · rcases ax_or hf with ⟨hc5, hf⟩ | ⟨hc5, hf⟩
    · exact ax_ret (P := fun q : Int64 × sx_M => sx_eq (xS_X11_auction) s q.2) hf (sx_tr (sx_rf _ s) (sx_mono (D1 := xS_X11_isStep) (fr_f_X11_isStep (p := p1) x1 s hp1) (fun o k h => h.elim) (fun o k h => h.elim) (fun o h => h.elim) (fun o h => h.elim)))
    · rcases ax_or hf with ⟨hc4, hf⟩ | ⟨hc4, hf⟩
      · obtain ⟨p2, hp2, hf⟩ := ax_bind hf
        rcases ax_or hf with ⟨hc3, hf⟩ | ⟨hc3, hf⟩
        · exact ax_ret (P := fun q : Int64 × sx_M => sx_eq (xS_X11_auction) s q.2) hf (sx_tr (sx_tr (sx_rf _ s) (sx_mono (D1 := xS_X11_isStep) (fr_f_X11_isStep (p := p1) x1 s hp1) (fun o k h => h.elim) (fun o k h => h.elim) (fun o h => h.elim) (fun o h => h.elim))) (sx_mono (D1 := xS_X8_hold) (fr_f_X8_hold (p := p2) x1 p1.2 hp2) (fun o k h => Or.elim h (fun q => (fun q => Or.inl q) q) (fun q0 => (fun q => Or.inr (q)) q0)) (fun o k h => h.elim) (fun o h => Or.elim h (fun q => (fun q => Or.inl q) q) (fun q0 => (fun q => Or.inr (q)) q0)) (fun o h => (fun q => q) h)))
        · rcases ax_or hf with ⟨hc2, hf⟩ | ⟨hc2, hf⟩
          · obtain ⟨p3, hp3, hf⟩ := ax_bind hf
            exact ax_ret (P := fun q : Int64 × sx_M => sx_eq (xS_X11_auction) s q.2) hf (sx_tr (sx_tr (sx_tr (sx_rf _ s) (sx_mono (D1 := xS_X11_isStep) (fr_f_X11_isStep (p := p1) x1 s hp1) (fun o k h => h.elim) (fun o k h => h.elim) (fun o h => h.elim) (fun o h => h.elim))) (sx_mono (D1 := xS_X8_hold) (fr_f_X8_hold (p := p2) x1 p1.2 hp2) (fun o k h => Or.elim h (fun q => (fun q => Or.inl q) q) (fun q0 => (fun q => Or.inr (q)) q0)) (fun o k h => h.elim) (fun o h => Or.elim h (fun q => (fun q => Or.inl q) q) (fun q0 => (fun q => Or.inr (q)) q0)) (fun o h => (fun q => q) h))) (sx_mono (D1 := xS_X8_total) (fr_f_X8_total (p := p3) p2 hp3) (fun o k h => h.elim) (fun o k h => h.elim) (fun o h => h.elim) (fun o h => h.elim)))
          · rcases ax_or hf with ⟨hc1, hf⟩ | ⟨hc1, hf⟩
            · exact ax_ret (P := fun q : Int64 × sx_M => sx_eq (xS_X11_auction) s q.2) hf (sx_tr (sx_tr (sx_rf _ s) (sx_mono (D1 := xS_X11_isStep) (fr_f_X11_isStep (p := p1) x1 s hp1) (fun o k h => h.elim) (fun o k h => h.elim) (fun o h => h.elim) (fun o h => h.elim))) (sx_mono (D1 := xS_X8_hold) (fr_f_X8_hold (p := p2) x1 p1.2 hp2) (fun o k h => Or.elim h (fun q => (fun q => Or.inl q) q) (fun q0 => (fun q => Or.inr (q)) q0)) (fun o k h => h.elim) (fun o h => Or.elim h (fun q => (fun q => Or.inl q) q) (fun q0 => (fun q => Or.inr (q)) q0)) (fun o h => (fun q => q) h)))
            · exact ax_ret (P := fun q : Int64 × sx_M => sx_eq (xS_X11_auction) s q.2) hf (sx_tr (sx_tr (sx_rf _ s) (sx_mono (D1 := xS_X11_isStep) (fr_f_X11_isStep (p := p1) x1 s hp1) (fun o k h => h.elim) (fun o k h => h.elim) (fun o h => h.elim) (fun o h => h.elim))) (sx_mono (D1 := xS_X8_hold) (fr_f_X8_hold (p := p2) x1 p1.2 hp2) (fun o k h => Or.elim h (fun q => (fun q => Or.inl q) q) (fun q0 => (fun q => Or.inr (q)) q0)) (fun o k h => h.elim) (fun o h => Or.elim h (fun q => (fun q => Or.inl q) q) (fun q0 => (fun q => Or.inr (q)) q0)) (fun o h => (fun q => q) h)))
      · exact ax_ret (P := fun q : Int64 × sx_M => sx_eq (xS_X11_auction) s q.2) hf (sx_tr (sx_rf _ s) (sx_mono (D1 := xS_X11_isStep) (fr_f_X11_isStep (p := p1) x1 s hp1) (fun o k h => h.elim) (fun o k h => h.elim) (fun o h => h.elim) (fun o h => h.elim)))
abbrev xI_X11_auctionPrice : Nat → Nat → Prop := fun o k => (o = 49 ∧ k = 4) ∨ (o = 49 ∧ k = 5)
abbrev xJ_X11_auctionPrice : Nat → Nat → Prop := fun o k => False
abbrev xA_X11_auctionPrice : Nat → Prop := fun o => o = 51 ∨ o = 52
abbrev xB_X11_auctionPrice : Nat → Prop := fun o => o = 50
abbrev xS_X11_auctionPrice : sx_D := (xI_X11_auctionPrice, xJ_X11_auctionPrice, xA_X11_auctionPrice, xB_X11_auctionPrice)
set_option maxRecDepth 100000 in
set_option maxHeartbeats 1000000 in
theorem fr_f_X11_auctionPrice (x1 : Int32) (x2 : Int32) (s : sx_M) {p : Int32 × sx_M} (hf : f_X11_auctionPrice x1 x2 s = some p) : sx_eq (xS_X11_auctionPrice) s p.2 := by
  unfold f_X11_auctionPrice at hf
  obtain ⟨p1, hp1, hf⟩ := ax_bind hf
  rcases ax_or hf with ⟨hc3, hf⟩ | ⟨hc3, hf⟩
  · exact ax_ret (P := fun q : Int32 × sx_M => sx_eq (xS_X11_auctionPrice) s q.2) hf (sx_tr (sx_rf _ s) (sx_mono (D1 := xS_X11_isStep) (fr_f_X11_isStep (p := p1) x1 s hp1) (fun o k h => h.elim) (fun o k h => h.elim) (fun o h => h.elim) (fun o h => h.elim)))
  · obtain ⟨p2, hp2, hf⟩ := ax_bind hf
    rcases ax_or hf with ⟨hc2, hf⟩ | ⟨hc2, hf⟩
    · exact ax_ret (P := fun q : Int32 × sx_M => sx_eq (xS_X11_auctionPrice) s q.2) hf (sx_tr (sx_tr (sx_rf _ s) (sx_mono (D1 := xS_X11_isStep) (fr_f_X11_isStep (p := p1) x1 s hp1) (fun o k h => h.elim) (fun o k h => h.elim) (fun o h => h.elim) (fun o h => h.elim))) (sx_mono (D1 := xS_X1_hasJob 3) (fr_f_X1_hasJob (p := p2) 3 x2 p1.2 ax_G3 hp2) (fun o k h => h.elim) (fun o k h => h.elim) (fun o h => h.elim) (fun o h => h.elim)))
    · obtain ⟨p3, hp3, hf⟩ := ax_bind hf
      obtain ⟨_, hf⟩ := ax_ite hf
      exact ax_ret (P := fun q : Int32 × sx_M => sx_eq (xS_X11_auctionPrice) s q.2) hf (sx_tr (sx_tr (sx_tr (sx_rf _ s) (sx_mono (D1 := xS_X11_isStep) (fr_f_X11_isStep (p := p1) x1 s hp1) (fun o k h => h.elim) (fun o k h => h.elim) (fun o h => h.elim) (fun o h => h.elim))) (sx_mono (D1 := xS_X1_hasJob 3) (fr_f_X1_hasJob (p := p2) 3 x2 p1.2 ax_G3 hp2) (fun o k h => h.elim) (fun o k h => h.elim) (fun o h => h.elim) (fun o h => h.elim))) (sx_mono (D1 := xS_X8_hold) (fr_f_X8_hold (p := p3) x1 p2.2 hp3) (fun o k h => Or.elim h (fun q => (fun q => Or.inl q) q) (fun q0 => (fun q => Or.inr (q)) q0)) (fun o k h => h.elim) (fun o h => Or.elim h (fun q => (fun q => Or.inl q) q) (fun q0 => (fun q => Or.inr (q)) q0)) (fun o h => (fun q => q) h)))
abbrev xI_X11_auctionJob : Nat → Nat → Prop := fun o k => (o = 49 ∧ k = 4) ∨ (o = 49 ∧ k = 5)
abbrev xJ_X11_auctionJob : Nat → Nat → Prop := fun o k => False
abbrev xA_X11_auctionJob : Nat → Prop := fun o => o = 51 ∨ o = 52
abbrev xB_X11_auctionJob : Nat → Prop := fun o => o = 50
abbrev xS_X11_auctionJob : sx_D := (xI_X11_auctionJob, xJ_X11_auctionJob, xA_X11_auctionJob, xB_X11_auctionJob)
set_option maxRecDepth 100000 in
set_option maxHeartbeats 1000000 in
theorem fr_f_X11_auctionJob (x1 : Int32) (x2 : Int32) (s : sx_M) {p : Int32 × sx_M} (hf : f_X11_auctionJob x1 x2 s = some p) : sx_eq (xS_X11_auctionJob) s p.2 := by
  unfold f_X11_auctionJob at hf
  obtain ⟨p1, hp1, hf⟩ := ax_bind hf
  rcases ax_or hf with ⟨hc3, hf⟩ | ⟨hc3, hf⟩
  · exact ax_ret (P := fun q : Int32 × sx_M => sx_eq (xS_X11_auctionJob) s q.2) hf (sx_tr (sx_rf _ s) (sx_mono (D1 := xS_X11_isStep) (fr_f_X11_isStep (p := p1) x1 s hp1) (fun o k h => h.elim) (fun o k h => h.elim) (fun o h => h.elim) (fun o h => h.elim)))
  · obtain ⟨p2, hp2, hf⟩ := ax_bind hf
    rcases ax_or hf with ⟨hc2, hf⟩ | ⟨hc2, hf⟩
    · exact ax_ret (P := fun q : Int32 × sx_M => sx_eq (xS_X11_auctionJob) s q.2) hf (sx_tr (sx_tr (sx_rf _ s) (sx_mono (D1 := xS_X11_isStep) (fr_f_X11_isStep (p := p1) x1 s hp1) (fun o k h => h.elim) (fun o k h => h.elim) (fun o h => h.elim) (fun o h => h.elim))) (sx_mono (D1 := xS_X1_hasWorker 3) (fr_f_X1_hasWorker (p := p2) 3 x2 p1.2 ax_G3 hp2) (fun o k h => h.elim) (fun o k h => h.elim) (fun o h => h.elim) (fun o h => h.elim)))
    · obtain ⟨p3, hp3, hf⟩ := ax_bind hf
      obtain ⟨_, hf⟩ := ax_ite hf
      exact ax_ret (P := fun q : Int32 × sx_M => sx_eq (xS_X11_auctionJob) s q.2) hf (sx_tr (sx_tr (sx_tr (sx_rf _ s) (sx_mono (D1 := xS_X11_isStep) (fr_f_X11_isStep (p := p1) x1 s hp1) (fun o k h => h.elim) (fun o k h => h.elim) (fun o h => h.elim) (fun o h => h.elim))) (sx_mono (D1 := xS_X1_hasWorker 3) (fr_f_X1_hasWorker (p := p2) 3 x2 p1.2 ax_G3 hp2) (fun o k h => h.elim) (fun o k h => h.elim) (fun o h => h.elim) (fun o h => h.elim))) (sx_mono (D1 := xS_X8_hold) (fr_f_X8_hold (p := p3) x1 p2.2 hp3) (fun o k h => Or.elim h (fun q => (fun q => Or.inl q) q) (fun q0 => (fun q => Or.inr (q)) q0)) (fun o k h => h.elim) (fun o h => Or.elim h (fun q => (fun q => Or.inl q) q) (fun q0 => (fun q => Or.inr (q)) q0)) (fun o h => (fun q => q) h)))
abbrev xI_X11_move : Nat → Nat → Prop := fun o k => (o = 53 ∧ k = 2) ∨ (o = 53 ∧ k = 4)
abbrev xJ_X11_move : Nat → Nat → Prop := fun o k => (o = 53 ∧ k = 3)
abbrev xA_X11_move : Nat → Prop := fun o => o = 54 ∨ o = 56
abbrev xB_X11_move : Nat → Prop := fun o => False
abbrev xS_X11_move : sx_D := (xI_X11_move, xJ_X11_move, xA_X11_move, xB_X11_move)
set_option maxRecDepth 100000 in
set_option maxHeartbeats 1000000 in
theorem fr_f_X11_move (x1 : Int32) (x2 : Int32) (s : sx_M) {p : Int64 × sx_M} (hf : f_X11_move x1 x2 s = some p) : sx_eq (xS_X11_move) s p.2 := by
  unfold f_X11_move at hf
  rcases ax_or hf with ⟨hc6, hf⟩ | ⟨hc6, hf⟩
  · exact ax_ret (P := fun q : Int64 × sx_M => sx_eq (xS_X11_move) s q.2) hf (sx_rf _ s)
  · rcases ax_or hf with ⟨hc5, hf⟩ | ⟨hc5, hf⟩
    · exact ax_ret (P := fun q : Int64 × sx_M => sx_eq (xS_X11_move) s q.2) hf (sx_rf _ s)
    · obtain ⟨p1, hp1, hf⟩ := ax_bind hf
      rcases ax_or hf with ⟨hc4, hf⟩ | ⟨hc4, hf⟩
      · exact ax_ret (P := fun q : Int64 × sx_M => sx_eq (xS_X11_move) s q.2) hf (sx_tr (sx_rf _ s) (sx_mono (D1 := xS_X1_decode 3 56) (fr_f_X1_decode (p := p1) 3 56 x1 s ax_G3 sh_56 hp1) (fun o k h => h.elim) (fun o k h => h.elim) (fun o h => (fun q => Or.inr (q)) h) (fun o h => h.elim)))
      · obtain ⟨p2, hp2, hf⟩ := ax_bind hf
        rcases ax_or hf with ⟨hc3, hf⟩ | ⟨hc3, hf⟩
        · exact ax_ret (P := fun q : Int64 × sx_M => sx_eq (xS_X11_move) s q.2) hf (sx_tr (sx_tr (sx_rf _ s) (sx_mono (D1 := xS_X1_decode 3 56) (fr_f_X1_decode (p := p1) 3 56 x1 s ax_G3 sh_56 hp1) (fun o k h => h.elim) (fun o k h => h.elim) (fun o h => (fun q => Or.inr (q)) h) (fun o h => h.elim))) (sx_mono (D1 := xS_X3_search 56) (fr_f_X3_search (p := p2) 56 p1.2 sh_56 hp2) (fun o k h => Or.elim h (fun q => (fun q => Or.inl q) q) (fun q0 => (fun q => Or.inr (q)) q0)) (fun o k h => (fun q => q) h) (fun o h => (fun q => Or.inl q) h) (fun o h => h.elim)))
        · rcases ax_or hf with ⟨hc2, hf⟩ | ⟨hc2, hf⟩
          · exact ax_ret (P := fun q : Int64 × sx_M => sx_eq (xS_X11_move) s q.2) hf (sx_tr (sx_tr (sx_rf _ s) (sx_mono (D1 := xS_X1_decode 3 56) (fr_f_X1_decode (p := p1) 3 56 x1 s ax_G3 sh_56 hp1) (fun o k h => h.elim) (fun o k h => h.elim) (fun o h => (fun q => Or.inr (q)) h) (fun o h => h.elim))) (sx_mono (D1 := xS_X3_search 56) (fr_f_X3_search (p := p2) 56 p1.2 sh_56 hp2) (fun o k h => Or.elim h (fun q => (fun q => Or.inl q) q) (fun q0 => (fun q => Or.inr (q)) q0)) (fun o k h => (fun q => q) h) (fun o h => (fun q => Or.inl q) h) (fun o h => h.elim)))
          · rcases ax_or hf with ⟨hc1, hf⟩ | ⟨hc1, hf⟩
            · obtain ⟨p3, hp3, hf⟩ := ax_bind hf
              exact ax_ret (P := fun q : Int64 × sx_M => sx_eq (xS_X11_move) s q.2) hf (sx_tr (sx_tr (sx_tr (sx_rf _ s) (sx_mono (D1 := xS_X1_decode 3 56) (fr_f_X1_decode (p := p1) 3 56 x1 s ax_G3 sh_56 hp1) (fun o k h => h.elim) (fun o k h => h.elim) (fun o h => (fun q => Or.inr (q)) h) (fun o h => h.elim))) (sx_mono (D1 := xS_X3_search 56) (fr_f_X3_search (p := p2) 56 p1.2 sh_56 hp2) (fun o k h => Or.elim h (fun q => (fun q => Or.inl q) q) (fun q0 => (fun q => Or.inr (q)) q0)) (fun o k h => (fun q => q) h) (fun o h => (fun q => Or.inl q) h) (fun o h => h.elim))) (sx_mono (D1 := xS_J6_bitCount_0f7a4) (fr_f_J6_bitCount_0f7a4 (p := p3) (rI p2.2 53 4) p2.2 hp3) (fun o k h => h.elim) (fun o k h => h.elim) (fun o h => h.elim) (fun o h => h.elim)))
            · exact ax_ret (P := fun q : Int64 × sx_M => sx_eq (xS_X11_move) s q.2) hf (sx_tr (sx_tr (sx_rf _ s) (sx_mono (D1 := xS_X1_decode 3 56) (fr_f_X1_decode (p := p1) 3 56 x1 s ax_G3 sh_56 hp1) (fun o k h => h.elim) (fun o k h => h.elim) (fun o h => (fun q => Or.inr (q)) h) (fun o h => h.elim))) (sx_mono (D1 := xS_X3_search 56) (fr_f_X3_search (p := p2) 56 p1.2 sh_56 hp2) (fun o k h => Or.elim h (fun q => (fun q => Or.inl q) q) (fun q0 => (fun q => Or.inr (q)) q0)) (fun o k h => (fun q => q) h) (fun o h => (fun q => Or.inl q) h) (fun o h => h.elim)))
abbrev xI_X11_least : Nat → Nat → Prop := fun o k => False
abbrev xJ_X11_least : Nat → Nat → Prop := fun o k => False
abbrev xA_X11_least : Nat → Prop := fun o => False
abbrev xB_X11_least : Nat → Prop := fun o => False
abbrev xS_X11_least : sx_D := (xI_X11_least, xJ_X11_least, xA_X11_least, xB_X11_least)
set_option maxRecDepth 100000 in
set_option maxHeartbeats 1000000 in
theorem fr_f_X11_least (x1 : Int32) (x2 : Int32) (s : sx_M) {p : Int64 × sx_M} (hf : f_X11_least x1 x2 s = some p) : sx_eq (xS_X11_least) s p.2 := by
  unfold f_X11_least at hf
  obtain ⟨p1, hp1, hf⟩ := ax_bind hf
  rcases ax_or hf with ⟨hc2, hf⟩ | ⟨hc2, hf⟩
  · exact ax_ret (P := fun q : Int64 × sx_M => sx_eq (xS_X11_least) s q.2) hf (sx_tr (sx_rf _ s) (sx_mono (D1 := xS_X1_hasLine 3) (fr_f_X1_hasLine (p := p1) 3 x1 x2 s ax_G3 hp1) (fun o k h => h.elim) (fun o k h => h.elim) (fun o h => h.elim) (fun o h => h.elim)))
  · obtain ⟨p2, hp2, hf⟩ := ax_bind hf
    rcases ax_or hf with ⟨hc1, hf⟩ | ⟨hc1, hf⟩
    · exact ax_ret (P := fun q : Int64 × sx_M => sx_eq (xS_X11_least) s q.2) hf (sx_tr (sx_tr (sx_rf _ s) (sx_mono (D1 := xS_X1_hasLine 3) (fr_f_X1_hasLine (p := p1) 3 x1 x2 s ax_G3 hp1) (fun o k h => h.elim) (fun o k h => h.elim) (fun o h => h.elim) (fun o h => h.elim))) (sx_mono (D1 := xS_X1_leastOf 3) (fr_f_X1_leastOf (p := p2) 3 x1 x2 p1.2 ax_G3 hp2) (fun o k h => h.elim) (fun o k h => h.elim) (fun o h => h.elim) (fun o h => h.elim)))
    · exact ax_ret (P := fun q : Int64 × sx_M => sx_eq (xS_X11_least) s q.2) hf (sx_tr (sx_tr (sx_rf _ s) (sx_mono (D1 := xS_X1_hasLine 3) (fr_f_X1_hasLine (p := p1) 3 x1 x2 s ax_G3 hp1) (fun o k h => h.elim) (fun o k h => h.elim) (fun o h => h.elim) (fun o h => h.elim))) (sx_mono (D1 := xS_X1_leastOf 3) (fr_f_X1_leastOf (p := p2) 3 x1 x2 p1.2 ax_G3 hp2) (fun o k h => h.elim) (fun o k h => h.elim) (fun o h => h.elim) (fun o h => h.elim)))
abbrev xI_X11_reduced : Nat → Nat → Prop := fun o k => False
abbrev xJ_X11_reduced : Nat → Nat → Prop := fun o k => False
abbrev xA_X11_reduced : Nat → Prop := fun o => False
abbrev xB_X11_reduced : Nat → Prop := fun o => False
abbrev xS_X11_reduced : sx_D := (xI_X11_reduced, xJ_X11_reduced, xA_X11_reduced, xB_X11_reduced)
set_option maxRecDepth 100000 in
set_option maxHeartbeats 1000000 in
theorem fr_f_X11_reduced (x1 : Int32) (x2 : Int32) (s : sx_M) {p : Int64 × sx_M} (hf : f_X11_reduced x1 x2 s = some p) : sx_eq (xS_X11_reduced) s p.2 := by
  unfold f_X11_reduced at hf
  obtain ⟨p1, hp1, hf⟩ := ax_bind hf
  rcases ax_or hf with ⟨hc1, hf⟩ | ⟨hc1, hf⟩
  · exact ax_ret (P := fun q : Int64 × sx_M => sx_eq (xS_X11_reduced) s q.2) hf (sx_tr (sx_rf _ s) (sx_mono (D1 := xS_X1_has 3) (fr_f_X1_has (p := p1) 3 x1 x2 s ax_G3 hp1) (fun o k h => h.elim) (fun o k h => h.elim) (fun o h => h.elim) (fun o h => h.elim)))
  · obtain ⟨p2, hp2, hf⟩ := ax_bind hf
    exact ax_ret (P := fun q : Int64 × sx_M => sx_eq (xS_X11_reduced) s q.2) hf (sx_tr (sx_tr (sx_rf _ s) (sx_mono (D1 := xS_X1_has 3) (fr_f_X1_has (p := p1) 3 x1 x2 s ax_G3 hp1) (fun o k h => h.elim) (fun o k h => h.elim) (fun o h => h.elim) (fun o h => h.elim))) (sx_mono (D1 := xS_X1_reducedAt 3) (fr_f_X1_reducedAt (p := p2) 3 x1 x2 p1.2 ax_G3 hp2) (fun o k h => h.elim) (fun o k h => h.elim) (fun o h => h.elim) (fun o h => h.elim)))
abbrev xI_X11_noughts : Nat → Nat → Prop := fun o k => False
abbrev xJ_X11_noughts : Nat → Nat → Prop := fun o k => False
abbrev xA_X11_noughts : Nat → Prop := fun o => False
abbrev xB_X11_noughts : Nat → Prop := fun o => False
abbrev xS_X11_noughts : sx_D := (xI_X11_noughts, xJ_X11_noughts, xA_X11_noughts, xB_X11_noughts)
set_option maxRecDepth 100000 in
set_option maxHeartbeats 1000000 in
theorem fr_f_X11_noughts (s : sx_M) {p : Int32 × sx_M} (hf : f_X11_noughts s = some p) : sx_eq (xS_X11_noughts) s p.2 := by
  unfold f_X11_noughts at hf
  obtain ⟨b3, hb3, hf⟩ := ax_bind hf
  have hvb3 := wh_inv ((0 : Int32), (0 : Int32), s) (fun a4 : Int32 × Int32 × sx_M => sx_eq (xS_X11_noughts) s a4.2.2) (fun e : Int32 × sx_M => sx_eq (xS_X11_noughts) s e.2) hb3 ?_ (sx_rf _ s)
  rotate_left
  · intro a4 r ha4 hf
    unfold f_X11_noughts_L4 at hf
    rcases ax_or hf with ⟨hc3, hf⟩ | ⟨hc3, hf⟩
    · exact ax_ret (P := Sum.elim (fun a4 : Int32 × Int32 × sx_M => sx_eq (xS_X11_noughts) s a4.2.2) (fun e : Int32 × sx_M => sx_eq (xS_X11_noughts) s e.2)) hf ha4
    · obtain ⟨b2, hb2, hf⟩ := ax_bind hf
      have hvb2 := wh_inv (a4.1, (0 : Int32), a4.2.2) (fun a17 : Int32 × Int32 × sx_M => sx_eq (xS_X11_noughts) s a17.2.2) (fun e : Int32 × sx_M => sx_eq (xS_X11_noughts) s e.2) hb2 ?_ ha4
      rotate_left
      · intro a17 r ha17 hf
        unfold f_X11_noughts_L17 at hf
        rcases ax_or hf with ⟨hc2, hf⟩ | ⟨hc2, hf⟩
        · exact ax_ret (P := Sum.elim (fun a17 : Int32 × Int32 × sx_M => sx_eq (xS_X11_noughts) s a17.2.2) (fun e : Int32 × sx_M => sx_eq (xS_X11_noughts) s e.2)) hf ha17
        · obtain ⟨p1, hp1, hf⟩ := ax_bind hf
          rcases ax_or hf with ⟨hc1, hf⟩ | ⟨hc1, hf⟩
          · exact ax_ret (P := Sum.elim (fun a17 : Int32 × Int32 × sx_M => sx_eq (xS_X11_noughts) s a17.2.2) (fun e : Int32 × sx_M => sx_eq (xS_X11_noughts) s e.2)) hf (sx_tr ha17 (sx_mono (D1 := xS_X1_reducedAt 3) (fr_f_X1_reducedAt (p := p1) 3 a4.2.1 a17.2.1 a17.2.2 ax_G3 hp1) (fun o k h => h.elim) (fun o k h => h.elim) (fun o h => h.elim) (fun o h => h.elim)))
          · exact ax_ret (P := Sum.elim (fun a17 : Int32 × Int32 × sx_M => sx_eq (xS_X11_noughts) s a17.2.2) (fun e : Int32 × sx_M => sx_eq (xS_X11_noughts) s e.2)) hf (sx_tr ha17 (sx_mono (D1 := xS_X1_reducedAt 3) (fr_f_X1_reducedAt (p := p1) 3 a4.2.1 a17.2.1 a17.2.2 ax_G3 hp1) (fun o k h => h.elim) (fun o k h => h.elim) (fun o h => h.elim) (fun o h => h.elim)))
      exact ax_ret (P := Sum.elim (fun a4 : Int32 × Int32 × sx_M => sx_eq (xS_X11_noughts) s a4.2.2) (fun e : Int32 × sx_M => sx_eq (xS_X11_noughts) s e.2)) hf hvb2
  exact ax_ret (P := fun q : Int32 × sx_M => sx_eq (xS_X11_noughts) s q.2) hf hvb3
abbrev xI_X11_changeCost : Nat → Nat → Prop := fun o k => (22 ≤ o ∧ o < 42) ∨ (o = 20 ∧ k = 1) ∨ (o = 20 ∧ k = 2) ∨ (o = 9 ∧ k = 4)
abbrev xJ_X11_changeCost : Nat → Nat → Prop := fun o k => False
abbrev xA_X11_changeCost : Nat → Prop := fun o => o = (3 + 3)
abbrev xB_X11_changeCost : Nat → Prop := fun o => (22 ≤ o ∧ o < 42) ∨ o = (3 + 1) ∨ o = (3 + 4) ∨ o = (3 + 5)
abbrev xS_X11_changeCost : sx_D := (xI_X11_changeCost, xJ_X11_changeCost, xA_X11_changeCost, xB_X11_changeCost)
set_option maxRecDepth 100000 in
set_option maxHeartbeats 1000000 in
theorem fr_f_X11_changeCost (x1 : Int32) (x2 : Int32) (x3 : Int64) (s : sx_M) {p : Int32 × sx_M} (hf : f_X11_changeCost x1 x2 x3 s = some p) : sx_eq (xS_X11_changeCost) s p.2 := by
  unfold f_X11_changeCost at hf
  obtain ⟨p1, hp1, hf⟩ := ax_bind hf
  rcases ax_or hf with ⟨hc1, hf⟩ | ⟨hc1, hf⟩
  · exact ax_ret (P := fun q : Int32 × sx_M => sx_eq (xS_X11_changeCost) s q.2) hf (sx_tr (sx_rf _ s) (sx_mono (D1 := xS_X1_at 3) (fr_f_X1_at (p := p1) 3 x1 x2 s ax_G3 hp1) (fun o k h => h.elim) (fun o k h => h.elim) (fun o h => h.elim) (fun o h => h.elim)))
  · obtain ⟨p2, hp2, hf⟩ := ax_bind hf
    obtain ⟨p3, hp3, hf⟩ := ax_bind hf
    obtain ⟨p4, hp4, hf⟩ := ax_bind hf
    exact ax_ret (P := fun q : Int32 × sx_M => sx_eq (xS_X11_changeCost) s q.2) hf (sx_tr (sx_tr (sx_tr (sx_tr (sx_rf _ s) (sx_mono (D1 := xS_X1_at 3) (fr_f_X1_at (p := p1) 3 x1 x2 s ax_G3 hp1) (fun o k h => h.elim) (fun o k h => h.elim) (fun o h => h.elim) (fun o h => h.elim))) (sx_mono (D1 := xS_X2_keep) (fr_f_X2_keep (p := p2) p1.2 hp2) (fun o k h => Or.elim h (fun q => (fun q => Or.inl q) q) (fun q0 => Or.elim q0 (fun q => (fun q => Or.inr (Or.inl q)) q) (fun q1 => (fun q => Or.inr (Or.inr (Or.inl q))) q1))) (fun o k h => h.elim) (fun o h => h.elim) (fun o h => (fun q => Or.inl q) h))) (sx_mono (D1 := xS_X1_put 3) (fr_f_X1_put (p := p3) 3 x1 x2 x3 p2 ax_G3 hp3) (fun o k h => h.elim) (fun o k h => h.elim) (fun o h => h.elim) (fun o h => (fun q => Or.inr (Or.inl q)) h))) (sx_mono (D1 := xS_X11_changed) (fr_f_X11_changed (p := p4) p3 hp4) (fun o k h => (fun q => Or.inr (Or.inr (Or.inr (q)))) h) (fun o k h => h.elim) (fun o h => (fun q => q) h) (fun o h => Or.elim h (fun q => (fun q => Or.inr (Or.inr (Or.inl q))) q) (fun q0 => (fun q => Or.inr (Or.inr (Or.inr (q)))) q0))))
abbrev xI_X11_sets : Nat → Nat → Prop := fun o k => (22 ≤ o ∧ o < 42) ∨ (o = 20 ∧ k = 1) ∨ (o = 20 ∧ k = 2) ∨ (o = 9 ∧ k = 4)
abbrev xJ_X11_sets : Nat → Nat → Prop := fun o k => False
abbrev xA_X11_sets : Nat → Prop := fun o => o = (3 + 3)
abbrev xB_X11_sets : Nat → Prop := fun o => (22 ≤ o ∧ o < 42) ∨ o = (3 + 1) ∨ o = (3 + 4) ∨ o = (3 + 5)
abbrev xS_X11_sets : sx_D := (xI_X11_sets, xJ_X11_sets, xA_X11_sets, xB_X11_sets)
set_option maxRecDepth 100000 in
set_option maxHeartbeats 1000000 in
theorem fr_f_X11_sets (x1 : Int32) (x2 : Int32) (x3 : Int32) (s : sx_M) {p : Int32 × sx_M} (hf : f_X11_sets x1 x2 x3 s = some p) : sx_eq (xS_X11_sets) s p.2 := by
  unfold f_X11_sets at hf
  obtain ⟨p1, hp1, hf⟩ := ax_bind hf
  rcases ax_or hf with ⟨hc2, hf⟩ | ⟨hc2, hf⟩
  · exact ax_ret (P := fun q : Int32 × sx_M => sx_eq (xS_X11_sets) s q.2) hf (sx_tr (sx_rf _ s) (sx_mono (D1 := xS_X1_has 3) (fr_f_X1_has (p := p1) 3 x1 x2 s ax_G3 hp1) (fun o k h => h.elim) (fun o k h => h.elim) (fun o h => h.elim) (fun o h => h.elim)))
  · obtain ⟨p2, hp2, hf⟩ := ax_bind hf
    rcases ax_or hf with ⟨hc1, hf⟩ | ⟨hc1, hf⟩
    · exact ax_ret (P := fun q : Int32 × sx_M => sx_eq (xS_X11_sets) s q.2) hf (sx_tr (sx_tr (sx_rf _ s) (sx_mono (D1 := xS_X1_has 3) (fr_f_X1_has (p := p1) 3 x1 x2 s ax_G3 hp1) (fun o k h => h.elim) (fun o k h => h.elim) (fun o h => h.elim) (fun o h => h.elim))) (sx_mono (D1 := xS_X11_isCost) (fr_f_X11_isCost (p := p2) ((x3).toInt64) p1.2 hp2) (fun o k h => h.elim) (fun o k h => h.elim) (fun o h => h.elim) (fun o h => h.elim)))
    · obtain ⟨p3, hp3, hf⟩ := ax_bind hf
      exact ax_ret (P := fun q : Int32 × sx_M => sx_eq (xS_X11_sets) s q.2) hf (sx_tr (sx_tr (sx_tr (sx_rf _ s) (sx_mono (D1 := xS_X1_has 3) (fr_f_X1_has (p := p1) 3 x1 x2 s ax_G3 hp1) (fun o k h => h.elim) (fun o k h => h.elim) (fun o h => h.elim) (fun o h => h.elim))) (sx_mono (D1 := xS_X11_isCost) (fr_f_X11_isCost (p := p2) ((x3).toInt64) p1.2 hp2) (fun o k h => h.elim) (fun o k h => h.elim) (fun o h => h.elim) (fun o h => h.elim))) (sx_mono (D1 := xS_X11_changeCost) (fr_f_X11_changeCost (p := p3) x1 x2 ((x3).toInt64) p2.2 hp3) (fun o k h => Or.elim h (fun q => (fun q => Or.inl q) q) (fun q0 => Or.elim q0 (fun q => (fun q => Or.inr (Or.inl q)) q) (fun q1 => Or.elim q1 (fun q => (fun q => Or.inr (Or.inr (Or.inl q))) q) (fun q2 => (fun q => Or.inr (Or.inr (Or.inr (q)))) q2)))) (fun o k h => h.elim) (fun o h => (fun q => q) h) (fun o h => Or.elim h (fun q => (fun q => Or.inl q) q) (fun q0 => Or.elim q0 (fun q => (fun q => Or.inr (Or.inl q)) q) (fun q1 => Or.elim q1 (fun q => (fun q => Or.inr (Or.inr (Or.inl q))) q) (fun q2 => (fun q => Or.inr (Or.inr (Or.inr (q)))) q2))))))
abbrev xI_X11_bars : Nat → Nat → Prop := fun o k => (22 ≤ o ∧ o < 42) ∨ (o = 20 ∧ k = 1) ∨ (o = 20 ∧ k = 2) ∨ (o = 9 ∧ k = 4)
abbrev xJ_X11_bars : Nat → Nat → Prop := fun o k => False
abbrev xA_X11_bars : Nat → Prop := fun o => o = (3 + 3)
abbrev xB_X11_bars : Nat → Prop := fun o => (22 ≤ o ∧ o < 42) ∨ o = (3 + 1) ∨ o = (3 + 4) ∨ o = (3 + 5)
abbrev xS_X11_bars : sx_D := (xI_X11_bars, xJ_X11_bars, xA_X11_bars, xB_X11_bars)
set_option maxRecDepth 100000 in
set_option maxHeartbeats 1000000 in
theorem fr_f_X11_bars (x1 : Int32) (x2 : Int32) (s : sx_M) {p : Int32 × sx_M} (hf : f_X11_bars x1 x2 s = some p) : sx_eq (xS_X11_bars) s p.2 := by
  unfold f_X11_bars at hf
  obtain ⟨p1, hp1, hf⟩ := ax_bind hf
  rcases ax_or hf with ⟨hc1, hf⟩ | ⟨hc1, hf⟩
  · exact ax_ret (P := fun q : Int32 × sx_M => sx_eq (xS_X11_bars) s q.2) hf (sx_tr (sx_rf _ s) (sx_mono (D1 := xS_X1_has 3) (fr_f_X1_has (p := p1) 3 x1 x2 s ax_G3 hp1) (fun o k h => h.elim) (fun o k h => h.elim) (fun o h => h.elim) (fun o h => h.elim)))
  · obtain ⟨p2, hp2, hf⟩ := ax_bind hf
    exact ax_ret (P := fun q : Int32 × sx_M => sx_eq (xS_X11_bars) s q.2) hf (sx_tr (sx_tr (sx_rf _ s) (sx_mono (D1 := xS_X1_has 3) (fr_f_X1_has (p := p1) 3 x1 x2 s ax_G3 hp1) (fun o k h => h.elim) (fun o k h => h.elim) (fun o h => h.elim) (fun o h => h.elim))) (sx_mono (D1 := xS_X11_changeCost) (fr_f_X11_changeCost (p := p2) x1 x2 (9223372036854775807 : Int64) p1.2 hp2) (fun o k h => Or.elim h (fun q => (fun q => Or.inl q) q) (fun q0 => Or.elim q0 (fun q => (fun q => Or.inr (Or.inl q)) q) (fun q1 => Or.elim q1 (fun q => (fun q => Or.inr (Or.inr (Or.inl q))) q) (fun q2 => (fun q => Or.inr (Or.inr (Or.inr (q)))) q2)))) (fun o k h => h.elim) (fun o h => (fun q => q) h) (fun o h => Or.elim h (fun q => (fun q => Or.inl q) q) (fun q0 => Or.elim q0 (fun q => (fun q => Or.inr (Or.inl q)) q) (fun q1 => Or.elim q1 (fun q => (fun q => Or.inr (Or.inr (Or.inl q))) q) (fun q2 => (fun q => Or.inr (Or.inr (Or.inr (q)))) q2))))))
abbrev xI_X11_tilts : Nat → Nat → Prop := fun o k => (22 ≤ o ∧ o < 42) ∨ (o = 20 ∧ k = 1) ∨ (o = 20 ∧ k = 2) ∨ (o = 9 ∧ k = 4)
abbrev xJ_X11_tilts : Nat → Nat → Prop := fun o k => False
abbrev xA_X11_tilts : Nat → Prop := fun o => o = (3 + 3)
abbrev xB_X11_tilts : Nat → Prop := fun o => (22 ≤ o ∧ o < 42) ∨ o = (3 + 1) ∨ o = (3 + 4) ∨ o = (3 + 5)
abbrev xS_X11_tilts : sx_D := (xI_X11_tilts, xJ_X11_tilts, xA_X11_tilts, xB_X11_tilts)
set_option maxRecDepth 100000 in
set_option maxHeartbeats 1000000 in
theorem fr_f_X11_tilts (x1 : Int32) (x2 : Int32) (x3 : Int32) (s : sx_M) {p : Int32 × sx_M} (hf : f_X11_tilts x1 x2 x3 s = some p) : sx_eq (xS_X11_tilts) s p.2 := by
  unfold f_X11_tilts at hf
  obtain ⟨p1, hp1, hf⟩ := ax_bind hf
  rcases ax_or hf with ⟨hc4, hf⟩ | ⟨hc4, hf⟩
  · exact ax_ret (P := fun q : Int32 × sx_M => sx_eq (xS_X11_tilts) s q.2) hf (sx_tr (sx_rf _ s) (sx_mono (D1 := xS_X1_hasLine 3) (fr_f_X1_hasLine (p := p1) 3 x1 x3 s ax_G3 hp1) (fun o k h => h.elim) (fun o k h => h.elim) (fun o h => h.elim) (fun o h => h.elim)))
  · obtain ⟨p2, hp2, hf⟩ := ax_bind hf
    rcases ax_or hf with ⟨hc3, hf⟩ | ⟨hc3, hf⟩
    · exact ax_ret (P := fun q : Int32 × sx_M => sx_eq (xS_X11_tilts) s q.2) hf (sx_tr (sx_tr (sx_rf _ s) (sx_mono (D1 := xS_X1_hasLine 3) (fr_f_X1_hasLine (p := p1) 3 x1 x3 s ax_G3 hp1) (fun o k h => h.elim) (fun o k h => h.elim) (fun o h => h.elim) (fun o h => h.elim))) (sx_mono (D1 := xS_X1_bearsTilt 3) (fr_f_X1_bearsTilt (p := p2) 3 x1 ((x2).toInt64) x3 p1.2 ax_G3 hp2) (fun o k h => h.elim) (fun o k h => h.elim) (fun o h => h.elim) (fun o h => h.elim)))
    · obtain ⟨p3, hp3, hf⟩ := ax_bind hf
      rcases ax_or hf with ⟨hc2, hf⟩ | ⟨hc2, hf⟩
      · exact ax_ret (P := fun q : Int32 × sx_M => sx_eq (xS_X11_tilts) s q.2) hf (sx_tr (sx_tr (sx_tr (sx_rf _ s) (sx_mono (D1 := xS_X1_hasLine 3) (fr_f_X1_hasLine (p := p1) 3 x1 x3 s ax_G3 hp1) (fun o k h => h.elim) (fun o k h => h.elim) (fun o h => h.elim) (fun o h => h.elim))) (sx_mono (D1 := xS_X1_bearsTilt 3) (fr_f_X1_bearsTilt (p := p2) 3 x1 ((x2).toInt64) x3 p1.2 ax_G3 hp2) (fun o k h => h.elim) (fun o k h => h.elim) (fun o h => h.elim) (fun o h => h.elim))) (sx_mono (D1 := xS_X1_openIn 3) (fr_f_X1_openIn (p := p3) 3 x1 x3 p2.2 ax_G3 hp3) (fun o k h => h.elim) (fun o k h => h.elim) (fun o h => h.elim) (fun o h => h.elim)))
      · rcases ax_or hf with ⟨hc1, hf⟩ | ⟨hc1, hf⟩
        · exact ax_ret (P := fun q : Int32 × sx_M => sx_eq (xS_X11_tilts) s q.2) hf (sx_tr (sx_tr (sx_tr (sx_rf _ s) (sx_mono (D1 := xS_X1_hasLine 3) (fr_f_X1_hasLine (p := p1) 3 x1 x3 s ax_G3 hp1) (fun o k h => h.elim) (fun o k h => h.elim) (fun o h => h.elim) (fun o h => h.elim))) (sx_mono (D1 := xS_X1_bearsTilt 3) (fr_f_X1_bearsTilt (p := p2) 3 x1 ((x2).toInt64) x3 p1.2 ax_G3 hp2) (fun o k h => h.elim) (fun o k h => h.elim) (fun o h => h.elim) (fun o h => h.elim))) (sx_mono (D1 := xS_X1_openIn 3) (fr_f_X1_openIn (p := p3) 3 x1 x3 p2.2 ax_G3 hp3) (fun o k h => h.elim) (fun o k h => h.elim) (fun o h => h.elim) (fun o h => h.elim)))
        · obtain ⟨p4, hp4, hf⟩ := ax_bind hf
          obtain ⟨p5, hp5, hf⟩ := ax_bind hf
          obtain ⟨p6, hp6, hf⟩ := ax_bind hf
          exact ax_ret (P := fun q : Int32 × sx_M => sx_eq (xS_X11_tilts) s q.2) hf (sx_tr (sx_tr (sx_tr (sx_tr (sx_tr (sx_tr (sx_rf _ s) (sx_mono (D1 := xS_X1_hasLine 3) (fr_f_X1_hasLine (p := p1) 3 x1 x3 s ax_G3 hp1) (fun o k h => h.elim) (fun o k h => h.elim) (fun o h => h.elim) (fun o h => h.elim))) (sx_mono (D1 := xS_X1_bearsTilt 3) (fr_f_X1_bearsTilt (p := p2) 3 x1 ((x2).toInt64) x3 p1.2 ax_G3 hp2) (fun o k h => h.elim) (fun o k h => h.elim) (fun o h => h.elim) (fun o h => h.elim))) (sx_mono (D1 := xS_X1_openIn 3) (fr_f_X1_openIn (p := p3) 3 x1 x3 p2.2 ax_G3 hp3) (fun o k h => h.elim) (fun o k h => h.elim) (fun o h => h.elim) (fun o h => h.elim))) (sx_mono (D1 := xS_X2_keep) (fr_f_X2_keep (p := p4) p3.2 hp4) (fun o k h => Or.elim h (fun q => (fun q => Or.inl q) q) (fun q0 => Or.elim q0 (fun q => (fun q => Or.inr (Or.inl q)) q) (fun q1 => (fun q => Or.inr (Or.inr (Or.inl q))) q1))) (fun o k h => h.elim) (fun o h => h.elim) (fun o h => (fun q => Or.inl q) h))) (sx_mono (D1 := xS_X1_tilt 3) (fr_f_X1_tilt (p := p5) 3 x1 ((x2).toInt64) x3 p4 ax_G3 hp5) (fun o k h => h.elim) (fun o k h => h.elim) (fun o h => h.elim) (fun o h => (fun q => Or.inr (Or.inl q)) h))) (sx_mono (D1 := xS_X11_changed) (fr_f_X11_changed (p := p6) p5 hp6) (fun o k h => (fun q => Or.inr (Or.inr (Or.inr (q)))) h) (fun o k h => h.elim) (fun o h => (fun q => q) h) (fun o h => Or.elim h (fun q => (fun q => Or.inr (Or.inr (Or.inl q))) q) (fun q0 => (fun q => Or.inr (Or.inr (Or.inr (q)))) q0))))
abbrev xI_X11_comes : Nat → Nat → Prop := fun o k => (22 ≤ o ∧ o < 42) ∨ (o = 20 ∧ k = 1) ∨ (o = 20 ∧ k = 2) ∨ (o = 3 ∧ k = 1) ∨ (o = 3 ∧ k = 2) ∨ (o = 9 ∧ k = 4)
abbrev xJ_X11_comes : Nat → Nat → Prop := fun o k => False
abbrev xA_X11_comes : Nat → Prop := fun o => o = (3 + 3)
abbrev xB_X11_comes : Nat → Prop := fun o => (22 ≤ o ∧ o < 42) ∨ o = (3 + 1) ∨ o = (3 + 4) ∨ o = (3 + 5)
abbrev xS_X11_comes : sx_D := (xI_X11_comes, xJ_X11_comes, xA_X11_comes, xB_X11_comes)
set_option maxRecDepth 100000 in
set_option maxHeartbeats 1000000 in
theorem fr_f_X11_comes (x1 : Int32) (x2 : Int32) (s : sx_M) {p : Int32 × sx_M} (hf : f_X11_comes x1 x2 s = some p) : sx_eq (xS_X11_comes) s p.2 := by
  unfold f_X11_comes at hf
  have J85 : ∀ (y4_85 : Int32) (s_85 : sx_M), sx_eq (xS_X11_comes) s s_85 → f_X11_comes_J85 y4_85 s_85 = some p → sx_eq (xS_X11_comes) s p.2 := by
    intro y4_85 s_85 hs_85 hf
    unfold f_X11_comes_J85 at hf
    obtain ⟨p1, hp1, hf⟩ := ax_bind hf
    exact ax_ret (P := fun q : Int32 × sx_M => sx_eq (xS_X11_comes) s q.2) hf (sx_tr hs_85 (sx_mono (D1 := xS_X11_changed) (fr_f_X11_changed (p := p1) s_85 hp1) (fun o k h => (fun q => Or.inr (Or.inr (Or.inr (Or.inr (Or.inr (q)))))) h) (fun o k h => h.elim) (fun o h => (fun q => q) h) (fun o h => Or.elim h (fun q => (fun q => Or.inr (Or.inr (Or.inl q))) q) (fun q0 => (fun q => Or.inr (Or.inr (Or.inr (q)))) q0))))
  have J29 : ∀ (y1_29 : Int32) (y2_29 : Int32) (t0_29 : Int32) (s_29 : sx_M), sx_eq (xS_X11_comes) s s_29 → f_X11_comes_J29 y1_29 y2_29 t0_29 s_29 = some p → sx_eq (xS_X11_comes) s p.2 := by
    intro y1_29 y2_29 t0_29 s_29 hs_29 hf
    unfold f_X11_comes_J29 at hf
    obtain ⟨p2, hp2, hf⟩ := ax_bind hf
    rcases ax_or hf with ⟨hc2, hf⟩ | ⟨hc2, hf⟩
    · obtain ⟨p3, hp3, hf⟩ := ax_bind hf
      rcases ax_or hf with ⟨hc1, hf⟩ | ⟨hc1, hf⟩
      · obtain ⟨p5, hp5, hf⟩ := ax_bind hf
        exact J85 p2.1 p5 (sx_tr (sx_tr (sx_tr hs_29 (sx_mono (D1 := xS_X1_howMany 3) (fr_f_X1_howMany (p := p2) 3 y1_29 s_29 ax_G3 hp2) (fun o k h => h.elim) (fun o k h => h.elim) (fun o h => h.elim) (fun o h => h.elim))) (sx_mono (D1 := xS_X2_keep) (fr_f_X2_keep (p := p3) p2.2 hp3) (fun o k h => Or.elim h (fun q => (fun q => Or.inl q) q) (fun q0 => Or.elim q0 (fun q => (fun q => Or.inr (Or.inl q)) q) (fun q1 => (fun q => Or.inr (Or.inr (Or.inl q))) q1))) (fun o k h => h.elim) (fun o h => h.elim) (fun o h => (fun q => Or.inl q) h))) (sx_mono (D1 := xS_X1_addWorker 3) (fr_f_X1_addWorker (p := p5) 3 ((y2_29).toInt64) p3 ax_G3 hp5) (fun o k h => (fun q => Or.inr (Or.inr (Or.inr (Or.inl q)))) h) (fun o k h => h.elim) (fun o h => h.elim) (fun o h => (fun q => Or.inr (Or.inl q)) h))) hf
      · obtain ⟨p4, hp4, hf⟩ := ax_bind hf
        exact J85 p2.1 p4 (sx_tr (sx_tr (sx_tr hs_29 (sx_mono (D1 := xS_X1_howMany 3) (fr_f_X1_howMany (p := p2) 3 y1_29 s_29 ax_G3 hp2) (fun o k h => h.elim) (fun o k h => h.elim) (fun o h => h.elim) (fun o h => h.elim))) (sx_mono (D1 := xS_X2_keep) (fr_f_X2_keep (p := p3) p2.2 hp3) (fun o k h => Or.elim h (fun q => (fun q => Or.inl q) q) (fun q0 => Or.elim q0 (fun q => (fun q => Or.inr (Or.inl q)) q) (fun q1 => (fun q => Or.inr (Or.inr (Or.inl q))) q1))) (fun o k h => h.elim) (fun o h => h.elim) (fun o h => (fun q => Or.inl q) h))) (sx_mono (D1 := xS_X1_addJob 3) (fr_f_X1_addJob (p := p4) 3 ((y2_29).toInt64) p3 ax_G3 hp4) (fun o k h => (fun q => Or.inr (Or.inr (Or.inr (Or.inr (Or.inl q))))) h) (fun o k h => h.elim) (fun o h => h.elim) (fun o h => (fun q => Or.inr (Or.inl q)) h))) hf
    · exact ax_ret (P := fun q : Int32 × sx_M => sx_eq (xS_X11_comes) s q.2) hf (sx_tr hs_29 (sx_mono (D1 := xS_X1_howMany 3) (fr_f_X1_howMany (p := p2) 3 y1_29 s_29 ax_G3 hp2) (fun o k h => h.elim) (fun o k h => h.elim) (fun o h => h.elim) (fun o h => h.elim)))
  obtain ⟨p6, hp6, hf⟩ := ax_bind hf
  rcases ax_or hf with ⟨hc5, hf⟩ | ⟨hc5, hf⟩
  · exact ax_ret (P := fun q : Int32 × sx_M => sx_eq (xS_X11_comes) s q.2) hf (sx_tr (sx_rf _ s) (sx_mono (D1 := xS_X11_isKind) (fr_f_X11_isKind (p := p6) x1 s hp6) (fun o k h => h.elim) (fun o k h => h.elim) (fun o h => h.elim) (fun o h => h.elim)))
  · obtain ⟨p7, hp7, hf⟩ := ax_bind hf
    rcases ax_or hf with ⟨hc4, hf⟩ | ⟨hc4, hf⟩
    · exact ax_ret (P := fun q : Int32 × sx_M => sx_eq (xS_X11_comes) s q.2) hf (sx_tr (sx_tr (sx_rf _ s) (sx_mono (D1 := xS_X11_isKind) (fr_f_X11_isKind (p := p6) x1 s hp6) (fun o k h => h.elim) (fun o k h => h.elim) (fun o h => h.elim) (fun o h => h.elim))) (sx_mono (D1 := xS_X11_isCost) (fr_f_X11_isCost (p := p7) ((x2).toInt64) p6.2 hp7) (fun o k h => h.elim) (fun o k h => h.elim) (fun o h => h.elim) (fun o h => h.elim)))
    · rcases ax_or hf with ⟨hc3, hf⟩ | ⟨hc3, hf⟩
      · exact J29 x1 x2 (7 : Int32) p7.2 (sx_tr (sx_tr (sx_rf _ s) (sx_mono (D1 := xS_X11_isKind) (fr_f_X11_isKind (p := p6) x1 s hp6) (fun o k h => h.elim) (fun o k h => h.elim) (fun o h => h.elim) (fun o h => h.elim))) (sx_mono (D1 := xS_X11_isCost) (fr_f_X11_isCost (p := p7) ((x2).toInt64) p6.2 hp7) (fun o k h => h.elim) (fun o k h => h.elim) (fun o h => h.elim) (fun o h => h.elim))) hf
      · exact J29 x1 x2 (8 : Int32) p7.2 (sx_tr (sx_tr (sx_rf _ s) (sx_mono (D1 := xS_X11_isKind) (fr_f_X11_isKind (p := p6) x1 s hp6) (fun o k h => h.elim) (fun o k h => h.elim) (fun o h => h.elim) (fun o h => h.elim))) (sx_mono (D1 := xS_X11_isCost) (fr_f_X11_isCost (p := p7) ((x2).toInt64) p6.2 hp7) (fun o k h => h.elim) (fun o k h => h.elim) (fun o h => h.elim) (fun o h => h.elim))) hf
abbrev xI_X11_goes : Nat → Nat → Prop := fun o k => (22 ≤ o ∧ o < 42) ∨ (o = 20 ∧ k = 1) ∨ (o = 20 ∧ k = 2) ∨ (o = 3 ∧ k = 1) ∨ (o = 3 ∧ k = 2) ∨ (o = 9 ∧ k = 4)
abbrev xJ_X11_goes : Nat → Nat → Prop := fun o k => False
abbrev xA_X11_goes : Nat → Prop := fun o => o = (3 + 3)
abbrev xB_X11_goes : Nat → Prop := fun o => (22 ≤ o ∧ o < 42) ∨ o = (3 + 1) ∨ o = (3 + 4) ∨ o = (3 + 5)
abbrev xS_X11_goes : sx_D := (xI_X11_goes, xJ_X11_goes, xA_X11_goes, xB_X11_goes)
set_option maxRecDepth 100000 in
set_option maxHeartbeats 1000000 in
theorem fr_f_X11_goes (x1 : Int32) (x2 : Int32) (s : sx_M) {p : Int32 × sx_M} (hf : f_X11_goes x1 x2 s = some p) : sx_eq (xS_X11_goes) s p.2 := by
  unfold f_X11_goes at hf
  have J49 : ∀ (y2_49 : Int32) (s_49 : sx_M), sx_eq (xS_X11_goes) s s_49 → f_X11_goes_J49 y2_49 s_49 = some p → sx_eq (xS_X11_goes) s p.2 := by
    intro y2_49 s_49 hs_49 hf
    unfold f_X11_goes_J49 at hf
    obtain ⟨p1, hp1, hf⟩ := ax_bind hf
    obtain ⟨p2, hp2, hf⟩ := ax_bind hf
    exact ax_ret (P := fun q : Int32 × sx_M => sx_eq (xS_X11_goes) s q.2) hf (sx_tr (sx_tr hs_49 (sx_mono (D1 := xS_X11_changed) (fr_f_X11_changed (p := p1) s_49 hp1) (fun o k h => (fun q => Or.inr (Or.inr (Or.inr (Or.inr (Or.inr (q)))))) h) (fun o k h => h.elim) (fun o h => (fun q => q) h) (fun o h => Or.elim h (fun q => (fun q => Or.inr (Or.inr (Or.inl q))) q) (fun q0 => (fun q => Or.inr (Or.inr (Or.inr (q)))) q0)))) (sx_mono (D1 := xS_X1_howMany 3) (fr_f_X1_howMany (p := p2) 3 y2_49 p1 ax_G3 hp2) (fun o k h => h.elim) (fun o k h => h.elim) (fun o h => h.elim) (fun o h => h.elim)))
  obtain ⟨p3, hp3, hf⟩ := ax_bind hf
  rcases ax_or hf with ⟨hc2, hf⟩ | ⟨hc2, hf⟩
  · exact ax_ret (P := fun q : Int32 × sx_M => sx_eq (xS_X11_goes) s q.2) hf (sx_tr (sx_rf _ s) (sx_mono (D1 := xS_X1_hasLine 3) (fr_f_X1_hasLine (p := p3) 3 x1 x2 s ax_G3 hp3) (fun o k h => h.elim) (fun o k h => h.elim) (fun o h => h.elim) (fun o h => h.elim)))
  · obtain ⟨p4, hp4, hf⟩ := ax_bind hf
    rcases ax_or hf with ⟨hc1, hf⟩ | ⟨hc1, hf⟩
    · obtain ⟨p6, hp6, hf⟩ := ax_bind hf
      exact J49 x2 p6 (sx_tr (sx_tr (sx_tr (sx_rf _ s) (sx_mono (D1 := xS_X1_hasLine 3) (fr_f_X1_hasLine (p := p3) 3 x1 x2 s ax_G3 hp3) (fun o k h => h.elim) (fun o k h => h.elim) (fun o h => h.elim) (fun o h => h.elim))) (sx_mono (D1 := xS_X2_keep) (fr_f_X2_keep (p := p4) p3.2 hp4) (fun o k h => Or.elim h (fun q => (fun q => Or.inl q) q) (fun q0 => Or.elim q0 (fun q => (fun q => Or.inr (Or.inl q)) q) (fun q1 => (fun q => Or.inr (Or.inr (Or.inl q))) q1))) (fun o k h => h.elim) (fun o h => h.elim) (fun o h => (fun q => Or.inl q) h))) (sx_mono (D1 := xS_X1_dropWorker 3) (fr_f_X1_dropWorker (p := p6) 3 x1 p4 ax_G3 hp6) (fun o k h => (fun q => Or.inr (Or.inr (Or.inr (Or.inl q)))) h) (fun o k h => h.elim) (fun o h => h.elim) (fun o h => (fun q => Or.inr (Or.inl q)) h))) hf
    · obtain ⟨p5, hp5, hf⟩ := ax_bind hf
      exact J49 x2 p5 (sx_tr (sx_tr (sx_tr (sx_rf _ s) (sx_mono (D1 := xS_X1_hasLine 3) (fr_f_X1_hasLine (p := p3) 3 x1 x2 s ax_G3 hp3) (fun o k h => h.elim) (fun o k h => h.elim) (fun o h => h.elim) (fun o h => h.elim))) (sx_mono (D1 := xS_X2_keep) (fr_f_X2_keep (p := p4) p3.2 hp4) (fun o k h => Or.elim h (fun q => (fun q => Or.inl q) q) (fun q0 => Or.elim q0 (fun q => (fun q => Or.inr (Or.inl q)) q) (fun q1 => (fun q => Or.inr (Or.inr (Or.inl q))) q1))) (fun o k h => h.elim) (fun o h => h.elim) (fun o h => (fun q => Or.inl q) h))) (sx_mono (D1 := xS_X1_dropJob 3) (fr_f_X1_dropJob (p := p5) 3 x1 p4 ax_G3 hp5) (fun o k h => (fun q => Or.inr (Or.inr (Or.inr (Or.inr (Or.inl q))))) h) (fun o k h => h.elim) (fun o h => h.elim) (fun o h => (fun q => Or.inr (Or.inl q)) h))) hf
abbrev xI_X11_turn : Nat → Nat → Prop := fun o k => (22 ≤ o ∧ o < 42) ∨ (o = 20 ∧ k = 1) ∨ (o = 20 ∧ k = 2) ∨ (o = 9 ∧ k = 4)
abbrev xJ_X11_turn : Nat → Nat → Prop := fun o k => False
abbrev xA_X11_turn : Nat → Prop := fun o => o = (3 + 3)
abbrev xB_X11_turn : Nat → Prop := fun o => (22 ≤ o ∧ o < 42) ∨ o = (3 + 1) ∨ o = (3 + 4) ∨ o = (3 + 5)
abbrev xS_X11_turn : sx_D := (xI_X11_turn, xJ_X11_turn, xA_X11_turn, xB_X11_turn)
set_option maxRecDepth 100000 in
set_option maxHeartbeats 1000000 in
theorem fr_f_X11_turn (x1 : Int32) (x2 : Int32) (s : sx_M) {p : Int32 × sx_M} (hf : f_X11_turn x1 x2 s = some p) : sx_eq (xS_X11_turn) s p.2 := by
  unfold f_X11_turn at hf
  obtain ⟨p1, hp1, hf⟩ := ax_bind hf
  rcases ax_or hf with ⟨hc3, hf⟩ | ⟨hc3, hf⟩
  · exact ax_ret (P := fun q : Int32 × sx_M => sx_eq (xS_X11_turn) s q.2) hf (sx_tr (sx_rf _ s) (sx_mono (D1 := xS_X1_hasWorker 3) (fr_f_X1_hasWorker (p := p1) 3 x1 s ax_G3 hp1) (fun o k h => h.elim) (fun o k h => h.elim) (fun o h => h.elim) (fun o h => h.elim)))
  · obtain ⟨p2, hp2, hf⟩ := ax_bind hf
    rcases ax_or hf with ⟨hc2, hf⟩ | ⟨hc2, hf⟩
    · exact ax_ret (P := fun q : Int32 × sx_M => sx_eq (xS_X11_turn) s q.2) hf (sx_tr (sx_tr (sx_rf _ s) (sx_mono (D1 := xS_X1_hasWorker 3) (fr_f_X1_hasWorker (p := p1) 3 x1 s ax_G3 hp1) (fun o k h => h.elim) (fun o k h => h.elim) (fun o h => h.elim) (fun o h => h.elim))) (sx_mono (D1 := xS_X1_hasWorker 3) (fr_f_X1_hasWorker (p := p2) 3 x2 p1.2 ax_G3 hp2) (fun o k h => h.elim) (fun o k h => h.elim) (fun o h => h.elim) (fun o h => h.elim)))
    · obtain ⟨p3, hp3, hf⟩ := ax_bind hf
      rcases ax_or hf with ⟨hc1, hf⟩ | ⟨hc1, hf⟩
      · obtain ⟨p4, hp4, hf⟩ := ax_bind hf
        obtain ⟨p5, hp5, hf⟩ := ax_bind hf
        obtain ⟨p6, hp6, hf⟩ := ax_bind hf
        exact ax_ret (P := fun q : Int32 × sx_M => sx_eq (xS_X11_turn) s q.2) hf (sx_tr (sx_tr (sx_tr (sx_tr (sx_tr (sx_tr (sx_rf _ s) (sx_mono (D1 := xS_X1_hasWorker 3) (fr_f_X1_hasWorker (p := p1) 3 x1 s ax_G3 hp1) (fun o k h => h.elim) (fun o k h => h.elim) (fun o h => h.elim) (fun o h => h.elim))) (sx_mono (D1 := xS_X1_hasWorker 3) (fr_f_X1_hasWorker (p := p2) 3 x2 p1.2 ax_G3 hp2) (fun o k h => h.elim) (fun o k h => h.elim) (fun o h => h.elim) (fun o h => h.elim))) (sx_mono (D1 := xS_X1_sameCosts 3) (fr_f_X1_sameCosts (p := p3) 3 x1 x2 p2.2 ax_G3 hp3) (fun o k h => h.elim) (fun o k h => h.elim) (fun o h => h.elim) (fun o h => h.elim))) (sx_mono (D1 := xS_X2_keep) (fr_f_X2_keep (p := p4) p3.2 hp4) (fun o k h => Or.elim h (fun q => (fun q => Or.inl q) q) (fun q0 => Or.elim q0 (fun q => (fun q => Or.inr (Or.inl q)) q) (fun q1 => (fun q => Or.inr (Or.inr (Or.inl q))) q1))) (fun o k h => h.elim) (fun o h => h.elim) (fun o h => (fun q => Or.inl q) h))) (sx_mono (D1 := xS_X1_swap 3) (fr_f_X1_swap (p := p5) 3 x1 x2 p4 ax_G3 hp5) (fun o k h => h.elim) (fun o k h => h.elim) (fun o h => h.elim) (fun o h => (fun q => Or.inr (Or.inl q)) h))) (sx_mono (D1 := xS_X11_changed) (fr_f_X11_changed (p := p6) p5 hp6) (fun o k h => (fun q => Or.inr (Or.inr (Or.inr (q)))) h) (fun o k h => h.elim) (fun o h => (fun q => q) h) (fun o h => Or.elim h (fun q => (fun q => Or.inr (Or.inr (Or.inl q))) q) (fun q0 => (fun q => Or.inr (Or.inr (Or.inr (q)))) q0))))
      · exact ax_ret (P := fun q : Int32 × sx_M => sx_eq (xS_X11_turn) s q.2) hf (sx_tr (sx_tr (sx_tr (sx_rf _ s) (sx_mono (D1 := xS_X1_hasWorker 3) (fr_f_X1_hasWorker (p := p1) 3 x1 s ax_G3 hp1) (fun o k h => h.elim) (fun o k h => h.elim) (fun o h => h.elim) (fun o h => h.elim))) (sx_mono (D1 := xS_X1_hasWorker 3) (fr_f_X1_hasWorker (p := p2) 3 x2 p1.2 ax_G3 hp2) (fun o k h => h.elim) (fun o k h => h.elim) (fun o h => h.elim) (fun o h => h.elim))) (sx_mono (D1 := xS_X1_sameCosts 3) (fr_f_X1_sameCosts (p := p3) 3 x1 x2 p2.2 ax_G3 hp3) (fun o k h => h.elim) (fun o k h => h.elim) (fun o h => h.elim) (fun o h => h.elim)))
abbrev xI_X11_undo : Nat → Nat → Prop := fun o k => (o = 20 ∧ k = 2) ∨ (o = 3 ∧ k = 1) ∨ (o = 3 ∧ k = 2) ∨ (o = 9 ∧ k = 4)
abbrev xJ_X11_undo : Nat → Nat → Prop := fun o k => False
abbrev xA_X11_undo : Nat → Prop := fun o => o = (3 + 3)
abbrev xB_X11_undo : Nat → Prop := fun o => o = (3 + 1) ∨ o = (3 + 4) ∨ o = (3 + 5)
abbrev xS_X11_undo : sx_D := (xI_X11_undo, xJ_X11_undo, xA_X11_undo, xB_X11_undo)
set_option maxRecDepth 100000 in
set_option maxHeartbeats 1000000 in
theorem fr_f_X11_undo (s : sx_M) {p : Int32 × sx_M} (hf : f_X11_undo s = some p) : sx_eq (xS_X11_undo) s p.2 := by
  unfold f_X11_undo at hf
  obtain ⟨p1, hp1, hf⟩ := ax_bind hf
  rcases ax_or hf with ⟨hc1, hf⟩ | ⟨hc1, hf⟩
  · exact ax_ret (P := fun q : Int32 × sx_M => sx_eq (xS_X11_undo) s q.2) hf (sx_tr (sx_rf _ s) (sx_mono (D1 := xS_X2_restore) (fr_f_X2_restore (p := p1) s hp1) (fun o k h => Or.elim h (fun q => (fun q => Or.inl q) q) (fun q0 => Or.elim q0 (fun q => (fun q => Or.inr (Or.inl q)) q) (fun q1 => (fun q => Or.inr (Or.inr (Or.inl q))) q1))) (fun o k h => h.elim) (fun o h => h.elim) (fun o h => (fun q => Or.inl q) h)))
  · obtain ⟨p2, hp2, hf⟩ := ax_bind hf
    exact ax_ret (P := fun q : Int32 × sx_M => sx_eq (xS_X11_undo) s q.2) hf (sx_tr (sx_tr (sx_rf _ s) (sx_mono (D1 := xS_X2_restore) (fr_f_X2_restore (p := p1) s hp1) (fun o k h => Or.elim h (fun q => (fun q => Or.inl q) q) (fun q0 => Or.elim q0 (fun q => (fun q => Or.inr (Or.inl q)) q) (fun q1 => (fun q => Or.inr (Or.inr (Or.inl q))) q1))) (fun o k h => h.elim) (fun o h => h.elim) (fun o h => (fun q => Or.inl q) h))) (sx_mono (D1 := xS_X11_changed) (fr_f_X11_changed (p := p2) p1.2 hp2) (fun o k h => (fun q => Or.inr (Or.inr (Or.inr (q)))) h) (fun o k h => h.elim) (fun o h => (fun q => q) h) (fun o h => Or.elim h (fun q => (fun q => Or.inr (Or.inl q)) q) (fun q0 => (fun q => Or.inr (Or.inr (q))) q0))))
