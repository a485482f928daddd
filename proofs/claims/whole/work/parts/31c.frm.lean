abbrev xI_X4_forget : Nat → Nat → Prop := fun o k => (o = 9 ∧ k = 4)
abbrev xJ_X4_forget : Nat → Nat → Prop := fun o k => False
abbrev xA_X4_forget : Nat → Prop := fun o => False
abbrev xB_X4_forget : Nat → Prop := fun o => False
abbrev xS_X4_forget : sx_D := (xI_X4_forget, xJ_X4_forget, xA_X4_forget, xB_X4_forget)
set_option maxRecDepth 100000 in
set_option maxHeartbeats 1000000 in
theorem fr_f_X4_forget (s : sx_M) {p : sx_M} (hf : f_X4_forget s = some p) : sx_eq (xS_X4_forget) s p := by
  unfold f_X4_forget at hf
  exact ax_ret (P := fun q : sx_M => sx_eq (xS_X4_forget) s q) hf (sx_wI' (D := (xS_X4_forget)) (sx_rf _ s) ((fun q => q) ⟨rfl, rfl⟩))
abbrev xI_X5_leastSum (g : Nat) : Nat → Nat → Prop := fun o k => False
abbrev xJ_X5_leastSum (g : Nat) : Nat → Nat → Prop := fun o k => False
abbrev xA_X5_leastSum (g : Nat) : Nat → Prop := fun o => False
abbrev xB_X5_leastSum (g : Nat) : Nat → Prop := fun o => False
abbrev xS_X5_leastSum (g : Nat) : sx_D := (xI_X5_leastSum g, xJ_X5_leastSum g, xA_X5_leastSum g, xB_X5_leastSum g)
set_option maxRecDepth 100000 in
set_option maxHeartbeats 1000000 in
theorem fr_f_X5_leastSum (g : Nat) (s : sx_M) (hr : ax_RK g) {p : Int64 × sx_M} (hf : f_X5_leastSum g s = some p) : sx_eq (xS_X5_leastSum g) s p.2 := by
  unfold f_X5_leastSum at hf
  rcases ax_or hf with ⟨hc1, hf⟩ | ⟨hc1, hf⟩
  · exact ax_ret (P := fun q : Int64 × sx_M => sx_eq (xS_X5_leastSum g) s q.2) hf (sx_rf _ s)
  · exact ax_ret (P := fun q : Int64 × sx_M => sx_eq (xS_X5_leastSum g) s q.2) hf (sx_rf _ s)
abbrev xI_X5_all (g : Nat) : Nat → Nat → Prop := fun o k => False
abbrev xJ_X5_all (g : Nat) : Nat → Nat → Prop := fun o k => False
abbrev xA_X5_all (g : Nat) : Nat → Prop := fun o => False
abbrev xB_X5_all (g : Nat) : Nat → Prop := fun o => False
abbrev xS_X5_all (g : Nat) : sx_D := (xI_X5_all g, xJ_X5_all g, xA_X5_all g, xB_X5_all g)
set_option maxRecDepth 100000 in
set_option maxHeartbeats 1000000 in
theorem fr_f_X5_all (g : Nat) (s : sx_M) (hr : ax_RK g) {p : Int32 × sx_M} (hf : f_X5_all g s = some p) : sx_eq (xS_X5_all g) s p.2 := by
  unfold f_X5_all at hf
  exact ax_ret (P := fun q : Int32 × sx_M => sx_eq (xS_X5_all g) s q.2) hf (sx_rf _ s)
abbrev xI_X4_addToPart : Nat → Nat → Prop := fun o k => (o = 9 ∧ k = 11) ∨ (o = 9 ∧ k = 12)
abbrev xJ_X4_addToPart : Nat → Nat → Prop := fun o k => False
abbrev xA_X4_addToPart : Nat → Prop := fun o => o = 12
abbrev xB_X4_addToPart : Nat → Prop := fun o => False
abbrev xS_X4_addToPart : sx_D := (xI_X4_addToPart, xJ_X4_addToPart, xA_X4_addToPart, xB_X4_addToPart)
set_option maxRecDepth 100000 in
set_option maxHeartbeats 1000000 in
theorem fr_f_X4_addToPart (x1 : Int32) (x2 : Int32) (s : sx_M) {p : sx_M} (hf : f_X4_addToPart x1 x2 s = some p) : sx_eq (xS_X4_addToPart) s p := by
  unfold f_X4_addToPart at hf
  rcases ax_or hf with ⟨hc8, hf⟩ | ⟨hc8, hf⟩
  · exact ax_ret (P := fun q : sx_M => sx_eq (xS_X4_addToPart) s q) hf (sx_rf _ s)
  · rcases ax_or hf with ⟨hc7, hf⟩ | ⟨hc7, hf⟩
    · obtain ⟨_, hf⟩ := ax_ite hf
      obtain ⟨_, hf⟩ := ax_ite hf
      obtain ⟨b1, hb1, hf⟩ := ax_bind hf
      have hvb1 := wh_inv (wI (wA s 12 (x1).toNatClampNeg ((rA s 12 (x1).toNatClampNeg) + x2)) 9 12 ((rI (wA s 12 (x1).toNatClampNeg ((rA s 12 (x1).toNatClampNeg) + x2)) 9 12) + x2)) (fun a31 : sx_M => sx_eq (xS_X4_addToPart) s a31) (fun e : sx_M => sx_eq (xS_X4_addToPart) s e) hb1 ?_ (sx_wI' (D := (xS_X4_addToPart)) (sx_wA' (D := (xS_X4_addToPart)) (sx_rf _ s) ((fun q => q) rfl)) ((fun q => Or.inr (q)) ⟨rfl, rfl⟩))
      rotate_left
      · intro a31 r ha31 hf
        unfold f_X4_addToPart_L31 at hf
        rcases ax_or hf with ⟨hc6, hf⟩ | ⟨hc6, hf⟩
        · exact ax_ret (P := Sum.elim (fun a31 : sx_M => sx_eq (xS_X4_addToPart) s a31) (fun e : sx_M => sx_eq (xS_X4_addToPart) s e)) hf ha31
        · obtain ⟨_, hf⟩ := ax_ite hf
          rcases ax_or hf with ⟨hc5, hf⟩ | ⟨hc5, hf⟩
          · exact ax_ret (P := Sum.elim (fun a31 : sx_M => sx_eq (xS_X4_addToPart) s a31) (fun e : sx_M => sx_eq (xS_X4_addToPart) s e)) hf ha31
          · obtain ⟨_, hf⟩ := ax_ite hf
            exact ax_ret (P := Sum.elim (fun a31 : sx_M => sx_eq (xS_X4_addToPart) s a31) (fun e : sx_M => sx_eq (xS_X4_addToPart) s e)) hf (sx_wI' (D := (xS_X4_addToPart)) (sx_wI' (D := (xS_X4_addToPart)) ha31 ((fun q => Or.inr (q)) ⟨rfl, rfl⟩)) ((fun q => Or.inl q) ⟨rfl, rfl⟩))
      exact ax_ret (P := fun q : sx_M => sx_eq (xS_X4_addToPart) s q) hf hvb1
    · exact ax_ret (P := fun q : sx_M => sx_eq (xS_X4_addToPart) s q) hf (sx_rf _ s)
abbrev xI_X4_spread : Nat → Nat → Prop := fun o k => (o = 9 ∧ k = 11) ∨ (o = 9 ∧ k = 12)
abbrev xJ_X4_spread : Nat → Nat → Prop := fun o k => False
abbrev xA_X4_spread : Nat → Prop := fun o => o = 12
abbrev xB_X4_spread : Nat → Prop := fun o => False
abbrev xS_X4_spread : sx_D := (xI_X4_spread, xJ_X4_spread, xA_X4_spread, xB_X4_spread)
set_option maxRecDepth 100000 in
set_option maxHeartbeats 1000000 in
theorem frr_X4_spread : ∀ (n : Nat) (x1 : Int32) (x2 : Int32) (x3 : Int64) (s : sx_M) {p : sx_M}, fr_X4_spread n x1 x2 x3 s = some p → sx_eq (xS_X4_spread) s p := by
  intro n
  induction n with
  | zero => intro x1 x2 x3 s p hf; cases hf
  | succ n ih =>
    intro x1 x2 x3 s p hf
    have hf : fb_X4_spread (fr_X4_spread n) x1 x2 x3 s = some p := hf
    unfold fb_X4_spread at hf
    obtain ⟨b4, hb4, hf⟩ := ax_bind hf
    have hvb4 := wh_inv ((0 : Int32), s) (fun a9 : Int32 × sx_M => sx_eq (xS_X4_spread) s a9.2) (fun e : sx_M => sx_eq (xS_X4_spread) s e) hb4 ?_ (sx_rf _ s)
    rotate_left
    · intro a9 r ha9 hf
      unfold f_X4_spread_L9 at hf
      have J185 : ∀ (y6_185 : Int32) (y7_185 : Int32) (y8_185 : Int64) (s_185 : sx_M), sx_eq (xS_X4_spread) s s_185 → f_X4_spread_L9_J185 (fr_X4_spread n) x1 x2 x3 y6_185 y7_185 y8_185 s_185 = some r → Sum.elim (fun a9 : Int32 × sx_M => sx_eq (xS_X4_spread) s a9.2) (fun e : sx_M => sx_eq (xS_X4_spread) s e) r := by
        intro y6_185 y7_185 y8_185 s_185 hs_185 hf
        unfold f_X4_spread_L9_J185 at hf
        obtain ⟨p1, hp1, hf⟩ := ax_bind hf
        exact ax_ret (P := Sum.elim (fun a9 : Int32 × sx_M => sx_eq (xS_X4_spread) s a9.2) (fun e : sx_M => sx_eq (xS_X4_spread) s e)) hf (sx_tr hs_185 (ih y7_185 (x2 + (1 : Int32)) (x3 + y8_185) s_185 (p := p1) hp1))
      rcases ax_or hf with ⟨hc13, hf⟩ | ⟨hc13, hf⟩
      · exact ax_ret (P := Sum.elim (fun a9 : Int32 × sx_M => sx_eq (xS_X4_spread) s a9.2) (fun e : sx_M => sx_eq (xS_X4_spread) s e)) hf ha9
      · rcases ax_or hf with ⟨hc12, hf⟩ | ⟨hc12, hf⟩
        · exact ax_ret (P := Sum.elim (fun a9 : Int32 × sx_M => sx_eq (xS_X4_spread) s a9.2) (fun e : sx_M => sx_eq (xS_X4_spread) s e)) hf ha9
        · obtain ⟨p2, hp2, hf⟩ := ax_bind hf
          rcases ax_or hf with ⟨hc11, hf⟩ | ⟨hc11, hf⟩
          · exact ax_ret (P := Sum.elim (fun a9 : Int32 × sx_M => sx_eq (xS_X4_spread) s a9.2) (fun e : sx_M => sx_eq (xS_X4_spread) s e)) hf (sx_tr ha9 (sx_mono (D1 := xS_X1_at 3) (fr_f_X1_at (p := p2) 3 x2 a9.1 a9.2 ax_G3 hp2) (fun o k h => h.elim) (fun o k h => h.elim) (fun o h => h.elim) (fun o h => h.elim)))
          · rcases ax_or hf with ⟨hc10, hf⟩ | ⟨hc10, hf⟩
            · exact ax_ret (P := Sum.elim (fun a9 : Int32 × sx_M => sx_eq (xS_X4_spread) s a9.2) (fun e : sx_M => sx_eq (xS_X4_spread) s e)) hf (sx_tr ha9 (sx_mono (D1 := xS_X1_at 3) (fr_f_X1_at (p := p2) 3 x2 a9.1 a9.2 ax_G3 hp2) (fun o k h => h.elim) (fun o k h => h.elim) (fun o h => h.elim) (fun o h => h.elim)))
            · obtain ⟨_, hf⟩ := ax_ite hf
              rcases ax_or hf with ⟨hc9, hf⟩ | ⟨hc9, hf⟩
              · exact ax_ret (P := Sum.elim (fun a9 : Int32 × sx_M => sx_eq (xS_X4_spread) s a9.2) (fun e : sx_M => sx_eq (xS_X4_spread) s e)) hf (sx_tr ha9 (sx_mono (D1 := xS_X1_at 3) (fr_f_X1_at (p := p2) 3 x2 a9.1 a9.2 ax_G3 hp2) (fun o k h => h.elim) (fun o k h => h.elim) (fun o h => h.elim) (fun o h => h.elim)))
              · obtain ⟨_, hf⟩ := ax_ite hf
                obtain ⟨_, hf⟩ := ax_ite hf
                rcases ax_or hf with ⟨hc8, hf⟩ | ⟨hc8, hf⟩
                · exact ax_ret (P := Sum.elim (fun a9 : Int32 × sx_M => sx_eq (xS_X4_spread) s a9.2) (fun e : sx_M => sx_eq (xS_X4_spread) s e)) hf (sx_tr ha9 (sx_mono (D1 := xS_X1_at 3) (fr_f_X1_at (p := p2) 3 x2 a9.1 a9.2 ax_G3 hp2) (fun o k h => h.elim) (fun o k h => h.elim) (fun o h => h.elim) (fun o h => h.elim)))
                · rcases ax_or hf with ⟨hc7, hf⟩ | ⟨hc7, hf⟩
                  · rcases ax_or hf with ⟨hc6, hf⟩ | ⟨hc6, hf⟩
                    · exact J185 a9.1 (x1 ||| ((1 : Int32) <<< (a9.1 &&& 31))) p2.1 p2.2 (sx_tr ha9 (sx_mono (D1 := xS_X1_at 3) (fr_f_X1_at (p := p2) 3 x2 a9.1 a9.2 ax_G3 hp2) (fun o k h => h.elim) (fun o k h => h.elim) (fun o h => h.elim) (fun o h => h.elim))) hf
                    · rcases ax_or hf with ⟨hc5, hf⟩ | ⟨hc5, hf⟩
                      · obtain ⟨_, hf⟩ := ax_ite hf
                        obtain ⟨p3, hp3, hf⟩ := ax_bind hf
                        exact ax_ret (P := Sum.elim (fun a9 : Int32 × sx_M => sx_eq (xS_X4_spread) s a9.2) (fun e : sx_M => sx_eq (xS_X4_spread) s e)) hf (sx_tr (sx_tr ha9 (sx_mono (D1 := xS_X1_at 3) (fr_f_X1_at (p := p2) 3 x2 a9.1 a9.2 ax_G3 hp2) (fun o k h => h.elim) (fun o k h => h.elim) (fun o h => h.elim) (fun o h => h.elim))) (sx_mono (D1 := xS_X4_addToPart) (fr_f_X4_addToPart (p := p3) (((((x3 + p2.1) + (rB p2.2 7 ((x1 ||| ((1 : Int32) <<< (a9.1 &&& 31)))).toNatClampNeg)) >>> (((rI p2.2 9 9)).toInt64 &&& 63))).toInt32) (rA p2.2 6 ((x1 ||| ((1 : Int32) <<< (a9.1 &&& 31)))).toNatClampNeg) p2.2 hp3) (fun o k h => Or.elim h (fun q => (fun q => Or.inl q) q) (fun q0 => (fun q => Or.inr (q)) q0)) (fun o k h => h.elim) (fun o h => (fun q => q) h) (fun o h => h.elim)))
                      · exact J185 a9.1 (x1 ||| ((1 : Int32) <<< (a9.1 &&& 31))) p2.1 p2.2 (sx_tr ha9 (sx_mono (D1 := xS_X1_at 3) (fr_f_X1_at (p := p2) 3 x2 a9.1 a9.2 ax_G3 hp2) (fun o k h => h.elim) (fun o k h => h.elim) (fun o h => h.elim) (fun o h => h.elim))) hf
                  · exact ax_ret (P := Sum.elim (fun a9 : Int32 × sx_M => sx_eq (xS_X4_spread) s a9.2) (fun e : sx_M => sx_eq (xS_X4_spread) s e)) hf (sx_tr ha9 (sx_mono (D1 := xS_X1_at 3) (fr_f_X1_at (p := p2) 3 x2 a9.1 a9.2 ax_G3 hp2) (fun o k h => h.elim) (fun o k h => h.elim) (fun o h => h.elim) (fun o h => h.elim)))
    exact ax_ret (P := fun q : sx_M => sx_eq (xS_X4_spread) s q) hf hvb4
theorem fr_f_X4_spread (x1 : Int32) (x2 : Int32) (x3 : Int64) (s : sx_M) {p : sx_M} (hf : f_X4_spread x1 x2 x3 s = some p) : sx_eq (xS_X4_spread) s p := frr_X4_spread 9 x1 x2 x3 s hf
abbrev xI_X4_partOfSkipped : Nat → Nat → Prop := fun o k => (o = 9 ∧ k = 10) ∨ (o = 9 ∧ k = 11) ∨ (o = 9 ∧ k = 12)
abbrev xJ_X4_partOfSkipped : Nat → Nat → Prop := fun o k => False
abbrev xA_X4_partOfSkipped : Nat → Prop := fun o => o = 12
abbrev xB_X4_partOfSkipped : Nat → Prop := fun o => False
abbrev xS_X4_partOfSkipped : sx_D := (xI_X4_partOfSkipped, xJ_X4_partOfSkipped, xA_X4_partOfSkipped, xB_X4_partOfSkipped)
set_option maxRecDepth 100000 in
set_option maxHeartbeats 1000000 in
theorem fr_f_X4_partOfSkipped (x1 : Int64) (s : sx_M) {p : Int32 × sx_M} (hf : f_X4_partOfSkipped x1 s = some p) : sx_eq (xS_X4_partOfSkipped) s p.2 := by
  unfold f_X4_partOfSkipped at hf
  obtain ⟨b1, hb1, hf⟩ := ax_bind hf
  have hvb1 := wh_inv ((0 : Int32), s) (fun a2 : Int32 × sx_M => sx_eq (xS_X4_partOfSkipped) s a2.2) (fun e : sx_M => sx_eq (xS_X4_partOfSkipped) s e) hb1 ?_ (sx_rf _ s)
  rotate_left
  · intro a2 r ha2 hf
    unfold f_X4_partOfSkipped_L2 at hf
    rcases ax_or hf with ⟨hc2, hf⟩ | ⟨hc2, hf⟩
    · exact ax_ret (P := Sum.elim (fun a2 : Int32 × sx_M => sx_eq (xS_X4_partOfSkipped) s a2.2) (fun e : sx_M => sx_eq (xS_X4_partOfSkipped) s e)) hf ha2
    · obtain ⟨_, hf⟩ := ax_ite hf
      exact ax_ret (P := Sum.elim (fun a2 : Int32 × sx_M => sx_eq (xS_X4_partOfSkipped) s a2.2) (fun e : sx_M => sx_eq (xS_X4_partOfSkipped) s e)) hf (sx_wA' (D := (xS_X4_partOfSkipped)) ha2 ((fun q => q) rfl))
  obtain ⟨p2, hp2, hf⟩ := ax_bind hf
  obtain ⟨b3, hb3, hf⟩ := ax_bind hf
  have hvb3 := wh_inv ((0 : Int32), p2) (fun a42 : Int32 × sx_M => sx_eq (xS_X4_partOfSkipped) s a42.2) (fun e : Int32 × sx_M => sx_eq (xS_X4_partOfSkipped) s e.2) hb3 ?_ (sx_tr (sx_wI' (D := (xS_X4_partOfSkipped)) (sx_wI' (D := (xS_X4_partOfSkipped)) hvb1 ((fun q => Or.inr (Or.inl q)) ⟨rfl, rfl⟩)) ((fun q => Or.inr (Or.inr (q))) ⟨rfl, rfl⟩)) (sx_mono (D1 := xS_X4_spread) (fr_f_X4_spread (p := p2) (0 : Int32) (0 : Int32) (-x1) (wI (wI b1 9 11 (63 : Int32)) 9 12 (0 : Int32)) hp2) (fun o k h => Or.elim h (fun q => (fun q => Or.inr (Or.inl q)) q) (fun q0 => (fun q => Or.inr (Or.inr (q))) q0)) (fun o k h => h.elim) (fun o h => (fun q => q) h) (fun o h => h.elim)))
  rotate_left
  · intro a42 r ha42 hf
    unfold f_X4_partOfSkipped_L42 at hf
    rcases ax_or hf with ⟨hc6, hf⟩ | ⟨hc6, hf⟩
    · exact ax_ret (P := Sum.elim (fun a42 : Int32 × sx_M => sx_eq (xS_X4_partOfSkipped) s a42.2) (fun e : Int32 × sx_M => sx_eq (xS_X4_partOfSkipped) s e.2)) hf ha42
    · obtain ⟨_, hf⟩ := ax_ite hf
      rcases ax_or hf with ⟨hc5, hf⟩ | ⟨hc5, hf⟩
      · exact ax_ret (P := Sum.elim (fun a42 : Int32 × sx_M => sx_eq (xS_X4_partOfSkipped) s a42.2) (fun e : Int32 × sx_M => sx_eq (xS_X4_partOfSkipped) s e.2)) hf ha42
      · obtain ⟨_, hf⟩ := ax_ite hf
        exact ax_ret (P := Sum.elim (fun a42 : Int32 × sx_M => sx_eq (xS_X4_partOfSkipped) s a42.2) (fun e : Int32 × sx_M => sx_eq (xS_X4_partOfSkipped) s e.2)) hf (sx_wI' (D := (xS_X4_partOfSkipped)) ha42 ((fun q => Or.inl q) ⟨rfl, rfl⟩))
  exact ax_ret (P := fun q : Int32 × sx_M => sx_eq (xS_X4_partOfSkipped) s q.2) hf hvb3
abbrev xI_X4_sumAt : Nat → Nat → Prop := fun o k => (o = 9 ∧ k = 10) ∨ (o = 9 ∧ k = 11) ∨ (o = 9 ∧ k = 12) ∨ (o = 9 ∧ k = 9)
abbrev xJ_X4_sumAt : Nat → Nat → Prop := fun o k => False
abbrev xA_X4_sumAt : Nat → Prop := fun o => o = 12
abbrev xB_X4_sumAt : Nat → Prop := fun o => False
abbrev xS_X4_sumAt : sx_D := (xI_X4_sumAt, xJ_X4_sumAt, xA_X4_sumAt, xB_X4_sumAt)
set_option maxRecDepth 100000 in
set_option maxHeartbeats 1000000 in
theorem fr_f_X4_sumAt (x1 : Int32) (s : sx_M) {p : Int64 × sx_M} (hf : f_X4_sumAt x1 s = some p) : sx_eq (xS_X4_sumAt) s p.2 := by
  unfold f_X4_sumAt at hf
  obtain ⟨b1, hb1, hf⟩ := ax_bind hf
  have hvb1 := wh_inv (wI (wI s 9 10 x1) 9 9 (0 : Int32)) (fun a33 : sx_M => sx_eq (xS_X4_sumAt) s a33) (fun e : sx_M => sx_eq (xS_X4_sumAt) s e) hb1 ?_ (sx_wI' (D := (xS_X4_sumAt)) (sx_wI' (D := (xS_X4_sumAt)) (sx_rf _ s) ((fun q => Or.inl q) ⟨rfl, rfl⟩)) ((fun q => Or.inr (Or.inr (Or.inr (q)))) ⟨rfl, rfl⟩))
  rotate_left
  · intro a33 r ha33 hf
    unfold f_X4_sumAt_L33 at hf
    rcases ax_or hf with ⟨hc2, hf⟩ | ⟨hc2, hf⟩
    · exact ax_ret (P := Sum.elim (fun a33 : sx_M => sx_eq (xS_X4_sumAt) s a33) (fun e : sx_M => sx_eq (xS_X4_sumAt) s e)) hf ha33
    · rcases ax_or hf with ⟨hc1, hf⟩ | ⟨hc1, hf⟩
      · exact ax_ret (P := Sum.elim (fun a33 : sx_M => sx_eq (xS_X4_sumAt) s a33) (fun e : sx_M => sx_eq (xS_X4_sumAt) s e)) hf ha33
      · exact ax_ret (P := Sum.elim (fun a33 : sx_M => sx_eq (xS_X4_sumAt) s a33) (fun e : sx_M => sx_eq (xS_X4_sumAt) s e)) hf (sx_wI' (D := (xS_X4_sumAt)) ha33 ((fun q => Or.inr (Or.inr (Or.inr (q)))) ⟨rfl, rfl⟩))
  obtain ⟨b4, hb4, hf⟩ := ax_bind hf
  have hvb4 := wh_inv ((rB s 7 ((0 : Int32)).toNatClampNeg), ((rB s 8 ((0 : Int32)).toNatClampNeg) - (rB s 7 ((0 : Int32)).toNatClampNeg)), (0 : Int32), b1) (fun a72 : Int64 × Int64 × Int32 × sx_M => sx_eq (xS_X4_sumAt) s a72.2.2.2) (fun e : Int64 × sx_M => sx_eq (xS_X4_sumAt) s e.2) hb4 ?_ hvb1
  rotate_left
  · intro a72 r ha72 hf
    unfold f_X4_sumAt_L72 at hf
    rcases ax_or hf with ⟨hc4, hf⟩ | ⟨hc4, hf⟩
    · exact ax_ret (P := Sum.elim (fun a72 : Int64 × Int64 × Int32 × sx_M => sx_eq (xS_X4_sumAt) s a72.2.2.2) (fun e : Int64 × sx_M => sx_eq (xS_X4_sumAt) s e.2)) hf ha72
    · rcases ax_or hf with ⟨hc3, hf⟩ | ⟨hc3, hf⟩
      · exact ax_ret (P := Sum.elim (fun a72 : Int64 × Int64 × Int32 × sx_M => sx_eq (xS_X4_sumAt) s a72.2.2.2) (fun e : Int64 × sx_M => sx_eq (xS_X4_sumAt) s e.2)) hf ha72
      · obtain ⟨p2, hp2, hf⟩ := ax_bind hf
        obtain ⟨p3, hp3, hf⟩ := ax_bind hf
        exact ax_ret (P := Sum.elim (fun a72 : Int64 × Int64 × Int32 × sx_M => sx_eq (xS_X4_sumAt) s a72.2.2.2) (fun e : Int64 × sx_M => sx_eq (xS_X4_sumAt) s e.2)) hf (sx_wI' (D := (xS_X4_sumAt)) (sx_tr (sx_tr ha72 (sx_mono (D1 := xS_X4_partOfSkipped) (fr_f_X4_partOfSkipped (p := p2) a72.1 a72.2.2.2 hp2) (fun o k h => Or.elim h (fun q => (fun q => Or.inl q) q) (fun q0 => Or.elim q0 (fun q => (fun q => Or.inr (Or.inl q)) q) (fun q1 => (fun q => Or.inr (Or.inr (Or.inl q))) q1))) (fun o k h => h.elim) (fun o h => (fun q => q) h) (fun o h => h.elim))) (sx_mono (D1 := xS_J9_max_7cf53) (fr_f_J9_max_7cf53 (p := p3) (0 : Int32) ((rI p2.2 9 9) - (6 : Int32)) p2.2 hp3) (fun o k h => h.elim) (fun o k h => h.elim) (fun o h => h.elim) (fun o h => h.elim))) ((fun q => Or.inr (Or.inr (Or.inr (q)))) ⟨rfl, rfl⟩))
  exact ax_ret (P := fun q : Int64 × sx_M => sx_eq (xS_X4_sumAt) s q.2) hf hvb4
abbrev xI_X5_search (g : Nat) : Nat → Nat → Prop := fun o k => False
abbrev xJ_X5_search (g : Nat) : Nat → Nat → Prop := fun o k => False
abbrev xA_X5_search (g : Nat) : Nat → Prop := fun o => False
abbrev xB_X5_search (g : Nat) : Nat → Prop := fun o => False
abbrev xS_X5_search (g : Nat) : sx_D := (xI_X5_search g, xJ_X5_search g, xA_X5_search g, xB_X5_search g)
set_option maxRecDepth 100000 in
set_option maxHeartbeats 1000000 in
theorem frr_X5_search (g : Nat) (hr : ax_RK g) : ∀ (n : Nat) (x1 : Int32) (x2 : Int32) (x3 : Int64) (x5 : Int64) (s : sx_M) {p : Int32 × sx_M}, fr_X5_search g n x1 x2 x3 x5 s = some p → sx_eq (xS_X5_search g) s p.2 := by
  intro n
  induction n with
  | zero => intro x1 x2 x3 x5 s p hf; cases hf
  | succ n ih =>
    intro x1 x2 x3 x5 s p hf
    have hf : fb_X5_search g (fr_X5_search g n) x1 x2 x3 x5 s = some p := hf
    unfold fb_X5_search at hf
    obtain ⟨b3, hb3, hf⟩ := ax_bind hf
    have hvb3 := wh_inv ((0 : Int32), (0 : Int32), s) (fun a6 : Int32 × Int32 × sx_M => sx_eq (xS_X5_search g) s a6.2.2) (fun e : Int32 × sx_M => sx_eq (xS_X5_search g) s e.2) hb3 ?_ (sx_rf _ s)
    rotate_left
    · intro a6 r ha6 hf
      unfold f_X5_search_L6 at hf
      have J131 : ∀ (y7_131 : Int32) (y8_131 : Int32) (y9_131 : Int32) (y12_131 : Int64) (y14_131 : Int64) (s_131 : sx_M), sx_eq (xS_X5_search g) s s_131 → f_X5_search_L6_J131 g (fr_X5_search g n) x1 x2 x3 x5 y7_131 y8_131 y9_131 y12_131 y14_131 s_131 = some r → Sum.elim (fun a6 : Int32 × Int32 × sx_M => sx_eq (xS_X5_search g) s a6.2.2) (fun e : Int32 × sx_M => sx_eq (xS_X5_search g) s e.2) r := by
        intro y7_131 y8_131 y9_131 y12_131 y14_131 s_131 hs_131 hf
        unfold f_X5_search_L6_J131 at hf
        obtain ⟨_, hf⟩ := ax_ite hf
        rcases ax_or hf with ⟨hc4, hf⟩ | ⟨hc4, hf⟩
        · exact ax_ret (P := Sum.elim (fun a6 : Int32 × Int32 × sx_M => sx_eq (xS_X5_search g) s a6.2.2) (fun e : Int32 × sx_M => sx_eq (xS_X5_search g) s e.2)) hf hs_131
        · obtain ⟨_, hf⟩ := ax_ite hf
          rcases ax_or hf with ⟨hc3, hf⟩ | ⟨hc3, hf⟩
          · exact ax_ret (P := Sum.elim (fun a6 : Int32 × Int32 × sx_M => sx_eq (xS_X5_search g) s a6.2.2) (fun e : Int32 × sx_M => sx_eq (xS_X5_search g) s e.2)) hf hs_131
          · obtain ⟨p1, hp1, hf⟩ := ax_bind hf
            exact ax_ret (P := Sum.elim (fun a6 : Int32 × Int32 × sx_M => sx_eq (xS_X5_search g) s a6.2.2) (fun e : Int32 × sx_M => sx_eq (xS_X5_search g) s e.2)) hf (sx_tr hs_131 (ih y9_131 (x2 + (1 : Int32)) y12_131 y14_131 s_131 (p := p1) hp1))
      rcases ax_or hf with ⟨hc15, hf⟩ | ⟨hc15, hf⟩
      · exact ax_ret (P := Sum.elim (fun a6 : Int32 × Int32 × sx_M => sx_eq (xS_X5_search g) s a6.2.2) (fun e : Int32 × sx_M => sx_eq (xS_X5_search g) s e.2)) hf ha6
      · rcases ax_or hf with ⟨hc14, hf⟩ | ⟨hc14, hf⟩
        · exact ax_ret (P := Sum.elim (fun a6 : Int32 × Int32 × sx_M => sx_eq (xS_X5_search g) s a6.2.2) (fun e : Int32 × sx_M => sx_eq (xS_X5_search g) s e.2)) hf ha6
        · obtain ⟨p2, hp2, hf⟩ := ax_bind hf
          rcases ax_or hf with ⟨hc13, hf⟩ | ⟨hc13, hf⟩
          · exact ax_ret (P := Sum.elim (fun a6 : Int32 × Int32 × sx_M => sx_eq (xS_X5_search g) s a6.2.2) (fun e : Int32 × sx_M => sx_eq (xS_X5_search g) s e.2)) hf (sx_tr ha6 (sx_mono (D1 := xS_X1_at g) (fr_f_X1_at (p := p2) g x2 a6.2.1 a6.2.2 hr.1 hp2) (fun o k h => h.elim) (fun o k h => h.elim) (fun o h => h.elim) (fun o h => h.elim)))
          · rcases ax_or hf with ⟨hc12, hf⟩ | ⟨hc12, hf⟩
            · exact ax_ret (P := Sum.elim (fun a6 : Int32 × Int32 × sx_M => sx_eq (xS_X5_search g) s a6.2.2) (fun e : Int32 × sx_M => sx_eq (xS_X5_search g) s e.2)) hf (sx_tr ha6 (sx_mono (D1 := xS_X1_at g) (fr_f_X1_at (p := p2) g x2 a6.2.1 a6.2.2 hr.1 hp2) (fun o k h => h.elim) (fun o k h => h.elim) (fun o h => h.elim) (fun o h => h.elim)))
            · obtain ⟨_, hf⟩ := ax_ite hf
              rcases ax_or hf with ⟨hc11, hf⟩ | ⟨hc11, hf⟩
              · exact ax_ret (P := Sum.elim (fun a6 : Int32 × Int32 × sx_M => sx_eq (xS_X5_search g) s a6.2.2) (fun e : Int32 × sx_M => sx_eq (xS_X5_search g) s e.2)) hf (sx_tr ha6 (sx_mono (D1 := xS_X1_at g) (fr_f_X1_at (p := p2) g x2 a6.2.1 a6.2.2 hr.1 hp2) (fun o k h => h.elim) (fun o k h => h.elim) (fun o h => h.elim) (fun o h => h.elim)))
              · obtain ⟨_, hf⟩ := ax_ite hf
                rcases ax_or hf with ⟨hc10, hf⟩ | ⟨hc10, hf⟩
                · exact J131 a6.1 a6.2.1 (x1 ||| ((1 : Int32) <<< (a6.2.1 &&& 31))) (x3 - p2.1) (x5 - p2.1) p2.2 (sx_tr ha6 (sx_mono (D1 := xS_X1_at g) (fr_f_X1_at (p := p2) g x2 a6.2.1 a6.2.2 hr.1 hp2) (fun o k h => h.elim) (fun o k h => h.elim) (fun o h => h.elim) (fun o h => h.elim))) hf
                · obtain ⟨_, hf⟩ := ax_ite hf
                  rcases ax_or hf with ⟨hc9, hf⟩ | ⟨hc9, hf⟩
                  · exact J131 a6.1 a6.2.1 (x1 ||| ((1 : Int32) <<< (a6.2.1 &&& 31))) (x3 - p2.1) (x5 - p2.1) p2.2 (sx_tr ha6 (sx_mono (D1 := xS_X1_at g) (fr_f_X1_at (p := p2) g x2 a6.2.1 a6.2.2 hr.1 hp2) (fun o k h => h.elim) (fun o k h => h.elim) (fun o h => h.elim) (fun o h => h.elim))) hf
                  · obtain ⟨_, hf⟩ := ax_ite hf
                    exact ax_ret (P := Sum.elim (fun a6 : Int32 × Int32 × sx_M => sx_eq (xS_X5_search g) s a6.2.2) (fun e : Int32 × sx_M => sx_eq (xS_X5_search g) s e.2)) hf (sx_tr ha6 (sx_mono (D1 := xS_X1_at g) (fr_f_X1_at (p := p2) g x2 a6.2.1 a6.2.2 hr.1 hp2) (fun o k h => h.elim) (fun o k h => h.elim) (fun o h => h.elim) (fun o h => h.elim)))
    exact ax_ret (P := fun q : Int32 × sx_M => sx_eq (xS_X5_search g) s q.2) hf hvb3
theorem fr_f_X5_search (g : Nat) (x1 : Int32) (x2 : Int32) (x3 : Int64) (x5 : Int64) (s : sx_M) (hr : ax_RK g) {p : Int32 × sx_M} (hf : f_X5_search g x1 x2 x3 x5 s = some p) : sx_eq (xS_X5_search g) s p.2 := frr_X5_search g hr 9 x1 x2 x3 x5 s hf
abbrev xI_X5_between (g : Nat) : Nat → Nat → Prop := fun o k => False
abbrev xJ_X5_between (g : Nat) : Nat → Nat → Prop := fun o k => False
abbrev xA_X5_between (g : Nat) : Nat → Prop := fun o => False
abbrev xB_X5_between (g : Nat) : Nat → Prop := fun o => False
abbrev xS_X5_between (g : Nat) : sx_D := (xI_X5_between g, xJ_X5_between g, xA_X5_between g, xB_X5_between g)
set_option maxRecDepth 100000 in
set_option maxHeartbeats 1000000 in
theorem fr_f_X5_between (g : Nat) (x1 : Int32) (x2 : Int32) (x3 : Int64) (x5 : Int64) (s : sx_M) (hr : ax_RK g) {p : Int32 × sx_M} (hf : f_X5_between g x1 x2 x3 x5 s = some p) : sx_eq (xS_X5_between g) s p.2 := by
  unfold f_X5_between at hf
  have J75 : ∀ (y1_75 : Int32) (y2_75 : Int32) (y3_75 : Int64) (y5_75 : Int64) (s_75 : sx_M), sx_eq (xS_X5_between g) s s_75 → f_X5_between_J75 g y1_75 y2_75 y3_75 y5_75 s_75 = some p → sx_eq (xS_X5_between g) s p.2 := by
    intro y1_75 y2_75 y3_75 y5_75 s_75 hs_75 hf
    unfold f_X5_between_J75 at hf
    obtain ⟨p1, hp1, hf⟩ := ax_bind hf
    exact ax_ret (P := fun q : Int32 × sx_M => sx_eq (xS_X5_between g) s q.2) hf (sx_tr hs_75 (sx_mono (D1 := xS_X5_search g) (fr_f_X5_search (p := p1) g y1_75 y2_75 y3_75 y5_75 s_75 hr hp1) (fun o k h => h.elim) (fun o k h => h.elim) (fun o h => h.elim) (fun o h => h.elim)))
  rcases ax_or hf with ⟨hc13, hf⟩ | ⟨hc13, hf⟩
  · exact ax_ret (P := fun q : Int32 × sx_M => sx_eq (xS_X5_between g) s q.2) hf (sx_rf _ s)
  · rcases ax_or hf with ⟨hc12, hf⟩ | ⟨hc12, hf⟩
    · exact ax_ret (P := fun q : Int32 × sx_M => sx_eq (xS_X5_between g) s q.2) hf (sx_rf _ s)
    · obtain ⟨_, hf⟩ := ax_ite hf
      rcases ax_or hf with ⟨hc11, hf⟩ | ⟨hc11, hf⟩
      · exact ax_ret (P := fun q : Int32 × sx_M => sx_eq (xS_X5_between g) s q.2) hf (sx_rf _ s)
      · obtain ⟨_, hf⟩ := ax_ite hf
        rcases ax_or hf with ⟨hc10, hf⟩ | ⟨hc10, hf⟩
        · exact ax_ret (P := fun q : Int32 × sx_M => sx_eq (xS_X5_between g) s q.2) hf (sx_rf _ s)
        · obtain ⟨_, hf⟩ := ax_ite hf
          rcases ax_or hf with ⟨hc9, hf⟩ | ⟨hc9, hf⟩
          · obtain ⟨_, hf⟩ := ax_ite hf
            rcases ax_or hf with ⟨hc8, hf⟩ | ⟨hc8, hf⟩
            · exact J75 x1 x2 x3 x5 s (sx_rf _ s) hf
            · obtain ⟨_, hf⟩ := ax_ite hf
              rcases ax_or hf with ⟨hc7, hf⟩ | ⟨hc7, hf⟩
              · exact J75 x1 x2 x3 x5 s (sx_rf _ s) hf
              · obtain ⟨_, hf⟩ := ax_ite hf
                exact ax_ret (P := fun q : Int32 × sx_M => sx_eq (xS_X5_between g) s q.2) hf (sx_rf _ s)
          · exact ax_ret (P := fun q : Int32 × sx_M => sx_eq (xS_X5_between g) s q.2) hf (sx_rf _ s)
abbrev xI_X5_upTo (g : Nat) : Nat → Nat → Prop := fun o k => False
abbrev xJ_X5_upTo (g : Nat) : Nat → Nat → Prop := fun o k => False
abbrev xA_X5_upTo (g : Nat) : Nat → Prop := fun o => False
abbrev xB_X5_upTo (g : Nat) : Nat → Prop := fun o => False
abbrev xS_X5_upTo (g : Nat) : sx_D := (xI_X5_upTo g, xJ_X5_upTo g, xA_X5_upTo g, xB_X5_upTo g)
set_option maxRecDepth 100000 in
set_option maxHeartbeats 1000000 in
theorem fr_f_X5_upTo (g : Nat) (x1 : Int64) (s : sx_M) (hr : ax_RK g) {p : Int32 × sx_M} (hf : f_X5_upTo g x1 s = some p) : sx_eq (xS_X5_upTo g) s p.2 := by
  unfold f_X5_upTo at hf
  obtain ⟨p1, hp1, hf⟩ := ax_bind hf
  exact ax_ret (P := fun q : Int32 × sx_M => sx_eq (xS_X5_upTo g) s q.2) hf (sx_tr (sx_rf _ s) (sx_mono (D1 := xS_X5_between g) (fr_f_X5_between (p := p1) g (0 : Int32) (0 : Int32) (-1000000000 : Int64) x1 s hr hp1) (fun o k h => h.elim) (fun o k h => h.elim) (fun o h => h.elim) (fun o h => h.elim)))
abbrev xI_X4_add : Nat → Nat → Prop := fun o k => (o = 9 ∧ k = 5) ∨ (o = 9 ∧ k = 7)
abbrev xJ_X4_add : Nat → Nat → Prop := fun o k => False
abbrev xA_X4_add : Nat → Prop := fun o => o = 10
abbrev xB_X4_add : Nat → Prop := fun o => o = 11
abbrev xS_X4_add : sx_D := (xI_X4_add, xJ_X4_add, xA_X4_add, xB_X4_add)
set_option maxRecDepth 100000 in
set_option maxHeartbeats 1000000 in
theorem fr_f_X4_add (x1 : Int32) (x2 : Int64) (s : sx_M) {p : sx_M} (hf : f_X4_add x1 x2 s = some p) : sx_eq (xS_X4_add) s p := by
  unfold f_X4_add at hf
  rcases ax_or hf with ⟨hc11, hf⟩ | ⟨hc11, hf⟩
  · obtain ⟨b1, hb1, hf⟩ := ax_bind hf
    have hvb1 := wh_inv ((rI s 9 5), s) (fun a17 : Int32 × sx_M => sx_eq (xS_X4_add) s a17.2) (fun e : Int32 × sx_M => sx_eq (xS_X4_add) s e.2) hb1 ?_ (sx_rf _ s)
    rotate_left
    · intro a17 r ha17 hf
      unfold f_X4_add_L17 at hf
      rcases ax_or hf with ⟨hc7, hf⟩ | ⟨hc7, hf⟩
      · exact ax_ret (P := Sum.elim (fun a17 : Int32 × sx_M => sx_eq (xS_X4_add) s a17.2) (fun e : Int32 × sx_M => sx_eq (xS_X4_add) s e.2)) hf ha17
      · obtain ⟨_, hf⟩ := ax_ite hf
        rcases ax_or hf with ⟨hc6, hf⟩ | ⟨hc6, hf⟩
        · exact ax_ret (P := Sum.elim (fun a17 : Int32 × sx_M => sx_eq (xS_X4_add) s a17.2) (fun e : Int32 × sx_M => sx_eq (xS_X4_add) s e.2)) hf ha17
        · obtain ⟨_, hf⟩ := ax_ite hf
          obtain ⟨_, hf⟩ := ax_ite hf
          obtain ⟨_, hf⟩ := ax_ite hf
          obtain ⟨_, hf⟩ := ax_ite hf
          exact ax_ret (P := Sum.elim (fun a17 : Int32 × sx_M => sx_eq (xS_X4_add) s a17.2) (fun e : Int32 × sx_M => sx_eq (xS_X4_add) s e.2)) hf (sx_wA' (D := (xS_X4_add)) (sx_wB' (D := (xS_X4_add)) ha17 ((fun q => q) rfl)) ((fun q => q) rfl))
    obtain ⟨_, hf⟩ := ax_ite hf
    obtain ⟨_, hf⟩ := ax_ite hf
    rcases ax_or hf with ⟨hc10, hf⟩ | ⟨hc10, hf⟩
    · exact ax_ret (P := fun q : sx_M => sx_eq (xS_X4_add) s q) hf (sx_wI' (D := (xS_X4_add)) (sx_wI' (D := (xS_X4_add)) (sx_wA' (D := (xS_X4_add)) (sx_wB' (D := (xS_X4_add)) hvb1 ((fun q => q) rfl)) ((fun q => q) rfl)) ((fun q => Or.inl q) ⟨rfl, rfl⟩)) ((fun q => Or.inr (q)) ⟨rfl, rfl⟩))
    · exact ax_ret (P := fun q : sx_M => sx_eq (xS_X4_add) s q) hf (sx_wI' (D := (xS_X4_add)) (sx_wA' (D := (xS_X4_add)) (sx_wB' (D := (xS_X4_add)) hvb1 ((fun q => q) rfl)) ((fun q => q) rfl)) ((fun q => Or.inl q) ⟨rfl, rfl⟩))
  · exact ax_ret (P := fun q : sx_M => sx_eq (xS_X4_add) s q) hf (sx_rf _ s)
abbrev xI_X4_belongs : Nat → Nat → Prop := fun o k => False
abbrev xJ_X4_belongs : Nat → Nat → Prop := fun o k => False
abbrev xA_X4_belongs : Nat → Prop := fun o => False
abbrev xB_X4_belongs : Nat → Prop := fun o => False
abbrev xS_X4_belongs : sx_D := (xI_X4_belongs, xJ_X4_belongs, xA_X4_belongs, xB_X4_belongs)
set_option maxRecDepth 100000 in
set_option maxHeartbeats 1000000 in
theorem fr_f_X4_belongs (x1 : Int64) (s : sx_M) {p : Int32 × sx_M} (hf : f_X4_belongs x1 s = some p) : sx_eq (xS_X4_belongs) s p.2 := by
  unfold f_X4_belongs at hf
  rcases ax_or hf with ⟨hc3, hf⟩ | ⟨hc3, hf⟩
  · exact ax_ret (P := fun q : Int32 × sx_M => sx_eq (xS_X4_belongs) s q.2) hf (sx_rf _ s)
  · rcases ax_or hf with ⟨hc2, hf⟩ | ⟨hc2, hf⟩
    · rcases ax_or hf with ⟨hc1, hf⟩ | ⟨hc1, hf⟩
      · exact ax_ret (P := fun q : Int32 × sx_M => sx_eq (xS_X4_belongs) s q.2) hf (sx_rf _ s)
      · exact ax_ret (P := fun q : Int32 × sx_M => sx_eq (xS_X4_belongs) s q.2) hf (sx_rf _ s)
    · exact ax_ret (P := fun q : Int32 × sx_M => sx_eq (xS_X4_belongs) s q.2) hf (sx_rf _ s)
abbrev xI_X4_collect : Nat → Nat → Prop := fun o k => (o = 9 ∧ k = 5) ∨ (o = 9 ∧ k = 7)
abbrev xJ_X4_collect : Nat → Nat → Prop := fun o k => False
abbrev xA_X4_collect : Nat → Prop := fun o => o = 10
abbrev xB_X4_collect : Nat → Prop := fun o => o = 11
abbrev xS_X4_collect : sx_D := (xI_X4_collect, xJ_X4_collect, xA_X4_collect, xB_X4_collect)
set_option maxRecDepth 100000 in
set_option maxHeartbeats 1000000 in
theorem frr_X4_collect : ∀ (n : Nat) (x1 : Int32) (x2 : Int32) (x3 : Int64) (x5 : Int32) (s : sx_M) {p : sx_M}, fr_X4_collect n x1 x2 x3 x5 s = some p → sx_eq (xS_X4_collect) s p := by
  intro n
  induction n with
  | zero => intro x1 x2 x3 x5 s p hf; cases hf
  | succ n ih =>
    intro x1 x2 x3 x5 s p hf
    have hf : fb_X4_collect (fr_X4_collect n) x1 x2 x3 x5 s = some p := hf
    unfold fb_X4_collect at hf
    rcases ax_or hf with ⟨hc8, hf⟩ | ⟨hc8, hf⟩
    · obtain ⟨b4, hb4, hf⟩ := ax_bind hf
      have hvb4 := wh_inv ((0 : Int32), s) (fun a22 : Int32 × sx_M => sx_eq (xS_X4_collect) s a22.2) (fun e : sx_M => sx_eq (xS_X4_collect) s e) hb4 ?_ (sx_rf _ s)
      rotate_left
      · intro a22 r ha22 hf
        unfold f_X4_collect_L22 at hf
        rcases ax_or hf with ⟨hc7, hf⟩ | ⟨hc7, hf⟩
        · exact ax_ret (P := Sum.elim (fun a22 : Int32 × sx_M => sx_eq (xS_X4_collect) s a22.2) (fun e : sx_M => sx_eq (xS_X4_collect) s e)) hf ha22
        · obtain ⟨p1, hp1, hf⟩ := ax_bind hf
          rcases ax_or hf with ⟨hc6, hf⟩ | ⟨hc6, hf⟩
          · exact ax_ret (P := Sum.elim (fun a22 : Int32 × sx_M => sx_eq (xS_X4_collect) s a22.2) (fun e : sx_M => sx_eq (xS_X4_collect) s e)) hf (sx_tr ha22 (sx_mono (D1 := xS_X1_at 3) (fr_f_X1_at (p := p1) 3 x2 a22.1 a22.2 ax_G3 hp1) (fun o k h => h.elim) (fun o k h => h.elim) (fun o h => h.elim) (fun o h => h.elim)))
          · rcases ax_or hf with ⟨hc5, hf⟩ | ⟨hc5, hf⟩
            · exact ax_ret (P := Sum.elim (fun a22 : Int32 × sx_M => sx_eq (xS_X4_collect) s a22.2) (fun e : sx_M => sx_eq (xS_X4_collect) s e)) hf (sx_tr ha22 (sx_mono (D1 := xS_X1_at 3) (fr_f_X1_at (p := p1) 3 x2 a22.1 a22.2 ax_G3 hp1) (fun o k h => h.elim) (fun o k h => h.elim) (fun o h => h.elim) (fun o h => h.elim)))
            · obtain ⟨_, hf⟩ := ax_ite hf
              rcases ax_or hf with ⟨hc4, hf⟩ | ⟨hc4, hf⟩
              · exact ax_ret (P := Sum.elim (fun a22 : Int32 × sx_M => sx_eq (xS_X4_collect) s a22.2) (fun e : sx_M => sx_eq (xS_X4_collect) s e)) hf (sx_tr ha22 (sx_mono (D1 := xS_X1_at 3) (fr_f_X1_at (p := p1) 3 x2 a22.1 a22.2 ax_G3 hp1) (fun o k h => h.elim) (fun o k h => h.elim) (fun o h => h.elim) (fun o h => h.elim)))
              · obtain ⟨_, hf⟩ := ax_ite hf
                obtain ⟨p2, hp2, hf⟩ := ax_bind hf
                rcases ax_or hf with ⟨hc3, hf⟩ | ⟨hc3, hf⟩
                · exact ax_ret (P := Sum.elim (fun a22 : Int32 × sx_M => sx_eq (xS_X4_collect) s a22.2) (fun e : sx_M => sx_eq (xS_X4_collect) s e)) hf (sx_tr (sx_tr ha22 (sx_mono (D1 := xS_X1_at 3) (fr_f_X1_at (p := p1) 3 x2 a22.1 a22.2 ax_G3 hp1) (fun o k h => h.elim) (fun o k h => h.elim) (fun o h => h.elim) (fun o h => h.elim))) (sx_mono (D1 := xS_X4_belongs) (fr_f_X4_belongs (p := p2) ((x3 + p1.1) + (rB p1.2 7 ((x1 ||| ((1 : Int32) <<< (a22.1 &&& 31)))).toNatClampNeg)) p1.2 hp2) (fun o k h => h.elim) (fun o k h => h.elim) (fun o h => h.elim) (fun o h => h.elim)))
                · obtain ⟨p3, hp3, hf⟩ := ax_bind hf
                  exact ax_ret (P := Sum.elim (fun a22 : Int32 × sx_M => sx_eq (xS_X4_collect) s a22.2) (fun e : sx_M => sx_eq (xS_X4_collect) s e)) hf (sx_tr (sx_tr (sx_tr ha22 (sx_mono (D1 := xS_X1_at 3) (fr_f_X1_at (p := p1) 3 x2 a22.1 a22.2 ax_G3 hp1) (fun o k h => h.elim) (fun o k h => h.elim) (fun o h => h.elim) (fun o h => h.elim))) (sx_mono (D1 := xS_X4_belongs) (fr_f_X4_belongs (p := p2) ((x3 + p1.1) + (rB p1.2 7 ((x1 ||| ((1 : Int32) <<< (a22.1 &&& 31)))).toNatClampNeg)) p1.2 hp2) (fun o k h => h.elim) (fun o k h => h.elim) (fun o h => h.elim) (fun o h => h.elim))) (ih (x1 ||| ((1 : Int32) <<< (a22.1 &&& 31))) (x2 + (1 : Int32)) (x3 + p1.1) ((x5 * (8 : Int32)) + a22.1) p2.2 (p := p3) hp3))
      exact ax_ret (P := fun q : sx_M => sx_eq (xS_X4_collect) s q) hf hvb4
    · obtain ⟨p5, hp5, hf⟩ := ax_bind hf
      exact ax_ret (P := fun q : sx_M => sx_eq (xS_X4_collect) s q) hf (sx_tr (sx_rf _ s) (sx_mono (D1 := xS_X4_add) (fr_f_X4_add (p := p5) x5 x3 s hp5) (fun o k h => Or.elim h (fun q => (fun q => Or.inl q) q) (fun q0 => (fun q => Or.inr (q)) q0)) (fun o k h => h.elim) (fun o h => (fun q => q) h) (fun o h => (fun q => q) h)))
theorem fr_f_X4_collect (x1 : Int32) (x2 : Int32) (x3 : Int64) (x5 : Int32) (s : sx_M) {p : sx_M} (hf : f_X4_collect x1 x2 x3 x5 s = some p) : sx_eq (xS_X4_collect) s p := frr_X4_collect 9 x1 x2 x3 x5 s hf
abbrev xI_X4_list : Nat → Nat → Prop := fun o k => (o = 9 ∧ k = 10) ∨ (o = 9 ∧ k = 11) ∨ (o = 9 ∧ k = 12) ∨ (o = 9 ∧ k = 4) ∨ (o = 9 ∧ k = 5) ∨ (o = 9 ∧ k = 7) ∨ (o = 9 ∧ k = 9)
abbrev xJ_X4_list : Nat → Nat → Prop := fun o k => (o = 9 ∧ k = 6)
abbrev xA_X4_list : Nat → Prop := fun o => o = 10 ∨ o = 12
abbrev xB_X4_list : Nat → Prop := fun o => o = 11
abbrev xS_X4_list : sx_D := (xI_X4_list, xJ_X4_list, xA_X4_list, xB_X4_list)
set_option maxRecDepth 100000 in
set_option maxHeartbeats 1000000 in
theorem fr_f_X4_list (s : sx_M) {p : sx_M} (hf : f_X4_list s = some p) : sx_eq (xS_X4_list) s p := by
  unfold f_X4_list at hf
  rcases ax_or hf with ⟨hc2, hf⟩ | ⟨hc2, hf⟩
  · obtain ⟨p1, hp1, hf⟩ := ax_bind hf
    obtain ⟨p2, hp2, hf⟩ := ax_bind hf
    rcases ax_or hf with ⟨hc1, hf⟩ | ⟨hc1, hf⟩
    · exact ax_ret (P := fun q : sx_M => sx_eq (xS_X4_list) s q) hf (sx_tr (sx_tr (sx_wI' (D := (xS_X4_list)) (sx_wI' (D := (xS_X4_list)) (sx_rf _ s) ((fun q => Or.inr (Or.inr (Or.inr (Or.inl q)))) ⟨rfl, rfl⟩)) ((fun q => Or.inr (Or.inr (Or.inr (Or.inr (Or.inl q))))) ⟨rfl, rfl⟩)) (sx_mono (D1 := xS_X5_all 3) (fr_f_X5_all (p := p1) 3 (wI (wI s 9 4 (1 : Int32)) 9 5 (0 : Int32)) ax_RK3 hp1) (fun o k h => h.elim) (fun o k h => h.elim) (fun o h => h.elim) (fun o h => h.elim))) (sx_mono (D1 := xS_J9_min_7cf53) (fr_f_J9_min_7cf53 (p := p2) (200 : Int32) p1.1 p1.2 hp2) (fun o k h => h.elim) (fun o k h => h.elim) (fun o h => h.elim) (fun o h => h.elim)))
    · obtain ⟨p3, hp3, hf⟩ := ax_bind hf
      obtain ⟨p4, hp4, hf⟩ := ax_bind hf
      obtain ⟨p5, hp5, hf⟩ := ax_bind hf
      exact ax_ret (P := fun q : sx_M => sx_eq (xS_X4_list) s q) hf (sx_tr (sx_wI' (D := (xS_X4_list)) (sx_tr (sx_wJ' (D := (xS_X4_list)) (sx_tr (sx_tr (sx_tr (sx_wI' (D := (xS_X4_list)) (sx_wI' (D := (xS_X4_list)) (sx_rf _ s) ((fun q => Or.inr (Or.inr (Or.inr (Or.inl q)))) ⟨rfl, rfl⟩)) ((fun q => Or.inr (Or.inr (Or.inr (Or.inr (Or.inl q))))) ⟨rfl, rfl⟩)) (sx_mono (D1 := xS_X5_all 3) (fr_f_X5_all (p := p1) 3 (wI (wI s 9 4 (1 : Int32)) 9 5 (0 : Int32)) ax_RK3 hp1) (fun o k h => h.elim) (fun o k h => h.elim) (fun o h => h.elim) (fun o h => h.elim))) (sx_mono (D1 := xS_J9_min_7cf53) (fr_f_J9_min_7cf53 (p := p2) (200 : Int32) p1.1 p1.2 hp2) (fun o k h => h.elim) (fun o k h => h.elim) (fun o h => h.elim) (fun o h => h.elim))) (sx_mono (D1 := xS_X4_sumAt) (fr_f_X4_sumAt (p := p3) (p2.1 - (1 : Int32)) p2.2 hp3) (fun o k h => Or.elim h (fun q => (fun q => Or.inl q) q) (fun q0 => Or.elim q0 (fun q => (fun q => Or.inr (Or.inl q)) q) (fun q1 => Or.elim q1 (fun q => (fun q => Or.inr (Or.inr (Or.inl q))) q) (fun q2 => (fun q => Or.inr (Or.inr (Or.inr (Or.inr (Or.inr (Or.inr (q))))))) q2)))) (fun o k h => h.elim) (fun o h => (fun q => Or.inr (q)) h) (fun o h => h.elim))) ((fun q => q) ⟨rfl, rfl⟩)) (sx_mono (D1 := xS_X5_upTo 3) (fr_f_X5_upTo (p := p4) 3 ((rJ (wJ p3.2 9 6 p3.1) 9 6) - (1 : Int64)) (wJ p3.2 9 6 p3.1) ax_RK3 hp4) (fun o k h => h.elim) (fun o k h => h.elim) (fun o h => h.elim) (fun o h => h.elim))) ((fun q => Or.inr (Or.inr (Or.inr (Or.inr (Or.inr (Or.inl q)))))) ⟨rfl, rfl⟩)) (sx_mono (D1 := xS_X4_collect) (fr_f_X4_collect (p := p5) (0 : Int32) (0 : Int32) (0 : Int64) (0 : Int32) (wI p4.2 9 7 (p2.1 - p4.1)) hp5) (fun o k h => Or.elim h (fun q => (fun q => Or.inr (Or.inr (Or.inr (Or.inr (Or.inl q))))) q) (fun q0 => (fun q => Or.inr (Or.inr (Or.inr (Or.inr (Or.inr (Or.inl q)))))) q0)) (fun o k h => h.elim) (fun o h => (fun q => Or.inl q) h) (fun o h => (fun q => q) h)))
  · exact ax_ret (P := fun q : sx_M => sx_eq (xS_X4_list) s q) hf (sx_rf _ s)
abbrev xI_X4_sumOf : Nat → Nat → Prop := fun o k => (o = 9 ∧ k = 10) ∨ (o = 9 ∧ k = 11) ∨ (o = 9 ∧ k = 12) ∨ (o = 9 ∧ k = 4) ∨ (o = 9 ∧ k = 5) ∨ (o = 9 ∧ k = 7) ∨ (o = 9 ∧ k = 9)
abbrev xJ_X4_sumOf : Nat → Nat → Prop := fun o k => (o = 9 ∧ k = 6)
abbrev xA_X4_sumOf : Nat → Prop := fun o => o = 10 ∨ o = 12
abbrev xB_X4_sumOf : Nat → Prop := fun o => o = 11
abbrev xS_X4_sumOf : sx_D := (xI_X4_sumOf, xJ_X4_sumOf, xA_X4_sumOf, xB_X4_sumOf)
set_option maxRecDepth 100000 in
set_option maxHeartbeats 1000000 in
theorem fr_f_X4_sumOf (x1 : Int32) (s : sx_M) {p : Int64 × sx_M} (hf : f_X4_sumOf x1 s = some p) : sx_eq (xS_X4_sumOf) s p.2 := by
  unfold f_X4_sumOf at hf
  rcases ax_or hf with ⟨hc4, hf⟩ | ⟨hc4, hf⟩
  · obtain ⟨p2, hp2, hf⟩ := ax_bind hf
    exact ax_ret (P := fun q : Int64 × sx_M => sx_eq (xS_X4_sumOf) s q.2) hf (sx_tr (sx_rf _ s) (sx_mono (D1 := xS_X5_leastSum 3) (fr_f_X5_leastSum (p := p2) 3 s ax_RK3 hp2) (fun o k h => h.elim) (fun o k h => h.elim) (fun o h => h.elim) (fun o h => h.elim)))
  · obtain ⟨p1, hp1, hf⟩ := ax_bind hf
    rcases ax_or hf with ⟨hc3, hf⟩ | ⟨hc3, hf⟩
    · exact ax_ret (P := fun q : Int64 × sx_M => sx_eq (xS_X4_sumOf) s q.2) hf (sx_tr (sx_rf _ s) (sx_mono (D1 := xS_X4_list) (fr_f_X4_list (p := p1) s hp1) (fun o k h => Or.elim h (fun q => (fun q => Or.inl q) q) (fun q0 => Or.elim q0 (fun q => (fun q => Or.inr (Or.inl q)) q) (fun q1 => Or.elim q1 (fun q => (fun q => Or.inr (Or.inr (Or.inl q))) q) (fun q2 => Or.elim q2 (fun q => (fun q => Or.inr (Or.inr (Or.inr (Or.inl q)))) q) (fun q3 => Or.elim q3 (fun q => (fun q => Or.inr (Or.inr (Or.inr (Or.inr (Or.inl q))))) q) (fun q4 => Or.elim q4 (fun q => (fun q => Or.inr (Or.inr (Or.inr (Or.inr (Or.inr (Or.inl q)))))) q) (fun q5 => (fun q => Or.inr (Or.inr (Or.inr (Or.inr (Or.inr (Or.inr (q))))))) q5))))))) (fun o k h => (fun q => q) h) (fun o h => Or.elim h (fun q => (fun q => Or.inl q) q) (fun q0 => (fun q => Or.inr (q)) q0)) (fun o h => (fun q => q) h)))
    · rcases ax_or hf with ⟨hc2, hf⟩ | ⟨hc2, hf⟩
      · exact ax_ret (P := fun q : Int64 × sx_M => sx_eq (xS_X4_sumOf) s q.2) hf (sx_tr (sx_rf _ s) (sx_mono (D1 := xS_X4_list) (fr_f_X4_list (p := p1) s hp1) (fun o k h => Or.elim h (fun q => (fun q => Or.inl q) q) (fun q0 => Or.elim q0 (fun q => (fun q => Or.inr (Or.inl q)) q) (fun q1 => Or.elim q1 (fun q => (fun q => Or.inr (Or.inr (Or.inl q))) q) (fun q2 => Or.elim q2 (fun q => (fun q => Or.inr (Or.inr (Or.inr (Or.inl q)))) q) (fun q3 => Or.elim q3 (fun q => (fun q => Or.inr (Or.inr (Or.inr (Or.inr (Or.inl q))))) q) (fun q4 => Or.elim q4 (fun q => (fun q => Or.inr (Or.inr (Or.inr (Or.inr (Or.inr (Or.inl q)))))) q) (fun q5 => (fun q => Or.inr (Or.inr (Or.inr (Or.inr (Or.inr (Or.inr (q))))))) q5))))))) (fun o k h => (fun q => q) h) (fun o h => Or.elim h (fun q => (fun q => Or.inl q) q) (fun q0 => (fun q => Or.inr (q)) q0)) (fun o h => (fun q => q) h)))
      · obtain ⟨_, hf⟩ := ax_ite hf
        exact ax_ret (P := fun q : Int64 × sx_M => sx_eq (xS_X4_sumOf) s q.2) hf (sx_tr (sx_rf _ s) (sx_mono (D1 := xS_X4_list) (fr_f_X4_list (p := p1) s hp1) (fun o k h => Or.elim h (fun q => (fun q => Or.inl q) q) (fun q0 => Or.elim q0 (fun q => (fun q => Or.inr (Or.inl q)) q) (fun q1 => Or.elim q1 (fun q => (fun q => Or.inr (Or.inr (Or.inl q))) q) (fun q2 => Or.elim q2 (fun q => (fun q => Or.inr (Or.inr (Or.inr (Or.inl q)))) q) (fun q3 => Or.elim q3 (fun q => (fun q => Or.inr (Or.inr (Or.inr (Or.inr (Or.inl q))))) q) (fun q4 => Or.elim q4 (fun q => (fun q => Or.inr (Or.inr (Or.inr (Or.inr (Or.inr (Or.inl q)))))) q) (fun q5 => (fun q => Or.inr (Or.inr (Or.inr (Or.inr (Or.inr (Or.inr (q))))))) q5))))))) (fun o k h => (fun q => q) h) (fun o h => Or.elim h (fun q => (fun q => Or.inl q) q) (fun q0 => (fun q => Or.inr (q)) q0)) (fun o h => (fun q => q) h)))
abbrev xI_X5_leastGoingOn (g : Nat) : Nat → Nat → Prop := fun o k => False
abbrev xJ_X5_leastGoingOn (g : Nat) : Nat → Nat → Prop := fun o k => False
abbrev xA_X5_leastGoingOn (g : Nat) : Nat → Prop := fun o => False
abbrev xB_X5_leastGoingOn (g : Nat) : Nat → Prop := fun o => False
abbrev xS_X5_leastGoingOn (g : Nat) : sx_D := (xI_X5_leastGoingOn g, xJ_X5_leastGoingOn g, xA_X5_leastGoingOn g, xB_X5_leastGoingOn g)
set_option maxRecDepth 100000 in
set_option maxHeartbeats 1000000 in
theorem fr_f_X5_leastGoingOn (g : Nat) (x1 : Int32) (x2 : Int32) (s : sx_M) (hr : ax_RK g) {p : Int32 × sx_M} (hf : f_X5_leastGoingOn g x1 x2 s = some p) : sx_eq (xS_X5_leastGoingOn g) s p.2 := by
  unfold f_X5_leastGoingOn at hf
  obtain ⟨b2, hb2, hf⟩ := ax_bind hf
  have hvb2 := wh_inv ((0 : Int32), s) (fun a2 : Int32 × sx_M => sx_eq (xS_X5_leastGoingOn g) s a2.2) (Sum.elim (fun e : sx_M => sx_eq (xS_X5_leastGoingOn g) s e) (fun v : Int32 × sx_M => sx_eq (xS_X5_leastGoingOn g) s v.2)) hb2 ?_ (sx_rf _ s)
  rotate_left
  · intro a2 r ha2 hf
    unfold f_X5_leastGoingOn_L2 at hf
    rcases ax_or hf with ⟨hc8, hf⟩ | ⟨hc8, hf⟩
    · exact ax_ret (P := Sum.elim (fun a2 : Int32 × sx_M => sx_eq (xS_X5_leastGoingOn g) s a2.2) (Sum.elim (fun e : sx_M => sx_eq (xS_X5_leastGoingOn g) s e) (fun v : Int32 × sx_M => sx_eq (xS_X5_leastGoingOn g) s v.2))) hf ha2
    · obtain ⟨p1, hp1, hf⟩ := ax_bind hf
      rcases ax_or hf with ⟨hc7, hf⟩ | ⟨hc7, hf⟩
      · exact ax_ret (P := Sum.elim (fun a2 : Int32 × sx_M => sx_eq (xS_X5_leastGoingOn g) s a2.2) (Sum.elim (fun e : sx_M => sx_eq (xS_X5_leastGoingOn g) s e) (fun v : Int32 × sx_M => sx_eq (xS_X5_leastGoingOn g) s v.2))) hf (sx_tr ha2 (sx_mono (D1 := xS_X1_at g) (fr_f_X1_at (p := p1) g x2 a2.1 a2.2 hr.1 hp1) (fun o k h => h.elim) (fun o k h => h.elim) (fun o h => h.elim) (fun o h => h.elim)))
      · rcases ax_or hf with ⟨hc6, hf⟩ | ⟨hc6, hf⟩
        · exact ax_ret (P := Sum.elim (fun a2 : Int32 × sx_M => sx_eq (xS_X5_leastGoingOn g) s a2.2) (Sum.elim (fun e : sx_M => sx_eq (xS_X5_leastGoingOn g) s e) (fun v : Int32 × sx_M => sx_eq (xS_X5_leastGoingOn g) s v.2))) hf (sx_tr ha2 (sx_mono (D1 := xS_X1_at g) (fr_f_X1_at (p := p1) g x2 a2.1 a2.2 hr.1 hp1) (fun o k h => h.elim) (fun o k h => h.elim) (fun o h => h.elim) (fun o h => h.elim)))
        · obtain ⟨_, hf⟩ := ax_ite hf
          rcases ax_or hf with ⟨hc5, hf⟩ | ⟨hc5, hf⟩
          · exact ax_ret (P := Sum.elim (fun a2 : Int32 × sx_M => sx_eq (xS_X5_leastGoingOn g) s a2.2) (Sum.elim (fun e : sx_M => sx_eq (xS_X5_leastGoingOn g) s e) (fun v : Int32 × sx_M => sx_eq (xS_X5_leastGoingOn g) s v.2))) hf (sx_tr ha2 (sx_mono (D1 := xS_X1_at g) (fr_f_X1_at (p := p1) g x2 a2.1 a2.2 hr.1 hp1) (fun o k h => h.elim) (fun o k h => h.elim) (fun o h => h.elim) (fun o h => h.elim)))
          · obtain ⟨_, hf⟩ := ax_ite hf
            obtain ⟨_, hf⟩ := ax_ite hf
            rcases ax_or hf with ⟨hc4, hf⟩ | ⟨hc4, hf⟩
            · exact ax_ret (P := Sum.elim (fun a2 : Int32 × sx_M => sx_eq (xS_X5_leastGoingOn g) s a2.2) (Sum.elim (fun e : sx_M => sx_eq (xS_X5_leastGoingOn g) s e) (fun v : Int32 × sx_M => sx_eq (xS_X5_leastGoingOn g) s v.2))) hf (sx_tr ha2 (sx_mono (D1 := xS_X1_at g) (fr_f_X1_at (p := p1) g x2 a2.1 a2.2 hr.1 hp1) (fun o k h => h.elim) (fun o k h => h.elim) (fun o h => h.elim) (fun o h => h.elim)))
            · exact ax_ret (P := Sum.elim (fun a2 : Int32 × sx_M => sx_eq (xS_X5_leastGoingOn g) s a2.2) (Sum.elim (fun e : sx_M => sx_eq (xS_X5_leastGoingOn g) s e) (fun v : Int32 × sx_M => sx_eq (xS_X5_leastGoingOn g) s v.2))) hf (sx_tr ha2 (sx_mono (D1 := xS_X1_at g) (fr_f_X1_at (p := p1) g x2 a2.1 a2.2 hr.1 hp1) (fun o k h => h.elim) (fun o k h => h.elim) (fun o h => h.elim) (fun o h => h.elim)))
  rcases b2 with e3 | e4
  · exact ax_ret (P := fun q : Int32 × sx_M => sx_eq (xS_X5_leastGoingOn g) s q.2) hf hvb2
  · exact ax_ret (P := fun q : Int32 × sx_M => sx_eq (xS_X5_leastGoingOn g) s q.2) hf hvb2
abbrev xI_X5_findFirst (g : Nat) (ra : Nat) : Nat → Nat → Prop := fun o k => False
abbrev xJ_X5_findFirst (g : Nat) (ra : Nat) : Nat → Nat → Prop := fun o k => False
abbrev xA_X5_findFirst (g : Nat) (ra : Nat) : Nat → Prop := fun o => o = ra
abbrev xB_X5_findFirst (g : Nat) (ra : Nat) : Nat → Prop := fun o => False
abbrev xS_X5_findFirst (g : Nat) (ra : Nat) : sx_D := (xI_X5_findFirst g ra, xJ_X5_findFirst g ra, xA_X5_findFirst g ra, xB_X5_findFirst g ra)
set_option maxRecDepth 100000 in
set_option maxHeartbeats 1000000 in
theorem fr_f_X5_findFirst (g : Nat) (ra : Nat) (s : sx_M) (hr : ax_RK g) (hra : sx_sh[ra]? = some (.inl (.int, 7))) {p : Int32 × sx_M} (hf : f_X5_findFirst g ra s = some p) : sx_eq (xS_X5_findFirst g ra) s p.2 := by
  unfold f_X5_findFirst at hf
  rcases ax_or hf with ⟨hc5, hf⟩ | ⟨hc5, hf⟩
  · exact ax_ret (P := fun q : Int32 × sx_M => sx_eq (xS_X5_findFirst g ra) s q.2) hf (sx_rf _ s)
  · rcases ax_or hf with ⟨hc4, hf⟩ | ⟨hc4, hf⟩
    · obtain ⟨b2, hb2, hf⟩ := ax_bind hf
      have hvb2 := wh_inv ((0 : Int32), (0 : Int32), s) (fun a27 : Int32 × Int32 × sx_M => sx_eq (xS_X5_findFirst g ra) s a27.2.2) (fun e : sx_M => sx_eq (xS_X5_findFirst g ra) s e) hb2 ?_ (sx_rf _ s)
      rotate_left
      · intro a27 r ha27 hf
        unfold f_X5_findFirst_L27 at hf
        rcases ax_or hf with ⟨hc3, hf⟩ | ⟨hc3, hf⟩
        · exact ax_ret (P := Sum.elim (fun a27 : Int32 × Int32 × sx_M => sx_eq (xS_X5_findFirst g ra) s a27.2.2) (fun e : sx_M => sx_eq (xS_X5_findFirst g ra) s e)) hf ha27
        · obtain ⟨p1, hp1, hf⟩ := ax_bind hf
          obtain ⟨_, hf⟩ := ax_ite hf
          obtain ⟨_, hf⟩ := ax_ite hf
          exact ax_ret (P := Sum.elim (fun a27 : Int32 × Int32 × sx_M => sx_eq (xS_X5_findFirst g ra) s a27.2.2) (fun e : sx_M => sx_eq (xS_X5_findFirst g ra) s e)) hf (sx_wA' (D := (xS_X5_findFirst g ra)) (sx_tr ha27 (sx_mono (D1 := xS_X5_leastGoingOn g) (fr_f_X5_leastGoingOn (p := p1) g a27.1 a27.2.1 a27.2.2 hr hp1) (fun o k h => h.elim) (fun o k h => h.elim) (fun o h => h.elim) (fun o h => h.elim))) ((fun q => q) rfl))
      exact ax_ret (P := fun q : Int32 × sx_M => sx_eq (xS_X5_findFirst g ra) s q.2) hf hvb2
    · exact ax_ret (P := fun q : Int32 × sx_M => sx_eq (xS_X5_findFirst g ra) s q.2) hf (sx_rf _ s)
abbrev xI_X4_lay (ra : Nat) : Nat → Nat → Prop := fun o k => (o = 9 ∧ k = 10) ∨ (o = 9 ∧ k = 11) ∨ (o = 9 ∧ k = 12) ∨ (o = 9 ∧ k = 4) ∨ (o = 9 ∧ k = 5) ∨ (o = 9 ∧ k = 7) ∨ (o = 9 ∧ k = 9)
abbrev xJ_X4_lay (ra : Nat) : Nat → Nat → Prop := fun o k => (o = 9 ∧ k = 6)
abbrev xA_X4_lay (ra : Nat) : Nat → Prop := fun o => o = 10 ∨ o = 12 ∨ o = ra
abbrev xB_X4_lay (ra : Nat) : Nat → Prop := fun o => o = 11
abbrev xS_X4_lay (ra : Nat) : sx_D := (xI_X4_lay ra, xJ_X4_lay ra, xA_X4_lay ra, xB_X4_lay ra)
set_option maxRecDepth 100000 in
set_option maxHeartbeats 1000000 in
theorem fr_f_X4_lay (ra : Nat) (x1 : Int32) (s : sx_M) (hra : sx_sh[ra]? = some (.inl (.int, 7))) {p : Int32 × sx_M} (hf : f_X4_lay ra x1 s = some p) : sx_eq (xS_X4_lay ra) s p.2 := by
  unfold f_X4_lay at hf
  rcases ax_or hf with ⟨hc5, hf⟩ | ⟨hc5, hf⟩
  · obtain ⟨p3, hp3, hf⟩ := ax_bind hf
    obtain ⟨_, hf⟩ := ax_ite hf
    exact ax_ret (P := fun q : Int32 × sx_M => sx_eq (xS_X4_lay ra) s q.2) hf (sx_tr (sx_rf _ s) (sx_mono (D1 := xS_X5_findFirst 3 ra) (fr_f_X5_findFirst (p := p3) 3 ra s ax_RK3 hra hp3) (fun o k h => h.elim) (fun o k h => h.elim) (fun o h => (fun q => Or.inr (Or.inr (q))) h) (fun o h => h.elim)))
  · obtain ⟨p1, hp1, hf⟩ := ax_bind hf
    rcases ax_or hf with ⟨hc4, hf⟩ | ⟨hc4, hf⟩
    · exact ax_ret (P := fun q : Int32 × sx_M => sx_eq (xS_X4_lay ra) s q.2) hf (sx_tr (sx_rf _ s) (sx_mono (D1 := xS_X4_list) (fr_f_X4_list (p := p1) s hp1) (fun o k h => Or.elim h (fun q => (fun q => Or.inl q) q) (fun q0 => Or.elim q0 (fun q => (fun q => Or.inr (Or.inl q)) q) (fun q1 => Or.elim q1 (fun q => (fun q => Or.inr (Or.inr (Or.inl q))) q) (fun q2 => Or.elim q2 (fun q => (fun q => Or.inr (Or.inr (Or.inr (Or.inl q)))) q) (fun q3 => Or.elim q3 (fun q => (fun q => Or.inr (Or.inr (Or.inr (Or.inr (Or.inl q))))) q) (fun q4 => Or.elim q4 (fun q => (fun q => Or.inr (Or.inr (Or.inr (Or.inr (Or.inr (Or.inl q)))))) q) (fun q5 => (fun q => Or.inr (Or.inr (Or.inr (Or.inr (Or.inr (Or.inr (q))))))) q5))))))) (fun o k h => (fun q => q) h) (fun o h => Or.elim h (fun q => (fun q => Or.inl q) q) (fun q0 => (fun q => Or.inr (Or.inl q)) q0)) (fun o h => (fun q => q) h)))
    · rcases ax_or hf with ⟨hc3, hf⟩ | ⟨hc3, hf⟩
      · exact ax_ret (P := fun q : Int32 × sx_M => sx_eq (xS_X4_lay ra) s q.2) hf (sx_tr (sx_rf _ s) (sx_mono (D1 := xS_X4_list) (fr_f_X4_list (p := p1) s hp1) (fun o k h => Or.elim h (fun q => (fun q => Or.inl q) q) (fun q0 => Or.elim q0 (fun q => (fun q => Or.inr (Or.inl q)) q) (fun q1 => Or.elim q1 (fun q => (fun q => Or.inr (Or.inr (Or.inl q))) q) (fun q2 => Or.elim q2 (fun q => (fun q => Or.inr (Or.inr (Or.inr (Or.inl q)))) q) (fun q3 => Or.elim q3 (fun q => (fun q => Or.inr (Or.inr (Or.inr (Or.inr (Or.inl q))))) q) (fun q4 => Or.elim q4 (fun q => (fun q => Or.inr (Or.inr (Or.inr (Or.inr (Or.inr (Or.inl q)))))) q) (fun q5 => (fun q => Or.inr (Or.inr (Or.inr (Or.inr (Or.inr (Or.inr (q))))))) q5))))))) (fun o k h => (fun q => q) h) (fun o h => Or.elim h (fun q => (fun q => Or.inl q) q) (fun q0 => (fun q => Or.inr (Or.inl q)) q0)) (fun o h => (fun q => q) h)))
      · obtain ⟨_, hf⟩ := ax_ite hf
        obtain ⟨p2, hp2, hf⟩ := ax_bind hf
        rcases ax_or hf with ⟨hc2, hf⟩ | ⟨hc2, hf⟩
        · exact ax_ret (P := fun q : Int32 × sx_M => sx_eq (xS_X4_lay ra) s q.2) hf (sx_tr (sx_tr (sx_rf _ s) (sx_mono (D1 := xS_X4_list) (fr_f_X4_list (p := p1) s hp1) (fun o k h => Or.elim h (fun q => (fun q => Or.inl q) q) (fun q0 => Or.elim q0 (fun q => (fun q => Or.inr (Or.inl q)) q) (fun q1 => Or.elim q1 (fun q => (fun q => Or.inr (Or.inr (Or.inl q))) q) (fun q2 => Or.elim q2 (fun q => (fun q => Or.inr (Or.inr (Or.inr (Or.inl q)))) q) (fun q3 => Or.elim q3 (fun q => (fun q => Or.inr (Or.inr (Or.inr (Or.inr (Or.inl q))))) q) (fun q4 => Or.elim q4 (fun q => (fun q => Or.inr (Or.inr (Or.inr (Or.inr (Or.inr (Or.inl q)))))) q) (fun q5 => (fun q => Or.inr (Or.inr (Or.inr (Or.inr (Or.inr (Or.inr (q))))))) q5))))))) (fun o k h => (fun q => q) h) (fun o h => Or.elim h (fun q => (fun q => Or.inl q) q) (fun q0 => (fun q => Or.inr (Or.inl q)) q0)) (fun o h => (fun q => q) h))) (sx_mono (D1 := xS_X1_decode 3 ra) (fr_f_X1_decode (p := p2) 3 ra (rA p1 10 (x1).toNatClampNeg) p1 ax_G3 hra hp2) (fun o k h => h.elim) (fun o k h => h.elim) (fun o h => (fun q => Or.inr (Or.inr (q))) h) (fun o h => h.elim)))
        · exact ax_ret (P := fun q : Int32 × sx_M => sx_eq (xS_X4_lay ra) s q.2) hf (sx_tr (sx_tr (sx_rf _ s) (sx_mono (D1 := xS_X4_list) (fr_f_X4_list (p := p1) s hp1) (fun o k h => Or.elim h (fun q => (fun q => Or.inl q) q) (fun q0 => Or.elim q0 (fun q => (fun q => Or.inr (Or.inl q)) q) (fun q1 => Or.elim q1 (fun q => (fun q => Or.inr (Or.inr (Or.inl q))) q) (fun q2 => Or.elim q2 (fun q => (fun q => Or.inr (Or.inr (Or.inr (Or.inl q)))) q) (fun q3 => Or.elim q3 (fun q => (fun q => Or.inr (Or.inr (Or.inr (Or.inr (Or.inl q))))) q) (fun q4 => Or.elim q4 (fun q => (fun q => Or.inr (Or.inr (Or.inr (Or.inr (Or.inr (Or.inl q)))))) q) (fun q5 => (fun q => Or.inr (Or.inr (Or.inr (Or.inr (Or.inr (Or.inr (q))))))) q5))))))) (fun o k h => (fun q => q) h) (fun o h => Or.elim h (fun q => (fun q => Or.inl q) q) (fun q0 => (fun q => Or.inr (Or.inl q)) q0)) (fun o h => (fun q => q) h))) (sx_mono (D1 := xS_X1_decode 3 ra) (fr_f_X1_decode (p := p2) 3 ra (rA p1 10 (x1).toNatClampNeg) p1 ax_G3 hra hp2) (fun o k h => h.elim) (fun o k h => h.elim) (fun o h => (fun q => Or.inr (Or.inr (q))) h) (fun o h => h.elim)))
abbrev xI_X4_with : Nat → Nat → Prop := fun o k => (o = 9 ∧ k = 10) ∨ (o = 9 ∧ k = 11) ∨ (o = 9 ∧ k = 12) ∨ (o = 9 ∧ k = 4) ∨ (o = 9 ∧ k = 5) ∨ (o = 9 ∧ k = 7) ∨ (o = 9 ∧ k = 9)
abbrev xJ_X4_with : Nat → Nat → Prop := fun o k => (o = 9 ∧ k = 6)
abbrev xA_X4_with : Nat → Prop := fun o => o = 10 ∨ o = 12
abbrev xB_X4_with : Nat → Prop := fun o => o = 11
abbrev xS_X4_with : sx_D := (xI_X4_with, xJ_X4_with, xA_X4_with, xB_X4_with)
set_option maxRecDepth 100000 in
set_option maxHeartbeats 1000000 in
theorem fr_f_X4_with (x1 : Int32) (x2 : Int32) (x3 : Int32) (s : sx_M) {p : Int32 × sx_M} (hf : f_X4_with x1 x2 x3 s = some p) : sx_eq (xS_X4_with) s p.2 := by
  unfold f_X4_with at hf
  obtain ⟨p1, hp1, hf⟩ := ax_bind hf
  obtain ⟨b2, hb2, hf⟩ := ax_bind hf
  have hvb2 := wh_inv ((0 : Int32), (0 : Int32), p1) (fun a25 : Int32 × Int32 × sx_M => sx_eq (xS_X4_with) s a25.2.2) (fun e : Int32 × sx_M => sx_eq (xS_X4_with) s e.2) hb2 ?_ (sx_tr (sx_rf _ s) (sx_mono (D1 := xS_X4_list) (fr_f_X4_list (p := p1) s hp1) (fun o k h => Or.elim h (fun q => (fun q => Or.inl q) q) (fun q0 => Or.elim q0 (fun q => (fun q => Or.inr (Or.inl q)) q) (fun q1 => Or.elim q1 (fun q => (fun q => Or.inr (Or.inr (Or.inl q))) q) (fun q2 => Or.elim q2 (fun q => (fun q => Or.inr (Or.inr (Or.inr (Or.inl q)))) q) (fun q3 => Or.elim q3 (fun q => (fun q => Or.inr (Or.inr (Or.inr (Or.inr (Or.inl q))))) q) (fun q4 => Or.elim q4 (fun q => (fun q => Or.inr (Or.inr (Or.inr (Or.inr (Or.inr (Or.inl q)))))) q) (fun q5 => (fun q => Or.inr (Or.inr (Or.inr (Or.inr (Or.inr (Or.inr (q))))))) q5))))))) (fun o k h => (fun q => q) h) (fun o h => Or.elim h (fun q => (fun q => Or.inl q) q) (fun q0 => (fun q => Or.inr (q)) q0)) (fun o h => (fun q => q) h)))
  rotate_left
  · intro a25 r ha25 hf
    unfold f_X4_with_L25 at hf
    rcases ax_or hf with ⟨hc4, hf⟩ | ⟨hc4, hf⟩
    · exact ax_ret (P := Sum.elim (fun a25 : Int32 × Int32 × sx_M => sx_eq (xS_X4_with) s a25.2.2) (fun e : Int32 × sx_M => sx_eq (xS_X4_with) s e.2)) hf ha25
    · rcases ax_or hf with ⟨hc3, hf⟩ | ⟨hc3, hf⟩
      · exact ax_ret (P := Sum.elim (fun a25 : Int32 × Int32 × sx_M => sx_eq (xS_X4_with) s a25.2.2) (fun e : Int32 × sx_M => sx_eq (xS_X4_with) s e.2)) hf ha25
      · obtain ⟨_, hf⟩ := ax_ite hf
        rcases ax_or hf with ⟨hc2, hf⟩ | ⟨hc2, hf⟩
        · exact ax_ret (P := Sum.elim (fun a25 : Int32 × Int32 × sx_M => sx_eq (xS_X4_with) s a25.2.2) (fun e : Int32 × sx_M => sx_eq (xS_X4_with) s e.2)) hf ha25
        · exact ax_ret (P := Sum.elim (fun a25 : Int32 × Int32 × sx_M => sx_eq (xS_X4_with) s a25.2.2) (fun e : Int32 × sx_M => sx_eq (xS_X4_with) s e.2)) hf ha25
  exact ax_ret (P := fun q : Int32 × sx_M => sx_eq (xS_X4_with) s q.2) hf hvb2
abbrev xI_X5_settle (g : Nat) : Nat → Nat → Prop := fun o k => False
abbrev xJ_X5_settle (g : Nat) : Nat → Nat → Prop := fun o k => False
abbrev xA_X5_settle (g : Nat) : Nat → Prop := fun o => o = (g + 3)
abbrev xB_X5_settle (g : Nat) : Nat → Prop := fun o => o = (g + 4) ∨ o = (g + 5)
abbrev xS_X5_settle (g : Nat) : sx_D := (xI_X5_settle g, xJ_X5_settle g, xA_X5_settle g, xB_X5_settle g)
set_option maxRecDepth 100000 in
set_option maxHeartbeats 1000000 in
theorem fr_f_X5_settle (g : Nat) (x1 : Int32) (x2 : Int32) (s : sx_M) (hr : ax_RK g) {p : sx_M} (hf : f_X5_settle g x1 x2 s = some p) : sx_eq (xS_X5_settle g) s p := by
  unfold f_X5_settle at hf
  have J59 : ∀ (y1_59 : Int32) (y2_59 : Int32) (y3_59 : Int32) (y4_59 : Int32) (y5_59 : Int64) (t0_59 : Int64) (s_59 : sx_M), sx_eq (xS_X5_settle g) s s_59 → f_X5_settle_J59 g y1_59 y2_59 y3_59 y4_59 y5_59 t0_59 s_59 = some p → sx_eq (xS_X5_settle g) s p := by
    intro y1_59 y2_59 y3_59 y4_59 y5_59 t0_59 s_59 hs_59 hf
    unfold f_X5_settle_J59 at hf
    obtain ⟨b4, hb4, hf⟩ := ax_bind hf
    have hvb4 := wh_inv (y4_59, y5_59, t0_59, (0 : Int32), s_59) (fun a64 : Int32 × Int64 × Int64 × Int32 × sx_M => sx_eq (xS_X5_settle g) s a64.2.2.2.2) (fun e : Int32 × Int64 × Int64 × sx_M => sx_eq (xS_X5_settle g) s e.2.2.2) hb4 ?_ hs_59
    rotate_left
    · intro a64 r ha64 hf
      unfold f_X5_settle_L64 at hf
      rcases ax_or hf with ⟨hc9, hf⟩ | ⟨hc9, hf⟩
      · rcases ax_or hf with ⟨hc8, hf⟩ | ⟨hc8, hf⟩
        · exact ax_ret (P := Sum.elim (fun a64 : Int32 × Int64 × Int64 × Int32 × sx_M => sx_eq (xS_X5_settle g) s a64.2.2.2.2) (fun e : Int32 × Int64 × Int64 × sx_M => sx_eq (xS_X5_settle g) s e.2.2.2)) hf ha64
        · obtain ⟨p1, hp1, hf⟩ := ax_bind hf
          rcases ax_or hf with ⟨hc7, hf⟩ | ⟨hc7, hf⟩
          · exact ax_ret (P := Sum.elim (fun a64 : Int32 × Int64 × Int64 × Int32 × sx_M => sx_eq (xS_X5_settle g) s a64.2.2.2.2) (fun e : Int32 × Int64 × Int64 × sx_M => sx_eq (xS_X5_settle g) s e.2.2.2)) hf (sx_tr ha64 (sx_mono (D1 := xS_X1_at g) (fr_f_X1_at (p := p1) g y2_59 a64.2.2.2.1 a64.2.2.2.2 hr.1 hp1) (fun o k h => h.elim) (fun o k h => h.elim) (fun o h => h.elim) (fun o h => h.elim)))
          · rcases ax_or hf with ⟨hc6, hf⟩ | ⟨hc6, hf⟩
            · exact ax_ret (P := Sum.elim (fun a64 : Int32 × Int64 × Int64 × Int32 × sx_M => sx_eq (xS_X5_settle g) s a64.2.2.2.2) (fun e : Int32 × Int64 × Int64 × sx_M => sx_eq (xS_X5_settle g) s e.2.2.2)) hf (sx_tr ha64 (sx_mono (D1 := xS_X1_at g) (fr_f_X1_at (p := p1) g y2_59 a64.2.2.2.1 a64.2.2.2.2 hr.1 hp1) (fun o k h => h.elim) (fun o k h => h.elim) (fun o h => h.elim) (fun o h => h.elim)))
            · obtain ⟨_, hf⟩ := ax_ite hf
              rcases ax_or hf with ⟨hc5, hf⟩ | ⟨hc5, hf⟩
              · exact ax_ret (P := Sum.elim (fun a64 : Int32 × Int64 × Int64 × Int32 × sx_M => sx_eq (xS_X5_settle g) s a64.2.2.2.2) (fun e : Int32 × Int64 × Int64 × sx_M => sx_eq (xS_X5_settle g) s e.2.2.2)) hf (sx_tr ha64 (sx_mono (D1 := xS_X1_at g) (fr_f_X1_at (p := p1) g y2_59 a64.2.2.2.1 a64.2.2.2.2 hr.1 hp1) (fun o k h => h.elim) (fun o k h => h.elim) (fun o h => h.elim) (fun o h => h.elim)))
              · obtain ⟨_, hf⟩ := ax_ite hf
                obtain ⟨_, hf⟩ := ax_ite hf
                obtain ⟨p2, hp2, hf⟩ := ax_bind hf
                obtain ⟨_, hf⟩ := ax_ite hf
                obtain ⟨p3, hp3, hf⟩ := ax_bind hf
                exact ax_ret (P := Sum.elim (fun a64 : Int32 × Int64 × Int64 × Int32 × sx_M => sx_eq (xS_X5_settle g) s a64.2.2.2.2) (fun e : Int32 × Int64 × Int64 × sx_M => sx_eq (xS_X5_settle g) s e.2.2.2)) hf (sx_tr (sx_tr (sx_tr ha64 (sx_mono (D1 := xS_X1_at g) (fr_f_X1_at (p := p1) g y2_59 a64.2.2.2.1 a64.2.2.2.2 hr.1 hp1) (fun o k h => h.elim) (fun o k h => h.elim) (fun o h => h.elim) (fun o h => h.elim))) (sx_mono (D1 := xS_J9_min_f86c9) (fr_f_J9_min_f86c9 (p := p2) a64.2.1 (p1.1 + (rB p1.2 (g + 4) ((y1_59 ||| ((1 : Int32) <<< (a64.2.2.2.1 &&& 31)))).toNatClampNeg)) p1.2 hp2) (fun o k h => h.elim) (fun o k h => h.elim) (fun o h => h.elim) (fun o h => h.elim))) (sx_mono (D1 := xS_J9_max_f86c9) (fr_f_J9_max_f86c9 (p := p3) a64.2.2.1 (p1.1 + (rB p2.2 (g + 5) ((y1_59 ||| ((1 : Int32) <<< (a64.2.2.2.1 &&& 31)))).toNatClampNeg)) p2.2 hp3) (fun o k h => h.elim) (fun o k h => h.elim) (fun o h => h.elim) (fun o h => h.elim)))
      · exact ax_ret (P := Sum.elim (fun a64 : Int32 × Int64 × Int64 × Int32 × sx_M => sx_eq (xS_X5_settle g) s a64.2.2.2.2) (fun e : Int32 × Int64 × Int64 × sx_M => sx_eq (xS_X5_settle g) s e.2.2.2)) hf ha64
    obtain ⟨_, hf⟩ := ax_ite hf
    obtain ⟨_, hf⟩ := ax_ite hf
    obtain ⟨_, hf⟩ := ax_ite hf
    exact ax_ret (P := fun q : sx_M => sx_eq (xS_X5_settle g) s q) hf (sx_wB' (D := (xS_X5_settle g)) (sx_wB' (D := (xS_X5_settle g)) (sx_wA' (D := (xS_X5_settle g)) hvb4 ((fun q => q) rfl)) ((fun q => Or.inl q) rfl)) ((fun q => Or.inr (q)) rfl))
  have J46 : ∀ (y1_46 : Int32) (y2_46 : Int32) (y3_46 : Int32) (y4_46 : Int32) (t0_46 : Int64) (s_46 : sx_M), sx_eq (xS_X5_settle g) s s_46 → f_X5_settle_J46 g y1_46 y2_46 y3_46 y4_46 t0_46 s_46 = some p → sx_eq (xS_X5_settle g) s p := by
    intro y1_46 y2_46 y3_46 y4_46 t0_46 s_46 hs_46 hf
    unfold f_X5_settle_J46 at hf
    rcases ax_or hf with ⟨hc13, hf⟩ | ⟨hc13, hf⟩
    · exact J59 y1_46 y2_46 y3_46 y4_46 t0_46 (-9223372036854775808 : Int64) s_46 hs_46 hf
    · exact J59 y1_46 y2_46 y3_46 y4_46 t0_46 (0 : Int64) s_46 hs_46 hf
  have J33 : ∀ (y1_33 : Int32) (y2_33 : Int32) (y3_33 : Int32) (t0_33 : Int32) (s_33 : sx_M), sx_eq (xS_X5_settle g) s s_33 → f_X5_settle_J33 g y1_33 y2_33 y3_33 t0_33 s_33 = some p → sx_eq (xS_X5_settle g) s p := by
    intro y1_33 y2_33 y3_33 t0_33 s_33 hs_33 hf
    unfold f_X5_settle_J33 at hf
    rcases ax_or hf with ⟨hc14, hf⟩ | ⟨hc14, hf⟩
    · exact J46 y1_33 y2_33 y3_33 t0_33 (9223372036854775807 : Int64) s_33 hs_33 hf
    · exact J46 y1_33 y2_33 y3_33 t0_33 (0 : Int64) s_33 hs_33 hf
  have J16 : ∀ (y1_16 : Int32) (y2_16 : Int32) (t0_16 : Int32) (s_16 : sx_M), sx_eq (xS_X5_settle g) s s_16 → f_X5_settle_J16 g y1_16 y2_16 t0_16 s_16 = some p → sx_eq (xS_X5_settle g) s p := by
    intro y1_16 y2_16 t0_16 s_16 hs_16 hf
    unfold f_X5_settle_J16 at hf
    rcases ax_or hf with ⟨hc15, hf⟩ | ⟨hc15, hf⟩
    · exact J33 y1_16 y2_16 t0_16 (1 : Int32) s_16 hs_16 hf
    · exact J33 y1_16 y2_16 t0_16 (0 : Int32) s_16 hs_16 hf
  rcases ax_or hf with ⟨hc16, hf⟩ | ⟨hc16, hf⟩
  · exact J16 x1 x2 (0 : Int32) s (sx_rf _ s) hf
  · exact J16 x1 x2 (1 : Int32) s (sx_rf _ s) hf
abbrev xI_X5_refresh (g : Nat) : Nat → Nat → Prop := fun o k => False
abbrev xJ_X5_refresh (g : Nat) : Nat → Nat → Prop := fun o k => False
abbrev xA_X5_refresh (g : Nat) : Nat → Prop := fun o => o = (g + 3)
abbrev xB_X5_refresh (g : Nat) : Nat → Prop := fun o => o = (g + 4) ∨ o = (g + 5)
abbrev xS_X5_refresh (g : Nat) : sx_D := (xI_X5_refresh g, xJ_X5_refresh g, xA_X5_refresh g, xB_X5_refresh g)
set_option maxRecDepth 100000 in
set_option maxHeartbeats 1000000 in
theorem fr_f_X5_refresh (g : Nat) (s : sx_M) (hr : ax_RK g) {p : sx_M} (hf : f_X5_refresh g s = some p) : sx_eq (xS_X5_refresh g) s p := by
  unfold f_X5_refresh at hf
  obtain ⟨b3, hb3, hf⟩ := ax_bind hf
  have hvb3 := wh_inv ((((1 : Int32) <<< ((rI s g 2) &&& 31)) - (1 : Int32)), s) (fun a12 : Int32 × sx_M => sx_eq (xS_X5_refresh g) s a12.2) (fun e : sx_M => sx_eq (xS_X5_refresh g) s e) hb3 ?_ (sx_rf _ s)
  rotate_left
  · intro a12 r ha12 hf
    unfold f_X5_refresh_L12 at hf
    rcases ax_or hf with ⟨hc1, hf⟩ | ⟨hc1, hf⟩
    · exact ax_ret (P := Sum.elim (fun a12 : Int32 × sx_M => sx_eq (xS_X5_refresh g) s a12.2) (fun e : sx_M => sx_eq (xS_X5_refresh g) s e)) hf ha12
    · obtain ⟨p1, hp1, hf⟩ := ax_bind hf
      obtain ⟨p2, hp2, hf⟩ := ax_bind hf
      exact ax_ret (P := Sum.elim (fun a12 : Int32 × sx_M => sx_eq (xS_X5_refresh g) s a12.2) (fun e : sx_M => sx_eq (xS_X5_refresh g) s e)) hf (sx_tr (sx_tr ha12 (sx_mono (D1 := xS_J6_bitCount_0f7a4) (fr_f_J6_bitCount_0f7a4 (p := p1) a12.1 a12.2 hp1) (fun o k h => h.elim) (fun o k h => h.elim) (fun o h => h.elim) (fun o h => h.elim))) (sx_mono (D1 := xS_X5_settle g) (fr_f_X5_settle (p := p2) g a12.1 p1.1 p1.2 hr hp2) (fun o k h => h.elim) (fun o k h => h.elim) (fun o h => (fun q => q) h) (fun o h => Or.elim h (fun q => (fun q => Or.inl q) q) (fun q0 => (fun q => Or.inr (q)) q0))))
  exact ax_ret (P := fun q : sx_M => sx_eq (xS_X5_refresh g) s q) hf hvb3
abbrev xI_X5_alike (g : Nat) : Nat → Nat → Prop := fun o k => False
abbrev xJ_X5_alike (g : Nat) : Nat → Nat → Prop := fun o k => False
abbrev xA_X5_alike (g : Nat) : Nat → Prop := fun o => False
abbrev xB_X5_alike (g : Nat) : Nat → Prop := fun o => False
abbrev xS_X5_alike (g : Nat) : sx_D := (xI_X5_alike g, xJ_X5_alike g, xA_X5_alike g, xB_X5_alike g)
set_option maxRecDepth 100000 in
set_option maxHeartbeats 1000000 in
theorem fr_f_X5_alike (g : Nat) (x1 : Int64) (s : sx_M) (hr : ax_RK g) {p : Int32 × sx_M} (hf : f_X5_alike g x1 s = some p) : sx_eq (xS_X5_alike g) s p.2 := by
  unfold f_X5_alike at hf
  obtain ⟨p1, hp1, hf⟩ := ax_bind hf
  exact ax_ret (P := fun q : Int32 × sx_M => sx_eq (xS_X5_alike g) s q.2) hf (sx_tr (sx_rf _ s) (sx_mono (D1 := xS_X5_between g) (fr_f_X5_between (p := p1) g (0 : Int32) (0 : Int32) x1 x1 s hr hp1) (fun o k h => h.elim) (fun o k h => h.elim) (fun o h => h.elim) (fun o h => h.elim)))
abbrev xI_X5_before (g : Nat) (ra : Nat) : Nat → Nat → Prop := fun o k => False
abbrev xJ_X5_before (g : Nat) (ra : Nat) : Nat → Nat → Prop := fun o k => False
abbrev xA_X5_before (g : Nat) (ra : Nat) : Nat → Prop := fun o => False
abbrev xB_X5_before (g : Nat) (ra : Nat) : Nat → Prop := fun o => False
abbrev xS_X5_before (g : Nat) (ra : Nat) : sx_D := (xI_X5_before g ra, xJ_X5_before g ra, xA_X5_before g ra, xB_X5_before g ra)
set_option maxRecDepth 100000 in
set_option maxHeartbeats 1000000 in
theorem fr_f_X5_before (g : Nat) (ra : Nat) (s : sx_M) (hr : ax_RK g) (hra : sx_sh[ra]? = some (.inl (.int, 7))) {p : Int32 × sx_M} (hf : f_X5_before g ra s = some p) : sx_eq (xS_X5_before g ra) s p.2 := by
  unfold f_X5_before at hf
  obtain ⟨p1, hp1, hf⟩ := ax_bind hf
  obtain ⟨p2, hp2, hf⟩ := ax_bind hf
  obtain ⟨b7, hb7, hf⟩ := ax_bind hf
  have hvb7 := wh_inv (p1.1, p2.1, (0 : Int32), (0 : Int32), p2.2) (fun a24 : Int64 × Int32 × Int32 × Int32 × sx_M => sx_eq (xS_X5_before g ra) s a24.2.2.2.2) (fun e : Int32 × sx_M => sx_eq (xS_X5_before g ra) s e.2) hb7 ?_ (sx_tr (sx_tr (sx_rf _ s) (sx_mono (D1 := xS_X1_sumOf g ra) (fr_f_X1_sumOf (p := p1) g ra s hr.1 hra hp1) (fun o k h => h.elim) (fun o k h => h.elim) (fun o h => h.elim) (fun o h => h.elim))) (sx_mono (D1 := xS_X5_upTo g) (fr_f_X5_upTo (p := p2) g (p1.1 - (1 : Int64)) p1.2 hr hp2) (fun o k h => h.elim) (fun o k h => h.elim) (fun o h => h.elim) (fun o h => h.elim)))
  rotate_left
  · intro a24 r ha24 hf
    unfold f_X5_before_L24 at hf
    rcases ax_or hf with ⟨hc8, hf⟩ | ⟨hc8, hf⟩
    · exact ax_ret (P := Sum.elim (fun a24 : Int64 × Int32 × Int32 × Int32 × sx_M => sx_eq (xS_X5_before g ra) s a24.2.2.2.2) (fun e : Int32 × sx_M => sx_eq (xS_X5_before g ra) s e.2)) hf ha24
    · rcases ax_or hf with ⟨hc7, hf⟩ | ⟨hc7, hf⟩
      · exact ax_ret (P := Sum.elim (fun a24 : Int64 × Int32 × Int32 × Int32 × sx_M => sx_eq (xS_X5_before g ra) s a24.2.2.2.2) (fun e : Int32 × sx_M => sx_eq (xS_X5_before g ra) s e.2)) hf ha24
      · obtain ⟨b5, hb5, hf⟩ := ax_bind hf
        have hvb5 := wh_inv (a24.2.1, (0 : Int32), a24.2.2.2.2) (fun a46 : Int32 × Int32 × sx_M => sx_eq (xS_X5_before g ra) s a46.2.2) (fun e : Int32 × sx_M => sx_eq (xS_X5_before g ra) s e.2) hb5 ?_ ha24
        rotate_left
        · intro a46 r ha46 hf
          unfold f_X5_before_L46 at hf
          obtain ⟨_, hf⟩ := ax_ite hf
          rcases ax_or hf with ⟨hc4, hf⟩ | ⟨hc4, hf⟩
          · exact ax_ret (P := Sum.elim (fun a46 : Int32 × Int32 × sx_M => sx_eq (xS_X5_before g ra) s a46.2.2) (fun e : Int32 × sx_M => sx_eq (xS_X5_before g ra) s e.2)) hf ha46
          · obtain ⟨p3, hp3, hf⟩ := ax_bind hf
            rcases ax_or hf with ⟨hc3, hf⟩ | ⟨hc3, hf⟩
            · exact ax_ret (P := Sum.elim (fun a46 : Int32 × Int32 × sx_M => sx_eq (xS_X5_before g ra) s a46.2.2) (fun e : Int32 × sx_M => sx_eq (xS_X5_before g ra) s e.2)) hf (sx_tr ha46 (sx_mono (D1 := xS_X1_at g) (fr_f_X1_at (p := p3) g a24.2.2.2.1 a46.2.1 a46.2.2 hr.1 hp3) (fun o k h => h.elim) (fun o k h => h.elim) (fun o h => h.elim) (fun o h => h.elim)))
            · rcases ax_or hf with ⟨hc2, hf⟩ | ⟨hc2, hf⟩
              · obtain ⟨p4, hp4, hf⟩ := ax_bind hf
                exact ax_ret (P := Sum.elim (fun a46 : Int32 × Int32 × sx_M => sx_eq (xS_X5_before g ra) s a46.2.2) (fun e : Int32 × sx_M => sx_eq (xS_X5_before g ra) s e.2)) hf (sx_tr (sx_tr ha46 (sx_mono (D1 := xS_X1_at g) (fr_f_X1_at (p := p3) g a24.2.2.2.1 a46.2.1 a46.2.2 hr.1 hp3) (fun o k h => h.elim) (fun o k h => h.elim) (fun o h => h.elim) (fun o h => h.elim))) (sx_mono (D1 := xS_X5_between g) (fr_f_X5_between (p := p4) g (a24.2.2.1 ||| ((1 : Int32) <<< (a46.2.1 &&& 31))) (a24.2.2.2.1 + (1 : Int32)) (a24.1 - p3.1) (a24.1 - p3.1) p3.2 hr hp4) (fun o k h => h.elim) (fun o k h => h.elim) (fun o h => h.elim) (fun o h => h.elim)))
              · exact ax_ret (P := Sum.elim (fun a46 : Int32 × Int32 × sx_M => sx_eq (xS_X5_before g ra) s a46.2.2) (fun e : Int32 × sx_M => sx_eq (xS_X5_before g ra) s e.2)) hf (sx_tr ha46 (sx_mono (D1 := xS_X1_at g) (fr_f_X1_at (p := p3) g a24.2.2.2.1 a46.2.1 a46.2.2 hr.1 hp3) (fun o k h => h.elim) (fun o k h => h.elim) (fun o h => h.elim) (fun o h => h.elim)))
        obtain ⟨_, hf⟩ := ax_ite hf
        obtain ⟨_, hf⟩ := ax_ite hf
        obtain ⟨p6, hp6, hf⟩ := ax_bind hf
        exact ax_ret (P := Sum.elim (fun a24 : Int64 × Int32 × Int32 × Int32 × sx_M => sx_eq (xS_X5_before g ra) s a24.2.2.2.2) (fun e : Int32 × sx_M => sx_eq (xS_X5_before g ra) s e.2)) hf (sx_tr hvb5 (sx_mono (D1 := xS_X1_at g) (fr_f_X1_at (p := p6) g a24.2.2.2.1 (rA b5.2 ra (a24.2.2.2.1).toNatClampNeg) b5.2 hr.1 hp6) (fun o k h => h.elim) (fun o k h => h.elim) (fun o h => h.elim) (fun o h => h.elim)))
  exact ax_ret (P := fun q : Int32 × sx_M => sx_eq (xS_X5_before g ra) s q.2) hf hvb7
abbrev xI_X6_isBlank : Nat → Nat → Prop := fun o k => False
abbrev xJ_X6_isBlank : Nat → Nat → Prop := fun o k => False
abbrev xA_X6_isBlank : Nat → Prop := fun o => False
abbrev xB_X6_isBlank : Nat → Prop := fun o => False
abbrev xS_X6_isBlank : sx_D := (xI_X6_isBlank, xJ_X6_isBlank, xA_X6_isBlank, xB_X6_isBlank)
set_option maxRecDepth 100000 in
set_option maxHeartbeats 1000000 in
theorem fr_f_X6_isBlank (x0 : Int32) (s : sx_M) {p : Int32 × sx_M} (hf : f_X6_isBlank x0 s = some p) : sx_eq (xS_X6_isBlank) s p.2 := by
  unfold f_X6_isBlank at hf
  rcases ax_or hf with ⟨hc2, hf⟩ | ⟨hc2, hf⟩
  · exact ax_ret (P := fun q : Int32 × sx_M => sx_eq (xS_X6_isBlank) s q.2) hf (sx_rf _ s)
  · rcases ax_or hf with ⟨hc1, hf⟩ | ⟨hc1, hf⟩
    · exact ax_ret (P := fun q : Int32 × sx_M => sx_eq (xS_X6_isBlank) s q.2) hf (sx_rf _ s)
    · exact ax_ret (P := fun q : Int32 × sx_M => sx_eq (xS_X6_isBlank) s q.2) hf (sx_rf _ s)
abbrev xI_X6_isDigit : Nat → Nat → Prop := fun o k => False
abbrev xJ_X6_isDigit : Nat → Nat → Prop := fun o k => False
abbrev xA_X6_isDigit : Nat → Prop := fun o => False
abbrev xB_X6_isDigit : Nat → Prop := fun o => False
abbrev xS_X6_isDigit : sx_D := (xI_X6_isDigit, xJ_X6_isDigit, xA_X6_isDigit, xB_X6_isDigit)
set_option maxRecDepth 100000 in
set_option maxHeartbeats 1000000 in
theorem fr_f_X6_isDigit (x0 : Int32) (s : sx_M) {p : Int32 × sx_M} (hf : f_X6_isDigit x0 s = some p) : sx_eq (xS_X6_isDigit) s p.2 := by
  unfold f_X6_isDigit at hf
  rcases ax_or hf with ⟨hc2, hf⟩ | ⟨hc2, hf⟩
  · exact ax_ret (P := fun q : Int32 × sx_M => sx_eq (xS_X6_isDigit) s q.2) hf (sx_rf _ s)
  · rcases ax_or hf with ⟨hc1, hf⟩ | ⟨hc1, hf⟩
    · exact ax_ret (P := fun q : Int32 × sx_M => sx_eq (xS_X6_isDigit) s q.2) hf (sx_rf _ s)
    · exact ax_ret (P := fun q : Int32 × sx_M => sx_eq (xS_X6_isDigit) s q.2) hf (sx_rf _ s)
abbrev xI_X6_stepOverNumber : Nat → Nat → Prop := fun o k => (o = 19 ∧ k = 4) ∨ (o = 19 ∧ k = 5)
abbrev xJ_X6_stepOverNumber : Nat → Nat → Prop := fun o k => False
abbrev xA_X6_stepOverNumber : Nat → Prop := fun o => False
abbrev xB_X6_stepOverNumber : Nat → Prop := fun o => False
abbrev xS_X6_stepOverNumber : sx_D := (xI_X6_stepOverNumber, xJ_X6_stepOverNumber, xA_X6_stepOverNumber, xB_X6_stepOverNumber)
set_option maxRecDepth 100000 in
set_option maxHeartbeats 1000000 in
theorem fr_f_X6_stepOverNumber (s : sx_M) {p : sx_M} (hf : f_X6_stepOverNumber s = some p) : sx_eq (xS_X6_stepOverNumber) s p := by
  unfold f_X6_stepOverNumber at hf
  obtain ⟨b5, hb5, hf⟩ := ax_bind hf
  have hvb5 := wh_inv (wI (wI s 19 5 (0 : Int32)) 19 4 (rI (wI s 19 5 (0 : Int32)) 19 3)) (fun a13 : sx_M => sx_eq (xS_X6_stepOverNumber) s a13) (fun e : sx_M => sx_eq (xS_X6_stepOverNumber) s e) hb5 ?_ (sx_wI' (D := (xS_X6_stepOverNumber)) (sx_wI' (D := (xS_X6_stepOverNumber)) (sx_rf _ s) ((fun q => Or.inr (q)) ⟨rfl, rfl⟩)) ((fun q => Or.inl q) ⟨rfl, rfl⟩))
  rotate_left
  · intro a13 r ha13 hf
    unfold f_X6_stepOverNumber_L13 at hf
    rcases ax_or hf with ⟨hc2, hf⟩ | ⟨hc2, hf⟩
    · exact ax_ret (P := Sum.elim (fun a13 : sx_M => sx_eq (xS_X6_stepOverNumber) s a13) (fun e : sx_M => sx_eq (xS_X6_stepOverNumber) s e)) hf ha13
    · obtain ⟨p1, hp1, hf⟩ := ax_bind hf
      obtain ⟨p2, hp2, hf⟩ := ax_bind hf
      rcases ax_or hf with ⟨hc1, hf⟩ | ⟨hc1, hf⟩
      · exact ax_ret (P := Sum.elim (fun a13 : sx_M => sx_eq (xS_X6_stepOverNumber) s a13) (fun e : sx_M => sx_eq (xS_X6_stepOverNumber) s e)) hf (sx_tr (sx_tr ha13 (sx_mono (D1 := xS_X9_at) (fr_f_X9_at (p := p1) (rI a13 19 4) a13 hp1) (fun o k h => h.elim) (fun o k h => h.elim) (fun o h => h.elim) (fun o h => h.elim))) (sx_mono (D1 := xS_X6_isDigit) (fr_f_X6_isDigit (p := p2) p1.1 p1.2 hp2) (fun o k h => h.elim) (fun o k h => h.elim) (fun o h => h.elim) (fun o h => h.elim)))
      · obtain ⟨p3, hp3, hf⟩ := ax_bind hf
        obtain ⟨p4, hp4, hf⟩ := ax_bind hf
        exact ax_ret (P := Sum.elim (fun a13 : sx_M => sx_eq (xS_X6_stepOverNumber) s a13) (fun e : sx_M => sx_eq (xS_X6_stepOverNumber) s e)) hf (sx_wI' (D := (xS_X6_stepOverNumber)) (sx_wI' (D := (xS_X6_stepOverNumber)) (sx_tr (sx_tr (sx_tr (sx_tr ha13 (sx_mono (D1 := xS_X9_at) (fr_f_X9_at (p := p1) (rI a13 19 4) a13 hp1) (fun o k h => h.elim) (fun o k h => h.elim) (fun o h => h.elim) (fun o h => h.elim))) (sx_mono (D1 := xS_X6_isDigit) (fr_f_X6_isDigit (p := p2) p1.1 p1.2 hp2) (fun o k h => h.elim) (fun o k h => h.elim) (fun o h => h.elim) (fun o h => h.elim))) (sx_mono (D1 := xS_X9_at) (fr_f_X9_at (p := p3) (rI p2.2 19 4) p2.2 hp3) (fun o k h => h.elim) (fun o k h => h.elim) (fun o h => h.elim) (fun o h => h.elim))) (sx_mono (D1 := xS_J9_min_7cf53) (fr_f_J9_min_7cf53 (p := p4) ((((rI p2.2 19 5) * (10 : Int32)) + p3.1) - (48 : Int32)) (10000 : Int32) p3.2 hp4) (fun o k h => h.elim) (fun o k h => h.elim) (fun o h => h.elim) (fun o h => h.elim))) ((fun q => Or.inr (q)) ⟨rfl, rfl⟩)) ((fun q => Or.inl q) ⟨rfl, rfl⟩))
  exact ax_ret (P := fun q : sx_M => sx_eq (xS_X6_stepOverNumber) s q) hf hvb5
abbrev xI_X6_isLetter : Nat → Nat → Prop := fun o k => False
abbrev xJ_X6_isLetter : Nat → Nat → Prop := fun o k => False
abbrev xA_X6_isLetter : Nat → Prop := fun o => False
abbrev xB_X6_isLetter : Nat → Prop := fun o => False
abbrev xS_X6_isLetter : sx_D := (xI_X6_isLetter, xJ_X6_isLetter, xA_X6_isLetter, xB_X6_isLetter)
set_option maxRecDepth 100000 in
set_option maxHeartbeats 1000000 in
theorem fr_f_X6_isLetter (x0 : Int32) (s : sx_M) {p : Int32 × sx_M} (hf : f_X6_isLetter x0 s = some p) : sx_eq (xS_X6_isLetter) s p.2 := by
  unfold f_X6_isLetter at hf
  rcases ax_or hf with ⟨hc2, hf⟩ | ⟨hc2, hf⟩
  · exact ax_ret (P := fun q : Int32 × sx_M => sx_eq (xS_X6_isLetter) s q.2) hf (sx_rf _ s)
  · rcases ax_or hf with ⟨hc1, hf⟩ | ⟨hc1, hf⟩
    · exact ax_ret (P := fun q : Int32 × sx_M => sx_eq (xS_X6_isLetter) s q.2) hf (sx_rf _ s)
    · exact ax_ret (P := fun q : Int32 × sx_M => sx_eq (xS_X6_isLetter) s q.2) hf (sx_rf _ s)
abbrev xI_X6_stepOverWord : Nat → Nat → Prop := fun o k => (o = 19 ∧ k = 4)
abbrev xJ_X6_stepOverWord : Nat → Nat → Prop := fun o k => False
abbrev xA_X6_stepOverWord : Nat → Prop := fun o => False
abbrev xB_X6_stepOverWord : Nat → Prop := fun o => False
abbrev xS_X6_stepOverWord : sx_D := (xI_X6_stepOverWord, xJ_X6_stepOverWord, xA_X6_stepOverWord, xB_X6_stepOverWord)
set_option maxRecDepth 100000 in
set_option maxHeartbeats 1000000 in
theorem fr_f_X6_stepOverWord (s : sx_M) {p : sx_M} (hf : f_X6_stepOverWord s = some p) : sx_eq (xS_X6_stepOverWord) s p := by
  unfold f_X6_stepOverWord at hf
  obtain ⟨b3, hb3, hf⟩ := ax_bind hf
  have hvb3 := wh_inv s (fun a0 : sx_M => sx_eq (xS_X6_stepOverWord) s a0) (fun e : sx_M => sx_eq (xS_X6_stepOverWord) s e) hb3 ?_ (sx_rf _ s)
  rotate_left
  · intro a0 r ha0 hf
    unfold f_X6_stepOverWord_L0 at hf
    rcases ax_or hf with ⟨hc2, hf⟩ | ⟨hc2, hf⟩
    · exact ax_ret (P := Sum.elim (fun a0 : sx_M => sx_eq (xS_X6_stepOverWord) s a0) (fun e : sx_M => sx_eq (xS_X6_stepOverWord) s e)) hf ha0
    · obtain ⟨p1, hp1, hf⟩ := ax_bind hf
      obtain ⟨p2, hp2, hf⟩ := ax_bind hf
      rcases ax_or hf with ⟨hc1, hf⟩ | ⟨hc1, hf⟩
      · exact ax_ret (P := Sum.elim (fun a0 : sx_M => sx_eq (xS_X6_stepOverWord) s a0) (fun e : sx_M => sx_eq (xS_X6_stepOverWord) s e)) hf (sx_tr (sx_tr ha0 (sx_mono (D1 := xS_X9_at) (fr_f_X9_at (p := p1) (rI a0 19 4) a0 hp1) (fun o k h => h.elim) (fun o k h => h.elim) (fun o h => h.elim) (fun o h => h.elim))) (sx_mono (D1 := xS_X6_isLetter) (fr_f_X6_isLetter (p := p2) p1.1 p1.2 hp2) (fun o k h => h.elim) (fun o k h => h.elim) (fun o h => h.elim) (fun o h => h.elim)))
      · exact ax_ret (P := Sum.elim (fun a0 : sx_M => sx_eq (xS_X6_stepOverWord) s a0) (fun e : sx_M => sx_eq (xS_X6_stepOverWord) s e)) hf (sx_wI' (D := (xS_X6_stepOverWord)) (sx_tr (sx_tr ha0 (sx_mono (D1 := xS_X9_at) (fr_f_X9_at (p := p1) (rI a0 19 4) a0 hp1) (fun o k h => h.elim) (fun o k h => h.elim) (fun o h => h.elim) (fun o h => h.elim))) (sx_mono (D1 := xS_X6_isLetter) (fr_f_X6_isLetter (p := p2) p1.1 p1.2 hp2) (fun o k h => h.elim) (fun o k h => h.elim) (fun o h => h.elim) (fun o h => h.elim))) ((fun q => q) ⟨rfl, rfl⟩))
  exact ax_ret (P := fun q : sx_M => sx_eq (xS_X6_stepOverWord) s q) hf hvb3
abbrev xI_X6_spells : Nat → Nat → Prop := fun o k => False
abbrev xJ_X6_spells : Nat → Nat → Prop := fun o k => False
abbrev xA_X6_spells : Nat → Prop := fun o => False
abbrev xB_X6_spells : Nat → Prop := fun o => False
abbrev xS_X6_spells : sx_D := (xI_X6_spells, xJ_X6_spells, xA_X6_spells, xB_X6_spells)
set_option maxRecDepth 100000 in
set_option maxHeartbeats 1000000 in
theorem fr_f_X6_spells (x1 : UInt32) (s : sx_M) {p : Int32 × sx_M} (hf : f_X6_spells x1 s = some p) : sx_eq (xS_X6_spells) s p.2 := by
  unfold f_X6_spells at hf
  obtain ⟨_, hf⟩ := ax_ite hf
  rcases ax_or hf with ⟨hc7, hf⟩ | ⟨hc7, hf⟩
  · obtain ⟨b2, hb2, hf⟩ := ax_bind hf
    have hvb2 := wh_inv ((0 : Int32), s) (fun a20 : Int32 × sx_M => sx_eq (xS_X6_spells) s a20.2) (Sum.elim (fun e : sx_M => sx_eq (xS_X6_spells) s e) (fun v : Int32 × sx_M => sx_eq (xS_X6_spells) s v.2)) hb2 ?_ (sx_rf _ s)
    rotate_left
    · intro a20 r ha20 hf
      unfold f_X6_spells_L20 at hf
      obtain ⟨_, hf⟩ := ax_ite hf
      rcases ax_or hf with ⟨hc6, hf⟩ | ⟨hc6, hf⟩
      · exact ax_ret (P := Sum.elim (fun a20 : Int32 × sx_M => sx_eq (xS_X6_spells) s a20.2) (Sum.elim (fun e : sx_M => sx_eq (xS_X6_spells) s e) (fun v : Int32 × sx_M => sx_eq (xS_X6_spells) s v.2))) hf ha20
      · obtain ⟨p1, hp1, hf⟩ := ax_bind hf
        obtain ⟨_, hf⟩ := ax_ite hf
        obtain ⟨_, hf⟩ := ax_ite hf
        rcases ax_or hf with ⟨hc5, hf⟩ | ⟨hc5, hf⟩
        · exact ax_ret (P := Sum.elim (fun a20 : Int32 × sx_M => sx_eq (xS_X6_spells) s a20.2) (Sum.elim (fun e : sx_M => sx_eq (xS_X6_spells) s e) (fun v : Int32 × sx_M => sx_eq (xS_X6_spells) s v.2))) hf (sx_tr ha20 (sx_mono (D1 := xS_X9_at) (fr_f_X9_at (p := p1) ((rI a20.2 19 3) + a20.1) a20.2 hp1) (fun o k h => h.elim) (fun o k h => h.elim) (fun o h => h.elim) (fun o h => h.elim)))
        · exact ax_ret (P := Sum.elim (fun a20 : Int32 × sx_M => sx_eq (xS_X6_spells) s a20.2) (Sum.elim (fun e : sx_M => sx_eq (xS_X6_spells) s e) (fun v : Int32 × sx_M => sx_eq (xS_X6_spells) s v.2))) hf (sx_tr ha20 (sx_mono (D1 := xS_X9_at) (fr_f_X9_at (p := p1) ((rI a20.2 19 3) + a20.1) a20.2 hp1) (fun o k h => h.elim) (fun o k h => h.elim) (fun o h => h.elim) (fun o h => h.elim)))
    rcases b2 with e3 | e4
    · exact ax_ret (P := fun q : Int32 × sx_M => sx_eq (xS_X6_spells) s q.2) hf hvb2
    · exact ax_ret (P := fun q : Int32 × sx_M => sx_eq (xS_X6_spells) s q.2) hf hvb2
  · exact ax_ret (P := fun q : Int32 × sx_M => sx_eq (xS_X6_spells) s q.2) hf (sx_rf _ s)
abbrev xI_X6_kindOfSign : Nat → Nat → Prop := fun o k => False
abbrev xJ_X6_kindOfSign : Nat → Nat → Prop := fun o k => False
abbrev xA_X6_kindOfSign : Nat → Prop := fun o => False
abbrev xB_X6_kindOfSign : Nat → Prop := fun o => False
abbrev xS_X6_kindOfSign : sx_D := (xI_X6_kindOfSign, xJ_X6_kindOfSign, xA_X6_kindOfSign, xB_X6_kindOfSign)
set_option maxRecDepth 100000 in
set_option maxHeartbeats 1000000 in
theorem fr_f_X6_kindOfSign (x0 : Int32) (s : sx_M) {p : Int32 × sx_M} (hf : f_X6_kindOfSign x0 s = some p) : sx_eq (xS_X6_kindOfSign) s p.2 := by
  unfold f_X6_kindOfSign at hf
  rcases ax_or hf with ⟨hc1, hf⟩ | ⟨hc1, hf⟩
  · exact ax_ret (P := fun q : Int32 × sx_M => sx_eq (xS_X6_kindOfSign) s q.2) hf (sx_rf _ s)
  rcases ax_or hf with ⟨hc2, hf⟩ | ⟨hc2, hf⟩
  · exact ax_ret (P := fun q : Int32 × sx_M => sx_eq (xS_X6_kindOfSign) s q.2) hf (sx_rf _ s)
  rcases ax_or hf with ⟨hc3, hf⟩ | ⟨hc3, hf⟩
  · exact ax_ret (P := fun q : Int32 × sx_M => sx_eq (xS_X6_kindOfSign) s q.2) hf (sx_rf _ s)
  rcases ax_or hf with ⟨hc4, hf⟩ | ⟨hc4, hf⟩
  · exact ax_ret (P := fun q : Int32 × sx_M => sx_eq (xS_X6_kindOfSign) s q.2) hf (sx_rf _ s)
  exact ax_ret (P := fun q : Int32 × sx_M => sx_eq (xS_X6_kindOfSign) s q.2) hf (sx_rf _ s)
abbrev xI_X6_step : Nat → Nat → Prop := fun o k => (o = 19 ∧ k = 2) ∨ (o = 19 ∧ k = 3) ∨ (o = 19 ∧ k = 4) ∨ (o = 19 ∧ k = 5)
abbrev xJ_X6_step : Nat → Nat → Prop := fun o k => False
abbrev xA_X6_step : Nat → Prop := fun o => False
abbrev xB_X6_step : Nat → Prop := fun o => False
abbrev xS_X6_step : sx_D := (xI_X6_step, xJ_X6_step, xA_X6_step, xB_X6_step)
set_option maxRecDepth 100000 in
set_option maxHeartbeats 1000000 in
theorem fr_f_X6_step (s : sx_M) {p : sx_M} (hf : f_X6_step s = some p) : sx_eq (xS_X6_step) s p := by
  unfold f_X6_step at hf
  obtain ⟨b3, hb3, hf⟩ := ax_bind hf
  have hvb3 := wh_inv (wI s 19 3 (rI s 19 4)) (fun a8 : sx_M => sx_eq (xS_X6_step) s a8) (fun e : sx_M => sx_eq (xS_X6_step) s e) hb3 ?_ (sx_wI' (D := (xS_X6_step)) (sx_rf _ s) ((fun q => Or.inr (Or.inl q)) ⟨rfl, rfl⟩))
  rotate_left
  · intro a8 r ha8 hf
    unfold f_X6_step_L8 at hf
    rcases ax_or hf with ⟨hc2, hf⟩ | ⟨hc2, hf⟩
    · exact ax_ret (P := Sum.elim (fun a8 : sx_M => sx_eq (xS_X6_step) s a8) (fun e : sx_M => sx_eq (xS_X6_step) s e)) hf ha8
    · obtain ⟨p1, hp1, hf⟩ := ax_bind hf
      obtain ⟨p2, hp2, hf⟩ := ax_bind hf
      rcases ax_or hf with ⟨hc1, hf⟩ | ⟨hc1, hf⟩
      · exact ax_ret (P := Sum.elim (fun a8 : sx_M => sx_eq (xS_X6_step) s a8) (fun e : sx_M => sx_eq (xS_X6_step) s e)) hf (sx_tr (sx_tr ha8 (sx_mono (D1 := xS_X9_at) (fr_f_X9_at (p := p1) (rI a8 19 3) a8 hp1) (fun o k h => h.elim) (fun o k h => h.elim) (fun o h => h.elim) (fun o h => h.elim))) (sx_mono (D1 := xS_X6_isBlank) (fr_f_X6_isBlank (p := p2) p1.1 p1.2 hp2) (fun o k h => h.elim) (fun o k h => h.elim) (fun o h => h.elim) (fun o h => h.elim)))
      · exact ax_ret (P := Sum.elim (fun a8 : sx_M => sx_eq (xS_X6_step) s a8) (fun e : sx_M => sx_eq (xS_X6_step) s e)) hf (sx_wI' (D := (xS_X6_step)) (sx_tr (sx_tr ha8 (sx_mono (D1 := xS_X9_at) (fr_f_X9_at (p := p1) (rI a8 19 3) a8 hp1) (fun o k h => h.elim) (fun o k h => h.elim) (fun o h => h.elim) (fun o h => h.elim))) (sx_mono (D1 := xS_X6_isBlank) (fr_f_X6_isBlank (p := p2) p1.1 p1.2 hp2) (fun o k h => h.elim) (fun o k h => h.elim) (fun o h => h.elim) (fun o h => h.elim))) ((fun q => Or.inr (Or.inl q)) ⟨rfl, rfl⟩))
  obtain ⟨p4, hp4, hf⟩ := ax_bind hf
  obtain ⟨p5, hp5, hf⟩ := ax_bind hf
  rcases ax_or hf with ⟨hc7, hf⟩ | ⟨hc7, hf⟩
  · obtain ⟨p6, hp6, hf⟩ := ax_bind hf
    rcases ax_or hf with ⟨hc6, hf⟩ | ⟨hc6, hf⟩
    · obtain ⟨p7, hp7, hf⟩ := ax_bind hf
      exact ax_ret (P := fun q : sx_M => sx_eq (xS_X6_step) s q) hf (sx_wI' (D := (xS_X6_step)) (sx_tr (sx_tr (sx_tr (sx_wI' (D := (xS_X6_step)) (sx_tr hvb3 (sx_mono (D1 := xS_X9_at) (fr_f_X9_at (p := p4) (rI b3 19 3) b3 hp4) (fun o k h => h.elim) (fun o k h => h.elim) (fun o h => h.elim) (fun o h => h.elim))) ((fun q => Or.inr (Or.inr (Or.inl q))) ⟨rfl, rfl⟩)) (sx_mono (D1 := xS_X6_isDigit) (fr_f_X6_isDigit (p := p5) p4.1 (wI p4.2 19 4 ((rI p4.2 19 3) + (1 : Int32))) hp5) (fun o k h => h.elim) (fun o k h => h.elim) (fun o h => h.elim) (fun o h => h.elim))) (sx_mono (D1 := xS_X6_isLetter) (fr_f_X6_isLetter (p := p6) p4.1 p5.2 hp6) (fun o k h => h.elim) (fun o k h => h.elim) (fun o h => h.elim) (fun o h => h.elim))) (sx_mono (D1 := xS_X6_kindOfSign) (fr_f_X6_kindOfSign (p := p7) p4.1 p6.2 hp7) (fun o k h => h.elim) (fun o k h => h.elim) (fun o h => h.elim) (fun o h => h.elim))) ((fun q => Or.inl q) ⟨rfl, rfl⟩))
    · obtain ⟨p8, hp8, hf⟩ := ax_bind hf
      obtain ⟨p9, hp9, hf⟩ := ax_bind hf
      rcases ax_or hf with ⟨hc5, hf⟩ | ⟨hc5, hf⟩
      · obtain ⟨p10, hp10, hf⟩ := ax_bind hf
        rcases ax_or hf with ⟨hc4, hf⟩ | ⟨hc4, hf⟩
        · obtain ⟨p11, hp11, hf⟩ := ax_bind hf
          rcases ax_or hf with ⟨hc3, hf⟩ | ⟨hc3, hf⟩
          · exact ax_ret (P := fun q : sx_M => sx_eq (xS_X6_step) s q) hf (sx_wI' (D := (xS_X6_step)) (sx_tr (sx_tr (sx_tr (sx_tr (sx_tr (sx_tr (sx_wI' (D := (xS_X6_step)) (sx_tr hvb3 (sx_mono (D1 := xS_X9_at) (fr_f_X9_at (p := p4) (rI b3 19 3) b3 hp4) (fun o k h => h.elim) (fun o k h => h.elim) (fun o h => h.elim) (fun o h => h.elim))) ((fun q => Or.inr (Or.inr (Or.inl q))) ⟨rfl, rfl⟩)) (sx_mono (D1 := xS_X6_isDigit) (fr_f_X6_isDigit (p := p5) p4.1 (wI p4.2 19 4 ((rI p4.2 19 3) + (1 : Int32))) hp5) (fun o k h => h.elim) (fun o k h => h.elim) (fun o h => h.elim) (fun o h => h.elim))) (sx_mono (D1 := xS_X6_isLetter) (fr_f_X6_isLetter (p := p6) p4.1 p5.2 hp6) (fun o k h => h.elim) (fun o k h => h.elim) (fun o h => h.elim) (fun o h => h.elim))) (sx_mono (D1 := xS_X6_stepOverWord) (fr_f_X6_stepOverWord (p := p8) p6.2 hp8) (fun o k h => (fun q => Or.inr (Or.inr (Or.inl q))) h) (fun o k h => h.elim) (fun o h => h.elim) (fun o h => h.elim))) (sx_mono (D1 := xS_X6_spells) (fr_f_X6_spells (p := p9) (1 : UInt32) p8 hp9) (fun o k h => h.elim) (fun o k h => h.elim) (fun o h => h.elim) (fun o h => h.elim))) (sx_mono (D1 := xS_X6_spells) (fr_f_X6_spells (p := p10) (2 : UInt32) p9.2 hp10) (fun o k h => h.elim) (fun o k h => h.elim) (fun o h => h.elim) (fun o h => h.elim))) (sx_mono (D1 := xS_X6_spells) (fr_f_X6_spells (p := p11) (3 : UInt32) p10.2 hp11) (fun o k h => h.elim) (fun o k h => h.elim) (fun o h => h.elim) (fun o h => h.elim))) ((fun q => Or.inl q) ⟨rfl, rfl⟩))
          · exact ax_ret (P := fun q : sx_M => sx_eq (xS_X6_step) s q) hf (sx_wI' (D := (xS_X6_step)) (sx_tr (sx_tr (sx_tr (sx_tr (sx_tr (sx_tr (sx_wI' (D := (xS_X6_step)) (sx_tr hvb3 (sx_mono (D1 := xS_X9_at) (fr_f_X9_at (p := p4) (rI b3 19 3) b3 hp4) (fun o k h => h.elim) (fun o k h => h.elim) (fun o h => h.elim) (fun o h => h.elim))) ((fun q => Or.inr (Or.inr (Or.inl q))) ⟨rfl, rfl⟩)) (sx_mono (D1 := xS_X6_isDigit) (fr_f_X6_isDigit (p := p5) p4.1 (wI p4.2 19 4 ((rI p4.2 19 3) + (1 : Int32))) hp5) (fun o k h => h.elim) (fun o k h => h.elim) (fun o h => h.elim) (fun o h => h.elim))) (sx_mono (D1 := xS_X6_isLetter) (fr_f_X6_isLetter (p := p6) p4.1 p5.2 hp6) (fun o k h => h.elim) (fun o k h => h.elim) (fun o h => h.elim) (fun o h => h.elim))) (sx_mono (D1 := xS_X6_stepOverWord) (fr_f_X6_stepOverWord (p := p8) p6.2 hp8) (fun o k h => (fun q => Or.inr (Or.inr (Or.inl q))) h) (fun o k h => h.elim) (fun o h => h.elim) (fun o h => h.elim))) (sx_mono (D1 := xS_X6_spells) (fr_f_X6_spells (p := p9) (1 : UInt32) p8 hp9) (fun o k h => h.elim) (fun o k h => h.elim) (fun o h => h.elim) (fun o h => h.elim))) (sx_mono (D1 := xS_X6_spells) (fr_f_X6_spells (p := p10) (2 : UInt32) p9.2 hp10) (fun o k h => h.elim) (fun o k h => h.elim) (fun o h => h.elim) (fun o h => h.elim))) (sx_mono (D1 := xS_X6_spells) (fr_f_X6_spells (p := p11) (3 : UInt32) p10.2 hp11) (fun o k h => h.elim) (fun o k h => h.elim) (fun o h => h.elim) (fun o h => h.elim))) ((fun q => Or.inl q) ⟨rfl, rfl⟩))
        · exact ax_ret (P := fun q : sx_M => sx_eq (xS_X6_step) s q) hf (sx_wI' (D := (xS_X6_step)) (sx_tr (sx_tr (sx_tr (sx_tr (sx_tr (sx_wI' (D := (xS_X6_step)) (sx_tr hvb3 (sx_mono (D1 := xS_X9_at) (fr_f_X9_at (p := p4) (rI b3 19 3) b3 hp4) (fun o k h => h.elim) (fun o k h => h.elim) (fun o h => h.elim) (fun o h => h.elim))) ((fun q => Or.inr (Or.inr (Or.inl q))) ⟨rfl, rfl⟩)) (sx_mono (D1 := xS_X6_isDigit) (fr_f_X6_isDigit (p := p5) p4.1 (wI p4.2 19 4 ((rI p4.2 19 3) + (1 : Int32))) hp5) (fun o k h => h.elim) (fun o k h => h.elim) (fun o h => h.elim) (fun o h => h.elim))) (sx_mono (D1 := xS_X6_isLetter) (fr_f_X6_isLetter (p := p6) p4.1 p5.2 hp6) (fun o k h => h.elim) (fun o k h => h.elim) (fun o h => h.elim) (fun o h => h.elim))) (sx_mono (D1 := xS_X6_stepOverWord) (fr_f_X6_stepOverWord (p := p8) p6.2 hp8) (fun o k h => (fun q => Or.inr (Or.inr (Or.inl q))) h) (fun o k h => h.elim) (fun o h => h.elim) (fun o h => h.elim))) (sx_mono (D1 := xS_X6_spells) (fr_f_X6_spells (p := p9) (1 : UInt32) p8 hp9) (fun o k h => h.elim) (fun o k h => h.elim) (fun o h => h.elim) (fun o h => h.elim))) (sx_mono (D1 := xS_X6_spells) (fr_f_X6_spells (p := p10) (2 : UInt32) p9.2 hp10) (fun o k h => h.elim) (fun o k h => h.elim) (fun o h => h.elim) (fun o h => h.elim))) ((fun q => Or.inl q) ⟨rfl, rfl⟩))
      · exact ax_ret (P := fun q : sx_M => sx_eq (xS_X6_step) s q) hf (sx_wI' (D := (xS_X6_step)) (sx_tr (sx_tr (sx_tr (sx_tr (sx_wI' (D := (xS_X6_step)) (sx_tr hvb3 (sx_mono (D1 := xS_X9_at) (fr_f_X9_at (p := p4) (rI b3 19 3) b3 hp4) (fun o k h => h.elim) (fun o k h => h.elim) (fun o h => h.elim) (fun o h => h.elim))) ((fun q => Or.inr (Or.inr (Or.inl q))) ⟨rfl, rfl⟩)) (sx_mono (D1 := xS_X6_isDigit) (fr_f_X6_isDigit (p := p5) p4.1 (wI p4.2 19 4 ((rI p4.2 19 3) + (1 : Int32))) hp5) (fun o k h => h.elim) (fun o k h => h.elim) (fun o h => h.elim) (fun o h => h.elim))) (sx_mono (D1 := xS_X6_isLetter) (fr_f_X6_isLetter (p := p6) p4.1 p5.2 hp6) (fun o k h => h.elim) (fun o k h => h.elim) (fun o h => h.elim) (fun o h => h.elim))) (sx_mono (D1 := xS_X6_stepOverWord) (fr_f_X6_stepOverWord (p := p8) p6.2 hp8) (fun o k h => (fun q => Or.inr (Or.inr (Or.inl q))) h) (fun o k h => h.elim) (fun o h => h.elim) (fun o h => h.elim))) (sx_mono (D1 := xS_X6_spells) (fr_f_X6_spells (p := p9) (1 : UInt32) p8 hp9) (fun o k h => h.elim) (fun o k h => h.elim) (fun o h => h.elim) (fun o h => h.elim))) ((fun q => Or.inl q) ⟨rfl, rfl⟩))
  · obtain ⟨p12, hp12, hf⟩ := ax_bind hf
    exact ax_ret (P := fun q : sx_M => sx_eq (xS_X6_step) s q) hf (sx_tr (sx_wI' (D := (xS_X6_step)) (sx_tr (sx_wI' (D := (xS_X6_step)) (sx_tr hvb3 (sx_mono (D1 := xS_X9_at) (fr_f_X9_at (p := p4) (rI b3 19 3) b3 hp4) (fun o k h => h.elim) (fun o k h => h.elim) (fun o h => h.elim) (fun o h => h.elim))) ((fun q => Or.inr (Or.inr (Or.inl q))) ⟨rfl, rfl⟩)) (sx_mono (D1 := xS_X6_isDigit) (fr_f_X6_isDigit (p := p5) p4.1 (wI p4.2 19 4 ((rI p4.2 19 3) + (1 : Int32))) hp5) (fun o k h => h.elim) (fun o k h => h.elim) (fun o h => h.elim) (fun o h => h.elim))) ((fun q => Or.inl q) ⟨rfl, rfl⟩)) (sx_mono (D1 := xS_X6_stepOverNumber) (fr_f_X6_stepOverNumber (p := p12) (wI p5.2 19 2 (2 : Int32)) hp12) (fun o k h => Or.elim h (fun q => (fun q => Or.inr (Or.inr (Or.inl q))) q) (fun q0 => (fun q => Or.inr (Or.inr (Or.inr (q)))) q0)) (fun o k h => h.elim) (fun o h => h.elim) (fun o h => h.elim)))
abbrev xI_X6_fail : Nat → Nat → Prop := fun o k => (o = 19 ∧ k = 6) ∨ (o = 19 ∧ k = 7)
abbrev xJ_X6_fail : Nat → Nat → Prop := fun o k => False
abbrev xA_X6_fail : Nat → Prop := fun o => False
abbrev xB_X6_fail : Nat → Prop := fun o => False
abbrev xS_X6_fail : sx_D := (xI_X6_fail, xJ_X6_fail, xA_X6_fail, xB_X6_fail)
set_option maxRecDepth 100000 in
set_option maxHeartbeats 1000000 in
theorem fr_f_X6_fail (x1 : Int32) (s : sx_M) {p : Int32 × sx_M} (hf : f_X6_fail x1 s = some p) : sx_eq (xS_X6_fail) s p.2 := by
  unfold f_X6_fail at hf
  exact ax_ret (P := fun q : Int32 × sx_M => sx_eq (xS_X6_fail) s q.2) hf (sx_wI' (D := (xS_X6_fail)) (sx_wI' (D := (xS_X6_fail)) (sx_rf _ s) ((fun q => Or.inl q) ⟨rfl, rfl⟩)) ((fun q => Or.inr (q)) ⟨rfl, rfl⟩))
abbrev xI_X6_readJobs : Nat → Nat → Prop := fun o k => (o = 13 ∧ k = 2) ∨ (o = 19 ∧ k = 2) ∨ (o = 19 ∧ k = 3) ∨ (o = 19 ∧ k = 4) ∨ (o = 19 ∧ k = 5) ∨ (o = 19 ∧ k = 6) ∨ (o = 19 ∧ k = 7)
abbrev xJ_X6_readJobs : Nat → Nat → Prop := fun o k => False
abbrev xA_X6_readJobs : Nat → Prop := fun o => False
abbrev xB_X6_readJobs : Nat → Prop := fun o => False
abbrev xS_X6_readJobs : sx_D := (xI_X6_readJobs, xJ_X6_readJobs, xA_X6_readJobs, xB_X6_readJobs)
set_option maxRecDepth 100000 in
set_option maxHeartbeats 1000000 in
theorem fr_f_X6_readJobs (s : sx_M) {p : Int32 × sx_M} (hf : f_X6_readJobs s = some p) : sx_eq (xS_X6_readJobs) s p.2 := by
  unfold f_X6_readJobs at hf
  have J49 : ∀ (s_49 : sx_M), sx_eq (xS_X6_readJobs) s s_49 → f_X6_readJobs_J49 s_49 = some p → sx_eq (xS_X6_readJobs) s p.2 := by
    intro s_49 hs_49 hf
    unfold f_X6_readJobs_J49 at hf
    obtain ⟨p1, hp1, hf⟩ := ax_bind hf
    obtain ⟨_, hf⟩ := ax_ite hf
    exact ax_ret (P := fun q : Int32 × sx_M => sx_eq (xS_X6_readJobs) s q.2) hf (sx_tr hs_49 (sx_mono (D1 := xS_X6_fail) (fr_f_X6_fail (p := p1) (2 : Int32) s_49 hp1) (fun o k h => Or.elim h (fun q => (fun q => Or.inr (Or.inr (Or.inr (Or.inr (Or.inr (Or.inl q)))))) q) (fun q0 => (fun q => Or.inr (Or.inr (Or.inr (Or.inr (Or.inr (Or.inr (q))))))) q0)) (fun o k h => h.elim) (fun o h => h.elim) (fun o h => h.elim)))
  rcases ax_or hf with ⟨hc5, hf⟩ | ⟨hc5, hf⟩
  · obtain ⟨p2, hp2, hf⟩ := ax_bind hf
    rcases ax_or hf with ⟨hc4, hf⟩ | ⟨hc4, hf⟩
    · rcases ax_or hf with ⟨hc3, hf⟩ | ⟨hc3, hf⟩
      · exact J49 p2 (sx_tr (sx_rf _ s) (sx_mono (D1 := xS_X6_step) (fr_f_X6_step (p := p2) s hp2) (fun o k h => Or.elim h (fun q => (fun q => Or.inr (Or.inl q)) q) (fun q0 => Or.elim q0 (fun q => (fun q => Or.inr (Or.inr (Or.inl q))) q) (fun q1 => Or.elim q1 (fun q => (fun q => Or.inr (Or.inr (Or.inr (Or.inl q)))) q) (fun q2 => (fun q => Or.inr (Or.inr (Or.inr (Or.inr (Or.inl q))))) q2)))) (fun o k h => h.elim) (fun o h => h.elim) (fun o h => h.elim))) hf
      · rcases ax_or hf with ⟨hc2, hf⟩ | ⟨hc2, hf⟩
        · obtain ⟨p3, hp3, hf⟩ := ax_bind hf
          rcases ax_or hf with ⟨hc1, hf⟩ | ⟨hc1, hf⟩
          · obtain ⟨p4, hp4, hf⟩ := ax_bind hf
            exact ax_ret (P := fun q : Int32 × sx_M => sx_eq (xS_X6_readJobs) s q.2) hf (sx_tr (sx_tr (sx_wI' (D := (xS_X6_readJobs)) (sx_tr (sx_rf _ s) (sx_mono (D1 := xS_X6_step) (fr_f_X6_step (p := p2) s hp2) (fun o k h => Or.elim h (fun q => (fun q => Or.inr (Or.inl q)) q) (fun q0 => Or.elim q0 (fun q => (fun q => Or.inr (Or.inr (Or.inl q))) q) (fun q1 => Or.elim q1 (fun q => (fun q => Or.inr (Or.inr (Or.inr (Or.inl q)))) q) (fun q2 => (fun q => Or.inr (Or.inr (Or.inr (Or.inr (Or.inl q))))) q2)))) (fun o k h => h.elim) (fun o h => h.elim) (fun o h => h.elim))) ((fun q => Or.inl q) ⟨rfl, rfl⟩)) (sx_mono (D1 := xS_X6_step) (fr_f_X6_step (p := p3) (wI p2 13 2 (rI p2 19 5)) hp3) (fun o k h => Or.elim h (fun q => (fun q => Or.inr (Or.inl q)) q) (fun q0 => Or.elim q0 (fun q => (fun q => Or.inr (Or.inr (Or.inl q))) q) (fun q1 => Or.elim q1 (fun q => (fun q => Or.inr (Or.inr (Or.inr (Or.inl q)))) q) (fun q2 => (fun q => Or.inr (Or.inr (Or.inr (Or.inr (Or.inl q))))) q2)))) (fun o k h => h.elim) (fun o h => h.elim) (fun o h => h.elim))) (sx_mono (D1 := xS_X6_step) (fr_f_X6_step (p := p4) p3 hp4) (fun o k h => Or.elim h (fun q => (fun q => Or.inr (Or.inl q)) q) (fun q0 => Or.elim q0 (fun q => (fun q => Or.inr (Or.inr (Or.inl q))) q) (fun q1 => Or.elim q1 (fun q => (fun q => Or.inr (Or.inr (Or.inr (Or.inl q)))) q) (fun q2 => (fun q => Or.inr (Or.inr (Or.inr (Or.inr (Or.inl q))))) q2)))) (fun o k h => h.elim) (fun o h => h.elim) (fun o h => h.elim)))
          · obtain ⟨p5, hp5, hf⟩ := ax_bind hf
            obtain ⟨_, hf⟩ := ax_ite hf
            exact ax_ret (P := fun q : Int32 × sx_M => sx_eq (xS_X6_readJobs) s q.2) hf (sx_tr (sx_tr (sx_wI' (D := (xS_X6_readJobs)) (sx_tr (sx_rf _ s) (sx_mono (D1 := xS_X6_step) (fr_f_X6_step (p := p2) s hp2) (fun o k h => Or.elim h (fun q => (fun q => Or.inr (Or.inl q)) q) (fun q0 => Or.elim q0 (fun q => (fun q => Or.inr (Or.inr (Or.inl q))) q) (fun q1 => Or.elim q1 (fun q => (fun q => Or.inr (Or.inr (Or.inr (Or.inl q)))) q) (fun q2 => (fun q => Or.inr (Or.inr (Or.inr (Or.inr (Or.inl q))))) q2)))) (fun o k h => h.elim) (fun o h => h.elim) (fun o h => h.elim))) ((fun q => Or.inl q) ⟨rfl, rfl⟩)) (sx_mono (D1 := xS_X6_step) (fr_f_X6_step (p := p3) (wI p2 13 2 (rI p2 19 5)) hp3) (fun o k h => Or.elim h (fun q => (fun q => Or.inr (Or.inl q)) q) (fun q0 => Or.elim q0 (fun q => (fun q => Or.inr (Or.inr (Or.inl q))) q) (fun q1 => Or.elim q1 (fun q => (fun q => Or.inr (Or.inr (Or.inr (Or.inl q)))) q) (fun q2 => (fun q => Or.inr (Or.inr (Or.inr (Or.inr (Or.inl q))))) q2)))) (fun o k h => h.elim) (fun o h => h.elim) (fun o h => h.elim))) (sx_mono (D1 := xS_X6_fail) (fr_f_X6_fail (p := p5) (1 : Int32) p3 hp5) (fun o k h => Or.elim h (fun q => (fun q => Or.inr (Or.inr (Or.inr (Or.inr (Or.inr (Or.inl q)))))) q) (fun q0 => (fun q => Or.inr (Or.inr (Or.inr (Or.inr (Or.inr (Or.inr (q))))))) q0)) (fun o k h => h.elim) (fun o h => h.elim) (fun o h => h.elim)))
        · exact J49 p2 (sx_tr (sx_rf _ s) (sx_mono (D1 := xS_X6_step) (fr_f_X6_step (p := p2) s hp2) (fun o k h => Or.elim h (fun q => (fun q => Or.inr (Or.inl q)) q) (fun q0 => Or.elim q0 (fun q => (fun q => Or.inr (Or.inr (Or.inl q))) q) (fun q1 => Or.elim q1 (fun q => (fun q => Or.inr (Or.inr (Or.inr (Or.inl q)))) q) (fun q2 => (fun q => Or.inr (Or.inr (Or.inr (Or.inr (Or.inl q))))) q2)))) (fun o k h => h.elim) (fun o h => h.elim) (fun o h => h.elim))) hf
    · obtain ⟨p6, hp6, hf⟩ := ax_bind hf
      obtain ⟨_, hf⟩ := ax_ite hf
      exact ax_ret (P := fun q : Int32 × sx_M => sx_eq (xS_X6_readJobs) s q.2) hf (sx_tr (sx_tr (sx_rf _ s) (sx_mono (D1 := xS_X6_step) (fr_f_X6_step (p := p2) s hp2) (fun o k h => Or.elim h (fun q => (fun q => Or.inr (Or.inl q)) q) (fun q0 => Or.elim q0 (fun q => (fun q => Or.inr (Or.inr (Or.inl q))) q) (fun q1 => Or.elim q1 (fun q => (fun q => Or.inr (Or.inr (Or.inr (Or.inl q)))) q) (fun q2 => (fun q => Or.inr (Or.inr (Or.inr (Or.inr (Or.inl q))))) q2)))) (fun o k h => h.elim) (fun o h => h.elim) (fun o h => h.elim))) (sx_mono (D1 := xS_X6_fail) (fr_f_X6_fail (p := p6) (1 : Int32) p2 hp6) (fun o k h => Or.elim h (fun q => (fun q => Or.inr (Or.inr (Or.inr (Or.inr (Or.inr (Or.inl q)))))) q) (fun q0 => (fun q => Or.inr (Or.inr (Or.inr (Or.inr (Or.inr (Or.inr (q))))))) q0)) (fun o k h => h.elim) (fun o h => h.elim) (fun o h => h.elim)))
  · obtain ⟨p7, hp7, hf⟩ := ax_bind hf
    obtain ⟨_, hf⟩ := ax_ite hf
    exact ax_ret (P := fun q : Int32 × sx_M => sx_eq (xS_X6_readJobs) s q.2) hf (sx_tr (sx_rf _ s) (sx_mono (D1 := xS_X6_fail) (fr_f_X6_fail (p := p7) (1 : Int32) s hp7) (fun o k h => Or.elim h (fun q => (fun q => Or.inr (Or.inr (Or.inr (Or.inr (Or.inr (Or.inl q)))))) q) (fun q0 => (fun q => Or.inr (Or.inr (Or.inr (Or.inr (Or.inr (Or.inr (q))))))) q0)) (fun o k h => h.elim) (fun o h => h.elim) (fun o h => h.elim)))
abbrev xI_X6_readCost : Nat → Nat → Prop := fun o k => (o = 19 ∧ k = 2) ∨ (o = 19 ∧ k = 3) ∨ (o = 19 ∧ k = 4) ∨ (o = 19 ∧ k = 5) ∨ (o = 19 ∧ k = 6) ∨ (o = 19 ∧ k = 7)
abbrev xJ_X6_readCost : Nat → Nat → Prop := fun o k => False
abbrev xA_X6_readCost : Nat → Prop := fun o => False
abbrev xB_X6_readCost : Nat → Prop := fun o => o = (13 + 1)
abbrev xS_X6_readCost : sx_D := (xI_X6_readCost, xJ_X6_readCost, xA_X6_readCost, xB_X6_readCost)
set_option maxRecDepth 100000 in
set_option maxHeartbeats 1000000 in
theorem fr_f_X6_readCost (x1 : Int32) (s : sx_M) {p : Int32 × sx_M} (hf : f_X6_readCost x1 s = some p) : sx_eq (xS_X6_readCost) s p.2 := by
  unfold f_X6_readCost at hf
  have J142 : ∀ (y1_142 : Int32) (y2_142 : Int64) (s_142 : sx_M), sx_eq (xS_X6_readCost) s s_142 → f_X6_readCost_J142 y1_142 y2_142 s_142 = some p → sx_eq (xS_X6_readCost) s p.2 := by
    intro y1_142 y2_142 s_142 hs_142 hf
    unfold f_X6_readCost_J142 at hf
    obtain ⟨p1, hp1, hf⟩ := ax_bind hf
    obtain ⟨p2, hp2, hf⟩ := ax_bind hf
    exact ax_ret (P := fun q : Int32 × sx_M => sx_eq (xS_X6_readCost) s q.2) hf (sx_tr (sx_tr hs_142 (sx_mono (D1 := xS_X1_put 13) (fr_f_X1_put (p := p1) 13 ((rI s_142 13 1) - (1 : Int32)) y1_142 y2_142 s_142 ax_G13 hp1) (fun o k h => h.elim) (fun o k h => h.elim) (fun o h => h.elim) (fun o h => (fun q => q) h))) (sx_mono (D1 := xS_X6_step) (fr_f_X6_step (p := p2) p1 hp2) (fun o k h => Or.elim h (fun q => (fun q => Or.inl q) q) (fun q0 => Or.elim q0 (fun q => (fun q => Or.inr (Or.inl q)) q) (fun q1 => Or.elim q1 (fun q => (fun q => Or.inr (Or.inr (Or.inl q))) q) (fun q2 => (fun q => Or.inr (Or.inr (Or.inr (Or.inl q)))) q2)))) (fun o k h => h.elim) (fun o h => h.elim) (fun o h => h.elim)))
  have J91 : ∀ (y1_91 : Int32) (t0_91 : Int64) (s_91 : sx_M), sx_eq (xS_X6_readCost) s s_91 → f_X6_readCost_J91 y1_91 t0_91 s_91 = some p → sx_eq (xS_X6_readCost) s p.2 := by
    intro y1_91 t0_91 s_91 hs_91 hf
    unfold f_X6_readCost_J91 at hf
    rcases ax_or hf with ⟨hc3, hf⟩ | ⟨hc3, hf⟩
    · obtain ⟨p3, hp3, hf⟩ := ax_bind hf
      rcases ax_or hf with ⟨hc2, hf⟩ | ⟨hc2, hf⟩
      · rcases ax_or hf with ⟨hc1, hf⟩ | ⟨hc1, hf⟩
        · exact J142 y1_91 (((-(rI p3 19 5))).toInt64) p3 (sx_tr hs_91 (sx_mono (D1 := xS_X6_step) (fr_f_X6_step (p := p3) s_91 hp3) (fun o k h => Or.elim h (fun q => (fun q => Or.inl q) q) (fun q0 => Or.elim q0 (fun q => (fun q => Or.inr (Or.inl q)) q) (fun q1 => Or.elim q1 (fun q => (fun q => Or.inr (Or.inr (Or.inl q))) q) (fun q2 => (fun q => Or.inr (Or.inr (Or.inr (Or.inl q)))) q2)))) (fun o k h => h.elim) (fun o h => h.elim) (fun o h => h.elim))) hf
        · obtain ⟨p4, hp4, hf⟩ := ax_bind hf
          obtain ⟨_, hf⟩ := ax_ite hf
          exact ax_ret (P := fun q : Int32 × sx_M => sx_eq (xS_X6_readCost) s q.2) hf (sx_tr (sx_tr hs_91 (sx_mono (D1 := xS_X6_step) (fr_f_X6_step (p := p3) s_91 hp3) (fun o k h => Or.elim h (fun q => (fun q => Or.inl q) q) (fun q0 => Or.elim q0 (fun q => (fun q => Or.inr (Or.inl q)) q) (fun q1 => Or.elim q1 (fun q => (fun q => Or.inr (Or.inr (Or.inl q))) q) (fun q2 => (fun q => Or.inr (Or.inr (Or.inr (Or.inl q)))) q2)))) (fun o k h => h.elim) (fun o h => h.elim) (fun o h => h.elim))) (sx_mono (D1 := xS_X6_fail) (fr_f_X6_fail (p := p4) (2 : Int32) p3 hp4) (fun o k h => Or.elim h (fun q => (fun q => Or.inr (Or.inr (Or.inr (Or.inr (Or.inl q))))) q) (fun q0 => (fun q => Or.inr (Or.inr (Or.inr (Or.inr (Or.inr (q)))))) q0)) (fun o k h => h.elim) (fun o h => h.elim) (fun o h => h.elim)))
      · obtain ⟨p5, hp5, hf⟩ := ax_bind hf
        obtain ⟨_, hf⟩ := ax_ite hf
        exact ax_ret (P := fun q : Int32 × sx_M => sx_eq (xS_X6_readCost) s q.2) hf (sx_tr (sx_tr hs_91 (sx_mono (D1 := xS_X6_step) (fr_f_X6_step (p := p3) s_91 hp3) (fun o k h => Or.elim h (fun q => (fun q => Or.inl q) q) (fun q0 => Or.elim q0 (fun q => (fun q => Or.inr (Or.inl q)) q) (fun q1 => Or.elim q1 (fun q => (fun q => Or.inr (Or.inr (Or.inl q))) q) (fun q2 => (fun q => Or.inr (Or.inr (Or.inr (Or.inl q)))) q2)))) (fun o k h => h.elim) (fun o h => h.elim) (fun o h => h.elim))) (sx_mono (D1 := xS_X6_fail) (fr_f_X6_fail (p := p5) (1 : Int32) p3 hp5) (fun o k h => Or.elim h (fun q => (fun q => Or.inr (Or.inr (Or.inr (Or.inr (Or.inl q))))) q) (fun q0 => (fun q => Or.inr (Or.inr (Or.inr (Or.inr (Or.inr (q)))))) q0)) (fun o k h => h.elim) (fun o h => h.elim) (fun o h => h.elim)))
    · exact J142 y1_91 t0_91 s_91 hs_91 hf
  have J55 : ∀ (y1_55 : Int32) (s_55 : sx_M), sx_eq (xS_X6_readCost) s s_55 → f_X6_readCost_J55 y1_55 s_55 = some p → sx_eq (xS_X6_readCost) s p.2 := by
    intro y1_55 s_55 hs_55 hf
    unfold f_X6_readCost_J55 at hf
    rcases ax_or hf with ⟨hc5, hf⟩ | ⟨hc5, hf⟩
    · rcases ax_or hf with ⟨hc4, hf⟩ | ⟨hc4, hf⟩
      · exact J91 y1_55 (((rI s_55 19 5)).toInt64) s_55 hs_55 hf
      · exact J91 y1_55 (9223372036854775807 : Int64) s_55 hs_55 hf
    · obtain ⟨p6, hp6, hf⟩ := ax_bind hf
      obtain ⟨_, hf⟩ := ax_ite hf
      exact ax_ret (P := fun q : Int32 × sx_M => sx_eq (xS_X6_readCost) s q.2) hf (sx_tr hs_55 (sx_mono (D1 := xS_X6_fail) (fr_f_X6_fail (p := p6) (3 : Int32) s_55 hp6) (fun o k h => Or.elim h (fun q => (fun q => Or.inr (Or.inr (Or.inr (Or.inr (Or.inl q))))) q) (fun q0 => (fun q => Or.inr (Or.inr (Or.inr (Or.inr (Or.inr (q)))))) q0)) (fun o k h => h.elim) (fun o h => h.elim) (fun o h => h.elim)))
  have J31 : ∀ (y1_31 : Int32) (s_31 : sx_M), sx_eq (xS_X6_readCost) s s_31 → f_X6_readCost_J31 y1_31 s_31 = some p → sx_eq (xS_X6_readCost) s p.2 := by
    intro y1_31 s_31 hs_31 hf
    unfold f_X6_readCost_J31 at hf
    rcases ax_or hf with ⟨hc7, hf⟩ | ⟨hc7, hf⟩
    · rcases ax_or hf with ⟨hc6, hf⟩ | ⟨hc6, hf⟩
      · exact J55 y1_31 s_31 hs_31 hf
      · obtain ⟨p7, hp7, hf⟩ := ax_bind hf
        obtain ⟨_, hf⟩ := ax_ite hf
        exact ax_ret (P := fun q : Int32 × sx_M => sx_eq (xS_X6_readCost) s q.2) hf (sx_tr hs_31 (sx_mono (D1 := xS_X6_fail) (fr_f_X6_fail (p := p7) (2 : Int32) s_31 hp7) (fun o k h => Or.elim h (fun q => (fun q => Or.inr (Or.inr (Or.inr (Or.inr (Or.inl q))))) q) (fun q0 => (fun q => Or.inr (Or.inr (Or.inr (Or.inr (Or.inr (q)))))) q0)) (fun o k h => h.elim) (fun o h => h.elim) (fun o h => h.elim)))
    · exact J55 y1_31 s_31 hs_31 hf
  rcases ax_or hf with ⟨hc10, hf⟩ | ⟨hc10, hf⟩
  · exact J31 x1 s (sx_rf _ s) hf
  · rcases ax_or hf with ⟨hc9, hf⟩ | ⟨hc9, hf⟩
    · exact J31 x1 s (sx_rf _ s) hf
    · rcases ax_or hf with ⟨hc8, hf⟩ | ⟨hc8, hf⟩
      · exact J31 x1 s (sx_rf _ s) hf
      · obtain ⟨p8, hp8, hf⟩ := ax_bind hf
        obtain ⟨_, hf⟩ := ax_ite hf
        exact ax_ret (P := fun q : Int32 × sx_M => sx_eq (xS_X6_readCost) s q.2) hf (sx_tr (sx_rf _ s) (sx_mono (D1 := xS_X6_fail) (fr_f_X6_fail (p := p8) (1 : Int32) s hp8) (fun o k h => Or.elim h (fun q => (fun q => Or.inr (Or.inr (Or.inr (Or.inr (Or.inl q))))) q) (fun q0 => (fun q => Or.inr (Or.inr (Or.inr (Or.inr (Or.inr (q)))))) q0)) (fun o k h => h.elim) (fun o h => h.elim) (fun o h => h.elim)))
abbrev xI_X6_readWorker : Nat → Nat → Prop := fun o k => (o = 13 ∧ k = 1) ∨ (o = 19 ∧ k = 2) ∨ (o = 19 ∧ k = 3) ∨ (o = 19 ∧ k = 4) ∨ (o = 19 ∧ k = 5) ∨ (o = 19 ∧ k = 6) ∨ (o = 19 ∧ k = 7)
abbrev xJ_X6_readWorker : Nat → Nat → Prop := fun o k => False
abbrev xA_X6_readWorker : Nat → Prop := fun o => False
abbrev xB_X6_readWorker : Nat → Prop := fun o => o = (13 + 1)
abbrev xS_X6_readWorker : sx_D := (xI_X6_readWorker, xJ_X6_readWorker, xA_X6_readWorker, xB_X6_readWorker)
set_option maxRecDepth 100000 in
set_option maxHeartbeats 1000000 in
theorem fr_f_X6_readWorker (s : sx_M) {p : Int32 × sx_M} (hf : f_X6_readWorker s = some p) : sx_eq (xS_X6_readWorker) s p.2 := by
  unfold f_X6_readWorker at hf
  rcases ax_or hf with ⟨hc7, hf⟩ | ⟨hc7, hf⟩
  · rcases ax_or hf with ⟨hc6, hf⟩ | ⟨hc6, hf⟩
    · obtain ⟨p1, hp1, hf⟩ := ax_bind hf
      obtain ⟨b4, hb4, hf⟩ := ax_bind hf
      have hvb4 := wh_inv ((0 : Int32), p1) (fun a44 : Int32 × sx_M => sx_eq (xS_X6_readWorker) s a44.2) (Sum.elim (fun e : Int32 × sx_M => sx_eq (xS_X6_readWorker) s e.2) (fun v : Int32 × sx_M => sx_eq (xS_X6_readWorker) s v.2)) hb4 ?_ (sx_tr (sx_rf _ s) (sx_mono (D1 := xS_X1_addWorker 13) (fr_f_X1_addWorker (p := p1) 13 (9223372036854775807 : Int64) s ax_G13 hp1) (fun o k h => (fun q => Or.inl q) h) (fun o k h => h.elim) (fun o h => h.elim) (fun o h => (fun q => q) h)))
      rotate_left
      · intro a44 r ha44 hf
        unfold f_X6_readWorker_L44 at hf
        obtain ⟨p2, hp2, hf⟩ := ax_bind hf
        obtain ⟨p3, hp3, hf⟩ := ax_bind hf
        rcases ax_or hf with ⟨hc3, hf⟩ | ⟨hc3, hf⟩
        · exact ax_ret (P := Sum.elim (fun a44 : Int32 × sx_M => sx_eq (xS_X6_readWorker) s a44.2) (Sum.elim (fun e : Int32 × sx_M => sx_eq (xS_X6_readWorker) s e.2) (fun v : Int32 × sx_M => sx_eq (xS_X6_readWorker) s v.2))) hf (sx_tr (sx_tr ha44 (sx_mono (D1 := xS_X6_step) (fr_f_X6_step (p := p2) a44.2 hp2) (fun o k h => Or.elim h (fun q => (fun q => Or.inr (Or.inl q)) q) (fun q0 => Or.elim q0 (fun q => (fun q => Or.inr (Or.inr (Or.inl q))) q) (fun q1 => Or.elim q1 (fun q => (fun q => Or.inr (Or.inr (Or.inr (Or.inl q)))) q) (fun q2 => (fun q => Or.inr (Or.inr (Or.inr (Or.inr (Or.inl q))))) q2)))) (fun o k h => h.elim) (fun o h => h.elim) (fun o h => h.elim))) (sx_mono (D1 := xS_X6_readCost) (fr_f_X6_readCost (p := p3) a44.1 p2 hp3) (fun o k h => Or.elim h (fun q => (fun q => Or.inr (Or.inl q)) q) (fun q0 => Or.elim q0 (fun q => (fun q => Or.inr (Or.inr (Or.inl q))) q) (fun q1 => Or.elim q1 (fun q => (fun q => Or.inr (Or.inr (Or.inr (Or.inl q)))) q) (fun q2 => Or.elim q2 (fun q => (fun q => Or.inr (Or.inr (Or.inr (Or.inr (Or.inl q))))) q) (fun q3 => Or.elim q3 (fun q => (fun q => Or.inr (Or.inr (Or.inr (Or.inr (Or.inr (Or.inl q)))))) q) (fun q4 => (fun q => Or.inr (Or.inr (Or.inr (Or.inr (Or.inr (Or.inr (q))))))) q4)))))) (fun o k h => h.elim) (fun o h => h.elim) (fun o h => (fun q => q) h)))
        · rcases ax_or hf with ⟨hc2, hf⟩ | ⟨hc2, hf⟩
          · rcases ax_or hf with ⟨hc1, hf⟩ | ⟨hc1, hf⟩
            · exact ax_ret (P := Sum.elim (fun a44 : Int32 × sx_M => sx_eq (xS_X6_readWorker) s a44.2) (Sum.elim (fun e : Int32 × sx_M => sx_eq (xS_X6_readWorker) s e.2) (fun v : Int32 × sx_M => sx_eq (xS_X6_readWorker) s v.2))) hf (sx_tr (sx_tr ha44 (sx_mono (D1 := xS_X6_step) (fr_f_X6_step (p := p2) a44.2 hp2) (fun o k h => Or.elim h (fun q => (fun q => Or.inr (Or.inl q)) q) (fun q0 => Or.elim q0 (fun q => (fun q => Or.inr (Or.inr (Or.inl q))) q) (fun q1 => Or.elim q1 (fun q => (fun q => Or.inr (Or.inr (Or.inr (Or.inl q)))) q) (fun q2 => (fun q => Or.inr (Or.inr (Or.inr (Or.inr (Or.inl q))))) q2)))) (fun o k h => h.elim) (fun o h => h.elim) (fun o h => h.elim))) (sx_mono (D1 := xS_X6_readCost) (fr_f_X6_readCost (p := p3) a44.1 p2 hp3) (fun o k h => Or.elim h (fun q => (fun q => Or.inr (Or.inl q)) q) (fun q0 => Or.elim q0 (fun q => (fun q => Or.inr (Or.inr (Or.inl q))) q) (fun q1 => Or.elim q1 (fun q => (fun q => Or.inr (Or.inr (Or.inr (Or.inl q)))) q) (fun q2 => Or.elim q2 (fun q => (fun q => Or.inr (Or.inr (Or.inr (Or.inr (Or.inl q))))) q) (fun q3 => Or.elim q3 (fun q => (fun q => Or.inr (Or.inr (Or.inr (Or.inr (Or.inr (Or.inl q)))))) q) (fun q4 => (fun q => Or.inr (Or.inr (Or.inr (Or.inr (Or.inr (Or.inr (q))))))) q4)))))) (fun o k h => h.elim) (fun o h => h.elim) (fun o h => (fun q => q) h)))
            · exact ax_ret (P := Sum.elim (fun a44 : Int32 × sx_M => sx_eq (xS_X6_readWorker) s a44.2) (Sum.elim (fun e : Int32 × sx_M => sx_eq (xS_X6_readWorker) s e.2) (fun v : Int32 × sx_M => sx_eq (xS_X6_readWorker) s v.2))) hf (sx_tr (sx_tr ha44 (sx_mono (D1 := xS_X6_step) (fr_f_X6_step (p := p2) a44.2 hp2) (fun o k h => Or.elim h (fun q => (fun q => Or.inr (Or.inl q)) q) (fun q0 => Or.elim q0 (fun q => (fun q => Or.inr (Or.inr (Or.inl q))) q) (fun q1 => Or.elim q1 (fun q => (fun q => Or.inr (Or.inr (Or.inr (Or.inl q)))) q) (fun q2 => (fun q => Or.inr (Or.inr (Or.inr (Or.inr (Or.inl q))))) q2)))) (fun o k h => h.elim) (fun o h => h.elim) (fun o h => h.elim))) (sx_mono (D1 := xS_X6_readCost) (fr_f_X6_readCost (p := p3) a44.1 p2 hp3) (fun o k h => Or.elim h (fun q => (fun q => Or.inr (Or.inl q)) q) (fun q0 => Or.elim q0 (fun q => (fun q => Or.inr (Or.inr (Or.inl q))) q) (fun q1 => Or.elim q1 (fun q => (fun q => Or.inr (Or.inr (Or.inr (Or.inl q)))) q) (fun q2 => Or.elim q2 (fun q => (fun q => Or.inr (Or.inr (Or.inr (Or.inr (Or.inl q))))) q) (fun q3 => Or.elim q3 (fun q => (fun q => Or.inr (Or.inr (Or.inr (Or.inr (Or.inr (Or.inl q)))))) q) (fun q4 => (fun q => Or.inr (Or.inr (Or.inr (Or.inr (Or.inr (Or.inr (q))))))) q4)))))) (fun o k h => h.elim) (fun o h => h.elim) (fun o h => (fun q => q) h)))
          · exact ax_ret (P := Sum.elim (fun a44 : Int32 × sx_M => sx_eq (xS_X6_readWorker) s a44.2) (Sum.elim (fun e : Int32 × sx_M => sx_eq (xS_X6_readWorker) s e.2) (fun v : Int32 × sx_M => sx_eq (xS_X6_readWorker) s v.2))) hf (sx_tr (sx_tr ha44 (sx_mono (D1 := xS_X6_step) (fr_f_X6_step (p := p2) a44.2 hp2) (fun o k h => Or.elim h (fun q => (fun q => Or.inr (Or.inl q)) q) (fun q0 => Or.elim q0 (fun q => (fun q => Or.inr (Or.inr (Or.inl q))) q) (fun q1 => Or.elim q1 (fun q => (fun q => Or.inr (Or.inr (Or.inr (Or.inl q)))) q) (fun q2 => (fun q => Or.inr (Or.inr (Or.inr (Or.inr (Or.inl q))))) q2)))) (fun o k h => h.elim) (fun o h => h.elim) (fun o h => h.elim))) (sx_mono (D1 := xS_X6_readCost) (fr_f_X6_readCost (p := p3) a44.1 p2 hp3) (fun o k h => Or.elim h (fun q => (fun q => Or.inr (Or.inl q)) q) (fun q0 => Or.elim q0 (fun q => (fun q => Or.inr (Or.inr (Or.inl q))) q) (fun q1 => Or.elim q1 (fun q => (fun q => Or.inr (Or.inr (Or.inr (Or.inl q)))) q) (fun q2 => Or.elim q2 (fun q => (fun q => Or.inr (Or.inr (Or.inr (Or.inr (Or.inl q))))) q) (fun q3 => Or.elim q3 (fun q => (fun q => Or.inr (Or.inr (Or.inr (Or.inr (Or.inr (Or.inl q)))))) q) (fun q4 => (fun q => Or.inr (Or.inr (Or.inr (Or.inr (Or.inr (Or.inr (q))))))) q4)))))) (fun o k h => h.elim) (fun o h => h.elim) (fun o h => (fun q => q) h)))
      rcases b4 with e5 | e9
      · rcases ax_or hf with ⟨hc5, hf⟩ | ⟨hc5, hf⟩
        · rcases ax_or hf with ⟨hc4, hf⟩ | ⟨hc4, hf⟩
          · obtain ⟨p6, hp6, hf⟩ := ax_bind hf
            exact ax_ret (P := fun q : Int32 × sx_M => sx_eq (xS_X6_readWorker) s q.2) hf (sx_tr hvb4 (sx_mono (D1 := xS_X6_step) (fr_f_X6_step (p := p6) e5.2 hp6) (fun o k h => Or.elim h (fun q => (fun q => Or.inr (Or.inl q)) q) (fun q0 => Or.elim q0 (fun q => (fun q => Or.inr (Or.inr (Or.inl q))) q) (fun q1 => Or.elim q1 (fun q => (fun q => Or.inr (Or.inr (Or.inr (Or.inl q)))) q) (fun q2 => (fun q => Or.inr (Or.inr (Or.inr (Or.inr (Or.inl q))))) q2)))) (fun o k h => h.elim) (fun o h => h.elim) (fun o h => h.elim)))
          · obtain ⟨p7, hp7, hf⟩ := ax_bind hf
            obtain ⟨_, hf⟩ := ax_ite hf
            exact ax_ret (P := fun q : Int32 × sx_M => sx_eq (xS_X6_readWorker) s q.2) hf (sx_tr hvb4 (sx_mono (D1 := xS_X6_fail) (fr_f_X6_fail (p := p7) (4 : Int32) e5.2 hp7) (fun o k h => Or.elim h (fun q => (fun q => Or.inr (Or.inr (Or.inr (Or.inr (Or.inr (Or.inl q)))))) q) (fun q0 => (fun q => Or.inr (Or.inr (Or.inr (Or.inr (Or.inr (Or.inr (q))))))) q0)) (fun o k h => h.elim) (fun o h => h.elim) (fun o h => h.elim)))
        · obtain ⟨p8, hp8, hf⟩ := ax_bind hf
          obtain ⟨_, hf⟩ := ax_ite hf
          exact ax_ret (P := fun q : Int32 × sx_M => sx_eq (xS_X6_readWorker) s q.2) hf (sx_tr hvb4 (sx_mono (D1 := xS_X6_fail) (fr_f_X6_fail (p := p8) (1 : Int32) e5.2 hp8) (fun o k h => Or.elim h (fun q => (fun q => Or.inr (Or.inr (Or.inr (Or.inr (Or.inr (Or.inl q)))))) q) (fun q0 => (fun q => Or.inr (Or.inr (Or.inr (Or.inr (Or.inr (Or.inr (q))))))) q0)) (fun o k h => h.elim) (fun o h => h.elim) (fun o h => h.elim)))
      · exact ax_ret (P := fun q : Int32 × sx_M => sx_eq (xS_X6_readWorker) s q.2) hf hvb4
    · obtain ⟨p10, hp10, hf⟩ := ax_bind hf
      obtain ⟨_, hf⟩ := ax_ite hf
      exact ax_ret (P := fun q : Int32 × sx_M => sx_eq (xS_X6_readWorker) s q.2) hf (sx_tr (sx_rf _ s) (sx_mono (D1 := xS_X6_fail) (fr_f_X6_fail (p := p10) (3 : Int32) s hp10) (fun o k h => Or.elim h (fun q => (fun q => Or.inr (Or.inr (Or.inr (Or.inr (Or.inr (Or.inl q)))))) q) (fun q0 => (fun q => Or.inr (Or.inr (Or.inr (Or.inr (Or.inr (Or.inr (q))))))) q0)) (fun o k h => h.elim) (fun o h => h.elim) (fun o h => h.elim)))
  · obtain ⟨p11, hp11, hf⟩ := ax_bind hf
    obtain ⟨_, hf⟩ := ax_ite hf
    exact ax_ret (P := fun q : Int32 × sx_M => sx_eq (xS_X6_readWorker) s q.2) hf (sx_tr (sx_rf _ s) (sx_mono (D1 := xS_X6_fail) (fr_f_X6_fail (p := p11) (1 : Int32) s hp11) (fun o k h => Or.elim h (fun q => (fun q => Or.inr (Or.inr (Or.inr (Or.inr (Or.inr (Or.inl q)))))) q) (fun q0 => (fun q => Or.inr (Or.inr (Or.inr (Or.inr (Or.inr (Or.inr (q))))))) q0)) (fun o k h => h.elim) (fun o h => h.elim) (fun o h => h.elim)))
abbrev xI_X6_read : Nat → Nat → Prop := fun o k => (o = 13 ∧ k = 1) ∨ (o = 13 ∧ k = 2) ∨ (o = 19 ∧ k = 2) ∨ (o = 19 ∧ k = 3) ∨ (o = 19 ∧ k = 4) ∨ (o = 19 ∧ k = 5) ∨ (o = 19 ∧ k = 6) ∨ (o = 19 ∧ k = 7)
abbrev xJ_X6_read : Nat → Nat → Prop := fun o k => False
abbrev xA_X6_read : Nat → Prop := fun o => False
abbrev xB_X6_read : Nat → Prop := fun o => o = (13 + 1)
abbrev xS_X6_read : sx_D := (xI_X6_read, xJ_X6_read, xA_X6_read, xB_X6_read)
set_option maxRecDepth 100000 in
set_option maxHeartbeats 1000000 in
theorem fr_f_X6_read (s : sx_M) {p : Int32 × sx_M} (hf : f_X6_read s = some p) : sx_eq (xS_X6_read) s p.2 := by
  unfold f_X6_read at hf
  obtain ⟨p1, hp1, hf⟩ := ax_bind hf
  obtain ⟨p2, hp2, hf⟩ := ax_bind hf
  rcases ax_or hf with ⟨hc4, hf⟩ | ⟨hc4, hf⟩
  · exact ax_ret (P := fun q : Int32 × sx_M => sx_eq (xS_X6_read) s q.2) hf (sx_tr (sx_wI' (D := (xS_X6_read)) (sx_wI' (D := (xS_X6_read)) (sx_wI' (D := (xS_X6_read)) (sx_tr (sx_rf _ s) (sx_mono (D1 := xS_X1_clear 13) (fr_f_X1_clear (p := p1) 13 s ax_G13 hp1) (fun o k h => Or.elim h (fun q => (fun q => Or.inl q) q) (fun q0 => (fun q => Or.inr (Or.inl q)) q0)) (fun o k h => h.elim) (fun o h => h.elim) (fun o h => h.elim))) ((fun q => Or.inr (Or.inr (Or.inr (Or.inr (Or.inr (Or.inr (Or.inl q))))))) ⟨rfl, rfl⟩)) ((fun q => Or.inr (Or.inr (Or.inr (Or.inr (Or.inr (Or.inr (Or.inr (q)))))))) ⟨rfl, rfl⟩)) ((fun q => Or.inr (Or.inr (Or.inr (Or.inr (Or.inl q))))) ⟨rfl, rfl⟩)) (sx_mono (D1 := xS_X6_step) (fr_f_X6_step (p := p2) (wI (wI (wI p1 19 6 (0 : Int32)) 19 7 (-1 : Int32)) 19 4 (0 : Int32)) hp2) (fun o k h => Or.elim h (fun q => (fun q => Or.inr (Or.inr (Or.inl q))) q) (fun q0 => Or.elim q0 (fun q => (fun q => Or.inr (Or.inr (Or.inr (Or.inl q)))) q) (fun q1 => Or.elim q1 (fun q => (fun q => Or.inr (Or.inr (Or.inr (Or.inr (Or.inl q))))) q) (fun q2 => (fun q => Or.inr (Or.inr (Or.inr (Or.inr (Or.inr (Or.inl q)))))) q2)))) (fun o k h => h.elim) (fun o h => h.elim) (fun o h => h.elim)))
  · obtain ⟨p3, hp3, hf⟩ := ax_bind hf
    obtain ⟨b5, hb5, hf⟩ := ax_bind hf
    have hvb5 := wh_inv (p3.1, (0 : Int32), p3.2) (fun a42 : Int32 × Int32 × sx_M => sx_eq (xS_X6_read) s a42.2.2) (fun e : Int32 × sx_M => sx_eq (xS_X6_read) s e.2) hb5 ?_ (sx_tr (sx_tr (sx_wI' (D := (xS_X6_read)) (sx_wI' (D := (xS_X6_read)) (sx_wI' (D := (xS_X6_read)) (sx_tr (sx_rf _ s) (sx_mono (D1 := xS_X1_clear 13) (fr_f_X1_clear (p := p1) 13 s ax_G13 hp1) (fun o k h => Or.elim h (fun q => (fun q => Or.inl q) q) (fun q0 => (fun q => Or.inr (Or.inl q)) q0)) (fun o k h => h.elim) (fun o h => h.elim) (fun o h => h.elim))) ((fun q => Or.inr (Or.inr (Or.inr (Or.inr (Or.inr (Or.inr (Or.inl q))))))) ⟨rfl, rfl⟩)) ((fun q => Or.inr (Or.inr (Or.inr (Or.inr (Or.inr (Or.inr (Or.inr (q)))))))) ⟨rfl, rfl⟩)) ((fun q => Or.inr (Or.inr (Or.inr (Or.inr (Or.inl q))))) ⟨rfl, rfl⟩)) (sx_mono (D1 := xS_X6_step) (fr_f_X6_step (p := p2) (wI (wI (wI p1 19 6 (0 : Int32)) 19 7 (-1 : Int32)) 19 4 (0 : Int32)) hp2) (fun o k h => Or.elim h (fun q => (fun q => Or.inr (Or.inr (Or.inl q))) q) (fun q0 => Or.elim q0 (fun q => (fun q => Or.inr (Or.inr (Or.inr (Or.inl q)))) q) (fun q1 => Or.elim q1 (fun q => (fun q => Or.inr (Or.inr (Or.inr (Or.inr (Or.inl q))))) q) (fun q2 => (fun q => Or.inr (Or.inr (Or.inr (Or.inr (Or.inr (Or.inl q)))))) q2)))) (fun o k h => h.elim) (fun o h => h.elim) (fun o h => h.elim))) (sx_mono (D1 := xS_X6_readJobs) (fr_f_X6_readJobs (p := p3) p2 hp3) (fun o k h => Or.elim h (fun q => (fun q => Or.inr (Or.inl q)) q) (fun q0 => Or.elim q0 (fun q => (fun q => Or.inr (Or.inr (Or.inl q))) q) (fun q1 => Or.elim q1 (fun q => (fun q => Or.inr (Or.inr (Or.inr (Or.inl q)))) q) (fun q2 => Or.elim q2 (fun q => (fun q => Or.inr (Or.inr (Or.inr (Or.inr (Or.inl q))))) q) (fun q3 => Or.elim q3 (fun q => (fun q => Or.inr (Or.inr (Or.inr (Or.inr (Or.inr (Or.inl q)))))) q) (fun q4 => Or.elim q4 (fun q => (fun q => Or.inr (Or.inr (Or.inr (Or.inr (Or.inr (Or.inr (Or.inl q))))))) q) (fun q5 => (fun q => Or.inr (Or.inr (Or.inr (Or.inr (Or.inr (Or.inr (Or.inr (q)))))))) q5))))))) (fun o k h => h.elim) (fun o h => h.elim) (fun o h => h.elim)))
    rotate_left
    · intro a42 r ha42 hf
      unfold f_X6_read_L42 at hf
      rcases ax_or hf with ⟨hc3, hf⟩ | ⟨hc3, hf⟩
      · exact ax_ret (P := Sum.elim (fun a42 : Int32 × Int32 × sx_M => sx_eq (xS_X6_read) s a42.2.2) (fun e : Int32 × sx_M => sx_eq (xS_X6_read) s e.2)) hf ha42
      · rcases ax_or hf with ⟨hc2, hf⟩ | ⟨hc2, hf⟩
        · exact ax_ret (P := Sum.elim (fun a42 : Int32 × Int32 × sx_M => sx_eq (xS_X6_read) s a42.2.2) (fun e : Int32 × sx_M => sx_eq (xS_X6_read) s e.2)) hf ha42
        · rcases ax_or hf with ⟨hc1, hf⟩ | ⟨hc1, hf⟩
          · exact ax_ret (P := Sum.elim (fun a42 : Int32 × Int32 × sx_M => sx_eq (xS_X6_read) s a42.2.2) (fun e : Int32 × sx_M => sx_eq (xS_X6_read) s e.2)) hf ha42
          · obtain ⟨p4, hp4, hf⟩ := ax_bind hf
            exact ax_ret (P := Sum.elim (fun a42 : Int32 × Int32 × sx_M => sx_eq (xS_X6_read) s a42.2.2) (fun e : Int32 × sx_M => sx_eq (xS_X6_read) s e.2)) hf (sx_tr ha42 (sx_mono (D1 := xS_X6_readWorker) (fr_f_X6_readWorker (p := p4) a42.2.2 hp4) (fun o k h => Or.elim h (fun q => (fun q => Or.inl q) q) (fun q0 => Or.elim q0 (fun q => (fun q => Or.inr (Or.inr (Or.inl q))) q) (fun q1 => Or.elim q1 (fun q => (fun q => Or.inr (Or.inr (Or.inr (Or.inl q)))) q) (fun q2 => Or.elim q2 (fun q => (fun q => Or.inr (Or.inr (Or.inr (Or.inr (Or.inl q))))) q) (fun q3 => Or.elim q3 (fun q => (fun q => Or.inr (Or.inr (Or.inr (Or.inr (Or.inr (Or.inl q)))))) q) (fun q4 => Or.elim q4 (fun q => (fun q => Or.inr (Or.inr (Or.inr (Or.inr (Or.inr (Or.inr (Or.inl q))))))) q) (fun q5 => (fun q => Or.inr (Or.inr (Or.inr (Or.inr (Or.inr (Or.inr (Or.inr (q)))))))) q5))))))) (fun o k h => h.elim) (fun o h => h.elim) (fun o h => (fun q => q) h)))
    obtain ⟨_, hf⟩ := ax_ite hf
    exact ax_ret (P := fun q : Int32 × sx_M => sx_eq (xS_X6_read) s q.2) hf hvb5
abbrev xI_X10_holder (ra : Nat) : Nat → Nat → Prop := fun o k => False
abbrev xJ_X10_holder (ra : Nat) : Nat → Nat → Prop := fun o k => False
abbrev xA_X10_holder (ra : Nat) : Nat → Prop := fun o => False
abbrev xB_X10_holder (ra : Nat) : Nat → Prop := fun o => False
abbrev xS_X10_holder (ra : Nat) : sx_D := (xI_X10_holder ra, xJ_X10_holder ra, xA_X10_holder ra, xB_X10_holder ra)
set_option maxRecDepth 100000 in
set_option maxHeartbeats 1000000 in
theorem fr_f_X10_holder (ra : Nat) (x1 : Int32) (x2 : Int32) (s : sx_M) (hra : sx_sh[ra]? = some (.inl (.int, 7))) {p : Int32 × sx_M} (hf : f_X10_holder ra x1 x2 s = some p) : sx_eq (xS_X10_holder ra) s p.2 := by
  unfold f_X10_holder at hf
  obtain ⟨b1, hb1, hf⟩ := ax_bind hf
  have hvb1 := wh_inv ((0 : Int32), s) (fun a2 : Int32 × sx_M => sx_eq (xS_X10_holder ra) s a2.2) (Sum.elim (fun e : sx_M => sx_eq (xS_X10_holder ra) s e) (fun v : Int32 × sx_M => sx_eq (xS_X10_holder ra) s v.2)) hb1 ?_ (sx_rf _ s)
  rotate_left
  · intro a2 r ha2 hf
    unfold f_X10_holder_L2 at hf
    rcases ax_or hf with ⟨hc4, hf⟩ | ⟨hc4, hf⟩
    · exact ax_ret (P := Sum.elim (fun a2 : Int32 × sx_M => sx_eq (xS_X10_holder ra) s a2.2) (Sum.elim (fun e : sx_M => sx_eq (xS_X10_holder ra) s e) (fun v : Int32 × sx_M => sx_eq (xS_X10_holder ra) s v.2))) hf ha2
    · rcases ax_or hf with ⟨hc3, hf⟩ | ⟨hc3, hf⟩
      · exact ax_ret (P := Sum.elim (fun a2 : Int32 × sx_M => sx_eq (xS_X10_holder ra) s a2.2) (Sum.elim (fun e : sx_M => sx_eq (xS_X10_holder ra) s e) (fun v : Int32 × sx_M => sx_eq (xS_X10_holder ra) s v.2))) hf ha2
      · obtain ⟨_, hf⟩ := ax_ite hf
        rcases ax_or hf with ⟨hc2, hf⟩ | ⟨hc2, hf⟩
        · exact ax_ret (P := Sum.elim (fun a2 : Int32 × sx_M => sx_eq (xS_X10_holder ra) s a2.2) (Sum.elim (fun e : sx_M => sx_eq (xS_X10_holder ra) s e) (fun v : Int32 × sx_M => sx_eq (xS_X10_holder ra) s v.2))) hf ha2
        · exact ax_ret (P := Sum.elim (fun a2 : Int32 × sx_M => sx_eq (xS_X10_holder ra) s a2.2) (Sum.elim (fun e : sx_M => sx_eq (xS_X10_holder ra) s e) (fun v : Int32 × sx_M => sx_eq (xS_X10_holder ra) s v.2))) hf ha2
  rcases b1 with e2 | e3
  · exact ax_ret (P := fun q : Int32 × sx_M => sx_eq (xS_X10_holder ra) s q.2) hf hvb1
  · exact ax_ret (P := fun q : Int32 × sx_M => sx_eq (xS_X10_holder ra) s q.2) hf hvb1
abbrev xI_X10_follow (ra : Nat) (rb : Nat) : Nat → Nat → Prop := fun o k => (o = 55 ∧ k = 2) ∨ (o = 55 ∧ k = 4)
abbrev xJ_X10_follow (ra : Nat) (rb : Nat) : Nat → Nat → Prop := fun o k => False
abbrev xA_X10_follow (ra : Nat) (rb : Nat) : Nat → Prop := fun o => False
abbrev xB_X10_follow (ra : Nat) (rb : Nat) : Nat → Prop := fun o => False
abbrev xS_X10_follow (ra : Nat) (rb : Nat) : sx_D := (xI_X10_follow ra rb, xJ_X10_follow ra rb, xA_X10_follow ra rb, xB_X10_follow ra rb)
set_option maxRecDepth 100000 in
set_option maxHeartbeats 1000000 in
theorem fr_f_X10_follow (ra : Nat) (rb : Nat) (x1 : Int32) (x4 : Int32) (s : sx_M) (hra : sx_sh[ra]? = some (.inl (.int, 7))) (hrb : sx_sh[rb]? = some (.inl (.int, 7))) {p : Int32 × sx_M} (hf : f_X10_follow ra rb x1 x4 s = some p) : sx_eq (xS_X10_follow ra rb) s p.2 := by
  unfold f_X10_follow at hf
  obtain ⟨b2, hb2, hf⟩ := ax_bind hf
  have hvb2 := wh_inv ((0 : Int32), x1, s) (fun a6 : Int32 × Int32 × sx_M => sx_eq (xS_X10_follow ra rb) s a6.2.2) (fun e : Int32 × sx_M => sx_eq (xS_X10_follow ra rb) s e.2) hb2 ?_ (sx_rf _ s)
  rotate_left
  · intro a6 r ha6 hf
    unfold f_X10_follow_L6 at hf
    rcases ax_or hf with ⟨hc4, hf⟩ | ⟨hc4, hf⟩
    · exact ax_ret (P := Sum.elim (fun a6 : Int32 × Int32 × sx_M => sx_eq (xS_X10_follow ra rb) s a6.2.2) (fun e : Int32 × sx_M => sx_eq (xS_X10_follow ra rb) s e.2)) hf ha6
    · rcases ax_or hf with ⟨hc3, hf⟩ | ⟨hc3, hf⟩
      · rcases ax_or hf with ⟨hc2, hf⟩ | ⟨hc2, hf⟩
        · exact ax_ret (P := Sum.elim (fun a6 : Int32 × Int32 × sx_M => sx_eq (xS_X10_follow ra rb) s a6.2.2) (fun e : Int32 × sx_M => sx_eq (xS_X10_follow ra rb) s e.2)) hf ha6
        · obtain ⟨_, hf⟩ := ax_ite hf
          obtain ⟨p1, hp1, hf⟩ := ax_bind hf
          exact ax_ret (P := Sum.elim (fun a6 : Int32 × Int32 × sx_M => sx_eq (xS_X10_follow ra rb) s a6.2.2) (fun e : Int32 × sx_M => sx_eq (xS_X10_follow ra rb) s e.2)) hf (sx_tr (sx_wI' (D := (xS_X10_follow ra rb)) ha6 ((fun q => Or.inr (q)) ⟨rfl, rfl⟩)) (sx_mono (D1 := xS_X10_holder ra) (fr_f_X10_holder (p := p1) ra (rA (wI a6.2.2 55 4 ((rI a6.2.2 55 4) ||| ((1 : Int32) <<< (a6.2.1 &&& 31)))) rb (a6.2.1).toNatClampNeg) x4 (wI a6.2.2 55 4 ((rI a6.2.2 55 4) ||| ((1 : Int32) <<< (a6.2.1 &&& 31)))) hra hp1) (fun o k h => h.elim) (fun o k h => h.elim) (fun o h => h.elim) (fun o h => h.elim)))
      · exact ax_ret (P := Sum.elim (fun a6 : Int32 × Int32 × sx_M => sx_eq (xS_X10_follow ra rb) s a6.2.2) (fun e : Int32 × sx_M => sx_eq (xS_X10_follow ra rb) s e.2)) hf ha6
  obtain ⟨p3, hp3, hf⟩ := ax_bind hf
  exact ax_ret (P := fun q : Int32 × sx_M => sx_eq (xS_X10_follow ra rb) s q.2) hf (sx_wI' (D := (xS_X10_follow ra rb)) (sx_tr hvb2 (sx_mono (D1 := xS_J9_max_7cf53) (fr_f_J9_max_7cf53 (p := p3) (rI b2.2 55 2) b2.1 b2.2 hp3) (fun o k h => h.elim) (fun o k h => h.elim) (fun o h => h.elim) (fun o h => h.elim))) ((fun q => Or.inl q) ⟨rfl, rfl⟩))
abbrev xI_X10_trace (ra : Nat) (rb : Nat) : Nat → Nat → Prop := fun o k => (o = 55 ∧ k = 0) ∨ (o = 55 ∧ k = 1) ∨ (o = 55 ∧ k = 2) ∨ (o = 55 ∧ k = 3) ∨ (o = 55 ∧ k = 4)
abbrev xJ_X10_trace (ra : Nat) (rb : Nat) : Nat → Nat → Prop := fun o k => False
abbrev xA_X10_trace (ra : Nat) (rb : Nat) : Nat → Prop := fun o => False
abbrev xB_X10_trace (ra : Nat) (rb : Nat) : Nat → Prop := fun o => False
abbrev xS_X10_trace (ra : Nat) (rb : Nat) : sx_D := (xI_X10_trace ra rb, xJ_X10_trace ra rb, xA_X10_trace ra rb, xB_X10_trace ra rb)
set_option maxRecDepth 100000 in
set_option maxHeartbeats 1000000 in
theorem fr_f_X10_trace (ra : Nat) (rb : Nat) (x3 : Int32) (s : sx_M) (hra : sx_sh[ra]? = some (.inl (.int, 7))) (hrb : sx_sh[rb]? = some (.inl (.int, 7))) {p : sx_M} (hf : f_X10_trace ra rb x3 s = some p) : sx_eq (xS_X10_trace ra rb) s p := by
  unfold f_X10_trace at hf
  obtain ⟨p1, hp1, hf⟩ := ax_bind hf
  obtain ⟨p2, hp2, hf⟩ := ax_bind hf
  obtain ⟨b5, hb5, hf⟩ := ax_bind hf
  have hvb5 := wh_inv ((0 : Int32), p2.2) (fun a41 : Int32 × sx_M => sx_eq (xS_X10_trace ra rb) s a41.2) (fun e : sx_M => sx_eq (xS_X10_trace ra rb) s e) hb5 ?_ (sx_tr (sx_tr (sx_wI' (D := (xS_X10_trace ra rb)) (sx_wI' (D := (xS_X10_trace ra rb)) (sx_wI' (D := (xS_X10_trace ra rb)) (sx_wI' (D := (xS_X10_trace ra rb)) (sx_wI' (D := (xS_X10_trace ra rb)) (sx_rf _ s) ((fun q => Or.inl q) ⟨rfl, rfl⟩)) ((fun q => Or.inr (Or.inl q)) ⟨rfl, rfl⟩)) ((fun q => Or.inr (Or.inr (Or.inl q))) ⟨rfl, rfl⟩)) ((fun q => Or.inr (Or.inr (Or.inr (Or.inl q)))) ⟨rfl, rfl⟩)) ((fun q => Or.inr (Or.inr (Or.inr (Or.inr (q))))) ⟨rfl, rfl⟩)) (sx_mono (D1 := xS_J9_min_7cf53) (fr_f_J9_min_7cf53 (p := p1) (7 : Int32) (7 : Int32) (wI (wI (wI (wI (wI s 55 0 (0 : Int32)) 55 1 (0 : Int32)) 55 2 (0 : Int32)) 55 3 (0 : Int32)) 55 4 (0 : Int32)) hp1) (fun o k h => h.elim) (fun o k h => h.elim) (fun o h => h.elim) (fun o h => h.elim))) (sx_mono (D1 := xS_J9_min_7cf53) (fr_f_J9_min_7cf53 (p := p2) x3 p1.1 p1.2 hp2) (fun o k h => h.elim) (fun o k h => h.elim) (fun o h => h.elim) (fun o h => h.elim)))
  rotate_left
  · intro a41 r ha41 hf
    unfold f_X10_trace_L41 at hf
    rcases ax_or hf with ⟨hc6, hf⟩ | ⟨hc6, hf⟩
    · exact ax_ret (P := Sum.elim (fun a41 : Int32 × sx_M => sx_eq (xS_X10_trace ra rb) s a41.2) (fun e : sx_M => sx_eq (xS_X10_trace ra rb) s e)) hf ha41
    · obtain ⟨_, hf⟩ := ax_ite hf
      obtain ⟨_, hf⟩ := ax_ite hf
      rcases ax_or hf with ⟨hc5, hf⟩ | ⟨hc5, hf⟩
      · exact ax_ret (P := Sum.elim (fun a41 : Int32 × sx_M => sx_eq (xS_X10_trace ra rb) s a41.2) (fun e : sx_M => sx_eq (xS_X10_trace ra rb) s e)) hf ha41
      · obtain ⟨_, hf⟩ := ax_ite hf
        obtain ⟨p3, hp3, hf⟩ := ax_bind hf
        rcases ax_or hf with ⟨hc4, hf⟩ | ⟨hc4, hf⟩
        · obtain ⟨p4, hp4, hf⟩ := ax_bind hf
          exact ax_ret (P := Sum.elim (fun a41 : Int32 × sx_M => sx_eq (xS_X10_trace ra rb) s a41.2) (fun e : sx_M => sx_eq (xS_X10_trace ra rb) s e)) hf (sx_wI' (D := (xS_X10_trace ra rb)) (sx_wI' (D := (xS_X10_trace ra rb)) (sx_tr (sx_tr ha41 (sx_mono (D1 := xS_X10_holder rb) (fr_f_X10_holder (p := p3) rb (rA a41.2 ra (a41.1).toNatClampNeg) p2.1 a41.2 hrb hp3) (fun o k h => h.elim) (fun o k h => h.elim) (fun o h => h.elim) (fun o h => h.elim))) (sx_mono (D1 := xS_X10_follow ra rb) (fr_f_X10_follow (p := p4) ra rb a41.1 p2.1 p3.2 hra hrb hp4) (fun o k h => Or.elim h (fun q => (fun q => Or.inr (Or.inr (Or.inl q))) q) (fun q0 => (fun q => Or.inr (Or.inr (Or.inr (Or.inr (q))))) q0)) (fun o k h => h.elim) (fun o h => h.elim) (fun o h => h.elim))) ((fun q => Or.inr (Or.inl q)) ⟨rfl, rfl⟩)) ((fun q => Or.inr (Or.inr (Or.inr (Or.inl q)))) ⟨rfl, rfl⟩))
        · exact ax_ret (P := Sum.elim (fun a41 : Int32 × sx_M => sx_eq (xS_X10_trace ra rb) s a41.2) (fun e : sx_M => sx_eq (xS_X10_trace ra rb) s e)) hf (sx_tr ha41 (sx_mono (D1 := xS_X10_holder rb) (fr_f_X10_holder (p := p3) rb (rA a41.2 ra (a41.1).toNatClampNeg) p2.1 a41.2 hrb hp3) (fun o k h => h.elim) (fun o k h => h.elim) (fun o h => h.elim) (fun o h => h.elim)))
  obtain ⟨b7, hb7, hf⟩ := ax_bind hf
  have hvb7 := wh_inv ((0 : Int32), b5) (fun a115 : Int32 × sx_M => sx_eq (xS_X10_trace ra rb) s a115.2) (fun e : sx_M => sx_eq (xS_X10_trace ra rb) s e) hb7 ?_ hvb5
  rotate_left
  · intro a115 r ha115 hf
    unfold f_X10_trace_L115 at hf
    rcases ax_or hf with ⟨hc11, hf⟩ | ⟨hc11, hf⟩
    · exact ax_ret (P := Sum.elim (fun a115 : Int32 × sx_M => sx_eq (xS_X10_trace ra rb) s a115.2) (fun e : sx_M => sx_eq (xS_X10_trace ra rb) s e)) hf ha115
    · obtain ⟨_, hf⟩ := ax_ite hf
      obtain ⟨_, hf⟩ := ax_ite hf
      rcases ax_or hf with ⟨hc10, hf⟩ | ⟨hc10, hf⟩
      · exact ax_ret (P := Sum.elim (fun a115 : Int32 × sx_M => sx_eq (xS_X10_trace ra rb) s a115.2) (fun e : sx_M => sx_eq (xS_X10_trace ra rb) s e)) hf ha115
      · rcases ax_or hf with ⟨hc9, hf⟩ | ⟨hc9, hf⟩
        · obtain ⟨p6, hp6, hf⟩ := ax_bind hf
          exact ax_ret (P := Sum.elim (fun a115 : Int32 × sx_M => sx_eq (xS_X10_trace ra rb) s a115.2) (fun e : sx_M => sx_eq (xS_X10_trace ra rb) s e)) hf (sx_wI' (D := (xS_X10_trace ra rb)) (sx_wI' (D := (xS_X10_trace ra rb)) (sx_tr ha115 (sx_mono (D1 := xS_X10_follow ra rb) (fr_f_X10_follow (p := p6) ra rb a115.1 p2.1 a115.2 hra hrb hp6) (fun o k h => Or.elim h (fun q => (fun q => Or.inr (Or.inr (Or.inl q))) q) (fun q0 => (fun q => Or.inr (Or.inr (Or.inr (Or.inr (q))))) q0)) (fun o k h => h.elim) (fun o h => h.elim) (fun o h => h.elim))) ((fun q => Or.inl q) ⟨rfl, rfl⟩)) ((fun q => Or.inr (Or.inr (Or.inr (Or.inl q)))) ⟨rfl, rfl⟩))
        · exact ax_ret (P := Sum.elim (fun a115 : Int32 × sx_M => sx_eq (xS_X10_trace ra rb) s a115.2) (fun e : sx_M => sx_eq (xS_X10_trace ra rb) s e)) hf ha115
  exact ax_ret (P := fun q : sx_M => sx_eq (xS_X10_trace ra rb) s q) hf hvb7
