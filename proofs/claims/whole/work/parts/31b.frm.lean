abbrev xI_X12_in : Nat → Nat → Prop := fun o k => False
abbrev xJ_X12_in : Nat → Nat → Prop := fun o k => False
abbrev xA_X12_in : Nat → Prop := fun o => False
abbrev xB_X12_in : Nat → Prop := fun o => False
abbrev xS_X12_in : sx_D := (xI_X12_in, xJ_X12_in, xA_X12_in, xB_X12_in)
set_option maxRecDepth 100000 in
set_option maxHeartbeats 1000000 in
theorem fr_f_X12_in (x0 : Int64) (x2 : Int64) (x4 : Int64) (s : sx_M) {p : Int32 × sx_M} (hf : f_X12_in x0 x2 x4 s = some p) : sx_eq (xS_X12_in) s p.2 := by
  unfold f_X12_in at hf
  rcases ax_or hf with ⟨hc2, hf⟩ | ⟨hc2, hf⟩
  · exact ax_ret (P := fun q : Int32 × sx_M => sx_eq (xS_X12_in) s q.2) hf (sx_rf _ s)
  · rcases ax_or hf with ⟨hc1, hf⟩ | ⟨hc1, hf⟩
    · exact ax_ret (P := fun q : Int32 × sx_M => sx_eq (xS_X12_in) s q.2) hf (sx_rf _ s)
    · exact ax_ret (P := fun q : Int32 × sx_M => sx_eq (xS_X12_in) s q.2) hf (sx_rf _ s)
abbrev xI_X12_has : Nat → Nat → Prop := fun o k => False
abbrev xJ_X12_has : Nat → Nat → Prop := fun o k => False
abbrev xA_X12_has : Nat → Prop := fun o => False
abbrev xB_X12_has : Nat → Prop := fun o => False
abbrev xS_X12_has : sx_D := (xI_X12_has, xJ_X12_has, xA_X12_has, xB_X12_has)
set_option maxRecDepth 100000 in
set_option maxHeartbeats 1000000 in
theorem fr_f_X12_has (x0 : Int32) (x1 : Int32) (s : sx_M) {p : Int32 × sx_M} (hf : f_X12_has x0 x1 s = some p) : sx_eq (xS_X12_has) s p.2 := by
  unfold f_X12_has at hf
  rcases ax_or hf with ⟨hc1, hf⟩ | ⟨hc1, hf⟩
  · exact ax_ret (P := fun q : Int32 × sx_M => sx_eq (xS_X12_has) s q.2) hf (sx_rf _ s)
  · exact ax_ret (P := fun q : Int32 × sx_M => sx_eq (xS_X12_has) s q.2) hf (sx_rf _ s)
abbrev xI_X12_workers : Nat → Nat → Prop := fun o k => False
abbrev xJ_X12_workers : Nat → Nat → Prop := fun o k => False
abbrev xA_X12_workers : Nat → Prop := fun o => False
abbrev xB_X12_workers : Nat → Prop := fun o => False
abbrev xS_X12_workers : sx_D := (xI_X12_workers, xJ_X12_workers, xA_X12_workers, xB_X12_workers)
set_option maxRecDepth 100000 in
set_option maxHeartbeats 1000000 in
theorem fr_f_X12_workers (s : sx_M) {p : Int32 × sx_M} (hf : f_X12_workers s = some p) : sx_eq (xS_X12_workers) s p.2 := by
  unfold f_X12_workers at hf
  exact ax_ret (P := fun q : Int32 × sx_M => sx_eq (xS_X12_workers) s q.2) hf (sx_rf _ s)
abbrev xI_X12_jobs : Nat → Nat → Prop := fun o k => False
abbrev xJ_X12_jobs : Nat → Nat → Prop := fun o k => False
abbrev xA_X12_jobs : Nat → Prop := fun o => False
abbrev xB_X12_jobs : Nat → Prop := fun o => False
abbrev xS_X12_jobs : sx_D := (xI_X12_jobs, xJ_X12_jobs, xA_X12_jobs, xB_X12_jobs)
set_option maxRecDepth 100000 in
set_option maxHeartbeats 1000000 in
theorem fr_f_X12_jobs (s : sx_M) {p : Int32 × sx_M} (hf : f_X12_jobs s = some p) : sx_eq (xS_X12_jobs) s p.2 := by
  unfold f_X12_jobs at hf
  exact ax_ret (P := fun q : Int32 × sx_M => sx_eq (xS_X12_jobs) s q.2) hf (sx_rf _ s)
abbrev xI_X12_placeOf : Nat → Nat → Prop := fun o k => False
abbrev xJ_X12_placeOf : Nat → Nat → Prop := fun o k => False
abbrev xA_X12_placeOf : Nat → Prop := fun o => False
abbrev xB_X12_placeOf : Nat → Prop := fun o => False
abbrev xS_X12_placeOf : sx_D := (xI_X12_placeOf, xJ_X12_placeOf, xA_X12_placeOf, xB_X12_placeOf)
set_option maxRecDepth 100000 in
set_option maxHeartbeats 1000000 in
theorem fr_f_X12_placeOf (x0 : Int32) (x1 : Int32) (s : sx_M) {p : Int32 × sx_M} (hf : f_X12_placeOf x0 x1 s = some p) : sx_eq (xS_X12_placeOf) s p.2 := by
  unfold f_X12_placeOf at hf
  exact ax_ret (P := fun q : Int32 × sx_M => sx_eq (xS_X12_placeOf) s q.2) hf (sx_rf _ s)
abbrev xI_X12_costOf : Nat → Nat → Prop := fun o k => False
abbrev xJ_X12_costOf : Nat → Nat → Prop := fun o k => False
abbrev xA_X12_costOf : Nat → Prop := fun o => False
abbrev xB_X12_costOf : Nat → Prop := fun o => False
abbrev xS_X12_costOf : sx_D := (xI_X12_costOf, xJ_X12_costOf, xA_X12_costOf, xB_X12_costOf)
set_option maxRecDepth 100000 in
set_option maxHeartbeats 1000000 in
theorem fr_f_X12_costOf (x1 : Int32) (x2 : Int32) (s : sx_M) {p : Int32 × sx_M} (hf : f_X12_costOf x1 x2 s = some p) : sx_eq (xS_X12_costOf) s p.2 := by
  unfold f_X12_costOf at hf
  obtain ⟨p1, hp1, hf⟩ := ax_bind hf
  obtain ⟨_, hf⟩ := ax_ite hf
  exact ax_ret (P := fun q : Int32 × sx_M => sx_eq (xS_X12_costOf) s q.2) hf (sx_tr (sx_rf _ s) (sx_mono (D1 := xS_X12_placeOf) (fr_f_X12_placeOf (p := p1) x1 x2 s hp1) (fun o k h => h.elim) (fun o k h => h.elim) (fun o h => h.elim) (fun o h => h.elim)))
abbrev xI_X12_isWorker : Nat → Nat → Prop := fun o k => False
abbrev xJ_X12_isWorker : Nat → Nat → Prop := fun o k => False
abbrev xA_X12_isWorker : Nat → Prop := fun o => False
abbrev xB_X12_isWorker : Nat → Prop := fun o => False
abbrev xS_X12_isWorker : sx_D := (xI_X12_isWorker, xJ_X12_isWorker, xA_X12_isWorker, xB_X12_isWorker)
set_option maxRecDepth 100000 in
set_option maxHeartbeats 1000000 in
theorem fr_f_X12_isWorker (x1 : Int32) (s : sx_M) {p : Int32 × sx_M} (hf : f_X12_isWorker x1 s = some p) : sx_eq (xS_X12_isWorker) s p.2 := by
  unfold f_X12_isWorker at hf
  obtain ⟨p1, hp1, hf⟩ := ax_bind hf
  obtain ⟨p2, hp2, hf⟩ := ax_bind hf
  obtain ⟨_, hf⟩ := ax_ite hf
  exact ax_ret (P := fun q : Int32 × sx_M => sx_eq (xS_X12_isWorker) s q.2) hf (sx_tr (sx_tr (sx_rf _ s) (sx_mono (D1 := xS_X12_workers) (fr_f_X12_workers (p := p1) s hp1) (fun o k h => h.elim) (fun o k h => h.elim) (fun o h => h.elim) (fun o h => h.elim))) (sx_mono (D1 := xS_X12_in) (fr_f_X12_in (p := p2) ((x1).toInt64) (0 : Int64) (((p1.1 - (1 : Int32))).toInt64) p1.2 hp2) (fun o k h => h.elim) (fun o k h => h.elim) (fun o h => h.elim) (fun o h => h.elim)))
abbrev xI_X12_isJob : Nat → Nat → Prop := fun o k => False
abbrev xJ_X12_isJob : Nat → Nat → Prop := fun o k => False
abbrev xA_X12_isJob : Nat → Prop := fun o => False
abbrev xB_X12_isJob : Nat → Prop := fun o => False
abbrev xS_X12_isJob : sx_D := (xI_X12_isJob, xJ_X12_isJob, xA_X12_isJob, xB_X12_isJob)
set_option maxRecDepth 100000 in
set_option maxHeartbeats 1000000 in
theorem fr_f_X12_isJob (x1 : Int32) (s : sx_M) {p : Int32 × sx_M} (hf : f_X12_isJob x1 s = some p) : sx_eq (xS_X12_isJob) s p.2 := by
  unfold f_X12_isJob at hf
  obtain ⟨p1, hp1, hf⟩ := ax_bind hf
  obtain ⟨p2, hp2, hf⟩ := ax_bind hf
  obtain ⟨_, hf⟩ := ax_ite hf
  exact ax_ret (P := fun q : Int32 × sx_M => sx_eq (xS_X12_isJob) s q.2) hf (sx_tr (sx_tr (sx_rf _ s) (sx_mono (D1 := xS_X12_jobs) (fr_f_X12_jobs (p := p1) s hp1) (fun o k h => h.elim) (fun o k h => h.elim) (fun o h => h.elim) (fun o h => h.elim))) (sx_mono (D1 := xS_X12_in) (fr_f_X12_in (p := p2) ((x1).toInt64) (0 : Int64) (((p1.1 - (1 : Int32))).toInt64) p1.2 hp2) (fun o k h => h.elim) (fun o k h => h.elim) (fun o h => h.elim) (fun o h => h.elim)))
abbrev xI_X12_isCost : Nat → Nat → Prop := fun o k => False
abbrev xJ_X12_isCost : Nat → Nat → Prop := fun o k => False
abbrev xA_X12_isCost : Nat → Prop := fun o => False
abbrev xB_X12_isCost : Nat → Prop := fun o => False
abbrev xS_X12_isCost : sx_D := (xI_X12_isCost, xJ_X12_isCost, xA_X12_isCost, xB_X12_isCost)
set_option maxRecDepth 100000 in
set_option maxHeartbeats 1000000 in
theorem fr_f_X12_isCost (x0 : Int64) (s : sx_M) {p : Int32 × sx_M} (hf : f_X12_isCost x0 s = some p) : sx_eq (xS_X12_isCost) s p.2 := by
  unfold f_X12_isCost at hf
  obtain ⟨p1, hp1, hf⟩ := ax_bind hf
  obtain ⟨_, hf⟩ := ax_ite hf
  exact ax_ret (P := fun q : Int32 × sx_M => sx_eq (xS_X12_isCost) s q.2) hf (sx_tr (sx_rf _ s) (sx_mono (D1 := xS_X12_in) (fr_f_X12_in (p := p1) x0 (-9999 : Int64) (9999 : Int64) s hp1) (fun o k h => h.elim) (fun o k h => h.elim) (fun o h => h.elim) (fun o h => h.elim)))
abbrev xI_X12_end : Nat → Nat → Prop := fun o k => (o = 58 ∧ k = 4)
abbrev xJ_X12_end : Nat → Nat → Prop := fun o k => False
abbrev xA_X12_end : Nat → Prop := fun o => False
abbrev xB_X12_end : Nat → Prop := fun o => False
abbrev xS_X12_end : sx_D := (xI_X12_end, xJ_X12_end, xA_X12_end, xB_X12_end)
set_option maxRecDepth 100000 in
set_option maxHeartbeats 1000000 in
theorem fr_f_X12_end (x1 : Int32) (s : sx_M) {p : Int32 × sx_M} (hf : f_X12_end x1 s = some p) : sx_eq (xS_X12_end) s p.2 := by
  unfold f_X12_end at hf
  obtain ⟨p1, hp1, hf⟩ := ax_bind hf
  rcases ax_or hf with ⟨hc1, hf⟩ | ⟨hc1, hf⟩
  · exact ax_ret (P := fun q : Int32 × sx_M => sx_eq (xS_X12_end) s q.2) hf (sx_tr (sx_rf _ s) (sx_mono (D1 := xS_X12_in) (fr_f_X12_in (p := p1) ((x1).toInt64) (0 : Int64) (((rI s 58 4)).toInt64) s hp1) (fun o k h => h.elim) (fun o k h => h.elim) (fun o h => h.elim) (fun o h => h.elim)))
  · exact ax_ret (P := fun q : Int32 × sx_M => sx_eq (xS_X12_end) s q.2) hf (sx_wI' (D := (xS_X12_end)) (sx_tr (sx_rf _ s) (sx_mono (D1 := xS_X12_in) (fr_f_X12_in (p := p1) ((x1).toInt64) (0 : Int64) (((rI s 58 4)).toInt64) s hp1) (fun o k h => h.elim) (fun o k h => h.elim) (fun o h => h.elim) (fun o h => h.elim))) ((fun q => q) ⟨rfl, rfl⟩))
abbrev xI_X12_isAt : Nat → Nat → Prop := fun o k => False
abbrev xJ_X12_isAt : Nat → Nat → Prop := fun o k => False
abbrev xA_X12_isAt : Nat → Prop := fun o => False
abbrev xB_X12_isAt : Nat → Prop := fun o => False
abbrev xS_X12_isAt : sx_D := (xI_X12_isAt, xJ_X12_isAt, xA_X12_isAt, xB_X12_isAt)
set_option maxRecDepth 100000 in
set_option maxHeartbeats 1000000 in
theorem fr_f_X12_isAt (x1 : Int32) (x2 : Int32) (s : sx_M) {p : Int32 × sx_M} (hf : f_X12_isAt x1 x2 s = some p) : sx_eq (xS_X12_isAt) s p.2 := by
  unfold f_X12_isAt at hf
  rcases ax_or hf with ⟨hc3, hf⟩ | ⟨hc3, hf⟩
  · exact ax_ret (P := fun q : Int32 × sx_M => sx_eq (xS_X12_isAt) s q.2) hf (sx_rf _ s)
  · obtain ⟨_, hf⟩ := ax_ite hf
    obtain ⟨p1, hp1, hf⟩ := ax_bind hf
    rcases ax_or hf with ⟨hc2, hf⟩ | ⟨hc2, hf⟩
    · exact ax_ret (P := fun q : Int32 × sx_M => sx_eq (xS_X12_isAt) s q.2) hf (sx_tr (sx_rf _ s) (sx_mono (D1 := xS_X12_in) (fr_f_X12_in (p := p1) (((rA s 61 ((rI s 58 8)).toNatClampNeg)).toInt64) ((x1).toInt64) ((x2).toInt64) s hp1) (fun o k h => h.elim) (fun o k h => h.elim) (fun o h => h.elim) (fun o h => h.elim)))
    · exact ax_ret (P := fun q : Int32 × sx_M => sx_eq (xS_X12_isAt) s q.2) hf (sx_tr (sx_rf _ s) (sx_mono (D1 := xS_X12_in) (fr_f_X12_in (p := p1) (((rA s 61 ((rI s 58 8)).toNatClampNeg)).toInt64) ((x1).toInt64) ((x2).toInt64) s hp1) (fun o k h => h.elim) (fun o k h => h.elim) (fun o h => h.elim) (fun o h => h.elim)))
abbrev xI_X12_next : Nat → Nat → Prop := fun o k => (o = 58 ∧ k = 10) ∨ (o = 58 ∧ k = 11) ∨ (o = 58 ∧ k = 8) ∨ (o = 58 ∧ k = 9)
abbrev xJ_X12_next : Nat → Nat → Prop := fun o k => False
abbrev xA_X12_next : Nat → Prop := fun o => False
abbrev xB_X12_next : Nat → Prop := fun o => False
abbrev xS_X12_next : sx_D := (xI_X12_next, xJ_X12_next, xA_X12_next, xB_X12_next)
set_option maxRecDepth 100000 in
set_option maxHeartbeats 1000000 in
theorem fr_f_X12_next (s : sx_M) {p : sx_M} (hf : f_X12_next s = some p) : sx_eq (xS_X12_next) s p := by
  unfold f_X12_next at hf
  have J225 : ∀ (t1_225 : Int32) (s_225 : sx_M), sx_eq (xS_X12_next) s s_225 → f_X12_next_J225 t1_225 s_225 = some p → sx_eq (xS_X12_next) s p := by
    intro t1_225 s_225 hs_225 hf
    unfold f_X12_next_J225 at hf
    exact ax_ret (P := fun q : sx_M => sx_eq (xS_X12_next) s q) hf (sx_wI' (D := (xS_X12_next)) (sx_wI' (D := (xS_X12_next)) hs_225 ((fun q => Or.inl q) ⟨rfl, rfl⟩)) ((fun q => Or.inr (Or.inr (Or.inl q))) ⟨rfl, rfl⟩))
  obtain ⟨b3, hb3, hf⟩ := ax_bind hf
  have hvb3 := wh_inv s (fun a0 : sx_M => sx_eq (xS_X12_next) s a0) (fun e : sx_M => sx_eq (xS_X12_next) s e) hb3 ?_ (sx_rf _ s)
  rotate_left
  · intro a0 r ha0 hf
    unfold f_X12_next_L0 at hf
    have J22 : ∀ (s_22 : sx_M), sx_eq (xS_X12_next) s s_22 → f_X12_next_L0_J22 s_22 = some r → Sum.elim (fun a0 : sx_M => sx_eq (xS_X12_next) s a0) (fun e : sx_M => sx_eq (xS_X12_next) s e) r := by
      intro s_22 hs_22 hf
      unfold f_X12_next_L0_J22 at hf
      exact ax_ret (P := Sum.elim (fun a0 : sx_M => sx_eq (xS_X12_next) s a0) (fun e : sx_M => sx_eq (xS_X12_next) s e)) hf (sx_wI' (D := (xS_X12_next)) hs_22 ((fun q => Or.inr (Or.inr (Or.inl q))) ⟨rfl, rfl⟩))
    obtain ⟨p1, hp1, hf⟩ := ax_bind hf
    rcases ax_or hf with ⟨hc2, hf⟩ | ⟨hc2, hf⟩
    · obtain ⟨p2, hp2, hf⟩ := ax_bind hf
      rcases ax_or hf with ⟨hc1, hf⟩ | ⟨hc1, hf⟩
      · exact ax_ret (P := Sum.elim (fun a0 : sx_M => sx_eq (xS_X12_next) s a0) (fun e : sx_M => sx_eq (xS_X12_next) s e)) hf (sx_tr (sx_tr ha0 (sx_mono (D1 := xS_X12_isAt) (fr_f_X12_isAt (p := p1) (32 : Int32) (32 : Int32) a0 hp1) (fun o k h => h.elim) (fun o k h => h.elim) (fun o h => h.elim) (fun o h => h.elim))) (sx_mono (D1 := xS_X12_isAt) (fr_f_X12_isAt (p := p2) (10 : Int32) (10 : Int32) p1.2 hp2) (fun o k h => h.elim) (fun o k h => h.elim) (fun o h => h.elim) (fun o h => h.elim)))
      · exact J22 p2.2 (sx_tr (sx_tr ha0 (sx_mono (D1 := xS_X12_isAt) (fr_f_X12_isAt (p := p1) (32 : Int32) (32 : Int32) a0 hp1) (fun o k h => h.elim) (fun o k h => h.elim) (fun o h => h.elim) (fun o h => h.elim))) (sx_mono (D1 := xS_X12_isAt) (fr_f_X12_isAt (p := p2) (10 : Int32) (10 : Int32) p1.2 hp2) (fun o k h => h.elim) (fun o k h => h.elim) (fun o h => h.elim) (fun o h => h.elim))) hf
    · exact J22 p1.2 (sx_tr ha0 (sx_mono (D1 := xS_X12_isAt) (fr_f_X12_isAt (p := p1) (32 : Int32) (32 : Int32) a0 hp1) (fun o k h => h.elim) (fun o k h => h.elim) (fun o h => h.elim) (fun o h => h.elim))) hf
  rcases ax_or hf with ⟨hc11, hf⟩ | ⟨hc11, hf⟩
  · exact ax_ret (P := fun q : sx_M => sx_eq (xS_X12_next) s q) hf (sx_wI' (D := (xS_X12_next)) (sx_wI' (D := (xS_X12_next)) (sx_wI' (D := (xS_X12_next)) hvb3 ((fun q => Or.inr (Or.inr (Or.inr (q)))) ⟨rfl, rfl⟩)) ((fun q => Or.inr (Or.inl q)) ⟨rfl, rfl⟩)) ((fun q => Or.inl q) ⟨rfl, rfl⟩))
  · obtain ⟨p4, hp4, hf⟩ := ax_bind hf
    rcases ax_or hf with ⟨hc10, hf⟩ | ⟨hc10, hf⟩
    · obtain ⟨p5, hp5, hf⟩ := ax_bind hf
      rcases ax_or hf with ⟨hc8, hf⟩ | ⟨hc8, hf⟩
      · obtain ⟨p6, hp6, hf⟩ := ax_bind hf
        rcases ax_or hf with ⟨hc5, hf⟩ | ⟨hc5, hf⟩
        · obtain ⟨p7, hp7, hf⟩ := ax_bind hf
          rcases ax_or hf with ⟨hc4, hf⟩ | ⟨hc4, hf⟩
          · obtain ⟨p8, hp8, hf⟩ := ax_bind hf
            rcases ax_or hf with ⟨hc3, hf⟩ | ⟨hc3, hf⟩
            · exact J225 (6 : Int32) p8.2 (sx_tr (sx_tr (sx_tr (sx_tr (sx_tr (sx_wI' (D := (xS_X12_next)) (sx_wI' (D := (xS_X12_next)) hvb3 ((fun q => Or.inr (Or.inr (Or.inr (q)))) ⟨rfl, rfl⟩)) ((fun q => Or.inr (Or.inl q)) ⟨rfl, rfl⟩)) (sx_mono (D1 := xS_X12_isAt) (fr_f_X12_isAt (p := p4) (97 : Int32) (122 : Int32) (wI (wI b3 58 9 (rI b3 58 8)) 58 11 (0 : Int32)) hp4) (fun o k h => h.elim) (fun o k h => h.elim) (fun o h => h.elim) (fun o h => h.elim))) (sx_mono (D1 := xS_X12_isAt) (fr_f_X12_isAt (p := p5) (48 : Int32) (57 : Int32) p4.2 hp5) (fun o k h => h.elim) (fun o k h => h.elim) (fun o h => h.elim) (fun o h => h.elim))) (sx_mono (D1 := xS_X12_isAt) (fr_f_X12_isAt (p := p6) (59 : Int32) (59 : Int32) p5.2 hp6) (fun o k h => h.elim) (fun o k h => h.elim) (fun o h => h.elim) (fun o h => h.elim))) (sx_mono (D1 := xS_X12_isAt) (fr_f_X12_isAt (p := p7) (44 : Int32) (44 : Int32) p6.2 hp7) (fun o k h => h.elim) (fun o k h => h.elim) (fun o h => h.elim) (fun o h => h.elim))) (sx_mono (D1 := xS_X12_isAt) (fr_f_X12_isAt (p := p8) (45 : Int32) (45 : Int32) p7.2 hp8) (fun o k h => h.elim) (fun o k h => h.elim) (fun o h => h.elim) (fun o h => h.elim))) hf
            · exact J225 (5 : Int32) p8.2 (sx_tr (sx_tr (sx_tr (sx_tr (sx_tr (sx_wI' (D := (xS_X12_next)) (sx_wI' (D := (xS_X12_next)) hvb3 ((fun q => Or.inr (Or.inr (Or.inr (q)))) ⟨rfl, rfl⟩)) ((fun q => Or.inr (Or.inl q)) ⟨rfl, rfl⟩)) (sx_mono (D1 := xS_X12_isAt) (fr_f_X12_isAt (p := p4) (97 : Int32) (122 : Int32) (wI (wI b3 58 9 (rI b3 58 8)) 58 11 (0 : Int32)) hp4) (fun o k h => h.elim) (fun o k h => h.elim) (fun o h => h.elim) (fun o h => h.elim))) (sx_mono (D1 := xS_X12_isAt) (fr_f_X12_isAt (p := p5) (48 : Int32) (57 : Int32) p4.2 hp5) (fun o k h => h.elim) (fun o k h => h.elim) (fun o h => h.elim) (fun o h => h.elim))) (sx_mono (D1 := xS_X12_isAt) (fr_f_X12_isAt (p := p6) (59 : Int32) (59 : Int32) p5.2 hp6) (fun o k h => h.elim) (fun o k h => h.elim) (fun o h => h.elim) (fun o h => h.elim))) (sx_mono (D1 := xS_X12_isAt) (fr_f_X12_isAt (p := p7) (44 : Int32) (44 : Int32) p6.2 hp7) (fun o k h => h.elim) (fun o k h => h.elim) (fun o h => h.elim) (fun o h => h.elim))) (sx_mono (D1 := xS_X12_isAt) (fr_f_X12_isAt (p := p8) (45 : Int32) (45 : Int32) p7.2 hp8) (fun o k h => h.elim) (fun o k h => h.elim) (fun o h => h.elim) (fun o h => h.elim))) hf
          · exact J225 (4 : Int32) p7.2 (sx_tr (sx_tr (sx_tr (sx_tr (sx_wI' (D := (xS_X12_next)) (sx_wI' (D := (xS_X12_next)) hvb3 ((fun q => Or.inr (Or.inr (Or.inr (q)))) ⟨rfl, rfl⟩)) ((fun q => Or.inr (Or.inl q)) ⟨rfl, rfl⟩)) (sx_mono (D1 := xS_X12_isAt) (fr_f_X12_isAt (p := p4) (97 : Int32) (122 : Int32) (wI (wI b3 58 9 (rI b3 58 8)) 58 11 (0 : Int32)) hp4) (fun o k h => h.elim) (fun o k h => h.elim) (fun o h => h.elim) (fun o h => h.elim))) (sx_mono (D1 := xS_X12_isAt) (fr_f_X12_isAt (p := p5) (48 : Int32) (57 : Int32) p4.2 hp5) (fun o k h => h.elim) (fun o k h => h.elim) (fun o h => h.elim) (fun o h => h.elim))) (sx_mono (D1 := xS_X12_isAt) (fr_f_X12_isAt (p := p6) (59 : Int32) (59 : Int32) p5.2 hp6) (fun o k h => h.elim) (fun o k h => h.elim) (fun o h => h.elim) (fun o h => h.elim))) (sx_mono (D1 := xS_X12_isAt) (fr_f_X12_isAt (p := p7) (44 : Int32) (44 : Int32) p6.2 hp7) (fun o k h => h.elim) (fun o k h => h.elim) (fun o h => h.elim) (fun o h => h.elim))) hf
        · exact J225 (3 : Int32) p6.2 (sx_tr (sx_tr (sx_tr (sx_wI' (D := (xS_X12_next)) (sx_wI' (D := (xS_X12_next)) hvb3 ((fun q => Or.inr (Or.inr (Or.inr (q)))) ⟨rfl, rfl⟩)) ((fun q => Or.inr (Or.inl q)) ⟨rfl, rfl⟩)) (sx_mono (D1 := xS_X12_isAt) (fr_f_X12_isAt (p := p4) (97 : Int32) (122 : Int32) (wI (wI b3 58 9 (rI b3 58 8)) 58 11 (0 : Int32)) hp4) (fun o k h => h.elim) (fun o k h => h.elim) (fun o h => h.elim) (fun o h => h.elim))) (sx_mono (D1 := xS_X12_isAt) (fr_f_X12_isAt (p := p5) (48 : Int32) (57 : Int32) p4.2 hp5) (fun o k h => h.elim) (fun o k h => h.elim) (fun o h => h.elim) (fun o h => h.elim))) (sx_mono (D1 := xS_X12_isAt) (fr_f_X12_isAt (p := p6) (59 : Int32) (59 : Int32) p5.2 hp6) (fun o k h => h.elim) (fun o k h => h.elim) (fun o h => h.elim) (fun o h => h.elim))) hf
      · obtain ⟨b11, hb11, hf⟩ := ax_bind hf
        have hvb11 := wh_inv (wI p5.2 58 10 (2 : Int32)) (fun a123 : sx_M => sx_eq (xS_X12_next) s a123) (fun e : sx_M => sx_eq (xS_X12_next) s e) hb11 ?_ (sx_wI' (D := (xS_X12_next)) (sx_tr (sx_tr (sx_wI' (D := (xS_X12_next)) (sx_wI' (D := (xS_X12_next)) hvb3 ((fun q => Or.inr (Or.inr (Or.inr (q)))) ⟨rfl, rfl⟩)) ((fun q => Or.inr (Or.inl q)) ⟨rfl, rfl⟩)) (sx_mono (D1 := xS_X12_isAt) (fr_f_X12_isAt (p := p4) (97 : Int32) (122 : Int32) (wI (wI b3 58 9 (rI b3 58 8)) 58 11 (0 : Int32)) hp4) (fun o k h => h.elim) (fun o k h => h.elim) (fun o h => h.elim) (fun o h => h.elim))) (sx_mono (D1 := xS_X12_isAt) (fr_f_X12_isAt (p := p5) (48 : Int32) (57 : Int32) p4.2 hp5) (fun o k h => h.elim) (fun o k h => h.elim) (fun o h => h.elim) (fun o h => h.elim))) ((fun q => Or.inl q) ⟨rfl, rfl⟩))
        rotate_left
        · intro a123 r ha123 hf
          unfold f_X12_next_L123 at hf
          obtain ⟨p9, hp9, hf⟩ := ax_bind hf
          rcases ax_or hf with ⟨hc7, hf⟩ | ⟨hc7, hf⟩
          · exact ax_ret (P := Sum.elim (fun a123 : sx_M => sx_eq (xS_X12_next) s a123) (fun e : sx_M => sx_eq (xS_X12_next) s e)) hf (sx_tr ha123 (sx_mono (D1 := xS_X12_isAt) (fr_f_X12_isAt (p := p9) (48 : Int32) (57 : Int32) a123 hp9) (fun o k h => h.elim) (fun o k h => h.elim) (fun o h => h.elim) (fun o h => h.elim)))
          · obtain ⟨_, hf⟩ := ax_ite hf
            obtain ⟨p10, hp10, hf⟩ := ax_bind hf
            exact ax_ret (P := Sum.elim (fun a123 : sx_M => sx_eq (xS_X12_next) s a123) (fun e : sx_M => sx_eq (xS_X12_next) s e)) hf (sx_wI' (D := (xS_X12_next)) (sx_wI' (D := (xS_X12_next)) (sx_tr (sx_tr ha123 (sx_mono (D1 := xS_X12_isAt) (fr_f_X12_isAt (p := p9) (48 : Int32) (57 : Int32) a123 hp9) (fun o k h => h.elim) (fun o k h => h.elim) (fun o h => h.elim) (fun o h => h.elim))) (sx_mono (D1 := xS_J9_min_7cf53) (fr_f_J9_min_7cf53 (p := p10) (10000 : Int32) ((((10 : Int32) * (rI p9.2 58 11)) + (rA p9.2 61 ((rI p9.2 58 8)).toNatClampNeg)) - (48 : Int32)) p9.2 hp10) (fun o k h => h.elim) (fun o k h => h.elim) (fun o h => h.elim) (fun o h => h.elim))) ((fun q => Or.inr (Or.inl q)) ⟨rfl, rfl⟩)) ((fun q => Or.inr (Or.inr (Or.inl q))) ⟨rfl, rfl⟩))
        exact ax_ret (P := fun q : sx_M => sx_eq (xS_X12_next) s q) hf hvb11
    · obtain ⟨b13, hb13, hf⟩ := ax_bind hf
      have hvb13 := wh_inv (wI p4.2 58 10 (1 : Int32)) (fun a83 : sx_M => sx_eq (xS_X12_next) s a83) (fun e : sx_M => sx_eq (xS_X12_next) s e) hb13 ?_ (sx_wI' (D := (xS_X12_next)) (sx_tr (sx_wI' (D := (xS_X12_next)) (sx_wI' (D := (xS_X12_next)) hvb3 ((fun q => Or.inr (Or.inr (Or.inr (q)))) ⟨rfl, rfl⟩)) ((fun q => Or.inr (Or.inl q)) ⟨rfl, rfl⟩)) (sx_mono (D1 := xS_X12_isAt) (fr_f_X12_isAt (p := p4) (97 : Int32) (122 : Int32) (wI (wI b3 58 9 (rI b3 58 8)) 58 11 (0 : Int32)) hp4) (fun o k h => h.elim) (fun o k h => h.elim) (fun o h => h.elim) (fun o h => h.elim))) ((fun q => Or.inl q) ⟨rfl, rfl⟩))
      rotate_left
      · intro a83 r ha83 hf
        unfold f_X12_next_L83 at hf
        obtain ⟨p12, hp12, hf⟩ := ax_bind hf
        rcases ax_or hf with ⟨hc9, hf⟩ | ⟨hc9, hf⟩
        · exact ax_ret (P := Sum.elim (fun a83 : sx_M => sx_eq (xS_X12_next) s a83) (fun e : sx_M => sx_eq (xS_X12_next) s e)) hf (sx_tr ha83 (sx_mono (D1 := xS_X12_isAt) (fr_f_X12_isAt (p := p12) (97 : Int32) (122 : Int32) a83 hp12) (fun o k h => h.elim) (fun o k h => h.elim) (fun o h => h.elim) (fun o h => h.elim)))
        · exact ax_ret (P := Sum.elim (fun a83 : sx_M => sx_eq (xS_X12_next) s a83) (fun e : sx_M => sx_eq (xS_X12_next) s e)) hf (sx_wI' (D := (xS_X12_next)) (sx_tr ha83 (sx_mono (D1 := xS_X12_isAt) (fr_f_X12_isAt (p := p12) (97 : Int32) (122 : Int32) a83 hp12) (fun o k h => h.elim) (fun o k h => h.elim) (fun o h => h.elim) (fun o h => h.elim))) ((fun q => Or.inr (Or.inr (Or.inl q))) ⟨rfl, rfl⟩))
      exact ax_ret (P := fun q : sx_M => sx_eq (xS_X12_next) s q) hf hvb13
abbrev xI_X12_faults : Nat → Nat → Prop := fun o k => (o = 58 ∧ k = 12) ∨ (o = 58 ∧ k = 5) ∨ (o = 58 ∧ k = 6)
abbrev xJ_X12_faults : Nat → Nat → Prop := fun o k => False
abbrev xA_X12_faults : Nat → Prop := fun o => False
abbrev xB_X12_faults : Nat → Prop := fun o => False
abbrev xS_X12_faults : sx_D := (xI_X12_faults, xJ_X12_faults, xA_X12_faults, xB_X12_faults)
set_option maxRecDepth 100000 in
set_option maxHeartbeats 1000000 in
theorem fr_f_X12_faults (x1 : Int32) (s : sx_M) {p : sx_M} (hf : f_X12_faults x1 s = some p) : sx_eq (xS_X12_faults) s p := by
  unfold f_X12_faults at hf
  rcases ax_or hf with ⟨hc1, hf⟩ | ⟨hc1, hf⟩
  · exact ax_ret (P := fun q : sx_M => sx_eq (xS_X12_faults) s q) hf (sx_wI' (D := (xS_X12_faults)) (sx_wI' (D := (xS_X12_faults)) (sx_wI' (D := (xS_X12_faults)) (sx_rf _ s) ((fun q => Or.inl q) ⟨rfl, rfl⟩)) ((fun q => Or.inr (Or.inl q)) ⟨rfl, rfl⟩)) ((fun q => Or.inr (Or.inr (q))) ⟨rfl, rfl⟩))
  · exact ax_ret (P := fun q : sx_M => sx_eq (xS_X12_faults) s q) hf (sx_rf _ s)
abbrev xI_X12_passes : Nat → Nat → Prop := fun o k => (o = 58 ∧ k = 10) ∨ (o = 58 ∧ k = 11) ∨ (o = 58 ∧ k = 8) ∨ (o = 58 ∧ k = 9)
abbrev xJ_X12_passes : Nat → Nat → Prop := fun o k => False
abbrev xA_X12_passes : Nat → Prop := fun o => False
abbrev xB_X12_passes : Nat → Prop := fun o => False
abbrev xS_X12_passes : sx_D := (xI_X12_passes, xJ_X12_passes, xA_X12_passes, xB_X12_passes)
set_option maxRecDepth 100000 in
set_option maxHeartbeats 1000000 in
theorem fr_f_X12_passes (s : sx_M) {p : sx_M} (hf : f_X12_passes s = some p) : sx_eq (xS_X12_passes) s p := by
  unfold f_X12_passes at hf
  rcases ax_or hf with ⟨hc1, hf⟩ | ⟨hc1, hf⟩
  · obtain ⟨p1, hp1, hf⟩ := ax_bind hf
    exact ax_ret (P := fun q : sx_M => sx_eq (xS_X12_passes) s q) hf (sx_tr (sx_rf _ s) (sx_mono (D1 := xS_X12_next) (fr_f_X12_next (p := p1) s hp1) (fun o k h => Or.elim h (fun q => (fun q => Or.inl q) q) (fun q0 => Or.elim q0 (fun q => (fun q => Or.inr (Or.inl q)) q) (fun q1 => Or.elim q1 (fun q => (fun q => Or.inr (Or.inr (Or.inl q))) q) (fun q2 => (fun q => Or.inr (Or.inr (Or.inr (q)))) q2)))) (fun o k h => h.elim) (fun o h => h.elim) (fun o h => h.elim)))
  · exact ax_ret (P := fun q : sx_M => sx_eq (xS_X12_passes) s q) hf (sx_rf _ s)
abbrev xI_X12_isWord : Nat → Nat → Prop := fun o k => False
abbrev xJ_X12_isWord : Nat → Nat → Prop := fun o k => False
abbrev xA_X12_isWord : Nat → Prop := fun o => False
abbrev xB_X12_isWord : Nat → Prop := fun o => False
abbrev xS_X12_isWord : sx_D := (xI_X12_isWord, xJ_X12_isWord, xA_X12_isWord, xB_X12_isWord)
set_option maxRecDepth 100000 in
set_option maxHeartbeats 1000000 in
theorem fr_f_X12_isWord (x1 : UInt32) (s : sx_M) {p : Int32 × sx_M} (hf : f_X12_isWord x1 s = some p) : sx_eq (xS_X12_isWord) s p.2 := by
  unfold f_X12_isWord at hf
  have J29 : ∀ (y1_29 : UInt32) (t0_29 : Int32) (s_29 : sx_M), sx_eq (xS_X12_isWord) s s_29 → f_X12_isWord_J29 y1_29 t0_29 s_29 = some p → sx_eq (xS_X12_isWord) s p.2 := by
    intro y1_29 t0_29 s_29 hs_29 hf
    unfold f_X12_isWord_J29 at hf
    obtain ⟨b1, hb1, hf⟩ := ax_bind hf
    have hvb1 := wh_inv (t0_29, (0 : Int32), s_29) (fun a32 : Int32 × Int32 × sx_M => sx_eq (xS_X12_isWord) s a32.2.2) (fun e : Int32 × sx_M => sx_eq (xS_X12_isWord) s e.2) hb1 ?_ hs_29
    rotate_left
    · intro a32 r ha32 hf
      unfold f_X12_isWord_L32 at hf
      obtain ⟨_, hf⟩ := ax_ite hf
      rcases ax_or hf with ⟨hc7, hf⟩ | ⟨hc7, hf⟩
      · exact ax_ret (P := Sum.elim (fun a32 : Int32 × Int32 × sx_M => sx_eq (xS_X12_isWord) s a32.2.2) (fun e : Int32 × sx_M => sx_eq (xS_X12_isWord) s e.2)) hf ha32
      · rcases ax_or hf with ⟨hc6, hf⟩ | ⟨hc6, hf⟩
        · exact ax_ret (P := Sum.elim (fun a32 : Int32 × Int32 × sx_M => sx_eq (xS_X12_isWord) s a32.2.2) (fun e : Int32 × sx_M => sx_eq (xS_X12_isWord) s e.2)) hf ha32
        · obtain ⟨_, hf⟩ := ax_ite hf
          obtain ⟨_, hf⟩ := ax_ite hf
          obtain ⟨_, hf⟩ := ax_ite hf
          rcases ax_or hf with ⟨hc5, hf⟩ | ⟨hc5, hf⟩
          · exact ax_ret (P := Sum.elim (fun a32 : Int32 × Int32 × sx_M => sx_eq (xS_X12_isWord) s a32.2.2) (fun e : Int32 × sx_M => sx_eq (xS_X12_isWord) s e.2)) hf ha32
          · exact ax_ret (P := Sum.elim (fun a32 : Int32 × Int32 × sx_M => sx_eq (xS_X12_isWord) s a32.2.2) (fun e : Int32 × sx_M => sx_eq (xS_X12_isWord) s e.2)) hf ha32
    obtain ⟨_, hf⟩ := ax_ite hf
    exact ax_ret (P := fun q : Int32 × sx_M => sx_eq (xS_X12_isWord) s q.2) hf hvb1
  rcases ax_or hf with ⟨hc10, hf⟩ | ⟨hc10, hf⟩
  · obtain ⟨_, hf⟩ := ax_ite hf
    rcases ax_or hf with ⟨hc9, hf⟩ | ⟨hc9, hf⟩
    · exact J29 x1 (1 : Int32) s (sx_rf _ s) hf
    · exact J29 x1 (0 : Int32) s (sx_rf _ s) hf
  · exact J29 x1 (0 : Int32) s (sx_rf _ s) hf
abbrev xI_X12_number : Nat → Nat → Prop := fun o k => (o = 58 ∧ k = 10) ∨ (o = 58 ∧ k = 11) ∨ (o = 58 ∧ k = 12) ∨ (o = 58 ∧ k = 5) ∨ (o = 58 ∧ k = 6) ∨ (o = 58 ∧ k = 8) ∨ (o = 58 ∧ k = 9)
abbrev xJ_X12_number : Nat → Nat → Prop := fun o k => False
abbrev xA_X12_number : Nat → Prop := fun o => False
abbrev xB_X12_number : Nat → Prop := fun o => False
abbrev xS_X12_number : sx_D := (xI_X12_number, xJ_X12_number, xA_X12_number, xB_X12_number)
set_option maxRecDepth 100000 in
set_option maxHeartbeats 1000000 in
theorem fr_f_X12_number (x1 : Int32) (x2 : Int32) (s : sx_M) {p : Int32 × sx_M} (hf : f_X12_number x1 x2 s = some p) : sx_eq (xS_X12_number) s p.2 := by
  unfold f_X12_number at hf
  have J42 : ∀ (y3_42 : Int32) (s_42 : sx_M), sx_eq (xS_X12_number) s s_42 → f_X12_number_J42 y3_42 s_42 = some p → sx_eq (xS_X12_number) s p.2 := by
    intro y3_42 s_42 hs_42 hf
    unfold f_X12_number_J42 at hf
    obtain ⟨p1, hp1, hf⟩ := ax_bind hf
    exact ax_ret (P := fun q : Int32 × sx_M => sx_eq (xS_X12_number) s q.2) hf (sx_tr hs_42 (sx_mono (D1 := xS_X12_passes) (fr_f_X12_passes (p := p1) s_42 hp1) (fun o k h => Or.elim h (fun q => (fun q => Or.inl q) q) (fun q0 => Or.elim q0 (fun q => (fun q => Or.inr (Or.inl q)) q) (fun q1 => Or.elim q1 (fun q => (fun q => Or.inr (Or.inr (Or.inr (Or.inr (Or.inr (Or.inl q)))))) q) (fun q2 => (fun q => Or.inr (Or.inr (Or.inr (Or.inr (Or.inr (Or.inr (q))))))) q2)))) (fun o k h => h.elim) (fun o h => h.elim) (fun o h => h.elim)))
  have J25 : ∀ (y1_25 : Int32) (y2_25 : Int32) (y3_25 : Int32) (s_25 : sx_M), sx_eq (xS_X12_number) s s_25 → f_X12_number_J25 y1_25 y2_25 y3_25 s_25 = some p → sx_eq (xS_X12_number) s p.2 := by
    intro y1_25 y2_25 y3_25 s_25 hs_25 hf
    unfold f_X12_number_J25 at hf
    obtain ⟨p2, hp2, hf⟩ := ax_bind hf
    rcases ax_or hf with ⟨hc1, hf⟩ | ⟨hc1, hf⟩
    · obtain ⟨p3, hp3, hf⟩ := ax_bind hf
      exact J42 y3_25 p3 (sx_tr (sx_tr hs_25 (sx_mono (D1 := xS_X12_in) (fr_f_X12_in (p := p2) ((y3_25).toInt64) ((y1_25).toInt64) ((y2_25).toInt64) s_25 hp2) (fun o k h => h.elim) (fun o k h => h.elim) (fun o h => h.elim) (fun o h => h.elim))) (sx_mono (D1 := xS_X12_faults) (fr_f_X12_faults (p := p3) (2 : Int32) p2.2 hp3) (fun o k h => Or.elim h (fun q => (fun q => Or.inr (Or.inr (Or.inl q))) q) (fun q0 => Or.elim q0 (fun q => (fun q => Or.inr (Or.inr (Or.inr (Or.inl q)))) q) (fun q1 => (fun q => Or.inr (Or.inr (Or.inr (Or.inr (Or.inl q))))) q1))) (fun o k h => h.elim) (fun o h => h.elim) (fun o h => h.elim))) hf
    · exact J42 y3_25 p2.2 (sx_tr hs_25 (sx_mono (D1 := xS_X12_in) (fr_f_X12_in (p := p2) ((y3_25).toInt64) ((y1_25).toInt64) ((y2_25).toInt64) s_25 hp2) (fun o k h => h.elim) (fun o k h => h.elim) (fun o h => h.elim) (fun o h => h.elim))) hf
  rcases ax_or hf with ⟨hc3, hf⟩ | ⟨hc3, hf⟩
  · rcases ax_or hf with ⟨hc2, hf⟩ | ⟨hc2, hf⟩
    · exact J25 x1 x2 (rI s 58 11) s (sx_rf _ s) hf
    · obtain ⟨p4, hp4, hf⟩ := ax_bind hf
      exact J25 x1 x2 (rI s 58 11) p4 (sx_tr (sx_rf _ s) (sx_mono (D1 := xS_X12_faults) (fr_f_X12_faults (p := p4) (1 : Int32) s hp4) (fun o k h => Or.elim h (fun q => (fun q => Or.inr (Or.inr (Or.inl q))) q) (fun q0 => Or.elim q0 (fun q => (fun q => Or.inr (Or.inr (Or.inr (Or.inl q)))) q) (fun q1 => (fun q => Or.inr (Or.inr (Or.inr (Or.inr (Or.inl q))))) q1))) (fun o k h => h.elim) (fun o h => h.elim) (fun o h => h.elim))) hf
  · exact J25 x1 x2 (rI s 58 11) s (sx_rf _ s) hf
abbrev xI_X12_readsCost : Nat → Nat → Prop := fun o k => (o = 58 ∧ k = 10) ∨ (o = 58 ∧ k = 11) ∨ (o = 58 ∧ k = 12) ∨ (o = 58 ∧ k = 5) ∨ (o = 58 ∧ k = 6) ∨ (o = 58 ∧ k = 8) ∨ (o = 58 ∧ k = 9)
abbrev xJ_X12_readsCost : Nat → Nat → Prop := fun o k => False
abbrev xA_X12_readsCost : Nat → Prop := fun o => o = 62
abbrev xB_X12_readsCost : Nat → Prop := fun o => False
abbrev xS_X12_readsCost : sx_D := (xI_X12_readsCost, xJ_X12_readsCost, xA_X12_readsCost, xB_X12_readsCost)
set_option maxRecDepth 100000 in
set_option maxHeartbeats 1000000 in
theorem fr_f_X12_readsCost (x1 : Int32) (s : sx_M) {p : sx_M} (hf : f_X12_readsCost x1 s = some p) : sx_eq (xS_X12_readsCost) s p := by
  unfold f_X12_readsCost at hf
  have J128 : ∀ (y3_128 : Int32) (y4_128 : Int32) (s_128 : sx_M), sx_eq (xS_X12_readsCost) s s_128 → f_X12_readsCost_J128 y3_128 y4_128 s_128 = some p → sx_eq (xS_X12_readsCost) s p := by
    intro y3_128 y4_128 s_128 hs_128 hf
    unfold f_X12_readsCost_J128 at hf
    obtain ⟨p1, hp1, hf⟩ := ax_bind hf
    rcases ax_or hf with ⟨hc3, hf⟩ | ⟨hc3, hf⟩
    · obtain ⟨_, hf⟩ := ax_ite hf
      exact ax_ret (P := fun q : sx_M => sx_eq (xS_X12_readsCost) s q) hf (sx_wA' (D := (xS_X12_readsCost)) (sx_tr hs_128 (sx_mono (D1 := xS_X12_number) (fr_f_X12_number (p := p1) (0 : Int32) (9999 : Int32) s_128 hp1) (fun o k h => Or.elim h (fun q => (fun q => Or.inl q) q) (fun q0 => Or.elim q0 (fun q => (fun q => Or.inr (Or.inl q)) q) (fun q1 => Or.elim q1 (fun q => (fun q => Or.inr (Or.inr (Or.inl q))) q) (fun q2 => Or.elim q2 (fun q => (fun q => Or.inr (Or.inr (Or.inr (Or.inl q)))) q) (fun q3 => Or.elim q3 (fun q => (fun q => Or.inr (Or.inr (Or.inr (Or.inr (Or.inl q))))) q) (fun q4 => Or.elim q4 (fun q => (fun q => Or.inr (Or.inr (Or.inr (Or.inr (Or.inr (Or.inl q)))))) q) (fun q5 => (fun q => Or.inr (Or.inr (Or.inr (Or.inr (Or.inr (Or.inr (q))))))) q5))))))) (fun o k h => h.elim) (fun o h => h.elim) (fun o h => h.elim))) ((fun q => q) rfl))
    · obtain ⟨_, hf⟩ := ax_ite hf
      exact ax_ret (P := fun q : sx_M => sx_eq (xS_X12_readsCost) s q) hf (sx_wA' (D := (xS_X12_readsCost)) (sx_tr hs_128 (sx_mono (D1 := xS_X12_number) (fr_f_X12_number (p := p1) (0 : Int32) (9999 : Int32) s_128 hp1) (fun o k h => Or.elim h (fun q => (fun q => Or.inl q) q) (fun q0 => Or.elim q0 (fun q => (fun q => Or.inr (Or.inl q)) q) (fun q1 => Or.elim q1 (fun q => (fun q => Or.inr (Or.inr (Or.inl q))) q) (fun q2 => Or.elim q2 (fun q => (fun q => Or.inr (Or.inr (Or.inr (Or.inl q)))) q) (fun q3 => Or.elim q3 (fun q => (fun q => Or.inr (Or.inr (Or.inr (Or.inr (Or.inl q))))) q) (fun q4 => Or.elim q4 (fun q => (fun q => Or.inr (Or.inr (Or.inr (Or.inr (Or.inr (Or.inl q)))))) q) (fun q5 => (fun q => Or.inr (Or.inr (Or.inr (Or.inr (Or.inr (Or.inr (q))))))) q5))))))) (fun o k h => h.elim) (fun o h => h.elim) (fun o h => h.elim))) ((fun q => q) rfl))
  have J82 : ∀ (y1_82 : Int32) (y2_82 : Int32) (y3_82 : Int32) (s_82 : sx_M), sx_eq (xS_X12_readsCost) s s_82 → f_X12_readsCost_J82 y1_82 y2_82 y3_82 s_82 = some p → sx_eq (xS_X12_readsCost) s p := by
    intro y1_82 y2_82 y3_82 s_82 hs_82 hf
    unfold f_X12_readsCost_J82 at hf
    rcases ax_or hf with ⟨hc7, hf⟩ | ⟨hc7, hf⟩
    · obtain ⟨p2, hp2, hf⟩ := ax_bind hf
      rcases ax_or hf with ⟨hc6, hf⟩ | ⟨hc6, hf⟩
      · rcases ax_or hf with ⟨hc4, hf⟩ | ⟨hc4, hf⟩
        · exact J128 y3_82 p2.1 p2.2 (sx_tr hs_82 (sx_mono (D1 := xS_X12_placeOf) (fr_f_X12_placeOf (p := p2) (rA s_82 62 ((0 : Int32)).toNatClampNeg) y1_82 s_82 hp2) (fun o k h => h.elim) (fun o k h => h.elim) (fun o h => h.elim) (fun o h => h.elim))) hf
        · obtain ⟨p3, hp3, hf⟩ := ax_bind hf
          exact J128 y3_82 p2.1 p3 (sx_tr (sx_tr hs_82 (sx_mono (D1 := xS_X12_placeOf) (fr_f_X12_placeOf (p := p2) (rA s_82 62 ((0 : Int32)).toNatClampNeg) y1_82 s_82 hp2) (fun o k h => h.elim) (fun o k h => h.elim) (fun o h => h.elim) (fun o h => h.elim))) (sx_mono (D1 := xS_X12_next) (fr_f_X12_next (p := p3) p2.2 hp3) (fun o k h => Or.elim h (fun q => (fun q => Or.inl q) q) (fun q0 => Or.elim q0 (fun q => (fun q => Or.inr (Or.inl q)) q) (fun q1 => Or.elim q1 (fun q => (fun q => Or.inr (Or.inr (Or.inr (Or.inr (Or.inr (Or.inl q)))))) q) (fun q2 => (fun q => Or.inr (Or.inr (Or.inr (Or.inr (Or.inr (Or.inr (q))))))) q2)))) (fun o k h => h.elim) (fun o h => h.elim) (fun o h => h.elim))) hf
      · obtain ⟨_, hf⟩ := ax_ite hf
        obtain ⟨p4, hp4, hf⟩ := ax_bind hf
        exact ax_ret (P := fun q : sx_M => sx_eq (xS_X12_readsCost) s q) hf (sx_tr (sx_wA' (D := (xS_X12_readsCost)) (sx_tr hs_82 (sx_mono (D1 := xS_X12_placeOf) (fr_f_X12_placeOf (p := p2) (rA s_82 62 ((0 : Int32)).toNatClampNeg) y1_82 s_82 hp2) (fun o k h => h.elim) (fun o k h => h.elim) (fun o h => h.elim) (fun o h => h.elim))) ((fun q => q) rfl)) (sx_mono (D1 := xS_X12_next) (fr_f_X12_next (p := p4) (wA p2.2 62 (p2.1).toNatClampNeg (2147483647 : Int32)) hp4) (fun o k h => Or.elim h (fun q => (fun q => Or.inl q) q) (fun q0 => Or.elim q0 (fun q => (fun q => Or.inr (Or.inl q)) q) (fun q1 => Or.elim q1 (fun q => (fun q => Or.inr (Or.inr (Or.inr (Or.inr (Or.inr (Or.inl q)))))) q) (fun q2 => (fun q => Or.inr (Or.inr (Or.inr (Or.inr (Or.inr (Or.inr (q))))))) q2)))) (fun o k h => h.elim) (fun o h => h.elim) (fun o h => h.elim)))
    · exact ax_ret (P := fun q : sx_M => sx_eq (xS_X12_readsCost) s q) hf hs_82
  have J79 : ∀ (y1_79 : Int32) (y2_79 : Int32) (y3_79 : Int32) (t1_79 : Int32) (s_79 : sx_M), sx_eq (xS_X12_readsCost) s s_79 → f_X12_readsCost_J79 y1_79 y2_79 y3_79 t1_79 s_79 = some p → sx_eq (xS_X12_readsCost) s p := by
    intro y1_79 y2_79 y3_79 t1_79 s_79 hs_79 hf
    unfold f_X12_readsCost_J79 at hf
    obtain ⟨p5, hp5, hf⟩ := ax_bind hf
    exact J82 y1_79 y2_79 y3_79 p5 (sx_tr hs_79 (sx_mono (D1 := xS_X12_faults) (fr_f_X12_faults (p := p5) t1_79 s_79 hp5) (fun o k h => Or.elim h (fun q => (fun q => Or.inr (Or.inr (Or.inl q))) q) (fun q0 => Or.elim q0 (fun q => (fun q => Or.inr (Or.inr (Or.inr (Or.inl q)))) q) (fun q1 => (fun q => Or.inr (Or.inr (Or.inr (Or.inr (Or.inl q))))) q1))) (fun o k h => h.elim) (fun o h => h.elim) (fun o h => h.elim))) hf
  have J45 : ∀ (y1_45 : Int32) (y2_45 : Int32) (y3_45 : Int32) (s_45 : sx_M), sx_eq (xS_X12_readsCost) s s_45 → f_X12_readsCost_J45 y1_45 y2_45 y3_45 s_45 = some p → sx_eq (xS_X12_readsCost) s p := by
    intro y1_45 y2_45 y3_45 s_45 hs_45 hf
    unfold f_X12_readsCost_J45 at hf
    rcases ax_or hf with ⟨hc10, hf⟩ | ⟨hc10, hf⟩
    · rcases ax_or hf with ⟨hc9, hf⟩ | ⟨hc9, hf⟩
      · rcases ax_or hf with ⟨hc8, hf⟩ | ⟨hc8, hf⟩
        · exact J79 y1_45 y2_45 y3_45 (3 : Int32) s_45 hs_45 hf
        · exact J79 y1_45 y2_45 y3_45 (2 : Int32) s_45 hs_45 hf
      · exact J79 y1_45 y2_45 y3_45 (3 : Int32) s_45 hs_45 hf
    · exact J82 y1_45 y2_45 y3_45 s_45 hs_45 hf
  have J20 : ∀ (y1_20 : Int32) (y2_20 : Int32) (t0_20 : Int32) (s_20 : sx_M), sx_eq (xS_X12_readsCost) s s_20 → f_X12_readsCost_J20 y1_20 y2_20 t0_20 s_20 = some p → sx_eq (xS_X12_readsCost) s p := by
    intro y1_20 y2_20 t0_20 s_20 hs_20 hf
    unfold f_X12_readsCost_J20 at hf
    rcases ax_or hf with ⟨hc13, hf⟩ | ⟨hc13, hf⟩
    · rcases ax_or hf with ⟨hc12, hf⟩ | ⟨hc12, hf⟩
      · rcases ax_or hf with ⟨hc11, hf⟩ | ⟨hc11, hf⟩
        · exact J45 y1_20 y2_20 t0_20 s_20 hs_20 hf
        · obtain ⟨p6, hp6, hf⟩ := ax_bind hf
          exact J82 y1_20 y2_20 t0_20 p6 (sx_tr hs_20 (sx_mono (D1 := xS_X12_faults) (fr_f_X12_faults (p := p6) (1 : Int32) s_20 hp6) (fun o k h => Or.elim h (fun q => (fun q => Or.inr (Or.inr (Or.inl q))) q) (fun q0 => Or.elim q0 (fun q => (fun q => Or.inr (Or.inr (Or.inr (Or.inl q)))) q) (fun q1 => (fun q => Or.inr (Or.inr (Or.inr (Or.inr (Or.inl q))))) q1))) (fun o k h => h.elim) (fun o h => h.elim) (fun o h => h.elim))) hf
      · exact J45 y1_20 y2_20 t0_20 s_20 hs_20 hf
    · exact J45 y1_20 y2_20 t0_20 s_20 hs_20 hf
  obtain ⟨p7, hp7, hf⟩ := ax_bind hf
  rcases ax_or hf with ⟨hc14, hf⟩ | ⟨hc14, hf⟩
  · exact J20 x1 p7.1 (1 : Int32) p7.2 (sx_tr (sx_rf _ s) (sx_mono (D1 := xS_X12_isWord) (fr_f_X12_isWord (p := p7) (3 : UInt32) s hp7) (fun o k h => h.elim) (fun o k h => h.elim) (fun o h => h.elim) (fun o h => h.elim))) hf
  · exact J20 x1 p7.1 (0 : Int32) p7.2 (sx_tr (sx_rf _ s) (sx_mono (D1 := xS_X12_isWord) (fr_f_X12_isWord (p := p7) (3 : UInt32) s hp7) (fun o k h => h.elim) (fun o k h => h.elim) (fun o h => h.elim) (fun o h => h.elim))) hf
abbrev xI_X12_readsWorker : Nat → Nat → Prop := fun o k => (o = 58 ∧ k = 10) ∨ (o = 58 ∧ k = 11) ∨ (o = 58 ∧ k = 12) ∨ (o = 58 ∧ k = 5) ∨ (o = 58 ∧ k = 6) ∨ (o = 58 ∧ k = 8) ∨ (o = 58 ∧ k = 9)
abbrev xJ_X12_readsWorker : Nat → Nat → Prop := fun o k => False
abbrev xA_X12_readsWorker : Nat → Prop := fun o => o = 62
abbrev xB_X12_readsWorker : Nat → Prop := fun o => False
abbrev xS_X12_readsWorker : sx_D := (xI_X12_readsWorker, xJ_X12_readsWorker, xA_X12_readsWorker, xB_X12_readsWorker)
set_option maxRecDepth 100000 in
set_option maxHeartbeats 1000000 in
theorem fr_f_X12_readsWorker (s : sx_M) {p : sx_M} (hf : f_X12_readsWorker s = some p) : sx_eq (xS_X12_readsWorker) s p := by
  unfold f_X12_readsWorker at hf
  have J134 : ∀ (s_134 : sx_M), sx_eq (xS_X12_readsWorker) s s_134 → f_X12_readsWorker_J134 s_134 = some p → sx_eq (xS_X12_readsWorker) s p := by
    intro s_134 hs_134 hf
    unfold f_X12_readsWorker_J134 at hf
    obtain ⟨p1, hp1, hf⟩ := ax_bind hf
    exact ax_ret (P := fun q : sx_M => sx_eq (xS_X12_readsWorker) s q) hf (sx_wA' (D := (xS_X12_readsWorker)) (sx_tr hs_134 (sx_mono (D1 := xS_X12_passes) (fr_f_X12_passes (p := p1) s_134 hp1) (fun o k h => Or.elim h (fun q => (fun q => Or.inl q) q) (fun q0 => Or.elim q0 (fun q => (fun q => Or.inr (Or.inl q)) q) (fun q1 => Or.elim q1 (fun q => (fun q => Or.inr (Or.inr (Or.inr (Or.inr (Or.inr (Or.inl q)))))) q) (fun q2 => (fun q => Or.inr (Or.inr (Or.inr (Or.inr (Or.inr (Or.inr (q))))))) q2)))) (fun o k h => h.elim) (fun o h => h.elim) (fun o h => h.elim))) ((fun q => q) rfl))
  have J112 : ∀ (y1_112 : Int32) (s_112 : sx_M), sx_eq (xS_X12_readsWorker) s s_112 → f_X12_readsWorker_J112 y1_112 s_112 = some p → sx_eq (xS_X12_readsWorker) s p := by
    intro y1_112 s_112 hs_112 hf
    unfold f_X12_readsWorker_J112 at hf
    rcases ax_or hf with ⟨hc2, hf⟩ | ⟨hc2, hf⟩
    · rcases ax_or hf with ⟨hc1, hf⟩ | ⟨hc1, hf⟩
      · exact J134 s_112 hs_112 hf
      · obtain ⟨p2, hp2, hf⟩ := ax_bind hf
        exact J134 p2 (sx_tr hs_112 (sx_mono (D1 := xS_X12_faults) (fr_f_X12_faults (p := p2) (4 : Int32) s_112 hp2) (fun o k h => Or.elim h (fun q => (fun q => Or.inr (Or.inr (Or.inl q))) q) (fun q0 => Or.elim q0 (fun q => (fun q => Or.inr (Or.inr (Or.inr (Or.inl q)))) q) (fun q1 => (fun q => Or.inr (Or.inr (Or.inr (Or.inr (Or.inl q))))) q1))) (fun o k h => h.elim) (fun o h => h.elim) (fun o h => h.elim))) hf
    · exact J134 s_112 hs_112 hf
  have J33 : ∀ (s_33 : sx_M), sx_eq (xS_X12_readsWorker) s s_33 → f_X12_readsWorker_J33 s_33 = some p → sx_eq (xS_X12_readsWorker) s p := by
    intro s_33 hs_33 hf
    unfold f_X12_readsWorker_J33 at hf
    obtain ⟨p3, hp3, hf⟩ := ax_bind hf
    obtain ⟨b6, hb6, hf⟩ := ax_bind hf
    have hvb6 := wh_inv ((0 : Int32), (1 : Int32), p3) (fun a41 : Int32 × Int32 × sx_M => sx_eq (xS_X12_readsWorker) s a41.2.2) (fun e : Int32 × sx_M => sx_eq (xS_X12_readsWorker) s e.2) hb6 ?_ (sx_tr hs_33 (sx_mono (D1 := xS_X12_passes) (fr_f_X12_passes (p := p3) s_33 hp3) (fun o k h => Or.elim h (fun q => (fun q => Or.inl q) q) (fun q0 => Or.elim q0 (fun q => (fun q => Or.inr (Or.inl q)) q) (fun q1 => Or.elim q1 (fun q => (fun q => Or.inr (Or.inr (Or.inr (Or.inr (Or.inr (Or.inl q)))))) q) (fun q2 => (fun q => Or.inr (Or.inr (Or.inr (Or.inr (Or.inr (Or.inr (q))))))) q2)))) (fun o k h => h.elim) (fun o h => h.elim) (fun o h => h.elim)))
    rotate_left
    · intro a41 r ha41 hf
      unfold f_X12_readsWorker_L41 at hf
      have J80 : ∀ (y1_80 : Int32) (t0_80 : Int32) (s_80 : sx_M), sx_eq (xS_X12_readsWorker) s s_80 → f_X12_readsWorker_L41_J80 y1_80 t0_80 s_80 = some r → Sum.elim (fun a41 : Int32 × Int32 × sx_M => sx_eq (xS_X12_readsWorker) s a41.2.2) (fun e : Int32 × sx_M => sx_eq (xS_X12_readsWorker) s e.2) r := by
        intro y1_80 t0_80 s_80 hs_80 hf
        unfold f_X12_readsWorker_L41_J80 at hf
        rcases ax_or hf with ⟨hc3, hf⟩ | ⟨hc3, hf⟩
        · exact ax_ret (P := Sum.elim (fun a41 : Int32 × Int32 × sx_M => sx_eq (xS_X12_readsWorker) s a41.2.2) (fun e : Int32 × sx_M => sx_eq (xS_X12_readsWorker) s e.2)) hf hs_80
        · obtain ⟨p4, hp4, hf⟩ := ax_bind hf
          exact ax_ret (P := Sum.elim (fun a41 : Int32 × Int32 × sx_M => sx_eq (xS_X12_readsWorker) s a41.2.2) (fun e : Int32 × sx_M => sx_eq (xS_X12_readsWorker) s e.2)) hf (sx_tr hs_80 (sx_mono (D1 := xS_X12_next) (fr_f_X12_next (p := p4) s_80 hp4) (fun o k h => Or.elim h (fun q => (fun q => Or.inl q) q) (fun q0 => Or.elim q0 (fun q => (fun q => Or.inr (Or.inl q)) q) (fun q1 => Or.elim q1 (fun q => (fun q => Or.inr (Or.inr (Or.inr (Or.inr (Or.inr (Or.inl q)))))) q) (fun q2 => (fun q => Or.inr (Or.inr (Or.inr (Or.inr (Or.inr (Or.inr (q))))))) q2)))) (fun o k h => h.elim) (fun o h => h.elim) (fun o h => h.elim)))
      rcases ax_or hf with ⟨hc7, hf⟩ | ⟨hc7, hf⟩
      · exact ax_ret (P := Sum.elim (fun a41 : Int32 × Int32 × sx_M => sx_eq (xS_X12_readsWorker) s a41.2.2) (fun e : Int32 × sx_M => sx_eq (xS_X12_readsWorker) s e.2)) hf ha41
      · rcases ax_or hf with ⟨hc6, hf⟩ | ⟨hc6, hf⟩
        · obtain ⟨p5, hp5, hf⟩ := ax_bind hf
          rcases ax_or hf with ⟨hc5, hf⟩ | ⟨hc5, hf⟩
          · rcases ax_or hf with ⟨hc4, hf⟩ | ⟨hc4, hf⟩
            · exact J80 (a41.1 + (1 : Int32)) (1 : Int32) p5 (sx_tr ha41 (sx_mono (D1 := xS_X12_readsCost) (fr_f_X12_readsCost (p := p5) a41.1 a41.2.2 hp5) (fun o k h => Or.elim h (fun q => (fun q => Or.inl q) q) (fun q0 => Or.elim q0 (fun q => (fun q => Or.inr (Or.inl q)) q) (fun q1 => Or.elim q1 (fun q => (fun q => Or.inr (Or.inr (Or.inl q))) q) (fun q2 => Or.elim q2 (fun q => (fun q => Or.inr (Or.inr (Or.inr (Or.inl q)))) q) (fun q3 => Or.elim q3 (fun q => (fun q => Or.inr (Or.inr (Or.inr (Or.inr (Or.inl q))))) q) (fun q4 => Or.elim q4 (fun q => (fun q => Or.inr (Or.inr (Or.inr (Or.inr (Or.inr (Or.inl q)))))) q) (fun q5 => (fun q => Or.inr (Or.inr (Or.inr (Or.inr (Or.inr (Or.inr (q))))))) q5))))))) (fun o k h => h.elim) (fun o h => (fun q => q) h) (fun o h => h.elim))) hf
            · exact J80 (a41.1 + (1 : Int32)) (0 : Int32) p5 (sx_tr ha41 (sx_mono (D1 := xS_X12_readsCost) (fr_f_X12_readsCost (p := p5) a41.1 a41.2.2 hp5) (fun o k h => Or.elim h (fun q => (fun q => Or.inl q) q) (fun q0 => Or.elim q0 (fun q => (fun q => Or.inr (Or.inl q)) q) (fun q1 => Or.elim q1 (fun q => (fun q => Or.inr (Or.inr (Or.inl q))) q) (fun q2 => Or.elim q2 (fun q => (fun q => Or.inr (Or.inr (Or.inr (Or.inl q)))) q) (fun q3 => Or.elim q3 (fun q => (fun q => Or.inr (Or.inr (Or.inr (Or.inr (Or.inl q))))) q) (fun q4 => Or.elim q4 (fun q => (fun q => Or.inr (Or.inr (Or.inr (Or.inr (Or.inr (Or.inl q)))))) q) (fun q5 => (fun q => Or.inr (Or.inr (Or.inr (Or.inr (Or.inr (Or.inr (q))))))) q5))))))) (fun o k h => h.elim) (fun o h => (fun q => q) h) (fun o h => h.elim))) hf
          · exact J80 (a41.1 + (1 : Int32)) (0 : Int32) p5 (sx_tr ha41 (sx_mono (D1 := xS_X12_readsCost) (fr_f_X12_readsCost (p := p5) a41.1 a41.2.2 hp5) (fun o k h => Or.elim h (fun q => (fun q => Or.inl q) q) (fun q0 => Or.elim q0 (fun q => (fun q => Or.inr (Or.inl q)) q) (fun q1 => Or.elim q1 (fun q => (fun q => Or.inr (Or.inr (Or.inl q))) q) (fun q2 => Or.elim q2 (fun q => (fun q => Or.inr (Or.inr (Or.inr (Or.inl q)))) q) (fun q3 => Or.elim q3 (fun q => (fun q => Or.inr (Or.inr (Or.inr (Or.inr (Or.inl q))))) q) (fun q4 => Or.elim q4 (fun q => (fun q => Or.inr (Or.inr (Or.inr (Or.inr (Or.inr (Or.inl q)))))) q) (fun q5 => (fun q => Or.inr (Or.inr (Or.inr (Or.inr (Or.inr (Or.inr (q))))))) q5))))))) (fun o k h => h.elim) (fun o h => (fun q => q) h) (fun o h => h.elim))) hf
        · exact ax_ret (P := Sum.elim (fun a41 : Int32 × Int32 × sx_M => sx_eq (xS_X12_readsWorker) s a41.2.2) (fun e : Int32 × sx_M => sx_eq (xS_X12_readsWorker) s e.2)) hf ha41
    rcases ax_or hf with ⟨hc9, hf⟩ | ⟨hc9, hf⟩
    · rcases ax_or hf with ⟨hc8, hf⟩ | ⟨hc8, hf⟩
      · exact J112 b6.1 b6.2 hvb6 hf
      · obtain ⟨p7, hp7, hf⟩ := ax_bind hf
        exact J112 b6.1 p7 (sx_tr hvb6 (sx_mono (D1 := xS_X12_faults) (fr_f_X12_faults (p := p7) (1 : Int32) b6.2 hp7) (fun o k h => Or.elim h (fun q => (fun q => Or.inr (Or.inr (Or.inl q))) q) (fun q0 => Or.elim q0 (fun q => (fun q => Or.inr (Or.inr (Or.inr (Or.inl q)))) q) (fun q1 => (fun q => Or.inr (Or.inr (Or.inr (Or.inr (Or.inl q))))) q1))) (fun o k h => h.elim) (fun o h => h.elim) (fun o h => h.elim))) hf
    · exact J112 b6.1 b6.2 hvb6 hf
  obtain ⟨p8, hp8, hf⟩ := ax_bind hf
  rcases ax_or hf with ⟨hc11, hf⟩ | ⟨hc11, hf⟩
  · obtain ⟨p10, hp10, hf⟩ := ax_bind hf
    exact J33 p10 (sx_tr (sx_tr (sx_rf _ s) (sx_mono (D1 := xS_X12_isWord) (fr_f_X12_isWord (p := p8) (2 : UInt32) s hp8) (fun o k h => h.elim) (fun o k h => h.elim) (fun o h => h.elim) (fun o h => h.elim))) (sx_mono (D1 := xS_X12_faults) (fr_f_X12_faults (p := p10) (1 : Int32) p8.2 hp10) (fun o k h => Or.elim h (fun q => (fun q => Or.inr (Or.inr (Or.inl q))) q) (fun q0 => Or.elim q0 (fun q => (fun q => Or.inr (Or.inr (Or.inr (Or.inl q)))) q) (fun q1 => (fun q => Or.inr (Or.inr (Or.inr (Or.inr (Or.inl q))))) q1))) (fun o k h => h.elim) (fun o h => h.elim) (fun o h => h.elim))) hf
  · rcases ax_or hf with ⟨hc10, hf⟩ | ⟨hc10, hf⟩
    · obtain ⟨p9, hp9, hf⟩ := ax_bind hf
      exact J33 p9 (sx_tr (sx_tr (sx_rf _ s) (sx_mono (D1 := xS_X12_isWord) (fr_f_X12_isWord (p := p8) (2 : UInt32) s hp8) (fun o k h => h.elim) (fun o k h => h.elim) (fun o h => h.elim) (fun o h => h.elim))) (sx_mono (D1 := xS_X12_faults) (fr_f_X12_faults (p := p9) (3 : Int32) p8.2 hp9) (fun o k h => Or.elim h (fun q => (fun q => Or.inr (Or.inr (Or.inl q))) q) (fun q0 => Or.elim q0 (fun q => (fun q => Or.inr (Or.inr (Or.inr (Or.inl q)))) q) (fun q1 => (fun q => Or.inr (Or.inr (Or.inr (Or.inr (Or.inl q))))) q1))) (fun o k h => h.elim) (fun o h => h.elim) (fun o h => h.elim))) hf
    · exact J33 p8.2 (sx_tr (sx_rf _ s) (sx_mono (D1 := xS_X12_isWord) (fr_f_X12_isWord (p := p8) (2 : UInt32) s hp8) (fun o k h => h.elim) (fun o k h => h.elim) (fun o h => h.elim) (fun o h => h.elim))) hf
abbrev xI_X12_readsJobs : Nat → Nat → Prop := fun o k => (o = 58 ∧ k = 10) ∨ (o = 58 ∧ k = 11) ∨ (o = 58 ∧ k = 12) ∨ (o = 58 ∧ k = 5) ∨ (o = 58 ∧ k = 6) ∨ (o = 58 ∧ k = 8) ∨ (o = 58 ∧ k = 9)
abbrev xJ_X12_readsJobs : Nat → Nat → Prop := fun o k => False
abbrev xA_X12_readsJobs : Nat → Prop := fun o => o = 62
abbrev xB_X12_readsJobs : Nat → Prop := fun o => False
abbrev xS_X12_readsJobs : sx_D := (xI_X12_readsJobs, xJ_X12_readsJobs, xA_X12_readsJobs, xB_X12_readsJobs)
set_option maxRecDepth 100000 in
set_option maxHeartbeats 1000000 in
theorem fr_f_X12_readsJobs (s : sx_M) {p : sx_M} (hf : f_X12_readsJobs s = some p) : sx_eq (xS_X12_readsJobs) s p := by
  unfold f_X12_readsJobs at hf
  have J51 : ∀ (s_51 : sx_M), sx_eq (xS_X12_readsJobs) s s_51 → f_X12_readsJobs_J51 s_51 = some p → sx_eq (xS_X12_readsJobs) s p := by
    intro s_51 hs_51 hf
    unfold f_X12_readsJobs_J51 at hf
    obtain ⟨p1, hp1, hf⟩ := ax_bind hf
    exact ax_ret (P := fun q : sx_M => sx_eq (xS_X12_readsJobs) s q) hf (sx_tr hs_51 (sx_mono (D1 := xS_X12_passes) (fr_f_X12_passes (p := p1) s_51 hp1) (fun o k h => Or.elim h (fun q => (fun q => Or.inl q) q) (fun q0 => Or.elim q0 (fun q => (fun q => Or.inr (Or.inl q)) q) (fun q1 => Or.elim q1 (fun q => (fun q => Or.inr (Or.inr (Or.inr (Or.inr (Or.inr (Or.inl q)))))) q) (fun q2 => (fun q => Or.inr (Or.inr (Or.inr (Or.inr (Or.inr (Or.inr (q))))))) q2)))) (fun o k h => h.elim) (fun o h => h.elim) (fun o h => h.elim)))
  have J14 : ∀ (s_14 : sx_M), sx_eq (xS_X12_readsJobs) s s_14 → f_X12_readsJobs_J14 s_14 = some p → sx_eq (xS_X12_readsJobs) s p := by
    intro s_14 hs_14 hf
    unfold f_X12_readsJobs_J14 at hf
    obtain ⟨p2, hp2, hf⟩ := ax_bind hf
    obtain ⟨p3, hp3, hf⟩ := ax_bind hf
    rcases ax_or hf with ⟨hc2, hf⟩ | ⟨hc2, hf⟩
    · rcases ax_or hf with ⟨hc1, hf⟩ | ⟨hc1, hf⟩
      · exact J51 (wA p3.2 62 ((1 : Int32)).toNatClampNeg p3.1) (sx_wA' (D := (xS_X12_readsJobs)) (sx_tr (sx_tr hs_14 (sx_mono (D1 := xS_X12_passes) (fr_f_X12_passes (p := p2) s_14 hp2) (fun o k h => Or.elim h (fun q => (fun q => Or.inl q) q) (fun q0 => Or.elim q0 (fun q => (fun q => Or.inr (Or.inl q)) q) (fun q1 => Or.elim q1 (fun q => (fun q => Or.inr (Or.inr (Or.inr (Or.inr (Or.inr (Or.inl q)))))) q) (fun q2 => (fun q => Or.inr (Or.inr (Or.inr (Or.inr (Or.inr (Or.inr (q))))))) q2)))) (fun o k h => h.elim) (fun o h => h.elim) (fun o h => h.elim))) (sx_mono (D1 := xS_X12_number) (fr_f_X12_number (p := p3) (1 : Int32) (8 : Int32) p2 hp3) (fun o k h => Or.elim h (fun q => (fun q => Or.inl q) q) (fun q0 => Or.elim q0 (fun q => (fun q => Or.inr (Or.inl q)) q) (fun q1 => Or.elim q1 (fun q => (fun q => Or.inr (Or.inr (Or.inl q))) q) (fun q2 => Or.elim q2 (fun q => (fun q => Or.inr (Or.inr (Or.inr (Or.inl q)))) q) (fun q3 => Or.elim q3 (fun q => (fun q => Or.inr (Or.inr (Or.inr (Or.inr (Or.inl q))))) q) (fun q4 => Or.elim q4 (fun q => (fun q => Or.inr (Or.inr (Or.inr (Or.inr (Or.inr (Or.inl q)))))) q) (fun q5 => (fun q => Or.inr (Or.inr (Or.inr (Or.inr (Or.inr (Or.inr (q))))))) q5))))))) (fun o k h => h.elim) (fun o h => h.elim) (fun o h => h.elim))) ((fun q => q) rfl)) hf
      · obtain ⟨p4, hp4, hf⟩ := ax_bind hf
        exact J51 p4 (sx_tr (sx_wA' (D := (xS_X12_readsJobs)) (sx_tr (sx_tr hs_14 (sx_mono (D1 := xS_X12_passes) (fr_f_X12_passes (p := p2) s_14 hp2) (fun o k h => Or.elim h (fun q => (fun q => Or.inl q) q) (fun q0 => Or.elim q0 (fun q => (fun q => Or.inr (Or.inl q)) q) (fun q1 => Or.elim q1 (fun q => (fun q => Or.inr (Or.inr (Or.inr (Or.inr (Or.inr (Or.inl q)))))) q) (fun q2 => (fun q => Or.inr (Or.inr (Or.inr (Or.inr (Or.inr (Or.inr (q))))))) q2)))) (fun o k h => h.elim) (fun o h => h.elim) (fun o h => h.elim))) (sx_mono (D1 := xS_X12_number) (fr_f_X12_number (p := p3) (1 : Int32) (8 : Int32) p2 hp3) (fun o k h => Or.elim h (fun q => (fun q => Or.inl q) q) (fun q0 => Or.elim q0 (fun q => (fun q => Or.inr (Or.inl q)) q) (fun q1 => Or.elim q1 (fun q => (fun q => Or.inr (Or.inr (Or.inl q))) q) (fun q2 => Or.elim q2 (fun q => (fun q => Or.inr (Or.inr (Or.inr (Or.inl q)))) q) (fun q3 => Or.elim q3 (fun q => (fun q => Or.inr (Or.inr (Or.inr (Or.inr (Or.inl q))))) q) (fun q4 => Or.elim q4 (fun q => (fun q => Or.inr (Or.inr (Or.inr (Or.inr (Or.inr (Or.inl q)))))) q) (fun q5 => (fun q => Or.inr (Or.inr (Or.inr (Or.inr (Or.inr (Or.inr (q))))))) q5))))))) (fun o k h => h.elim) (fun o h => h.elim) (fun o h => h.elim))) ((fun q => q) rfl)) (sx_mono (D1 := xS_X12_faults) (fr_f_X12_faults (p := p4) (1 : Int32) (wA p3.2 62 ((1 : Int32)).toNatClampNeg p3.1) hp4) (fun o k h => Or.elim h (fun q => (fun q => Or.inr (Or.inr (Or.inl q))) q) (fun q0 => Or.elim q0 (fun q => (fun q => Or.inr (Or.inr (Or.inr (Or.inl q)))) q) (fun q1 => (fun q => Or.inr (Or.inr (Or.inr (Or.inr (Or.inl q))))) q1))) (fun o k h => h.elim) (fun o h => h.elim) (fun o h => h.elim))) hf
    · exact J51 (wA p3.2 62 ((1 : Int32)).toNatClampNeg p3.1) (sx_wA' (D := (xS_X12_readsJobs)) (sx_tr (sx_tr hs_14 (sx_mono (D1 := xS_X12_passes) (fr_f_X12_passes (p := p2) s_14 hp2) (fun o k h => Or.elim h (fun q => (fun q => Or.inl q) q) (fun q0 => Or.elim q0 (fun q => (fun q => Or.inr (Or.inl q)) q) (fun q1 => Or.elim q1 (fun q => (fun q => Or.inr (Or.inr (Or.inr (Or.inr (Or.inr (Or.inl q)))))) q) (fun q2 => (fun q => Or.inr (Or.inr (Or.inr (Or.inr (Or.inr (Or.inr (q))))))) q2)))) (fun o k h => h.elim) (fun o h => h.elim) (fun o h => h.elim))) (sx_mono (D1 := xS_X12_number) (fr_f_X12_number (p := p3) (1 : Int32) (8 : Int32) p2 hp3) (fun o k h => Or.elim h (fun q => (fun q => Or.inl q) q) (fun q0 => Or.elim q0 (fun q => (fun q => Or.inr (Or.inl q)) q) (fun q1 => Or.elim q1 (fun q => (fun q => Or.inr (Or.inr (Or.inl q))) q) (fun q2 => Or.elim q2 (fun q => (fun q => Or.inr (Or.inr (Or.inr (Or.inl q)))) q) (fun q3 => Or.elim q3 (fun q => (fun q => Or.inr (Or.inr (Or.inr (Or.inr (Or.inl q))))) q) (fun q4 => Or.elim q4 (fun q => (fun q => Or.inr (Or.inr (Or.inr (Or.inr (Or.inr (Or.inl q)))))) q) (fun q5 => (fun q => Or.inr (Or.inr (Or.inr (Or.inr (Or.inr (Or.inr (q))))))) q5))))))) (fun o k h => h.elim) (fun o h => h.elim) (fun o h => h.elim))) ((fun q => q) rfl)) hf
  obtain ⟨p5, hp5, hf⟩ := ax_bind hf
  rcases ax_or hf with ⟨hc3, hf⟩ | ⟨hc3, hf⟩
  · obtain ⟨p6, hp6, hf⟩ := ax_bind hf
    exact J14 p6 (sx_tr (sx_tr (sx_rf _ s) (sx_mono (D1 := xS_X12_isWord) (fr_f_X12_isWord (p := p5) (1 : UInt32) s hp5) (fun o k h => h.elim) (fun o k h => h.elim) (fun o h => h.elim) (fun o h => h.elim))) (sx_mono (D1 := xS_X12_faults) (fr_f_X12_faults (p := p6) (1 : Int32) p5.2 hp6) (fun o k h => Or.elim h (fun q => (fun q => Or.inr (Or.inr (Or.inl q))) q) (fun q0 => Or.elim q0 (fun q => (fun q => Or.inr (Or.inr (Or.inr (Or.inl q)))) q) (fun q1 => (fun q => Or.inr (Or.inr (Or.inr (Or.inr (Or.inl q))))) q1))) (fun o k h => h.elim) (fun o h => h.elim) (fun o h => h.elim))) hf
  · exact J14 p5.2 (sx_tr (sx_rf _ s) (sx_mono (D1 := xS_X12_isWord) (fr_f_X12_isWord (p := p5) (1 : UInt32) s hp5) (fun o k h => h.elim) (fun o k h => h.elim) (fun o h => h.elim) (fun o h => h.elim))) hf
abbrev xI_X12_table : Nat → Nat → Prop := fun o k => (o = 58 ∧ k = 10) ∨ (o = 58 ∧ k = 11) ∨ (o = 58 ∧ k = 12) ∨ (o = 58 ∧ k = 2) ∨ (o = 58 ∧ k = 4) ∨ (o = 58 ∧ k = 5) ∨ (o = 58 ∧ k = 6) ∨ (o = 58 ∧ k = 8) ∨ (o = 58 ∧ k = 9)
abbrev xJ_X12_table : Nat → Nat → Prop := fun o k => False
abbrev xA_X12_table : Nat → Prop := fun o => o = 59 ∨ o = 62
abbrev xB_X12_table : Nat → Prop := fun o => False
abbrev xS_X12_table : sx_D := (xI_X12_table, xJ_X12_table, xA_X12_table, xB_X12_table)
set_option maxRecDepth 100000 in
set_option maxHeartbeats 1000000 in
theorem fr_f_X12_table (s : sx_M) {p : Int32 × sx_M} (hf : f_X12_table s = some p) : sx_eq (xS_X12_table) s p.2 := by
  unfold f_X12_table at hf
  have J56 : ∀ (s_56 : sx_M), sx_eq (xS_X12_table) s s_56 → f_X12_table_J56 s_56 = some p → sx_eq (xS_X12_table) s p.2 := by
    intro s_56 hs_56 hf
    unfold f_X12_table_J56 at hf
    obtain ⟨b2, hb2, hf⟩ := ax_bind hf
    have hvb2 := wh_inv s_56 (fun a56 : sx_M => sx_eq (xS_X12_table) s a56) (fun e : sx_M => sx_eq (xS_X12_table) s e) hb2 ?_ hs_56
    rotate_left
    · intro a56 r ha56 hf
      unfold f_X12_table_L56 at hf
      rcases ax_or hf with ⟨hc2, hf⟩ | ⟨hc2, hf⟩
      · rcases ax_or hf with ⟨hc1, hf⟩ | ⟨hc1, hf⟩
        · exact ax_ret (P := Sum.elim (fun a56 : sx_M => sx_eq (xS_X12_table) s a56) (fun e : sx_M => sx_eq (xS_X12_table) s e)) hf ha56
        · obtain ⟨p1, hp1, hf⟩ := ax_bind hf
          exact ax_ret (P := Sum.elim (fun a56 : sx_M => sx_eq (xS_X12_table) s a56) (fun e : sx_M => sx_eq (xS_X12_table) s e)) hf (sx_tr ha56 (sx_mono (D1 := xS_X12_readsWorker) (fr_f_X12_readsWorker (p := p1) a56 hp1) (fun o k h => Or.elim h (fun q => (fun q => Or.inl q) q) (fun q0 => Or.elim q0 (fun q => (fun q => Or.inr (Or.inl q)) q) (fun q1 => Or.elim q1 (fun q => (fun q => Or.inr (Or.inr (Or.inl q))) q) (fun q2 => Or.elim q2 (fun q => (fun q => Or.inr (Or.inr (Or.inr (Or.inr (Or.inr (Or.inl q)))))) q) (fun q3 => Or.elim q3 (fun q => (fun q => Or.inr (Or.inr (Or.inr (Or.inr (Or.inr (Or.inr (Or.inl q))))))) q) (fun q4 => Or.elim q4 (fun q => (fun q => Or.inr (Or.inr (Or.inr (Or.inr (Or.inr (Or.inr (Or.inr (Or.inl q)))))))) q) (fun q5 => (fun q => Or.inr (Or.inr (Or.inr (Or.inr (Or.inr (Or.inr (Or.inr (Or.inr (q))))))))) q5))))))) (fun o k h => h.elim) (fun o h => (fun q => Or.inr (q)) h) (fun o h => h.elim)))
      · exact ax_ret (P := Sum.elim (fun a56 : sx_M => sx_eq (xS_X12_table) s a56) (fun e : sx_M => sx_eq (xS_X12_table) s e)) hf ha56
    rcases ax_or hf with ⟨hc6, hf⟩ | ⟨hc6, hf⟩
    · obtain ⟨b3, hb3, hf⟩ := ax_bind hf
      have hvb3 := wh_inv ((0 : Int32), (wI b2 58 4 (0 : Int32))) (fun a94 : Int32 × sx_M => sx_eq (xS_X12_table) s a94.2) (fun e : sx_M => sx_eq (xS_X12_table) s e) hb3 ?_ (sx_wI' (D := (xS_X12_table)) hvb2 ((fun q => Or.inr (Or.inr (Or.inr (Or.inr (Or.inl q))))) ⟨rfl, rfl⟩))
      rotate_left
      · intro a94 r ha94 hf
        unfold f_X12_table_L94 at hf
        rcases ax_or hf with ⟨hc5, hf⟩ | ⟨hc5, hf⟩
        · exact ax_ret (P := Sum.elim (fun a94 : Int32 × sx_M => sx_eq (xS_X12_table) s a94.2) (fun e : sx_M => sx_eq (xS_X12_table) s e)) hf ha94
        · obtain ⟨_, hf⟩ := ax_ite hf
          obtain ⟨_, hf⟩ := ax_ite hf
          exact ax_ret (P := Sum.elim (fun a94 : Int32 × sx_M => sx_eq (xS_X12_table) s a94.2) (fun e : sx_M => sx_eq (xS_X12_table) s e)) hf (sx_wA' (D := (xS_X12_table)) ha94 ((fun q => Or.inl q) rfl))
      obtain ⟨p4, hp4, hf⟩ := ax_bind hf
      exact ax_ret (P := fun q : Int32 × sx_M => sx_eq (xS_X12_table) s q.2) hf (sx_tr (sx_wI' (D := (xS_X12_table)) hvb3 ((fun q => Or.inr (Or.inr (Or.inr (Or.inl q)))) ⟨rfl, rfl⟩)) (sx_mono (D1 := xS_X12_workers) (fr_f_X12_workers (p := p4) (wI b3 58 2 (0 : Int32)) hp4) (fun o k h => h.elim) (fun o k h => h.elim) (fun o h => h.elim) (fun o h => h.elim)))
    · exact ax_ret (P := fun q : Int32 × sx_M => sx_eq (xS_X12_table) s q.2) hf (sx_wI' (D := (xS_X12_table)) hvb2 ((fun q => Or.inr (Or.inr (Or.inr (Or.inr (Or.inl q))))) ⟨rfl, rfl⟩))
  obtain ⟨b5, hb5, hf⟩ := ax_bind hf
  have hvb5 := wh_inv ((0 : Int32), s) (fun a2 : Int32 × sx_M => sx_eq (xS_X12_table) s a2.2) (fun e : sx_M => sx_eq (xS_X12_table) s e) hb5 ?_ (sx_rf _ s)
  rotate_left
  · intro a2 r ha2 hf
    unfold f_X12_table_L2 at hf
    rcases ax_or hf with ⟨hc8, hf⟩ | ⟨hc8, hf⟩
    · exact ax_ret (P := Sum.elim (fun a2 : Int32 × sx_M => sx_eq (xS_X12_table) s a2.2) (fun e : sx_M => sx_eq (xS_X12_table) s e)) hf ha2
    · obtain ⟨_, hf⟩ := ax_ite hf
      exact ax_ret (P := Sum.elim (fun a2 : Int32 × sx_M => sx_eq (xS_X12_table) s a2.2) (fun e : sx_M => sx_eq (xS_X12_table) s e)) hf (sx_wA' (D := (xS_X12_table)) ha2 ((fun q => Or.inr (q)) rfl))
  obtain ⟨p6, hp6, hf⟩ := ax_bind hf
  rcases ax_or hf with ⟨hc9, hf⟩ | ⟨hc9, hf⟩
  · exact J56 p6 (sx_tr (sx_wI' (D := (xS_X12_table)) (sx_wI' (D := (xS_X12_table)) (sx_wI' (D := (xS_X12_table)) (sx_wI' (D := (xS_X12_table)) hvb5 ((fun q => Or.inr (Or.inr (Or.inr (Or.inr (Or.inr (Or.inr (Or.inr (Or.inl q)))))))) ⟨rfl, rfl⟩)) ((fun q => Or.inr (Or.inr (Or.inl q))) ⟨rfl, rfl⟩)) ((fun q => Or.inr (Or.inr (Or.inr (Or.inr (Or.inr (Or.inl q)))))) ⟨rfl, rfl⟩)) ((fun q => Or.inr (Or.inr (Or.inr (Or.inr (Or.inr (Or.inr (Or.inl q))))))) ⟨rfl, rfl⟩)) (sx_mono (D1 := xS_X12_next) (fr_f_X12_next (p := p6) (wI (wI (wI (wI b5 58 8 (0 : Int32)) 58 12 (0 : Int32)) 58 5 (0 : Int32)) 58 6 (-1 : Int32)) hp6) (fun o k h => Or.elim h (fun q => (fun q => Or.inl q) q) (fun q0 => Or.elim q0 (fun q => (fun q => Or.inr (Or.inl q)) q) (fun q1 => Or.elim q1 (fun q => (fun q => Or.inr (Or.inr (Or.inr (Or.inr (Or.inr (Or.inr (Or.inr (Or.inl q)))))))) q) (fun q2 => (fun q => Or.inr (Or.inr (Or.inr (Or.inr (Or.inr (Or.inr (Or.inr (Or.inr (q))))))))) q2)))) (fun o k h => h.elim) (fun o h => h.elim) (fun o h => h.elim))) hf
  · obtain ⟨p7, hp7, hf⟩ := ax_bind hf
    exact J56 p7 (sx_tr (sx_tr (sx_wI' (D := (xS_X12_table)) (sx_wI' (D := (xS_X12_table)) (sx_wI' (D := (xS_X12_table)) (sx_wI' (D := (xS_X12_table)) hvb5 ((fun q => Or.inr (Or.inr (Or.inr (Or.inr (Or.inr (Or.inr (Or.inr (Or.inl q)))))))) ⟨rfl, rfl⟩)) ((fun q => Or.inr (Or.inr (Or.inl q))) ⟨rfl, rfl⟩)) ((fun q => Or.inr (Or.inr (Or.inr (Or.inr (Or.inr (Or.inl q)))))) ⟨rfl, rfl⟩)) ((fun q => Or.inr (Or.inr (Or.inr (Or.inr (Or.inr (Or.inr (Or.inl q))))))) ⟨rfl, rfl⟩)) (sx_mono (D1 := xS_X12_next) (fr_f_X12_next (p := p6) (wI (wI (wI (wI b5 58 8 (0 : Int32)) 58 12 (0 : Int32)) 58 5 (0 : Int32)) 58 6 (-1 : Int32)) hp6) (fun o k h => Or.elim h (fun q => (fun q => Or.inl q) q) (fun q0 => Or.elim q0 (fun q => (fun q => Or.inr (Or.inl q)) q) (fun q1 => Or.elim q1 (fun q => (fun q => Or.inr (Or.inr (Or.inr (Or.inr (Or.inr (Or.inr (Or.inr (Or.inl q)))))))) q) (fun q2 => (fun q => Or.inr (Or.inr (Or.inr (Or.inr (Or.inr (Or.inr (Or.inr (Or.inr (q))))))))) q2)))) (fun o k h => h.elim) (fun o h => h.elim) (fun o h => h.elim))) (sx_mono (D1 := xS_X12_readsJobs) (fr_f_X12_readsJobs (p := p7) p6 hp7) (fun o k h => Or.elim h (fun q => (fun q => Or.inl q) q) (fun q0 => Or.elim q0 (fun q => (fun q => Or.inr (Or.inl q)) q) (fun q1 => Or.elim q1 (fun q => (fun q => Or.inr (Or.inr (Or.inl q))) q) (fun q2 => Or.elim q2 (fun q => (fun q => Or.inr (Or.inr (Or.inr (Or.inr (Or.inr (Or.inl q)))))) q) (fun q3 => Or.elim q3 (fun q => (fun q => Or.inr (Or.inr (Or.inr (Or.inr (Or.inr (Or.inr (Or.inl q))))))) q) (fun q4 => Or.elim q4 (fun q => (fun q => Or.inr (Or.inr (Or.inr (Or.inr (Or.inr (Or.inr (Or.inr (Or.inl q)))))))) q) (fun q5 => (fun q => Or.inr (Or.inr (Or.inr (Or.inr (Or.inr (Or.inr (Or.inr (Or.inr (q))))))))) q5))))))) (fun o k h => h.elim) (fun o h => (fun q => Or.inr (q)) h) (fun o h => h.elim))) hf
abbrev xI_X12_fault : Nat → Nat → Prop := fun o k => False
abbrev xJ_X12_fault : Nat → Nat → Prop := fun o k => False
abbrev xA_X12_fault : Nat → Prop := fun o => False
abbrev xB_X12_fault : Nat → Prop := fun o => False
abbrev xS_X12_fault : sx_D := (xI_X12_fault, xJ_X12_fault, xA_X12_fault, xB_X12_fault)
set_option maxRecDepth 100000 in
set_option maxHeartbeats 1000000 in
theorem fr_f_X12_fault (x1 : Int32) (s : sx_M) {p : Int32 × sx_M} (hf : f_X12_fault x1 s = some p) : sx_eq (xS_X12_fault) s p.2 := by
  unfold f_X12_fault at hf
  rcases ax_or hf with ⟨hc2, hf⟩ | ⟨hc2, hf⟩
  · exact ax_ret (P := fun q : Int32 × sx_M => sx_eq (xS_X12_fault) s q.2) hf (sx_rf _ s)
  · rcases ax_or hf with ⟨hc1, hf⟩ | ⟨hc1, hf⟩
    · exact ax_ret (P := fun q : Int32 × sx_M => sx_eq (xS_X12_fault) s q.2) hf (sx_rf _ s)
    · exact ax_ret (P := fun q : Int32 × sx_M => sx_eq (xS_X12_fault) s q.2) hf (sx_rf _ s)
abbrev xI_X12_digit : Nat → Nat → Prop := fun o k => False
abbrev xJ_X12_digit : Nat → Nat → Prop := fun o k => False
abbrev xA_X12_digit : Nat → Prop := fun o => False
abbrev xB_X12_digit : Nat → Prop := fun o => False
abbrev xS_X12_digit : sx_D := (xI_X12_digit, xJ_X12_digit, xA_X12_digit, xB_X12_digit)
set_option maxRecDepth 100000 in
set_option maxHeartbeats 1000000 in
theorem fr_f_X12_digit (x0 : Int32) (x1 : Int32) (x2 : Int32) (s : sx_M) {p : Int32 × sx_M} (hf : f_X12_digit x0 x1 x2 s = some p) : sx_eq (xS_X12_digit) s p.2 := by
  unfold f_X12_digit at hf
  exact ax_ret (P := fun q : Int32 × sx_M => sx_eq (xS_X12_digit) s q.2) hf (sx_rf _ s)
abbrev xI_X12_jobOf : Nat → Nat → Prop := fun o k => False
abbrev xJ_X12_jobOf : Nat → Nat → Prop := fun o k => False
abbrev xA_X12_jobOf : Nat → Prop := fun o => False
abbrev xB_X12_jobOf : Nat → Prop := fun o => False
abbrev xS_X12_jobOf : sx_D := (xI_X12_jobOf, xJ_X12_jobOf, xA_X12_jobOf, xB_X12_jobOf)
set_option maxRecDepth 100000 in
set_option maxHeartbeats 1000000 in
theorem fr_f_X12_jobOf (x1 : Int32) (x2 : Int32) (s : sx_M) {p : Int32 × sx_M} (hf : f_X12_jobOf x1 x2 s = some p) : sx_eq (xS_X12_jobOf) s p.2 := by
  unfold f_X12_jobOf at hf
  obtain ⟨_, hf⟩ := ax_ite hf
  obtain ⟨p1, hp1, hf⟩ := ax_bind hf
  obtain ⟨p2, hp2, hf⟩ := ax_bind hf
  exact ax_ret (P := fun q : Int32 × sx_M => sx_eq (xS_X12_jobOf) s q.2) hf (sx_tr (sx_tr (sx_rf _ s) (sx_mono (D1 := xS_X12_workers) (fr_f_X12_workers (p := p1) s hp1) (fun o k h => h.elim) (fun o k h => h.elim) (fun o h => h.elim) (fun o h => h.elim))) (sx_mono (D1 := xS_X12_digit) (fr_f_X12_digit (p := p2) (rA s 63 (x1).toNatClampNeg) x2 p1.1 p1.2 hp2) (fun o k h => h.elim) (fun o k h => h.elim) (fun o h => h.elim) (fun o h => h.elim)))
abbrev xI_X12_canTake : Nat → Nat → Prop := fun o k => False
abbrev xJ_X12_canTake : Nat → Nat → Prop := fun o k => False
abbrev xA_X12_canTake : Nat → Prop := fun o => False
abbrev xB_X12_canTake : Nat → Prop := fun o => False
abbrev xS_X12_canTake : sx_D := (xI_X12_canTake, xJ_X12_canTake, xA_X12_canTake, xB_X12_canTake)
set_option maxRecDepth 100000 in
set_option maxHeartbeats 1000000 in
theorem fr_f_X12_canTake (x1 : Int32) (x2 : Int32) (x3 : Int32) (x4 : Int32) (s : sx_M) {p : Int32 × sx_M} (hf : f_X12_canTake x1 x2 x3 x4 s = some p) : sx_eq (xS_X12_canTake) s p.2 := by
  unfold f_X12_canTake at hf
  rcases ax_or hf with ⟨hc4, hf⟩ | ⟨hc4, hf⟩
  · rcases ax_or hf with ⟨hc3, hf⟩ | ⟨hc3, hf⟩
    · exact ax_ret (P := fun q : Int32 × sx_M => sx_eq (xS_X12_canTake) s q.2) hf (sx_rf _ s)
    · exact ax_ret (P := fun q : Int32 × sx_M => sx_eq (xS_X12_canTake) s q.2) hf (sx_rf _ s)
  · obtain ⟨p1, hp1, hf⟩ := ax_bind hf
    rcases ax_or hf with ⟨hc2, hf⟩ | ⟨hc2, hf⟩
    · exact ax_ret (P := fun q : Int32 × sx_M => sx_eq (xS_X12_canTake) s q.2) hf (sx_tr (sx_rf _ s) (sx_mono (D1 := xS_X12_has) (fr_f_X12_has (p := p1) x3 x2 s hp1) (fun o k h => h.elim) (fun o k h => h.elim) (fun o h => h.elim) (fun o h => h.elim)))
    · obtain ⟨p2, hp2, hf⟩ := ax_bind hf
      rcases ax_or hf with ⟨hc1, hf⟩ | ⟨hc1, hf⟩
      · exact ax_ret (P := fun q : Int32 × sx_M => sx_eq (xS_X12_canTake) s q.2) hf (sx_tr (sx_tr (sx_rf _ s) (sx_mono (D1 := xS_X12_has) (fr_f_X12_has (p := p1) x3 x2 s hp1) (fun o k h => h.elim) (fun o k h => h.elim) (fun o h => h.elim) (fun o h => h.elim))) (sx_mono (D1 := xS_X12_costOf) (fr_f_X12_costOf (p := p2) x1 x2 p1.2 hp2) (fun o k h => h.elim) (fun o k h => h.elim) (fun o h => h.elim) (fun o h => h.elim)))
      · exact ax_ret (P := fun q : Int32 × sx_M => sx_eq (xS_X12_canTake) s q.2) hf (sx_tr (sx_tr (sx_rf _ s) (sx_mono (D1 := xS_X12_has) (fr_f_X12_has (p := p1) x3 x2 s hp1) (fun o k h => h.elim) (fun o k h => h.elim) (fun o h => h.elim) (fun o h => h.elim))) (sx_mono (D1 := xS_X12_costOf) (fr_f_X12_costOf (p := p2) x1 x2 p1.2 hp2) (fun o k h => h.elim) (fun o k h => h.elim) (fun o h => h.elim) (fun o h => h.elim)))
abbrev xI_X12_goesThrough : Nat → Nat → Prop := fun o k => (o = 58 ∧ k = 15)
abbrev xJ_X12_goesThrough : Nat → Nat → Prop := fun o k => False
abbrev xA_X12_goesThrough : Nat → Prop := fun o => o = 63 ∨ o = 64 ∨ o = 65
abbrev xB_X12_goesThrough : Nat → Prop := fun o => False
abbrev xS_X12_goesThrough : sx_D := (xI_X12_goesThrough, xJ_X12_goesThrough, xA_X12_goesThrough, xB_X12_goesThrough)
set_option maxRecDepth 100000 in
set_option maxHeartbeats 1000000 in
theorem fr_f_X12_goesThrough (x1 : Int32) (x2 : Int32) (s : sx_M) {p : sx_M} (hf : f_X12_goesThrough x1 x2 s = some p) : sx_eq (xS_X12_goesThrough) s p := by
  unfold f_X12_goesThrough at hf
  obtain ⟨p1, hp1, hf⟩ := ax_bind hf
  rcases ax_or hf with ⟨hc17, hf⟩ | ⟨hc17, hf⟩
  · exact ax_ret (P := fun q : sx_M => sx_eq (xS_X12_goesThrough) s q) hf (sx_wI' (D := (xS_X12_goesThrough)) (sx_wA' (D := (xS_X12_goesThrough)) (sx_wA' (D := (xS_X12_goesThrough)) (sx_tr (sx_wA' (D := (xS_X12_goesThrough)) (sx_wI' (D := (xS_X12_goesThrough)) (sx_rf _ s) ((fun q => q) ⟨rfl, rfl⟩)) ((fun q => Or.inr (Or.inr (q))) rfl)) (sx_mono (D1 := xS_X12_workers) (fr_f_X12_workers (p := p1) (wA (wI s 58 15 (0 : Int32)) 65 ((0 : Int32)).toNatClampNeg (-1 : Int32)) hp1) (fun o k h => h.elim) (fun o k h => h.elim) (fun o h => h.elim) (fun o h => h.elim))) ((fun q => Or.inl q) rfl)) ((fun q => Or.inr (Or.inl q)) rfl)) ((fun q => q) ⟨rfl, rfl⟩))
  · obtain ⟨b10, hb10, hf⟩ := ax_bind hf
    have hvb10 := wh_inv ((0 : Int32), (0 : Int32), (0 : Int32), (0 : Int32), p1.2) (fun a50 : Int32 × Int32 × Int32 × Int32 × sx_M => sx_eq (xS_X12_goesThrough) s a50.2.2.2.2) (fun e : sx_M => sx_eq (xS_X12_goesThrough) s e) hb10 ?_ (sx_tr (sx_wA' (D := (xS_X12_goesThrough)) (sx_wI' (D := (xS_X12_goesThrough)) (sx_rf _ s) ((fun q => q) ⟨rfl, rfl⟩)) ((fun q => Or.inr (Or.inr (q))) rfl)) (sx_mono (D1 := xS_X12_workers) (fr_f_X12_workers (p := p1) (wA (wI s 58 15 (0 : Int32)) 65 ((0 : Int32)).toNatClampNeg (-1 : Int32)) hp1) (fun o k h => h.elim) (fun o k h => h.elim) (fun o h => h.elim) (fun o h => h.elim)))
    rotate_left
    · intro a50 r ha50 hf
      unfold f_X12_goesThrough_L50 at hf
      have J209 : ∀ (y3_209 : Int32) (y4_209 : Int32) (y5_209 : Int32) (y6_209 : Int32) (y7_209 : Int32) (s_209 : sx_M), sx_eq (xS_X12_goesThrough) s s_209 → f_X12_goesThrough_L50_J209 x1 x2 y3_209 y4_209 y5_209 y6_209 y7_209 s_209 = some r → Sum.elim (fun a50 : Int32 × Int32 × Int32 × Int32 × sx_M => sx_eq (xS_X12_goesThrough) s a50.2.2.2.2) (fun e : sx_M => sx_eq (xS_X12_goesThrough) s e) r := by
        intro y3_209 y4_209 y5_209 y6_209 y7_209 s_209 hs_209 hf
        unfold f_X12_goesThrough_L50_J209 at hf
        obtain ⟨p2, hp2, hf⟩ := ax_bind hf
        obtain ⟨p3, hp3, hf⟩ := ax_bind hf
        rcases ax_or hf with ⟨hc4, hf⟩ | ⟨hc4, hf⟩
        · obtain ⟨_, hf⟩ := ax_ite hf
          obtain ⟨_, hf⟩ := ax_ite hf
          exact ax_ret (P := Sum.elim (fun a50 : Int32 × Int32 × Int32 × Int32 × sx_M => sx_eq (xS_X12_goesThrough) s a50.2.2.2.2) (fun e : sx_M => sx_eq (xS_X12_goesThrough) s e)) hf (sx_wI' (D := (xS_X12_goesThrough)) (sx_wA' (D := (xS_X12_goesThrough)) (sx_wA' (D := (xS_X12_goesThrough)) (sx_tr (sx_tr hs_209 (sx_mono (D1 := xS_X12_workers) (fr_f_X12_workers (p := p2) s_209 hp2) (fun o k h => h.elim) (fun o k h => h.elim) (fun o h => h.elim) (fun o h => h.elim))) (sx_mono (D1 := xS_X12_workers) (fr_f_X12_workers (p := p3) p2.2 hp3) (fun o k h => h.elim) (fun o k h => h.elim) (fun o h => h.elim) (fun o h => h.elim))) ((fun q => Or.inl q) rfl)) ((fun q => Or.inr (Or.inl q)) rfl)) ((fun q => q) ⟨rfl, rfl⟩))
        · obtain ⟨_, hf⟩ := ax_ite hf
          exact ax_ret (P := Sum.elim (fun a50 : Int32 × Int32 × Int32 × Int32 × sx_M => sx_eq (xS_X12_goesThrough) s a50.2.2.2.2) (fun e : sx_M => sx_eq (xS_X12_goesThrough) s e)) hf (sx_wA' (D := (xS_X12_goesThrough)) (sx_tr (sx_tr hs_209 (sx_mono (D1 := xS_X12_workers) (fr_f_X12_workers (p := p2) s_209 hp2) (fun o k h => h.elim) (fun o k h => h.elim) (fun o h => h.elim) (fun o h => h.elim))) (sx_mono (D1 := xS_X12_workers) (fr_f_X12_workers (p := p3) p2.2 hp3) (fun o k h => h.elim) (fun o k h => h.elim) (fun o h => h.elim) (fun o h => h.elim))) ((fun q => Or.inr (Or.inr (q))) rfl))
      have J100 : ∀ (y3_100 : Int32) (y4_100 : Int32) (y5_100 : Int32) (y6_100 : Int32) (s_100 : sx_M), sx_eq (xS_X12_goesThrough) s s_100 → f_X12_goesThrough_L50_J100 x1 x2 y3_100 y4_100 y5_100 y6_100 s_100 = some r → Sum.elim (fun a50 : Int32 × Int32 × Int32 × Int32 × sx_M => sx_eq (xS_X12_goesThrough) s a50.2.2.2.2) (fun e : sx_M => sx_eq (xS_X12_goesThrough) s e) r := by
        intro y3_100 y4_100 y5_100 y6_100 s_100 hs_100 hf
        unfold f_X12_goesThrough_L50_J100 at hf
        obtain ⟨p4, hp4, hf⟩ := ax_bind hf
        obtain ⟨p5, hp5, hf⟩ := ax_bind hf
        obtain ⟨_, hf⟩ := ax_ite hf
        obtain ⟨b7, hb7, hf⟩ := ax_bind hf
        have hvb7 := wh_inv (((rA p5.2 65 (y3_100).toNatClampNeg) + (1 : Int32)), p5.2) (fun a132 : Int32 × sx_M => sx_eq (xS_X12_goesThrough) s a132.2) (fun e : Int32 × sx_M => sx_eq (xS_X12_goesThrough) s e.2) hb7 ?_ (sx_tr (sx_tr hs_100 (sx_mono (D1 := xS_X12_workers) (fr_f_X12_workers (p := p4) s_100 hp4) (fun o k h => h.elim) (fun o k h => h.elim) (fun o h => h.elim) (fun o h => h.elim))) (sx_mono (D1 := xS_X12_workers) (fr_f_X12_workers (p := p5) p4.2 hp5) (fun o k h => h.elim) (fun o k h => h.elim) (fun o h => h.elim) (fun o h => h.elim)))
        rotate_left
        · intro a132 r ha132 hf
          unfold f_X12_goesThrough_L132 at hf
          rcases ax_or hf with ⟨hc7, hf⟩ | ⟨hc7, hf⟩
          · exact ax_ret (P := Sum.elim (fun a132 : Int32 × sx_M => sx_eq (xS_X12_goesThrough) s a132.2) (fun e : Int32 × sx_M => sx_eq (xS_X12_goesThrough) s e.2)) hf ha132
          · obtain ⟨p6, hp6, hf⟩ := ax_bind hf
            rcases ax_or hf with ⟨hc6, hf⟩ | ⟨hc6, hf⟩
            · exact ax_ret (P := Sum.elim (fun a132 : Int32 × sx_M => sx_eq (xS_X12_goesThrough) s a132.2) (fun e : Int32 × sx_M => sx_eq (xS_X12_goesThrough) s e.2)) hf (sx_tr ha132 (sx_mono (D1 := xS_X12_canTake) (fr_f_X12_canTake (p := p6) y3_100 a132.1 (x1 &&& (y4_100 ^^^ (-1 : Int32))) x2 a132.2 hp6) (fun o k h => h.elim) (fun o k h => h.elim) (fun o h => h.elim) (fun o h => h.elim)))
            · exact ax_ret (P := Sum.elim (fun a132 : Int32 × sx_M => sx_eq (xS_X12_goesThrough) s a132.2) (fun e : Int32 × sx_M => sx_eq (xS_X12_goesThrough) s e.2)) hf (sx_tr ha132 (sx_mono (D1 := xS_X12_canTake) (fr_f_X12_canTake (p := p6) y3_100 a132.1 (x1 &&& (y4_100 ^^^ (-1 : Int32))) x2 a132.2 hp6) (fun o k h => h.elim) (fun o k h => h.elim) (fun o h => h.elim) (fun o h => h.elim)))
        obtain ⟨_, hf⟩ := ax_ite hf
        rcases ax_or hf with ⟨hc10, hf⟩ | ⟨hc10, hf⟩
        · exact ax_ret (P := Sum.elim (fun a50 : Int32 × Int32 × Int32 × Int32 × sx_M => sx_eq (xS_X12_goesThrough) s a50.2.2.2.2) (fun e : sx_M => sx_eq (xS_X12_goesThrough) s e)) hf (sx_wA' (D := (xS_X12_goesThrough)) hvb7 ((fun q => Or.inr (Or.inr (q))) rfl))
        · rcases ax_or hf with ⟨hc9, hf⟩ | ⟨hc9, hf⟩
          · exact J209 y3_100 y4_100 y5_100 ((y6_100 >>> (((3 : Int32) * (p4.1 - y3_100)) &&& 31)) <<< (((3 : Int32) * (p5.1 - y3_100)) &&& 31)) b7.1 (wA b7.2 65 (y3_100).toNatClampNeg b7.1) (sx_wA' (D := (xS_X12_goesThrough)) hvb7 ((fun q => Or.inr (Or.inr (q))) rfl)) hf
          · obtain ⟨p8, hp8, hf⟩ := ax_bind hf
            exact J209 y3_100 (y4_100 ||| ((1 : Int32) <<< (b7.1 &&& 31))) (y5_100 + p8.1) ((y6_100 >>> (((3 : Int32) * (p4.1 - y3_100)) &&& 31)) <<< (((3 : Int32) * (p5.1 - y3_100)) &&& 31)) b7.1 p8.2 (sx_tr (sx_wA' (D := (xS_X12_goesThrough)) hvb7 ((fun q => Or.inr (Or.inr (q))) rfl)) (sx_mono (D1 := xS_X12_costOf) (fr_f_X12_costOf (p := p8) y3_100 b7.1 (wA b7.2 65 (y3_100).toNatClampNeg b7.1) hp8) (fun o k h => h.elim) (fun o k h => h.elim) (fun o h => h.elim) (fun o h => h.elim))) hf
      rcases ax_or hf with ⟨hc16, hf⟩ | ⟨hc16, hf⟩
      · exact ax_ret (P := Sum.elim (fun a50 : Int32 × Int32 × Int32 × Int32 × sx_M => sx_eq (xS_X12_goesThrough) s a50.2.2.2.2) (fun e : sx_M => sx_eq (xS_X12_goesThrough) s e)) hf ha50
      · obtain ⟨_, hf⟩ := ax_ite hf
        rcases ax_or hf with ⟨hc15, hf⟩ | ⟨hc15, hf⟩
        · exact J100 a50.1 a50.2.1 a50.2.2.1 a50.2.2.2.1 a50.2.2.2.2 ha50 hf
        · rcases ax_or hf with ⟨hc14, hf⟩ | ⟨hc14, hf⟩
          · exact J100 a50.1 a50.2.1 a50.2.2.1 a50.2.2.2.1 a50.2.2.2.2 ha50 hf
          · obtain ⟨_, hf⟩ := ax_ite hf
            obtain ⟨_, hf⟩ := ax_ite hf
            obtain ⟨p9, hp9, hf⟩ := ax_bind hf
            exact J100 a50.1 (a50.2.1 &&& (((1 : Int32) <<< ((rA a50.2.2.2.2 65 (a50.1).toNatClampNeg) &&& 31)) ^^^ (-1 : Int32))) (a50.2.2.1 - p9.1) a50.2.2.2.1 p9.2 (sx_tr ha50 (sx_mono (D1 := xS_X12_costOf) (fr_f_X12_costOf (p := p9) a50.1 (rA a50.2.2.2.2 65 (a50.1).toNatClampNeg) a50.2.2.2.2 hp9) (fun o k h => h.elim) (fun o k h => h.elim) (fun o h => h.elim) (fun o h => h.elim))) hf
    exact ax_ret (P := fun q : sx_M => sx_eq (xS_X12_goesThrough) s q) hf hvb10
abbrev xI_X12_allJobs : Nat → Nat → Prop := fun o k => False
abbrev xJ_X12_allJobs : Nat → Nat → Prop := fun o k => False
abbrev xA_X12_allJobs : Nat → Prop := fun o => False
abbrev xB_X12_allJobs : Nat → Prop := fun o => False
abbrev xS_X12_allJobs : sx_D := (xI_X12_allJobs, xJ_X12_allJobs, xA_X12_allJobs, xB_X12_allJobs)
set_option maxRecDepth 100000 in
set_option maxHeartbeats 1000000 in
theorem fr_f_X12_allJobs (s : sx_M) {p : Int32 × sx_M} (hf : f_X12_allJobs s = some p) : sx_eq (xS_X12_allJobs) s p.2 := by
  unfold f_X12_allJobs at hf
  obtain ⟨p1, hp1, hf⟩ := ax_bind hf
  exact ax_ret (P := fun q : Int32 × sx_M => sx_eq (xS_X12_allJobs) s q.2) hf (sx_tr (sx_rf _ s) (sx_mono (D1 := xS_X12_jobs) (fr_f_X12_jobs (p := p1) s hp1) (fun o k h => h.elim) (fun o k h => h.elim) (fun o h => h.elim) (fun o h => h.elim)))
abbrev xI_X12_goesAll : Nat → Nat → Prop := fun o k => (o = 58 ∧ k = 15)
abbrev xJ_X12_goesAll : Nat → Nat → Prop := fun o k => False
abbrev xA_X12_goesAll : Nat → Prop := fun o => o = 63 ∨ o = 64 ∨ o = 65
abbrev xB_X12_goesAll : Nat → Prop := fun o => False
abbrev xS_X12_goesAll : sx_D := (xI_X12_goesAll, xJ_X12_goesAll, xA_X12_goesAll, xB_X12_goesAll)
set_option maxRecDepth 100000 in
set_option maxHeartbeats 1000000 in
theorem fr_f_X12_goesAll (s : sx_M) {p : sx_M} (hf : f_X12_goesAll s = some p) : sx_eq (xS_X12_goesAll) s p := by
  unfold f_X12_goesAll at hf
  obtain ⟨p1, hp1, hf⟩ := ax_bind hf
  obtain ⟨p2, hp2, hf⟩ := ax_bind hf
  exact ax_ret (P := fun q : sx_M => sx_eq (xS_X12_goesAll) s q) hf (sx_tr (sx_tr (sx_rf _ s) (sx_mono (D1 := xS_X12_allJobs) (fr_f_X12_allJobs (p := p1) s hp1) (fun o k h => h.elim) (fun o k h => h.elim) (fun o h => h.elim) (fun o h => h.elim))) (sx_mono (D1 := xS_X12_goesThrough) (fr_f_X12_goesThrough (p := p2) p1.1 (-1 : Int32) p1.2 hp2) (fun o k h => (fun q => q) h) (fun o k h => h.elim) (fun o h => Or.elim h (fun q => (fun q => Or.inl q) q) (fun q0 => Or.elim q0 (fun q => (fun q => Or.inr (Or.inl q)) q) (fun q1 => (fun q => Or.inr (Or.inr (q))) q1))) (fun o h => h.elim)))
abbrev xI_X12_least : Nat → Nat → Prop := fun o k => False
abbrev xJ_X12_least : Nat → Nat → Prop := fun o k => False
abbrev xA_X12_least : Nat → Prop := fun o => False
abbrev xB_X12_least : Nat → Prop := fun o => False
abbrev xS_X12_least : sx_D := (xI_X12_least, xJ_X12_least, xA_X12_least, xB_X12_least)
set_option maxRecDepth 100000 in
set_option maxHeartbeats 1000000 in
theorem fr_f_X12_least (s : sx_M) {p : Int32 × sx_M} (hf : f_X12_least s = some p) : sx_eq (xS_X12_least) s p.2 := by
  unfold f_X12_least at hf
  obtain ⟨b1, hb1, hf⟩ := ax_bind hf
  have hvb1 := wh_inv ((-1 : Int32), (0 : Int32), s) (fun a4 : Int32 × Int32 × sx_M => sx_eq (xS_X12_least) s a4.2.2) (fun e : Int32 × sx_M => sx_eq (xS_X12_least) s e.2) hb1 ?_ (sx_rf _ s)
  rotate_left
  · intro a4 r ha4 hf
    unfold f_X12_least_L4 at hf
    have J32 : ∀ (y2_32 : Int32) (s_32 : sx_M), sx_eq (xS_X12_least) s s_32 → f_X12_least_L4_J32 y2_32 s_32 = some r → Sum.elim (fun a4 : Int32 × Int32 × sx_M => sx_eq (xS_X12_least) s a4.2.2) (fun e : Int32 × sx_M => sx_eq (xS_X12_least) s e.2) r := by
      intro y2_32 s_32 hs_32 hf
      unfold f_X12_least_L4_J32 at hf
      exact ax_ret (P := Sum.elim (fun a4 : Int32 × Int32 × sx_M => sx_eq (xS_X12_least) s a4.2.2) (fun e : Int32 × sx_M => sx_eq (xS_X12_least) s e.2)) hf hs_32
    rcases ax_or hf with ⟨hc5, hf⟩ | ⟨hc5, hf⟩
    · exact ax_ret (P := Sum.elim (fun a4 : Int32 × Int32 × sx_M => sx_eq (xS_X12_least) s a4.2.2) (fun e : Int32 × sx_M => sx_eq (xS_X12_least) s e.2)) hf ha4
    · rcases ax_or hf with ⟨hc4, hf⟩ | ⟨hc4, hf⟩
      · exact J32 a4.2.1 a4.2.2 ha4 hf
      · obtain ⟨_, hf⟩ := ax_ite hf
        obtain ⟨_, hf⟩ := ax_ite hf
        rcases ax_or hf with ⟨hc3, hf⟩ | ⟨hc3, hf⟩
        · exact ax_ret (P := Sum.elim (fun a4 : Int32 × Int32 × sx_M => sx_eq (xS_X12_least) s a4.2.2) (fun e : Int32 × sx_M => sx_eq (xS_X12_least) s e.2)) hf ha4
        · exact J32 a4.2.1 a4.2.2 ha4 hf
  exact ax_ret (P := fun q : Int32 × sx_M => sx_eq (xS_X12_least) s q.2) hf hvb1
abbrev xI_X12_laysFirst : Nat → Nat → Prop := fun o k => (o = 58 ∧ k = 15) ∨ (o = 58 ∧ k = 18)
abbrev xJ_X12_laysFirst : Nat → Nat → Prop := fun o k => False
abbrev xA_X12_laysFirst : Nat → Prop := fun o => o = 63 ∨ o = 64 ∨ o = 65 ∨ o = 66
abbrev xB_X12_laysFirst : Nat → Prop := fun o => False
abbrev xS_X12_laysFirst : sx_D := (xI_X12_laysFirst, xJ_X12_laysFirst, xA_X12_laysFirst, xB_X12_laysFirst)
set_option maxRecDepth 100000 in
set_option maxHeartbeats 1000000 in
theorem fr_f_X12_laysFirst (s : sx_M) {p : sx_M} (hf : f_X12_laysFirst s = some p) : sx_eq (xS_X12_laysFirst) s p := by
  unfold f_X12_laysFirst at hf
  obtain ⟨p1, hp1, hf⟩ := ax_bind hf
  obtain ⟨b4, hb4, hf⟩ := ax_bind hf
  have hvb4 := wh_inv ((0 : Int32), (wI p1 58 18 (0 : Int32))) (fun a11 : Int32 × sx_M => sx_eq (xS_X12_laysFirst) s a11.2) (fun e : sx_M => sx_eq (xS_X12_laysFirst) s e) hb4 ?_ (sx_wI' (D := (xS_X12_laysFirst)) (sx_tr (sx_rf _ s) (sx_mono (D1 := xS_X12_goesAll) (fr_f_X12_goesAll (p := p1) s hp1) (fun o k h => (fun q => Or.inl q) h) (fun o k h => h.elim) (fun o h => Or.elim h (fun q => (fun q => Or.inl q) q) (fun q0 => Or.elim q0 (fun q => (fun q => Or.inr (Or.inl q)) q) (fun q1 => (fun q => Or.inr (Or.inr (Or.inl q))) q1))) (fun o h => h.elim))) ((fun q => Or.inr (q)) ⟨rfl, rfl⟩))
  rotate_left
  · intro a11 r ha11 hf
    unfold f_X12_laysFirst_L11 at hf
    have J54 : ∀ (y1_54 : Int32) (s_54 : sx_M), sx_eq (xS_X12_laysFirst) s s_54 → f_X12_laysFirst_L11_J54 y1_54 s_54 = some r → Sum.elim (fun a11 : Int32 × sx_M => sx_eq (xS_X12_laysFirst) s a11.2) (fun e : sx_M => sx_eq (xS_X12_laysFirst) s e) r := by
      intro y1_54 s_54 hs_54 hf
      unfold f_X12_laysFirst_L11_J54 at hf
      obtain ⟨p2, hp2, hf⟩ := ax_bind hf
      obtain ⟨b3, hb3, hf⟩ := ax_bind hf
      have hvb3 := wh_inv (((rI (wI p2.2 58 18 p2.1) 58 18) - (1 : Int32)), (wI p2.2 58 18 p2.1)) (fun a77 : Int32 × sx_M => sx_eq (xS_X12_laysFirst) s a77.2) (fun e : Int32 × sx_M => sx_eq (xS_X12_laysFirst) s e.2) hb3 ?_ (sx_wI' (D := (xS_X12_laysFirst)) (sx_tr hs_54 (sx_mono (D1 := xS_J9_min_7cf53) (fr_f_J9_min_7cf53 (p := p2) (200 : Int32) ((rI s_54 58 18) + (1 : Int32)) s_54 hp2) (fun o k h => h.elim) (fun o k h => h.elim) (fun o h => h.elim) (fun o h => h.elim))) ((fun q => Or.inr (q)) ⟨rfl, rfl⟩))
      rotate_left
      · intro a77 r ha77 hf
        unfold f_X12_laysFirst_L77 at hf
        rcases ax_or hf with ⟨hc7, hf⟩ | ⟨hc7, hf⟩
        · exact ax_ret (P := Sum.elim (fun a77 : Int32 × sx_M => sx_eq (xS_X12_laysFirst) s a77.2) (fun e : Int32 × sx_M => sx_eq (xS_X12_laysFirst) s e.2)) hf ha77
        · obtain ⟨_, hf⟩ := ax_ite hf
          obtain ⟨_, hf⟩ := ax_ite hf
          obtain ⟨_, hf⟩ := ax_ite hf
          rcases ax_or hf with ⟨hc6, hf⟩ | ⟨hc6, hf⟩
          · exact ax_ret (P := Sum.elim (fun a77 : Int32 × sx_M => sx_eq (xS_X12_laysFirst) s a77.2) (fun e : Int32 × sx_M => sx_eq (xS_X12_laysFirst) s e.2)) hf ha77
          · obtain ⟨_, hf⟩ := ax_ite hf
            obtain ⟨_, hf⟩ := ax_ite hf
            exact ax_ret (P := Sum.elim (fun a77 : Int32 × sx_M => sx_eq (xS_X12_laysFirst) s a77.2) (fun e : Int32 × sx_M => sx_eq (xS_X12_laysFirst) s e.2)) hf (sx_wA' (D := (xS_X12_laysFirst)) ha77 ((fun q => Or.inr (Or.inr (Or.inr (q)))) rfl))
      obtain ⟨_, hf⟩ := ax_ite hf
      exact ax_ret (P := Sum.elim (fun a11 : Int32 × sx_M => sx_eq (xS_X12_laysFirst) s a11.2) (fun e : sx_M => sx_eq (xS_X12_laysFirst) s e)) hf (sx_wA' (D := (xS_X12_laysFirst)) hvb3 ((fun q => Or.inr (Or.inr (Or.inr (q)))) rfl))
    rcases ax_or hf with ⟨hc13, hf⟩ | ⟨hc13, hf⟩
    · exact ax_ret (P := Sum.elim (fun a11 : Int32 × sx_M => sx_eq (xS_X12_laysFirst) s a11.2) (fun e : sx_M => sx_eq (xS_X12_laysFirst) s e)) hf ha11
    · rcases ax_or hf with ⟨hc12, hf⟩ | ⟨hc12, hf⟩
      · obtain ⟨_, hf⟩ := ax_ite hf
        obtain ⟨_, hf⟩ := ax_ite hf
        rcases ax_or hf with ⟨hc11, hf⟩ | ⟨hc11, hf⟩
        · exact J54 a11.1 a11.2 ha11 hf
        · exact ax_ret (P := Sum.elim (fun a11 : Int32 × sx_M => sx_eq (xS_X12_laysFirst) s a11.2) (fun e : sx_M => sx_eq (xS_X12_laysFirst) s e)) hf ha11
      · exact J54 a11.1 a11.2 ha11 hf
  exact ax_ret (P := fun q : sx_M => sx_eq (xS_X12_laysFirst) s q) hf hvb4
abbrev xI_X12_isRank : Nat → Nat → Prop := fun o k => False
abbrev xJ_X12_isRank : Nat → Nat → Prop := fun o k => False
abbrev xA_X12_isRank : Nat → Prop := fun o => False
abbrev xB_X12_isRank : Nat → Prop := fun o => False
abbrev xS_X12_isRank : sx_D := (xI_X12_isRank, xJ_X12_isRank, xA_X12_isRank, xB_X12_isRank)
set_option maxRecDepth 100000 in
set_option maxHeartbeats 1000000 in
theorem fr_f_X12_isRank (x0 : Int32) (s : sx_M) {p : Int32 × sx_M} (hf : f_X12_isRank x0 s = some p) : sx_eq (xS_X12_isRank) s p.2 := by
  unfold f_X12_isRank at hf
  obtain ⟨p1, hp1, hf⟩ := ax_bind hf
  obtain ⟨_, hf⟩ := ax_ite hf
  exact ax_ret (P := fun q : Int32 × sx_M => sx_eq (xS_X12_isRank) s q.2) hf (sx_tr (sx_rf _ s) (sx_mono (D1 := xS_X12_in) (fr_f_X12_in (p := p1) ((x0).toInt64) (0 : Int64) (199 : Int64) s hp1) (fun o k h => h.elim) (fun o k h => h.elim) (fun o h => h.elim) (fun o h => h.elim)))
abbrev xI_X12_isThere : Nat → Nat → Prop := fun o k => False
abbrev xJ_X12_isThere : Nat → Nat → Prop := fun o k => False
abbrev xA_X12_isThere : Nat → Prop := fun o => False
abbrev xB_X12_isThere : Nat → Prop := fun o => False
abbrev xS_X12_isThere : sx_D := (xI_X12_isThere, xJ_X12_isThere, xA_X12_isThere, xB_X12_isThere)
set_option maxRecDepth 100000 in
set_option maxHeartbeats 1000000 in
theorem fr_f_X12_isThere (x1 : Int32) (s : sx_M) {p : Int32 × sx_M} (hf : f_X12_isThere x1 s = some p) : sx_eq (xS_X12_isThere) s p.2 := by
  unfold f_X12_isThere at hf
  obtain ⟨p1, hp1, hf⟩ := ax_bind hf
  rcases ax_or hf with ⟨hc2, hf⟩ | ⟨hc2, hf⟩
  · exact ax_ret (P := fun q : Int32 × sx_M => sx_eq (xS_X12_isThere) s q.2) hf (sx_tr (sx_rf _ s) (sx_mono (D1 := xS_X12_isRank) (fr_f_X12_isRank (p := p1) x1 s hp1) (fun o k h => h.elim) (fun o k h => h.elim) (fun o h => h.elim) (fun o h => h.elim)))
  · rcases ax_or hf with ⟨hc1, hf⟩ | ⟨hc1, hf⟩
    · exact ax_ret (P := fun q : Int32 × sx_M => sx_eq (xS_X12_isThere) s q.2) hf (sx_tr (sx_rf _ s) (sx_mono (D1 := xS_X12_isRank) (fr_f_X12_isRank (p := p1) x1 s hp1) (fun o k h => h.elim) (fun o k h => h.elim) (fun o h => h.elim) (fun o h => h.elim)))
    · exact ax_ret (P := fun q : Int32 × sx_M => sx_eq (xS_X12_isThere) s q.2) hf (sx_tr (sx_rf _ s) (sx_mono (D1 := xS_X12_isRank) (fr_f_X12_isRank (p := p1) x1 s hp1) (fun o k h => h.elim) (fun o k h => h.elim) (fun o h => h.elim) (fun o h => h.elim)))
abbrev xI_X12_count : Nat → Nat → Prop := fun o k => (o = 58 ∧ k = 15)
abbrev xJ_X12_count : Nat → Nat → Prop := fun o k => False
abbrev xA_X12_count : Nat → Prop := fun o => o = 63 ∨ o = 64 ∨ o = 65
abbrev xB_X12_count : Nat → Prop := fun o => False
abbrev xS_X12_count : sx_D := (xI_X12_count, xJ_X12_count, xA_X12_count, xB_X12_count)
set_option maxRecDepth 100000 in
set_option maxHeartbeats 1000000 in
theorem fr_f_X12_count (x1 : Int32) (s : sx_M) {p : Int32 × sx_M} (hf : f_X12_count x1 s = some p) : sx_eq (xS_X12_count) s p.2 := by
  unfold f_X12_count at hf
  obtain ⟨b5, hb5, hf⟩ := ax_bind hf
  have hvb5 := wh_inv ((0 : Int32), (0 : Int32), s) (fun a4 : Int32 × Int32 × sx_M => sx_eq (xS_X12_count) s a4.2.2) (fun e : Int32 × sx_M => sx_eq (xS_X12_count) s e.2) hb5 ?_ (sx_rf _ s)
  rotate_left
  · intro a4 r ha4 hf
    unfold f_X12_count_L4 at hf
    obtain ⟨p1, hp1, hf⟩ := ax_bind hf
    rcases ax_or hf with ⟨hc3, hf⟩ | ⟨hc3, hf⟩
    · exact ax_ret (P := Sum.elim (fun a4 : Int32 × Int32 × sx_M => sx_eq (xS_X12_count) s a4.2.2) (fun e : Int32 × sx_M => sx_eq (xS_X12_count) s e.2)) hf (sx_tr ha4 (sx_mono (D1 := xS_X12_workers) (fr_f_X12_workers (p := p1) a4.2.2 hp1) (fun o k h => h.elim) (fun o k h => h.elim) (fun o h => h.elim) (fun o h => h.elim)))
    · obtain ⟨b4, hb4, hf⟩ := ax_bind hf
      have hvb4 := wh_inv (a4.1, (0 : Int32), p1.2) (fun a15 : Int32 × Int32 × sx_M => sx_eq (xS_X12_count) s a15.2.2) (fun e : Int32 × sx_M => sx_eq (xS_X12_count) s e.2) hb4 ?_ (sx_tr ha4 (sx_mono (D1 := xS_X12_workers) (fr_f_X12_workers (p := p1) a4.2.2 hp1) (fun o k h => h.elim) (fun o k h => h.elim) (fun o h => h.elim) (fun o h => h.elim)))
      rotate_left
      · intro a15 r ha15 hf
        unfold f_X12_count_L15 at hf
        have J42 : ∀ (y4_42 : Int32) (t0_42 : Int32) (t1_42 : Int32) (s_42 : sx_M), sx_eq (xS_X12_count) s s_42 → f_X12_count_L15_J42 x1 x1 a4.2.1 y4_42 t0_42 t1_42 s_42 = some r → Sum.elim (fun a15 : Int32 × Int32 × sx_M => sx_eq (xS_X12_count) s a15.2.2) (fun e : Int32 × sx_M => sx_eq (xS_X12_count) s e.2) r := by
          intro y4_42 t0_42 t1_42 s_42 hs_42 hf
          unfold f_X12_count_L15_J42 at hf
          exact ax_ret (P := Sum.elim (fun a15 : Int32 × Int32 × sx_M => sx_eq (xS_X12_count) s a15.2.2) (fun e : Int32 × sx_M => sx_eq (xS_X12_count) s e.2)) hf hs_42
        obtain ⟨p2, hp2, hf⟩ := ax_bind hf
        rcases ax_or hf with ⟨hc2, hf⟩ | ⟨hc2, hf⟩
        · exact ax_ret (P := Sum.elim (fun a15 : Int32 × Int32 × sx_M => sx_eq (xS_X12_count) s a15.2.2) (fun e : Int32 × sx_M => sx_eq (xS_X12_count) s e.2)) hf (sx_tr ha15 (sx_mono (D1 := xS_X12_jobs) (fr_f_X12_jobs (p := p2) a15.2.2 hp2) (fun o k h => h.elim) (fun o k h => h.elim) (fun o h => h.elim) (fun o h => h.elim)))
        · obtain ⟨p3, hp3, hf⟩ := ax_bind hf
          rcases ax_or hf with ⟨hc1, hf⟩ | ⟨hc1, hf⟩
          · exact J42 a15.2.1 a15.1 (1 : Int32) p3.2 (sx_tr (sx_tr ha15 (sx_mono (D1 := xS_X12_jobs) (fr_f_X12_jobs (p := p2) a15.2.2 hp2) (fun o k h => h.elim) (fun o k h => h.elim) (fun o h => h.elim) (fun o h => h.elim))) (sx_mono (D1 := xS_X12_costOf) (fr_f_X12_costOf (p := p3) a4.2.1 a15.2.1 p2.2 hp3) (fun o k h => h.elim) (fun o k h => h.elim) (fun o h => h.elim) (fun o h => h.elim))) hf
          · exact J42 a15.2.1 a15.1 (0 : Int32) p3.2 (sx_tr (sx_tr ha15 (sx_mono (D1 := xS_X12_jobs) (fr_f_X12_jobs (p := p2) a15.2.2 hp2) (fun o k h => h.elim) (fun o k h => h.elim) (fun o h => h.elim) (fun o h => h.elim))) (sx_mono (D1 := xS_X12_costOf) (fr_f_X12_costOf (p := p3) a4.2.1 a15.2.1 p2.2 hp3) (fun o k h => h.elim) (fun o k h => h.elim) (fun o h => h.elim) (fun o h => h.elim))) hf
      exact ax_ret (P := Sum.elim (fun a4 : Int32 × Int32 × sx_M => sx_eq (xS_X12_count) s a4.2.2) (fun e : Int32 × sx_M => sx_eq (xS_X12_count) s e.2)) hf hvb4
  obtain ⟨p6, hp6, hf⟩ := ax_bind hf
  rcases ax_or hf with ⟨hc4, hf⟩ | ⟨hc4, hf⟩
  · obtain ⟨p7, hp7, hf⟩ := ax_bind hf
    exact ax_ret (P := fun q : Int32 × sx_M => sx_eq (xS_X12_count) s q.2) hf (sx_tr (sx_tr hvb5 (sx_mono (D1 := xS_X12_goesAll) (fr_f_X12_goesAll (p := p6) b5.2 hp6) (fun o k h => (fun q => q) h) (fun o k h => h.elim) (fun o h => Or.elim h (fun q => (fun q => Or.inl q) q) (fun q0 => Or.elim q0 (fun q => (fun q => Or.inr (Or.inl q)) q) (fun q1 => (fun q => Or.inr (Or.inr (q))) q1))) (fun o h => h.elim))) (sx_mono (D1 := xS_X12_workers) (fr_f_X12_workers (p := p7) p6 hp7) (fun o k h => h.elim) (fun o k h => h.elim) (fun o h => h.elim) (fun o h => h.elim)))
  rcases ax_or hf with ⟨hc5, hf⟩ | ⟨hc5, hf⟩
  · obtain ⟨p8, hp8, hf⟩ := ax_bind hf
    exact ax_ret (P := fun q : Int32 × sx_M => sx_eq (xS_X12_count) s q.2) hf (sx_tr (sx_tr hvb5 (sx_mono (D1 := xS_X12_goesAll) (fr_f_X12_goesAll (p := p6) b5.2 hp6) (fun o k h => (fun q => q) h) (fun o k h => h.elim) (fun o h => Or.elim h (fun q => (fun q => Or.inl q) q) (fun q0 => Or.elim q0 (fun q => (fun q => Or.inr (Or.inl q)) q) (fun q1 => (fun q => Or.inr (Or.inr (q))) q1))) (fun o h => h.elim))) (sx_mono (D1 := xS_X12_jobs) (fr_f_X12_jobs (p := p8) p6 hp8) (fun o k h => h.elim) (fun o k h => h.elim) (fun o h => h.elim) (fun o h => h.elim)))
  rcases ax_or hf with ⟨hc6, hf⟩ | ⟨hc6, hf⟩
  · exact ax_ret (P := fun q : Int32 × sx_M => sx_eq (xS_X12_count) s q.2) hf (sx_tr hvb5 (sx_mono (D1 := xS_X12_goesAll) (fr_f_X12_goesAll (p := p6) b5.2 hp6) (fun o k h => (fun q => q) h) (fun o k h => h.elim) (fun o h => Or.elim h (fun q => (fun q => Or.inl q) q) (fun q0 => Or.elim q0 (fun q => (fun q => Or.inr (Or.inl q)) q) (fun q1 => (fun q => Or.inr (Or.inr (q))) q1))) (fun o h => h.elim)))
  rcases ax_or hf with ⟨hc7, hf⟩ | ⟨hc7, hf⟩
  · exact ax_ret (P := fun q : Int32 × sx_M => sx_eq (xS_X12_count) s q.2) hf (sx_tr hvb5 (sx_mono (D1 := xS_X12_goesAll) (fr_f_X12_goesAll (p := p6) b5.2 hp6) (fun o k h => (fun q => q) h) (fun o k h => h.elim) (fun o h => Or.elim h (fun q => (fun q => Or.inl q) q) (fun q0 => Or.elim q0 (fun q => (fun q => Or.inr (Or.inl q)) q) (fun q1 => (fun q => Or.inr (Or.inr (q))) q1))) (fun o h => h.elim)))
  rcases ax_or hf with ⟨hc8, hf⟩ | ⟨hc8, hf⟩
  · exact ax_ret (P := fun q : Int32 × sx_M => sx_eq (xS_X12_count) s q.2) hf (sx_tr hvb5 (sx_mono (D1 := xS_X12_goesAll) (fr_f_X12_goesAll (p := p6) b5.2 hp6) (fun o k h => (fun q => q) h) (fun o k h => h.elim) (fun o h => Or.elim h (fun q => (fun q => Or.inl q) q) (fun q0 => Or.elim q0 (fun q => (fun q => Or.inr (Or.inl q)) q) (fun q1 => (fun q => Or.inr (Or.inr (q))) q1))) (fun o h => h.elim)))
  rcases ax_or hf with ⟨hc9, hf⟩ | ⟨hc9, hf⟩
  · exact ax_ret (P := fun q : Int32 × sx_M => sx_eq (xS_X12_count) s q.2) hf (sx_tr hvb5 (sx_mono (D1 := xS_X12_goesAll) (fr_f_X12_goesAll (p := p6) b5.2 hp6) (fun o k h => (fun q => q) h) (fun o k h => h.elim) (fun o h => Or.elim h (fun q => (fun q => Or.inl q) q) (fun q0 => Or.elim q0 (fun q => (fun q => Or.inr (Or.inl q)) q) (fun q1 => (fun q => Or.inr (Or.inr (q))) q1))) (fun o h => h.elim)))
  exact ax_ret (P := fun q : Int32 × sx_M => sx_eq (xS_X12_count) s q.2) hf (sx_tr hvb5 (sx_mono (D1 := xS_X12_goesAll) (fr_f_X12_goesAll (p := p6) b5.2 hp6) (fun o k h => (fun q => q) h) (fun o k h => h.elim) (fun o h => Or.elim h (fun q => (fun q => Or.inl q) q) (fun q0 => Or.elim q0 (fun q => (fun q => Or.inr (Or.inl q)) q) (fun q1 => (fun q => Or.inr (Or.inr (q))) q1))) (fun o h => h.elim)))
abbrev xI_X12_told : Nat → Nat → Prop := fun o k => False
abbrev xJ_X12_told : Nat → Nat → Prop := fun o k => False
abbrev xA_X12_told : Nat → Prop := fun o => False
abbrev xB_X12_told : Nat → Prop := fun o => False
abbrev xS_X12_told : sx_D := (xI_X12_told, xJ_X12_told, xA_X12_told, xB_X12_told)
set_option maxRecDepth 100000 in
set_option maxHeartbeats 1000000 in
theorem fr_f_X12_told (x0 : Int32) (s : sx_M) {p : Int64 × sx_M} (hf : f_X12_told x0 s = some p) : sx_eq (xS_X12_told) s p.2 := by
  unfold f_X12_told at hf
  rcases ax_or hf with ⟨hc1, hf⟩ | ⟨hc1, hf⟩
  · exact ax_ret (P := fun q : Int64 × sx_M => sx_eq (xS_X12_told) s q.2) hf (sx_rf _ s)
  · exact ax_ret (P := fun q : Int64 × sx_M => sx_eq (xS_X12_told) s q.2) hf (sx_rf _ s)
abbrev xI_X12_cost : Nat → Nat → Prop := fun o k => False
abbrev xJ_X12_cost : Nat → Nat → Prop := fun o k => False
abbrev xA_X12_cost : Nat → Prop := fun o => False
abbrev xB_X12_cost : Nat → Prop := fun o => False
abbrev xS_X12_cost : sx_D := (xI_X12_cost, xJ_X12_cost, xA_X12_cost, xB_X12_cost)
set_option maxRecDepth 100000 in
set_option maxHeartbeats 1000000 in
theorem fr_f_X12_cost (x1 : Int32) (x2 : Int32) (s : sx_M) {p : Int64 × sx_M} (hf : f_X12_cost x1 x2 s = some p) : sx_eq (xS_X12_cost) s p.2 := by
  unfold f_X12_cost at hf
  obtain ⟨p1, hp1, hf⟩ := ax_bind hf
  rcases ax_or hf with ⟨hc2, hf⟩ | ⟨hc2, hf⟩
  · exact ax_ret (P := fun q : Int64 × sx_M => sx_eq (xS_X12_cost) s q.2) hf (sx_tr (sx_rf _ s) (sx_mono (D1 := xS_X12_isWorker) (fr_f_X12_isWorker (p := p1) x1 s hp1) (fun o k h => h.elim) (fun o k h => h.elim) (fun o h => h.elim) (fun o h => h.elim)))
  · obtain ⟨p2, hp2, hf⟩ := ax_bind hf
    rcases ax_or hf with ⟨hc1, hf⟩ | ⟨hc1, hf⟩
    · exact ax_ret (P := fun q : Int64 × sx_M => sx_eq (xS_X12_cost) s q.2) hf (sx_tr (sx_tr (sx_rf _ s) (sx_mono (D1 := xS_X12_isWorker) (fr_f_X12_isWorker (p := p1) x1 s hp1) (fun o k h => h.elim) (fun o k h => h.elim) (fun o h => h.elim) (fun o h => h.elim))) (sx_mono (D1 := xS_X12_isJob) (fr_f_X12_isJob (p := p2) x2 p1.2 hp2) (fun o k h => h.elim) (fun o k h => h.elim) (fun o h => h.elim) (fun o h => h.elim)))
    · obtain ⟨p3, hp3, hf⟩ := ax_bind hf
      obtain ⟨p4, hp4, hf⟩ := ax_bind hf
      exact ax_ret (P := fun q : Int64 × sx_M => sx_eq (xS_X12_cost) s q.2) hf (sx_tr (sx_tr (sx_tr (sx_tr (sx_rf _ s) (sx_mono (D1 := xS_X12_isWorker) (fr_f_X12_isWorker (p := p1) x1 s hp1) (fun o k h => h.elim) (fun o k h => h.elim) (fun o h => h.elim) (fun o h => h.elim))) (sx_mono (D1 := xS_X12_isJob) (fr_f_X12_isJob (p := p2) x2 p1.2 hp2) (fun o k h => h.elim) (fun o k h => h.elim) (fun o h => h.elim) (fun o h => h.elim))) (sx_mono (D1 := xS_X12_costOf) (fr_f_X12_costOf (p := p3) x1 x2 p2.2 hp3) (fun o k h => h.elim) (fun o k h => h.elim) (fun o h => h.elim) (fun o h => h.elim))) (sx_mono (D1 := xS_X12_told) (fr_f_X12_told (p := p4) p3.1 p3.2 hp4) (fun o k h => h.elim) (fun o k h => h.elim) (fun o h => h.elim) (fun o h => h.elim)))
abbrev xI_X12_sum : Nat → Nat → Prop := fun o k => (o = 58 ∧ k = 15) ∨ (o = 58 ∧ k = 18)
abbrev xJ_X12_sum : Nat → Nat → Prop := fun o k => False
abbrev xA_X12_sum : Nat → Prop := fun o => o = 63 ∨ o = 64 ∨ o = 65 ∨ o = 66
abbrev xB_X12_sum : Nat → Prop := fun o => False
abbrev xS_X12_sum : sx_D := (xI_X12_sum, xJ_X12_sum, xA_X12_sum, xB_X12_sum)
set_option maxRecDepth 100000 in
set_option maxHeartbeats 1000000 in
theorem fr_f_X12_sum (x1 : Int32) (s : sx_M) {p : Int64 × sx_M} (hf : f_X12_sum x1 s = some p) : sx_eq (xS_X12_sum) s p.2 := by
  unfold f_X12_sum at hf
  obtain ⟨p1, hp1, hf⟩ := ax_bind hf
  obtain ⟨p2, hp2, hf⟩ := ax_bind hf
  rcases ax_or hf with ⟨hc3, hf⟩ | ⟨hc3, hf⟩
  · exact ax_ret (P := fun q : Int64 × sx_M => sx_eq (xS_X12_sum) s q.2) hf (sx_tr (sx_tr (sx_rf _ s) (sx_mono (D1 := xS_X12_laysFirst) (fr_f_X12_laysFirst (p := p1) s hp1) (fun o k h => Or.elim h (fun q => (fun q => Or.inl q) q) (fun q0 => (fun q => Or.inr (q)) q0)) (fun o k h => h.elim) (fun o h => Or.elim h (fun q => (fun q => Or.inl q) q) (fun q0 => Or.elim q0 (fun q => (fun q => Or.inr (Or.inl q)) q) (fun q1 => Or.elim q1 (fun q => (fun q => Or.inr (Or.inr (Or.inl q))) q) (fun q2 => (fun q => Or.inr (Or.inr (Or.inr (q)))) q2)))) (fun o h => h.elim))) (sx_mono (D1 := xS_X12_isThere) (fr_f_X12_isThere (p := p2) x1 p1 hp2) (fun o k h => h.elim) (fun o k h => h.elim) (fun o h => h.elim) (fun o h => h.elim)))
  · obtain ⟨_, hf⟩ := ax_ite hf
    obtain ⟨_, hf⟩ := ax_ite hf
    exact ax_ret (P := fun q : Int64 × sx_M => sx_eq (xS_X12_sum) s q.2) hf (sx_tr (sx_tr (sx_rf _ s) (sx_mono (D1 := xS_X12_laysFirst) (fr_f_X12_laysFirst (p := p1) s hp1) (fun o k h => Or.elim h (fun q => (fun q => Or.inl q) q) (fun q0 => (fun q => Or.inr (q)) q0)) (fun o k h => h.elim) (fun o h => Or.elim h (fun q => (fun q => Or.inl q) q) (fun q0 => Or.elim q0 (fun q => (fun q => Or.inr (Or.inl q)) q) (fun q1 => Or.elim q1 (fun q => (fun q => Or.inr (Or.inr (Or.inl q))) q) (fun q2 => (fun q => Or.inr (Or.inr (Or.inr (q)))) q2)))) (fun o h => h.elim))) (sx_mono (D1 := xS_X12_isThere) (fr_f_X12_isThere (p := p2) x1 p1 hp2) (fun o k h => h.elim) (fun o k h => h.elim) (fun o h => h.elim) (fun o h => h.elim)))
abbrev xI_X12_job : Nat → Nat → Prop := fun o k => (o = 58 ∧ k = 15) ∨ (o = 58 ∧ k = 18)
abbrev xJ_X12_job : Nat → Nat → Prop := fun o k => False
abbrev xA_X12_job : Nat → Prop := fun o => o = 63 ∨ o = 64 ∨ o = 65 ∨ o = 66
abbrev xB_X12_job : Nat → Prop := fun o => False
abbrev xS_X12_job : sx_D := (xI_X12_job, xJ_X12_job, xA_X12_job, xB_X12_job)
set_option maxRecDepth 100000 in
set_option maxHeartbeats 1000000 in
theorem fr_f_X12_job (x1 : Int32) (x2 : Int32) (s : sx_M) {p : Int32 × sx_M} (hf : f_X12_job x1 x2 s = some p) : sx_eq (xS_X12_job) s p.2 := by
  unfold f_X12_job at hf
  obtain ⟨p1, hp1, hf⟩ := ax_bind hf
  rcases ax_or hf with ⟨hc4, hf⟩ | ⟨hc4, hf⟩
  · exact ax_ret (P := fun q : Int32 × sx_M => sx_eq (xS_X12_job) s q.2) hf (sx_tr (sx_rf _ s) (sx_mono (D1 := xS_X12_isRank) (fr_f_X12_isRank (p := p1) x1 s hp1) (fun o k h => h.elim) (fun o k h => h.elim) (fun o h => h.elim) (fun o h => h.elim)))
  · obtain ⟨p2, hp2, hf⟩ := ax_bind hf
    rcases ax_or hf with ⟨hc3, hf⟩ | ⟨hc3, hf⟩
    · exact ax_ret (P := fun q : Int32 × sx_M => sx_eq (xS_X12_job) s q.2) hf (sx_tr (sx_tr (sx_rf _ s) (sx_mono (D1 := xS_X12_isRank) (fr_f_X12_isRank (p := p1) x1 s hp1) (fun o k h => h.elim) (fun o k h => h.elim) (fun o h => h.elim) (fun o h => h.elim))) (sx_mono (D1 := xS_X12_isWorker) (fr_f_X12_isWorker (p := p2) x2 p1.2 hp2) (fun o k h => h.elim) (fun o k h => h.elim) (fun o h => h.elim) (fun o h => h.elim)))
    · obtain ⟨p3, hp3, hf⟩ := ax_bind hf
      obtain ⟨p4, hp4, hf⟩ := ax_bind hf
      rcases ax_or hf with ⟨hc2, hf⟩ | ⟨hc2, hf⟩
      · exact ax_ret (P := fun q : Int32 × sx_M => sx_eq (xS_X12_job) s q.2) hf (sx_tr (sx_tr (sx_tr (sx_tr (sx_rf _ s) (sx_mono (D1 := xS_X12_isRank) (fr_f_X12_isRank (p := p1) x1 s hp1) (fun o k h => h.elim) (fun o k h => h.elim) (fun o h => h.elim) (fun o h => h.elim))) (sx_mono (D1 := xS_X12_isWorker) (fr_f_X12_isWorker (p := p2) x2 p1.2 hp2) (fun o k h => h.elim) (fun o k h => h.elim) (fun o h => h.elim) (fun o h => h.elim))) (sx_mono (D1 := xS_X12_laysFirst) (fr_f_X12_laysFirst (p := p3) p2.2 hp3) (fun o k h => Or.elim h (fun q => (fun q => Or.inl q) q) (fun q0 => (fun q => Or.inr (q)) q0)) (fun o k h => h.elim) (fun o h => Or.elim h (fun q => (fun q => Or.inl q) q) (fun q0 => Or.elim q0 (fun q => (fun q => Or.inr (Or.inl q)) q) (fun q1 => Or.elim q1 (fun q => (fun q => Or.inr (Or.inr (Or.inl q))) q) (fun q2 => (fun q => Or.inr (Or.inr (Or.inr (q)))) q2)))) (fun o h => h.elim))) (sx_mono (D1 := xS_X12_isThere) (fr_f_X12_isThere (p := p4) x1 p3 hp4) (fun o k h => h.elim) (fun o k h => h.elim) (fun o h => h.elim) (fun o h => h.elim)))
      · obtain ⟨_, hf⟩ := ax_ite hf
        obtain ⟨p5, hp5, hf⟩ := ax_bind hf
        exact ax_ret (P := fun q : Int32 × sx_M => sx_eq (xS_X12_job) s q.2) hf (sx_tr (sx_tr (sx_tr (sx_tr (sx_tr (sx_rf _ s) (sx_mono (D1 := xS_X12_isRank) (fr_f_X12_isRank (p := p1) x1 s hp1) (fun o k h => h.elim) (fun o k h => h.elim) (fun o h => h.elim) (fun o h => h.elim))) (sx_mono (D1 := xS_X12_isWorker) (fr_f_X12_isWorker (p := p2) x2 p1.2 hp2) (fun o k h => h.elim) (fun o k h => h.elim) (fun o h => h.elim) (fun o h => h.elim))) (sx_mono (D1 := xS_X12_laysFirst) (fr_f_X12_laysFirst (p := p3) p2.2 hp3) (fun o k h => Or.elim h (fun q => (fun q => Or.inl q) q) (fun q0 => (fun q => Or.inr (q)) q0)) (fun o k h => h.elim) (fun o h => Or.elim h (fun q => (fun q => Or.inl q) q) (fun q0 => Or.elim q0 (fun q => (fun q => Or.inr (Or.inl q)) q) (fun q1 => Or.elim q1 (fun q => (fun q => Or.inr (Or.inr (Or.inl q))) q) (fun q2 => (fun q => Or.inr (Or.inr (Or.inr (q)))) q2)))) (fun o h => h.elim))) (sx_mono (D1 := xS_X12_isThere) (fr_f_X12_isThere (p := p4) x1 p3 hp4) (fun o k h => h.elim) (fun o k h => h.elim) (fun o h => h.elim) (fun o h => h.elim))) (sx_mono (D1 := xS_X12_jobOf) (fr_f_X12_jobOf (p := p5) (rA p4.2 66 (x1).toNatClampNeg) x2 p4.2 hp5) (fun o k h => h.elim) (fun o k h => h.elim) (fun o h => h.elim) (fun o h => h.elim)))
abbrev xI_X12_ties : Nat → Nat → Prop := fun o k => (o = 58 ∧ k = 15) ∨ (o = 58 ∧ k = 18)
abbrev xJ_X12_ties : Nat → Nat → Prop := fun o k => False
abbrev xA_X12_ties : Nat → Prop := fun o => o = 63 ∨ o = 64 ∨ o = 65 ∨ o = 66
abbrev xB_X12_ties : Nat → Prop := fun o => False
abbrev xS_X12_ties : sx_D := (xI_X12_ties, xJ_X12_ties, xA_X12_ties, xB_X12_ties)
set_option maxRecDepth 100000 in
set_option maxHeartbeats 1000000 in
theorem fr_f_X12_ties (x1 : Int32) (s : sx_M) {p : Int32 × sx_M} (hf : f_X12_ties x1 s = some p) : sx_eq (xS_X12_ties) s p.2 := by
  unfold f_X12_ties at hf
  obtain ⟨p1, hp1, hf⟩ := ax_bind hf
  rcases ax_or hf with ⟨hc8, hf⟩ | ⟨hc8, hf⟩
  · exact ax_ret (P := fun q : Int32 × sx_M => sx_eq (xS_X12_ties) s q.2) hf (sx_tr (sx_rf _ s) (sx_mono (D1 := xS_X12_isRank) (fr_f_X12_isRank (p := p1) x1 s hp1) (fun o k h => h.elim) (fun o k h => h.elim) (fun o h => h.elim) (fun o h => h.elim)))
  · obtain ⟨p2, hp2, hf⟩ := ax_bind hf
    obtain ⟨b4, hb4, hf⟩ := ax_bind hf
    have hvb4 := wh_inv ((0 : Int32), (0 : Int32), p2) (fun a18 : Int32 × Int32 × sx_M => sx_eq (xS_X12_ties) s a18.2.2) (fun e : Int32 × sx_M => sx_eq (xS_X12_ties) s e.2) hb4 ?_ (sx_tr (sx_tr (sx_rf _ s) (sx_mono (D1 := xS_X12_isRank) (fr_f_X12_isRank (p := p1) x1 s hp1) (fun o k h => h.elim) (fun o k h => h.elim) (fun o h => h.elim) (fun o h => h.elim))) (sx_mono (D1 := xS_X12_laysFirst) (fr_f_X12_laysFirst (p := p2) p1.2 hp2) (fun o k h => Or.elim h (fun q => (fun q => Or.inl q) q) (fun q0 => (fun q => Or.inr (q)) q0)) (fun o k h => h.elim) (fun o h => Or.elim h (fun q => (fun q => Or.inl q) q) (fun q0 => Or.elim q0 (fun q => (fun q => Or.inr (Or.inl q)) q) (fun q1 => Or.elim q1 (fun q => (fun q => Or.inr (Or.inr (Or.inl q))) q) (fun q2 => (fun q => Or.inr (Or.inr (Or.inr (q)))) q2)))) (fun o h => h.elim)))
    rotate_left
    · intro a18 r ha18 hf
      unfold f_X12_ties_L18 at hf
      have J60 : ∀ (y3_60 : Int32) (t0_60 : Int32) (t1_60 : Int32) (s_60 : sx_M), sx_eq (xS_X12_ties) s s_60 → f_X12_ties_L18_J60 x1 y3_60 t0_60 t1_60 s_60 = some r → Sum.elim (fun a18 : Int32 × Int32 × sx_M => sx_eq (xS_X12_ties) s a18.2.2) (fun e : Int32 × sx_M => sx_eq (xS_X12_ties) s e.2) r := by
        intro y3_60 t0_60 t1_60 s_60 hs_60 hf
        unfold f_X12_ties_L18_J60 at hf
        exact ax_ret (P := Sum.elim (fun a18 : Int32 × Int32 × sx_M => sx_eq (xS_X12_ties) s a18.2.2) (fun e : Int32 × sx_M => sx_eq (xS_X12_ties) s e.2)) hf hs_60
      rcases ax_or hf with ⟨hc6, hf⟩ | ⟨hc6, hf⟩
      · exact ax_ret (P := Sum.elim (fun a18 : Int32 × Int32 × sx_M => sx_eq (xS_X12_ties) s a18.2.2) (fun e : Int32 × sx_M => sx_eq (xS_X12_ties) s e.2)) hf ha18
      · obtain ⟨p3, hp3, hf⟩ := ax_bind hf
        rcases ax_or hf with ⟨hc5, hf⟩ | ⟨hc5, hf⟩
        · exact ax_ret (P := Sum.elim (fun a18 : Int32 × Int32 × sx_M => sx_eq (xS_X12_ties) s a18.2.2) (fun e : Int32 × sx_M => sx_eq (xS_X12_ties) s e.2)) hf (sx_tr ha18 (sx_mono (D1 := xS_X12_isThere) (fr_f_X12_isThere (p := p3) x1 a18.2.2 hp3) (fun o k h => h.elim) (fun o k h => h.elim) (fun o h => h.elim) (fun o h => h.elim)))
        · obtain ⟨_, hf⟩ := ax_ite hf
          obtain ⟨_, hf⟩ := ax_ite hf
          obtain ⟨_, hf⟩ := ax_ite hf
          rcases ax_or hf with ⟨hc4, hf⟩ | ⟨hc4, hf⟩
          · exact J60 a18.2.1 a18.1 (1 : Int32) p3.2 (sx_tr ha18 (sx_mono (D1 := xS_X12_isThere) (fr_f_X12_isThere (p := p3) x1 a18.2.2 hp3) (fun o k h => h.elim) (fun o k h => h.elim) (fun o h => h.elim) (fun o h => h.elim))) hf
          · exact J60 a18.2.1 a18.1 (0 : Int32) p3.2 (sx_tr ha18 (sx_mono (D1 := xS_X12_isThere) (fr_f_X12_isThere (p := p3) x1 a18.2.2 hp3) (fun o k h => h.elim) (fun o k h => h.elim) (fun o h => h.elim) (fun o h => h.elim))) hf
    obtain ⟨p5, hp5, hf⟩ := ax_bind hf
    rcases ax_or hf with ⟨hc7, hf⟩ | ⟨hc7, hf⟩
    · exact ax_ret (P := fun q : Int32 × sx_M => sx_eq (xS_X12_ties) s q.2) hf (sx_tr hvb4 (sx_mono (D1 := xS_X12_isThere) (fr_f_X12_isThere (p := p5) x1 b4.2 hp5) (fun o k h => h.elim) (fun o k h => h.elim) (fun o h => h.elim) (fun o h => h.elim)))
    · exact ax_ret (P := fun q : Int32 × sx_M => sx_eq (xS_X12_ties) s q.2) hf (sx_tr hvb4 (sx_mono (D1 := xS_X12_isThere) (fr_f_X12_isThere (p := p5) x1 b4.2 hp5) (fun o k h => h.elim) (fun o k h => h.elim) (fun o h => h.elim) (fun o h => h.elim)))
abbrev xI_X12_under : Nat → Nat → Prop := fun o k => (o = 58 ∧ k = 15)
abbrev xJ_X12_under : Nat → Nat → Prop := fun o k => False
abbrev xA_X12_under : Nat → Prop := fun o => o = 63 ∨ o = 64 ∨ o = 65
abbrev xB_X12_under : Nat → Prop := fun o => False
abbrev xS_X12_under : sx_D := (xI_X12_under, xJ_X12_under, xA_X12_under, xB_X12_under)
set_option maxRecDepth 100000 in
set_option maxHeartbeats 1000000 in
theorem fr_f_X12_under (x1 : Int64) (s : sx_M) {p : Int32 × sx_M} (hf : f_X12_under x1 s = some p) : sx_eq (xS_X12_under) s p.2 := by
  unfold f_X12_under at hf
  obtain ⟨p1, hp1, hf⟩ := ax_bind hf
  obtain ⟨b2, hb2, hf⟩ := ax_bind hf
  have hvb2 := wh_inv ((0 : Int32), (0 : Int32), p1) (fun a9 : Int32 × Int32 × sx_M => sx_eq (xS_X12_under) s a9.2.2) (fun e : Int32 × sx_M => sx_eq (xS_X12_under) s e.2) hb2 ?_ (sx_tr (sx_rf _ s) (sx_mono (D1 := xS_X12_goesAll) (fr_f_X12_goesAll (p := p1) s hp1) (fun o k h => (fun q => q) h) (fun o k h => h.elim) (fun o h => Or.elim h (fun q => (fun q => Or.inl q) q) (fun q0 => Or.elim q0 (fun q => (fun q => Or.inr (Or.inl q)) q) (fun q1 => (fun q => Or.inr (Or.inr (q))) q1))) (fun o h => h.elim)))
  rotate_left
  · intro a9 r ha9 hf
    unfold f_X12_under_L9 at hf
    have J37 : ∀ (y4_37 : Int32) (t0_37 : Int32) (t1_37 : Int32) (s_37 : sx_M), sx_eq (xS_X12_under) s s_37 → f_X12_under_L9_J37 x1 y4_37 t0_37 t1_37 s_37 = some r → Sum.elim (fun a9 : Int32 × Int32 × sx_M => sx_eq (xS_X12_under) s a9.2.2) (fun e : Int32 × sx_M => sx_eq (xS_X12_under) s e.2) r := by
      intro y4_37 t0_37 t1_37 s_37 hs_37 hf
      unfold f_X12_under_L9_J37 at hf
      exact ax_ret (P := Sum.elim (fun a9 : Int32 × Int32 × sx_M => sx_eq (xS_X12_under) s a9.2.2) (fun e : Int32 × sx_M => sx_eq (xS_X12_under) s e.2)) hf hs_37
    rcases ax_or hf with ⟨hc3, hf⟩ | ⟨hc3, hf⟩
    · exact ax_ret (P := Sum.elim (fun a9 : Int32 × Int32 × sx_M => sx_eq (xS_X12_under) s a9.2.2) (fun e : Int32 × sx_M => sx_eq (xS_X12_under) s e.2)) hf ha9
    · obtain ⟨_, hf⟩ := ax_ite hf
      rcases ax_or hf with ⟨hc2, hf⟩ | ⟨hc2, hf⟩
      · exact J37 a9.2.1 a9.1 (0 : Int32) a9.2.2 ha9 hf
      · exact J37 a9.2.1 a9.1 (1 : Int32) a9.2.2 ha9 hf
  exact ax_ret (P := fun q : Int32 × sx_M => sx_eq (xS_X12_under) s q.2) hf hvb2
abbrev xI_X12_place : Nat → Nat → Prop := fun o k => (o = 58 ∧ k = 15)
abbrev xJ_X12_place : Nat → Nat → Prop := fun o k => False
abbrev xA_X12_place : Nat → Prop := fun o => o = 63 ∨ o = 64 ∨ o = 65
abbrev xB_X12_place : Nat → Prop := fun o => False
abbrev xS_X12_place : sx_D := (xI_X12_place, xJ_X12_place, xA_X12_place, xB_X12_place)
set_option maxRecDepth 100000 in
set_option maxHeartbeats 1000000 in
theorem fr_f_X12_place (x1 : Int32) (s : sx_M) {p : Int32 × sx_M} (hf : f_X12_place x1 s = some p) : sx_eq (xS_X12_place) s p.2 := by
  unfold f_X12_place at hf
  obtain ⟨p1, hp1, hf⟩ := ax_bind hf
  obtain ⟨b2, hb2, hf⟩ := ax_bind hf
  have hvb2 := wh_inv ((-1 : Int32), (0 : Int32), p1) (fun a8 : Int32 × Int32 × sx_M => sx_eq (xS_X12_place) s a8.2.2) (fun e : Int32 × sx_M => sx_eq (xS_X12_place) s e.2) hb2 ?_ (sx_tr (sx_rf _ s) (sx_mono (D1 := xS_X12_goesAll) (fr_f_X12_goesAll (p := p1) s hp1) (fun o k h => (fun q => q) h) (fun o k h => h.elim) (fun o h => Or.elim h (fun q => (fun q => Or.inl q) q) (fun q0 => Or.elim q0 (fun q => (fun q => Or.inr (Or.inl q)) q) (fun q1 => (fun q => Or.inr (Or.inr (q))) q1))) (fun o h => h.elim)))
  rotate_left
  · intro a8 r ha8 hf
    unfold f_X12_place_L8 at hf
    rcases ax_or hf with ⟨hc3, hf⟩ | ⟨hc3, hf⟩
    · exact ax_ret (P := Sum.elim (fun a8 : Int32 × Int32 × sx_M => sx_eq (xS_X12_place) s a8.2.2) (fun e : Int32 × sx_M => sx_eq (xS_X12_place) s e.2)) hf ha8
    · obtain ⟨_, hf⟩ := ax_ite hf
      rcases ax_or hf with ⟨hc2, hf⟩ | ⟨hc2, hf⟩
      · exact ax_ret (P := Sum.elim (fun a8 : Int32 × Int32 × sx_M => sx_eq (xS_X12_place) s a8.2.2) (fun e : Int32 × sx_M => sx_eq (xS_X12_place) s e.2)) hf ha8
      · exact ax_ret (P := Sum.elim (fun a8 : Int32 × Int32 × sx_M => sx_eq (xS_X12_place) s a8.2.2) (fun e : Int32 × sx_M => sx_eq (xS_X12_place) s e.2)) hf ha8
  obtain ⟨b3, hb3, hf⟩ := ax_bind hf
  have hvb3 := wh_inv ((0 : Int32), (0 : Int32), b2.2) (fun a43 : Int32 × Int32 × sx_M => sx_eq (xS_X12_place) s a43.2.2) (fun e : Int32 × sx_M => sx_eq (xS_X12_place) s e.2) hb3 ?_ hvb2
  rotate_left
  · intro a43 r ha43 hf
    unfold f_X12_place_L43 at hf
    have J101 : ∀ (y4_101 : Int32) (t0_101 : Int32) (t1_101 : Int32) (s_101 : sx_M), sx_eq (xS_X12_place) s s_101 → f_X12_place_L43_J101 b2.1 y4_101 t0_101 t1_101 s_101 = some r → Sum.elim (fun a43 : Int32 × Int32 × sx_M => sx_eq (xS_X12_place) s a43.2.2) (fun e : Int32 × sx_M => sx_eq (xS_X12_place) s e.2) r := by
      intro y4_101 t0_101 t1_101 s_101 hs_101 hf
      unfold f_X12_place_L43_J101 at hf
      exact ax_ret (P := Sum.elim (fun a43 : Int32 × Int32 × sx_M => sx_eq (xS_X12_place) s a43.2.2) (fun e : Int32 × sx_M => sx_eq (xS_X12_place) s e.2)) hf hs_101
    rcases ax_or hf with ⟨hc12, hf⟩ | ⟨hc12, hf⟩
    · exact ax_ret (P := Sum.elim (fun a43 : Int32 × Int32 × sx_M => sx_eq (xS_X12_place) s a43.2.2) (fun e : Int32 × sx_M => sx_eq (xS_X12_place) s e.2)) hf ha43
    · rcases ax_or hf with ⟨hc11, hf⟩ | ⟨hc11, hf⟩
      · exact ax_ret (P := Sum.elim (fun a43 : Int32 × Int32 × sx_M => sx_eq (xS_X12_place) s a43.2.2) (fun e : Int32 × sx_M => sx_eq (xS_X12_place) s e.2)) hf ha43
      · obtain ⟨_, hf⟩ := ax_ite hf
        obtain ⟨_, hf⟩ := ax_ite hf
        rcases ax_or hf with ⟨hc10, hf⟩ | ⟨hc10, hf⟩
        · exact J101 a43.2.1 a43.1 (1 : Int32) a43.2.2 ha43 hf
        · obtain ⟨_, hf⟩ := ax_ite hf
          obtain ⟨_, hf⟩ := ax_ite hf
          rcases ax_or hf with ⟨hc9, hf⟩ | ⟨hc9, hf⟩
          · rcases ax_or hf with ⟨hc8, hf⟩ | ⟨hc8, hf⟩
            · exact J101 a43.2.1 a43.1 (0 : Int32) a43.2.2 ha43 hf
            · exact J101 a43.2.1 a43.1 (1 : Int32) a43.2.2 ha43 hf
          · exact J101 a43.2.1 a43.1 (0 : Int32) a43.2.2 ha43 hf
  rcases ax_or hf with ⟨hc13, hf⟩ | ⟨hc13, hf⟩
  · exact ax_ret (P := fun q : Int32 × sx_M => sx_eq (xS_X12_place) s q.2) hf hvb3
  · exact ax_ret (P := fun q : Int32 × sx_M => sx_eq (xS_X12_place) s q.2) hf hvb3
abbrev xI_X12_leastBy : Nat → Nat → Prop := fun o k => False
abbrev xJ_X12_leastBy : Nat → Nat → Prop := fun o k => False
abbrev xA_X12_leastBy : Nat → Prop := fun o => False
abbrev xB_X12_leastBy : Nat → Prop := fun o => False
abbrev xS_X12_leastBy : sx_D := (xI_X12_leastBy, xJ_X12_leastBy, xA_X12_leastBy, xB_X12_leastBy)
set_option maxRecDepth 100000 in
set_option maxHeartbeats 1000000 in
theorem fr_f_X12_leastBy (x1 : Int32) (x2 : Int32) (x3 : Int32) (s : sx_M) {p : Int64 × sx_M} (hf : f_X12_leastBy x1 x2 x3 s = some p) : sx_eq (xS_X12_leastBy) s p.2 := by
  unfold f_X12_leastBy at hf
  obtain ⟨b2, hb2, hf⟩ := ax_bind hf
  have hvb2 := wh_inv ((-1 : Int32), (0 : Int32), s) (fun a6 : Int32 × Int32 × sx_M => sx_eq (xS_X12_leastBy) s a6.2.2) (fun e : Int32 × sx_M => sx_eq (xS_X12_leastBy) s e.2) hb2 ?_ (sx_rf _ s)
  rotate_left
  · intro a6 r ha6 hf
    unfold f_X12_leastBy_L6 at hf
    have J63 : ∀ (y4_63 : Int32) (y5_63 : Int32) (t0_63 : Int32) (s_63 : sx_M), sx_eq (xS_X12_leastBy) s s_63 → f_X12_leastBy_L6_J63 x1 x2 x3 y4_63 y5_63 t0_63 s_63 = some r → Sum.elim (fun a6 : Int32 × Int32 × sx_M => sx_eq (xS_X12_leastBy) s a6.2.2) (fun e : Int32 × sx_M => sx_eq (xS_X12_leastBy) s e.2) r := by
      intro y4_63 y5_63 t0_63 s_63 hs_63 hf
      unfold f_X12_leastBy_L6_J63 at hf
      rcases ax_or hf with ⟨hc1, hf⟩ | ⟨hc1, hf⟩
      · exact ax_ret (P := Sum.elim (fun a6 : Int32 × Int32 × sx_M => sx_eq (xS_X12_leastBy) s a6.2.2) (fun e : Int32 × sx_M => sx_eq (xS_X12_leastBy) s e.2)) hf hs_63
      · exact ax_ret (P := Sum.elim (fun a6 : Int32 × Int32 × sx_M => sx_eq (xS_X12_leastBy) s a6.2.2) (fun e : Int32 × sx_M => sx_eq (xS_X12_leastBy) s e.2)) hf hs_63
    have J31 : ∀ (y4_31 : Int32) (y5_31 : Int32) (t0_31 : Int32) (s_31 : sx_M), sx_eq (xS_X12_leastBy) s s_31 → f_X12_leastBy_L6_J31 x1 x2 x3 y4_31 y5_31 t0_31 s_31 = some r → Sum.elim (fun a6 : Int32 × Int32 × sx_M => sx_eq (xS_X12_leastBy) s a6.2.2) (fun e : Int32 × sx_M => sx_eq (xS_X12_leastBy) s e.2) r := by
      intro y4_31 y5_31 t0_31 s_31 hs_31 hf
      unfold f_X12_leastBy_L6_J31 at hf
      rcases ax_or hf with ⟨hc6, hf⟩ | ⟨hc6, hf⟩
      · rcases ax_or hf with ⟨hc5, hf⟩ | ⟨hc5, hf⟩
        · exact J63 y4_31 y5_31 (1 : Int32) s_31 hs_31 hf
        · obtain ⟨_, hf⟩ := ax_ite hf
          obtain ⟨_, hf⟩ := ax_ite hf
          rcases ax_or hf with ⟨hc4, hf⟩ | ⟨hc4, hf⟩
          · exact J63 y4_31 y5_31 (0 : Int32) s_31 hs_31 hf
          · exact J63 y4_31 y5_31 (1 : Int32) s_31 hs_31 hf
      · exact J63 y4_31 y5_31 (0 : Int32) s_31 hs_31 hf
    rcases ax_or hf with ⟨hc8, hf⟩ | ⟨hc8, hf⟩
    · exact ax_ret (P := Sum.elim (fun a6 : Int32 × Int32 × sx_M => sx_eq (xS_X12_leastBy) s a6.2.2) (fun e : Int32 × sx_M => sx_eq (xS_X12_leastBy) s e.2)) hf ha6
    · obtain ⟨p1, hp1, hf⟩ := ax_bind hf
      rcases ax_or hf with ⟨hc7, hf⟩ | ⟨hc7, hf⟩
      · exact J31 a6.1 a6.2.1 (1 : Int32) p1.2 (sx_tr ha6 (sx_mono (D1 := xS_X12_jobOf) (fr_f_X12_jobOf (p := p1) a6.2.1 x1 a6.2.2 hp1) (fun o k h => h.elim) (fun o k h => h.elim) (fun o h => h.elim) (fun o h => h.elim))) hf
      · exact J31 a6.1 a6.2.1 (0 : Int32) p1.2 (sx_tr ha6 (sx_mono (D1 := xS_X12_jobOf) (fr_f_X12_jobOf (p := p1) a6.2.1 x1 a6.2.2 hp1) (fun o k h => h.elim) (fun o k h => h.elim) (fun o h => h.elim) (fun o h => h.elim))) hf
  rcases ax_or hf with ⟨hc10, hf⟩ | ⟨hc10, hf⟩
  · exact ax_ret (P := fun q : Int64 × sx_M => sx_eq (xS_X12_leastBy) s q.2) hf hvb2
  · obtain ⟨_, hf⟩ := ax_ite hf
    exact ax_ret (P := fun q : Int64 × sx_M => sx_eq (xS_X12_leastBy) s q.2) hf hvb2
abbrev xI_X12_forced : Nat → Nat → Prop := fun o k => (o = 58 ∧ k = 15)
abbrev xJ_X12_forced : Nat → Nat → Prop := fun o k => False
abbrev xA_X12_forced : Nat → Prop := fun o => o = 63 ∨ o = 64 ∨ o = 65
abbrev xB_X12_forced : Nat → Prop := fun o => False
abbrev xS_X12_forced : sx_D := (xI_X12_forced, xJ_X12_forced, xA_X12_forced, xB_X12_forced)
set_option maxRecDepth 100000 in
set_option maxHeartbeats 1000000 in
theorem fr_f_X12_forced (x1 : Int32) (x2 : Int32) (s : sx_M) {p : Int64 × sx_M} (hf : f_X12_forced x1 x2 s = some p) : sx_eq (xS_X12_forced) s p.2 := by
  unfold f_X12_forced at hf
  obtain ⟨p1, hp1, hf⟩ := ax_bind hf
  rcases ax_or hf with ⟨hc2, hf⟩ | ⟨hc2, hf⟩
  · exact ax_ret (P := fun q : Int64 × sx_M => sx_eq (xS_X12_forced) s q.2) hf (sx_tr (sx_rf _ s) (sx_mono (D1 := xS_X12_isWorker) (fr_f_X12_isWorker (p := p1) x1 s hp1) (fun o k h => h.elim) (fun o k h => h.elim) (fun o h => h.elim) (fun o h => h.elim)))
  · obtain ⟨p2, hp2, hf⟩ := ax_bind hf
    rcases ax_or hf with ⟨hc1, hf⟩ | ⟨hc1, hf⟩
    · exact ax_ret (P := fun q : Int64 × sx_M => sx_eq (xS_X12_forced) s q.2) hf (sx_tr (sx_tr (sx_rf _ s) (sx_mono (D1 := xS_X12_isWorker) (fr_f_X12_isWorker (p := p1) x1 s hp1) (fun o k h => h.elim) (fun o k h => h.elim) (fun o h => h.elim) (fun o h => h.elim))) (sx_mono (D1 := xS_X12_isJob) (fr_f_X12_isJob (p := p2) x2 p1.2 hp2) (fun o k h => h.elim) (fun o k h => h.elim) (fun o h => h.elim) (fun o h => h.elim)))
    · obtain ⟨p3, hp3, hf⟩ := ax_bind hf
      obtain ⟨p4, hp4, hf⟩ := ax_bind hf
      exact ax_ret (P := fun q : Int64 × sx_M => sx_eq (xS_X12_forced) s q.2) hf (sx_tr (sx_tr (sx_tr (sx_tr (sx_rf _ s) (sx_mono (D1 := xS_X12_isWorker) (fr_f_X12_isWorker (p := p1) x1 s hp1) (fun o k h => h.elim) (fun o k h => h.elim) (fun o h => h.elim) (fun o h => h.elim))) (sx_mono (D1 := xS_X12_isJob) (fr_f_X12_isJob (p := p2) x2 p1.2 hp2) (fun o k h => h.elim) (fun o k h => h.elim) (fun o h => h.elim) (fun o h => h.elim))) (sx_mono (D1 := xS_X12_goesAll) (fr_f_X12_goesAll (p := p3) p2.2 hp3) (fun o k h => (fun q => q) h) (fun o k h => h.elim) (fun o h => Or.elim h (fun q => (fun q => Or.inl q) q) (fun q0 => Or.elim q0 (fun q => (fun q => Or.inr (Or.inl q)) q) (fun q1 => (fun q => Or.inr (Or.inr (q))) q1))) (fun o h => h.elim))) (sx_mono (D1 := xS_X12_leastBy) (fr_f_X12_leastBy (p := p4) x1 x2 (1 : Int32) p3 hp4) (fun o k h => h.elim) (fun o k h => h.elim) (fun o h => h.elim) (fun o h => h.elim)))
abbrev xI_X12_without : Nat → Nat → Prop := fun o k => (o = 58 ∧ k = 15)
abbrev xJ_X12_without : Nat → Nat → Prop := fun o k => False
abbrev xA_X12_without : Nat → Prop := fun o => o = 63 ∨ o = 64 ∨ o = 65
abbrev xB_X12_without : Nat → Prop := fun o => False
abbrev xS_X12_without : sx_D := (xI_X12_without, xJ_X12_without, xA_X12_without, xB_X12_without)
set_option maxRecDepth 100000 in
set_option maxHeartbeats 1000000 in
theorem fr_f_X12_without (x1 : Int32) (x2 : Int32) (s : sx_M) {p : Int64 × sx_M} (hf : f_X12_without x1 x2 s = some p) : sx_eq (xS_X12_without) s p.2 := by
  unfold f_X12_without at hf
  obtain ⟨p1, hp1, hf⟩ := ax_bind hf
  rcases ax_or hf with ⟨hc2, hf⟩ | ⟨hc2, hf⟩
  · exact ax_ret (P := fun q : Int64 × sx_M => sx_eq (xS_X12_without) s q.2) hf (sx_tr (sx_rf _ s) (sx_mono (D1 := xS_X12_isWorker) (fr_f_X12_isWorker (p := p1) x1 s hp1) (fun o k h => h.elim) (fun o k h => h.elim) (fun o h => h.elim) (fun o h => h.elim)))
  · obtain ⟨p2, hp2, hf⟩ := ax_bind hf
    rcases ax_or hf with ⟨hc1, hf⟩ | ⟨hc1, hf⟩
    · exact ax_ret (P := fun q : Int64 × sx_M => sx_eq (xS_X12_without) s q.2) hf (sx_tr (sx_tr (sx_rf _ s) (sx_mono (D1 := xS_X12_isWorker) (fr_f_X12_isWorker (p := p1) x1 s hp1) (fun o k h => h.elim) (fun o k h => h.elim) (fun o h => h.elim) (fun o h => h.elim))) (sx_mono (D1 := xS_X12_isJob) (fr_f_X12_isJob (p := p2) x2 p1.2 hp2) (fun o k h => h.elim) (fun o k h => h.elim) (fun o h => h.elim) (fun o h => h.elim)))
    · obtain ⟨p3, hp3, hf⟩ := ax_bind hf
      obtain ⟨p4, hp4, hf⟩ := ax_bind hf
      exact ax_ret (P := fun q : Int64 × sx_M => sx_eq (xS_X12_without) s q.2) hf (sx_tr (sx_tr (sx_tr (sx_tr (sx_rf _ s) (sx_mono (D1 := xS_X12_isWorker) (fr_f_X12_isWorker (p := p1) x1 s hp1) (fun o k h => h.elim) (fun o k h => h.elim) (fun o h => h.elim) (fun o h => h.elim))) (sx_mono (D1 := xS_X12_isJob) (fr_f_X12_isJob (p := p2) x2 p1.2 hp2) (fun o k h => h.elim) (fun o k h => h.elim) (fun o h => h.elim) (fun o h => h.elim))) (sx_mono (D1 := xS_X12_goesAll) (fr_f_X12_goesAll (p := p3) p2.2 hp3) (fun o k h => (fun q => q) h) (fun o k h => h.elim) (fun o h => Or.elim h (fun q => (fun q => Or.inl q) q) (fun q0 => Or.elim q0 (fun q => (fun q => Or.inr (Or.inl q)) q) (fun q1 => (fun q => Or.inr (Or.inr (q))) q1))) (fun o h => h.elim))) (sx_mono (D1 := xS_X12_leastBy) (fr_f_X12_leastBy (p := p4) x1 x2 (0 : Int32) p3 hp4) (fun o k h => h.elim) (fun o k h => h.elim) (fun o h => h.elim) (fun o h => h.elim)))
abbrev xI_X12_stays : Nat → Nat → Prop := fun o k => (o = 58 ∧ k = 15)
abbrev xJ_X12_stays : Nat → Nat → Prop := fun o k => False
abbrev xA_X12_stays : Nat → Prop := fun o => o = 63 ∨ o = 64 ∨ o = 65
abbrev xB_X12_stays : Nat → Prop := fun o => False
abbrev xS_X12_stays : sx_D := (xI_X12_stays, xJ_X12_stays, xA_X12_stays, xB_X12_stays)
set_option maxRecDepth 100000 in
set_option maxHeartbeats 1000000 in
theorem fr_f_X12_stays (x1 : Int32) (x2 : Int32) (x3 : Int32) (s : sx_M) {p : Int64 × sx_M} (hf : f_X12_stays x1 x2 x3 s = some p) : sx_eq (xS_X12_stays) s p.2 := by
  unfold f_X12_stays at hf
  have J110 : ∀ (y1_110 : Int32) (y2_110 : Int32) (y4_110 : Int32) (y5_110 : Int32) (t1_110 : Int32) (t2_110 : Int32) (t3_110 : Int32) (s_110 : sx_M), sx_eq (xS_X12_stays) s s_110 → f_X12_stays_J110 y1_110 y2_110 y4_110 y5_110 t1_110 t2_110 t3_110 s_110 = some p → sx_eq (xS_X12_stays) s p.2 := by
    intro y1_110 y2_110 y4_110 y5_110 t1_110 t2_110 t3_110 s_110 hs_110 hf
    unfold f_X12_stays_J110 at hf
    obtain ⟨p1, hp1, hf⟩ := ax_bind hf
    rcases ax_or hf with ⟨hc3, hf⟩ | ⟨hc3, hf⟩
    · exact ax_ret (P := fun q : Int64 × sx_M => sx_eq (xS_X12_stays) s q.2) hf (sx_tr hs_110 (sx_mono (D1 := xS_X12_leastBy) (fr_f_X12_leastBy (p := p1) t1_110 t2_110 t3_110 s_110 hp1) (fun o k h => h.elim) (fun o k h => h.elim) (fun o h => h.elim) (fun o h => h.elim)))
    · obtain ⟨_, hf⟩ := ax_ite hf
      rcases ax_or hf with ⟨hc2, hf⟩ | ⟨hc2, hf⟩
      · obtain ⟨p2, hp2, hf⟩ := ax_bind hf
        exact ax_ret (P := fun q : Int64 × sx_M => sx_eq (xS_X12_stays) s q.2) hf (sx_tr (sx_tr hs_110 (sx_mono (D1 := xS_X12_leastBy) (fr_f_X12_leastBy (p := p1) t1_110 t2_110 t3_110 s_110 hp1) (fun o k h => h.elim) (fun o k h => h.elim) (fun o h => h.elim) (fun o h => h.elim))) (sx_mono (D1 := xS_X12_costOf) (fr_f_X12_costOf (p := p2) y1_110 y2_110 p1.2 hp2) (fun o k h => h.elim) (fun o k h => h.elim) (fun o h => h.elim) (fun o h => h.elim)))
      · obtain ⟨p3, hp3, hf⟩ := ax_bind hf
        exact ax_ret (P := fun q : Int64 × sx_M => sx_eq (xS_X12_stays) s q.2) hf (sx_tr (sx_tr hs_110 (sx_mono (D1 := xS_X12_leastBy) (fr_f_X12_leastBy (p := p1) t1_110 t2_110 t3_110 s_110 hp1) (fun o k h => h.elim) (fun o k h => h.elim) (fun o h => h.elim) (fun o h => h.elim))) (sx_mono (D1 := xS_X12_costOf) (fr_f_X12_costOf (p := p3) y1_110 y2_110 p1.2 hp3) (fun o k h => h.elim) (fun o k h => h.elim) (fun o h => h.elim) (fun o h => h.elim)))
  have J90 : ∀ (y1_90 : Int32) (y2_90 : Int32) (y4_90 : Int32) (y5_90 : Int32) (t0_90 : Int32) (t1_90 : Int32) (s_90 : sx_M), sx_eq (xS_X12_stays) s s_90 → f_X12_stays_J90 y1_90 y2_90 y4_90 y5_90 t0_90 t1_90 s_90 = some p → sx_eq (xS_X12_stays) s p.2 := by
    intro y1_90 y2_90 y4_90 y5_90 t0_90 t1_90 s_90 hs_90 hf
    unfold f_X12_stays_J90 at hf
    rcases ax_or hf with ⟨hc5, hf⟩ | ⟨hc5, hf⟩
    · exact ax_ret (P := fun q : Int64 × sx_M => sx_eq (xS_X12_stays) s q.2) hf hs_90
    · rcases ax_or hf with ⟨hc4, hf⟩ | ⟨hc4, hf⟩
      · exact J110 y1_90 y2_90 y4_90 y5_90 y1_90 y2_90 (1 : Int32) s_90 hs_90 hf
      · exact J110 y1_90 y2_90 y4_90 y5_90 y1_90 y2_90 (0 : Int32) s_90 hs_90 hf
  have J77 : ∀ (y1_77 : Int32) (y2_77 : Int32) (y3_77 : Int32) (y4_77 : Int32) (t0_77 : Int32) (s_77 : sx_M), sx_eq (xS_X12_stays) s s_77 → f_X12_stays_J77 y1_77 y2_77 y3_77 y4_77 t0_77 s_77 = some p → sx_eq (xS_X12_stays) s p.2 := by
    intro y1_77 y2_77 y3_77 y4_77 t0_77 s_77 hs_77 hf
    unfold f_X12_stays_J77 at hf
    rcases ax_or hf with ⟨hc6, hf⟩ | ⟨hc6, hf⟩
    · exact J90 y1_77 y2_77 y4_77 t0_77 t0_77 (1 : Int32) s_77 hs_77 hf
    · exact J90 y1_77 y2_77 y4_77 t0_77 t0_77 (0 : Int32) s_77 hs_77 hf
  obtain ⟨p4, hp4, hf⟩ := ax_bind hf
  rcases ax_or hf with ⟨hc12, hf⟩ | ⟨hc12, hf⟩
  · exact ax_ret (P := fun q : Int64 × sx_M => sx_eq (xS_X12_stays) s q.2) hf (sx_tr (sx_rf _ s) (sx_mono (D1 := xS_X12_isWorker) (fr_f_X12_isWorker (p := p4) x1 s hp4) (fun o k h => h.elim) (fun o k h => h.elim) (fun o h => h.elim) (fun o h => h.elim)))
  · obtain ⟨p5, hp5, hf⟩ := ax_bind hf
    rcases ax_or hf with ⟨hc11, hf⟩ | ⟨hc11, hf⟩
    · exact ax_ret (P := fun q : Int64 × sx_M => sx_eq (xS_X12_stays) s q.2) hf (sx_tr (sx_tr (sx_rf _ s) (sx_mono (D1 := xS_X12_isWorker) (fr_f_X12_isWorker (p := p4) x1 s hp4) (fun o k h => h.elim) (fun o k h => h.elim) (fun o h => h.elim) (fun o h => h.elim))) (sx_mono (D1 := xS_X12_isJob) (fr_f_X12_isJob (p := p5) x2 p4.2 hp5) (fun o k h => h.elim) (fun o k h => h.elim) (fun o h => h.elim) (fun o h => h.elim)))
    · obtain ⟨p6, hp6, hf⟩ := ax_bind hf
      rcases ax_or hf with ⟨hc10, hf⟩ | ⟨hc10, hf⟩
      · exact ax_ret (P := fun q : Int64 × sx_M => sx_eq (xS_X12_stays) s q.2) hf (sx_tr (sx_tr (sx_tr (sx_rf _ s) (sx_mono (D1 := xS_X12_isWorker) (fr_f_X12_isWorker (p := p4) x1 s hp4) (fun o k h => h.elim) (fun o k h => h.elim) (fun o h => h.elim) (fun o h => h.elim))) (sx_mono (D1 := xS_X12_isJob) (fr_f_X12_isJob (p := p5) x2 p4.2 hp5) (fun o k h => h.elim) (fun o k h => h.elim) (fun o h => h.elim) (fun o h => h.elim))) (sx_mono (D1 := xS_X12_in) (fr_f_X12_in (p := p6) ((x3).toInt64) (0 : Int64) (1 : Int64) p5.2 hp6) (fun o k h => h.elim) (fun o k h => h.elim) (fun o h => h.elim) (fun o h => h.elim)))
      · obtain ⟨p7, hp7, hf⟩ := ax_bind hf
        rcases ax_or hf with ⟨hc9, hf⟩ | ⟨hc9, hf⟩
        · exact ax_ret (P := fun q : Int64 × sx_M => sx_eq (xS_X12_stays) s q.2) hf (sx_tr (sx_tr (sx_tr (sx_tr (sx_rf _ s) (sx_mono (D1 := xS_X12_isWorker) (fr_f_X12_isWorker (p := p4) x1 s hp4) (fun o k h => h.elim) (fun o k h => h.elim) (fun o h => h.elim) (fun o h => h.elim))) (sx_mono (D1 := xS_X12_isJob) (fr_f_X12_isJob (p := p5) x2 p4.2 hp5) (fun o k h => h.elim) (fun o k h => h.elim) (fun o h => h.elim) (fun o h => h.elim))) (sx_mono (D1 := xS_X12_in) (fr_f_X12_in (p := p6) ((x3).toInt64) (0 : Int64) (1 : Int64) p5.2 hp6) (fun o k h => h.elim) (fun o k h => h.elim) (fun o h => h.elim) (fun o h => h.elim))) (sx_mono (D1 := xS_X12_costOf) (fr_f_X12_costOf (p := p7) x1 x2 p6.2 hp7) (fun o k h => h.elim) (fun o k h => h.elim) (fun o h => h.elim) (fun o h => h.elim)))
        · obtain ⟨p8, hp8, hf⟩ := ax_bind hf
          obtain ⟨p9, hp9, hf⟩ := ax_bind hf
          rcases ax_or hf with ⟨hc8, hf⟩ | ⟨hc8, hf⟩
          · exact ax_ret (P := fun q : Int64 × sx_M => sx_eq (xS_X12_stays) s q.2) hf (sx_tr (sx_tr (sx_tr (sx_tr (sx_tr (sx_tr (sx_rf _ s) (sx_mono (D1 := xS_X12_isWorker) (fr_f_X12_isWorker (p := p4) x1 s hp4) (fun o k h => h.elim) (fun o k h => h.elim) (fun o h => h.elim) (fun o h => h.elim))) (sx_mono (D1 := xS_X12_isJob) (fr_f_X12_isJob (p := p5) x2 p4.2 hp5) (fun o k h => h.elim) (fun o k h => h.elim) (fun o h => h.elim) (fun o h => h.elim))) (sx_mono (D1 := xS_X12_in) (fr_f_X12_in (p := p6) ((x3).toInt64) (0 : Int64) (1 : Int64) p5.2 hp6) (fun o k h => h.elim) (fun o k h => h.elim) (fun o h => h.elim) (fun o h => h.elim))) (sx_mono (D1 := xS_X12_costOf) (fr_f_X12_costOf (p := p7) x1 x2 p6.2 hp7) (fun o k h => h.elim) (fun o k h => h.elim) (fun o h => h.elim) (fun o h => h.elim))) (sx_mono (D1 := xS_X12_goesAll) (fr_f_X12_goesAll (p := p8) p7.2 hp8) (fun o k h => (fun q => q) h) (fun o k h => h.elim) (fun o h => Or.elim h (fun q => (fun q => Or.inl q) q) (fun q0 => Or.elim q0 (fun q => (fun q => Or.inr (Or.inl q)) q) (fun q1 => (fun q => Or.inr (Or.inr (q))) q1))) (fun o h => h.elim))) (sx_mono (D1 := xS_X12_least) (fr_f_X12_least (p := p9) p8 hp9) (fun o k h => h.elim) (fun o k h => h.elim) (fun o h => h.elim) (fun o h => h.elim)))
          · obtain ⟨p10, hp10, hf⟩ := ax_bind hf
            rcases ax_or hf with ⟨hc7, hf⟩ | ⟨hc7, hf⟩
            · exact J77 x1 x2 x3 p9.1 (1 : Int32) p10.2 (sx_tr (sx_tr (sx_tr (sx_tr (sx_tr (sx_tr (sx_tr (sx_rf _ s) (sx_mono (D1 := xS_X12_isWorker) (fr_f_X12_isWorker (p := p4) x1 s hp4) (fun o k h => h.elim) (fun o k h => h.elim) (fun o h => h.elim) (fun o h => h.elim))) (sx_mono (D1 := xS_X12_isJob) (fr_f_X12_isJob (p := p5) x2 p4.2 hp5) (fun o k h => h.elim) (fun o k h => h.elim) (fun o h => h.elim) (fun o h => h.elim))) (sx_mono (D1 := xS_X12_in) (fr_f_X12_in (p := p6) ((x3).toInt64) (0 : Int64) (1 : Int64) p5.2 hp6) (fun o k h => h.elim) (fun o k h => h.elim) (fun o h => h.elim) (fun o h => h.elim))) (sx_mono (D1 := xS_X12_costOf) (fr_f_X12_costOf (p := p7) x1 x2 p6.2 hp7) (fun o k h => h.elim) (fun o k h => h.elim) (fun o h => h.elim) (fun o h => h.elim))) (sx_mono (D1 := xS_X12_goesAll) (fr_f_X12_goesAll (p := p8) p7.2 hp8) (fun o k h => (fun q => q) h) (fun o k h => h.elim) (fun o h => Or.elim h (fun q => (fun q => Or.inl q) q) (fun q0 => Or.elim q0 (fun q => (fun q => Or.inr (Or.inl q)) q) (fun q1 => (fun q => Or.inr (Or.inr (q))) q1))) (fun o h => h.elim))) (sx_mono (D1 := xS_X12_least) (fr_f_X12_least (p := p9) p8 hp9) (fun o k h => h.elim) (fun o k h => h.elim) (fun o h => h.elim) (fun o h => h.elim))) (sx_mono (D1 := xS_X12_jobOf) (fr_f_X12_jobOf (p := p10) p9.1 x1 p9.2 hp10) (fun o k h => h.elim) (fun o k h => h.elim) (fun o h => h.elim) (fun o h => h.elim))) hf
            · exact J77 x1 x2 x3 p9.1 (0 : Int32) p10.2 (sx_tr (sx_tr (sx_tr (sx_tr (sx_tr (sx_tr (sx_tr (sx_rf _ s) (sx_mono (D1 := xS_X12_isWorker) (fr_f_X12_isWorker (p := p4) x1 s hp4) (fun o k h => h.elim) (fun o k h => h.elim) (fun o h => h.elim) (fun o h => h.elim))) (sx_mono (D1 := xS_X12_isJob) (fr_f_X12_isJob (p := p5) x2 p4.2 hp5) (fun o k h => h.elim) (fun o k h => h.elim) (fun o h => h.elim) (fun o h => h.elim))) (sx_mono (D1 := xS_X12_in) (fr_f_X12_in (p := p6) ((x3).toInt64) (0 : Int64) (1 : Int64) p5.2 hp6) (fun o k h => h.elim) (fun o k h => h.elim) (fun o h => h.elim) (fun o h => h.elim))) (sx_mono (D1 := xS_X12_costOf) (fr_f_X12_costOf (p := p7) x1 x2 p6.2 hp7) (fun o k h => h.elim) (fun o k h => h.elim) (fun o h => h.elim) (fun o h => h.elim))) (sx_mono (D1 := xS_X12_goesAll) (fr_f_X12_goesAll (p := p8) p7.2 hp8) (fun o k h => (fun q => q) h) (fun o k h => h.elim) (fun o h => Or.elim h (fun q => (fun q => Or.inl q) q) (fun q0 => Or.elim q0 (fun q => (fun q => Or.inr (Or.inl q)) q) (fun q1 => (fun q => Or.inr (Or.inr (q))) q1))) (fun o h => h.elim))) (sx_mono (D1 := xS_X12_least) (fr_f_X12_least (p := p9) p8 hp9) (fun o k h => h.elim) (fun o k h => h.elim) (fun o h => h.elim) (fun o h => h.elim))) (sx_mono (D1 := xS_X12_jobOf) (fr_f_X12_jobOf (p := p10) p9.1 x1 p9.2 hp10) (fun o k h => h.elim) (fun o k h => h.elim) (fun o h => h.elim) (fun o h => h.elim))) hf
abbrev xI_X12_would : Nat → Nat → Prop := fun o k => (o = 58 ∧ k = 15)
abbrev xJ_X12_would : Nat → Nat → Prop := fun o k => False
abbrev xA_X12_would : Nat → Prop := fun o => o = 59 ∨ o = 63 ∨ o = 64 ∨ o = 65
abbrev xB_X12_would : Nat → Prop := fun o => False
abbrev xS_X12_would : sx_D := (xI_X12_would, xJ_X12_would, xA_X12_would, xB_X12_would)
set_option maxRecDepth 100000 in
set_option maxHeartbeats 1000000 in
theorem fr_f_X12_would (x1 : Int32) (x2 : Int32) (x3 : Int32) (s : sx_M) {p : Int64 × sx_M} (hf : f_X12_would x1 x2 x3 s = some p) : sx_eq (xS_X12_would) s p.2 := by
  unfold f_X12_would at hf
  obtain ⟨p1, hp1, hf⟩ := ax_bind hf
  rcases ax_or hf with ⟨hc7, hf⟩ | ⟨hc7, hf⟩
  · exact ax_ret (P := fun q : Int64 × sx_M => sx_eq (xS_X12_would) s q.2) hf (sx_tr (sx_rf _ s) (sx_mono (D1 := xS_X12_isWorker) (fr_f_X12_isWorker (p := p1) x1 s hp1) (fun o k h => h.elim) (fun o k h => h.elim) (fun o h => h.elim) (fun o h => h.elim)))
  · obtain ⟨p2, hp2, hf⟩ := ax_bind hf
    rcases ax_or hf with ⟨hc6, hf⟩ | ⟨hc6, hf⟩
    · exact ax_ret (P := fun q : Int64 × sx_M => sx_eq (xS_X12_would) s q.2) hf (sx_tr (sx_tr (sx_rf _ s) (sx_mono (D1 := xS_X12_isWorker) (fr_f_X12_isWorker (p := p1) x1 s hp1) (fun o k h => h.elim) (fun o k h => h.elim) (fun o h => h.elim) (fun o h => h.elim))) (sx_mono (D1 := xS_X12_isJob) (fr_f_X12_isJob (p := p2) x2 p1.2 hp2) (fun o k h => h.elim) (fun o k h => h.elim) (fun o h => h.elim) (fun o h => h.elim)))
    · obtain ⟨p3, hp3, hf⟩ := ax_bind hf
      rcases ax_or hf with ⟨hc5, hf⟩ | ⟨hc5, hf⟩
      · exact ax_ret (P := fun q : Int64 × sx_M => sx_eq (xS_X12_would) s q.2) hf (sx_tr (sx_tr (sx_tr (sx_rf _ s) (sx_mono (D1 := xS_X12_isWorker) (fr_f_X12_isWorker (p := p1) x1 s hp1) (fun o k h => h.elim) (fun o k h => h.elim) (fun o h => h.elim) (fun o h => h.elim))) (sx_mono (D1 := xS_X12_isJob) (fr_f_X12_isJob (p := p2) x2 p1.2 hp2) (fun o k h => h.elim) (fun o k h => h.elim) (fun o h => h.elim) (fun o h => h.elim))) (sx_mono (D1 := xS_X12_isCost) (fr_f_X12_isCost (p := p3) ((x3).toInt64) p2.2 hp3) (fun o k h => h.elim) (fun o k h => h.elim) (fun o h => h.elim) (fun o h => h.elim)))
      · obtain ⟨p4, hp4, hf⟩ := ax_bind hf
        obtain ⟨p5, hp5, hf⟩ := ax_bind hf
        obtain ⟨_, hf⟩ := ax_ite hf
        obtain ⟨p6, hp6, hf⟩ := ax_bind hf
        obtain ⟨p7, hp7, hf⟩ := ax_bind hf
        obtain ⟨p8, hp8, hf⟩ := ax_bind hf
        obtain ⟨_, hf⟩ := ax_ite hf
        rcases ax_or hf with ⟨hc4, hf⟩ | ⟨hc4, hf⟩
        · exact ax_ret (P := fun q : Int64 × sx_M => sx_eq (xS_X12_would) s q.2) hf (sx_wA' (D := (xS_X12_would)) (sx_tr (sx_tr (sx_tr (sx_wA' (D := (xS_X12_would)) (sx_tr (sx_tr (sx_tr (sx_tr (sx_tr (sx_rf _ s) (sx_mono (D1 := xS_X12_isWorker) (fr_f_X12_isWorker (p := p1) x1 s hp1) (fun o k h => h.elim) (fun o k h => h.elim) (fun o h => h.elim) (fun o h => h.elim))) (sx_mono (D1 := xS_X12_isJob) (fr_f_X12_isJob (p := p2) x2 p1.2 hp2) (fun o k h => h.elim) (fun o k h => h.elim) (fun o h => h.elim) (fun o h => h.elim))) (sx_mono (D1 := xS_X12_isCost) (fr_f_X12_isCost (p := p3) ((x3).toInt64) p2.2 hp3) (fun o k h => h.elim) (fun o k h => h.elim) (fun o h => h.elim) (fun o h => h.elim))) (sx_mono (D1 := xS_X12_costOf) (fr_f_X12_costOf (p := p4) x1 x2 p3.2 hp4) (fun o k h => h.elim) (fun o k h => h.elim) (fun o h => h.elim) (fun o h => h.elim))) (sx_mono (D1 := xS_X12_placeOf) (fr_f_X12_placeOf (p := p5) x1 x2 p4.2 hp5) (fun o k h => h.elim) (fun o k h => h.elim) (fun o h => h.elim) (fun o h => h.elim))) ((fun q => Or.inl q) rfl)) (sx_mono (D1 := xS_X12_goesAll) (fr_f_X12_goesAll (p := p6) (wA p5.2 59 (p5.1).toNatClampNeg x3) hp6) (fun o k h => (fun q => q) h) (fun o k h => h.elim) (fun o h => Or.elim h (fun q => (fun q => Or.inr (Or.inl q)) q) (fun q0 => Or.elim q0 (fun q => (fun q => Or.inr (Or.inr (Or.inl q))) q) (fun q1 => (fun q => Or.inr (Or.inr (Or.inr (q)))) q1))) (fun o h => h.elim))) (sx_mono (D1 := xS_X12_least) (fr_f_X12_least (p := p7) p6 hp7) (fun o k h => h.elim) (fun o k h => h.elim) (fun o h => h.elim) (fun o h => h.elim))) (sx_mono (D1 := xS_X12_placeOf) (fr_f_X12_placeOf (p := p8) x1 x2 p7.2 hp8) (fun o k h => h.elim) (fun o k h => h.elim) (fun o h => h.elim) (fun o h => h.elim))) ((fun q => Or.inl q) rfl))
        · obtain ⟨_, hf⟩ := ax_ite hf
          exact ax_ret (P := fun q : Int64 × sx_M => sx_eq (xS_X12_would) s q.2) hf (sx_wA' (D := (xS_X12_would)) (sx_tr (sx_tr (sx_tr (sx_wA' (D := (xS_X12_would)) (sx_tr (sx_tr (sx_tr (sx_tr (sx_tr (sx_rf _ s) (sx_mono (D1 := xS_X12_isWorker) (fr_f_X12_isWorker (p := p1) x1 s hp1) (fun o k h => h.elim) (fun o k h => h.elim) (fun o h => h.elim) (fun o h => h.elim))) (sx_mono (D1 := xS_X12_isJob) (fr_f_X12_isJob (p := p2) x2 p1.2 hp2) (fun o k h => h.elim) (fun o k h => h.elim) (fun o h => h.elim) (fun o h => h.elim))) (sx_mono (D1 := xS_X12_isCost) (fr_f_X12_isCost (p := p3) ((x3).toInt64) p2.2 hp3) (fun o k h => h.elim) (fun o k h => h.elim) (fun o h => h.elim) (fun o h => h.elim))) (sx_mono (D1 := xS_X12_costOf) (fr_f_X12_costOf (p := p4) x1 x2 p3.2 hp4) (fun o k h => h.elim) (fun o k h => h.elim) (fun o h => h.elim) (fun o h => h.elim))) (sx_mono (D1 := xS_X12_placeOf) (fr_f_X12_placeOf (p := p5) x1 x2 p4.2 hp5) (fun o k h => h.elim) (fun o k h => h.elim) (fun o h => h.elim) (fun o h => h.elim))) ((fun q => Or.inl q) rfl)) (sx_mono (D1 := xS_X12_goesAll) (fr_f_X12_goesAll (p := p6) (wA p5.2 59 (p5.1).toNatClampNeg x3) hp6) (fun o k h => (fun q => q) h) (fun o k h => h.elim) (fun o h => Or.elim h (fun q => (fun q => Or.inr (Or.inl q)) q) (fun q0 => Or.elim q0 (fun q => (fun q => Or.inr (Or.inr (Or.inl q))) q) (fun q1 => (fun q => Or.inr (Or.inr (Or.inr (q)))) q1))) (fun o h => h.elim))) (sx_mono (D1 := xS_X12_least) (fr_f_X12_least (p := p7) p6 hp7) (fun o k h => h.elim) (fun o k h => h.elim) (fun o h => h.elim) (fun o h => h.elim))) (sx_mono (D1 := xS_X12_placeOf) (fr_f_X12_placeOf (p := p8) x1 x2 p7.2 hp8) (fun o k h => h.elim) (fun o k h => h.elim) (fun o h => h.elim) (fun o h => h.elim))) ((fun q => Or.inl q) rfl))
abbrev xI_X12_ever : Nat → Nat → Prop := fun o k => (o = 58 ∧ k = 15)
abbrev xJ_X12_ever : Nat → Nat → Prop := fun o k => False
abbrev xA_X12_ever : Nat → Prop := fun o => o = 63 ∨ o = 64 ∨ o = 65
abbrev xB_X12_ever : Nat → Prop := fun o => False
abbrev xS_X12_ever : sx_D := (xI_X12_ever, xJ_X12_ever, xA_X12_ever, xB_X12_ever)
set_option maxRecDepth 100000 in
set_option maxHeartbeats 1000000 in
theorem fr_f_X12_ever (x1 : Int32) (s : sx_M) {p : Int32 × sx_M} (hf : f_X12_ever x1 s = some p) : sx_eq (xS_X12_ever) s p.2 := by
  unfold f_X12_ever at hf
  obtain ⟨p1, hp1, hf⟩ := ax_bind hf
  rcases ax_or hf with ⟨hc5, hf⟩ | ⟨hc5, hf⟩
  · exact ax_ret (P := fun q : Int32 × sx_M => sx_eq (xS_X12_ever) s q.2) hf (sx_tr (sx_rf _ s) (sx_mono (D1 := xS_X12_isWorker) (fr_f_X12_isWorker (p := p1) x1 s hp1) (fun o k h => h.elim) (fun o k h => h.elim) (fun o h => h.elim) (fun o h => h.elim)))
  · obtain ⟨p2, hp2, hf⟩ := ax_bind hf
    obtain ⟨p3, hp3, hf⟩ := ax_bind hf
    obtain ⟨b5, hb5, hf⟩ := ax_bind hf
    have hvb5 := wh_inv ((0 : Int32), (0 : Int32), p3.2) (fun a25 : Int32 × Int32 × sx_M => sx_eq (xS_X12_ever) s a25.2.2) (fun e : Int32 × sx_M => sx_eq (xS_X12_ever) s e.2) hb5 ?_ (sx_tr (sx_tr (sx_tr (sx_rf _ s) (sx_mono (D1 := xS_X12_isWorker) (fr_f_X12_isWorker (p := p1) x1 s hp1) (fun o k h => h.elim) (fun o k h => h.elim) (fun o h => h.elim) (fun o h => h.elim))) (sx_mono (D1 := xS_X12_goesAll) (fr_f_X12_goesAll (p := p2) p1.2 hp2) (fun o k h => (fun q => q) h) (fun o k h => h.elim) (fun o h => Or.elim h (fun q => (fun q => Or.inl q) q) (fun q0 => Or.elim q0 (fun q => (fun q => Or.inr (Or.inl q)) q) (fun q1 => (fun q => Or.inr (Or.inr (q))) q1))) (fun o h => h.elim))) (sx_mono (D1 := xS_X12_least) (fr_f_X12_least (p := p3) p2 hp3) (fun o k h => h.elim) (fun o k h => h.elim) (fun o h => h.elim) (fun o h => h.elim)))
    rotate_left
    · intro a25 r ha25 hf
      unfold f_X12_ever_L25 at hf
      have J64 : ∀ (y4_64 : Int32) (t0_64 : Int32) (t1_64 : Int32) (s_64 : sx_M), sx_eq (xS_X12_ever) s s_64 → f_X12_ever_L25_J64 x1 p3.1 y4_64 t0_64 t1_64 s_64 = some r → Sum.elim (fun a25 : Int32 × Int32 × sx_M => sx_eq (xS_X12_ever) s a25.2.2) (fun e : Int32 × sx_M => sx_eq (xS_X12_ever) s e.2) r := by
        intro y4_64 t0_64 t1_64 s_64 hs_64 hf
        unfold f_X12_ever_L25_J64 at hf
        exact ax_ret (P := Sum.elim (fun a25 : Int32 × Int32 × sx_M => sx_eq (xS_X12_ever) s a25.2.2) (fun e : Int32 × sx_M => sx_eq (xS_X12_ever) s e.2)) hf hs_64
      rcases ax_or hf with ⟨hc4, hf⟩ | ⟨hc4, hf⟩
      · exact ax_ret (P := Sum.elim (fun a25 : Int32 × Int32 × sx_M => sx_eq (xS_X12_ever) s a25.2.2) (fun e : Int32 × sx_M => sx_eq (xS_X12_ever) s e.2)) hf ha25
      · obtain ⟨_, hf⟩ := ax_ite hf
        obtain ⟨_, hf⟩ := ax_ite hf
        rcases ax_or hf with ⟨hc3, hf⟩ | ⟨hc3, hf⟩
        · obtain ⟨p4, hp4, hf⟩ := ax_bind hf
          exact J64 a25.2.1 a25.1 ((1 : Int32) <<< (p4.1 &&& 31)) p4.2 (sx_tr ha25 (sx_mono (D1 := xS_X12_jobOf) (fr_f_X12_jobOf (p := p4) a25.2.1 x1 a25.2.2 hp4) (fun o k h => h.elim) (fun o k h => h.elim) (fun o h => h.elim) (fun o h => h.elim))) hf
        · exact J64 a25.2.1 a25.1 (0 : Int32) a25.2.2 ha25 hf
    exact ax_ret (P := fun q : Int32 × sx_M => sx_eq (xS_X12_ever) s q.2) hf hvb5
abbrev xI_X12_leastWith : Nat → Nat → Prop := fun o k => (o = 58 ∧ k = 15)
abbrev xJ_X12_leastWith : Nat → Nat → Prop := fun o k => False
abbrev xA_X12_leastWith : Nat → Prop := fun o => o = 63 ∨ o = 64 ∨ o = 65
abbrev xB_X12_leastWith : Nat → Prop := fun o => False
abbrev xS_X12_leastWith : sx_D := (xI_X12_leastWith, xJ_X12_leastWith, xA_X12_leastWith, xB_X12_leastWith)
set_option maxRecDepth 100000 in
set_option maxHeartbeats 1000000 in
theorem fr_f_X12_leastWith (x1 : Int32) (x2 : Int32) (s : sx_M) {p : Int64 × sx_M} (hf : f_X12_leastWith x1 x2 s = some p) : sx_eq (xS_X12_leastWith) s p.2 := by
  unfold f_X12_leastWith at hf
  obtain ⟨p1, hp1, hf⟩ := ax_bind hf
  obtain ⟨p2, hp2, hf⟩ := ax_bind hf
  rcases ax_or hf with ⟨hc2, hf⟩ | ⟨hc2, hf⟩
  · exact ax_ret (P := fun q : Int64 × sx_M => sx_eq (xS_X12_leastWith) s q.2) hf (sx_tr (sx_tr (sx_rf _ s) (sx_mono (D1 := xS_X12_goesThrough) (fr_f_X12_goesThrough (p := p1) x1 x2 s hp1) (fun o k h => (fun q => q) h) (fun o k h => h.elim) (fun o h => Or.elim h (fun q => (fun q => Or.inl q) q) (fun q0 => Or.elim q0 (fun q => (fun q => Or.inr (Or.inl q)) q) (fun q1 => (fun q => Or.inr (Or.inr (q))) q1))) (fun o h => h.elim))) (sx_mono (D1 := xS_X12_least) (fr_f_X12_least (p := p2) p1 hp2) (fun o k h => h.elim) (fun o k h => h.elim) (fun o h => h.elim) (fun o h => h.elim)))
  · obtain ⟨_, hf⟩ := ax_ite hf
    exact ax_ret (P := fun q : Int64 × sx_M => sx_eq (xS_X12_leastWith) s q.2) hf (sx_tr (sx_tr (sx_rf _ s) (sx_mono (D1 := xS_X12_goesThrough) (fr_f_X12_goesThrough (p := p1) x1 x2 s hp1) (fun o k h => (fun q => q) h) (fun o k h => h.elim) (fun o h => Or.elim h (fun q => (fun q => Or.inl q) q) (fun q0 => Or.elim q0 (fun q => (fun q => Or.inr (Or.inl q)) q) (fun q1 => (fun q => Or.inr (Or.inr (q))) q1))) (fun o h => h.elim))) (sx_mono (D1 := xS_X12_least) (fr_f_X12_least (p := p2) p1 hp2) (fun o k h => h.elim) (fun o k h => h.elim) (fun o h => h.elim) (fun o h => h.elim)))
abbrev xI_X12_price : Nat → Nat → Prop := fun o k => (o = 58 ∧ k = 15)
abbrev xJ_X12_price : Nat → Nat → Prop := fun o k => False
abbrev xA_X12_price : Nat → Prop := fun o => o = 63 ∨ o = 64 ∨ o = 65
abbrev xB_X12_price : Nat → Prop := fun o => False
abbrev xS_X12_price : sx_D := (xI_X12_price, xJ_X12_price, xA_X12_price, xB_X12_price)
set_option maxRecDepth 100000 in
set_option maxHeartbeats 1000000 in
theorem fr_f_X12_price (x1 : Int32) (s : sx_M) {p : Int64 × sx_M} (hf : f_X12_price x1 s = some p) : sx_eq (xS_X12_price) s p.2 := by
  unfold f_X12_price at hf
  obtain ⟨p1, hp1, hf⟩ := ax_bind hf
  rcases ax_or hf with ⟨hc3, hf⟩ | ⟨hc3, hf⟩
  · exact ax_ret (P := fun q : Int64 × sx_M => sx_eq (xS_X12_price) s q.2) hf (sx_tr (sx_rf _ s) (sx_mono (D1 := xS_X12_isJob) (fr_f_X12_isJob (p := p1) x1 s hp1) (fun o k h => h.elim) (fun o k h => h.elim) (fun o h => h.elim) (fun o h => h.elim)))
  · obtain ⟨p2, hp2, hf⟩ := ax_bind hf
    obtain ⟨p3, hp3, hf⟩ := ax_bind hf
    obtain ⟨p4, hp4, hf⟩ := ax_bind hf
    obtain ⟨p5, hp5, hf⟩ := ax_bind hf
    rcases ax_or hf with ⟨hc2, hf⟩ | ⟨hc2, hf⟩
    · exact ax_ret (P := fun q : Int64 × sx_M => sx_eq (xS_X12_price) s q.2) hf (sx_tr (sx_tr (sx_tr (sx_tr (sx_tr (sx_rf _ s) (sx_mono (D1 := xS_X12_isJob) (fr_f_X12_isJob (p := p1) x1 s hp1) (fun o k h => h.elim) (fun o k h => h.elim) (fun o h => h.elim) (fun o h => h.elim))) (sx_mono (D1 := xS_X12_allJobs) (fr_f_X12_allJobs (p := p2) p1.2 hp2) (fun o k h => h.elim) (fun o k h => h.elim) (fun o h => h.elim) (fun o h => h.elim))) (sx_mono (D1 := xS_X12_leastWith) (fr_f_X12_leastWith (p := p3) p2.1 (-1 : Int32) p2.2 hp3) (fun o k h => (fun q => q) h) (fun o k h => h.elim) (fun o h => Or.elim h (fun q => (fun q => Or.inl q) q) (fun q0 => Or.elim q0 (fun q => (fun q => Or.inr (Or.inl q)) q) (fun q1 => (fun q => Or.inr (Or.inr (q))) q1))) (fun o h => h.elim))) (sx_mono (D1 := xS_X12_allJobs) (fr_f_X12_allJobs (p := p4) p3.2 hp4) (fun o k h => h.elim) (fun o k h => h.elim) (fun o h => h.elim) (fun o h => h.elim))) (sx_mono (D1 := xS_X12_leastWith) (fr_f_X12_leastWith (p := p5) (p4.1 &&& (((1 : Int32) <<< (x1 &&& 31)) ^^^ (-1 : Int32))) (-1 : Int32) p4.2 hp5) (fun o k h => (fun q => q) h) (fun o k h => h.elim) (fun o h => Or.elim h (fun q => (fun q => Or.inl q) q) (fun q0 => Or.elim q0 (fun q => (fun q => Or.inr (Or.inl q)) q) (fun q1 => (fun q => Or.inr (Or.inr (q))) q1))) (fun o h => h.elim)))
    · rcases ax_or hf with ⟨hc1, hf⟩ | ⟨hc1, hf⟩
      · exact ax_ret (P := fun q : Int64 × sx_M => sx_eq (xS_X12_price) s q.2) hf (sx_tr (sx_tr (sx_tr (sx_tr (sx_tr (sx_rf _ s) (sx_mono (D1 := xS_X12_isJob) (fr_f_X12_isJob (p := p1) x1 s hp1) (fun o k h => h.elim) (fun o k h => h.elim) (fun o h => h.elim) (fun o h => h.elim))) (sx_mono (D1 := xS_X12_allJobs) (fr_f_X12_allJobs (p := p2) p1.2 hp2) (fun o k h => h.elim) (fun o k h => h.elim) (fun o h => h.elim) (fun o h => h.elim))) (sx_mono (D1 := xS_X12_leastWith) (fr_f_X12_leastWith (p := p3) p2.1 (-1 : Int32) p2.2 hp3) (fun o k h => (fun q => q) h) (fun o k h => h.elim) (fun o h => Or.elim h (fun q => (fun q => Or.inl q) q) (fun q0 => Or.elim q0 (fun q => (fun q => Or.inr (Or.inl q)) q) (fun q1 => (fun q => Or.inr (Or.inr (q))) q1))) (fun o h => h.elim))) (sx_mono (D1 := xS_X12_allJobs) (fr_f_X12_allJobs (p := p4) p3.2 hp4) (fun o k h => h.elim) (fun o k h => h.elim) (fun o h => h.elim) (fun o h => h.elim))) (sx_mono (D1 := xS_X12_leastWith) (fr_f_X12_leastWith (p := p5) (p4.1 &&& (((1 : Int32) <<< (x1 &&& 31)) ^^^ (-1 : Int32))) (-1 : Int32) p4.2 hp5) (fun o k h => (fun q => q) h) (fun o k h => h.elim) (fun o h => Or.elim h (fun q => (fun q => Or.inl q) q) (fun q0 => Or.elim q0 (fun q => (fun q => Or.inr (Or.inl q)) q) (fun q1 => (fun q => Or.inr (Or.inr (q))) q1))) (fun o h => h.elim)))
      · exact ax_ret (P := fun q : Int64 × sx_M => sx_eq (xS_X12_price) s q.2) hf (sx_tr (sx_tr (sx_tr (sx_tr (sx_tr (sx_rf _ s) (sx_mono (D1 := xS_X12_isJob) (fr_f_X12_isJob (p := p1) x1 s hp1) (fun o k h => h.elim) (fun o k h => h.elim) (fun o h => h.elim) (fun o h => h.elim))) (sx_mono (D1 := xS_X12_allJobs) (fr_f_X12_allJobs (p := p2) p1.2 hp2) (fun o k h => h.elim) (fun o k h => h.elim) (fun o h => h.elim) (fun o h => h.elim))) (sx_mono (D1 := xS_X12_leastWith) (fr_f_X12_leastWith (p := p3) p2.1 (-1 : Int32) p2.2 hp3) (fun o k h => (fun q => q) h) (fun o k h => h.elim) (fun o h => Or.elim h (fun q => (fun q => Or.inl q) q) (fun q0 => Or.elim q0 (fun q => (fun q => Or.inr (Or.inl q)) q) (fun q1 => (fun q => Or.inr (Or.inr (q))) q1))) (fun o h => h.elim))) (sx_mono (D1 := xS_X12_allJobs) (fr_f_X12_allJobs (p := p4) p3.2 hp4) (fun o k h => h.elim) (fun o k h => h.elim) (fun o h => h.elim) (fun o h => h.elim))) (sx_mono (D1 := xS_X12_leastWith) (fr_f_X12_leastWith (p := p5) (p4.1 &&& (((1 : Int32) <<< (x1 &&& 31)) ^^^ (-1 : Int32))) (-1 : Int32) p4.2 hp5) (fun o k h => (fun q => q) h) (fun o k h => h.elim) (fun o h => Or.elim h (fun q => (fun q => Or.inl q) q) (fun q0 => Or.elim q0 (fun q => (fun q => Or.inr (Or.inl q)) q) (fun q1 => (fun q => Or.inr (Or.inr (q))) q1))) (fun o h => h.elim)))
abbrev xI_X12_pay : Nat → Nat → Prop := fun o k => (o = 58 ∧ k = 15)
abbrev xJ_X12_pay : Nat → Nat → Prop := fun o k => False
abbrev xA_X12_pay : Nat → Prop := fun o => o = 63 ∨ o = 64 ∨ o = 65
abbrev xB_X12_pay : Nat → Prop := fun o => False
abbrev xS_X12_pay : sx_D := (xI_X12_pay, xJ_X12_pay, xA_X12_pay, xB_X12_pay)
set_option maxRecDepth 100000 in
set_option maxHeartbeats 1000000 in
theorem fr_f_X12_pay (x1 : Int32) (s : sx_M) {p : Int64 × sx_M} (hf : f_X12_pay x1 s = some p) : sx_eq (xS_X12_pay) s p.2 := by
  unfold f_X12_pay at hf
  obtain ⟨p1, hp1, hf⟩ := ax_bind hf
  rcases ax_or hf with ⟨hc2, hf⟩ | ⟨hc2, hf⟩
  · exact ax_ret (P := fun q : Int64 × sx_M => sx_eq (xS_X12_pay) s q.2) hf (sx_tr (sx_rf _ s) (sx_mono (D1 := xS_X12_isWorker) (fr_f_X12_isWorker (p := p1) x1 s hp1) (fun o k h => h.elim) (fun o k h => h.elim) (fun o h => h.elim) (fun o h => h.elim)))
  · obtain ⟨p2, hp2, hf⟩ := ax_bind hf
    obtain ⟨p3, hp3, hf⟩ := ax_bind hf
    rcases ax_or hf with ⟨hc1, hf⟩ | ⟨hc1, hf⟩
    · exact ax_ret (P := fun q : Int64 × sx_M => sx_eq (xS_X12_pay) s q.2) hf (sx_tr (sx_tr (sx_tr (sx_rf _ s) (sx_mono (D1 := xS_X12_isWorker) (fr_f_X12_isWorker (p := p1) x1 s hp1) (fun o k h => h.elim) (fun o k h => h.elim) (fun o h => h.elim) (fun o h => h.elim))) (sx_mono (D1 := xS_X12_goesAll) (fr_f_X12_goesAll (p := p2) p1.2 hp2) (fun o k h => (fun q => q) h) (fun o k h => h.elim) (fun o h => Or.elim h (fun q => (fun q => Or.inl q) q) (fun q0 => Or.elim q0 (fun q => (fun q => Or.inr (Or.inl q)) q) (fun q1 => (fun q => Or.inr (Or.inr (q))) q1))) (fun o h => h.elim))) (sx_mono (D1 := xS_X12_least) (fr_f_X12_least (p := p3) p2 hp3) (fun o k h => h.elim) (fun o k h => h.elim) (fun o h => h.elim) (fun o h => h.elim)))
    · obtain ⟨p4, hp4, hf⟩ := ax_bind hf
      obtain ⟨p5, hp5, hf⟩ := ax_bind hf
      obtain ⟨p6, hp6, hf⟩ := ax_bind hf
      obtain ⟨p7, hp7, hf⟩ := ax_bind hf
      obtain ⟨p8, hp8, hf⟩ := ax_bind hf
      exact ax_ret (P := fun q : Int64 × sx_M => sx_eq (xS_X12_pay) s q.2) hf (sx_tr (sx_tr (sx_tr (sx_tr (sx_tr (sx_tr (sx_tr (sx_tr (sx_rf _ s) (sx_mono (D1 := xS_X12_isWorker) (fr_f_X12_isWorker (p := p1) x1 s hp1) (fun o k h => h.elim) (fun o k h => h.elim) (fun o h => h.elim) (fun o h => h.elim))) (sx_mono (D1 := xS_X12_goesAll) (fr_f_X12_goesAll (p := p2) p1.2 hp2) (fun o k h => (fun q => q) h) (fun o k h => h.elim) (fun o h => Or.elim h (fun q => (fun q => Or.inl q) q) (fun q0 => Or.elim q0 (fun q => (fun q => Or.inr (Or.inl q)) q) (fun q1 => (fun q => Or.inr (Or.inr (q))) q1))) (fun o h => h.elim))) (sx_mono (D1 := xS_X12_least) (fr_f_X12_least (p := p3) p2 hp3) (fun o k h => h.elim) (fun o k h => h.elim) (fun o h => h.elim) (fun o h => h.elim))) (sx_mono (D1 := xS_X12_jobOf) (fr_f_X12_jobOf (p := p4) p3.1 x1 p3.2 hp4) (fun o k h => h.elim) (fun o k h => h.elim) (fun o h => h.elim) (fun o h => h.elim))) (sx_mono (D1 := xS_X12_allJobs) (fr_f_X12_allJobs (p := p5) p4.2 hp5) (fun o k h => h.elim) (fun o k h => h.elim) (fun o h => h.elim) (fun o h => h.elim))) (sx_mono (D1 := xS_X12_leastWith) (fr_f_X12_leastWith (p := p6) (p5.1 &&& (((1 : Int32) <<< (p4.1 &&& 31)) ^^^ (-1 : Int32))) x1 p5.2 hp6) (fun o k h => (fun q => q) h) (fun o k h => h.elim) (fun o h => Or.elim h (fun q => (fun q => Or.inl q) q) (fun q0 => Or.elim q0 (fun q => (fun q => Or.inr (Or.inl q)) q) (fun q1 => (fun q => Or.inr (Or.inr (q))) q1))) (fun o h => h.elim))) (sx_mono (D1 := xS_X12_allJobs) (fr_f_X12_allJobs (p := p7) p6.2 hp7) (fun o k h => h.elim) (fun o k h => h.elim) (fun o h => h.elim) (fun o h => h.elim))) (sx_mono (D1 := xS_X12_leastWith) (fr_f_X12_leastWith (p := p8) p7.1 x1 p7.2 hp8) (fun o k h => (fun q => q) h) (fun o k h => h.elim) (fun o h => Or.elim h (fun q => (fun q => Or.inl q) q) (fun q0 => Or.elim q0 (fun q => (fun q => Or.inr (Or.inl q)) q) (fun q1 => (fun q => Or.inr (Or.inr (q))) q1))) (fun o h => h.elim)))
abbrev xI_X12_only : Nat → Nat → Prop := fun o k => (o = 58 ∧ k = 15)
abbrev xJ_X12_only : Nat → Nat → Prop := fun o k => False
abbrev xA_X12_only : Nat → Prop := fun o => o = 63 ∨ o = 64 ∨ o = 65
abbrev xB_X12_only : Nat → Prop := fun o => False
abbrev xS_X12_only : sx_D := (xI_X12_only, xJ_X12_only, xA_X12_only, xB_X12_only)
set_option maxRecDepth 100000 in
set_option maxHeartbeats 1000000 in
theorem fr_f_X12_only (x1 : Int32) (s : sx_M) {p : Int64 × sx_M} (hf : f_X12_only x1 s = some p) : sx_eq (xS_X12_only) s p.2 := by
  unfold f_X12_only at hf
  obtain ⟨p1, hp1, hf⟩ := ax_bind hf
  obtain ⟨p2, hp2, hf⟩ := ax_bind hf
  rcases ax_or hf with ⟨hc1, hf⟩ | ⟨hc1, hf⟩
  · exact ax_ret (P := fun q : Int64 × sx_M => sx_eq (xS_X12_only) s q.2) hf (sx_tr (sx_tr (sx_rf _ s) (sx_mono (D1 := xS_X12_allJobs) (fr_f_X12_allJobs (p := p1) s hp1) (fun o k h => h.elim) (fun o k h => h.elim) (fun o h => h.elim) (fun o h => h.elim))) (sx_mono (D1 := xS_X12_in) (fr_f_X12_in (p := p2) ((x1).toInt64) (0 : Int64) ((p1.1).toInt64) p1.2 hp2) (fun o k h => h.elim) (fun o k h => h.elim) (fun o h => h.elim) (fun o h => h.elim)))
  · obtain ⟨p3, hp3, hf⟩ := ax_bind hf
    exact ax_ret (P := fun q : Int64 × sx_M => sx_eq (xS_X12_only) s q.2) hf (sx_tr (sx_tr (sx_tr (sx_rf _ s) (sx_mono (D1 := xS_X12_allJobs) (fr_f_X12_allJobs (p := p1) s hp1) (fun o k h => h.elim) (fun o k h => h.elim) (fun o h => h.elim) (fun o h => h.elim))) (sx_mono (D1 := xS_X12_in) (fr_f_X12_in (p := p2) ((x1).toInt64) (0 : Int64) ((p1.1).toInt64) p1.2 hp2) (fun o k h => h.elim) (fun o k h => h.elim) (fun o h => h.elim) (fun o h => h.elim))) (sx_mono (D1 := xS_X12_leastWith) (fr_f_X12_leastWith (p := p3) x1 (-1 : Int32) p2.2 hp3) (fun o k h => (fun q => q) h) (fun o k h => h.elim) (fun o h => Or.elim h (fun q => (fun q => Or.inl q) q) (fun q0 => Or.elim q0 (fun q => (fun q => Or.inr (Or.inl q)) q) (fun q1 => (fun q => Or.inr (Or.inr (q))) q1))) (fun o h => h.elim)))
abbrev xI_X12_measureOf : Nat → Nat → Prop := fun o k => False
abbrev xJ_X12_measureOf : Nat → Nat → Prop := fun o k => False
abbrev xA_X12_measureOf : Nat → Prop := fun o => False
abbrev xB_X12_measureOf : Nat → Prop := fun o => False
abbrev xS_X12_measureOf : sx_D := (xI_X12_measureOf, xJ_X12_measureOf, xA_X12_measureOf, xB_X12_measureOf)
set_option maxRecDepth 100000 in
set_option maxHeartbeats 1000000 in
theorem fr_f_X12_measureOf (x1 : Int32) (x2 : Int32) (x3 : Int32) (s : sx_M) {p : Int64 × sx_M} (hf : f_X12_measureOf x1 x2 x3 s = some p) : sx_eq (xS_X12_measureOf) s p.2 := by
  unfold f_X12_measureOf at hf
  obtain ⟨b6, hb6, hf⟩ := ax_bind hf
  have hvb6 := wh_inv ((-9223372036854775808 : Int64), (9223372036854775807 : Int64), (0 : Int32), (0 : Int32), s) (fun a16 : Int64 × Int64 × Int32 × Int32 × sx_M => sx_eq (xS_X12_measureOf) s a16.2.2.2.2) (fun e : Int64 × Int64 × Int32 × sx_M => sx_eq (xS_X12_measureOf) s e.2.2.2) hb6 ?_ (sx_rf _ s)
  rotate_left
  · intro a16 r ha16 hf
    unfold f_X12_measureOf_L16 at hf
    have J73 : ∀ (y4_73 : Int64) (y6_73 : Int64) (y9_73 : Int32) (t0_73 : Int32) (t1_73 : Int32) (s_73 : sx_M), sx_eq (xS_X12_measureOf) s s_73 → f_X12_measureOf_L16_J73 x1 x2 x3 y4_73 y6_73 y9_73 t0_73 t1_73 s_73 = some r → Sum.elim (fun a16 : Int64 × Int64 × Int32 × Int32 × sx_M => sx_eq (xS_X12_measureOf) s a16.2.2.2.2) (fun e : Int64 × Int64 × Int32 × sx_M => sx_eq (xS_X12_measureOf) s e.2.2.2) r := by
      intro y4_73 y6_73 y9_73 t0_73 t1_73 s_73 hs_73 hf
      unfold f_X12_measureOf_L16_J73 at hf
      exact ax_ret (P := Sum.elim (fun a16 : Int64 × Int64 × Int32 × Int32 × sx_M => sx_eq (xS_X12_measureOf) s a16.2.2.2.2) (fun e : Int64 × Int64 × Int32 × sx_M => sx_eq (xS_X12_measureOf) s e.2.2.2)) hf hs_73
    obtain ⟨p1, hp1, hf⟩ := ax_bind hf
    rcases ax_or hf with ⟨hc2, hf⟩ | ⟨hc2, hf⟩
    · exact ax_ret (P := Sum.elim (fun a16 : Int64 × Int64 × Int32 × Int32 × sx_M => sx_eq (xS_X12_measureOf) s a16.2.2.2.2) (fun e : Int64 × Int64 × Int32 × sx_M => sx_eq (xS_X12_measureOf) s e.2.2.2)) hf (sx_tr ha16 (sx_mono (D1 := xS_X12_workers) (fr_f_X12_workers (p := p1) a16.2.2.2.2 hp1) (fun o k h => h.elim) (fun o k h => h.elim) (fun o h => h.elim) (fun o h => h.elim)))
    · obtain ⟨p2, hp2, hf⟩ := ax_bind hf
      obtain ⟨p3, hp3, hf⟩ := ax_bind hf
      obtain ⟨p4, hp4, hf⟩ := ax_bind hf
      obtain ⟨p5, hp5, hf⟩ := ax_bind hf
      rcases ax_or hf with ⟨hc1, hf⟩ | ⟨hc1, hf⟩
      · exact J73 p4.1 p5.1 a16.2.2.2.1 a16.2.2.1 (0 : Int32) p5.2 (sx_tr (sx_tr (sx_tr (sx_tr (sx_tr ha16 (sx_mono (D1 := xS_X12_workers) (fr_f_X12_workers (p := p1) a16.2.2.2.2 hp1) (fun o k h => h.elim) (fun o k h => h.elim) (fun o h => h.elim) (fun o h => h.elim))) (sx_mono (D1 := xS_X12_jobOf) (fr_f_X12_jobOf (p := p2) x1 a16.2.2.2.1 p1.2 hp2) (fun o k h => h.elim) (fun o k h => h.elim) (fun o h => h.elim) (fun o h => h.elim))) (sx_mono (D1 := xS_X12_costOf) (fr_f_X12_costOf (p := p3) a16.2.2.2.1 p2.1 p2.2 hp3) (fun o k h => h.elim) (fun o k h => h.elim) (fun o h => h.elim) (fun o h => h.elim))) (sx_mono (D1 := xS_J9_max_f86c9) (fr_f_J9_max_f86c9 (p := p4) a16.1 ((p3.1).toInt64) p3.2 hp4) (fun o k h => h.elim) (fun o k h => h.elim) (fun o h => h.elim) (fun o h => h.elim))) (sx_mono (D1 := xS_J9_min_f86c9) (fr_f_J9_min_f86c9 (p := p5) a16.2.1 ((p3.1).toInt64) p4.2 hp5) (fun o k h => h.elim) (fun o k h => h.elim) (fun o h => h.elim) (fun o h => h.elim))) hf
      · exact J73 p4.1 p5.1 a16.2.2.2.1 a16.2.2.1 (1 : Int32) p5.2 (sx_tr (sx_tr (sx_tr (sx_tr (sx_tr ha16 (sx_mono (D1 := xS_X12_workers) (fr_f_X12_workers (p := p1) a16.2.2.2.2 hp1) (fun o k h => h.elim) (fun o k h => h.elim) (fun o h => h.elim) (fun o h => h.elim))) (sx_mono (D1 := xS_X12_jobOf) (fr_f_X12_jobOf (p := p2) x1 a16.2.2.2.1 p1.2 hp2) (fun o k h => h.elim) (fun o k h => h.elim) (fun o h => h.elim) (fun o h => h.elim))) (sx_mono (D1 := xS_X12_costOf) (fr_f_X12_costOf (p := p3) a16.2.2.2.1 p2.1 p2.2 hp3) (fun o k h => h.elim) (fun o k h => h.elim) (fun o h => h.elim) (fun o h => h.elim))) (sx_mono (D1 := xS_J9_max_f86c9) (fr_f_J9_max_f86c9 (p := p4) a16.1 ((p3.1).toInt64) p3.2 hp4) (fun o k h => h.elim) (fun o k h => h.elim) (fun o h => h.elim) (fun o h => h.elim))) (sx_mono (D1 := xS_J9_min_f86c9) (fr_f_J9_min_f86c9 (p := p5) a16.2.1 ((p3.1).toInt64) p4.2 hp5) (fun o k h => h.elim) (fun o k h => h.elim) (fun o h => h.elim) (fun o h => h.elim))) hf
  obtain ⟨p7, hp7, hf⟩ := ax_bind hf
  rcases ax_or hf with ⟨hc7, hf⟩ | ⟨hc7, hf⟩
  · exact ax_ret (P := fun q : Int64 × sx_M => sx_eq (xS_X12_measureOf) s q.2) hf (sx_tr hvb6 (sx_mono (D1 := xS_X12_workers) (fr_f_X12_workers (p := p7) b6.2.2.2 hp7) (fun o k h => h.elim) (fun o k h => h.elim) (fun o h => h.elim) (fun o h => h.elim)))
  · rcases ax_or hf with ⟨hc6, hf⟩ | ⟨hc6, hf⟩
    · obtain ⟨_, hf⟩ := ax_ite hf
      exact ax_ret (P := fun q : Int64 × sx_M => sx_eq (xS_X12_measureOf) s q.2) hf (sx_tr hvb6 (sx_mono (D1 := xS_X12_workers) (fr_f_X12_workers (p := p7) b6.2.2.2 hp7) (fun o k h => h.elim) (fun o k h => h.elim) (fun o h => h.elim) (fun o h => h.elim)))
    · rcases ax_or hf with ⟨hc4, hf⟩ | ⟨hc4, hf⟩
      · exact ax_ret (P := fun q : Int64 × sx_M => sx_eq (xS_X12_measureOf) s q.2) hf (sx_tr hvb6 (sx_mono (D1 := xS_X12_workers) (fr_f_X12_workers (p := p7) b6.2.2.2 hp7) (fun o k h => h.elim) (fun o k h => h.elim) (fun o h => h.elim) (fun o h => h.elim)))
      · rcases ax_or hf with ⟨hc3, hf⟩ | ⟨hc3, hf⟩
        · exact ax_ret (P := fun q : Int64 × sx_M => sx_eq (xS_X12_measureOf) s q.2) hf (sx_tr hvb6 (sx_mono (D1 := xS_X12_workers) (fr_f_X12_workers (p := p7) b6.2.2.2 hp7) (fun o k h => h.elim) (fun o k h => h.elim) (fun o h => h.elim) (fun o h => h.elim)))
        · exact ax_ret (P := fun q : Int64 × sx_M => sx_eq (xS_X12_measureOf) s q.2) hf (sx_tr hvb6 (sx_mono (D1 := xS_X12_workers) (fr_f_X12_workers (p := p7) b6.2.2.2 hp7) (fun o k h => h.elim) (fun o k h => h.elim) (fun o h => h.elim) (fun o h => h.elim)))
abbrev xI_X12_firstBy : Nat → Nat → Prop := fun o k => (o = 58 ∧ k = 15)
abbrev xJ_X12_firstBy : Nat → Nat → Prop := fun o k => False
abbrev xA_X12_firstBy : Nat → Prop := fun o => o = 63 ∨ o = 64 ∨ o = 65
abbrev xB_X12_firstBy : Nat → Prop := fun o => False
abbrev xS_X12_firstBy : sx_D := (xI_X12_firstBy, xJ_X12_firstBy, xA_X12_firstBy, xB_X12_firstBy)
set_option maxRecDepth 100000 in
set_option maxHeartbeats 1000000 in
theorem fr_f_X12_firstBy (x1 : Int32) (x2 : Int32) (s : sx_M) {p : Int32 × sx_M} (hf : f_X12_firstBy x1 x2 s = some p) : sx_eq (xS_X12_firstBy) s p.2 := by
  unfold f_X12_firstBy at hf
  obtain ⟨p1, hp1, hf⟩ := ax_bind hf
  obtain ⟨b3, hb3, hf⟩ := ax_bind hf
  have hvb3 := wh_inv ((-1 : Int32), (0 : Int64), (0 : Int32), p1) (fun a12 : Int32 × Int64 × Int32 × sx_M => sx_eq (xS_X12_firstBy) s a12.2.2.2) (fun e : Int32 × sx_M => sx_eq (xS_X12_firstBy) s e.2) hb3 ?_ (sx_tr (sx_rf _ s) (sx_mono (D1 := xS_X12_goesAll) (fr_f_X12_goesAll (p := p1) s hp1) (fun o k h => (fun q => q) h) (fun o k h => h.elim) (fun o h => Or.elim h (fun q => (fun q => Or.inl q) q) (fun q0 => Or.elim q0 (fun q => (fun q => Or.inr (Or.inl q)) q) (fun q1 => (fun q => Or.inr (Or.inr (q))) q1))) (fun o h => h.elim)))
  rotate_left
  · intro a12 r ha12 hf
    unfold f_X12_firstBy_L12 at hf
    have J68 : ∀ (y6_68 : Int32) (y7_68 : Int64) (s_68 : sx_M), sx_eq (xS_X12_firstBy) s s_68 → f_X12_firstBy_L12_J68 x1 x2 y6_68 y7_68 s_68 = some r → Sum.elim (fun a12 : Int32 × Int64 × Int32 × sx_M => sx_eq (xS_X12_firstBy) s a12.2.2.2) (fun e : Int32 × sx_M => sx_eq (xS_X12_firstBy) s e.2) r := by
      intro y6_68 y7_68 s_68 hs_68 hf
      unfold f_X12_firstBy_L12_J68 at hf
      exact ax_ret (P := Sum.elim (fun a12 : Int32 × Int64 × Int32 × sx_M => sx_eq (xS_X12_firstBy) s a12.2.2.2) (fun e : Int32 × sx_M => sx_eq (xS_X12_firstBy) s e.2)) hf hs_68
    rcases ax_or hf with ⟨hc7, hf⟩ | ⟨hc7, hf⟩
    · exact ax_ret (P := Sum.elim (fun a12 : Int32 × Int64 × Int32 × sx_M => sx_eq (xS_X12_firstBy) s a12.2.2.2) (fun e : Int32 × sx_M => sx_eq (xS_X12_firstBy) s e.2)) hf ha12
    · obtain ⟨p2, hp2, hf⟩ := ax_bind hf
      rcases ax_or hf with ⟨hc6, hf⟩ | ⟨hc6, hf⟩
      · exact J68 a12.2.2.1 p2.1 p2.2 (sx_tr ha12 (sx_mono (D1 := xS_X12_measureOf) (fr_f_X12_measureOf (p := p2) a12.2.2.1 x1 x2 a12.2.2.2 hp2) (fun o k h => h.elim) (fun o k h => h.elim) (fun o h => h.elim) (fun o h => h.elim))) hf
      · rcases ax_or hf with ⟨hc5, hf⟩ | ⟨hc5, hf⟩
        · exact J68 a12.2.2.1 p2.1 p2.2 (sx_tr ha12 (sx_mono (D1 := xS_X12_measureOf) (fr_f_X12_measureOf (p := p2) a12.2.2.1 x1 x2 a12.2.2.2 hp2) (fun o k h => h.elim) (fun o k h => h.elim) (fun o h => h.elim) (fun o h => h.elim))) hf
        · rcases ax_or hf with ⟨hc4, hf⟩ | ⟨hc4, hf⟩
          · obtain ⟨_, hf⟩ := ax_ite hf
            obtain ⟨_, hf⟩ := ax_ite hf
            rcases ax_or hf with ⟨hc3, hf⟩ | ⟨hc3, hf⟩
            · exact ax_ret (P := Sum.elim (fun a12 : Int32 × Int64 × Int32 × sx_M => sx_eq (xS_X12_firstBy) s a12.2.2.2) (fun e : Int32 × sx_M => sx_eq (xS_X12_firstBy) s e.2)) hf (sx_tr ha12 (sx_mono (D1 := xS_X12_measureOf) (fr_f_X12_measureOf (p := p2) a12.2.2.1 x1 x2 a12.2.2.2 hp2) (fun o k h => h.elim) (fun o k h => h.elim) (fun o h => h.elim) (fun o h => h.elim)))
            · exact J68 a12.2.2.1 p2.1 p2.2 (sx_tr ha12 (sx_mono (D1 := xS_X12_measureOf) (fr_f_X12_measureOf (p := p2) a12.2.2.1 x1 x2 a12.2.2.2 hp2) (fun o k h => h.elim) (fun o k h => h.elim) (fun o h => h.elim) (fun o h => h.elim))) hf
          · exact ax_ret (P := Sum.elim (fun a12 : Int32 × Int64 × Int32 × sx_M => sx_eq (xS_X12_firstBy) s a12.2.2.2) (fun e : Int32 × sx_M => sx_eq (xS_X12_firstBy) s e.2)) hf (sx_tr ha12 (sx_mono (D1 := xS_X12_measureOf) (fr_f_X12_measureOf (p := p2) a12.2.2.1 x1 x2 a12.2.2.2 hp2) (fun o k h => h.elim) (fun o k h => h.elim) (fun o h => h.elim) (fun o h => h.elim)))
  exact ax_ret (P := fun q : Int32 × sx_M => sx_eq (xS_X12_firstBy) s q.2) hf hvb3
abbrev xI_X12_first : Nat → Nat → Prop := fun o k => (o = 58 ∧ k = 15)
abbrev xJ_X12_first : Nat → Nat → Prop := fun o k => False
abbrev xA_X12_first : Nat → Prop := fun o => o = 63 ∨ o = 64 ∨ o = 65
abbrev xB_X12_first : Nat → Prop := fun o => False
abbrev xS_X12_first : sx_D := (xI_X12_first, xJ_X12_first, xA_X12_first, xB_X12_first)
set_option maxRecDepth 100000 in
set_option maxHeartbeats 1000000 in
theorem fr_f_X12_first (x1 : Int32) (x2 : Int32) (x3 : Int32) (s : sx_M) {p : Int64 × sx_M} (hf : f_X12_first x1 x2 x3 s = some p) : sx_eq (xS_X12_first) s p.2 := by
  unfold f_X12_first at hf
  obtain ⟨p1, hp1, hf⟩ := ax_bind hf
  rcases ax_or hf with ⟨hc5, hf⟩ | ⟨hc5, hf⟩
  · exact ax_ret (P := fun q : Int64 × sx_M => sx_eq (xS_X12_first) s q.2) hf (sx_tr (sx_rf _ s) (sx_mono (D1 := xS_X12_in) (fr_f_X12_in (p := p1) ((x1).toInt64) (0 : Int64) (3 : Int64) s hp1) (fun o k h => h.elim) (fun o k h => h.elim) (fun o h => h.elim) (fun o h => h.elim)))
  · obtain ⟨p2, hp2, hf⟩ := ax_bind hf
    rcases ax_or hf with ⟨hc4, hf⟩ | ⟨hc4, hf⟩
    · exact ax_ret (P := fun q : Int64 × sx_M => sx_eq (xS_X12_first) s q.2) hf (sx_tr (sx_tr (sx_rf _ s) (sx_mono (D1 := xS_X12_in) (fr_f_X12_in (p := p1) ((x1).toInt64) (0 : Int64) (3 : Int64) s hp1) (fun o k h => h.elim) (fun o k h => h.elim) (fun o h => h.elim) (fun o h => h.elim))) (sx_mono (D1 := xS_X12_in) (fr_f_X12_in (p := p2) ((x3).toInt64) (0 : Int64) (1 : Int64) p1.2 hp2) (fun o k h => h.elim) (fun o k h => h.elim) (fun o h => h.elim) (fun o h => h.elim)))
    · obtain ⟨p3, hp3, hf⟩ := ax_bind hf
      rcases ax_or hf with ⟨hc3, hf⟩ | ⟨hc3, hf⟩
      · exact ax_ret (P := fun q : Int64 × sx_M => sx_eq (xS_X12_first) s q.2) hf (sx_tr (sx_tr (sx_tr (sx_rf _ s) (sx_mono (D1 := xS_X12_in) (fr_f_X12_in (p := p1) ((x1).toInt64) (0 : Int64) (3 : Int64) s hp1) (fun o k h => h.elim) (fun o k h => h.elim) (fun o h => h.elim) (fun o h => h.elim))) (sx_mono (D1 := xS_X12_in) (fr_f_X12_in (p := p2) ((x3).toInt64) (0 : Int64) (1 : Int64) p1.2 hp2) (fun o k h => h.elim) (fun o k h => h.elim) (fun o h => h.elim) (fun o h => h.elim))) (sx_mono (D1 := xS_X12_firstBy) (fr_f_X12_firstBy (p := p3) x1 x2 p2.2 hp3) (fun o k h => (fun q => q) h) (fun o k h => h.elim) (fun o h => Or.elim h (fun q => (fun q => Or.inl q) q) (fun q0 => Or.elim q0 (fun q => (fun q => Or.inr (Or.inl q)) q) (fun q1 => (fun q => Or.inr (Or.inr (q))) q1))) (fun o h => h.elim)))
      · rcases ax_or hf with ⟨hc2, hf⟩ | ⟨hc2, hf⟩
        · obtain ⟨p4, hp4, hf⟩ := ax_bind hf
          exact ax_ret (P := fun q : Int64 × sx_M => sx_eq (xS_X12_first) s q.2) hf (sx_tr (sx_tr (sx_tr (sx_tr (sx_rf _ s) (sx_mono (D1 := xS_X12_in) (fr_f_X12_in (p := p1) ((x1).toInt64) (0 : Int64) (3 : Int64) s hp1) (fun o k h => h.elim) (fun o k h => h.elim) (fun o h => h.elim) (fun o h => h.elim))) (sx_mono (D1 := xS_X12_in) (fr_f_X12_in (p := p2) ((x3).toInt64) (0 : Int64) (1 : Int64) p1.2 hp2) (fun o k h => h.elim) (fun o k h => h.elim) (fun o h => h.elim) (fun o h => h.elim))) (sx_mono (D1 := xS_X12_firstBy) (fr_f_X12_firstBy (p := p3) x1 x2 p2.2 hp3) (fun o k h => (fun q => q) h) (fun o k h => h.elim) (fun o h => Or.elim h (fun q => (fun q => Or.inl q) q) (fun q0 => Or.elim q0 (fun q => (fun q => Or.inr (Or.inl q)) q) (fun q1 => (fun q => Or.inr (Or.inr (q))) q1))) (fun o h => h.elim))) (sx_mono (D1 := xS_X12_measureOf) (fr_f_X12_measureOf (p := p4) p3.1 x1 x2 p3.2 hp4) (fun o k h => h.elim) (fun o k h => h.elim) (fun o h => h.elim) (fun o h => h.elim)))
        · obtain ⟨_, hf⟩ := ax_ite hf
          exact ax_ret (P := fun q : Int64 × sx_M => sx_eq (xS_X12_first) s q.2) hf (sx_tr (sx_tr (sx_tr (sx_rf _ s) (sx_mono (D1 := xS_X12_in) (fr_f_X12_in (p := p1) ((x1).toInt64) (0 : Int64) (3 : Int64) s hp1) (fun o k h => h.elim) (fun o k h => h.elim) (fun o h => h.elim) (fun o h => h.elim))) (sx_mono (D1 := xS_X12_in) (fr_f_X12_in (p := p2) ((x3).toInt64) (0 : Int64) (1 : Int64) p1.2 hp2) (fun o k h => h.elim) (fun o k h => h.elim) (fun o h => h.elim) (fun o h => h.elim))) (sx_mono (D1 := xS_X12_firstBy) (fr_f_X12_firstBy (p := p3) x1 x2 p2.2 hp3) (fun o k h => (fun q => q) h) (fun o k h => h.elim) (fun o h => Or.elim h (fun q => (fun q => Or.inl q) q) (fun q0 => Or.elim q0 (fun q => (fun q => Or.inr (Or.inl q)) q) (fun q1 => (fun q => Or.inr (Or.inr (q))) q1))) (fun o h => h.elim)))
abbrev xI_X12_firstJob : Nat → Nat → Prop := fun o k => (o = 58 ∧ k = 15)
abbrev xJ_X12_firstJob : Nat → Nat → Prop := fun o k => False
abbrev xA_X12_firstJob : Nat → Prop := fun o => o = 63 ∨ o = 64 ∨ o = 65
abbrev xB_X12_firstJob : Nat → Prop := fun o => False
abbrev xS_X12_firstJob : sx_D := (xI_X12_firstJob, xJ_X12_firstJob, xA_X12_firstJob, xB_X12_firstJob)
set_option maxRecDepth 100000 in
set_option maxHeartbeats 1000000 in
theorem fr_f_X12_firstJob (x1 : Int32) (x2 : Int32) (x3 : Int32) (s : sx_M) {p : Int32 × sx_M} (hf : f_X12_firstJob x1 x2 x3 s = some p) : sx_eq (xS_X12_firstJob) s p.2 := by
  unfold f_X12_firstJob at hf
  obtain ⟨p1, hp1, hf⟩ := ax_bind hf
  rcases ax_or hf with ⟨hc3, hf⟩ | ⟨hc3, hf⟩
  · exact ax_ret (P := fun q : Int32 × sx_M => sx_eq (xS_X12_firstJob) s q.2) hf (sx_tr (sx_rf _ s) (sx_mono (D1 := xS_X12_in) (fr_f_X12_in (p := p1) ((x1).toInt64) (0 : Int64) (3 : Int64) s hp1) (fun o k h => h.elim) (fun o k h => h.elim) (fun o h => h.elim) (fun o h => h.elim)))
  · obtain ⟨p2, hp2, hf⟩ := ax_bind hf
    rcases ax_or hf with ⟨hc2, hf⟩ | ⟨hc2, hf⟩
    · exact ax_ret (P := fun q : Int32 × sx_M => sx_eq (xS_X12_firstJob) s q.2) hf (sx_tr (sx_tr (sx_rf _ s) (sx_mono (D1 := xS_X12_in) (fr_f_X12_in (p := p1) ((x1).toInt64) (0 : Int64) (3 : Int64) s hp1) (fun o k h => h.elim) (fun o k h => h.elim) (fun o h => h.elim) (fun o h => h.elim))) (sx_mono (D1 := xS_X12_isWorker) (fr_f_X12_isWorker (p := p2) x3 p1.2 hp2) (fun o k h => h.elim) (fun o k h => h.elim) (fun o h => h.elim) (fun o h => h.elim)))
    · obtain ⟨p3, hp3, hf⟩ := ax_bind hf
      rcases ax_or hf with ⟨hc1, hf⟩ | ⟨hc1, hf⟩
      · exact ax_ret (P := fun q : Int32 × sx_M => sx_eq (xS_X12_firstJob) s q.2) hf (sx_tr (sx_tr (sx_tr (sx_rf _ s) (sx_mono (D1 := xS_X12_in) (fr_f_X12_in (p := p1) ((x1).toInt64) (0 : Int64) (3 : Int64) s hp1) (fun o k h => h.elim) (fun o k h => h.elim) (fun o h => h.elim) (fun o h => h.elim))) (sx_mono (D1 := xS_X12_isWorker) (fr_f_X12_isWorker (p := p2) x3 p1.2 hp2) (fun o k h => h.elim) (fun o k h => h.elim) (fun o h => h.elim) (fun o h => h.elim))) (sx_mono (D1 := xS_X12_firstBy) (fr_f_X12_firstBy (p := p3) x1 x2 p2.2 hp3) (fun o k h => (fun q => q) h) (fun o k h => h.elim) (fun o h => Or.elim h (fun q => (fun q => Or.inl q) q) (fun q0 => Or.elim q0 (fun q => (fun q => Or.inr (Or.inl q)) q) (fun q1 => (fun q => Or.inr (Or.inr (q))) q1))) (fun o h => h.elim)))
      · obtain ⟨p4, hp4, hf⟩ := ax_bind hf
        exact ax_ret (P := fun q : Int32 × sx_M => sx_eq (xS_X12_firstJob) s q.2) hf (sx_tr (sx_tr (sx_tr (sx_tr (sx_rf _ s) (sx_mono (D1 := xS_X12_in) (fr_f_X12_in (p := p1) ((x1).toInt64) (0 : Int64) (3 : Int64) s hp1) (fun o k h => h.elim) (fun o k h => h.elim) (fun o h => h.elim) (fun o h => h.elim))) (sx_mono (D1 := xS_X12_isWorker) (fr_f_X12_isWorker (p := p2) x3 p1.2 hp2) (fun o k h => h.elim) (fun o k h => h.elim) (fun o h => h.elim) (fun o h => h.elim))) (sx_mono (D1 := xS_X12_firstBy) (fr_f_X12_firstBy (p := p3) x1 x2 p2.2 hp3) (fun o k h => (fun q => q) h) (fun o k h => h.elim) (fun o h => Or.elim h (fun q => (fun q => Or.inl q) q) (fun q0 => Or.elim q0 (fun q => (fun q => Or.inr (Or.inl q)) q) (fun q1 => (fun q => Or.inr (Or.inr (q))) q1))) (fun o h => h.elim))) (sx_mono (D1 := xS_X12_jobOf) (fr_f_X12_jobOf (p := p4) p3.1 x3 p3.2 hp4) (fun o k h => h.elim) (fun o k h => h.elim) (fun o h => h.elim) (fun o h => h.elim)))
abbrev xI_X12_isTaken : Nat → Nat → Prop := fun o k => False
abbrev xJ_X12_isTaken : Nat → Nat → Prop := fun o k => False
abbrev xA_X12_isTaken : Nat → Prop := fun o => False
abbrev xB_X12_isTaken : Nat → Prop := fun o => False
abbrev xS_X12_isTaken : sx_D := (xI_X12_isTaken, xJ_X12_isTaken, xA_X12_isTaken, xB_X12_isTaken)
set_option maxRecDepth 100000 in
set_option maxHeartbeats 1000000 in
theorem fr_f_X12_isTaken (x1 : Int32) (s : sx_M) {p : Int32 × sx_M} (hf : f_X12_isTaken x1 s = some p) : sx_eq (xS_X12_isTaken) s p.2 := by
  unfold f_X12_isTaken at hf
  obtain ⟨b2, hb2, hf⟩ := ax_bind hf
  have hvb2 := wh_inv ((0 : Int32), s) (fun a2 : Int32 × sx_M => sx_eq (xS_X12_isTaken) s a2.2) (Sum.elim (fun e : sx_M => sx_eq (xS_X12_isTaken) s e) (fun v : Int32 × sx_M => sx_eq (xS_X12_isTaken) s v.2)) hb2 ?_ (sx_rf _ s)
  rotate_left
  · intro a2 r ha2 hf
    unfold f_X12_isTaken_L2 at hf
    obtain ⟨p1, hp1, hf⟩ := ax_bind hf
    rcases ax_or hf with ⟨hc3, hf⟩ | ⟨hc3, hf⟩
    · exact ax_ret (P := Sum.elim (fun a2 : Int32 × sx_M => sx_eq (xS_X12_isTaken) s a2.2) (Sum.elim (fun e : sx_M => sx_eq (xS_X12_isTaken) s e) (fun v : Int32 × sx_M => sx_eq (xS_X12_isTaken) s v.2))) hf (sx_tr ha2 (sx_mono (D1 := xS_X12_workers) (fr_f_X12_workers (p := p1) a2.2 hp1) (fun o k h => h.elim) (fun o k h => h.elim) (fun o h => h.elim) (fun o h => h.elim)))
    · obtain ⟨_, hf⟩ := ax_ite hf
      rcases ax_or hf with ⟨hc2, hf⟩ | ⟨hc2, hf⟩
      · exact ax_ret (P := Sum.elim (fun a2 : Int32 × sx_M => sx_eq (xS_X12_isTaken) s a2.2) (Sum.elim (fun e : sx_M => sx_eq (xS_X12_isTaken) s e) (fun v : Int32 × sx_M => sx_eq (xS_X12_isTaken) s v.2))) hf (sx_tr ha2 (sx_mono (D1 := xS_X12_workers) (fr_f_X12_workers (p := p1) a2.2 hp1) (fun o k h => h.elim) (fun o k h => h.elim) (fun o h => h.elim) (fun o h => h.elim)))
      · exact ax_ret (P := Sum.elim (fun a2 : Int32 × sx_M => sx_eq (xS_X12_isTaken) s a2.2) (Sum.elim (fun e : sx_M => sx_eq (xS_X12_isTaken) s e) (fun v : Int32 × sx_M => sx_eq (xS_X12_isTaken) s v.2))) hf (sx_tr ha2 (sx_mono (D1 := xS_X12_workers) (fr_f_X12_workers (p := p1) a2.2 hp1) (fun o k h => h.elim) (fun o k h => h.elim) (fun o h => h.elim) (fun o h => h.elim)))
  rcases b2 with e3 | e4
  · exact ax_ret (P := fun q : Int32 × sx_M => sx_eq (xS_X12_isTaken) s q.2) hf hvb2
  · exact ax_ret (P := fun q : Int32 × sx_M => sx_eq (xS_X12_isTaken) s q.2) hf hvb2
abbrev xI_X12_laysGreedy : Nat → Nat → Prop := fun o k => False
abbrev xJ_X12_laysGreedy : Nat → Nat → Prop := fun o k => False
abbrev xA_X12_laysGreedy : Nat → Prop := fun o => o = 67
abbrev xB_X12_laysGreedy : Nat → Prop := fun o => False
abbrev xS_X12_laysGreedy : sx_D := (xI_X12_laysGreedy, xJ_X12_laysGreedy, xA_X12_laysGreedy, xB_X12_laysGreedy)
set_option maxRecDepth 100000 in
set_option maxHeartbeats 1000000 in
theorem fr_f_X12_laysGreedy (s : sx_M) {p : sx_M} (hf : f_X12_laysGreedy s = some p) : sx_eq (xS_X12_laysGreedy) s p := by
  unfold f_X12_laysGreedy at hf
  obtain ⟨b1, hb1, hf⟩ := ax_bind hf
  have hvb1 := wh_inv ((0 : Int32), s) (fun a2 : Int32 × sx_M => sx_eq (xS_X12_laysGreedy) s a2.2) (fun e : sx_M => sx_eq (xS_X12_laysGreedy) s e) hb1 ?_ (sx_rf _ s)
  rotate_left
  · intro a2 r ha2 hf
    unfold f_X12_laysGreedy_L2 at hf
    rcases ax_or hf with ⟨hc2, hf⟩ | ⟨hc2, hf⟩
    · exact ax_ret (P := Sum.elim (fun a2 : Int32 × sx_M => sx_eq (xS_X12_laysGreedy) s a2.2) (fun e : sx_M => sx_eq (xS_X12_laysGreedy) s e)) hf ha2
    · obtain ⟨_, hf⟩ := ax_ite hf
      exact ax_ret (P := Sum.elim (fun a2 : Int32 × sx_M => sx_eq (xS_X12_laysGreedy) s a2.2) (fun e : sx_M => sx_eq (xS_X12_laysGreedy) s e)) hf (sx_wA' (D := (xS_X12_laysGreedy)) ha2 ((fun q => q) rfl))
  obtain ⟨b10, hb10, hf⟩ := ax_bind hf
  have hvb10 := wh_inv ((1 : Int32), b1) (fun a23 : Int32 × sx_M => sx_eq (xS_X12_laysGreedy) s a23.2) (fun e : sx_M => sx_eq (xS_X12_laysGreedy) s e) hb10 ?_ hvb1
  rotate_left
  · intro a23 r ha23 hf
    unfold f_X12_laysGreedy_L23 at hf
    have J150 : ∀ (y2_150 : Int32) (y3_150 : Int32) (t0_150 : Int32) (s_150 : sx_M), sx_eq (xS_X12_laysGreedy) s s_150 → f_X12_laysGreedy_L23_J150 y2_150 y3_150 t0_150 s_150 = some r → Sum.elim (fun a23 : Int32 × sx_M => sx_eq (xS_X12_laysGreedy) s a23.2) (fun e : sx_M => sx_eq (xS_X12_laysGreedy) s e) r := by
      intro y2_150 y3_150 t0_150 s_150 hs_150 hf
      unfold f_X12_laysGreedy_L23_J150 at hf
      rcases ax_or hf with ⟨hc4, hf⟩ | ⟨hc4, hf⟩
      · exact ax_ret (P := Sum.elim (fun a23 : Int32 × sx_M => sx_eq (xS_X12_laysGreedy) s a23.2) (fun e : sx_M => sx_eq (xS_X12_laysGreedy) s e)) hf hs_150
      · obtain ⟨_, hf⟩ := ax_ite hf
        exact ax_ret (P := Sum.elim (fun a23 : Int32 × sx_M => sx_eq (xS_X12_laysGreedy) s a23.2) (fun e : sx_M => sx_eq (xS_X12_laysGreedy) s e)) hf (sx_wA' (D := (xS_X12_laysGreedy)) hs_150 ((fun q => q) rfl))
    rcases ax_or hf with ⟨hc15, hf⟩ | ⟨hc15, hf⟩
    · exact ax_ret (P := Sum.elim (fun a23 : Int32 × sx_M => sx_eq (xS_X12_laysGreedy) s a23.2) (fun e : sx_M => sx_eq (xS_X12_laysGreedy) s e)) hf ha23
    · obtain ⟨b9, hb9, hf⟩ := ax_bind hf
      have hvb9 := wh_inv ((-1 : Int32), (-1 : Int32), (0 : Int32), a23.2) (fun a34 : Int32 × Int32 × Int32 × sx_M => sx_eq (xS_X12_laysGreedy) s a34.2.2.2) (fun e : Int32 × Int32 × sx_M => sx_eq (xS_X12_laysGreedy) s e.2.2) hb9 ?_ ha23
      rotate_left
      · intro a34 r ha34 hf
        unfold f_X12_laysGreedy_L34 at hf
        obtain ⟨p2, hp2, hf⟩ := ax_bind hf
        rcases ax_or hf with ⟨hc13, hf⟩ | ⟨hc13, hf⟩
        · exact ax_ret (P := Sum.elim (fun a34 : Int32 × Int32 × Int32 × sx_M => sx_eq (xS_X12_laysGreedy) s a34.2.2.2) (fun e : Int32 × Int32 × sx_M => sx_eq (xS_X12_laysGreedy) s e.2.2)) hf (sx_tr ha34 (sx_mono (D1 := xS_X12_workers) (fr_f_X12_workers (p := p2) a34.2.2.2 hp2) (fun o k h => h.elim) (fun o k h => h.elim) (fun o h => h.elim) (fun o h => h.elim)))
        · obtain ⟨b8, hb8, hf⟩ := ax_bind hf
          have hvb8 := wh_inv (a34.1, a34.2.1, (0 : Int32), p2.2) (fun a46 : Int32 × Int32 × Int32 × sx_M => sx_eq (xS_X12_laysGreedy) s a46.2.2.2) (fun e : Int32 × Int32 × sx_M => sx_eq (xS_X12_laysGreedy) s e.2.2) hb8 ?_ (sx_tr ha34 (sx_mono (D1 := xS_X12_workers) (fr_f_X12_workers (p := p2) a34.2.2.2 hp2) (fun o k h => h.elim) (fun o k h => h.elim) (fun o h => h.elim) (fun o h => h.elim)))
          rotate_left
          · intro a46 r ha46 hf
            unfold f_X12_laysGreedy_L46 at hf
            have J122 : ∀ (y5_122 : Int32) (s_122 : sx_M), sx_eq (xS_X12_laysGreedy) s s_122 → f_X12_laysGreedy_L46_J122 a34.2.2.1 y5_122 s_122 = some r → Sum.elim (fun a46 : Int32 × Int32 × Int32 × sx_M => sx_eq (xS_X12_laysGreedy) s a46.2.2.2) (fun e : Int32 × Int32 × sx_M => sx_eq (xS_X12_laysGreedy) s e.2.2) r := by
              intro y5_122 s_122 hs_122 hf
              unfold f_X12_laysGreedy_L46_J122 at hf
              exact ax_ret (P := Sum.elim (fun a46 : Int32 × Int32 × Int32 × sx_M => sx_eq (xS_X12_laysGreedy) s a46.2.2.2) (fun e : Int32 × Int32 × sx_M => sx_eq (xS_X12_laysGreedy) s e.2.2)) hf hs_122
            have J93 : ∀ (y2_93 : Int32) (y3_93 : Int32) (y5_93 : Int32) (t0_93 : Int32) (s_93 : sx_M), sx_eq (xS_X12_laysGreedy) s s_93 → f_X12_laysGreedy_L46_J93 a34.2.2.1 y2_93 y3_93 y5_93 t0_93 s_93 = some r → Sum.elim (fun a46 : Int32 × Int32 × Int32 × sx_M => sx_eq (xS_X12_laysGreedy) s a46.2.2.2) (fun e : Int32 × Int32 × sx_M => sx_eq (xS_X12_laysGreedy) s e.2.2) r := by
              intro y2_93 y3_93 y5_93 t0_93 s_93 hs_93 hf
              unfold f_X12_laysGreedy_L46_J93 at hf
              rcases ax_or hf with ⟨hc7, hf⟩ | ⟨hc7, hf⟩
              · exact ax_ret (P := Sum.elim (fun a46 : Int32 × Int32 × Int32 × sx_M => sx_eq (xS_X12_laysGreedy) s a46.2.2.2) (fun e : Int32 × Int32 × sx_M => sx_eq (xS_X12_laysGreedy) s e.2.2)) hf hs_93
              · rcases ax_or hf with ⟨hc6, hf⟩ | ⟨hc6, hf⟩
                · exact J122 y5_93 s_93 hs_93 hf
                · obtain ⟨p3, hp3, hf⟩ := ax_bind hf
                  obtain ⟨p4, hp4, hf⟩ := ax_bind hf
                  rcases ax_or hf with ⟨hc5, hf⟩ | ⟨hc5, hf⟩
                  · exact ax_ret (P := Sum.elim (fun a46 : Int32 × Int32 × Int32 × sx_M => sx_eq (xS_X12_laysGreedy) s a46.2.2.2) (fun e : Int32 × Int32 × sx_M => sx_eq (xS_X12_laysGreedy) s e.2.2)) hf (sx_tr (sx_tr hs_93 (sx_mono (D1 := xS_X12_costOf) (fr_f_X12_costOf (p := p3) a34.2.2.1 y5_93 s_93 hp3) (fun o k h => h.elim) (fun o k h => h.elim) (fun o h => h.elim) (fun o h => h.elim))) (sx_mono (D1 := xS_X12_costOf) (fr_f_X12_costOf (p := p4) y2_93 y3_93 p3.2 hp4) (fun o k h => h.elim) (fun o k h => h.elim) (fun o h => h.elim) (fun o h => h.elim)))
                  · exact J122 y5_93 p4.2 (sx_tr (sx_tr hs_93 (sx_mono (D1 := xS_X12_costOf) (fr_f_X12_costOf (p := p3) a34.2.2.1 y5_93 s_93 hp3) (fun o k h => h.elim) (fun o k h => h.elim) (fun o h => h.elim) (fun o h => h.elim))) (sx_mono (D1 := xS_X12_costOf) (fr_f_X12_costOf (p := p4) y2_93 y3_93 p3.2 hp4) (fun o k h => h.elim) (fun o k h => h.elim) (fun o h => h.elim) (fun o h => h.elim))) hf
            obtain ⟨p5, hp5, hf⟩ := ax_bind hf
            rcases ax_or hf with ⟨hc12, hf⟩ | ⟨hc12, hf⟩
            · exact ax_ret (P := Sum.elim (fun a46 : Int32 × Int32 × Int32 × sx_M => sx_eq (xS_X12_laysGreedy) s a46.2.2.2) (fun e : Int32 × Int32 × sx_M => sx_eq (xS_X12_laysGreedy) s e.2.2)) hf (sx_tr ha46 (sx_mono (D1 := xS_X12_jobs) (fr_f_X12_jobs (p := p5) a46.2.2.2 hp5) (fun o k h => h.elim) (fun o k h => h.elim) (fun o h => h.elim) (fun o h => h.elim)))
            · obtain ⟨_, hf⟩ := ax_ite hf
              rcases ax_or hf with ⟨hc11, hf⟩ | ⟨hc11, hf⟩
              · obtain ⟨p6, hp6, hf⟩ := ax_bind hf
                rcases ax_or hf with ⟨hc10, hf⟩ | ⟨hc10, hf⟩
                · obtain ⟨p7, hp7, hf⟩ := ax_bind hf
                  rcases ax_or hf with ⟨hc9, hf⟩ | ⟨hc9, hf⟩
                  · exact J93 a46.1 a46.2.1 a46.2.2.1 (0 : Int32) p7.2 (sx_tr (sx_tr (sx_tr ha46 (sx_mono (D1 := xS_X12_jobs) (fr_f_X12_jobs (p := p5) a46.2.2.2 hp5) (fun o k h => h.elim) (fun o k h => h.elim) (fun o h => h.elim) (fun o h => h.elim))) (sx_mono (D1 := xS_X12_isTaken) (fr_f_X12_isTaken (p := p6) a46.2.2.1 p5.2 hp6) (fun o k h => h.elim) (fun o k h => h.elim) (fun o h => h.elim) (fun o h => h.elim))) (sx_mono (D1 := xS_X12_costOf) (fr_f_X12_costOf (p := p7) a34.2.2.1 a46.2.2.1 p6.2 hp7) (fun o k h => h.elim) (fun o k h => h.elim) (fun o h => h.elim) (fun o h => h.elim))) hf
                  · exact J93 a46.1 a46.2.1 a46.2.2.1 (1 : Int32) p7.2 (sx_tr (sx_tr (sx_tr ha46 (sx_mono (D1 := xS_X12_jobs) (fr_f_X12_jobs (p := p5) a46.2.2.2 hp5) (fun o k h => h.elim) (fun o k h => h.elim) (fun o h => h.elim) (fun o h => h.elim))) (sx_mono (D1 := xS_X12_isTaken) (fr_f_X12_isTaken (p := p6) a46.2.2.1 p5.2 hp6) (fun o k h => h.elim) (fun o k h => h.elim) (fun o h => h.elim) (fun o h => h.elim))) (sx_mono (D1 := xS_X12_costOf) (fr_f_X12_costOf (p := p7) a34.2.2.1 a46.2.2.1 p6.2 hp7) (fun o k h => h.elim) (fun o k h => h.elim) (fun o h => h.elim) (fun o h => h.elim))) hf
                · exact J93 a46.1 a46.2.1 a46.2.2.1 (0 : Int32) p6.2 (sx_tr (sx_tr ha46 (sx_mono (D1 := xS_X12_jobs) (fr_f_X12_jobs (p := p5) a46.2.2.2 hp5) (fun o k h => h.elim) (fun o k h => h.elim) (fun o h => h.elim) (fun o h => h.elim))) (sx_mono (D1 := xS_X12_isTaken) (fr_f_X12_isTaken (p := p6) a46.2.2.1 p5.2 hp6) (fun o k h => h.elim) (fun o k h => h.elim) (fun o h => h.elim) (fun o h => h.elim))) hf
              · exact J93 a46.1 a46.2.1 a46.2.2.1 (0 : Int32) p5.2 (sx_tr ha46 (sx_mono (D1 := xS_X12_jobs) (fr_f_X12_jobs (p := p5) a46.2.2.2 hp5) (fun o k h => h.elim) (fun o k h => h.elim) (fun o h => h.elim) (fun o h => h.elim))) hf
          exact ax_ret (P := Sum.elim (fun a34 : Int32 × Int32 × Int32 × sx_M => sx_eq (xS_X12_laysGreedy) s a34.2.2.2) (fun e : Int32 × Int32 × sx_M => sx_eq (xS_X12_laysGreedy) s e.2.2)) hf hvb8
      rcases ax_or hf with ⟨hc14, hf⟩ | ⟨hc14, hf⟩
      · exact J150 b9.1 b9.2.1 (0 : Int32) b9.2.2 hvb9 hf
      · exact J150 b9.1 b9.2.1 (1 : Int32) b9.2.2 hvb9 hf
  exact ax_ret (P := fun q : sx_M => sx_eq (xS_X12_laysGreedy) s q) hf hvb10
abbrev xI_X12_hasMany : Nat → Nat → Prop := fun o k => False
abbrev xJ_X12_hasMany : Nat → Nat → Prop := fun o k => False
abbrev xA_X12_hasMany : Nat → Prop := fun o => False
abbrev xB_X12_hasMany : Nat → Prop := fun o => False
abbrev xS_X12_hasMany : sx_D := (xI_X12_hasMany, xJ_X12_hasMany, xA_X12_hasMany, xB_X12_hasMany)
set_option maxRecDepth 100000 in
set_option maxHeartbeats 1000000 in
theorem fr_f_X12_hasMany (s : sx_M) {p : Int32 × sx_M} (hf : f_X12_hasMany s = some p) : sx_eq (xS_X12_hasMany) s p.2 := by
  unfold f_X12_hasMany at hf
  obtain ⟨b2, hb2, hf⟩ := ax_bind hf
  have hvb2 := wh_inv ((0 : Int32), (0 : Int32), s) (fun a4 : Int32 × Int32 × sx_M => sx_eq (xS_X12_hasMany) s a4.2.2) (fun e : Int32 × sx_M => sx_eq (xS_X12_hasMany) s e.2) hb2 ?_ (sx_rf _ s)
  rotate_left
  · intro a4 r ha4 hf
    unfold f_X12_hasMany_L4 at hf
    have J28 : ∀ (y2_28 : Int32) (t0_28 : Int32) (t1_28 : Int32) (s_28 : sx_M), sx_eq (xS_X12_hasMany) s s_28 → f_X12_hasMany_L4_J28 y2_28 t0_28 t1_28 s_28 = some r → Sum.elim (fun a4 : Int32 × Int32 × sx_M => sx_eq (xS_X12_hasMany) s a4.2.2) (fun e : Int32 × sx_M => sx_eq (xS_X12_hasMany) s e.2) r := by
      intro y2_28 t0_28 t1_28 s_28 hs_28 hf
      unfold f_X12_hasMany_L4_J28 at hf
      exact ax_ret (P := Sum.elim (fun a4 : Int32 × Int32 × sx_M => sx_eq (xS_X12_hasMany) s a4.2.2) (fun e : Int32 × sx_M => sx_eq (xS_X12_hasMany) s e.2)) hf hs_28
    obtain ⟨p1, hp1, hf⟩ := ax_bind hf
    rcases ax_or hf with ⟨hc3, hf⟩ | ⟨hc3, hf⟩
    · exact ax_ret (P := Sum.elim (fun a4 : Int32 × Int32 × sx_M => sx_eq (xS_X12_hasMany) s a4.2.2) (fun e : Int32 × sx_M => sx_eq (xS_X12_hasMany) s e.2)) hf (sx_tr ha4 (sx_mono (D1 := xS_X12_workers) (fr_f_X12_workers (p := p1) a4.2.2 hp1) (fun o k h => h.elim) (fun o k h => h.elim) (fun o h => h.elim) (fun o h => h.elim)))
    · obtain ⟨_, hf⟩ := ax_ite hf
      rcases ax_or hf with ⟨hc2, hf⟩ | ⟨hc2, hf⟩
      · exact J28 a4.2.1 a4.1 (0 : Int32) p1.2 (sx_tr ha4 (sx_mono (D1 := xS_X12_workers) (fr_f_X12_workers (p := p1) a4.2.2 hp1) (fun o k h => h.elim) (fun o k h => h.elim) (fun o h => h.elim) (fun o h => h.elim))) hf
      · exact J28 a4.2.1 a4.1 (1 : Int32) p1.2 (sx_tr ha4 (sx_mono (D1 := xS_X12_workers) (fr_f_X12_workers (p := p1) a4.2.2 hp1) (fun o k h => h.elim) (fun o k h => h.elim) (fun o h => h.elim) (fun o h => h.elim))) hf
  exact ax_ret (P := fun q : Int32 × sx_M => sx_eq (xS_X12_hasMany) s q.2) hf hvb2
abbrev xI_X12_hasSum : Nat → Nat → Prop := fun o k => False
abbrev xJ_X12_hasSum : Nat → Nat → Prop := fun o k => False
abbrev xA_X12_hasSum : Nat → Prop := fun o => False
abbrev xB_X12_hasSum : Nat → Prop := fun o => False
abbrev xS_X12_hasSum : sx_D := (xI_X12_hasSum, xJ_X12_hasSum, xA_X12_hasSum, xB_X12_hasSum)
set_option maxRecDepth 100000 in
set_option maxHeartbeats 1000000 in
theorem fr_f_X12_hasSum (s : sx_M) {p : Int64 × sx_M} (hf : f_X12_hasSum s = some p) : sx_eq (xS_X12_hasSum) s p.2 := by
  unfold f_X12_hasSum at hf
  obtain ⟨b3, hb3, hf⟩ := ax_bind hf
  have hvb3 := wh_inv ((0 : Int64), (0 : Int32), s) (fun a4 : Int64 × Int32 × sx_M => sx_eq (xS_X12_hasSum) s a4.2.2) (fun e : Int64 × sx_M => sx_eq (xS_X12_hasSum) s e.2) hb3 ?_ (sx_rf _ s)
  rotate_left
  · intro a4 r ha4 hf
    unfold f_X12_hasSum_L4 at hf
    have J39 : ∀ (y3_39 : Int32) (t0_39 : Int64) (t1_39 : Int64) (s_39 : sx_M), sx_eq (xS_X12_hasSum) s s_39 → f_X12_hasSum_L4_J39 y3_39 t0_39 t1_39 s_39 = some r → Sum.elim (fun a4 : Int64 × Int32 × sx_M => sx_eq (xS_X12_hasSum) s a4.2.2) (fun e : Int64 × sx_M => sx_eq (xS_X12_hasSum) s e.2) r := by
      intro y3_39 t0_39 t1_39 s_39 hs_39 hf
      unfold f_X12_hasSum_L4_J39 at hf
      exact ax_ret (P := Sum.elim (fun a4 : Int64 × Int32 × sx_M => sx_eq (xS_X12_hasSum) s a4.2.2) (fun e : Int64 × sx_M => sx_eq (xS_X12_hasSum) s e.2)) hf hs_39
    obtain ⟨p1, hp1, hf⟩ := ax_bind hf
    rcases ax_or hf with ⟨hc4, hf⟩ | ⟨hc4, hf⟩
    · exact ax_ret (P := Sum.elim (fun a4 : Int64 × Int32 × sx_M => sx_eq (xS_X12_hasSum) s a4.2.2) (fun e : Int64 × sx_M => sx_eq (xS_X12_hasSum) s e.2)) hf (sx_tr ha4 (sx_mono (D1 := xS_X12_workers) (fr_f_X12_workers (p := p1) a4.2.2 hp1) (fun o k h => h.elim) (fun o k h => h.elim) (fun o h => h.elim) (fun o h => h.elim)))
    · obtain ⟨_, hf⟩ := ax_ite hf
      rcases ax_or hf with ⟨hc3, hf⟩ | ⟨hc3, hf⟩
      · exact J39 a4.2.1 a4.1 (0 : Int64) p1.2 (sx_tr ha4 (sx_mono (D1 := xS_X12_workers) (fr_f_X12_workers (p := p1) a4.2.2 hp1) (fun o k h => h.elim) (fun o k h => h.elim) (fun o h => h.elim) (fun o h => h.elim))) hf
      · obtain ⟨_, hf⟩ := ax_ite hf
        obtain ⟨p2, hp2, hf⟩ := ax_bind hf
        exact J39 a4.2.1 a4.1 ((p2.1).toInt64) p2.2 (sx_tr (sx_tr ha4 (sx_mono (D1 := xS_X12_workers) (fr_f_X12_workers (p := p1) a4.2.2 hp1) (fun o k h => h.elim) (fun o k h => h.elim) (fun o h => h.elim) (fun o h => h.elim))) (sx_mono (D1 := xS_X12_costOf) (fr_f_X12_costOf (p := p2) a4.2.1 (rA p1.2 67 (a4.2.1).toNatClampNeg) p1.2 hp2) (fun o k h => h.elim) (fun o k h => h.elim) (fun o h => h.elim) (fun o h => h.elim))) hf
  exact ax_ret (P := fun q : Int64 × sx_M => sx_eq (xS_X12_hasSum) s q.2) hf hvb3
abbrev xI_X12_greedy : Nat → Nat → Prop := fun o k => False
abbrev xJ_X12_greedy : Nat → Nat → Prop := fun o k => False
abbrev xA_X12_greedy : Nat → Prop := fun o => o = 67
abbrev xB_X12_greedy : Nat → Prop := fun o => False
abbrev xS_X12_greedy : sx_D := (xI_X12_greedy, xJ_X12_greedy, xA_X12_greedy, xB_X12_greedy)
set_option maxRecDepth 100000 in
set_option maxHeartbeats 1000000 in
theorem fr_f_X12_greedy (x1 : Int32) (s : sx_M) {p : Int64 × sx_M} (hf : f_X12_greedy x1 s = some p) : sx_eq (xS_X12_greedy) s p.2 := by
  unfold f_X12_greedy at hf
  obtain ⟨p1, hp1, hf⟩ := ax_bind hf
  rcases ax_or hf with ⟨hc2, hf⟩ | ⟨hc2, hf⟩
  · obtain ⟨p3, hp3, hf⟩ := ax_bind hf
    exact ax_ret (P := fun q : Int64 × sx_M => sx_eq (xS_X12_greedy) s q.2) hf (sx_tr (sx_tr (sx_rf _ s) (sx_mono (D1 := xS_X12_laysGreedy) (fr_f_X12_laysGreedy (p := p1) s hp1) (fun o k h => h.elim) (fun o k h => h.elim) (fun o h => (fun q => q) h) (fun o h => h.elim))) (sx_mono (D1 := xS_X12_hasSum) (fr_f_X12_hasSum (p := p3) p1 hp3) (fun o k h => h.elim) (fun o k h => h.elim) (fun o h => h.elim) (fun o h => h.elim)))
  · rcases ax_or hf with ⟨hc1, hf⟩ | ⟨hc1, hf⟩
    · obtain ⟨p2, hp2, hf⟩ := ax_bind hf
      exact ax_ret (P := fun q : Int64 × sx_M => sx_eq (xS_X12_greedy) s q.2) hf (sx_tr (sx_tr (sx_rf _ s) (sx_mono (D1 := xS_X12_laysGreedy) (fr_f_X12_laysGreedy (p := p1) s hp1) (fun o k h => h.elim) (fun o k h => h.elim) (fun o h => (fun q => q) h) (fun o h => h.elim))) (sx_mono (D1 := xS_X12_hasMany) (fr_f_X12_hasMany (p := p2) p1 hp2) (fun o k h => h.elim) (fun o k h => h.elim) (fun o h => h.elim) (fun o h => h.elim)))
    · exact ax_ret (P := fun q : Int64 × sx_M => sx_eq (xS_X12_greedy) s q.2) hf (sx_tr (sx_rf _ s) (sx_mono (D1 := xS_X12_laysGreedy) (fr_f_X12_laysGreedy (p := p1) s hp1) (fun o k h => h.elim) (fun o k h => h.elim) (fun o h => (fun q => q) h) (fun o h => h.elim)))
abbrev xI_X12_greedyJob : Nat → Nat → Prop := fun o k => False
abbrev xJ_X12_greedyJob : Nat → Nat → Prop := fun o k => False
abbrev xA_X12_greedyJob : Nat → Prop := fun o => o = 67
abbrev xB_X12_greedyJob : Nat → Prop := fun o => False
abbrev xS_X12_greedyJob : sx_D := (xI_X12_greedyJob, xJ_X12_greedyJob, xA_X12_greedyJob, xB_X12_greedyJob)
set_option maxRecDepth 100000 in
set_option maxHeartbeats 1000000 in
theorem fr_f_X12_greedyJob (x1 : Int32) (s : sx_M) {p : Int32 × sx_M} (hf : f_X12_greedyJob x1 s = some p) : sx_eq (xS_X12_greedyJob) s p.2 := by
  unfold f_X12_greedyJob at hf
  obtain ⟨p1, hp1, hf⟩ := ax_bind hf
  rcases ax_or hf with ⟨hc2, hf⟩ | ⟨hc2, hf⟩
  · exact ax_ret (P := fun q : Int32 × sx_M => sx_eq (xS_X12_greedyJob) s q.2) hf (sx_tr (sx_rf _ s) (sx_mono (D1 := xS_X12_isWorker) (fr_f_X12_isWorker (p := p1) x1 s hp1) (fun o k h => h.elim) (fun o k h => h.elim) (fun o h => h.elim) (fun o h => h.elim)))
  · obtain ⟨p2, hp2, hf⟩ := ax_bind hf
    obtain ⟨_, hf⟩ := ax_ite hf
    exact ax_ret (P := fun q : Int32 × sx_M => sx_eq (xS_X12_greedyJob) s q.2) hf (sx_tr (sx_tr (sx_rf _ s) (sx_mono (D1 := xS_X12_isWorker) (fr_f_X12_isWorker (p := p1) x1 s hp1) (fun o k h => h.elim) (fun o k h => h.elim) (fun o h => h.elim) (fun o h => h.elim))) (sx_mono (D1 := xS_X12_laysGreedy) (fr_f_X12_laysGreedy (p := p2) p1.2 hp2) (fun o k h => h.elim) (fun o k h => h.elim) (fun o h => (fun q => q) h) (fun o h => h.elim)))
abbrev xI_X12_offers : Nat → Nat → Prop := fun o k => (o = 58 ∧ k = 20) ∨ (o = 58 ∧ k = 21) ∨ (o = 58 ∧ k = 22) ∨ (o = 58 ∧ k = 23)
abbrev xJ_X12_offers : Nat → Nat → Prop := fun o k => False
abbrev xA_X12_offers : Nat → Prop := fun o => False
abbrev xB_X12_offers : Nat → Prop := fun o => False
abbrev xS_X12_offers : sx_D := (xI_X12_offers, xJ_X12_offers, xA_X12_offers, xB_X12_offers)
set_option maxRecDepth 100000 in
set_option maxHeartbeats 1000000 in
theorem fr_f_X12_offers (x1 : Int32) (x2 : Int32) (x3 : Int32) (x4 : Int32) (s : sx_M) {p : sx_M} (hf : f_X12_offers x1 x2 x3 x4 s = some p) : sx_eq (xS_X12_offers) s p := by
  unfold f_X12_offers at hf
  rcases ax_or hf with ⟨hc2, hf⟩ | ⟨hc2, hf⟩
  · exact ax_ret (P := fun q : sx_M => sx_eq (xS_X12_offers) s q) hf (sx_rf _ s)
  · obtain ⟨_, hf⟩ := ax_ite hf
    exact ax_ret (P := fun q : sx_M => sx_eq (xS_X12_offers) s q) hf (sx_wI' (D := (xS_X12_offers)) (sx_wI' (D := (xS_X12_offers)) (sx_wI' (D := (xS_X12_offers)) (sx_wI' (D := (xS_X12_offers)) (sx_rf _ s) ((fun q => Or.inl q) ⟨rfl, rfl⟩)) ((fun q => Or.inr (Or.inl q)) ⟨rfl, rfl⟩)) ((fun q => Or.inr (Or.inr (Or.inl q))) ⟨rfl, rfl⟩)) ((fun q => Or.inr (Or.inr (Or.inr (q)))) ⟨rfl, rfl⟩))
abbrev xI_X12_mends : Nat → Nat → Prop := fun o k => (o = 58 ∧ k = 20) ∨ (o = 58 ∧ k = 21) ∨ (o = 58 ∧ k = 22) ∨ (o = 58 ∧ k = 23)
abbrev xJ_X12_mends : Nat → Nat → Prop := fun o k => False
abbrev xA_X12_mends : Nat → Prop := fun o => o = 67
abbrev xB_X12_mends : Nat → Prop := fun o => False
abbrev xS_X12_mends : sx_D := (xI_X12_mends, xJ_X12_mends, xA_X12_mends, xB_X12_mends)
set_option maxRecDepth 100000 in
set_option maxHeartbeats 1000000 in
theorem fr_f_X12_mends (s : sx_M) {p : Int32 × sx_M} (hf : f_X12_mends s = some p) : sx_eq (xS_X12_mends) s p.2 := by
  unfold f_X12_mends at hf
  have J259 : ∀ (y1_259 : Int32) (s_259 : sx_M), sx_eq (xS_X12_mends) s s_259 → f_X12_mends_J259 y1_259 s_259 = some p → sx_eq (xS_X12_mends) s p.2 := by
    intro y1_259 s_259 hs_259 hf
    unfold f_X12_mends_J259 at hf
    obtain ⟨_, hf⟩ := ax_ite hf
    exact ax_ret (P := fun q : Int32 × sx_M => sx_eq (xS_X12_mends) s q.2) hf (sx_wA' (D := (xS_X12_mends)) hs_259 ((fun q => q) rfl))
  have J233 : ∀ (t0_233 : Int32) (s_233 : sx_M), sx_eq (xS_X12_mends) s s_233 → f_X12_mends_J233 t0_233 s_233 = some p → sx_eq (xS_X12_mends) s p.2 := by
    intro t0_233 s_233 hs_233 hf
    unfold f_X12_mends_J233 at hf
    rcases ax_or hf with ⟨hc4, hf⟩ | ⟨hc4, hf⟩
    · exact J259 t0_233 s_233 hs_233 hf
    · obtain ⟨_, hf⟩ := ax_ite hf
      obtain ⟨_, hf⟩ := ax_ite hf
      exact J259 t0_233 (wA s_233 67 ((rI s_233 58 22)).toNatClampNeg (rA s_233 67 ((rI s_233 58 21)).toNatClampNeg)) (sx_wA' (D := (xS_X12_mends)) hs_233 ((fun q => q) rfl)) hf
  obtain ⟨b9, hb9, hf⟩ := ax_bind hf
  have hvb9 := wh_inv ((0 : Int32), (wI s 58 20 (0 : Int32))) (fun a7 : Int32 × sx_M => sx_eq (xS_X12_mends) s a7.2) (fun e : sx_M => sx_eq (xS_X12_mends) s e) hb9 ?_ (sx_wI' (D := (xS_X12_mends)) (sx_rf _ s) ((fun q => Or.inl q) ⟨rfl, rfl⟩))
  rotate_left
  · intro a7 r ha7 hf
    unfold f_X12_mends_L7 at hf
    obtain ⟨p1, hp1, hf⟩ := ax_bind hf
    rcases ax_or hf with ⟨hc9, hf⟩ | ⟨hc9, hf⟩
    · exact ax_ret (P := Sum.elim (fun a7 : Int32 × sx_M => sx_eq (xS_X12_mends) s a7.2) (fun e : sx_M => sx_eq (xS_X12_mends) s e)) hf (sx_tr ha7 (sx_mono (D1 := xS_X12_workers) (fr_f_X12_workers (p := p1) a7.2 hp1) (fun o k h => h.elim) (fun o k h => h.elim) (fun o h => h.elim) (fun o h => h.elim)))
    · obtain ⟨b8, hb8, hf⟩ := ax_bind hf
      have hvb8 := wh_inv ((0 : Int32), p1.2) (fun a17 : Int32 × sx_M => sx_eq (xS_X12_mends) s a17.2) (fun e : sx_M => sx_eq (xS_X12_mends) s e) hb8 ?_ (sx_tr ha7 (sx_mono (D1 := xS_X12_workers) (fr_f_X12_workers (p := p1) a7.2 hp1) (fun o k h => h.elim) (fun o k h => h.elim) (fun o h => h.elim) (fun o h => h.elim)))
      rotate_left
      · intro a17 r ha17 hf
        unfold f_X12_mends_L17 at hf
        obtain ⟨p2, hp2, hf⟩ := ax_bind hf
        rcases ax_or hf with ⟨hc8, hf⟩ | ⟨hc8, hf⟩
        · exact ax_ret (P := Sum.elim (fun a17 : Int32 × sx_M => sx_eq (xS_X12_mends) s a17.2) (fun e : sx_M => sx_eq (xS_X12_mends) s e)) hf (sx_tr ha17 (sx_mono (D1 := xS_X12_jobs) (fr_f_X12_jobs (p := p2) a17.2 hp2) (fun o k h => h.elim) (fun o k h => h.elim) (fun o h => h.elim) (fun o h => h.elim)))
        · obtain ⟨p3, hp3, hf⟩ := ax_bind hf
          rcases ax_or hf with ⟨hc7, hf⟩ | ⟨hc7, hf⟩
          · obtain ⟨p4, hp4, hf⟩ := ax_bind hf
            rcases ax_or hf with ⟨hc6, hf⟩ | ⟨hc6, hf⟩
            · exact ax_ret (P := Sum.elim (fun a17 : Int32 × sx_M => sx_eq (xS_X12_mends) s a17.2) (fun e : sx_M => sx_eq (xS_X12_mends) s e)) hf (sx_tr (sx_tr (sx_tr ha17 (sx_mono (D1 := xS_X12_jobs) (fr_f_X12_jobs (p := p2) a17.2 hp2) (fun o k h => h.elim) (fun o k h => h.elim) (fun o h => h.elim) (fun o h => h.elim))) (sx_mono (D1 := xS_X12_isTaken) (fr_f_X12_isTaken (p := p3) a17.1 p2.2 hp3) (fun o k h => h.elim) (fun o k h => h.elim) (fun o h => h.elim) (fun o h => h.elim))) (sx_mono (D1 := xS_X12_costOf) (fr_f_X12_costOf (p := p4) a7.1 a17.1 p3.2 hp4) (fun o k h => h.elim) (fun o k h => h.elim) (fun o h => h.elim) (fun o h => h.elim)))
            · obtain ⟨_, hf⟩ := ax_ite hf
              obtain ⟨p5, hp5, hf⟩ := ax_bind hf
              obtain ⟨p6, hp6, hf⟩ := ax_bind hf
              obtain ⟨p7, hp7, hf⟩ := ax_bind hf
              exact ax_ret (P := Sum.elim (fun a17 : Int32 × sx_M => sx_eq (xS_X12_mends) s a17.2) (fun e : sx_M => sx_eq (xS_X12_mends) s e)) hf (sx_tr (sx_tr (sx_tr (sx_tr (sx_tr (sx_tr ha17 (sx_mono (D1 := xS_X12_jobs) (fr_f_X12_jobs (p := p2) a17.2 hp2) (fun o k h => h.elim) (fun o k h => h.elim) (fun o h => h.elim) (fun o h => h.elim))) (sx_mono (D1 := xS_X12_isTaken) (fr_f_X12_isTaken (p := p3) a17.1 p2.2 hp3) (fun o k h => h.elim) (fun o k h => h.elim) (fun o h => h.elim) (fun o h => h.elim))) (sx_mono (D1 := xS_X12_costOf) (fr_f_X12_costOf (p := p4) a7.1 a17.1 p3.2 hp4) (fun o k h => h.elim) (fun o k h => h.elim) (fun o h => h.elim) (fun o h => h.elim))) (sx_mono (D1 := xS_X12_costOf) (fr_f_X12_costOf (p := p5) a7.1 (rA p4.2 67 (a7.1).toNatClampNeg) p4.2 hp5) (fun o k h => h.elim) (fun o k h => h.elim) (fun o h => h.elim) (fun o h => h.elim))) (sx_mono (D1 := xS_X12_costOf) (fr_f_X12_costOf (p := p6) a7.1 a17.1 p5.2 hp6) (fun o k h => h.elim) (fun o k h => h.elim) (fun o h => h.elim) (fun o h => h.elim))) (sx_mono (D1 := xS_X12_offers) (fr_f_X12_offers (p := p7) (p5.1 - p6.1) a7.1 a17.1 (0 : Int32) p6.2 hp7) (fun o k h => Or.elim h (fun q => (fun q => Or.inl q) q) (fun q0 => Or.elim q0 (fun q => (fun q => Or.inr (Or.inl q)) q) (fun q1 => Or.elim q1 (fun q => (fun q => Or.inr (Or.inr (Or.inl q))) q) (fun q2 => (fun q => Or.inr (Or.inr (Or.inr (q)))) q2)))) (fun o k h => h.elim) (fun o h => h.elim) (fun o h => h.elim)))
          · exact ax_ret (P := Sum.elim (fun a17 : Int32 × sx_M => sx_eq (xS_X12_mends) s a17.2) (fun e : sx_M => sx_eq (xS_X12_mends) s e)) hf (sx_tr (sx_tr ha17 (sx_mono (D1 := xS_X12_jobs) (fr_f_X12_jobs (p := p2) a17.2 hp2) (fun o k h => h.elim) (fun o k h => h.elim) (fun o h => h.elim) (fun o h => h.elim))) (sx_mono (D1 := xS_X12_isTaken) (fr_f_X12_isTaken (p := p3) a17.1 p2.2 hp3) (fun o k h => h.elim) (fun o k h => h.elim) (fun o h => h.elim) (fun o h => h.elim)))
      exact ax_ret (P := Sum.elim (fun a7 : Int32 × sx_M => sx_eq (xS_X12_mends) s a7.2) (fun e : sx_M => sx_eq (xS_X12_mends) s e)) hf hvb8
  obtain ⟨b20, hb20, hf⟩ := ax_bind hf
  have hvb20 := wh_inv ((0 : Int32), b9) (fun a83 : Int32 × sx_M => sx_eq (xS_X12_mends) s a83.2) (fun e : sx_M => sx_eq (xS_X12_mends) s e) hb20 ?_ hvb9
  rotate_left
  · intro a83 r ha83 hf
    unfold f_X12_mends_L83 at hf
    obtain ⟨p10, hp10, hf⟩ := ax_bind hf
    rcases ax_or hf with ⟨hc19, hf⟩ | ⟨hc19, hf⟩
    · exact ax_ret (P := Sum.elim (fun a83 : Int32 × sx_M => sx_eq (xS_X12_mends) s a83.2) (fun e : sx_M => sx_eq (xS_X12_mends) s e)) hf (sx_tr ha83 (sx_mono (D1 := xS_X12_workers) (fr_f_X12_workers (p := p10) a83.2 hp10) (fun o k h => h.elim) (fun o k h => h.elim) (fun o h => h.elim) (fun o h => h.elim)))
    · obtain ⟨b19, hb19, hf⟩ := ax_bind hf
      have hvb19 := wh_inv ((a83.1 + (1 : Int32)), p10.2) (fun a95 : Int32 × sx_M => sx_eq (xS_X12_mends) s a95.2) (fun e : sx_M => sx_eq (xS_X12_mends) s e) hb19 ?_ (sx_tr ha83 (sx_mono (D1 := xS_X12_workers) (fr_f_X12_workers (p := p10) a83.2 hp10) (fun o k h => h.elim) (fun o k h => h.elim) (fun o h => h.elim) (fun o h => h.elim)))
      rotate_left
      · intro a95 r ha95 hf
        unfold f_X12_mends_L95 at hf
        obtain ⟨p11, hp11, hf⟩ := ax_bind hf
        rcases ax_or hf with ⟨hc18, hf⟩ | ⟨hc18, hf⟩
        · exact ax_ret (P := Sum.elim (fun a95 : Int32 × sx_M => sx_eq (xS_X12_mends) s a95.2) (fun e : sx_M => sx_eq (xS_X12_mends) s e)) hf (sx_tr ha95 (sx_mono (D1 := xS_X12_workers) (fr_f_X12_workers (p := p11) a95.2 hp11) (fun o k h => h.elim) (fun o k h => h.elim) (fun o h => h.elim) (fun o h => h.elim)))
        · obtain ⟨_, hf⟩ := ax_ite hf
          obtain ⟨p12, hp12, hf⟩ := ax_bind hf
          rcases ax_or hf with ⟨hc17, hf⟩ | ⟨hc17, hf⟩
          · exact ax_ret (P := Sum.elim (fun a95 : Int32 × sx_M => sx_eq (xS_X12_mends) s a95.2) (fun e : sx_M => sx_eq (xS_X12_mends) s e)) hf (sx_tr (sx_tr ha95 (sx_mono (D1 := xS_X12_workers) (fr_f_X12_workers (p := p11) a95.2 hp11) (fun o k h => h.elim) (fun o k h => h.elim) (fun o h => h.elim) (fun o h => h.elim))) (sx_mono (D1 := xS_X12_costOf) (fr_f_X12_costOf (p := p12) a83.1 (rA p11.2 67 (a95.1).toNatClampNeg) p11.2 hp12) (fun o k h => h.elim) (fun o k h => h.elim) (fun o h => h.elim) (fun o h => h.elim)))
          · obtain ⟨_, hf⟩ := ax_ite hf
            obtain ⟨p13, hp13, hf⟩ := ax_bind hf
            rcases ax_or hf with ⟨hc16, hf⟩ | ⟨hc16, hf⟩
            · exact ax_ret (P := Sum.elim (fun a95 : Int32 × sx_M => sx_eq (xS_X12_mends) s a95.2) (fun e : sx_M => sx_eq (xS_X12_mends) s e)) hf (sx_tr (sx_tr (sx_tr ha95 (sx_mono (D1 := xS_X12_workers) (fr_f_X12_workers (p := p11) a95.2 hp11) (fun o k h => h.elim) (fun o k h => h.elim) (fun o h => h.elim) (fun o h => h.elim))) (sx_mono (D1 := xS_X12_costOf) (fr_f_X12_costOf (p := p12) a83.1 (rA p11.2 67 (a95.1).toNatClampNeg) p11.2 hp12) (fun o k h => h.elim) (fun o k h => h.elim) (fun o h => h.elim) (fun o h => h.elim))) (sx_mono (D1 := xS_X12_costOf) (fr_f_X12_costOf (p := p13) a95.1 (rA p12.2 67 (a83.1).toNatClampNeg) p12.2 hp13) (fun o k h => h.elim) (fun o k h => h.elim) (fun o h => h.elim) (fun o h => h.elim)))
            · obtain ⟨_, hf⟩ := ax_ite hf
              obtain ⟨p14, hp14, hf⟩ := ax_bind hf
              obtain ⟨_, hf⟩ := ax_ite hf
              obtain ⟨p15, hp15, hf⟩ := ax_bind hf
              obtain ⟨_, hf⟩ := ax_ite hf
              obtain ⟨p16, hp16, hf⟩ := ax_bind hf
              obtain ⟨_, hf⟩ := ax_ite hf
              obtain ⟨p17, hp17, hf⟩ := ax_bind hf
              obtain ⟨p18, hp18, hf⟩ := ax_bind hf
              exact ax_ret (P := Sum.elim (fun a95 : Int32 × sx_M => sx_eq (xS_X12_mends) s a95.2) (fun e : sx_M => sx_eq (xS_X12_mends) s e)) hf (sx_tr (sx_tr (sx_tr (sx_tr (sx_tr (sx_tr (sx_tr (sx_tr ha95 (sx_mono (D1 := xS_X12_workers) (fr_f_X12_workers (p := p11) a95.2 hp11) (fun o k h => h.elim) (fun o k h => h.elim) (fun o h => h.elim) (fun o h => h.elim))) (sx_mono (D1 := xS_X12_costOf) (fr_f_X12_costOf (p := p12) a83.1 (rA p11.2 67 (a95.1).toNatClampNeg) p11.2 hp12) (fun o k h => h.elim) (fun o k h => h.elim) (fun o h => h.elim) (fun o h => h.elim))) (sx_mono (D1 := xS_X12_costOf) (fr_f_X12_costOf (p := p13) a95.1 (rA p12.2 67 (a83.1).toNatClampNeg) p12.2 hp13) (fun o k h => h.elim) (fun o k h => h.elim) (fun o h => h.elim) (fun o h => h.elim))) (sx_mono (D1 := xS_X12_costOf) (fr_f_X12_costOf (p := p14) a83.1 (rA p13.2 67 (a83.1).toNatClampNeg) p13.2 hp14) (fun o k h => h.elim) (fun o k h => h.elim) (fun o h => h.elim) (fun o h => h.elim))) (sx_mono (D1 := xS_X12_costOf) (fr_f_X12_costOf (p := p15) a95.1 (rA p14.2 67 (a95.1).toNatClampNeg) p14.2 hp15) (fun o k h => h.elim) (fun o k h => h.elim) (fun o h => h.elim) (fun o h => h.elim))) (sx_mono (D1 := xS_X12_costOf) (fr_f_X12_costOf (p := p16) a83.1 (rA p15.2 67 (a95.1).toNatClampNeg) p15.2 hp16) (fun o k h => h.elim) (fun o k h => h.elim) (fun o h => h.elim) (fun o h => h.elim))) (sx_mono (D1 := xS_X12_costOf) (fr_f_X12_costOf (p := p17) a95.1 (rA p16.2 67 (a83.1).toNatClampNeg) p16.2 hp17) (fun o k h => h.elim) (fun o k h => h.elim) (fun o h => h.elim) (fun o h => h.elim))) (sx_mono (D1 := xS_X12_offers) (fr_f_X12_offers (p := p18) (((p14.1 + p15.1) - p16.1) - p17.1) a83.1 a95.1 (1 : Int32) p17.2 hp18) (fun o k h => Or.elim h (fun q => (fun q => Or.inl q) q) (fun q0 => Or.elim q0 (fun q => (fun q => Or.inr (Or.inl q)) q) (fun q1 => Or.elim q1 (fun q => (fun q => Or.inr (Or.inr (Or.inl q))) q) (fun q2 => (fun q => Or.inr (Or.inr (Or.inr (q)))) q2)))) (fun o k h => h.elim) (fun o h => h.elim) (fun o h => h.elim)))
      exact ax_ret (P := Sum.elim (fun a83 : Int32 × sx_M => sx_eq (xS_X12_mends) s a83.2) (fun e : sx_M => sx_eq (xS_X12_mends) s e)) hf hvb19
  rcases ax_or hf with ⟨hc22, hf⟩ | ⟨hc22, hf⟩
  · exact ax_ret (P := fun q : Int32 × sx_M => sx_eq (xS_X12_mends) s q.2) hf hvb20
  · rcases ax_or hf with ⟨hc21, hf⟩ | ⟨hc21, hf⟩
    · exact J233 (rI b20 58 22) b20 hvb20 hf
    · obtain ⟨_, hf⟩ := ax_ite hf
      exact J233 (rA b20 67 ((rI b20 58 22)).toNatClampNeg) b20 hvb20 hf
abbrev xI_X12_mended : Nat → Nat → Prop := fun o k => (o = 58 ∧ k = 20) ∨ (o = 58 ∧ k = 21) ∨ (o = 58 ∧ k = 22) ∨ (o = 58 ∧ k = 23)
abbrev xJ_X12_mended : Nat → Nat → Prop := fun o k => False
abbrev xA_X12_mended : Nat → Prop := fun o => o = 67
abbrev xB_X12_mended : Nat → Prop := fun o => False
abbrev xS_X12_mended : sx_D := (xI_X12_mended, xJ_X12_mended, xA_X12_mended, xB_X12_mended)
set_option maxRecDepth 100000 in
set_option maxHeartbeats 1000000 in
theorem fr_f_X12_mended (x1 : Int32) (s : sx_M) {p : Int64 × sx_M} (hf : f_X12_mended x1 s = some p) : sx_eq (xS_X12_mended) s p.2 := by
  unfold f_X12_mended at hf
  obtain ⟨p1, hp1, hf⟩ := ax_bind hf
  obtain ⟨p2, hp2, hf⟩ := ax_bind hf
  rcases ax_or hf with ⟨hc4, hf⟩ | ⟨hc4, hf⟩
  · exact ax_ret (P := fun q : Int64 × sx_M => sx_eq (xS_X12_mended) s q.2) hf (sx_tr (sx_tr (sx_rf _ s) (sx_mono (D1 := xS_X12_laysGreedy) (fr_f_X12_laysGreedy (p := p1) s hp1) (fun o k h => h.elim) (fun o k h => h.elim) (fun o h => (fun q => q) h) (fun o h => h.elim))) (sx_mono (D1 := xS_X12_in) (fr_f_X12_in (p := p2) ((x1).toInt64) (0 : Int64) (1 : Int64) p1 hp2) (fun o k h => h.elim) (fun o k h => h.elim) (fun o h => h.elim) (fun o h => h.elim)))
  · obtain ⟨p3, hp3, hf⟩ := ax_bind hf
    obtain ⟨p4, hp4, hf⟩ := ax_bind hf
    rcases ax_or hf with ⟨hc3, hf⟩ | ⟨hc3, hf⟩
    · obtain ⟨b6, hb6, hf⟩ := ax_bind hf
      have hvb6 := wh_inv ((0 : Int32), p4.2) (fun a31 : Int32 × sx_M => sx_eq (xS_X12_mended) s a31.2) (fun e : Int32 × sx_M => sx_eq (xS_X12_mended) s e.2) hb6 ?_ (sx_tr (sx_tr (sx_tr (sx_tr (sx_rf _ s) (sx_mono (D1 := xS_X12_laysGreedy) (fr_f_X12_laysGreedy (p := p1) s hp1) (fun o k h => h.elim) (fun o k h => h.elim) (fun o h => (fun q => q) h) (fun o h => h.elim))) (sx_mono (D1 := xS_X12_in) (fr_f_X12_in (p := p2) ((x1).toInt64) (0 : Int64) (1 : Int64) p1 hp2) (fun o k h => h.elim) (fun o k h => h.elim) (fun o h => h.elim) (fun o h => h.elim))) (sx_mono (D1 := xS_X12_hasMany) (fr_f_X12_hasMany (p := p3) p2.2 hp3) (fun o k h => h.elim) (fun o k h => h.elim) (fun o h => h.elim) (fun o h => h.elim))) (sx_mono (D1 := xS_X12_workers) (fr_f_X12_workers (p := p4) p3.2 hp4) (fun o k h => h.elim) (fun o k h => h.elim) (fun o h => h.elim) (fun o h => h.elim)))
      rotate_left
      · intro a31 r ha31 hf
        unfold f_X12_mended_L31 at hf
        obtain ⟨p5, hp5, hf⟩ := ax_bind hf
        rcases ax_or hf with ⟨hc1, hf⟩ | ⟨hc1, hf⟩
        · exact ax_ret (P := Sum.elim (fun a31 : Int32 × sx_M => sx_eq (xS_X12_mended) s a31.2) (fun e : Int32 × sx_M => sx_eq (xS_X12_mended) s e.2)) hf (sx_tr ha31 (sx_mono (D1 := xS_X12_mends) (fr_f_X12_mends (p := p5) a31.2 hp5) (fun o k h => Or.elim h (fun q => (fun q => Or.inl q) q) (fun q0 => Or.elim q0 (fun q => (fun q => Or.inr (Or.inl q)) q) (fun q1 => Or.elim q1 (fun q => (fun q => Or.inr (Or.inr (Or.inl q))) q) (fun q2 => (fun q => Or.inr (Or.inr (Or.inr (q)))) q2)))) (fun o k h => h.elim) (fun o h => (fun q => q) h) (fun o h => h.elim)))
        · exact ax_ret (P := Sum.elim (fun a31 : Int32 × sx_M => sx_eq (xS_X12_mended) s a31.2) (fun e : Int32 × sx_M => sx_eq (xS_X12_mended) s e.2)) hf (sx_tr ha31 (sx_mono (D1 := xS_X12_mends) (fr_f_X12_mends (p := p5) a31.2 hp5) (fun o k h => Or.elim h (fun q => (fun q => Or.inl q) q) (fun q0 => Or.elim q0 (fun q => (fun q => Or.inr (Or.inl q)) q) (fun q1 => Or.elim q1 (fun q => (fun q => Or.inr (Or.inr (Or.inl q))) q) (fun q2 => (fun q => Or.inr (Or.inr (Or.inr (q)))) q2)))) (fun o k h => h.elim) (fun o h => (fun q => q) h) (fun o h => h.elim)))
      rcases ax_or hf with ⟨hc2, hf⟩ | ⟨hc2, hf⟩
      · obtain ⟨p7, hp7, hf⟩ := ax_bind hf
        exact ax_ret (P := fun q : Int64 × sx_M => sx_eq (xS_X12_mended) s q.2) hf (sx_tr hvb6 (sx_mono (D1 := xS_X12_hasSum) (fr_f_X12_hasSum (p := p7) b6.2 hp7) (fun o k h => h.elim) (fun o k h => h.elim) (fun o h => h.elim) (fun o h => h.elim)))
      · exact ax_ret (P := fun q : Int64 × sx_M => sx_eq (xS_X12_mended) s q.2) hf hvb6
    · exact ax_ret (P := fun q : Int64 × sx_M => sx_eq (xS_X12_mended) s q.2) hf (sx_tr (sx_tr (sx_tr (sx_tr (sx_rf _ s) (sx_mono (D1 := xS_X12_laysGreedy) (fr_f_X12_laysGreedy (p := p1) s hp1) (fun o k h => h.elim) (fun o k h => h.elim) (fun o h => (fun q => q) h) (fun o h => h.elim))) (sx_mono (D1 := xS_X12_in) (fr_f_X12_in (p := p2) ((x1).toInt64) (0 : Int64) (1 : Int64) p1 hp2) (fun o k h => h.elim) (fun o k h => h.elim) (fun o h => h.elim) (fun o h => h.elim))) (sx_mono (D1 := xS_X12_hasMany) (fr_f_X12_hasMany (p := p3) p2.2 hp3) (fun o k h => h.elim) (fun o k h => h.elim) (fun o h => h.elim) (fun o h => h.elim))) (sx_mono (D1 := xS_X12_workers) (fr_f_X12_workers (p := p4) p3.2 hp4) (fun o k h => h.elim) (fun o k h => h.elim) (fun o h => h.elim) (fun o h => h.elim)))
abbrev xI_X12_leastNet : Nat → Nat → Prop := fun o k => False
abbrev xJ_X12_leastNet : Nat → Nat → Prop := fun o k => False
abbrev xA_X12_leastNet : Nat → Prop := fun o => False
abbrev xB_X12_leastNet : Nat → Prop := fun o => False
abbrev xS_X12_leastNet : sx_D := (xI_X12_leastNet, xJ_X12_leastNet, xA_X12_leastNet, xB_X12_leastNet)
set_option maxRecDepth 100000 in
set_option maxHeartbeats 1000000 in
theorem fr_f_X12_leastNet (x1 : Int32) (x2 : Int32) (s : sx_M) {p : Int32 × sx_M} (hf : f_X12_leastNet x1 x2 s = some p) : sx_eq (xS_X12_leastNet) s p.2 := by
  unfold f_X12_leastNet at hf
  obtain ⟨b5, hb5, hf⟩ := ax_bind hf
  have hvb5 := wh_inv ((-1 : Int32), (0 : Int32), s) (fun a5 : Int32 × Int32 × sx_M => sx_eq (xS_X12_leastNet) s a5.2.2) (fun e : Int32 × sx_M => sx_eq (xS_X12_leastNet) s e.2) hb5 ?_ (sx_rf _ s)
  rotate_left
  · intro a5 r ha5 hf
    unfold f_X12_leastNet_L5 at hf
    have J76 : ∀ (y3_76 : Int32) (y4_76 : Int32) (t0_76 : Int32) (s_76 : sx_M), sx_eq (xS_X12_leastNet) s s_76 → f_X12_leastNet_L5_J76 x1 x2 y3_76 y4_76 t0_76 s_76 = some r → Sum.elim (fun a5 : Int32 × Int32 × sx_M => sx_eq (xS_X12_leastNet) s a5.2.2) (fun e : Int32 × sx_M => sx_eq (xS_X12_leastNet) s e.2) r := by
      intro y3_76 y4_76 t0_76 s_76 hs_76 hf
      unfold f_X12_leastNet_L5_J76 at hf
      rcases ax_or hf with ⟨hc1, hf⟩ | ⟨hc1, hf⟩
      · exact ax_ret (P := Sum.elim (fun a5 : Int32 × Int32 × sx_M => sx_eq (xS_X12_leastNet) s a5.2.2) (fun e : Int32 × sx_M => sx_eq (xS_X12_leastNet) s e.2)) hf hs_76
      · exact ax_ret (P := Sum.elim (fun a5 : Int32 × Int32 × sx_M => sx_eq (xS_X12_leastNet) s a5.2.2) (fun e : Int32 × sx_M => sx_eq (xS_X12_leastNet) s e.2)) hf hs_76
    obtain ⟨p1, hp1, hf⟩ := ax_bind hf
    rcases ax_or hf with ⟨hc8, hf⟩ | ⟨hc8, hf⟩
    · exact ax_ret (P := Sum.elim (fun a5 : Int32 × Int32 × sx_M => sx_eq (xS_X12_leastNet) s a5.2.2) (fun e : Int32 × sx_M => sx_eq (xS_X12_leastNet) s e.2)) hf (sx_tr ha5 (sx_mono (D1 := xS_X12_jobs) (fr_f_X12_jobs (p := p1) a5.2.2 hp1) (fun o k h => h.elim) (fun o k h => h.elim) (fun o h => h.elim) (fun o h => h.elim)))
    · rcases ax_or hf with ⟨hc7, hf⟩ | ⟨hc7, hf⟩
      · exact J76 a5.1 a5.2.1 (0 : Int32) p1.2 (sx_tr ha5 (sx_mono (D1 := xS_X12_jobs) (fr_f_X12_jobs (p := p1) a5.2.2 hp1) (fun o k h => h.elim) (fun o k h => h.elim) (fun o h => h.elim) (fun o h => h.elim))) hf
      · obtain ⟨p2, hp2, hf⟩ := ax_bind hf
        rcases ax_or hf with ⟨hc6, hf⟩ | ⟨hc6, hf⟩
        · exact J76 a5.1 a5.2.1 (0 : Int32) p2.2 (sx_tr (sx_tr ha5 (sx_mono (D1 := xS_X12_jobs) (fr_f_X12_jobs (p := p1) a5.2.2 hp1) (fun o k h => h.elim) (fun o k h => h.elim) (fun o h => h.elim) (fun o h => h.elim))) (sx_mono (D1 := xS_X12_costOf) (fr_f_X12_costOf (p := p2) x1 a5.2.1 p1.2 hp2) (fun o k h => h.elim) (fun o k h => h.elim) (fun o h => h.elim) (fun o h => h.elim))) hf
        · rcases ax_or hf with ⟨hc5, hf⟩ | ⟨hc5, hf⟩
          · exact J76 a5.1 a5.2.1 (1 : Int32) p2.2 (sx_tr (sx_tr ha5 (sx_mono (D1 := xS_X12_jobs) (fr_f_X12_jobs (p := p1) a5.2.2 hp1) (fun o k h => h.elim) (fun o k h => h.elim) (fun o h => h.elim) (fun o h => h.elim))) (sx_mono (D1 := xS_X12_costOf) (fr_f_X12_costOf (p := p2) x1 a5.2.1 p1.2 hp2) (fun o k h => h.elim) (fun o k h => h.elim) (fun o h => h.elim) (fun o h => h.elim))) hf
          · obtain ⟨p3, hp3, hf⟩ := ax_bind hf
            obtain ⟨_, hf⟩ := ax_ite hf
            obtain ⟨p4, hp4, hf⟩ := ax_bind hf
            obtain ⟨_, hf⟩ := ax_ite hf
            rcases ax_or hf with ⟨hc4, hf⟩ | ⟨hc4, hf⟩
            · exact J76 a5.1 a5.2.1 (0 : Int32) p4.2 (sx_tr (sx_tr (sx_tr (sx_tr ha5 (sx_mono (D1 := xS_X12_jobs) (fr_f_X12_jobs (p := p1) a5.2.2 hp1) (fun o k h => h.elim) (fun o k h => h.elim) (fun o h => h.elim) (fun o h => h.elim))) (sx_mono (D1 := xS_X12_costOf) (fr_f_X12_costOf (p := p2) x1 a5.2.1 p1.2 hp2) (fun o k h => h.elim) (fun o k h => h.elim) (fun o h => h.elim) (fun o h => h.elim))) (sx_mono (D1 := xS_X12_costOf) (fr_f_X12_costOf (p := p3) x1 a5.2.1 p2.2 hp3) (fun o k h => h.elim) (fun o k h => h.elim) (fun o h => h.elim) (fun o h => h.elim))) (sx_mono (D1 := xS_X12_costOf) (fr_f_X12_costOf (p := p4) x1 a5.1 p3.2 hp4) (fun o k h => h.elim) (fun o k h => h.elim) (fun o h => h.elim) (fun o h => h.elim))) hf
            · exact J76 a5.1 a5.2.1 (1 : Int32) p4.2 (sx_tr (sx_tr (sx_tr (sx_tr ha5 (sx_mono (D1 := xS_X12_jobs) (fr_f_X12_jobs (p := p1) a5.2.2 hp1) (fun o k h => h.elim) (fun o k h => h.elim) (fun o h => h.elim) (fun o h => h.elim))) (sx_mono (D1 := xS_X12_costOf) (fr_f_X12_costOf (p := p2) x1 a5.2.1 p1.2 hp2) (fun o k h => h.elim) (fun o k h => h.elim) (fun o h => h.elim) (fun o h => h.elim))) (sx_mono (D1 := xS_X12_costOf) (fr_f_X12_costOf (p := p3) x1 a5.2.1 p2.2 hp3) (fun o k h => h.elim) (fun o k h => h.elim) (fun o h => h.elim) (fun o h => h.elim))) (sx_mono (D1 := xS_X12_costOf) (fr_f_X12_costOf (p := p4) x1 a5.1 p3.2 hp4) (fun o k h => h.elim) (fun o k h => h.elim) (fun o h => h.elim) (fun o h => h.elim))) hf
  exact ax_ret (P := fun q : Int32 × sx_M => sx_eq (xS_X12_leastNet) s q.2) hf hvb5
abbrev xI_X12_laysAuction : Nat → Nat → Prop := fun o k => (o = 58 ∧ k = 26)
abbrev xJ_X12_laysAuction : Nat → Nat → Prop := fun o k => False
abbrev xA_X12_laysAuction : Nat → Prop := fun o => o = 67 ∨ o = 69
abbrev xB_X12_laysAuction : Nat → Prop := fun o => o = 68
abbrev xS_X12_laysAuction : sx_D := (xI_X12_laysAuction, xJ_X12_laysAuction, xA_X12_laysAuction, xB_X12_laysAuction)
set_option maxRecDepth 100000 in
set_option maxHeartbeats 1000000 in
theorem fr_f_X12_laysAuction (x1 : Int32) (s : sx_M) {p : sx_M} (hf : f_X12_laysAuction x1 s = some p) : sx_eq (xS_X12_laysAuction) s p := by
  unfold f_X12_laysAuction at hf
  obtain ⟨b1, hb1, hf⟩ := ax_bind hf
  have hvb1 := wh_inv ((0 : Int32), s) (fun a2 : Int32 × sx_M => sx_eq (xS_X12_laysAuction) s a2.2) (fun e : sx_M => sx_eq (xS_X12_laysAuction) s e) hb1 ?_ (sx_rf _ s)
  rotate_left
  · intro a2 r ha2 hf
    unfold f_X12_laysAuction_L2 at hf
    rcases ax_or hf with ⟨hc2, hf⟩ | ⟨hc2, hf⟩
    · exact ax_ret (P := Sum.elim (fun a2 : Int32 × sx_M => sx_eq (xS_X12_laysAuction) s a2.2) (fun e : sx_M => sx_eq (xS_X12_laysAuction) s e)) hf ha2
    · obtain ⟨_, hf⟩ := ax_ite hf
      exact ax_ret (P := Sum.elim (fun a2 : Int32 × sx_M => sx_eq (xS_X12_laysAuction) s a2.2) (fun e : sx_M => sx_eq (xS_X12_laysAuction) s e)) hf (sx_wB' (D := (xS_X12_laysAuction)) ha2 ((fun q => q) rfl))
  obtain ⟨b2, hb2, hf⟩ := ax_bind hf
  have hvb2 := wh_inv ((0 : Int32), b1) (fun a23 : Int32 × sx_M => sx_eq (xS_X12_laysAuction) s a23.2) (fun e : sx_M => sx_eq (xS_X12_laysAuction) s e) hb2 ?_ hvb1
  rotate_left
  · intro a23 r ha23 hf
    unfold f_X12_laysAuction_L23 at hf
    rcases ax_or hf with ⟨hc5, hf⟩ | ⟨hc5, hf⟩
    · exact ax_ret (P := Sum.elim (fun a23 : Int32 × sx_M => sx_eq (xS_X12_laysAuction) s a23.2) (fun e : sx_M => sx_eq (xS_X12_laysAuction) s e)) hf ha23
    · obtain ⟨_, hf⟩ := ax_ite hf
      obtain ⟨_, hf⟩ := ax_ite hf
      exact ax_ret (P := Sum.elim (fun a23 : Int32 × sx_M => sx_eq (xS_X12_laysAuction) s a23.2) (fun e : sx_M => sx_eq (xS_X12_laysAuction) s e)) hf (sx_wA' (D := (xS_X12_laysAuction)) (sx_wA' (D := (xS_X12_laysAuction)) ha23 ((fun q => Or.inl q) rfl)) ((fun q => Or.inr (q)) rfl))
  obtain ⟨p3, hp3, hf⟩ := ax_bind hf
  obtain ⟨b10, hb10, hf⟩ := ax_bind hf
  have hvb10 := wh_inv ((0 : Int32), p3.1, (wI p3.2 58 26 (0 : Int32))) (fun a61 : Int32 × Int32 × sx_M => sx_eq (xS_X12_laysAuction) s a61.2.2) (Sum.elim (fun e : sx_M => sx_eq (xS_X12_laysAuction) s e) (fun v : sx_M => sx_eq (xS_X12_laysAuction) s v)) hb10 ?_ (sx_wI' (D := (xS_X12_laysAuction)) (sx_tr hvb2 (sx_mono (D1 := xS_X12_workers) (fr_f_X12_workers (p := p3) b2 hp3) (fun o k h => h.elim) (fun o k h => h.elim) (fun o h => h.elim) (fun o h => h.elim))) ((fun q => q) ⟨rfl, rfl⟩))
  rotate_left
  · intro a61 r ha61 hf
    unfold f_X12_laysAuction_L61 at hf
    have J161 : ∀ (y2_161 : Int32) (y3_161 : Int32) (y4_161 : Int32) (y5_161 : Int32) (t0_161 : Int64) (s_161 : sx_M), sx_eq (xS_X12_laysAuction) s s_161 → f_X12_laysAuction_L61_J161 x1 y2_161 y3_161 y4_161 y5_161 t0_161 s_161 = some r → Sum.elim (fun a61 : Int32 × Int32 × sx_M => sx_eq (xS_X12_laysAuction) s a61.2.2) (Sum.elim (fun e : sx_M => sx_eq (xS_X12_laysAuction) s e) (fun v : sx_M => sx_eq (xS_X12_laysAuction) s v)) r := by
      intro y2_161 y3_161 y4_161 y5_161 t0_161 s_161 hs_161 hf
      unfold f_X12_laysAuction_L61_J161 at hf
      obtain ⟨b5, hb5, hf⟩ := ax_bind hf
      have hvb5 := wh_inv (y3_161, (0 : Int32), (wI s_161 58 26 ((rI s_161 58 26) + (1 : Int32)))) (fun a179 : Int32 × Int32 × sx_M => sx_eq (xS_X12_laysAuction) s a179.2.2) (fun e : Int32 × sx_M => sx_eq (xS_X12_laysAuction) s e.2) hb5 ?_ (sx_wI' (D := (xS_X12_laysAuction)) hs_161 ((fun q => q) ⟨rfl, rfl⟩))
      rotate_left
      · intro a179 r ha179 hf
        unfold f_X12_laysAuction_L179 at hf
        obtain ⟨p4, hp4, hf⟩ := ax_bind hf
        rcases ax_or hf with ⟨hc10, hf⟩ | ⟨hc10, hf⟩
        · exact ax_ret (P := Sum.elim (fun a179 : Int32 × Int32 × sx_M => sx_eq (xS_X12_laysAuction) s a179.2.2) (fun e : Int32 × sx_M => sx_eq (xS_X12_laysAuction) s e.2)) hf (sx_tr ha179 (sx_mono (D1 := xS_X12_workers) (fr_f_X12_workers (p := p4) a179.2.2 hp4) (fun o k h => h.elim) (fun o k h => h.elim) (fun o h => h.elim) (fun o h => h.elim)))
        · obtain ⟨_, hf⟩ := ax_ite hf
          rcases ax_or hf with ⟨hc9, hf⟩ | ⟨hc9, hf⟩
          · obtain ⟨_, hf⟩ := ax_ite hf
            obtain ⟨_, hf⟩ := ax_ite hf
            exact ax_ret (P := Sum.elim (fun a179 : Int32 × Int32 × sx_M => sx_eq (xS_X12_laysAuction) s a179.2.2) (fun e : Int32 × sx_M => sx_eq (xS_X12_laysAuction) s e.2)) hf (sx_wA' (D := (xS_X12_laysAuction)) (sx_wA' (D := (xS_X12_laysAuction)) (sx_tr ha179 (sx_mono (D1 := xS_X12_workers) (fr_f_X12_workers (p := p4) a179.2.2 hp4) (fun o k h => h.elim) (fun o k h => h.elim) (fun o h => h.elim) (fun o h => h.elim))) ((fun q => Or.inl q) rfl)) ((fun q => Or.inr (q)) rfl))
          · exact ax_ret (P := Sum.elim (fun a179 : Int32 × Int32 × sx_M => sx_eq (xS_X12_laysAuction) s a179.2.2) (fun e : Int32 × sx_M => sx_eq (xS_X12_laysAuction) s e.2)) hf (sx_tr ha179 (sx_mono (D1 := xS_X12_workers) (fr_f_X12_workers (p := p4) a179.2.2 hp4) (fun o k h => h.elim) (fun o k h => h.elim) (fun o h => h.elim) (fun o h => h.elim)))
      obtain ⟨_, hf⟩ := ax_ite hf
      obtain ⟨_, hf⟩ := ax_ite hf
      obtain ⟨_, hf⟩ := ax_ite hf
      exact ax_ret (P := Sum.elim (fun a61 : Int32 × Int32 × sx_M => sx_eq (xS_X12_laysAuction) s a61.2.2) (Sum.elim (fun e : sx_M => sx_eq (xS_X12_laysAuction) s e) (fun v : sx_M => sx_eq (xS_X12_laysAuction) s v))) hf (sx_wA' (D := (xS_X12_laysAuction)) (sx_wB' (D := (xS_X12_laysAuction)) hvb5 ((fun q => q) rfl)) ((fun q => Or.inl q) rfl))
    rcases ax_or hf with ⟨hc20, hf⟩ | ⟨hc20, hf⟩
    · exact ax_ret (P := Sum.elim (fun a61 : Int32 × Int32 × sx_M => sx_eq (xS_X12_laysAuction) s a61.2.2) (Sum.elim (fun e : sx_M => sx_eq (xS_X12_laysAuction) s e) (fun v : sx_M => sx_eq (xS_X12_laysAuction) s v))) hf ha61
    · rcases ax_or hf with ⟨hc19, hf⟩ | ⟨hc19, hf⟩
      · exact ax_ret (P := Sum.elim (fun a61 : Int32 × Int32 × sx_M => sx_eq (xS_X12_laysAuction) s a61.2.2) (Sum.elim (fun e : sx_M => sx_eq (xS_X12_laysAuction) s e) (fun v : sx_M => sx_eq (xS_X12_laysAuction) s v))) hf ha61
      · obtain ⟨_, hf⟩ := ax_ite hf
        obtain ⟨p6, hp6, hf⟩ := ax_bind hf
        rcases ax_or hf with ⟨hc18, hf⟩ | ⟨hc18, hf⟩
        · exact ax_ret (P := Sum.elim (fun a61 : Int32 × Int32 × sx_M => sx_eq (xS_X12_laysAuction) s a61.2.2) (Sum.elim (fun e : sx_M => sx_eq (xS_X12_laysAuction) s e) (fun v : sx_M => sx_eq (xS_X12_laysAuction) s v))) hf (sx_tr ha61 (sx_mono (D1 := xS_X12_leastNet) (fr_f_X12_leastNet (p := p6) (rA a61.2.2 69 (a61.1).toNatClampNeg) (-1 : Int32) a61.2.2 hp6) (fun o k h => h.elim) (fun o k h => h.elim) (fun o h => h.elim) (fun o h => h.elim)))
        · obtain ⟨p7, hp7, hf⟩ := ax_bind hf
          obtain ⟨p8, hp8, hf⟩ := ax_bind hf
          obtain ⟨_, hf⟩ := ax_ite hf
          rcases ax_or hf with ⟨hc17, hf⟩ | ⟨hc17, hf⟩
          · exact J161 a61.1 a61.2.1 (rA a61.2.2 69 (a61.1).toNatClampNeg) p6.1 (1000 : Int64) p8.2 (sx_tr (sx_tr (sx_tr ha61 (sx_mono (D1 := xS_X12_leastNet) (fr_f_X12_leastNet (p := p6) (rA a61.2.2 69 (a61.1).toNatClampNeg) (-1 : Int32) a61.2.2 hp6) (fun o k h => h.elim) (fun o k h => h.elim) (fun o h => h.elim) (fun o h => h.elim))) (sx_mono (D1 := xS_X12_leastNet) (fr_f_X12_leastNet (p := p7) (rA a61.2.2 69 (a61.1).toNatClampNeg) p6.1 p6.2 hp7) (fun o k h => h.elim) (fun o k h => h.elim) (fun o h => h.elim) (fun o h => h.elim))) (sx_mono (D1 := xS_X12_costOf) (fr_f_X12_costOf (p := p8) (rA a61.2.2 69 (a61.1).toNatClampNeg) p6.1 p7.2 hp8) (fun o k h => h.elim) (fun o k h => h.elim) (fun o h => h.elim) (fun o h => h.elim))) hf
          · obtain ⟨p9, hp9, hf⟩ := ax_bind hf
            obtain ⟨_, hf⟩ := ax_ite hf
            exact J161 a61.1 a61.2.1 (rA a61.2.2 69 (a61.1).toNatClampNeg) p6.1 (((p9.1).toInt64 + (rB p9.2 68 (p7.1).toNatClampNeg)) - ((p8.1).toInt64 + (rB p8.2 68 (p6.1).toNatClampNeg))) p9.2 (sx_tr (sx_tr (sx_tr (sx_tr ha61 (sx_mono (D1 := xS_X12_leastNet) (fr_f_X12_leastNet (p := p6) (rA a61.2.2 69 (a61.1).toNatClampNeg) (-1 : Int32) a61.2.2 hp6) (fun o k h => h.elim) (fun o k h => h.elim) (fun o h => h.elim) (fun o h => h.elim))) (sx_mono (D1 := xS_X12_leastNet) (fr_f_X12_leastNet (p := p7) (rA a61.2.2 69 (a61.1).toNatClampNeg) p6.1 p6.2 hp7) (fun o k h => h.elim) (fun o k h => h.elim) (fun o h => h.elim) (fun o h => h.elim))) (sx_mono (D1 := xS_X12_costOf) (fr_f_X12_costOf (p := p8) (rA a61.2.2 69 (a61.1).toNatClampNeg) p6.1 p7.2 hp8) (fun o k h => h.elim) (fun o k h => h.elim) (fun o h => h.elim) (fun o h => h.elim))) (sx_mono (D1 := xS_X12_costOf) (fr_f_X12_costOf (p := p9) (rA a61.2.2 69 (a61.1).toNatClampNeg) p7.1 p8.2 hp9) (fun o k h => h.elim) (fun o k h => h.elim) (fun o h => h.elim) (fun o h => h.elim))) hf
  rcases b10 with e11 | e12
  · exact ax_ret (P := fun q : sx_M => sx_eq (xS_X12_laysAuction) s q) hf hvb10
  · exact ax_ret (P := fun q : sx_M => sx_eq (xS_X12_laysAuction) s q) hf hvb10
abbrev xI_X12_auction : Nat → Nat → Prop := fun o k => (o = 58 ∧ k = 26)
abbrev xJ_X12_auction : Nat → Nat → Prop := fun o k => False
abbrev xA_X12_auction : Nat → Prop := fun o => o = 67 ∨ o = 69
abbrev xB_X12_auction : Nat → Prop := fun o => o = 68
abbrev xS_X12_auction : sx_D := (xI_X12_auction, xJ_X12_auction, xA_X12_auction, xB_X12_auction)
set_option maxRecDepth 100000 in
set_option maxHeartbeats 1000000 in
theorem fr_f_X12_auction (x1 : Int32) (x2 : Int32) (s : sx_M) {p : Int64 × sx_M} (hf : f_X12_auction x1 x2 s = some p) : sx_eq (xS_X12_auction) s p.2 := by
  unfold f_X12_auction at hf
  obtain ⟨p1, hp1, hf⟩ := ax_bind hf
  rcases ax_or hf with ⟨hc5, hf⟩ | ⟨hc5, hf⟩
  · exact ax_ret (P := fun q : Int64 × sx_M => sx_eq (xS_X12_auction) s q.2) hf (sx_tr (sx_rf _ s) (sx_mono (D1 := xS_X12_in) (fr_f_X12_in (p := p1) ((x1).toInt64) (1 : Int64) (99 : Int64) s hp1) (fun o k h => h.elim) (fun o k h => h.elim) (fun o h => h.elim) (fun o h => h.elim)))
  · obtain ⟨p2, hp2, hf⟩ := ax_bind hf
    rcases ax_or hf with ⟨hc4, hf⟩ | ⟨hc4, hf⟩
    · exact ax_ret (P := fun q : Int64 × sx_M => sx_eq (xS_X12_auction) s q.2) hf (sx_tr (sx_tr (sx_rf _ s) (sx_mono (D1 := xS_X12_in) (fr_f_X12_in (p := p1) ((x1).toInt64) (1 : Int64) (99 : Int64) s hp1) (fun o k h => h.elim) (fun o k h => h.elim) (fun o h => h.elim) (fun o h => h.elim))) (sx_mono (D1 := xS_X12_in) (fr_f_X12_in (p := p2) ((x2).toInt64) (0 : Int64) (2 : Int64) p1.2 hp2) (fun o k h => h.elim) (fun o k h => h.elim) (fun o h => h.elim) (fun o h => h.elim)))
    · obtain ⟨p3, hp3, hf⟩ := ax_bind hf
      rcases ax_or hf with ⟨hc3, hf⟩ | ⟨hc3, hf⟩
      · exact ax_ret (P := fun q : Int64 × sx_M => sx_eq (xS_X12_auction) s q.2) hf (sx_tr (sx_tr (sx_tr (sx_rf _ s) (sx_mono (D1 := xS_X12_in) (fr_f_X12_in (p := p1) ((x1).toInt64) (1 : Int64) (99 : Int64) s hp1) (fun o k h => h.elim) (fun o k h => h.elim) (fun o h => h.elim) (fun o h => h.elim))) (sx_mono (D1 := xS_X12_in) (fr_f_X12_in (p := p2) ((x2).toInt64) (0 : Int64) (2 : Int64) p1.2 hp2) (fun o k h => h.elim) (fun o k h => h.elim) (fun o h => h.elim) (fun o h => h.elim))) (sx_mono (D1 := xS_X12_laysAuction) (fr_f_X12_laysAuction (p := p3) x1 p2.2 hp3) (fun o k h => (fun q => q) h) (fun o k h => h.elim) (fun o h => Or.elim h (fun q => (fun q => Or.inl q) q) (fun q0 => (fun q => Or.inr (q)) q0)) (fun o h => (fun q => q) h)))
      · rcases ax_or hf with ⟨hc2, hf⟩ | ⟨hc2, hf⟩
        · obtain ⟨p5, hp5, hf⟩ := ax_bind hf
          obtain ⟨p6, hp6, hf⟩ := ax_bind hf
          rcases ax_or hf with ⟨hc1, hf⟩ | ⟨hc1, hf⟩
          · exact ax_ret (P := fun q : Int64 × sx_M => sx_eq (xS_X12_auction) s q.2) hf (sx_tr (sx_tr (sx_tr (sx_tr (sx_tr (sx_rf _ s) (sx_mono (D1 := xS_X12_in) (fr_f_X12_in (p := p1) ((x1).toInt64) (1 : Int64) (99 : Int64) s hp1) (fun o k h => h.elim) (fun o k h => h.elim) (fun o h => h.elim) (fun o h => h.elim))) (sx_mono (D1 := xS_X12_in) (fr_f_X12_in (p := p2) ((x2).toInt64) (0 : Int64) (2 : Int64) p1.2 hp2) (fun o k h => h.elim) (fun o k h => h.elim) (fun o h => h.elim) (fun o h => h.elim))) (sx_mono (D1 := xS_X12_laysAuction) (fr_f_X12_laysAuction (p := p3) x1 p2.2 hp3) (fun o k h => (fun q => q) h) (fun o k h => h.elim) (fun o h => Or.elim h (fun q => (fun q => Or.inl q) q) (fun q0 => (fun q => Or.inr (q)) q0)) (fun o h => (fun q => q) h))) (sx_mono (D1 := xS_X12_hasMany) (fr_f_X12_hasMany (p := p5) p3 hp5) (fun o k h => h.elim) (fun o k h => h.elim) (fun o h => h.elim) (fun o h => h.elim))) (sx_mono (D1 := xS_X12_workers) (fr_f_X12_workers (p := p6) p5.2 hp6) (fun o k h => h.elim) (fun o k h => h.elim) (fun o h => h.elim) (fun o h => h.elim)))
          · exact ax_ret (P := fun q : Int64 × sx_M => sx_eq (xS_X12_auction) s q.2) hf (sx_tr (sx_tr (sx_tr (sx_tr (sx_tr (sx_rf _ s) (sx_mono (D1 := xS_X12_in) (fr_f_X12_in (p := p1) ((x1).toInt64) (1 : Int64) (99 : Int64) s hp1) (fun o k h => h.elim) (fun o k h => h.elim) (fun o h => h.elim) (fun o h => h.elim))) (sx_mono (D1 := xS_X12_in) (fr_f_X12_in (p := p2) ((x2).toInt64) (0 : Int64) (2 : Int64) p1.2 hp2) (fun o k h => h.elim) (fun o k h => h.elim) (fun o h => h.elim) (fun o h => h.elim))) (sx_mono (D1 := xS_X12_laysAuction) (fr_f_X12_laysAuction (p := p3) x1 p2.2 hp3) (fun o k h => (fun q => q) h) (fun o k h => h.elim) (fun o h => Or.elim h (fun q => (fun q => Or.inl q) q) (fun q0 => (fun q => Or.inr (q)) q0)) (fun o h => (fun q => q) h))) (sx_mono (D1 := xS_X12_hasMany) (fr_f_X12_hasMany (p := p5) p3 hp5) (fun o k h => h.elim) (fun o k h => h.elim) (fun o h => h.elim) (fun o h => h.elim))) (sx_mono (D1 := xS_X12_workers) (fr_f_X12_workers (p := p6) p5.2 hp6) (fun o k h => h.elim) (fun o k h => h.elim) (fun o h => h.elim) (fun o h => h.elim)))
        · obtain ⟨p4, hp4, hf⟩ := ax_bind hf
          exact ax_ret (P := fun q : Int64 × sx_M => sx_eq (xS_X12_auction) s q.2) hf (sx_tr (sx_tr (sx_tr (sx_tr (sx_rf _ s) (sx_mono (D1 := xS_X12_in) (fr_f_X12_in (p := p1) ((x1).toInt64) (1 : Int64) (99 : Int64) s hp1) (fun o k h => h.elim) (fun o k h => h.elim) (fun o h => h.elim) (fun o h => h.elim))) (sx_mono (D1 := xS_X12_in) (fr_f_X12_in (p := p2) ((x2).toInt64) (0 : Int64) (2 : Int64) p1.2 hp2) (fun o k h => h.elim) (fun o k h => h.elim) (fun o h => h.elim) (fun o h => h.elim))) (sx_mono (D1 := xS_X12_laysAuction) (fr_f_X12_laysAuction (p := p3) x1 p2.2 hp3) (fun o k h => (fun q => q) h) (fun o k h => h.elim) (fun o h => Or.elim h (fun q => (fun q => Or.inl q) q) (fun q0 => (fun q => Or.inr (q)) q0)) (fun o h => (fun q => q) h))) (sx_mono (D1 := xS_X12_hasSum) (fr_f_X12_hasSum (p := p4) p3 hp4) (fun o k h => h.elim) (fun o k h => h.elim) (fun o h => h.elim) (fun o h => h.elim)))
abbrev xI_X12_auctionPrice : Nat → Nat → Prop := fun o k => (o = 58 ∧ k = 26)
abbrev xJ_X12_auctionPrice : Nat → Nat → Prop := fun o k => False
abbrev xA_X12_auctionPrice : Nat → Prop := fun o => o = 67 ∨ o = 69
abbrev xB_X12_auctionPrice : Nat → Prop := fun o => o = 68
abbrev xS_X12_auctionPrice : sx_D := (xI_X12_auctionPrice, xJ_X12_auctionPrice, xA_X12_auctionPrice, xB_X12_auctionPrice)
set_option maxRecDepth 100000 in
set_option maxHeartbeats 1000000 in
theorem fr_f_X12_auctionPrice (x1 : Int32) (x2 : Int32) (s : sx_M) {p : Int32 × sx_M} (hf : f_X12_auctionPrice x1 x2 s = some p) : sx_eq (xS_X12_auctionPrice) s p.2 := by
  unfold f_X12_auctionPrice at hf
  obtain ⟨p1, hp1, hf⟩ := ax_bind hf
  rcases ax_or hf with ⟨hc3, hf⟩ | ⟨hc3, hf⟩
  · exact ax_ret (P := fun q : Int32 × sx_M => sx_eq (xS_X12_auctionPrice) s q.2) hf (sx_tr (sx_rf _ s) (sx_mono (D1 := xS_X12_in) (fr_f_X12_in (p := p1) ((x1).toInt64) (1 : Int64) (99 : Int64) s hp1) (fun o k h => h.elim) (fun o k h => h.elim) (fun o h => h.elim) (fun o h => h.elim)))
  · obtain ⟨p2, hp2, hf⟩ := ax_bind hf
    rcases ax_or hf with ⟨hc2, hf⟩ | ⟨hc2, hf⟩
    · exact ax_ret (P := fun q : Int32 × sx_M => sx_eq (xS_X12_auctionPrice) s q.2) hf (sx_tr (sx_tr (sx_rf _ s) (sx_mono (D1 := xS_X12_in) (fr_f_X12_in (p := p1) ((x1).toInt64) (1 : Int64) (99 : Int64) s hp1) (fun o k h => h.elim) (fun o k h => h.elim) (fun o h => h.elim) (fun o h => h.elim))) (sx_mono (D1 := xS_X12_isJob) (fr_f_X12_isJob (p := p2) x2 p1.2 hp2) (fun o k h => h.elim) (fun o k h => h.elim) (fun o h => h.elim) (fun o h => h.elim)))
    · obtain ⟨p3, hp3, hf⟩ := ax_bind hf
      obtain ⟨_, hf⟩ := ax_ite hf
      exact ax_ret (P := fun q : Int32 × sx_M => sx_eq (xS_X12_auctionPrice) s q.2) hf (sx_tr (sx_tr (sx_tr (sx_rf _ s) (sx_mono (D1 := xS_X12_in) (fr_f_X12_in (p := p1) ((x1).toInt64) (1 : Int64) (99 : Int64) s hp1) (fun o k h => h.elim) (fun o k h => h.elim) (fun o h => h.elim) (fun o h => h.elim))) (sx_mono (D1 := xS_X12_isJob) (fr_f_X12_isJob (p := p2) x2 p1.2 hp2) (fun o k h => h.elim) (fun o k h => h.elim) (fun o h => h.elim) (fun o h => h.elim))) (sx_mono (D1 := xS_X12_laysAuction) (fr_f_X12_laysAuction (p := p3) x1 p2.2 hp3) (fun o k h => (fun q => q) h) (fun o k h => h.elim) (fun o h => Or.elim h (fun q => (fun q => Or.inl q) q) (fun q0 => (fun q => Or.inr (q)) q0)) (fun o h => (fun q => q) h)))
abbrev xI_X12_auctionJob : Nat → Nat → Prop := fun o k => (o = 58 ∧ k = 26)
abbrev xJ_X12_auctionJob : Nat → Nat → Prop := fun o k => False
abbrev xA_X12_auctionJob : Nat → Prop := fun o => o = 67 ∨ o = 69
abbrev xB_X12_auctionJob : Nat → Prop := fun o => o = 68
abbrev xS_X12_auctionJob : sx_D := (xI_X12_auctionJob, xJ_X12_auctionJob, xA_X12_auctionJob, xB_X12_auctionJob)
set_option maxRecDepth 100000 in
set_option maxHeartbeats 1000000 in
theorem fr_f_X12_auctionJob (x1 : Int32) (x2 : Int32) (s : sx_M) {p : Int32 × sx_M} (hf : f_X12_auctionJob x1 x2 s = some p) : sx_eq (xS_X12_auctionJob) s p.2 := by
  unfold f_X12_auctionJob at hf
  obtain ⟨p1, hp1, hf⟩ := ax_bind hf
  rcases ax_or hf with ⟨hc3, hf⟩ | ⟨hc3, hf⟩
  · exact ax_ret (P := fun q : Int32 × sx_M => sx_eq (xS_X12_auctionJob) s q.2) hf (sx_tr (sx_rf _ s) (sx_mono (D1 := xS_X12_in) (fr_f_X12_in (p := p1) ((x1).toInt64) (1 : Int64) (99 : Int64) s hp1) (fun o k h => h.elim) (fun o k h => h.elim) (fun o h => h.elim) (fun o h => h.elim)))
  · obtain ⟨p2, hp2, hf⟩ := ax_bind hf
    rcases ax_or hf with ⟨hc2, hf⟩ | ⟨hc2, hf⟩
    · exact ax_ret (P := fun q : Int32 × sx_M => sx_eq (xS_X12_auctionJob) s q.2) hf (sx_tr (sx_tr (sx_rf _ s) (sx_mono (D1 := xS_X12_in) (fr_f_X12_in (p := p1) ((x1).toInt64) (1 : Int64) (99 : Int64) s hp1) (fun o k h => h.elim) (fun o k h => h.elim) (fun o h => h.elim) (fun o h => h.elim))) (sx_mono (D1 := xS_X12_isWorker) (fr_f_X12_isWorker (p := p2) x2 p1.2 hp2) (fun o k h => h.elim) (fun o k h => h.elim) (fun o h => h.elim) (fun o h => h.elim)))
    · obtain ⟨p3, hp3, hf⟩ := ax_bind hf
      obtain ⟨_, hf⟩ := ax_ite hf
      exact ax_ret (P := fun q : Int32 × sx_M => sx_eq (xS_X12_auctionJob) s q.2) hf (sx_tr (sx_tr (sx_tr (sx_rf _ s) (sx_mono (D1 := xS_X12_in) (fr_f_X12_in (p := p1) ((x1).toInt64) (1 : Int64) (99 : Int64) s hp1) (fun o k h => h.elim) (fun o k h => h.elim) (fun o h => h.elim) (fun o h => h.elim))) (sx_mono (D1 := xS_X12_isWorker) (fr_f_X12_isWorker (p := p2) x2 p1.2 hp2) (fun o k h => h.elim) (fun o k h => h.elim) (fun o h => h.elim) (fun o h => h.elim))) (sx_mono (D1 := xS_X12_laysAuction) (fr_f_X12_laysAuction (p := p3) x1 p2.2 hp3) (fun o k h => (fun q => q) h) (fun o k h => h.elim) (fun o h => Or.elim h (fun q => (fun q => Or.inl q) q) (fun q0 => (fun q => Or.inr (q)) q0)) (fun o h => (fun q => q) h)))
abbrev xI_X12_drawn : Nat → Nat → Prop := fun o k => (o = 58 ∧ k = 15)
abbrev xJ_X12_drawn : Nat → Nat → Prop := fun o k => False
abbrev xA_X12_drawn : Nat → Prop := fun o => o = 63 ∨ o = 64 ∨ o = 65
abbrev xB_X12_drawn : Nat → Prop := fun o => False
abbrev xS_X12_drawn : sx_D := (xI_X12_drawn, xJ_X12_drawn, xA_X12_drawn, xB_X12_drawn)
set_option maxRecDepth 100000 in
set_option maxHeartbeats 1000000 in
theorem fr_f_X12_drawn (x1 : Int64) (s : sx_M) {p : Int32 × sx_M} (hf : f_X12_drawn x1 s = some p) : sx_eq (xS_X12_drawn) s p.2 := by
  unfold f_X12_drawn at hf
  obtain ⟨p1, hp1, hf⟩ := ax_bind hf
  rcases ax_or hf with ⟨hc2, hf⟩ | ⟨hc2, hf⟩
  · exact ax_ret (P := fun q : Int32 × sx_M => sx_eq (xS_X12_drawn) s q.2) hf (sx_tr (sx_rf _ s) (sx_mono (D1 := xS_X12_goesAll) (fr_f_X12_goesAll (p := p1) s hp1) (fun o k h => (fun q => q) h) (fun o k h => h.elim) (fun o h => Or.elim h (fun q => (fun q => Or.inl q) q) (fun q0 => Or.elim q0 (fun q => (fun q => Or.inr (Or.inl q)) q) (fun q1 => (fun q => Or.inr (Or.inr (q))) q1))) (fun o h => h.elim)))
  · obtain ⟨_, hf⟩ := ax_ite hf
    exact ax_ret (P := fun q : Int32 × sx_M => sx_eq (xS_X12_drawn) s q.2) hf (sx_tr (sx_rf _ s) (sx_mono (D1 := xS_X12_goesAll) (fr_f_X12_goesAll (p := p1) s hp1) (fun o k h => (fun q => q) h) (fun o k h => h.elim) (fun o h => Or.elim h (fun q => (fun q => Or.inl q) q) (fun q0 => Or.elim q0 (fun q => (fun q => Or.inr (Or.inl q)) q) (fun q1 => (fun q => Or.inr (Or.inr (q))) q1))) (fun o h => h.elim)))
abbrev xI_X12_leastOf : Nat → Nat → Prop := fun o k => False
abbrev xJ_X12_leastOf : Nat → Nat → Prop := fun o k => False
abbrev xA_X12_leastOf : Nat → Prop := fun o => False
abbrev xB_X12_leastOf : Nat → Prop := fun o => False
abbrev xS_X12_leastOf : sx_D := (xI_X12_leastOf, xJ_X12_leastOf, xA_X12_leastOf, xB_X12_leastOf)
set_option maxRecDepth 100000 in
set_option maxHeartbeats 1000000 in
theorem fr_f_X12_leastOf (x1 : Int32) (x2 : Int32) (s : sx_M) {p : Int64 × sx_M} (hf : f_X12_leastOf x1 x2 s = some p) : sx_eq (xS_X12_leastOf) s p.2 := by
  unfold f_X12_leastOf at hf
  obtain ⟨b6, hb6, hf⟩ := ax_bind hf
  have hvb6 := wh_inv ((2147483647 : Int32), (0 : Int32), s) (fun a6 : Int32 × Int32 × sx_M => sx_eq (xS_X12_leastOf) s a6.2.2) (fun e : Int32 × sx_M => sx_eq (xS_X12_leastOf) s e.2) hb6 ?_ (sx_rf _ s)
  rotate_left
  · intro a6 r ha6 hf
    unfold f_X12_leastOf_L6 at hf
    have J48 : ∀ (y4_48 : Int32) (t0_48 : Int32) (t1_48 : Int32) (s_48 : sx_M), sx_eq (xS_X12_leastOf) s s_48 → f_X12_leastOf_L6_J48 x1 x2 y4_48 t0_48 t1_48 s_48 = some r → Sum.elim (fun a6 : Int32 × Int32 × sx_M => sx_eq (xS_X12_leastOf) s a6.2.2) (fun e : Int32 × sx_M => sx_eq (xS_X12_leastOf) s e.2) r := by
      intro y4_48 t0_48 t1_48 s_48 hs_48 hf
      unfold f_X12_leastOf_L6_J48 at hf
      obtain ⟨p1, hp1, hf⟩ := ax_bind hf
      exact ax_ret (P := Sum.elim (fun a6 : Int32 × Int32 × sx_M => sx_eq (xS_X12_leastOf) s a6.2.2) (fun e : Int32 × sx_M => sx_eq (xS_X12_leastOf) s e.2)) hf (sx_tr hs_48 (sx_mono (D1 := xS_J9_min_7cf53) (fr_f_J9_min_7cf53 (p := p1) t0_48 t1_48 s_48 hp1) (fun o k h => h.elim) (fun o k h => h.elim) (fun o h => h.elim) (fun o h => h.elim)))
    have J23 : ∀ (y3_23 : Int32) (y4_23 : Int32) (t0_23 : Int32) (t1_23 : Int32) (s_23 : sx_M), sx_eq (xS_X12_leastOf) s s_23 → f_X12_leastOf_L6_J23 x1 x2 y3_23 y4_23 t0_23 t1_23 s_23 = some r → Sum.elim (fun a6 : Int32 × Int32 × sx_M => sx_eq (xS_X12_leastOf) s a6.2.2) (fun e : Int32 × sx_M => sx_eq (xS_X12_leastOf) s e.2) r := by
      intro y3_23 y4_23 t0_23 t1_23 s_23 hs_23 hf
      unfold f_X12_leastOf_L6_J23 at hf
      rcases ax_or hf with ⟨hc2, hf⟩ | ⟨hc2, hf⟩
      · exact ax_ret (P := Sum.elim (fun a6 : Int32 × Int32 × sx_M => sx_eq (xS_X12_leastOf) s a6.2.2) (fun e : Int32 × sx_M => sx_eq (xS_X12_leastOf) s e.2)) hf hs_23
      · rcases ax_or hf with ⟨hc1, hf⟩ | ⟨hc1, hf⟩
        · obtain ⟨p3, hp3, hf⟩ := ax_bind hf
          exact J48 y4_23 y3_23 p3.1 p3.2 (sx_tr hs_23 (sx_mono (D1 := xS_X12_costOf) (fr_f_X12_costOf (p := p3) x1 y4_23 s_23 hp3) (fun o k h => h.elim) (fun o k h => h.elim) (fun o h => h.elim) (fun o h => h.elim))) hf
        · obtain ⟨p2, hp2, hf⟩ := ax_bind hf
          exact J48 y4_23 y3_23 p2.1 p2.2 (sx_tr hs_23 (sx_mono (D1 := xS_X12_costOf) (fr_f_X12_costOf (p := p2) y4_23 x1 s_23 hp2) (fun o k h => h.elim) (fun o k h => h.elim) (fun o h => h.elim) (fun o h => h.elim))) hf
    rcases ax_or hf with ⟨hc3, hf⟩ | ⟨hc3, hf⟩
    · obtain ⟨p5, hp5, hf⟩ := ax_bind hf
      exact J23 a6.1 a6.2.1 a6.2.1 p5.1 p5.2 (sx_tr ha6 (sx_mono (D1 := xS_X12_jobs) (fr_f_X12_jobs (p := p5) a6.2.2 hp5) (fun o k h => h.elim) (fun o k h => h.elim) (fun o h => h.elim) (fun o h => h.elim))) hf
    · obtain ⟨p4, hp4, hf⟩ := ax_bind hf
      exact J23 a6.1 a6.2.1 a6.2.1 p4.1 p4.2 (sx_tr ha6 (sx_mono (D1 := xS_X12_workers) (fr_f_X12_workers (p := p4) a6.2.2 hp4) (fun o k h => h.elim) (fun o k h => h.elim) (fun o h => h.elim) (fun o h => h.elim))) hf
  rcases ax_or hf with ⟨hc4, hf⟩ | ⟨hc4, hf⟩
  · exact ax_ret (P := fun q : Int64 × sx_M => sx_eq (xS_X12_leastOf) s q.2) hf hvb6
  · exact ax_ret (P := fun q : Int64 × sx_M => sx_eq (xS_X12_leastOf) s q.2) hf hvb6
abbrev xI_X12_least_ : Nat → Nat → Prop := fun o k => False
abbrev xJ_X12_least_ : Nat → Nat → Prop := fun o k => False
abbrev xA_X12_least_ : Nat → Prop := fun o => False
abbrev xB_X12_least_ : Nat → Prop := fun o => False
abbrev xS_X12_least_ : sx_D := (xI_X12_least_, xJ_X12_least_, xA_X12_least_, xB_X12_least_)
set_option maxRecDepth 100000 in
set_option maxHeartbeats 1000000 in
theorem fr_f_X12_least_ (x1 : Int32) (x2 : Int32) (s : sx_M) {p : Int64 × sx_M} (hf : f_X12_least_ x1 x2 s = some p) : sx_eq (xS_X12_least_) s p.2 := by
  unfold f_X12_least_ at hf
  have J30 : ∀ (y1_30 : Int32) (y2_30 : Int32) (t0_30 : Int32) (s_30 : sx_M), sx_eq (xS_X12_least_) s s_30 → f_X12_least__J30 y1_30 y2_30 t0_30 s_30 = some p → sx_eq (xS_X12_least_) s p.2 := by
    intro y1_30 y2_30 t0_30 s_30 hs_30 hf
    unfold f_X12_least__J30 at hf
    rcases ax_or hf with ⟨hc1, hf⟩ | ⟨hc1, hf⟩
    · exact ax_ret (P := fun q : Int64 × sx_M => sx_eq (xS_X12_least_) s q.2) hf hs_30
    · obtain ⟨p1, hp1, hf⟩ := ax_bind hf
      exact ax_ret (P := fun q : Int64 × sx_M => sx_eq (xS_X12_least_) s q.2) hf (sx_tr hs_30 (sx_mono (D1 := xS_X12_leastOf) (fr_f_X12_leastOf (p := p1) y1_30 y2_30 s_30 hp1) (fun o k h => h.elim) (fun o k h => h.elim) (fun o h => h.elim) (fun o h => h.elim)))
  have J12 : ∀ (y1_12 : Int32) (y2_12 : Int32) (s_12 : sx_M), sx_eq (xS_X12_least_) s s_12 → f_X12_least__J12 y1_12 y2_12 s_12 = some p → sx_eq (xS_X12_least_) s p.2 := by
    intro y1_12 y2_12 s_12 hs_12 hf
    unfold f_X12_least__J12 at hf
    rcases ax_or hf with ⟨hc3, hf⟩ | ⟨hc3, hf⟩
    · obtain ⟨p2, hp2, hf⟩ := ax_bind hf
      rcases ax_or hf with ⟨hc2, hf⟩ | ⟨hc2, hf⟩
      · exact J30 y1_12 y2_12 (0 : Int32) p2.2 (sx_tr hs_12 (sx_mono (D1 := xS_X12_isJob) (fr_f_X12_isJob (p := p2) y1_12 s_12 hp2) (fun o k h => h.elim) (fun o k h => h.elim) (fun o h => h.elim) (fun o h => h.elim))) hf
      · exact J30 y1_12 y2_12 (1 : Int32) p2.2 (sx_tr hs_12 (sx_mono (D1 := xS_X12_isJob) (fr_f_X12_isJob (p := p2) y1_12 s_12 hp2) (fun o k h => h.elim) (fun o k h => h.elim) (fun o h => h.elim) (fun o h => h.elim))) hf
    · exact J30 y1_12 y2_12 (0 : Int32) s_12 hs_12 hf
  rcases ax_or hf with ⟨hc5, hf⟩ | ⟨hc5, hf⟩
  · obtain ⟨p3, hp3, hf⟩ := ax_bind hf
    rcases ax_or hf with ⟨hc4, hf⟩ | ⟨hc4, hf⟩
    · exact J12 x1 x2 p3.2 (sx_tr (sx_rf _ s) (sx_mono (D1 := xS_X12_isWorker) (fr_f_X12_isWorker (p := p3) x1 s hp3) (fun o k h => h.elim) (fun o k h => h.elim) (fun o h => h.elim) (fun o h => h.elim))) hf
    · exact J30 x1 x2 (1 : Int32) p3.2 (sx_tr (sx_rf _ s) (sx_mono (D1 := xS_X12_isWorker) (fr_f_X12_isWorker (p := p3) x1 s hp3) (fun o k h => h.elim) (fun o k h => h.elim) (fun o h => h.elim) (fun o h => h.elim))) hf
  · exact J12 x1 x2 s (sx_rf _ s) hf
abbrev xI_X12_loss : Nat → Nat → Prop := fun o k => (o = 58 ∧ k = 15) ∨ (o = 58 ∧ k = 18)
abbrev xJ_X12_loss : Nat → Nat → Prop := fun o k => False
abbrev xA_X12_loss : Nat → Prop := fun o => o = 63 ∨ o = 64 ∨ o = 65 ∨ o = 66
abbrev xB_X12_loss : Nat → Prop := fun o => False
abbrev xS_X12_loss : sx_D := (xI_X12_loss, xJ_X12_loss, xA_X12_loss, xB_X12_loss)
set_option maxRecDepth 100000 in
set_option maxHeartbeats 1000000 in
theorem fr_f_X12_loss (x1 : Int32) (s : sx_M) {p : Int64 × sx_M} (hf : f_X12_loss x1 s = some p) : sx_eq (xS_X12_loss) s p.2 := by
  unfold f_X12_loss at hf
  obtain ⟨p1, hp1, hf⟩ := ax_bind hf
  obtain ⟨p2, hp2, hf⟩ := ax_bind hf
  rcases ax_or hf with ⟨hc4, hf⟩ | ⟨hc4, hf⟩
  · exact ax_ret (P := fun q : Int64 × sx_M => sx_eq (xS_X12_loss) s q.2) hf (sx_tr (sx_tr (sx_rf _ s) (sx_mono (D1 := xS_X12_laysFirst) (fr_f_X12_laysFirst (p := p1) s hp1) (fun o k h => Or.elim h (fun q => (fun q => Or.inl q) q) (fun q0 => (fun q => Or.inr (q)) q0)) (fun o k h => h.elim) (fun o h => Or.elim h (fun q => (fun q => Or.inl q) q) (fun q0 => Or.elim q0 (fun q => (fun q => Or.inr (Or.inl q)) q) (fun q1 => Or.elim q1 (fun q => (fun q => Or.inr (Or.inr (Or.inl q))) q) (fun q2 => (fun q => Or.inr (Or.inr (Or.inr (q)))) q2)))) (fun o h => h.elim))) (sx_mono (D1 := xS_X12_isThere) (fr_f_X12_isThere (p := p2) x1 p1 hp2) (fun o k h => h.elim) (fun o k h => h.elim) (fun o h => h.elim) (fun o h => h.elim)))
  · obtain ⟨_, hf⟩ := ax_ite hf
    obtain ⟨_, hf⟩ := ax_ite hf
    obtain ⟨b5, hb5, hf⟩ := ax_bind hf
    have hvb5 := wh_inv (((rA p2.2 64 ((rA p2.2 66 (x1).toNatClampNeg)).toNatClampNeg)).toInt64, (0 : Int32), p2.2) (fun a32 : Int64 × Int32 × sx_M => sx_eq (xS_X12_loss) s a32.2.2) (fun e : Int64 × sx_M => sx_eq (xS_X12_loss) s e.2) hb5 ?_ (sx_tr (sx_tr (sx_rf _ s) (sx_mono (D1 := xS_X12_laysFirst) (fr_f_X12_laysFirst (p := p1) s hp1) (fun o k h => Or.elim h (fun q => (fun q => Or.inl q) q) (fun q0 => (fun q => Or.inr (q)) q0)) (fun o k h => h.elim) (fun o h => Or.elim h (fun q => (fun q => Or.inl q) q) (fun q0 => Or.elim q0 (fun q => (fun q => Or.inr (Or.inl q)) q) (fun q1 => Or.elim q1 (fun q => (fun q => Or.inr (Or.inr (Or.inl q))) q) (fun q2 => (fun q => Or.inr (Or.inr (Or.inr (q)))) q2)))) (fun o h => h.elim))) (sx_mono (D1 := xS_X12_isThere) (fr_f_X12_isThere (p := p2) x1 p1 hp2) (fun o k h => h.elim) (fun o k h => h.elim) (fun o h => h.elim) (fun o h => h.elim)))
    rotate_left
    · intro a32 r ha32 hf
      unfold f_X12_loss_L32 at hf
      obtain ⟨p3, hp3, hf⟩ := ax_bind hf
      rcases ax_or hf with ⟨hc3, hf⟩ | ⟨hc3, hf⟩
      · exact ax_ret (P := Sum.elim (fun a32 : Int64 × Int32 × sx_M => sx_eq (xS_X12_loss) s a32.2.2) (fun e : Int64 × sx_M => sx_eq (xS_X12_loss) s e.2)) hf (sx_tr ha32 (sx_mono (D1 := xS_X12_workers) (fr_f_X12_workers (p := p3) a32.2.2 hp3) (fun o k h => h.elim) (fun o k h => h.elim) (fun o h => h.elim) (fun o h => h.elim)))
      · obtain ⟨p4, hp4, hf⟩ := ax_bind hf
        exact ax_ret (P := Sum.elim (fun a32 : Int64 × Int32 × sx_M => sx_eq (xS_X12_loss) s a32.2.2) (fun e : Int64 × sx_M => sx_eq (xS_X12_loss) s e.2)) hf (sx_tr (sx_tr ha32 (sx_mono (D1 := xS_X12_workers) (fr_f_X12_workers (p := p3) a32.2.2 hp3) (fun o k h => h.elim) (fun o k h => h.elim) (fun o h => h.elim) (fun o h => h.elim))) (sx_mono (D1 := xS_X12_leastOf) (fr_f_X12_leastOf (p := p4) a32.2.1 (0 : Int32) p3.2 hp4) (fun o k h => h.elim) (fun o k h => h.elim) (fun o h => h.elim) (fun o h => h.elim)))
    exact ax_ret (P := fun q : Int64 × sx_M => sx_eq (xS_X12_loss) s q.2) hf hvb5
abbrev xI_X12_dearest : Nat → Nat → Prop := fun o k => (o = 58 ∧ k = 15) ∨ (o = 58 ∧ k = 18)
abbrev xJ_X12_dearest : Nat → Nat → Prop := fun o k => False
abbrev xA_X12_dearest : Nat → Prop := fun o => o = 63 ∨ o = 64 ∨ o = 65 ∨ o = 66
abbrev xB_X12_dearest : Nat → Prop := fun o => False
abbrev xS_X12_dearest : sx_D := (xI_X12_dearest, xJ_X12_dearest, xA_X12_dearest, xB_X12_dearest)
set_option maxRecDepth 100000 in
set_option maxHeartbeats 1000000 in
theorem fr_f_X12_dearest (x1 : Int32) (s : sx_M) {p : Int64 × sx_M} (hf : f_X12_dearest x1 s = some p) : sx_eq (xS_X12_dearest) s p.2 := by
  unfold f_X12_dearest at hf
  obtain ⟨p1, hp1, hf⟩ := ax_bind hf
  obtain ⟨p2, hp2, hf⟩ := ax_bind hf
  rcases ax_or hf with ⟨hc3, hf⟩ | ⟨hc3, hf⟩
  · exact ax_ret (P := fun q : Int64 × sx_M => sx_eq (xS_X12_dearest) s q.2) hf (sx_tr (sx_tr (sx_rf _ s) (sx_mono (D1 := xS_X12_laysFirst) (fr_f_X12_laysFirst (p := p1) s hp1) (fun o k h => Or.elim h (fun q => (fun q => Or.inl q) q) (fun q0 => (fun q => Or.inr (q)) q0)) (fun o k h => h.elim) (fun o h => Or.elim h (fun q => (fun q => Or.inl q) q) (fun q0 => Or.elim q0 (fun q => (fun q => Or.inr (Or.inl q)) q) (fun q1 => Or.elim q1 (fun q => (fun q => Or.inr (Or.inr (Or.inl q))) q) (fun q2 => (fun q => Or.inr (Or.inr (Or.inr (q)))) q2)))) (fun o h => h.elim))) (sx_mono (D1 := xS_X12_isThere) (fr_f_X12_isThere (p := p2) x1 p1 hp2) (fun o k h => h.elim) (fun o k h => h.elim) (fun o h => h.elim) (fun o h => h.elim)))
  · obtain ⟨p3, hp3, hf⟩ := ax_bind hf
    rcases ax_or hf with ⟨hc2, hf⟩ | ⟨hc2, hf⟩
    · exact ax_ret (P := fun q : Int64 × sx_M => sx_eq (xS_X12_dearest) s q.2) hf (sx_tr (sx_tr (sx_tr (sx_rf _ s) (sx_mono (D1 := xS_X12_laysFirst) (fr_f_X12_laysFirst (p := p1) s hp1) (fun o k h => Or.elim h (fun q => (fun q => Or.inl q) q) (fun q0 => (fun q => Or.inr (q)) q0)) (fun o k h => h.elim) (fun o h => Or.elim h (fun q => (fun q => Or.inl q) q) (fun q0 => Or.elim q0 (fun q => (fun q => Or.inr (Or.inl q)) q) (fun q1 => Or.elim q1 (fun q => (fun q => Or.inr (Or.inr (Or.inl q))) q) (fun q2 => (fun q => Or.inr (Or.inr (Or.inr (q)))) q2)))) (fun o h => h.elim))) (sx_mono (D1 := xS_X12_isThere) (fr_f_X12_isThere (p := p2) x1 p1 hp2) (fun o k h => h.elim) (fun o k h => h.elim) (fun o h => h.elim) (fun o h => h.elim))) (sx_mono (D1 := xS_X12_workers) (fr_f_X12_workers (p := p3) p2.2 hp3) (fun o k h => h.elim) (fun o k h => h.elim) (fun o h => h.elim) (fun o h => h.elim)))
    · obtain ⟨_, hf⟩ := ax_ite hf
      obtain ⟨p4, hp4, hf⟩ := ax_bind hf
      exact ax_ret (P := fun q : Int64 × sx_M => sx_eq (xS_X12_dearest) s q.2) hf (sx_tr (sx_tr (sx_tr (sx_tr (sx_rf _ s) (sx_mono (D1 := xS_X12_laysFirst) (fr_f_X12_laysFirst (p := p1) s hp1) (fun o k h => Or.elim h (fun q => (fun q => Or.inl q) q) (fun q0 => (fun q => Or.inr (q)) q0)) (fun o k h => h.elim) (fun o h => Or.elim h (fun q => (fun q => Or.inl q) q) (fun q0 => Or.elim q0 (fun q => (fun q => Or.inr (Or.inl q)) q) (fun q1 => Or.elim q1 (fun q => (fun q => Or.inr (Or.inr (Or.inl q))) q) (fun q2 => (fun q => Or.inr (Or.inr (Or.inr (q)))) q2)))) (fun o h => h.elim))) (sx_mono (D1 := xS_X12_isThere) (fr_f_X12_isThere (p := p2) x1 p1 hp2) (fun o k h => h.elim) (fun o k h => h.elim) (fun o h => h.elim) (fun o h => h.elim))) (sx_mono (D1 := xS_X12_workers) (fr_f_X12_workers (p := p3) p2.2 hp3) (fun o k h => h.elim) (fun o k h => h.elim) (fun o h => h.elim) (fun o h => h.elim))) (sx_mono (D1 := xS_X12_measureOf) (fr_f_X12_measureOf (p := p4) (rA p3.2 66 (x1).toNatClampNeg) (1 : Int32) (0 : Int32) p3.2 hp4) (fun o k h => h.elim) (fun o k h => h.elim) (fun o h => h.elim) (fun o h => h.elim)))
abbrev xI_X12_apart : Nat → Nat → Prop := fun o k => (o = 58 ∧ k = 15) ∨ (o = 58 ∧ k = 18)
abbrev xJ_X12_apart : Nat → Nat → Prop := fun o k => False
abbrev xA_X12_apart : Nat → Prop := fun o => o = 63 ∨ o = 64 ∨ o = 65 ∨ o = 66
abbrev xB_X12_apart : Nat → Prop := fun o => False
abbrev xS_X12_apart : sx_D := (xI_X12_apart, xJ_X12_apart, xA_X12_apart, xB_X12_apart)
set_option maxRecDepth 100000 in
set_option maxHeartbeats 1000000 in
theorem fr_f_X12_apart (x1 : Int32) (x2 : Int32) (s : sx_M) {p : Int32 × sx_M} (hf : f_X12_apart x1 x2 s = some p) : sx_eq (xS_X12_apart) s p.2 := by
  unfold f_X12_apart at hf
  obtain ⟨p1, hp1, hf⟩ := ax_bind hf
  rcases ax_or hf with ⟨hc8, hf⟩ | ⟨hc8, hf⟩
  · exact ax_ret (P := fun q : Int32 × sx_M => sx_eq (xS_X12_apart) s q.2) hf (sx_tr (sx_rf _ s) (sx_mono (D1 := xS_X12_isRank) (fr_f_X12_isRank (p := p1) x1 s hp1) (fun o k h => h.elim) (fun o k h => h.elim) (fun o h => h.elim) (fun o h => h.elim)))
  · obtain ⟨p2, hp2, hf⟩ := ax_bind hf
    rcases ax_or hf with ⟨hc7, hf⟩ | ⟨hc7, hf⟩
    · exact ax_ret (P := fun q : Int32 × sx_M => sx_eq (xS_X12_apart) s q.2) hf (sx_tr (sx_tr (sx_rf _ s) (sx_mono (D1 := xS_X12_isRank) (fr_f_X12_isRank (p := p1) x1 s hp1) (fun o k h => h.elim) (fun o k h => h.elim) (fun o h => h.elim) (fun o h => h.elim))) (sx_mono (D1 := xS_X12_isRank) (fr_f_X12_isRank (p := p2) x2 p1.2 hp2) (fun o k h => h.elim) (fun o k h => h.elim) (fun o h => h.elim) (fun o h => h.elim)))
    · obtain ⟨p3, hp3, hf⟩ := ax_bind hf
      obtain ⟨p4, hp4, hf⟩ := ax_bind hf
      rcases ax_or hf with ⟨hc6, hf⟩ | ⟨hc6, hf⟩
      · exact ax_ret (P := fun q : Int32 × sx_M => sx_eq (xS_X12_apart) s q.2) hf (sx_tr (sx_tr (sx_tr (sx_tr (sx_rf _ s) (sx_mono (D1 := xS_X12_isRank) (fr_f_X12_isRank (p := p1) x1 s hp1) (fun o k h => h.elim) (fun o k h => h.elim) (fun o h => h.elim) (fun o h => h.elim))) (sx_mono (D1 := xS_X12_isRank) (fr_f_X12_isRank (p := p2) x2 p1.2 hp2) (fun o k h => h.elim) (fun o k h => h.elim) (fun o h => h.elim) (fun o h => h.elim))) (sx_mono (D1 := xS_X12_laysFirst) (fr_f_X12_laysFirst (p := p3) p2.2 hp3) (fun o k h => Or.elim h (fun q => (fun q => Or.inl q) q) (fun q0 => (fun q => Or.inr (q)) q0)) (fun o k h => h.elim) (fun o h => Or.elim h (fun q => (fun q => Or.inl q) q) (fun q0 => Or.elim q0 (fun q => (fun q => Or.inr (Or.inl q)) q) (fun q1 => Or.elim q1 (fun q => (fun q => Or.inr (Or.inr (Or.inl q))) q) (fun q2 => (fun q => Or.inr (Or.inr (Or.inr (q)))) q2)))) (fun o h => h.elim))) (sx_mono (D1 := xS_X12_isThere) (fr_f_X12_isThere (p := p4) x1 p3 hp4) (fun o k h => h.elim) (fun o k h => h.elim) (fun o h => h.elim) (fun o h => h.elim)))
      · obtain ⟨p5, hp5, hf⟩ := ax_bind hf
        rcases ax_or hf with ⟨hc5, hf⟩ | ⟨hc5, hf⟩
        · exact ax_ret (P := fun q : Int32 × sx_M => sx_eq (xS_X12_apart) s q.2) hf (sx_tr (sx_tr (sx_tr (sx_tr (sx_tr (sx_rf _ s) (sx_mono (D1 := xS_X12_isRank) (fr_f_X12_isRank (p := p1) x1 s hp1) (fun o k h => h.elim) (fun o k h => h.elim) (fun o h => h.elim) (fun o h => h.elim))) (sx_mono (D1 := xS_X12_isRank) (fr_f_X12_isRank (p := p2) x2 p1.2 hp2) (fun o k h => h.elim) (fun o k h => h.elim) (fun o h => h.elim) (fun o h => h.elim))) (sx_mono (D1 := xS_X12_laysFirst) (fr_f_X12_laysFirst (p := p3) p2.2 hp3) (fun o k h => Or.elim h (fun q => (fun q => Or.inl q) q) (fun q0 => (fun q => Or.inr (q)) q0)) (fun o k h => h.elim) (fun o h => Or.elim h (fun q => (fun q => Or.inl q) q) (fun q0 => Or.elim q0 (fun q => (fun q => Or.inr (Or.inl q)) q) (fun q1 => Or.elim q1 (fun q => (fun q => Or.inr (Or.inr (Or.inl q))) q) (fun q2 => (fun q => Or.inr (Or.inr (Or.inr (q)))) q2)))) (fun o h => h.elim))) (sx_mono (D1 := xS_X12_isThere) (fr_f_X12_isThere (p := p4) x1 p3 hp4) (fun o k h => h.elim) (fun o k h => h.elim) (fun o h => h.elim) (fun o h => h.elim))) (sx_mono (D1 := xS_X12_isThere) (fr_f_X12_isThere (p := p5) x2 p4.2 hp5) (fun o k h => h.elim) (fun o k h => h.elim) (fun o h => h.elim) (fun o h => h.elim)))
        · obtain ⟨b9, hb9, hf⟩ := ax_bind hf
          have hvb9 := wh_inv ((0 : Int32), (0 : Int32), p5.2) (fun a44 : Int32 × Int32 × sx_M => sx_eq (xS_X12_apart) s a44.2.2) (fun e : Int32 × sx_M => sx_eq (xS_X12_apart) s e.2) hb9 ?_ (sx_tr (sx_tr (sx_tr (sx_tr (sx_tr (sx_rf _ s) (sx_mono (D1 := xS_X12_isRank) (fr_f_X12_isRank (p := p1) x1 s hp1) (fun o k h => h.elim) (fun o k h => h.elim) (fun o h => h.elim) (fun o h => h.elim))) (sx_mono (D1 := xS_X12_isRank) (fr_f_X12_isRank (p := p2) x2 p1.2 hp2) (fun o k h => h.elim) (fun o k h => h.elim) (fun o h => h.elim) (fun o h => h.elim))) (sx_mono (D1 := xS_X12_laysFirst) (fr_f_X12_laysFirst (p := p3) p2.2 hp3) (fun o k h => Or.elim h (fun q => (fun q => Or.inl q) q) (fun q0 => (fun q => Or.inr (q)) q0)) (fun o k h => h.elim) (fun o h => Or.elim h (fun q => (fun q => Or.inl q) q) (fun q0 => Or.elim q0 (fun q => (fun q => Or.inr (Or.inl q)) q) (fun q1 => Or.elim q1 (fun q => (fun q => Or.inr (Or.inr (Or.inl q))) q) (fun q2 => (fun q => Or.inr (Or.inr (Or.inr (q)))) q2)))) (fun o h => h.elim))) (sx_mono (D1 := xS_X12_isThere) (fr_f_X12_isThere (p := p4) x1 p3 hp4) (fun o k h => h.elim) (fun o k h => h.elim) (fun o h => h.elim) (fun o h => h.elim))) (sx_mono (D1 := xS_X12_isThere) (fr_f_X12_isThere (p := p5) x2 p4.2 hp5) (fun o k h => h.elim) (fun o k h => h.elim) (fun o h => h.elim) (fun o h => h.elim)))
          rotate_left
          · intro a44 r ha44 hf
            unfold f_X12_apart_L44 at hf
            have J86 : ∀ (y4_86 : Int32) (t0_86 : Int32) (t1_86 : Int32) (s_86 : sx_M), sx_eq (xS_X12_apart) s s_86 → f_X12_apart_L44_J86 x1 x2 y4_86 t0_86 t1_86 s_86 = some r → Sum.elim (fun a44 : Int32 × Int32 × sx_M => sx_eq (xS_X12_apart) s a44.2.2) (fun e : Int32 × sx_M => sx_eq (xS_X12_apart) s e.2) r := by
              intro y4_86 t0_86 t1_86 s_86 hs_86 hf
              unfold f_X12_apart_L44_J86 at hf
              exact ax_ret (P := Sum.elim (fun a44 : Int32 × Int32 × sx_M => sx_eq (xS_X12_apart) s a44.2.2) (fun e : Int32 × sx_M => sx_eq (xS_X12_apart) s e.2)) hf hs_86
            obtain ⟨p6, hp6, hf⟩ := ax_bind hf
            rcases ax_or hf with ⟨hc4, hf⟩ | ⟨hc4, hf⟩
            · exact ax_ret (P := Sum.elim (fun a44 : Int32 × Int32 × sx_M => sx_eq (xS_X12_apart) s a44.2.2) (fun e : Int32 × sx_M => sx_eq (xS_X12_apart) s e.2)) hf (sx_tr ha44 (sx_mono (D1 := xS_X12_workers) (fr_f_X12_workers (p := p6) a44.2.2 hp6) (fun o k h => h.elim) (fun o k h => h.elim) (fun o h => h.elim) (fun o h => h.elim)))
            · obtain ⟨_, hf⟩ := ax_ite hf
              obtain ⟨p7, hp7, hf⟩ := ax_bind hf
              obtain ⟨_, hf⟩ := ax_ite hf
              obtain ⟨p8, hp8, hf⟩ := ax_bind hf
              rcases ax_or hf with ⟨hc3, hf⟩ | ⟨hc3, hf⟩
              · exact J86 a44.2.1 a44.1 (0 : Int32) p8.2 (sx_tr (sx_tr (sx_tr ha44 (sx_mono (D1 := xS_X12_workers) (fr_f_X12_workers (p := p6) a44.2.2 hp6) (fun o k h => h.elim) (fun o k h => h.elim) (fun o h => h.elim) (fun o h => h.elim))) (sx_mono (D1 := xS_X12_jobOf) (fr_f_X12_jobOf (p := p7) (rA p6.2 66 (x1).toNatClampNeg) a44.2.1 p6.2 hp7) (fun o k h => h.elim) (fun o k h => h.elim) (fun o h => h.elim) (fun o h => h.elim))) (sx_mono (D1 := xS_X12_jobOf) (fr_f_X12_jobOf (p := p8) (rA p7.2 66 (x2).toNatClampNeg) a44.2.1 p7.2 hp8) (fun o k h => h.elim) (fun o k h => h.elim) (fun o h => h.elim) (fun o h => h.elim))) hf
              · exact J86 a44.2.1 a44.1 (1 : Int32) p8.2 (sx_tr (sx_tr (sx_tr ha44 (sx_mono (D1 := xS_X12_workers) (fr_f_X12_workers (p := p6) a44.2.2 hp6) (fun o k h => h.elim) (fun o k h => h.elim) (fun o h => h.elim) (fun o h => h.elim))) (sx_mono (D1 := xS_X12_jobOf) (fr_f_X12_jobOf (p := p7) (rA p6.2 66 (x1).toNatClampNeg) a44.2.1 p6.2 hp7) (fun o k h => h.elim) (fun o k h => h.elim) (fun o h => h.elim) (fun o h => h.elim))) (sx_mono (D1 := xS_X12_jobOf) (fr_f_X12_jobOf (p := p8) (rA p7.2 66 (x2).toNatClampNeg) a44.2.1 p7.2 hp8) (fun o k h => h.elim) (fun o k h => h.elim) (fun o h => h.elim) (fun o h => h.elim))) hf
          exact ax_ret (P := fun q : Int32 × sx_M => sx_eq (xS_X12_apart) s q.2) hf hvb9
abbrev xI_X12_whoHad : Nat → Nat → Prop := fun o k => False
abbrev xJ_X12_whoHad : Nat → Nat → Prop := fun o k => False
abbrev xA_X12_whoHad : Nat → Prop := fun o => False
abbrev xB_X12_whoHad : Nat → Prop := fun o => False
abbrev xS_X12_whoHad : sx_D := (xI_X12_whoHad, xJ_X12_whoHad, xA_X12_whoHad, xB_X12_whoHad)
set_option maxRecDepth 100000 in
set_option maxHeartbeats 1000000 in
theorem fr_f_X12_whoHad (x1 : Int32) (x2 : Int32) (s : sx_M) {p : Int32 × sx_M} (hf : f_X12_whoHad x1 x2 s = some p) : sx_eq (xS_X12_whoHad) s p.2 := by
  unfold f_X12_whoHad at hf
  obtain ⟨b3, hb3, hf⟩ := ax_bind hf
  have hvb3 := wh_inv ((0 : Int32), s) (fun a2 : Int32 × sx_M => sx_eq (xS_X12_whoHad) s a2.2) (Sum.elim (fun e : sx_M => sx_eq (xS_X12_whoHad) s e) (fun v : Int32 × sx_M => sx_eq (xS_X12_whoHad) s v.2)) hb3 ?_ (sx_rf _ s)
  rotate_left
  · intro a2 r ha2 hf
    unfold f_X12_whoHad_L2 at hf
    obtain ⟨p1, hp1, hf⟩ := ax_bind hf
    rcases ax_or hf with ⟨hc2, hf⟩ | ⟨hc2, hf⟩
    · exact ax_ret (P := Sum.elim (fun a2 : Int32 × sx_M => sx_eq (xS_X12_whoHad) s a2.2) (Sum.elim (fun e : sx_M => sx_eq (xS_X12_whoHad) s e) (fun v : Int32 × sx_M => sx_eq (xS_X12_whoHad) s v.2))) hf (sx_tr ha2 (sx_mono (D1 := xS_X12_workers) (fr_f_X12_workers (p := p1) a2.2 hp1) (fun o k h => h.elim) (fun o k h => h.elim) (fun o h => h.elim) (fun o h => h.elim)))
    · obtain ⟨p2, hp2, hf⟩ := ax_bind hf
      rcases ax_or hf with ⟨hc1, hf⟩ | ⟨hc1, hf⟩
      · exact ax_ret (P := Sum.elim (fun a2 : Int32 × sx_M => sx_eq (xS_X12_whoHad) s a2.2) (Sum.elim (fun e : sx_M => sx_eq (xS_X12_whoHad) s e) (fun v : Int32 × sx_M => sx_eq (xS_X12_whoHad) s v.2))) hf (sx_tr (sx_tr ha2 (sx_mono (D1 := xS_X12_workers) (fr_f_X12_workers (p := p1) a2.2 hp1) (fun o k h => h.elim) (fun o k h => h.elim) (fun o h => h.elim) (fun o h => h.elim))) (sx_mono (D1 := xS_X12_jobOf) (fr_f_X12_jobOf (p := p2) x1 a2.1 p1.2 hp2) (fun o k h => h.elim) (fun o k h => h.elim) (fun o h => h.elim) (fun o h => h.elim)))
      · exact ax_ret (P := Sum.elim (fun a2 : Int32 × sx_M => sx_eq (xS_X12_whoHad) s a2.2) (Sum.elim (fun e : sx_M => sx_eq (xS_X12_whoHad) s e) (fun v : Int32 × sx_M => sx_eq (xS_X12_whoHad) s v.2))) hf (sx_tr (sx_tr ha2 (sx_mono (D1 := xS_X12_workers) (fr_f_X12_workers (p := p1) a2.2 hp1) (fun o k h => h.elim) (fun o k h => h.elim) (fun o h => h.elim) (fun o h => h.elim))) (sx_mono (D1 := xS_X12_jobOf) (fr_f_X12_jobOf (p := p2) x1 a2.1 p1.2 hp2) (fun o k h => h.elim) (fun o k h => h.elim) (fun o h => h.elim) (fun o h => h.elim)))
  rcases b3 with e4 | e5
  · exact ax_ret (P := fun q : Int32 × sx_M => sx_eq (xS_X12_whoHad) s q.2) hf hvb3
  · exact ax_ret (P := fun q : Int32 × sx_M => sx_eq (xS_X12_whoHad) s q.2) hf hvb3
abbrev xI_X12_laysRounds : Nat → Nat → Prop := fun o k => (o = 58 ∧ k = 27) ∨ (o = 58 ∧ k = 28) ∨ (o = 58 ∧ k = 29) ∨ (o = 58 ∧ k = 30) ∨ (o = 58 ∧ k = 31)
abbrev xJ_X12_laysRounds : Nat → Nat → Prop := fun o k => False
abbrev xA_X12_laysRounds : Nat → Prop := fun o => False
abbrev xB_X12_laysRounds : Nat → Prop := fun o => False
abbrev xS_X12_laysRounds : sx_D := (xI_X12_laysRounds, xJ_X12_laysRounds, xA_X12_laysRounds, xB_X12_laysRounds)
set_option maxRecDepth 100000 in
set_option maxHeartbeats 1000000 in
theorem fr_f_X12_laysRounds (x1 : Int32) (x2 : Int32) (s : sx_M) {p : sx_M} (hf : f_X12_laysRounds x1 x2 s = some p) : sx_eq (xS_X12_laysRounds) s p := by
  unfold f_X12_laysRounds at hf
  obtain ⟨b13, hb13, hf⟩ := ax_bind hf
  have hvb13 := wh_inv ((0 : Int32), (wI (wI (wI (wI (wI s 58 27 (0 : Int32)) 58 28 (0 : Int32)) 58 29 (0 : Int32)) 58 30 (0 : Int32)) 58 31 (0 : Int32))) (fun a27 : Int32 × sx_M => sx_eq (xS_X12_laysRounds) s a27.2) (fun e : sx_M => sx_eq (xS_X12_laysRounds) s e) hb13 ?_ (sx_wI' (D := (xS_X12_laysRounds)) (sx_wI' (D := (xS_X12_laysRounds)) (sx_wI' (D := (xS_X12_laysRounds)) (sx_wI' (D := (xS_X12_laysRounds)) (sx_wI' (D := (xS_X12_laysRounds)) (sx_rf _ s) ((fun q => Or.inl q) ⟨rfl, rfl⟩)) ((fun q => Or.inr (Or.inl q)) ⟨rfl, rfl⟩)) ((fun q => Or.inr (Or.inr (Or.inl q))) ⟨rfl, rfl⟩)) ((fun q => Or.inr (Or.inr (Or.inr (Or.inl q)))) ⟨rfl, rfl⟩)) ((fun q => Or.inr (Or.inr (Or.inr (Or.inr (q))))) ⟨rfl, rfl⟩))
  rotate_left
  · intro a27 r ha27 hf
    unfold f_X12_laysRounds_L27 at hf
    rcases ax_or hf with ⟨hc13, hf⟩ | ⟨hc13, hf⟩
    · exact ax_ret (P := Sum.elim (fun a27 : Int32 × sx_M => sx_eq (xS_X12_laysRounds) s a27.2) (fun e : sx_M => sx_eq (xS_X12_laysRounds) s e)) hf ha27
    · obtain ⟨b12, hb12, hf⟩ := ax_bind hf
      have hvb12 := wh_inv ((0 : Int32), a27.2) (fun a35 : Int32 × sx_M => sx_eq (xS_X12_laysRounds) s a35.2) (fun e : sx_M => sx_eq (xS_X12_laysRounds) s e) hb12 ?_ ha27
      rotate_left
      · intro a35 r ha35 hf
        unfold f_X12_laysRounds_L35 at hf
        have J233 : ∀ (y4_233 : Int32) (y7_233 : Int32) (t1_233 : Int32) (t2_233 : Int32) (s_233 : sx_M), sx_eq (xS_X12_laysRounds) s s_233 → f_X12_laysRounds_L35_J233 x1 x2 x1 x2 a27.1 y4_233 y7_233 t1_233 t2_233 s_233 = some r → Sum.elim (fun a35 : Int32 × sx_M => sx_eq (xS_X12_laysRounds) s a35.2) (fun e : sx_M => sx_eq (xS_X12_laysRounds) s e) r := by
          intro y4_233 y7_233 t1_233 t2_233 s_233 hs_233 hf
          unfold f_X12_laysRounds_L35_J233 at hf
          obtain ⟨p1, hp1, hf⟩ := ax_bind hf
          exact ax_ret (P := Sum.elim (fun a35 : Int32 × sx_M => sx_eq (xS_X12_laysRounds) s a35.2) (fun e : sx_M => sx_eq (xS_X12_laysRounds) s e)) hf (sx_wI' (D := (xS_X12_laysRounds)) (sx_tr (sx_wI' (D := (xS_X12_laysRounds)) hs_233 ((fun q => Or.inr (Or.inr (Or.inr (Or.inl q)))) ⟨rfl, rfl⟩)) (sx_mono (D1 := xS_J9_max_7cf53) (fr_f_J9_max_7cf53 (p := p1) (rI (wI s_233 58 30 (t1_233 + t2_233)) 58 29) y7_233 (wI s_233 58 30 (t1_233 + t2_233)) hp1) (fun o k h => h.elim) (fun o k h => h.elim) (fun o h => h.elim) (fun o h => h.elim))) ((fun q => Or.inr (Or.inr (Or.inl q))) ⟨rfl, rfl⟩))
        have J211 : ∀ (y4_211 : Int32) (y7_211 : Int32) (t1_211 : Int32) (t2_211 : Int32) (s_211 : sx_M), sx_eq (xS_X12_laysRounds) s s_211 → f_X12_laysRounds_L35_J211 x1 x2 x1 x2 a27.1 y4_211 y7_211 t1_211 t2_211 s_211 = some r → Sum.elim (fun a35 : Int32 × sx_M => sx_eq (xS_X12_laysRounds) s a35.2) (fun e : sx_M => sx_eq (xS_X12_laysRounds) s e) r := by
          intro y4_211 y7_211 t1_211 t2_211 s_211 hs_211 hf
          unfold f_X12_laysRounds_L35_J211 at hf
          rcases ax_or hf with ⟨hc1, hf⟩ | ⟨hc1, hf⟩
          · exact J233 y4_211 y7_211 (rI (wI s_211 58 27 (t1_211 + t2_211)) 58 30) y7_211 (wI s_211 58 27 (t1_211 + t2_211)) (sx_wI' (D := (xS_X12_laysRounds)) hs_211 ((fun q => Or.inl q) ⟨rfl, rfl⟩)) hf
          · exact J233 y4_211 y7_211 (rI (wI s_211 58 27 (t1_211 + t2_211)) 58 30) (y7_211 - (1 : Int32)) (wI s_211 58 27 (t1_211 + t2_211)) (sx_wI' (D := (xS_X12_laysRounds)) hs_211 ((fun q => Or.inl q) ⟨rfl, rfl⟩)) hf
        have J193 : ∀ (y4_193 : Int32) (y7_193 : Int32) (t1_193 : Int32) (t2_193 : Int32) (s_193 : sx_M), sx_eq (xS_X12_laysRounds) s s_193 → f_X12_laysRounds_L35_J193 x1 x2 x1 x2 a27.1 y4_193 y7_193 t1_193 t2_193 s_193 = some r → Sum.elim (fun a35 : Int32 × sx_M => sx_eq (xS_X12_laysRounds) s a35.2) (fun e : sx_M => sx_eq (xS_X12_laysRounds) s e) r := by
          intro y4_193 y7_193 t1_193 t2_193 s_193 hs_193 hf
          unfold f_X12_laysRounds_L35_J193 at hf
          rcases ax_or hf with ⟨hc2, hf⟩ | ⟨hc2, hf⟩
          · exact J211 y4_193 y7_193 (rI (wI s_193 58 28 (t1_193 + t2_193)) 58 27) (0 : Int32) (wI s_193 58 28 (t1_193 + t2_193)) (sx_wI' (D := (xS_X12_laysRounds)) hs_193 ((fun q => Or.inr (Or.inl q)) ⟨rfl, rfl⟩)) hf
          · exact J211 y4_193 y7_193 (rI (wI s_193 58 28 (t1_193 + t2_193)) 58 27) (1 : Int32) (wI s_193 58 28 (t1_193 + t2_193)) (sx_wI' (D := (xS_X12_laysRounds)) hs_193 ((fun q => Or.inr (Or.inl q)) ⟨rfl, rfl⟩)) hf
        have J94 : ∀ (y4_94 : Int32) (y5_94 : Int32) (t0_94 : Int32) (s_94 : sx_M), sx_eq (xS_X12_laysRounds) s s_94 → f_X12_laysRounds_L35_J94 x1 x2 x1 x2 a27.1 y4_94 y5_94 t0_94 s_94 = some r → Sum.elim (fun a35 : Int32 × sx_M => sx_eq (xS_X12_laysRounds) s a35.2) (fun e : sx_M => sx_eq (xS_X12_laysRounds) s e) r := by
          intro y4_94 y5_94 t0_94 s_94 hs_94 hf
          unfold f_X12_laysRounds_L35_J94 at hf
          rcases ax_or hf with ⟨hc8, hf⟩ | ⟨hc8, hf⟩
          · rcases ax_or hf with ⟨hc7, hf⟩ | ⟨hc7, hf⟩
            · exact ax_ret (P := Sum.elim (fun a35 : Int32 × sx_M => sx_eq (xS_X12_laysRounds) s a35.2) (fun e : sx_M => sx_eq (xS_X12_laysRounds) s e)) hf hs_94
            · obtain ⟨p2, hp2, hf⟩ := ax_bind hf
              rcases ax_or hf with ⟨hc6, hf⟩ | ⟨hc6, hf⟩
              · obtain ⟨b6, hb6, hf⟩ := ax_bind hf
                have hvb6 := wh_inv ((0 : Int32), y4_94, p2.2) (fun a128 : Int32 × Int32 × sx_M => sx_eq (xS_X12_laysRounds) s a128.2.2) (fun e : Int32 × sx_M => sx_eq (xS_X12_laysRounds) s e.2) hb6 ?_ (sx_tr hs_94 (sx_mono (D1 := xS_X12_has) (fr_f_X12_has (p := p2) (rI s_94 58 31) y4_94 s_94 hp2) (fun o k h => h.elim) (fun o k h => h.elim) (fun o h => h.elim) (fun o h => h.elim)))
                rotate_left
                · intro a128 r ha128 hf
                  unfold f_X12_laysRounds_L128 at hf
                  rcases ax_or hf with ⟨hc4, hf⟩ | ⟨hc4, hf⟩
                  · exact ax_ret (P := Sum.elim (fun a128 : Int32 × Int32 × sx_M => sx_eq (xS_X12_laysRounds) s a128.2.2) (fun e : Int32 × sx_M => sx_eq (xS_X12_laysRounds) s e.2)) hf ha128
                  · obtain ⟨p3, hp3, hf⟩ := ax_bind hf
                    rcases ax_or hf with ⟨hc3, hf⟩ | ⟨hc3, hf⟩
                    · obtain ⟨p4, hp4, hf⟩ := ax_bind hf
                      obtain ⟨p5, hp5, hf⟩ := ax_bind hf
                      exact ax_ret (P := Sum.elim (fun a128 : Int32 × Int32 × sx_M => sx_eq (xS_X12_laysRounds) s a128.2.2) (fun e : Int32 × sx_M => sx_eq (xS_X12_laysRounds) s e.2)) hf (sx_tr (sx_tr (sx_wI' (D := (xS_X12_laysRounds)) (sx_tr ha128 (sx_mono (D1 := xS_X12_has) (fr_f_X12_has (p := p3) (rI a128.2.2 58 31) a128.2.1 a128.2.2 hp3) (fun o k h => h.elim) (fun o k h => h.elim) (fun o h => h.elim) (fun o h => h.elim))) ((fun q => Or.inr (Or.inr (Or.inr (Or.inr (q))))) ⟨rfl, rfl⟩)) (sx_mono (D1 := xS_X12_jobOf) (fr_f_X12_jobOf (p := p4) x2 a128.2.1 (wI p3.2 58 31 ((rI p3.2 58 31) ||| ((1 : Int32) <<< (a128.2.1 &&& 31)))) hp4) (fun o k h => h.elim) (fun o k h => h.elim) (fun o h => h.elim) (fun o h => h.elim))) (sx_mono (D1 := xS_X12_whoHad) (fr_f_X12_whoHad (p := p5) x1 p4.1 p4.2 hp5) (fun o k h => h.elim) (fun o k h => h.elim) (fun o h => h.elim) (fun o h => h.elim)))
                    · exact ax_ret (P := Sum.elim (fun a128 : Int32 × Int32 × sx_M => sx_eq (xS_X12_laysRounds) s a128.2.2) (fun e : Int32 × sx_M => sx_eq (xS_X12_laysRounds) s e.2)) hf (sx_tr ha128 (sx_mono (D1 := xS_X12_has) (fr_f_X12_has (p := p3) (rI a128.2.2 58 31) a128.2.1 a128.2.2 hp3) (fun o k h => h.elim) (fun o k h => h.elim) (fun o h => h.elim) (fun o h => h.elim)))
                rcases ax_or hf with ⟨hc5, hf⟩ | ⟨hc5, hf⟩
                · exact J193 y4_94 b6.1 (rI b6.2 58 28) (1 : Int32) b6.2 hvb6 hf
                · exact J193 y4_94 b6.1 (rI b6.2 58 28) (0 : Int32) b6.2 hvb6 hf
              · exact ax_ret (P := Sum.elim (fun a35 : Int32 × sx_M => sx_eq (xS_X12_laysRounds) s a35.2) (fun e : sx_M => sx_eq (xS_X12_laysRounds) s e)) hf (sx_tr hs_94 (sx_mono (D1 := xS_X12_has) (fr_f_X12_has (p := p2) (rI s_94 58 31) y4_94 s_94 hp2) (fun o k h => h.elim) (fun o k h => h.elim) (fun o h => h.elim) (fun o h => h.elim)))
          · exact ax_ret (P := Sum.elim (fun a35 : Int32 × sx_M => sx_eq (xS_X12_laysRounds) s a35.2) (fun e : sx_M => sx_eq (xS_X12_laysRounds) s e)) hf hs_94
        have J66 : ∀ (y4_66 : Int32) (t0_66 : Int32) (s_66 : sx_M), sx_eq (xS_X12_laysRounds) s s_66 → f_X12_laysRounds_L35_J66 x1 x2 x1 x2 a27.1 y4_66 t0_66 s_66 = some r → Sum.elim (fun a35 : Int32 × sx_M => sx_eq (xS_X12_laysRounds) s a35.2) (fun e : sx_M => sx_eq (xS_X12_laysRounds) s e) r := by
          intro y4_66 t0_66 s_66 hs_66 hf
          unfold f_X12_laysRounds_L35_J66 at hf
          rcases ax_or hf with ⟨hc10, hf⟩ | ⟨hc10, hf⟩
          · exact J94 y4_66 t0_66 (1 : Int32) s_66 hs_66 hf
          · obtain ⟨p7, hp7, hf⟩ := ax_bind hf
            obtain ⟨p8, hp8, hf⟩ := ax_bind hf
            rcases ax_or hf with ⟨hc9, hf⟩ | ⟨hc9, hf⟩
            · exact J94 y4_66 t0_66 (1 : Int32) p8.2 (sx_tr (sx_tr hs_66 (sx_mono (D1 := xS_X12_jobOf) (fr_f_X12_jobOf (p := p7) x1 y4_66 s_66 hp7) (fun o k h => h.elim) (fun o k h => h.elim) (fun o h => h.elim) (fun o h => h.elim))) (sx_mono (D1 := xS_X12_whoHad) (fr_f_X12_whoHad (p := p8) x2 p7.1 p7.2 hp8) (fun o k h => h.elim) (fun o k h => h.elim) (fun o h => h.elim) (fun o h => h.elim))) hf
            · exact J94 y4_66 t0_66 (0 : Int32) p8.2 (sx_tr (sx_tr hs_66 (sx_mono (D1 := xS_X12_jobOf) (fr_f_X12_jobOf (p := p7) x1 y4_66 s_66 hp7) (fun o k h => h.elim) (fun o k h => h.elim) (fun o h => h.elim) (fun o h => h.elim))) (sx_mono (D1 := xS_X12_whoHad) (fr_f_X12_whoHad (p := p8) x2 p7.1 p7.2 hp8) (fun o k h => h.elim) (fun o k h => h.elim) (fun o h => h.elim) (fun o h => h.elim))) hf
        obtain ⟨p9, hp9, hf⟩ := ax_bind hf
        rcases ax_or hf with ⟨hc12, hf⟩ | ⟨hc12, hf⟩
        · exact ax_ret (P := Sum.elim (fun a35 : Int32 × sx_M => sx_eq (xS_X12_laysRounds) s a35.2) (fun e : sx_M => sx_eq (xS_X12_laysRounds) s e)) hf (sx_tr ha35 (sx_mono (D1 := xS_X12_workers) (fr_f_X12_workers (p := p9) a35.2 hp9) (fun o k h => h.elim) (fun o k h => h.elim) (fun o h => h.elim) (fun o h => h.elim)))
        · obtain ⟨p10, hp10, hf⟩ := ax_bind hf
          obtain ⟨p11, hp11, hf⟩ := ax_bind hf
          rcases ax_or hf with ⟨hc11, hf⟩ | ⟨hc11, hf⟩
          · exact J66 a35.1 (1 : Int32) p11.2 (sx_tr (sx_tr (sx_tr ha35 (sx_mono (D1 := xS_X12_workers) (fr_f_X12_workers (p := p9) a35.2 hp9) (fun o k h => h.elim) (fun o k h => h.elim) (fun o h => h.elim) (fun o h => h.elim))) (sx_mono (D1 := xS_X12_jobOf) (fr_f_X12_jobOf (p := p10) x1 a35.1 p9.2 hp10) (fun o k h => h.elim) (fun o k h => h.elim) (fun o h => h.elim) (fun o h => h.elim))) (sx_mono (D1 := xS_X12_jobOf) (fr_f_X12_jobOf (p := p11) x2 a35.1 p10.2 hp11) (fun o k h => h.elim) (fun o k h => h.elim) (fun o h => h.elim) (fun o h => h.elim))) hf
          · exact J66 a35.1 (0 : Int32) p11.2 (sx_tr (sx_tr (sx_tr ha35 (sx_mono (D1 := xS_X12_workers) (fr_f_X12_workers (p := p9) a35.2 hp9) (fun o k h => h.elim) (fun o k h => h.elim) (fun o h => h.elim) (fun o h => h.elim))) (sx_mono (D1 := xS_X12_jobOf) (fr_f_X12_jobOf (p := p10) x1 a35.1 p9.2 hp10) (fun o k h => h.elim) (fun o k h => h.elim) (fun o h => h.elim) (fun o h => h.elim))) (sx_mono (D1 := xS_X12_jobOf) (fr_f_X12_jobOf (p := p11) x2 a35.1 p10.2 hp11) (fun o k h => h.elim) (fun o k h => h.elim) (fun o h => h.elim) (fun o h => h.elim))) hf
      exact ax_ret (P := Sum.elim (fun a27 : Int32 × sx_M => sx_eq (xS_X12_laysRounds) s a27.2) (fun e : sx_M => sx_eq (xS_X12_laysRounds) s e)) hf hvb12
  exact ax_ret (P := fun q : sx_M => sx_eq (xS_X12_laysRounds) s q) hf hvb13
abbrev xI_X12_rounds : Nat → Nat → Prop := fun o k => (o = 58 ∧ k = 15) ∨ (o = 58 ∧ k = 18) ∨ (o = 58 ∧ k = 27) ∨ (o = 58 ∧ k = 28) ∨ (o = 58 ∧ k = 29) ∨ (o = 58 ∧ k = 30) ∨ (o = 58 ∧ k = 31)
abbrev xJ_X12_rounds : Nat → Nat → Prop := fun o k => False
abbrev xA_X12_rounds : Nat → Prop := fun o => o = 63 ∨ o = 64 ∨ o = 65 ∨ o = 66
abbrev xB_X12_rounds : Nat → Prop := fun o => False
abbrev xS_X12_rounds : sx_D := (xI_X12_rounds, xJ_X12_rounds, xA_X12_rounds, xB_X12_rounds)
set_option maxRecDepth 100000 in
set_option maxHeartbeats 1000000 in
theorem fr_f_X12_rounds (x1 : Int32) (x2 : Int32) (x3 : Int32) (s : sx_M) {p : Int32 × sx_M} (hf : f_X12_rounds x1 x2 x3 s = some p) : sx_eq (xS_X12_rounds) s p.2 := by
  unfold f_X12_rounds at hf
  obtain ⟨p1, hp1, hf⟩ := ax_bind hf
  rcases ax_or hf with ⟨hc10, hf⟩ | ⟨hc10, hf⟩
  · exact ax_ret (P := fun q : Int32 × sx_M => sx_eq (xS_X12_rounds) s q.2) hf (sx_tr (sx_rf _ s) (sx_mono (D1 := xS_X12_isRank) (fr_f_X12_isRank (p := p1) x1 s hp1) (fun o k h => h.elim) (fun o k h => h.elim) (fun o h => h.elim) (fun o h => h.elim)))
  · obtain ⟨p2, hp2, hf⟩ := ax_bind hf
    rcases ax_or hf with ⟨hc9, hf⟩ | ⟨hc9, hf⟩
    · exact ax_ret (P := fun q : Int32 × sx_M => sx_eq (xS_X12_rounds) s q.2) hf (sx_tr (sx_tr (sx_rf _ s) (sx_mono (D1 := xS_X12_isRank) (fr_f_X12_isRank (p := p1) x1 s hp1) (fun o k h => h.elim) (fun o k h => h.elim) (fun o h => h.elim) (fun o h => h.elim))) (sx_mono (D1 := xS_X12_isRank) (fr_f_X12_isRank (p := p2) x2 p1.2 hp2) (fun o k h => h.elim) (fun o k h => h.elim) (fun o h => h.elim) (fun o h => h.elim)))
    · obtain ⟨p3, hp3, hf⟩ := ax_bind hf
      rcases ax_or hf with ⟨hc8, hf⟩ | ⟨hc8, hf⟩
      · exact ax_ret (P := fun q : Int32 × sx_M => sx_eq (xS_X12_rounds) s q.2) hf (sx_tr (sx_tr (sx_tr (sx_rf _ s) (sx_mono (D1 := xS_X12_isRank) (fr_f_X12_isRank (p := p1) x1 s hp1) (fun o k h => h.elim) (fun o k h => h.elim) (fun o h => h.elim) (fun o h => h.elim))) (sx_mono (D1 := xS_X12_isRank) (fr_f_X12_isRank (p := p2) x2 p1.2 hp2) (fun o k h => h.elim) (fun o k h => h.elim) (fun o h => h.elim) (fun o h => h.elim))) (sx_mono (D1 := xS_X12_in) (fr_f_X12_in (p := p3) ((x3).toInt64) (0 : Int64) (3 : Int64) p2.2 hp3) (fun o k h => h.elim) (fun o k h => h.elim) (fun o h => h.elim) (fun o h => h.elim)))
      · obtain ⟨p4, hp4, hf⟩ := ax_bind hf
        obtain ⟨p5, hp5, hf⟩ := ax_bind hf
        rcases ax_or hf with ⟨hc7, hf⟩ | ⟨hc7, hf⟩
        · exact ax_ret (P := fun q : Int32 × sx_M => sx_eq (xS_X12_rounds) s q.2) hf (sx_tr (sx_tr (sx_tr (sx_tr (sx_tr (sx_rf _ s) (sx_mono (D1 := xS_X12_isRank) (fr_f_X12_isRank (p := p1) x1 s hp1) (fun o k h => h.elim) (fun o k h => h.elim) (fun o h => h.elim) (fun o h => h.elim))) (sx_mono (D1 := xS_X12_isRank) (fr_f_X12_isRank (p := p2) x2 p1.2 hp2) (fun o k h => h.elim) (fun o k h => h.elim) (fun o h => h.elim) (fun o h => h.elim))) (sx_mono (D1 := xS_X12_in) (fr_f_X12_in (p := p3) ((x3).toInt64) (0 : Int64) (3 : Int64) p2.2 hp3) (fun o k h => h.elim) (fun o k h => h.elim) (fun o h => h.elim) (fun o h => h.elim))) (sx_mono (D1 := xS_X12_laysFirst) (fr_f_X12_laysFirst (p := p4) p3.2 hp4) (fun o k h => Or.elim h (fun q => (fun q => Or.inl q) q) (fun q0 => (fun q => Or.inr (Or.inl q)) q0)) (fun o k h => h.elim) (fun o h => Or.elim h (fun q => (fun q => Or.inl q) q) (fun q0 => Or.elim q0 (fun q => (fun q => Or.inr (Or.inl q)) q) (fun q1 => Or.elim q1 (fun q => (fun q => Or.inr (Or.inr (Or.inl q))) q) (fun q2 => (fun q => Or.inr (Or.inr (Or.inr (q)))) q2)))) (fun o h => h.elim))) (sx_mono (D1 := xS_X12_isThere) (fr_f_X12_isThere (p := p5) x1 p4 hp5) (fun o k h => h.elim) (fun o k h => h.elim) (fun o h => h.elim) (fun o h => h.elim)))
        · obtain ⟨p6, hp6, hf⟩ := ax_bind hf
          rcases ax_or hf with ⟨hc6, hf⟩ | ⟨hc6, hf⟩
          · exact ax_ret (P := fun q : Int32 × sx_M => sx_eq (xS_X12_rounds) s q.2) hf (sx_tr (sx_tr (sx_tr (sx_tr (sx_tr (sx_tr (sx_rf _ s) (sx_mono (D1 := xS_X12_isRank) (fr_f_X12_isRank (p := p1) x1 s hp1) (fun o k h => h.elim) (fun o k h => h.elim) (fun o h => h.elim) (fun o h => h.elim))) (sx_mono (D1 := xS_X12_isRank) (fr_f_X12_isRank (p := p2) x2 p1.2 hp2) (fun o k h => h.elim) (fun o k h => h.elim) (fun o h => h.elim) (fun o h => h.elim))) (sx_mono (D1 := xS_X12_in) (fr_f_X12_in (p := p3) ((x3).toInt64) (0 : Int64) (3 : Int64) p2.2 hp3) (fun o k h => h.elim) (fun o k h => h.elim) (fun o h => h.elim) (fun o h => h.elim))) (sx_mono (D1 := xS_X12_laysFirst) (fr_f_X12_laysFirst (p := p4) p3.2 hp4) (fun o k h => Or.elim h (fun q => (fun q => Or.inl q) q) (fun q0 => (fun q => Or.inr (Or.inl q)) q0)) (fun o k h => h.elim) (fun o h => Or.elim h (fun q => (fun q => Or.inl q) q) (fun q0 => Or.elim q0 (fun q => (fun q => Or.inr (Or.inl q)) q) (fun q1 => Or.elim q1 (fun q => (fun q => Or.inr (Or.inr (Or.inl q))) q) (fun q2 => (fun q => Or.inr (Or.inr (Or.inr (q)))) q2)))) (fun o h => h.elim))) (sx_mono (D1 := xS_X12_isThere) (fr_f_X12_isThere (p := p5) x1 p4 hp5) (fun o k h => h.elim) (fun o k h => h.elim) (fun o h => h.elim) (fun o h => h.elim))) (sx_mono (D1 := xS_X12_isThere) (fr_f_X12_isThere (p := p6) x2 p5.2 hp6) (fun o k h => h.elim) (fun o k h => h.elim) (fun o h => h.elim) (fun o h => h.elim)))
          · obtain ⟨_, hf⟩ := ax_ite hf
            obtain ⟨_, hf⟩ := ax_ite hf
            obtain ⟨p7, hp7, hf⟩ := ax_bind hf
            rcases ax_or hf with ⟨hc5, hf⟩ | ⟨hc5, hf⟩
            · exact ax_ret (P := fun q : Int32 × sx_M => sx_eq (xS_X12_rounds) s q.2) hf (sx_tr (sx_tr (sx_tr (sx_tr (sx_tr (sx_tr (sx_tr (sx_rf _ s) (sx_mono (D1 := xS_X12_isRank) (fr_f_X12_isRank (p := p1) x1 s hp1) (fun o k h => h.elim) (fun o k h => h.elim) (fun o h => h.elim) (fun o h => h.elim))) (sx_mono (D1 := xS_X12_isRank) (fr_f_X12_isRank (p := p2) x2 p1.2 hp2) (fun o k h => h.elim) (fun o k h => h.elim) (fun o h => h.elim) (fun o h => h.elim))) (sx_mono (D1 := xS_X12_in) (fr_f_X12_in (p := p3) ((x3).toInt64) (0 : Int64) (3 : Int64) p2.2 hp3) (fun o k h => h.elim) (fun o k h => h.elim) (fun o h => h.elim) (fun o h => h.elim))) (sx_mono (D1 := xS_X12_laysFirst) (fr_f_X12_laysFirst (p := p4) p3.2 hp4) (fun o k h => Or.elim h (fun q => (fun q => Or.inl q) q) (fun q0 => (fun q => Or.inr (Or.inl q)) q0)) (fun o k h => h.elim) (fun o h => Or.elim h (fun q => (fun q => Or.inl q) q) (fun q0 => Or.elim q0 (fun q => (fun q => Or.inr (Or.inl q)) q) (fun q1 => Or.elim q1 (fun q => (fun q => Or.inr (Or.inr (Or.inl q))) q) (fun q2 => (fun q => Or.inr (Or.inr (Or.inr (q)))) q2)))) (fun o h => h.elim))) (sx_mono (D1 := xS_X12_isThere) (fr_f_X12_isThere (p := p5) x1 p4 hp5) (fun o k h => h.elim) (fun o k h => h.elim) (fun o h => h.elim) (fun o h => h.elim))) (sx_mono (D1 := xS_X12_isThere) (fr_f_X12_isThere (p := p6) x2 p5.2 hp6) (fun o k h => h.elim) (fun o k h => h.elim) (fun o h => h.elim) (fun o h => h.elim))) (sx_mono (D1 := xS_X12_laysRounds) (fr_f_X12_laysRounds (p := p7) (rA p6.2 66 (x1).toNatClampNeg) (rA p6.2 66 (x2).toNatClampNeg) p6.2 hp7) (fun o k h => Or.elim h (fun q => (fun q => Or.inr (Or.inr (Or.inl q))) q) (fun q0 => Or.elim q0 (fun q => (fun q => Or.inr (Or.inr (Or.inr (Or.inl q)))) q) (fun q1 => Or.elim q1 (fun q => (fun q => Or.inr (Or.inr (Or.inr (Or.inr (Or.inl q))))) q) (fun q2 => Or.elim q2 (fun q => (fun q => Or.inr (Or.inr (Or.inr (Or.inr (Or.inr (Or.inl q)))))) q) (fun q3 => (fun q => Or.inr (Or.inr (Or.inr (Or.inr (Or.inr (Or.inr (q))))))) q3))))) (fun o k h => h.elim) (fun o h => h.elim) (fun o h => h.elim)))
            · rcases ax_or hf with ⟨hc4, hf⟩ | ⟨hc4, hf⟩
              · exact ax_ret (P := fun q : Int32 × sx_M => sx_eq (xS_X12_rounds) s q.2) hf (sx_tr (sx_tr (sx_tr (sx_tr (sx_tr (sx_tr (sx_tr (sx_rf _ s) (sx_mono (D1 := xS_X12_isRank) (fr_f_X12_isRank (p := p1) x1 s hp1) (fun o k h => h.elim) (fun o k h => h.elim) (fun o h => h.elim) (fun o h => h.elim))) (sx_mono (D1 := xS_X12_isRank) (fr_f_X12_isRank (p := p2) x2 p1.2 hp2) (fun o k h => h.elim) (fun o k h => h.elim) (fun o h => h.elim) (fun o h => h.elim))) (sx_mono (D1 := xS_X12_in) (fr_f_X12_in (p := p3) ((x3).toInt64) (0 : Int64) (3 : Int64) p2.2 hp3) (fun o k h => h.elim) (fun o k h => h.elim) (fun o h => h.elim) (fun o h => h.elim))) (sx_mono (D1 := xS_X12_laysFirst) (fr_f_X12_laysFirst (p := p4) p3.2 hp4) (fun o k h => Or.elim h (fun q => (fun q => Or.inl q) q) (fun q0 => (fun q => Or.inr (Or.inl q)) q0)) (fun o k h => h.elim) (fun o h => Or.elim h (fun q => (fun q => Or.inl q) q) (fun q0 => Or.elim q0 (fun q => (fun q => Or.inr (Or.inl q)) q) (fun q1 => Or.elim q1 (fun q => (fun q => Or.inr (Or.inr (Or.inl q))) q) (fun q2 => (fun q => Or.inr (Or.inr (Or.inr (q)))) q2)))) (fun o h => h.elim))) (sx_mono (D1 := xS_X12_isThere) (fr_f_X12_isThere (p := p5) x1 p4 hp5) (fun o k h => h.elim) (fun o k h => h.elim) (fun o h => h.elim) (fun o h => h.elim))) (sx_mono (D1 := xS_X12_isThere) (fr_f_X12_isThere (p := p6) x2 p5.2 hp6) (fun o k h => h.elim) (fun o k h => h.elim) (fun o h => h.elim) (fun o h => h.elim))) (sx_mono (D1 := xS_X12_laysRounds) (fr_f_X12_laysRounds (p := p7) (rA p6.2 66 (x1).toNatClampNeg) (rA p6.2 66 (x2).toNatClampNeg) p6.2 hp7) (fun o k h => Or.elim h (fun q => (fun q => Or.inr (Or.inr (Or.inl q))) q) (fun q0 => Or.elim q0 (fun q => (fun q => Or.inr (Or.inr (Or.inr (Or.inl q)))) q) (fun q1 => Or.elim q1 (fun q => (fun q => Or.inr (Or.inr (Or.inr (Or.inr (Or.inl q))))) q) (fun q2 => Or.elim q2 (fun q => (fun q => Or.inr (Or.inr (Or.inr (Or.inr (Or.inr (Or.inl q)))))) q) (fun q3 => (fun q => Or.inr (Or.inr (Or.inr (Or.inr (Or.inr (Or.inr (q))))))) q3))))) (fun o k h => h.elim) (fun o h => h.elim) (fun o h => h.elim)))
              · rcases ax_or hf with ⟨hc3, hf⟩ | ⟨hc3, hf⟩
                · exact ax_ret (P := fun q : Int32 × sx_M => sx_eq (xS_X12_rounds) s q.2) hf (sx_tr (sx_tr (sx_tr (sx_tr (sx_tr (sx_tr (sx_tr (sx_rf _ s) (sx_mono (D1 := xS_X12_isRank) (fr_f_X12_isRank (p := p1) x1 s hp1) (fun o k h => h.elim) (fun o k h => h.elim) (fun o h => h.elim) (fun o h => h.elim))) (sx_mono (D1 := xS_X12_isRank) (fr_f_X12_isRank (p := p2) x2 p1.2 hp2) (fun o k h => h.elim) (fun o k h => h.elim) (fun o h => h.elim) (fun o h => h.elim))) (sx_mono (D1 := xS_X12_in) (fr_f_X12_in (p := p3) ((x3).toInt64) (0 : Int64) (3 : Int64) p2.2 hp3) (fun o k h => h.elim) (fun o k h => h.elim) (fun o h => h.elim) (fun o h => h.elim))) (sx_mono (D1 := xS_X12_laysFirst) (fr_f_X12_laysFirst (p := p4) p3.2 hp4) (fun o k h => Or.elim h (fun q => (fun q => Or.inl q) q) (fun q0 => (fun q => Or.inr (Or.inl q)) q0)) (fun o k h => h.elim) (fun o h => Or.elim h (fun q => (fun q => Or.inl q) q) (fun q0 => Or.elim q0 (fun q => (fun q => Or.inr (Or.inl q)) q) (fun q1 => Or.elim q1 (fun q => (fun q => Or.inr (Or.inr (Or.inl q))) q) (fun q2 => (fun q => Or.inr (Or.inr (Or.inr (q)))) q2)))) (fun o h => h.elim))) (sx_mono (D1 := xS_X12_isThere) (fr_f_X12_isThere (p := p5) x1 p4 hp5) (fun o k h => h.elim) (fun o k h => h.elim) (fun o h => h.elim) (fun o h => h.elim))) (sx_mono (D1 := xS_X12_isThere) (fr_f_X12_isThere (p := p6) x2 p5.2 hp6) (fun o k h => h.elim) (fun o k h => h.elim) (fun o h => h.elim) (fun o h => h.elim))) (sx_mono (D1 := xS_X12_laysRounds) (fr_f_X12_laysRounds (p := p7) (rA p6.2 66 (x1).toNatClampNeg) (rA p6.2 66 (x2).toNatClampNeg) p6.2 hp7) (fun o k h => Or.elim h (fun q => (fun q => Or.inr (Or.inr (Or.inl q))) q) (fun q0 => Or.elim q0 (fun q => (fun q => Or.inr (Or.inr (Or.inr (Or.inl q)))) q) (fun q1 => Or.elim q1 (fun q => (fun q => Or.inr (Or.inr (Or.inr (Or.inr (Or.inl q))))) q) (fun q2 => Or.elim q2 (fun q => (fun q => Or.inr (Or.inr (Or.inr (Or.inr (Or.inr (Or.inl q)))))) q) (fun q3 => (fun q => Or.inr (Or.inr (Or.inr (Or.inr (Or.inr (Or.inr (q))))))) q3))))) (fun o k h => h.elim) (fun o h => h.elim) (fun o h => h.elim)))
                · exact ax_ret (P := fun q : Int32 × sx_M => sx_eq (xS_X12_rounds) s q.2) hf (sx_tr (sx_tr (sx_tr (sx_tr (sx_tr (sx_tr (sx_tr (sx_rf _ s) (sx_mono (D1 := xS_X12_isRank) (fr_f_X12_isRank (p := p1) x1 s hp1) (fun o k h => h.elim) (fun o k h => h.elim) (fun o h => h.elim) (fun o h => h.elim))) (sx_mono (D1 := xS_X12_isRank) (fr_f_X12_isRank (p := p2) x2 p1.2 hp2) (fun o k h => h.elim) (fun o k h => h.elim) (fun o h => h.elim) (fun o h => h.elim))) (sx_mono (D1 := xS_X12_in) (fr_f_X12_in (p := p3) ((x3).toInt64) (0 : Int64) (3 : Int64) p2.2 hp3) (fun o k h => h.elim) (fun o k h => h.elim) (fun o h => h.elim) (fun o h => h.elim))) (sx_mono (D1 := xS_X12_laysFirst) (fr_f_X12_laysFirst (p := p4) p3.2 hp4) (fun o k h => Or.elim h (fun q => (fun q => Or.inl q) q) (fun q0 => (fun q => Or.inr (Or.inl q)) q0)) (fun o k h => h.elim) (fun o h => Or.elim h (fun q => (fun q => Or.inl q) q) (fun q0 => Or.elim q0 (fun q => (fun q => Or.inr (Or.inl q)) q) (fun q1 => Or.elim q1 (fun q => (fun q => Or.inr (Or.inr (Or.inl q))) q) (fun q2 => (fun q => Or.inr (Or.inr (Or.inr (q)))) q2)))) (fun o h => h.elim))) (sx_mono (D1 := xS_X12_isThere) (fr_f_X12_isThere (p := p5) x1 p4 hp5) (fun o k h => h.elim) (fun o k h => h.elim) (fun o h => h.elim) (fun o h => h.elim))) (sx_mono (D1 := xS_X12_isThere) (fr_f_X12_isThere (p := p6) x2 p5.2 hp6) (fun o k h => h.elim) (fun o k h => h.elim) (fun o h => h.elim) (fun o h => h.elim))) (sx_mono (D1 := xS_X12_laysRounds) (fr_f_X12_laysRounds (p := p7) (rA p6.2 66 (x1).toNatClampNeg) (rA p6.2 66 (x2).toNatClampNeg) p6.2 hp7) (fun o k h => Or.elim h (fun q => (fun q => Or.inr (Or.inr (Or.inl q))) q) (fun q0 => Or.elim q0 (fun q => (fun q => Or.inr (Or.inr (Or.inr (Or.inl q)))) q) (fun q1 => Or.elim q1 (fun q => (fun q => Or.inr (Or.inr (Or.inr (Or.inr (Or.inl q))))) q) (fun q2 => Or.elim q2 (fun q => (fun q => Or.inr (Or.inr (Or.inr (Or.inr (Or.inr (Or.inl q)))))) q) (fun q3 => (fun q => Or.inr (Or.inr (Or.inr (Or.inr (Or.inr (Or.inr (q))))))) q3))))) (fun o k h => h.elim) (fun o h => h.elim) (fun o h => h.elim)))
abbrev xI_X12_bits : Nat → Nat → Prop := fun o k => False
abbrev xJ_X12_bits : Nat → Nat → Prop := fun o k => False
abbrev xA_X12_bits : Nat → Prop := fun o => False
abbrev xB_X12_bits : Nat → Prop := fun o => False
abbrev xS_X12_bits : sx_D := (xI_X12_bits, xJ_X12_bits, xA_X12_bits, xB_X12_bits)
set_option maxRecDepth 100000 in
set_option maxHeartbeats 1000000 in
theorem fr_f_X12_bits (x0 : Int32) (s : sx_M) {p : Int32 × sx_M} (hf : f_X12_bits x0 s = some p) : sx_eq (xS_X12_bits) s p.2 := by
  unfold f_X12_bits at hf
  obtain ⟨b1, hb1, hf⟩ := ax_bind hf
  have hvb1 := wh_inv ((0 : Int32), (0 : Int32), s) (fun a4 : Int32 × Int32 × sx_M => sx_eq (xS_X12_bits) s a4.2.2) (fun e : Int32 × sx_M => sx_eq (xS_X12_bits) s e.2) hb1 ?_ (sx_rf _ s)
  rotate_left
  · intro a4 r ha4 hf
    unfold f_X12_bits_L4 at hf
    rcases ax_or hf with ⟨hc1, hf⟩ | ⟨hc1, hf⟩
    · exact ax_ret (P := Sum.elim (fun a4 : Int32 × Int32 × sx_M => sx_eq (xS_X12_bits) s a4.2.2) (fun e : Int32 × sx_M => sx_eq (xS_X12_bits) s e.2)) hf ha4
    · exact ax_ret (P := Sum.elim (fun a4 : Int32 × Int32 × sx_M => sx_eq (xS_X12_bits) s a4.2.2) (fun e : Int32 × sx_M => sx_eq (xS_X12_bits) s e.2)) hf ha4
  exact ax_ret (P := fun q : Int32 × sx_M => sx_eq (xS_X12_bits) s q.2) hf hvb1
abbrev xI_X12_move : Nat → Nat → Prop := fun o k => (o = 58 ∧ k = 15) ∨ (o = 58 ∧ k = 27) ∨ (o = 58 ∧ k = 28) ∨ (o = 58 ∧ k = 29) ∨ (o = 58 ∧ k = 30) ∨ (o = 58 ∧ k = 31)
abbrev xJ_X12_move : Nat → Nat → Prop := fun o k => False
abbrev xA_X12_move : Nat → Prop := fun o => o = 63 ∨ o = 64 ∨ o = 65
abbrev xB_X12_move : Nat → Prop := fun o => False
abbrev xS_X12_move : sx_D := (xI_X12_move, xJ_X12_move, xA_X12_move, xB_X12_move)
set_option maxRecDepth 100000 in
set_option maxHeartbeats 1000000 in
theorem fr_f_X12_move (x1 : Int32) (x2 : Int32) (s : sx_M) {p : Int64 × sx_M} (hf : f_X12_move x1 x2 s = some p) : sx_eq (xS_X12_move) s p.2 := by
  unfold f_X12_move at hf
  obtain ⟨p1, hp1, hf⟩ := ax_bind hf
  obtain ⟨b2, hb2, hf⟩ := ax_bind hf
  have hvb2 := wh_inv ((-1 : Int32), (0 : Int32), p1) (fun a9 : Int32 × Int32 × sx_M => sx_eq (xS_X12_move) s a9.2.2) (fun e : Int32 × sx_M => sx_eq (xS_X12_move) s e.2) hb2 ?_ (sx_tr (sx_rf _ s) (sx_mono (D1 := xS_X12_goesAll) (fr_f_X12_goesAll (p := p1) s hp1) (fun o k h => (fun q => Or.inl q) h) (fun o k h => h.elim) (fun o h => Or.elim h (fun q => (fun q => Or.inl q) q) (fun q0 => Or.elim q0 (fun q => (fun q => Or.inr (Or.inl q)) q) (fun q1 => (fun q => Or.inr (Or.inr (q))) q1))) (fun o h => h.elim)))
  rotate_left
  · intro a9 r ha9 hf
    unfold f_X12_move_L9 at hf
    rcases ax_or hf with ⟨hc3, hf⟩ | ⟨hc3, hf⟩
    · exact ax_ret (P := Sum.elim (fun a9 : Int32 × Int32 × sx_M => sx_eq (xS_X12_move) s a9.2.2) (fun e : Int32 × sx_M => sx_eq (xS_X12_move) s e.2)) hf ha9
    · obtain ⟨_, hf⟩ := ax_ite hf
      rcases ax_or hf with ⟨hc2, hf⟩ | ⟨hc2, hf⟩
      · exact ax_ret (P := Sum.elim (fun a9 : Int32 × Int32 × sx_M => sx_eq (xS_X12_move) s a9.2.2) (fun e : Int32 × sx_M => sx_eq (xS_X12_move) s e.2)) hf ha9
      · exact ax_ret (P := Sum.elim (fun a9 : Int32 × Int32 × sx_M => sx_eq (xS_X12_move) s a9.2.2) (fun e : Int32 × sx_M => sx_eq (xS_X12_move) s e.2)) hf ha9
  rcases ax_or hf with ⟨hc20, hf⟩ | ⟨hc20, hf⟩
  · exact ax_ret (P := fun q : Int64 × sx_M => sx_eq (xS_X12_move) s q.2) hf hvb2
  · obtain ⟨p3, hp3, hf⟩ := ax_bind hf
    rcases ax_or hf with ⟨hc19, hf⟩ | ⟨hc19, hf⟩
    · exact ax_ret (P := fun q : Int64 × sx_M => sx_eq (xS_X12_move) s q.2) hf (sx_tr hvb2 (sx_mono (D1 := xS_X12_in) (fr_f_X12_in (p := p3) ((x2).toInt64) (0 : Int64) (2 : Int64) b2.2 hp3) (fun o k h => h.elim) (fun o k h => h.elim) (fun o h => h.elim) (fun o h => h.elim)))
    · obtain ⟨b9, hb9, hf⟩ := ax_bind hf
      have hvb9 := wh_inv ((-1 : Int32), (0 : Int32), (0 : Int32), p3.2) (fun a72 : Int32 × Int32 × Int32 × sx_M => sx_eq (xS_X12_move) s a72.2.2.2) (fun e : Int32 × Int32 × sx_M => sx_eq (xS_X12_move) s e.2.2) hb9 ?_ (sx_tr hvb2 (sx_mono (D1 := xS_X12_in) (fr_f_X12_in (p := p3) ((x2).toInt64) (0 : Int64) (2 : Int64) b2.2 hp3) (fun o k h => h.elim) (fun o k h => h.elim) (fun o h => h.elim) (fun o h => h.elim)))
      rotate_left
      · intro a72 r ha72 hf
        unfold f_X12_move_L72 at hf
        have J187 : ∀ (y4_187 : Int32) (y5_187 : Int32) (y6_187 : Int32) (t0_187 : Int32) (s_187 : sx_M), sx_eq (xS_X12_move) s s_187 → f_X12_move_L72_J187 x2 b2.1 y4_187 y5_187 y6_187 t0_187 s_187 = some r → Sum.elim (fun a72 : Int32 × Int32 × Int32 × sx_M => sx_eq (xS_X12_move) s a72.2.2.2) (fun e : Int32 × Int32 × sx_M => sx_eq (xS_X12_move) s e.2.2) r := by
          intro y4_187 y5_187 y6_187 t0_187 s_187 hs_187 hf
          unfold f_X12_move_L72_J187 at hf
          rcases ax_or hf with ⟨hc4, hf⟩ | ⟨hc4, hf⟩
          · exact ax_ret (P := Sum.elim (fun a72 : Int32 × Int32 × Int32 × sx_M => sx_eq (xS_X12_move) s a72.2.2.2) (fun e : Int32 × Int32 × sx_M => sx_eq (xS_X12_move) s e.2.2)) hf hs_187
          · exact ax_ret (P := Sum.elim (fun a72 : Int32 × Int32 × Int32 × sx_M => sx_eq (xS_X12_move) s a72.2.2.2) (fun e : Int32 × Int32 × sx_M => sx_eq (xS_X12_move) s e.2.2)) hf hs_187
        rcases ax_or hf with ⟨hc13, hf⟩ | ⟨hc13, hf⟩
        · exact ax_ret (P := Sum.elim (fun a72 : Int32 × Int32 × Int32 × sx_M => sx_eq (xS_X12_move) s a72.2.2.2) (fun e : Int32 × Int32 × sx_M => sx_eq (xS_X12_move) s e.2.2)) hf ha72
        · obtain ⟨p4, hp4, hf⟩ := ax_bind hf
          rcases ax_or hf with ⟨hc12, hf⟩ | ⟨hc12, hf⟩
          · rcases ax_or hf with ⟨hc11, hf⟩ | ⟨hc11, hf⟩
            · exact J187 a72.1 a72.2.1 a72.2.2.1 (-1 : Int32) p4 (sx_tr ha72 (sx_mono (D1 := xS_X12_laysRounds) (fr_f_X12_laysRounds (p := p4) b2.1 a72.2.2.1 a72.2.2.2 hp4) (fun o k h => Or.elim h (fun q => (fun q => Or.inr (Or.inl q)) q) (fun q0 => Or.elim q0 (fun q => (fun q => Or.inr (Or.inr (Or.inl q))) q) (fun q1 => Or.elim q1 (fun q => (fun q => Or.inr (Or.inr (Or.inr (Or.inl q)))) q) (fun q2 => Or.elim q2 (fun q => (fun q => Or.inr (Or.inr (Or.inr (Or.inr (Or.inl q))))) q) (fun q3 => (fun q => Or.inr (Or.inr (Or.inr (Or.inr (Or.inr (q)))))) q3))))) (fun o k h => h.elim) (fun o h => h.elim) (fun o h => h.elim))) hf
            · obtain ⟨_, hf⟩ := ax_ite hf
              obtain ⟨_, hf⟩ := ax_ite hf
              rcases ax_or hf with ⟨hc10, hf⟩ | ⟨hc10, hf⟩
              · obtain ⟨p5, hp5, hf⟩ := ax_bind hf
                obtain ⟨p6, hp6, hf⟩ := ax_bind hf
                rcases ax_or hf with ⟨hc7, hf⟩ | ⟨hc7, hf⟩
                · exact J187 a72.1 a72.2.1 a72.2.2.1 ((rI p6.2 58 31) - a72.2.1) p6.2 (sx_tr (sx_tr (sx_tr ha72 (sx_mono (D1 := xS_X12_laysRounds) (fr_f_X12_laysRounds (p := p4) b2.1 a72.2.2.1 a72.2.2.2 hp4) (fun o k h => Or.elim h (fun q => (fun q => Or.inr (Or.inl q)) q) (fun q0 => Or.elim q0 (fun q => (fun q => Or.inr (Or.inr (Or.inl q))) q) (fun q1 => Or.elim q1 (fun q => (fun q => Or.inr (Or.inr (Or.inr (Or.inl q)))) q) (fun q2 => Or.elim q2 (fun q => (fun q => Or.inr (Or.inr (Or.inr (Or.inr (Or.inl q))))) q) (fun q3 => (fun q => Or.inr (Or.inr (Or.inr (Or.inr (Or.inr (q)))))) q3))))) (fun o k h => h.elim) (fun o h => h.elim) (fun o h => h.elim))) (sx_mono (D1 := xS_X12_bits) (fr_f_X12_bits (p := p5) (rI p4 58 31) p4 hp5) (fun o k h => h.elim) (fun o k h => h.elim) (fun o h => h.elim) (fun o h => h.elim))) (sx_mono (D1 := xS_X12_bits) (fr_f_X12_bits (p := p6) a72.2.1 p5.2 hp6) (fun o k h => h.elim) (fun o k h => h.elim) (fun o h => h.elim) (fun o h => h.elim))) hf
                · obtain ⟨p7, hp7, hf⟩ := ax_bind hf
                  obtain ⟨p8, hp8, hf⟩ := ax_bind hf
                  exact J187 a72.1 a72.2.1 a72.2.2.1 (p7.1 - p8.1) p8.2 (sx_tr (sx_tr (sx_tr (sx_tr (sx_tr ha72 (sx_mono (D1 := xS_X12_laysRounds) (fr_f_X12_laysRounds (p := p4) b2.1 a72.2.2.1 a72.2.2.2 hp4) (fun o k h => Or.elim h (fun q => (fun q => Or.inr (Or.inl q)) q) (fun q0 => Or.elim q0 (fun q => (fun q => Or.inr (Or.inr (Or.inl q))) q) (fun q1 => Or.elim q1 (fun q => (fun q => Or.inr (Or.inr (Or.inr (Or.inl q)))) q) (fun q2 => Or.elim q2 (fun q => (fun q => Or.inr (Or.inr (Or.inr (Or.inr (Or.inl q))))) q) (fun q3 => (fun q => Or.inr (Or.inr (Or.inr (Or.inr (Or.inr (q)))))) q3))))) (fun o k h => h.elim) (fun o h => h.elim) (fun o h => h.elim))) (sx_mono (D1 := xS_X12_bits) (fr_f_X12_bits (p := p5) (rI p4 58 31) p4 hp5) (fun o k h => h.elim) (fun o k h => h.elim) (fun o h => h.elim) (fun o h => h.elim))) (sx_mono (D1 := xS_X12_bits) (fr_f_X12_bits (p := p6) a72.2.1 p5.2 hp6) (fun o k h => h.elim) (fun o k h => h.elim) (fun o h => h.elim) (fun o h => h.elim))) (sx_mono (D1 := xS_X12_bits) (fr_f_X12_bits (p := p7) (rI p6.2 58 31) p6.2 hp7) (fun o k h => h.elim) (fun o k h => h.elim) (fun o h => h.elim) (fun o h => h.elim))) (sx_mono (D1 := xS_X12_bits) (fr_f_X12_bits (p := p8) a72.2.1 p7.2 hp8) (fun o k h => h.elim) (fun o k h => h.elim) (fun o h => h.elim) (fun o h => h.elim))) hf
              · obtain ⟨_, hf⟩ := ax_ite hf
                obtain ⟨_, hf⟩ := ax_ite hf
                exact J187 a72.1 a72.2.1 a72.2.2.1 ((rA p4 64 (a72.2.2.1).toNatClampNeg) - (rA p4 64 (a72.1).toNatClampNeg)) p4 (sx_tr ha72 (sx_mono (D1 := xS_X12_laysRounds) (fr_f_X12_laysRounds (p := p4) b2.1 a72.2.2.1 a72.2.2.2 hp4) (fun o k h => Or.elim h (fun q => (fun q => Or.inr (Or.inl q)) q) (fun q0 => Or.elim q0 (fun q => (fun q => Or.inr (Or.inr (Or.inl q))) q) (fun q1 => Or.elim q1 (fun q => (fun q => Or.inr (Or.inr (Or.inr (Or.inl q)))) q) (fun q2 => Or.elim q2 (fun q => (fun q => Or.inr (Or.inr (Or.inr (Or.inr (Or.inl q))))) q) (fun q3 => (fun q => Or.inr (Or.inr (Or.inr (Or.inr (Or.inr (q)))))) q3))))) (fun o k h => h.elim) (fun o h => h.elim) (fun o h => h.elim))) hf
          · exact ax_ret (P := Sum.elim (fun a72 : Int32 × Int32 × Int32 × sx_M => sx_eq (xS_X12_move) s a72.2.2.2) (fun e : Int32 × Int32 × sx_M => sx_eq (xS_X12_move) s e.2.2)) hf (sx_tr ha72 (sx_mono (D1 := xS_X12_laysRounds) (fr_f_X12_laysRounds (p := p4) b2.1 a72.2.2.1 a72.2.2.2 hp4) (fun o k h => Or.elim h (fun q => (fun q => Or.inr (Or.inl q)) q) (fun q0 => Or.elim q0 (fun q => (fun q => Or.inr (Or.inr (Or.inl q))) q) (fun q1 => Or.elim q1 (fun q => (fun q => Or.inr (Or.inr (Or.inr (Or.inl q)))) q) (fun q2 => Or.elim q2 (fun q => (fun q => Or.inr (Or.inr (Or.inr (Or.inr (Or.inl q))))) q) (fun q3 => (fun q => Or.inr (Or.inr (Or.inr (Or.inr (Or.inr (q)))))) q3))))) (fun o k h => h.elim) (fun o h => h.elim) (fun o h => h.elim)))
      rcases ax_or hf with ⟨hc18, hf⟩ | ⟨hc18, hf⟩
      · exact ax_ret (P := fun q : Int64 × sx_M => sx_eq (xS_X12_move) s q.2) hf hvb9
      · rcases ax_or hf with ⟨hc17, hf⟩ | ⟨hc17, hf⟩
        · obtain ⟨_, hf⟩ := ax_ite hf
          obtain ⟨_, hf⟩ := ax_ite hf
          exact ax_ret (P := fun q : Int64 × sx_M => sx_eq (xS_X12_move) s q.2) hf hvb9
        · rcases ax_or hf with ⟨hc14, hf⟩ | ⟨hc14, hf⟩
          · obtain ⟨p10, hp10, hf⟩ := ax_bind hf
            exact ax_ret (P := fun q : Int64 × sx_M => sx_eq (xS_X12_move) s q.2) hf (sx_tr hvb9 (sx_mono (D1 := xS_X12_bits) (fr_f_X12_bits (p := p10) b9.2.1 b9.2.2 hp10) (fun o k h => h.elim) (fun o k h => h.elim) (fun o h => h.elim) (fun o h => h.elim)))
          · exact ax_ret (P := fun q : Int64 × sx_M => sx_eq (xS_X12_move) s q.2) hf hvb9
abbrev xI_X12_manyUpTo : Nat → Nat → Prop := fun o k => False
abbrev xJ_X12_manyUpTo : Nat → Nat → Prop := fun o k => False
abbrev xA_X12_manyUpTo : Nat → Prop := fun o => False
abbrev xB_X12_manyUpTo : Nat → Prop := fun o => False
abbrev xS_X12_manyUpTo : sx_D := (xI_X12_manyUpTo, xJ_X12_manyUpTo, xA_X12_manyUpTo, xB_X12_manyUpTo)
set_option maxRecDepth 100000 in
set_option maxHeartbeats 1000000 in
theorem fr_f_X12_manyUpTo (x1 : Int32) (s : sx_M) {p : Int32 × sx_M} (hf : f_X12_manyUpTo x1 s = some p) : sx_eq (xS_X12_manyUpTo) s p.2 := by
  unfold f_X12_manyUpTo at hf
  obtain ⟨b1, hb1, hf⟩ := ax_bind hf
  have hvb1 := wh_inv ((0 : Int32), (0 : Int32), s) (fun a4 : Int32 × Int32 × sx_M => sx_eq (xS_X12_manyUpTo) s a4.2.2) (fun e : Int32 × sx_M => sx_eq (xS_X12_manyUpTo) s e.2) hb1 ?_ (sx_rf _ s)
  rotate_left
  · intro a4 r ha4 hf
    unfold f_X12_manyUpTo_L4 at hf
    have J28 : ∀ (y3_28 : Int32) (t0_28 : Int32) (t1_28 : Int32) (s_28 : sx_M), sx_eq (xS_X12_manyUpTo) s s_28 → f_X12_manyUpTo_L4_J28 x1 y3_28 t0_28 t1_28 s_28 = some r → Sum.elim (fun a4 : Int32 × Int32 × sx_M => sx_eq (xS_X12_manyUpTo) s a4.2.2) (fun e : Int32 × sx_M => sx_eq (xS_X12_manyUpTo) s e.2) r := by
      intro y3_28 t0_28 t1_28 s_28 hs_28 hf
      unfold f_X12_manyUpTo_L4_J28 at hf
      exact ax_ret (P := Sum.elim (fun a4 : Int32 × Int32 × sx_M => sx_eq (xS_X12_manyUpTo) s a4.2.2) (fun e : Int32 × sx_M => sx_eq (xS_X12_manyUpTo) s e.2)) hf hs_28
    rcases ax_or hf with ⟨hc3, hf⟩ | ⟨hc3, hf⟩
    · exact ax_ret (P := Sum.elim (fun a4 : Int32 × Int32 × sx_M => sx_eq (xS_X12_manyUpTo) s a4.2.2) (fun e : Int32 × sx_M => sx_eq (xS_X12_manyUpTo) s e.2)) hf ha4
    · obtain ⟨_, hf⟩ := ax_ite hf
      rcases ax_or hf with ⟨hc2, hf⟩ | ⟨hc2, hf⟩
      · exact J28 a4.2.1 a4.1 (0 : Int32) a4.2.2 ha4 hf
      · exact J28 a4.2.1 a4.1 (1 : Int32) a4.2.2 ha4 hf
  exact ax_ret (P := fun q : Int32 × sx_M => sx_eq (xS_X12_manyUpTo) s q.2) hf hvb1
abbrev xI_X12_middle : Nat → Nat → Prop := fun o k => (o = 58 ∧ k = 15)
abbrev xJ_X12_middle : Nat → Nat → Prop := fun o k => False
abbrev xA_X12_middle : Nat → Prop := fun o => o = 63 ∨ o = 64 ∨ o = 65
abbrev xB_X12_middle : Nat → Prop := fun o => False
abbrev xS_X12_middle : sx_D := (xI_X12_middle, xJ_X12_middle, xA_X12_middle, xB_X12_middle)
set_option maxRecDepth 100000 in
set_option maxHeartbeats 1000000 in
theorem fr_f_X12_middle (s : sx_M) {p : Int64 × sx_M} (hf : f_X12_middle s = some p) : sx_eq (xS_X12_middle) s p.2 := by
  unfold f_X12_middle at hf
  obtain ⟨p1, hp1, hf⟩ := ax_bind hf
  rcases ax_or hf with ⟨hc6, hf⟩ | ⟨hc6, hf⟩
  · exact ax_ret (P := fun q : Int64 × sx_M => sx_eq (xS_X12_middle) s q.2) hf (sx_tr (sx_rf _ s) (sx_mono (D1 := xS_X12_goesAll) (fr_f_X12_goesAll (p := p1) s hp1) (fun o k h => (fun q => q) h) (fun o k h => h.elim) (fun o h => Or.elim h (fun q => (fun q => Or.inl q) q) (fun q0 => Or.elim q0 (fun q => (fun q => Or.inr (Or.inl q)) q) (fun q1 => (fun q => Or.inr (Or.inr (q))) q1))) (fun o h => h.elim)))
  · obtain ⟨p2, hp2, hf⟩ := ax_bind hf
    obtain ⟨_, hf⟩ := ax_ite hf
    obtain ⟨b4, hb4, hf⟩ := ax_bind hf
    have hvb4 := wh_inv ((rA p2.2 64 (p2.1).toNatClampNeg), (0 : Int32), p2.2) (fun a39 : Int32 × Int32 × sx_M => sx_eq (xS_X12_middle) s a39.2.2) (fun e : Int32 × sx_M => sx_eq (xS_X12_middle) s e.2) hb4 ?_ (sx_tr (sx_tr (sx_rf _ s) (sx_mono (D1 := xS_X12_goesAll) (fr_f_X12_goesAll (p := p1) s hp1) (fun o k h => (fun q => q) h) (fun o k h => h.elim) (fun o h => Or.elim h (fun q => (fun q => Or.inl q) q) (fun q0 => Or.elim q0 (fun q => (fun q => Or.inr (Or.inl q)) q) (fun q1 => (fun q => Or.inr (Or.inr (q))) q1))) (fun o h => h.elim))) (sx_mono (D1 := xS_X12_least) (fr_f_X12_least (p := p2) p1 hp2) (fun o k h => h.elim) (fun o k h => h.elim) (fun o h => h.elim) (fun o h => h.elim)))
    rotate_left
    · intro a39 r ha39 hf
      unfold f_X12_middle_L39 at hf
      rcases ax_or hf with ⟨hc3, hf⟩ | ⟨hc3, hf⟩
      · exact ax_ret (P := Sum.elim (fun a39 : Int32 × Int32 × sx_M => sx_eq (xS_X12_middle) s a39.2.2) (fun e : Int32 × sx_M => sx_eq (xS_X12_middle) s e.2)) hf ha39
      · obtain ⟨_, hf⟩ := ax_ite hf
        obtain ⟨p3, hp3, hf⟩ := ax_bind hf
        exact ax_ret (P := Sum.elim (fun a39 : Int32 × Int32 × sx_M => sx_eq (xS_X12_middle) s a39.2.2) (fun e : Int32 × sx_M => sx_eq (xS_X12_middle) s e.2)) hf (sx_tr ha39 (sx_mono (D1 := xS_J9_max_7cf53) (fr_f_J9_max_7cf53 (p := p3) a39.1 (rA a39.2.2 64 (a39.2.1).toNatClampNeg) a39.2.2 hp3) (fun o k h => h.elim) (fun o k h => h.elim) (fun o h => h.elim) (fun o h => h.elim)))
    obtain ⟨b7, hb7, hf⟩ := ax_bind hf
    have hvb7 := wh_inv ((rA p2.2 64 (p2.1).toNatClampNeg), b4.1, b4.2) (fun a66 : Int32 × Int32 × sx_M => sx_eq (xS_X12_middle) s a66.2.2) (fun e : Int32 × sx_M => sx_eq (xS_X12_middle) s e.2) hb7 ?_ hvb4
    rotate_left
    · intro a66 r ha66 hf
      unfold f_X12_middle_L66 at hf
      rcases ax_or hf with ⟨hc5, hf⟩ | ⟨hc5, hf⟩
      · exact ax_ret (P := Sum.elim (fun a66 : Int32 × Int32 × sx_M => sx_eq (xS_X12_middle) s a66.2.2) (fun e : Int32 × sx_M => sx_eq (xS_X12_middle) s e.2)) hf ha66
      · obtain ⟨p5, hp5, hf⟩ := ax_bind hf
        obtain ⟨p6, hp6, hf⟩ := ax_bind hf
        rcases ax_or hf with ⟨hc4, hf⟩ | ⟨hc4, hf⟩
        · exact ax_ret (P := Sum.elim (fun a66 : Int32 × Int32 × sx_M => sx_eq (xS_X12_middle) s a66.2.2) (fun e : Int32 × sx_M => sx_eq (xS_X12_middle) s e.2)) hf (sx_tr (sx_tr ha66 (sx_mono (D1 := xS_J9_floorDiv_7cf53) (fr_f_J9_floorDiv_7cf53 (p := p5) (a66.1 + a66.2.1) (2 : Int32) a66.2.2 hp5) (fun o k h => h.elim) (fun o k h => h.elim) (fun o h => h.elim) (fun o h => h.elim))) (sx_mono (D1 := xS_X12_manyUpTo) (fr_f_X12_manyUpTo (p := p6) p5.1 p5.2 hp6) (fun o k h => h.elim) (fun o k h => h.elim) (fun o h => h.elim) (fun o h => h.elim)))
        · exact ax_ret (P := Sum.elim (fun a66 : Int32 × Int32 × sx_M => sx_eq (xS_X12_middle) s a66.2.2) (fun e : Int32 × sx_M => sx_eq (xS_X12_middle) s e.2)) hf (sx_tr (sx_tr ha66 (sx_mono (D1 := xS_J9_floorDiv_7cf53) (fr_f_J9_floorDiv_7cf53 (p := p5) (a66.1 + a66.2.1) (2 : Int32) a66.2.2 hp5) (fun o k h => h.elim) (fun o k h => h.elim) (fun o h => h.elim) (fun o h => h.elim))) (sx_mono (D1 := xS_X12_manyUpTo) (fr_f_X12_manyUpTo (p := p6) p5.1 p5.2 hp6) (fun o k h => h.elim) (fun o k h => h.elim) (fun o h => h.elim) (fun o h => h.elim)))
    exact ax_ret (P := fun q : Int64 × sx_M => sx_eq (xS_X12_middle) s q.2) hf hvb7
abbrev xI_X12_often : Nat → Nat → Prop := fun o k => (o = 58 ∧ k = 15) ∨ (o = 58 ∧ k = 18)
abbrev xJ_X12_often : Nat → Nat → Prop := fun o k => False
abbrev xA_X12_often : Nat → Prop := fun o => o = 63 ∨ o = 64 ∨ o = 65 ∨ o = 66
abbrev xB_X12_often : Nat → Prop := fun o => False
abbrev xS_X12_often : sx_D := (xI_X12_often, xJ_X12_often, xA_X12_often, xB_X12_often)
set_option maxRecDepth 100000 in
set_option maxHeartbeats 1000000 in
theorem fr_f_X12_often (x1 : Int32) (x2 : Int32) (x3 : Int32) (s : sx_M) {p : Int32 × sx_M} (hf : f_X12_often x1 x2 x3 s = some p) : sx_eq (xS_X12_often) s p.2 := by
  unfold f_X12_often at hf
  obtain ⟨p1, hp1, hf⟩ := ax_bind hf
  rcases ax_or hf with ⟨hc7, hf⟩ | ⟨hc7, hf⟩
  · exact ax_ret (P := fun q : Int32 × sx_M => sx_eq (xS_X12_often) s q.2) hf (sx_tr (sx_rf _ s) (sx_mono (D1 := xS_X12_isWorker) (fr_f_X12_isWorker (p := p1) x1 s hp1) (fun o k h => h.elim) (fun o k h => h.elim) (fun o h => h.elim) (fun o h => h.elim)))
  · obtain ⟨p2, hp2, hf⟩ := ax_bind hf
    rcases ax_or hf with ⟨hc6, hf⟩ | ⟨hc6, hf⟩
    · exact ax_ret (P := fun q : Int32 × sx_M => sx_eq (xS_X12_often) s q.2) hf (sx_tr (sx_tr (sx_rf _ s) (sx_mono (D1 := xS_X12_isWorker) (fr_f_X12_isWorker (p := p1) x1 s hp1) (fun o k h => h.elim) (fun o k h => h.elim) (fun o h => h.elim) (fun o h => h.elim))) (sx_mono (D1 := xS_X12_isJob) (fr_f_X12_isJob (p := p2) x2 p1.2 hp2) (fun o k h => h.elim) (fun o k h => h.elim) (fun o h => h.elim) (fun o h => h.elim)))
    · obtain ⟨p3, hp3, hf⟩ := ax_bind hf
      rcases ax_or hf with ⟨hc5, hf⟩ | ⟨hc5, hf⟩
      · exact ax_ret (P := fun q : Int32 × sx_M => sx_eq (xS_X12_often) s q.2) hf (sx_tr (sx_tr (sx_tr (sx_rf _ s) (sx_mono (D1 := xS_X12_isWorker) (fr_f_X12_isWorker (p := p1) x1 s hp1) (fun o k h => h.elim) (fun o k h => h.elim) (fun o h => h.elim) (fun o h => h.elim))) (sx_mono (D1 := xS_X12_isJob) (fr_f_X12_isJob (p := p2) x2 p1.2 hp2) (fun o k h => h.elim) (fun o k h => h.elim) (fun o h => h.elim) (fun o h => h.elim))) (sx_mono (D1 := xS_X12_in) (fr_f_X12_in (p := p3) ((x3).toInt64) (1 : Int64) (200 : Int64) p2.2 hp3) (fun o k h => h.elim) (fun o k h => h.elim) (fun o h => h.elim) (fun o h => h.elim)))
      · obtain ⟨p4, hp4, hf⟩ := ax_bind hf
        obtain ⟨b6, hb6, hf⟩ := ax_bind hf
        have hvb6 := wh_inv ((0 : Int32), (0 : Int32), p4) (fun a41 : Int32 × Int32 × sx_M => sx_eq (xS_X12_often) s a41.2.2) (fun e : Int32 × sx_M => sx_eq (xS_X12_often) s e.2) hb6 ?_ (sx_tr (sx_tr (sx_tr (sx_tr (sx_rf _ s) (sx_mono (D1 := xS_X12_isWorker) (fr_f_X12_isWorker (p := p1) x1 s hp1) (fun o k h => h.elim) (fun o k h => h.elim) (fun o h => h.elim) (fun o h => h.elim))) (sx_mono (D1 := xS_X12_isJob) (fr_f_X12_isJob (p := p2) x2 p1.2 hp2) (fun o k h => h.elim) (fun o k h => h.elim) (fun o h => h.elim) (fun o h => h.elim))) (sx_mono (D1 := xS_X12_in) (fr_f_X12_in (p := p3) ((x3).toInt64) (1 : Int64) (200 : Int64) p2.2 hp3) (fun o k h => h.elim) (fun o k h => h.elim) (fun o h => h.elim) (fun o h => h.elim))) (sx_mono (D1 := xS_X12_laysFirst) (fr_f_X12_laysFirst (p := p4) p3.2 hp4) (fun o k h => Or.elim h (fun q => (fun q => Or.inl q) q) (fun q0 => (fun q => Or.inr (q)) q0)) (fun o k h => h.elim) (fun o h => Or.elim h (fun q => (fun q => Or.inl q) q) (fun q0 => Or.elim q0 (fun q => (fun q => Or.inr (Or.inl q)) q) (fun q1 => Or.elim q1 (fun q => (fun q => Or.inr (Or.inr (Or.inl q))) q) (fun q2 => (fun q => Or.inr (Or.inr (Or.inr (q)))) q2)))) (fun o h => h.elim)))
        rotate_left
        · intro a41 r ha41 hf
          unfold f_X12_often_L41 at hf
          have J79 : ∀ (y5_79 : Int32) (t0_79 : Int32) (t1_79 : Int32) (s_79 : sx_M), sx_eq (xS_X12_often) s s_79 → f_X12_often_L41_J79 x1 x2 x3 y5_79 t0_79 t1_79 s_79 = some r → Sum.elim (fun a41 : Int32 × Int32 × sx_M => sx_eq (xS_X12_often) s a41.2.2) (fun e : Int32 × sx_M => sx_eq (xS_X12_often) s e.2) r := by
            intro y5_79 t0_79 t1_79 s_79 hs_79 hf
            unfold f_X12_often_L41_J79 at hf
            exact ax_ret (P := Sum.elim (fun a41 : Int32 × Int32 × sx_M => sx_eq (xS_X12_often) s a41.2.2) (fun e : Int32 × sx_M => sx_eq (xS_X12_often) s e.2)) hf hs_79
          rcases ax_or hf with ⟨hc4, hf⟩ | ⟨hc4, hf⟩
          · exact ax_ret (P := Sum.elim (fun a41 : Int32 × Int32 × sx_M => sx_eq (xS_X12_often) s a41.2.2) (fun e : Int32 × sx_M => sx_eq (xS_X12_often) s e.2)) hf ha41
          · rcases ax_or hf with ⟨hc3, hf⟩ | ⟨hc3, hf⟩
            · exact ax_ret (P := Sum.elim (fun a41 : Int32 × Int32 × sx_M => sx_eq (xS_X12_often) s a41.2.2) (fun e : Int32 × sx_M => sx_eq (xS_X12_often) s e.2)) hf ha41
            · obtain ⟨_, hf⟩ := ax_ite hf
              obtain ⟨p5, hp5, hf⟩ := ax_bind hf
              rcases ax_or hf with ⟨hc2, hf⟩ | ⟨hc2, hf⟩
              · exact J79 a41.2.1 a41.1 (1 : Int32) p5.2 (sx_tr ha41 (sx_mono (D1 := xS_X12_jobOf) (fr_f_X12_jobOf (p := p5) (rA a41.2.2 66 (a41.2.1).toNatClampNeg) x1 a41.2.2 hp5) (fun o k h => h.elim) (fun o k h => h.elim) (fun o h => h.elim) (fun o h => h.elim))) hf
              · exact J79 a41.2.1 a41.1 (0 : Int32) p5.2 (sx_tr ha41 (sx_mono (D1 := xS_X12_jobOf) (fr_f_X12_jobOf (p := p5) (rA a41.2.2 66 (a41.2.1).toNatClampNeg) x1 a41.2.2 hp5) (fun o k h => h.elim) (fun o k h => h.elim) (fun o h => h.elim) (fun o h => h.elim))) hf
        exact ax_ret (P := fun q : Int32 × sx_M => sx_eq (xS_X12_often) s q.2) hf hvb6
abbrev xI_X12_blocked : Nat → Nat → Prop := fun o k => False
abbrev xJ_X12_blocked : Nat → Nat → Prop := fun o k => False
abbrev xA_X12_blocked : Nat → Prop := fun o => False
abbrev xB_X12_blocked : Nat → Prop := fun o => False
abbrev xS_X12_blocked : sx_D := (xI_X12_blocked, xJ_X12_blocked, xA_X12_blocked, xB_X12_blocked)
set_option maxRecDepth 100000 in
set_option maxHeartbeats 1000000 in
theorem fr_f_X12_blocked (s : sx_M) {p : Int32 × sx_M} (hf : f_X12_blocked s = some p) : sx_eq (xS_X12_blocked) s p.2 := by
  unfold f_X12_blocked at hf
  obtain ⟨b10, hb10, hf⟩ := ax_bind hf
  have hvb10 := wh_inv ((1 : Int32), s) (fun a2 : Int32 × sx_M => sx_eq (xS_X12_blocked) s a2.2) (Sum.elim (fun e : sx_M => sx_eq (xS_X12_blocked) s e) (fun v : Int32 × sx_M => sx_eq (xS_X12_blocked) s v.2)) hb10 ?_ (sx_rf _ s)
  rotate_left
  · intro a2 r ha2 hf
    unfold f_X12_blocked_L2 at hf
    obtain ⟨p1, hp1, hf⟩ := ax_bind hf
    rcases ax_or hf with ⟨hc6, hf⟩ | ⟨hc6, hf⟩
    · exact ax_ret (P := Sum.elim (fun a2 : Int32 × sx_M => sx_eq (xS_X12_blocked) s a2.2) (Sum.elim (fun e : sx_M => sx_eq (xS_X12_blocked) s e) (fun v : Int32 × sx_M => sx_eq (xS_X12_blocked) s v.2))) hf (sx_tr ha2 (sx_mono (D1 := xS_X12_workers) (fr_f_X12_workers (p := p1) a2.2 hp1) (fun o k h => h.elim) (fun o k h => h.elim) (fun o h => h.elim) (fun o h => h.elim)))
    · obtain ⟨b7, hb7, hf⟩ := ax_bind hf
      have hvb7 := wh_inv ((0 : Int32), (0 : Int32), p1.2) (fun a16 : Int32 × Int32 × sx_M => sx_eq (xS_X12_blocked) s a16.2.2) (fun e : Int32 × sx_M => sx_eq (xS_X12_blocked) s e.2) hb7 ?_ (sx_tr ha2 (sx_mono (D1 := xS_X12_workers) (fr_f_X12_workers (p := p1) a2.2 hp1) (fun o k h => h.elim) (fun o k h => h.elim) (fun o h => h.elim) (fun o h => h.elim)))
      rotate_left
      · intro a16 r ha16 hf
        unfold f_X12_blocked_L16 at hf
        obtain ⟨p2, hp2, hf⟩ := ax_bind hf
        rcases ax_or hf with ⟨hc4, hf⟩ | ⟨hc4, hf⟩
        · exact ax_ret (P := Sum.elim (fun a16 : Int32 × Int32 × sx_M => sx_eq (xS_X12_blocked) s a16.2.2) (fun e : Int32 × sx_M => sx_eq (xS_X12_blocked) s e.2)) hf (sx_tr ha16 (sx_mono (D1 := xS_X12_workers) (fr_f_X12_workers (p := p2) a16.2.2 hp2) (fun o k h => h.elim) (fun o k h => h.elim) (fun o h => h.elim) (fun o h => h.elim)))
        · obtain ⟨b6, hb6, hf⟩ := ax_bind hf
          have hvb6 := wh_inv (a16.1, (0 : Int32), p2.2) (fun a27 : Int32 × Int32 × sx_M => sx_eq (xS_X12_blocked) s a27.2.2) (fun e : Int32 × sx_M => sx_eq (xS_X12_blocked) s e.2) hb6 ?_ (sx_tr ha16 (sx_mono (D1 := xS_X12_workers) (fr_f_X12_workers (p := p2) a16.2.2 hp2) (fun o k h => h.elim) (fun o k h => h.elim) (fun o h => h.elim) (fun o h => h.elim)))
          rotate_left
          · intro a27 r ha27 hf
            unfold f_X12_blocked_L27 at hf
            have J65 : ∀ (y4_65 : Int32) (t0_65 : Int32) (t1_65 : Int32) (s_65 : sx_M), sx_eq (xS_X12_blocked) s s_65 → f_X12_blocked_L27_J65 a2.1 a2.1 a16.2.1 y4_65 t0_65 t1_65 s_65 = some r → Sum.elim (fun a27 : Int32 × Int32 × sx_M => sx_eq (xS_X12_blocked) s a27.2.2) (fun e : Int32 × sx_M => sx_eq (xS_X12_blocked) s e.2) r := by
              intro y4_65 t0_65 t1_65 s_65 hs_65 hf
              unfold f_X12_blocked_L27_J65 at hf
              exact ax_ret (P := Sum.elim (fun a27 : Int32 × Int32 × sx_M => sx_eq (xS_X12_blocked) s a27.2.2) (fun e : Int32 × sx_M => sx_eq (xS_X12_blocked) s e.2)) hf hs_65
            obtain ⟨p3, hp3, hf⟩ := ax_bind hf
            rcases ax_or hf with ⟨hc3, hf⟩ | ⟨hc3, hf⟩
            · exact ax_ret (P := Sum.elim (fun a27 : Int32 × Int32 × sx_M => sx_eq (xS_X12_blocked) s a27.2.2) (fun e : Int32 × sx_M => sx_eq (xS_X12_blocked) s e.2)) hf (sx_tr ha27 (sx_mono (D1 := xS_X12_jobs) (fr_f_X12_jobs (p := p3) a27.2.2 hp3) (fun o k h => h.elim) (fun o k h => h.elim) (fun o h => h.elim) (fun o h => h.elim)))
            · obtain ⟨p4, hp4, hf⟩ := ax_bind hf
              rcases ax_or hf with ⟨hc2, hf⟩ | ⟨hc2, hf⟩
              · exact J65 a27.2.1 a27.1 (0 : Int32) p4.2 (sx_tr (sx_tr ha27 (sx_mono (D1 := xS_X12_jobs) (fr_f_X12_jobs (p := p3) a27.2.2 hp3) (fun o k h => h.elim) (fun o k h => h.elim) (fun o h => h.elim) (fun o h => h.elim))) (sx_mono (D1 := xS_X12_has) (fr_f_X12_has (p := p4) a2.1 a16.2.1 p3.2 hp4) (fun o k h => h.elim) (fun o k h => h.elim) (fun o h => h.elim) (fun o h => h.elim))) hf
              · obtain ⟨p5, hp5, hf⟩ := ax_bind hf
                rcases ax_or hf with ⟨hc1, hf⟩ | ⟨hc1, hf⟩
                · exact J65 a27.2.1 a27.1 (0 : Int32) p5.2 (sx_tr (sx_tr (sx_tr ha27 (sx_mono (D1 := xS_X12_jobs) (fr_f_X12_jobs (p := p3) a27.2.2 hp3) (fun o k h => h.elim) (fun o k h => h.elim) (fun o h => h.elim) (fun o h => h.elim))) (sx_mono (D1 := xS_X12_has) (fr_f_X12_has (p := p4) a2.1 a16.2.1 p3.2 hp4) (fun o k h => h.elim) (fun o k h => h.elim) (fun o h => h.elim) (fun o h => h.elim))) (sx_mono (D1 := xS_X12_costOf) (fr_f_X12_costOf (p := p5) a16.2.1 a27.2.1 p4.2 hp5) (fun o k h => h.elim) (fun o k h => h.elim) (fun o h => h.elim) (fun o h => h.elim))) hf
                · exact J65 a27.2.1 a27.1 ((1 : Int32) <<< (a27.2.1 &&& 31)) p5.2 (sx_tr (sx_tr (sx_tr ha27 (sx_mono (D1 := xS_X12_jobs) (fr_f_X12_jobs (p := p3) a27.2.2 hp3) (fun o k h => h.elim) (fun o k h => h.elim) (fun o h => h.elim) (fun o h => h.elim))) (sx_mono (D1 := xS_X12_has) (fr_f_X12_has (p := p4) a2.1 a16.2.1 p3.2 hp4) (fun o k h => h.elim) (fun o k h => h.elim) (fun o h => h.elim) (fun o h => h.elim))) (sx_mono (D1 := xS_X12_costOf) (fr_f_X12_costOf (p := p5) a16.2.1 a27.2.1 p4.2 hp5) (fun o k h => h.elim) (fun o k h => h.elim) (fun o h => h.elim) (fun o h => h.elim))) hf
          exact ax_ret (P := Sum.elim (fun a16 : Int32 × Int32 × sx_M => sx_eq (xS_X12_blocked) s a16.2.2) (fun e : Int32 × sx_M => sx_eq (xS_X12_blocked) s e.2)) hf hvb6
      obtain ⟨p8, hp8, hf⟩ := ax_bind hf
      obtain ⟨p9, hp9, hf⟩ := ax_bind hf
      rcases ax_or hf with ⟨hc5, hf⟩ | ⟨hc5, hf⟩
      · exact ax_ret (P := Sum.elim (fun a2 : Int32 × sx_M => sx_eq (xS_X12_blocked) s a2.2) (Sum.elim (fun e : sx_M => sx_eq (xS_X12_blocked) s e) (fun v : Int32 × sx_M => sx_eq (xS_X12_blocked) s v.2))) hf (sx_tr (sx_tr hvb7 (sx_mono (D1 := xS_X12_bits) (fr_f_X12_bits (p := p8) b7.1 b7.2 hp8) (fun o k h => h.elim) (fun o k h => h.elim) (fun o h => h.elim) (fun o h => h.elim))) (sx_mono (D1 := xS_X12_bits) (fr_f_X12_bits (p := p9) a2.1 p8.2 hp9) (fun o k h => h.elim) (fun o k h => h.elim) (fun o h => h.elim) (fun o h => h.elim)))
      · exact ax_ret (P := Sum.elim (fun a2 : Int32 × sx_M => sx_eq (xS_X12_blocked) s a2.2) (Sum.elim (fun e : sx_M => sx_eq (xS_X12_blocked) s e) (fun v : Int32 × sx_M => sx_eq (xS_X12_blocked) s v.2))) hf (sx_tr (sx_tr hvb7 (sx_mono (D1 := xS_X12_bits) (fr_f_X12_bits (p := p8) b7.1 b7.2 hp8) (fun o k h => h.elim) (fun o k h => h.elim) (fun o h => h.elim) (fun o h => h.elim))) (sx_mono (D1 := xS_X12_bits) (fr_f_X12_bits (p := p9) a2.1 p8.2 hp9) (fun o k h => h.elim) (fun o k h => h.elim) (fun o h => h.elim) (fun o h => h.elim)))
  rcases b10 with e11 | e12
  · exact ax_ret (P := fun q : Int32 × sx_M => sx_eq (xS_X12_blocked) s q.2) hf hvb10
  · exact ax_ret (P := fun q : Int32 × sx_M => sx_eq (xS_X12_blocked) s q.2) hf hvb10
abbrev xI_X12_lessOf : Nat → Nat → Prop := fun o k => False
abbrev xJ_X12_lessOf : Nat → Nat → Prop := fun o k => False
abbrev xA_X12_lessOf : Nat → Prop := fun o => False
abbrev xB_X12_lessOf : Nat → Prop := fun o => False
abbrev xS_X12_lessOf : sx_D := (xI_X12_lessOf, xJ_X12_lessOf, xA_X12_lessOf, xB_X12_lessOf)
set_option maxRecDepth 100000 in
set_option maxHeartbeats 1000000 in
theorem fr_f_X12_lessOf (x1 : Int32) (x2 : Int32) (s : sx_M) {p : Int32 × sx_M} (hf : f_X12_lessOf x1 x2 s = some p) : sx_eq (xS_X12_lessOf) s p.2 := by
  unfold f_X12_lessOf at hf
  obtain ⟨p1, hp1, hf⟩ := ax_bind hf
  obtain ⟨p2, hp2, hf⟩ := ax_bind hf
  exact ax_ret (P := fun q : Int32 × sx_M => sx_eq (xS_X12_lessOf) s q.2) hf (sx_tr (sx_tr (sx_rf _ s) (sx_mono (D1 := xS_X12_costOf) (fr_f_X12_costOf (p := p1) x1 x2 s hp1) (fun o k h => h.elim) (fun o k h => h.elim) (fun o h => h.elim) (fun o h => h.elim))) (sx_mono (D1 := xS_X12_leastOf) (fr_f_X12_leastOf (p := p2) x1 (0 : Int32) p1.2 hp2) (fun o k h => h.elim) (fun o k h => h.elim) (fun o h => h.elim) (fun o h => h.elim)))
abbrev xI_X12_reducedOf : Nat → Nat → Prop := fun o k => False
abbrev xJ_X12_reducedOf : Nat → Nat → Prop := fun o k => False
abbrev xA_X12_reducedOf : Nat → Prop := fun o => False
abbrev xB_X12_reducedOf : Nat → Prop := fun o => False
abbrev xS_X12_reducedOf : sx_D := (xI_X12_reducedOf, xJ_X12_reducedOf, xA_X12_reducedOf, xB_X12_reducedOf)
set_option maxRecDepth 100000 in
set_option maxHeartbeats 1000000 in
theorem fr_f_X12_reducedOf (x1 : Int32) (x2 : Int32) (s : sx_M) {p : Int64 × sx_M} (hf : f_X12_reducedOf x1 x2 s = some p) : sx_eq (xS_X12_reducedOf) s p.2 := by
  unfold f_X12_reducedOf at hf
  obtain ⟨b5, hb5, hf⟩ := ax_bind hf
  have hvb5 := wh_inv ((2147483647 : Int32), (0 : Int32), s) (fun a6 : Int32 × Int32 × sx_M => sx_eq (xS_X12_reducedOf) s a6.2.2) (fun e : Int32 × sx_M => sx_eq (xS_X12_reducedOf) s e.2) hb5 ?_ (sx_rf _ s)
  rotate_left
  · intro a6 r ha6 hf
    unfold f_X12_reducedOf_L6 at hf
    obtain ⟨p1, hp1, hf⟩ := ax_bind hf
    rcases ax_or hf with ⟨hc2, hf⟩ | ⟨hc2, hf⟩
    · exact ax_ret (P := Sum.elim (fun a6 : Int32 × Int32 × sx_M => sx_eq (xS_X12_reducedOf) s a6.2.2) (fun e : Int32 × sx_M => sx_eq (xS_X12_reducedOf) s e.2)) hf (sx_tr ha6 (sx_mono (D1 := xS_X12_workers) (fr_f_X12_workers (p := p1) a6.2.2 hp1) (fun o k h => h.elim) (fun o k h => h.elim) (fun o h => h.elim) (fun o h => h.elim)))
    · obtain ⟨p2, hp2, hf⟩ := ax_bind hf
      rcases ax_or hf with ⟨hc1, hf⟩ | ⟨hc1, hf⟩
      · exact ax_ret (P := Sum.elim (fun a6 : Int32 × Int32 × sx_M => sx_eq (xS_X12_reducedOf) s a6.2.2) (fun e : Int32 × sx_M => sx_eq (xS_X12_reducedOf) s e.2)) hf (sx_tr (sx_tr ha6 (sx_mono (D1 := xS_X12_workers) (fr_f_X12_workers (p := p1) a6.2.2 hp1) (fun o k h => h.elim) (fun o k h => h.elim) (fun o h => h.elim) (fun o h => h.elim))) (sx_mono (D1 := xS_X12_costOf) (fr_f_X12_costOf (p := p2) a6.2.1 x2 p1.2 hp2) (fun o k h => h.elim) (fun o k h => h.elim) (fun o h => h.elim) (fun o h => h.elim)))
      · obtain ⟨p3, hp3, hf⟩ := ax_bind hf
        obtain ⟨p4, hp4, hf⟩ := ax_bind hf
        exact ax_ret (P := Sum.elim (fun a6 : Int32 × Int32 × sx_M => sx_eq (xS_X12_reducedOf) s a6.2.2) (fun e : Int32 × sx_M => sx_eq (xS_X12_reducedOf) s e.2)) hf (sx_tr (sx_tr (sx_tr (sx_tr ha6 (sx_mono (D1 := xS_X12_workers) (fr_f_X12_workers (p := p1) a6.2.2 hp1) (fun o k h => h.elim) (fun o k h => h.elim) (fun o h => h.elim) (fun o h => h.elim))) (sx_mono (D1 := xS_X12_costOf) (fr_f_X12_costOf (p := p2) a6.2.1 x2 p1.2 hp2) (fun o k h => h.elim) (fun o k h => h.elim) (fun o h => h.elim) (fun o h => h.elim))) (sx_mono (D1 := xS_X12_lessOf) (fr_f_X12_lessOf (p := p3) a6.2.1 x2 p2.2 hp3) (fun o k h => h.elim) (fun o k h => h.elim) (fun o h => h.elim) (fun o h => h.elim))) (sx_mono (D1 := xS_J9_min_7cf53) (fr_f_J9_min_7cf53 (p := p4) a6.1 p3.1 p3.2 hp4) (fun o k h => h.elim) (fun o k h => h.elim) (fun o h => h.elim) (fun o h => h.elim)))
  obtain ⟨p6, hp6, hf⟩ := ax_bind hf
  exact ax_ret (P := fun q : Int64 × sx_M => sx_eq (xS_X12_reducedOf) s q.2) hf (sx_tr hvb5 (sx_mono (D1 := xS_X12_lessOf) (fr_f_X12_lessOf (p := p6) x1 x2 b5.2 hp6) (fun o k h => h.elim) (fun o k h => h.elim) (fun o h => h.elim) (fun o h => h.elim)))
abbrev xI_X12_reduced : Nat → Nat → Prop := fun o k => False
abbrev xJ_X12_reduced : Nat → Nat → Prop := fun o k => False
abbrev xA_X12_reduced : Nat → Prop := fun o => False
abbrev xB_X12_reduced : Nat → Prop := fun o => False
abbrev xS_X12_reduced : sx_D := (xI_X12_reduced, xJ_X12_reduced, xA_X12_reduced, xB_X12_reduced)
set_option maxRecDepth 100000 in
set_option maxHeartbeats 1000000 in
theorem fr_f_X12_reduced (x1 : Int32) (x2 : Int32) (s : sx_M) {p : Int64 × sx_M} (hf : f_X12_reduced x1 x2 s = some p) : sx_eq (xS_X12_reduced) s p.2 := by
  unfold f_X12_reduced at hf
  obtain ⟨p1, hp1, hf⟩ := ax_bind hf
  rcases ax_or hf with ⟨hc3, hf⟩ | ⟨hc3, hf⟩
  · exact ax_ret (P := fun q : Int64 × sx_M => sx_eq (xS_X12_reduced) s q.2) hf (sx_tr (sx_rf _ s) (sx_mono (D1 := xS_X12_isWorker) (fr_f_X12_isWorker (p := p1) x1 s hp1) (fun o k h => h.elim) (fun o k h => h.elim) (fun o h => h.elim) (fun o h => h.elim)))
  · obtain ⟨p2, hp2, hf⟩ := ax_bind hf
    rcases ax_or hf with ⟨hc2, hf⟩ | ⟨hc2, hf⟩
    · exact ax_ret (P := fun q : Int64 × sx_M => sx_eq (xS_X12_reduced) s q.2) hf (sx_tr (sx_tr (sx_rf _ s) (sx_mono (D1 := xS_X12_isWorker) (fr_f_X12_isWorker (p := p1) x1 s hp1) (fun o k h => h.elim) (fun o k h => h.elim) (fun o h => h.elim) (fun o h => h.elim))) (sx_mono (D1 := xS_X12_isJob) (fr_f_X12_isJob (p := p2) x2 p1.2 hp2) (fun o k h => h.elim) (fun o k h => h.elim) (fun o h => h.elim) (fun o h => h.elim)))
    · obtain ⟨p3, hp3, hf⟩ := ax_bind hf
      rcases ax_or hf with ⟨hc1, hf⟩ | ⟨hc1, hf⟩
      · exact ax_ret (P := fun q : Int64 × sx_M => sx_eq (xS_X12_reduced) s q.2) hf (sx_tr (sx_tr (sx_tr (sx_rf _ s) (sx_mono (D1 := xS_X12_isWorker) (fr_f_X12_isWorker (p := p1) x1 s hp1) (fun o k h => h.elim) (fun o k h => h.elim) (fun o h => h.elim) (fun o h => h.elim))) (sx_mono (D1 := xS_X12_isJob) (fr_f_X12_isJob (p := p2) x2 p1.2 hp2) (fun o k h => h.elim) (fun o k h => h.elim) (fun o h => h.elim) (fun o h => h.elim))) (sx_mono (D1 := xS_X12_costOf) (fr_f_X12_costOf (p := p3) x1 x2 p2.2 hp3) (fun o k h => h.elim) (fun o k h => h.elim) (fun o h => h.elim) (fun o h => h.elim)))
      · obtain ⟨p4, hp4, hf⟩ := ax_bind hf
        exact ax_ret (P := fun q : Int64 × sx_M => sx_eq (xS_X12_reduced) s q.2) hf (sx_tr (sx_tr (sx_tr (sx_tr (sx_rf _ s) (sx_mono (D1 := xS_X12_isWorker) (fr_f_X12_isWorker (p := p1) x1 s hp1) (fun o k h => h.elim) (fun o k h => h.elim) (fun o h => h.elim) (fun o h => h.elim))) (sx_mono (D1 := xS_X12_isJob) (fr_f_X12_isJob (p := p2) x2 p1.2 hp2) (fun o k h => h.elim) (fun o k h => h.elim) (fun o h => h.elim) (fun o h => h.elim))) (sx_mono (D1 := xS_X12_costOf) (fr_f_X12_costOf (p := p3) x1 x2 p2.2 hp3) (fun o k h => h.elim) (fun o k h => h.elim) (fun o h => h.elim) (fun o h => h.elim))) (sx_mono (D1 := xS_X12_reducedOf) (fr_f_X12_reducedOf (p := p4) x1 x2 p3.2 hp4) (fun o k h => h.elim) (fun o k h => h.elim) (fun o h => h.elim) (fun o h => h.elim)))
abbrev xI_X12_noughts : Nat → Nat → Prop := fun o k => False
abbrev xJ_X12_noughts : Nat → Nat → Prop := fun o k => False
abbrev xA_X12_noughts : Nat → Prop := fun o => False
abbrev xB_X12_noughts : Nat → Prop := fun o => False
abbrev xS_X12_noughts : sx_D := (xI_X12_noughts, xJ_X12_noughts, xA_X12_noughts, xB_X12_noughts)
set_option maxRecDepth 100000 in
set_option maxHeartbeats 1000000 in
theorem fr_f_X12_noughts (s : sx_M) {p : Int32 × sx_M} (hf : f_X12_noughts s = some p) : sx_eq (xS_X12_noughts) s p.2 := by
  unfold f_X12_noughts at hf
  obtain ⟨b6, hb6, hf⟩ := ax_bind hf
  have hvb6 := wh_inv ((0 : Int32), (0 : Int32), s) (fun a4 : Int32 × Int32 × sx_M => sx_eq (xS_X12_noughts) s a4.2.2) (fun e : Int32 × sx_M => sx_eq (xS_X12_noughts) s e.2) hb6 ?_ (sx_rf _ s)
  rotate_left
  · intro a4 r ha4 hf
    unfold f_X12_noughts_L4 at hf
    obtain ⟨p1, hp1, hf⟩ := ax_bind hf
    rcases ax_or hf with ⟨hc4, hf⟩ | ⟨hc4, hf⟩
    · exact ax_ret (P := Sum.elim (fun a4 : Int32 × Int32 × sx_M => sx_eq (xS_X12_noughts) s a4.2.2) (fun e : Int32 × sx_M => sx_eq (xS_X12_noughts) s e.2)) hf (sx_tr ha4 (sx_mono (D1 := xS_X12_workers) (fr_f_X12_workers (p := p1) a4.2.2 hp1) (fun o k h => h.elim) (fun o k h => h.elim) (fun o h => h.elim) (fun o h => h.elim)))
    · obtain ⟨b5, hb5, hf⟩ := ax_bind hf
      have hvb5 := wh_inv (a4.1, (0 : Int32), p1.2) (fun a14 : Int32 × Int32 × sx_M => sx_eq (xS_X12_noughts) s a14.2.2) (fun e : Int32 × sx_M => sx_eq (xS_X12_noughts) s e.2) hb5 ?_ (sx_tr ha4 (sx_mono (D1 := xS_X12_workers) (fr_f_X12_workers (p := p1) a4.2.2 hp1) (fun o k h => h.elim) (fun o k h => h.elim) (fun o h => h.elim) (fun o h => h.elim)))
      rotate_left
      · intro a14 r ha14 hf
        unfold f_X12_noughts_L14 at hf
        have J50 : ∀ (y3_50 : Int32) (t0_50 : Int32) (t1_50 : Int32) (s_50 : sx_M), sx_eq (xS_X12_noughts) s s_50 → f_X12_noughts_L14_J50 a4.2.1 y3_50 t0_50 t1_50 s_50 = some r → Sum.elim (fun a14 : Int32 × Int32 × sx_M => sx_eq (xS_X12_noughts) s a14.2.2) (fun e : Int32 × sx_M => sx_eq (xS_X12_noughts) s e.2) r := by
          intro y3_50 t0_50 t1_50 s_50 hs_50 hf
          unfold f_X12_noughts_L14_J50 at hf
          exact ax_ret (P := Sum.elim (fun a14 : Int32 × Int32 × sx_M => sx_eq (xS_X12_noughts) s a14.2.2) (fun e : Int32 × sx_M => sx_eq (xS_X12_noughts) s e.2)) hf hs_50
        obtain ⟨p2, hp2, hf⟩ := ax_bind hf
        rcases ax_or hf with ⟨hc3, hf⟩ | ⟨hc3, hf⟩
        · exact ax_ret (P := Sum.elim (fun a14 : Int32 × Int32 × sx_M => sx_eq (xS_X12_noughts) s a14.2.2) (fun e : Int32 × sx_M => sx_eq (xS_X12_noughts) s e.2)) hf (sx_tr ha14 (sx_mono (D1 := xS_X12_jobs) (fr_f_X12_jobs (p := p2) a14.2.2 hp2) (fun o k h => h.elim) (fun o k h => h.elim) (fun o h => h.elim) (fun o h => h.elim)))
        · obtain ⟨p3, hp3, hf⟩ := ax_bind hf
          rcases ax_or hf with ⟨hc2, hf⟩ | ⟨hc2, hf⟩
          · exact J50 a14.2.1 a14.1 (0 : Int32) p3.2 (sx_tr (sx_tr ha14 (sx_mono (D1 := xS_X12_jobs) (fr_f_X12_jobs (p := p2) a14.2.2 hp2) (fun o k h => h.elim) (fun o k h => h.elim) (fun o h => h.elim) (fun o h => h.elim))) (sx_mono (D1 := xS_X12_costOf) (fr_f_X12_costOf (p := p3) a4.2.1 a14.2.1 p2.2 hp3) (fun o k h => h.elim) (fun o k h => h.elim) (fun o h => h.elim) (fun o h => h.elim))) hf
          · obtain ⟨p4, hp4, hf⟩ := ax_bind hf
            rcases ax_or hf with ⟨hc1, hf⟩ | ⟨hc1, hf⟩
            · exact J50 a14.2.1 a14.1 (1 : Int32) p4.2 (sx_tr (sx_tr (sx_tr ha14 (sx_mono (D1 := xS_X12_jobs) (fr_f_X12_jobs (p := p2) a14.2.2 hp2) (fun o k h => h.elim) (fun o k h => h.elim) (fun o h => h.elim) (fun o h => h.elim))) (sx_mono (D1 := xS_X12_costOf) (fr_f_X12_costOf (p := p3) a4.2.1 a14.2.1 p2.2 hp3) (fun o k h => h.elim) (fun o k h => h.elim) (fun o h => h.elim) (fun o h => h.elim))) (sx_mono (D1 := xS_X12_reducedOf) (fr_f_X12_reducedOf (p := p4) a4.2.1 a14.2.1 p3.2 hp4) (fun o k h => h.elim) (fun o k h => h.elim) (fun o h => h.elim) (fun o h => h.elim))) hf
            · exact J50 a14.2.1 a14.1 (0 : Int32) p4.2 (sx_tr (sx_tr (sx_tr ha14 (sx_mono (D1 := xS_X12_jobs) (fr_f_X12_jobs (p := p2) a14.2.2 hp2) (fun o k h => h.elim) (fun o k h => h.elim) (fun o h => h.elim) (fun o h => h.elim))) (sx_mono (D1 := xS_X12_costOf) (fr_f_X12_costOf (p := p3) a4.2.1 a14.2.1 p2.2 hp3) (fun o k h => h.elim) (fun o k h => h.elim) (fun o h => h.elim) (fun o h => h.elim))) (sx_mono (D1 := xS_X12_reducedOf) (fr_f_X12_reducedOf (p := p4) a4.2.1 a14.2.1 p3.2 hp4) (fun o k h => h.elim) (fun o k h => h.elim) (fun o h => h.elim) (fun o h => h.elim))) hf
      exact ax_ret (P := Sum.elim (fun a4 : Int32 × Int32 × sx_M => sx_eq (xS_X12_noughts) s a4.2.2) (fun e : Int32 × sx_M => sx_eq (xS_X12_noughts) s e.2)) hf hvb5
  exact ax_ret (P := fun q : Int32 × sx_M => sx_eq (xS_X12_noughts) s q.2) hf hvb6
abbrev xI_X12_remembers : Nat → Nat → Prop := fun o k => False
abbrev xJ_X12_remembers : Nat → Nat → Prop := fun o k => False
abbrev xA_X12_remembers : Nat → Prop := fun o => o = 70
abbrev xB_X12_remembers : Nat → Prop := fun o => False
abbrev xS_X12_remembers : sx_D := (xI_X12_remembers, xJ_X12_remembers, xA_X12_remembers, xB_X12_remembers)
set_option maxRecDepth 100000 in
set_option maxHeartbeats 1000000 in
theorem fr_f_X12_remembers (s : sx_M) {p : sx_M} (hf : f_X12_remembers s = some p) : sx_eq (xS_X12_remembers) s p := by
  unfold f_X12_remembers at hf
  obtain ⟨b1, hb1, hf⟩ := ax_bind hf
  have hvb1 := wh_inv ((0 : Int32), s) (fun a2 : Int32 × sx_M => sx_eq (xS_X12_remembers) s a2.2) (fun e : sx_M => sx_eq (xS_X12_remembers) s e) hb1 ?_ (sx_rf _ s)
  rotate_left
  · intro a2 r ha2 hf
    unfold f_X12_remembers_L2 at hf
    rcases ax_or hf with ⟨hc3, hf⟩ | ⟨hc3, hf⟩
    · exact ax_ret (P := Sum.elim (fun a2 : Int32 × sx_M => sx_eq (xS_X12_remembers) s a2.2) (fun e : sx_M => sx_eq (xS_X12_remembers) s e)) hf ha2
    · obtain ⟨_, hf⟩ := ax_ite hf
      obtain ⟨_, hf⟩ := ax_ite hf
      exact ax_ret (P := Sum.elim (fun a2 : Int32 × sx_M => sx_eq (xS_X12_remembers) s a2.2) (fun e : sx_M => sx_eq (xS_X12_remembers) s e)) hf (sx_wA' (D := (xS_X12_remembers)) ha2 ((fun q => q) rfl))
  exact ax_ret (P := fun q : sx_M => sx_eq (xS_X12_remembers) s q) hf hvb1
abbrev xI_X12_keeps : Nat → Nat → Prop := fun o k => (o = 58 ∧ k = 2)
abbrev xJ_X12_keeps : Nat → Nat → Prop := fun o k => False
abbrev xA_X12_keeps : Nat → Prop := fun o => o = 60
abbrev xB_X12_keeps : Nat → Prop := fun o => False
abbrev xS_X12_keeps : sx_D := (xI_X12_keeps, xJ_X12_keeps, xA_X12_keeps, xB_X12_keeps)
set_option maxRecDepth 100000 in
set_option maxHeartbeats 1000000 in
theorem fr_f_X12_keeps (s : sx_M) {p : Int32 × sx_M} (hf : f_X12_keeps s = some p) : sx_eq (xS_X12_keeps) s p.2 := by
  unfold f_X12_keeps at hf
  have J96 : ∀ (s_96 : sx_M), sx_eq (xS_X12_keeps) s s_96 → f_X12_keeps_J96 s_96 = some p → sx_eq (xS_X12_keeps) s p.2 := by
    intro s_96 hs_96 hf
    unfold f_X12_keeps_J96 at hf
    obtain ⟨b1, hb1, hf⟩ := ax_bind hf
    have hvb1 := wh_inv ((0 : Int32), s_96) (fun a98 : Int32 × sx_M => sx_eq (xS_X12_keeps) s a98.2) (fun e : sx_M => sx_eq (xS_X12_keeps) s e) hb1 ?_ hs_96
    rotate_left
    · intro a98 r ha98 hf
      unfold f_X12_keeps_L98 at hf
      rcases ax_or hf with ⟨hc3, hf⟩ | ⟨hc3, hf⟩
      · exact ax_ret (P := Sum.elim (fun a98 : Int32 × sx_M => sx_eq (xS_X12_keeps) s a98.2) (fun e : sx_M => sx_eq (xS_X12_keeps) s e)) hf ha98
      · obtain ⟨_, hf⟩ := ax_ite hf
        obtain ⟨_, hf⟩ := ax_ite hf
        exact ax_ret (P := Sum.elim (fun a98 : Int32 × sx_M => sx_eq (xS_X12_keeps) s a98.2) (fun e : sx_M => sx_eq (xS_X12_keeps) s e)) hf (sx_wA' (D := (xS_X12_keeps)) ha98 ((fun q => q) rfl))
    exact ax_ret (P := fun q : Int32 × sx_M => sx_eq (xS_X12_keeps) s q.2) hf (sx_wI' (D := (xS_X12_keeps)) hvb1 ((fun q => q) ⟨rfl, rfl⟩))
  obtain ⟨b2, hb2, hf⟩ := ax_bind hf
  have hvb2 := wh_inv ((0 : Int32), (0 : Int32), s) (fun a4 : Int32 × Int32 × sx_M => sx_eq (xS_X12_keeps) s a4.2.2) (fun e : Int32 × sx_M => sx_eq (xS_X12_keeps) s e.2) hb2 ?_ (sx_rf _ s)
  rotate_left
  · intro a4 r ha4 hf
    unfold f_X12_keeps_L4 at hf
    have J29 : ∀ (y2_29 : Int32) (s_29 : sx_M), sx_eq (xS_X12_keeps) s s_29 → f_X12_keeps_L4_J29 y2_29 s_29 = some r → Sum.elim (fun a4 : Int32 × Int32 × sx_M => sx_eq (xS_X12_keeps) s a4.2.2) (fun e : Int32 × sx_M => sx_eq (xS_X12_keeps) s e.2) r := by
      intro y2_29 s_29 hs_29 hf
      unfold f_X12_keeps_L4_J29 at hf
      exact ax_ret (P := Sum.elim (fun a4 : Int32 × Int32 × sx_M => sx_eq (xS_X12_keeps) s a4.2.2) (fun e : Int32 × sx_M => sx_eq (xS_X12_keeps) s e.2)) hf hs_29
    rcases ax_or hf with ⟨hc8, hf⟩ | ⟨hc8, hf⟩
    · exact ax_ret (P := Sum.elim (fun a4 : Int32 × Int32 × sx_M => sx_eq (xS_X12_keeps) s a4.2.2) (fun e : Int32 × sx_M => sx_eq (xS_X12_keeps) s e.2)) hf ha4
    · rcases ax_or hf with ⟨hc7, hf⟩ | ⟨hc7, hf⟩
      · obtain ⟨_, hf⟩ := ax_ite hf
        obtain ⟨_, hf⟩ := ax_ite hf
        rcases ax_or hf with ⟨hc6, hf⟩ | ⟨hc6, hf⟩
        · exact ax_ret (P := Sum.elim (fun a4 : Int32 × Int32 × sx_M => sx_eq (xS_X12_keeps) s a4.2.2) (fun e : Int32 × sx_M => sx_eq (xS_X12_keeps) s e.2)) hf ha4
        · exact J29 a4.2.1 a4.2.2 ha4 hf
      · exact J29 a4.2.1 a4.2.2 ha4 hf
  rcases ax_or hf with ⟨hc13, hf⟩ | ⟨hc13, hf⟩
  · exact ax_ret (P := fun q : Int32 × sx_M => sx_eq (xS_X12_keeps) s q.2) hf hvb2
  · rcases ax_or hf with ⟨hc12, hf⟩ | ⟨hc12, hf⟩
    · obtain ⟨b3, hb3, hf⟩ := ax_bind hf
      have hvb3 := wh_inv ((0 : Int32), b2.2) (fun a58 : Int32 × sx_M => sx_eq (xS_X12_keeps) s a58.2) (fun e : sx_M => sx_eq (xS_X12_keeps) s e) hb3 ?_ hvb2
      rotate_left
      · intro a58 r ha58 hf
        unfold f_X12_keeps_L58 at hf
        rcases ax_or hf with ⟨hc11, hf⟩ | ⟨hc11, hf⟩
        · exact ax_ret (P := Sum.elim (fun a58 : Int32 × sx_M => sx_eq (xS_X12_keeps) s a58.2) (fun e : sx_M => sx_eq (xS_X12_keeps) s e)) hf ha58
        · obtain ⟨_, hf⟩ := ax_ite hf
          obtain ⟨_, hf⟩ := ax_ite hf
          exact ax_ret (P := Sum.elim (fun a58 : Int32 × sx_M => sx_eq (xS_X12_keeps) s a58.2) (fun e : sx_M => sx_eq (xS_X12_keeps) s e)) hf (sx_wA' (D := (xS_X12_keeps)) ha58 ((fun q => q) rfl))
      exact J96 (wI b3 58 2 ((rI b3 58 2) - (1 : Int32))) (sx_wI' (D := (xS_X12_keeps)) hvb3 ((fun q => q) ⟨rfl, rfl⟩)) hf
    · exact J96 b2.2 hvb2 hf
abbrev xI_X12_becomes : Nat → Nat → Prop := fun o k => (o = 58 ∧ k = 2)
abbrev xJ_X12_becomes : Nat → Nat → Prop := fun o k => False
abbrev xA_X12_becomes : Nat → Prop := fun o => o = 59 ∨ o = 60 ∨ o = 70
abbrev xB_X12_becomes : Nat → Prop := fun o => False
abbrev xS_X12_becomes : sx_D := (xI_X12_becomes, xJ_X12_becomes, xA_X12_becomes, xB_X12_becomes)
set_option maxRecDepth 100000 in
set_option maxHeartbeats 1000000 in
theorem fr_f_X12_becomes (x1 : Int32) (x2 : Int32) (x3 : Int32) (s : sx_M) {p : Int32 × sx_M} (hf : f_X12_becomes x1 x2 x3 s = some p) : sx_eq (xS_X12_becomes) s p.2 := by
  unfold f_X12_becomes at hf
  obtain ⟨p1, hp1, hf⟩ := ax_bind hf
  obtain ⟨p2, hp2, hf⟩ := ax_bind hf
  obtain ⟨_, hf⟩ := ax_ite hf
  obtain ⟨p3, hp3, hf⟩ := ax_bind hf
  rcases ax_or hf with ⟨hc2, hf⟩ | ⟨hc2, hf⟩
  · exact ax_ret (P := fun q : Int32 × sx_M => sx_eq (xS_X12_becomes) s q.2) hf (sx_tr (sx_wA' (D := (xS_X12_becomes)) (sx_tr (sx_tr (sx_rf _ s) (sx_mono (D1 := xS_X12_remembers) (fr_f_X12_remembers (p := p1) s hp1) (fun o k h => h.elim) (fun o k h => h.elim) (fun o h => (fun q => Or.inr (Or.inr (q))) h) (fun o h => h.elim))) (sx_mono (D1 := xS_X12_placeOf) (fr_f_X12_placeOf (p := p2) x1 x2 p1 hp2) (fun o k h => h.elim) (fun o k h => h.elim) (fun o h => h.elim) (fun o h => h.elim))) ((fun q => Or.inl q) rfl)) (sx_mono (D1 := xS_X12_keeps) (fr_f_X12_keeps (p := p3) (wA p2.2 59 (p2.1).toNatClampNeg x3) hp3) (fun o k h => (fun q => q) h) (fun o k h => h.elim) (fun o h => (fun q => Or.inr (Or.inl q)) h) (fun o h => h.elim)))
  · exact ax_ret (P := fun q : Int32 × sx_M => sx_eq (xS_X12_becomes) s q.2) hf (sx_tr (sx_wA' (D := (xS_X12_becomes)) (sx_tr (sx_tr (sx_rf _ s) (sx_mono (D1 := xS_X12_remembers) (fr_f_X12_remembers (p := p1) s hp1) (fun o k h => h.elim) (fun o k h => h.elim) (fun o h => (fun q => Or.inr (Or.inr (q))) h) (fun o h => h.elim))) (sx_mono (D1 := xS_X12_placeOf) (fr_f_X12_placeOf (p := p2) x1 x2 p1 hp2) (fun o k h => h.elim) (fun o k h => h.elim) (fun o h => h.elim) (fun o h => h.elim))) ((fun q => Or.inl q) rfl)) (sx_mono (D1 := xS_X12_keeps) (fr_f_X12_keeps (p := p3) (wA p2.2 59 (p2.1).toNatClampNeg x3) hp3) (fun o k h => (fun q => q) h) (fun o k h => h.elim) (fun o h => (fun q => Or.inr (Or.inl q)) h) (fun o h => h.elim)))
abbrev xI_X12_sets : Nat → Nat → Prop := fun o k => (o = 58 ∧ k = 2)
abbrev xJ_X12_sets : Nat → Nat → Prop := fun o k => False
abbrev xA_X12_sets : Nat → Prop := fun o => o = 59 ∨ o = 60 ∨ o = 70
abbrev xB_X12_sets : Nat → Prop := fun o => False
abbrev xS_X12_sets : sx_D := (xI_X12_sets, xJ_X12_sets, xA_X12_sets, xB_X12_sets)
set_option maxRecDepth 100000 in
set_option maxHeartbeats 1000000 in
theorem fr_f_X12_sets (x1 : Int32) (x2 : Int32) (x3 : Int32) (s : sx_M) {p : Int32 × sx_M} (hf : f_X12_sets x1 x2 x3 s = some p) : sx_eq (xS_X12_sets) s p.2 := by
  unfold f_X12_sets at hf
  obtain ⟨p1, hp1, hf⟩ := ax_bind hf
  rcases ax_or hf with ⟨hc3, hf⟩ | ⟨hc3, hf⟩
  · exact ax_ret (P := fun q : Int32 × sx_M => sx_eq (xS_X12_sets) s q.2) hf (sx_tr (sx_rf _ s) (sx_mono (D1 := xS_X12_isWorker) (fr_f_X12_isWorker (p := p1) x1 s hp1) (fun o k h => h.elim) (fun o k h => h.elim) (fun o h => h.elim) (fun o h => h.elim)))
  · obtain ⟨p2, hp2, hf⟩ := ax_bind hf
    rcases ax_or hf with ⟨hc2, hf⟩ | ⟨hc2, hf⟩
    · exact ax_ret (P := fun q : Int32 × sx_M => sx_eq (xS_X12_sets) s q.2) hf (sx_tr (sx_tr (sx_rf _ s) (sx_mono (D1 := xS_X12_isWorker) (fr_f_X12_isWorker (p := p1) x1 s hp1) (fun o k h => h.elim) (fun o k h => h.elim) (fun o h => h.elim) (fun o h => h.elim))) (sx_mono (D1 := xS_X12_isJob) (fr_f_X12_isJob (p := p2) x2 p1.2 hp2) (fun o k h => h.elim) (fun o k h => h.elim) (fun o h => h.elim) (fun o h => h.elim)))
    · obtain ⟨p3, hp3, hf⟩ := ax_bind hf
      rcases ax_or hf with ⟨hc1, hf⟩ | ⟨hc1, hf⟩
      · exact ax_ret (P := fun q : Int32 × sx_M => sx_eq (xS_X12_sets) s q.2) hf (sx_tr (sx_tr (sx_tr (sx_rf _ s) (sx_mono (D1 := xS_X12_isWorker) (fr_f_X12_isWorker (p := p1) x1 s hp1) (fun o k h => h.elim) (fun o k h => h.elim) (fun o h => h.elim) (fun o h => h.elim))) (sx_mono (D1 := xS_X12_isJob) (fr_f_X12_isJob (p := p2) x2 p1.2 hp2) (fun o k h => h.elim) (fun o k h => h.elim) (fun o h => h.elim) (fun o h => h.elim))) (sx_mono (D1 := xS_X12_isCost) (fr_f_X12_isCost (p := p3) ((x3).toInt64) p2.2 hp3) (fun o k h => h.elim) (fun o k h => h.elim) (fun o h => h.elim) (fun o h => h.elim)))
      · obtain ⟨p4, hp4, hf⟩ := ax_bind hf
        exact ax_ret (P := fun q : Int32 × sx_M => sx_eq (xS_X12_sets) s q.2) hf (sx_tr (sx_tr (sx_tr (sx_tr (sx_rf _ s) (sx_mono (D1 := xS_X12_isWorker) (fr_f_X12_isWorker (p := p1) x1 s hp1) (fun o k h => h.elim) (fun o k h => h.elim) (fun o h => h.elim) (fun o h => h.elim))) (sx_mono (D1 := xS_X12_isJob) (fr_f_X12_isJob (p := p2) x2 p1.2 hp2) (fun o k h => h.elim) (fun o k h => h.elim) (fun o h => h.elim) (fun o h => h.elim))) (sx_mono (D1 := xS_X12_isCost) (fr_f_X12_isCost (p := p3) ((x3).toInt64) p2.2 hp3) (fun o k h => h.elim) (fun o k h => h.elim) (fun o h => h.elim) (fun o h => h.elim))) (sx_mono (D1 := xS_X12_becomes) (fr_f_X12_becomes (p := p4) x1 x2 x3 p3.2 hp4) (fun o k h => (fun q => q) h) (fun o k h => h.elim) (fun o h => Or.elim h (fun q => (fun q => Or.inl q) q) (fun q0 => Or.elim q0 (fun q => (fun q => Or.inr (Or.inl q)) q) (fun q1 => (fun q => Or.inr (Or.inr (q))) q1))) (fun o h => h.elim)))
abbrev xI_X12_bars : Nat → Nat → Prop := fun o k => (o = 58 ∧ k = 2)
abbrev xJ_X12_bars : Nat → Nat → Prop := fun o k => False
abbrev xA_X12_bars : Nat → Prop := fun o => o = 59 ∨ o = 60 ∨ o = 70
abbrev xB_X12_bars : Nat → Prop := fun o => False
abbrev xS_X12_bars : sx_D := (xI_X12_bars, xJ_X12_bars, xA_X12_bars, xB_X12_bars)
set_option maxRecDepth 100000 in
set_option maxHeartbeats 1000000 in
theorem fr_f_X12_bars (x1 : Int32) (x2 : Int32) (s : sx_M) {p : Int32 × sx_M} (hf : f_X12_bars x1 x2 s = some p) : sx_eq (xS_X12_bars) s p.2 := by
  unfold f_X12_bars at hf
  obtain ⟨p1, hp1, hf⟩ := ax_bind hf
  rcases ax_or hf with ⟨hc2, hf⟩ | ⟨hc2, hf⟩
  · exact ax_ret (P := fun q : Int32 × sx_M => sx_eq (xS_X12_bars) s q.2) hf (sx_tr (sx_rf _ s) (sx_mono (D1 := xS_X12_isWorker) (fr_f_X12_isWorker (p := p1) x1 s hp1) (fun o k h => h.elim) (fun o k h => h.elim) (fun o h => h.elim) (fun o h => h.elim)))
  · obtain ⟨p2, hp2, hf⟩ := ax_bind hf
    rcases ax_or hf with ⟨hc1, hf⟩ | ⟨hc1, hf⟩
    · exact ax_ret (P := fun q : Int32 × sx_M => sx_eq (xS_X12_bars) s q.2) hf (sx_tr (sx_tr (sx_rf _ s) (sx_mono (D1 := xS_X12_isWorker) (fr_f_X12_isWorker (p := p1) x1 s hp1) (fun o k h => h.elim) (fun o k h => h.elim) (fun o h => h.elim) (fun o h => h.elim))) (sx_mono (D1 := xS_X12_isJob) (fr_f_X12_isJob (p := p2) x2 p1.2 hp2) (fun o k h => h.elim) (fun o k h => h.elim) (fun o h => h.elim) (fun o h => h.elim)))
    · obtain ⟨p3, hp3, hf⟩ := ax_bind hf
      exact ax_ret (P := fun q : Int32 × sx_M => sx_eq (xS_X12_bars) s q.2) hf (sx_tr (sx_tr (sx_tr (sx_rf _ s) (sx_mono (D1 := xS_X12_isWorker) (fr_f_X12_isWorker (p := p1) x1 s hp1) (fun o k h => h.elim) (fun o k h => h.elim) (fun o h => h.elim) (fun o h => h.elim))) (sx_mono (D1 := xS_X12_isJob) (fr_f_X12_isJob (p := p2) x2 p1.2 hp2) (fun o k h => h.elim) (fun o k h => h.elim) (fun o h => h.elim) (fun o h => h.elim))) (sx_mono (D1 := xS_X12_becomes) (fr_f_X12_becomes (p := p3) x1 x2 (2147483647 : Int32) p2.2 hp3) (fun o k h => (fun q => q) h) (fun o k h => h.elim) (fun o h => Or.elim h (fun q => (fun q => Or.inl q) q) (fun q0 => Or.elim q0 (fun q => (fun q => Or.inr (Or.inl q)) q) (fun q1 => (fun q => Or.inr (Or.inr (q))) q1))) (fun o h => h.elim)))
abbrev xI_X12_tilts : Nat → Nat → Prop := fun o k => (o = 58 ∧ k = 2)
abbrev xJ_X12_tilts : Nat → Nat → Prop := fun o k => False
abbrev xA_X12_tilts : Nat → Prop := fun o => o = 59 ∨ o = 60 ∨ o = 70
abbrev xB_X12_tilts : Nat → Prop := fun o => False
abbrev xS_X12_tilts : sx_D := (xI_X12_tilts, xJ_X12_tilts, xA_X12_tilts, xB_X12_tilts)
set_option maxRecDepth 100000 in
set_option maxHeartbeats 1000000 in
theorem fr_f_X12_tilts (x1 : Int32) (x2 : Int32) (x3 : Int32) (s : sx_M) {p : Int32 × sx_M} (hf : f_X12_tilts x1 x2 x3 s = some p) : sx_eq (xS_X12_tilts) s p.2 := by
  unfold f_X12_tilts at hf
  have J55 : ∀ (y1_55 : Int32) (y2_55 : Int32) (y3_55 : Int32) (t0_55 : Int32) (s_55 : sx_M), sx_eq (xS_X12_tilts) s s_55 → f_X12_tilts_J55 y1_55 y2_55 y3_55 t0_55 s_55 = some p → sx_eq (xS_X12_tilts) s p.2 := by
    intro y1_55 y2_55 y3_55 t0_55 s_55 hs_55 hf
    unfold f_X12_tilts_J55 at hf
    obtain ⟨b4, hb4, hf⟩ := ax_bind hf
    have hvb4 := wh_inv ((0 : Int32), s_55) (fun a60 : Int32 × sx_M => sx_eq (xS_X12_tilts) s a60.2) (Sum.elim (fun e : sx_M => sx_eq (xS_X12_tilts) s e) (fun v : Int32 × sx_M => sx_eq (xS_X12_tilts) s v.2)) hb4 ?_ hs_55
    rotate_left
    · intro a60 r ha60 hf
      unfold f_X12_tilts_L60 at hf
      have J88 : ∀ (y6_88 : Int32) (t0_88 : Int32) (s_88 : sx_M), sx_eq (xS_X12_tilts) s s_88 → f_X12_tilts_L60_J88 y1_55 y2_55 y3_55 t0_55 y6_88 t0_88 s_88 = some r → Sum.elim (fun a60 : Int32 × sx_M => sx_eq (xS_X12_tilts) s a60.2) (Sum.elim (fun e : sx_M => sx_eq (xS_X12_tilts) s e) (fun v : Int32 × sx_M => sx_eq (xS_X12_tilts) s v.2)) r := by
        intro y6_88 t0_88 s_88 hs_88 hf
        unfold f_X12_tilts_L60_J88 at hf
        rcases ax_or hf with ⟨hc2, hf⟩ | ⟨hc2, hf⟩
        · exact ax_ret (P := Sum.elim (fun a60 : Int32 × sx_M => sx_eq (xS_X12_tilts) s a60.2) (Sum.elim (fun e : sx_M => sx_eq (xS_X12_tilts) s e) (fun v : Int32 × sx_M => sx_eq (xS_X12_tilts) s v.2))) hf hs_88
        · obtain ⟨p1, hp1, hf⟩ := ax_bind hf
          rcases ax_or hf with ⟨hc1, hf⟩ | ⟨hc1, hf⟩
          · exact ax_ret (P := Sum.elim (fun a60 : Int32 × sx_M => sx_eq (xS_X12_tilts) s a60.2) (Sum.elim (fun e : sx_M => sx_eq (xS_X12_tilts) s e) (fun v : Int32 × sx_M => sx_eq (xS_X12_tilts) s v.2))) hf (sx_tr hs_88 (sx_mono (D1 := xS_X12_isCost) (fr_f_X12_isCost (p := p1) ((t0_88).toInt64 + (y2_55).toInt64) s_88 hp1) (fun o k h => h.elim) (fun o k h => h.elim) (fun o h => h.elim) (fun o h => h.elim)))
          · exact ax_ret (P := Sum.elim (fun a60 : Int32 × sx_M => sx_eq (xS_X12_tilts) s a60.2) (Sum.elim (fun e : sx_M => sx_eq (xS_X12_tilts) s e) (fun v : Int32 × sx_M => sx_eq (xS_X12_tilts) s v.2))) hf (sx_tr hs_88 (sx_mono (D1 := xS_X12_isCost) (fr_f_X12_isCost (p := p1) ((t0_88).toInt64 + (y2_55).toInt64) s_88 hp1) (fun o k h => h.elim) (fun o k h => h.elim) (fun o h => h.elim) (fun o h => h.elim)))
      rcases ax_or hf with ⟨hc4, hf⟩ | ⟨hc4, hf⟩
      · exact ax_ret (P := Sum.elim (fun a60 : Int32 × sx_M => sx_eq (xS_X12_tilts) s a60.2) (Sum.elim (fun e : sx_M => sx_eq (xS_X12_tilts) s e) (fun v : Int32 × sx_M => sx_eq (xS_X12_tilts) s v.2))) hf ha60
      · rcases ax_or hf with ⟨hc3, hf⟩ | ⟨hc3, hf⟩
        · obtain ⟨p3, hp3, hf⟩ := ax_bind hf
          exact J88 a60.1 p3.1 p3.2 (sx_tr ha60 (sx_mono (D1 := xS_X12_costOf) (fr_f_X12_costOf (p := p3) y1_55 a60.1 a60.2 hp3) (fun o k h => h.elim) (fun o k h => h.elim) (fun o h => h.elim) (fun o h => h.elim))) hf
        · obtain ⟨p2, hp2, hf⟩ := ax_bind hf
          exact J88 a60.1 p2.1 p2.2 (sx_tr ha60 (sx_mono (D1 := xS_X12_costOf) (fr_f_X12_costOf (p := p2) a60.1 y1_55 a60.2 hp2) (fun o k h => h.elim) (fun o k h => h.elim) (fun o h => h.elim) (fun o h => h.elim))) hf
    rcases b4 with e5 | e11
    · obtain ⟨p6, hp6, hf⟩ := ax_bind hf
      obtain ⟨b9, hb9, hf⟩ := ax_bind hf
      have hvb9 := wh_inv ((0 : Int32), (0 : Int32), p6) (fun a128 : Int32 × Int32 × sx_M => sx_eq (xS_X12_tilts) s a128.2.2) (fun e : Int32 × sx_M => sx_eq (xS_X12_tilts) s e.2) hb9 ?_ (sx_tr hvb4 (sx_mono (D1 := xS_X12_remembers) (fr_f_X12_remembers (p := p6) e5 hp6) (fun o k h => h.elim) (fun o k h => h.elim) (fun o h => (fun q => Or.inr (Or.inr (q))) h) (fun o h => h.elim)))
      rotate_left
      · intro a128 r ha128 hf
        unfold f_X12_tilts_L128 at hf
        have J154 : ∀ (y6_154 : Int32) (y7_154 : Int32) (t0_154 : Int32) (s_154 : sx_M), sx_eq (xS_X12_tilts) s s_154 → f_X12_tilts_L128_J154 y1_55 y2_55 y3_55 t0_55 y6_154 y7_154 t0_154 s_154 = some r → Sum.elim (fun a128 : Int32 × Int32 × sx_M => sx_eq (xS_X12_tilts) s a128.2.2) (fun e : Int32 × sx_M => sx_eq (xS_X12_tilts) s e.2) r := by
          intro y6_154 y7_154 t0_154 s_154 hs_154 hf
          unfold f_X12_tilts_L128_J154 at hf
          obtain ⟨_, hf⟩ := ax_ite hf
          rcases ax_or hf with ⟨hc8, hf⟩ | ⟨hc8, hf⟩
          · exact ax_ret (P := Sum.elim (fun a128 : Int32 × Int32 × sx_M => sx_eq (xS_X12_tilts) s a128.2.2) (fun e : Int32 × sx_M => sx_eq (xS_X12_tilts) s e.2)) hf hs_154
          · obtain ⟨_, hf⟩ := ax_ite hf
            obtain ⟨_, hf⟩ := ax_ite hf
            exact ax_ret (P := Sum.elim (fun a128 : Int32 × Int32 × sx_M => sx_eq (xS_X12_tilts) s a128.2.2) (fun e : Int32 × sx_M => sx_eq (xS_X12_tilts) s e.2)) hf (sx_wA' (D := (xS_X12_tilts)) hs_154 ((fun q => Or.inl q) rfl))
        rcases ax_or hf with ⟨hc10, hf⟩ | ⟨hc10, hf⟩
        · exact ax_ret (P := Sum.elim (fun a128 : Int32 × Int32 × sx_M => sx_eq (xS_X12_tilts) s a128.2.2) (fun e : Int32 × sx_M => sx_eq (xS_X12_tilts) s e.2)) hf ha128
        · rcases ax_or hf with ⟨hc9, hf⟩ | ⟨hc9, hf⟩
          · obtain ⟨p8, hp8, hf⟩ := ax_bind hf
            exact J154 a128.1 a128.2.1 p8.1 p8.2 (sx_tr ha128 (sx_mono (D1 := xS_X12_placeOf) (fr_f_X12_placeOf (p := p8) y1_55 a128.2.1 a128.2.2 hp8) (fun o k h => h.elim) (fun o k h => h.elim) (fun o h => h.elim) (fun o h => h.elim))) hf
          · obtain ⟨p7, hp7, hf⟩ := ax_bind hf
            exact J154 a128.1 a128.2.1 p7.1 p7.2 (sx_tr ha128 (sx_mono (D1 := xS_X12_placeOf) (fr_f_X12_placeOf (p := p7) a128.2.1 y1_55 a128.2.2 hp7) (fun o k h => h.elim) (fun o k h => h.elim) (fun o h => h.elim) (fun o h => h.elim))) hf
      obtain ⟨p10, hp10, hf⟩ := ax_bind hf
      exact ax_ret (P := fun q : Int32 × sx_M => sx_eq (xS_X12_tilts) s q.2) hf (sx_tr hvb9 (sx_mono (D1 := xS_X12_keeps) (fr_f_X12_keeps (p := p10) b9.2 hp10) (fun o k h => (fun q => q) h) (fun o k h => h.elim) (fun o h => (fun q => Or.inr (Or.inl q)) h) (fun o h => h.elim)))
    · exact ax_ret (P := fun q : Int32 × sx_M => sx_eq (xS_X12_tilts) s q.2) hf hvb4
  have J30 : ∀ (y1_30 : Int32) (y2_30 : Int32) (y3_30 : Int32) (t0_30 : Int32) (s_30 : sx_M), sx_eq (xS_X12_tilts) s s_30 → f_X12_tilts_J30 y1_30 y2_30 y3_30 t0_30 s_30 = some p → sx_eq (xS_X12_tilts) s p.2 := by
    intro y1_30 y2_30 y3_30 t0_30 s_30 hs_30 hf
    unfold f_X12_tilts_J30 at hf
    rcases ax_or hf with ⟨hc12, hf⟩ | ⟨hc12, hf⟩
    · exact ax_ret (P := fun q : Int32 × sx_M => sx_eq (xS_X12_tilts) s q.2) hf hs_30
    · rcases ax_or hf with ⟨hc11, hf⟩ | ⟨hc11, hf⟩
      · obtain ⟨p13, hp13, hf⟩ := ax_bind hf
        exact J55 y1_30 y2_30 y3_30 p13.1 p13.2 (sx_tr hs_30 (sx_mono (D1 := xS_X12_jobs) (fr_f_X12_jobs (p := p13) s_30 hp13) (fun o k h => h.elim) (fun o k h => h.elim) (fun o h => h.elim) (fun o h => h.elim))) hf
      · obtain ⟨p12, hp12, hf⟩ := ax_bind hf
        exact J55 y1_30 y2_30 y3_30 p12.1 p12.2 (sx_tr hs_30 (sx_mono (D1 := xS_X12_workers) (fr_f_X12_workers (p := p12) s_30 hp12) (fun o k h => h.elim) (fun o k h => h.elim) (fun o h => h.elim) (fun o h => h.elim))) hf
  have J12 : ∀ (y1_12 : Int32) (y2_12 : Int32) (y3_12 : Int32) (s_12 : sx_M), sx_eq (xS_X12_tilts) s s_12 → f_X12_tilts_J12 y1_12 y2_12 y3_12 s_12 = some p → sx_eq (xS_X12_tilts) s p.2 := by
    intro y1_12 y2_12 y3_12 s_12 hs_12 hf
    unfold f_X12_tilts_J12 at hf
    rcases ax_or hf with ⟨hc14, hf⟩ | ⟨hc14, hf⟩
    · obtain ⟨p14, hp14, hf⟩ := ax_bind hf
      rcases ax_or hf with ⟨hc13, hf⟩ | ⟨hc13, hf⟩
      · exact J30 y1_12 y2_12 y3_12 (0 : Int32) p14.2 (sx_tr hs_12 (sx_mono (D1 := xS_X12_isJob) (fr_f_X12_isJob (p := p14) y1_12 s_12 hp14) (fun o k h => h.elim) (fun o k h => h.elim) (fun o h => h.elim) (fun o h => h.elim))) hf
      · exact J30 y1_12 y2_12 y3_12 (1 : Int32) p14.2 (sx_tr hs_12 (sx_mono (D1 := xS_X12_isJob) (fr_f_X12_isJob (p := p14) y1_12 s_12 hp14) (fun o k h => h.elim) (fun o k h => h.elim) (fun o h => h.elim) (fun o h => h.elim))) hf
    · exact J30 y1_12 y2_12 y3_12 (0 : Int32) s_12 hs_12 hf
  rcases ax_or hf with ⟨hc16, hf⟩ | ⟨hc16, hf⟩
  · obtain ⟨p15, hp15, hf⟩ := ax_bind hf
    rcases ax_or hf with ⟨hc15, hf⟩ | ⟨hc15, hf⟩
    · exact J12 x1 x2 x3 p15.2 (sx_tr (sx_rf _ s) (sx_mono (D1 := xS_X12_isWorker) (fr_f_X12_isWorker (p := p15) x1 s hp15) (fun o k h => h.elim) (fun o k h => h.elim) (fun o h => h.elim) (fun o h => h.elim))) hf
    · exact J30 x1 x2 x3 (1 : Int32) p15.2 (sx_tr (sx_rf _ s) (sx_mono (D1 := xS_X12_isWorker) (fr_f_X12_isWorker (p := p15) x1 s hp15) (fun o k h => h.elim) (fun o k h => h.elim) (fun o h => h.elim) (fun o h => h.elim))) hf
  · exact J12 x1 x2 x3 s (sx_rf _ s) hf
abbrev xI_X12_comes : Nat → Nat → Prop := fun o k => (o = 58 ∧ k = 2)
abbrev xJ_X12_comes : Nat → Nat → Prop := fun o k => False
abbrev xA_X12_comes : Nat → Prop := fun o => o = 59 ∨ o = 60 ∨ o = 70
abbrev xB_X12_comes : Nat → Prop := fun o => False
abbrev xS_X12_comes : sx_D := (xI_X12_comes, xJ_X12_comes, xA_X12_comes, xB_X12_comes)
set_option maxRecDepth 100000 in
set_option maxHeartbeats 1000000 in
theorem fr_f_X12_comes (x1 : Int32) (x2 : Int32) (s : sx_M) {p : Int32 × sx_M} (hf : f_X12_comes x1 x2 s = some p) : sx_eq (xS_X12_comes) s p.2 := by
  unfold f_X12_comes at hf
  have J49 : ∀ (y1_49 : Int32) (y2_49 : Int32) (s_49 : sx_M), sx_eq (xS_X12_comes) s s_49 → f_X12_comes_J49 y1_49 y2_49 s_49 = some p → sx_eq (xS_X12_comes) s p.2 := by
    intro y1_49 y2_49 s_49 hs_49 hf
    unfold f_X12_comes_J49 at hf
    obtain ⟨p1, hp1, hf⟩ := ax_bind hf
    obtain ⟨b8, hb8, hf⟩ := ax_bind hf
    have hvb8 := wh_inv ((0 : Int32), p1) (fun a55 : Int32 × sx_M => sx_eq (xS_X12_comes) s a55.2) (fun e : sx_M => sx_eq (xS_X12_comes) s e) hb8 ?_ (sx_tr hs_49 (sx_mono (D1 := xS_X12_remembers) (fr_f_X12_remembers (p := p1) s_49 hp1) (fun o k h => h.elim) (fun o k h => h.elim) (fun o h => (fun q => Or.inr (Or.inr (q))) h) (fun o h => h.elim)))
    rotate_left
    · intro a55 r ha55 hf
      unfold f_X12_comes_L55 at hf
      have J101 : ∀ (y3_101 : Int32) (t1_101 : Int32) (s_101 : sx_M), sx_eq (xS_X12_comes) s s_101 → f_X12_comes_L55_J101 y1_49 y2_49 y3_101 t1_101 s_101 = some r → Sum.elim (fun a55 : Int32 × sx_M => sx_eq (xS_X12_comes) s a55.2) (fun e : sx_M => sx_eq (xS_X12_comes) s e) r := by
        intro y3_101 t1_101 s_101 hs_101 hf
        unfold f_X12_comes_L55_J101 at hf
        obtain ⟨_, hf⟩ := ax_ite hf
        exact ax_ret (P := Sum.elim (fun a55 : Int32 × sx_M => sx_eq (xS_X12_comes) s a55.2) (fun e : sx_M => sx_eq (xS_X12_comes) s e)) hf (sx_wA' (D := (xS_X12_comes)) hs_101 ((fun q => Or.inl q) rfl))
      have J71 : ∀ (y3_71 : Int32) (t0_71 : Int32) (t1_71 : Int32) (s_71 : sx_M), sx_eq (xS_X12_comes) s s_71 → f_X12_comes_L55_J71 y1_49 y2_49 y3_71 t0_71 t1_71 s_71 = some r → Sum.elim (fun a55 : Int32 × sx_M => sx_eq (xS_X12_comes) s a55.2) (fun e : sx_M => sx_eq (xS_X12_comes) s e) r := by
        intro y3_71 t0_71 t1_71 s_71 hs_71 hf
        unfold f_X12_comes_L55_J71 at hf
        rcases ax_or hf with ⟨hc3, hf⟩ | ⟨hc3, hf⟩
        · exact ax_ret (P := Sum.elim (fun a55 : Int32 × sx_M => sx_eq (xS_X12_comes) s a55.2) (fun e : sx_M => sx_eq (xS_X12_comes) s e)) hf hs_71
        · rcases ax_or hf with ⟨hc2, hf⟩ | ⟨hc2, hf⟩
          · obtain ⟨p4, hp4, hf⟩ := ax_bind hf
            obtain ⟨p5, hp5, hf⟩ := ax_bind hf
            exact J101 y3_71 p5.1 p5.2 (sx_tr (sx_tr hs_71 (sx_mono (D1 := xS_X12_workers) (fr_f_X12_workers (p := p4) s_71 hp4) (fun o k h => h.elim) (fun o k h => h.elim) (fun o h => h.elim) (fun o h => h.elim))) (sx_mono (D1 := xS_X12_placeOf) (fr_f_X12_placeOf (p := p5) p4.1 y3_71 p4.2 hp5) (fun o k h => h.elim) (fun o k h => h.elim) (fun o h => h.elim) (fun o h => h.elim))) hf
          · obtain ⟨p2, hp2, hf⟩ := ax_bind hf
            obtain ⟨p3, hp3, hf⟩ := ax_bind hf
            exact J101 y3_71 p3.1 p3.2 (sx_tr (sx_tr hs_71 (sx_mono (D1 := xS_X12_jobs) (fr_f_X12_jobs (p := p2) s_71 hp2) (fun o k h => h.elim) (fun o k h => h.elim) (fun o h => h.elim) (fun o h => h.elim))) (sx_mono (D1 := xS_X12_placeOf) (fr_f_X12_placeOf (p := p3) y3_71 p2.1 p2.2 hp3) (fun o k h => h.elim) (fun o k h => h.elim) (fun o h => h.elim) (fun o h => h.elim))) hf
      rcases ax_or hf with ⟨hc4, hf⟩ | ⟨hc4, hf⟩
      · obtain ⟨p7, hp7, hf⟩ := ax_bind hf
        exact J71 a55.1 a55.1 p7.1 p7.2 (sx_tr ha55 (sx_mono (D1 := xS_X12_jobs) (fr_f_X12_jobs (p := p7) a55.2 hp7) (fun o k h => h.elim) (fun o k h => h.elim) (fun o h => h.elim) (fun o h => h.elim))) hf
      · obtain ⟨p6, hp6, hf⟩ := ax_bind hf
        exact J71 a55.1 a55.1 p6.1 p6.2 (sx_tr ha55 (sx_mono (D1 := xS_X12_workers) (fr_f_X12_workers (p := p6) a55.2 hp6) (fun o k h => h.elim) (fun o k h => h.elim) (fun o h => h.elim) (fun o h => h.elim))) hf
    obtain ⟨_, hf⟩ := ax_ite hf
    obtain ⟨_, hf⟩ := ax_ite hf
    obtain ⟨p9, hp9, hf⟩ := ax_bind hf
    obtain ⟨_, hf⟩ := ax_ite hf
    exact ax_ret (P := fun q : Int32 × sx_M => sx_eq (xS_X12_comes) s q.2) hf (sx_tr (sx_wA' (D := (xS_X12_comes)) hvb8 ((fun q => Or.inl q) rfl)) (sx_mono (D1 := xS_X12_keeps) (fr_f_X12_keeps (p := p9) (wA b8 59 (y1_49).toNatClampNeg ((rA b8 59 (y1_49).toNatClampNeg) + (1 : Int32))) hp9) (fun o k h => (fun q => q) h) (fun o k h => h.elim) (fun o h => (fun q => Or.inr (Or.inl q)) h) (fun o h => h.elim)))
  obtain ⟨p10, hp10, hf⟩ := ax_bind hf
  rcases ax_or hf with ⟨hc12, hf⟩ | ⟨hc12, hf⟩
  · exact ax_ret (P := fun q : Int32 × sx_M => sx_eq (xS_X12_comes) s q.2) hf (sx_tr (sx_rf _ s) (sx_mono (D1 := xS_X12_in) (fr_f_X12_in (p := p10) ((x1).toInt64) (0 : Int64) (1 : Int64) s hp10) (fun o k h => h.elim) (fun o k h => h.elim) (fun o h => h.elim) (fun o h => h.elim)))
  · obtain ⟨p11, hp11, hf⟩ := ax_bind hf
    rcases ax_or hf with ⟨hc11, hf⟩ | ⟨hc11, hf⟩
    · exact ax_ret (P := fun q : Int32 × sx_M => sx_eq (xS_X12_comes) s q.2) hf (sx_tr (sx_tr (sx_rf _ s) (sx_mono (D1 := xS_X12_in) (fr_f_X12_in (p := p10) ((x1).toInt64) (0 : Int64) (1 : Int64) s hp10) (fun o k h => h.elim) (fun o k h => h.elim) (fun o h => h.elim) (fun o h => h.elim))) (sx_mono (D1 := xS_X12_isCost) (fr_f_X12_isCost (p := p11) ((x2).toInt64) p10.2 hp11) (fun o k h => h.elim) (fun o k h => h.elim) (fun o h => h.elim) (fun o h => h.elim)))
    · rcases ax_or hf with ⟨hc10, hf⟩ | ⟨hc10, hf⟩
      · obtain ⟨p13, hp13, hf⟩ := ax_bind hf
        rcases ax_or hf with ⟨hc9, hf⟩ | ⟨hc9, hf⟩
        · exact ax_ret (P := fun q : Int32 × sx_M => sx_eq (xS_X12_comes) s q.2) hf (sx_tr (sx_tr (sx_tr (sx_rf _ s) (sx_mono (D1 := xS_X12_in) (fr_f_X12_in (p := p10) ((x1).toInt64) (0 : Int64) (1 : Int64) s hp10) (fun o k h => h.elim) (fun o k h => h.elim) (fun o h => h.elim) (fun o h => h.elim))) (sx_mono (D1 := xS_X12_isCost) (fr_f_X12_isCost (p := p11) ((x2).toInt64) p10.2 hp11) (fun o k h => h.elim) (fun o k h => h.elim) (fun o h => h.elim) (fun o h => h.elim))) (sx_mono (D1 := xS_X12_workers) (fr_f_X12_workers (p := p13) p11.2 hp13) (fun o k h => h.elim) (fun o k h => h.elim) (fun o h => h.elim) (fun o h => h.elim)))
        · exact J49 x1 x2 p13.2 (sx_tr (sx_tr (sx_tr (sx_rf _ s) (sx_mono (D1 := xS_X12_in) (fr_f_X12_in (p := p10) ((x1).toInt64) (0 : Int64) (1 : Int64) s hp10) (fun o k h => h.elim) (fun o k h => h.elim) (fun o h => h.elim) (fun o h => h.elim))) (sx_mono (D1 := xS_X12_isCost) (fr_f_X12_isCost (p := p11) ((x2).toInt64) p10.2 hp11) (fun o k h => h.elim) (fun o k h => h.elim) (fun o h => h.elim) (fun o h => h.elim))) (sx_mono (D1 := xS_X12_workers) (fr_f_X12_workers (p := p13) p11.2 hp13) (fun o k h => h.elim) (fun o k h => h.elim) (fun o h => h.elim) (fun o h => h.elim))) hf
      · obtain ⟨p12, hp12, hf⟩ := ax_bind hf
        rcases ax_or hf with ⟨hc8, hf⟩ | ⟨hc8, hf⟩
        · exact ax_ret (P := fun q : Int32 × sx_M => sx_eq (xS_X12_comes) s q.2) hf (sx_tr (sx_tr (sx_tr (sx_rf _ s) (sx_mono (D1 := xS_X12_in) (fr_f_X12_in (p := p10) ((x1).toInt64) (0 : Int64) (1 : Int64) s hp10) (fun o k h => h.elim) (fun o k h => h.elim) (fun o h => h.elim) (fun o h => h.elim))) (sx_mono (D1 := xS_X12_isCost) (fr_f_X12_isCost (p := p11) ((x2).toInt64) p10.2 hp11) (fun o k h => h.elim) (fun o k h => h.elim) (fun o h => h.elim) (fun o h => h.elim))) (sx_mono (D1 := xS_X12_jobs) (fr_f_X12_jobs (p := p12) p11.2 hp12) (fun o k h => h.elim) (fun o k h => h.elim) (fun o h => h.elim) (fun o h => h.elim)))
        · exact J49 x1 x2 p12.2 (sx_tr (sx_tr (sx_tr (sx_rf _ s) (sx_mono (D1 := xS_X12_in) (fr_f_X12_in (p := p10) ((x1).toInt64) (0 : Int64) (1 : Int64) s hp10) (fun o k h => h.elim) (fun o k h => h.elim) (fun o h => h.elim) (fun o h => h.elim))) (sx_mono (D1 := xS_X12_isCost) (fr_f_X12_isCost (p := p11) ((x2).toInt64) p10.2 hp11) (fun o k h => h.elim) (fun o k h => h.elim) (fun o h => h.elim) (fun o h => h.elim))) (sx_mono (D1 := xS_X12_jobs) (fr_f_X12_jobs (p := p12) p11.2 hp12) (fun o k h => h.elim) (fun o k h => h.elim) (fun o h => h.elim) (fun o h => h.elim))) hf
abbrev xI_X12_goes : Nat → Nat → Prop := fun o k => (o = 58 ∧ k = 2)
abbrev xJ_X12_goes : Nat → Nat → Prop := fun o k => False
abbrev xA_X12_goes : Nat → Prop := fun o => o = 59 ∨ o = 60 ∨ o = 70
abbrev xB_X12_goes : Nat → Prop := fun o => False
abbrev xS_X12_goes : sx_D := (xI_X12_goes, xJ_X12_goes, xA_X12_goes, xB_X12_goes)
set_option maxRecDepth 100000 in
set_option maxHeartbeats 1000000 in
theorem fr_f_X12_goes (x1 : Int32) (x2 : Int32) (s : sx_M) {p : Int32 × sx_M} (hf : f_X12_goes x1 x2 s = some p) : sx_eq (xS_X12_goes) s p.2 := by
  unfold f_X12_goes at hf
  have J30 : ∀ (y1_30 : Int32) (y2_30 : Int32) (t0_30 : Int32) (s_30 : sx_M), sx_eq (xS_X12_goes) s s_30 → f_X12_goes_J30 y1_30 y2_30 t0_30 s_30 = some p → sx_eq (xS_X12_goes) s p.2 := by
    intro y1_30 y2_30 t0_30 s_30 hs_30 hf
    unfold f_X12_goes_J30 at hf
    rcases ax_or hf with ⟨hc15, hf⟩ | ⟨hc15, hf⟩
    · exact ax_ret (P := fun q : Int32 × sx_M => sx_eq (xS_X12_goes) s q.2) hf hs_30
    · obtain ⟨p1, hp1, hf⟩ := ax_bind hf
      obtain ⟨_, hf⟩ := ax_ite hf
      obtain ⟨_, hf⟩ := ax_ite hf
      obtain ⟨b8, hb8, hf⟩ := ax_bind hf
      have hvb8 := wh_inv ((0 : Int32), (wA p1 59 (y2_30).toNatClampNeg ((rA p1 59 (y2_30).toNatClampNeg) - (1 : Int32)))) (fun a55 : Int32 × sx_M => sx_eq (xS_X12_goes) s a55.2) (fun e : sx_M => sx_eq (xS_X12_goes) s e) hb8 ?_ (sx_wA' (D := (xS_X12_goes)) (sx_tr hs_30 (sx_mono (D1 := xS_X12_remembers) (fr_f_X12_remembers (p := p1) s_30 hp1) (fun o k h => h.elim) (fun o k h => h.elim) (fun o h => (fun q => Or.inr (Or.inr (q))) h) (fun o h => h.elim))) ((fun q => Or.inl q) rfl))
      rotate_left
      · intro a55 r ha55 hf
        unfold f_X12_goes_L55 at hf
        rcases ax_or hf with ⟨hc13, hf⟩ | ⟨hc13, hf⟩
        · exact ax_ret (P := Sum.elim (fun a55 : Int32 × sx_M => sx_eq (xS_X12_goes) s a55.2) (fun e : sx_M => sx_eq (xS_X12_goes) s e)) hf ha55
        · obtain ⟨b7, hb7, hf⟩ := ax_bind hf
          have hvb7 := wh_inv ((0 : Int32), a55.2) (fun a65 : Int32 × sx_M => sx_eq (xS_X12_goes) s a65.2) (fun e : sx_M => sx_eq (xS_X12_goes) s e) hb7 ?_ ha55
          rotate_left
          · intro a65 r ha65 hf
            unfold f_X12_goes_L65 at hf
            have J144 : ∀ (y5_144 : Int32) (y6_144 : Int32) (t0_144 : Int32) (s_144 : sx_M), sx_eq (xS_X12_goes) s s_144 → f_X12_goes_L65_J144 y1_30 y2_30 y1_30 y2_30 a55.1 y5_144 y6_144 t0_144 s_144 = some r → Sum.elim (fun a65 : Int32 × sx_M => sx_eq (xS_X12_goes) s a65.2) (fun e : sx_M => sx_eq (xS_X12_goes) s e) r := by
              intro y5_144 y6_144 t0_144 s_144 hs_144 hf
              unfold f_X12_goes_L65_J144 at hf
              obtain ⟨p2, hp2, hf⟩ := ax_bind hf
              rcases ax_or hf with ⟨hc6, hf⟩ | ⟨hc6, hf⟩
              · obtain ⟨_, hf⟩ := ax_ite hf
                exact ax_ret (P := Sum.elim (fun a65 : Int32 × sx_M => sx_eq (xS_X12_goes) s a65.2) (fun e : sx_M => sx_eq (xS_X12_goes) s e)) hf (sx_wA' (D := (xS_X12_goes)) (sx_tr hs_144 (sx_mono (D1 := xS_X12_placeOf) (fr_f_X12_placeOf (p := p2) a55.1 y5_144 s_144 hp2) (fun o k h => h.elim) (fun o k h => h.elim) (fun o h => h.elim) (fun o h => h.elim))) ((fun q => Or.inl q) rfl))
              · obtain ⟨_, hf⟩ := ax_ite hf
                obtain ⟨_, hf⟩ := ax_ite hf
                exact ax_ret (P := Sum.elim (fun a65 : Int32 × sx_M => sx_eq (xS_X12_goes) s a65.2) (fun e : sx_M => sx_eq (xS_X12_goes) s e)) hf (sx_wA' (D := (xS_X12_goes)) (sx_tr hs_144 (sx_mono (D1 := xS_X12_placeOf) (fr_f_X12_placeOf (p := p2) a55.1 y5_144 s_144 hp2) (fun o k h => h.elim) (fun o k h => h.elim) (fun o h => h.elim) (fun o h => h.elim))) ((fun q => Or.inl q) rfl))
            have J141 : ∀ (y5_141 : Int32) (y6_141 : Int32) (t0_141 : Int32) (t1_141 : Int32) (s_141 : sx_M), sx_eq (xS_X12_goes) s s_141 → f_X12_goes_L65_J141 y1_30 y2_30 y1_30 y2_30 a55.1 y5_141 y6_141 t0_141 t1_141 s_141 = some r → Sum.elim (fun a65 : Int32 × sx_M => sx_eq (xS_X12_goes) s a65.2) (fun e : sx_M => sx_eq (xS_X12_goes) s e) r := by
              intro y5_141 y6_141 t0_141 t1_141 s_141 hs_141 hf
              unfold f_X12_goes_L65_J141 at hf
              obtain ⟨p3, hp3, hf⟩ := ax_bind hf
              exact J144 y5_141 y6_141 p3.1 p3.2 (sx_tr hs_141 (sx_mono (D1 := xS_X12_placeOf) (fr_f_X12_placeOf (p := p3) t0_141 t1_141 s_141 hp3) (fun o k h => h.elim) (fun o k h => h.elim) (fun o h => h.elim) (fun o h => h.elim))) hf
            have J116 : ∀ (y5_116 : Int32) (y6_116 : Int32) (t0_116 : Int32) (s_116 : sx_M), sx_eq (xS_X12_goes) s s_116 → f_X12_goes_L65_J116 y1_30 y2_30 y1_30 y2_30 a55.1 y5_116 y6_116 t0_116 s_116 = some r → Sum.elim (fun a65 : Int32 × sx_M => sx_eq (xS_X12_goes) s a65.2) (fun e : sx_M => sx_eq (xS_X12_goes) s e) r := by
              intro y5_116 y6_116 t0_116 s_116 hs_116 hf
              unfold f_X12_goes_L65_J116 at hf
              obtain ⟨p4, hp4, hf⟩ := ax_bind hf
              exact J144 y5_116 y6_116 p4.1 p4.2 (sx_tr hs_116 (sx_mono (D1 := xS_X12_placeOf) (fr_f_X12_placeOf (p := p4) t0_116 y5_116 s_116 hp4) (fun o k h => h.elim) (fun o k h => h.elim) (fun o h => h.elim) (fun o h => h.elim))) hf
            have J95 : ∀ (y5_95 : Int32) (t0_95 : Int32) (s_95 : sx_M), sx_eq (xS_X12_goes) s s_95 → f_X12_goes_L65_J95 y1_30 y2_30 y1_30 y2_30 a55.1 y5_95 t0_95 s_95 = some r → Sum.elim (fun a65 : Int32 × sx_M => sx_eq (xS_X12_goes) s a65.2) (fun e : sx_M => sx_eq (xS_X12_goes) s e) r := by
              intro y5_95 t0_95 s_95 hs_95 hf
              unfold f_X12_goes_L65_J95 at hf
              rcases ax_or hf with ⟨hc9, hf⟩ | ⟨hc9, hf⟩
              · rcases ax_or hf with ⟨hc8, hf⟩ | ⟨hc8, hf⟩
                · exact J116 y5_95 t0_95 (a55.1 + (1 : Int32)) s_95 hs_95 hf
                · exact J116 y5_95 t0_95 a55.1 s_95 hs_95 hf
              · rcases ax_or hf with ⟨hc7, hf⟩ | ⟨hc7, hf⟩
                · exact J141 y5_95 t0_95 a55.1 (y5_95 + (1 : Int32)) s_95 hs_95 hf
                · exact J141 y5_95 t0_95 a55.1 y5_95 s_95 hs_95 hf
            rcases ax_or hf with ⟨hc12, hf⟩ | ⟨hc12, hf⟩
            · exact ax_ret (P := Sum.elim (fun a65 : Int32 × sx_M => sx_eq (xS_X12_goes) s a65.2) (fun e : sx_M => sx_eq (xS_X12_goes) s e)) hf ha65
            · obtain ⟨p5, hp5, hf⟩ := ax_bind hf
              rcases ax_or hf with ⟨hc11, hf⟩ | ⟨hc11, hf⟩
              · exact J95 a65.1 (0 : Int32) p5.2 (sx_tr ha65 (sx_mono (D1 := xS_X12_workers) (fr_f_X12_workers (p := p5) a65.2 hp5) (fun o k h => h.elim) (fun o k h => h.elim) (fun o h => h.elim) (fun o h => h.elim))) hf
              · obtain ⟨p6, hp6, hf⟩ := ax_bind hf
                rcases ax_or hf with ⟨hc10, hf⟩ | ⟨hc10, hf⟩
                · exact J95 a65.1 (0 : Int32) p6.2 (sx_tr (sx_tr ha65 (sx_mono (D1 := xS_X12_workers) (fr_f_X12_workers (p := p5) a65.2 hp5) (fun o k h => h.elim) (fun o k h => h.elim) (fun o h => h.elim) (fun o h => h.elim))) (sx_mono (D1 := xS_X12_jobs) (fr_f_X12_jobs (p := p6) p5.2 hp6) (fun o k h => h.elim) (fun o k h => h.elim) (fun o h => h.elim) (fun o h => h.elim))) hf
                · exact J95 a65.1 (1 : Int32) p6.2 (sx_tr (sx_tr ha65 (sx_mono (D1 := xS_X12_workers) (fr_f_X12_workers (p := p5) a65.2 hp5) (fun o k h => h.elim) (fun o k h => h.elim) (fun o h => h.elim) (fun o h => h.elim))) (sx_mono (D1 := xS_X12_jobs) (fr_f_X12_jobs (p := p6) p5.2 hp6) (fun o k h => h.elim) (fun o k h => h.elim) (fun o h => h.elim) (fun o h => h.elim))) hf
          exact ax_ret (P := Sum.elim (fun a55 : Int32 × sx_M => sx_eq (xS_X12_goes) s a55.2) (fun e : sx_M => sx_eq (xS_X12_goes) s e)) hf hvb7
      obtain ⟨p9, hp9, hf⟩ := ax_bind hf
      obtain ⟨_, hf⟩ := ax_ite hf
      exact ax_ret (P := fun q : Int32 × sx_M => sx_eq (xS_X12_goes) s q.2) hf (sx_tr hvb8 (sx_mono (D1 := xS_X12_keeps) (fr_f_X12_keeps (p := p9) b8 hp9) (fun o k h => (fun q => q) h) (fun o k h => h.elim) (fun o h => (fun q => Or.inr (Or.inl q)) h) (fun o h => h.elim)))
  have J12 : ∀ (y1_12 : Int32) (y2_12 : Int32) (s_12 : sx_M), sx_eq (xS_X12_goes) s s_12 → f_X12_goes_J12 y1_12 y2_12 s_12 = some p → sx_eq (xS_X12_goes) s p.2 := by
    intro y1_12 y2_12 s_12 hs_12 hf
    unfold f_X12_goes_J12 at hf
    rcases ax_or hf with ⟨hc17, hf⟩ | ⟨hc17, hf⟩
    · obtain ⟨p10, hp10, hf⟩ := ax_bind hf
      rcases ax_or hf with ⟨hc16, hf⟩ | ⟨hc16, hf⟩
      · exact J30 y1_12 y2_12 (0 : Int32) p10.2 (sx_tr hs_12 (sx_mono (D1 := xS_X12_isJob) (fr_f_X12_isJob (p := p10) y1_12 s_12 hp10) (fun o k h => h.elim) (fun o k h => h.elim) (fun o h => h.elim) (fun o h => h.elim))) hf
      · exact J30 y1_12 y2_12 (1 : Int32) p10.2 (sx_tr hs_12 (sx_mono (D1 := xS_X12_isJob) (fr_f_X12_isJob (p := p10) y1_12 s_12 hp10) (fun o k h => h.elim) (fun o k h => h.elim) (fun o h => h.elim) (fun o h => h.elim))) hf
    · exact J30 y1_12 y2_12 (0 : Int32) s_12 hs_12 hf
  rcases ax_or hf with ⟨hc19, hf⟩ | ⟨hc19, hf⟩
  · obtain ⟨p11, hp11, hf⟩ := ax_bind hf
    rcases ax_or hf with ⟨hc18, hf⟩ | ⟨hc18, hf⟩
    · exact J12 x1 x2 p11.2 (sx_tr (sx_rf _ s) (sx_mono (D1 := xS_X12_isWorker) (fr_f_X12_isWorker (p := p11) x1 s hp11) (fun o k h => h.elim) (fun o k h => h.elim) (fun o h => h.elim) (fun o h => h.elim))) hf
    · exact J30 x1 x2 (1 : Int32) p11.2 (sx_tr (sx_rf _ s) (sx_mono (D1 := xS_X12_isWorker) (fr_f_X12_isWorker (p := p11) x1 s hp11) (fun o k h => h.elim) (fun o k h => h.elim) (fun o h => h.elim) (fun o h => h.elim))) hf
  · exact J12 x1 x2 s (sx_rf _ s) hf
abbrev xI_X12_turn : Nat → Nat → Prop := fun o k => (o = 58 ∧ k = 2)
abbrev xJ_X12_turn : Nat → Nat → Prop := fun o k => False
abbrev xA_X12_turn : Nat → Prop := fun o => o = 59 ∨ o = 60 ∨ o = 70
abbrev xB_X12_turn : Nat → Prop := fun o => False
abbrev xS_X12_turn : sx_D := (xI_X12_turn, xJ_X12_turn, xA_X12_turn, xB_X12_turn)
set_option maxRecDepth 100000 in
set_option maxHeartbeats 1000000 in
theorem fr_f_X12_turn (x1 : Int32) (x2 : Int32) (s : sx_M) {p : Int32 × sx_M} (hf : f_X12_turn x1 x2 s = some p) : sx_eq (xS_X12_turn) s p.2 := by
  unfold f_X12_turn at hf
  obtain ⟨p1, hp1, hf⟩ := ax_bind hf
  rcases ax_or hf with ⟨hc8, hf⟩ | ⟨hc8, hf⟩
  · exact ax_ret (P := fun q : Int32 × sx_M => sx_eq (xS_X12_turn) s q.2) hf (sx_tr (sx_rf _ s) (sx_mono (D1 := xS_X12_isWorker) (fr_f_X12_isWorker (p := p1) x1 s hp1) (fun o k h => h.elim) (fun o k h => h.elim) (fun o h => h.elim) (fun o h => h.elim)))
  · obtain ⟨p2, hp2, hf⟩ := ax_bind hf
    rcases ax_or hf with ⟨hc7, hf⟩ | ⟨hc7, hf⟩
    · exact ax_ret (P := fun q : Int32 × sx_M => sx_eq (xS_X12_turn) s q.2) hf (sx_tr (sx_tr (sx_rf _ s) (sx_mono (D1 := xS_X12_isWorker) (fr_f_X12_isWorker (p := p1) x1 s hp1) (fun o k h => h.elim) (fun o k h => h.elim) (fun o h => h.elim) (fun o h => h.elim))) (sx_mono (D1 := xS_X12_isWorker) (fr_f_X12_isWorker (p := p2) x2 p1.2 hp2) (fun o k h => h.elim) (fun o k h => h.elim) (fun o h => h.elim) (fun o h => h.elim)))
    · obtain ⟨p3, hp3, hf⟩ := ax_bind hf
      obtain ⟨b9, hb9, hf⟩ := ax_bind hf
      have hvb9 := wh_inv ((0 : Int32), p3) (fun a25 : Int32 × sx_M => sx_eq (xS_X12_turn) s a25.2) (fun e : sx_M => sx_eq (xS_X12_turn) s e) hb9 ?_ (sx_tr (sx_tr (sx_tr (sx_rf _ s) (sx_mono (D1 := xS_X12_isWorker) (fr_f_X12_isWorker (p := p1) x1 s hp1) (fun o k h => h.elim) (fun o k h => h.elim) (fun o h => h.elim) (fun o h => h.elim))) (sx_mono (D1 := xS_X12_isWorker) (fr_f_X12_isWorker (p := p2) x2 p1.2 hp2) (fun o k h => h.elim) (fun o k h => h.elim) (fun o h => h.elim) (fun o h => h.elim))) (sx_mono (D1 := xS_X12_remembers) (fr_f_X12_remembers (p := p3) p2.2 hp3) (fun o k h => h.elim) (fun o k h => h.elim) (fun o h => (fun q => Or.inr (Or.inr (q))) h) (fun o h => h.elim)))
      rotate_left
      · intro a25 r ha25 hf
        unfold f_X12_turn_L25 at hf
        obtain ⟨p4, hp4, hf⟩ := ax_bind hf
        rcases ax_or hf with ⟨hc5, hf⟩ | ⟨hc5, hf⟩
        · exact ax_ret (P := Sum.elim (fun a25 : Int32 × sx_M => sx_eq (xS_X12_turn) s a25.2) (fun e : sx_M => sx_eq (xS_X12_turn) s e)) hf (sx_tr ha25 (sx_mono (D1 := xS_X12_jobs) (fr_f_X12_jobs (p := p4) a25.2 hp4) (fun o k h => h.elim) (fun o k h => h.elim) (fun o h => h.elim) (fun o h => h.elim)))
        · obtain ⟨p5, hp5, hf⟩ := ax_bind hf
          obtain ⟨p6, hp6, hf⟩ := ax_bind hf
          obtain ⟨_, hf⟩ := ax_ite hf
          obtain ⟨_, hf⟩ := ax_ite hf
          obtain ⟨p7, hp7, hf⟩ := ax_bind hf
          obtain ⟨p8, hp8, hf⟩ := ax_bind hf
          obtain ⟨_, hf⟩ := ax_ite hf
          obtain ⟨_, hf⟩ := ax_ite hf
          exact ax_ret (P := Sum.elim (fun a25 : Int32 × sx_M => sx_eq (xS_X12_turn) s a25.2) (fun e : sx_M => sx_eq (xS_X12_turn) s e)) hf (sx_wA' (D := (xS_X12_turn)) (sx_tr (sx_tr (sx_wA' (D := (xS_X12_turn)) (sx_tr (sx_tr (sx_tr ha25 (sx_mono (D1 := xS_X12_jobs) (fr_f_X12_jobs (p := p4) a25.2 hp4) (fun o k h => h.elim) (fun o k h => h.elim) (fun o h => h.elim) (fun o h => h.elim))) (sx_mono (D1 := xS_X12_placeOf) (fr_f_X12_placeOf (p := p5) x1 a25.1 p4.2 hp5) (fun o k h => h.elim) (fun o k h => h.elim) (fun o h => h.elim) (fun o h => h.elim))) (sx_mono (D1 := xS_X12_placeOf) (fr_f_X12_placeOf (p := p6) x2 a25.1 p5.2 hp6) (fun o k h => h.elim) (fun o k h => h.elim) (fun o h => h.elim) (fun o h => h.elim))) ((fun q => Or.inl q) rfl)) (sx_mono (D1 := xS_X12_placeOf) (fr_f_X12_placeOf (p := p7) x2 a25.1 (wA p6.2 59 (p5.1).toNatClampNeg (rA p6.2 70 (p6.1).toNatClampNeg)) hp7) (fun o k h => h.elim) (fun o k h => h.elim) (fun o h => h.elim) (fun o h => h.elim))) (sx_mono (D1 := xS_X12_placeOf) (fr_f_X12_placeOf (p := p8) x1 a25.1 p7.2 hp8) (fun o k h => h.elim) (fun o k h => h.elim) (fun o h => h.elim) (fun o h => h.elim))) ((fun q => Or.inl q) rfl))
      obtain ⟨p10, hp10, hf⟩ := ax_bind hf
      rcases ax_or hf with ⟨hc6, hf⟩ | ⟨hc6, hf⟩
      · exact ax_ret (P := fun q : Int32 × sx_M => sx_eq (xS_X12_turn) s q.2) hf (sx_tr hvb9 (sx_mono (D1 := xS_X12_keeps) (fr_f_X12_keeps (p := p10) b9 hp10) (fun o k h => (fun q => q) h) (fun o k h => h.elim) (fun o h => (fun q => Or.inr (Or.inl q)) h) (fun o h => h.elim)))
      · exact ax_ret (P := fun q : Int32 × sx_M => sx_eq (xS_X12_turn) s q.2) hf (sx_tr hvb9 (sx_mono (D1 := xS_X12_keeps) (fr_f_X12_keeps (p := p10) b9 hp10) (fun o k h => (fun q => q) h) (fun o k h => h.elim) (fun o h => (fun q => Or.inr (Or.inl q)) h) (fun o h => h.elim)))
abbrev xI_X12_undo : Nat → Nat → Prop := fun o k => (o = 58 ∧ k = 2)
abbrev xJ_X12_undo : Nat → Nat → Prop := fun o k => False
abbrev xA_X12_undo : Nat → Prop := fun o => o = 59
abbrev xB_X12_undo : Nat → Prop := fun o => False
abbrev xS_X12_undo : sx_D := (xI_X12_undo, xJ_X12_undo, xA_X12_undo, xB_X12_undo)
set_option maxRecDepth 100000 in
set_option maxHeartbeats 1000000 in
theorem fr_f_X12_undo (s : sx_M) {p : Int32 × sx_M} (hf : f_X12_undo s = some p) : sx_eq (xS_X12_undo) s p.2 := by
  unfold f_X12_undo at hf
  rcases ax_or hf with ⟨hc4, hf⟩ | ⟨hc4, hf⟩
  · exact ax_ret (P := fun q : Int32 × sx_M => sx_eq (xS_X12_undo) s q.2) hf (sx_rf _ s)
  · obtain ⟨b1, hb1, hf⟩ := ax_bind hf
    have hvb1 := wh_inv ((0 : Int32), (wI s 58 2 ((rI s 58 2) - (1 : Int32)))) (fun a21 : Int32 × sx_M => sx_eq (xS_X12_undo) s a21.2) (fun e : sx_M => sx_eq (xS_X12_undo) s e) hb1 ?_ (sx_wI' (D := (xS_X12_undo)) (sx_rf _ s) ((fun q => q) ⟨rfl, rfl⟩))
    rotate_left
    · intro a21 r ha21 hf
      unfold f_X12_undo_L21 at hf
      rcases ax_or hf with ⟨hc3, hf⟩ | ⟨hc3, hf⟩
      · exact ax_ret (P := Sum.elim (fun a21 : Int32 × sx_M => sx_eq (xS_X12_undo) s a21.2) (fun e : sx_M => sx_eq (xS_X12_undo) s e)) hf ha21
      · obtain ⟨_, hf⟩ := ax_ite hf
        obtain ⟨_, hf⟩ := ax_ite hf
        exact ax_ret (P := Sum.elim (fun a21 : Int32 × sx_M => sx_eq (xS_X12_undo) s a21.2) (fun e : sx_M => sx_eq (xS_X12_undo) s e)) hf (sx_wA' (D := (xS_X12_undo)) ha21 ((fun q => q) rfl))
    exact ax_ret (P := fun q : Int32 × sx_M => sx_eq (xS_X12_undo) s q.2) hf hvb1
