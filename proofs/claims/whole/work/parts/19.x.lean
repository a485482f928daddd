noncomputable def f_X11_feed (x1 : Int32) (x2 : Int32) (x3 : Int32) (x4 : Int32) (x5 : Int32) (s : sx_M) : Option (Int32 × sx_M) :=
  (f_X9_hasRoom (20 : Int32) s).bind (fun p1 =>
 (if p1.1 = 0 then
 some ((-1 : Int32), p1.2)
else
 (f_X9_addNumber x1 p1.2).bind (fun p2 =>
 (f_X9_addNumber x2 p2).bind (fun p3 =>
 (f_X9_addNumber x3 p3).bind (fun p4 =>
 (f_X9_addNumber x4 p4).bind (fun p5 =>
 (f_X9_addNumber x5 p5).bind (fun p6 =>
 some ((rI p6 1 1), p6))))))))
set_option maxRecDepth 100000 in
set_option maxHeartbeats 4000000 in
theorem k_X11_feed {l : Launch} {X : ax_X} {Q : Option Value → ax_H → Prop} (x1 : Int32) (x2 : Int32) (x3 : Int32) (x4 : Int32) (x5 : Int32) (s : sx_M) (gb : ax_H) {p : Int32 × sx_M} (hf : f_X11_feed x1 x2 x3 x4 x5 s = some p) (hq : Q (some (.int p.1)) (hp p.2 gb)) : AM l X yX11_feed cX11_feed 6 (some .int) 1 0 0 [.ref 0, .int x1, .int x2, .int x3, .int x4, .int x5] (hp s gb) Q := by
  refine aw_met (own := RX11) (nm := "feed") (L := [some (.ref 0), some (.int x1), some (.int x2), some (.int x3), some (.int x4), some (.int x5)]) (by decide +kernel) rfl rfl (And.intro rfl (And.intro rfl (And.intro rfl (And.intro rfl (And.intro rfl (And.intro rfl trivial)))))) (Nat.le_of_ble_eq_true rfl) ?_
  unfold f_X11_feed at hf
  refine aw_aload_n dX11_feed_0 rfl rfl ?_
  refine aw_gR dX11_feed_1 fl_X11_14 sh_0 rfl ?_
  refine aw_bipush (v := 20) dX11_feed_4 (by decide) ?_
  obtain ⟨p1, hp1, hf⟩ := ax_bind hf
  refine aw_cVi (As := [.int (20 : Int32)]) (st := []) dX11_feed_6 cl_X11_112 iv_X9_hasRoom (k_X9_hasRoom (Q := (fun v h' => v = some (.int p1.1) ∧ h' = hp p1.2 gb)) (20 : Int32) s gb hp1 ⟨rfl, rfl⟩) (ci := 9) rfl (hp_get sh_1) rfl rfl rfl (Nat.le_of_ble_eq_true rfl) rfl (by decide) (by decide) ?_
  refine aw_if_ne (tgt := 14) dX11_feed_9 (by decide) (fun hc1 => ?_) (fun hc1 => ?_)
  · have hf := ax_neg hc1 hf
    refine aw_aload_n dX11_feed_14 rfl rfl ?_
    refine aw_gR dX11_feed_15 fl_X11_14 sh_0 rfl ?_
    refine aw_iload_n dX11_feed_18 rfl rfl ?_
    obtain ⟨p2, hp2, hf⟩ := ax_bind hf
    refine aw_cVv (As := [.int x1]) (st := []) dX11_feed_19 cl_X11_116 iv_X9_addNumber (k_X9_addNumber (Q := (fun v h' => v = none ∧ h' = hp p2 gb)) x1 p1.2 gb hp2 ⟨rfl, rfl⟩) (ci := 9) rfl (hp_get sh_1) rfl rfl rfl (Nat.le_of_ble_eq_true rfl) rfl (by decide) (by decide) ?_
    refine aw_aload_n dX11_feed_22 rfl rfl ?_
    refine aw_gR dX11_feed_23 fl_X11_14 sh_0 rfl ?_
    refine aw_iload_n dX11_feed_26 rfl rfl ?_
    obtain ⟨p3, hp3, hf⟩ := ax_bind hf
    refine aw_cVv (As := [.int x2]) (st := []) dX11_feed_27 cl_X11_116 iv_X9_addNumber (k_X9_addNumber (Q := (fun v h' => v = none ∧ h' = hp p3 gb)) x2 p2 gb hp3 ⟨rfl, rfl⟩) (ci := 9) rfl (hp_get sh_1) rfl rfl rfl (Nat.le_of_ble_eq_true rfl) rfl (by decide) (by decide) ?_
    refine aw_aload_n dX11_feed_30 rfl rfl ?_
    refine aw_gR dX11_feed_31 fl_X11_14 sh_0 rfl ?_
    refine aw_iload_n dX11_feed_34 rfl rfl ?_
    obtain ⟨p4, hp4, hf⟩ := ax_bind hf
    refine aw_cVv (As := [.int x3]) (st := []) dX11_feed_35 cl_X11_116 iv_X9_addNumber (k_X9_addNumber (Q := (fun v h' => v = none ∧ h' = hp p4 gb)) x3 p3 gb hp4 ⟨rfl, rfl⟩) (ci := 9) rfl (hp_get sh_1) rfl rfl rfl (Nat.le_of_ble_eq_true rfl) rfl (by decide) (by decide) ?_
    refine aw_aload_n dX11_feed_38 rfl rfl ?_
    refine aw_gR dX11_feed_39 fl_X11_14 sh_0 rfl ?_
    refine aw_iload dX11_feed_42 rfl ?_
    obtain ⟨p5, hp5, hf⟩ := ax_bind hf
    refine aw_cVv (As := [.int x4]) (st := []) dX11_feed_44 cl_X11_116 iv_X9_addNumber (k_X9_addNumber (Q := (fun v h' => v = none ∧ h' = hp p5 gb)) x4 p4 gb hp5 ⟨rfl, rfl⟩) (ci := 9) rfl (hp_get sh_1) rfl rfl rfl (Nat.le_of_ble_eq_true rfl) rfl (by decide) (by decide) ?_
    refine aw_aload_n dX11_feed_47 rfl rfl ?_
    refine aw_gR dX11_feed_48 fl_X11_14 sh_0 rfl ?_
    refine aw_iload dX11_feed_51 rfl ?_
    obtain ⟨p6, hp6, hf⟩ := ax_bind hf
    refine aw_cVv (As := [.int x5]) (st := []) dX11_feed_53 cl_X11_116 iv_X9_addNumber (k_X9_addNumber (Q := (fun v h' => v = none ∧ h' = hp p6 gb)) x5 p5 gb hp6 ⟨rfl, rfl⟩) (ci := 9) rfl (hp_get sh_1) rfl rfl rfl (Nat.le_of_ble_eq_true rfl) rfl (by decide) (by decide) ?_
    refine aw_aload_n dX11_feed_56 rfl rfl ?_
    refine aw_gR dX11_feed_57 fl_X11_14 sh_0 rfl ?_
    refine aw_gI dX11_feed_60 fl_X11_120 sh_1 rfl ?_
    cases hf
    exact aw_iret dX11_feed_63 hq (Nat.le_refl _) (Nat.le_refl _)
  · have hf := ax_pos hc1 hf
    refine aw_iconst (v := -1) dX11_feed_12 (by decide) ?_
    cases hf
    exact aw_iret dX11_feed_13 hq (Nat.le_refl _) (Nat.le_refl _)
noncomputable def f_X11_end (x1 : Int32) (s : sx_M) : Option (Int32 × sx_M) :=
  (f_X9_cut x1 s).bind (fun p1 =>
 (if p1.1 = 0 then
 some ((-1 : Int32), p1.2)
else
 some (x1, p1.2)))
set_option maxRecDepth 100000 in
set_option maxHeartbeats 4000000 in
theorem k_X11_end {l : Launch} {X : ax_X} {Q : Option Value → ax_H → Prop} (x1 : Int32) (s : sx_M) (gb : ax_H) {p : Int32 × sx_M} (hf : f_X11_end x1 s = some p) (hq : Q (some (.int p.1)) (hp p.2 gb)) : AM l X yX11_end cX11_end 2 (some .int) 1 0 0 [.ref 0, .int x1] (hp s gb) Q := by
  refine aw_met (own := RX11) (nm := "end") (L := [some (.ref 0), some (.int x1)]) (by decide +kernel) rfl rfl (And.intro rfl (And.intro rfl trivial)) (Nat.le_of_ble_eq_true rfl) ?_
  unfold f_X11_end at hf
  refine aw_aload_n dX11_end_0 rfl rfl ?_
  refine aw_gR dX11_end_1 fl_X11_14 sh_0 rfl ?_
  refine aw_iload_n dX11_end_4 rfl rfl ?_
  obtain ⟨p1, hp1, hf⟩ := ax_bind hf
  refine aw_cVi (As := [.int x1]) (st := []) dX11_end_5 cl_X11_124 iv_X9_cut (k_X9_cut (Q := (fun v h' => v = some (.int p1.1) ∧ h' = hp p1.2 gb)) x1 s gb hp1 ⟨rfl, rfl⟩) (ci := 9) rfl (hp_get sh_1) rfl rfl rfl (Nat.le_of_ble_eq_true rfl) rfl (by decide) (by decide) ?_
  refine aw_if_eq (tgt := 15) dX11_end_8 (by decide) (fun hc1 => ?_) (fun hc1 => ?_)
  · have hf := ax_pos hc1 hf
    refine aw_iconst (v := -1) dX11_end_15 (by decide) ?_
    cases hf
    exact aw_iret dX11_end_16 hq (Nat.le_refl _) (Nat.le_refl _)
  · have hf := ax_neg hc1 hf
    refine aw_iload_n dX11_end_11 rfl rfl ?_
    refine aw_goto (tgt := 16) dX11_end_12 (by decide) ?_
    cases hf
    exact aw_iret dX11_end_16 hq (Nat.le_refl _) (Nat.le_refl _)
noncomputable def f_X11_changed (s : sx_M) : Option sx_M :=
  (f_X5_refresh 3 s).bind (fun p1 =>
 (f_X4_forget p1).bind (fun p2 =>
 some p2))
set_option maxRecDepth 100000 in
set_option maxHeartbeats 4000000 in
theorem k_X11_changed {l : Launch} {X : ax_X} {Q : Option Value → ax_H → Prop} (s : sx_M) (gb : ax_H) {p : sx_M} (hf : f_X11_changed s = some p) (hq : Q (none) (hp p gb)) : AM l X yX11_changed cX11_changed 1 none 3 0 0 [.ref 0] (hp s gb) Q := by
  refine aw_met (own := RX11) (nm := "changed") (L := [some (.ref 0)]) (by decide +kernel) rfl rfl (And.intro rfl trivial) (Nat.le_of_ble_eq_true rfl) ?_
  unfold f_X11_changed at hf
  refine aw_aload_n dX11_changed_0 rfl rfl ?_
  refine aw_gR dX11_changed_1 fl_X11_30 sh_0 rfl ?_
  obtain ⟨p1, hp1, hf⟩ := ax_bind hf
  refine aw_cVv (As := []) (st := []) dX11_changed_4 cl_X11_109 iv_X5_refresh (k_X5_refresh (Q := (fun v h' => v = none ∧ h' = hp p1 gb)) 3 s gb ax_RK3 hp1 ⟨rfl, rfl⟩) (ci := 5) rfl (hp_get sh_5) rfl rfl rfl (Nat.le_of_ble_eq_true rfl) rfl (by decide) (by decide) ?_
  refine aw_aload_n dX11_changed_7 rfl rfl ?_
  refine aw_gR dX11_changed_8 fl_X11_39 sh_0 rfl ?_
  obtain ⟨p2, hp2, hf⟩ := ax_bind hf
  refine aw_cVv (As := []) (st := []) dX11_changed_11 cl_X11_398 iv_X4_forget (k_X4_forget (Q := (fun v h' => v = none ∧ h' = hp p2 gb)) p1 gb hp2 ⟨rfl, rfl⟩) (ci := 4) rfl (hp_get sh_9) rfl rfl rfl (Nat.le_of_ble_eq_true rfl) rfl (by decide) (by decide) ?_
  cases hf
  exact aw_vret dX11_changed_14 hq (Nat.le_refl _) (Nat.le_refl _)
noncomputable def f_X11_fault (x1 : Int32) (s : sx_M) : Option (Int32 × sx_M) :=
  (if x1 = 0 then
 some ((rI s 19 6), s)
else
 (if x1 = (1 : Int32) then
 some ((rI s 19 7), s)
else
 some ((-1 : Int32), s)))
set_option maxRecDepth 100000 in
set_option maxHeartbeats 4000000 in
theorem k_X11_fault {l : Launch} {X : ax_X} {Q : Option Value → ax_H → Prop} (x1 : Int32) (s : sx_M) (gb : ax_H) {p : Int32 × sx_M} (hf : f_X11_fault x1 s = some p) (hq : Q (some (.int p.1)) (hp p.2 gb)) : AM l X yX11_fault cX11_fault 2 (some .int) 0 0 0 [.ref 0, .int x1] (hp s gb) Q := by
  refine aw_met (own := RX11) (nm := "fault") (L := [some (.ref 0), some (.int x1)]) (by decide +kernel) rfl rfl (And.intro rfl (And.intro rfl trivial)) (Nat.le_of_ble_eq_true rfl) ?_
  unfold f_X11_fault at hf
  refine aw_iload_n dX11_fault_0 rfl rfl ?_
  refine aw_if_ne (tgt := 12) dX11_fault_1 (by decide) (fun hc2 => ?_) (fun hc2 => ?_)
  · have hf := ax_neg hc2 hf
    refine aw_iload_n dX11_fault_12 rfl rfl ?_
    refine aw_iconst (v := 1) dX11_fault_13 (by decide) ?_
    refine aw_icmp_ne (tgt := 27) dX11_fault_14 (by decide) (fun hc1 => ?_) (fun hc1 => ?_)
    · have hf := ax_neg hc1 hf
      refine aw_iconst (v := -1) dX11_fault_27 (by decide) ?_
      cases hf
      exact aw_iret dX11_fault_28 hq (Nat.le_refl _) (Nat.le_refl _)
    · have hf := ax_pos hc1 hf
      refine aw_aload_n dX11_fault_17 rfl rfl ?_
      refine aw_gR dX11_fault_18 fl_X11_54 sh_0 rfl ?_
      refine aw_gI dX11_fault_21 fl_X11_146 sh_19 rfl ?_
      refine aw_goto (tgt := 28) dX11_fault_24 (by decide) ?_
      cases hf
      exact aw_iret dX11_fault_28 hq (Nat.le_refl _) (Nat.le_refl _)
  · have hf := ax_pos hc2 hf
    refine aw_aload_n dX11_fault_4 rfl rfl ?_
    refine aw_gR dX11_fault_5 fl_X11_54 sh_0 rfl ?_
    refine aw_gI dX11_fault_8 fl_X11_143 sh_19 rfl ?_
    cases hf
    exact aw_iret dX11_fault_11 hq (Nat.le_refl _) (Nat.le_refl _)
noncomputable def f_X11_count (x1 : Int32) (s : sx_M) : Option (Int32 × sx_M) :=
  (if x1 = (0 : Int32) then
 some ((rI s 3 1), s)
else
 (if x1 = (1 : Int32) then
 some ((rI s 3 2), s)
else
 (if x1 = (2 : Int32) then
 (f_X1_barred 3 s).bind (fun p1 =>
 some (p1.1, p1.2))
else
 (if x1 = (3 : Int32) then
 (f_X5_all 3 s).bind (fun p2 =>
 some (p2.1, p2.2))
else
 (if x1 = (4 : Int32) then
 some ((rI s 20 2), s)
else
 (if x1 = (5 : Int32) then
 some ((rI s 1 1), s)
else
 some ((-1 : Int32), s)))))))
set_option maxRecDepth 100000 in
set_option maxHeartbeats 4000000 in
theorem k_X11_count {l : Launch} {X : ax_X} {Q : Option Value → ax_H → Prop} (x1 : Int32) (s : sx_M) (gb : ax_H) {p : Int32 × sx_M} (hf : f_X11_count x1 s = some p) (hq : Q (some (.int p.1)) (hp p.2 gb)) : AM l X yX11_count cX11_count 2 (some .int) 4 0 0 [.ref 0, .int x1] (hp s gb) Q := by
  refine aw_met (own := RX11) (nm := "count") (L := [some (.ref 0), some (.int x1)]) (by decide +kernel) rfl rfl (And.intro rfl (And.intro rfl trivial)) (Nat.le_of_ble_eq_true rfl) ?_
  unfold f_X11_count at hf
  refine aw_iload_n dX11_count_0 rfl rfl ?_
  by_cases hc1 : x1 = (0 : Int32)
  · have hf := ax_pos hc1 hf
    refine aw_tableAt (tgt := 40) 0 dX11_count_1 hc1 (by decide) rfl (by decide) ?_
    refine aw_aload_n dX11_count_40 rfl rfl ?_
    refine aw_gR dX11_count_41 fl_X11_21 sh_0 rfl ?_
    refine aw_gI dX11_count_44 fl_X11_140 sh_3 rfl ?_
    cases hf
    exact aw_iret dX11_count_47 hq (Nat.le_refl _) (Nat.le_refl _)
  have hf := ax_neg hc1 hf
  by_cases hc2 : x1 = (1 : Int32)
  · have hf := ax_pos hc2 hf
    refine aw_tableAt (tgt := 48) 1 dX11_count_1 hc2 (by decide) rfl (by decide) ?_
    refine aw_aload_n dX11_count_48 rfl rfl ?_
    refine aw_gR dX11_count_49 fl_X11_21 sh_0 rfl ?_
    refine aw_gI dX11_count_52 fl_X11_149 sh_3 rfl ?_
    cases hf
    exact aw_iret dX11_count_55 hq (Nat.le_refl _) (Nat.le_refl _)
  have hf := ax_neg hc2 hf
  by_cases hc3 : x1 = (2 : Int32)
  · have hf := ax_pos hc3 hf
    refine aw_tableAt (tgt := 56) 2 dX11_count_1 hc3 (by decide) rfl (by decide) ?_
    refine aw_aload_n dX11_count_56 rfl rfl ?_
    refine aw_gR dX11_count_57 fl_X11_21 sh_0 rfl ?_
    obtain ⟨p1, hp1, hf⟩ := ax_bind hf
    refine aw_cVi (As := []) (st := []) dX11_count_60 cl_X11_152 iv_X1_barred (k_X1_barred (Q := (fun v h' => v = some (.int p1.1) ∧ h' = hp p1.2 gb)) 3 s gb ax_G3 hp1 ⟨rfl, rfl⟩) (ci := 1) rfl (hp_get sh_3) rfl rfl rfl (Nat.le_of_ble_eq_true rfl) rfl (by decide) (by decide) ?_
    cases hf
    exact aw_iret dX11_count_63 hq (Nat.le_refl _) (Nat.le_refl _)
  have hf := ax_neg hc3 hf
  by_cases hc4 : x1 = (3 : Int32)
  · have hf := ax_pos hc4 hf
    refine aw_tableAt (tgt := 64) 3 dX11_count_1 hc4 (by decide) rfl (by decide) ?_
    refine aw_aload_n dX11_count_64 rfl rfl ?_
    refine aw_gR dX11_count_65 fl_X11_30 sh_0 rfl ?_
    obtain ⟨p2, hp2, hf⟩ := ax_bind hf
    refine aw_cVi (As := []) (st := []) dX11_count_68 cl_X11_156 iv_X5_all (k_X5_all (Q := (fun v h' => v = some (.int p2.1) ∧ h' = hp p2.2 gb)) 3 s gb ax_RK3 hp2 ⟨rfl, rfl⟩) (ci := 5) rfl (hp_get sh_5) rfl rfl rfl (Nat.le_of_ble_eq_true rfl) rfl (by decide) (by decide) ?_
    cases hf
    exact aw_iret dX11_count_71 hq (Nat.le_refl _) (Nat.le_refl _)
  have hf := ax_neg hc4 hf
  by_cases hc5 : x1 = (4 : Int32)
  · have hf := ax_pos hc5 hf
    refine aw_tableAt (tgt := 72) 4 dX11_count_1 hc5 (by decide) rfl (by decide) ?_
    refine aw_aload_n dX11_count_72 rfl rfl ?_
    refine aw_gR dX11_count_73 fl_X11_61 sh_0 rfl ?_
    refine aw_gI dX11_count_76 fl_X11_159 sh_20 rfl ?_
    cases hf
    exact aw_iret dX11_count_79 hq (Nat.le_refl _) (Nat.le_refl _)
  have hf := ax_neg hc5 hf
  by_cases hc6 : x1 = (5 : Int32)
  · have hf := ax_pos hc6 hf
    refine aw_tableAt (tgt := 80) 5 dX11_count_1 hc6 (by decide) rfl (by decide) ?_
    refine aw_aload_n dX11_count_80 rfl rfl ?_
    refine aw_gR dX11_count_81 fl_X11_14 sh_0 rfl ?_
    refine aw_gI dX11_count_84 fl_X11_120 sh_1 rfl ?_
    cases hf
    exact aw_iret dX11_count_87 hq (Nat.le_refl _) (Nat.le_refl _)
  have hf := ax_neg hc6 hf
  refine aw_tableOut (tgt := 88) dX11_count_1 (ax_sw 5 (fun i hi => ?_)) (by decide) ?_
  · rcases (show i = 0 ∨ i = 1 ∨ i = 2 ∨ i = 3 ∨ i = 4 ∨ i = 5 by omega) with rfl | rfl | rfl | rfl | rfl | rfl <;> assumption
  · refine aw_iconst (v := -1) dX11_count_88 (by decide) ?_
    cases hf
    exact aw_iret dX11_count_89 hq (Nat.le_refl _) (Nat.le_refl _)
noncomputable def f_X11_cost (x1 : Int32) (x2 : Int32) (s : sx_M) : Option (Int64 × sx_M) :=
  (f_X1_has 3 x1 x2 s).bind (fun p1 =>
 (if p1.1 = 0 then
 some ((-9223372036854775808 : Int64), p1.2)
else
 (f_X1_at 3 x1 x2 p1.2).bind (fun p2 =>
 some (p2.1, p2.2))))
set_option maxRecDepth 100000 in
set_option maxHeartbeats 4000000 in
theorem k_X11_cost {l : Launch} {X : ax_X} {Q : Option Value → ax_H → Prop} (x1 : Int32) (x2 : Int32) (s : sx_M) (gb : ax_H) {p : Int64 × sx_M} (hf : f_X11_cost x1 x2 s = some p) (hq : Q (some (.long p.1)) (hp p.2 gb)) : AM l X yX11_cost cX11_cost 3 (some .long) 1 0 0 [.ref 0, .int x1, .int x2] (hp s gb) Q := by
  refine aw_met (own := RX11) (nm := "cost") (L := [some (.ref 0), some (.int x1), some (.int x2)]) (by decide +kernel) rfl rfl (And.intro rfl (And.intro rfl (And.intro rfl trivial))) (Nat.le_of_ble_eq_true rfl) ?_
  unfold f_X11_cost at hf
  refine aw_aload_n dX11_cost_0 rfl rfl ?_
  refine aw_gR dX11_cost_1 fl_X11_21 sh_0 rfl ?_
  refine aw_iload_n dX11_cost_4 rfl rfl ?_
  refine aw_iload_n dX11_cost_5 rfl rfl ?_
  obtain ⟨p1, hp1, hf⟩ := ax_bind hf
  refine aw_cVi (As := [.int x1, .int x2]) (st := []) dX11_cost_6 cl_X11_162 iv_X1_has (k_X1_has (Q := (fun v h' => v = some (.int p1.1) ∧ h' = hp p1.2 gb)) 3 x1 x2 s gb ax_G3 hp1 ⟨rfl, rfl⟩) (ci := 1) rfl (hp_get sh_3) rfl rfl rfl (Nat.le_of_ble_eq_true rfl) rfl (by decide) (by decide) ?_
  refine aw_if_eq (tgt := 24) dX11_cost_9 (by decide) (fun hc1 => ?_) (fun hc1 => ?_)
  · have hf := ax_pos hc1 hf
    refine aw_ldc2 dX11_cost_24 kc_X11_170 ?_
    cases hf
    exact aw_lret dX11_cost_27 hq (Nat.le_refl _) (Nat.le_refl _)
  · have hf := ax_neg hc1 hf
    refine aw_aload_n dX11_cost_12 rfl rfl ?_
    refine aw_gR dX11_cost_13 fl_X11_21 sh_0 rfl ?_
    refine aw_iload_n dX11_cost_16 rfl rfl ?_
    refine aw_iload_n dX11_cost_17 rfl rfl ?_
    obtain ⟨p2, hp2, hf⟩ := ax_bind hf
    refine aw_cVl (As := [.int x1, .int x2]) (st := []) dX11_cost_18 cl_X11_166 iv_X1_at (k_X1_at (Q := (fun v h' => v = some (.long p2.1) ∧ h' = hp p2.2 gb)) 3 x1 x2 p1.2 gb ax_G3 hp2 ⟨rfl, rfl⟩) (ci := 1) rfl (hp_get sh_3) rfl rfl rfl (Nat.le_of_ble_eq_true rfl) rfl (by decide) (by decide) ?_
    refine aw_goto (tgt := 27) dX11_cost_21 (by decide) ?_
    cases hf
    exact aw_lret dX11_cost_27 hq (Nat.le_refl _) (Nat.le_refl _)
noncomputable def f_X11_sum (x1 : Int32) (s : sx_M) : Option (Int64 × sx_M) :=
  (f_X11_isRank x1 s).bind (fun p1 =>
 (if p1.1 = 0 then
 some ((-9223372036854775808 : Int64), p1.2)
else
 (f_X4_sumOf x1 p1.2).bind (fun p2 =>
 some (p2.1, p2.2))))
set_option maxRecDepth 100000 in
set_option maxHeartbeats 4000000 in
theorem k_X11_sum {l : Launch} {X : ax_X} {Q : Option Value → ax_H → Prop} (x1 : Int32) (s : sx_M) (gb : ax_H) {p : Int64 × sx_M} (hf : f_X11_sum x1 s = some p) (hq : Q (some (.long p.1)) (hp p.2 gb)) : AM l X yX11_sum cX11_sum 2 (some .long) 14 0 0 [.ref 0, .int x1] (hp s gb) Q := by
  refine aw_met (own := RX11) (nm := "sum") (L := [some (.ref 0), some (.int x1)]) (by decide +kernel) rfl rfl (And.intro rfl (And.intro rfl trivial)) (Nat.le_of_ble_eq_true rfl) ?_
  unfold f_X11_sum at hf
  refine aw_iload_n dX11_sum_0 rfl rfl ?_
  obtain ⟨p1, hp1, hf⟩ := ax_bind hf
  refine aw_cSi (As := [.int x1]) (st := []) dX11_sum_1 cl_X11_172 st_X11_isRank (k_X11_isRank (Q := (fun v h' => v = some (.int p1.1) ∧ h' = hp p1.2 gb)) x1 s gb hp1 ⟨rfl, rfl⟩) rfl rfl (Nat.le_of_ble_eq_true rfl) rfl (by decide) (by decide) ?_
  refine aw_if_eq (tgt := 18) dX11_sum_4 (by decide) (fun hc1 => ?_) (fun hc1 => ?_)
  · have hf := ax_pos hc1 hf
    refine aw_ldc2 dX11_sum_18 kc_X11_170 ?_
    cases hf
    exact aw_lret dX11_sum_21 hq (Nat.le_refl _) (Nat.le_refl _)
  · have hf := ax_neg hc1 hf
    refine aw_aload_n dX11_sum_7 rfl rfl ?_
    refine aw_gR dX11_sum_8 fl_X11_39 sh_0 rfl ?_
    refine aw_iload_n dX11_sum_11 rfl rfl ?_
    obtain ⟨p2, hp2, hf⟩ := ax_bind hf
    refine aw_cVl (As := [.int x1]) (st := []) dX11_sum_12 cl_X11_175 iv_X4_sumOf (k_X4_sumOf (Q := (fun v h' => v = some (.long p2.1) ∧ h' = hp p2.2 gb)) x1 p1.2 gb hp2 ⟨rfl, rfl⟩) (ci := 4) rfl (hp_get sh_9) rfl rfl rfl (Nat.le_of_ble_eq_true rfl) rfl (by decide) (by decide) ?_
    refine aw_goto (tgt := 21) dX11_sum_15 (by decide) ?_
    cases hf
    exact aw_lret dX11_sum_21 hq (Nat.le_refl _) (Nat.le_refl _)
noncomputable def f_X11_job (x1 : Int32) (x2 : Int32) (s : sx_M) : Option (Int32 × sx_M) :=
  (f_X11_isRank x1 s).bind (fun p1 =>
 (if p1.1 = 0 then
 some ((-2 : Int32), p1.2)
else
 (f_X1_hasWorker 3 x2 p1.2).bind (fun p2 =>
 (if p2.1 = 0 then
 some ((-2 : Int32), p2.2)
else
 (f_X4_lay 56 x1 p2.2).bind (fun p3 =>
 (if p3.1 = 0 then
 some ((-1 : Int32), p3.2)
else
 (if ¬ (x2 < 0 ∨ 7 ≤ (x2).toNatClampNeg) then
 some ((rA p3.2 56 (x2).toNatClampNeg), p3.2)
else none)))))))
set_option maxRecDepth 100000 in
set_option maxHeartbeats 4000000 in
theorem k_X11_job {l : Launch} {X : ax_X} {Q : Option Value → ax_H → Prop} (x1 : Int32) (x2 : Int32) (s : sx_M) (gb : ax_H) {p : Int32 × sx_M} (hf : f_X11_job x1 x2 s = some p) (hq : Q (some (.int p.1)) (hp p.2 gb)) : AM l X yX11_job cX11_job 3 (some .int) 14 0 0 [.ref 0, .int x1, .int x2] (hp s gb) Q := by
  refine aw_met (own := RX11) (nm := "job") (L := [some (.ref 0), some (.int x1), some (.int x2)]) (by decide +kernel) rfl rfl (And.intro rfl (And.intro rfl (And.intro rfl trivial))) (Nat.le_of_ble_eq_true rfl) ?_
  unfold f_X11_job at hf
  refine aw_iload_n dX11_job_0 rfl rfl ?_
  obtain ⟨p1, hp1, hf⟩ := ax_bind hf
  refine aw_cSi (As := [.int x1]) (st := []) dX11_job_1 cl_X11_172 st_X11_isRank (k_X11_isRank (Q := (fun v h' => v = some (.int p1.1) ∧ h' = hp p1.2 gb)) x1 s gb hp1 ⟨rfl, rfl⟩) rfl rfl (Nat.le_of_ble_eq_true rfl) rfl (by decide) (by decide) ?_
  refine aw_if_eq (tgt := 18) dX11_job_4 (by decide) (fun hc4 => ?_) (fun hc4 => ?_)
  · have hf := ax_pos hc4 hf
    refine aw_bipush (v := -2) dX11_job_18 (by decide) ?_
    cases hf
    exact aw_iret dX11_job_20 hq (Nat.le_refl _) (Nat.le_refl _)
  · have hf := ax_neg hc4 hf
    refine aw_aload_n dX11_job_7 rfl rfl ?_
    refine aw_gR dX11_job_8 fl_X11_21 sh_0 rfl ?_
    refine aw_iload_n dX11_job_11 rfl rfl ?_
    obtain ⟨p2, hp2, hf⟩ := ax_bind hf
    refine aw_cVi (As := [.int x2]) (st := []) dX11_job_12 cl_X11_179 iv_X1_hasWorker (k_X1_hasWorker (Q := (fun v h' => v = some (.int p2.1) ∧ h' = hp p2.2 gb)) 3 x2 p1.2 gb ax_G3 hp2 ⟨rfl, rfl⟩) (ci := 1) rfl (hp_get sh_3) rfl rfl rfl (Nat.le_of_ble_eq_true rfl) rfl (by decide) (by decide) ?_
    refine aw_if_ne (tgt := 21) dX11_job_15 (by decide) (fun hc3 => ?_) (fun hc3 => ?_)
    · have hf := ax_neg hc3 hf
      refine aw_aload_n dX11_job_21 rfl rfl ?_
      refine aw_gR dX11_job_22 fl_X11_39 sh_0 rfl ?_
      refine aw_iload_n dX11_job_25 rfl rfl ?_
      refine aw_aload_n dX11_job_26 rfl rfl ?_
      refine aw_gR dX11_job_27 fl_X11_102 sh_0 rfl ?_
      obtain ⟨p3, hp3, hf⟩ := ax_bind hf
      refine aw_cVi (As := [.int x1, .ref 56]) (st := []) dX11_job_30 cl_X11_182 iv_X4_lay (k_X4_lay (Q := (fun v h' => v = some (.int p3.1) ∧ h' = hp p3.2 gb)) 56 x1 p2.2 gb sh_56 hp3 ⟨rfl, rfl⟩) (ci := 4) rfl (hp_get sh_9) rfl rfl rfl (Nat.le_of_ble_eq_true rfl) rfl (by decide) (by decide) ?_
      refine aw_if_eq (tgt := 45) dX11_job_33 (by decide) (fun hc2 => ?_) (fun hc2 => ?_)
      · have hf := ax_pos hc2 hf
        refine aw_iconst (v := -1) dX11_job_45 (by decide) ?_
        cases hf
        exact aw_iret dX11_job_46 hq (Nat.le_refl _) (Nat.le_refl _)
      · have hf := ax_neg hc2 hf
        refine aw_aload_n dX11_job_36 rfl rfl ?_
        refine aw_gR dX11_job_37 fl_X11_102 sh_0 rfl ?_
        refine aw_iload_n dX11_job_40 rfl rfl ?_
        obtain ⟨hc1, hf⟩ := ax_ite hf
        refine aw_lA dX11_job_41 sh_56 hc1 ?_
        refine aw_goto (tgt := 46) dX11_job_42 (by decide) ?_
        cases hf
        exact aw_iret dX11_job_46 hq (Nat.le_refl _) (Nat.le_refl _)
    · have hf := ax_pos hc3 hf
      refine aw_bipush (v := -2) dX11_job_18 (by decide) ?_
      cases hf
      exact aw_iret dX11_job_20 hq (Nat.le_refl _) (Nat.le_refl _)
noncomputable def f_X11_ties (x1 : Int32) (s : sx_M) : Option (Int32 × sx_M) :=
  (f_X11_isRank x1 s).bind (fun p1 =>
 (if p1.1 = 0 then
 some ((-2 : Int32), p1.2)
else
 (f_X4_sumOf x1 p1.2).bind (fun p2 =>
 (if p2.1 = (-9223372036854775808 : Int64) then
 some ((-1 : Int32), p2.2)
else
 (f_X5_alike 3 p2.1 p2.2).bind (fun p3 =>
 some (p3.1, p3.2))))))
set_option maxRecDepth 100000 in
set_option maxHeartbeats 4000000 in
theorem k_X11_ties {l : Launch} {X : ax_X} {Q : Option Value → ax_H → Prop} (x1 : Int32) (s : sx_M) (gb : ax_H) {p : Int32 × sx_M} (hf : f_X11_ties x1 s = some p) (hq : Q (some (.int p.1)) (hp p.2 gb)) : AM l X yX11_ties cX11_ties 4 (some .int) 14 0 0 [.ref 0, .int x1] (hp s gb) Q := by
  refine aw_met (own := RX11) (nm := "ties") (L := [some (.ref 0), some (.int x1), none, none]) (by decide +kernel) rfl rfl (And.intro rfl (And.intro rfl trivial)) (Nat.le_of_ble_eq_true rfl) ?_
  unfold f_X11_ties at hf
  refine aw_iload_n dX11_ties_0 rfl rfl ?_
  obtain ⟨p1, hp1, hf⟩ := ax_bind hf
  refine aw_cSi (As := [.int x1]) (st := []) dX11_ties_1 cl_X11_172 st_X11_isRank (k_X11_isRank (Q := (fun v h' => v = some (.int p1.1) ∧ h' = hp p1.2 gb)) x1 s gb hp1 ⟨rfl, rfl⟩) rfl rfl (Nat.le_of_ble_eq_true rfl) rfl (by decide) (by decide) ?_
  refine aw_if_ne (tgt := 10) dX11_ties_4 (by decide) (fun hc2 => ?_) (fun hc2 => ?_)
  · have hf := ax_neg hc2 hf
    refine aw_aload_n dX11_ties_10 rfl rfl ?_
    refine aw_gR dX11_ties_11 fl_X11_39 sh_0 rfl ?_
    refine aw_iload_n dX11_ties_14 rfl rfl ?_
    obtain ⟨p2, hp2, hf⟩ := ax_bind hf
    refine aw_cVl (As := [.int x1]) (st := []) dX11_ties_15 cl_X11_175 iv_X4_sumOf (k_X4_sumOf (Q := (fun v h' => v = some (.long p2.1) ∧ h' = hp p2.2 gb)) x1 p1.2 gb hp2 ⟨rfl, rfl⟩) (ci := 4) rfl (hp_get sh_9) rfl rfl rfl (Nat.le_of_ble_eq_true rfl) rfl (by decide) (by decide) ?_
    refine aw_lstore_n (L' := [some (.ref 0), some (.int x1), some (.long p2.1), none]) dX11_ties_18 rfl (by decide) rfl ?_
    refine aw_lload_n dX11_ties_19 rfl rfl ?_
    refine aw_ldc2 dX11_ties_20 kc_X11_170 ?_
    refine aw_lcmp_ne (tgt := 31) dX11_ties_23 dX11_ties_24 (by decide) (fun hc1 => ?_) (fun hc1 => ?_)
    · have hf := ax_neg hc1 hf
      refine aw_aload_n dX11_ties_31 rfl rfl ?_
      refine aw_gR dX11_ties_32 fl_X11_30 sh_0 rfl ?_
      refine aw_lload_n dX11_ties_35 rfl rfl ?_
      obtain ⟨p3, hp3, hf⟩ := ax_bind hf
      refine aw_cVi (As := [.long p2.1]) (st := []) dX11_ties_36 cl_X11_186 iv_X5_alike (k_X5_alike (Q := (fun v h' => v = some (.int p3.1) ∧ h' = hp p3.2 gb)) 3 p2.1 p2.2 gb ax_RK3 hp3 ⟨rfl, rfl⟩) (ci := 5) rfl (hp_get sh_5) rfl rfl rfl (Nat.le_of_ble_eq_true rfl) rfl (by decide) (by decide) ?_
      cases hf
      exact aw_iret dX11_ties_39 hq (Nat.le_refl _) (Nat.le_refl _)
    · have hf := ax_pos hc1 hf
      refine aw_iconst (v := -1) dX11_ties_27 (by decide) ?_
      refine aw_goto (tgt := 39) dX11_ties_28 (by decide) ?_
      cases hf
      exact aw_iret dX11_ties_39 hq (Nat.le_refl _) (Nat.le_refl _)
  · have hf := ax_pos hc2 hf
    refine aw_bipush (v := -2) dX11_ties_7 (by decide) ?_
    cases hf
    exact aw_iret dX11_ties_9 hq (Nat.le_refl _) (Nat.le_refl _)
noncomputable def f_X11_under (x1 : Int64) (s : sx_M) : Option (Int32 × sx_M) :=
  (f_X5_upTo 3 x1 s).bind (fun p1 =>
 some (p1.1, p1.2))
set_option maxRecDepth 100000 in
set_option maxHeartbeats 4000000 in
theorem k_X11_under {l : Launch} {X : ax_X} {Q : Option Value → ax_H → Prop} (x1 : Int64) (s : sx_M) (gb : ax_H) {p : Int32 × sx_M} (hf : f_X11_under x1 s = some p) (hq : Q (some (.int p.1)) (hp p.2 gb)) : AM l X yX11_under cX11_under 3 (some .int) 12 0 0 [.ref 0, .long x1] (hp s gb) Q := by
  refine aw_met (own := RX11) (nm := "under") (L := [some (.ref 0), some (.long x1), none]) (by decide +kernel) rfl rfl (And.intro rfl (And.intro rfl trivial)) (Nat.le_of_ble_eq_true rfl) ?_
  unfold f_X11_under at hf
  refine aw_aload_n dX11_under_0 rfl rfl ?_
  refine aw_gR dX11_under_1 fl_X11_30 sh_0 rfl ?_
  refine aw_lload_n dX11_under_4 rfl rfl ?_
  obtain ⟨p1, hp1, hf⟩ := ax_bind hf
  refine aw_cVi (As := [.long x1]) (st := []) dX11_under_5 cl_X11_190 iv_X5_upTo (k_X5_upTo (Q := (fun v h' => v = some (.int p1.1) ∧ h' = hp p1.2 gb)) 3 x1 s gb ax_RK3 hp1 ⟨rfl, rfl⟩) (ci := 5) rfl (hp_get sh_5) rfl rfl rfl (Nat.le_of_ble_eq_true rfl) rfl (by decide) (by decide) ?_
  cases hf
  exact aw_iret dX11_under_8 hq (Nat.le_refl _) (Nat.le_refl _)
noncomputable def f_X11_place (x1 : Int32) (s : sx_M) : Option (Int32 × sx_M) :=
  (f_X1_decode 3 56 x1 s).bind (fun p1 =>
 (if p1.1 = 0 then
 some ((-1 : Int32), p1.2)
else
 (f_X5_before 3 56 p1.2).bind (fun p2 =>
 some (p2.1, p2.2))))
set_option maxRecDepth 100000 in
set_option maxHeartbeats 4000000 in
theorem k_X11_place {l : Launch} {X : ax_X} {Q : Option Value → ax_H → Prop} (x1 : Int32) (s : sx_M) (gb : ax_H) {p : Int32 × sx_M} (hf : f_X11_place x1 s = some p) (hq : Q (some (.int p.1)) (hp p.2 gb)) : AM l X yX11_place cX11_place 2 (some .int) 13 0 0 [.ref 0, .int x1] (hp s gb) Q := by
  refine aw_met (own := RX11) (nm := "place") (L := [some (.ref 0), some (.int x1)]) (by decide +kernel) rfl rfl (And.intro rfl (And.intro rfl trivial)) (Nat.le_of_ble_eq_true rfl) ?_
  unfold f_X11_place at hf
  refine aw_aload_n dX11_place_0 rfl rfl ?_
  refine aw_gR dX11_place_1 fl_X11_21 sh_0 rfl ?_
  refine aw_iload_n dX11_place_4 rfl rfl ?_
  refine aw_aload_n dX11_place_5 rfl rfl ?_
  refine aw_gR dX11_place_6 fl_X11_102 sh_0 rfl ?_
  obtain ⟨p1, hp1, hf⟩ := ax_bind hf
  refine aw_cVi (As := [.int x1, .ref 56]) (st := []) dX11_place_9 cl_X11_193 iv_X1_decode (k_X1_decode (Q := (fun v h' => v = some (.int p1.1) ∧ h' = hp p1.2 gb)) 3 56 x1 s gb ax_G3 sh_56 hp1 ⟨rfl, rfl⟩) (ci := 1) rfl (hp_get sh_3) rfl rfl rfl (Nat.le_of_ble_eq_true rfl) rfl (by decide) (by decide) ?_
  refine aw_if_eq (tgt := 29) dX11_place_12 (by decide) (fun hc1 => ?_) (fun hc1 => ?_)
  · have hf := ax_pos hc1 hf
    refine aw_iconst (v := -1) dX11_place_29 (by decide) ?_
    cases hf
    exact aw_iret dX11_place_30 hq (Nat.le_refl _) (Nat.le_refl _)
  · have hf := ax_neg hc1 hf
    refine aw_aload_n dX11_place_15 rfl rfl ?_
    refine aw_gR dX11_place_16 fl_X11_30 sh_0 rfl ?_
    refine aw_aload_n dX11_place_19 rfl rfl ?_
    refine aw_gR dX11_place_20 fl_X11_102 sh_0 rfl ?_
    obtain ⟨p2, hp2, hf⟩ := ax_bind hf
    refine aw_cVi (As := [.ref 56]) (st := []) dX11_place_23 cl_X11_196 iv_X5_before (k_X5_before (Q := (fun v h' => v = some (.int p2.1) ∧ h' = hp p2.2 gb)) 3 56 p1.2 gb ax_RK3 sh_56 hp2 ⟨rfl, rfl⟩) (ci := 5) rfl (hp_get sh_5) rfl rfl rfl (Nat.le_of_ble_eq_true rfl) rfl (by decide) (by decide) ?_
    refine aw_goto (tgt := 30) dX11_place_26 (by decide) ?_
    cases hf
    exact aw_iret dX11_place_30 hq (Nat.le_refl _) (Nat.le_refl _)
noncomputable def f_X11_drawn (x1 : Int64) (s : sx_M) : Option (Int32 × sx_M) :=
  (f_X5_all 3 s).bind (fun p1 =>
 (if 0 < p1.1 then
 (if ¬ (p1.1).toInt64 = 0 then
 some (((((((x1 * (6364136223846793005 : Int64)) + (1442695040888963407 : Int64))).toUInt64 >>> (((33 : Int32)).toInt64.toUInt64 &&& Int64.toUInt64 63)).toInt64 - ((((x1 * (6364136223846793005 : Int64)) + (1442695040888963407 : Int64))).toUInt64 >>> (((33 : Int32)).toInt64.toUInt64 &&& Int64.toUInt64 63)).toInt64 / (p1.1).toInt64 * (p1.1).toInt64)).toInt32, p1.2)
else none)
else
 some ((-1 : Int32), p1.2)))
set_option maxRecDepth 100000 in
set_option maxHeartbeats 4000000 in
theorem k_X11_drawn {l : Launch} {X : ax_X} {Q : Option Value → ax_H → Prop} (x1 : Int64) (s : sx_M) (gb : ax_H) {p : Int32 × sx_M} (hf : f_X11_drawn x1 s = some p) (hq : Q (some (.int p.1)) (hp p.2 gb)) : AM l X yX11_drawn cX11_drawn 6 (some .int) 1 0 0 [.ref 0, .long x1] (hp s gb) Q := by
  refine aw_met (own := RX11) (nm := "drawn") (L := [some (.ref 0), some (.long x1), none, none, none, none]) (by decide +kernel) rfl rfl (And.intro rfl (And.intro rfl trivial)) (Nat.le_of_ble_eq_true rfl) ?_
  unfold f_X11_drawn at hf
  refine aw_aload_n dX11_drawn_0 rfl rfl ?_
  refine aw_gR dX11_drawn_1 fl_X11_30 sh_0 rfl ?_
  obtain ⟨p1, hp1, hf⟩ := ax_bind hf
  refine aw_cVi (As := []) (st := []) dX11_drawn_4 cl_X11_156 iv_X5_all (k_X5_all (Q := (fun v h' => v = some (.int p1.1) ∧ h' = hp p1.2 gb)) 3 s gb ax_RK3 hp1 ⟨rfl, rfl⟩) (ci := 5) rfl (hp_get sh_5) rfl rfl rfl (Nat.le_of_ble_eq_true rfl) rfl (by decide) (by decide) ?_
  refine aw_istore_n (L' := [some (.ref 0), some (.long x1), none, some (.int p1.1), none, none]) dX11_drawn_7 rfl (by decide) rfl ?_
  refine aw_iload_n dX11_drawn_8 rfl rfl ?_
  refine aw_if_gt (tgt := 14) dX11_drawn_9 (by decide) (fun hc2 => ?_) (fun hc2 => ?_)
  · have hf := ax_pos hc2 hf
    refine aw_lload_n dX11_drawn_14 rfl rfl ?_
    refine aw_ldc2 dX11_drawn_15 kc_X11_200 ?_
    refine aw_lmul dX11_drawn_18 ?_
    refine aw_ldc2 dX11_drawn_19 kc_X11_202 ?_
    refine aw_ladd dX11_drawn_22 ?_
    refine aw_lstore (L' := [some (.ref 0), some (.long x1), none, some (.int p1.1), some (.long ((x1 * (6364136223846793005 : Int64)) + (1442695040888963407 : Int64))), none]) dX11_drawn_23 (by decide) rfl ?_
    refine aw_lload dX11_drawn_25 rfl ?_
    refine aw_bipush (v := 33) dX11_drawn_27 (by decide) ?_
    refine aw_lushr dX11_drawn_29 ?_
    refine aw_iload_n dX11_drawn_30 rfl rfl ?_
    refine aw_i2l dX11_drawn_31 ?_
    obtain ⟨hc1, hf⟩ := ax_ite hf
    refine aw_lrem dX11_drawn_32 hc1 ?_
    refine aw_l2i dX11_drawn_33 ?_
    cases hf
    exact aw_iret dX11_drawn_34 hq (Nat.le_refl _) (Nat.le_refl _)
  · have hf := ax_neg hc2 hf
    refine aw_iconst (v := -1) dX11_drawn_12 (by decide) ?_
    cases hf
    exact aw_iret dX11_drawn_13 hq (Nat.le_refl _) (Nat.le_refl _)
noncomputable def f_X11_middle (s : sx_M) : Option (Int64 × sx_M) :=
  (f_X5_all 3 s).bind (fun p1 =>
 (if p1.1 = 0 then
 some ((-9223372036854775808 : Int64), p1.2)
else
 (f_X4_sumAt ((p1.1 - (1 : Int32)) / (2 : Int32)) p1.2).bind (fun p2 =>
 some (p2.1, p2.2))))
set_option maxRecDepth 100000 in
set_option maxHeartbeats 4000000 in
theorem k_X11_middle {l : Launch} {X : ax_X} {Q : Option Value → ax_H → Prop} (s : sx_M) (gb : ax_H) {p : Int64 × sx_M} (hf : f_X11_middle s = some p) (hq : Q (some (.long p.1)) (hp p.2 gb)) : AM l X yX11_middle cX11_middle 2 (some .long) 12 0 0 [.ref 0] (hp s gb) Q := by
  refine aw_met (own := RX11) (nm := "middle") (L := [some (.ref 0), none]) (by decide +kernel) rfl rfl (And.intro rfl trivial) (Nat.le_of_ble_eq_true rfl) ?_
  unfold f_X11_middle at hf
  refine aw_aload_n dX11_middle_0 rfl rfl ?_
  refine aw_gR dX11_middle_1 fl_X11_30 sh_0 rfl ?_
  obtain ⟨p1, hp1, hf⟩ := ax_bind hf
  refine aw_cVi (As := []) (st := []) dX11_middle_4 cl_X11_156 iv_X5_all (k_X5_all (Q := (fun v h' => v = some (.int p1.1) ∧ h' = hp p1.2 gb)) 3 s gb ax_RK3 hp1 ⟨rfl, rfl⟩) (ci := 5) rfl (hp_get sh_5) rfl rfl rfl (Nat.le_of_ble_eq_true rfl) rfl (by decide) (by decide) ?_
  refine aw_istore_n (L' := [some (.ref 0), some (.int p1.1)]) dX11_middle_7 rfl (by decide) rfl ?_
  refine aw_iload_n dX11_middle_8 rfl rfl ?_
  refine aw_if_ne (tgt := 18) dX11_middle_9 (by decide) (fun hc1 => ?_) (fun hc1 => ?_)
  · have hf := ax_neg hc1 hf
    refine aw_aload_n dX11_middle_18 rfl rfl ?_
    refine aw_gR dX11_middle_19 fl_X11_39 sh_0 rfl ?_
    refine aw_iload_n dX11_middle_22 rfl rfl ?_
    refine aw_iconst (v := 1) dX11_middle_23 (by decide) ?_
    refine aw_isub dX11_middle_24 ?_
    refine aw_iconst (v := 2) dX11_middle_25 (by decide) ?_
    refine aw_idiv dX11_middle_26 (by decide) ?_
    obtain ⟨p2, hp2, hf⟩ := ax_bind hf
    refine aw_cVl (As := [.int ((p1.1 - (1 : Int32)) / (2 : Int32))]) (st := []) dX11_middle_27 cl_X11_204 iv_X4_sumAt (k_X4_sumAt (Q := (fun v h' => v = some (.long p2.1) ∧ h' = hp p2.2 gb)) ((p1.1 - (1 : Int32)) / (2 : Int32)) p1.2 gb hp2 ⟨rfl, rfl⟩) (ci := 4) rfl (hp_get sh_9) rfl rfl rfl (Nat.le_of_ble_eq_true rfl) rfl (by decide) (by decide) ?_
    cases hf
    exact aw_lret dX11_middle_30 hq (Nat.le_refl _) (Nat.le_refl _)
  · have hf := ax_pos hc1 hf
    refine aw_ldc2 dX11_middle_12 kc_X11_170 ?_
    refine aw_goto (tgt := 30) dX11_middle_15 (by decide) ?_
    cases hf
    exact aw_lret dX11_middle_30 hq (Nat.le_refl _) (Nat.le_refl _)
noncomputable def f_X11_loss_L37 (a37 : Int64 × Int32 × sx_M) : Option ((Int64 × Int32 × sx_M) ⊕ (Int64 × sx_M)) :=
  (if (rI a37.2.2 3 1) ≤ a37.2.1 then
 some (.inr (a37.1, a37.2.2))
else
 (f_X1_leastOf 3 a37.2.1 (0 : Int32) a37.2.2).bind (fun p1 =>
 some (.inl ((a37.1 - p1.1), (a37.2.1 + (1 : Int32)), p1.2))))
noncomputable def f_X11_loss_J21 (t0_21 : Int64) (s_21 : sx_M) : Option (Int64 × sx_M) :=
  (if t0_21 = (-9223372036854775808 : Int64) then
 some ((-9223372036854775808 : Int64), s_21)
else
 (whT (f_X11_loss_L37) (t0_21, (0 : Int32), s_21)).bind (fun b2 =>
 some (b2.1, b2.2)))
noncomputable def f_X11_loss (x1 : Int32) (s : sx_M) : Option (Int64 × sx_M) :=
  (f_X11_isRank x1 s).bind (fun p3 =>
 (if p3.1 = 0 then
 f_X11_loss_J21 (-9223372036854775808 : Int64) p3.2
else
 (f_X4_sumOf x1 p3.2).bind (fun p4 =>
 f_X11_loss_J21 p4.1 p4.2)))
set_option maxRecDepth 100000 in
set_option maxHeartbeats 4000000 in
theorem k_X11_loss {l : Launch} {X : ax_X} {Q : Option Value → ax_H → Prop} (x1 : Int32) (s : sx_M) (gb : ax_H) {p : Int64 × sx_M} (hf : f_X11_loss x1 s = some p) (hq : Q (some (.long p.1)) (hp p.2 gb)) : AM l X yX11_loss cX11_loss 5 (some .long) 14 0 0 [.ref 0, .int x1] (hp s gb) Q := by
  refine aw_met (own := RX11) (nm := "loss") (L := [some (.ref 0), some (.int x1), none, none, none]) (by decide +kernel) rfl rfl (And.intro rfl (And.intro rfl trivial)) (Nat.le_of_ble_eq_true rfl) ?_
  unfold f_X11_loss at hf
  have J21 : ∀ (t0_21 : Int64) (s_21 : sx_M), f_X11_loss_J21 t0_21 s_21 = some p → AW l X RX11 "loss" cX11_loss 5 (some .long) (ax_rm 14 0 0) (ax_MQ X Q 0 0) 0 0 21 [some (.ref 0), none, none, none, none] [.long t0_21] (hp s_21 gb) := by
    intro t0_21 s_21 hf
    unfold f_X11_loss_J21 at hf
    refine aw_lstore_n (L' := [some (.ref 0), none, some (.long t0_21), none, none]) dX11_loss_21 rfl (by decide) rfl ?_
    refine aw_lload_n dX11_loss_22 rfl rfl ?_
    refine aw_ldc2 dX11_loss_23 kc_X11_170 ?_
    refine aw_lcmp_ne (tgt := 34) dX11_loss_26 dX11_loss_27 (by decide) (fun hc2 => ?_) (fun hc2 => ?_)
    · have hf := ax_neg hc2 hf
      refine aw_iconst (v := 0) dX11_loss_34 (by decide) ?_
      refine aw_istore (L' := [some (.ref 0), none, some (.long t0_21), none, some (.int (0 : Int32))]) dX11_loss_35 (by decide) rfl ?_
      obtain ⟨b2, hb2, hf⟩ := ax_bind hf
      refine wh_go (t0_21, (0 : Int32), s_21) (fun a37 : Int64 × Int32 × sx_M => AW l X RX11 "loss" cX11_loss 5 (some .long) (ax_rm 14 0 0) (ax_MQ X Q 0 0) 0 0 37 [some (.ref 0), none, some (.long a37.1), none, some (.int a37.2.1)] [] (hp a37.2.2 gb)) (fun e : Int64 × sx_M => AW l X RX11 "loss" cX11_loss 5 (some .long) (ax_rm 14 0 0) (ax_MQ X Q 0 0) 0 0 68 [none, none, some (.long e.1), none, none] [] (hp e.2 gb)) hb2 ?_ ?_
      · intro a37 r hf hK
        unfold f_X11_loss_L37 at hf
        refine aw_iload dX11_loss_37 rfl ?_
        refine aw_aload_n dX11_loss_39 rfl rfl ?_
        refine aw_gR dX11_loss_40 fl_X11_21 sh_0 rfl ?_
        refine aw_gI dX11_loss_43 fl_X11_140 sh_3 rfl ?_
        refine aw_icmp_ge (tgt := 68) dX11_loss_46 (by decide) (fun hc1 => ?_) (fun hc1 => ?_)
        · have hf := ax_pos hc1 hf
          refine aw_less (L' := [none, none, some (.long a37.1), none, none]) (And.intro rfl trivial) ?_
          cases hf
          exact hK
        · have hf := ax_neg hc1 hf
          refine aw_lload_n dX11_loss_49 rfl rfl ?_
          refine aw_aload_n dX11_loss_50 rfl rfl ?_
          refine aw_gR dX11_loss_51 fl_X11_21 sh_0 rfl ?_
          refine aw_iload dX11_loss_54 rfl ?_
          refine aw_iconst (v := 0) dX11_loss_56 (by decide) ?_
          obtain ⟨p1, hp1, hf⟩ := ax_bind hf
          refine aw_cVl (As := [.int a37.2.1, .int (0 : Int32)]) (st := [.long a37.1]) dX11_loss_57 cl_X11_207 iv_X1_leastOf (k_X1_leastOf (Q := (fun v h' => v = some (.long p1.1) ∧ h' = hp p1.2 gb)) 3 a37.2.1 (0 : Int32) a37.2.2 gb ax_G3 hp1 ⟨rfl, rfl⟩) (ci := 1) rfl (hp_get sh_3) rfl rfl rfl (Nat.le_of_ble_eq_true rfl) rfl (by decide) (by decide) ?_
          refine aw_lsub dX11_loss_60 ?_
          refine aw_lstore_n (L' := [some (.ref 0), none, some (.long (a37.1 - p1.1)), none, some (.int a37.2.1)]) dX11_loss_61 rfl (by decide) rfl ?_
          refine aw_iinc (v := (a37.2.1 + (1 : Int32))) (L' := [some (.ref 0), none, some (.long (a37.1 - p1.1)), none, some (.int (a37.2.1 + (1 : Int32)))]) dX11_loss_62 rfl rfl (by decide) rfl ?_
          refine aw_goto (tgt := 37) dX11_loss_65 (by decide) ?_
          cases hf
          exact hK
      · refine aw_lload_n dX11_loss_68 rfl rfl ?_
        cases hf
        exact aw_lret dX11_loss_69 hq (Nat.le_refl _) (Nat.le_refl _)
    · have hf := ax_pos hc2 hf
      refine aw_ldc2 dX11_loss_30 kc_X11_170 ?_
      cases hf
      exact aw_lret dX11_loss_33 hq (Nat.le_refl _) (Nat.le_refl _)
  refine aw_iload_n dX11_loss_0 rfl rfl ?_
  obtain ⟨p3, hp3, hf⟩ := ax_bind hf
  refine aw_cSi (As := [.int x1]) (st := []) dX11_loss_1 cl_X11_172 st_X11_isRank (k_X11_isRank (Q := (fun v h' => v = some (.int p3.1) ∧ h' = hp p3.2 gb)) x1 s gb hp3 ⟨rfl, rfl⟩) rfl rfl (Nat.le_of_ble_eq_true rfl) rfl (by decide) (by decide) ?_
  refine aw_if_eq (tgt := 18) dX11_loss_4 (by decide) (fun hc3 => ?_) (fun hc3 => ?_)
  · have hf := ax_pos hc3 hf
    refine aw_ldc2 dX11_loss_18 kc_X11_170 ?_
    refine aw_less (L' := [some (.ref 0), none, none, none, none]) (And.intro rfl trivial) ?_
    exact J21 (-9223372036854775808 : Int64) p3.2 hf
  · have hf := ax_neg hc3 hf
    refine aw_aload_n dX11_loss_7 rfl rfl ?_
    refine aw_gR dX11_loss_8 fl_X11_39 sh_0 rfl ?_
    refine aw_iload_n dX11_loss_11 rfl rfl ?_
    obtain ⟨p4, hp4, hf⟩ := ax_bind hf
    refine aw_cVl (As := [.int x1]) (st := []) dX11_loss_12 cl_X11_175 iv_X4_sumOf (k_X4_sumOf (Q := (fun v h' => v = some (.long p4.1) ∧ h' = hp p4.2 gb)) x1 p3.2 gb hp4 ⟨rfl, rfl⟩) (ci := 4) rfl (hp_get sh_9) rfl rfl rfl (Nat.le_of_ble_eq_true rfl) rfl (by decide) (by decide) ?_
    refine aw_goto (tgt := 21) dX11_loss_15 (by decide) ?_
    refine aw_less (L' := [some (.ref 0), none, none, none, none]) (And.intro rfl trivial) ?_
    exact J21 p4.1 p4.2 hf
noncomputable def f_X11_dearest (x1 : Int32) (s : sx_M) : Option (Int64 × sx_M) :=
  (if (rI s 3 1) = 0 then
 some ((-9223372036854775808 : Int64), s)
else
 (f_X11_isRank x1 s).bind (fun p1 =>
 (if p1.1 = 0 then
 some ((-9223372036854775808 : Int64), p1.2)
else
 (f_X4_lay 56 x1 p1.2).bind (fun p2 =>
 (if p2.1 = 0 then
 some ((-9223372036854775808 : Int64), p2.2)
else
 (f_X1_greatestOf 3 56 p2.2).bind (fun p3 =>
 some (p3.1, p3.2)))))))
set_option maxRecDepth 100000 in
set_option maxHeartbeats 4000000 in
theorem k_X11_dearest {l : Launch} {X : ax_X} {Q : Option Value → ax_H → Prop} (x1 : Int32) (s : sx_M) (gb : ax_H) {p : Int64 × sx_M} (hf : f_X11_dearest x1 s = some p) (hq : Q (some (.long p.1)) (hp p.2 gb)) : AM l X yX11_dearest cX11_dearest 2 (some .long) 14 0 0 [.ref 0, .int x1] (hp s gb) Q := by
  refine aw_met (own := RX11) (nm := "dearest") (L := [some (.ref 0), some (.int x1)]) (by decide +kernel) rfl rfl (And.intro rfl (And.intro rfl trivial)) (Nat.le_of_ble_eq_true rfl) ?_
  unfold f_X11_dearest at hf
  refine aw_aload_n dX11_dearest_0 rfl rfl ?_
  refine aw_gR dX11_dearest_1 fl_X11_21 sh_0 rfl ?_
  refine aw_gI dX11_dearest_4 fl_X11_140 sh_3 rfl ?_
  refine aw_if_eq (tgt := 32) dX11_dearest_7 (by decide) (fun hc3 => ?_) (fun hc3 => ?_)
  · have hf := ax_pos hc3 hf
    refine aw_ldc2 dX11_dearest_32 kc_X11_170 ?_
    cases hf
    exact aw_lret dX11_dearest_35 hq (Nat.le_refl _) (Nat.le_refl _)
  · have hf := ax_neg hc3 hf
    refine aw_iload_n dX11_dearest_10 rfl rfl ?_
    obtain ⟨p1, hp1, hf⟩ := ax_bind hf
    refine aw_cSi (As := [.int x1]) (st := []) dX11_dearest_11 cl_X11_172 st_X11_isRank (k_X11_isRank (Q := (fun v h' => v = some (.int p1.1) ∧ h' = hp p1.2 gb)) x1 s gb hp1 ⟨rfl, rfl⟩) rfl rfl (Nat.le_of_ble_eq_true rfl) rfl (by decide) (by decide) ?_
    refine aw_if_eq (tgt := 32) dX11_dearest_14 (by decide) (fun hc2 => ?_) (fun hc2 => ?_)
    · have hf := ax_pos hc2 hf
      refine aw_ldc2 dX11_dearest_32 kc_X11_170 ?_
      cases hf
      exact aw_lret dX11_dearest_35 hq (Nat.le_refl _) (Nat.le_refl _)
    · have hf := ax_neg hc2 hf
      refine aw_aload_n dX11_dearest_17 rfl rfl ?_
      refine aw_gR dX11_dearest_18 fl_X11_39 sh_0 rfl ?_
      refine aw_iload_n dX11_dearest_21 rfl rfl ?_
      refine aw_aload_n dX11_dearest_22 rfl rfl ?_
      refine aw_gR dX11_dearest_23 fl_X11_102 sh_0 rfl ?_
      obtain ⟨p2, hp2, hf⟩ := ax_bind hf
      refine aw_cVi (As := [.int x1, .ref 56]) (st := []) dX11_dearest_26 cl_X11_182 iv_X4_lay (k_X4_lay (Q := (fun v h' => v = some (.int p2.1) ∧ h' = hp p2.2 gb)) 56 x1 p1.2 gb sh_56 hp2 ⟨rfl, rfl⟩) (ci := 4) rfl (hp_get sh_9) rfl rfl rfl (Nat.le_of_ble_eq_true rfl) rfl (by decide) (by decide) ?_
      refine aw_if_ne (tgt := 36) dX11_dearest_29 (by decide) (fun hc1 => ?_) (fun hc1 => ?_)
      · have hf := ax_neg hc1 hf
        refine aw_aload_n dX11_dearest_36 rfl rfl ?_
        refine aw_gR dX11_dearest_37 fl_X11_21 sh_0 rfl ?_
        refine aw_aload_n dX11_dearest_40 rfl rfl ?_
        refine aw_gR dX11_dearest_41 fl_X11_102 sh_0 rfl ?_
        obtain ⟨p3, hp3, hf⟩ := ax_bind hf
        refine aw_cVl (As := [.ref 56]) (st := []) dX11_dearest_44 cl_X11_210 iv_X1_greatestOf (k_X1_greatestOf (Q := (fun v h' => v = some (.long p3.1) ∧ h' = hp p3.2 gb)) 3 56 p2.2 gb ax_G3 sh_56 hp3 ⟨rfl, rfl⟩) (ci := 1) rfl (hp_get sh_3) rfl rfl rfl (Nat.le_of_ble_eq_true rfl) rfl (by decide) (by decide) ?_
        cases hf
        exact aw_lret dX11_dearest_47 hq (Nat.le_refl _) (Nat.le_refl _)
      · have hf := ax_pos hc1 hf
        refine aw_ldc2 dX11_dearest_32 kc_X11_170 ?_
        cases hf
        exact aw_lret dX11_dearest_35 hq (Nat.le_refl _) (Nat.le_refl _)
noncomputable def f_X11_apart_L54 (a54 : Int32 × Int32 × sx_M) : Option ((Int32 × Int32 × sx_M) ⊕ (Int32 × sx_M)) :=
  (if (rI a54.2.2 3 1) ≤ a54.2.1 then
 some (.inr (a54.1, a54.2.2))
else
 (if ¬ (a54.2.1 < 0 ∨ 7 ≤ (a54.2.1).toNatClampNeg) then
 (if ¬ (a54.2.1 < 0 ∨ 7 ≤ (a54.2.1).toNatClampNeg) then
 (if (rA a54.2.2 56 (a54.2.1).toNatClampNeg) = (rA a54.2.2 57 (a54.2.1).toNatClampNeg) then
 some (.inl (a54.1, (a54.2.1 + (1 : Int32)), a54.2.2))
else
 some (.inl ((a54.1 + (1 : Int32)), (a54.2.1 + (1 : Int32)), a54.2.2)))
else none)
else none))
noncomputable def f_X11_apart (x1 : Int32) (x2 : Int32) (s : sx_M) : Option (Int32 × sx_M) :=
  (f_X11_isRank x1 s).bind (fun p1 =>
 (if p1.1 = 0 then
 some ((-2 : Int32), p1.2)
else
 (f_X11_isRank x2 p1.2).bind (fun p2 =>
 (if p2.1 = 0 then
 some ((-2 : Int32), p2.2)
else
 (f_X4_lay 56 x1 p2.2).bind (fun p3 =>
 (if p3.1 = 0 then
 some ((-1 : Int32), p3.2)
else
 (f_X4_lay 57 x2 p3.2).bind (fun p4 =>
 (if p4.1 = 0 then
 some ((-1 : Int32), p4.2)
else
 (whT (f_X11_apart_L54) ((0 : Int32), (0 : Int32), p4.2)).bind (fun b5 =>
 some (b5.1, b5.2))))))))))
set_option maxRecDepth 100000 in
set_option maxHeartbeats 4000000 in
theorem k_X11_apart {l : Launch} {X : ax_X} {Q : Option Value → ax_H → Prop} (x1 : Int32) (x2 : Int32) (s : sx_M) (gb : ax_H) {p : Int32 × sx_M} (hf : f_X11_apart x1 x2 s = some p) (hq : Q (some (.int p.1)) (hp p.2 gb)) : AM l X yX11_apart cX11_apart 5 (some .int) 14 0 0 [.ref 0, .int x1, .int x2] (hp s gb) Q := by
  refine aw_met (own := RX11) (nm := "apart") (L := [some (.ref 0), some (.int x1), some (.int x2), none, none]) (by decide +kernel) rfl rfl (And.intro rfl (And.intro rfl (And.intro rfl trivial))) (Nat.le_of_ble_eq_true rfl) ?_
  unfold f_X11_apart at hf
  refine aw_iload_n dX11_apart_0 rfl rfl ?_
  obtain ⟨p1, hp1, hf⟩ := ax_bind hf
  refine aw_cSi (As := [.int x1]) (st := []) dX11_apart_1 cl_X11_172 st_X11_isRank (k_X11_isRank (Q := (fun v h' => v = some (.int p1.1) ∧ h' = hp p1.2 gb)) x1 s gb hp1 ⟨rfl, rfl⟩) rfl rfl (Nat.le_of_ble_eq_true rfl) rfl (by decide) (by decide) ?_
  refine aw_if_eq (tgt := 14) dX11_apart_4 (by decide) (fun hc8 => ?_) (fun hc8 => ?_)
  · have hf := ax_pos hc8 hf
    refine aw_bipush (v := -2) dX11_apart_14 (by decide) ?_
    cases hf
    exact aw_iret dX11_apart_16 hq (Nat.le_refl _) (Nat.le_refl _)
  · have hf := ax_neg hc8 hf
    refine aw_iload_n dX11_apart_7 rfl rfl ?_
    obtain ⟨p2, hp2, hf⟩ := ax_bind hf
    refine aw_cSi (As := [.int x2]) (st := []) dX11_apart_8 cl_X11_172 st_X11_isRank (k_X11_isRank (Q := (fun v h' => v = some (.int p2.1) ∧ h' = hp p2.2 gb)) x2 p1.2 gb hp2 ⟨rfl, rfl⟩) rfl rfl (Nat.le_of_ble_eq_true rfl) rfl (by decide) (by decide) ?_
    refine aw_if_ne (tgt := 17) dX11_apart_11 (by decide) (fun hc7 => ?_) (fun hc7 => ?_)
    · have hf := ax_neg hc7 hf
      refine aw_aload_n dX11_apart_17 rfl rfl ?_
      refine aw_gR dX11_apart_18 fl_X11_39 sh_0 rfl ?_
      refine aw_iload_n dX11_apart_21 rfl rfl ?_
      refine aw_aload_n dX11_apart_22 rfl rfl ?_
      refine aw_gR dX11_apart_23 fl_X11_102 sh_0 rfl ?_
      obtain ⟨p3, hp3, hf⟩ := ax_bind hf
      refine aw_cVi (As := [.int x1, .ref 56]) (st := []) dX11_apart_26 cl_X11_182 iv_X4_lay (k_X4_lay (Q := (fun v h' => v = some (.int p3.1) ∧ h' = hp p3.2 gb)) 56 x1 p2.2 gb sh_56 hp3 ⟨rfl, rfl⟩) (ci := 4) rfl (hp_get sh_9) rfl rfl rfl (Nat.le_of_ble_eq_true rfl) rfl (by decide) (by decide) ?_
      refine aw_if_eq (tgt := 47) dX11_apart_29 (by decide) (fun hc6 => ?_) (fun hc6 => ?_)
      · have hf := ax_pos hc6 hf
        refine aw_iconst (v := -1) dX11_apart_47 (by decide) ?_
        cases hf
        exact aw_iret dX11_apart_48 hq (Nat.le_refl _) (Nat.le_refl _)
      · have hf := ax_neg hc6 hf
        refine aw_aload_n dX11_apart_32 rfl rfl ?_
        refine aw_gR dX11_apart_33 fl_X11_39 sh_0 rfl ?_
        refine aw_iload_n dX11_apart_36 rfl rfl ?_
        refine aw_aload_n dX11_apart_37 rfl rfl ?_
        refine aw_gR dX11_apart_38 fl_X11_106 sh_0 rfl ?_
        obtain ⟨p4, hp4, hf⟩ := ax_bind hf
        refine aw_cVi (As := [.int x2, .ref 57]) (st := []) dX11_apart_41 cl_X11_182 iv_X4_lay (k_X4_lay (Q := (fun v h' => v = some (.int p4.1) ∧ h' = hp p4.2 gb)) 57 x2 p3.2 gb sh_57 hp4 ⟨rfl, rfl⟩) (ci := 4) rfl (hp_get sh_9) rfl rfl rfl (Nat.le_of_ble_eq_true rfl) rfl (by decide) (by decide) ?_
        refine aw_if_ne (tgt := 49) dX11_apart_44 (by decide) (fun hc5 => ?_) (fun hc5 => ?_)
        · have hf := ax_neg hc5 hf
          refine aw_iconst (v := 0) dX11_apart_49 (by decide) ?_
          refine aw_istore_n (L' := [some (.ref 0), some (.int x1), some (.int x2), some (.int (0 : Int32)), none]) dX11_apart_50 rfl (by decide) rfl ?_
          refine aw_iconst (v := 0) dX11_apart_51 (by decide) ?_
          refine aw_istore (L' := [some (.ref 0), some (.int x1), some (.int x2), some (.int (0 : Int32)), some (.int (0 : Int32))]) dX11_apart_52 (by decide) rfl ?_
          refine aw_less (L' := [some (.ref 0), none, none, some (.int (0 : Int32)), some (.int (0 : Int32))]) (And.intro rfl (And.intro rfl (And.intro rfl trivial))) ?_
          obtain ⟨b5, hb5, hf⟩ := ax_bind hf
          refine wh_go ((0 : Int32), (0 : Int32), p4.2) (fun a54 : Int32 × Int32 × sx_M => AW l X RX11 "apart" cX11_apart 5 (some .int) (ax_rm 14 0 0) (ax_MQ X Q 0 0) 0 0 54 [some (.ref 0), none, none, some (.int a54.1), some (.int a54.2.1)] [] (hp a54.2.2 gb)) (fun e : Int32 × sx_M => AW l X RX11 "apart" cX11_apart 5 (some .int) (ax_rm 14 0 0) (ax_MQ X Q 0 0) 0 0 92 [none, none, none, some (.int e.1), none] [] (hp e.2 gb)) hb5 ?_ ?_
          · intro a54 r hf hK
            unfold f_X11_apart_L54 at hf
            refine aw_iload dX11_apart_54 rfl ?_
            refine aw_aload_n dX11_apart_56 rfl rfl ?_
            refine aw_gR dX11_apart_57 fl_X11_21 sh_0 rfl ?_
            refine aw_gI dX11_apart_60 fl_X11_140 sh_3 rfl ?_
            refine aw_icmp_ge (tgt := 92) dX11_apart_63 (by decide) (fun hc4 => ?_) (fun hc4 => ?_)
            · have hf := ax_pos hc4 hf
              refine aw_less (L' := [none, none, none, some (.int a54.1), none]) (And.intro rfl trivial) ?_
              cases hf
              exact hK
            · have hf := ax_neg hc4 hf
              refine aw_aload_n dX11_apart_66 rfl rfl ?_
              refine aw_gR dX11_apart_67 fl_X11_102 sh_0 rfl ?_
              refine aw_iload dX11_apart_70 rfl ?_
              obtain ⟨hc1, hf⟩ := ax_ite hf
              refine aw_lA dX11_apart_72 sh_56 hc1 ?_
              refine aw_aload_n dX11_apart_73 rfl rfl ?_
              refine aw_gR dX11_apart_74 fl_X11_106 sh_0 rfl ?_
              refine aw_iload dX11_apart_77 rfl ?_
              obtain ⟨hc2, hf⟩ := ax_ite hf
              refine aw_lA dX11_apart_79 sh_57 hc2 ?_
              refine aw_icmp_eq (tgt := 86) dX11_apart_80 (by decide) (fun hc3 => ?_) (fun hc3 => ?_)
              · have hf := ax_pos hc3 hf
                refine aw_iinc (v := (a54.2.1 + (1 : Int32))) (L' := [some (.ref 0), none, none, some (.int a54.1), some (.int (a54.2.1 + (1 : Int32)))]) dX11_apart_86 rfl rfl (by decide) rfl ?_
                refine aw_goto (tgt := 54) dX11_apart_89 (by decide) ?_
                cases hf
                exact hK
              · have hf := ax_neg hc3 hf
                refine aw_iinc (v := (a54.1 + (1 : Int32))) (L' := [some (.ref 0), none, none, some (.int (a54.1 + (1 : Int32))), some (.int a54.2.1)]) dX11_apart_83 rfl rfl (by decide) rfl ?_
                refine aw_iinc (v := (a54.2.1 + (1 : Int32))) (L' := [some (.ref 0), none, none, some (.int (a54.1 + (1 : Int32))), some (.int (a54.2.1 + (1 : Int32)))]) dX11_apart_86 rfl rfl (by decide) rfl ?_
                refine aw_goto (tgt := 54) dX11_apart_89 (by decide) ?_
                cases hf
                exact hK
          · refine aw_iload_n dX11_apart_92 rfl rfl ?_
            cases hf
            exact aw_iret dX11_apart_93 hq (Nat.le_refl _) (Nat.le_refl _)
        · have hf := ax_pos hc5 hf
          refine aw_iconst (v := -1) dX11_apart_47 (by decide) ?_
          cases hf
          exact aw_iret dX11_apart_48 hq (Nat.le_refl _) (Nat.le_refl _)
    · have hf := ax_pos hc7 hf
      refine aw_bipush (v := -2) dX11_apart_14 (by decide) ?_
      cases hf
      exact aw_iret dX11_apart_16 hq (Nat.le_refl _) (Nat.le_refl _)
noncomputable def f_X11_rounds (x1 : Int32) (x2 : Int32) (x3 : Int32) (s : sx_M) : Option (Int32 × sx_M) :=
  (f_X11_isRank x1 s).bind (fun p1 =>
 (if p1.1 = 0 then
 some ((-2 : Int32), p1.2)
else
 (f_X11_isRank x2 p1.2).bind (fun p2 =>
 (if p2.1 = 0 then
 some ((-2 : Int32), p2.2)
else
 (if x3 < 0 then
 some ((-2 : Int32), p2.2)
else
 (if x3 ≤ (3 : Int32) then
 (f_X4_lay 56 x1 p2.2).bind (fun p3 =>
 (if p3.1 = 0 then
 some ((-1 : Int32), p3.2)
else
 (f_X4_lay 57 x2 p3.2).bind (fun p4 =>
 (if p4.1 = 0 then
 some ((-1 : Int32), p4.2)
else
 (f_X10_trace 56 57 (rI p4.2 3 1) p4.2).bind (fun p5 =>
 (if x3 = (0 : Int32) then
 some ((rI p5 55 0), p5)
else
 (if x3 = (1 : Int32) then
 some ((rI p5 55 1), p5)
else
 (if x3 = (2 : Int32) then
 some ((rI p5 55 2), p5)
else
 some ((rI p5 55 3), p5)))))))))
else
 some ((-2 : Int32), p2.2)))))))
set_option maxRecDepth 100000 in
set_option maxHeartbeats 4000000 in
theorem k_X11_rounds {l : Launch} {X : ax_X} {Q : Option Value → ax_H → Prop} (x1 : Int32) (x2 : Int32) (x3 : Int32) (s : sx_M) (gb : ax_H) {p : Int32 × sx_M} (hf : f_X11_rounds x1 x2 x3 s = some p) (hq : Q (some (.int p.1)) (hp p.2 gb)) : AM l X yX11_rounds cX11_rounds 4 (some .int) 14 0 0 [.ref 0, .int x1, .int x2, .int x3] (hp s gb) Q := by
  refine aw_met (own := RX11) (nm := "rounds") (L := [some (.ref 0), some (.int x1), some (.int x2), some (.int x3)]) (by decide +kernel) rfl rfl (And.intro rfl (And.intro rfl (And.intro rfl (And.intro rfl trivial)))) (Nat.le_of_ble_eq_true rfl) ?_
  unfold f_X11_rounds at hf
  refine aw_iload_n dX11_rounds_0 rfl rfl ?_
  obtain ⟨p1, hp1, hf⟩ := ax_bind hf
  refine aw_cSi (As := [.int x1]) (st := []) dX11_rounds_1 cl_X11_172 st_X11_isRank (k_X11_isRank (Q := (fun v h' => v = some (.int p1.1) ∧ h' = hp p1.2 gb)) x1 s gb hp1 ⟨rfl, rfl⟩) rfl rfl (Nat.le_of_ble_eq_true rfl) rfl (by decide) (by decide) ?_
  refine aw_if_eq (tgt := 23) dX11_rounds_4 (by decide) (fun hc9 => ?_) (fun hc9 => ?_)
  · have hf := ax_pos hc9 hf
    refine aw_bipush (v := -2) dX11_rounds_23 (by decide) ?_
    cases hf
    exact aw_iret dX11_rounds_25 hq (Nat.le_refl _) (Nat.le_refl _)
  · have hf := ax_neg hc9 hf
    refine aw_iload_n dX11_rounds_7 rfl rfl ?_
    obtain ⟨p2, hp2, hf⟩ := ax_bind hf
    refine aw_cSi (As := [.int x2]) (st := []) dX11_rounds_8 cl_X11_172 st_X11_isRank (k_X11_isRank (Q := (fun v h' => v = some (.int p2.1) ∧ h' = hp p2.2 gb)) x2 p1.2 gb hp2 ⟨rfl, rfl⟩) rfl rfl (Nat.le_of_ble_eq_true rfl) rfl (by decide) (by decide) ?_
    refine aw_if_eq (tgt := 23) dX11_rounds_11 (by decide) (fun hc8 => ?_) (fun hc8 => ?_)
    · have hf := ax_pos hc8 hf
      refine aw_bipush (v := -2) dX11_rounds_23 (by decide) ?_
      cases hf
      exact aw_iret dX11_rounds_25 hq (Nat.le_refl _) (Nat.le_refl _)
    · have hf := ax_neg hc8 hf
      refine aw_iload_n dX11_rounds_14 rfl rfl ?_
      refine aw_if_lt (tgt := 23) dX11_rounds_15 (by decide) (fun hc7 => ?_) (fun hc7 => ?_)
      · have hf := ax_pos hc7 hf
        refine aw_bipush (v := -2) dX11_rounds_23 (by decide) ?_
        cases hf
        exact aw_iret dX11_rounds_25 hq (Nat.le_refl _) (Nat.le_refl _)
      · have hf := ax_neg hc7 hf
        refine aw_iload_n dX11_rounds_18 rfl rfl ?_
        refine aw_iconst (v := 3) dX11_rounds_19 (by decide) ?_
        refine aw_icmp_le (tgt := 26) dX11_rounds_20 (by decide) (fun hc6 => ?_) (fun hc6 => ?_)
        · have hf := ax_pos hc6 hf
          refine aw_aload_n dX11_rounds_26 rfl rfl ?_
          refine aw_gR dX11_rounds_27 fl_X11_39 sh_0 rfl ?_
          refine aw_iload_n dX11_rounds_30 rfl rfl ?_
          refine aw_aload_n dX11_rounds_31 rfl rfl ?_
          refine aw_gR dX11_rounds_32 fl_X11_102 sh_0 rfl ?_
          obtain ⟨p3, hp3, hf⟩ := ax_bind hf
          refine aw_cVi (As := [.int x1, .ref 56]) (st := []) dX11_rounds_35 cl_X11_182 iv_X4_lay (k_X4_lay (Q := (fun v h' => v = some (.int p3.1) ∧ h' = hp p3.2 gb)) 56 x1 p2.2 gb sh_56 hp3 ⟨rfl, rfl⟩) (ci := 4) rfl (hp_get sh_9) rfl rfl rfl (Nat.le_of_ble_eq_true rfl) rfl (by decide) (by decide) ?_
          refine aw_if_eq (tgt := 56) dX11_rounds_38 (by decide) (fun hc5 => ?_) (fun hc5 => ?_)
          · have hf := ax_pos hc5 hf
            refine aw_iconst (v := -1) dX11_rounds_56 (by decide) ?_
            cases hf
            exact aw_iret dX11_rounds_57 hq (Nat.le_refl _) (Nat.le_refl _)
          · have hf := ax_neg hc5 hf
            refine aw_aload_n dX11_rounds_41 rfl rfl ?_
            refine aw_gR dX11_rounds_42 fl_X11_39 sh_0 rfl ?_
            refine aw_iload_n dX11_rounds_45 rfl rfl ?_
            refine aw_aload_n dX11_rounds_46 rfl rfl ?_
            refine aw_gR dX11_rounds_47 fl_X11_106 sh_0 rfl ?_
            obtain ⟨p4, hp4, hf⟩ := ax_bind hf
            refine aw_cVi (As := [.int x2, .ref 57]) (st := []) dX11_rounds_50 cl_X11_182 iv_X4_lay (k_X4_lay (Q := (fun v h' => v = some (.int p4.1) ∧ h' = hp p4.2 gb)) 57 x2 p3.2 gb sh_57 hp4 ⟨rfl, rfl⟩) (ci := 4) rfl (hp_get sh_9) rfl rfl rfl (Nat.le_of_ble_eq_true rfl) rfl (by decide) (by decide) ?_
            refine aw_if_ne (tgt := 58) dX11_rounds_53 (by decide) (fun hc4 => ?_) (fun hc4 => ?_)
            · have hf := ax_neg hc4 hf
              refine aw_aload_n dX11_rounds_58 rfl rfl ?_
              refine aw_gR dX11_rounds_59 fl_X11_98 sh_0 rfl ?_
              refine aw_aload_n dX11_rounds_62 rfl rfl ?_
              refine aw_gR dX11_rounds_63 fl_X11_102 sh_0 rfl ?_
              refine aw_aload_n dX11_rounds_66 rfl rfl ?_
              refine aw_gR dX11_rounds_67 fl_X11_106 sh_0 rfl ?_
              refine aw_aload_n dX11_rounds_70 rfl rfl ?_
              refine aw_gR dX11_rounds_71 fl_X11_21 sh_0 rfl ?_
              refine aw_gI dX11_rounds_74 fl_X11_140 sh_3 rfl ?_
              obtain ⟨p5, hp5, hf⟩ := ax_bind hf
              refine aw_cVv (As := [.ref 56, .ref 57, .int (rI p4.2 3 1)]) (st := []) dX11_rounds_77 cl_X11_214 iv_X10_trace (k_X10_trace (Q := (fun v h' => v = none ∧ h' = hp p5 gb)) 56 57 (rI p4.2 3 1) p4.2 gb sh_56 sh_57 hp5 ⟨rfl, rfl⟩) (ci := 10) rfl (hp_get sh_55) rfl rfl rfl (Nat.le_of_ble_eq_true rfl) rfl (by decide) (by decide) ?_
              refine aw_iload_n dX11_rounds_80 rfl rfl ?_
              by_cases hc1 : x3 = (0 : Int32)
              · have hf := ax_pos hc1 hf
                refine aw_tableAt (tgt := 108) 0 dX11_rounds_81 hc1 (by decide) rfl (by decide) ?_
                refine aw_aload_n dX11_rounds_108 rfl rfl ?_
                refine aw_gR dX11_rounds_109 fl_X11_98 sh_0 rfl ?_
                refine aw_gI dX11_rounds_112 fl_X11_218 sh_55 rfl ?_
                cases hf
                exact aw_iret dX11_rounds_115 hq (Nat.le_refl _) (Nat.le_refl _)
              have hf := ax_neg hc1 hf
              by_cases hc2 : x3 = (1 : Int32)
              · have hf := ax_pos hc2 hf
                refine aw_tableAt (tgt := 116) 1 dX11_rounds_81 hc2 (by decide) rfl (by decide) ?_
                refine aw_aload_n dX11_rounds_116 rfl rfl ?_
                refine aw_gR dX11_rounds_117 fl_X11_98 sh_0 rfl ?_
                refine aw_gI dX11_rounds_120 fl_X11_221 sh_55 rfl ?_
                cases hf
                exact aw_iret dX11_rounds_123 hq (Nat.le_refl _) (Nat.le_refl _)
              have hf := ax_neg hc2 hf
              by_cases hc3 : x3 = (2 : Int32)
              · have hf := ax_pos hc3 hf
                refine aw_tableAt (tgt := 124) 2 dX11_rounds_81 hc3 (by decide) rfl (by decide) ?_
                refine aw_aload_n dX11_rounds_124 rfl rfl ?_
                refine aw_gR dX11_rounds_125 fl_X11_98 sh_0 rfl ?_
                refine aw_gI dX11_rounds_128 fl_X11_224 sh_55 rfl ?_
                cases hf
                exact aw_iret dX11_rounds_131 hq (Nat.le_refl _) (Nat.le_refl _)
              have hf := ax_neg hc3 hf
              refine aw_tableOut (tgt := 132) dX11_rounds_81 (ax_sw 2 (fun i hi => ?_)) (by decide) ?_
              · rcases (show i = 0 ∨ i = 1 ∨ i = 2 by omega) with rfl | rfl | rfl <;> assumption
              · refine aw_aload_n dX11_rounds_132 rfl rfl ?_
                refine aw_gR dX11_rounds_133 fl_X11_98 sh_0 rfl ?_
                refine aw_gI dX11_rounds_136 fl_X11_227 sh_55 rfl ?_
                cases hf
                exact aw_iret dX11_rounds_139 hq (Nat.le_refl _) (Nat.le_refl _)
            · have hf := ax_pos hc4 hf
              refine aw_iconst (v := -1) dX11_rounds_56 (by decide) ?_
              cases hf
              exact aw_iret dX11_rounds_57 hq (Nat.le_refl _) (Nat.le_refl _)
        · have hf := ax_neg hc6 hf
          refine aw_bipush (v := -2) dX11_rounds_23 (by decide) ?_
          cases hf
          exact aw_iret dX11_rounds_25 hq (Nat.le_refl _) (Nat.le_refl _)
noncomputable def f_X11_often (x1 : Int32) (x2 : Int32) (x3 : Int32) (s : sx_M) : Option (Int32 × sx_M) :=
  (f_X1_has 3 x1 x2 s).bind (fun p1 =>
 (if p1.1 = 0 then
 some ((-2 : Int32), p1.2)
else
 (if x3 < (1 : Int32) then
 some ((-2 : Int32), p1.2)
else
 (if x3 ≤ (200 : Int32) then
 (f_X4_with x1 x2 x3 p1.2).bind (fun p2 =>
 some (p2.1, p2.2))
else
 some ((-2 : Int32), p1.2)))))
set_option maxRecDepth 100000 in
set_option maxHeartbeats 4000000 in
theorem k_X11_often {l : Launch} {X : ax_X} {Q : Option Value → ax_H → Prop} (x1 : Int32) (x2 : Int32) (x3 : Int32) (s : sx_M) (gb : ax_H) {p : Int32 × sx_M} (hf : f_X11_often x1 x2 x3 s = some p) (hq : Q (some (.int p.1)) (hp p.2 gb)) : AM l X yX11_often cX11_often 4 (some .int) 14 0 0 [.ref 0, .int x1, .int x2, .int x3] (hp s gb) Q := by
  refine aw_met (own := RX11) (nm := "often") (L := [some (.ref 0), some (.int x1), some (.int x2), some (.int x3)]) (by decide +kernel) rfl rfl (And.intro rfl (And.intro rfl (And.intro rfl (And.intro rfl trivial)))) (Nat.le_of_ble_eq_true rfl) ?_
  unfold f_X11_often at hf
  refine aw_aload_n dX11_often_0 rfl rfl ?_
  refine aw_gR dX11_often_1 fl_X11_21 sh_0 rfl ?_
  refine aw_iload_n dX11_often_4 rfl rfl ?_
  refine aw_iload_n dX11_often_5 rfl rfl ?_
  obtain ⟨p1, hp1, hf⟩ := ax_bind hf
  refine aw_cVi (As := [.int x1, .int x2]) (st := []) dX11_often_6 cl_X11_162 iv_X1_has (k_X1_has (Q := (fun v h' => v = some (.int p1.1) ∧ h' = hp p1.2 gb)) 3 x1 x2 s gb ax_G3 hp1 ⟨rfl, rfl⟩) (ci := 1) rfl (hp_get sh_3) rfl rfl rfl (Nat.le_of_ble_eq_true rfl) rfl (by decide) (by decide) ?_
  refine aw_if_eq (tgt := 24) dX11_often_9 (by decide) (fun hc3 => ?_) (fun hc3 => ?_)
  · have hf := ax_pos hc3 hf
    refine aw_bipush (v := -2) dX11_often_24 (by decide) ?_
    cases hf
    exact aw_iret dX11_often_26 hq (Nat.le_refl _) (Nat.le_refl _)
  · have hf := ax_neg hc3 hf
    refine aw_iload_n dX11_often_12 rfl rfl ?_
    refine aw_iconst (v := 1) dX11_often_13 (by decide) ?_
    refine aw_icmp_lt (tgt := 24) dX11_often_14 (by decide) (fun hc2 => ?_) (fun hc2 => ?_)
    · have hf := ax_pos hc2 hf
      refine aw_bipush (v := -2) dX11_often_24 (by decide) ?_
      cases hf
      exact aw_iret dX11_often_26 hq (Nat.le_refl _) (Nat.le_refl _)
    · have hf := ax_neg hc2 hf
      refine aw_iload_n dX11_often_17 rfl rfl ?_
      refine aw_sipush (v := 200) dX11_often_18 (by decide) ?_
      refine aw_icmp_le (tgt := 27) dX11_often_21 (by decide) (fun hc1 => ?_) (fun hc1 => ?_)
      · have hf := ax_pos hc1 hf
        refine aw_aload_n dX11_often_27 rfl rfl ?_
        refine aw_gR dX11_often_28 fl_X11_39 sh_0 rfl ?_
        refine aw_iload_n dX11_often_31 rfl rfl ?_
        refine aw_iload_n dX11_often_32 rfl rfl ?_
        refine aw_iload_n dX11_often_33 rfl rfl ?_
        obtain ⟨p2, hp2, hf⟩ := ax_bind hf
        refine aw_cVi (As := [.int x1, .int x2, .int x3]) (st := []) dX11_often_34 cl_X11_230 iv_X4_with (k_X4_with (Q := (fun v h' => v = some (.int p2.1) ∧ h' = hp p2.2 gb)) x1 x2 x3 p1.2 gb hp2 ⟨rfl, rfl⟩) (ci := 4) rfl (hp_get sh_9) rfl rfl rfl (Nat.le_of_ble_eq_true rfl) rfl (by decide) (by decide) ?_
        cases hf
        exact aw_iret dX11_often_37 hq (Nat.le_refl _) (Nat.le_refl _)
      · have hf := ax_neg hc1 hf
        refine aw_bipush (v := -2) dX11_often_24 (by decide) ?_
        cases hf
        exact aw_iret dX11_often_26 hq (Nat.le_refl _) (Nat.le_refl _)
noncomputable def f_X11_supposeForced_L13 (z1 : Int32) (z2 : Int32) (a13 : Int32 × sx_M) : Option ((Int32 × sx_M) ⊕ (sx_M)) :=
  (if (rI a13.2 3 2) ≤ a13.1 then
 some (.inr a13.2)
else
 (if a13.1 = z2 then
 some (.inl ((a13.1 + (1 : Int32)), a13.2))
else
 (f_X1_put 13 z1 a13.1 (9223372036854775807 : Int64) a13.2).bind (fun p2 =>
 some (.inl ((a13.1 + (1 : Int32)), p2)))))
noncomputable def f_X11_supposeForced (x1 : Int32) (x2 : Int32) (s : sx_M) : Option sx_M :=
  (f_X1_copy 13 3 s).bind (fun p1 =>
 (whT (f_X11_supposeForced_L13 x1 x2) ((0 : Int32), p1)).bind (fun b3 =>
 (f_X5_refresh 13 b3).bind (fun p4 =>
 some p4)))
set_option maxRecDepth 100000 in
set_option maxHeartbeats 4000000 in
theorem k_X11_supposeForced {l : Launch} {X : ax_X} {Q : Option Value → ax_H → Prop} (x1 : Int32) (x2 : Int32) (s : sx_M) (gb : ax_H) {p : sx_M} (hf : f_X11_supposeForced x1 x2 s = some p) (hq : Q (none) (hp p gb)) : AM l X yX11_supposeForced cX11_supposeForced 4 none 3 0 0 [.ref 0, .int x1, .int x2] (hp s gb) Q := by
  refine aw_met (own := RX11) (nm := "supposeForced") (L := [some (.ref 0), some (.int x1), some (.int x2), none]) (by decide +kernel) rfl rfl (And.intro rfl (And.intro rfl (And.intro rfl trivial))) (Nat.le_of_ble_eq_true rfl) ?_
  unfold f_X11_supposeForced at hf
  refine aw_aload_n dX11_supposeForced_0 rfl rfl ?_
  refine aw_gR dX11_supposeForced_1 fl_X11_43 sh_0 rfl ?_
  refine aw_aload_n dX11_supposeForced_4 rfl rfl ?_
  refine aw_gR dX11_supposeForced_5 fl_X11_21 sh_0 rfl ?_
  obtain ⟨p1, hp1, hf⟩ := ax_bind hf
  refine aw_cVv (As := [.ref 3]) (st := []) dX11_supposeForced_8 cl_X11_131 iv_X1_copy (k_X1_copy (Q := (fun v h' => v = none ∧ h' = hp p1 gb)) 13 3 s gb ax_G13 ax_G3 hp1 ⟨rfl, rfl⟩) (ci := 1) rfl (hp_get sh_13) rfl rfl rfl (Nat.le_of_ble_eq_true rfl) rfl (by decide) (by decide) ?_
  refine aw_iconst (v := 0) dX11_supposeForced_11 (by decide) ?_
  refine aw_istore_n (L' := [some (.ref 0), some (.int x1), some (.int x2), some (.int (0 : Int32))]) dX11_supposeForced_12 rfl (by decide) rfl ?_
  obtain ⟨b3, hb3, hf⟩ := ax_bind hf
  refine wh_go ((0 : Int32), p1) (fun a13 : Int32 × sx_M => AW l X RX11 "supposeForced" cX11_supposeForced 4 none (ax_rm 3 0 0) (ax_MQ X Q 0 0) 0 0 13 [some (.ref 0), some (.int x1), some (.int x2), some (.int a13.1)] [] (hp a13.2 gb)) (fun e : sx_M => AW l X RX11 "supposeForced" cX11_supposeForced 4 none (ax_rm 3 0 0) (ax_MQ X Q 0 0) 0 0 47 [some (.ref 0), none, none, none] [] (hp e gb)) hb3 ?_ ?_
  · intro a13 r hf hK
    unfold f_X11_supposeForced_L13 at hf
    refine aw_iload_n dX11_supposeForced_13 rfl rfl ?_
    refine aw_aload_n dX11_supposeForced_14 rfl rfl ?_
    refine aw_gR dX11_supposeForced_15 fl_X11_21 sh_0 rfl ?_
    refine aw_gI dX11_supposeForced_18 fl_X11_149 sh_3 rfl ?_
    refine aw_icmp_ge (tgt := 47) dX11_supposeForced_21 (by decide) (fun hc2 => ?_) (fun hc2 => ?_)
    · have hf := ax_pos hc2 hf
      refine aw_less (L' := [some (.ref 0), none, none, none]) (And.intro rfl trivial) ?_
      cases hf
      exact hK
    · have hf := ax_neg hc2 hf
      refine aw_iload_n dX11_supposeForced_24 rfl rfl ?_
      refine aw_iload_n dX11_supposeForced_25 rfl rfl ?_
      refine aw_icmp_eq (tgt := 41) dX11_supposeForced_26 (by decide) (fun hc1 => ?_) (fun hc1 => ?_)
      · have hf := ax_pos hc1 hf
        refine aw_iinc (v := (a13.1 + (1 : Int32))) (L' := [some (.ref 0), some (.int x1), some (.int x2), some (.int (a13.1 + (1 : Int32)))]) dX11_supposeForced_41 rfl rfl (by decide) rfl ?_
        refine aw_goto (tgt := 13) dX11_supposeForced_44 (by decide) ?_
        cases hf
        exact hK
      · have hf := ax_neg hc1 hf
        refine aw_aload_n dX11_supposeForced_29 rfl rfl ?_
        refine aw_gR dX11_supposeForced_30 fl_X11_43 sh_0 rfl ?_
        refine aw_iload_n dX11_supposeForced_33 rfl rfl ?_
        refine aw_iload_n dX11_supposeForced_34 rfl rfl ?_
        refine aw_ldc2 dX11_supposeForced_35 kc_X11_242 ?_
        obtain ⟨p2, hp2, hf⟩ := ax_bind hf
        refine aw_cVv (As := [.int x1, .int a13.1, .long (9223372036854775807 : Int64)]) (st := []) dX11_supposeForced_38 cl_X11_401 iv_X1_put (k_X1_put (Q := (fun v h' => v = none ∧ h' = hp p2 gb)) 13 x1 a13.1 (9223372036854775807 : Int64) a13.2 gb ax_G13 hp2 ⟨rfl, rfl⟩) (ci := 1) rfl (hp_get sh_13) rfl rfl rfl (Nat.le_of_ble_eq_true rfl) rfl (by decide) (by decide) ?_
        refine aw_iinc (v := (a13.1 + (1 : Int32))) (L' := [some (.ref 0), some (.int x1), some (.int x2), some (.int (a13.1 + (1 : Int32)))]) dX11_supposeForced_41 rfl rfl (by decide) rfl ?_
        refine aw_goto (tgt := 13) dX11_supposeForced_44 (by decide) ?_
        cases hf
        exact hK
  · refine aw_aload_n dX11_supposeForced_47 rfl rfl ?_
    refine aw_gR dX11_supposeForced_48 fl_X11_46 sh_0 rfl ?_
    obtain ⟨p4, hp4, hf⟩ := ax_bind hf
    refine aw_cVv (As := []) (st := []) dX11_supposeForced_51 cl_X11_109 iv_X5_refresh (k_X5_refresh (Q := (fun v h' => v = none ∧ h' = hp p4 gb)) 13 b3 gb ax_RK13 hp4 ⟨rfl, rfl⟩) (ci := 5) rfl (hp_get sh_15) rfl rfl rfl (Nat.le_of_ble_eq_true rfl) rfl (by decide) (by decide) ?_
    cases hf
    exact aw_vret dX11_supposeForced_54 hq (Nat.le_refl _) (Nat.le_refl _)
noncomputable def f_X11_forced (x1 : Int32) (x2 : Int32) (s : sx_M) : Option (Int64 × sx_M) :=
  (f_X1_has 3 x1 x2 s).bind (fun p1 =>
 (if p1.1 = 0 then
 some ((-9223372036854775808 : Int64), p1.2)
else
 (f_X11_supposeForced x1 x2 p1.2).bind (fun p2 =>
 (f_X5_leastSum 13 p2).bind (fun p3 =>
 some (p3.1, p3.2)))))
set_option maxRecDepth 100000 in
set_option maxHeartbeats 4000000 in
theorem k_X11_forced {l : Launch} {X : ax_X} {Q : Option Value → ax_H → Prop} (x1 : Int32) (x2 : Int32) (s : sx_M) (gb : ax_H) {p : Int64 × sx_M} (hf : f_X11_forced x1 x2 s = some p) (hq : Q (some (.long p.1)) (hp p.2 gb)) : AM l X yX11_forced cX11_forced 3 (some .long) 4 0 0 [.ref 0, .int x1, .int x2] (hp s gb) Q := by
  refine aw_met (own := RX11) (nm := "forced") (L := [some (.ref 0), some (.int x1), some (.int x2)]) (by decide +kernel) rfl rfl (And.intro rfl (And.intro rfl (And.intro rfl trivial))) (Nat.le_of_ble_eq_true rfl) ?_
  unfold f_X11_forced at hf
  refine aw_aload_n dX11_forced_0 rfl rfl ?_
  refine aw_gR dX11_forced_1 fl_X11_21 sh_0 rfl ?_
  refine aw_iload_n dX11_forced_4 rfl rfl ?_
  refine aw_iload_n dX11_forced_5 rfl rfl ?_
  obtain ⟨p1, hp1, hf⟩ := ax_bind hf
  refine aw_cVi (As := [.int x1, .int x2]) (st := []) dX11_forced_6 cl_X11_162 iv_X1_has (k_X1_has (Q := (fun v h' => v = some (.int p1.1) ∧ h' = hp p1.2 gb)) 3 x1 x2 s gb ax_G3 hp1 ⟨rfl, rfl⟩) (ci := 1) rfl (hp_get sh_3) rfl rfl rfl (Nat.le_of_ble_eq_true rfl) rfl (by decide) (by decide) ?_
  refine aw_if_ne (tgt := 16) dX11_forced_9 (by decide) (fun hc1 => ?_) (fun hc1 => ?_)
  · have hf := ax_neg hc1 hf
    refine aw_aload_n dX11_forced_16 rfl rfl ?_
    refine aw_iload_n dX11_forced_17 rfl rfl ?_
    refine aw_iload_n dX11_forced_18 rfl rfl ?_
    obtain ⟨p2, hp2, hf⟩ := ax_bind hf
    refine aw_cVv (As := [.int x1, .int x2]) (st := []) dX11_forced_19 cl_X11_234 iv_X11_supposeForced (k_X11_supposeForced (Q := (fun v h' => v = none ∧ h' = hp p2 gb)) x1 x2 p1.2 gb hp2 ⟨rfl, rfl⟩) (ci := 11) rfl (hp_get sh_0) rfl rfl rfl (Nat.le_of_ble_eq_true rfl) rfl (by decide) (by decide) ?_
    refine aw_aload_n dX11_forced_22 rfl rfl ?_
    refine aw_gR dX11_forced_23 fl_X11_46 sh_0 rfl ?_
    obtain ⟨p3, hp3, hf⟩ := ax_bind hf
    refine aw_cVl (As := []) (st := []) dX11_forced_26 cl_X11_238 iv_X5_leastSum (k_X5_leastSum (Q := (fun v h' => v = some (.long p3.1) ∧ h' = hp p3.2 gb)) 13 p2 gb ax_RK13 hp3 ⟨rfl, rfl⟩) (ci := 5) rfl (hp_get sh_15) rfl rfl rfl (Nat.le_of_ble_eq_true rfl) rfl (by decide) (by decide) ?_
    cases hf
    exact aw_lret dX11_forced_29 hq (Nat.le_refl _) (Nat.le_refl _)
  · have hf := ax_pos hc1 hf
    refine aw_ldc2 dX11_forced_12 kc_X11_170 ?_
    cases hf
    exact aw_lret dX11_forced_15 hq (Nat.le_refl _) (Nat.le_refl _)
noncomputable def f_X11_supposeCost (x1 : Int32) (x2 : Int32) (x3 : Int64) (s : sx_M) : Option sx_M :=
  (f_X1_copy 13 3 s).bind (fun p1 =>
 (f_X1_put 13 x1 x2 x3 p1).bind (fun p2 =>
 (f_X5_refresh 13 p2).bind (fun p3 =>
 some p3)))
set_option maxRecDepth 100000 in
set_option maxHeartbeats 4000000 in
theorem k_X11_supposeCost {l : Launch} {X : ax_X} {Q : Option Value → ax_H → Prop} (x1 : Int32) (x2 : Int32) (x3 : Int64) (s : sx_M) (gb : ax_H) {p : sx_M} (hf : f_X11_supposeCost x1 x2 x3 s = some p) (hq : Q (none) (hp p gb)) : AM l X yX11_supposeCost cX11_supposeCost 5 none 3 0 0 [.ref 0, .int x1, .int x2, .long x3] (hp s gb) Q := by
  refine aw_met (own := RX11) (nm := "supposeCost") (L := [some (.ref 0), some (.int x1), some (.int x2), some (.long x3), none]) (by decide +kernel) rfl rfl (And.intro rfl (And.intro rfl (And.intro rfl (And.intro rfl trivial)))) (Nat.le_of_ble_eq_true rfl) ?_
  unfold f_X11_supposeCost at hf
  refine aw_aload_n dX11_supposeCost_0 rfl rfl ?_
  refine aw_gR dX11_supposeCost_1 fl_X11_43 sh_0 rfl ?_
  refine aw_aload_n dX11_supposeCost_4 rfl rfl ?_
  refine aw_gR dX11_supposeCost_5 fl_X11_21 sh_0 rfl ?_
  obtain ⟨p1, hp1, hf⟩ := ax_bind hf
  refine aw_cVv (As := [.ref 3]) (st := []) dX11_supposeCost_8 cl_X11_131 iv_X1_copy (k_X1_copy (Q := (fun v h' => v = none ∧ h' = hp p1 gb)) 13 3 s gb ax_G13 ax_G3 hp1 ⟨rfl, rfl⟩) (ci := 1) rfl (hp_get sh_13) rfl rfl rfl (Nat.le_of_ble_eq_true rfl) rfl (by decide) (by decide) ?_
  refine aw_aload_n dX11_supposeCost_11 rfl rfl ?_
  refine aw_gR dX11_supposeCost_12 fl_X11_43 sh_0 rfl ?_
  refine aw_iload_n dX11_supposeCost_15 rfl rfl ?_
  refine aw_iload_n dX11_supposeCost_16 rfl rfl ?_
  refine aw_lload_n dX11_supposeCost_17 rfl rfl ?_
  obtain ⟨p2, hp2, hf⟩ := ax_bind hf
  refine aw_cVv (As := [.int x1, .int x2, .long x3]) (st := []) dX11_supposeCost_18 cl_X11_401 iv_X1_put (k_X1_put (Q := (fun v h' => v = none ∧ h' = hp p2 gb)) 13 x1 x2 x3 p1 gb ax_G13 hp2 ⟨rfl, rfl⟩) (ci := 1) rfl (hp_get sh_13) rfl rfl rfl (Nat.le_of_ble_eq_true rfl) rfl (by decide) (by decide) ?_
  refine aw_aload_n dX11_supposeCost_21 rfl rfl ?_
  refine aw_gR dX11_supposeCost_22 fl_X11_46 sh_0 rfl ?_
  obtain ⟨p3, hp3, hf⟩ := ax_bind hf
  refine aw_cVv (As := []) (st := []) dX11_supposeCost_25 cl_X11_109 iv_X5_refresh (k_X5_refresh (Q := (fun v h' => v = none ∧ h' = hp p3 gb)) 13 p2 gb ax_RK13 hp3 ⟨rfl, rfl⟩) (ci := 5) rfl (hp_get sh_15) rfl rfl rfl (Nat.le_of_ble_eq_true rfl) rfl (by decide) (by decide) ?_
  cases hf
  exact aw_vret dX11_supposeCost_28 hq (Nat.le_refl _) (Nat.le_refl _)
noncomputable def f_X11_without (x1 : Int32) (x2 : Int32) (s : sx_M) : Option (Int64 × sx_M) :=
  (f_X1_has 3 x1 x2 s).bind (fun p1 =>
 (if p1.1 = 0 then
 some ((-9223372036854775808 : Int64), p1.2)
else
 (f_X11_supposeCost x1 x2 (9223372036854775807 : Int64) p1.2).bind (fun p2 =>
 (f_X5_leastSum 13 p2).bind (fun p3 =>
 some (p3.1, p3.2)))))
set_option maxRecDepth 100000 in
set_option maxHeartbeats 4000000 in
theorem k_X11_without {l : Launch} {X : ax_X} {Q : Option Value → ax_H → Prop} (x1 : Int32) (x2 : Int32) (s : sx_M) (gb : ax_H) {p : Int64 × sx_M} (hf : f_X11_without x1 x2 s = some p) (hq : Q (some (.long p.1)) (hp p.2 gb)) : AM l X yX11_without cX11_without 3 (some .long) 4 0 0 [.ref 0, .int x1, .int x2] (hp s gb) Q := by
  refine aw_met (own := RX11) (nm := "without") (L := [some (.ref 0), some (.int x1), some (.int x2)]) (by decide +kernel) rfl rfl (And.intro rfl (And.intro rfl (And.intro rfl trivial))) (Nat.le_of_ble_eq_true rfl) ?_
  unfold f_X11_without at hf
  refine aw_aload_n dX11_without_0 rfl rfl ?_
  refine aw_gR dX11_without_1 fl_X11_21 sh_0 rfl ?_
  refine aw_iload_n dX11_without_4 rfl rfl ?_
  refine aw_iload_n dX11_without_5 rfl rfl ?_
  obtain ⟨p1, hp1, hf⟩ := ax_bind hf
  refine aw_cVi (As := [.int x1, .int x2]) (st := []) dX11_without_6 cl_X11_162 iv_X1_has (k_X1_has (Q := (fun v h' => v = some (.int p1.1) ∧ h' = hp p1.2 gb)) 3 x1 x2 s gb ax_G3 hp1 ⟨rfl, rfl⟩) (ci := 1) rfl (hp_get sh_3) rfl rfl rfl (Nat.le_of_ble_eq_true rfl) rfl (by decide) (by decide) ?_
  refine aw_if_ne (tgt := 16) dX11_without_9 (by decide) (fun hc1 => ?_) (fun hc1 => ?_)
  · have hf := ax_neg hc1 hf
    refine aw_aload_n dX11_without_16 rfl rfl ?_
    refine aw_iload_n dX11_without_17 rfl rfl ?_
    refine aw_iload_n dX11_without_18 rfl rfl ?_
    refine aw_ldc2 dX11_without_19 kc_X11_242 ?_
    obtain ⟨p2, hp2, hf⟩ := ax_bind hf
    refine aw_cVv (As := [.int x1, .int x2, .long (9223372036854775807 : Int64)]) (st := []) dX11_without_22 cl_X11_244 iv_X11_supposeCost (k_X11_supposeCost (Q := (fun v h' => v = none ∧ h' = hp p2 gb)) x1 x2 (9223372036854775807 : Int64) p1.2 gb hp2 ⟨rfl, rfl⟩) (ci := 11) rfl (hp_get sh_0) rfl rfl rfl (Nat.le_of_ble_eq_true rfl) rfl (by decide) (by decide) ?_
    refine aw_aload_n dX11_without_25 rfl rfl ?_
    refine aw_gR dX11_without_26 fl_X11_46 sh_0 rfl ?_
    obtain ⟨p3, hp3, hf⟩ := ax_bind hf
    refine aw_cVl (As := []) (st := []) dX11_without_29 cl_X11_238 iv_X5_leastSum (k_X5_leastSum (Q := (fun v h' => v = some (.long p3.1) ∧ h' = hp p3.2 gb)) 13 p2 gb ax_RK13 hp3 ⟨rfl, rfl⟩) (ci := 5) rfl (hp_get sh_15) rfl rfl rfl (Nat.le_of_ble_eq_true rfl) rfl (by decide) (by decide) ?_
    cases hf
    exact aw_lret dX11_without_32 hq (Nat.le_refl _) (Nat.le_refl _)
  · have hf := ax_pos hc1 hf
    refine aw_ldc2 dX11_without_12 kc_X11_170 ?_
    cases hf
    exact aw_lret dX11_without_15 hq (Nat.le_refl _) (Nat.le_refl _)
noncomputable def f_X11_stays_J101 (y1_101 : Int32) (y2_101 : Int32) (y4_101 : Int32) (t0_101 : Int64) (s_101 : sx_M) : Option (Int64 × sx_M) :=
  (if t0_101 = (-9223372036854775808 : Int64) then
 some ((-9223372036854775808 : Int64), s_101)
else
 (f_X5_leastSum 3 s_101).bind (fun p1 =>
 (f_X1_at 3 y1_101 y2_101 p1.2).bind (fun p2 =>
 (if y4_101 = 0 then
 some ((p2.1 + (-(t0_101 - p1.1))), p2.2)
else
 some ((p2.1 + (t0_101 - p1.1)), p2.2)))))
noncomputable def f_X11_stays_J74 (y1_74 : Int32) (y2_74 : Int32) (y4_74 : Int32) (t0_74 : Int32) (t1_74 : Int32) (s_74 : sx_M) : Option (Int64 × sx_M) :=
  (if t0_74 = t1_74 then
 (if y4_74 = 0 then
 (f_X11_forced y1_74 y2_74 s_74).bind (fun p3 =>
 f_X11_stays_J101 y1_74 y2_74 y4_74 p3.1 p3.2)
else
 (f_X11_without y1_74 y2_74 s_74).bind (fun p4 =>
 f_X11_stays_J101 y1_74 y2_74 y4_74 p4.1 p4.2))
else
 some ((-9223372036854775808 : Int64), s_74))
noncomputable def f_X11_stays_J61 (y1_61 : Int32) (y2_61 : Int32) (y3_61 : Int32) (t0_61 : Int32) (s_61 : sx_M) : Option (Int64 × sx_M) :=
  (if t0_61 = 0 then
 f_X11_stays_J74 y1_61 y2_61 t0_61 y3_61 (0 : Int32) s_61
else
 f_X11_stays_J74 y1_61 y2_61 t0_61 y3_61 (1 : Int32) s_61)
noncomputable def f_X11_stays (x1 : Int32) (x2 : Int32) (x3 : Int32) (s : sx_M) : Option (Int64 × sx_M) :=
  (f_X1_has 3 x1 x2 s).bind (fun p5 =>
 (if p5.1 = 0 then
 some ((-9223372036854775808 : Int64), p5.2)
else
 (f_X1_at 3 x1 x2 p5.2).bind (fun p6 =>
 (if p6.1 = (9223372036854775807 : Int64) then
 some ((-9223372036854775808 : Int64), p6.2)
else
 (f_X5_findFirst 3 56 p6.2).bind (fun p7 =>
 (if p7.1 = 0 then
 some ((-9223372036854775808 : Int64), p7.2)
else
 (if ¬ (x1 < 0 ∨ 7 ≤ (x1).toNatClampNeg) then
 (if (rA p7.2 56 (x1).toNatClampNeg) = x2 then
 f_X11_stays_J61 x1 x2 x3 (1 : Int32) p7.2
else
 f_X11_stays_J61 x1 x2 x3 (0 : Int32) p7.2)
else none)))))))
set_option maxRecDepth 100000 in
set_option maxHeartbeats 4000000 in
theorem k_X11_stays {l : Launch} {X : ax_X} {Q : Option Value → ax_H → Prop} (x1 : Int32) (x2 : Int32) (x3 : Int32) (s : sx_M) (gb : ax_H) {p : Int64 × sx_M} (hf : f_X11_stays x1 x2 x3 s = some p) (hq : Q (some (.long p.1)) (hp p.2 gb)) : AM l X yX11_stays cX11_stays 9 (some .long) 5 0 0 [.ref 0, .int x1, .int x2, .int x3] (hp s gb) Q := by
  refine aw_met (own := RX11) (nm := "stays") (L := [some (.ref 0), some (.int x1), some (.int x2), some (.int x3), none, none, none, none, none]) (by decide +kernel) rfl rfl (And.intro rfl (And.intro rfl (And.intro rfl (And.intro rfl trivial)))) (Nat.le_of_ble_eq_true rfl) ?_
  unfold f_X11_stays at hf
  have J101 : ∀ (y1_101 : Int32) (y2_101 : Int32) (y4_101 : Int32) (t0_101 : Int64) (s_101 : sx_M), f_X11_stays_J101 y1_101 y2_101 y4_101 t0_101 s_101 = some p → AW l X RX11 "stays" cX11_stays 9 (some .long) (ax_rm 5 0 0) (ax_MQ X Q 0 0) 0 0 101 [some (.ref 0), some (.int y1_101), some (.int y2_101), none, some (.int y4_101), none, none, none, none] [.long t0_101] (hp s_101 gb) := by
    intro y1_101 y2_101 y4_101 t0_101 s_101 hf
    unfold f_X11_stays_J101 at hf
    refine aw_lstore (L' := [some (.ref 0), some (.int y1_101), some (.int y2_101), none, some (.int y4_101), some (.long t0_101), none, none, none]) dX11_stays_101 (by decide) rfl ?_
    refine aw_lload dX11_stays_103 rfl ?_
    refine aw_ldc2 dX11_stays_105 kc_X11_170 ?_
    refine aw_lcmp_ne (tgt := 116) dX11_stays_108 dX11_stays_109 (by decide) (fun hc2 => ?_) (fun hc2 => ?_)
    · have hf := ax_neg hc2 hf
      refine aw_lload dX11_stays_116 rfl ?_
      refine aw_aload_n dX11_stays_118 rfl rfl ?_
      refine aw_gR dX11_stays_119 fl_X11_30 sh_0 rfl ?_
      obtain ⟨p1, hp1, hf⟩ := ax_bind hf
      refine aw_cVl (As := []) (st := [.long t0_101]) dX11_stays_122 cl_X11_238 iv_X5_leastSum (k_X5_leastSum (Q := (fun v h' => v = some (.long p1.1) ∧ h' = hp p1.2 gb)) 3 s_101 gb ax_RK3 hp1 ⟨rfl, rfl⟩) (ci := 5) rfl (hp_get sh_5) rfl rfl rfl (Nat.le_of_ble_eq_true rfl) rfl (by decide) (by decide) ?_
      refine aw_lsub dX11_stays_125 ?_
      refine aw_lstore (L' := [some (.ref 0), some (.int y1_101), some (.int y2_101), none, some (.int y4_101), some (.long t0_101), none, some (.long (t0_101 - p1.1)), none]) dX11_stays_126 (by decide) rfl ?_
      refine aw_aload_n dX11_stays_128 rfl rfl ?_
      refine aw_gR dX11_stays_129 fl_X11_21 sh_0 rfl ?_
      refine aw_iload_n dX11_stays_132 rfl rfl ?_
      refine aw_iload_n dX11_stays_133 rfl rfl ?_
      obtain ⟨p2, hp2, hf⟩ := ax_bind hf
      refine aw_cVl (As := [.int y1_101, .int y2_101]) (st := []) dX11_stays_134 cl_X11_166 iv_X1_at (k_X1_at (Q := (fun v h' => v = some (.long p2.1) ∧ h' = hp p2.2 gb)) 3 y1_101 y2_101 p1.2 gb ax_G3 hp2 ⟨rfl, rfl⟩) (ci := 1) rfl (hp_get sh_3) rfl rfl rfl (Nat.le_of_ble_eq_true rfl) rfl (by decide) (by decide) ?_
      refine aw_iload dX11_stays_137 rfl ?_
      refine aw_if_eq (tgt := 147) dX11_stays_139 (by decide) (fun hc1 => ?_) (fun hc1 => ?_)
      · have hf := ax_pos hc1 hf
        refine aw_lload dX11_stays_147 rfl ?_
        refine aw_lneg dX11_stays_149 ?_
        refine aw_ladd dX11_stays_150 ?_
        cases hf
        exact aw_lret dX11_stays_151 hq (Nat.le_refl _) (Nat.le_refl _)
      · have hf := ax_neg hc1 hf
        refine aw_lload dX11_stays_142 rfl ?_
        refine aw_goto (tgt := 150) dX11_stays_144 (by decide) ?_
        refine aw_ladd dX11_stays_150 ?_
        cases hf
        exact aw_lret dX11_stays_151 hq (Nat.le_refl _) (Nat.le_refl _)
    · have hf := ax_pos hc2 hf
      refine aw_ldc2 dX11_stays_112 kc_X11_170 ?_
      cases hf
      exact aw_lret dX11_stays_115 hq (Nat.le_refl _) (Nat.le_refl _)
  have J74 : ∀ (y1_74 : Int32) (y2_74 : Int32) (y4_74 : Int32) (t0_74 : Int32) (t1_74 : Int32) (s_74 : sx_M), f_X11_stays_J74 y1_74 y2_74 y4_74 t0_74 t1_74 s_74 = some p → AW l X RX11 "stays" cX11_stays 9 (some .long) (ax_rm 5 0 0) (ax_MQ X Q 0 0) 0 0 74 [some (.ref 0), some (.int y1_74), some (.int y2_74), none, some (.int y4_74), none, none, none, none] [.int t1_74, .int t0_74] (hp s_74 gb) := by
    intro y1_74 y2_74 y4_74 t0_74 t1_74 s_74 hf
    unfold f_X11_stays_J74 at hf
    refine aw_icmp_eq (tgt := 81) dX11_stays_74 (by decide) (fun hc4 => ?_) (fun hc4 => ?_)
    · have hf := ax_pos hc4 hf
      refine aw_iload dX11_stays_81 rfl ?_
      refine aw_if_eq (tgt := 95) dX11_stays_83 (by decide) (fun hc3 => ?_) (fun hc3 => ?_)
      · have hf := ax_pos hc3 hf
        refine aw_aload_n dX11_stays_95 rfl rfl ?_
        refine aw_iload_n dX11_stays_96 rfl rfl ?_
        refine aw_iload_n dX11_stays_97 rfl rfl ?_
        obtain ⟨p3, hp3, hf⟩ := ax_bind hf
        refine aw_cVl (As := [.int y1_74, .int y2_74]) (st := []) dX11_stays_98 cl_X11_255 iv_X11_forced (k_X11_forced (Q := (fun v h' => v = some (.long p3.1) ∧ h' = hp p3.2 gb)) y1_74 y2_74 s_74 gb hp3 ⟨rfl, rfl⟩) (ci := 11) rfl (hp_get sh_0) rfl rfl rfl (Nat.le_of_ble_eq_true rfl) rfl (by decide) (by decide) ?_
        exact J101 y1_74 y2_74 y4_74 p3.1 p3.2 hf
      · have hf := ax_neg hc3 hf
        refine aw_aload_n dX11_stays_86 rfl rfl ?_
        refine aw_iload_n dX11_stays_87 rfl rfl ?_
        refine aw_iload_n dX11_stays_88 rfl rfl ?_
        obtain ⟨p4, hp4, hf⟩ := ax_bind hf
        refine aw_cVl (As := [.int y1_74, .int y2_74]) (st := []) dX11_stays_89 cl_X11_252 iv_X11_without (k_X11_without (Q := (fun v h' => v = some (.long p4.1) ∧ h' = hp p4.2 gb)) y1_74 y2_74 s_74 gb hp4 ⟨rfl, rfl⟩) (ci := 11) rfl (hp_get sh_0) rfl rfl rfl (Nat.le_of_ble_eq_true rfl) rfl (by decide) (by decide) ?_
        refine aw_goto (tgt := 101) dX11_stays_92 (by decide) ?_
        exact J101 y1_74 y2_74 y4_74 p4.1 p4.2 hf
    · have hf := ax_neg hc4 hf
      refine aw_ldc2 dX11_stays_77 kc_X11_170 ?_
      cases hf
      exact aw_lret dX11_stays_80 hq (Nat.le_refl _) (Nat.le_refl _)
  have J61 : ∀ (y1_61 : Int32) (y2_61 : Int32) (y3_61 : Int32) (t0_61 : Int32) (s_61 : sx_M), f_X11_stays_J61 y1_61 y2_61 y3_61 t0_61 s_61 = some p → AW l X RX11 "stays" cX11_stays 9 (some .long) (ax_rm 5 0 0) (ax_MQ X Q 0 0) 0 0 61 [some (.ref 0), some (.int y1_61), some (.int y2_61), some (.int y3_61), none, none, none, none, none] [.int t0_61] (hp s_61 gb) := by
    intro y1_61 y2_61 y3_61 t0_61 s_61 hf
    unfold f_X11_stays_J61 at hf
    refine aw_istore (L' := [some (.ref 0), some (.int y1_61), some (.int y2_61), some (.int y3_61), some (.int t0_61), none, none, none, none]) dX11_stays_61 (by decide) rfl ?_
    refine aw_iload_n dX11_stays_63 rfl rfl ?_
    refine aw_iload dX11_stays_64 rfl ?_
    refine aw_if_eq (tgt := 73) dX11_stays_66 (by decide) (fun hc5 => ?_) (fun hc5 => ?_)
    · have hf := ax_pos hc5 hf
      refine aw_iconst (v := 0) dX11_stays_73 (by decide) ?_
      refine aw_less (L' := [some (.ref 0), some (.int y1_61), some (.int y2_61), none, some (.int t0_61), none, none, none, none]) (And.intro rfl (And.intro rfl (And.intro rfl (And.intro rfl trivial)))) ?_
      exact J74 y1_61 y2_61 t0_61 y3_61 (0 : Int32) s_61 hf
    · have hf := ax_neg hc5 hf
      refine aw_iconst (v := 1) dX11_stays_69 (by decide) ?_
      refine aw_goto (tgt := 74) dX11_stays_70 (by decide) ?_
      refine aw_less (L' := [some (.ref 0), some (.int y1_61), some (.int y2_61), none, some (.int t0_61), none, none, none, none]) (And.intro rfl (And.intro rfl (And.intro rfl (And.intro rfl trivial)))) ?_
      exact J74 y1_61 y2_61 t0_61 y3_61 (1 : Int32) s_61 hf
  refine aw_aload_n dX11_stays_0 rfl rfl ?_
  refine aw_gR dX11_stays_1 fl_X11_21 sh_0 rfl ?_
  refine aw_iload_n dX11_stays_4 rfl rfl ?_
  refine aw_iload_n dX11_stays_5 rfl rfl ?_
  obtain ⟨p5, hp5, hf⟩ := ax_bind hf
  refine aw_cVi (As := [.int x1, .int x2]) (st := []) dX11_stays_6 cl_X11_162 iv_X1_has (k_X1_has (Q := (fun v h' => v = some (.int p5.1) ∧ h' = hp p5.2 gb)) 3 x1 x2 s gb ax_G3 hp5 ⟨rfl, rfl⟩) (ci := 1) rfl (hp_get sh_3) rfl rfl rfl (Nat.le_of_ble_eq_true rfl) rfl (by decide) (by decide) ?_
  refine aw_if_eq (tgt := 42) dX11_stays_9 (by decide) (fun hc10 => ?_) (fun hc10 => ?_)
  · have hf := ax_pos hc10 hf
    refine aw_ldc2 dX11_stays_42 kc_X11_170 ?_
    cases hf
    exact aw_lret dX11_stays_45 hq (Nat.le_refl _) (Nat.le_refl _)
  · have hf := ax_neg hc10 hf
    refine aw_aload_n dX11_stays_12 rfl rfl ?_
    refine aw_gR dX11_stays_13 fl_X11_21 sh_0 rfl ?_
    refine aw_iload_n dX11_stays_16 rfl rfl ?_
    refine aw_iload_n dX11_stays_17 rfl rfl ?_
    obtain ⟨p6, hp6, hf⟩ := ax_bind hf
    refine aw_cVl (As := [.int x1, .int x2]) (st := []) dX11_stays_18 cl_X11_166 iv_X1_at (k_X1_at (Q := (fun v h' => v = some (.long p6.1) ∧ h' = hp p6.2 gb)) 3 x1 x2 p5.2 gb ax_G3 hp6 ⟨rfl, rfl⟩) (ci := 1) rfl (hp_get sh_3) rfl rfl rfl (Nat.le_of_ble_eq_true rfl) rfl (by decide) (by decide) ?_
    refine aw_ldc2 dX11_stays_21 kc_X11_242 ?_
    refine aw_lcmp_eq (tgt := 42) dX11_stays_24 dX11_stays_25 (by decide) (fun hc9 => ?_) (fun hc9 => ?_)
    · have hf := ax_pos hc9 hf
      refine aw_ldc2 dX11_stays_42 kc_X11_170 ?_
      cases hf
      exact aw_lret dX11_stays_45 hq (Nat.le_refl _) (Nat.le_refl _)
    · have hf := ax_neg hc9 hf
      refine aw_aload_n dX11_stays_28 rfl rfl ?_
      refine aw_gR dX11_stays_29 fl_X11_30 sh_0 rfl ?_
      refine aw_aload_n dX11_stays_32 rfl rfl ?_
      refine aw_gR dX11_stays_33 fl_X11_102 sh_0 rfl ?_
      obtain ⟨p7, hp7, hf⟩ := ax_bind hf
      refine aw_cVi (As := [.ref 56]) (st := []) dX11_stays_36 cl_X11_248 iv_X5_findFirst (k_X5_findFirst (Q := (fun v h' => v = some (.int p7.1) ∧ h' = hp p7.2 gb)) 3 56 p6.2 gb ax_RK3 sh_56 hp7 ⟨rfl, rfl⟩) (ci := 5) rfl (hp_get sh_5) rfl rfl rfl (Nat.le_of_ble_eq_true rfl) rfl (by decide) (by decide) ?_
      refine aw_if_ne (tgt := 46) dX11_stays_39 (by decide) (fun hc8 => ?_) (fun hc8 => ?_)
      · have hf := ax_neg hc8 hf
        refine aw_aload_n dX11_stays_46 rfl rfl ?_
        refine aw_gR dX11_stays_47 fl_X11_102 sh_0 rfl ?_
        refine aw_iload_n dX11_stays_50 rfl rfl ?_
        obtain ⟨hc6, hf⟩ := ax_ite hf
        refine aw_lA dX11_stays_51 sh_56 hc6 ?_
        refine aw_iload_n dX11_stays_52 rfl rfl ?_
        refine aw_icmp_ne (tgt := 60) dX11_stays_53 (by decide) (fun hc7 => ?_) (fun hc7 => ?_)
        · have hf := ax_neg hc7 hf
          refine aw_iconst (v := 0) dX11_stays_60 (by decide) ?_
          exact J61 x1 x2 x3 (0 : Int32) p7.2 hf
        · have hf := ax_pos hc7 hf
          refine aw_iconst (v := 1) dX11_stays_56 (by decide) ?_
          refine aw_goto (tgt := 61) dX11_stays_57 (by decide) ?_
          exact J61 x1 x2 x3 (1 : Int32) p7.2 hf
      · have hf := ax_pos hc8 hf
        refine aw_ldc2 dX11_stays_42 kc_X11_170 ?_
        cases hf
        exact aw_lret dX11_stays_45 hq (Nat.le_refl _) (Nat.le_refl _)
noncomputable def f_X11_would (x1 : Int32) (x2 : Int32) (x3 : Int32) (s : sx_M) : Option (Int64 × sx_M) :=
  (f_X1_has 3 x1 x2 s).bind (fun p1 =>
 (if p1.1 = 0 then
 some ((-9223372036854775808 : Int64), p1.2)
else
 (f_X11_isCost ((x3).toInt64) p1.2).bind (fun p2 =>
 (if p2.1 = 0 then
 some ((-9223372036854775808 : Int64), p2.2)
else
 (f_X11_supposeCost x1 x2 ((x3).toInt64) p2.2).bind (fun p3 =>
 (f_X5_leastSum 13 p3).bind (fun p4 =>
 some (p4.1, p4.2)))))))
set_option maxRecDepth 100000 in
set_option maxHeartbeats 4000000 in
theorem k_X11_would {l : Launch} {X : ax_X} {Q : Option Value → ax_H → Prop} (x1 : Int32) (x2 : Int32) (x3 : Int32) (s : sx_M) (gb : ax_H) {p : Int64 × sx_M} (hf : f_X11_would x1 x2 x3 s = some p) (hq : Q (some (.long p.1)) (hp p.2 gb)) : AM l X yX11_would cX11_would 4 (some .long) 4 0 0 [.ref 0, .int x1, .int x2, .int x3] (hp s gb) Q := by
  refine aw_met (own := RX11) (nm := "would") (L := [some (.ref 0), some (.int x1), some (.int x2), some (.int x3)]) (by decide +kernel) rfl rfl (And.intro rfl (And.intro rfl (And.intro rfl (And.intro rfl trivial)))) (Nat.le_of_ble_eq_true rfl) ?_
  unfold f_X11_would at hf
  refine aw_aload_n dX11_would_0 rfl rfl ?_
  refine aw_gR dX11_would_1 fl_X11_21 sh_0 rfl ?_
  refine aw_iload_n dX11_would_4 rfl rfl ?_
  refine aw_iload_n dX11_would_5 rfl rfl ?_
  obtain ⟨p1, hp1, hf⟩ := ax_bind hf
  refine aw_cVi (As := [.int x1, .int x2]) (st := []) dX11_would_6 cl_X11_162 iv_X1_has (k_X1_has (Q := (fun v h' => v = some (.int p1.1) ∧ h' = hp p1.2 gb)) 3 x1 x2 s gb ax_G3 hp1 ⟨rfl, rfl⟩) (ci := 1) rfl (hp_get sh_3) rfl rfl rfl (Nat.le_of_ble_eq_true rfl) rfl (by decide) (by decide) ?_
  refine aw_if_eq (tgt := 20) dX11_would_9 (by decide) (fun hc2 => ?_) (fun hc2 => ?_)
  · have hf := ax_pos hc2 hf
    refine aw_ldc2 dX11_would_20 kc_X11_170 ?_
    cases hf
    exact aw_lret dX11_would_23 hq (Nat.le_refl _) (Nat.le_refl _)
  · have hf := ax_neg hc2 hf
    refine aw_iload_n dX11_would_12 rfl rfl ?_
    refine aw_i2l dX11_would_13 ?_
    obtain ⟨p2, hp2, hf⟩ := ax_bind hf
    refine aw_cSi (As := [.long ((x3).toInt64)]) (st := []) dX11_would_14 cl_X11_258 st_X11_isCost (k_X11_isCost (Q := (fun v h' => v = some (.int p2.1) ∧ h' = hp p2.2 gb)) ((x3).toInt64) p1.2 gb hp2 ⟨rfl, rfl⟩) rfl rfl (Nat.le_of_ble_eq_true rfl) rfl (by decide) (by decide) ?_
    refine aw_if_ne (tgt := 24) dX11_would_17 (by decide) (fun hc1 => ?_) (fun hc1 => ?_)
    · have hf := ax_neg hc1 hf
      refine aw_aload_n dX11_would_24 rfl rfl ?_
      refine aw_iload_n dX11_would_25 rfl rfl ?_
      refine aw_iload_n dX11_would_26 rfl rfl ?_
      refine aw_iload_n dX11_would_27 rfl rfl ?_
      refine aw_i2l dX11_would_28 ?_
      obtain ⟨p3, hp3, hf⟩ := ax_bind hf
      refine aw_cVv (As := [.int x1, .int x2, .long ((x3).toInt64)]) (st := []) dX11_would_29 cl_X11_244 iv_X11_supposeCost (k_X11_supposeCost (Q := (fun v h' => v = none ∧ h' = hp p3 gb)) x1 x2 ((x3).toInt64) p2.2 gb hp3 ⟨rfl, rfl⟩) (ci := 11) rfl (hp_get sh_0) rfl rfl rfl (Nat.le_of_ble_eq_true rfl) rfl (by decide) (by decide) ?_
      refine aw_aload_n dX11_would_32 rfl rfl ?_
      refine aw_gR dX11_would_33 fl_X11_46 sh_0 rfl ?_
      obtain ⟨p4, hp4, hf⟩ := ax_bind hf
      refine aw_cVl (As := []) (st := []) dX11_would_36 cl_X11_238 iv_X5_leastSum (k_X5_leastSum (Q := (fun v h' => v = some (.long p4.1) ∧ h' = hp p4.2 gb)) 13 p3 gb ax_RK13 hp4 ⟨rfl, rfl⟩) (ci := 5) rfl (hp_get sh_15) rfl rfl rfl (Nat.le_of_ble_eq_true rfl) rfl (by decide) (by decide) ?_
      cases hf
      exact aw_lret dX11_would_39 hq (Nat.le_refl _) (Nat.le_refl _)
    · have hf := ax_pos hc1 hf
      refine aw_ldc2 dX11_would_20 kc_X11_170 ?_
      cases hf
      exact aw_lret dX11_would_23 hq (Nat.le_refl _) (Nat.le_refl _)
noncomputable def f_X11_ever_L28 (z1 : Int32) (z2 : Int64) (a28 : Int32 × Int32 × sx_M) : Option ((Int32 × Int32 × sx_M) ⊕ (Int32 × sx_M)) :=
  (if (rI a28.2.2 3 2) ≤ a28.2.1 then
 some (.inr (a28.1, a28.2.2))
else
 (if z2 = (-9223372036854775808 : Int64) then
 some (.inr (a28.1, a28.2.2))
else
 (f_X11_forced z1 a28.2.1 a28.2.2).bind (fun p3 =>
 (if p3.1 = z2 then
 some (.inl ((a28.1 ||| ((1 : Int32) <<< (a28.2.1 &&& 31))), (a28.2.1 + (1 : Int32)), p3.2))
else
 some (.inl (a28.1, (a28.2.1 + (1 : Int32)), p3.2))))))
noncomputable def f_X11_ever (x1 : Int32) (s : sx_M) : Option (Int32 × sx_M) :=
  (f_X1_hasWorker 3 x1 s).bind (fun p1 =>
 (if p1.1 = 0 then
 some ((-2 : Int32), p1.2)
else
 (f_X5_leastSum 3 p1.2).bind (fun p2 =>
 (whT (f_X11_ever_L28 x1 p2.1) ((0 : Int32), (0 : Int32), p2.2)).bind (fun b4 =>
 some (b4.1, b4.2)))))
set_option maxRecDepth 100000 in
set_option maxHeartbeats 4000000 in
theorem k_X11_ever {l : Launch} {X : ax_X} {Q : Option Value → ax_H → Prop} (x1 : Int32) (s : sx_M) (gb : ax_H) {p : Int32 × sx_M} (hf : f_X11_ever x1 s = some p) (hq : Q (some (.int p.1)) (hp p.2 gb)) : AM l X yX11_ever cX11_ever 6 (some .int) 5 0 0 [.ref 0, .int x1] (hp s gb) Q := by
  refine aw_met (own := RX11) (nm := "ever") (L := [some (.ref 0), some (.int x1), none, none, none, none]) (by decide +kernel) rfl rfl (And.intro rfl (And.intro rfl trivial)) (Nat.le_of_ble_eq_true rfl) ?_
  unfold f_X11_ever at hf
  refine aw_aload_n dX11_ever_0 rfl rfl ?_
  refine aw_gR dX11_ever_1 fl_X11_21 sh_0 rfl ?_
  refine aw_iload_n dX11_ever_4 rfl rfl ?_
  obtain ⟨p1, hp1, hf⟩ := ax_bind hf
  refine aw_cVi (As := [.int x1]) (st := []) dX11_ever_5 cl_X11_179 iv_X1_hasWorker (k_X1_hasWorker (Q := (fun v h' => v = some (.int p1.1) ∧ h' = hp p1.2 gb)) 3 x1 s gb ax_G3 hp1 ⟨rfl, rfl⟩) (ci := 1) rfl (hp_get sh_3) rfl rfl rfl (Nat.le_of_ble_eq_true rfl) rfl (by decide) (by decide) ?_
  refine aw_if_ne (tgt := 14) dX11_ever_8 (by decide) (fun hc4 => ?_) (fun hc4 => ?_)
  · have hf := ax_neg hc4 hf
    refine aw_aload_n dX11_ever_14 rfl rfl ?_
    refine aw_gR dX11_ever_15 fl_X11_30 sh_0 rfl ?_
    obtain ⟨p2, hp2, hf⟩ := ax_bind hf
    refine aw_cVl (As := []) (st := []) dX11_ever_18 cl_X11_238 iv_X5_leastSum (k_X5_leastSum (Q := (fun v h' => v = some (.long p2.1) ∧ h' = hp p2.2 gb)) 3 p1.2 gb ax_RK3 hp2 ⟨rfl, rfl⟩) (ci := 5) rfl (hp_get sh_5) rfl rfl rfl (Nat.le_of_ble_eq_true rfl) rfl (by decide) (by decide) ?_
    refine aw_lstore_n (L' := [some (.ref 0), some (.int x1), some (.long p2.1), none, none, none]) dX11_ever_21 rfl (by decide) rfl ?_
    refine aw_iconst (v := 0) dX11_ever_22 (by decide) ?_
    refine aw_istore (L' := [some (.ref 0), some (.int x1), some (.long p2.1), none, some (.int (0 : Int32)), none]) dX11_ever_23 (by decide) rfl ?_
    refine aw_iconst (v := 0) dX11_ever_25 (by decide) ?_
    refine aw_istore (L' := [some (.ref 0), some (.int x1), some (.long p2.1), none, some (.int (0 : Int32)), some (.int (0 : Int32))]) dX11_ever_26 (by decide) rfl ?_
    obtain ⟨b4, hb4, hf⟩ := ax_bind hf
    refine wh_go ((0 : Int32), (0 : Int32), p2.2) (fun a28 : Int32 × Int32 × sx_M => AW l X RX11 "ever" cX11_ever 6 (some .int) (ax_rm 5 0 0) (ax_MQ X Q 0 0) 0 0 28 [some (.ref 0), some (.int x1), some (.long p2.1), none, some (.int a28.1), some (.int a28.2.1)] [] (hp a28.2.2 gb)) (fun e : Int32 × sx_M => AW l X RX11 "ever" cX11_ever 6 (some .int) (ax_rm 5 0 0) (ax_MQ X Q 0 0) 0 0 75 [none, none, none, none, some (.int e.1), none] [] (hp e.2 gb)) hb4 ?_ ?_
    · intro a28 r hf hK
      unfold f_X11_ever_L28 at hf
      refine aw_iload dX11_ever_28 rfl ?_
      refine aw_aload_n dX11_ever_30 rfl rfl ?_
      refine aw_gR dX11_ever_31 fl_X11_21 sh_0 rfl ?_
      refine aw_gI dX11_ever_34 fl_X11_149 sh_3 rfl ?_
      refine aw_icmp_ge (tgt := 75) dX11_ever_37 (by decide) (fun hc3 => ?_) (fun hc3 => ?_)
      · have hf := ax_pos hc3 hf
        refine aw_less (L' := [none, none, none, none, some (.int a28.1), none]) (And.intro rfl trivial) ?_
        cases hf
        exact hK
      · have hf := ax_neg hc3 hf
        refine aw_lload_n dX11_ever_40 rfl rfl ?_
        refine aw_ldc2 dX11_ever_41 kc_X11_170 ?_
        refine aw_lcmp_eq (tgt := 75) dX11_ever_44 dX11_ever_45 (by decide) (fun hc2 => ?_) (fun hc2 => ?_)
        · have hf := ax_pos hc2 hf
          refine aw_less (L' := [none, none, none, none, some (.int a28.1), none]) (And.intro rfl trivial) ?_
          cases hf
          exact hK
        · have hf := ax_neg hc2 hf
          refine aw_aload_n dX11_ever_48 rfl rfl ?_
          refine aw_iload_n dX11_ever_49 rfl rfl ?_
          refine aw_iload dX11_ever_50 rfl ?_
          obtain ⟨p3, hp3, hf⟩ := ax_bind hf
          refine aw_cVl (As := [.int x1, .int a28.2.1]) (st := []) dX11_ever_52 cl_X11_255 iv_X11_forced (k_X11_forced (Q := (fun v h' => v = some (.long p3.1) ∧ h' = hp p3.2 gb)) x1 a28.2.1 a28.2.2 gb hp3 ⟨rfl, rfl⟩) (ci := 11) rfl (hp_get sh_0) rfl rfl rfl (Nat.le_of_ble_eq_true rfl) rfl (by decide) (by decide) ?_
          refine aw_lload_n dX11_ever_55 rfl rfl ?_
          refine aw_lcmp_ne (tgt := 69) dX11_ever_56 dX11_ever_57 (by decide) (fun hc1 => ?_) (fun hc1 => ?_)
          · have hf := ax_neg hc1 hf
            refine aw_iinc (v := (a28.2.1 + (1 : Int32))) (L' := [some (.ref 0), some (.int x1), some (.long p2.1), none, some (.int a28.1), some (.int (a28.2.1 + (1 : Int32)))]) dX11_ever_69 rfl rfl (by decide) rfl ?_
            refine aw_goto (tgt := 28) dX11_ever_72 (by decide) ?_
            cases hf
            exact hK
          · have hf := ax_pos hc1 hf
            refine aw_iload dX11_ever_60 rfl ?_
            refine aw_iconst (v := 1) dX11_ever_62 (by decide) ?_
            refine aw_iload dX11_ever_63 rfl ?_
            refine aw_ishl dX11_ever_65 ?_
            refine aw_ior dX11_ever_66 ?_
            refine aw_istore (L' := [some (.ref 0), some (.int x1), some (.long p2.1), none, some (.int (a28.1 ||| ((1 : Int32) <<< (a28.2.1 &&& 31)))), some (.int a28.2.1)]) dX11_ever_67 (by decide) rfl ?_
            refine aw_iinc (v := (a28.2.1 + (1 : Int32))) (L' := [some (.ref 0), some (.int x1), some (.long p2.1), none, some (.int (a28.1 ||| ((1 : Int32) <<< (a28.2.1 &&& 31)))), some (.int (a28.2.1 + (1 : Int32)))]) dX11_ever_69 rfl rfl (by decide) rfl ?_
            refine aw_goto (tgt := 28) dX11_ever_72 (by decide) ?_
            cases hf
            exact hK
    · refine aw_iload dX11_ever_75 rfl ?_
      cases hf
      exact aw_iret dX11_ever_77 hq (Nat.le_refl _) (Nat.le_refl _)
  · have hf := ax_pos hc4 hf
    refine aw_bipush (v := -2) dX11_ever_11 (by decide) ?_
    cases hf
    exact aw_iret dX11_ever_13 hq (Nat.le_refl _) (Nat.le_refl _)
noncomputable def f_X11_only_L34 (z1 : Int32) (a34 : Int32 × sx_M) : Option ((Int32 × sx_M) ⊕ (sx_M)) :=
  (if (rI a34.2 3 2) ≤ a34.1 then
 some (.inr a34.2)
else
 (if ((z1 >>> (a34.1 &&& 31)) &&& (1 : Int32)) = 0 then
 (f_X1_barJob 13 a34.1 a34.2).bind (fun p2 =>
 some (.inl ((a34.1 + (1 : Int32)), p2)))
else
 some (.inl ((a34.1 + (1 : Int32)), a34.2))))
noncomputable def f_X11_only (x1 : Int32) (s : sx_M) : Option (Int64 × sx_M) :=
  (if x1 < 0 then
 some ((-9223372036854775808 : Int64), s)
else
 (if x1 < ((1 : Int32) <<< ((rI s 3 2) &&& 31)) then
 (f_X1_copy 13 3 s).bind (fun p1 =>
 (whT (f_X11_only_L34 x1) ((0 : Int32), p1)).bind (fun b3 =>
 (f_X5_refresh 13 b3).bind (fun p4 =>
 (f_X5_leastSum 13 p4).bind (fun p5 =>
 some (p5.1, p5.2)))))
else
 some ((-9223372036854775808 : Int64), s)))
set_option maxRecDepth 100000 in
set_option maxHeartbeats 4000000 in
theorem k_X11_only {l : Launch} {X : ax_X} {Q : Option Value → ax_H → Prop} (x1 : Int32) (s : sx_M) (gb : ax_H) {p : Int64 × sx_M} (hf : f_X11_only x1 s = some p) (hq : Q (some (.long p.1)) (hp p.2 gb)) : AM l X yX11_only cX11_only 3 (some .long) 3 0 0 [.ref 0, .int x1] (hp s gb) Q := by
  refine aw_met (own := RX11) (nm := "only") (L := [some (.ref 0), some (.int x1), none]) (by decide +kernel) rfl rfl (And.intro rfl (And.intro rfl trivial)) (Nat.le_of_ble_eq_true rfl) ?_
  unfold f_X11_only at hf
  refine aw_iload_n dX11_only_0 rfl rfl ?_
  refine aw_if_lt (tgt := 17) dX11_only_1 (by decide) (fun hc4 => ?_) (fun hc4 => ?_)
  · have hf := ax_pos hc4 hf
    refine aw_ldc2 dX11_only_17 kc_X11_170 ?_
    cases hf
    exact aw_lret dX11_only_20 hq (Nat.le_refl _) (Nat.le_refl _)
  · have hf := ax_neg hc4 hf
    refine aw_iload_n dX11_only_4 rfl rfl ?_
    refine aw_iconst (v := 1) dX11_only_5 (by decide) ?_
    refine aw_aload_n dX11_only_6 rfl rfl ?_
    refine aw_gR dX11_only_7 fl_X11_21 sh_0 rfl ?_
    refine aw_gI dX11_only_10 fl_X11_149 sh_3 rfl ?_
    refine aw_ishl dX11_only_13 ?_
    refine aw_icmp_lt (tgt := 21) dX11_only_14 (by decide) (fun hc3 => ?_) (fun hc3 => ?_)
    · have hf := ax_pos hc3 hf
      refine aw_aload_n dX11_only_21 rfl rfl ?_
      refine aw_gR dX11_only_22 fl_X11_43 sh_0 rfl ?_
      refine aw_aload_n dX11_only_25 rfl rfl ?_
      refine aw_gR dX11_only_26 fl_X11_21 sh_0 rfl ?_
      obtain ⟨p1, hp1, hf⟩ := ax_bind hf
      refine aw_cVv (As := [.ref 3]) (st := []) dX11_only_29 cl_X11_131 iv_X1_copy (k_X1_copy (Q := (fun v h' => v = none ∧ h' = hp p1 gb)) 13 3 s gb ax_G13 ax_G3 hp1 ⟨rfl, rfl⟩) (ci := 1) rfl (hp_get sh_13) rfl rfl rfl (Nat.le_of_ble_eq_true rfl) rfl (by decide) (by decide) ?_
      refine aw_iconst (v := 0) dX11_only_32 (by decide) ?_
      refine aw_istore_n (L' := [some (.ref 0), some (.int x1), some (.int (0 : Int32))]) dX11_only_33 rfl (by decide) rfl ?_
      obtain ⟨b3, hb3, hf⟩ := ax_bind hf
      refine wh_go ((0 : Int32), p1) (fun a34 : Int32 × sx_M => AW l X RX11 "only" cX11_only 3 (some .long) (ax_rm 3 0 0) (ax_MQ X Q 0 0) 0 0 34 [some (.ref 0), some (.int x1), some (.int a34.1)] [] (hp a34.2 gb)) (fun e : sx_M => AW l X RX11 "only" cX11_only 3 (some .long) (ax_rm 3 0 0) (ax_MQ X Q 0 0) 0 0 67 [some (.ref 0), none, none] [] (hp e gb)) hb3 ?_ ?_
      · intro a34 r hf hK
        unfold f_X11_only_L34 at hf
        refine aw_iload_n dX11_only_34 rfl rfl ?_
        refine aw_aload_n dX11_only_35 rfl rfl ?_
        refine aw_gR dX11_only_36 fl_X11_21 sh_0 rfl ?_
        refine aw_gI dX11_only_39 fl_X11_149 sh_3 rfl ?_
        refine aw_icmp_ge (tgt := 67) dX11_only_42 (by decide) (fun hc2 => ?_) (fun hc2 => ?_)
        · have hf := ax_pos hc2 hf
          refine aw_less (L' := [some (.ref 0), none, none]) (And.intro rfl trivial) ?_
          cases hf
          exact hK
        · have hf := ax_neg hc2 hf
          refine aw_iload_n dX11_only_45 rfl rfl ?_
          refine aw_iload_n dX11_only_46 rfl rfl ?_
          refine aw_ishr dX11_only_47 ?_
          refine aw_iconst (v := 1) dX11_only_48 (by decide) ?_
          refine aw_iand dX11_only_49 ?_
          refine aw_if_ne (tgt := 61) dX11_only_50 (by decide) (fun hc1 => ?_) (fun hc1 => ?_)
          · have hf := ax_neg hc1 hf
            refine aw_iinc (v := (a34.1 + (1 : Int32))) (L' := [some (.ref 0), some (.int x1), some (.int (a34.1 + (1 : Int32)))]) dX11_only_61 rfl rfl (by decide) rfl ?_
            refine aw_goto (tgt := 34) dX11_only_64 (by decide) ?_
            cases hf
            exact hK
          · have hf := ax_pos hc1 hf
            refine aw_aload_n dX11_only_53 rfl rfl ?_
            refine aw_gR dX11_only_54 fl_X11_43 sh_0 rfl ?_
            refine aw_iload_n dX11_only_57 rfl rfl ?_
            obtain ⟨p2, hp2, hf⟩ := ax_bind hf
            refine aw_cVv (As := [.int a34.1]) (st := []) dX11_only_58 cl_X11_262 iv_X1_barJob (k_X1_barJob (Q := (fun v h' => v = none ∧ h' = hp p2 gb)) 13 a34.1 a34.2 gb ax_G13 hp2 ⟨rfl, rfl⟩) (ci := 1) rfl (hp_get sh_13) rfl rfl rfl (Nat.le_of_ble_eq_true rfl) rfl (by decide) (by decide) ?_
            refine aw_iinc (v := (a34.1 + (1 : Int32))) (L' := [some (.ref 0), some (.int x1), some (.int (a34.1 + (1 : Int32)))]) dX11_only_61 rfl rfl (by decide) rfl ?_
            refine aw_goto (tgt := 34) dX11_only_64 (by decide) ?_
            cases hf
            exact hK
      · refine aw_aload_n dX11_only_67 rfl rfl ?_
        refine aw_gR dX11_only_68 fl_X11_46 sh_0 rfl ?_
        obtain ⟨p4, hp4, hf⟩ := ax_bind hf
        refine aw_cVv (As := []) (st := []) dX11_only_71 cl_X11_109 iv_X5_refresh (k_X5_refresh (Q := (fun v h' => v = none ∧ h' = hp p4 gb)) 13 b3 gb ax_RK13 hp4 ⟨rfl, rfl⟩) (ci := 5) rfl (hp_get sh_15) rfl rfl rfl (Nat.le_of_ble_eq_true rfl) rfl (by decide) (by decide) ?_
        refine aw_aload_n dX11_only_74 rfl rfl ?_
        refine aw_gR dX11_only_75 fl_X11_46 sh_0 rfl ?_
        obtain ⟨p5, hp5, hf⟩ := ax_bind hf
        refine aw_cVl (As := []) (st := []) dX11_only_78 cl_X11_238 iv_X5_leastSum (k_X5_leastSum (Q := (fun v h' => v = some (.long p5.1) ∧ h' = hp p5.2 gb)) 13 p4 gb ax_RK13 hp5 ⟨rfl, rfl⟩) (ci := 5) rfl (hp_get sh_15) rfl rfl rfl (Nat.le_of_ble_eq_true rfl) rfl (by decide) (by decide) ?_
        cases hf
        exact aw_lret dX11_only_81 hq (Nat.le_refl _) (Nat.le_refl _)
    · have hf := ax_neg hc3 hf
      refine aw_ldc2 dX11_only_17 kc_X11_170 ?_
      cases hf
      exact aw_lret dX11_only_20 hq (Nat.le_refl _) (Nat.le_refl _)
noncomputable def f_X11_blocked_L12 (z1 : Int32) (a12 : Int32 × sx_M) : Option ((Int32 × sx_M) ⊕ ((sx_M) ⊕ (Int32 × sx_M))) :=
  (if z1 ≤ a12.1 then
 some (.inr (.inl a12.2))
else
 (f_X1_jobsOpenTo 3 a12.1 a12.2).bind (fun p1 =>
 (f_J6_bitCount_0f7a4 p1.1 p1.2).bind (fun p2 =>
 (f_J6_bitCount_0f7a4 a12.1 p2.2).bind (fun p3 =>
 (if p3.1 ≤ p2.1 then
 some (.inl ((a12.1 + (1 : Int32)), p3.2))
else
 some (.inr (.inr ((a12.1, p3.2)))))))))
noncomputable def f_X11_blocked (s : sx_M) : Option (Int32 × sx_M) :=
  (whT (f_X11_blocked_L12 ((1 : Int32) <<< ((rI s 3 1) &&& 31))) ((1 : Int32), s)).bind (fun b4 => (Sum.elim (fun e5 =>
 some ((0 : Int32), e5)) (fun e6 =>
 some e6)) b4)
set_option maxRecDepth 100000 in
set_option maxHeartbeats 4000000 in
theorem k_X11_blocked {l : Launch} {X : ax_X} {Q : Option Value → ax_H → Prop} (s : sx_M) (gb : ax_H) {p : Int32 × sx_M} (hf : f_X11_blocked s = some p) (hq : Q (some (.int p.1)) (hp p.2 gb)) : AM l X yX11_blocked cX11_blocked 3 (some .int) 2 0 0 [.ref 0] (hp s gb) Q := by
  refine aw_met (own := RX11) (nm := "blocked") (L := [some (.ref 0), none, none]) (by decide +kernel) rfl rfl (And.intro rfl trivial) (Nat.le_of_ble_eq_true rfl) ?_
  unfold f_X11_blocked at hf
  refine aw_iconst (v := 1) dX11_blocked_0 (by decide) ?_
  refine aw_aload_n dX11_blocked_1 rfl rfl ?_
  refine aw_gR dX11_blocked_2 fl_X11_21 sh_0 rfl ?_
  refine aw_gI dX11_blocked_5 fl_X11_140 sh_3 rfl ?_
  refine aw_ishl dX11_blocked_8 ?_
  refine aw_istore_n (L' := [some (.ref 0), some (.int ((1 : Int32) <<< ((rI s 3 1) &&& 31))), none]) dX11_blocked_9 rfl (by decide) rfl ?_
  refine aw_iconst (v := 1) dX11_blocked_10 (by decide) ?_
  refine aw_istore_n (L' := [some (.ref 0), some (.int ((1 : Int32) <<< ((rI s 3 1) &&& 31))), some (.int (1 : Int32))]) dX11_blocked_11 rfl (by decide) rfl ?_
  obtain ⟨b4, hb4, hf⟩ := ax_bind hf
  refine wh_go ((1 : Int32), s) (fun a12 : Int32 × sx_M => AW l X RX11 "blocked" cX11_blocked 3 (some .int) (ax_rm 2 0 0) (ax_MQ X Q 0 0) 0 0 12 [some (.ref 0), some (.int ((1 : Int32) <<< ((rI s 3 1) &&& 31))), some (.int a12.1)] [] (hp a12.2 gb)) (Sum.elim (fun e : sx_M => AW l X RX11 "blocked" cX11_blocked 3 (some .int) (ax_rm 2 0 0) (ax_MQ X Q 0 0) 0 0 43 [none, none, none] [] (hp e gb)) (fun v : Int32 × sx_M => Q (some (.int v.1)) (hp v.2 gb))) hb4 ?_ ?_
  · intro a12 r hf hK
    unfold f_X11_blocked_L12 at hf
    refine aw_iload_n dX11_blocked_12 rfl rfl ?_
    refine aw_iload_n dX11_blocked_13 rfl rfl ?_
    refine aw_icmp_ge (tgt := 43) dX11_blocked_14 (by decide) (fun hc2 => ?_) (fun hc2 => ?_)
    · have hf := ax_pos hc2 hf
      refine aw_less (L' := [none, none, none]) trivial ?_
      cases hf
      exact hK
    · have hf := ax_neg hc2 hf
      refine aw_aload_n dX11_blocked_17 rfl rfl ?_
      refine aw_gR dX11_blocked_18 fl_X11_21 sh_0 rfl ?_
      refine aw_iload_n dX11_blocked_21 rfl rfl ?_
      obtain ⟨p1, hp1, hf⟩ := ax_bind hf
      refine aw_cVi (As := [.int a12.1]) (st := []) dX11_blocked_22 cl_X11_265 iv_X1_jobsOpenTo (k_X1_jobsOpenTo (Q := (fun v h' => v = some (.int p1.1) ∧ h' = hp p1.2 gb)) 3 a12.1 a12.2 gb ax_G3 hp1 ⟨rfl, rfl⟩) (ci := 1) rfl (hp_get sh_3) rfl rfl rfl (Nat.le_of_ble_eq_true rfl) rfl (by decide) (by decide) ?_
      obtain ⟨p2, hp2, hf⟩ := ax_bind hf
      refine aw_cSi (As := [.int p1.1]) (st := []) dX11_blocked_25 cl_X11_269 st_J6_bitCount_0f7a4 (k_J6_bitCount_0f7a4 (Q := (fun v h' => v = some (.int p2.1) ∧ h' = hp p2.2 gb)) p1.1 p1.2 gb hp2 ⟨rfl, rfl⟩) rfl rfl (Nat.le_of_ble_eq_true rfl) rfl (by decide) (by decide) ?_
      refine aw_iload_n dX11_blocked_28 rfl rfl ?_
      obtain ⟨p3, hp3, hf⟩ := ax_bind hf
      refine aw_cSi (As := [.int a12.1]) (st := [.int p2.1]) dX11_blocked_29 cl_X11_269 st_J6_bitCount_0f7a4 (k_J6_bitCount_0f7a4 (Q := (fun v h' => v = some (.int p3.1) ∧ h' = hp p3.2 gb)) a12.1 p2.2 gb hp3 ⟨rfl, rfl⟩) rfl rfl (Nat.le_of_ble_eq_true rfl) rfl (by decide) (by decide) ?_
      refine aw_icmp_ge (tgt := 37) dX11_blocked_32 (by decide) (fun hc1 => ?_) (fun hc1 => ?_)
      · have hf := ax_pos hc1 hf
        refine aw_iinc (v := (a12.1 + (1 : Int32))) (L' := [some (.ref 0), some (.int ((1 : Int32) <<< ((rI s 3 1) &&& 31))), some (.int (a12.1 + (1 : Int32)))]) dX11_blocked_37 rfl rfl (by decide) rfl ?_
        refine aw_goto (tgt := 12) dX11_blocked_40 (by decide) ?_
        cases hf
        exact hK
      · have hf := ax_neg hc1 hf
        refine aw_iload_n dX11_blocked_35 rfl rfl ?_
        cases hf
        exact aw_iret dX11_blocked_36 hK (Nat.le_refl _) (Nat.le_refl _)
  · rcases b4 with e5 | e6
    · refine aw_iconst (v := 0) dX11_blocked_43 (by decide) ?_
      cases hf
      exact aw_iret dX11_blocked_44 hq (Nat.le_refl _) (Nat.le_refl _)
    · cases hf
      exact hq
noncomputable def f_X11_price (x1 : Int32) (s : sx_M) : Option (Int64 × sx_M) :=
  (f_X1_hasJob 3 x1 s).bind (fun p1 =>
 (if p1.1 = 0 then
 some ((-9223372036854775808 : Int64), p1.2)
else
 (f_X1_copy 13 3 p1.2).bind (fun p2 =>
 (f_X1_barJob 13 x1 p2).bind (fun p3 =>
 (f_X5_refresh 13 p3).bind (fun p4 =>
 (f_X5_leastSum 13 p4).bind (fun p5 =>
 (f_X5_leastSum 3 p5.2).bind (fun p6 =>
 (f_X11_difference p5.1 p6.1 p6.2).bind (fun p7 =>
 some (p7.1, p7.2)))))))))
set_option maxRecDepth 100000 in
set_option maxHeartbeats 4000000 in
theorem k_X11_price {l : Launch} {X : ax_X} {Q : Option Value → ax_H → Prop} (x1 : Int32) (s : sx_M) (gb : ax_H) {p : Int64 × sx_M} (hf : f_X11_price x1 s = some p) (hq : Q (some (.long p.1)) (hp p.2 gb)) : AM l X yX11_price cX11_price 2 (some .long) 3 0 0 [.ref 0, .int x1] (hp s gb) Q := by
  refine aw_met (own := RX11) (nm := "price") (L := [some (.ref 0), some (.int x1)]) (by decide +kernel) rfl rfl (And.intro rfl (And.intro rfl trivial)) (Nat.le_of_ble_eq_true rfl) ?_
  unfold f_X11_price at hf
  refine aw_aload_n dX11_price_0 rfl rfl ?_
  refine aw_gR dX11_price_1 fl_X11_21 sh_0 rfl ?_
  refine aw_iload_n dX11_price_4 rfl rfl ?_
  obtain ⟨p1, hp1, hf⟩ := ax_bind hf
  refine aw_cVi (As := [.int x1]) (st := []) dX11_price_5 cl_X11_274 iv_X1_hasJob (k_X1_hasJob (Q := (fun v h' => v = some (.int p1.1) ∧ h' = hp p1.2 gb)) 3 x1 s gb ax_G3 hp1 ⟨rfl, rfl⟩) (ci := 1) rfl (hp_get sh_3) rfl rfl rfl (Nat.le_of_ble_eq_true rfl) rfl (by decide) (by decide) ?_
  refine aw_if_ne (tgt := 15) dX11_price_8 (by decide) (fun hc1 => ?_) (fun hc1 => ?_)
  · have hf := ax_neg hc1 hf
    refine aw_aload_n dX11_price_15 rfl rfl ?_
    refine aw_gR dX11_price_16 fl_X11_43 sh_0 rfl ?_
    refine aw_aload_n dX11_price_19 rfl rfl ?_
    refine aw_gR dX11_price_20 fl_X11_21 sh_0 rfl ?_
    obtain ⟨p2, hp2, hf⟩ := ax_bind hf
    refine aw_cVv (As := [.ref 3]) (st := []) dX11_price_23 cl_X11_131 iv_X1_copy (k_X1_copy (Q := (fun v h' => v = none ∧ h' = hp p2 gb)) 13 3 p1.2 gb ax_G13 ax_G3 hp2 ⟨rfl, rfl⟩) (ci := 1) rfl (hp_get sh_13) rfl rfl rfl (Nat.le_of_ble_eq_true rfl) rfl (by decide) (by decide) ?_
    refine aw_aload_n dX11_price_26 rfl rfl ?_
    refine aw_gR dX11_price_27 fl_X11_43 sh_0 rfl ?_
    refine aw_iload_n dX11_price_30 rfl rfl ?_
    obtain ⟨p3, hp3, hf⟩ := ax_bind hf
    refine aw_cVv (As := [.int x1]) (st := []) dX11_price_31 cl_X11_262 iv_X1_barJob (k_X1_barJob (Q := (fun v h' => v = none ∧ h' = hp p3 gb)) 13 x1 p2 gb ax_G13 hp3 ⟨rfl, rfl⟩) (ci := 1) rfl (hp_get sh_13) rfl rfl rfl (Nat.le_of_ble_eq_true rfl) rfl (by decide) (by decide) ?_
    refine aw_aload_n dX11_price_34 rfl rfl ?_
    refine aw_gR dX11_price_35 fl_X11_46 sh_0 rfl ?_
    obtain ⟨p4, hp4, hf⟩ := ax_bind hf
    refine aw_cVv (As := []) (st := []) dX11_price_38 cl_X11_109 iv_X5_refresh (k_X5_refresh (Q := (fun v h' => v = none ∧ h' = hp p4 gb)) 13 p3 gb ax_RK13 hp4 ⟨rfl, rfl⟩) (ci := 5) rfl (hp_get sh_15) rfl rfl rfl (Nat.le_of_ble_eq_true rfl) rfl (by decide) (by decide) ?_
    refine aw_aload_n dX11_price_41 rfl rfl ?_
    refine aw_gR dX11_price_42 fl_X11_46 sh_0 rfl ?_
    obtain ⟨p5, hp5, hf⟩ := ax_bind hf
    refine aw_cVl (As := []) (st := []) dX11_price_45 cl_X11_238 iv_X5_leastSum (k_X5_leastSum (Q := (fun v h' => v = some (.long p5.1) ∧ h' = hp p5.2 gb)) 13 p4 gb ax_RK13 hp5 ⟨rfl, rfl⟩) (ci := 5) rfl (hp_get sh_15) rfl rfl rfl (Nat.le_of_ble_eq_true rfl) rfl (by decide) (by decide) ?_
    refine aw_aload_n dX11_price_48 rfl rfl ?_
    refine aw_gR dX11_price_49 fl_X11_30 sh_0 rfl ?_
    obtain ⟨p6, hp6, hf⟩ := ax_bind hf
    refine aw_cVl (As := []) (st := [.long p5.1]) dX11_price_52 cl_X11_238 iv_X5_leastSum (k_X5_leastSum (Q := (fun v h' => v = some (.long p6.1) ∧ h' = hp p6.2 gb)) 3 p5.2 gb ax_RK3 hp6 ⟨rfl, rfl⟩) (ci := 5) rfl (hp_get sh_5) rfl rfl rfl (Nat.le_of_ble_eq_true rfl) rfl (by decide) (by decide) ?_
    obtain ⟨p7, hp7, hf⟩ := ax_bind hf
    refine aw_cSl (As := [.long p5.1, .long p6.1]) (st := []) dX11_price_55 cl_X11_277 st_X11_difference (k_X11_difference (Q := (fun v h' => v = some (.long p7.1) ∧ h' = hp p7.2 gb)) p5.1 p6.1 p6.2 gb hp7 ⟨rfl, rfl⟩) rfl rfl (Nat.le_of_ble_eq_true rfl) rfl (by decide) (by decide) ?_
    cases hf
    exact aw_lret dX11_price_58 hq (Nat.le_refl _) (Nat.le_refl _)
  · have hf := ax_pos hc1 hf
    refine aw_ldc2 dX11_price_11 kc_X11_170 ?_
    cases hf
    exact aw_lret dX11_price_14 hq (Nat.le_refl _) (Nat.le_refl _)
noncomputable def f_X11_pay (x1 : Int32) (s : sx_M) : Option (Int64 × sx_M) :=
  (f_X1_hasWorker 3 x1 s).bind (fun p1 =>
 (if p1.1 = 0 then
 some ((-9223372036854775808 : Int64), p1.2)
else
 (f_X5_findFirst 3 56 p1.2).bind (fun p2 =>
 (if p2.1 = 0 then
 some ((-9223372036854775808 : Int64), p2.2)
else
 (f_X1_copy 13 3 p2.2).bind (fun p3 =>
 (f_X1_dropWorker 13 x1 p3).bind (fun p4 =>
 (f_X5_refresh 13 p4).bind (fun p5 =>
 (f_X5_leastSum 13 p5).bind (fun p6 =>
 (if ¬ (x1 < 0 ∨ 7 ≤ (x1).toNatClampNeg) then
 (f_X1_barJob 13 (rA p6.2 56 (x1).toNatClampNeg) p6.2).bind (fun p7 =>
 (f_X5_refresh 13 p7).bind (fun p8 =>
 (f_X5_leastSum 13 p8).bind (fun p9 =>
 (f_X11_difference p9.1 p6.1 p9.2).bind (fun p10 =>
 some (p10.1, p10.2)))))
else none)))))))))
set_option maxRecDepth 100000 in
set_option maxHeartbeats 4000000 in
theorem k_X11_pay {l : Launch} {X : ax_X} {Q : Option Value → ax_H → Prop} (x1 : Int32) (s : sx_M) (gb : ax_H) {p : Int64 × sx_M} (hf : f_X11_pay x1 s = some p) (hq : Q (some (.long p.1)) (hp p.2 gb)) : AM l X yX11_pay cX11_pay 4 (some .long) 3 0 0 [.ref 0, .int x1] (hp s gb) Q := by
  refine aw_met (own := RX11) (nm := "pay") (L := [some (.ref 0), some (.int x1), none, none]) (by decide +kernel) rfl rfl (And.intro rfl (And.intro rfl trivial)) (Nat.le_of_ble_eq_true rfl) ?_
  unfold f_X11_pay at hf
  refine aw_aload_n dX11_pay_0 rfl rfl ?_
  refine aw_gR dX11_pay_1 fl_X11_21 sh_0 rfl ?_
  refine aw_iload_n dX11_pay_4 rfl rfl ?_
  obtain ⟨p1, hp1, hf⟩ := ax_bind hf
  refine aw_cVi (As := [.int x1]) (st := []) dX11_pay_5 cl_X11_179 iv_X1_hasWorker (k_X1_hasWorker (Q := (fun v h' => v = some (.int p1.1) ∧ h' = hp p1.2 gb)) 3 x1 s gb ax_G3 hp1 ⟨rfl, rfl⟩) (ci := 1) rfl (hp_get sh_3) rfl rfl rfl (Nat.le_of_ble_eq_true rfl) rfl (by decide) (by decide) ?_
  refine aw_if_eq (tgt := 25) dX11_pay_8 (by decide) (fun hc3 => ?_) (fun hc3 => ?_)
  · have hf := ax_pos hc3 hf
    refine aw_ldc2 dX11_pay_25 kc_X11_170 ?_
    cases hf
    exact aw_lret dX11_pay_28 hq (Nat.le_refl _) (Nat.le_refl _)
  · have hf := ax_neg hc3 hf
    refine aw_aload_n dX11_pay_11 rfl rfl ?_
    refine aw_gR dX11_pay_12 fl_X11_30 sh_0 rfl ?_
    refine aw_aload_n dX11_pay_15 rfl rfl ?_
    refine aw_gR dX11_pay_16 fl_X11_102 sh_0 rfl ?_
    obtain ⟨p2, hp2, hf⟩ := ax_bind hf
    refine aw_cVi (As := [.ref 56]) (st := []) dX11_pay_19 cl_X11_248 iv_X5_findFirst (k_X5_findFirst (Q := (fun v h' => v = some (.int p2.1) ∧ h' = hp p2.2 gb)) 3 56 p1.2 gb ax_RK3 sh_56 hp2 ⟨rfl, rfl⟩) (ci := 5) rfl (hp_get sh_5) rfl rfl rfl (Nat.le_of_ble_eq_true rfl) rfl (by decide) (by decide) ?_
    refine aw_if_ne (tgt := 29) dX11_pay_22 (by decide) (fun hc2 => ?_) (fun hc2 => ?_)
    · have hf := ax_neg hc2 hf
      refine aw_aload_n dX11_pay_29 rfl rfl ?_
      refine aw_gR dX11_pay_30 fl_X11_43 sh_0 rfl ?_
      refine aw_aload_n dX11_pay_33 rfl rfl ?_
      refine aw_gR dX11_pay_34 fl_X11_21 sh_0 rfl ?_
      obtain ⟨p3, hp3, hf⟩ := ax_bind hf
      refine aw_cVv (As := [.ref 3]) (st := []) dX11_pay_37 cl_X11_131 iv_X1_copy (k_X1_copy (Q := (fun v h' => v = none ∧ h' = hp p3 gb)) 13 3 p2.2 gb ax_G13 ax_G3 hp3 ⟨rfl, rfl⟩) (ci := 1) rfl (hp_get sh_13) rfl rfl rfl (Nat.le_of_ble_eq_true rfl) rfl (by decide) (by decide) ?_
      refine aw_aload_n dX11_pay_40 rfl rfl ?_
      refine aw_gR dX11_pay_41 fl_X11_43 sh_0 rfl ?_
      refine aw_iload_n dX11_pay_44 rfl rfl ?_
      obtain ⟨p4, hp4, hf⟩ := ax_bind hf
      refine aw_cVv (As := [.int x1]) (st := []) dX11_pay_45 cl_X11_281 iv_X1_dropWorker (k_X1_dropWorker (Q := (fun v h' => v = none ∧ h' = hp p4 gb)) 13 x1 p3 gb ax_G13 hp4 ⟨rfl, rfl⟩) (ci := 1) rfl (hp_get sh_13) rfl rfl rfl (Nat.le_of_ble_eq_true rfl) rfl (by decide) (by decide) ?_
      refine aw_aload_n dX11_pay_48 rfl rfl ?_
      refine aw_gR dX11_pay_49 fl_X11_46 sh_0 rfl ?_
      obtain ⟨p5, hp5, hf⟩ := ax_bind hf
      refine aw_cVv (As := []) (st := []) dX11_pay_52 cl_X11_109 iv_X5_refresh (k_X5_refresh (Q := (fun v h' => v = none ∧ h' = hp p5 gb)) 13 p4 gb ax_RK13 hp5 ⟨rfl, rfl⟩) (ci := 5) rfl (hp_get sh_15) rfl rfl rfl (Nat.le_of_ble_eq_true rfl) rfl (by decide) (by decide) ?_
      refine aw_aload_n dX11_pay_55 rfl rfl ?_
      refine aw_gR dX11_pay_56 fl_X11_46 sh_0 rfl ?_
      obtain ⟨p6, hp6, hf⟩ := ax_bind hf
      refine aw_cVl (As := []) (st := []) dX11_pay_59 cl_X11_238 iv_X5_leastSum (k_X5_leastSum (Q := (fun v h' => v = some (.long p6.1) ∧ h' = hp p6.2 gb)) 13 p5 gb ax_RK13 hp6 ⟨rfl, rfl⟩) (ci := 5) rfl (hp_get sh_15) rfl rfl rfl (Nat.le_of_ble_eq_true rfl) rfl (by decide) (by decide) ?_
      refine aw_lstore_n (L' := [some (.ref 0), some (.int x1), some (.long p6.1), none]) dX11_pay_62 rfl (by decide) rfl ?_
      refine aw_aload_n dX11_pay_63 rfl rfl ?_
      refine aw_gR dX11_pay_64 fl_X11_43 sh_0 rfl ?_
      refine aw_aload_n dX11_pay_67 rfl rfl ?_
      refine aw_gR dX11_pay_68 fl_X11_102 sh_0 rfl ?_
      refine aw_iload_n dX11_pay_71 rfl rfl ?_
      obtain ⟨hc1, hf⟩ := ax_ite hf
      refine aw_lA dX11_pay_72 sh_56 hc1 ?_
      obtain ⟨p7, hp7, hf⟩ := ax_bind hf
      refine aw_cVv (As := [.int (rA p6.2 56 (x1).toNatClampNeg)]) (st := []) dX11_pay_73 cl_X11_262 iv_X1_barJob (k_X1_barJob (Q := (fun v h' => v = none ∧ h' = hp p7 gb)) 13 (rA p6.2 56 (x1).toNatClampNeg) p6.2 gb ax_G13 hp7 ⟨rfl, rfl⟩) (ci := 1) rfl (hp_get sh_13) rfl rfl rfl (Nat.le_of_ble_eq_true rfl) rfl (by decide) (by decide) ?_
      refine aw_aload_n dX11_pay_76 rfl rfl ?_
      refine aw_gR dX11_pay_77 fl_X11_46 sh_0 rfl ?_
      obtain ⟨p8, hp8, hf⟩ := ax_bind hf
      refine aw_cVv (As := []) (st := []) dX11_pay_80 cl_X11_109 iv_X5_refresh (k_X5_refresh (Q := (fun v h' => v = none ∧ h' = hp p8 gb)) 13 p7 gb ax_RK13 hp8 ⟨rfl, rfl⟩) (ci := 5) rfl (hp_get sh_15) rfl rfl rfl (Nat.le_of_ble_eq_true rfl) rfl (by decide) (by decide) ?_
      refine aw_aload_n dX11_pay_83 rfl rfl ?_
      refine aw_gR dX11_pay_84 fl_X11_46 sh_0 rfl ?_
      obtain ⟨p9, hp9, hf⟩ := ax_bind hf
      refine aw_cVl (As := []) (st := []) dX11_pay_87 cl_X11_238 iv_X5_leastSum (k_X5_leastSum (Q := (fun v h' => v = some (.long p9.1) ∧ h' = hp p9.2 gb)) 13 p8 gb ax_RK13 hp9 ⟨rfl, rfl⟩) (ci := 5) rfl (hp_get sh_15) rfl rfl rfl (Nat.le_of_ble_eq_true rfl) rfl (by decide) (by decide) ?_
      refine aw_lload_n dX11_pay_90 rfl rfl ?_
      obtain ⟨p10, hp10, hf⟩ := ax_bind hf
      refine aw_cSl (As := [.long p9.1, .long p6.1]) (st := []) dX11_pay_91 cl_X11_277 st_X11_difference (k_X11_difference (Q := (fun v h' => v = some (.long p10.1) ∧ h' = hp p10.2 gb)) p9.1 p6.1 p9.2 gb hp10 ⟨rfl, rfl⟩) rfl rfl (Nat.le_of_ble_eq_true rfl) rfl (by decide) (by decide) ?_
      cases hf
      exact aw_lret dX11_pay_94 hq (Nat.le_refl _) (Nat.le_refl _)
    · have hf := ax_pos hc2 hf
      refine aw_ldc2 dX11_pay_25 kc_X11_170 ?_
      cases hf
      exact aw_lret dX11_pay_28 hq (Nat.le_refl _) (Nat.le_refl _)
noncomputable def f_X11_first (x1 : Int32) (x2 : Int32) (x3 : Int32) (s : sx_M) : Option (Int64 × sx_M) :=
  (f_X11_isRule x1 s).bind (fun p1 =>
 (if p1.1 = 0 then
 some ((-9223372036854775808 : Int64), p1.2)
else
 (if x3 < 0 then
 some ((-9223372036854775808 : Int64), p1.2)
else
 (if (1 : Int32) < x3 then
 some ((-9223372036854775808 : Int64), p1.2)
else
 (f_X7_choose x1 x2 p1.2).bind (fun p2 =>
 (if p2.1 = 0 then
 some ((-9223372036854775808 : Int64), p2.2)
else
 (if x3 = 0 then
 (f_X7_measure x1 x2 p2.2).bind (fun p4 =>
 some (p4.1, p4.2))
else
 (f_X1_sumOf 3 44 p2.2).bind (fun p3 =>
 some (p3.1, p3.2)))))))))
set_option maxRecDepth 100000 in
set_option maxHeartbeats 4000000 in
theorem k_X11_first {l : Launch} {X : ax_X} {Q : Option Value → ax_H → Prop} (x1 : Int32) (x2 : Int32) (x3 : Int32) (s : sx_M) (gb : ax_H) {p : Int64 × sx_M} (hf : f_X11_first x1 x2 x3 s = some p) (hq : Q (some (.long p.1)) (hp p.2 gb)) : AM l X yX11_first cX11_first 4 (some .long) 6 0 0 [.ref 0, .int x1, .int x2, .int x3] (hp s gb) Q := by
  refine aw_met (own := RX11) (nm := "first") (L := [some (.ref 0), some (.int x1), some (.int x2), some (.int x3)]) (by decide +kernel) rfl rfl (And.intro rfl (And.intro rfl (And.intro rfl (And.intro rfl trivial)))) (Nat.le_of_ble_eq_true rfl) ?_
  unfold f_X11_first at hf
  refine aw_iload_n dX11_first_0 rfl rfl ?_
  obtain ⟨p1, hp1, hf⟩ := ax_bind hf
  refine aw_cSi (As := [.int x1]) (st := []) dX11_first_1 cl_X11_284 st_X11_isRule (k_X11_isRule (Q := (fun v h' => v = some (.int p1.1) ∧ h' = hp p1.2 gb)) x1 s gb hp1 ⟨rfl, rfl⟩) rfl rfl (Nat.le_of_ble_eq_true rfl) rfl (by decide) (by decide) ?_
  refine aw_if_eq (tgt := 28) dX11_first_4 (by decide) (fun hc5 => ?_) (fun hc5 => ?_)
  · have hf := ax_pos hc5 hf
    refine aw_ldc2 dX11_first_28 kc_X11_170 ?_
    cases hf
    exact aw_lret dX11_first_31 hq (Nat.le_refl _) (Nat.le_refl _)
  · have hf := ax_neg hc5 hf
    refine aw_iload_n dX11_first_7 rfl rfl ?_
    refine aw_if_lt (tgt := 28) dX11_first_8 (by decide) (fun hc4 => ?_) (fun hc4 => ?_)
    · have hf := ax_pos hc4 hf
      refine aw_ldc2 dX11_first_28 kc_X11_170 ?_
      cases hf
      exact aw_lret dX11_first_31 hq (Nat.le_refl _) (Nat.le_refl _)
    · have hf := ax_neg hc4 hf
      refine aw_iload_n dX11_first_11 rfl rfl ?_
      refine aw_iconst (v := 1) dX11_first_12 (by decide) ?_
      refine aw_icmp_gt (tgt := 28) dX11_first_13 (by decide) (fun hc3 => ?_) (fun hc3 => ?_)
      · have hf := ax_pos hc3 hf
        refine aw_ldc2 dX11_first_28 kc_X11_170 ?_
        cases hf
        exact aw_lret dX11_first_31 hq (Nat.le_refl _) (Nat.le_refl _)
      · have hf := ax_neg hc3 hf
        refine aw_aload_n dX11_first_16 rfl rfl ?_
        refine aw_gR dX11_first_17 fl_X11_70 sh_0 rfl ?_
        refine aw_iload_n dX11_first_20 rfl rfl ?_
        refine aw_iload_n dX11_first_21 rfl rfl ?_
        obtain ⟨p2, hp2, hf⟩ := ax_bind hf
        refine aw_cVi (As := [.int x1, .int x2]) (st := []) dX11_first_22 cl_X11_287 iv_X7_choose (k_X7_choose (Q := (fun v h' => v = some (.int p2.1) ∧ h' = hp p2.2 gb)) x1 x2 p1.2 gb hp2 ⟨rfl, rfl⟩) (ci := 7) rfl (hp_get sh_42) rfl rfl rfl (Nat.le_of_ble_eq_true rfl) rfl (by decide) (by decide) ?_
        refine aw_if_ne (tgt := 32) dX11_first_25 (by decide) (fun hc2 => ?_) (fun hc2 => ?_)
        · have hf := ax_neg hc2 hf
          refine aw_iload_n dX11_first_32 rfl rfl ?_
          refine aw_if_ne (tgt := 48) dX11_first_33 (by decide) (fun hc1 => ?_) (fun hc1 => ?_)
          · have hf := ax_neg hc1 hf
            refine aw_aload_n dX11_first_48 rfl rfl ?_
            refine aw_gR dX11_first_49 fl_X11_21 sh_0 rfl ?_
            refine aw_aload_n dX11_first_52 rfl rfl ?_
            refine aw_gR dX11_first_53 fl_X11_70 sh_0 rfl ?_
            refine aw_gR dX11_first_56 fl_X11_293 sh_42 rfl ?_
            obtain ⟨p3, hp3, hf⟩ := ax_bind hf
            refine aw_cVl (As := [.ref 44]) (st := []) dX11_first_59 cl_X11_296 iv_X1_sumOf (k_X1_sumOf (Q := (fun v h' => v = some (.long p3.1) ∧ h' = hp p3.2 gb)) 3 44 p2.2 gb ax_G3 sh_44 hp3 ⟨rfl, rfl⟩) (ci := 1) rfl (hp_get sh_3) rfl rfl rfl (Nat.le_of_ble_eq_true rfl) rfl (by decide) (by decide) ?_
            cases hf
            exact aw_lret dX11_first_62 hq (Nat.le_refl _) (Nat.le_refl _)
          · have hf := ax_pos hc1 hf
            refine aw_aload_n dX11_first_36 rfl rfl ?_
            refine aw_gR dX11_first_37 fl_X11_70 sh_0 rfl ?_
            refine aw_iload_n dX11_first_40 rfl rfl ?_
            refine aw_iload_n dX11_first_41 rfl rfl ?_
            obtain ⟨p4, hp4, hf⟩ := ax_bind hf
            refine aw_cVl (As := [.int x1, .int x2]) (st := []) dX11_first_42 cl_X11_290 iv_X7_measure (k_X7_measure (Q := (fun v h' => v = some (.long p4.1) ∧ h' = hp p4.2 gb)) x1 x2 p2.2 gb hp4 ⟨rfl, rfl⟩) (ci := 7) rfl (hp_get sh_42) rfl rfl rfl (Nat.le_of_ble_eq_true rfl) rfl (by decide) (by decide) ?_
            refine aw_goto (tgt := 62) dX11_first_45 (by decide) ?_
            cases hf
            exact aw_lret dX11_first_62 hq (Nat.le_refl _) (Nat.le_refl _)
        · have hf := ax_pos hc2 hf
          refine aw_ldc2 dX11_first_28 kc_X11_170 ?_
          cases hf
          exact aw_lret dX11_first_31 hq (Nat.le_refl _) (Nat.le_refl _)
noncomputable def f_X11_firstJob (x1 : Int32) (x2 : Int32) (x3 : Int32) (s : sx_M) : Option (Int32 × sx_M) :=
  (f_X11_isRule x1 s).bind (fun p1 =>
 (if p1.1 = 0 then
 some ((-2 : Int32), p1.2)
else
 (f_X1_hasWorker 3 x3 p1.2).bind (fun p2 =>
 (if p2.1 = 0 then
 some ((-2 : Int32), p2.2)
else
 (f_X7_choose x1 x2 p2.2).bind (fun p3 =>
 (if p3.1 = 0 then
 some ((-1 : Int32), p3.2)
else
 (if ¬ (x3 < 0 ∨ 7 ≤ (x3).toNatClampNeg) then
 some ((rA p3.2 44 (x3).toNatClampNeg), p3.2)
else none)))))))
set_option maxRecDepth 100000 in
set_option maxHeartbeats 4000000 in
theorem k_X11_firstJob {l : Launch} {X : ax_X} {Q : Option Value → ax_H → Prop} (x1 : Int32) (x2 : Int32) (x3 : Int32) (s : sx_M) (gb : ax_H) {p : Int32 × sx_M} (hf : f_X11_firstJob x1 x2 x3 s = some p) (hq : Q (some (.int p.1)) (hp p.2 gb)) : AM l X yX11_firstJob cX11_firstJob 4 (some .int) 6 0 0 [.ref 0, .int x1, .int x2, .int x3] (hp s gb) Q := by
  refine aw_met (own := RX11) (nm := "firstJob") (L := [some (.ref 0), some (.int x1), some (.int x2), some (.int x3)]) (by decide +kernel) rfl rfl (And.intro rfl (And.intro rfl (And.intro rfl (And.intro rfl trivial)))) (Nat.le_of_ble_eq_true rfl) ?_
  unfold f_X11_firstJob at hf
  refine aw_iload_n dX11_firstJob_0 rfl rfl ?_
  obtain ⟨p1, hp1, hf⟩ := ax_bind hf
  refine aw_cSi (As := [.int x1]) (st := []) dX11_firstJob_1 cl_X11_284 st_X11_isRule (k_X11_isRule (Q := (fun v h' => v = some (.int p1.1) ∧ h' = hp p1.2 gb)) x1 s gb hp1 ⟨rfl, rfl⟩) rfl rfl (Nat.le_of_ble_eq_true rfl) rfl (by decide) (by decide) ?_
  refine aw_if_eq (tgt := 18) dX11_firstJob_4 (by decide) (fun hc4 => ?_) (fun hc4 => ?_)
  · have hf := ax_pos hc4 hf
    refine aw_bipush (v := -2) dX11_firstJob_18 (by decide) ?_
    cases hf
    exact aw_iret dX11_firstJob_20 hq (Nat.le_refl _) (Nat.le_refl _)
  · have hf := ax_neg hc4 hf
    refine aw_aload_n dX11_firstJob_7 rfl rfl ?_
    refine aw_gR dX11_firstJob_8 fl_X11_21 sh_0 rfl ?_
    refine aw_iload_n dX11_firstJob_11 rfl rfl ?_
    obtain ⟨p2, hp2, hf⟩ := ax_bind hf
    refine aw_cVi (As := [.int x3]) (st := []) dX11_firstJob_12 cl_X11_179 iv_X1_hasWorker (k_X1_hasWorker (Q := (fun v h' => v = some (.int p2.1) ∧ h' = hp p2.2 gb)) 3 x3 p1.2 gb ax_G3 hp2 ⟨rfl, rfl⟩) (ci := 1) rfl (hp_get sh_3) rfl rfl rfl (Nat.le_of_ble_eq_true rfl) rfl (by decide) (by decide) ?_
    refine aw_if_ne (tgt := 21) dX11_firstJob_15 (by decide) (fun hc3 => ?_) (fun hc3 => ?_)
    · have hf := ax_neg hc3 hf
      refine aw_aload_n dX11_firstJob_21 rfl rfl ?_
      refine aw_gR dX11_firstJob_22 fl_X11_70 sh_0 rfl ?_
      refine aw_iload_n dX11_firstJob_25 rfl rfl ?_
      refine aw_iload_n dX11_firstJob_26 rfl rfl ?_
      obtain ⟨p3, hp3, hf⟩ := ax_bind hf
      refine aw_cVi (As := [.int x1, .int x2]) (st := []) dX11_firstJob_27 cl_X11_287 iv_X7_choose (k_X7_choose (Q := (fun v h' => v = some (.int p3.1) ∧ h' = hp p3.2 gb)) x1 x2 p2.2 gb hp3 ⟨rfl, rfl⟩) (ci := 7) rfl (hp_get sh_42) rfl rfl rfl (Nat.le_of_ble_eq_true rfl) rfl (by decide) (by decide) ?_
      refine aw_if_eq (tgt := 45) dX11_firstJob_30 (by decide) (fun hc2 => ?_) (fun hc2 => ?_)
      · have hf := ax_pos hc2 hf
        refine aw_iconst (v := -1) dX11_firstJob_45 (by decide) ?_
        cases hf
        exact aw_iret dX11_firstJob_46 hq (Nat.le_refl _) (Nat.le_refl _)
      · have hf := ax_neg hc2 hf
        refine aw_aload_n dX11_firstJob_33 rfl rfl ?_
        refine aw_gR dX11_firstJob_34 fl_X11_70 sh_0 rfl ?_
        refine aw_gR dX11_firstJob_37 fl_X11_293 sh_42 rfl ?_
        refine aw_iload_n dX11_firstJob_40 rfl rfl ?_
        obtain ⟨hc1, hf⟩ := ax_ite hf
        refine aw_lA dX11_firstJob_41 sh_44 hc1 ?_
        refine aw_goto (tgt := 46) dX11_firstJob_42 (by decide) ?_
        cases hf
        exact aw_iret dX11_firstJob_46 hq (Nat.le_refl _) (Nat.le_refl _)
    · have hf := ax_pos hc3 hf
      refine aw_bipush (v := -2) dX11_firstJob_18 (by decide) ?_
      cases hf
      exact aw_iret dX11_firstJob_20 hq (Nat.le_refl _) (Nat.le_refl _)
noncomputable def f_X11_greedy (x1 : Int32) (s : sx_M) : Option (Int64 × sx_M) :=
  (if x1 < 0 then
 some ((-9223372036854775808 : Int64), s)
else
 (if x1 ≤ (1 : Int32) then
 (f_X0_take s).bind (fun p1 =>
 (if x1 = 0 then
 some ((rJ p1 46 3), p1)
else
 some (((rI p1 46 4)).toInt64, p1)))
else
 some ((-9223372036854775808 : Int64), s)))
set_option maxRecDepth 100000 in
set_option maxHeartbeats 4000000 in
theorem k_X11_greedy {l : Launch} {X : ax_X} {Q : Option Value → ax_H → Prop} (x1 : Int32) (s : sx_M) (gb : ax_H) {p : Int64 × sx_M} (hf : f_X11_greedy x1 s = some p) (hq : Q (some (.long p.1)) (hp p.2 gb)) : AM l X yX11_greedy cX11_greedy 2 (some .long) 4 0 0 [.ref 0, .int x1] (hp s gb) Q := by
  refine aw_met (own := RX11) (nm := "greedy") (L := [some (.ref 0), some (.int x1)]) (by decide +kernel) rfl rfl (And.intro rfl (And.intro rfl trivial)) (Nat.le_of_ble_eq_true rfl) ?_
  unfold f_X11_greedy at hf
  refine aw_iload_n dX11_greedy_0 rfl rfl ?_
  refine aw_if_lt (tgt := 9) dX11_greedy_1 (by decide) (fun hc3 => ?_) (fun hc3 => ?_)
  · have hf := ax_pos hc3 hf
    refine aw_ldc2 dX11_greedy_9 kc_X11_170 ?_
    cases hf
    exact aw_lret dX11_greedy_12 hq (Nat.le_refl _) (Nat.le_refl _)
  · have hf := ax_neg hc3 hf
    refine aw_iload_n dX11_greedy_4 rfl rfl ?_
    refine aw_iconst (v := 1) dX11_greedy_5 (by decide) ?_
    refine aw_icmp_le (tgt := 13) dX11_greedy_6 (by decide) (fun hc2 => ?_) (fun hc2 => ?_)
    · have hf := ax_pos hc2 hf
      refine aw_aload_n dX11_greedy_13 rfl rfl ?_
      refine aw_gR dX11_greedy_14 fl_X11_77 sh_0 rfl ?_
      obtain ⟨p1, hp1, hf⟩ := ax_bind hf
      refine aw_cVv (As := []) (st := []) dX11_greedy_17 cl_X11_298 iv_X0_take (k_X0_take (Q := (fun v h' => v = none ∧ h' = hp p1 gb)) s gb hp1 ⟨rfl, rfl⟩) (ci := 0) rfl (hp_get sh_46) rfl rfl rfl (Nat.le_of_ble_eq_true rfl) rfl (by decide) (by decide) ?_
      refine aw_iload_n dX11_greedy_20 rfl rfl ?_
      refine aw_if_ne (tgt := 34) dX11_greedy_21 (by decide) (fun hc1 => ?_) (fun hc1 => ?_)
      · have hf := ax_neg hc1 hf
        refine aw_aload_n dX11_greedy_34 rfl rfl ?_
        refine aw_gR dX11_greedy_35 fl_X11_77 sh_0 rfl ?_
        refine aw_gI dX11_greedy_38 fl_X11_305 sh_46 rfl ?_
        refine aw_i2l dX11_greedy_41 ?_
        cases hf
        exact aw_lret dX11_greedy_42 hq (Nat.le_refl _) (Nat.le_refl _)
      · have hf := ax_pos hc1 hf
        refine aw_aload_n dX11_greedy_24 rfl rfl ?_
        refine aw_gR dX11_greedy_25 fl_X11_77 sh_0 rfl ?_
        refine aw_gJ dX11_greedy_28 fl_X11_301 sh_46 rfl ?_
        refine aw_goto (tgt := 42) dX11_greedy_31 (by decide) ?_
        cases hf
        exact aw_lret dX11_greedy_42 hq (Nat.le_refl _) (Nat.le_refl _)
    · have hf := ax_neg hc2 hf
      refine aw_ldc2 dX11_greedy_9 kc_X11_170 ?_
      cases hf
      exact aw_lret dX11_greedy_12 hq (Nat.le_refl _) (Nat.le_refl _)
noncomputable def f_X11_greedyJob (x1 : Int32) (s : sx_M) : Option (Int32 × sx_M) :=
  (f_X1_hasWorker 3 x1 s).bind (fun p1 =>
 (if p1.1 = 0 then
 some ((-2 : Int32), p1.2)
else
 (f_X0_take p1.2).bind (fun p2 =>
 (if ¬ (x1 < 0 ∨ 7 ≤ (x1).toNatClampNeg) then
 some ((rA p2 47 (x1).toNatClampNeg), p2)
else none))))
set_option maxRecDepth 100000 in
set_option maxHeartbeats 4000000 in
theorem k_X11_greedyJob {l : Launch} {X : ax_X} {Q : Option Value → ax_H → Prop} (x1 : Int32) (s : sx_M) (gb : ax_H) {p : Int32 × sx_M} (hf : f_X11_greedyJob x1 s = some p) (hq : Q (some (.int p.1)) (hp p.2 gb)) : AM l X yX11_greedyJob cX11_greedyJob 2 (some .int) 4 0 0 [.ref 0, .int x1] (hp s gb) Q := by
  refine aw_met (own := RX11) (nm := "greedyJob") (L := [some (.ref 0), some (.int x1)]) (by decide +kernel) rfl rfl (And.intro rfl (And.intro rfl trivial)) (Nat.le_of_ble_eq_true rfl) ?_
  unfold f_X11_greedyJob at hf
  refine aw_aload_n dX11_greedyJob_0 rfl rfl ?_
  refine aw_gR dX11_greedyJob_1 fl_X11_21 sh_0 rfl ?_
  refine aw_iload_n dX11_greedyJob_4 rfl rfl ?_
  obtain ⟨p1, hp1, hf⟩ := ax_bind hf
  refine aw_cVi (As := [.int x1]) (st := []) dX11_greedyJob_5 cl_X11_179 iv_X1_hasWorker (k_X1_hasWorker (Q := (fun v h' => v = some (.int p1.1) ∧ h' = hp p1.2 gb)) 3 x1 s gb ax_G3 hp1 ⟨rfl, rfl⟩) (ci := 1) rfl (hp_get sh_3) rfl rfl rfl (Nat.le_of_ble_eq_true rfl) rfl (by decide) (by decide) ?_
  refine aw_if_ne (tgt := 14) dX11_greedyJob_8 (by decide) (fun hc2 => ?_) (fun hc2 => ?_)
  · have hf := ax_neg hc2 hf
    refine aw_aload_n dX11_greedyJob_14 rfl rfl ?_
    refine aw_gR dX11_greedyJob_15 fl_X11_77 sh_0 rfl ?_
    obtain ⟨p2, hp2, hf⟩ := ax_bind hf
    refine aw_cVv (As := []) (st := []) dX11_greedyJob_18 cl_X11_298 iv_X0_take (k_X0_take (Q := (fun v h' => v = none ∧ h' = hp p2 gb)) p1.2 gb hp2 ⟨rfl, rfl⟩) (ci := 0) rfl (hp_get sh_46) rfl rfl rfl (Nat.le_of_ble_eq_true rfl) rfl (by decide) (by decide) ?_
    refine aw_aload_n dX11_greedyJob_21 rfl rfl ?_
    refine aw_gR dX11_greedyJob_22 fl_X11_77 sh_0 rfl ?_
    refine aw_gR dX11_greedyJob_25 fl_X11_308 sh_46 rfl ?_
    refine aw_iload_n dX11_greedyJob_28 rfl rfl ?_
    obtain ⟨hc1, hf⟩ := ax_ite hf
    refine aw_lA dX11_greedyJob_29 sh_47 hc1 ?_
    cases hf
    exact aw_iret dX11_greedyJob_30 hq (Nat.le_refl _) (Nat.le_refl _)
  · have hf := ax_pos hc2 hf
    refine aw_bipush (v := -2) dX11_greedyJob_11 (by decide) ?_
    cases hf
    exact aw_iret dX11_greedyJob_13 hq (Nat.le_refl _) (Nat.le_refl _)
noncomputable def f_X11_mended (x1 : Int32) (s : sx_M) : Option (Int64 × sx_M) :=
  (if x1 < 0 then
 some ((-9223372036854775808 : Int64), s)
else
 (if x1 ≤ (1 : Int32) then
 (f_X0_take s).bind (fun p1 =>
 (if (rI p1 3 1) ≤ (rI p1 46 4) then
 (f_X0_mend p1).bind (fun p2 =>
 (if x1 = 0 then
 some ((rJ p2 46 3), p2)
else
 some (((rI p2 46 5)).toInt64, p2)))
else
 some ((-9223372036854775808 : Int64), p1)))
else
 some ((-9223372036854775808 : Int64), s)))
set_option maxRecDepth 100000 in
set_option maxHeartbeats 4000000 in
theorem k_X11_mended {l : Launch} {X : ax_X} {Q : Option Value → ax_H → Prop} (x1 : Int32) (s : sx_M) (gb : ax_H) {p : Int64 × sx_M} (hf : f_X11_mended x1 s = some p) (hq : Q (some (.long p.1)) (hp p.2 gb)) : AM l X yX11_mended cX11_mended 2 (some .long) 5 0 0 [.ref 0, .int x1] (hp s gb) Q := by
  refine aw_met (own := RX11) (nm := "mended") (L := [some (.ref 0), some (.int x1)]) (by decide +kernel) rfl rfl (And.intro rfl (And.intro rfl trivial)) (Nat.le_of_ble_eq_true rfl) ?_
  unfold f_X11_mended at hf
  refine aw_iload_n dX11_mended_0 rfl rfl ?_
  refine aw_if_lt (tgt := 9) dX11_mended_1 (by decide) (fun hc4 => ?_) (fun hc4 => ?_)
  · have hf := ax_pos hc4 hf
    refine aw_ldc2 dX11_mended_9 kc_X11_170 ?_
    cases hf
    exact aw_lret dX11_mended_12 hq (Nat.le_refl _) (Nat.le_refl _)
  · have hf := ax_neg hc4 hf
    refine aw_iload_n dX11_mended_4 rfl rfl ?_
    refine aw_iconst (v := 1) dX11_mended_5 (by decide) ?_
    refine aw_icmp_le (tgt := 13) dX11_mended_6 (by decide) (fun hc3 => ?_) (fun hc3 => ?_)
    · have hf := ax_pos hc3 hf
      refine aw_aload_n dX11_mended_13 rfl rfl ?_
      refine aw_gR dX11_mended_14 fl_X11_77 sh_0 rfl ?_
      obtain ⟨p1, hp1, hf⟩ := ax_bind hf
      refine aw_cVv (As := []) (st := []) dX11_mended_17 cl_X11_298 iv_X0_take (k_X0_take (Q := (fun v h' => v = none ∧ h' = hp p1 gb)) s gb hp1 ⟨rfl, rfl⟩) (ci := 0) rfl (hp_get sh_46) rfl rfl rfl (Nat.le_of_ble_eq_true rfl) rfl (by decide) (by decide) ?_
      refine aw_aload_n dX11_mended_20 rfl rfl ?_
      refine aw_gR dX11_mended_21 fl_X11_77 sh_0 rfl ?_
      refine aw_gI dX11_mended_24 fl_X11_305 sh_46 rfl ?_
      refine aw_aload_n dX11_mended_27 rfl rfl ?_
      refine aw_gR dX11_mended_28 fl_X11_21 sh_0 rfl ?_
      refine aw_gI dX11_mended_31 fl_X11_140 sh_3 rfl ?_
      refine aw_icmp_ge (tgt := 41) dX11_mended_34 (by decide) (fun hc2 => ?_) (fun hc2 => ?_)
      · have hf := ax_pos hc2 hf
        refine aw_aload_n dX11_mended_41 rfl rfl ?_
        refine aw_gR dX11_mended_42 fl_X11_77 sh_0 rfl ?_
        obtain ⟨p2, hp2, hf⟩ := ax_bind hf
        refine aw_cVv (As := []) (st := []) dX11_mended_45 cl_X11_311 iv_X0_mend (k_X0_mend (Q := (fun v h' => v = none ∧ h' = hp p2 gb)) p1 gb hp2 ⟨rfl, rfl⟩) (ci := 0) rfl (hp_get sh_46) rfl rfl rfl (Nat.le_of_ble_eq_true rfl) rfl (by decide) (by decide) ?_
        refine aw_iload_n dX11_mended_48 rfl rfl ?_
        refine aw_if_ne (tgt := 62) dX11_mended_49 (by decide) (fun hc1 => ?_) (fun hc1 => ?_)
        · have hf := ax_neg hc1 hf
          refine aw_aload_n dX11_mended_62 rfl rfl ?_
          refine aw_gR dX11_mended_63 fl_X11_77 sh_0 rfl ?_
          refine aw_gI dX11_mended_66 fl_X11_314 sh_46 rfl ?_
          refine aw_i2l dX11_mended_69 ?_
          cases hf
          exact aw_lret dX11_mended_70 hq (Nat.le_refl _) (Nat.le_refl _)
        · have hf := ax_pos hc1 hf
          refine aw_aload_n dX11_mended_52 rfl rfl ?_
          refine aw_gR dX11_mended_53 fl_X11_77 sh_0 rfl ?_
          refine aw_gJ dX11_mended_56 fl_X11_301 sh_46 rfl ?_
          refine aw_goto (tgt := 70) dX11_mended_59 (by decide) ?_
          cases hf
          exact aw_lret dX11_mended_70 hq (Nat.le_refl _) (Nat.le_refl _)
      · have hf := ax_neg hc2 hf
        refine aw_ldc2 dX11_mended_37 kc_X11_170 ?_
        cases hf
        exact aw_lret dX11_mended_40 hq (Nat.le_refl _) (Nat.le_refl _)
    · have hf := ax_neg hc3 hf
      refine aw_ldc2 dX11_mended_9 kc_X11_170 ?_
      cases hf
      exact aw_lret dX11_mended_12 hq (Nat.le_refl _) (Nat.le_refl _)
noncomputable def f_X11_auction (x1 : Int32) (x2 : Int32) (s : sx_M) : Option (Int64 × sx_M) :=
  (f_X11_isStep x1 s).bind (fun p1 =>
 (if p1.1 = 0 then
 some ((-9223372036854775808 : Int64), p1.2)
else
 (if x2 < 0 then
 some ((-9223372036854775808 : Int64), p1.2)
else
 (if x2 ≤ (2 : Int32) then
 (f_X8_hold x1 p1.2).bind (fun p2 =>
 (if x2 = 0 then
 some (((rI p2 49 5)).toInt64, p2)
else
 (if x2 = (2 : Int32) then
 (f_X8_total p2).bind (fun p3 =>
 some (p3.1, p3.2))
else
 (if (rI p2 49 4) = 0 then
 some ((1 : Int64), p2)
else
 some ((0 : Int64), p2)))))
else
 some ((-9223372036854775808 : Int64), p1.2)))))
set_option maxRecDepth 100000 in
set_option maxHeartbeats 4000000 in
theorem k_X11_auction {l : Launch} {X : ax_X} {Q : Option Value → ax_H → Prop} (x1 : Int32) (x2 : Int32) (s : sx_M) (gb : ax_H) {p : Int64 × sx_M} (hf : f_X11_auction x1 x2 s = some p) (hq : Q (some (.long p.1)) (hp p.2 gb)) : AM l X yX11_auction cX11_auction 3 (some .long) 5 0 0 [.ref 0, .int x1, .int x2] (hp s gb) Q := by
  refine aw_met (own := RX11) (nm := "auction") (L := [some (.ref 0), some (.int x1), some (.int x2)]) (by decide +kernel) rfl rfl (And.intro rfl (And.intro rfl (And.intro rfl trivial))) (Nat.le_of_ble_eq_true rfl) ?_
  unfold f_X11_auction at hf
  refine aw_iload_n dX11_auction_0 rfl rfl ?_
  obtain ⟨p1, hp1, hf⟩ := ax_bind hf
  refine aw_cSi (As := [.int x1]) (st := []) dX11_auction_1 cl_X11_315 st_X11_isStep (k_X11_isStep (Q := (fun v h' => v = some (.int p1.1) ∧ h' = hp p1.2 gb)) x1 s gb hp1 ⟨rfl, rfl⟩) rfl rfl (Nat.le_of_ble_eq_true rfl) rfl (by decide) (by decide) ?_
  refine aw_if_eq (tgt := 16) dX11_auction_4 (by decide) (fun hc6 => ?_) (fun hc6 => ?_)
  · have hf := ax_pos hc6 hf
    refine aw_ldc2 dX11_auction_16 kc_X11_170 ?_
    cases hf
    exact aw_lret dX11_auction_19 hq (Nat.le_refl _) (Nat.le_refl _)
  · have hf := ax_neg hc6 hf
    refine aw_iload_n dX11_auction_7 rfl rfl ?_
    refine aw_if_lt (tgt := 16) dX11_auction_8 (by decide) (fun hc5 => ?_) (fun hc5 => ?_)
    · have hf := ax_pos hc5 hf
      refine aw_ldc2 dX11_auction_16 kc_X11_170 ?_
      cases hf
      exact aw_lret dX11_auction_19 hq (Nat.le_refl _) (Nat.le_refl _)
    · have hf := ax_neg hc5 hf
      refine aw_iload_n dX11_auction_11 rfl rfl ?_
      refine aw_iconst (v := 2) dX11_auction_12 (by decide) ?_
      refine aw_icmp_le (tgt := 20) dX11_auction_13 (by decide) (fun hc4 => ?_) (fun hc4 => ?_)
      · have hf := ax_pos hc4 hf
        refine aw_aload_n dX11_auction_20 rfl rfl ?_
        refine aw_gR dX11_auction_21 fl_X11_84 sh_0 rfl ?_
        refine aw_iload_n dX11_auction_24 rfl rfl ?_
        obtain ⟨p2, hp2, hf⟩ := ax_bind hf
        refine aw_cVv (As := [.int x1]) (st := []) dX11_auction_25 cl_X11_318 iv_X8_hold (k_X8_hold (Q := (fun v h' => v = none ∧ h' = hp p2 gb)) x1 p1.2 gb hp2 ⟨rfl, rfl⟩) (ci := 8) rfl (hp_get sh_49) rfl rfl rfl (Nat.le_of_ble_eq_true rfl) rfl (by decide) (by decide) ?_
        refine aw_iload_n dX11_auction_28 rfl rfl ?_
        refine aw_if_ne (tgt := 41) dX11_auction_29 (by decide) (fun hc3 => ?_) (fun hc3 => ?_)
        · have hf := ax_neg hc3 hf
          refine aw_iload_n dX11_auction_41 rfl rfl ?_
          refine aw_iconst (v := 2) dX11_auction_42 (by decide) ?_
          refine aw_icmp_ne (tgt := 54) dX11_auction_43 (by decide) (fun hc2 => ?_) (fun hc2 => ?_)
          · have hf := ax_neg hc2 hf
            refine aw_aload_n dX11_auction_54 rfl rfl ?_
            refine aw_gR dX11_auction_55 fl_X11_84 sh_0 rfl ?_
            refine aw_gI dX11_auction_58 fl_X11_326 sh_49 rfl ?_
            refine aw_if_ne (tgt := 68) dX11_auction_61 (by decide) (fun hc1 => ?_) (fun hc1 => ?_)
            · have hf := ax_neg hc1 hf
              refine aw_lconst (v := 0) dX11_auction_68 (by decide) ?_
              cases hf
              exact aw_lret dX11_auction_69 hq (Nat.le_refl _) (Nat.le_refl _)
            · have hf := ax_pos hc1 hf
              refine aw_lconst (v := 1) dX11_auction_64 (by decide) ?_
              refine aw_goto (tgt := 69) dX11_auction_65 (by decide) ?_
              cases hf
              exact aw_lret dX11_auction_69 hq (Nat.le_refl _) (Nat.le_refl _)
          · have hf := ax_pos hc2 hf
            refine aw_aload_n dX11_auction_46 rfl rfl ?_
            refine aw_gR dX11_auction_47 fl_X11_84 sh_0 rfl ?_
            obtain ⟨p3, hp3, hf⟩ := ax_bind hf
            refine aw_cVl (As := []) (st := []) dX11_auction_50 cl_X11_324 iv_X8_total (k_X8_total (Q := (fun v h' => v = some (.long p3.1) ∧ h' = hp p3.2 gb)) p2 gb hp3 ⟨rfl, rfl⟩) (ci := 8) rfl (hp_get sh_49) rfl rfl rfl (Nat.le_of_ble_eq_true rfl) rfl (by decide) (by decide) ?_
            cases hf
            exact aw_lret dX11_auction_53 hq (Nat.le_refl _) (Nat.le_refl _)
        · have hf := ax_pos hc3 hf
          refine aw_aload_n dX11_auction_32 rfl rfl ?_
          refine aw_gR dX11_auction_33 fl_X11_84 sh_0 rfl ?_
          refine aw_gI dX11_auction_36 fl_X11_321 sh_49 rfl ?_
          refine aw_i2l dX11_auction_39 ?_
          cases hf
          exact aw_lret dX11_auction_40 hq (Nat.le_refl _) (Nat.le_refl _)
      · have hf := ax_neg hc4 hf
        refine aw_ldc2 dX11_auction_16 kc_X11_170 ?_
        cases hf
        exact aw_lret dX11_auction_19 hq (Nat.le_refl _) (Nat.le_refl _)
noncomputable def f_X11_auctionPrice (x1 : Int32) (x2 : Int32) (s : sx_M) : Option (Int32 × sx_M) :=
  (f_X11_isStep x1 s).bind (fun p1 =>
 (if p1.1 = 0 then
 some ((-2 : Int32), p1.2)
else
 (f_X1_hasJob 3 x2 p1.2).bind (fun p2 =>
 (if p2.1 = 0 then
 some ((-2 : Int32), p2.2)
else
 (f_X8_hold x1 p2.2).bind (fun p3 =>
 (if ¬ (x2 < 0 ∨ 8 ≤ (x2).toNatClampNeg) then
 some (((rB p3 50 (x2).toNatClampNeg)).toInt32, p3)
else none))))))
set_option maxRecDepth 100000 in
set_option maxHeartbeats 4000000 in
theorem k_X11_auctionPrice {l : Launch} {X : ax_X} {Q : Option Value → ax_H → Prop} (x1 : Int32) (x2 : Int32) (s : sx_M) (gb : ax_H) {p : Int32 × sx_M} (hf : f_X11_auctionPrice x1 x2 s = some p) (hq : Q (some (.int p.1)) (hp p.2 gb)) : AM l X yX11_auctionPrice cX11_auctionPrice 3 (some .int) 5 0 0 [.ref 0, .int x1, .int x2] (hp s gb) Q := by
  refine aw_met (own := RX11) (nm := "auctionPrice") (L := [some (.ref 0), some (.int x1), some (.int x2)]) (by decide +kernel) rfl rfl (And.intro rfl (And.intro rfl (And.intro rfl trivial))) (Nat.le_of_ble_eq_true rfl) ?_
  unfold f_X11_auctionPrice at hf
  refine aw_iload_n dX11_auctionPrice_0 rfl rfl ?_
  obtain ⟨p1, hp1, hf⟩ := ax_bind hf
  refine aw_cSi (As := [.int x1]) (st := []) dX11_auctionPrice_1 cl_X11_315 st_X11_isStep (k_X11_isStep (Q := (fun v h' => v = some (.int p1.1) ∧ h' = hp p1.2 gb)) x1 s gb hp1 ⟨rfl, rfl⟩) rfl rfl (Nat.le_of_ble_eq_true rfl) rfl (by decide) (by decide) ?_
  refine aw_if_eq (tgt := 18) dX11_auctionPrice_4 (by decide) (fun hc3 => ?_) (fun hc3 => ?_)
  · have hf := ax_pos hc3 hf
    refine aw_bipush (v := -2) dX11_auctionPrice_18 (by decide) ?_
    cases hf
    exact aw_iret dX11_auctionPrice_20 hq (Nat.le_refl _) (Nat.le_refl _)
  · have hf := ax_neg hc3 hf
    refine aw_aload_n dX11_auctionPrice_7 rfl rfl ?_
    refine aw_gR dX11_auctionPrice_8 fl_X11_21 sh_0 rfl ?_
    refine aw_iload_n dX11_auctionPrice_11 rfl rfl ?_
    obtain ⟨p2, hp2, hf⟩ := ax_bind hf
    refine aw_cVi (As := [.int x2]) (st := []) dX11_auctionPrice_12 cl_X11_274 iv_X1_hasJob (k_X1_hasJob (Q := (fun v h' => v = some (.int p2.1) ∧ h' = hp p2.2 gb)) 3 x2 p1.2 gb ax_G3 hp2 ⟨rfl, rfl⟩) (ci := 1) rfl (hp_get sh_3) rfl rfl rfl (Nat.le_of_ble_eq_true rfl) rfl (by decide) (by decide) ?_
    refine aw_if_ne (tgt := 21) dX11_auctionPrice_15 (by decide) (fun hc2 => ?_) (fun hc2 => ?_)
    · have hf := ax_neg hc2 hf
      refine aw_aload_n dX11_auctionPrice_21 rfl rfl ?_
      refine aw_gR dX11_auctionPrice_22 fl_X11_84 sh_0 rfl ?_
      refine aw_iload_n dX11_auctionPrice_25 rfl rfl ?_
      obtain ⟨p3, hp3, hf⟩ := ax_bind hf
      refine aw_cVv (As := [.int x1]) (st := []) dX11_auctionPrice_26 cl_X11_318 iv_X8_hold (k_X8_hold (Q := (fun v h' => v = none ∧ h' = hp p3 gb)) x1 p2.2 gb hp3 ⟨rfl, rfl⟩) (ci := 8) rfl (hp_get sh_49) rfl rfl rfl (Nat.le_of_ble_eq_true rfl) rfl (by decide) (by decide) ?_
      refine aw_aload_n dX11_auctionPrice_29 rfl rfl ?_
      refine aw_gR dX11_auctionPrice_30 fl_X11_84 sh_0 rfl ?_
      refine aw_gR dX11_auctionPrice_33 fl_X11_329 sh_49 rfl ?_
      refine aw_iload_n dX11_auctionPrice_36 rfl rfl ?_
      obtain ⟨hc1, hf⟩ := ax_ite hf
      refine aw_lB dX11_auctionPrice_37 sh_50 hc1 ?_
      refine aw_l2i dX11_auctionPrice_38 ?_
      cases hf
      exact aw_iret dX11_auctionPrice_39 hq (Nat.le_refl _) (Nat.le_refl _)
    · have hf := ax_pos hc2 hf
      refine aw_bipush (v := -2) dX11_auctionPrice_18 (by decide) ?_
      cases hf
      exact aw_iret dX11_auctionPrice_20 hq (Nat.le_refl _) (Nat.le_refl _)
noncomputable def f_X11_auctionJob (x1 : Int32) (x2 : Int32) (s : sx_M) : Option (Int32 × sx_M) :=
  (f_X11_isStep x1 s).bind (fun p1 =>
 (if p1.1 = 0 then
 some ((-2 : Int32), p1.2)
else
 (f_X1_hasWorker 3 x2 p1.2).bind (fun p2 =>
 (if p2.1 = 0 then
 some ((-2 : Int32), p2.2)
else
 (f_X8_hold x1 p2.2).bind (fun p3 =>
 (if ¬ (x2 < 0 ∨ 7 ≤ (x2).toNatClampNeg) then
 some ((rA p3 51 (x2).toNatClampNeg), p3)
else none))))))
set_option maxRecDepth 100000 in
set_option maxHeartbeats 4000000 in
theorem k_X11_auctionJob {l : Launch} {X : ax_X} {Q : Option Value → ax_H → Prop} (x1 : Int32) (x2 : Int32) (s : sx_M) (gb : ax_H) {p : Int32 × sx_M} (hf : f_X11_auctionJob x1 x2 s = some p) (hq : Q (some (.int p.1)) (hp p.2 gb)) : AM l X yX11_auctionJob cX11_auctionJob 3 (some .int) 5 0 0 [.ref 0, .int x1, .int x2] (hp s gb) Q := by
  refine aw_met (own := RX11) (nm := "auctionJob") (L := [some (.ref 0), some (.int x1), some (.int x2)]) (by decide +kernel) rfl rfl (And.intro rfl (And.intro rfl (And.intro rfl trivial))) (Nat.le_of_ble_eq_true rfl) ?_
  unfold f_X11_auctionJob at hf
  refine aw_iload_n dX11_auctionJob_0 rfl rfl ?_
  obtain ⟨p1, hp1, hf⟩ := ax_bind hf
  refine aw_cSi (As := [.int x1]) (st := []) dX11_auctionJob_1 cl_X11_315 st_X11_isStep (k_X11_isStep (Q := (fun v h' => v = some (.int p1.1) ∧ h' = hp p1.2 gb)) x1 s gb hp1 ⟨rfl, rfl⟩) rfl rfl (Nat.le_of_ble_eq_true rfl) rfl (by decide) (by decide) ?_
  refine aw_if_eq (tgt := 18) dX11_auctionJob_4 (by decide) (fun hc3 => ?_) (fun hc3 => ?_)
  · have hf := ax_pos hc3 hf
    refine aw_bipush (v := -2) dX11_auctionJob_18 (by decide) ?_
    cases hf
    exact aw_iret dX11_auctionJob_20 hq (Nat.le_refl _) (Nat.le_refl _)
  · have hf := ax_neg hc3 hf
    refine aw_aload_n dX11_auctionJob_7 rfl rfl ?_
    refine aw_gR dX11_auctionJob_8 fl_X11_21 sh_0 rfl ?_
    refine aw_iload_n dX11_auctionJob_11 rfl rfl ?_
    obtain ⟨p2, hp2, hf⟩ := ax_bind hf
    refine aw_cVi (As := [.int x2]) (st := []) dX11_auctionJob_12 cl_X11_179 iv_X1_hasWorker (k_X1_hasWorker (Q := (fun v h' => v = some (.int p2.1) ∧ h' = hp p2.2 gb)) 3 x2 p1.2 gb ax_G3 hp2 ⟨rfl, rfl⟩) (ci := 1) rfl (hp_get sh_3) rfl rfl rfl (Nat.le_of_ble_eq_true rfl) rfl (by decide) (by decide) ?_
    refine aw_if_ne (tgt := 21) dX11_auctionJob_15 (by decide) (fun hc2 => ?_) (fun hc2 => ?_)
    · have hf := ax_neg hc2 hf
      refine aw_aload_n dX11_auctionJob_21 rfl rfl ?_
      refine aw_gR dX11_auctionJob_22 fl_X11_84 sh_0 rfl ?_
      refine aw_iload_n dX11_auctionJob_25 rfl rfl ?_
      obtain ⟨p3, hp3, hf⟩ := ax_bind hf
      refine aw_cVv (As := [.int x1]) (st := []) dX11_auctionJob_26 cl_X11_318 iv_X8_hold (k_X8_hold (Q := (fun v h' => v = none ∧ h' = hp p3 gb)) x1 p2.2 gb hp3 ⟨rfl, rfl⟩) (ci := 8) rfl (hp_get sh_49) rfl rfl rfl (Nat.le_of_ble_eq_true rfl) rfl (by decide) (by decide) ?_
      refine aw_aload_n dX11_auctionJob_29 rfl rfl ?_
      refine aw_gR dX11_auctionJob_30 fl_X11_84 sh_0 rfl ?_
      refine aw_gR dX11_auctionJob_33 fl_X11_333 sh_49 rfl ?_
      refine aw_iload_n dX11_auctionJob_36 rfl rfl ?_
      obtain ⟨hc1, hf⟩ := ax_ite hf
      refine aw_lA dX11_auctionJob_37 sh_51 hc1 ?_
      cases hf
      exact aw_iret dX11_auctionJob_38 hq (Nat.le_refl _) (Nat.le_refl _)
    · have hf := ax_pos hc2 hf
      refine aw_bipush (v := -2) dX11_auctionJob_18 (by decide) ?_
      cases hf
      exact aw_iret dX11_auctionJob_20 hq (Nat.le_refl _) (Nat.le_refl _)
noncomputable def f_X11_move (x1 : Int32) (x2 : Int32) (s : sx_M) : Option (Int64 × sx_M) :=
  (if x2 < 0 then
 some ((-9223372036854775808 : Int64), s)
else
 (if (2 : Int32) < x2 then
 some ((-9223372036854775808 : Int64), s)
else
 (f_X1_decode 3 56 x1 s).bind (fun p1 =>
 (if p1.1 = 0 then
 some ((-9223372036854775808 : Int64), p1.2)
else
 (f_X3_search 56 p1.2).bind (fun p2 =>
 (if p2.1 = 0 then
 some ((-9223372036854775808 : Int64), p2.2)
else
 (if x2 = 0 then
 some ((rJ p2.2 53 3), p2.2)
else
 (if x2 = (1 : Int32) then
 (f_J6_bitCount_0f7a4 (rI p2.2 53 4) p2.2).bind (fun p3 =>
 some ((p3.1).toInt64, p3.2))
else
 some (((rI p2.2 53 4)).toInt64, p2.2)))))))))
set_option maxRecDepth 100000 in
set_option maxHeartbeats 4000000 in
theorem k_X11_move {l : Launch} {X : ax_X} {Q : Option Value → ax_H → Prop} (x1 : Int32) (x2 : Int32) (s : sx_M) (gb : ax_H) {p : Int64 × sx_M} (hf : f_X11_move x1 x2 s = some p) (hq : Q (some (.long p.1)) (hp p.2 gb)) : AM l X yX11_move cX11_move 3 (some .long) 13 0 0 [.ref 0, .int x1, .int x2] (hp s gb) Q := by
  refine aw_met (own := RX11) (nm := "move") (L := [some (.ref 0), some (.int x1), some (.int x2)]) (by decide +kernel) rfl rfl (And.intro rfl (And.intro rfl (And.intro rfl trivial))) (Nat.le_of_ble_eq_true rfl) ?_
  unfold f_X11_move at hf
  refine aw_iload_n dX11_move_0 rfl rfl ?_
  refine aw_if_lt (tgt := 38) dX11_move_1 (by decide) (fun hc6 => ?_) (fun hc6 => ?_)
  · have hf := ax_pos hc6 hf
    refine aw_ldc2 dX11_move_38 kc_X11_170 ?_
    cases hf
    exact aw_lret dX11_move_41 hq (Nat.le_refl _) (Nat.le_refl _)
  · have hf := ax_neg hc6 hf
    refine aw_iload_n dX11_move_4 rfl rfl ?_
    refine aw_iconst (v := 2) dX11_move_5 (by decide) ?_
    refine aw_icmp_gt (tgt := 38) dX11_move_6 (by decide) (fun hc5 => ?_) (fun hc5 => ?_)
    · have hf := ax_pos hc5 hf
      refine aw_ldc2 dX11_move_38 kc_X11_170 ?_
      cases hf
      exact aw_lret dX11_move_41 hq (Nat.le_refl _) (Nat.le_refl _)
    · have hf := ax_neg hc5 hf
      refine aw_aload_n dX11_move_9 rfl rfl ?_
      refine aw_gR dX11_move_10 fl_X11_21 sh_0 rfl ?_
      refine aw_iload_n dX11_move_13 rfl rfl ?_
      refine aw_aload_n dX11_move_14 rfl rfl ?_
      refine aw_gR dX11_move_15 fl_X11_102 sh_0 rfl ?_
      obtain ⟨p1, hp1, hf⟩ := ax_bind hf
      refine aw_cVi (As := [.int x1, .ref 56]) (st := []) dX11_move_18 cl_X11_193 iv_X1_decode (k_X1_decode (Q := (fun v h' => v = some (.int p1.1) ∧ h' = hp p1.2 gb)) 3 56 x1 s gb ax_G3 sh_56 hp1 ⟨rfl, rfl⟩) (ci := 1) rfl (hp_get sh_3) rfl rfl rfl (Nat.le_of_ble_eq_true rfl) rfl (by decide) (by decide) ?_
      refine aw_if_eq (tgt := 38) dX11_move_21 (by decide) (fun hc4 => ?_) (fun hc4 => ?_)
      · have hf := ax_pos hc4 hf
        refine aw_ldc2 dX11_move_38 kc_X11_170 ?_
        cases hf
        exact aw_lret dX11_move_41 hq (Nat.le_refl _) (Nat.le_refl _)
      · have hf := ax_neg hc4 hf
        refine aw_aload_n dX11_move_24 rfl rfl ?_
        refine aw_gR dX11_move_25 fl_X11_91 sh_0 rfl ?_
        refine aw_aload_n dX11_move_28 rfl rfl ?_
        refine aw_gR dX11_move_29 fl_X11_102 sh_0 rfl ?_
        obtain ⟨p2, hp2, hf⟩ := ax_bind hf
        refine aw_cVi (As := [.ref 56]) (st := []) dX11_move_32 cl_X11_334 iv_X3_search (k_X3_search (Q := (fun v h' => v = some (.int p2.1) ∧ h' = hp p2.2 gb)) 56 p1.2 gb sh_56 hp2 ⟨rfl, rfl⟩) (ci := 3) rfl (hp_get sh_53) rfl rfl rfl (Nat.le_of_ble_eq_true rfl) rfl (by decide) (by decide) ?_
        refine aw_if_ne (tgt := 42) dX11_move_35 (by decide) (fun hc3 => ?_) (fun hc3 => ?_)
        · have hf := ax_neg hc3 hf
          refine aw_iload_n dX11_move_42 rfl rfl ?_
          refine aw_if_ne (tgt := 54) dX11_move_43 (by decide) (fun hc2 => ?_) (fun hc2 => ?_)
          · have hf := ax_neg hc2 hf
            refine aw_iload_n dX11_move_54 rfl rfl ?_
            refine aw_iconst (v := 1) dX11_move_55 (by decide) ?_
            refine aw_icmp_ne (tgt := 73) dX11_move_56 (by decide) (fun hc1 => ?_) (fun hc1 => ?_)
            · have hf := ax_neg hc1 hf
              refine aw_aload_n dX11_move_73 rfl rfl ?_
              refine aw_gR dX11_move_74 fl_X11_91 sh_0 rfl ?_
              refine aw_gI dX11_move_77 fl_X11_340 sh_53 rfl ?_
              refine aw_i2l dX11_move_80 ?_
              cases hf
              exact aw_lret dX11_move_81 hq (Nat.le_refl _) (Nat.le_refl _)
            · have hf := ax_pos hc1 hf
              refine aw_aload_n dX11_move_59 rfl rfl ?_
              refine aw_gR dX11_move_60 fl_X11_91 sh_0 rfl ?_
              refine aw_gI dX11_move_63 fl_X11_340 sh_53 rfl ?_
              obtain ⟨p3, hp3, hf⟩ := ax_bind hf
              refine aw_cSi (As := [.int (rI p2.2 53 4)]) (st := []) dX11_move_66 cl_X11_269 st_J6_bitCount_0f7a4 (k_J6_bitCount_0f7a4 (Q := (fun v h' => v = some (.int p3.1) ∧ h' = hp p3.2 gb)) (rI p2.2 53 4) p2.2 gb hp3 ⟨rfl, rfl⟩) rfl rfl (Nat.le_of_ble_eq_true rfl) rfl (by decide) (by decide) ?_
              refine aw_i2l dX11_move_69 ?_
              refine aw_goto (tgt := 81) dX11_move_70 (by decide) ?_
              cases hf
              exact aw_lret dX11_move_81 hq (Nat.le_refl _) (Nat.le_refl _)
          · have hf := ax_pos hc2 hf
            refine aw_aload_n dX11_move_46 rfl rfl ?_
            refine aw_gR dX11_move_47 fl_X11_91 sh_0 rfl ?_
            refine aw_gJ dX11_move_50 fl_X11_337 sh_53 rfl ?_
            cases hf
            exact aw_lret dX11_move_53 hq (Nat.le_refl _) (Nat.le_refl _)
        · have hf := ax_pos hc3 hf
          refine aw_ldc2 dX11_move_38 kc_X11_170 ?_
          cases hf
          exact aw_lret dX11_move_41 hq (Nat.le_refl _) (Nat.le_refl _)
noncomputable def f_X11_least (x1 : Int32) (x2 : Int32) (s : sx_M) : Option (Int64 × sx_M) :=
  (f_X1_hasLine 3 x1 x2 s).bind (fun p1 =>
 (if p1.1 = 0 then
 some ((-9223372036854775808 : Int64), p1.2)
else
 (f_X1_leastOf 3 x1 x2 p1.2).bind (fun p2 =>
 (if p2.1 = (9223372036854775807 : Int64) then
 some ((-9223372036854775808 : Int64), p2.2)
else
 some (p2.1, p2.2)))))
set_option maxRecDepth 100000 in
set_option maxHeartbeats 4000000 in
theorem k_X11_least {l : Launch} {X : ax_X} {Q : Option Value → ax_H → Prop} (x1 : Int32) (x2 : Int32) (s : sx_M) (gb : ax_H) {p : Int64 × sx_M} (hf : f_X11_least x1 x2 s = some p) (hq : Q (some (.long p.1)) (hp p.2 gb)) : AM l X yX11_least cX11_least 5 (some .long) 3 0 0 [.ref 0, .int x1, .int x2] (hp s gb) Q := by
  refine aw_met (own := RX11) (nm := "least") (L := [some (.ref 0), some (.int x1), some (.int x2), none, none]) (by decide +kernel) rfl rfl (And.intro rfl (And.intro rfl (And.intro rfl trivial))) (Nat.le_of_ble_eq_true rfl) ?_
  unfold f_X11_least at hf
  refine aw_aload_n dX11_least_0 rfl rfl ?_
  refine aw_gR dX11_least_1 fl_X11_21 sh_0 rfl ?_
  refine aw_iload_n dX11_least_4 rfl rfl ?_
  refine aw_iload_n dX11_least_5 rfl rfl ?_
  obtain ⟨p1, hp1, hf⟩ := ax_bind hf
  refine aw_cVi (As := [.int x1, .int x2]) (st := []) dX11_least_6 cl_X11_343 iv_X1_hasLine (k_X1_hasLine (Q := (fun v h' => v = some (.int p1.1) ∧ h' = hp p1.2 gb)) 3 x1 x2 s gb ax_G3 hp1 ⟨rfl, rfl⟩) (ci := 1) rfl (hp_get sh_3) rfl rfl rfl (Nat.le_of_ble_eq_true rfl) rfl (by decide) (by decide) ?_
  refine aw_if_ne (tgt := 16) dX11_least_9 (by decide) (fun hc2 => ?_) (fun hc2 => ?_)
  · have hf := ax_neg hc2 hf
    refine aw_aload_n dX11_least_16 rfl rfl ?_
    refine aw_gR dX11_least_17 fl_X11_21 sh_0 rfl ?_
    refine aw_iload_n dX11_least_20 rfl rfl ?_
    refine aw_iload_n dX11_least_21 rfl rfl ?_
    obtain ⟨p2, hp2, hf⟩ := ax_bind hf
    refine aw_cVl (As := [.int x1, .int x2]) (st := []) dX11_least_22 cl_X11_207 iv_X1_leastOf (k_X1_leastOf (Q := (fun v h' => v = some (.long p2.1) ∧ h' = hp p2.2 gb)) 3 x1 x2 p1.2 gb ax_G3 hp2 ⟨rfl, rfl⟩) (ci := 1) rfl (hp_get sh_3) rfl rfl rfl (Nat.le_of_ble_eq_true rfl) rfl (by decide) (by decide) ?_
    refine aw_lstore_n (L' := [some (.ref 0), some (.int x1), some (.int x2), some (.long p2.1), none]) dX11_least_25 rfl (by decide) rfl ?_
    refine aw_lload_n dX11_least_26 rfl rfl ?_
    refine aw_ldc2 dX11_least_27 kc_X11_242 ?_
    refine aw_lcmp_ne (tgt := 40) dX11_least_30 dX11_least_31 (by decide) (fun hc1 => ?_) (fun hc1 => ?_)
    · have hf := ax_neg hc1 hf
      refine aw_lload_n dX11_least_40 rfl rfl ?_
      cases hf
      exact aw_lret dX11_least_41 hq (Nat.le_refl _) (Nat.le_refl _)
    · have hf := ax_pos hc1 hf
      refine aw_ldc2 dX11_least_34 kc_X11_170 ?_
      refine aw_goto (tgt := 41) dX11_least_37 (by decide) ?_
      cases hf
      exact aw_lret dX11_least_41 hq (Nat.le_refl _) (Nat.le_refl _)
  · have hf := ax_pos hc2 hf
    refine aw_ldc2 dX11_least_12 kc_X11_170 ?_
    cases hf
    exact aw_lret dX11_least_15 hq (Nat.le_refl _) (Nat.le_refl _)
noncomputable def f_X11_reduced (x1 : Int32) (x2 : Int32) (s : sx_M) : Option (Int64 × sx_M) :=
  (f_X1_has 3 x1 x2 s).bind (fun p1 =>
 (if p1.1 = 0 then
 some ((-9223372036854775808 : Int64), p1.2)
else
 (f_X1_reducedAt 3 x1 x2 p1.2).bind (fun p2 =>
 some (p2.1, p2.2))))
set_option maxRecDepth 100000 in
set_option maxHeartbeats 4000000 in
theorem k_X11_reduced {l : Launch} {X : ax_X} {Q : Option Value → ax_H → Prop} (x1 : Int32) (x2 : Int32) (s : sx_M) (gb : ax_H) {p : Int64 × sx_M} (hf : f_X11_reduced x1 x2 s = some p) (hq : Q (some (.long p.1)) (hp p.2 gb)) : AM l X yX11_reduced cX11_reduced 3 (some .long) 5 0 0 [.ref 0, .int x1, .int x2] (hp s gb) Q := by
  refine aw_met (own := RX11) (nm := "reduced") (L := [some (.ref 0), some (.int x1), some (.int x2)]) (by decide +kernel) rfl rfl (And.intro rfl (And.intro rfl (And.intro rfl trivial))) (Nat.le_of_ble_eq_true rfl) ?_
  unfold f_X11_reduced at hf
  refine aw_aload_n dX11_reduced_0 rfl rfl ?_
  refine aw_gR dX11_reduced_1 fl_X11_21 sh_0 rfl ?_
  refine aw_iload_n dX11_reduced_4 rfl rfl ?_
  refine aw_iload_n dX11_reduced_5 rfl rfl ?_
  obtain ⟨p1, hp1, hf⟩ := ax_bind hf
  refine aw_cVi (As := [.int x1, .int x2]) (st := []) dX11_reduced_6 cl_X11_162 iv_X1_has (k_X1_has (Q := (fun v h' => v = some (.int p1.1) ∧ h' = hp p1.2 gb)) 3 x1 x2 s gb ax_G3 hp1 ⟨rfl, rfl⟩) (ci := 1) rfl (hp_get sh_3) rfl rfl rfl (Nat.le_of_ble_eq_true rfl) rfl (by decide) (by decide) ?_
  refine aw_if_eq (tgt := 24) dX11_reduced_9 (by decide) (fun hc1 => ?_) (fun hc1 => ?_)
  · have hf := ax_pos hc1 hf
    refine aw_ldc2 dX11_reduced_24 kc_X11_170 ?_
    cases hf
    exact aw_lret dX11_reduced_27 hq (Nat.le_refl _) (Nat.le_refl _)
  · have hf := ax_neg hc1 hf
    refine aw_aload_n dX11_reduced_12 rfl rfl ?_
    refine aw_gR dX11_reduced_13 fl_X11_21 sh_0 rfl ?_
    refine aw_iload_n dX11_reduced_16 rfl rfl ?_
    refine aw_iload_n dX11_reduced_17 rfl rfl ?_
    obtain ⟨p2, hp2, hf⟩ := ax_bind hf
    refine aw_cVl (As := [.int x1, .int x2]) (st := []) dX11_reduced_18 cl_X11_346 iv_X1_reducedAt (k_X1_reducedAt (Q := (fun v h' => v = some (.long p2.1) ∧ h' = hp p2.2 gb)) 3 x1 x2 p1.2 gb ax_G3 hp2 ⟨rfl, rfl⟩) (ci := 1) rfl (hp_get sh_3) rfl rfl rfl (Nat.le_of_ble_eq_true rfl) rfl (by decide) (by decide) ?_
    refine aw_goto (tgt := 27) dX11_reduced_21 (by decide) ?_
    cases hf
    exact aw_lret dX11_reduced_27 hq (Nat.le_refl _) (Nat.le_refl _)
noncomputable def f_X11_noughts_L17 (z2 : Int32) (a17 : Int32 × Int32 × sx_M) : Option ((Int32 × Int32 × sx_M) ⊕ (Int32 × sx_M)) :=
  (if (rI a17.2.2 3 2) ≤ a17.2.1 then
 some (.inr (a17.1, a17.2.2))
else
 (f_X1_reducedAt 3 z2 a17.2.1 a17.2.2).bind (fun p1 =>
 (if p1.1 = (0 : Int64) then
 some (.inl ((a17.1 + (1 : Int32)), (a17.2.1 + (1 : Int32)), p1.2))
else
 some (.inl (a17.1, (a17.2.1 + (1 : Int32)), p1.2)))))
noncomputable def f_X11_noughts_L4 (a4 : Int32 × Int32 × sx_M) : Option ((Int32 × Int32 × sx_M) ⊕ (Int32 × sx_M)) :=
  (if (rI a4.2.2 3 1) ≤ a4.2.1 then
 some (.inr (a4.1, a4.2.2))
else
 (whT (f_X11_noughts_L17 a4.2.1) (a4.1, (0 : Int32), a4.2.2)).bind (fun b2 =>
 some (.inl (b2.1, (a4.2.1 + (1 : Int32)), b2.2))))
noncomputable def f_X11_noughts (s : sx_M) : Option (Int32 × sx_M) :=
  (whT (f_X11_noughts_L4) ((0 : Int32), (0 : Int32), s)).bind (fun b3 =>
 some (b3.1, b3.2))
set_option maxRecDepth 100000 in
set_option maxHeartbeats 4000000 in
theorem k_X11_noughts {l : Launch} {X : ax_X} {Q : Option Value → ax_H → Prop} (s : sx_M) (gb : ax_H) {p : Int32 × sx_M} (hf : f_X11_noughts s = some p) (hq : Q (some (.int p.1)) (hp p.2 gb)) : AM l X yX11_noughts cX11_noughts 4 (some .int) 5 0 0 [.ref 0] (hp s gb) Q := by
  refine aw_met (own := RX11) (nm := "noughts") (L := [some (.ref 0), none, none, none]) (by decide +kernel) rfl rfl (And.intro rfl trivial) (Nat.le_of_ble_eq_true rfl) ?_
  unfold f_X11_noughts at hf
  refine aw_iconst (v := 0) dX11_noughts_0 (by decide) ?_
  refine aw_istore_n (L' := [some (.ref 0), some (.int (0 : Int32)), none, none]) dX11_noughts_1 rfl (by decide) rfl ?_
  refine aw_iconst (v := 0) dX11_noughts_2 (by decide) ?_
  refine aw_istore_n (L' := [some (.ref 0), some (.int (0 : Int32)), some (.int (0 : Int32)), none]) dX11_noughts_3 rfl (by decide) rfl ?_
  obtain ⟨b3, hb3, hf⟩ := ax_bind hf
  refine wh_go ((0 : Int32), (0 : Int32), s) (fun a4 : Int32 × Int32 × sx_M => AW l X RX11 "noughts" cX11_noughts 4 (some .int) (ax_rm 5 0 0) (ax_MQ X Q 0 0) 0 0 4 [some (.ref 0), some (.int a4.1), some (.int a4.2.1), none] [] (hp a4.2.2 gb)) (fun e : Int32 × sx_M => AW l X RX11 "noughts" cX11_noughts 4 (some .int) (ax_rm 5 0 0) (ax_MQ X Q 0 0) 0 0 57 [none, some (.int e.1), none, none] [] (hp e.2 gb)) hb3 ?_ ?_
  · intro a4 r hf hK
    unfold f_X11_noughts_L4 at hf
    refine aw_iload_n dX11_noughts_4 rfl rfl ?_
    refine aw_aload_n dX11_noughts_5 rfl rfl ?_
    refine aw_gR dX11_noughts_6 fl_X11_21 sh_0 rfl ?_
    refine aw_gI dX11_noughts_9 fl_X11_140 sh_3 rfl ?_
    refine aw_icmp_ge (tgt := 57) dX11_noughts_12 (by decide) (fun hc3 => ?_) (fun hc3 => ?_)
    · have hf := ax_pos hc3 hf
      refine aw_less (L' := [none, some (.int a4.1), none, none]) (And.intro rfl trivial) ?_
      cases hf
      exact hK
    · have hf := ax_neg hc3 hf
      refine aw_iconst (v := 0) dX11_noughts_15 (by decide) ?_
      refine aw_istore_n (L' := [some (.ref 0), some (.int a4.1), some (.int a4.2.1), some (.int (0 : Int32))]) dX11_noughts_16 rfl (by decide) rfl ?_
      obtain ⟨b2, hb2, hf⟩ := ax_bind hf
      refine wh_go (a4.1, (0 : Int32), a4.2.2) (fun a17 : Int32 × Int32 × sx_M => AW l X RX11 "noughts" cX11_noughts 4 (some .int) (ax_rm 5 0 0) (ax_MQ X Q 0 0) 0 0 17 [some (.ref 0), some (.int a17.1), some (.int a4.2.1), some (.int a17.2.1)] [] (hp a17.2.2 gb)) (fun e : Int32 × sx_M => AW l X RX11 "noughts" cX11_noughts 4 (some .int) (ax_rm 5 0 0) (ax_MQ X Q 0 0) 0 0 51 [some (.ref 0), some (.int e.1), some (.int a4.2.1), none] [] (hp e.2 gb)) hb2 ?_ ?_
      · intro a17 r hf hK
        unfold f_X11_noughts_L17 at hf
        refine aw_iload_n dX11_noughts_17 rfl rfl ?_
        refine aw_aload_n dX11_noughts_18 rfl rfl ?_
        refine aw_gR dX11_noughts_19 fl_X11_21 sh_0 rfl ?_
        refine aw_gI dX11_noughts_22 fl_X11_149 sh_3 rfl ?_
        refine aw_icmp_ge (tgt := 51) dX11_noughts_25 (by decide) (fun hc2 => ?_) (fun hc2 => ?_)
        · have hf := ax_pos hc2 hf
          refine aw_less (L' := [some (.ref 0), some (.int a17.1), some (.int a4.2.1), none]) (And.intro rfl (And.intro rfl (And.intro rfl trivial))) ?_
          cases hf
          exact hK
        · have hf := ax_neg hc2 hf
          refine aw_aload_n dX11_noughts_28 rfl rfl ?_
          refine aw_gR dX11_noughts_29 fl_X11_21 sh_0 rfl ?_
          refine aw_iload_n dX11_noughts_32 rfl rfl ?_
          refine aw_iload_n dX11_noughts_33 rfl rfl ?_
          obtain ⟨p1, hp1, hf⟩ := ax_bind hf
          refine aw_cVl (As := [.int a4.2.1, .int a17.2.1]) (st := []) dX11_noughts_34 cl_X11_346 iv_X1_reducedAt (k_X1_reducedAt (Q := (fun v h' => v = some (.long p1.1) ∧ h' = hp p1.2 gb)) 3 a4.2.1 a17.2.1 a17.2.2 gb ax_G3 hp1 ⟨rfl, rfl⟩) (ci := 1) rfl (hp_get sh_3) rfl rfl rfl (Nat.le_of_ble_eq_true rfl) rfl (by decide) (by decide) ?_
          refine aw_lconst (v := 0) dX11_noughts_37 (by decide) ?_
          refine aw_lcmp_ne (tgt := 45) dX11_noughts_38 dX11_noughts_39 (by decide) (fun hc1 => ?_) (fun hc1 => ?_)
          · have hf := ax_neg hc1 hf
            refine aw_iinc (v := (a17.2.1 + (1 : Int32))) (L' := [some (.ref 0), some (.int a17.1), some (.int a4.2.1), some (.int (a17.2.1 + (1 : Int32)))]) dX11_noughts_45 rfl rfl (by decide) rfl ?_
            refine aw_goto (tgt := 17) dX11_noughts_48 (by decide) ?_
            cases hf
            exact hK
          · have hf := ax_pos hc1 hf
            refine aw_iinc (v := (a17.1 + (1 : Int32))) (L' := [some (.ref 0), some (.int (a17.1 + (1 : Int32))), some (.int a4.2.1), some (.int a17.2.1)]) dX11_noughts_42 rfl rfl (by decide) rfl ?_
            refine aw_iinc (v := (a17.2.1 + (1 : Int32))) (L' := [some (.ref 0), some (.int (a17.1 + (1 : Int32))), some (.int a4.2.1), some (.int (a17.2.1 + (1 : Int32)))]) dX11_noughts_45 rfl rfl (by decide) rfl ?_
            refine aw_goto (tgt := 17) dX11_noughts_48 (by decide) ?_
            cases hf
            exact hK
      · refine aw_iinc (v := (a4.2.1 + (1 : Int32))) (L' := [some (.ref 0), some (.int b2.1), some (.int (a4.2.1 + (1 : Int32))), none]) dX11_noughts_51 rfl rfl (by decide) rfl ?_
        refine aw_goto (tgt := 4) dX11_noughts_54 (by decide) ?_
        cases hf
        exact hK
  · refine aw_iload_n dX11_noughts_57 rfl rfl ?_
    cases hf
    exact aw_iret dX11_noughts_58 hq (Nat.le_refl _) (Nat.le_refl _)
noncomputable def f_X11_changeCost (x1 : Int32) (x2 : Int32) (x3 : Int64) (s : sx_M) : Option (Int32 × sx_M) :=
  (f_X1_at 3 x1 x2 s).bind (fun p1 =>
 (if p1.1 = x3 then
 some ((0 : Int32), p1.2)
else
 (f_X2_keep p1.2).bind (fun p2 =>
 (f_X1_put 3 x1 x2 x3 p2).bind (fun p3 =>
 (f_X11_changed p3).bind (fun p4 =>
 some ((1 : Int32), p4))))))
set_option maxRecDepth 100000 in
set_option maxHeartbeats 4000000 in
theorem k_X11_changeCost {l : Launch} {X : ax_X} {Q : Option Value → ax_H → Prop} (x1 : Int32) (x2 : Int32) (x3 : Int64) (s : sx_M) (gb : ax_H) {p : Int32 × sx_M} (hf : f_X11_changeCost x1 x2 x3 s = some p) (hq : Q (some (.int p.1)) (hp p.2 gb)) : AM l X yX11_changeCost cX11_changeCost 5 (some .int) 4 0 0 [.ref 0, .int x1, .int x2, .long x3] (hp s gb) Q := by
  refine aw_met (own := RX11) (nm := "changeCost") (L := [some (.ref 0), some (.int x1), some (.int x2), some (.long x3), none]) (by decide +kernel) rfl rfl (And.intro rfl (And.intro rfl (And.intro rfl (And.intro rfl trivial)))) (Nat.le_of_ble_eq_true rfl) ?_
  unfold f_X11_changeCost at hf
  refine aw_aload_n dX11_changeCost_0 rfl rfl ?_
  refine aw_gR dX11_changeCost_1 fl_X11_21 sh_0 rfl ?_
  refine aw_iload_n dX11_changeCost_4 rfl rfl ?_
  refine aw_iload_n dX11_changeCost_5 rfl rfl ?_
  obtain ⟨p1, hp1, hf⟩ := ax_bind hf
  refine aw_cVl (As := [.int x1, .int x2]) (st := []) dX11_changeCost_6 cl_X11_166 iv_X1_at (k_X1_at (Q := (fun v h' => v = some (.long p1.1) ∧ h' = hp p1.2 gb)) 3 x1 x2 s gb ax_G3 hp1 ⟨rfl, rfl⟩) (ci := 1) rfl (hp_get sh_3) rfl rfl rfl (Nat.le_of_ble_eq_true rfl) rfl (by decide) (by decide) ?_
  refine aw_lload_n dX11_changeCost_9 rfl rfl ?_
  refine aw_lcmp_ne (tgt := 16) dX11_changeCost_10 dX11_changeCost_11 (by decide) (fun hc1 => ?_) (fun hc1 => ?_)
  · have hf := ax_neg hc1 hf
    refine aw_aload_n dX11_changeCost_16 rfl rfl ?_
    refine aw_gR dX11_changeCost_17 fl_X11_61 sh_0 rfl ?_
    refine aw_aload_n dX11_changeCost_20 rfl rfl ?_
    refine aw_gR dX11_changeCost_21 fl_X11_21 sh_0 rfl ?_
    obtain ⟨p2, hp2, hf⟩ := ax_bind hf
    refine aw_cVv (As := [.ref 3]) (st := []) dX11_changeCost_24 cl_X11_361 iv_X2_keep (k_X2_keep (Q := (fun v h' => v = none ∧ h' = hp p2 gb)) p1.2 gb hp2 ⟨rfl, rfl⟩) (ci := 2) rfl (hp_get sh_20) rfl rfl rfl (Nat.le_of_ble_eq_true rfl) rfl (by decide) (by decide) ?_
    refine aw_aload_n dX11_changeCost_27 rfl rfl ?_
    refine aw_gR dX11_changeCost_28 fl_X11_21 sh_0 rfl ?_
    refine aw_iload_n dX11_changeCost_31 rfl rfl ?_
    refine aw_iload_n dX11_changeCost_32 rfl rfl ?_
    refine aw_lload_n dX11_changeCost_33 rfl rfl ?_
    obtain ⟨p3, hp3, hf⟩ := ax_bind hf
    refine aw_cVv (As := [.int x1, .int x2, .long x3]) (st := []) dX11_changeCost_34 cl_X11_401 iv_X1_put (k_X1_put (Q := (fun v h' => v = none ∧ h' = hp p3 gb)) 3 x1 x2 x3 p2 gb ax_G3 hp3 ⟨rfl, rfl⟩) (ci := 1) rfl (hp_get sh_3) rfl rfl rfl (Nat.le_of_ble_eq_true rfl) rfl (by decide) (by decide) ?_
    refine aw_aload_n dX11_changeCost_37 rfl rfl ?_
    obtain ⟨p4, hp4, hf⟩ := ax_bind hf
    refine aw_cVv (As := []) (st := []) dX11_changeCost_38 cl_X11_137 iv_X11_changed (k_X11_changed (Q := (fun v h' => v = none ∧ h' = hp p4 gb)) p3 gb hp4 ⟨rfl, rfl⟩) (ci := 11) rfl (hp_get sh_0) rfl rfl rfl (Nat.le_of_ble_eq_true rfl) rfl (by decide) (by decide) ?_
    refine aw_iconst (v := 1) dX11_changeCost_41 (by decide) ?_
    cases hf
    exact aw_iret dX11_changeCost_42 hq (Nat.le_refl _) (Nat.le_refl _)
  · have hf := ax_pos hc1 hf
    refine aw_iconst (v := 0) dX11_changeCost_14 (by decide) ?_
    cases hf
    exact aw_iret dX11_changeCost_15 hq (Nat.le_refl _) (Nat.le_refl _)
noncomputable def f_X11_sets (x1 : Int32) (x2 : Int32) (x3 : Int32) (s : sx_M) : Option (Int32 × sx_M) :=
  (f_X1_has 3 x1 x2 s).bind (fun p1 =>
 (if p1.1 = 0 then
 some ((-2 : Int32), p1.2)
else
 (f_X11_isCost ((x3).toInt64) p1.2).bind (fun p2 =>
 (if p2.1 = 0 then
 some ((-2 : Int32), p2.2)
else
 (f_X11_changeCost x1 x2 ((x3).toInt64) p2.2).bind (fun p3 =>
 some (p3.1, p3.2))))))
set_option maxRecDepth 100000 in
set_option maxHeartbeats 4000000 in
theorem k_X11_sets {l : Launch} {X : ax_X} {Q : Option Value → ax_H → Prop} (x1 : Int32) (x2 : Int32) (x3 : Int32) (s : sx_M) (gb : ax_H) {p : Int32 × sx_M} (hf : f_X11_sets x1 x2 x3 s = some p) (hq : Q (some (.int p.1)) (hp p.2 gb)) : AM l X yX11_sets cX11_sets 4 (some .int) 5 0 0 [.ref 0, .int x1, .int x2, .int x3] (hp s gb) Q := by
  refine aw_met (own := RX11) (nm := "sets") (L := [some (.ref 0), some (.int x1), some (.int x2), some (.int x3)]) (by decide +kernel) rfl rfl (And.intro rfl (And.intro rfl (And.intro rfl (And.intro rfl trivial)))) (Nat.le_of_ble_eq_true rfl) ?_
  unfold f_X11_sets at hf
  refine aw_aload_n dX11_sets_0 rfl rfl ?_
  refine aw_gR dX11_sets_1 fl_X11_21 sh_0 rfl ?_
  refine aw_iload_n dX11_sets_4 rfl rfl ?_
  refine aw_iload_n dX11_sets_5 rfl rfl ?_
  obtain ⟨p1, hp1, hf⟩ := ax_bind hf
  refine aw_cVi (As := [.int x1, .int x2]) (st := []) dX11_sets_6 cl_X11_162 iv_X1_has (k_X1_has (Q := (fun v h' => v = some (.int p1.1) ∧ h' = hp p1.2 gb)) 3 x1 x2 s gb ax_G3 hp1 ⟨rfl, rfl⟩) (ci := 1) rfl (hp_get sh_3) rfl rfl rfl (Nat.le_of_ble_eq_true rfl) rfl (by decide) (by decide) ?_
  refine aw_if_eq (tgt := 20) dX11_sets_9 (by decide) (fun hc2 => ?_) (fun hc2 => ?_)
  · have hf := ax_pos hc2 hf
    refine aw_bipush (v := -2) dX11_sets_20 (by decide) ?_
    cases hf
    exact aw_iret dX11_sets_22 hq (Nat.le_refl _) (Nat.le_refl _)
  · have hf := ax_neg hc2 hf
    refine aw_iload_n dX11_sets_12 rfl rfl ?_
    refine aw_i2l dX11_sets_13 ?_
    obtain ⟨p2, hp2, hf⟩ := ax_bind hf
    refine aw_cSi (As := [.long ((x3).toInt64)]) (st := []) dX11_sets_14 cl_X11_258 st_X11_isCost (k_X11_isCost (Q := (fun v h' => v = some (.int p2.1) ∧ h' = hp p2.2 gb)) ((x3).toInt64) p1.2 gb hp2 ⟨rfl, rfl⟩) rfl rfl (Nat.le_of_ble_eq_true rfl) rfl (by decide) (by decide) ?_
    refine aw_if_ne (tgt := 23) dX11_sets_17 (by decide) (fun hc1 => ?_) (fun hc1 => ?_)
    · have hf := ax_neg hc1 hf
      refine aw_aload_n dX11_sets_23 rfl rfl ?_
      refine aw_iload_n dX11_sets_24 rfl rfl ?_
      refine aw_iload_n dX11_sets_25 rfl rfl ?_
      refine aw_iload_n dX11_sets_26 rfl rfl ?_
      refine aw_i2l dX11_sets_27 ?_
      obtain ⟨p3, hp3, hf⟩ := ax_bind hf
      refine aw_cVi (As := [.int x1, .int x2, .long ((x3).toInt64)]) (st := []) dX11_sets_28 cl_X11_349 iv_X11_changeCost (k_X11_changeCost (Q := (fun v h' => v = some (.int p3.1) ∧ h' = hp p3.2 gb)) x1 x2 ((x3).toInt64) p2.2 gb hp3 ⟨rfl, rfl⟩) (ci := 11) rfl (hp_get sh_0) rfl rfl rfl (Nat.le_of_ble_eq_true rfl) rfl (by decide) (by decide) ?_
      cases hf
      exact aw_iret dX11_sets_31 hq (Nat.le_refl _) (Nat.le_refl _)
    · have hf := ax_pos hc1 hf
      refine aw_bipush (v := -2) dX11_sets_20 (by decide) ?_
      cases hf
      exact aw_iret dX11_sets_22 hq (Nat.le_refl _) (Nat.le_refl _)
noncomputable def f_X11_bars (x1 : Int32) (x2 : Int32) (s : sx_M) : Option (Int32 × sx_M) :=
  (f_X1_has 3 x1 x2 s).bind (fun p1 =>
 (if p1.1 = 0 then
 some ((-2 : Int32), p1.2)
else
 (f_X11_changeCost x1 x2 (9223372036854775807 : Int64) p1.2).bind (fun p2 =>
 some (p2.1, p2.2))))
set_option maxRecDepth 100000 in
set_option maxHeartbeats 4000000 in
theorem k_X11_bars {l : Launch} {X : ax_X} {Q : Option Value → ax_H → Prop} (x1 : Int32) (x2 : Int32) (s : sx_M) (gb : ax_H) {p : Int32 × sx_M} (hf : f_X11_bars x1 x2 s = some p) (hq : Q (some (.int p.1)) (hp p.2 gb)) : AM l X yX11_bars cX11_bars 3 (some .int) 5 0 0 [.ref 0, .int x1, .int x2] (hp s gb) Q := by
  refine aw_met (own := RX11) (nm := "bars") (L := [some (.ref 0), some (.int x1), some (.int x2)]) (by decide +kernel) rfl rfl (And.intro rfl (And.intro rfl (And.intro rfl trivial))) (Nat.le_of_ble_eq_true rfl) ?_
  unfold f_X11_bars at hf
  refine aw_aload_n dX11_bars_0 rfl rfl ?_
  refine aw_gR dX11_bars_1 fl_X11_21 sh_0 rfl ?_
  refine aw_iload_n dX11_bars_4 rfl rfl ?_
  refine aw_iload_n dX11_bars_5 rfl rfl ?_
  obtain ⟨p1, hp1, hf⟩ := ax_bind hf
  refine aw_cVi (As := [.int x1, .int x2]) (st := []) dX11_bars_6 cl_X11_162 iv_X1_has (k_X1_has (Q := (fun v h' => v = some (.int p1.1) ∧ h' = hp p1.2 gb)) 3 x1 x2 s gb ax_G3 hp1 ⟨rfl, rfl⟩) (ci := 1) rfl (hp_get sh_3) rfl rfl rfl (Nat.le_of_ble_eq_true rfl) rfl (by decide) (by decide) ?_
  refine aw_if_eq (tgt := 24) dX11_bars_9 (by decide) (fun hc1 => ?_) (fun hc1 => ?_)
  · have hf := ax_pos hc1 hf
    refine aw_bipush (v := -2) dX11_bars_24 (by decide) ?_
    cases hf
    exact aw_iret dX11_bars_26 hq (Nat.le_refl _) (Nat.le_refl _)
  · have hf := ax_neg hc1 hf
    refine aw_aload_n dX11_bars_12 rfl rfl ?_
    refine aw_iload_n dX11_bars_13 rfl rfl ?_
    refine aw_iload_n dX11_bars_14 rfl rfl ?_
    refine aw_ldc2 dX11_bars_15 kc_X11_242 ?_
    obtain ⟨p2, hp2, hf⟩ := ax_bind hf
    refine aw_cVi (As := [.int x1, .int x2, .long (9223372036854775807 : Int64)]) (st := []) dX11_bars_18 cl_X11_349 iv_X11_changeCost (k_X11_changeCost (Q := (fun v h' => v = some (.int p2.1) ∧ h' = hp p2.2 gb)) x1 x2 (9223372036854775807 : Int64) p1.2 gb hp2 ⟨rfl, rfl⟩) (ci := 11) rfl (hp_get sh_0) rfl rfl rfl (Nat.le_of_ble_eq_true rfl) rfl (by decide) (by decide) ?_
    refine aw_goto (tgt := 26) dX11_bars_21 (by decide) ?_
    cases hf
    exact aw_iret dX11_bars_26 hq (Nat.le_refl _) (Nat.le_refl _)
noncomputable def f_X11_tilts (x1 : Int32) (x2 : Int32) (x3 : Int32) (s : sx_M) : Option (Int32 × sx_M) :=
  (f_X1_hasLine 3 x1 x3 s).bind (fun p1 =>
 (if p1.1 = 0 then
 some ((-2 : Int32), p1.2)
else
 (f_X1_bearsTilt 3 x1 ((x2).toInt64) x3 p1.2).bind (fun p2 =>
 (if p2.1 = 0 then
 some ((-5 : Int32), p2.2)
else
 (f_X1_openIn 3 x1 x3 p2.2).bind (fun p3 =>
 (if p3.1 ≤ 0 then
 some (p3.1, p3.2)
else
 (if x2 = 0 then
 some (p3.1, p3.2)
else
 (f_X2_keep p3.2).bind (fun p4 =>
 (f_X1_tilt 3 x1 ((x2).toInt64) x3 p4).bind (fun p5 =>
 (f_X11_changed p5).bind (fun p6 =>
 some (p3.1, p6)))))))))))
set_option maxRecDepth 100000 in
set_option maxHeartbeats 4000000 in
theorem k_X11_tilts {l : Launch} {X : ax_X} {Q : Option Value → ax_H → Prop} (x1 : Int32) (x2 : Int32) (x3 : Int32) (s : sx_M) (gb : ax_H) {p : Int32 × sx_M} (hf : f_X11_tilts x1 x2 x3 s = some p) (hq : Q (some (.int p.1)) (hp p.2 gb)) : AM l X yX11_tilts cX11_tilts 5 (some .int) 4 0 0 [.ref 0, .int x1, .int x2, .int x3] (hp s gb) Q := by
  refine aw_met (own := RX11) (nm := "tilts") (L := [some (.ref 0), some (.int x1), some (.int x2), some (.int x3), none]) (by decide +kernel) rfl rfl (And.intro rfl (And.intro rfl (And.intro rfl (And.intro rfl trivial)))) (Nat.le_of_ble_eq_true rfl) ?_
  unfold f_X11_tilts at hf
  refine aw_aload_n dX11_tilts_0 rfl rfl ?_
  refine aw_gR dX11_tilts_1 fl_X11_21 sh_0 rfl ?_
  refine aw_iload_n dX11_tilts_4 rfl rfl ?_
  refine aw_iload_n dX11_tilts_5 rfl rfl ?_
  obtain ⟨p1, hp1, hf⟩ := ax_bind hf
  refine aw_cVi (As := [.int x1, .int x3]) (st := []) dX11_tilts_6 cl_X11_343 iv_X1_hasLine (k_X1_hasLine (Q := (fun v h' => v = some (.int p1.1) ∧ h' = hp p1.2 gb)) 3 x1 x3 s gb ax_G3 hp1 ⟨rfl, rfl⟩) (ci := 1) rfl (hp_get sh_3) rfl rfl rfl (Nat.le_of_ble_eq_true rfl) rfl (by decide) (by decide) ?_
  refine aw_if_ne (tgt := 15) dX11_tilts_9 (by decide) (fun hc4 => ?_) (fun hc4 => ?_)
  · have hf := ax_neg hc4 hf
    refine aw_aload_n dX11_tilts_15 rfl rfl ?_
    refine aw_gR dX11_tilts_16 fl_X11_21 sh_0 rfl ?_
    refine aw_iload_n dX11_tilts_19 rfl rfl ?_
    refine aw_iload_n dX11_tilts_20 rfl rfl ?_
    refine aw_i2l dX11_tilts_21 ?_
    refine aw_iload_n dX11_tilts_22 rfl rfl ?_
    obtain ⟨p2, hp2, hf⟩ := ax_bind hf
    refine aw_cVi (As := [.int x1, .long ((x2).toInt64), .int x3]) (st := []) dX11_tilts_23 cl_X11_353 iv_X1_bearsTilt (k_X1_bearsTilt (Q := (fun v h' => v = some (.int p2.1) ∧ h' = hp p2.2 gb)) 3 x1 ((x2).toInt64) x3 p1.2 gb ax_G3 hp2 ⟨rfl, rfl⟩) (ci := 1) rfl (hp_get sh_3) rfl rfl rfl (Nat.le_of_ble_eq_true rfl) rfl (by decide) (by decide) ?_
    refine aw_if_ne (tgt := 32) dX11_tilts_26 (by decide) (fun hc3 => ?_) (fun hc3 => ?_)
    · have hf := ax_neg hc3 hf
      refine aw_aload_n dX11_tilts_32 rfl rfl ?_
      refine aw_gR dX11_tilts_33 fl_X11_21 sh_0 rfl ?_
      refine aw_iload_n dX11_tilts_36 rfl rfl ?_
      refine aw_iload_n dX11_tilts_37 rfl rfl ?_
      obtain ⟨p3, hp3, hf⟩ := ax_bind hf
      refine aw_cVi (As := [.int x1, .int x3]) (st := []) dX11_tilts_38 cl_X11_357 iv_X1_openIn (k_X1_openIn (Q := (fun v h' => v = some (.int p3.1) ∧ h' = hp p3.2 gb)) 3 x1 x3 p2.2 gb ax_G3 hp3 ⟨rfl, rfl⟩) (ci := 1) rfl (hp_get sh_3) rfl rfl rfl (Nat.le_of_ble_eq_true rfl) rfl (by decide) (by decide) ?_
      refine aw_istore (L' := [some (.ref 0), some (.int x1), some (.int x2), some (.int x3), some (.int p3.1)]) dX11_tilts_41 (by decide) rfl ?_
      refine aw_iload dX11_tilts_43 rfl ?_
      refine aw_if_le (tgt := 78) dX11_tilts_45 (by decide) (fun hc2 => ?_) (fun hc2 => ?_)
      · have hf := ax_pos hc2 hf
        refine aw_iload dX11_tilts_78 rfl ?_
        cases hf
        exact aw_iret dX11_tilts_80 hq (Nat.le_refl _) (Nat.le_refl _)
      · have hf := ax_neg hc2 hf
        refine aw_iload_n dX11_tilts_48 rfl rfl ?_
        refine aw_if_eq (tgt := 78) dX11_tilts_49 (by decide) (fun hc1 => ?_) (fun hc1 => ?_)
        · have hf := ax_pos hc1 hf
          refine aw_iload dX11_tilts_78 rfl ?_
          cases hf
          exact aw_iret dX11_tilts_80 hq (Nat.le_refl _) (Nat.le_refl _)
        · have hf := ax_neg hc1 hf
          refine aw_aload_n dX11_tilts_52 rfl rfl ?_
          refine aw_gR dX11_tilts_53 fl_X11_61 sh_0 rfl ?_
          refine aw_aload_n dX11_tilts_56 rfl rfl ?_
          refine aw_gR dX11_tilts_57 fl_X11_21 sh_0 rfl ?_
          obtain ⟨p4, hp4, hf⟩ := ax_bind hf
          refine aw_cVv (As := [.ref 3]) (st := []) dX11_tilts_60 cl_X11_361 iv_X2_keep (k_X2_keep (Q := (fun v h' => v = none ∧ h' = hp p4 gb)) p3.2 gb hp4 ⟨rfl, rfl⟩) (ci := 2) rfl (hp_get sh_20) rfl rfl rfl (Nat.le_of_ble_eq_true rfl) rfl (by decide) (by decide) ?_
          refine aw_aload_n dX11_tilts_63 rfl rfl ?_
          refine aw_gR dX11_tilts_64 fl_X11_21 sh_0 rfl ?_
          refine aw_iload_n dX11_tilts_67 rfl rfl ?_
          refine aw_iload_n dX11_tilts_68 rfl rfl ?_
          refine aw_i2l dX11_tilts_69 ?_
          refine aw_iload_n dX11_tilts_70 rfl rfl ?_
          obtain ⟨p5, hp5, hf⟩ := ax_bind hf
          refine aw_cVv (As := [.int x1, .long ((x2).toInt64), .int x3]) (st := []) dX11_tilts_71 cl_X11_364 iv_X1_tilt (k_X1_tilt (Q := (fun v h' => v = none ∧ h' = hp p5 gb)) 3 x1 ((x2).toInt64) x3 p4 gb ax_G3 hp5 ⟨rfl, rfl⟩) (ci := 1) rfl (hp_get sh_3) rfl rfl rfl (Nat.le_of_ble_eq_true rfl) rfl (by decide) (by decide) ?_
          refine aw_aload_n dX11_tilts_74 rfl rfl ?_
          obtain ⟨p6, hp6, hf⟩ := ax_bind hf
          refine aw_cVv (As := []) (st := []) dX11_tilts_75 cl_X11_137 iv_X11_changed (k_X11_changed (Q := (fun v h' => v = none ∧ h' = hp p6 gb)) p5 gb hp6 ⟨rfl, rfl⟩) (ci := 11) rfl (hp_get sh_0) rfl rfl rfl (Nat.le_of_ble_eq_true rfl) rfl (by decide) (by decide) ?_
          refine aw_iload dX11_tilts_78 rfl ?_
          cases hf
          exact aw_iret dX11_tilts_80 hq (Nat.le_refl _) (Nat.le_refl _)
    · have hf := ax_pos hc3 hf
      refine aw_bipush (v := -5) dX11_tilts_29 (by decide) ?_
      cases hf
      exact aw_iret dX11_tilts_31 hq (Nat.le_refl _) (Nat.le_refl _)
  · have hf := ax_pos hc4 hf
    refine aw_bipush (v := -2) dX11_tilts_12 (by decide) ?_
    cases hf
    exact aw_iret dX11_tilts_14 hq (Nat.le_refl _) (Nat.le_refl _)
noncomputable def f_X11_comes_J85 (y4_85 : Int32) (s_85 : sx_M) : Option (Int32 × sx_M) :=
  (f_X11_changed s_85).bind (fun p1 =>
 some (y4_85, p1))
noncomputable def f_X11_comes_J29 (y1_29 : Int32) (y2_29 : Int32) (t0_29 : Int32) (s_29 : sx_M) : Option (Int32 × sx_M) :=
  (f_X1_howMany 3 y1_29 s_29).bind (fun p2 =>
 (if p2.1 < t0_29 then
 (f_X2_keep p2.2).bind (fun p3 =>
 (if y1_29 = 0 then
 (f_X1_addWorker 3 ((y2_29).toInt64) p3).bind (fun p5 =>
 f_X11_comes_J85 p2.1 p5)
else
 (f_X1_addJob 3 ((y2_29).toInt64) p3).bind (fun p4 =>
 f_X11_comes_J85 p2.1 p4)))
else
 some ((-5 : Int32), p2.2)))
noncomputable def f_X11_comes (x1 : Int32) (x2 : Int32) (s : sx_M) : Option (Int32 × sx_M) :=
  (f_X11_isKind x1 s).bind (fun p6 =>
 (if p6.1 = 0 then
 some ((-2 : Int32), p6.2)
else
 (f_X11_isCost ((x2).toInt64) p6.2).bind (fun p7 =>
 (if p7.1 = 0 then
 some ((-2 : Int32), p7.2)
else
 (if x1 = 0 then
 f_X11_comes_J29 x1 x2 (7 : Int32) p7.2
else
 f_X11_comes_J29 x1 x2 (8 : Int32) p7.2)))))
set_option maxRecDepth 100000 in
set_option maxHeartbeats 4000000 in
theorem k_X11_comes {l : Launch} {X : ax_X} {Q : Option Value → ax_H → Prop} (x1 : Int32) (x2 : Int32) (s : sx_M) (gb : ax_H) {p : Int32 × sx_M} (hf : f_X11_comes x1 x2 s = some p) (hq : Q (some (.int p.1)) (hp p.2 gb)) : AM l X yX11_comes cX11_comes 5 (some .int) 4 0 0 [.ref 0, .int x1, .int x2] (hp s gb) Q := by
  refine aw_met (own := RX11) (nm := "comes") (L := [some (.ref 0), some (.int x1), some (.int x2), none, none]) (by decide +kernel) rfl rfl (And.intro rfl (And.intro rfl (And.intro rfl trivial))) (Nat.le_of_ble_eq_true rfl) ?_
  unfold f_X11_comes at hf
  have J85 : ∀ (y4_85 : Int32) (s_85 : sx_M), f_X11_comes_J85 y4_85 s_85 = some p → AW l X RX11 "comes" cX11_comes 5 (some .int) (ax_rm 4 0 0) (ax_MQ X Q 0 0) 0 0 85 [some (.ref 0), none, none, none, some (.int y4_85)] [] (hp s_85 gb) := by
    intro y4_85 s_85 hf
    unfold f_X11_comes_J85 at hf
    refine aw_aload_n dX11_comes_85 rfl rfl ?_
    obtain ⟨p1, hp1, hf⟩ := ax_bind hf
    refine aw_cVv (As := []) (st := []) dX11_comes_86 cl_X11_137 iv_X11_changed (k_X11_changed (Q := (fun v h' => v = none ∧ h' = hp p1 gb)) s_85 gb hp1 ⟨rfl, rfl⟩) (ci := 11) rfl (hp_get sh_0) rfl rfl rfl (Nat.le_of_ble_eq_true rfl) rfl (by decide) (by decide) ?_
    refine aw_iload dX11_comes_89 rfl ?_
    cases hf
    exact aw_iret dX11_comes_91 hq (Nat.le_refl _) (Nat.le_refl _)
  have J29 : ∀ (y1_29 : Int32) (y2_29 : Int32) (t0_29 : Int32) (s_29 : sx_M), f_X11_comes_J29 y1_29 y2_29 t0_29 s_29 = some p → AW l X RX11 "comes" cX11_comes 5 (some .int) (ax_rm 4 0 0) (ax_MQ X Q 0 0) 0 0 29 [some (.ref 0), some (.int y1_29), some (.int y2_29), none, none] [.int t0_29] (hp s_29 gb) := by
    intro y1_29 y2_29 t0_29 s_29 hf
    unfold f_X11_comes_J29 at hf
    refine aw_istore_n (L' := [some (.ref 0), some (.int y1_29), some (.int y2_29), some (.int t0_29), none]) dX11_comes_29 rfl (by decide) rfl ?_
    refine aw_aload_n dX11_comes_30 rfl rfl ?_
    refine aw_gR dX11_comes_31 fl_X11_21 sh_0 rfl ?_
    refine aw_iload_n dX11_comes_34 rfl rfl ?_
    obtain ⟨p2, hp2, hf⟩ := ax_bind hf
    refine aw_cVi (As := [.int y1_29]) (st := []) dX11_comes_35 cl_X11_371 iv_X1_howMany (k_X1_howMany (Q := (fun v h' => v = some (.int p2.1) ∧ h' = hp p2.2 gb)) 3 y1_29 s_29 gb ax_G3 hp2 ⟨rfl, rfl⟩) (ci := 1) rfl (hp_get sh_3) rfl rfl rfl (Nat.le_of_ble_eq_true rfl) rfl (by decide) (by decide) ?_
    refine aw_istore (L' := [some (.ref 0), some (.int y1_29), some (.int y2_29), some (.int t0_29), some (.int p2.1)]) dX11_comes_38 (by decide) rfl ?_
    refine aw_iload dX11_comes_40 rfl ?_
    refine aw_iload_n dX11_comes_42 rfl rfl ?_
    refine aw_icmp_lt (tgt := 49) dX11_comes_43 (by decide) (fun hc2 => ?_) (fun hc2 => ?_)
    · have hf := ax_pos hc2 hf
      refine aw_aload_n dX11_comes_49 rfl rfl ?_
      refine aw_gR dX11_comes_50 fl_X11_61 sh_0 rfl ?_
      refine aw_aload_n dX11_comes_53 rfl rfl ?_
      refine aw_gR dX11_comes_54 fl_X11_21 sh_0 rfl ?_
      obtain ⟨p3, hp3, hf⟩ := ax_bind hf
      refine aw_cVv (As := [.ref 3]) (st := []) dX11_comes_57 cl_X11_361 iv_X2_keep (k_X2_keep (Q := (fun v h' => v = none ∧ h' = hp p3 gb)) p2.2 gb hp3 ⟨rfl, rfl⟩) (ci := 2) rfl (hp_get sh_20) rfl rfl rfl (Nat.le_of_ble_eq_true rfl) rfl (by decide) (by decide) ?_
      refine aw_iload_n dX11_comes_60 rfl rfl ?_
      refine aw_if_ne (tgt := 76) dX11_comes_61 (by decide) (fun hc1 => ?_) (fun hc1 => ?_)
      · have hf := ax_neg hc1 hf
        refine aw_aload_n dX11_comes_76 rfl rfl ?_
        refine aw_gR dX11_comes_77 fl_X11_21 sh_0 rfl ?_
        refine aw_iload_n dX11_comes_80 rfl rfl ?_
        refine aw_i2l dX11_comes_81 ?_
        obtain ⟨p4, hp4, hf⟩ := ax_bind hf
        refine aw_cVv (As := [.long ((y2_29).toInt64)]) (st := []) dX11_comes_82 cl_X11_378 iv_X1_addJob (k_X1_addJob (Q := (fun v h' => v = none ∧ h' = hp p4 gb)) 3 ((y2_29).toInt64) p3 gb ax_G3 hp4 ⟨rfl, rfl⟩) (ci := 1) rfl (hp_get sh_3) rfl rfl rfl (Nat.le_of_ble_eq_true rfl) rfl (by decide) (by decide) ?_
        refine aw_less (L' := [some (.ref 0), none, none, none, some (.int p2.1)]) (And.intro rfl (And.intro rfl trivial)) ?_
        exact J85 p2.1 p4 hf
      · have hf := ax_pos hc1 hf
        refine aw_aload_n dX11_comes_64 rfl rfl ?_
        refine aw_gR dX11_comes_65 fl_X11_21 sh_0 rfl ?_
        refine aw_iload_n dX11_comes_68 rfl rfl ?_
        refine aw_i2l dX11_comes_69 ?_
        obtain ⟨p5, hp5, hf⟩ := ax_bind hf
        refine aw_cVv (As := [.long ((y2_29).toInt64)]) (st := []) dX11_comes_70 cl_X11_374 iv_X1_addWorker (k_X1_addWorker (Q := (fun v h' => v = none ∧ h' = hp p5 gb)) 3 ((y2_29).toInt64) p3 gb ax_G3 hp5 ⟨rfl, rfl⟩) (ci := 1) rfl (hp_get sh_3) rfl rfl rfl (Nat.le_of_ble_eq_true rfl) rfl (by decide) (by decide) ?_
        refine aw_goto (tgt := 85) dX11_comes_73 (by decide) ?_
        refine aw_less (L' := [some (.ref 0), none, none, none, some (.int p2.1)]) (And.intro rfl (And.intro rfl trivial)) ?_
        exact J85 p2.1 p5 hf
    · have hf := ax_neg hc2 hf
      refine aw_bipush (v := -5) dX11_comes_46 (by decide) ?_
      cases hf
      exact aw_iret dX11_comes_48 hq (Nat.le_refl _) (Nat.le_refl _)
  refine aw_iload_n dX11_comes_0 rfl rfl ?_
  obtain ⟨p6, hp6, hf⟩ := ax_bind hf
  refine aw_cSi (As := [.int x1]) (st := []) dX11_comes_1 cl_X11_368 st_X11_isKind (k_X11_isKind (Q := (fun v h' => v = some (.int p6.1) ∧ h' = hp p6.2 gb)) x1 s gb hp6 ⟨rfl, rfl⟩) rfl rfl (Nat.le_of_ble_eq_true rfl) rfl (by decide) (by decide) ?_
  refine aw_if_eq (tgt := 15) dX11_comes_4 (by decide) (fun hc5 => ?_) (fun hc5 => ?_)
  · have hf := ax_pos hc5 hf
    refine aw_bipush (v := -2) dX11_comes_15 (by decide) ?_
    cases hf
    exact aw_iret dX11_comes_17 hq (Nat.le_refl _) (Nat.le_refl _)
  · have hf := ax_neg hc5 hf
    refine aw_iload_n dX11_comes_7 rfl rfl ?_
    refine aw_i2l dX11_comes_8 ?_
    obtain ⟨p7, hp7, hf⟩ := ax_bind hf
    refine aw_cSi (As := [.long ((x2).toInt64)]) (st := []) dX11_comes_9 cl_X11_258 st_X11_isCost (k_X11_isCost (Q := (fun v h' => v = some (.int p7.1) ∧ h' = hp p7.2 gb)) ((x2).toInt64) p6.2 gb hp7 ⟨rfl, rfl⟩) rfl rfl (Nat.le_of_ble_eq_true rfl) rfl (by decide) (by decide) ?_
    refine aw_if_ne (tgt := 18) dX11_comes_12 (by decide) (fun hc4 => ?_) (fun hc4 => ?_)
    · have hf := ax_neg hc4 hf
      refine aw_iload_n dX11_comes_18 rfl rfl ?_
      refine aw_if_ne (tgt := 27) dX11_comes_19 (by decide) (fun hc3 => ?_) (fun hc3 => ?_)
      · have hf := ax_neg hc3 hf
        refine aw_bipush (v := 8) dX11_comes_27 (by decide) ?_
        exact J29 x1 x2 (8 : Int32) p7.2 hf
      · have hf := ax_pos hc3 hf
        refine aw_bipush (v := 7) dX11_comes_22 (by decide) ?_
        refine aw_goto (tgt := 29) dX11_comes_24 (by decide) ?_
        exact J29 x1 x2 (7 : Int32) p7.2 hf
    · have hf := ax_pos hc4 hf
      refine aw_bipush (v := -2) dX11_comes_15 (by decide) ?_
      cases hf
      exact aw_iret dX11_comes_17 hq (Nat.le_refl _) (Nat.le_refl _)
noncomputable def f_X11_goes_J49 (y2_49 : Int32) (s_49 : sx_M) : Option (Int32 × sx_M) :=
  (f_X11_changed s_49).bind (fun p1 =>
 (f_X1_howMany 3 y2_49 p1).bind (fun p2 =>
 some (p2.1, p2.2)))
noncomputable def f_X11_goes (x1 : Int32) (x2 : Int32) (s : sx_M) : Option (Int32 × sx_M) :=
  (f_X1_hasLine 3 x1 x2 s).bind (fun p3 =>
 (if p3.1 = 0 then
 some ((-2 : Int32), p3.2)
else
 (f_X2_keep p3.2).bind (fun p4 =>
 (if x2 = 0 then
 (f_X1_dropWorker 3 x1 p4).bind (fun p6 =>
 f_X11_goes_J49 x2 p6)
else
 (f_X1_dropJob 3 x1 p4).bind (fun p5 =>
 f_X11_goes_J49 x2 p5)))))
set_option maxRecDepth 100000 in
set_option maxHeartbeats 4000000 in
theorem k_X11_goes {l : Launch} {X : ax_X} {Q : Option Value → ax_H → Prop} (x1 : Int32) (x2 : Int32) (s : sx_M) (gb : ax_H) {p : Int32 × sx_M} (hf : f_X11_goes x1 x2 s = some p) (hq : Q (some (.int p.1)) (hp p.2 gb)) : AM l X yX11_goes cX11_goes 3 (some .int) 4 0 0 [.ref 0, .int x1, .int x2] (hp s gb) Q := by
  refine aw_met (own := RX11) (nm := "goes") (L := [some (.ref 0), some (.int x1), some (.int x2)]) (by decide +kernel) rfl rfl (And.intro rfl (And.intro rfl (And.intro rfl trivial))) (Nat.le_of_ble_eq_true rfl) ?_
  unfold f_X11_goes at hf
  have J49 : ∀ (y2_49 : Int32) (s_49 : sx_M), f_X11_goes_J49 y2_49 s_49 = some p → AW l X RX11 "goes" cX11_goes 3 (some .int) (ax_rm 4 0 0) (ax_MQ X Q 0 0) 0 0 49 [some (.ref 0), none, some (.int y2_49)] [] (hp s_49 gb) := by
    intro y2_49 s_49 hf
    unfold f_X11_goes_J49 at hf
    refine aw_aload_n dX11_goes_49 rfl rfl ?_
    obtain ⟨p1, hp1, hf⟩ := ax_bind hf
    refine aw_cVv (As := []) (st := []) dX11_goes_50 cl_X11_137 iv_X11_changed (k_X11_changed (Q := (fun v h' => v = none ∧ h' = hp p1 gb)) s_49 gb hp1 ⟨rfl, rfl⟩) (ci := 11) rfl (hp_get sh_0) rfl rfl rfl (Nat.le_of_ble_eq_true rfl) rfl (by decide) (by decide) ?_
    refine aw_aload_n dX11_goes_53 rfl rfl ?_
    refine aw_gR dX11_goes_54 fl_X11_21 sh_0 rfl ?_
    refine aw_iload_n dX11_goes_57 rfl rfl ?_
    obtain ⟨p2, hp2, hf⟩ := ax_bind hf
    refine aw_cVi (As := [.int y2_49]) (st := []) dX11_goes_58 cl_X11_371 iv_X1_howMany (k_X1_howMany (Q := (fun v h' => v = some (.int p2.1) ∧ h' = hp p2.2 gb)) 3 y2_49 p1 gb ax_G3 hp2 ⟨rfl, rfl⟩) (ci := 1) rfl (hp_get sh_3) rfl rfl rfl (Nat.le_of_ble_eq_true rfl) rfl (by decide) (by decide) ?_
    cases hf
    exact aw_iret dX11_goes_61 hq (Nat.le_refl _) (Nat.le_refl _)
  refine aw_aload_n dX11_goes_0 rfl rfl ?_
  refine aw_gR dX11_goes_1 fl_X11_21 sh_0 rfl ?_
  refine aw_iload_n dX11_goes_4 rfl rfl ?_
  refine aw_iload_n dX11_goes_5 rfl rfl ?_
  obtain ⟨p3, hp3, hf⟩ := ax_bind hf
  refine aw_cVi (As := [.int x1, .int x2]) (st := []) dX11_goes_6 cl_X11_343 iv_X1_hasLine (k_X1_hasLine (Q := (fun v h' => v = some (.int p3.1) ∧ h' = hp p3.2 gb)) 3 x1 x2 s gb ax_G3 hp3 ⟨rfl, rfl⟩) (ci := 1) rfl (hp_get sh_3) rfl rfl rfl (Nat.le_of_ble_eq_true rfl) rfl (by decide) (by decide) ?_
  refine aw_if_ne (tgt := 15) dX11_goes_9 (by decide) (fun hc2 => ?_) (fun hc2 => ?_)
  · have hf := ax_neg hc2 hf
    refine aw_aload_n dX11_goes_15 rfl rfl ?_
    refine aw_gR dX11_goes_16 fl_X11_61 sh_0 rfl ?_
    refine aw_aload_n dX11_goes_19 rfl rfl ?_
    refine aw_gR dX11_goes_20 fl_X11_21 sh_0 rfl ?_
    obtain ⟨p4, hp4, hf⟩ := ax_bind hf
    refine aw_cVv (As := [.ref 3]) (st := []) dX11_goes_23 cl_X11_361 iv_X2_keep (k_X2_keep (Q := (fun v h' => v = none ∧ h' = hp p4 gb)) p3.2 gb hp4 ⟨rfl, rfl⟩) (ci := 2) rfl (hp_get sh_20) rfl rfl rfl (Nat.le_of_ble_eq_true rfl) rfl (by decide) (by decide) ?_
    refine aw_iload_n dX11_goes_26 rfl rfl ?_
    refine aw_if_ne (tgt := 41) dX11_goes_27 (by decide) (fun hc1 => ?_) (fun hc1 => ?_)
    · have hf := ax_neg hc1 hf
      refine aw_aload_n dX11_goes_41 rfl rfl ?_
      refine aw_gR dX11_goes_42 fl_X11_21 sh_0 rfl ?_
      refine aw_iload_n dX11_goes_45 rfl rfl ?_
      obtain ⟨p5, hp5, hf⟩ := ax_bind hf
      refine aw_cVv (As := [.int x1]) (st := []) dX11_goes_46 cl_X11_381 iv_X1_dropJob (k_X1_dropJob (Q := (fun v h' => v = none ∧ h' = hp p5 gb)) 3 x1 p4 gb ax_G3 hp5 ⟨rfl, rfl⟩) (ci := 1) rfl (hp_get sh_3) rfl rfl rfl (Nat.le_of_ble_eq_true rfl) rfl (by decide) (by decide) ?_
      refine aw_less (L' := [some (.ref 0), none, some (.int x2)]) (And.intro rfl (And.intro rfl trivial)) ?_
      exact J49 x2 p5 hf
    · have hf := ax_pos hc1 hf
      refine aw_aload_n dX11_goes_30 rfl rfl ?_
      refine aw_gR dX11_goes_31 fl_X11_21 sh_0 rfl ?_
      refine aw_iload_n dX11_goes_34 rfl rfl ?_
      obtain ⟨p6, hp6, hf⟩ := ax_bind hf
      refine aw_cVv (As := [.int x1]) (st := []) dX11_goes_35 cl_X11_281 iv_X1_dropWorker (k_X1_dropWorker (Q := (fun v h' => v = none ∧ h' = hp p6 gb)) 3 x1 p4 gb ax_G3 hp6 ⟨rfl, rfl⟩) (ci := 1) rfl (hp_get sh_3) rfl rfl rfl (Nat.le_of_ble_eq_true rfl) rfl (by decide) (by decide) ?_
      refine aw_goto (tgt := 49) dX11_goes_38 (by decide) ?_
      refine aw_less (L' := [some (.ref 0), none, some (.int x2)]) (And.intro rfl (And.intro rfl trivial)) ?_
      exact J49 x2 p6 hf
  · have hf := ax_pos hc2 hf
    refine aw_bipush (v := -2) dX11_goes_12 (by decide) ?_
    cases hf
    exact aw_iret dX11_goes_14 hq (Nat.le_refl _) (Nat.le_refl _)
noncomputable def f_X11_turn (x1 : Int32) (x2 : Int32) (s : sx_M) : Option (Int32 × sx_M) :=
  (f_X1_hasWorker 3 x1 s).bind (fun p1 =>
 (if p1.1 = 0 then
 some ((-2 : Int32), p1.2)
else
 (f_X1_hasWorker 3 x2 p1.2).bind (fun p2 =>
 (if p2.1 = 0 then
 some ((-2 : Int32), p2.2)
else
 (f_X1_sameCosts 3 x1 x2 p2.2).bind (fun p3 =>
 (if p3.1 = 0 then
 (f_X2_keep p3.2).bind (fun p4 =>
 (f_X1_swap 3 x1 x2 p4).bind (fun p5 =>
 (f_X11_changed p5).bind (fun p6 =>
 some ((1 : Int32), p6))))
else
 some ((0 : Int32), p3.2)))))))
set_option maxRecDepth 100000 in
set_option maxHeartbeats 4000000 in
theorem k_X11_turn {l : Launch} {X : ax_X} {Q : Option Value → ax_H → Prop} (x1 : Int32) (x2 : Int32) (s : sx_M) (gb : ax_H) {p : Int32 × sx_M} (hf : f_X11_turn x1 x2 s = some p) (hq : Q (some (.int p.1)) (hp p.2 gb)) : AM l X yX11_turn cX11_turn 3 (some .int) 4 0 0 [.ref 0, .int x1, .int x2] (hp s gb) Q := by
  refine aw_met (own := RX11) (nm := "turn") (L := [some (.ref 0), some (.int x1), some (.int x2)]) (by decide +kernel) rfl rfl (And.intro rfl (And.intro rfl (And.intro rfl trivial))) (Nat.le_of_ble_eq_true rfl) ?_
  unfold f_X11_turn at hf
  refine aw_aload_n dX11_turn_0 rfl rfl ?_
  refine aw_gR dX11_turn_1 fl_X11_21 sh_0 rfl ?_
  refine aw_iload_n dX11_turn_4 rfl rfl ?_
  obtain ⟨p1, hp1, hf⟩ := ax_bind hf
  refine aw_cVi (As := [.int x1]) (st := []) dX11_turn_5 cl_X11_179 iv_X1_hasWorker (k_X1_hasWorker (Q := (fun v h' => v = some (.int p1.1) ∧ h' = hp p1.2 gb)) 3 x1 s gb ax_G3 hp1 ⟨rfl, rfl⟩) (ci := 1) rfl (hp_get sh_3) rfl rfl rfl (Nat.le_of_ble_eq_true rfl) rfl (by decide) (by decide) ?_
  refine aw_if_eq (tgt := 22) dX11_turn_8 (by decide) (fun hc3 => ?_) (fun hc3 => ?_)
  · have hf := ax_pos hc3 hf
    refine aw_bipush (v := -2) dX11_turn_22 (by decide) ?_
    cases hf
    exact aw_iret dX11_turn_24 hq (Nat.le_refl _) (Nat.le_refl _)
  · have hf := ax_neg hc3 hf
    refine aw_aload_n dX11_turn_11 rfl rfl ?_
    refine aw_gR dX11_turn_12 fl_X11_21 sh_0 rfl ?_
    refine aw_iload_n dX11_turn_15 rfl rfl ?_
    obtain ⟨p2, hp2, hf⟩ := ax_bind hf
    refine aw_cVi (As := [.int x2]) (st := []) dX11_turn_16 cl_X11_179 iv_X1_hasWorker (k_X1_hasWorker (Q := (fun v h' => v = some (.int p2.1) ∧ h' = hp p2.2 gb)) 3 x2 p1.2 gb ax_G3 hp2 ⟨rfl, rfl⟩) (ci := 1) rfl (hp_get sh_3) rfl rfl rfl (Nat.le_of_ble_eq_true rfl) rfl (by decide) (by decide) ?_
    refine aw_if_ne (tgt := 25) dX11_turn_19 (by decide) (fun hc2 => ?_) (fun hc2 => ?_)
    · have hf := ax_neg hc2 hf
      refine aw_aload_n dX11_turn_25 rfl rfl ?_
      refine aw_gR dX11_turn_26 fl_X11_21 sh_0 rfl ?_
      refine aw_iload_n dX11_turn_29 rfl rfl ?_
      refine aw_iload_n dX11_turn_30 rfl rfl ?_
      obtain ⟨p3, hp3, hf⟩ := ax_bind hf
      refine aw_cVi (As := [.int x1, .int x2]) (st := []) dX11_turn_31 cl_X11_384 iv_X1_sameCosts (k_X1_sameCosts (Q := (fun v h' => v = some (.int p3.1) ∧ h' = hp p3.2 gb)) 3 x1 x2 p2.2 gb ax_G3 hp3 ⟨rfl, rfl⟩) (ci := 1) rfl (hp_get sh_3) rfl rfl rfl (Nat.le_of_ble_eq_true rfl) rfl (by decide) (by decide) ?_
      refine aw_if_eq (tgt := 39) dX11_turn_34 (by decide) (fun hc1 => ?_) (fun hc1 => ?_)
      · have hf := ax_pos hc1 hf
        refine aw_aload_n dX11_turn_39 rfl rfl ?_
        refine aw_gR dX11_turn_40 fl_X11_61 sh_0 rfl ?_
        refine aw_aload_n dX11_turn_43 rfl rfl ?_
        refine aw_gR dX11_turn_44 fl_X11_21 sh_0 rfl ?_
        obtain ⟨p4, hp4, hf⟩ := ax_bind hf
        refine aw_cVv (As := [.ref 3]) (st := []) dX11_turn_47 cl_X11_361 iv_X2_keep (k_X2_keep (Q := (fun v h' => v = none ∧ h' = hp p4 gb)) p3.2 gb hp4 ⟨rfl, rfl⟩) (ci := 2) rfl (hp_get sh_20) rfl rfl rfl (Nat.le_of_ble_eq_true rfl) rfl (by decide) (by decide) ?_
        refine aw_aload_n dX11_turn_50 rfl rfl ?_
        refine aw_gR dX11_turn_51 fl_X11_21 sh_0 rfl ?_
        refine aw_iload_n dX11_turn_54 rfl rfl ?_
        refine aw_iload_n dX11_turn_55 rfl rfl ?_
        obtain ⟨p5, hp5, hf⟩ := ax_bind hf
        refine aw_cVv (As := [.int x1, .int x2]) (st := []) dX11_turn_56 cl_X11_387 iv_X1_swap (k_X1_swap (Q := (fun v h' => v = none ∧ h' = hp p5 gb)) 3 x1 x2 p4 gb ax_G3 hp5 ⟨rfl, rfl⟩) (ci := 1) rfl (hp_get sh_3) rfl rfl rfl (Nat.le_of_ble_eq_true rfl) rfl (by decide) (by decide) ?_
        refine aw_aload_n dX11_turn_59 rfl rfl ?_
        obtain ⟨p6, hp6, hf⟩ := ax_bind hf
        refine aw_cVv (As := []) (st := []) dX11_turn_60 cl_X11_137 iv_X11_changed (k_X11_changed (Q := (fun v h' => v = none ∧ h' = hp p6 gb)) p5 gb hp6 ⟨rfl, rfl⟩) (ci := 11) rfl (hp_get sh_0) rfl rfl rfl (Nat.le_of_ble_eq_true rfl) rfl (by decide) (by decide) ?_
        refine aw_iconst (v := 1) dX11_turn_63 (by decide) ?_
        cases hf
        exact aw_iret dX11_turn_64 hq (Nat.le_refl _) (Nat.le_refl _)
      · have hf := ax_neg hc1 hf
        refine aw_iconst (v := 0) dX11_turn_37 (by decide) ?_
        cases hf
        exact aw_iret dX11_turn_38 hq (Nat.le_refl _) (Nat.le_refl _)
    · have hf := ax_pos hc2 hf
      refine aw_bipush (v := -2) dX11_turn_22 (by decide) ?_
      cases hf
      exact aw_iret dX11_turn_24 hq (Nat.le_refl _) (Nat.le_refl _)
noncomputable def f_X11_undo (s : sx_M) : Option (Int32 × sx_M) :=
  (f_X2_restore s).bind (fun p1 =>
 (if p1.1 = 0 then
 some ((-1 : Int32), p1.2)
else
 (f_X11_changed p1.2).bind (fun p2 =>
 some ((rI p2 20 2), p2))))
set_option maxRecDepth 100000 in
set_option maxHeartbeats 4000000 in
theorem k_X11_undo {l : Launch} {X : ax_X} {Q : Option Value → ax_H → Prop} (s : sx_M) (gb : ax_H) {p : Int32 × sx_M} (hf : f_X11_undo s = some p) (hq : Q (some (.int p.1)) (hp p.2 gb)) : AM l X yX11_undo cX11_undo 1 (some .int) 4 0 0 [.ref 0] (hp s gb) Q := by
  refine aw_met (own := RX11) (nm := "undo") (L := [some (.ref 0)]) (by decide +kernel) rfl rfl (And.intro rfl trivial) (Nat.le_of_ble_eq_true rfl) ?_
  unfold f_X11_undo at hf
  refine aw_aload_n dX11_undo_0 rfl rfl ?_
  refine aw_gR dX11_undo_1 fl_X11_61 sh_0 rfl ?_
  refine aw_aload_n dX11_undo_4 rfl rfl ?_
  refine aw_gR dX11_undo_5 fl_X11_21 sh_0 rfl ?_
  obtain ⟨p1, hp1, hf⟩ := ax_bind hf
  refine aw_cVi (As := [.ref 3]) (st := []) dX11_undo_8 cl_X11_390 iv_X2_restore (k_X2_restore (Q := (fun v h' => v = some (.int p1.1) ∧ h' = hp p1.2 gb)) s gb hp1 ⟨rfl, rfl⟩) (ci := 2) rfl (hp_get sh_20) rfl rfl rfl (Nat.le_of_ble_eq_true rfl) rfl (by decide) (by decide) ?_
  refine aw_if_ne (tgt := 16) dX11_undo_11 (by decide) (fun hc1 => ?_) (fun hc1 => ?_)
  · have hf := ax_neg hc1 hf
    refine aw_aload_n dX11_undo_16 rfl rfl ?_
    obtain ⟨p2, hp2, hf⟩ := ax_bind hf
    refine aw_cVv (As := []) (st := []) dX11_undo_17 cl_X11_137 iv_X11_changed (k_X11_changed (Q := (fun v h' => v = none ∧ h' = hp p2 gb)) p1.2 gb hp2 ⟨rfl, rfl⟩) (ci := 11) rfl (hp_get sh_0) rfl rfl rfl (Nat.le_of_ble_eq_true rfl) rfl (by decide) (by decide) ?_
    refine aw_aload_n dX11_undo_20 rfl rfl ?_
    refine aw_gR dX11_undo_21 fl_X11_61 sh_0 rfl ?_
    refine aw_gI dX11_undo_24 fl_X11_159 sh_20 rfl ?_
    cases hf
    exact aw_iret dX11_undo_27 hq (Nat.le_refl _) (Nat.le_refl _)
  · have hf := ax_pos hc1 hf
    refine aw_iconst (v := -1) dX11_undo_14 (by decide) ?_
    cases hf
    exact aw_iret dX11_undo_15 hq (Nat.le_refl _) (Nat.le_refl _)
