noncomputable def f_X12_in (x0 : Int64) (x2 : Int64) (x4 : Int64) (s : sx_M) : Option (Int32 × sx_M) :=
  (if x0 < x2 then
 some ((0 : Int32), s)
else
 (if x4 < x0 then
 some ((0 : Int32), s)
else
 some ((1 : Int32), s)))
set_option maxRecDepth 100000 in
set_option maxHeartbeats 4000000 in
theorem k_X12_in {l : Launch} {X : ax_X} {Q : Option Value → ax_H → Prop} (x0 : Int64) (x2 : Int64) (x4 : Int64) (s : sx_M) (gb : ax_H) {p : Int32 × sx_M} (hf : f_X12_in x0 x2 x4 s = some p) (hq : Q (some (.int p.1)) (hp p.2 gb)) : AM l X yX12_in cX12_in 6 (some .boolean) 0 0 0 [.long x0, .long x2, .long x4] (hp s gb) Q := by
  refine aw_met (own := RX12) (nm := "in") (L := [some (.long x0), none, some (.long x2), none, some (.long x4), none]) (by decide +kernel) rfl rfl (And.intro rfl (And.intro rfl (And.intro rfl trivial))) (Nat.le_of_ble_eq_true rfl) ?_
  unfold f_X12_in at hf
  refine aw_lload_n dX12_in_0 rfl rfl ?_
  refine aw_lload_n dX12_in_1 rfl rfl ?_
  refine aw_lcmp_lt (tgt := 17) dX12_in_2 dX12_in_3 (by decide) (fun hc2 => ?_) (fun hc2 => ?_)
  · have hf := ax_pos hc2 hf
    refine aw_iconst (v := 0) dX12_in_17 (by decide) ?_
    cases hf
    exact aw_zret dX12_in_18 (by decide) hq (Nat.le_refl _) (Nat.le_refl _)
  · have hf := ax_neg hc2 hf
    refine aw_lload_n dX12_in_6 rfl rfl ?_
    refine aw_lload dX12_in_7 rfl ?_
    refine aw_lcmp_gt (tgt := 17) dX12_in_9 dX12_in_10 (by decide) (fun hc1 => ?_) (fun hc1 => ?_)
    · have hf := ax_pos hc1 hf
      refine aw_iconst (v := 0) dX12_in_17 (by decide) ?_
      cases hf
      exact aw_zret dX12_in_18 (by decide) hq (Nat.le_refl _) (Nat.le_refl _)
    · have hf := ax_neg hc1 hf
      refine aw_iconst (v := 1) dX12_in_13 (by decide) ?_
      refine aw_goto (tgt := 18) dX12_in_14 (by decide) ?_
      cases hf
      exact aw_zret dX12_in_18 (by decide) hq (Nat.le_refl _) (Nat.le_refl _)
noncomputable def f_X12_has (x0 : Int32) (x1 : Int32) (s : sx_M) : Option (Int32 × sx_M) :=
  (if ((x0 >>> (x1 &&& 31)) &&& (1 : Int32)) = (1 : Int32) then
 some ((1 : Int32), s)
else
 some ((0 : Int32), s))
set_option maxRecDepth 100000 in
set_option maxHeartbeats 4000000 in
theorem k_X12_has {l : Launch} {X : ax_X} {Q : Option Value → ax_H → Prop} (x0 : Int32) (x1 : Int32) (s : sx_M) (gb : ax_H) {p : Int32 × sx_M} (hf : f_X12_has x0 x1 s = some p) (hq : Q (some (.int p.1)) (hp p.2 gb)) : AM l X yX12_has cX12_has 2 (some .boolean) 0 0 0 [.int x0, .int x1] (hp s gb) Q := by
  refine aw_met (own := RX12) (nm := "has") (L := [some (.int x0), some (.int x1)]) (by decide +kernel) rfl rfl (And.intro rfl (And.intro rfl trivial)) (Nat.le_of_ble_eq_true rfl) ?_
  unfold f_X12_has at hf
  refine aw_iload_n dX12_has_0 rfl rfl ?_
  refine aw_iload_n dX12_has_1 rfl rfl ?_
  refine aw_ishr dX12_has_2 ?_
  refine aw_iconst (v := 1) dX12_has_3 (by decide) ?_
  refine aw_iand dX12_has_4 ?_
  refine aw_iconst (v := 1) dX12_has_5 (by decide) ?_
  refine aw_icmp_ne (tgt := 13) dX12_has_6 (by decide) (fun hc1 => ?_) (fun hc1 => ?_)
  · have hf := ax_neg hc1 hf
    refine aw_iconst (v := 0) dX12_has_13 (by decide) ?_
    cases hf
    exact aw_zret dX12_has_14 (by decide) hq (Nat.le_refl _) (Nat.le_refl _)
  · have hf := ax_pos hc1 hf
    refine aw_iconst (v := 1) dX12_has_9 (by decide) ?_
    refine aw_goto (tgt := 14) dX12_has_10 (by decide) ?_
    cases hf
    exact aw_zret dX12_has_14 (by decide) hq (Nat.le_refl _) (Nat.le_refl _)
noncomputable def f_X12_workers (s : sx_M) : Option (Int32 × sx_M) :=
  some ((rA s 59 ((0 : Int32)).toNatClampNeg), s)
set_option maxRecDepth 100000 in
set_option maxHeartbeats 4000000 in
theorem k_X12_workers {l : Launch} {X : ax_X} {Q : Option Value → ax_H → Prop} (s : sx_M) (gb : ax_H) {p : Int32 × sx_M} (hf : f_X12_workers s = some p) (hq : Q (some (.int p.1)) (hp p.2 gb)) : AM l X yX12_workers cX12_workers 1 (some .int) 0 0 0 [.ref 58] (hp s gb) Q := by
  refine aw_met (own := RX12) (nm := "workers") (L := [some (.ref 58)]) (by decide +kernel) rfl rfl (And.intro rfl trivial) (Nat.le_of_ble_eq_true rfl) ?_
  unfold f_X12_workers at hf
  refine aw_aload_n dX12_workers_0 rfl rfl ?_
  refine aw_gR dX12_workers_1 fl_X12_11 sh_58 rfl ?_
  refine aw_iconst (v := 0) dX12_workers_4 (by decide) ?_
  refine aw_lA dX12_workers_5 sh_59 (by decide) ?_
  cases hf
  exact aw_iret dX12_workers_6 hq (Nat.le_refl _) (Nat.le_refl _)
noncomputable def f_X12_jobs (s : sx_M) : Option (Int32 × sx_M) :=
  some ((rA s 59 ((1 : Int32)).toNatClampNeg), s)
set_option maxRecDepth 100000 in
set_option maxHeartbeats 4000000 in
theorem k_X12_jobs {l : Launch} {X : ax_X} {Q : Option Value → ax_H → Prop} (s : sx_M) (gb : ax_H) {p : Int32 × sx_M} (hf : f_X12_jobs s = some p) (hq : Q (some (.int p.1)) (hp p.2 gb)) : AM l X yX12_jobs cX12_jobs 1 (some .int) 0 0 0 [.ref 58] (hp s gb) Q := by
  refine aw_met (own := RX12) (nm := "jobs") (L := [some (.ref 58)]) (by decide +kernel) rfl rfl (And.intro rfl trivial) (Nat.le_of_ble_eq_true rfl) ?_
  unfold f_X12_jobs at hf
  refine aw_aload_n dX12_jobs_0 rfl rfl ?_
  refine aw_gR dX12_jobs_1 fl_X12_11 sh_58 rfl ?_
  refine aw_iconst (v := 1) dX12_jobs_4 (by decide) ?_
  refine aw_lA dX12_jobs_5 sh_59 (by decide) ?_
  cases hf
  exact aw_iret dX12_jobs_6 hq (Nat.le_refl _) (Nat.le_refl _)
noncomputable def f_X12_placeOf (x0 : Int32) (x1 : Int32) (s : sx_M) : Option (Int32 × sx_M) :=
  some ((((2 : Int32) + ((8 : Int32) * x0)) + x1), s)
set_option maxRecDepth 100000 in
set_option maxHeartbeats 4000000 in
theorem k_X12_placeOf {l : Launch} {X : ax_X} {Q : Option Value → ax_H → Prop} (x0 : Int32) (x1 : Int32) (s : sx_M) (gb : ax_H) {p : Int32 × sx_M} (hf : f_X12_placeOf x0 x1 s = some p) (hq : Q (some (.int p.1)) (hp p.2 gb)) : AM l X yX12_placeOf cX12_placeOf 2 (some .int) 0 0 0 [.int x0, .int x1] (hp s gb) Q := by
  refine aw_met (own := RX12) (nm := "placeOf") (L := [some (.int x0), some (.int x1)]) (by decide +kernel) rfl rfl (And.intro rfl (And.intro rfl trivial)) (Nat.le_of_ble_eq_true rfl) ?_
  unfold f_X12_placeOf at hf
  refine aw_iconst (v := 2) dX12_placeOf_0 (by decide) ?_
  refine aw_bipush (v := 8) dX12_placeOf_1 (by decide) ?_
  refine aw_iload_n dX12_placeOf_3 rfl rfl ?_
  refine aw_imul dX12_placeOf_4 ?_
  refine aw_iadd dX12_placeOf_5 ?_
  refine aw_iload_n dX12_placeOf_6 rfl rfl ?_
  refine aw_iadd dX12_placeOf_7 ?_
  cases hf
  exact aw_iret dX12_placeOf_8 hq (Nat.le_refl _) (Nat.le_refl _)
noncomputable def f_X12_costOf (x1 : Int32) (x2 : Int32) (s : sx_M) : Option (Int32 × sx_M) :=
  (f_X12_placeOf x1 x2 s).bind (fun p1 =>
 (if ¬ (p1.1 < 0 ∨ 58 ≤ (p1.1).toNatClampNeg) then
 some ((rA p1.2 59 (p1.1).toNatClampNeg), p1.2)
else none))
set_option maxRecDepth 100000 in
set_option maxHeartbeats 4000000 in
theorem k_X12_costOf {l : Launch} {X : ax_X} {Q : Option Value → ax_H → Prop} (x1 : Int32) (x2 : Int32) (s : sx_M) (gb : ax_H) {p : Int32 × sx_M} (hf : f_X12_costOf x1 x2 s = some p) (hq : Q (some (.int p.1)) (hp p.2 gb)) : AM l X yX12_costOf cX12_costOf 3 (some .int) 1 0 0 [.ref 58, .int x1, .int x2] (hp s gb) Q := by
  refine aw_met (own := RX12) (nm := "costOf") (L := [some (.ref 58), some (.int x1), some (.int x2)]) (by decide +kernel) rfl rfl (And.intro rfl (And.intro rfl (And.intro rfl trivial))) (Nat.le_of_ble_eq_true rfl) ?_
  unfold f_X12_costOf at hf
  refine aw_aload_n dX12_costOf_0 rfl rfl ?_
  refine aw_gR dX12_costOf_1 fl_X12_11 sh_58 rfl ?_
  refine aw_iload_n dX12_costOf_4 rfl rfl ?_
  refine aw_iload_n dX12_costOf_5 rfl rfl ?_
  obtain ⟨p1, hp1, hf⟩ := ax_bind hf
  refine aw_cSi (As := [.int x1, .int x2]) (st := [.ref 59]) dX12_costOf_6 cl_X12_56 st_X12_placeOf (k_X12_placeOf (Q := (fun v h' => v = some (.int p1.1) ∧ h' = hp p1.2 gb)) x1 x2 s gb hp1 ⟨rfl, rfl⟩) rfl rfl (Nat.le_of_ble_eq_true rfl) rfl (by decide) (by decide) ?_
  obtain ⟨hc1, hf⟩ := ax_ite hf
  refine aw_lA dX12_costOf_9 sh_59 hc1 ?_
  cases hf
  exact aw_iret dX12_costOf_10 hq (Nat.le_refl _) (Nat.le_refl _)
noncomputable def f_X12_isWorker (x1 : Int32) (s : sx_M) : Option (Int32 × sx_M) :=
  (f_X12_workers s).bind (fun p1 =>
 (f_X12_in ((x1).toInt64) (0 : Int64) (((p1.1 - (1 : Int32))).toInt64) p1.2).bind (fun p2 =>
 (if (p2.1 = 0 ∨ p2.1 = 1) then
 some (p2.1, p2.2)
else none)))
set_option maxRecDepth 100000 in
set_option maxHeartbeats 4000000 in
theorem k_X12_isWorker {l : Launch} {X : ax_X} {Q : Option Value → ax_H → Prop} (x1 : Int32) (s : sx_M) (gb : ax_H) {p : Int32 × sx_M} (hf : f_X12_isWorker x1 s = some p) (hq : Q (some (.int p.1)) (hp p.2 gb)) : AM l X yX12_isWorker cX12_isWorker 2 (some .boolean) 1 0 0 [.ref 58, .int x1] (hp s gb) Q := by
  refine aw_met (own := RX12) (nm := "isWorker") (L := [some (.ref 58), some (.int x1)]) (by decide +kernel) rfl rfl (And.intro rfl (And.intro rfl trivial)) (Nat.le_of_ble_eq_true rfl) ?_
  unfold f_X12_isWorker at hf
  refine aw_iload_n dX12_isWorker_0 rfl rfl ?_
  refine aw_i2l dX12_isWorker_1 ?_
  refine aw_lconst (v := 0) dX12_isWorker_2 (by decide) ?_
  refine aw_aload_n dX12_isWorker_3 rfl rfl ?_
  obtain ⟨p1, hp1, hf⟩ := ax_bind hf
  refine aw_cVi (As := []) (st := [.long (0 : Int64), .long ((x1).toInt64)]) dX12_isWorker_4 cl_X12_60 iv_X12_workers (k_X12_workers (Q := (fun v h' => v = some (.int p1.1) ∧ h' = hp p1.2 gb)) s gb hp1 ⟨rfl, rfl⟩) (ci := 12) rfl (hp_get sh_58) rfl rfl rfl (Nat.le_of_ble_eq_true rfl) rfl (by decide) (by decide) ?_
  refine aw_iconst (v := 1) dX12_isWorker_7 (by decide) ?_
  refine aw_isub dX12_isWorker_8 ?_
  refine aw_i2l dX12_isWorker_9 ?_
  obtain ⟨p2, hp2, hf⟩ := ax_bind hf
  refine aw_cSi (As := [.long ((x1).toInt64), .long (0 : Int64), .long (((p1.1 - (1 : Int32))).toInt64)]) (st := []) dX12_isWorker_10 cl_X12_64 st_X12_in (k_X12_in (Q := (fun v h' => v = some (.int p2.1) ∧ h' = hp p2.2 gb)) ((x1).toInt64) (0 : Int64) (((p1.1 - (1 : Int32))).toInt64) p1.2 gb hp2 ⟨rfl, rfl⟩) rfl rfl (Nat.le_of_ble_eq_true rfl) rfl (by decide) (by decide) ?_
  obtain ⟨hc1, hf⟩ := ax_ite hf
  cases hf
  exact aw_zret dX12_isWorker_13 (ax_nb hc1) hq (Nat.le_refl _) (Nat.le_refl _)
noncomputable def f_X12_isJob (x1 : Int32) (s : sx_M) : Option (Int32 × sx_M) :=
  (f_X12_jobs s).bind (fun p1 =>
 (f_X12_in ((x1).toInt64) (0 : Int64) (((p1.1 - (1 : Int32))).toInt64) p1.2).bind (fun p2 =>
 (if (p2.1 = 0 ∨ p2.1 = 1) then
 some (p2.1, p2.2)
else none)))
set_option maxRecDepth 100000 in
set_option maxHeartbeats 4000000 in
theorem k_X12_isJob {l : Launch} {X : ax_X} {Q : Option Value → ax_H → Prop} (x1 : Int32) (s : sx_M) (gb : ax_H) {p : Int32 × sx_M} (hf : f_X12_isJob x1 s = some p) (hq : Q (some (.int p.1)) (hp p.2 gb)) : AM l X yX12_isJob cX12_isJob 2 (some .boolean) 1 0 0 [.ref 58, .int x1] (hp s gb) Q := by
  refine aw_met (own := RX12) (nm := "isJob") (L := [some (.ref 58), some (.int x1)]) (by decide +kernel) rfl rfl (And.intro rfl (And.intro rfl trivial)) (Nat.le_of_ble_eq_true rfl) ?_
  unfold f_X12_isJob at hf
  refine aw_iload_n dX12_isJob_0 rfl rfl ?_
  refine aw_i2l dX12_isJob_1 ?_
  refine aw_lconst (v := 0) dX12_isJob_2 (by decide) ?_
  refine aw_aload_n dX12_isJob_3 rfl rfl ?_
  obtain ⟨p1, hp1, hf⟩ := ax_bind hf
  refine aw_cVi (As := []) (st := [.long (0 : Int64), .long ((x1).toInt64)]) dX12_isJob_4 cl_X12_68 iv_X12_jobs (k_X12_jobs (Q := (fun v h' => v = some (.int p1.1) ∧ h' = hp p1.2 gb)) s gb hp1 ⟨rfl, rfl⟩) (ci := 12) rfl (hp_get sh_58) rfl rfl rfl (Nat.le_of_ble_eq_true rfl) rfl (by decide) (by decide) ?_
  refine aw_iconst (v := 1) dX12_isJob_7 (by decide) ?_
  refine aw_isub dX12_isJob_8 ?_
  refine aw_i2l dX12_isJob_9 ?_
  obtain ⟨p2, hp2, hf⟩ := ax_bind hf
  refine aw_cSi (As := [.long ((x1).toInt64), .long (0 : Int64), .long (((p1.1 - (1 : Int32))).toInt64)]) (st := []) dX12_isJob_10 cl_X12_64 st_X12_in (k_X12_in (Q := (fun v h' => v = some (.int p2.1) ∧ h' = hp p2.2 gb)) ((x1).toInt64) (0 : Int64) (((p1.1 - (1 : Int32))).toInt64) p1.2 gb hp2 ⟨rfl, rfl⟩) rfl rfl (Nat.le_of_ble_eq_true rfl) rfl (by decide) (by decide) ?_
  obtain ⟨hc1, hf⟩ := ax_ite hf
  cases hf
  exact aw_zret dX12_isJob_13 (ax_nb hc1) hq (Nat.le_refl _) (Nat.le_refl _)
noncomputable def f_X12_isCost (x0 : Int64) (s : sx_M) : Option (Int32 × sx_M) :=
  (f_X12_in x0 (-9999 : Int64) (9999 : Int64) s).bind (fun p1 =>
 (if (p1.1 = 0 ∨ p1.1 = 1) then
 some (p1.1, p1.2)
else none))
set_option maxRecDepth 100000 in
set_option maxHeartbeats 4000000 in
theorem k_X12_isCost {l : Launch} {X : ax_X} {Q : Option Value → ax_H → Prop} (x0 : Int64) (s : sx_M) (gb : ax_H) {p : Int32 × sx_M} (hf : f_X12_isCost x0 s = some p) (hq : Q (some (.int p.1)) (hp p.2 gb)) : AM l X yX12_isCost cX12_isCost 2 (some .boolean) 1 0 0 [.long x0] (hp s gb) Q := by
  refine aw_met (own := RX12) (nm := "isCost") (L := [some (.long x0), none]) (by decide +kernel) rfl rfl (And.intro rfl trivial) (Nat.le_of_ble_eq_true rfl) ?_
  unfold f_X12_isCost at hf
  refine aw_lload_n dX12_isCost_0 rfl rfl ?_
  refine aw_ldc2 dX12_isCost_1 kc_X12_71 ?_
  refine aw_ldc2 dX12_isCost_4 kc_X12_73 ?_
  obtain ⟨p1, hp1, hf⟩ := ax_bind hf
  refine aw_cSi (As := [.long x0, .long (-9999 : Int64), .long (9999 : Int64)]) (st := []) dX12_isCost_7 cl_X12_64 st_X12_in (k_X12_in (Q := (fun v h' => v = some (.int p1.1) ∧ h' = hp p1.2 gb)) x0 (-9999 : Int64) (9999 : Int64) s gb hp1 ⟨rfl, rfl⟩) rfl rfl (Nat.le_of_ble_eq_true rfl) rfl (by decide) (by decide) ?_
  obtain ⟨hc1, hf⟩ := ax_ite hf
  cases hf
  exact aw_zret dX12_isCost_10 (ax_nb hc1) hq (Nat.le_refl _) (Nat.le_refl _)
noncomputable def f_X12_end (x1 : Int32) (s : sx_M) : Option (Int32 × sx_M) :=
  (f_X12_in ((x1).toInt64) (0 : Int64) (((rI s 58 4)).toInt64) s).bind (fun p1 =>
 (if p1.1 = 0 then
 some ((-1 : Int32), p1.2)
else
 some (x1, (wI p1.2 58 4 x1))))
set_option maxRecDepth 100000 in
set_option maxHeartbeats 4000000 in
theorem k_X12_end {l : Launch} {X : ax_X} {Q : Option Value → ax_H → Prop} (x1 : Int32) (s : sx_M) (gb : ax_H) {p : Int32 × sx_M} (hf : f_X12_end x1 s = some p) (hq : Q (some (.int p.1)) (hp p.2 gb)) : AM l X yX12_end cX12_end 2 (some .int) 1 0 0 [.ref 58, .int x1] (hp s gb) Q := by
  refine aw_met (own := RX12) (nm := "end") (L := [some (.ref 58), some (.int x1)]) (by decide +kernel) rfl rfl (And.intro rfl (And.intro rfl trivial)) (Nat.le_of_ble_eq_true rfl) ?_
  unfold f_X12_end at hf
  refine aw_iload_n dX12_end_0 rfl rfl ?_
  refine aw_i2l dX12_end_1 ?_
  refine aw_lconst (v := 0) dX12_end_2 (by decide) ?_
  refine aw_aload_n dX12_end_3 rfl rfl ?_
  refine aw_gI dX12_end_4 fl_X12_75 sh_58 rfl ?_
  refine aw_i2l dX12_end_7 ?_
  obtain ⟨p1, hp1, hf⟩ := ax_bind hf
  refine aw_cSi (As := [.long ((x1).toInt64), .long (0 : Int64), .long (((rI s 58 4)).toInt64)]) (st := []) dX12_end_8 cl_X12_64 st_X12_in (k_X12_in (Q := (fun v h' => v = some (.int p1.1) ∧ h' = hp p1.2 gb)) ((x1).toInt64) (0 : Int64) (((rI s 58 4)).toInt64) s gb hp1 ⟨rfl, rfl⟩) rfl rfl (Nat.le_of_ble_eq_true rfl) rfl (by decide) (by decide) ?_
  refine aw_if_ne (tgt := 16) dX12_end_11 (by decide) (fun hc1 => ?_) (fun hc1 => ?_)
  · have hf := ax_neg hc1 hf
    refine aw_aload_n dX12_end_16 rfl rfl ?_
    refine aw_iload_n dX12_end_17 rfl rfl ?_
    refine aw_pI dX12_end_18 fp_X12_75 sh_58 rfl rfl rfl ?_
    refine aw_iload_n dX12_end_21 rfl rfl ?_
    cases hf
    exact aw_iret dX12_end_22 hq (Nat.le_refl _) (Nat.le_refl _)
  · have hf := ax_pos hc1 hf
    refine aw_iconst (v := -1) dX12_end_14 (by decide) ?_
    cases hf
    exact aw_iret dX12_end_15 hq (Nat.le_refl _) (Nat.le_refl _)
noncomputable def f_X12_isAt (x1 : Int32) (x2 : Int32) (s : sx_M) : Option (Int32 × sx_M) :=
  (if (rI s 58 4) ≤ (rI s 58 8) then
 some ((0 : Int32), s)
else
 (if ¬ ((rI s 58 8) < 0 ∨ 600 ≤ ((rI s 58 8)).toNatClampNeg) then
 (f_X12_in (((rA s 61 ((rI s 58 8)).toNatClampNeg)).toInt64) ((x1).toInt64) ((x2).toInt64) s).bind (fun p1 =>
 (if p1.1 = 0 then
 some ((0 : Int32), p1.2)
else
 some ((1 : Int32), p1.2)))
else none))
set_option maxRecDepth 100000 in
set_option maxHeartbeats 4000000 in
theorem k_X12_isAt {l : Launch} {X : ax_X} {Q : Option Value → ax_H → Prop} (x1 : Int32) (x2 : Int32) (s : sx_M) (gb : ax_H) {p : Int32 × sx_M} (hf : f_X12_isAt x1 x2 s = some p) (hq : Q (some (.int p.1)) (hp p.2 gb)) : AM l X yX12_isAt cX12_isAt 3 (some .boolean) 1 0 0 [.ref 58, .int x1, .int x2] (hp s gb) Q := by
  refine aw_met (own := RX12) (nm := "isAt") (L := [some (.ref 58), some (.int x1), some (.int x2)]) (by decide +kernel) rfl rfl (And.intro rfl (And.intro rfl (And.intro rfl trivial))) (Nat.le_of_ble_eq_true rfl) ?_
  unfold f_X12_isAt at hf
  refine aw_aload_n dX12_isAt_0 rfl rfl ?_
  refine aw_gI dX12_isAt_1 fl_X12_78 sh_58 rfl ?_
  refine aw_aload_n dX12_isAt_4 rfl rfl ?_
  refine aw_gI dX12_isAt_5 fl_X12_75 sh_58 rfl ?_
  refine aw_icmp_ge (tgt := 35) dX12_isAt_8 (by decide) (fun hc3 => ?_) (fun hc3 => ?_)
  · have hf := ax_pos hc3 hf
    refine aw_iconst (v := 0) dX12_isAt_35 (by decide) ?_
    cases hf
    exact aw_zret dX12_isAt_36 (by decide) hq (Nat.le_refl _) (Nat.le_refl _)
  · have hf := ax_neg hc3 hf
    refine aw_aload_n dX12_isAt_11 rfl rfl ?_
    refine aw_gR dX12_isAt_12 fl_X12_20 sh_58 rfl ?_
    refine aw_aload_n dX12_isAt_15 rfl rfl ?_
    refine aw_gI dX12_isAt_16 fl_X12_78 sh_58 rfl ?_
    obtain ⟨hc1, hf⟩ := ax_ite hf
    refine aw_lA dX12_isAt_19 sh_61 hc1 ?_
    refine aw_i2l dX12_isAt_20 ?_
    refine aw_iload_n dX12_isAt_21 rfl rfl ?_
    refine aw_i2l dX12_isAt_22 ?_
    refine aw_iload_n dX12_isAt_23 rfl rfl ?_
    refine aw_i2l dX12_isAt_24 ?_
    obtain ⟨p1, hp1, hf⟩ := ax_bind hf
    refine aw_cSi (As := [.long (((rA s 61 ((rI s 58 8)).toNatClampNeg)).toInt64), .long ((x1).toInt64), .long ((x2).toInt64)]) (st := []) dX12_isAt_25 cl_X12_64 st_X12_in (k_X12_in (Q := (fun v h' => v = some (.int p1.1) ∧ h' = hp p1.2 gb)) (((rA s 61 ((rI s 58 8)).toNatClampNeg)).toInt64) ((x1).toInt64) ((x2).toInt64) s gb hp1 ⟨rfl, rfl⟩) rfl rfl (Nat.le_of_ble_eq_true rfl) rfl (by decide) (by decide) ?_
    refine aw_if_eq (tgt := 35) dX12_isAt_28 (by decide) (fun hc2 => ?_) (fun hc2 => ?_)
    · have hf := ax_pos hc2 hf
      refine aw_iconst (v := 0) dX12_isAt_35 (by decide) ?_
      cases hf
      exact aw_zret dX12_isAt_36 (by decide) hq (Nat.le_refl _) (Nat.le_refl _)
    · have hf := ax_neg hc2 hf
      refine aw_iconst (v := 1) dX12_isAt_31 (by decide) ?_
      refine aw_goto (tgt := 36) dX12_isAt_32 (by decide) ?_
      cases hf
      exact aw_zret dX12_isAt_36 (by decide) hq (Nat.le_refl _) (Nat.le_refl _)
noncomputable def f_X12_next_J225 (t1_225 : Int32) (s_225 : sx_M) : Option sx_M :=
  some (wI (wI s_225 58 10 t1_225) 58 8 ((rI (wI s_225 58 10 t1_225) 58 8) + (1 : Int32)))
noncomputable def f_X12_next_L0_J22 (s_22 : sx_M) : Option ((sx_M) ⊕ (sx_M)) :=
  some (.inl (wI s_22 58 8 ((rI s_22 58 8) + (1 : Int32))))
noncomputable def f_X12_next_L0 (a0 : sx_M) : Option ((sx_M) ⊕ (sx_M)) :=
  (f_X12_isAt (32 : Int32) (32 : Int32) a0).bind (fun p1 =>
 (if p1.1 = 0 then
 (f_X12_isAt (10 : Int32) (10 : Int32) p1.2).bind (fun p2 =>
 (if p2.1 = 0 then
 some (.inr p2.2)
else
 f_X12_next_L0_J22 p2.2))
else
 f_X12_next_L0_J22 p1.2))
noncomputable def f_X12_next_L123 (a123 : sx_M) : Option ((sx_M) ⊕ (sx_M)) :=
  (f_X12_isAt (48 : Int32) (57 : Int32) a123).bind (fun p9 =>
 (if p9.1 = 0 then
 some (.inr p9.2)
else
 (if ¬ ((rI p9.2 58 8) < 0 ∨ 600 ≤ ((rI p9.2 58 8)).toNatClampNeg) then
 (f_J9_min_7cf53 (10000 : Int32) ((((10 : Int32) * (rI p9.2 58 11)) + (rA p9.2 61 ((rI p9.2 58 8)).toNatClampNeg)) - (48 : Int32)) p9.2).bind (fun p10 =>
 some (.inl (wI (wI p10.2 58 11 p10.1) 58 8 ((rI (wI p10.2 58 11 p10.1) 58 8) + (1 : Int32)))))
else none)))
noncomputable def f_X12_next_L83 (a83 : sx_M) : Option ((sx_M) ⊕ (sx_M)) :=
  (f_X12_isAt (97 : Int32) (122 : Int32) a83).bind (fun p12 =>
 (if p12.1 = 0 then
 some (.inr p12.2)
else
 some (.inl (wI p12.2 58 8 ((rI p12.2 58 8) + (1 : Int32))))))
noncomputable def f_X12_next (s : sx_M) : Option sx_M :=
  (whT (f_X12_next_L0) s).bind (fun b3 =>
 (if (rI (wI (wI b3 58 9 (rI b3 58 8)) 58 11 (0 : Int32)) 58 8) = (rI (wI (wI b3 58 9 (rI b3 58 8)) 58 11 (0 : Int32)) 58 4) then
 some (wI (wI (wI b3 58 9 (rI b3 58 8)) 58 11 (0 : Int32)) 58 10 (0 : Int32))
else
 (f_X12_isAt (97 : Int32) (122 : Int32) (wI (wI b3 58 9 (rI b3 58 8)) 58 11 (0 : Int32))).bind (fun p4 =>
 (if p4.1 = 0 then
 (f_X12_isAt (48 : Int32) (57 : Int32) p4.2).bind (fun p5 =>
 (if p5.1 = 0 then
 (f_X12_isAt (59 : Int32) (59 : Int32) p5.2).bind (fun p6 =>
 (if p6.1 = 0 then
 (f_X12_isAt (44 : Int32) (44 : Int32) p6.2).bind (fun p7 =>
 (if p7.1 = 0 then
 (f_X12_isAt (45 : Int32) (45 : Int32) p7.2).bind (fun p8 =>
 (if p8.1 = 0 then
 f_X12_next_J225 (6 : Int32) p8.2
else
 f_X12_next_J225 (5 : Int32) p8.2))
else
 f_X12_next_J225 (4 : Int32) p7.2))
else
 f_X12_next_J225 (3 : Int32) p6.2))
else
 (whT (f_X12_next_L123) (wI p5.2 58 10 (2 : Int32))).bind (fun b11 =>
 some b11)))
else
 (whT (f_X12_next_L83) (wI p4.2 58 10 (1 : Int32))).bind (fun b13 =>
 some b13)))))
set_option maxRecDepth 100000 in
set_option maxHeartbeats 4000000 in
theorem k_X12_next {l : Launch} {X : ax_X} {Q : Option Value → ax_H → Prop} (s : sx_M) (gb : ax_H) {p : sx_M} (hf : f_X12_next s = some p) (hq : Q (none) (hp p gb)) : AM l X yX12_next cX12_next 1 none 2 0 0 [.ref 58] (hp s gb) Q := by
  refine aw_met (own := RX12) (nm := "next") (L := [some (.ref 58)]) (by decide +kernel) rfl rfl (And.intro rfl trivial) (Nat.le_of_ble_eq_true rfl) ?_
  unfold f_X12_next at hf
  have J225 : ∀ (t1_225 : Int32) (s_225 : sx_M), f_X12_next_J225 t1_225 s_225 = some p → AW l X RX12 "next" cX12_next 1 none (ax_rm 2 0 0) (ax_MQ X Q 0 0) 0 0 225 [some (.ref 58)] [.int t1_225, .ref 58] (hp s_225 gb) := by
    intro t1_225 s_225 hf
    unfold f_X12_next_J225 at hf
    refine aw_pI dX12_next_225 fp_X12_91 sh_58 rfl rfl rfl ?_
    refine aw_aload_n dX12_next_228 rfl rfl ?_
    refine aw_dup dX12_next_229 rfl ?_
    refine aw_gI dX12_next_230 fl_X12_78 sh_58 rfl ?_
    refine aw_iconst (v := 1) dX12_next_233 (by decide) ?_
    refine aw_iadd dX12_next_234 ?_
    refine aw_pI dX12_next_235 fp_X12_78 sh_58 rfl rfl rfl ?_
    cases hf
    exact aw_vret dX12_next_238 hq (Nat.le_refl _) (Nat.le_refl _)
  obtain ⟨b3, hb3, hf⟩ := ax_bind hf
  refine wh_go s (fun a0 : sx_M => AW l X RX12 "next" cX12_next 1 none (ax_rm 2 0 0) (ax_MQ X Q 0 0) 0 0 0 [some (.ref 58)] [] (hp a0 gb)) (fun e : sx_M => AW l X RX12 "next" cX12_next 1 none (ax_rm 2 0 0) (ax_MQ X Q 0 0) 0 0 35 [some (.ref 58)] [] (hp e gb)) hb3 ?_ ?_
  · intro a0 r hf hK
    unfold f_X12_next_L0 at hf
    have J22 : ∀ (s_22 : sx_M), f_X12_next_L0_J22 s_22 = some r → AW l X RX12 "next" cX12_next 1 none (ax_rm 2 0 0) (ax_MQ X Q 0 0) 0 0 22 [some (.ref 58)] [] (hp s_22 gb) := by
      intro s_22 hf
      unfold f_X12_next_L0_J22 at hf
      refine aw_aload_n dX12_next_22 rfl rfl ?_
      refine aw_dup dX12_next_23 rfl ?_
      refine aw_gI dX12_next_24 fl_X12_78 sh_58 rfl ?_
      refine aw_iconst (v := 1) dX12_next_27 (by decide) ?_
      refine aw_iadd dX12_next_28 ?_
      refine aw_pI dX12_next_29 fp_X12_78 sh_58 rfl rfl rfl ?_
      refine aw_goto (tgt := 0) dX12_next_32 (by decide) ?_
      cases hf
      exact hK
    refine aw_aload_n dX12_next_0 rfl rfl ?_
    refine aw_bipush (v := 32) dX12_next_1 (by decide) ?_
    refine aw_bipush (v := 32) dX12_next_3 (by decide) ?_
    obtain ⟨p1, hp1, hf⟩ := ax_bind hf
    refine aw_cVi (As := [.int (32 : Int32), .int (32 : Int32)]) (st := []) dX12_next_5 cl_X12_81 iv_X12_isAt (k_X12_isAt (Q := (fun v h' => v = some (.int p1.1) ∧ h' = hp p1.2 gb)) (32 : Int32) (32 : Int32) a0 gb hp1 ⟨rfl, rfl⟩) (ci := 12) rfl (hp_get sh_58) rfl rfl rfl (Nat.le_of_ble_eq_true rfl) rfl (by decide) (by decide) ?_
    refine aw_if_ne (tgt := 22) dX12_next_8 (by decide) (fun hc2 => ?_) (fun hc2 => ?_)
    · have hf := ax_neg hc2 hf
      exact J22 p1.2 hf
    · have hf := ax_pos hc2 hf
      refine aw_aload_n dX12_next_11 rfl rfl ?_
      refine aw_bipush (v := 10) dX12_next_12 (by decide) ?_
      refine aw_bipush (v := 10) dX12_next_14 (by decide) ?_
      obtain ⟨p2, hp2, hf⟩ := ax_bind hf
      refine aw_cVi (As := [.int (10 : Int32), .int (10 : Int32)]) (st := []) dX12_next_16 cl_X12_81 iv_X12_isAt (k_X12_isAt (Q := (fun v h' => v = some (.int p2.1) ∧ h' = hp p2.2 gb)) (10 : Int32) (10 : Int32) p1.2 gb hp2 ⟨rfl, rfl⟩) (ci := 12) rfl (hp_get sh_58) rfl rfl rfl (Nat.le_of_ble_eq_true rfl) rfl (by decide) (by decide) ?_
      refine aw_if_eq (tgt := 35) dX12_next_19 (by decide) (fun hc1 => ?_) (fun hc1 => ?_)
      · have hf := ax_pos hc1 hf
        cases hf
        exact hK
      · have hf := ax_neg hc1 hf
        exact J22 p2.2 hf
  · refine aw_aload_n dX12_next_35 rfl rfl ?_
    refine aw_aload_n dX12_next_36 rfl rfl ?_
    refine aw_gI dX12_next_37 fl_X12_78 sh_58 rfl ?_
    refine aw_pI dX12_next_40 fp_X12_85 sh_58 rfl rfl rfl ?_
    refine aw_aload_n dX12_next_43 rfl rfl ?_
    refine aw_iconst (v := 0) dX12_next_44 (by decide) ?_
    refine aw_pI dX12_next_45 fp_X12_88 sh_58 rfl rfl rfl ?_
    refine aw_aload_n dX12_next_48 rfl rfl ?_
    refine aw_gI dX12_next_49 fl_X12_78 sh_58 rfl ?_
    refine aw_aload_n dX12_next_52 rfl rfl ?_
    refine aw_gI dX12_next_53 fl_X12_75 sh_58 rfl ?_
    refine aw_icmp_ne (tgt := 67) dX12_next_56 (by decide) (fun hc11 => ?_) (fun hc11 => ?_)
    · have hf := ax_neg hc11 hf
      refine aw_aload_n dX12_next_67 rfl rfl ?_
      refine aw_bipush (v := 97) dX12_next_68 (by decide) ?_
      refine aw_bipush (v := 122) dX12_next_70 (by decide) ?_
      obtain ⟨p4, hp4, hf⟩ := ax_bind hf
      refine aw_cVi (As := [.int (97 : Int32), .int (122 : Int32)]) (st := []) dX12_next_72 cl_X12_81 iv_X12_isAt (k_X12_isAt (Q := (fun v h' => v = some (.int p4.1) ∧ h' = hp p4.2 gb)) (97 : Int32) (122 : Int32) (wI (wI b3 58 9 (rI b3 58 8)) 58 11 (0 : Int32)) gb hp4 ⟨rfl, rfl⟩) (ci := 12) rfl (hp_get sh_58) rfl rfl rfl (Nat.le_of_ble_eq_true rfl) rfl (by decide) (by decide) ?_
      refine aw_if_eq (tgt := 107) dX12_next_75 (by decide) (fun hc10 => ?_) (fun hc10 => ?_)
      · have hf := ax_pos hc10 hf
        refine aw_aload_n dX12_next_107 rfl rfl ?_
        refine aw_bipush (v := 48) dX12_next_108 (by decide) ?_
        refine aw_bipush (v := 57) dX12_next_110 (by decide) ?_
        obtain ⟨p5, hp5, hf⟩ := ax_bind hf
        refine aw_cVi (As := [.int (48 : Int32), .int (57 : Int32)]) (st := []) dX12_next_112 cl_X12_81 iv_X12_isAt (k_X12_isAt (Q := (fun v h' => v = some (.int p5.1) ∧ h' = hp p5.2 gb)) (48 : Int32) (57 : Int32) p4.2 gb hp5 ⟨rfl, rfl⟩) (ci := 12) rfl (hp_get sh_58) rfl rfl rfl (Nat.le_of_ble_eq_true rfl) rfl (by decide) (by decide) ?_
        refine aw_if_eq (tgt := 177) dX12_next_115 (by decide) (fun hc8 => ?_) (fun hc8 => ?_)
        · have hf := ax_pos hc8 hf
          refine aw_aload_n dX12_next_177 rfl rfl ?_
          refine aw_aload_n dX12_next_178 rfl rfl ?_
          refine aw_bipush (v := 59) dX12_next_179 (by decide) ?_
          refine aw_bipush (v := 59) dX12_next_181 (by decide) ?_
          obtain ⟨p6, hp6, hf⟩ := ax_bind hf
          refine aw_cVi (As := [.int (59 : Int32), .int (59 : Int32)]) (st := [.ref 58]) dX12_next_183 cl_X12_81 iv_X12_isAt (k_X12_isAt (Q := (fun v h' => v = some (.int p6.1) ∧ h' = hp p6.2 gb)) (59 : Int32) (59 : Int32) p5.2 gb hp6 ⟨rfl, rfl⟩) (ci := 12) rfl (hp_get sh_58) rfl rfl rfl (Nat.le_of_ble_eq_true rfl) rfl (by decide) (by decide) ?_
          refine aw_if_eq (tgt := 193) dX12_next_186 (by decide) (fun hc5 => ?_) (fun hc5 => ?_)
          · have hf := ax_pos hc5 hf
            refine aw_aload_n dX12_next_193 rfl rfl ?_
            refine aw_bipush (v := 44) dX12_next_194 (by decide) ?_
            refine aw_bipush (v := 44) dX12_next_196 (by decide) ?_
            obtain ⟨p7, hp7, hf⟩ := ax_bind hf
            refine aw_cVi (As := [.int (44 : Int32), .int (44 : Int32)]) (st := [.ref 58]) dX12_next_198 cl_X12_81 iv_X12_isAt (k_X12_isAt (Q := (fun v h' => v = some (.int p7.1) ∧ h' = hp p7.2 gb)) (44 : Int32) (44 : Int32) p6.2 gb hp7 ⟨rfl, rfl⟩) (ci := 12) rfl (hp_get sh_58) rfl rfl rfl (Nat.le_of_ble_eq_true rfl) rfl (by decide) (by decide) ?_
            refine aw_if_eq (tgt := 208) dX12_next_201 (by decide) (fun hc4 => ?_) (fun hc4 => ?_)
            · have hf := ax_pos hc4 hf
              refine aw_aload_n dX12_next_208 rfl rfl ?_
              refine aw_bipush (v := 45) dX12_next_209 (by decide) ?_
              refine aw_bipush (v := 45) dX12_next_211 (by decide) ?_
              obtain ⟨p8, hp8, hf⟩ := ax_bind hf
              refine aw_cVi (As := [.int (45 : Int32), .int (45 : Int32)]) (st := [.ref 58]) dX12_next_213 cl_X12_81 iv_X12_isAt (k_X12_isAt (Q := (fun v h' => v = some (.int p8.1) ∧ h' = hp p8.2 gb)) (45 : Int32) (45 : Int32) p7.2 gb hp8 ⟨rfl, rfl⟩) (ci := 12) rfl (hp_get sh_58) rfl rfl rfl (Nat.le_of_ble_eq_true rfl) rfl (by decide) (by decide) ?_
              refine aw_if_eq (tgt := 223) dX12_next_216 (by decide) (fun hc3 => ?_) (fun hc3 => ?_)
              · have hf := ax_pos hc3 hf
                refine aw_bipush (v := 6) dX12_next_223 (by decide) ?_
                exact J225 (6 : Int32) p8.2 hf
              · have hf := ax_neg hc3 hf
                refine aw_iconst (v := 5) dX12_next_219 (by decide) ?_
                refine aw_goto (tgt := 225) dX12_next_220 (by decide) ?_
                exact J225 (5 : Int32) p8.2 hf
            · have hf := ax_neg hc4 hf
              refine aw_iconst (v := 4) dX12_next_204 (by decide) ?_
              refine aw_goto (tgt := 225) dX12_next_205 (by decide) ?_
              exact J225 (4 : Int32) p7.2 hf
          · have hf := ax_neg hc5 hf
            refine aw_iconst (v := 3) dX12_next_189 (by decide) ?_
            refine aw_goto (tgt := 225) dX12_next_190 (by decide) ?_
            exact J225 (3 : Int32) p6.2 hf
        · have hf := ax_neg hc8 hf
          refine aw_aload_n dX12_next_118 rfl rfl ?_
          refine aw_iconst (v := 2) dX12_next_119 (by decide) ?_
          refine aw_pI dX12_next_120 fp_X12_91 sh_58 rfl rfl rfl ?_
          obtain ⟨b11, hb11, hf⟩ := ax_bind hf
          refine wh_go (wI p5.2 58 10 (2 : Int32)) (fun a123 : sx_M => AW l X RX12 "next" cX12_next 1 none (ax_rm 2 0 0) (ax_MQ X Q 0 0) 0 0 123 [some (.ref 58)] [] (hp a123 gb)) (fun e : sx_M => AW l X RX12 "next" cX12_next 1 none (ax_rm 2 0 0) (ax_MQ X Q 0 0) 0 0 238 [none] [] (hp e gb)) hb11 ?_ ?_
          · intro a123 r hf hK
            unfold f_X12_next_L123 at hf
            refine aw_aload_n dX12_next_123 rfl rfl ?_
            refine aw_bipush (v := 48) dX12_next_124 (by decide) ?_
            refine aw_bipush (v := 57) dX12_next_126 (by decide) ?_
            obtain ⟨p9, hp9, hf⟩ := ax_bind hf
            refine aw_cVi (As := [.int (48 : Int32), .int (57 : Int32)]) (st := []) dX12_next_128 cl_X12_81 iv_X12_isAt (k_X12_isAt (Q := (fun v h' => v = some (.int p9.1) ∧ h' = hp p9.2 gb)) (48 : Int32) (57 : Int32) a123 gb hp9 ⟨rfl, rfl⟩) (ci := 12) rfl (hp_get sh_58) rfl rfl rfl (Nat.le_of_ble_eq_true rfl) rfl (by decide) (by decide) ?_
            refine aw_if_eq (tgt := 238) dX12_next_131 (by decide) (fun hc7 => ?_) (fun hc7 => ?_)
            · have hf := ax_pos hc7 hf
              refine aw_less (L' := [none]) trivial ?_
              cases hf
              exact hK
            · have hf := ax_neg hc7 hf
              refine aw_aload_n dX12_next_134 rfl rfl ?_
              refine aw_sipush (v := 10000) dX12_next_135 (by decide) ?_
              refine aw_bipush (v := 10) dX12_next_138 (by decide) ?_
              refine aw_aload_n dX12_next_140 rfl rfl ?_
              refine aw_gI dX12_next_141 fl_X12_88 sh_58 rfl ?_
              refine aw_imul dX12_next_144 ?_
              refine aw_aload_n dX12_next_145 rfl rfl ?_
              refine aw_gR dX12_next_146 fl_X12_20 sh_58 rfl ?_
              refine aw_aload_n dX12_next_149 rfl rfl ?_
              refine aw_gI dX12_next_150 fl_X12_78 sh_58 rfl ?_
              obtain ⟨hc6, hf⟩ := ax_ite hf
              refine aw_lA dX12_next_153 sh_61 hc6 ?_
              refine aw_iadd dX12_next_154 ?_
              refine aw_bipush (v := 48) dX12_next_155 (by decide) ?_
              refine aw_isub dX12_next_157 ?_
              obtain ⟨p10, hp10, hf⟩ := ax_bind hf
              refine aw_cSi (As := [.int (10000 : Int32), .int ((((10 : Int32) * (rI p9.2 58 11)) + (rA p9.2 61 ((rI p9.2 58 8)).toNatClampNeg)) - (48 : Int32))]) (st := [.ref 58]) dX12_next_158 cl_X12_94 st_J9_min_7cf53 (k_J9_min_7cf53 (Q := (fun v h' => v = some (.int p10.1) ∧ h' = hp p10.2 gb)) (10000 : Int32) ((((10 : Int32) * (rI p9.2 58 11)) + (rA p9.2 61 ((rI p9.2 58 8)).toNatClampNeg)) - (48 : Int32)) p9.2 gb hp10 ⟨rfl, rfl⟩) rfl rfl (Nat.le_of_ble_eq_true rfl) rfl (by decide) (by decide) ?_
              refine aw_pI dX12_next_161 fp_X12_88 sh_58 rfl rfl rfl ?_
              refine aw_aload_n dX12_next_164 rfl rfl ?_
              refine aw_dup dX12_next_165 rfl ?_
              refine aw_gI dX12_next_166 fl_X12_78 sh_58 rfl ?_
              refine aw_iconst (v := 1) dX12_next_169 (by decide) ?_
              refine aw_iadd dX12_next_170 ?_
              refine aw_pI dX12_next_171 fp_X12_78 sh_58 rfl rfl rfl ?_
              refine aw_goto (tgt := 123) dX12_next_174 (by decide) ?_
              cases hf
              exact hK
          · cases hf
            exact aw_vret dX12_next_238 hq (Nat.le_refl _) (Nat.le_refl _)
      · have hf := ax_neg hc10 hf
        refine aw_aload_n dX12_next_78 rfl rfl ?_
        refine aw_iconst (v := 1) dX12_next_79 (by decide) ?_
        refine aw_pI dX12_next_80 fp_X12_91 sh_58 rfl rfl rfl ?_
        obtain ⟨b13, hb13, hf⟩ := ax_bind hf
        refine wh_go (wI p4.2 58 10 (1 : Int32)) (fun a83 : sx_M => AW l X RX12 "next" cX12_next 1 none (ax_rm 2 0 0) (ax_MQ X Q 0 0) 0 0 83 [some (.ref 58)] [] (hp a83 gb)) (fun e : sx_M => AW l X RX12 "next" cX12_next 1 none (ax_rm 2 0 0) (ax_MQ X Q 0 0) 0 0 238 [none] [] (hp e gb)) hb13 ?_ ?_
        · intro a83 r hf hK
          unfold f_X12_next_L83 at hf
          refine aw_aload_n dX12_next_83 rfl rfl ?_
          refine aw_bipush (v := 97) dX12_next_84 (by decide) ?_
          refine aw_bipush (v := 122) dX12_next_86 (by decide) ?_
          obtain ⟨p12, hp12, hf⟩ := ax_bind hf
          refine aw_cVi (As := [.int (97 : Int32), .int (122 : Int32)]) (st := []) dX12_next_88 cl_X12_81 iv_X12_isAt (k_X12_isAt (Q := (fun v h' => v = some (.int p12.1) ∧ h' = hp p12.2 gb)) (97 : Int32) (122 : Int32) a83 gb hp12 ⟨rfl, rfl⟩) (ci := 12) rfl (hp_get sh_58) rfl rfl rfl (Nat.le_of_ble_eq_true rfl) rfl (by decide) (by decide) ?_
          refine aw_if_eq (tgt := 238) dX12_next_91 (by decide) (fun hc9 => ?_) (fun hc9 => ?_)
          · have hf := ax_pos hc9 hf
            refine aw_less (L' := [none]) trivial ?_
            cases hf
            exact hK
          · have hf := ax_neg hc9 hf
            refine aw_aload_n dX12_next_94 rfl rfl ?_
            refine aw_dup dX12_next_95 rfl ?_
            refine aw_gI dX12_next_96 fl_X12_78 sh_58 rfl ?_
            refine aw_iconst (v := 1) dX12_next_99 (by decide) ?_
            refine aw_iadd dX12_next_100 ?_
            refine aw_pI dX12_next_101 fp_X12_78 sh_58 rfl rfl rfl ?_
            refine aw_goto (tgt := 83) dX12_next_104 (by decide) ?_
            cases hf
            exact hK
        · cases hf
          exact aw_vret dX12_next_238 hq (Nat.le_refl _) (Nat.le_refl _)
    · have hf := ax_pos hc11 hf
      refine aw_aload_n dX12_next_59 rfl rfl ?_
      refine aw_iconst (v := 0) dX12_next_60 (by decide) ?_
      refine aw_pI dX12_next_61 fp_X12_91 sh_58 rfl rfl rfl ?_
      refine aw_goto (tgt := 238) dX12_next_64 (by decide) ?_
      cases hf
      exact aw_vret dX12_next_238 hq (Nat.le_refl _) (Nat.le_refl _)
noncomputable def f_X12_faults (x1 : Int32) (s : sx_M) : Option sx_M :=
  (if (rI s 58 12) = 0 then
 some (wI (wI (wI s 58 12 (1 : Int32)) 58 5 x1) 58 6 (rI (wI (wI s 58 12 (1 : Int32)) 58 5 x1) 58 9))
else
 some s)
set_option maxRecDepth 100000 in
set_option maxHeartbeats 4000000 in
theorem k_X12_faults {l : Launch} {X : ax_X} {Q : Option Value → ax_H → Prop} (x1 : Int32) (s : sx_M) (gb : ax_H) {p : sx_M} (hf : f_X12_faults x1 s = some p) (hq : Q (none) (hp p gb)) : AM l X yX12_faults cX12_faults 2 none 0 0 0 [.ref 58, .int x1] (hp s gb) Q := by
  refine aw_met (own := RX12) (nm := "faults") (L := [some (.ref 58), some (.int x1)]) (by decide +kernel) rfl rfl (And.intro rfl (And.intro rfl trivial)) (Nat.le_of_ble_eq_true rfl) ?_
  unfold f_X12_faults at hf
  refine aw_aload_n dX12_faults_0 rfl rfl ?_
  refine aw_gI dX12_faults_1 fl_X12_99 sh_58 rfl ?_
  refine aw_if_ne (tgt := 25) dX12_faults_4 (by decide) (fun hc1 => ?_) (fun hc1 => ?_)
  · have hf := ax_neg hc1 hf
    cases hf
    exact aw_vret dX12_faults_25 hq (Nat.le_refl _) (Nat.le_refl _)
  · have hf := ax_pos hc1 hf
    refine aw_aload_n dX12_faults_7 rfl rfl ?_
    refine aw_iconst (v := 1) dX12_faults_8 (by decide) ?_
    refine aw_pI dX12_faults_9 fp_X12_99 sh_58 rfl (by decide) (by decide) ?_
    refine aw_aload_n dX12_faults_12 rfl rfl ?_
    refine aw_iload_n dX12_faults_13 rfl rfl ?_
    refine aw_pI dX12_faults_14 fp_X12_103 sh_58 rfl rfl rfl ?_
    refine aw_aload_n dX12_faults_17 rfl rfl ?_
    refine aw_aload_n dX12_faults_18 rfl rfl ?_
    refine aw_gI dX12_faults_19 fl_X12_85 sh_58 rfl ?_
    refine aw_pI dX12_faults_22 fp_X12_23 sh_58 rfl rfl rfl ?_
    cases hf
    exact aw_vret dX12_faults_25 hq (Nat.le_refl _) (Nat.le_refl _)
noncomputable def f_X12_passes (s : sx_M) : Option sx_M :=
  (if (rI s 58 12) = 0 then
 (f_X12_next s).bind (fun p1 =>
 some p1)
else
 some s)
set_option maxRecDepth 100000 in
set_option maxHeartbeats 4000000 in
theorem k_X12_passes {l : Launch} {X : ax_X} {Q : Option Value → ax_H → Prop} (s : sx_M) (gb : ax_H) {p : sx_M} (hf : f_X12_passes s = some p) (hq : Q (none) (hp p gb)) : AM l X yX12_passes cX12_passes 1 none 3 0 0 [.ref 58] (hp s gb) Q := by
  refine aw_met (own := RX12) (nm := "passes") (L := [some (.ref 58)]) (by decide +kernel) rfl rfl (And.intro rfl trivial) (Nat.le_of_ble_eq_true rfl) ?_
  unfold f_X12_passes at hf
  refine aw_aload_n dX12_passes_0 rfl rfl ?_
  refine aw_gI dX12_passes_1 fl_X12_99 sh_58 rfl ?_
  refine aw_if_ne (tgt := 11) dX12_passes_4 (by decide) (fun hc1 => ?_) (fun hc1 => ?_)
  · have hf := ax_neg hc1 hf
    cases hf
    exact aw_vret dX12_passes_11 hq (Nat.le_refl _) (Nat.le_refl _)
  · have hf := ax_pos hc1 hf
    refine aw_aload_n dX12_passes_7 rfl rfl ?_
    obtain ⟨p1, hp1, hf⟩ := ax_bind hf
    refine aw_cVv (As := []) (st := []) dX12_passes_8 cl_X12_106 iv_X12_next (k_X12_next (Q := (fun v h' => v = none ∧ h' = hp p1 gb)) s gb hp1 ⟨rfl, rfl⟩) (ci := 12) rfl (hp_get sh_58) rfl rfl rfl (Nat.le_of_ble_eq_true rfl) rfl (by decide) (by decide) ?_
    cases hf
    exact aw_vret dX12_passes_11 hq (Nat.le_refl _) (Nat.le_refl _)
noncomputable def f_X12_number_J42 (y3_42 : Int32) (s_42 : sx_M) : Option (Int32 × sx_M) :=
  (f_X12_passes s_42).bind (fun p1 =>
 some (y3_42, p1))
noncomputable def f_X12_number_J25 (y1_25 : Int32) (y2_25 : Int32) (y3_25 : Int32) (s_25 : sx_M) : Option (Int32 × sx_M) :=
  (f_X12_in ((y3_25).toInt64) ((y1_25).toInt64) ((y2_25).toInt64) s_25).bind (fun p2 =>
 (if p2.1 = 0 then
 (f_X12_faults (2 : Int32) p2.2).bind (fun p3 =>
 f_X12_number_J42 y3_25 p3)
else
 f_X12_number_J42 y3_25 p2.2))
noncomputable def f_X12_number (x1 : Int32) (x2 : Int32) (s : sx_M) : Option (Int32 × sx_M) :=
  (if (rI s 58 12) = 0 then
 (if (rI s 58 10) = (2 : Int32) then
 f_X12_number_J25 x1 x2 (rI s 58 11) s
else
 (f_X12_faults (1 : Int32) s).bind (fun p4 =>
 f_X12_number_J25 x1 x2 (rI s 58 11) p4))
else
 f_X12_number_J25 x1 x2 (rI s 58 11) s)
set_option maxRecDepth 100000 in
set_option maxHeartbeats 4000000 in
theorem k_X12_number {l : Launch} {X : ax_X} {Q : Option Value → ax_H → Prop} (x1 : Int32) (x2 : Int32) (s : sx_M) (gb : ax_H) {p : Int32 × sx_M} (hf : f_X12_number x1 x2 s = some p) (hq : Q (some (.int p.1)) (hp p.2 gb)) : AM l X yX12_number cX12_number 4 (some .int) 4 0 0 [.ref 58, .int x1, .int x2] (hp s gb) Q := by
  refine aw_met (own := RX12) (nm := "number") (L := [some (.ref 58), some (.int x1), some (.int x2), none]) (by decide +kernel) rfl rfl (And.intro rfl (And.intro rfl (And.intro rfl trivial))) (Nat.le_of_ble_eq_true rfl) ?_
  unfold f_X12_number at hf
  have J42 : ∀ (y3_42 : Int32) (s_42 : sx_M), f_X12_number_J42 y3_42 s_42 = some p → AW l X RX12 "number" cX12_number 4 (some .int) (ax_rm 4 0 0) (ax_MQ X Q 0 0) 0 0 42 [some (.ref 58), none, none, some (.int y3_42)] [] (hp s_42 gb) := by
    intro y3_42 s_42 hf
    unfold f_X12_number_J42 at hf
    refine aw_aload_n dX12_number_42 rfl rfl ?_
    obtain ⟨p1, hp1, hf⟩ := ax_bind hf
    refine aw_cVv (As := []) (st := []) dX12_number_43 cl_X12_122 iv_X12_passes (k_X12_passes (Q := (fun v h' => v = none ∧ h' = hp p1 gb)) s_42 gb hp1 ⟨rfl, rfl⟩) (ci := 12) rfl (hp_get sh_58) rfl rfl rfl (Nat.le_of_ble_eq_true rfl) rfl (by decide) (by decide) ?_
    refine aw_iload_n dX12_number_46 rfl rfl ?_
    cases hf
    exact aw_iret dX12_number_47 hq (Nat.le_refl _) (Nat.le_refl _)
  have J25 : ∀ (y1_25 : Int32) (y2_25 : Int32) (y3_25 : Int32) (s_25 : sx_M), f_X12_number_J25 y1_25 y2_25 y3_25 s_25 = some p → AW l X RX12 "number" cX12_number 4 (some .int) (ax_rm 4 0 0) (ax_MQ X Q 0 0) 0 0 25 [some (.ref 58), some (.int y1_25), some (.int y2_25), some (.int y3_25)] [] (hp s_25 gb) := by
    intro y1_25 y2_25 y3_25 s_25 hf
    unfold f_X12_number_J25 at hf
    refine aw_iload_n dX12_number_25 rfl rfl ?_
    refine aw_i2l dX12_number_26 ?_
    refine aw_iload_n dX12_number_27 rfl rfl ?_
    refine aw_i2l dX12_number_28 ?_
    refine aw_iload_n dX12_number_29 rfl rfl ?_
    refine aw_i2l dX12_number_30 ?_
    obtain ⟨p2, hp2, hf⟩ := ax_bind hf
    refine aw_cSi (As := [.long ((y3_25).toInt64), .long ((y1_25).toInt64), .long ((y2_25).toInt64)]) (st := []) dX12_number_31 cl_X12_64 st_X12_in (k_X12_in (Q := (fun v h' => v = some (.int p2.1) ∧ h' = hp p2.2 gb)) ((y3_25).toInt64) ((y1_25).toInt64) ((y2_25).toInt64) s_25 gb hp2 ⟨rfl, rfl⟩) rfl rfl (Nat.le_of_ble_eq_true rfl) rfl (by decide) (by decide) ?_
    refine aw_if_ne (tgt := 42) dX12_number_34 (by decide) (fun hc1 => ?_) (fun hc1 => ?_)
    · have hf := ax_neg hc1 hf
      refine aw_less (L' := [some (.ref 58), none, none, some (.int y3_25)]) (And.intro rfl (And.intro rfl trivial)) ?_
      exact J42 y3_25 p2.2 hf
    · have hf := ax_pos hc1 hf
      refine aw_aload_n dX12_number_37 rfl rfl ?_
      refine aw_iconst (v := 2) dX12_number_38 (by decide) ?_
      obtain ⟨p3, hp3, hf⟩ := ax_bind hf
      refine aw_cVv (As := [.int (2 : Int32)]) (st := []) dX12_number_39 cl_X12_118 iv_X12_faults (k_X12_faults (Q := (fun v h' => v = none ∧ h' = hp p3 gb)) (2 : Int32) p2.2 gb hp3 ⟨rfl, rfl⟩) (ci := 12) rfl (hp_get sh_58) rfl rfl rfl (Nat.le_of_ble_eq_true rfl) rfl (by decide) (by decide) ?_
      refine aw_less (L' := [some (.ref 58), none, none, some (.int y3_25)]) (And.intro rfl (And.intro rfl trivial)) ?_
      exact J42 y3_25 p3 hf
  refine aw_aload_n dX12_number_0 rfl rfl ?_
  refine aw_gI dX12_number_1 fl_X12_88 sh_58 rfl ?_
  refine aw_istore_n (L' := [some (.ref 58), some (.int x1), some (.int x2), some (.int (rI s 58 11))]) dX12_number_4 rfl (by decide) rfl ?_
  refine aw_aload_n dX12_number_5 rfl rfl ?_
  refine aw_gI dX12_number_6 fl_X12_99 sh_58 rfl ?_
  refine aw_if_ne (tgt := 25) dX12_number_9 (by decide) (fun hc3 => ?_) (fun hc3 => ?_)
  · have hf := ax_neg hc3 hf
    exact J25 x1 x2 (rI s 58 11) s hf
  · have hf := ax_pos hc3 hf
    refine aw_aload_n dX12_number_12 rfl rfl ?_
    refine aw_gI dX12_number_13 fl_X12_91 sh_58 rfl ?_
    refine aw_iconst (v := 2) dX12_number_16 (by decide) ?_
    refine aw_icmp_eq (tgt := 25) dX12_number_17 (by decide) (fun hc2 => ?_) (fun hc2 => ?_)
    · have hf := ax_pos hc2 hf
      exact J25 x1 x2 (rI s 58 11) s hf
    · have hf := ax_neg hc2 hf
      refine aw_aload_n dX12_number_20 rfl rfl ?_
      refine aw_iconst (v := 1) dX12_number_21 (by decide) ?_
      obtain ⟨p4, hp4, hf⟩ := ax_bind hf
      refine aw_cVv (As := [.int (1 : Int32)]) (st := []) dX12_number_22 cl_X12_118 iv_X12_faults (k_X12_faults (Q := (fun v h' => v = none ∧ h' = hp p4 gb)) (1 : Int32) s gb hp4 ⟨rfl, rfl⟩) (ci := 12) rfl (hp_get sh_58) rfl rfl rfl (Nat.le_of_ble_eq_true rfl) rfl (by decide) (by decide) ?_
      exact J25 x1 x2 (rI s 58 11) p4 hf
noncomputable def f_X12_fault (x1 : Int32) (s : sx_M) : Option (Int32 × sx_M) :=
  (if x1 = 0 then
 some ((rI s 58 5), s)
else
 (if x1 = (1 : Int32) then
 some ((rI s 58 6), s)
else
 some ((-1 : Int32), s)))
set_option maxRecDepth 100000 in
set_option maxHeartbeats 4000000 in
theorem k_X12_fault {l : Launch} {X : ax_X} {Q : Option Value → ax_H → Prop} (x1 : Int32) (s : sx_M) (gb : ax_H) {p : Int32 × sx_M} (hf : f_X12_fault x1 s = some p) (hq : Q (some (.int p.1)) (hp p.2 gb)) : AM l X yX12_fault cX12_fault 2 (some .int) 0 0 0 [.ref 58, .int x1] (hp s gb) Q := by
  refine aw_met (own := RX12) (nm := "fault") (L := [some (.ref 58), some (.int x1)]) (by decide +kernel) rfl rfl (And.intro rfl (And.intro rfl trivial)) (Nat.le_of_ble_eq_true rfl) ?_
  unfold f_X12_fault at hf
  refine aw_iload_n dX12_fault_0 rfl rfl ?_
  refine aw_if_ne (tgt := 11) dX12_fault_1 (by decide) (fun hc2 => ?_) (fun hc2 => ?_)
  · have hf := ax_neg hc2 hf
    refine aw_iload_n dX12_fault_11 rfl rfl ?_
    refine aw_iconst (v := 1) dX12_fault_12 (by decide) ?_
    refine aw_icmp_ne (tgt := 23) dX12_fault_13 (by decide) (fun hc1 => ?_) (fun hc1 => ?_)
    · have hf := ax_neg hc1 hf
      refine aw_iconst (v := -1) dX12_fault_23 (by decide) ?_
      cases hf
      exact aw_iret dX12_fault_24 hq (Nat.le_refl _) (Nat.le_refl _)
    · have hf := ax_pos hc1 hf
      refine aw_aload_n dX12_fault_16 rfl rfl ?_
      refine aw_gI dX12_fault_17 fl_X12_23 sh_58 rfl ?_
      refine aw_goto (tgt := 24) dX12_fault_20 (by decide) ?_
      cases hf
      exact aw_iret dX12_fault_24 hq (Nat.le_refl _) (Nat.le_refl _)
  · have hf := ax_pos hc2 hf
    refine aw_aload_n dX12_fault_4 rfl rfl ?_
    refine aw_gI dX12_fault_5 fl_X12_103 sh_58 rfl ?_
    refine aw_goto (tgt := 24) dX12_fault_8 (by decide) ?_
    cases hf
    exact aw_iret dX12_fault_24 hq (Nat.le_refl _) (Nat.le_refl _)
noncomputable def f_X12_digit (x0 : Int32) (x1 : Int32) (x2 : Int32) (s : sx_M) : Option (Int32 × sx_M) :=
  some (((x0 >>> (((3 : Int32) * ((x2 - (1 : Int32)) - x1)) &&& 31)) &&& (7 : Int32)), s)
set_option maxRecDepth 100000 in
set_option maxHeartbeats 4000000 in
theorem k_X12_digit {l : Launch} {X : ax_X} {Q : Option Value → ax_H → Prop} (x0 : Int32) (x1 : Int32) (x2 : Int32) (s : sx_M) (gb : ax_H) {p : Int32 × sx_M} (hf : f_X12_digit x0 x1 x2 s = some p) (hq : Q (some (.int p.1)) (hp p.2 gb)) : AM l X yX12_digit cX12_digit 3 (some .int) 0 0 0 [.int x0, .int x1, .int x2] (hp s gb) Q := by
  refine aw_met (own := RX12) (nm := "digit") (L := [some (.int x0), some (.int x1), some (.int x2)]) (by decide +kernel) rfl rfl (And.intro rfl (And.intro rfl (And.intro rfl trivial))) (Nat.le_of_ble_eq_true rfl) ?_
  unfold f_X12_digit at hf
  refine aw_iload_n dX12_digit_0 rfl rfl ?_
  refine aw_iconst (v := 3) dX12_digit_1 (by decide) ?_
  refine aw_iload_n dX12_digit_2 rfl rfl ?_
  refine aw_iconst (v := 1) dX12_digit_3 (by decide) ?_
  refine aw_isub dX12_digit_4 ?_
  refine aw_iload_n dX12_digit_5 rfl rfl ?_
  refine aw_isub dX12_digit_6 ?_
  refine aw_imul dX12_digit_7 ?_
  refine aw_ishr dX12_digit_8 ?_
  refine aw_bipush (v := 7) dX12_digit_9 (by decide) ?_
  refine aw_iand dX12_digit_11 ?_
  cases hf
  exact aw_iret dX12_digit_12 hq (Nat.le_refl _) (Nat.le_refl _)
noncomputable def f_X12_jobOf (x1 : Int32) (x2 : Int32) (s : sx_M) : Option (Int32 × sx_M) :=
  (if ¬ (x1 < 0 ∨ 40320 ≤ (x1).toNatClampNeg) then
 (f_X12_workers s).bind (fun p1 =>
 (f_X12_digit (rA s 63 (x1).toNatClampNeg) x2 p1.1 p1.2).bind (fun p2 =>
 some (p2.1, p2.2)))
else none)
set_option maxRecDepth 100000 in
set_option maxHeartbeats 4000000 in
theorem k_X12_jobOf {l : Launch} {X : ax_X} {Q : Option Value → ax_H → Prop} (x1 : Int32) (x2 : Int32) (s : sx_M) (gb : ax_H) {p : Int32 × sx_M} (hf : f_X12_jobOf x1 x2 s = some p) (hq : Q (some (.int p.1)) (hp p.2 gb)) : AM l X yX12_jobOf cX12_jobOf 3 (some .int) 1 0 0 [.ref 58, .int x1, .int x2] (hp s gb) Q := by
  refine aw_met (own := RX12) (nm := "jobOf") (L := [some (.ref 58), some (.int x1), some (.int x2)]) (by decide +kernel) rfl rfl (And.intro rfl (And.intro rfl (And.intro rfl trivial))) (Nat.le_of_ble_eq_true rfl) ?_
  unfold f_X12_jobOf at hf
  refine aw_aload_n dX12_jobOf_0 rfl rfl ?_
  refine aw_gR dX12_jobOf_1 fl_X12_31 sh_58 rfl ?_
  refine aw_iload_n dX12_jobOf_4 rfl rfl ?_
  obtain ⟨hc1, hf⟩ := ax_ite hf
  refine aw_lA dX12_jobOf_5 sh_63 hc1 ?_
  refine aw_iload_n dX12_jobOf_6 rfl rfl ?_
  refine aw_aload_n dX12_jobOf_7 rfl rfl ?_
  obtain ⟨p1, hp1, hf⟩ := ax_bind hf
  refine aw_cVi (As := []) (st := [.int x2, .int (rA s 63 (x1).toNatClampNeg)]) dX12_jobOf_8 cl_X12_60 iv_X12_workers (k_X12_workers (Q := (fun v h' => v = some (.int p1.1) ∧ h' = hp p1.2 gb)) s gb hp1 ⟨rfl, rfl⟩) (ci := 12) rfl (hp_get sh_58) rfl rfl rfl (Nat.le_of_ble_eq_true rfl) rfl (by decide) (by decide) ?_
  obtain ⟨p2, hp2, hf⟩ := ax_bind hf
  refine aw_cSi (As := [.int (rA s 63 (x1).toNatClampNeg), .int x2, .int p1.1]) (st := []) dX12_jobOf_11 cl_X12_150 st_X12_digit (k_X12_digit (Q := (fun v h' => v = some (.int p2.1) ∧ h' = hp p2.2 gb)) (rA s 63 (x1).toNatClampNeg) x2 p1.1 p1.2 gb hp2 ⟨rfl, rfl⟩) rfl rfl (Nat.le_of_ble_eq_true rfl) rfl (by decide) (by decide) ?_
  cases hf
  exact aw_iret dX12_jobOf_14 hq (Nat.le_refl _) (Nat.le_refl _)
noncomputable def f_X12_canTake (x1 : Int32) (x2 : Int32) (x3 : Int32) (x4 : Int32) (s : sx_M) : Option (Int32 × sx_M) :=
  (if x1 = x4 then
 (if x2 = 0 then
 some ((1 : Int32), s)
else
 some ((0 : Int32), s))
else
 (f_X12_has x3 x2 s).bind (fun p1 =>
 (if p1.1 = 0 then
 some ((0 : Int32), p1.2)
else
 (f_X12_costOf x1 x2 p1.2).bind (fun p2 =>
 (if p2.1 = (2147483647 : Int32) then
 some ((0 : Int32), p2.2)
else
 some ((1 : Int32), p2.2))))))
set_option maxRecDepth 100000 in
set_option maxHeartbeats 4000000 in
theorem k_X12_canTake {l : Launch} {X : ax_X} {Q : Option Value → ax_H → Prop} (x1 : Int32) (x2 : Int32) (x3 : Int32) (x4 : Int32) (s : sx_M) (gb : ax_H) {p : Int32 × sx_M} (hf : f_X12_canTake x1 x2 x3 x4 s = some p) (hq : Q (some (.int p.1)) (hp p.2 gb)) : AM l X yX12_canTake cX12_canTake 5 (some .boolean) 2 0 0 [.ref 58, .int x1, .int x2, .int x3, .int x4] (hp s gb) Q := by
  refine aw_met (own := RX12) (nm := "canTake") (L := [some (.ref 58), some (.int x1), some (.int x2), some (.int x3), some (.int x4)]) (by decide +kernel) rfl rfl (And.intro rfl (And.intro rfl (And.intro rfl (And.intro rfl (And.intro rfl trivial))))) (Nat.le_of_ble_eq_true rfl) ?_
  unfold f_X12_canTake at hf
  refine aw_iload_n dX12_canTake_0 rfl rfl ?_
  refine aw_iload dX12_canTake_1 rfl ?_
  refine aw_icmp_ne (tgt := 16) dX12_canTake_3 (by decide) (fun hc4 => ?_) (fun hc4 => ?_)
  · have hf := ax_neg hc4 hf
    refine aw_iload_n dX12_canTake_16 rfl rfl ?_
    refine aw_iload_n dX12_canTake_17 rfl rfl ?_
    obtain ⟨p1, hp1, hf⟩ := ax_bind hf
    refine aw_cSi (As := [.int x3, .int x2]) (st := []) dX12_canTake_18 cl_X12_164 st_X12_has (k_X12_has (Q := (fun v h' => v = some (.int p1.1) ∧ h' = hp p1.2 gb)) x3 x2 s gb hp1 ⟨rfl, rfl⟩) rfl rfl (Nat.le_of_ble_eq_true rfl) rfl (by decide) (by decide) ?_
    refine aw_if_eq (tgt := 39) dX12_canTake_21 (by decide) (fun hc2 => ?_) (fun hc2 => ?_)
    · have hf := ax_pos hc2 hf
      refine aw_iconst (v := 0) dX12_canTake_39 (by decide) ?_
      cases hf
      exact aw_zret dX12_canTake_40 (by decide) hq (Nat.le_refl _) (Nat.le_refl _)
    · have hf := ax_neg hc2 hf
      refine aw_aload_n dX12_canTake_24 rfl rfl ?_
      refine aw_iload_n dX12_canTake_25 rfl rfl ?_
      refine aw_iload_n dX12_canTake_26 rfl rfl ?_
      obtain ⟨p2, hp2, hf⟩ := ax_bind hf
      refine aw_cVi (As := [.int x1, .int x2]) (st := []) dX12_canTake_27 cl_X12_157 iv_X12_costOf (k_X12_costOf (Q := (fun v h' => v = some (.int p2.1) ∧ h' = hp p2.2 gb)) x1 x2 p1.2 gb hp2 ⟨rfl, rfl⟩) (ci := 12) rfl (hp_get sh_58) rfl rfl rfl (Nat.le_of_ble_eq_true rfl) rfl (by decide) (by decide) ?_
      refine aw_ldc dX12_canTake_30 kc_X12_131 ?_
      refine aw_icmp_eq (tgt := 39) dX12_canTake_32 (by decide) (fun hc1 => ?_) (fun hc1 => ?_)
      · have hf := ax_pos hc1 hf
        refine aw_iconst (v := 0) dX12_canTake_39 (by decide) ?_
        cases hf
        exact aw_zret dX12_canTake_40 (by decide) hq (Nat.le_refl _) (Nat.le_refl _)
      · have hf := ax_neg hc1 hf
        refine aw_iconst (v := 1) dX12_canTake_35 (by decide) ?_
        refine aw_goto (tgt := 40) dX12_canTake_36 (by decide) ?_
        cases hf
        exact aw_zret dX12_canTake_40 (by decide) hq (Nat.le_refl _) (Nat.le_refl _)
  · have hf := ax_pos hc4 hf
    refine aw_iload_n dX12_canTake_6 rfl rfl ?_
    refine aw_if_ne (tgt := 14) dX12_canTake_7 (by decide) (fun hc3 => ?_) (fun hc3 => ?_)
    · have hf := ax_neg hc3 hf
      refine aw_iconst (v := 0) dX12_canTake_14 (by decide) ?_
      cases hf
      exact aw_zret dX12_canTake_15 (by decide) hq (Nat.le_refl _) (Nat.le_refl _)
    · have hf := ax_pos hc3 hf
      refine aw_iconst (v := 1) dX12_canTake_10 (by decide) ?_
      refine aw_goto (tgt := 15) dX12_canTake_11 (by decide) ?_
      cases hf
      exact aw_zret dX12_canTake_15 (by decide) hq (Nat.le_refl _) (Nat.le_refl _)
noncomputable def f_X12_goesThrough_L50_J209 (z1 : Int32) (z2 : Int32) (y3_209 : Int32) (y4_209 : Int32) (y5_209 : Int32) (y6_209 : Int32) (y7_209 : Int32) (s_209 : sx_M) : Option ((Int32 × Int32 × Int32 × Int32 × sx_M) ⊕ (sx_M)) :=
  (f_X12_workers s_209).bind (fun p2 =>
 (f_X12_workers p2.2).bind (fun p3 =>
 (if y3_209 = (p3.1 - (1 : Int32)) then
 (if ¬ ((rI p3.2 58 15) < 0 ∨ 40320 ≤ ((rI p3.2 58 15)).toNatClampNeg) then
 (if ¬ ((rI (wA p3.2 63 ((rI p3.2 58 15)).toNatClampNeg (y6_209 ||| (y7_209 <<< (((3 : Int32) * ((p2.1 - (1 : Int32)) - y3_209)) &&& 31)))) 58 15) < 0 ∨ 40320 ≤ ((rI (wA p3.2 63 ((rI p3.2 58 15)).toNatClampNeg (y6_209 ||| (y7_209 <<< (((3 : Int32) * ((p2.1 - (1 : Int32)) - y3_209)) &&& 31)))) 58 15)).toNatClampNeg) then
 some (.inl (y3_209, y4_209, y5_209, (y6_209 ||| (y7_209 <<< (((3 : Int32) * ((p2.1 - (1 : Int32)) - y3_209)) &&& 31))), (wI (wA (wA p3.2 63 ((rI p3.2 58 15)).toNatClampNeg (y6_209 ||| (y7_209 <<< (((3 : Int32) * ((p2.1 - (1 : Int32)) - y3_209)) &&& 31)))) 64 ((rI (wA p3.2 63 ((rI p3.2 58 15)).toNatClampNeg (y6_209 ||| (y7_209 <<< (((3 : Int32) * ((p2.1 - (1 : Int32)) - y3_209)) &&& 31)))) 58 15)).toNatClampNeg y5_209) 58 15 ((rI (wA (wA p3.2 63 ((rI p3.2 58 15)).toNatClampNeg (y6_209 ||| (y7_209 <<< (((3 : Int32) * ((p2.1 - (1 : Int32)) - y3_209)) &&& 31)))) 64 ((rI (wA p3.2 63 ((rI p3.2 58 15)).toNatClampNeg (y6_209 ||| (y7_209 <<< (((3 : Int32) * ((p2.1 - (1 : Int32)) - y3_209)) &&& 31)))) 58 15)).toNatClampNeg y5_209) 58 15) + (1 : Int32)))))
else none)
else none)
else
 (if ¬ ((y3_209 + (1 : Int32)) < 0 ∨ 7 ≤ ((y3_209 + (1 : Int32))).toNatClampNeg) then
 some (.inl ((y3_209 + (1 : Int32)), y4_209, y5_209, (y6_209 ||| (y7_209 <<< (((3 : Int32) * ((p2.1 - (1 : Int32)) - y3_209)) &&& 31))), (wA p3.2 65 ((y3_209 + (1 : Int32))).toNatClampNeg (-1 : Int32))))
else none))))
noncomputable def f_X12_goesThrough_L132 (z1 : Int32) (z2 : Int32) (z1 : Int32) (z2 : Int32) (z3 : Int32) (z4 : Int32) (z5 : Int32) (z6 : Int32) (a132 : Int32 × sx_M) : Option ((Int32 × sx_M) ⊕ (Int32 × sx_M)) :=
  (if (8 : Int32) ≤ a132.1 then
 some (.inr (a132.1, a132.2))
else
 (f_X12_canTake z3 a132.1 (z1 &&& (z4 ^^^ (-1 : Int32))) z2 a132.2).bind (fun p6 =>
 (if p6.1 = 0 then
 some (.inl ((a132.1 + (1 : Int32)), p6.2))
else
 some (.inr (a132.1, p6.2)))))
noncomputable def f_X12_goesThrough_L50_J100 (z1 : Int32) (z2 : Int32) (y3_100 : Int32) (y4_100 : Int32) (y5_100 : Int32) (y6_100 : Int32) (s_100 : sx_M) : Option ((Int32 × Int32 × Int32 × Int32 × sx_M) ⊕ (sx_M)) :=
  (f_X12_workers s_100).bind (fun p4 =>
 (f_X12_workers p4.2).bind (fun p5 =>
 (if ¬ (y3_100 < 0 ∨ 7 ≤ (y3_100).toNatClampNeg) then
 (whT (f_X12_goesThrough_L132 z1 z2 z1 z2 y3_100 y4_100 y5_100 ((y6_100 >>> (((3 : Int32) * (p4.1 - y3_100)) &&& 31)) <<< (((3 : Int32) * (p5.1 - y3_100)) &&& 31))) (((rA p5.2 65 (y3_100).toNatClampNeg) + (1 : Int32)), p5.2)).bind (fun b7 =>
 (if ¬ (y3_100 < 0 ∨ 7 ≤ (y3_100).toNatClampNeg) then
 (if b7.1 = (8 : Int32) then
 some (.inl ((y3_100 + (-1 : Int32)), y4_100, y5_100, ((y6_100 >>> (((3 : Int32) * (p4.1 - y3_100)) &&& 31)) <<< (((3 : Int32) * (p5.1 - y3_100)) &&& 31)), (wA b7.2 65 (y3_100).toNatClampNeg b7.1)))
else
 (if y3_100 = z2 then
 f_X12_goesThrough_L50_J209 z1 z2 y3_100 y4_100 y5_100 ((y6_100 >>> (((3 : Int32) * (p4.1 - y3_100)) &&& 31)) <<< (((3 : Int32) * (p5.1 - y3_100)) &&& 31)) b7.1 (wA b7.2 65 (y3_100).toNatClampNeg b7.1)
else
 (f_X12_costOf y3_100 b7.1 (wA b7.2 65 (y3_100).toNatClampNeg b7.1)).bind (fun p8 =>
 f_X12_goesThrough_L50_J209 z1 z2 y3_100 (y4_100 ||| ((1 : Int32) <<< (b7.1 &&& 31))) (y5_100 + p8.1) ((y6_100 >>> (((3 : Int32) * (p4.1 - y3_100)) &&& 31)) <<< (((3 : Int32) * (p5.1 - y3_100)) &&& 31)) b7.1 p8.2)))
else none))
else none)))
noncomputable def f_X12_goesThrough_L50 (z1 : Int32) (z2 : Int32) (a50 : Int32 × Int32 × Int32 × Int32 × sx_M) : Option ((Int32 × Int32 × Int32 × Int32 × sx_M) ⊕ (sx_M)) :=
  (if a50.1 < 0 then
 some (.inr a50.2.2.2.2)
else
 (if ¬ (a50.1 < 0 ∨ 7 ≤ (a50.1).toNatClampNeg) then
 (if (rA a50.2.2.2.2 65 (a50.1).toNatClampNeg) = (-1 : Int32) then
 f_X12_goesThrough_L50_J100 z1 z2 a50.1 a50.2.1 a50.2.2.1 a50.2.2.2.1 a50.2.2.2.2
else
 (if a50.1 = z2 then
 f_X12_goesThrough_L50_J100 z1 z2 a50.1 a50.2.1 a50.2.2.1 a50.2.2.2.1 a50.2.2.2.2
else
 (if ¬ (a50.1 < 0 ∨ 7 ≤ (a50.1).toNatClampNeg) then
 (if ¬ (a50.1 < 0 ∨ 7 ≤ (a50.1).toNatClampNeg) then
 (f_X12_costOf a50.1 (rA a50.2.2.2.2 65 (a50.1).toNatClampNeg) a50.2.2.2.2).bind (fun p9 =>
 f_X12_goesThrough_L50_J100 z1 z2 a50.1 (a50.2.1 &&& (((1 : Int32) <<< ((rA a50.2.2.2.2 65 (a50.1).toNatClampNeg) &&& 31)) ^^^ (-1 : Int32))) (a50.2.2.1 - p9.1) a50.2.2.2.1 p9.2)
else none)
else none)))
else none))
noncomputable def f_X12_goesThrough (x1 : Int32) (x2 : Int32) (s : sx_M) : Option sx_M :=
  (f_X12_workers (wA (wI s 58 15 (0 : Int32)) 65 ((0 : Int32)).toNatClampNeg (-1 : Int32))).bind (fun p1 =>
 (if p1.1 = 0 then
 some (wI (wA (wA p1.2 63 ((0 : Int32)).toNatClampNeg (0 : Int32)) 64 ((0 : Int32)).toNatClampNeg (0 : Int32)) 58 15 (1 : Int32))
else
 (whT (f_X12_goesThrough_L50 x1 x2) ((0 : Int32), (0 : Int32), (0 : Int32), (0 : Int32), p1.2)).bind (fun b10 =>
 some b10)))
set_option maxRecDepth 100000 in
set_option maxHeartbeats 4000000 in
theorem k_X12_goesThrough {l : Launch} {X : ax_X} {Q : Option Value → ax_H → Prop} (x1 : Int32) (x2 : Int32) (s : sx_M) (gb : ax_H) {p : sx_M} (hf : f_X12_goesThrough x1 x2 s = some p) (hq : Q (none) (hp p gb)) : AM l X yX12_goesThrough cX12_goesThrough 8 none 3 0 0 [.ref 58, .int x1, .int x2] (hp s gb) Q := by
  refine aw_met (own := RX12) (nm := "goesThrough") (L := [some (.ref 58), some (.int x1), some (.int x2), none, none, none, none, none]) (by decide +kernel) rfl rfl (And.intro rfl (And.intro rfl (And.intro rfl trivial))) (Nat.le_of_ble_eq_true rfl) ?_
  unfold f_X12_goesThrough at hf
  refine aw_aload_n dX12_goesThrough_0 rfl rfl ?_
  refine aw_iconst (v := 0) dX12_goesThrough_1 (by decide) ?_
  refine aw_pI dX12_goesThrough_2 fp_X12_154 sh_58 rfl rfl rfl ?_
  refine aw_iconst (v := 0) dX12_goesThrough_5 (by decide) ?_
  refine aw_istore_n (L' := [some (.ref 58), some (.int x1), some (.int x2), some (.int (0 : Int32)), none, none, none, none]) dX12_goesThrough_6 rfl (by decide) rfl ?_
  refine aw_iconst (v := 0) dX12_goesThrough_7 (by decide) ?_
  refine aw_istore (L' := [some (.ref 58), some (.int x1), some (.int x2), some (.int (0 : Int32)), some (.int (0 : Int32)), none, none, none]) dX12_goesThrough_8 (by decide) rfl ?_
  refine aw_iconst (v := 0) dX12_goesThrough_10 (by decide) ?_
  refine aw_istore (L' := [some (.ref 58), some (.int x1), some (.int x2), some (.int (0 : Int32)), some (.int (0 : Int32)), some (.int (0 : Int32)), none, none]) dX12_goesThrough_11 (by decide) rfl ?_
  refine aw_iconst (v := 0) dX12_goesThrough_13 (by decide) ?_
  refine aw_istore (L' := [some (.ref 58), some (.int x1), some (.int x2), some (.int (0 : Int32)), some (.int (0 : Int32)), some (.int (0 : Int32)), some (.int (0 : Int32)), none]) dX12_goesThrough_14 (by decide) rfl ?_
  refine aw_aload_n dX12_goesThrough_16 rfl rfl ?_
  refine aw_gR dX12_goesThrough_17 fl_X12_37 sh_58 rfl ?_
  refine aw_iconst (v := 0) dX12_goesThrough_20 (by decide) ?_
  refine aw_iconst (v := -1) dX12_goesThrough_21 (by decide) ?_
  refine aw_sA dX12_goesThrough_22 sh_65 (by decide) ?_
  refine aw_aload_n dX12_goesThrough_23 rfl rfl ?_
  obtain ⟨p1, hp1, hf⟩ := ax_bind hf
  refine aw_cVi (As := []) (st := []) dX12_goesThrough_24 cl_X12_60 iv_X12_workers (k_X12_workers (Q := (fun v h' => v = some (.int p1.1) ∧ h' = hp p1.2 gb)) (wA (wI s 58 15 (0 : Int32)) 65 ((0 : Int32)).toNatClampNeg (-1 : Int32)) gb hp1 ⟨rfl, rfl⟩) (ci := 12) rfl (hp_get sh_58) rfl rfl rfl (Nat.le_of_ble_eq_true rfl) rfl (by decide) (by decide) ?_
  refine aw_if_ne (tgt := 50) dX12_goesThrough_27 (by decide) (fun hc17 => ?_) (fun hc17 => ?_)
  · have hf := ax_neg hc17 hf
    obtain ⟨b10, hb10, hf⟩ := ax_bind hf
    refine wh_go ((0 : Int32), (0 : Int32), (0 : Int32), (0 : Int32), p1.2) (fun a50 : Int32 × Int32 × Int32 × Int32 × sx_M => AW l X RX12 "goesThrough" cX12_goesThrough 8 none (ax_rm 3 0 0) (ax_MQ X Q 0 0) 0 0 50 [some (.ref 58), some (.int x1), some (.int x2), some (.int a50.1), some (.int a50.2.1), some (.int a50.2.2.1), some (.int a50.2.2.2.1), none] [] (hp a50.2.2.2.2 gb)) (fun e : sx_M => AW l X RX12 "goesThrough" cX12_goesThrough 8 none (ax_rm 3 0 0) (ax_MQ X Q 0 0) 0 0 285 [none, none, none, none, none, none, none, none] [] (hp e gb)) hb10 ?_ ?_
    · intro a50 r hf hK
      unfold f_X12_goesThrough_L50 at hf
      have J209 : ∀ (y3_209 : Int32) (y4_209 : Int32) (y5_209 : Int32) (y6_209 : Int32) (y7_209 : Int32) (s_209 : sx_M), f_X12_goesThrough_L50_J209 x1 x2 y3_209 y4_209 y5_209 y6_209 y7_209 s_209 = some r → AW l X RX12 "goesThrough" cX12_goesThrough 8 none (ax_rm 3 0 0) (ax_MQ X Q 0 0) 0 0 209 [some (.ref 58), some (.int x1), some (.int x2), some (.int y3_209), some (.int y4_209), some (.int y5_209), some (.int y6_209), some (.int y7_209)] [] (hp s_209 gb) := by
        intro y3_209 y4_209 y5_209 y6_209 y7_209 s_209 hf
        unfold f_X12_goesThrough_L50_J209 at hf
        refine aw_iload dX12_goesThrough_209 rfl ?_
        refine aw_iload dX12_goesThrough_211 rfl ?_
        refine aw_iconst (v := 3) dX12_goesThrough_213 (by decide) ?_
        refine aw_aload_n dX12_goesThrough_214 rfl rfl ?_
        obtain ⟨p2, hp2, hf⟩ := ax_bind hf
        refine aw_cVi (As := []) (st := [.int (3 : Int32), .int y7_209, .int y6_209]) dX12_goesThrough_215 cl_X12_60 iv_X12_workers (k_X12_workers (Q := (fun v h' => v = some (.int p2.1) ∧ h' = hp p2.2 gb)) s_209 gb hp2 ⟨rfl, rfl⟩) (ci := 12) rfl (hp_get sh_58) rfl rfl rfl (Nat.le_of_ble_eq_true rfl) rfl (by decide) (by decide) ?_
        refine aw_iconst (v := 1) dX12_goesThrough_218 (by decide) ?_
        refine aw_isub dX12_goesThrough_219 ?_
        refine aw_iload_n dX12_goesThrough_220 rfl rfl ?_
        refine aw_isub dX12_goesThrough_221 ?_
        refine aw_imul dX12_goesThrough_222 ?_
        refine aw_ishl dX12_goesThrough_223 ?_
        refine aw_ior dX12_goesThrough_224 ?_
        refine aw_istore (L' := [some (.ref 58), some (.int x1), some (.int x2), some (.int y3_209), some (.int y4_209), some (.int y5_209), some (.int (y6_209 ||| (y7_209 <<< (((3 : Int32) * ((p2.1 - (1 : Int32)) - y3_209)) &&& 31)))), some (.int y7_209)]) dX12_goesThrough_225 (by decide) rfl ?_
        refine aw_iload_n dX12_goesThrough_227 rfl rfl ?_
        refine aw_aload_n dX12_goesThrough_228 rfl rfl ?_
        obtain ⟨p3, hp3, hf⟩ := ax_bind hf
        refine aw_cVi (As := []) (st := [.int y3_209]) dX12_goesThrough_229 cl_X12_60 iv_X12_workers (k_X12_workers (Q := (fun v h' => v = some (.int p3.1) ∧ h' = hp p3.2 gb)) p2.2 gb hp3 ⟨rfl, rfl⟩) (ci := 12) rfl (hp_get sh_58) rfl rfl rfl (Nat.le_of_ble_eq_true rfl) rfl (by decide) (by decide) ?_
        refine aw_iconst (v := 1) dX12_goesThrough_232 (by decide) ?_
        refine aw_isub dX12_goesThrough_233 ?_
        refine aw_icmp_ne (tgt := 272) dX12_goesThrough_234 (by decide) (fun hc4 => ?_) (fun hc4 => ?_)
        · have hf := ax_neg hc4 hf
          refine aw_iinc (v := (y3_209 + (1 : Int32))) (L' := [some (.ref 58), some (.int x1), some (.int x2), some (.int (y3_209 + (1 : Int32))), some (.int y4_209), some (.int y5_209), some (.int (y6_209 ||| (y7_209 <<< (((3 : Int32) * ((p2.1 - (1 : Int32)) - y3_209)) &&& 31)))), some (.int y7_209)]) dX12_goesThrough_272 rfl rfl (by decide) rfl ?_
          refine aw_aload_n dX12_goesThrough_275 rfl rfl ?_
          refine aw_gR dX12_goesThrough_276 fl_X12_37 sh_58 rfl ?_
          refine aw_iload_n dX12_goesThrough_279 rfl rfl ?_
          refine aw_iconst (v := -1) dX12_goesThrough_280 (by decide) ?_
          obtain ⟨hc1, hf⟩ := ax_ite hf
          refine aw_sA dX12_goesThrough_281 sh_65 hc1 ?_
          refine aw_goto (tgt := 50) dX12_goesThrough_282 (by decide) ?_
          refine aw_less (L' := [some (.ref 58), some (.int x1), some (.int x2), some (.int (y3_209 + (1 : Int32))), some (.int y4_209), some (.int y5_209), some (.int (y6_209 ||| (y7_209 <<< (((3 : Int32) * ((p2.1 - (1 : Int32)) - y3_209)) &&& 31)))), none]) (And.intro rfl (And.intro rfl (And.intro rfl (And.intro rfl (And.intro rfl (And.intro rfl (And.intro rfl trivial))))))) ?_
          cases hf
          exact hK
        · have hf := ax_pos hc4 hf
          refine aw_aload_n dX12_goesThrough_237 rfl rfl ?_
          refine aw_gR dX12_goesThrough_238 fl_X12_31 sh_58 rfl ?_
          refine aw_aload_n dX12_goesThrough_241 rfl rfl ?_
          refine aw_gI dX12_goesThrough_242 fl_X12_154 sh_58 rfl ?_
          refine aw_iload dX12_goesThrough_245 rfl ?_
          obtain ⟨hc2, hf⟩ := ax_ite hf
          refine aw_sA dX12_goesThrough_247 sh_63 hc2 ?_
          refine aw_aload_n dX12_goesThrough_248 rfl rfl ?_
          refine aw_gR dX12_goesThrough_249 fl_X12_34 sh_58 rfl ?_
          refine aw_aload_n dX12_goesThrough_252 rfl rfl ?_
          refine aw_gI dX12_goesThrough_253 fl_X12_154 sh_58 rfl ?_
          refine aw_iload dX12_goesThrough_256 rfl ?_
          obtain ⟨hc3, hf⟩ := ax_ite hf
          refine aw_sA dX12_goesThrough_258 sh_64 hc3 ?_
          refine aw_aload_n dX12_goesThrough_259 rfl rfl ?_
          refine aw_dup dX12_goesThrough_260 rfl ?_
          refine aw_gI dX12_goesThrough_261 fl_X12_154 sh_58 rfl ?_
          refine aw_iconst (v := 1) dX12_goesThrough_264 (by decide) ?_
          refine aw_iadd dX12_goesThrough_265 ?_
          refine aw_pI dX12_goesThrough_266 fp_X12_154 sh_58 rfl rfl rfl ?_
          refine aw_goto (tgt := 282) dX12_goesThrough_269 (by decide) ?_
          refine aw_goto (tgt := 50) dX12_goesThrough_282 (by decide) ?_
          refine aw_less (L' := [some (.ref 58), some (.int x1), some (.int x2), some (.int y3_209), some (.int y4_209), some (.int y5_209), some (.int (y6_209 ||| (y7_209 <<< (((3 : Int32) * ((p2.1 - (1 : Int32)) - y3_209)) &&& 31)))), none]) (And.intro rfl (And.intro rfl (And.intro rfl (And.intro rfl (And.intro rfl (And.intro rfl (And.intro rfl trivial))))))) ?_
          cases hf
          exact hK
      have J100 : ∀ (y3_100 : Int32) (y4_100 : Int32) (y5_100 : Int32) (y6_100 : Int32) (s_100 : sx_M), f_X12_goesThrough_L50_J100 x1 x2 y3_100 y4_100 y5_100 y6_100 s_100 = some r → AW l X RX12 "goesThrough" cX12_goesThrough 8 none (ax_rm 3 0 0) (ax_MQ X Q 0 0) 0 0 100 [some (.ref 58), some (.int x1), some (.int x2), some (.int y3_100), some (.int y4_100), some (.int y5_100), some (.int y6_100), none] [] (hp s_100 gb) := by
        intro y3_100 y4_100 y5_100 y6_100 s_100 hf
        unfold f_X12_goesThrough_L50_J100 at hf
        refine aw_iload dX12_goesThrough_100 rfl ?_
        refine aw_iconst (v := 3) dX12_goesThrough_102 (by decide) ?_
        refine aw_aload_n dX12_goesThrough_103 rfl rfl ?_
        obtain ⟨p4, hp4, hf⟩ := ax_bind hf
        refine aw_cVi (As := []) (st := [.int (3 : Int32), .int y6_100]) dX12_goesThrough_104 cl_X12_60 iv_X12_workers (k_X12_workers (Q := (fun v h' => v = some (.int p4.1) ∧ h' = hp p4.2 gb)) s_100 gb hp4 ⟨rfl, rfl⟩) (ci := 12) rfl (hp_get sh_58) rfl rfl rfl (Nat.le_of_ble_eq_true rfl) rfl (by decide) (by decide) ?_
        refine aw_iload_n dX12_goesThrough_107 rfl rfl ?_
        refine aw_isub dX12_goesThrough_108 ?_
        refine aw_imul dX12_goesThrough_109 ?_
        refine aw_ishr dX12_goesThrough_110 ?_
        refine aw_iconst (v := 3) dX12_goesThrough_111 (by decide) ?_
        refine aw_aload_n dX12_goesThrough_112 rfl rfl ?_
        obtain ⟨p5, hp5, hf⟩ := ax_bind hf
        refine aw_cVi (As := []) (st := [.int (3 : Int32), .int (y6_100 >>> (((3 : Int32) * (p4.1 - y3_100)) &&& 31))]) dX12_goesThrough_113 cl_X12_60 iv_X12_workers (k_X12_workers (Q := (fun v h' => v = some (.int p5.1) ∧ h' = hp p5.2 gb)) p4.2 gb hp5 ⟨rfl, rfl⟩) (ci := 12) rfl (hp_get sh_58) rfl rfl rfl (Nat.le_of_ble_eq_true rfl) rfl (by decide) (by decide) ?_
        refine aw_iload_n dX12_goesThrough_116 rfl rfl ?_
        refine aw_isub dX12_goesThrough_117 ?_
        refine aw_imul dX12_goesThrough_118 ?_
        refine aw_ishl dX12_goesThrough_119 ?_
        refine aw_istore (L' := [some (.ref 58), some (.int x1), some (.int x2), some (.int y3_100), some (.int y4_100), some (.int y5_100), some (.int ((y6_100 >>> (((3 : Int32) * (p4.1 - y3_100)) &&& 31)) <<< (((3 : Int32) * (p5.1 - y3_100)) &&& 31))), none]) dX12_goesThrough_120 (by decide) rfl ?_
        refine aw_aload_n dX12_goesThrough_122 rfl rfl ?_
        refine aw_gR dX12_goesThrough_123 fl_X12_37 sh_58 rfl ?_
        refine aw_iload_n dX12_goesThrough_126 rfl rfl ?_
        obtain ⟨hc5, hf⟩ := ax_ite hf
        refine aw_lA dX12_goesThrough_127 sh_65 hc5 ?_
        refine aw_iconst (v := 1) dX12_goesThrough_128 (by decide) ?_
        refine aw_iadd dX12_goesThrough_129 ?_
        refine aw_istore (L' := [some (.ref 58), some (.int x1), some (.int x2), some (.int y3_100), some (.int y4_100), some (.int y5_100), some (.int ((y6_100 >>> (((3 : Int32) * (p4.1 - y3_100)) &&& 31)) <<< (((3 : Int32) * (p5.1 - y3_100)) &&& 31))), some (.int ((rA p5.2 65 (y3_100).toNatClampNeg) + (1 : Int32)))]) dX12_goesThrough_130 (by decide) rfl ?_
        obtain ⟨b7, hb7, hf⟩ := ax_bind hf
        refine wh_go (((rA p5.2 65 (y3_100).toNatClampNeg) + (1 : Int32)), p5.2) (fun a132 : Int32 × sx_M => AW l X RX12 "goesThrough" cX12_goesThrough 8 none (ax_rm 3 0 0) (ax_MQ X Q 0 0) 0 0 132 [some (.ref 58), some (.int x1), some (.int x2), some (.int y3_100), some (.int y4_100), some (.int y5_100), some (.int ((y6_100 >>> (((3 : Int32) * (p4.1 - y3_100)) &&& 31)) <<< (((3 : Int32) * (p5.1 - y3_100)) &&& 31))), some (.int a132.1)] [] (hp a132.2 gb)) (fun e : Int32 × sx_M => AW l X RX12 "goesThrough" cX12_goesThrough 8 none (ax_rm 3 0 0) (ax_MQ X Q 0 0) 0 0 162 [some (.ref 58), some (.int x1), some (.int x2), some (.int y3_100), some (.int y4_100), some (.int y5_100), some (.int ((y6_100 >>> (((3 : Int32) * (p4.1 - y3_100)) &&& 31)) <<< (((3 : Int32) * (p5.1 - y3_100)) &&& 31))), some (.int e.1)] [] (hp e.2 gb)) hb7 ?_ ?_
        · intro a132 r hf hK
          unfold f_X12_goesThrough_L132 at hf
          refine aw_iload dX12_goesThrough_132 rfl ?_
          refine aw_bipush (v := 8) dX12_goesThrough_134 (by decide) ?_
          refine aw_icmp_ge (tgt := 162) dX12_goesThrough_136 (by decide) (fun hc7 => ?_) (fun hc7 => ?_)
          · have hf := ax_pos hc7 hf
            cases hf
            exact hK
          · have hf := ax_neg hc7 hf
            refine aw_aload_n dX12_goesThrough_139 rfl rfl ?_
            refine aw_iload_n dX12_goesThrough_140 rfl rfl ?_
            refine aw_iload dX12_goesThrough_141 rfl ?_
            refine aw_iload_n dX12_goesThrough_143 rfl rfl ?_
            refine aw_iload dX12_goesThrough_144 rfl ?_
            refine aw_iconst (v := -1) dX12_goesThrough_146 (by decide) ?_
            refine aw_ixor dX12_goesThrough_147 ?_
            refine aw_iand dX12_goesThrough_148 ?_
            refine aw_iload_n dX12_goesThrough_149 rfl rfl ?_
            obtain ⟨p6, hp6, hf⟩ := ax_bind hf
            refine aw_cVi (As := [.int y3_100, .int a132.1, .int (x1 &&& (y4_100 ^^^ (-1 : Int32))), .int x2]) (st := []) dX12_goesThrough_150 cl_X12_160 iv_X12_canTake (k_X12_canTake (Q := (fun v h' => v = some (.int p6.1) ∧ h' = hp p6.2 gb)) y3_100 a132.1 (x1 &&& (y4_100 ^^^ (-1 : Int32))) x2 a132.2 gb hp6 ⟨rfl, rfl⟩) (ci := 12) rfl (hp_get sh_58) rfl rfl rfl (Nat.le_of_ble_eq_true rfl) rfl (by decide) (by decide) ?_
            refine aw_if_ne (tgt := 162) dX12_goesThrough_153 (by decide) (fun hc6 => ?_) (fun hc6 => ?_)
            · have hf := ax_neg hc6 hf
              cases hf
              exact hK
            · have hf := ax_pos hc6 hf
              refine aw_iinc (v := (a132.1 + (1 : Int32))) (L' := [some (.ref 58), some (.int x1), some (.int x2), some (.int y3_100), some (.int y4_100), some (.int y5_100), some (.int ((y6_100 >>> (((3 : Int32) * (p4.1 - y3_100)) &&& 31)) <<< (((3 : Int32) * (p5.1 - y3_100)) &&& 31))), some (.int (a132.1 + (1 : Int32)))]) dX12_goesThrough_156 rfl rfl (by decide) rfl ?_
              refine aw_goto (tgt := 132) dX12_goesThrough_159 (by decide) ?_
              cases hf
              exact hK
        · refine aw_aload_n dX12_goesThrough_162 rfl rfl ?_
          refine aw_gR dX12_goesThrough_163 fl_X12_37 sh_58 rfl ?_
          refine aw_iload_n dX12_goesThrough_166 rfl rfl ?_
          refine aw_iload dX12_goesThrough_167 rfl ?_
          obtain ⟨hc8, hf⟩ := ax_ite hf
          refine aw_sA dX12_goesThrough_169 sh_65 hc8 ?_
          refine aw_iload dX12_goesThrough_170 rfl ?_
          refine aw_bipush (v := 8) dX12_goesThrough_172 (by decide) ?_
          refine aw_icmp_ne (tgt := 183) dX12_goesThrough_174 (by decide) (fun hc10 => ?_) (fun hc10 => ?_)
          · have hf := ax_neg hc10 hf
            refine aw_iload_n dX12_goesThrough_183 rfl rfl ?_
            refine aw_iload_n dX12_goesThrough_184 rfl rfl ?_
            refine aw_icmp_eq (tgt := 209) dX12_goesThrough_185 (by decide) (fun hc9 => ?_) (fun hc9 => ?_)
            · have hf := ax_pos hc9 hf
              exact J209 y3_100 y4_100 y5_100 ((y6_100 >>> (((3 : Int32) * (p4.1 - y3_100)) &&& 31)) <<< (((3 : Int32) * (p5.1 - y3_100)) &&& 31)) b7.1 (wA b7.2 65 (y3_100).toNatClampNeg b7.1) hf
            · have hf := ax_neg hc9 hf
              refine aw_iload dX12_goesThrough_188 rfl ?_
              refine aw_iconst (v := 1) dX12_goesThrough_190 (by decide) ?_
              refine aw_iload dX12_goesThrough_191 rfl ?_
              refine aw_ishl dX12_goesThrough_193 ?_
              refine aw_ior dX12_goesThrough_194 ?_
              refine aw_istore (L' := [some (.ref 58), some (.int x1), some (.int x2), some (.int y3_100), some (.int (y4_100 ||| ((1 : Int32) <<< (b7.1 &&& 31)))), some (.int y5_100), some (.int ((y6_100 >>> (((3 : Int32) * (p4.1 - y3_100)) &&& 31)) <<< (((3 : Int32) * (p5.1 - y3_100)) &&& 31))), some (.int b7.1)]) dX12_goesThrough_195 (by decide) rfl ?_
              refine aw_iload dX12_goesThrough_197 rfl ?_
              refine aw_aload_n dX12_goesThrough_199 rfl rfl ?_
              refine aw_iload_n dX12_goesThrough_200 rfl rfl ?_
              refine aw_iload dX12_goesThrough_201 rfl ?_
              obtain ⟨p8, hp8, hf⟩ := ax_bind hf
              refine aw_cVi (As := [.int y3_100, .int b7.1]) (st := [.int y5_100]) dX12_goesThrough_203 cl_X12_157 iv_X12_costOf (k_X12_costOf (Q := (fun v h' => v = some (.int p8.1) ∧ h' = hp p8.2 gb)) y3_100 b7.1 (wA b7.2 65 (y3_100).toNatClampNeg b7.1) gb hp8 ⟨rfl, rfl⟩) (ci := 12) rfl (hp_get sh_58) rfl rfl rfl (Nat.le_of_ble_eq_true rfl) rfl (by decide) (by decide) ?_
              refine aw_iadd dX12_goesThrough_206 ?_
              refine aw_istore (L' := [some (.ref 58), some (.int x1), some (.int x2), some (.int y3_100), some (.int (y4_100 ||| ((1 : Int32) <<< (b7.1 &&& 31)))), some (.int (y5_100 + p8.1)), some (.int ((y6_100 >>> (((3 : Int32) * (p4.1 - y3_100)) &&& 31)) <<< (((3 : Int32) * (p5.1 - y3_100)) &&& 31))), some (.int b7.1)]) dX12_goesThrough_207 (by decide) rfl ?_
              exact J209 y3_100 (y4_100 ||| ((1 : Int32) <<< (b7.1 &&& 31))) (y5_100 + p8.1) ((y6_100 >>> (((3 : Int32) * (p4.1 - y3_100)) &&& 31)) <<< (((3 : Int32) * (p5.1 - y3_100)) &&& 31)) b7.1 p8.2 hf
          · have hf := ax_pos hc10 hf
            refine aw_iinc (v := (y3_100 + (-1 : Int32))) (L' := [some (.ref 58), some (.int x1), some (.int x2), some (.int (y3_100 + (-1 : Int32))), some (.int y4_100), some (.int y5_100), some (.int ((y6_100 >>> (((3 : Int32) * (p4.1 - y3_100)) &&& 31)) <<< (((3 : Int32) * (p5.1 - y3_100)) &&& 31))), some (.int b7.1)]) dX12_goesThrough_177 rfl rfl (by decide) rfl ?_
            refine aw_goto (tgt := 50) dX12_goesThrough_180 (by decide) ?_
            refine aw_less (L' := [some (.ref 58), some (.int x1), some (.int x2), some (.int (y3_100 + (-1 : Int32))), some (.int y4_100), some (.int y5_100), some (.int ((y6_100 >>> (((3 : Int32) * (p4.1 - y3_100)) &&& 31)) <<< (((3 : Int32) * (p5.1 - y3_100)) &&& 31))), none]) (And.intro rfl (And.intro rfl (And.intro rfl (And.intro rfl (And.intro rfl (And.intro rfl (And.intro rfl trivial))))))) ?_
            cases hf
            exact hK
      refine aw_iload_n dX12_goesThrough_50 rfl rfl ?_
      refine aw_if_lt (tgt := 285) dX12_goesThrough_51 (by decide) (fun hc16 => ?_) (fun hc16 => ?_)
      · have hf := ax_pos hc16 hf
        refine aw_less (L' := [none, none, none, none, none, none, none, none]) trivial ?_
        cases hf
        exact hK
      · have hf := ax_neg hc16 hf
        refine aw_aload_n dX12_goesThrough_54 rfl rfl ?_
        refine aw_gR dX12_goesThrough_55 fl_X12_37 sh_58 rfl ?_
        refine aw_iload_n dX12_goesThrough_58 rfl rfl ?_
        obtain ⟨hc11, hf⟩ := ax_ite hf
        refine aw_lA dX12_goesThrough_59 sh_65 hc11 ?_
        refine aw_iconst (v := -1) dX12_goesThrough_60 (by decide) ?_
        refine aw_icmp_eq (tgt := 100) dX12_goesThrough_61 (by decide) (fun hc15 => ?_) (fun hc15 => ?_)
        · have hf := ax_pos hc15 hf
          exact J100 a50.1 a50.2.1 a50.2.2.1 a50.2.2.2.1 a50.2.2.2.2 hf
        · have hf := ax_neg hc15 hf
          refine aw_iload_n dX12_goesThrough_64 rfl rfl ?_
          refine aw_iload_n dX12_goesThrough_65 rfl rfl ?_
          refine aw_icmp_eq (tgt := 100) dX12_goesThrough_66 (by decide) (fun hc14 => ?_) (fun hc14 => ?_)
          · have hf := ax_pos hc14 hf
            exact J100 a50.1 a50.2.1 a50.2.2.1 a50.2.2.2.1 a50.2.2.2.2 hf
          · have hf := ax_neg hc14 hf
            refine aw_iload dX12_goesThrough_69 rfl ?_
            refine aw_iconst (v := 1) dX12_goesThrough_71 (by decide) ?_
            refine aw_aload_n dX12_goesThrough_72 rfl rfl ?_
            refine aw_gR dX12_goesThrough_73 fl_X12_37 sh_58 rfl ?_
            refine aw_iload_n dX12_goesThrough_76 rfl rfl ?_
            obtain ⟨hc12, hf⟩ := ax_ite hf
            refine aw_lA dX12_goesThrough_77 sh_65 hc12 ?_
            refine aw_ishl dX12_goesThrough_78 ?_
            refine aw_iconst (v := -1) dX12_goesThrough_79 (by decide) ?_
            refine aw_ixor dX12_goesThrough_80 ?_
            refine aw_iand dX12_goesThrough_81 ?_
            refine aw_istore (L' := [some (.ref 58), some (.int x1), some (.int x2), some (.int a50.1), some (.int (a50.2.1 &&& (((1 : Int32) <<< ((rA a50.2.2.2.2 65 (a50.1).toNatClampNeg) &&& 31)) ^^^ (-1 : Int32)))), some (.int a50.2.2.1), some (.int a50.2.2.2.1), none]) dX12_goesThrough_82 (by decide) rfl ?_
            refine aw_iload dX12_goesThrough_84 rfl ?_
            refine aw_aload_n dX12_goesThrough_86 rfl rfl ?_
            refine aw_iload_n dX12_goesThrough_87 rfl rfl ?_
            refine aw_aload_n dX12_goesThrough_88 rfl rfl ?_
            refine aw_gR dX12_goesThrough_89 fl_X12_37 sh_58 rfl ?_
            refine aw_iload_n dX12_goesThrough_92 rfl rfl ?_
            obtain ⟨hc13, hf⟩ := ax_ite hf
            refine aw_lA dX12_goesThrough_93 sh_65 hc13 ?_
            obtain ⟨p9, hp9, hf⟩ := ax_bind hf
            refine aw_cVi (As := [.int a50.1, .int (rA a50.2.2.2.2 65 (a50.1).toNatClampNeg)]) (st := [.int a50.2.2.1]) dX12_goesThrough_94 cl_X12_157 iv_X12_costOf (k_X12_costOf (Q := (fun v h' => v = some (.int p9.1) ∧ h' = hp p9.2 gb)) a50.1 (rA a50.2.2.2.2 65 (a50.1).toNatClampNeg) a50.2.2.2.2 gb hp9 ⟨rfl, rfl⟩) (ci := 12) rfl (hp_get sh_58) rfl rfl rfl (Nat.le_of_ble_eq_true rfl) rfl (by decide) (by decide) ?_
            refine aw_isub dX12_goesThrough_97 ?_
            refine aw_istore (L' := [some (.ref 58), some (.int x1), some (.int x2), some (.int a50.1), some (.int (a50.2.1 &&& (((1 : Int32) <<< ((rA a50.2.2.2.2 65 (a50.1).toNatClampNeg) &&& 31)) ^^^ (-1 : Int32)))), some (.int (a50.2.2.1 - p9.1)), some (.int a50.2.2.2.1), none]) dX12_goesThrough_98 (by decide) rfl ?_
            exact J100 a50.1 (a50.2.1 &&& (((1 : Int32) <<< ((rA a50.2.2.2.2 65 (a50.1).toNatClampNeg) &&& 31)) ^^^ (-1 : Int32))) (a50.2.2.1 - p9.1) a50.2.2.2.1 p9.2 hf
    · cases hf
      exact aw_vret dX12_goesThrough_285 hq (Nat.le_refl _) (Nat.le_refl _)
  · have hf := ax_pos hc17 hf
    refine aw_aload_n dX12_goesThrough_30 rfl rfl ?_
    refine aw_gR dX12_goesThrough_31 fl_X12_31 sh_58 rfl ?_
    refine aw_iconst (v := 0) dX12_goesThrough_34 (by decide) ?_
    refine aw_iconst (v := 0) dX12_goesThrough_35 (by decide) ?_
    refine aw_sA dX12_goesThrough_36 sh_63 (by decide) ?_
    refine aw_aload_n dX12_goesThrough_37 rfl rfl ?_
    refine aw_gR dX12_goesThrough_38 fl_X12_34 sh_58 rfl ?_
    refine aw_iconst (v := 0) dX12_goesThrough_41 (by decide) ?_
    refine aw_iconst (v := 0) dX12_goesThrough_42 (by decide) ?_
    refine aw_sA dX12_goesThrough_43 sh_64 (by decide) ?_
    refine aw_aload_n dX12_goesThrough_44 rfl rfl ?_
    refine aw_iconst (v := 1) dX12_goesThrough_45 (by decide) ?_
    refine aw_pI dX12_goesThrough_46 fp_X12_154 sh_58 rfl rfl rfl ?_
    cases hf
    exact aw_vret dX12_goesThrough_49 hq (Nat.le_refl _) (Nat.le_refl _)
noncomputable def f_X12_allJobs (s : sx_M) : Option (Int32 × sx_M) :=
  (f_X12_jobs s).bind (fun p1 =>
 some ((((1 : Int32) <<< (p1.1 &&& 31)) - (1 : Int32)), p1.2))
set_option maxRecDepth 100000 in
set_option maxHeartbeats 4000000 in
theorem k_X12_allJobs {l : Launch} {X : ax_X} {Q : Option Value → ax_H → Prop} (s : sx_M) (gb : ax_H) {p : Int32 × sx_M} (hf : f_X12_allJobs s = some p) (hq : Q (some (.int p.1)) (hp p.2 gb)) : AM l X yX12_allJobs cX12_allJobs 1 (some .int) 1 0 0 [.ref 58] (hp s gb) Q := by
  refine aw_met (own := RX12) (nm := "allJobs") (L := [some (.ref 58)]) (by decide +kernel) rfl rfl (And.intro rfl trivial) (Nat.le_of_ble_eq_true rfl) ?_
  unfold f_X12_allJobs at hf
  refine aw_iconst (v := 1) dX12_allJobs_0 (by decide) ?_
  refine aw_aload_n dX12_allJobs_1 rfl rfl ?_
  obtain ⟨p1, hp1, hf⟩ := ax_bind hf
  refine aw_cVi (As := []) (st := [.int (1 : Int32)]) dX12_allJobs_2 cl_X12_68 iv_X12_jobs (k_X12_jobs (Q := (fun v h' => v = some (.int p1.1) ∧ h' = hp p1.2 gb)) s gb hp1 ⟨rfl, rfl⟩) (ci := 12) rfl (hp_get sh_58) rfl rfl rfl (Nat.le_of_ble_eq_true rfl) rfl (by decide) (by decide) ?_
  refine aw_ishl dX12_allJobs_5 ?_
  refine aw_iconst (v := 1) dX12_allJobs_6 (by decide) ?_
  refine aw_isub dX12_allJobs_7 ?_
  cases hf
  exact aw_iret dX12_allJobs_8 hq (Nat.le_refl _) (Nat.le_refl _)
noncomputable def f_X12_goesAll (s : sx_M) : Option sx_M :=
  (f_X12_allJobs s).bind (fun p1 =>
 (f_X12_goesThrough p1.1 (-1 : Int32) p1.2).bind (fun p2 =>
 some p2))
set_option maxRecDepth 100000 in
set_option maxHeartbeats 4000000 in
theorem k_X12_goesAll {l : Launch} {X : ax_X} {Q : Option Value → ax_H → Prop} (s : sx_M) (gb : ax_H) {p : sx_M} (hf : f_X12_goesAll s = some p) (hq : Q (none) (hp p gb)) : AM l X yX12_goesAll cX12_goesAll 1 none 4 0 0 [.ref 58] (hp s gb) Q := by
  refine aw_met (own := RX12) (nm := "goesAll") (L := [some (.ref 58)]) (by decide +kernel) rfl rfl (And.intro rfl trivial) (Nat.le_of_ble_eq_true rfl) ?_
  unfold f_X12_goesAll at hf
  refine aw_aload_n dX12_goesAll_0 rfl rfl ?_
  refine aw_aload_n dX12_goesAll_1 rfl rfl ?_
  obtain ⟨p1, hp1, hf⟩ := ax_bind hf
  refine aw_cVi (As := []) (st := [.ref 58]) dX12_goesAll_2 cl_X12_166 iv_X12_allJobs (k_X12_allJobs (Q := (fun v h' => v = some (.int p1.1) ∧ h' = hp p1.2 gb)) s gb hp1 ⟨rfl, rfl⟩) (ci := 12) rfl (hp_get sh_58) rfl rfl rfl (Nat.le_of_ble_eq_true rfl) rfl (by decide) (by decide) ?_
  refine aw_iconst (v := -1) dX12_goesAll_5 (by decide) ?_
  obtain ⟨p2, hp2, hf⟩ := ax_bind hf
  refine aw_cVv (As := [.int p1.1, .int (-1 : Int32)]) (st := []) dX12_goesAll_6 cl_X12_169 iv_X12_goesThrough (k_X12_goesThrough (Q := (fun v h' => v = none ∧ h' = hp p2 gb)) p1.1 (-1 : Int32) p1.2 gb hp2 ⟨rfl, rfl⟩) (ci := 12) rfl (hp_get sh_58) rfl rfl rfl (Nat.le_of_ble_eq_true rfl) rfl (by decide) (by decide) ?_
  cases hf
  exact aw_vret dX12_goesAll_9 hq (Nat.le_refl _) (Nat.le_refl _)
noncomputable def f_X12_least_L4_J32 (y2_32 : Int32) (s_32 : sx_M) : Option ((Int32 × Int32 × sx_M) ⊕ (Int32 × sx_M)) :=
  some (.inl (y2_32, (y2_32 + (1 : Int32)), s_32))
noncomputable def f_X12_least_L4 (a4 : Int32 × Int32 × sx_M) : Option ((Int32 × Int32 × sx_M) ⊕ (Int32 × sx_M)) :=
  (if (rI a4.2.2 58 15) ≤ a4.2.1 then
 some (.inr (a4.1, a4.2.2))
else
 (if a4.1 = (-1 : Int32) then
 f_X12_least_L4_J32 a4.2.1 a4.2.2
else
 (if ¬ (a4.2.1 < 0 ∨ 40320 ≤ (a4.2.1).toNatClampNeg) then
 (if ¬ (a4.1 < 0 ∨ 40320 ≤ (a4.1).toNatClampNeg) then
 (if (rA a4.2.2 64 (a4.1).toNatClampNeg) ≤ (rA a4.2.2 64 (a4.2.1).toNatClampNeg) then
 some (.inl (a4.1, (a4.2.1 + (1 : Int32)), a4.2.2))
else
 f_X12_least_L4_J32 a4.2.1 a4.2.2)
else none)
else none)))
noncomputable def f_X12_least (s : sx_M) : Option (Int32 × sx_M) :=
  (whT (f_X12_least_L4) ((-1 : Int32), (0 : Int32), s)).bind (fun b1 =>
 some (b1.1, b1.2))
set_option maxRecDepth 100000 in
set_option maxHeartbeats 4000000 in
theorem k_X12_least {l : Launch} {X : ax_X} {Q : Option Value → ax_H → Prop} (s : sx_M) (gb : ax_H) {p : Int32 × sx_M} (hf : f_X12_least s = some p) (hq : Q (some (.int p.1)) (hp p.2 gb)) : AM l X yX12_least cX12_least 3 (some .int) 0 0 0 [.ref 58] (hp s gb) Q := by
  refine aw_met (own := RX12) (nm := "least") (L := [some (.ref 58), none, none]) (by decide +kernel) rfl rfl (And.intro rfl trivial) (Nat.le_of_ble_eq_true rfl) ?_
  unfold f_X12_least at hf
  refine aw_iconst (v := -1) dX12_least_0 (by decide) ?_
  refine aw_istore_n (L' := [some (.ref 58), some (.int (-1 : Int32)), none]) dX12_least_1 rfl (by decide) rfl ?_
  refine aw_iconst (v := 0) dX12_least_2 (by decide) ?_
  refine aw_istore_n (L' := [some (.ref 58), some (.int (-1 : Int32)), some (.int (0 : Int32))]) dX12_least_3 rfl (by decide) rfl ?_
  obtain ⟨b1, hb1, hf⟩ := ax_bind hf
  refine wh_go ((-1 : Int32), (0 : Int32), s) (fun a4 : Int32 × Int32 × sx_M => AW l X RX12 "least" cX12_least 3 (some .int) (ax_rm 0 0 0) (ax_MQ X Q 0 0) 0 0 4 [some (.ref 58), some (.int a4.1), some (.int a4.2.1)] [] (hp a4.2.2 gb)) (fun e : Int32 × sx_M => AW l X RX12 "least" cX12_least 3 (some .int) (ax_rm 0 0 0) (ax_MQ X Q 0 0) 0 0 44 [none, some (.int e.1), none] [] (hp e.2 gb)) hb1 ?_ ?_
  · intro a4 r hf hK
    unfold f_X12_least_L4 at hf
    have J32 : ∀ (y2_32 : Int32) (s_32 : sx_M), f_X12_least_L4_J32 y2_32 s_32 = some r → AW l X RX12 "least" cX12_least 3 (some .int) (ax_rm 0 0 0) (ax_MQ X Q 0 0) 0 0 32 [some (.ref 58), none, some (.int y2_32)] [] (hp s_32 gb) := by
      intro y2_32 s_32 hf
      unfold f_X12_least_L4_J32 at hf
      refine aw_iload_n dX12_least_32 rfl rfl ?_
      refine aw_goto (tgt := 37) dX12_least_33 (by decide) ?_
      refine aw_istore_n (L' := [some (.ref 58), some (.int y2_32), some (.int y2_32)]) dX12_least_37 rfl (by decide) rfl ?_
      refine aw_iinc (v := (y2_32 + (1 : Int32))) (L' := [some (.ref 58), some (.int y2_32), some (.int (y2_32 + (1 : Int32)))]) dX12_least_38 rfl rfl (by decide) rfl ?_
      refine aw_goto (tgt := 4) dX12_least_41 (by decide) ?_
      cases hf
      exact hK
    refine aw_iload_n dX12_least_4 rfl rfl ?_
    refine aw_aload_n dX12_least_5 rfl rfl ?_
    refine aw_gI dX12_least_6 fl_X12_154 sh_58 rfl ?_
    refine aw_icmp_ge (tgt := 44) dX12_least_9 (by decide) (fun hc5 => ?_) (fun hc5 => ?_)
    · have hf := ax_pos hc5 hf
      refine aw_less (L' := [none, some (.int a4.1), none]) (And.intro rfl trivial) ?_
      cases hf
      exact hK
    · have hf := ax_neg hc5 hf
      refine aw_iload_n dX12_least_12 rfl rfl ?_
      refine aw_iconst (v := -1) dX12_least_13 (by decide) ?_
      refine aw_icmp_eq (tgt := 32) dX12_least_14 (by decide) (fun hc4 => ?_) (fun hc4 => ?_)
      · have hf := ax_pos hc4 hf
        refine aw_less (L' := [some (.ref 58), none, some (.int a4.2.1)]) (And.intro rfl (And.intro rfl trivial)) ?_
        exact J32 a4.2.1 a4.2.2 hf
      · have hf := ax_neg hc4 hf
        refine aw_aload_n dX12_least_17 rfl rfl ?_
        refine aw_gR dX12_least_18 fl_X12_34 sh_58 rfl ?_
        refine aw_iload_n dX12_least_21 rfl rfl ?_
        obtain ⟨hc1, hf⟩ := ax_ite hf
        refine aw_lA dX12_least_22 sh_64 hc1 ?_
        refine aw_aload_n dX12_least_23 rfl rfl ?_
        refine aw_gR dX12_least_24 fl_X12_34 sh_58 rfl ?_
        refine aw_iload_n dX12_least_27 rfl rfl ?_
        obtain ⟨hc2, hf⟩ := ax_ite hf
        refine aw_lA dX12_least_28 sh_64 hc2 ?_
        refine aw_icmp_ge (tgt := 36) dX12_least_29 (by decide) (fun hc3 => ?_) (fun hc3 => ?_)
        · have hf := ax_pos hc3 hf
          refine aw_iload_n dX12_least_36 rfl rfl ?_
          refine aw_istore_n (L' := [some (.ref 58), some (.int a4.1), some (.int a4.2.1)]) dX12_least_37 rfl (by decide) rfl ?_
          refine aw_iinc (v := (a4.2.1 + (1 : Int32))) (L' := [some (.ref 58), some (.int a4.1), some (.int (a4.2.1 + (1 : Int32)))]) dX12_least_38 rfl rfl (by decide) rfl ?_
          refine aw_goto (tgt := 4) dX12_least_41 (by decide) ?_
          cases hf
          exact hK
        · have hf := ax_neg hc3 hf
          refine aw_less (L' := [some (.ref 58), none, some (.int a4.2.1)]) (And.intro rfl (And.intro rfl trivial)) ?_
          exact J32 a4.2.1 a4.2.2 hf
  · refine aw_iload_n dX12_least_44 rfl rfl ?_
    cases hf
    exact aw_iret dX12_least_45 hq (Nat.le_refl _) (Nat.le_refl _)
noncomputable def f_X12_laysFirst_L77 (z1 : Int32) (a77 : Int32 × sx_M) : Option ((Int32 × sx_M) ⊕ (Int32 × sx_M)) :=
  (if a77.1 ≤ 0 then
 some (.inr (a77.1, a77.2))
else
 (if ¬ ((a77.1 - (1 : Int32)) < 0 ∨ 200 ≤ ((a77.1 - (1 : Int32))).toNatClampNeg) then
 (if ¬ ((rA a77.2 66 ((a77.1 - (1 : Int32))).toNatClampNeg) < 0 ∨ 40320 ≤ ((rA a77.2 66 ((a77.1 - (1 : Int32))).toNatClampNeg)).toNatClampNeg) then
 (if ¬ (z1 < 0 ∨ 40320 ≤ (z1).toNatClampNeg) then
 (if (rA a77.2 64 ((rA a77.2 66 ((a77.1 - (1 : Int32))).toNatClampNeg)).toNatClampNeg) ≤ (rA a77.2 64 (z1).toNatClampNeg) then
 some (.inr (a77.1, a77.2))
else
 (if ¬ ((a77.1 - (1 : Int32)) < 0 ∨ 200 ≤ ((a77.1 - (1 : Int32))).toNatClampNeg) then
 (if ¬ (a77.1 < 0 ∨ 200 ≤ (a77.1).toNatClampNeg) then
 some (.inl ((a77.1 + (-1 : Int32)), (wA a77.2 66 (a77.1).toNatClampNeg (rA a77.2 66 ((a77.1 - (1 : Int32))).toNatClampNeg))))
else none)
else none))
else none)
else none)
else none))
noncomputable def f_X12_laysFirst_L11_J54 (y1_54 : Int32) (s_54 : sx_M) : Option ((Int32 × sx_M) ⊕ (sx_M)) :=
  (f_J9_min_7cf53 (200 : Int32) ((rI s_54 58 18) + (1 : Int32)) s_54).bind (fun p2 =>
 (whT (f_X12_laysFirst_L77 y1_54) (((rI (wI p2.2 58 18 p2.1) 58 18) - (1 : Int32)), (wI p2.2 58 18 p2.1))).bind (fun b3 =>
 (if ¬ (b3.1 < 0 ∨ 200 ≤ (b3.1).toNatClampNeg) then
 some (.inl ((y1_54 + (1 : Int32)), (wA b3.2 66 (b3.1).toNatClampNeg y1_54)))
else none)))
noncomputable def f_X12_laysFirst_L11 (a11 : Int32 × sx_M) : Option ((Int32 × sx_M) ⊕ (sx_M)) :=
  (if (rI a11.2 58 15) ≤ a11.1 then
 some (.inr a11.2)
else
 (if (rI a11.2 58 18) = (200 : Int32) then
 (if ¬ (a11.1 < 0 ∨ 40320 ≤ (a11.1).toNatClampNeg) then
 (if ¬ ((rA a11.2 66 ((199 : Int32)).toNatClampNeg) < 0 ∨ 40320 ≤ ((rA a11.2 66 ((199 : Int32)).toNatClampNeg)).toNatClampNeg) then
 (if (rA a11.2 64 (a11.1).toNatClampNeg) < (rA a11.2 64 ((rA a11.2 66 ((199 : Int32)).toNatClampNeg)).toNatClampNeg) then
 f_X12_laysFirst_L11_J54 a11.1 a11.2
else
 some (.inl ((a11.1 + (1 : Int32)), a11.2)))
else none)
else none)
else
 f_X12_laysFirst_L11_J54 a11.1 a11.2))
noncomputable def f_X12_laysFirst (s : sx_M) : Option sx_M :=
  (f_X12_goesAll s).bind (fun p1 =>
 (whT (f_X12_laysFirst_L11) ((0 : Int32), (wI p1 58 18 (0 : Int32)))).bind (fun b4 =>
 some b4))
set_option maxRecDepth 100000 in
set_option maxHeartbeats 4000000 in
theorem k_X12_laysFirst {l : Launch} {X : ax_X} {Q : Option Value → ax_H → Prop} (s : sx_M) (gb : ax_H) {p : sx_M} (hf : f_X12_laysFirst s = some p) (hq : Q (none) (hp p gb)) : AM l X yX12_laysFirst cX12_laysFirst 3 none 5 0 0 [.ref 58] (hp s gb) Q := by
  refine aw_met (own := RX12) (nm := "laysFirst") (L := [some (.ref 58), none, none]) (by decide +kernel) rfl rfl (And.intro rfl trivial) (Nat.le_of_ble_eq_true rfl) ?_
  unfold f_X12_laysFirst at hf
  refine aw_aload_n dX12_laysFirst_0 rfl rfl ?_
  obtain ⟨p1, hp1, hf⟩ := ax_bind hf
  refine aw_cVv (As := []) (st := []) dX12_laysFirst_1 cl_X12_173 iv_X12_goesAll (k_X12_goesAll (Q := (fun v h' => v = none ∧ h' = hp p1 gb)) s gb hp1 ⟨rfl, rfl⟩) (ci := 12) rfl (hp_get sh_58) rfl rfl rfl (Nat.le_of_ble_eq_true rfl) rfl (by decide) (by decide) ?_
  refine aw_aload_n dX12_laysFirst_4 rfl rfl ?_
  refine aw_iconst (v := 0) dX12_laysFirst_5 (by decide) ?_
  refine aw_pI dX12_laysFirst_6 fp_X12_176 sh_58 rfl rfl rfl ?_
  refine aw_iconst (v := 0) dX12_laysFirst_9 (by decide) ?_
  refine aw_istore_n (L' := [some (.ref 58), some (.int (0 : Int32)), none]) dX12_laysFirst_10 rfl (by decide) rfl ?_
  obtain ⟨b4, hb4, hf⟩ := ax_bind hf
  refine wh_go ((0 : Int32), (wI p1 58 18 (0 : Int32))) (fun a11 : Int32 × sx_M => AW l X RX12 "laysFirst" cX12_laysFirst 3 none (ax_rm 5 0 0) (ax_MQ X Q 0 0) 0 0 11 [some (.ref 58), some (.int a11.1), none] [] (hp a11.2 gb)) (fun e : sx_M => AW l X RX12 "laysFirst" cX12_laysFirst 3 none (ax_rm 5 0 0) (ax_MQ X Q 0 0) 0 0 136 [none, none, none] [] (hp e gb)) hb4 ?_ ?_
  · intro a11 r hf hK
    unfold f_X12_laysFirst_L11 at hf
    have J54 : ∀ (y1_54 : Int32) (s_54 : sx_M), f_X12_laysFirst_L11_J54 y1_54 s_54 = some r → AW l X RX12 "laysFirst" cX12_laysFirst 3 none (ax_rm 5 0 0) (ax_MQ X Q 0 0) 0 0 54 [some (.ref 58), some (.int y1_54), none] [] (hp s_54 gb) := by
      intro y1_54 s_54 hf
      unfold f_X12_laysFirst_L11_J54 at hf
      refine aw_aload_n dX12_laysFirst_54 rfl rfl ?_
      refine aw_sipush (v := 200) dX12_laysFirst_55 (by decide) ?_
      refine aw_aload_n dX12_laysFirst_58 rfl rfl ?_
      refine aw_gI dX12_laysFirst_59 fl_X12_176 sh_58 rfl ?_
      refine aw_iconst (v := 1) dX12_laysFirst_62 (by decide) ?_
      refine aw_iadd dX12_laysFirst_63 ?_
      obtain ⟨p2, hp2, hf⟩ := ax_bind hf
      refine aw_cSi (As := [.int (200 : Int32), .int ((rI s_54 58 18) + (1 : Int32))]) (st := [.ref 58]) dX12_laysFirst_64 cl_X12_94 st_J9_min_7cf53 (k_J9_min_7cf53 (Q := (fun v h' => v = some (.int p2.1) ∧ h' = hp p2.2 gb)) (200 : Int32) ((rI s_54 58 18) + (1 : Int32)) s_54 gb hp2 ⟨rfl, rfl⟩) rfl rfl (Nat.le_of_ble_eq_true rfl) rfl (by decide) (by decide) ?_
      refine aw_pI dX12_laysFirst_67 fp_X12_176 sh_58 rfl rfl rfl ?_
      refine aw_aload_n dX12_laysFirst_70 rfl rfl ?_
      refine aw_gI dX12_laysFirst_71 fl_X12_176 sh_58 rfl ?_
      refine aw_iconst (v := 1) dX12_laysFirst_74 (by decide) ?_
      refine aw_isub dX12_laysFirst_75 ?_
      refine aw_istore_n (L' := [some (.ref 58), some (.int y1_54), some (.int ((rI (wI p2.2 58 18 p2.1) 58 18) - (1 : Int32)))]) dX12_laysFirst_76 rfl (by decide) rfl ?_
      obtain ⟨b3, hb3, hf⟩ := ax_bind hf
      refine wh_go (((rI (wI p2.2 58 18 p2.1) 58 18) - (1 : Int32)), (wI p2.2 58 18 p2.1)) (fun a77 : Int32 × sx_M => AW l X RX12 "laysFirst" cX12_laysFirst 3 none (ax_rm 5 0 0) (ax_MQ X Q 0 0) 0 0 77 [some (.ref 58), some (.int y1_54), some (.int a77.1)] [] (hp a77.2 gb)) (fun e : Int32 × sx_M => AW l X RX12 "laysFirst" cX12_laysFirst 3 none (ax_rm 5 0 0) (ax_MQ X Q 0 0) 0 0 123 [some (.ref 58), some (.int y1_54), some (.int e.1)] [] (hp e.2 gb)) hb3 ?_ ?_
      · intro a77 r hf hK
        unfold f_X12_laysFirst_L77 at hf
        refine aw_iload_n dX12_laysFirst_77 rfl rfl ?_
        refine aw_if_le (tgt := 123) dX12_laysFirst_78 (by decide) (fun hc7 => ?_) (fun hc7 => ?_)
        · have hf := ax_pos hc7 hf
          cases hf
          exact hK
        · have hf := ax_neg hc7 hf
          refine aw_aload_n dX12_laysFirst_81 rfl rfl ?_
          refine aw_gR dX12_laysFirst_82 fl_X12_34 sh_58 rfl ?_
          refine aw_aload_n dX12_laysFirst_85 rfl rfl ?_
          refine aw_gR dX12_laysFirst_86 fl_X12_40 sh_58 rfl ?_
          refine aw_iload_n dX12_laysFirst_89 rfl rfl ?_
          refine aw_iconst (v := 1) dX12_laysFirst_90 (by decide) ?_
          refine aw_isub dX12_laysFirst_91 ?_
          obtain ⟨hc1, hf⟩ := ax_ite hf
          refine aw_lA dX12_laysFirst_92 sh_66 hc1 ?_
          obtain ⟨hc2, hf⟩ := ax_ite hf
          refine aw_lA dX12_laysFirst_93 sh_64 hc2 ?_
          refine aw_aload_n dX12_laysFirst_94 rfl rfl ?_
          refine aw_gR dX12_laysFirst_95 fl_X12_34 sh_58 rfl ?_
          refine aw_iload_n dX12_laysFirst_98 rfl rfl ?_
          obtain ⟨hc3, hf⟩ := ax_ite hf
          refine aw_lA dX12_laysFirst_99 sh_64 hc3 ?_
          refine aw_icmp_le (tgt := 123) dX12_laysFirst_100 (by decide) (fun hc6 => ?_) (fun hc6 => ?_)
          · have hf := ax_pos hc6 hf
            cases hf
            exact hK
          · have hf := ax_neg hc6 hf
            refine aw_aload_n dX12_laysFirst_103 rfl rfl ?_
            refine aw_gR dX12_laysFirst_104 fl_X12_40 sh_58 rfl ?_
            refine aw_iload_n dX12_laysFirst_107 rfl rfl ?_
            refine aw_aload_n dX12_laysFirst_108 rfl rfl ?_
            refine aw_gR dX12_laysFirst_109 fl_X12_40 sh_58 rfl ?_
            refine aw_iload_n dX12_laysFirst_112 rfl rfl ?_
            refine aw_iconst (v := 1) dX12_laysFirst_113 (by decide) ?_
            refine aw_isub dX12_laysFirst_114 ?_
            obtain ⟨hc4, hf⟩ := ax_ite hf
            refine aw_lA dX12_laysFirst_115 sh_66 hc4 ?_
            obtain ⟨hc5, hf⟩ := ax_ite hf
            refine aw_sA dX12_laysFirst_116 sh_66 hc5 ?_
            refine aw_iinc (v := (a77.1 + (-1 : Int32))) (L' := [some (.ref 58), some (.int y1_54), some (.int (a77.1 + (-1 : Int32)))]) dX12_laysFirst_117 rfl rfl (by decide) rfl ?_
            refine aw_goto (tgt := 77) dX12_laysFirst_120 (by decide) ?_
            cases hf
            exact hK
      · refine aw_aload_n dX12_laysFirst_123 rfl rfl ?_
        refine aw_gR dX12_laysFirst_124 fl_X12_40 sh_58 rfl ?_
        refine aw_iload_n dX12_laysFirst_127 rfl rfl ?_
        refine aw_iload_n dX12_laysFirst_128 rfl rfl ?_
        obtain ⟨hc8, hf⟩ := ax_ite hf
        refine aw_sA dX12_laysFirst_129 sh_66 hc8 ?_
        refine aw_iinc (v := (y1_54 + (1 : Int32))) (L' := [some (.ref 58), some (.int (y1_54 + (1 : Int32))), some (.int b3.1)]) dX12_laysFirst_130 rfl rfl (by decide) rfl ?_
        refine aw_goto (tgt := 11) dX12_laysFirst_133 (by decide) ?_
        refine aw_less (L' := [some (.ref 58), some (.int (y1_54 + (1 : Int32))), none]) (And.intro rfl (And.intro rfl trivial)) ?_
        cases hf
        exact hK
    refine aw_iload_n dX12_laysFirst_11 rfl rfl ?_
    refine aw_aload_n dX12_laysFirst_12 rfl rfl ?_
    refine aw_gI dX12_laysFirst_13 fl_X12_154 sh_58 rfl ?_
    refine aw_icmp_ge (tgt := 136) dX12_laysFirst_16 (by decide) (fun hc13 => ?_) (fun hc13 => ?_)
    · have hf := ax_pos hc13 hf
      refine aw_less (L' := [none, none, none]) trivial ?_
      cases hf
      exact hK
    · have hf := ax_neg hc13 hf
      refine aw_aload_n dX12_laysFirst_19 rfl rfl ?_
      refine aw_gI dX12_laysFirst_20 fl_X12_176 sh_58 rfl ?_
      refine aw_sipush (v := 200) dX12_laysFirst_23 (by decide) ?_
      refine aw_icmp_ne (tgt := 54) dX12_laysFirst_26 (by decide) (fun hc12 => ?_) (fun hc12 => ?_)
      · have hf := ax_neg hc12 hf
        exact J54 a11.1 a11.2 hf
      · have hf := ax_pos hc12 hf
        refine aw_aload_n dX12_laysFirst_29 rfl rfl ?_
        refine aw_gR dX12_laysFirst_30 fl_X12_34 sh_58 rfl ?_
        refine aw_iload_n dX12_laysFirst_33 rfl rfl ?_
        obtain ⟨hc9, hf⟩ := ax_ite hf
        refine aw_lA dX12_laysFirst_34 sh_64 hc9 ?_
        refine aw_aload_n dX12_laysFirst_35 rfl rfl ?_
        refine aw_gR dX12_laysFirst_36 fl_X12_34 sh_58 rfl ?_
        refine aw_aload_n dX12_laysFirst_39 rfl rfl ?_
        refine aw_gR dX12_laysFirst_40 fl_X12_40 sh_58 rfl ?_
        refine aw_sipush (v := 199) dX12_laysFirst_43 (by decide) ?_
        refine aw_lA dX12_laysFirst_46 sh_66 (by decide) ?_
        obtain ⟨hc10, hf⟩ := ax_ite hf
        refine aw_lA dX12_laysFirst_47 sh_64 hc10 ?_
        refine aw_icmp_lt (tgt := 54) dX12_laysFirst_48 (by decide) (fun hc11 => ?_) (fun hc11 => ?_)
        · have hf := ax_pos hc11 hf
          exact J54 a11.1 a11.2 hf
        · have hf := ax_neg hc11 hf
          refine aw_goto (tgt := 130) dX12_laysFirst_51 (by decide) ?_
          refine aw_iinc (v := (a11.1 + (1 : Int32))) (L' := [some (.ref 58), some (.int (a11.1 + (1 : Int32))), none]) dX12_laysFirst_130 rfl rfl (by decide) rfl ?_
          refine aw_goto (tgt := 11) dX12_laysFirst_133 (by decide) ?_
          cases hf
          exact hK
  · cases hf
    exact aw_vret dX12_laysFirst_136 hq (Nat.le_refl _) (Nat.le_refl _)
noncomputable def f_X12_isRank (x0 : Int32) (s : sx_M) : Option (Int32 × sx_M) :=
  (f_X12_in ((x0).toInt64) (0 : Int64) (199 : Int64) s).bind (fun p1 =>
 (if (p1.1 = 0 ∨ p1.1 = 1) then
 some (p1.1, p1.2)
else none))
set_option maxRecDepth 100000 in
set_option maxHeartbeats 4000000 in
theorem k_X12_isRank {l : Launch} {X : ax_X} {Q : Option Value → ax_H → Prop} (x0 : Int32) (s : sx_M) (gb : ax_H) {p : Int32 × sx_M} (hf : f_X12_isRank x0 s = some p) (hq : Q (some (.int p.1)) (hp p.2 gb)) : AM l X yX12_isRank cX12_isRank 1 (some .boolean) 1 0 0 [.int x0] (hp s gb) Q := by
  refine aw_met (own := RX12) (nm := "isRank") (L := [some (.int x0)]) (by decide +kernel) rfl rfl (And.intro rfl trivial) (Nat.le_of_ble_eq_true rfl) ?_
  unfold f_X12_isRank at hf
  refine aw_iload_n dX12_isRank_0 rfl rfl ?_
  refine aw_i2l dX12_isRank_1 ?_
  refine aw_lconst (v := 0) dX12_isRank_2 (by decide) ?_
  refine aw_ldc2 dX12_isRank_3 kc_X12_179 ?_
  obtain ⟨p1, hp1, hf⟩ := ax_bind hf
  refine aw_cSi (As := [.long ((x0).toInt64), .long (0 : Int64), .long (199 : Int64)]) (st := []) dX12_isRank_6 cl_X12_64 st_X12_in (k_X12_in (Q := (fun v h' => v = some (.int p1.1) ∧ h' = hp p1.2 gb)) ((x0).toInt64) (0 : Int64) (199 : Int64) s gb hp1 ⟨rfl, rfl⟩) rfl rfl (Nat.le_of_ble_eq_true rfl) rfl (by decide) (by decide) ?_
  obtain ⟨hc1, hf⟩ := ax_ite hf
  cases hf
  exact aw_zret dX12_isRank_9 (ax_nb hc1) hq (Nat.le_refl _) (Nat.le_refl _)
noncomputable def f_X12_isThere (x1 : Int32) (s : sx_M) : Option (Int32 × sx_M) :=
  (f_X12_isRank x1 s).bind (fun p1 =>
 (if p1.1 = 0 then
 some ((0 : Int32), p1.2)
else
 (if (rI p1.2 58 18) ≤ x1 then
 some ((0 : Int32), p1.2)
else
 some ((1 : Int32), p1.2))))
set_option maxRecDepth 100000 in
set_option maxHeartbeats 4000000 in
theorem k_X12_isThere {l : Launch} {X : ax_X} {Q : Option Value → ax_H → Prop} (x1 : Int32) (s : sx_M) (gb : ax_H) {p : Int32 × sx_M} (hf : f_X12_isThere x1 s = some p) (hq : Q (some (.int p.1)) (hp p.2 gb)) : AM l X yX12_isThere cX12_isThere 2 (some .boolean) 2 0 0 [.ref 58, .int x1] (hp s gb) Q := by
  refine aw_met (own := RX12) (nm := "isThere") (L := [some (.ref 58), some (.int x1)]) (by decide +kernel) rfl rfl (And.intro rfl (And.intro rfl trivial)) (Nat.le_of_ble_eq_true rfl) ?_
  unfold f_X12_isThere at hf
  refine aw_iload_n dX12_isThere_0 rfl rfl ?_
  obtain ⟨p1, hp1, hf⟩ := ax_bind hf
  refine aw_cSi (As := [.int x1]) (st := []) dX12_isThere_1 cl_X12_181 st_X12_isRank (k_X12_isRank (Q := (fun v h' => v = some (.int p1.1) ∧ h' = hp p1.2 gb)) x1 s gb hp1 ⟨rfl, rfl⟩) rfl rfl (Nat.le_of_ble_eq_true rfl) rfl (by decide) (by decide) ?_
  refine aw_if_eq (tgt := 19) dX12_isThere_4 (by decide) (fun hc2 => ?_) (fun hc2 => ?_)
  · have hf := ax_pos hc2 hf
    refine aw_iconst (v := 0) dX12_isThere_19 (by decide) ?_
    cases hf
    exact aw_zret dX12_isThere_20 (by decide) hq (Nat.le_refl _) (Nat.le_refl _)
  · have hf := ax_neg hc2 hf
    refine aw_iload_n dX12_isThere_7 rfl rfl ?_
    refine aw_aload_n dX12_isThere_8 rfl rfl ?_
    refine aw_gI dX12_isThere_9 fl_X12_176 sh_58 rfl ?_
    refine aw_icmp_ge (tgt := 19) dX12_isThere_12 (by decide) (fun hc1 => ?_) (fun hc1 => ?_)
    · have hf := ax_pos hc1 hf
      refine aw_iconst (v := 0) dX12_isThere_19 (by decide) ?_
      cases hf
      exact aw_zret dX12_isThere_20 (by decide) hq (Nat.le_refl _) (Nat.le_refl _)
    · have hf := ax_neg hc1 hf
      refine aw_iconst (v := 1) dX12_isThere_15 (by decide) ?_
      refine aw_goto (tgt := 20) dX12_isThere_16 (by decide) ?_
      cases hf
      exact aw_zret dX12_isThere_20 (by decide) hq (Nat.le_refl _) (Nat.le_refl _)
noncomputable def f_X12_count_L15_J42 (z1 : Int32) (z1 : Int32) (z3 : Int32) (y4_42 : Int32) (t0_42 : Int32) (t1_42 : Int32) (s_42 : sx_M) : Option ((Int32 × Int32 × sx_M) ⊕ (Int32 × sx_M)) :=
  some (.inl ((t0_42 + t1_42), (y4_42 + (1 : Int32)), s_42))
noncomputable def f_X12_count_L15 (z1 : Int32) (z1 : Int32) (z3 : Int32) (a15 : Int32 × Int32 × sx_M) : Option ((Int32 × Int32 × sx_M) ⊕ (Int32 × sx_M)) :=
  (f_X12_jobs a15.2.2).bind (fun p2 =>
 (if p2.1 ≤ a15.2.1 then
 some (.inr (a15.1, p2.2))
else
 (f_X12_costOf z3 a15.2.1 p2.2).bind (fun p3 =>
 (if p3.1 = (2147483647 : Int32) then
 f_X12_count_L15_J42 z1 z1 z3 a15.2.1 a15.1 (1 : Int32) p3.2
else
 f_X12_count_L15_J42 z1 z1 z3 a15.2.1 a15.1 (0 : Int32) p3.2))))
noncomputable def f_X12_count_L4 (z1 : Int32) (a4 : Int32 × Int32 × sx_M) : Option ((Int32 × Int32 × sx_M) ⊕ (Int32 × sx_M)) :=
  (f_X12_workers a4.2.2).bind (fun p1 =>
 (if p1.1 ≤ a4.2.1 then
 some (.inr (a4.1, p1.2))
else
 (whT (f_X12_count_L15 z1 z1 a4.2.1) (a4.1, (0 : Int32), p1.2)).bind (fun b4 =>
 some (.inl (b4.1, (a4.2.1 + (1 : Int32)), b4.2)))))
noncomputable def f_X12_count (x1 : Int32) (s : sx_M) : Option (Int32 × sx_M) :=
  (whT (f_X12_count_L4 x1) ((0 : Int32), (0 : Int32), s)).bind (fun b5 =>
 (f_X12_goesAll b5.2).bind (fun p6 =>
 (if x1 = (0 : Int32) then
 (f_X12_workers p6).bind (fun p7 =>
 some (p7.1, p7.2))
else
 (if x1 = (1 : Int32) then
 (f_X12_jobs p6).bind (fun p8 =>
 some (p8.1, p8.2))
else
 (if x1 = (2 : Int32) then
 some (b5.1, p6)
else
 (if x1 = (3 : Int32) then
 some ((rI p6 58 15), p6)
else
 (if x1 = (4 : Int32) then
 some ((rI p6 58 2), p6)
else
 (if x1 = (5 : Int32) then
 some ((rI p6 58 4), p6)
else
 some ((-1 : Int32), p6)))))))))
set_option maxRecDepth 100000 in
set_option maxHeartbeats 4000000 in
theorem k_X12_count {l : Launch} {X : ax_X} {Q : Option Value → ax_H → Prop} (x1 : Int32) (s : sx_M) (gb : ax_H) {p : Int32 × sx_M} (hf : f_X12_count x1 s = some p) (hq : Q (some (.int p.1)) (hp p.2 gb)) : AM l X yX12_count cX12_count 5 (some .int) 5 0 0 [.ref 58, .int x1] (hp s gb) Q := by
  refine aw_met (own := RX12) (nm := "count") (L := [some (.ref 58), some (.int x1), none, none, none]) (by decide +kernel) rfl rfl (And.intro rfl (And.intro rfl trivial)) (Nat.le_of_ble_eq_true rfl) ?_
  unfold f_X12_count at hf
  refine aw_iconst (v := 0) dX12_count_0 (by decide) ?_
  refine aw_istore_n (L' := [some (.ref 58), some (.int x1), some (.int (0 : Int32)), none, none]) dX12_count_1 rfl (by decide) rfl ?_
  refine aw_iconst (v := 0) dX12_count_2 (by decide) ?_
  refine aw_istore_n (L' := [some (.ref 58), some (.int x1), some (.int (0 : Int32)), some (.int (0 : Int32)), none]) dX12_count_3 rfl (by decide) rfl ?_
  obtain ⟨b5, hb5, hf⟩ := ax_bind hf
  refine wh_go ((0 : Int32), (0 : Int32), s) (fun a4 : Int32 × Int32 × sx_M => AW l X RX12 "count" cX12_count 5 (some .int) (ax_rm 5 0 0) (ax_MQ X Q 0 0) 0 0 4 [some (.ref 58), some (.int x1), some (.int a4.1), some (.int a4.2.1), none] [] (hp a4.2.2 gb)) (fun e : Int32 × sx_M => AW l X RX12 "count" cX12_count 5 (some .int) (ax_rm 5 0 0) (ax_MQ X Q 0 0) 0 0 56 [some (.ref 58), some (.int x1), some (.int e.1), none, none] [] (hp e.2 gb)) hb5 ?_ ?_
  · intro a4 r hf hK
    unfold f_X12_count_L4 at hf
    refine aw_iload_n dX12_count_4 rfl rfl ?_
    refine aw_aload_n dX12_count_5 rfl rfl ?_
    obtain ⟨p1, hp1, hf⟩ := ax_bind hf
    refine aw_cVi (As := []) (st := [.int a4.2.1]) dX12_count_6 cl_X12_60 iv_X12_workers (k_X12_workers (Q := (fun v h' => v = some (.int p1.1) ∧ h' = hp p1.2 gb)) a4.2.2 gb hp1 ⟨rfl, rfl⟩) (ci := 12) rfl (hp_get sh_58) rfl rfl rfl (Nat.le_of_ble_eq_true rfl) rfl (by decide) (by decide) ?_
    refine aw_icmp_ge (tgt := 56) dX12_count_9 (by decide) (fun hc3 => ?_) (fun hc3 => ?_)
    · have hf := ax_pos hc3 hf
      refine aw_less (L' := [some (.ref 58), some (.int x1), some (.int a4.1), none, none]) (And.intro rfl (And.intro rfl (And.intro rfl trivial))) ?_
      cases hf
      exact hK
    · have hf := ax_neg hc3 hf
      refine aw_iconst (v := 0) dX12_count_12 (by decide) ?_
      refine aw_istore (L' := [some (.ref 58), some (.int x1), some (.int a4.1), some (.int a4.2.1), some (.int (0 : Int32))]) dX12_count_13 (by decide) rfl ?_
      obtain ⟨b4, hb4, hf⟩ := ax_bind hf
      refine wh_go (a4.1, (0 : Int32), p1.2) (fun a15 : Int32 × Int32 × sx_M => AW l X RX12 "count" cX12_count 5 (some .int) (ax_rm 5 0 0) (ax_MQ X Q 0 0) 0 0 15 [some (.ref 58), some (.int x1), some (.int a15.1), some (.int a4.2.1), some (.int a15.2.1)] [] (hp a15.2.2 gb)) (fun e : Int32 × sx_M => AW l X RX12 "count" cX12_count 5 (some .int) (ax_rm 5 0 0) (ax_MQ X Q 0 0) 0 0 50 [some (.ref 58), some (.int x1), some (.int e.1), some (.int a4.2.1), none] [] (hp e.2 gb)) hb4 ?_ ?_
      · intro a15 r hf hK
        unfold f_X12_count_L15 at hf
        have J42 : ∀ (y4_42 : Int32) (t0_42 : Int32) (t1_42 : Int32) (s_42 : sx_M), f_X12_count_L15_J42 x1 x1 a4.2.1 y4_42 t0_42 t1_42 s_42 = some r → AW l X RX12 "count" cX12_count 5 (some .int) (ax_rm 5 0 0) (ax_MQ X Q 0 0) 0 0 42 [some (.ref 58), some (.int x1), none, some (.int a4.2.1), some (.int y4_42)] [.int t1_42, .int t0_42] (hp s_42 gb) := by
          intro y4_42 t0_42 t1_42 s_42 hf
          unfold f_X12_count_L15_J42 at hf
          refine aw_iadd dX12_count_42 ?_
          refine aw_istore_n (L' := [some (.ref 58), some (.int x1), some (.int (t0_42 + t1_42)), some (.int a4.2.1), some (.int y4_42)]) dX12_count_43 rfl (by decide) rfl ?_
          refine aw_iinc (v := (y4_42 + (1 : Int32))) (L' := [some (.ref 58), some (.int x1), some (.int (t0_42 + t1_42)), some (.int a4.2.1), some (.int (y4_42 + (1 : Int32)))]) dX12_count_44 rfl rfl (by decide) rfl ?_
          refine aw_goto (tgt := 15) dX12_count_47 (by decide) ?_
          cases hf
          exact hK
        refine aw_iload dX12_count_15 rfl ?_
        refine aw_aload_n dX12_count_17 rfl rfl ?_
        obtain ⟨p2, hp2, hf⟩ := ax_bind hf
        refine aw_cVi (As := []) (st := [.int a15.2.1]) dX12_count_18 cl_X12_68 iv_X12_jobs (k_X12_jobs (Q := (fun v h' => v = some (.int p2.1) ∧ h' = hp p2.2 gb)) a15.2.2 gb hp2 ⟨rfl, rfl⟩) (ci := 12) rfl (hp_get sh_58) rfl rfl rfl (Nat.le_of_ble_eq_true rfl) rfl (by decide) (by decide) ?_
        refine aw_icmp_ge (tgt := 50) dX12_count_21 (by decide) (fun hc2 => ?_) (fun hc2 => ?_)
        · have hf := ax_pos hc2 hf
          refine aw_less (L' := [some (.ref 58), some (.int x1), some (.int a15.1), some (.int a4.2.1), none]) (And.intro rfl (And.intro rfl (And.intro rfl (And.intro rfl trivial)))) ?_
          cases hf
          exact hK
        · have hf := ax_neg hc2 hf
          refine aw_iload_n dX12_count_24 rfl rfl ?_
          refine aw_aload_n dX12_count_25 rfl rfl ?_
          refine aw_iload_n dX12_count_26 rfl rfl ?_
          refine aw_iload dX12_count_27 rfl ?_
          obtain ⟨p3, hp3, hf⟩ := ax_bind hf
          refine aw_cVi (As := [.int a4.2.1, .int a15.2.1]) (st := [.int a15.1]) dX12_count_29 cl_X12_157 iv_X12_costOf (k_X12_costOf (Q := (fun v h' => v = some (.int p3.1) ∧ h' = hp p3.2 gb)) a4.2.1 a15.2.1 p2.2 gb hp3 ⟨rfl, rfl⟩) (ci := 12) rfl (hp_get sh_58) rfl rfl rfl (Nat.le_of_ble_eq_true rfl) rfl (by decide) (by decide) ?_
          refine aw_ldc dX12_count_32 kc_X12_131 ?_
          refine aw_icmp_ne (tgt := 41) dX12_count_34 (by decide) (fun hc1 => ?_) (fun hc1 => ?_)
          · have hf := ax_neg hc1 hf
            refine aw_iconst (v := 0) dX12_count_41 (by decide) ?_
            refine aw_less (L' := [some (.ref 58), some (.int x1), none, some (.int a4.2.1), some (.int a15.2.1)]) (And.intro rfl (And.intro rfl (And.intro rfl (And.intro rfl trivial)))) ?_
            exact J42 a15.2.1 a15.1 (0 : Int32) p3.2 hf
          · have hf := ax_pos hc1 hf
            refine aw_iconst (v := 1) dX12_count_37 (by decide) ?_
            refine aw_goto (tgt := 42) dX12_count_38 (by decide) ?_
            refine aw_less (L' := [some (.ref 58), some (.int x1), none, some (.int a4.2.1), some (.int a15.2.1)]) (And.intro rfl (And.intro rfl (And.intro rfl (And.intro rfl trivial)))) ?_
            exact J42 a15.2.1 a15.1 (1 : Int32) p3.2 hf
      · refine aw_iinc (v := (a4.2.1 + (1 : Int32))) (L' := [some (.ref 58), some (.int x1), some (.int b4.1), some (.int (a4.2.1 + (1 : Int32))), none]) dX12_count_50 rfl rfl (by decide) rfl ?_
        refine aw_goto (tgt := 4) dX12_count_53 (by decide) ?_
        cases hf
        exact hK
  · refine aw_aload_n dX12_count_56 rfl rfl ?_
    obtain ⟨p6, hp6, hf⟩ := ax_bind hf
    refine aw_cVv (As := []) (st := []) dX12_count_57 cl_X12_173 iv_X12_goesAll (k_X12_goesAll (Q := (fun v h' => v = none ∧ h' = hp p6 gb)) b5.2 gb hp6 ⟨rfl, rfl⟩) (ci := 12) rfl (hp_get sh_58) rfl rfl rfl (Nat.le_of_ble_eq_true rfl) rfl (by decide) (by decide) ?_
    refine aw_iload_n dX12_count_60 rfl rfl ?_
    by_cases hc4 : x1 = (0 : Int32)
    · have hf := ax_pos hc4 hf
      refine aw_tableAt (tgt := 100) 0 dX12_count_61 hc4 (by decide) rfl (by decide) ?_
      refine aw_aload_n dX12_count_100 rfl rfl ?_
      obtain ⟨p7, hp7, hf⟩ := ax_bind hf
      refine aw_cVi (As := []) (st := []) dX12_count_101 cl_X12_60 iv_X12_workers (k_X12_workers (Q := (fun v h' => v = some (.int p7.1) ∧ h' = hp p7.2 gb)) p6 gb hp7 ⟨rfl, rfl⟩) (ci := 12) rfl (hp_get sh_58) rfl rfl rfl (Nat.le_of_ble_eq_true rfl) rfl (by decide) (by decide) ?_
      cases hf
      exact aw_iret dX12_count_104 hq (Nat.le_refl _) (Nat.le_refl _)
    have hf := ax_neg hc4 hf
    by_cases hc5 : x1 = (1 : Int32)
    · have hf := ax_pos hc5 hf
      refine aw_tableAt (tgt := 105) 1 dX12_count_61 hc5 (by decide) rfl (by decide) ?_
      refine aw_aload_n dX12_count_105 rfl rfl ?_
      obtain ⟨p8, hp8, hf⟩ := ax_bind hf
      refine aw_cVi (As := []) (st := []) dX12_count_106 cl_X12_68 iv_X12_jobs (k_X12_jobs (Q := (fun v h' => v = some (.int p8.1) ∧ h' = hp p8.2 gb)) p6 gb hp8 ⟨rfl, rfl⟩) (ci := 12) rfl (hp_get sh_58) rfl rfl rfl (Nat.le_of_ble_eq_true rfl) rfl (by decide) (by decide) ?_
      cases hf
      exact aw_iret dX12_count_109 hq (Nat.le_refl _) (Nat.le_refl _)
    have hf := ax_neg hc5 hf
    by_cases hc6 : x1 = (2 : Int32)
    · have hf := ax_pos hc6 hf
      refine aw_tableAt (tgt := 110) 2 dX12_count_61 hc6 (by decide) rfl (by decide) ?_
      refine aw_iload_n dX12_count_110 rfl rfl ?_
      cases hf
      exact aw_iret dX12_count_111 hq (Nat.le_refl _) (Nat.le_refl _)
    have hf := ax_neg hc6 hf
    by_cases hc7 : x1 = (3 : Int32)
    · have hf := ax_pos hc7 hf
      refine aw_tableAt (tgt := 112) 3 dX12_count_61 hc7 (by decide) rfl (by decide) ?_
      refine aw_aload_n dX12_count_112 rfl rfl ?_
      refine aw_gI dX12_count_113 fl_X12_154 sh_58 rfl ?_
      cases hf
      exact aw_iret dX12_count_116 hq (Nat.le_refl _) (Nat.le_refl _)
    have hf := ax_neg hc7 hf
    by_cases hc8 : x1 = (4 : Int32)
    · have hf := ax_pos hc8 hf
      refine aw_tableAt (tgt := 117) 4 dX12_count_61 hc8 (by decide) rfl (by decide) ?_
      refine aw_aload_n dX12_count_117 rfl rfl ?_
      refine aw_gI dX12_count_118 fl_X12_147 sh_58 rfl ?_
      cases hf
      exact aw_iret dX12_count_121 hq (Nat.le_refl _) (Nat.le_refl _)
    have hf := ax_neg hc8 hf
    by_cases hc9 : x1 = (5 : Int32)
    · have hf := ax_pos hc9 hf
      refine aw_tableAt (tgt := 122) 5 dX12_count_61 hc9 (by decide) rfl (by decide) ?_
      refine aw_aload_n dX12_count_122 rfl rfl ?_
      refine aw_gI dX12_count_123 fl_X12_75 sh_58 rfl ?_
      cases hf
      exact aw_iret dX12_count_126 hq (Nat.le_refl _) (Nat.le_refl _)
    have hf := ax_neg hc9 hf
    refine aw_tableOut (tgt := 127) dX12_count_61 (ax_sw 5 (fun i hi => ?_)) (by decide) ?_
    · rcases (show i = 0 ∨ i = 1 ∨ i = 2 ∨ i = 3 ∨ i = 4 ∨ i = 5 by omega) with rfl | rfl | rfl | rfl | rfl | rfl <;> assumption
    · refine aw_iconst (v := -1) dX12_count_127 (by decide) ?_
      cases hf
      exact aw_iret dX12_count_128 hq (Nat.le_refl _) (Nat.le_refl _)
noncomputable def f_X12_told (x0 : Int32) (s : sx_M) : Option (Int64 × sx_M) :=
  (if x0 = (2147483647 : Int32) then
 some ((9223372036854775807 : Int64), s)
else
 some ((x0).toInt64, s))
set_option maxRecDepth 100000 in
set_option maxHeartbeats 4000000 in
theorem k_X12_told {l : Launch} {X : ax_X} {Q : Option Value → ax_H → Prop} (x0 : Int32) (s : sx_M) (gb : ax_H) {p : Int64 × sx_M} (hf : f_X12_told x0 s = some p) (hq : Q (some (.long p.1)) (hp p.2 gb)) : AM l X yX12_told cX12_told 1 (some .long) 0 0 0 [.int x0] (hp s gb) Q := by
  refine aw_met (own := RX12) (nm := "told") (L := [some (.int x0)]) (by decide +kernel) rfl rfl (And.intro rfl trivial) (Nat.le_of_ble_eq_true rfl) ?_
  unfold f_X12_told at hf
  refine aw_iload_n dX12_told_0 rfl rfl ?_
  refine aw_ldc dX12_told_1 kc_X12_131 ?_
  refine aw_icmp_ne (tgt := 12) dX12_told_3 (by decide) (fun hc1 => ?_) (fun hc1 => ?_)
  · have hf := ax_neg hc1 hf
    refine aw_iload_n dX12_told_12 rfl rfl ?_
    refine aw_i2l dX12_told_13 ?_
    cases hf
    exact aw_lret dX12_told_14 hq (Nat.le_refl _) (Nat.le_refl _)
  · have hf := ax_pos hc1 hf
    refine aw_ldc2 dX12_told_6 kc_X12_185 ?_
    refine aw_goto (tgt := 14) dX12_told_9 (by decide) ?_
    cases hf
    exact aw_lret dX12_told_14 hq (Nat.le_refl _) (Nat.le_refl _)
noncomputable def f_X12_cost (x1 : Int32) (x2 : Int32) (s : sx_M) : Option (Int64 × sx_M) :=
  (f_X12_isWorker x1 s).bind (fun p1 =>
 (if p1.1 = 0 then
 some ((-9223372036854775808 : Int64), p1.2)
else
 (f_X12_isJob x2 p1.2).bind (fun p2 =>
 (if p2.1 = 0 then
 some ((-9223372036854775808 : Int64), p2.2)
else
 (f_X12_costOf x1 x2 p2.2).bind (fun p3 =>
 (f_X12_told p3.1 p3.2).bind (fun p4 =>
 some (p4.1, p4.2)))))))
set_option maxRecDepth 100000 in
set_option maxHeartbeats 4000000 in
theorem k_X12_cost {l : Launch} {X : ax_X} {Q : Option Value → ax_H → Prop} (x1 : Int32) (x2 : Int32) (s : sx_M) (gb : ax_H) {p : Int64 × sx_M} (hf : f_X12_cost x1 x2 s = some p) (hq : Q (some (.long p.1)) (hp p.2 gb)) : AM l X yX12_cost cX12_cost 3 (some .long) 2 0 0 [.ref 58, .int x1, .int x2] (hp s gb) Q := by
  refine aw_met (own := RX12) (nm := "cost") (L := [some (.ref 58), some (.int x1), some (.int x2)]) (by decide +kernel) rfl rfl (And.intro rfl (And.intro rfl (And.intro rfl trivial))) (Nat.le_of_ble_eq_true rfl) ?_
  unfold f_X12_cost at hf
  refine aw_aload_n dX12_cost_0 rfl rfl ?_
  refine aw_iload_n dX12_cost_1 rfl rfl ?_
  obtain ⟨p1, hp1, hf⟩ := ax_bind hf
  refine aw_cVi (As := [.int x1]) (st := []) dX12_cost_2 cl_X12_187 iv_X12_isWorker (k_X12_isWorker (Q := (fun v h' => v = some (.int p1.1) ∧ h' = hp p1.2 gb)) x1 s gb hp1 ⟨rfl, rfl⟩) (ci := 12) rfl (hp_get sh_58) rfl rfl rfl (Nat.le_of_ble_eq_true rfl) rfl (by decide) (by decide) ?_
  refine aw_if_eq (tgt := 28) dX12_cost_5 (by decide) (fun hc2 => ?_) (fun hc2 => ?_)
  · have hf := ax_pos hc2 hf
    refine aw_ldc2 dX12_cost_28 kc_X12_197 ?_
    cases hf
    exact aw_lret dX12_cost_31 hq (Nat.le_refl _) (Nat.le_refl _)
  · have hf := ax_neg hc2 hf
    refine aw_aload_n dX12_cost_8 rfl rfl ?_
    refine aw_iload_n dX12_cost_9 rfl rfl ?_
    obtain ⟨p2, hp2, hf⟩ := ax_bind hf
    refine aw_cVi (As := [.int x2]) (st := []) dX12_cost_10 cl_X12_190 iv_X12_isJob (k_X12_isJob (Q := (fun v h' => v = some (.int p2.1) ∧ h' = hp p2.2 gb)) x2 p1.2 gb hp2 ⟨rfl, rfl⟩) (ci := 12) rfl (hp_get sh_58) rfl rfl rfl (Nat.le_of_ble_eq_true rfl) rfl (by decide) (by decide) ?_
    refine aw_if_eq (tgt := 28) dX12_cost_13 (by decide) (fun hc1 => ?_) (fun hc1 => ?_)
    · have hf := ax_pos hc1 hf
      refine aw_ldc2 dX12_cost_28 kc_X12_197 ?_
      cases hf
      exact aw_lret dX12_cost_31 hq (Nat.le_refl _) (Nat.le_refl _)
    · have hf := ax_neg hc1 hf
      refine aw_aload_n dX12_cost_16 rfl rfl ?_
      refine aw_iload_n dX12_cost_17 rfl rfl ?_
      refine aw_iload_n dX12_cost_18 rfl rfl ?_
      obtain ⟨p3, hp3, hf⟩ := ax_bind hf
      refine aw_cVi (As := [.int x1, .int x2]) (st := []) dX12_cost_19 cl_X12_157 iv_X12_costOf (k_X12_costOf (Q := (fun v h' => v = some (.int p3.1) ∧ h' = hp p3.2 gb)) x1 x2 p2.2 gb hp3 ⟨rfl, rfl⟩) (ci := 12) rfl (hp_get sh_58) rfl rfl rfl (Nat.le_of_ble_eq_true rfl) rfl (by decide) (by decide) ?_
      obtain ⟨p4, hp4, hf⟩ := ax_bind hf
      refine aw_cSl (As := [.int p3.1]) (st := []) dX12_cost_22 cl_X12_193 st_X12_told (k_X12_told (Q := (fun v h' => v = some (.long p4.1) ∧ h' = hp p4.2 gb)) p3.1 p3.2 gb hp4 ⟨rfl, rfl⟩) rfl rfl (Nat.le_of_ble_eq_true rfl) rfl (by decide) (by decide) ?_
      refine aw_goto (tgt := 31) dX12_cost_25 (by decide) ?_
      cases hf
      exact aw_lret dX12_cost_31 hq (Nat.le_refl _) (Nat.le_refl _)
noncomputable def f_X12_sum (x1 : Int32) (s : sx_M) : Option (Int64 × sx_M) :=
  (f_X12_laysFirst s).bind (fun p1 =>
 (f_X12_isThere x1 p1).bind (fun p2 =>
 (if p2.1 = 0 then
 some ((-9223372036854775808 : Int64), p2.2)
else
 (if ¬ (x1 < 0 ∨ 200 ≤ (x1).toNatClampNeg) then
 (if ¬ ((rA p2.2 66 (x1).toNatClampNeg) < 0 ∨ 40320 ≤ ((rA p2.2 66 (x1).toNatClampNeg)).toNatClampNeg) then
 some (((rA p2.2 64 ((rA p2.2 66 (x1).toNatClampNeg)).toNatClampNeg)).toInt64, p2.2)
else none)
else none))))
set_option maxRecDepth 100000 in
set_option maxHeartbeats 4000000 in
theorem k_X12_sum {l : Launch} {X : ax_X} {Q : Option Value → ax_H → Prop} (x1 : Int32) (s : sx_M) (gb : ax_H) {p : Int64 × sx_M} (hf : f_X12_sum x1 s = some p) (hq : Q (some (.long p.1)) (hp p.2 gb)) : AM l X yX12_sum cX12_sum 2 (some .long) 6 0 0 [.ref 58, .int x1] (hp s gb) Q := by
  refine aw_met (own := RX12) (nm := "sum") (L := [some (.ref 58), some (.int x1)]) (by decide +kernel) rfl rfl (And.intro rfl (And.intro rfl trivial)) (Nat.le_of_ble_eq_true rfl) ?_
  unfold f_X12_sum at hf
  refine aw_aload_n dX12_sum_0 rfl rfl ?_
  obtain ⟨p1, hp1, hf⟩ := ax_bind hf
  refine aw_cVv (As := []) (st := []) dX12_sum_1 cl_X12_199 iv_X12_laysFirst (k_X12_laysFirst (Q := (fun v h' => v = none ∧ h' = hp p1 gb)) s gb hp1 ⟨rfl, rfl⟩) (ci := 12) rfl (hp_get sh_58) rfl rfl rfl (Nat.le_of_ble_eq_true rfl) rfl (by decide) (by decide) ?_
  refine aw_aload_n dX12_sum_4 rfl rfl ?_
  refine aw_iload_n dX12_sum_5 rfl rfl ?_
  obtain ⟨p2, hp2, hf⟩ := ax_bind hf
  refine aw_cVi (As := [.int x1]) (st := []) dX12_sum_6 cl_X12_202 iv_X12_isThere (k_X12_isThere (Q := (fun v h' => v = some (.int p2.1) ∧ h' = hp p2.2 gb)) x1 p1 gb hp2 ⟨rfl, rfl⟩) (ci := 12) rfl (hp_get sh_58) rfl rfl rfl (Nat.le_of_ble_eq_true rfl) rfl (by decide) (by decide) ?_
  refine aw_if_eq (tgt := 27) dX12_sum_9 (by decide) (fun hc3 => ?_) (fun hc3 => ?_)
  · have hf := ax_pos hc3 hf
    refine aw_ldc2 dX12_sum_27 kc_X12_197 ?_
    cases hf
    exact aw_lret dX12_sum_30 hq (Nat.le_refl _) (Nat.le_refl _)
  · have hf := ax_neg hc3 hf
    refine aw_aload_n dX12_sum_12 rfl rfl ?_
    refine aw_gR dX12_sum_13 fl_X12_34 sh_58 rfl ?_
    refine aw_aload_n dX12_sum_16 rfl rfl ?_
    refine aw_gR dX12_sum_17 fl_X12_40 sh_58 rfl ?_
    refine aw_iload_n dX12_sum_20 rfl rfl ?_
    obtain ⟨hc1, hf⟩ := ax_ite hf
    refine aw_lA dX12_sum_21 sh_66 hc1 ?_
    obtain ⟨hc2, hf⟩ := ax_ite hf
    refine aw_lA dX12_sum_22 sh_64 hc2 ?_
    refine aw_i2l dX12_sum_23 ?_
    refine aw_goto (tgt := 30) dX12_sum_24 (by decide) ?_
    cases hf
    exact aw_lret dX12_sum_30 hq (Nat.le_refl _) (Nat.le_refl _)
noncomputable def f_X12_job (x1 : Int32) (x2 : Int32) (s : sx_M) : Option (Int32 × sx_M) :=
  (f_X12_isRank x1 s).bind (fun p1 =>
 (if p1.1 = 0 then
 some ((-2 : Int32), p1.2)
else
 (f_X12_isWorker x2 p1.2).bind (fun p2 =>
 (if p2.1 = 0 then
 some ((-2 : Int32), p2.2)
else
 (f_X12_laysFirst p2.2).bind (fun p3 =>
 (f_X12_isThere x1 p3).bind (fun p4 =>
 (if p4.1 = 0 then
 some ((-1 : Int32), p4.2)
else
 (if ¬ (x1 < 0 ∨ 200 ≤ (x1).toNatClampNeg) then
 (f_X12_jobOf (rA p4.2 66 (x1).toNatClampNeg) x2 p4.2).bind (fun p5 =>
 some (p5.1, p5.2))
else none))))))))
set_option maxRecDepth 100000 in
set_option maxHeartbeats 4000000 in
theorem k_X12_job {l : Launch} {X : ax_X} {Q : Option Value → ax_H → Prop} (x1 : Int32) (x2 : Int32) (s : sx_M) (gb : ax_H) {p : Int32 × sx_M} (hf : f_X12_job x1 x2 s = some p) (hq : Q (some (.int p.1)) (hp p.2 gb)) : AM l X yX12_job cX12_job 3 (some .int) 6 0 0 [.ref 58, .int x1, .int x2] (hp s gb) Q := by
  refine aw_met (own := RX12) (nm := "job") (L := [some (.ref 58), some (.int x1), some (.int x2)]) (by decide +kernel) rfl rfl (And.intro rfl (And.intro rfl (And.intro rfl trivial))) (Nat.le_of_ble_eq_true rfl) ?_
  unfold f_X12_job at hf
  refine aw_iload_n dX12_job_0 rfl rfl ?_
  obtain ⟨p1, hp1, hf⟩ := ax_bind hf
  refine aw_cSi (As := [.int x1]) (st := []) dX12_job_1 cl_X12_181 st_X12_isRank (k_X12_isRank (Q := (fun v h' => v = some (.int p1.1) ∧ h' = hp p1.2 gb)) x1 s gb hp1 ⟨rfl, rfl⟩) rfl rfl (Nat.le_of_ble_eq_true rfl) rfl (by decide) (by decide) ?_
  refine aw_if_eq (tgt := 15) dX12_job_4 (by decide) (fun hc4 => ?_) (fun hc4 => ?_)
  · have hf := ax_pos hc4 hf
    refine aw_bipush (v := -2) dX12_job_15 (by decide) ?_
    cases hf
    exact aw_iret dX12_job_17 hq (Nat.le_refl _) (Nat.le_refl _)
  · have hf := ax_neg hc4 hf
    refine aw_aload_n dX12_job_7 rfl rfl ?_
    refine aw_iload_n dX12_job_8 rfl rfl ?_
    obtain ⟨p2, hp2, hf⟩ := ax_bind hf
    refine aw_cVi (As := [.int x2]) (st := []) dX12_job_9 cl_X12_187 iv_X12_isWorker (k_X12_isWorker (Q := (fun v h' => v = some (.int p2.1) ∧ h' = hp p2.2 gb)) x2 p1.2 gb hp2 ⟨rfl, rfl⟩) (ci := 12) rfl (hp_get sh_58) rfl rfl rfl (Nat.le_of_ble_eq_true rfl) rfl (by decide) (by decide) ?_
    refine aw_if_ne (tgt := 18) dX12_job_12 (by decide) (fun hc3 => ?_) (fun hc3 => ?_)
    · have hf := ax_neg hc3 hf
      refine aw_aload_n dX12_job_18 rfl rfl ?_
      obtain ⟨p3, hp3, hf⟩ := ax_bind hf
      refine aw_cVv (As := []) (st := []) dX12_job_19 cl_X12_199 iv_X12_laysFirst (k_X12_laysFirst (Q := (fun v h' => v = none ∧ h' = hp p3 gb)) p2.2 gb hp3 ⟨rfl, rfl⟩) (ci := 12) rfl (hp_get sh_58) rfl rfl rfl (Nat.le_of_ble_eq_true rfl) rfl (by decide) (by decide) ?_
      refine aw_aload_n dX12_job_22 rfl rfl ?_
      refine aw_iload_n dX12_job_23 rfl rfl ?_
      obtain ⟨p4, hp4, hf⟩ := ax_bind hf
      refine aw_cVi (As := [.int x1]) (st := []) dX12_job_24 cl_X12_202 iv_X12_isThere (k_X12_isThere (Q := (fun v h' => v = some (.int p4.1) ∧ h' = hp p4.2 gb)) x1 p3 gb hp4 ⟨rfl, rfl⟩) (ci := 12) rfl (hp_get sh_58) rfl rfl rfl (Nat.le_of_ble_eq_true rfl) rfl (by decide) (by decide) ?_
      refine aw_if_eq (tgt := 44) dX12_job_27 (by decide) (fun hc2 => ?_) (fun hc2 => ?_)
      · have hf := ax_pos hc2 hf
        refine aw_iconst (v := -1) dX12_job_44 (by decide) ?_
        cases hf
        exact aw_iret dX12_job_45 hq (Nat.le_refl _) (Nat.le_refl _)
      · have hf := ax_neg hc2 hf
        refine aw_aload_n dX12_job_30 rfl rfl ?_
        refine aw_aload_n dX12_job_31 rfl rfl ?_
        refine aw_gR dX12_job_32 fl_X12_40 sh_58 rfl ?_
        refine aw_iload_n dX12_job_35 rfl rfl ?_
        obtain ⟨hc1, hf⟩ := ax_ite hf
        refine aw_lA dX12_job_36 sh_66 hc1 ?_
        refine aw_iload_n dX12_job_37 rfl rfl ?_
        obtain ⟨p5, hp5, hf⟩ := ax_bind hf
        refine aw_cVi (As := [.int (rA p4.2 66 (x1).toNatClampNeg), .int x2]) (st := []) dX12_job_38 cl_X12_205 iv_X12_jobOf (k_X12_jobOf (Q := (fun v h' => v = some (.int p5.1) ∧ h' = hp p5.2 gb)) (rA p4.2 66 (x1).toNatClampNeg) x2 p4.2 gb hp5 ⟨rfl, rfl⟩) (ci := 12) rfl (hp_get sh_58) rfl rfl rfl (Nat.le_of_ble_eq_true rfl) rfl (by decide) (by decide) ?_
        refine aw_goto (tgt := 45) dX12_job_41 (by decide) ?_
        cases hf
        exact aw_iret dX12_job_45 hq (Nat.le_refl _) (Nat.le_refl _)
    · have hf := ax_pos hc3 hf
      refine aw_bipush (v := -2) dX12_job_15 (by decide) ?_
      cases hf
      exact aw_iret dX12_job_17 hq (Nat.le_refl _) (Nat.le_refl _)
noncomputable def f_X12_ties_L18_J60 (z1 : Int32) (y3_60 : Int32) (t0_60 : Int32) (t1_60 : Int32) (s_60 : sx_M) : Option ((Int32 × Int32 × sx_M) ⊕ (Int32 × sx_M)) :=
  some (.inl ((t0_60 + t1_60), (y3_60 + (1 : Int32)), s_60))
noncomputable def f_X12_ties_L18 (z1 : Int32) (a18 : Int32 × Int32 × sx_M) : Option ((Int32 × Int32 × sx_M) ⊕ (Int32 × sx_M)) :=
  (if (rI a18.2.2 58 15) ≤ a18.2.1 then
 some (.inr (a18.1, a18.2.2))
else
 (f_X12_isThere z1 a18.2.2).bind (fun p3 =>
 (if p3.1 = 0 then
 some (.inr (a18.1, p3.2))
else
 (if ¬ (a18.2.1 < 0 ∨ 40320 ≤ (a18.2.1).toNatClampNeg) then
 (if ¬ (z1 < 0 ∨ 200 ≤ (z1).toNatClampNeg) then
 (if ¬ ((rA p3.2 66 (z1).toNatClampNeg) < 0 ∨ 40320 ≤ ((rA p3.2 66 (z1).toNatClampNeg)).toNatClampNeg) then
 (if (rA p3.2 64 (a18.2.1).toNatClampNeg) = (rA p3.2 64 ((rA p3.2 66 (z1).toNatClampNeg)).toNatClampNeg) then
 f_X12_ties_L18_J60 z1 a18.2.1 a18.1 (1 : Int32) p3.2
else
 f_X12_ties_L18_J60 z1 a18.2.1 a18.1 (0 : Int32) p3.2)
else none)
else none)
else none))))
noncomputable def f_X12_ties (x1 : Int32) (s : sx_M) : Option (Int32 × sx_M) :=
  (f_X12_isRank x1 s).bind (fun p1 =>
 (if p1.1 = 0 then
 some ((-2 : Int32), p1.2)
else
 (f_X12_laysFirst p1.2).bind (fun p2 =>
 (whT (f_X12_ties_L18 x1) ((0 : Int32), (0 : Int32), p2)).bind (fun b4 =>
 (f_X12_isThere x1 b4.2).bind (fun p5 =>
 (if p5.1 = 0 then
 some ((-1 : Int32), p5.2)
else
 some (b4.1, p5.2)))))))
set_option maxRecDepth 100000 in
set_option maxHeartbeats 4000000 in
theorem k_X12_ties {l : Launch} {X : ax_X} {Q : Option Value → ax_H → Prop} (x1 : Int32) (s : sx_M) (gb : ax_H) {p : Int32 × sx_M} (hf : f_X12_ties x1 s = some p) (hq : Q (some (.int p.1)) (hp p.2 gb)) : AM l X yX12_ties cX12_ties 4 (some .int) 6 0 0 [.ref 58, .int x1] (hp s gb) Q := by
  refine aw_met (own := RX12) (nm := "ties") (L := [some (.ref 58), some (.int x1), none, none]) (by decide +kernel) rfl rfl (And.intro rfl (And.intro rfl trivial)) (Nat.le_of_ble_eq_true rfl) ?_
  unfold f_X12_ties at hf
  refine aw_iload_n dX12_ties_0 rfl rfl ?_
  obtain ⟨p1, hp1, hf⟩ := ax_bind hf
  refine aw_cSi (As := [.int x1]) (st := []) dX12_ties_1 cl_X12_181 st_X12_isRank (k_X12_isRank (Q := (fun v h' => v = some (.int p1.1) ∧ h' = hp p1.2 gb)) x1 s gb hp1 ⟨rfl, rfl⟩) rfl rfl (Nat.le_of_ble_eq_true rfl) rfl (by decide) (by decide) ?_
  refine aw_if_ne (tgt := 10) dX12_ties_4 (by decide) (fun hc8 => ?_) (fun hc8 => ?_)
  · have hf := ax_neg hc8 hf
    refine aw_aload_n dX12_ties_10 rfl rfl ?_
    obtain ⟨p2, hp2, hf⟩ := ax_bind hf
    refine aw_cVv (As := []) (st := []) dX12_ties_11 cl_X12_199 iv_X12_laysFirst (k_X12_laysFirst (Q := (fun v h' => v = none ∧ h' = hp p2 gb)) p1.2 gb hp2 ⟨rfl, rfl⟩) (ci := 12) rfl (hp_get sh_58) rfl rfl rfl (Nat.le_of_ble_eq_true rfl) rfl (by decide) (by decide) ?_
    refine aw_iconst (v := 0) dX12_ties_14 (by decide) ?_
    refine aw_istore_n (L' := [some (.ref 58), some (.int x1), some (.int (0 : Int32)), none]) dX12_ties_15 rfl (by decide) rfl ?_
    refine aw_iconst (v := 0) dX12_ties_16 (by decide) ?_
    refine aw_istore_n (L' := [some (.ref 58), some (.int x1), some (.int (0 : Int32)), some (.int (0 : Int32))]) dX12_ties_17 rfl (by decide) rfl ?_
    obtain ⟨b4, hb4, hf⟩ := ax_bind hf
    refine wh_go ((0 : Int32), (0 : Int32), p2) (fun a18 : Int32 × Int32 × sx_M => AW l X RX12 "ties" cX12_ties 4 (some .int) (ax_rm 6 0 0) (ax_MQ X Q 0 0) 0 0 18 [some (.ref 58), some (.int x1), some (.int a18.1), some (.int a18.2.1)] [] (hp a18.2.2 gb)) (fun e : Int32 × sx_M => AW l X RX12 "ties" cX12_ties 4 (some .int) (ax_rm 6 0 0) (ax_MQ X Q 0 0) 0 0 68 [some (.ref 58), some (.int x1), some (.int e.1), none] [] (hp e.2 gb)) hb4 ?_ ?_
    · intro a18 r hf hK
      unfold f_X12_ties_L18 at hf
      have J60 : ∀ (y3_60 : Int32) (t0_60 : Int32) (t1_60 : Int32) (s_60 : sx_M), f_X12_ties_L18_J60 x1 y3_60 t0_60 t1_60 s_60 = some r → AW l X RX12 "ties" cX12_ties 4 (some .int) (ax_rm 6 0 0) (ax_MQ X Q 0 0) 0 0 60 [some (.ref 58), some (.int x1), none, some (.int y3_60)] [.int t1_60, .int t0_60] (hp s_60 gb) := by
        intro y3_60 t0_60 t1_60 s_60 hf
        unfold f_X12_ties_L18_J60 at hf
        refine aw_iadd dX12_ties_60 ?_
        refine aw_istore_n (L' := [some (.ref 58), some (.int x1), some (.int (t0_60 + t1_60)), some (.int y3_60)]) dX12_ties_61 rfl (by decide) rfl ?_
        refine aw_iinc (v := (y3_60 + (1 : Int32))) (L' := [some (.ref 58), some (.int x1), some (.int (t0_60 + t1_60)), some (.int (y3_60 + (1 : Int32)))]) dX12_ties_62 rfl rfl (by decide) rfl ?_
        refine aw_goto (tgt := 18) dX12_ties_65 (by decide) ?_
        cases hf
        exact hK
      refine aw_iload_n dX12_ties_18 rfl rfl ?_
      refine aw_aload_n dX12_ties_19 rfl rfl ?_
      refine aw_gI dX12_ties_20 fl_X12_154 sh_58 rfl ?_
      refine aw_icmp_ge (tgt := 68) dX12_ties_23 (by decide) (fun hc6 => ?_) (fun hc6 => ?_)
      · have hf := ax_pos hc6 hf
        refine aw_less (L' := [some (.ref 58), some (.int x1), some (.int a18.1), none]) (And.intro rfl (And.intro rfl (And.intro rfl trivial))) ?_
        cases hf
        exact hK
      · have hf := ax_neg hc6 hf
        refine aw_aload_n dX12_ties_26 rfl rfl ?_
        refine aw_iload_n dX12_ties_27 rfl rfl ?_
        obtain ⟨p3, hp3, hf⟩ := ax_bind hf
        refine aw_cVi (As := [.int x1]) (st := []) dX12_ties_28 cl_X12_202 iv_X12_isThere (k_X12_isThere (Q := (fun v h' => v = some (.int p3.1) ∧ h' = hp p3.2 gb)) x1 a18.2.2 gb hp3 ⟨rfl, rfl⟩) (ci := 12) rfl (hp_get sh_58) rfl rfl rfl (Nat.le_of_ble_eq_true rfl) rfl (by decide) (by decide) ?_
        refine aw_if_eq (tgt := 68) dX12_ties_31 (by decide) (fun hc5 => ?_) (fun hc5 => ?_)
        · have hf := ax_pos hc5 hf
          refine aw_less (L' := [some (.ref 58), some (.int x1), some (.int a18.1), none]) (And.intro rfl (And.intro rfl (And.intro rfl trivial))) ?_
          cases hf
          exact hK
        · have hf := ax_neg hc5 hf
          refine aw_iload_n dX12_ties_34 rfl rfl ?_
          refine aw_aload_n dX12_ties_35 rfl rfl ?_
          refine aw_gR dX12_ties_36 fl_X12_34 sh_58 rfl ?_
          refine aw_iload_n dX12_ties_39 rfl rfl ?_
          obtain ⟨hc1, hf⟩ := ax_ite hf
          refine aw_lA dX12_ties_40 sh_64 hc1 ?_
          refine aw_aload_n dX12_ties_41 rfl rfl ?_
          refine aw_gR dX12_ties_42 fl_X12_34 sh_58 rfl ?_
          refine aw_aload_n dX12_ties_45 rfl rfl ?_
          refine aw_gR dX12_ties_46 fl_X12_40 sh_58 rfl ?_
          refine aw_iload_n dX12_ties_49 rfl rfl ?_
          obtain ⟨hc2, hf⟩ := ax_ite hf
          refine aw_lA dX12_ties_50 sh_66 hc2 ?_
          obtain ⟨hc3, hf⟩ := ax_ite hf
          refine aw_lA dX12_ties_51 sh_64 hc3 ?_
          refine aw_icmp_ne (tgt := 59) dX12_ties_52 (by decide) (fun hc4 => ?_) (fun hc4 => ?_)
          · have hf := ax_neg hc4 hf
            refine aw_iconst (v := 0) dX12_ties_59 (by decide) ?_
            refine aw_less (L' := [some (.ref 58), some (.int x1), none, some (.int a18.2.1)]) (And.intro rfl (And.intro rfl (And.intro rfl trivial))) ?_
            exact J60 a18.2.1 a18.1 (0 : Int32) p3.2 hf
          · have hf := ax_pos hc4 hf
            refine aw_iconst (v := 1) dX12_ties_55 (by decide) ?_
            refine aw_goto (tgt := 60) dX12_ties_56 (by decide) ?_
            refine aw_less (L' := [some (.ref 58), some (.int x1), none, some (.int a18.2.1)]) (And.intro rfl (And.intro rfl (And.intro rfl trivial))) ?_
            exact J60 a18.2.1 a18.1 (1 : Int32) p3.2 hf
    · refine aw_aload_n dX12_ties_68 rfl rfl ?_
      refine aw_iload_n dX12_ties_69 rfl rfl ?_
      obtain ⟨p5, hp5, hf⟩ := ax_bind hf
      refine aw_cVi (As := [.int x1]) (st := []) dX12_ties_70 cl_X12_202 iv_X12_isThere (k_X12_isThere (Q := (fun v h' => v = some (.int p5.1) ∧ h' = hp p5.2 gb)) x1 b4.2 gb hp5 ⟨rfl, rfl⟩) (ci := 12) rfl (hp_get sh_58) rfl rfl rfl (Nat.le_of_ble_eq_true rfl) rfl (by decide) (by decide) ?_
      refine aw_if_eq (tgt := 80) dX12_ties_73 (by decide) (fun hc7 => ?_) (fun hc7 => ?_)
      · have hf := ax_pos hc7 hf
        refine aw_iconst (v := -1) dX12_ties_80 (by decide) ?_
        cases hf
        exact aw_iret dX12_ties_81 hq (Nat.le_refl _) (Nat.le_refl _)
      · have hf := ax_neg hc7 hf
        refine aw_iload_n dX12_ties_76 rfl rfl ?_
        refine aw_goto (tgt := 81) dX12_ties_77 (by decide) ?_
        cases hf
        exact aw_iret dX12_ties_81 hq (Nat.le_refl _) (Nat.le_refl _)
  · have hf := ax_pos hc8 hf
    refine aw_bipush (v := -2) dX12_ties_7 (by decide) ?_
    cases hf
    exact aw_iret dX12_ties_9 hq (Nat.le_refl _) (Nat.le_refl _)
noncomputable def f_X12_under_L9_J37 (z1 : Int64) (y4_37 : Int32) (t0_37 : Int32) (t1_37 : Int32) (s_37 : sx_M) : Option ((Int32 × Int32 × sx_M) ⊕ (Int32 × sx_M)) :=
  some (.inl ((t0_37 + t1_37), (y4_37 + (1 : Int32)), s_37))
noncomputable def f_X12_under_L9 (z1 : Int64) (a9 : Int32 × Int32 × sx_M) : Option ((Int32 × Int32 × sx_M) ⊕ (Int32 × sx_M)) :=
  (if (rI a9.2.2 58 15) ≤ a9.2.1 then
 some (.inr (a9.1, a9.2.2))
else
 (if ¬ (a9.2.1 < 0 ∨ 40320 ≤ (a9.2.1).toNatClampNeg) then
 (if z1 < ((rA a9.2.2 64 (a9.2.1).toNatClampNeg)).toInt64 then
 f_X12_under_L9_J37 z1 a9.2.1 a9.1 (0 : Int32) a9.2.2
else
 f_X12_under_L9_J37 z1 a9.2.1 a9.1 (1 : Int32) a9.2.2)
else none))
noncomputable def f_X12_under (x1 : Int64) (s : sx_M) : Option (Int32 × sx_M) :=
  (f_X12_goesAll s).bind (fun p1 =>
 (whT (f_X12_under_L9 x1) ((0 : Int32), (0 : Int32), p1)).bind (fun b2 =>
 some (b2.1, b2.2)))
set_option maxRecDepth 100000 in
set_option maxHeartbeats 4000000 in
theorem k_X12_under {l : Launch} {X : ax_X} {Q : Option Value → ax_H → Prop} (x1 : Int64) (s : sx_M) (gb : ax_H) {p : Int32 × sx_M} (hf : f_X12_under x1 s = some p) (hq : Q (some (.int p.1)) (hp p.2 gb)) : AM l X yX12_under cX12_under 5 (some .int) 5 0 0 [.ref 58, .long x1] (hp s gb) Q := by
  refine aw_met (own := RX12) (nm := "under") (L := [some (.ref 58), some (.long x1), none, none, none]) (by decide +kernel) rfl rfl (And.intro rfl (And.intro rfl trivial)) (Nat.le_of_ble_eq_true rfl) ?_
  unfold f_X12_under at hf
  refine aw_aload_n dX12_under_0 rfl rfl ?_
  obtain ⟨p1, hp1, hf⟩ := ax_bind hf
  refine aw_cVv (As := []) (st := []) dX12_under_1 cl_X12_173 iv_X12_goesAll (k_X12_goesAll (Q := (fun v h' => v = none ∧ h' = hp p1 gb)) s gb hp1 ⟨rfl, rfl⟩) (ci := 12) rfl (hp_get sh_58) rfl rfl rfl (Nat.le_of_ble_eq_true rfl) rfl (by decide) (by decide) ?_
  refine aw_iconst (v := 0) dX12_under_4 (by decide) ?_
  refine aw_istore_n (L' := [some (.ref 58), some (.long x1), none, some (.int (0 : Int32)), none]) dX12_under_5 rfl (by decide) rfl ?_
  refine aw_iconst (v := 0) dX12_under_6 (by decide) ?_
  refine aw_istore (L' := [some (.ref 58), some (.long x1), none, some (.int (0 : Int32)), some (.int (0 : Int32))]) dX12_under_7 (by decide) rfl ?_
  obtain ⟨b2, hb2, hf⟩ := ax_bind hf
  refine wh_go ((0 : Int32), (0 : Int32), p1) (fun a9 : Int32 × Int32 × sx_M => AW l X RX12 "under" cX12_under 5 (some .int) (ax_rm 5 0 0) (ax_MQ X Q 0 0) 0 0 9 [some (.ref 58), some (.long x1), none, some (.int a9.1), some (.int a9.2.1)] [] (hp a9.2.2 gb)) (fun e : Int32 × sx_M => AW l X RX12 "under" cX12_under 5 (some .int) (ax_rm 5 0 0) (ax_MQ X Q 0 0) 0 0 45 [none, none, none, some (.int e.1), none] [] (hp e.2 gb)) hb2 ?_ ?_
  · intro a9 r hf hK
    unfold f_X12_under_L9 at hf
    have J37 : ∀ (y4_37 : Int32) (t0_37 : Int32) (t1_37 : Int32) (s_37 : sx_M), f_X12_under_L9_J37 x1 y4_37 t0_37 t1_37 s_37 = some r → AW l X RX12 "under" cX12_under 5 (some .int) (ax_rm 5 0 0) (ax_MQ X Q 0 0) 0 0 37 [some (.ref 58), some (.long x1), none, none, some (.int y4_37)] [.int t1_37, .int t0_37] (hp s_37 gb) := by
      intro y4_37 t0_37 t1_37 s_37 hf
      unfold f_X12_under_L9_J37 at hf
      refine aw_iadd dX12_under_37 ?_
      refine aw_istore_n (L' := [some (.ref 58), some (.long x1), none, some (.int (t0_37 + t1_37)), some (.int y4_37)]) dX12_under_38 rfl (by decide) rfl ?_
      refine aw_iinc (v := (y4_37 + (1 : Int32))) (L' := [some (.ref 58), some (.long x1), none, some (.int (t0_37 + t1_37)), some (.int (y4_37 + (1 : Int32)))]) dX12_under_39 rfl rfl (by decide) rfl ?_
      refine aw_goto (tgt := 9) dX12_under_42 (by decide) ?_
      cases hf
      exact hK
    refine aw_iload dX12_under_9 rfl ?_
    refine aw_aload_n dX12_under_11 rfl rfl ?_
    refine aw_gI dX12_under_12 fl_X12_154 sh_58 rfl ?_
    refine aw_icmp_ge (tgt := 45) dX12_under_15 (by decide) (fun hc3 => ?_) (fun hc3 => ?_)
    · have hf := ax_pos hc3 hf
      refine aw_less (L' := [none, none, none, some (.int a9.1), none]) (And.intro rfl trivial) ?_
      cases hf
      exact hK
    · have hf := ax_neg hc3 hf
      refine aw_iload_n dX12_under_18 rfl rfl ?_
      refine aw_aload_n dX12_under_19 rfl rfl ?_
      refine aw_gR dX12_under_20 fl_X12_34 sh_58 rfl ?_
      refine aw_iload dX12_under_23 rfl ?_
      obtain ⟨hc1, hf⟩ := ax_ite hf
      refine aw_lA dX12_under_25 sh_64 hc1 ?_
      refine aw_i2l dX12_under_26 ?_
      refine aw_lload_n dX12_under_27 rfl rfl ?_
      refine aw_lcmp_gt (tgt := 36) dX12_under_28 dX12_under_29 (by decide) (fun hc2 => ?_) (fun hc2 => ?_)
      · have hf := ax_pos hc2 hf
        refine aw_iconst (v := 0) dX12_under_36 (by decide) ?_
        refine aw_less (L' := [some (.ref 58), some (.long x1), none, none, some (.int a9.2.1)]) (And.intro rfl (And.intro rfl (And.intro rfl trivial))) ?_
        exact J37 a9.2.1 a9.1 (0 : Int32) a9.2.2 hf
      · have hf := ax_neg hc2 hf
        refine aw_iconst (v := 1) dX12_under_32 (by decide) ?_
        refine aw_goto (tgt := 37) dX12_under_33 (by decide) ?_
        refine aw_less (L' := [some (.ref 58), some (.long x1), none, none, some (.int a9.2.1)]) (And.intro rfl (And.intro rfl (And.intro rfl trivial))) ?_
        exact J37 a9.2.1 a9.1 (1 : Int32) a9.2.2 hf
  · refine aw_iload_n dX12_under_45 rfl rfl ?_
    cases hf
    exact aw_iret dX12_under_46 hq (Nat.le_refl _) (Nat.le_refl _)
noncomputable def f_X12_place_L8 (z1 : Int32) (a8 : Int32 × Int32 × sx_M) : Option ((Int32 × Int32 × sx_M) ⊕ (Int32 × sx_M)) :=
  (if (rI a8.2.2 58 15) ≤ a8.2.1 then
 some (.inr (a8.1, a8.2.2))
else
 (if ¬ (a8.2.1 < 0 ∨ 40320 ≤ (a8.2.1).toNatClampNeg) then
 (if (rA a8.2.2 63 (a8.2.1).toNatClampNeg) = z1 then
 some (.inl (a8.2.1, (a8.2.1 + (1 : Int32)), a8.2.2))
else
 some (.inl (a8.1, (a8.2.1 + (1 : Int32)), a8.2.2)))
else none))
noncomputable def f_X12_place_L43_J101 (z2 : Int32) (y4_101 : Int32) (t0_101 : Int32) (t1_101 : Int32) (s_101 : sx_M) : Option ((Int32 × Int32 × sx_M) ⊕ (Int32 × sx_M)) :=
  some (.inl ((t0_101 + t1_101), (y4_101 + (1 : Int32)), s_101))
noncomputable def f_X12_place_L43 (z2 : Int32) (a43 : Int32 × Int32 × sx_M) : Option ((Int32 × Int32 × sx_M) ⊕ (Int32 × sx_M)) :=
  (if (rI a43.2.2 58 15) ≤ a43.2.1 then
 some (.inr (a43.1, a43.2.2))
else
 (if z2 = (-1 : Int32) then
 some (.inr (a43.1, a43.2.2))
else
 (if ¬ (a43.2.1 < 0 ∨ 40320 ≤ (a43.2.1).toNatClampNeg) then
 (if ¬ (z2 < 0 ∨ 40320 ≤ (z2).toNatClampNeg) then
 (if (rA a43.2.2 64 (a43.2.1).toNatClampNeg) < (rA a43.2.2 64 (z2).toNatClampNeg) then
 f_X12_place_L43_J101 z2 a43.2.1 a43.1 (1 : Int32) a43.2.2
else
 (if ¬ (a43.2.1 < 0 ∨ 40320 ≤ (a43.2.1).toNatClampNeg) then
 (if ¬ (z2 < 0 ∨ 40320 ≤ (z2).toNatClampNeg) then
 (if (rA a43.2.2 64 (a43.2.1).toNatClampNeg) = (rA a43.2.2 64 (z2).toNatClampNeg) then
 (if z2 ≤ a43.2.1 then
 f_X12_place_L43_J101 z2 a43.2.1 a43.1 (0 : Int32) a43.2.2
else
 f_X12_place_L43_J101 z2 a43.2.1 a43.1 (1 : Int32) a43.2.2)
else
 f_X12_place_L43_J101 z2 a43.2.1 a43.1 (0 : Int32) a43.2.2)
else none)
else none))
else none)
else none)))
noncomputable def f_X12_place (x1 : Int32) (s : sx_M) : Option (Int32 × sx_M) :=
  (f_X12_goesAll s).bind (fun p1 =>
 (whT (f_X12_place_L8 x1) ((-1 : Int32), (0 : Int32), p1)).bind (fun b2 =>
 (whT (f_X12_place_L43 b2.1) ((0 : Int32), (0 : Int32), b2.2)).bind (fun b3 =>
 (if b2.1 = (-1 : Int32) then
 some ((-1 : Int32), b3.2)
else
 some (b3.1, b3.2)))))
set_option maxRecDepth 100000 in
set_option maxHeartbeats 4000000 in
theorem k_X12_place {l : Launch} {X : ax_X} {Q : Option Value → ax_H → Prop} (x1 : Int32) (s : sx_M) (gb : ax_H) {p : Int32 × sx_M} (hf : f_X12_place x1 s = some p) (hq : Q (some (.int p.1)) (hp p.2 gb)) : AM l X yX12_place cX12_place 5 (some .int) 5 0 0 [.ref 58, .int x1] (hp s gb) Q := by
  refine aw_met (own := RX12) (nm := "place") (L := [some (.ref 58), some (.int x1), none, none, none]) (by decide +kernel) rfl rfl (And.intro rfl (And.intro rfl trivial)) (Nat.le_of_ble_eq_true rfl) ?_
  unfold f_X12_place at hf
  refine aw_aload_n dX12_place_0 rfl rfl ?_
  obtain ⟨p1, hp1, hf⟩ := ax_bind hf
  refine aw_cVv (As := []) (st := []) dX12_place_1 cl_X12_173 iv_X12_goesAll (k_X12_goesAll (Q := (fun v h' => v = none ∧ h' = hp p1 gb)) s gb hp1 ⟨rfl, rfl⟩) (ci := 12) rfl (hp_get sh_58) rfl rfl rfl (Nat.le_of_ble_eq_true rfl) rfl (by decide) (by decide) ?_
  refine aw_iconst (v := -1) dX12_place_4 (by decide) ?_
  refine aw_istore_n (L' := [some (.ref 58), some (.int x1), some (.int (-1 : Int32)), none, none]) dX12_place_5 rfl (by decide) rfl ?_
  refine aw_iconst (v := 0) dX12_place_6 (by decide) ?_
  refine aw_istore_n (L' := [some (.ref 58), some (.int x1), some (.int (-1 : Int32)), some (.int (0 : Int32)), none]) dX12_place_7 rfl (by decide) rfl ?_
  obtain ⟨b2, hb2, hf⟩ := ax_bind hf
  refine wh_go ((-1 : Int32), (0 : Int32), p1) (fun a8 : Int32 × Int32 × sx_M => AW l X RX12 "place" cX12_place 5 (some .int) (ax_rm 5 0 0) (ax_MQ X Q 0 0) 0 0 8 [some (.ref 58), some (.int x1), some (.int a8.1), some (.int a8.2.1), none] [] (hp a8.2.2 gb)) (fun e : Int32 × sx_M => AW l X RX12 "place" cX12_place 5 (some .int) (ax_rm 5 0 0) (ax_MQ X Q 0 0) 0 0 38 [some (.ref 58), none, some (.int e.1), none, none] [] (hp e.2 gb)) hb2 ?_ ?_
  · intro a8 r hf hK
    unfold f_X12_place_L8 at hf
    refine aw_iload_n dX12_place_8 rfl rfl ?_
    refine aw_aload_n dX12_place_9 rfl rfl ?_
    refine aw_gI dX12_place_10 fl_X12_154 sh_58 rfl ?_
    refine aw_icmp_ge (tgt := 38) dX12_place_13 (by decide) (fun hc3 => ?_) (fun hc3 => ?_)
    · have hf := ax_pos hc3 hf
      refine aw_less (L' := [some (.ref 58), none, some (.int a8.1), none, none]) (And.intro rfl (And.intro rfl trivial)) ?_
      cases hf
      exact hK
    · have hf := ax_neg hc3 hf
      refine aw_aload_n dX12_place_16 rfl rfl ?_
      refine aw_gR dX12_place_17 fl_X12_31 sh_58 rfl ?_
      refine aw_iload_n dX12_place_20 rfl rfl ?_
      obtain ⟨hc1, hf⟩ := ax_ite hf
      refine aw_lA dX12_place_21 sh_63 hc1 ?_
      refine aw_iload_n dX12_place_22 rfl rfl ?_
      refine aw_icmp_ne (tgt := 30) dX12_place_23 (by decide) (fun hc2 => ?_) (fun hc2 => ?_)
      · have hf := ax_neg hc2 hf
        refine aw_iload_n dX12_place_30 rfl rfl ?_
        refine aw_istore_n (L' := [some (.ref 58), some (.int x1), some (.int a8.1), some (.int a8.2.1), none]) dX12_place_31 rfl (by decide) rfl ?_
        refine aw_iinc (v := (a8.2.1 + (1 : Int32))) (L' := [some (.ref 58), some (.int x1), some (.int a8.1), some (.int (a8.2.1 + (1 : Int32))), none]) dX12_place_32 rfl rfl (by decide) rfl ?_
        refine aw_goto (tgt := 8) dX12_place_35 (by decide) ?_
        cases hf
        exact hK
      · have hf := ax_pos hc2 hf
        refine aw_iload_n dX12_place_26 rfl rfl ?_
        refine aw_goto (tgt := 31) dX12_place_27 (by decide) ?_
        refine aw_istore_n (L' := [some (.ref 58), some (.int x1), some (.int a8.2.1), some (.int a8.2.1), none]) dX12_place_31 rfl (by decide) rfl ?_
        refine aw_iinc (v := (a8.2.1 + (1 : Int32))) (L' := [some (.ref 58), some (.int x1), some (.int a8.2.1), some (.int (a8.2.1 + (1 : Int32))), none]) dX12_place_32 rfl rfl (by decide) rfl ?_
        refine aw_goto (tgt := 8) dX12_place_35 (by decide) ?_
        cases hf
        exact hK
  · refine aw_iconst (v := 0) dX12_place_38 (by decide) ?_
    refine aw_istore_n (L' := [some (.ref 58), none, some (.int b2.1), some (.int (0 : Int32)), none]) dX12_place_39 rfl (by decide) rfl ?_
    refine aw_iconst (v := 0) dX12_place_40 (by decide) ?_
    refine aw_istore (L' := [some (.ref 58), none, some (.int b2.1), some (.int (0 : Int32)), some (.int (0 : Int32))]) dX12_place_41 (by decide) rfl ?_
    obtain ⟨b3, hb3, hf⟩ := ax_bind hf
    refine wh_go ((0 : Int32), (0 : Int32), b2.2) (fun a43 : Int32 × Int32 × sx_M => AW l X RX12 "place" cX12_place 5 (some .int) (ax_rm 5 0 0) (ax_MQ X Q 0 0) 0 0 43 [some (.ref 58), none, some (.int b2.1), some (.int a43.1), some (.int a43.2.1)] [] (hp a43.2.2 gb)) (fun e : Int32 × sx_M => AW l X RX12 "place" cX12_place 5 (some .int) (ax_rm 5 0 0) (ax_MQ X Q 0 0) 0 0 109 [none, none, some (.int b2.1), some (.int e.1), none] [] (hp e.2 gb)) hb3 ?_ ?_
    · intro a43 r hf hK
      unfold f_X12_place_L43 at hf
      have J101 : ∀ (y4_101 : Int32) (t0_101 : Int32) (t1_101 : Int32) (s_101 : sx_M), f_X12_place_L43_J101 b2.1 y4_101 t0_101 t1_101 s_101 = some r → AW l X RX12 "place" cX12_place 5 (some .int) (ax_rm 5 0 0) (ax_MQ X Q 0 0) 0 0 101 [some (.ref 58), none, some (.int b2.1), none, some (.int y4_101)] [.int t1_101, .int t0_101] (hp s_101 gb) := by
        intro y4_101 t0_101 t1_101 s_101 hf
        unfold f_X12_place_L43_J101 at hf
        refine aw_iadd dX12_place_101 ?_
        refine aw_istore_n (L' := [some (.ref 58), none, some (.int b2.1), some (.int (t0_101 + t1_101)), some (.int y4_101)]) dX12_place_102 rfl (by decide) rfl ?_
        refine aw_iinc (v := (y4_101 + (1 : Int32))) (L' := [some (.ref 58), none, some (.int b2.1), some (.int (t0_101 + t1_101)), some (.int (y4_101 + (1 : Int32)))]) dX12_place_103 rfl rfl (by decide) rfl ?_
        refine aw_goto (tgt := 43) dX12_place_106 (by decide) ?_
        cases hf
        exact hK
      refine aw_iload dX12_place_43 rfl ?_
      refine aw_aload_n dX12_place_45 rfl rfl ?_
      refine aw_gI dX12_place_46 fl_X12_154 sh_58 rfl ?_
      refine aw_icmp_ge (tgt := 109) dX12_place_49 (by decide) (fun hc12 => ?_) (fun hc12 => ?_)
      · have hf := ax_pos hc12 hf
        refine aw_less (L' := [none, none, some (.int b2.1), some (.int a43.1), none]) (And.intro rfl (And.intro rfl trivial)) ?_
        cases hf
        exact hK
      · have hf := ax_neg hc12 hf
        refine aw_iload_n dX12_place_52 rfl rfl ?_
        refine aw_iconst (v := -1) dX12_place_53 (by decide) ?_
        refine aw_icmp_eq (tgt := 109) dX12_place_54 (by decide) (fun hc11 => ?_) (fun hc11 => ?_)
        · have hf := ax_pos hc11 hf
          refine aw_less (L' := [none, none, some (.int b2.1), some (.int a43.1), none]) (And.intro rfl (And.intro rfl trivial)) ?_
          cases hf
          exact hK
        · have hf := ax_neg hc11 hf
          refine aw_iload_n dX12_place_57 rfl rfl ?_
          refine aw_aload_n dX12_place_58 rfl rfl ?_
          refine aw_gR dX12_place_59 fl_X12_34 sh_58 rfl ?_
          refine aw_iload dX12_place_62 rfl ?_
          obtain ⟨hc4, hf⟩ := ax_ite hf
          refine aw_lA dX12_place_64 sh_64 hc4 ?_
          refine aw_aload_n dX12_place_65 rfl rfl ?_
          refine aw_gR dX12_place_66 fl_X12_34 sh_58 rfl ?_
          refine aw_iload_n dX12_place_69 rfl rfl ?_
          obtain ⟨hc5, hf⟩ := ax_ite hf
          refine aw_lA dX12_place_70 sh_64 hc5 ?_
          refine aw_icmp_lt (tgt := 96) dX12_place_71 (by decide) (fun hc10 => ?_) (fun hc10 => ?_)
          · have hf := ax_pos hc10 hf
            refine aw_iconst (v := 1) dX12_place_96 (by decide) ?_
            refine aw_goto (tgt := 101) dX12_place_97 (by decide) ?_
            refine aw_less (L' := [some (.ref 58), none, some (.int b2.1), none, some (.int a43.2.1)]) (And.intro rfl (And.intro rfl (And.intro rfl trivial))) ?_
            exact J101 a43.2.1 a43.1 (1 : Int32) a43.2.2 hf
          · have hf := ax_neg hc10 hf
            refine aw_aload_n dX12_place_74 rfl rfl ?_
            refine aw_gR dX12_place_75 fl_X12_34 sh_58 rfl ?_
            refine aw_iload dX12_place_78 rfl ?_
            obtain ⟨hc6, hf⟩ := ax_ite hf
            refine aw_lA dX12_place_80 sh_64 hc6 ?_
            refine aw_aload_n dX12_place_81 rfl rfl ?_
            refine aw_gR dX12_place_82 fl_X12_34 sh_58 rfl ?_
            refine aw_iload_n dX12_place_85 rfl rfl ?_
            obtain ⟨hc7, hf⟩ := ax_ite hf
            refine aw_lA dX12_place_86 sh_64 hc7 ?_
            refine aw_icmp_ne (tgt := 100) dX12_place_87 (by decide) (fun hc9 => ?_) (fun hc9 => ?_)
            · have hf := ax_neg hc9 hf
              refine aw_iconst (v := 0) dX12_place_100 (by decide) ?_
              refine aw_less (L' := [some (.ref 58), none, some (.int b2.1), none, some (.int a43.2.1)]) (And.intro rfl (And.intro rfl (And.intro rfl trivial))) ?_
              exact J101 a43.2.1 a43.1 (0 : Int32) a43.2.2 hf
            · have hf := ax_pos hc9 hf
              refine aw_iload dX12_place_90 rfl ?_
              refine aw_iload_n dX12_place_92 rfl rfl ?_
              refine aw_icmp_ge (tgt := 100) dX12_place_93 (by decide) (fun hc8 => ?_) (fun hc8 => ?_)
              · have hf := ax_pos hc8 hf
                refine aw_iconst (v := 0) dX12_place_100 (by decide) ?_
                refine aw_less (L' := [some (.ref 58), none, some (.int b2.1), none, some (.int a43.2.1)]) (And.intro rfl (And.intro rfl (And.intro rfl trivial))) ?_
                exact J101 a43.2.1 a43.1 (0 : Int32) a43.2.2 hf
              · have hf := ax_neg hc8 hf
                refine aw_iconst (v := 1) dX12_place_96 (by decide) ?_
                refine aw_goto (tgt := 101) dX12_place_97 (by decide) ?_
                refine aw_less (L' := [some (.ref 58), none, some (.int b2.1), none, some (.int a43.2.1)]) (And.intro rfl (And.intro rfl (And.intro rfl trivial))) ?_
                exact J101 a43.2.1 a43.1 (1 : Int32) a43.2.2 hf
    · refine aw_iload_n dX12_place_109 rfl rfl ?_
      refine aw_iconst (v := -1) dX12_place_110 (by decide) ?_
      refine aw_icmp_ne (tgt := 118) dX12_place_111 (by decide) (fun hc13 => ?_) (fun hc13 => ?_)
      · have hf := ax_neg hc13 hf
        refine aw_iload_n dX12_place_118 rfl rfl ?_
        cases hf
        exact aw_iret dX12_place_119 hq (Nat.le_refl _) (Nat.le_refl _)
      · have hf := ax_pos hc13 hf
        refine aw_iconst (v := -1) dX12_place_114 (by decide) ?_
        refine aw_goto (tgt := 119) dX12_place_115 (by decide) ?_
        cases hf
        exact aw_iret dX12_place_119 hq (Nat.le_refl _) (Nat.le_refl _)
noncomputable def f_X12_leastBy_L6_J63 (z1 : Int32) (z2 : Int32) (z3 : Int32) (y4_63 : Int32) (y5_63 : Int32) (t0_63 : Int32) (s_63 : sx_M) : Option ((Int32 × Int32 × sx_M) ⊕ (Int32 × sx_M)) :=
  (if t0_63 = 0 then
 some (.inl (y4_63, (y5_63 + (1 : Int32)), s_63))
else
 some (.inl (y5_63, (y5_63 + (1 : Int32)), s_63)))
noncomputable def f_X12_leastBy_L6_J31 (z1 : Int32) (z2 : Int32) (z3 : Int32) (y4_31 : Int32) (y5_31 : Int32) (t0_31 : Int32) (s_31 : sx_M) : Option ((Int32 × Int32 × sx_M) ⊕ (Int32 × sx_M)) :=
  (if t0_31 = z3 then
 (if y4_31 = (-1 : Int32) then
 f_X12_leastBy_L6_J63 z1 z2 z3 y4_31 y5_31 (1 : Int32) s_31
else
 (if ¬ (y5_31 < 0 ∨ 40320 ≤ (y5_31).toNatClampNeg) then
 (if ¬ (y4_31 < 0 ∨ 40320 ≤ (y4_31).toNatClampNeg) then
 (if (rA s_31 64 (y4_31).toNatClampNeg) ≤ (rA s_31 64 (y5_31).toNatClampNeg) then
 f_X12_leastBy_L6_J63 z1 z2 z3 y4_31 y5_31 (0 : Int32) s_31
else
 f_X12_leastBy_L6_J63 z1 z2 z3 y4_31 y5_31 (1 : Int32) s_31)
else none)
else none))
else
 f_X12_leastBy_L6_J63 z1 z2 z3 y4_31 y5_31 (0 : Int32) s_31)
noncomputable def f_X12_leastBy_L6 (z1 : Int32) (z2 : Int32) (z3 : Int32) (a6 : Int32 × Int32 × sx_M) : Option ((Int32 × Int32 × sx_M) ⊕ (Int32 × sx_M)) :=
  (if (rI a6.2.2 58 15) ≤ a6.2.1 then
 some (.inr (a6.1, a6.2.2))
else
 (f_X12_jobOf a6.2.1 z1 a6.2.2).bind (fun p1 =>
 (if p1.1 = z2 then
 f_X12_leastBy_L6_J31 z1 z2 z3 a6.1 a6.2.1 (1 : Int32) p1.2
else
 f_X12_leastBy_L6_J31 z1 z2 z3 a6.1 a6.2.1 (0 : Int32) p1.2)))
noncomputable def f_X12_leastBy (x1 : Int32) (x2 : Int32) (x3 : Int32) (s : sx_M) : Option (Int64 × sx_M) :=
  (whT (f_X12_leastBy_L6 x1 x2 x3) ((-1 : Int32), (0 : Int32), s)).bind (fun b2 =>
 (if b2.1 = (-1 : Int32) then
 some ((-9223372036854775808 : Int64), b2.2)
else
 (if ¬ (b2.1 < 0 ∨ 40320 ≤ (b2.1).toNatClampNeg) then
 some (((rA b2.2 64 (b2.1).toNatClampNeg)).toInt64, b2.2)
else none)))
set_option maxRecDepth 100000 in
set_option maxHeartbeats 4000000 in
theorem k_X12_leastBy {l : Launch} {X : ax_X} {Q : Option Value → ax_H → Prop} (x1 : Int32) (x2 : Int32) (x3 : Int32) (s : sx_M) (gb : ax_H) {p : Int64 × sx_M} (hf : f_X12_leastBy x1 x2 x3 s = some p) (hq : Q (some (.long p.1)) (hp p.2 gb)) : AM l X yX12_leastBy cX12_leastBy 7 (some .long) 2 0 0 [.ref 58, .int x1, .int x2, .int x3] (hp s gb) Q := by
  refine aw_met (own := RX12) (nm := "leastBy") (L := [some (.ref 58), some (.int x1), some (.int x2), some (.int x3), none, none, none]) (by decide +kernel) rfl rfl (And.intro rfl (And.intro rfl (And.intro rfl (And.intro rfl trivial)))) (Nat.le_of_ble_eq_true rfl) ?_
  unfold f_X12_leastBy at hf
  refine aw_iconst (v := -1) dX12_leastBy_0 (by decide) ?_
  refine aw_istore (L' := [some (.ref 58), some (.int x1), some (.int x2), some (.int x3), some (.int (-1 : Int32)), none, none]) dX12_leastBy_1 (by decide) rfl ?_
  refine aw_iconst (v := 0) dX12_leastBy_3 (by decide) ?_
  refine aw_istore (L' := [some (.ref 58), some (.int x1), some (.int x2), some (.int x3), some (.int (-1 : Int32)), some (.int (0 : Int32)), none]) dX12_leastBy_4 (by decide) rfl ?_
  obtain ⟨b2, hb2, hf⟩ := ax_bind hf
  refine wh_go ((-1 : Int32), (0 : Int32), s) (fun a6 : Int32 × Int32 × sx_M => AW l X RX12 "leastBy" cX12_leastBy 7 (some .long) (ax_rm 2 0 0) (ax_MQ X Q 0 0) 0 0 6 [some (.ref 58), some (.int x1), some (.int x2), some (.int x3), some (.int a6.1), some (.int a6.2.1), none] [] (hp a6.2.2 gb)) (fun e : Int32 × sx_M => AW l X RX12 "leastBy" cX12_leastBy 7 (some .long) (ax_rm 2 0 0) (ax_MQ X Q 0 0) 0 0 85 [some (.ref 58), none, none, none, some (.int e.1), none, none] [] (hp e.2 gb)) hb2 ?_ ?_
  · intro a6 r hf hK
    unfold f_X12_leastBy_L6 at hf
    have J63 : ∀ (y4_63 : Int32) (y5_63 : Int32) (t0_63 : Int32) (s_63 : sx_M), f_X12_leastBy_L6_J63 x1 x2 x3 y4_63 y5_63 t0_63 s_63 = some r → AW l X RX12 "leastBy" cX12_leastBy 7 (some .long) (ax_rm 2 0 0) (ax_MQ X Q 0 0) 0 0 63 [some (.ref 58), some (.int x1), some (.int x2), some (.int x3), some (.int y4_63), some (.int y5_63), none] [.int t0_63] (hp s_63 gb) := by
      intro y4_63 y5_63 t0_63 s_63 hf
      unfold f_X12_leastBy_L6_J63 at hf
      refine aw_istore (L' := [some (.ref 58), some (.int x1), some (.int x2), some (.int x3), some (.int y4_63), some (.int y5_63), some (.int t0_63)]) dX12_leastBy_63 (by decide) rfl ?_
      refine aw_iload dX12_leastBy_65 rfl ?_
      refine aw_if_eq (tgt := 75) dX12_leastBy_67 (by decide) (fun hc1 => ?_) (fun hc1 => ?_)
      · have hf := ax_pos hc1 hf
        refine aw_iload dX12_leastBy_75 rfl ?_
        refine aw_istore (L' := [some (.ref 58), some (.int x1), some (.int x2), some (.int x3), some (.int y4_63), some (.int y5_63), some (.int t0_63)]) dX12_leastBy_77 (by decide) rfl ?_
        refine aw_iinc (v := (y5_63 + (1 : Int32))) (L' := [some (.ref 58), some (.int x1), some (.int x2), some (.int x3), some (.int y4_63), some (.int (y5_63 + (1 : Int32))), some (.int t0_63)]) dX12_leastBy_79 rfl rfl (by decide) rfl ?_
        refine aw_goto (tgt := 6) dX12_leastBy_82 (by decide) ?_
        refine aw_less (L' := [some (.ref 58), some (.int x1), some (.int x2), some (.int x3), some (.int y4_63), some (.int (y5_63 + (1 : Int32))), none]) (And.intro rfl (And.intro rfl (And.intro rfl (And.intro rfl (And.intro rfl (And.intro rfl trivial)))))) ?_
        cases hf
        exact hK
      · have hf := ax_neg hc1 hf
        refine aw_iload dX12_leastBy_70 rfl ?_
        refine aw_goto (tgt := 77) dX12_leastBy_72 (by decide) ?_
        refine aw_istore (L' := [some (.ref 58), some (.int x1), some (.int x2), some (.int x3), some (.int y5_63), some (.int y5_63), some (.int t0_63)]) dX12_leastBy_77 (by decide) rfl ?_
        refine aw_iinc (v := (y5_63 + (1 : Int32))) (L' := [some (.ref 58), some (.int x1), some (.int x2), some (.int x3), some (.int y5_63), some (.int (y5_63 + (1 : Int32))), some (.int t0_63)]) dX12_leastBy_79 rfl rfl (by decide) rfl ?_
        refine aw_goto (tgt := 6) dX12_leastBy_82 (by decide) ?_
        refine aw_less (L' := [some (.ref 58), some (.int x1), some (.int x2), some (.int x3), some (.int y5_63), some (.int (y5_63 + (1 : Int32))), none]) (And.intro rfl (And.intro rfl (And.intro rfl (And.intro rfl (And.intro rfl (And.intro rfl trivial)))))) ?_
        cases hf
        exact hK
    have J31 : ∀ (y4_31 : Int32) (y5_31 : Int32) (t0_31 : Int32) (s_31 : sx_M), f_X12_leastBy_L6_J31 x1 x2 x3 y4_31 y5_31 t0_31 s_31 = some r → AW l X RX12 "leastBy" cX12_leastBy 7 (some .long) (ax_rm 2 0 0) (ax_MQ X Q 0 0) 0 0 31 [some (.ref 58), some (.int x1), some (.int x2), some (.int x3), some (.int y4_31), some (.int y5_31), none] [.int t0_31] (hp s_31 gb) := by
      intro y4_31 y5_31 t0_31 s_31 hf
      unfold f_X12_leastBy_L6_J31 at hf
      refine aw_iload_n dX12_leastBy_31 rfl rfl ?_
      refine aw_icmp_ne (tgt := 62) dX12_leastBy_32 (by decide) (fun hc6 => ?_) (fun hc6 => ?_)
      · have hf := ax_neg hc6 hf
        refine aw_iconst (v := 0) dX12_leastBy_62 (by decide) ?_
        exact J63 y4_31 y5_31 (0 : Int32) s_31 hf
      · have hf := ax_pos hc6 hf
        refine aw_iload dX12_leastBy_35 rfl ?_
        refine aw_iconst (v := -1) dX12_leastBy_37 (by decide) ?_
        refine aw_icmp_eq (tgt := 58) dX12_leastBy_38 (by decide) (fun hc5 => ?_) (fun hc5 => ?_)
        · have hf := ax_pos hc5 hf
          refine aw_iconst (v := 1) dX12_leastBy_58 (by decide) ?_
          refine aw_goto (tgt := 63) dX12_leastBy_59 (by decide) ?_
          exact J63 y4_31 y5_31 (1 : Int32) s_31 hf
        · have hf := ax_neg hc5 hf
          refine aw_aload_n dX12_leastBy_41 rfl rfl ?_
          refine aw_gR dX12_leastBy_42 fl_X12_34 sh_58 rfl ?_
          refine aw_iload dX12_leastBy_45 rfl ?_
          obtain ⟨hc2, hf⟩ := ax_ite hf
          refine aw_lA dX12_leastBy_47 sh_64 hc2 ?_
          refine aw_aload_n dX12_leastBy_48 rfl rfl ?_
          refine aw_gR dX12_leastBy_49 fl_X12_34 sh_58 rfl ?_
          refine aw_iload dX12_leastBy_52 rfl ?_
          obtain ⟨hc3, hf⟩ := ax_ite hf
          refine aw_lA dX12_leastBy_54 sh_64 hc3 ?_
          refine aw_icmp_ge (tgt := 62) dX12_leastBy_55 (by decide) (fun hc4 => ?_) (fun hc4 => ?_)
          · have hf := ax_pos hc4 hf
            refine aw_iconst (v := 0) dX12_leastBy_62 (by decide) ?_
            exact J63 y4_31 y5_31 (0 : Int32) s_31 hf
          · have hf := ax_neg hc4 hf
            refine aw_iconst (v := 1) dX12_leastBy_58 (by decide) ?_
            refine aw_goto (tgt := 63) dX12_leastBy_59 (by decide) ?_
            exact J63 y4_31 y5_31 (1 : Int32) s_31 hf
    refine aw_iload dX12_leastBy_6 rfl ?_
    refine aw_aload_n dX12_leastBy_8 rfl rfl ?_
    refine aw_gI dX12_leastBy_9 fl_X12_154 sh_58 rfl ?_
    refine aw_icmp_ge (tgt := 85) dX12_leastBy_12 (by decide) (fun hc8 => ?_) (fun hc8 => ?_)
    · have hf := ax_pos hc8 hf
      refine aw_less (L' := [some (.ref 58), none, none, none, some (.int a6.1), none, none]) (And.intro rfl (And.intro rfl trivial)) ?_
      cases hf
      exact hK
    · have hf := ax_neg hc8 hf
      refine aw_aload_n dX12_leastBy_15 rfl rfl ?_
      refine aw_iload dX12_leastBy_16 rfl ?_
      refine aw_iload_n dX12_leastBy_18 rfl rfl ?_
      obtain ⟨p1, hp1, hf⟩ := ax_bind hf
      refine aw_cVi (As := [.int a6.2.1, .int x1]) (st := []) dX12_leastBy_19 cl_X12_205 iv_X12_jobOf (k_X12_jobOf (Q := (fun v h' => v = some (.int p1.1) ∧ h' = hp p1.2 gb)) a6.2.1 x1 a6.2.2 gb hp1 ⟨rfl, rfl⟩) (ci := 12) rfl (hp_get sh_58) rfl rfl rfl (Nat.le_of_ble_eq_true rfl) rfl (by decide) (by decide) ?_
      refine aw_iload_n dX12_leastBy_22 rfl rfl ?_
      refine aw_icmp_ne (tgt := 30) dX12_leastBy_23 (by decide) (fun hc7 => ?_) (fun hc7 => ?_)
      · have hf := ax_neg hc7 hf
        refine aw_iconst (v := 0) dX12_leastBy_30 (by decide) ?_
        exact J31 a6.1 a6.2.1 (0 : Int32) p1.2 hf
      · have hf := ax_pos hc7 hf
        refine aw_iconst (v := 1) dX12_leastBy_26 (by decide) ?_
        refine aw_goto (tgt := 31) dX12_leastBy_27 (by decide) ?_
        exact J31 a6.1 a6.2.1 (1 : Int32) p1.2 hf
  · refine aw_iload dX12_leastBy_85 rfl ?_
    refine aw_iconst (v := -1) dX12_leastBy_87 (by decide) ?_
    refine aw_icmp_ne (tgt := 97) dX12_leastBy_88 (by decide) (fun hc10 => ?_) (fun hc10 => ?_)
    · have hf := ax_neg hc10 hf
      refine aw_aload_n dX12_leastBy_97 rfl rfl ?_
      refine aw_gR dX12_leastBy_98 fl_X12_34 sh_58 rfl ?_
      refine aw_iload dX12_leastBy_101 rfl ?_
      obtain ⟨hc9, hf⟩ := ax_ite hf
      refine aw_lA dX12_leastBy_103 sh_64 hc9 ?_
      refine aw_i2l dX12_leastBy_104 ?_
      cases hf
      exact aw_lret dX12_leastBy_105 hq (Nat.le_refl _) (Nat.le_refl _)
    · have hf := ax_pos hc10 hf
      refine aw_ldc2 dX12_leastBy_91 kc_X12_197 ?_
      refine aw_goto (tgt := 105) dX12_leastBy_94 (by decide) ?_
      cases hf
      exact aw_lret dX12_leastBy_105 hq (Nat.le_refl _) (Nat.le_refl _)
noncomputable def f_X12_forced (x1 : Int32) (x2 : Int32) (s : sx_M) : Option (Int64 × sx_M) :=
  (f_X12_isWorker x1 s).bind (fun p1 =>
 (if p1.1 = 0 then
 some ((-9223372036854775808 : Int64), p1.2)
else
 (f_X12_isJob x2 p1.2).bind (fun p2 =>
 (if p2.1 = 0 then
 some ((-9223372036854775808 : Int64), p2.2)
else
 (f_X12_goesAll p2.2).bind (fun p3 =>
 (f_X12_leastBy x1 x2 (1 : Int32) p3).bind (fun p4 =>
 some (p4.1, p4.2)))))))
set_option maxRecDepth 100000 in
set_option maxHeartbeats 4000000 in
theorem k_X12_forced {l : Launch} {X : ax_X} {Q : Option Value → ax_H → Prop} (x1 : Int32) (x2 : Int32) (s : sx_M) (gb : ax_H) {p : Int64 × sx_M} (hf : f_X12_forced x1 x2 s = some p) (hq : Q (some (.long p.1)) (hp p.2 gb)) : AM l X yX12_forced cX12_forced 3 (some .long) 5 0 0 [.ref 58, .int x1, .int x2] (hp s gb) Q := by
  refine aw_met (own := RX12) (nm := "forced") (L := [some (.ref 58), some (.int x1), some (.int x2)]) (by decide +kernel) rfl rfl (And.intro rfl (And.intro rfl (And.intro rfl trivial))) (Nat.le_of_ble_eq_true rfl) ?_
  unfold f_X12_forced at hf
  refine aw_aload_n dX12_forced_0 rfl rfl ?_
  refine aw_iload_n dX12_forced_1 rfl rfl ?_
  obtain ⟨p1, hp1, hf⟩ := ax_bind hf
  refine aw_cVi (As := [.int x1]) (st := []) dX12_forced_2 cl_X12_187 iv_X12_isWorker (k_X12_isWorker (Q := (fun v h' => v = some (.int p1.1) ∧ h' = hp p1.2 gb)) x1 s gb hp1 ⟨rfl, rfl⟩) (ci := 12) rfl (hp_get sh_58) rfl rfl rfl (Nat.le_of_ble_eq_true rfl) rfl (by decide) (by decide) ?_
  refine aw_if_eq (tgt := 16) dX12_forced_5 (by decide) (fun hc2 => ?_) (fun hc2 => ?_)
  · have hf := ax_pos hc2 hf
    refine aw_ldc2 dX12_forced_16 kc_X12_197 ?_
    cases hf
    exact aw_lret dX12_forced_19 hq (Nat.le_refl _) (Nat.le_refl _)
  · have hf := ax_neg hc2 hf
    refine aw_aload_n dX12_forced_8 rfl rfl ?_
    refine aw_iload_n dX12_forced_9 rfl rfl ?_
    obtain ⟨p2, hp2, hf⟩ := ax_bind hf
    refine aw_cVi (As := [.int x2]) (st := []) dX12_forced_10 cl_X12_190 iv_X12_isJob (k_X12_isJob (Q := (fun v h' => v = some (.int p2.1) ∧ h' = hp p2.2 gb)) x2 p1.2 gb hp2 ⟨rfl, rfl⟩) (ci := 12) rfl (hp_get sh_58) rfl rfl rfl (Nat.le_of_ble_eq_true rfl) rfl (by decide) (by decide) ?_
    refine aw_if_ne (tgt := 20) dX12_forced_13 (by decide) (fun hc1 => ?_) (fun hc1 => ?_)
    · have hf := ax_neg hc1 hf
      refine aw_aload_n dX12_forced_20 rfl rfl ?_
      obtain ⟨p3, hp3, hf⟩ := ax_bind hf
      refine aw_cVv (As := []) (st := []) dX12_forced_21 cl_X12_173 iv_X12_goesAll (k_X12_goesAll (Q := (fun v h' => v = none ∧ h' = hp p3 gb)) p2.2 gb hp3 ⟨rfl, rfl⟩) (ci := 12) rfl (hp_get sh_58) rfl rfl rfl (Nat.le_of_ble_eq_true rfl) rfl (by decide) (by decide) ?_
      refine aw_aload_n dX12_forced_24 rfl rfl ?_
      refine aw_iload_n dX12_forced_25 rfl rfl ?_
      refine aw_iload_n dX12_forced_26 rfl rfl ?_
      refine aw_iconst (v := 1) dX12_forced_27 (by decide) ?_
      obtain ⟨p4, hp4, hf⟩ := ax_bind hf
      refine aw_cVl (As := [.int x1, .int x2, .int (1 : Int32)]) (st := []) dX12_forced_28 cl_X12_208 iv_X12_leastBy (k_X12_leastBy (Q := (fun v h' => v = some (.long p4.1) ∧ h' = hp p4.2 gb)) x1 x2 (1 : Int32) p3 gb hp4 ⟨rfl, rfl⟩) (ci := 12) rfl (hp_get sh_58) rfl rfl rfl (Nat.le_of_ble_eq_true rfl) rfl (by decide) (by decide) ?_
      cases hf
      exact aw_lret dX12_forced_31 hq (Nat.le_refl _) (Nat.le_refl _)
    · have hf := ax_pos hc1 hf
      refine aw_ldc2 dX12_forced_16 kc_X12_197 ?_
      cases hf
      exact aw_lret dX12_forced_19 hq (Nat.le_refl _) (Nat.le_refl _)
noncomputable def f_X12_without (x1 : Int32) (x2 : Int32) (s : sx_M) : Option (Int64 × sx_M) :=
  (f_X12_isWorker x1 s).bind (fun p1 =>
 (if p1.1 = 0 then
 some ((-9223372036854775808 : Int64), p1.2)
else
 (f_X12_isJob x2 p1.2).bind (fun p2 =>
 (if p2.1 = 0 then
 some ((-9223372036854775808 : Int64), p2.2)
else
 (f_X12_goesAll p2.2).bind (fun p3 =>
 (f_X12_leastBy x1 x2 (0 : Int32) p3).bind (fun p4 =>
 some (p4.1, p4.2)))))))
set_option maxRecDepth 100000 in
set_option maxHeartbeats 4000000 in
theorem k_X12_without {l : Launch} {X : ax_X} {Q : Option Value → ax_H → Prop} (x1 : Int32) (x2 : Int32) (s : sx_M) (gb : ax_H) {p : Int64 × sx_M} (hf : f_X12_without x1 x2 s = some p) (hq : Q (some (.long p.1)) (hp p.2 gb)) : AM l X yX12_without cX12_without 3 (some .long) 5 0 0 [.ref 58, .int x1, .int x2] (hp s gb) Q := by
  refine aw_met (own := RX12) (nm := "without") (L := [some (.ref 58), some (.int x1), some (.int x2)]) (by decide +kernel) rfl rfl (And.intro rfl (And.intro rfl (And.intro rfl trivial))) (Nat.le_of_ble_eq_true rfl) ?_
  unfold f_X12_without at hf
  refine aw_aload_n dX12_without_0 rfl rfl ?_
  refine aw_iload_n dX12_without_1 rfl rfl ?_
  obtain ⟨p1, hp1, hf⟩ := ax_bind hf
  refine aw_cVi (As := [.int x1]) (st := []) dX12_without_2 cl_X12_187 iv_X12_isWorker (k_X12_isWorker (Q := (fun v h' => v = some (.int p1.1) ∧ h' = hp p1.2 gb)) x1 s gb hp1 ⟨rfl, rfl⟩) (ci := 12) rfl (hp_get sh_58) rfl rfl rfl (Nat.le_of_ble_eq_true rfl) rfl (by decide) (by decide) ?_
  refine aw_if_eq (tgt := 16) dX12_without_5 (by decide) (fun hc2 => ?_) (fun hc2 => ?_)
  · have hf := ax_pos hc2 hf
    refine aw_ldc2 dX12_without_16 kc_X12_197 ?_
    cases hf
    exact aw_lret dX12_without_19 hq (Nat.le_refl _) (Nat.le_refl _)
  · have hf := ax_neg hc2 hf
    refine aw_aload_n dX12_without_8 rfl rfl ?_
    refine aw_iload_n dX12_without_9 rfl rfl ?_
    obtain ⟨p2, hp2, hf⟩ := ax_bind hf
    refine aw_cVi (As := [.int x2]) (st := []) dX12_without_10 cl_X12_190 iv_X12_isJob (k_X12_isJob (Q := (fun v h' => v = some (.int p2.1) ∧ h' = hp p2.2 gb)) x2 p1.2 gb hp2 ⟨rfl, rfl⟩) (ci := 12) rfl (hp_get sh_58) rfl rfl rfl (Nat.le_of_ble_eq_true rfl) rfl (by decide) (by decide) ?_
    refine aw_if_ne (tgt := 20) dX12_without_13 (by decide) (fun hc1 => ?_) (fun hc1 => ?_)
    · have hf := ax_neg hc1 hf
      refine aw_aload_n dX12_without_20 rfl rfl ?_
      obtain ⟨p3, hp3, hf⟩ := ax_bind hf
      refine aw_cVv (As := []) (st := []) dX12_without_21 cl_X12_173 iv_X12_goesAll (k_X12_goesAll (Q := (fun v h' => v = none ∧ h' = hp p3 gb)) p2.2 gb hp3 ⟨rfl, rfl⟩) (ci := 12) rfl (hp_get sh_58) rfl rfl rfl (Nat.le_of_ble_eq_true rfl) rfl (by decide) (by decide) ?_
      refine aw_aload_n dX12_without_24 rfl rfl ?_
      refine aw_iload_n dX12_without_25 rfl rfl ?_
      refine aw_iload_n dX12_without_26 rfl rfl ?_
      refine aw_iconst (v := 0) dX12_without_27 (by decide) ?_
      obtain ⟨p4, hp4, hf⟩ := ax_bind hf
      refine aw_cVl (As := [.int x1, .int x2, .int (0 : Int32)]) (st := []) dX12_without_28 cl_X12_208 iv_X12_leastBy (k_X12_leastBy (Q := (fun v h' => v = some (.long p4.1) ∧ h' = hp p4.2 gb)) x1 x2 (0 : Int32) p3 gb hp4 ⟨rfl, rfl⟩) (ci := 12) rfl (hp_get sh_58) rfl rfl rfl (Nat.le_of_ble_eq_true rfl) rfl (by decide) (by decide) ?_
      cases hf
      exact aw_lret dX12_without_31 hq (Nat.le_refl _) (Nat.le_refl _)
    · have hf := ax_pos hc1 hf
      refine aw_ldc2 dX12_without_16 kc_X12_197 ?_
      cases hf
      exact aw_lret dX12_without_19 hq (Nat.le_refl _) (Nat.le_refl _)
noncomputable def f_X12_stays_J110 (y1_110 : Int32) (y2_110 : Int32) (y4_110 : Int32) (y5_110 : Int32) (t1_110 : Int32) (t2_110 : Int32) (t3_110 : Int32) (s_110 : sx_M) : Option (Int64 × sx_M) :=
  (f_X12_leastBy t1_110 t2_110 t3_110 s_110).bind (fun p1 =>
 (if p1.1 = (-9223372036854775808 : Int64) then
 some ((-9223372036854775808 : Int64), p1.2)
else
 (if ¬ (y4_110 < 0 ∨ 40320 ≤ (y4_110).toNatClampNeg) then
 (if y5_110 = 0 then
 (f_X12_costOf y1_110 y2_110 p1.2).bind (fun p2 =>
 some (((p2.1).toInt64 - (p1.1 - ((rA p1.2 64 (y4_110).toNatClampNeg)).toInt64)), p2.2))
else
 (f_X12_costOf y1_110 y2_110 p1.2).bind (fun p3 =>
 some (((p3.1).toInt64 + (p1.1 - ((rA p1.2 64 (y4_110).toNatClampNeg)).toInt64)), p3.2)))
else none)))
noncomputable def f_X12_stays_J90 (y1_90 : Int32) (y2_90 : Int32) (y4_90 : Int32) (y5_90 : Int32) (t0_90 : Int32) (t1_90 : Int32) (s_90 : sx_M) : Option (Int64 × sx_M) :=
  (if t0_90 = t1_90 then
 some ((-9223372036854775808 : Int64), s_90)
else
 (if y5_90 = 0 then
 f_X12_stays_J110 y1_90 y2_90 y4_90 y5_90 y1_90 y2_90 (1 : Int32) s_90
else
 f_X12_stays_J110 y1_90 y2_90 y4_90 y5_90 y1_90 y2_90 (0 : Int32) s_90))
noncomputable def f_X12_stays_J77 (y1_77 : Int32) (y2_77 : Int32) (y3_77 : Int32) (y4_77 : Int32) (t0_77 : Int32) (s_77 : sx_M) : Option (Int64 × sx_M) :=
  (if y3_77 = 0 then
 f_X12_stays_J90 y1_77 y2_77 y4_77 t0_77 t0_77 (1 : Int32) s_77
else
 f_X12_stays_J90 y1_77 y2_77 y4_77 t0_77 t0_77 (0 : Int32) s_77)
noncomputable def f_X12_stays (x1 : Int32) (x2 : Int32) (x3 : Int32) (s : sx_M) : Option (Int64 × sx_M) :=
  (f_X12_isWorker x1 s).bind (fun p4 =>
 (if p4.1 = 0 then
 some ((-9223372036854775808 : Int64), p4.2)
else
 (f_X12_isJob x2 p4.2).bind (fun p5 =>
 (if p5.1 = 0 then
 some ((-9223372036854775808 : Int64), p5.2)
else
 (f_X12_in ((x3).toInt64) (0 : Int64) (1 : Int64) p5.2).bind (fun p6 =>
 (if p6.1 = 0 then
 some ((-9223372036854775808 : Int64), p6.2)
else
 (f_X12_costOf x1 x2 p6.2).bind (fun p7 =>
 (if p7.1 = (2147483647 : Int32) then
 some ((-9223372036854775808 : Int64), p7.2)
else
 (f_X12_goesAll p7.2).bind (fun p8 =>
 (f_X12_least p8).bind (fun p9 =>
 (if p9.1 = (-1 : Int32) then
 some ((-9223372036854775808 : Int64), p9.2)
else
 (f_X12_jobOf p9.1 x1 p9.2).bind (fun p10 =>
 (if p10.1 = x2 then
 f_X12_stays_J77 x1 x2 x3 p9.1 (1 : Int32) p10.2
else
 f_X12_stays_J77 x1 x2 x3 p9.1 (0 : Int32) p10.2)))))))))))))
set_option maxRecDepth 100000 in
set_option maxHeartbeats 4000000 in
theorem k_X12_stays {l : Launch} {X : ax_X} {Q : Option Value → ax_H → Prop} (x1 : Int32) (x2 : Int32) (x3 : Int32) (s : sx_M) (gb : ax_H) {p : Int64 × sx_M} (hf : f_X12_stays x1 x2 x3 s = some p) (hq : Q (some (.long p.1)) (hp p.2 gb)) : AM l X yX12_stays cX12_stays 10 (some .long) 5 0 0 [.ref 58, .int x1, .int x2, .int x3] (hp s gb) Q := by
  refine aw_met (own := RX12) (nm := "stays") (L := [some (.ref 58), some (.int x1), some (.int x2), some (.int x3), none, none, none, none, none, none]) (by decide +kernel) rfl rfl (And.intro rfl (And.intro rfl (And.intro rfl (And.intro rfl trivial)))) (Nat.le_of_ble_eq_true rfl) ?_
  unfold f_X12_stays at hf
  have J110 : ∀ (y1_110 : Int32) (y2_110 : Int32) (y4_110 : Int32) (y5_110 : Int32) (t1_110 : Int32) (t2_110 : Int32) (t3_110 : Int32) (s_110 : sx_M), f_X12_stays_J110 y1_110 y2_110 y4_110 y5_110 t1_110 t2_110 t3_110 s_110 = some p → AW l X RX12 "stays" cX12_stays 10 (some .long) (ax_rm 5 0 0) (ax_MQ X Q 0 0) 0 0 110 [some (.ref 58), some (.int y1_110), some (.int y2_110), none, some (.int y4_110), some (.int y5_110), none, none, none, none] [.int t3_110, .int t2_110, .int t1_110, .ref 58] (hp s_110 gb) := by
    intro y1_110 y2_110 y4_110 y5_110 t1_110 t2_110 t3_110 s_110 hf
    unfold f_X12_stays_J110 at hf
    obtain ⟨p1, hp1, hf⟩ := ax_bind hf
    refine aw_cVl (As := [.int t1_110, .int t2_110, .int t3_110]) (st := []) dX12_stays_110 cl_X12_208 iv_X12_leastBy (k_X12_leastBy (Q := (fun v h' => v = some (.long p1.1) ∧ h' = hp p1.2 gb)) t1_110 t2_110 t3_110 s_110 gb hp1 ⟨rfl, rfl⟩) (ci := 12) rfl (hp_get sh_58) rfl rfl rfl (Nat.le_of_ble_eq_true rfl) rfl (by decide) (by decide) ?_
    refine aw_lstore (L' := [some (.ref 58), some (.int y1_110), some (.int y2_110), none, some (.int y4_110), some (.int y5_110), some (.long p1.1), none, none, none]) dX12_stays_113 (by decide) rfl ?_
    refine aw_lload dX12_stays_115 rfl ?_
    refine aw_ldc2 dX12_stays_117 kc_X12_197 ?_
    refine aw_lcmp_ne (tgt := 128) dX12_stays_120 dX12_stays_121 (by decide) (fun hc3 => ?_) (fun hc3 => ?_)
    · have hf := ax_neg hc3 hf
      refine aw_lload dX12_stays_128 rfl ?_
      refine aw_aload_n dX12_stays_130 rfl rfl ?_
      refine aw_gR dX12_stays_131 fl_X12_34 sh_58 rfl ?_
      refine aw_iload dX12_stays_134 rfl ?_
      obtain ⟨hc1, hf⟩ := ax_ite hf
      refine aw_lA dX12_stays_136 sh_64 hc1 ?_
      refine aw_i2l dX12_stays_137 ?_
      refine aw_lsub dX12_stays_138 ?_
      refine aw_lstore (L' := [some (.ref 58), some (.int y1_110), some (.int y2_110), none, some (.int y4_110), some (.int y5_110), some (.long p1.1), none, some (.long (p1.1 - ((rA p1.2 64 (y4_110).toNatClampNeg)).toInt64)), none]) dX12_stays_139 (by decide) rfl ?_
      refine aw_iload dX12_stays_141 rfl ?_
      refine aw_if_eq (tgt := 159) dX12_stays_143 (by decide) (fun hc2 => ?_) (fun hc2 => ?_)
      · have hf := ax_pos hc2 hf
        refine aw_aload_n dX12_stays_159 rfl rfl ?_
        refine aw_iload_n dX12_stays_160 rfl rfl ?_
        refine aw_iload_n dX12_stays_161 rfl rfl ?_
        obtain ⟨p2, hp2, hf⟩ := ax_bind hf
        refine aw_cVi (As := [.int y1_110, .int y2_110]) (st := []) dX12_stays_162 cl_X12_157 iv_X12_costOf (k_X12_costOf (Q := (fun v h' => v = some (.int p2.1) ∧ h' = hp p2.2 gb)) y1_110 y2_110 p1.2 gb hp2 ⟨rfl, rfl⟩) (ci := 12) rfl (hp_get sh_58) rfl rfl rfl (Nat.le_of_ble_eq_true rfl) rfl (by decide) (by decide) ?_
        refine aw_i2l dX12_stays_165 ?_
        refine aw_lload dX12_stays_166 rfl ?_
        refine aw_lsub dX12_stays_168 ?_
        cases hf
        exact aw_lret dX12_stays_169 hq (Nat.le_refl _) (Nat.le_refl _)
      · have hf := ax_neg hc2 hf
        refine aw_aload_n dX12_stays_146 rfl rfl ?_
        refine aw_iload_n dX12_stays_147 rfl rfl ?_
        refine aw_iload_n dX12_stays_148 rfl rfl ?_
        obtain ⟨p3, hp3, hf⟩ := ax_bind hf
        refine aw_cVi (As := [.int y1_110, .int y2_110]) (st := []) dX12_stays_149 cl_X12_157 iv_X12_costOf (k_X12_costOf (Q := (fun v h' => v = some (.int p3.1) ∧ h' = hp p3.2 gb)) y1_110 y2_110 p1.2 gb hp3 ⟨rfl, rfl⟩) (ci := 12) rfl (hp_get sh_58) rfl rfl rfl (Nat.le_of_ble_eq_true rfl) rfl (by decide) (by decide) ?_
        refine aw_i2l dX12_stays_152 ?_
        refine aw_lload dX12_stays_153 rfl ?_
        refine aw_ladd dX12_stays_155 ?_
        refine aw_goto (tgt := 169) dX12_stays_156 (by decide) ?_
        cases hf
        exact aw_lret dX12_stays_169 hq (Nat.le_refl _) (Nat.le_refl _)
    · have hf := ax_pos hc3 hf
      refine aw_ldc2 dX12_stays_124 kc_X12_197 ?_
      cases hf
      exact aw_lret dX12_stays_127 hq (Nat.le_refl _) (Nat.le_refl _)
  have J90 : ∀ (y1_90 : Int32) (y2_90 : Int32) (y4_90 : Int32) (y5_90 : Int32) (t0_90 : Int32) (t1_90 : Int32) (s_90 : sx_M), f_X12_stays_J90 y1_90 y2_90 y4_90 y5_90 t0_90 t1_90 s_90 = some p → AW l X RX12 "stays" cX12_stays 10 (some .long) (ax_rm 5 0 0) (ax_MQ X Q 0 0) 0 0 90 [some (.ref 58), some (.int y1_90), some (.int y2_90), none, some (.int y4_90), some (.int y5_90), none, none, none, none] [.int t1_90, .int t0_90] (hp s_90 gb) := by
    intro y1_90 y2_90 y4_90 y5_90 t0_90 t1_90 s_90 hf
    unfold f_X12_stays_J90 at hf
    refine aw_icmp_ne (tgt := 97) dX12_stays_90 (by decide) (fun hc5 => ?_) (fun hc5 => ?_)
    · have hf := ax_neg hc5 hf
      refine aw_aload_n dX12_stays_97 rfl rfl ?_
      refine aw_iload_n dX12_stays_98 rfl rfl ?_
      refine aw_iload_n dX12_stays_99 rfl rfl ?_
      refine aw_iload dX12_stays_100 rfl ?_
      refine aw_if_ne (tgt := 109) dX12_stays_102 (by decide) (fun hc4 => ?_) (fun hc4 => ?_)
      · have hf := ax_neg hc4 hf
        refine aw_iconst (v := 0) dX12_stays_109 (by decide) ?_
        exact J110 y1_90 y2_90 y4_90 y5_90 y1_90 y2_90 (0 : Int32) s_90 hf
      · have hf := ax_pos hc4 hf
        refine aw_iconst (v := 1) dX12_stays_105 (by decide) ?_
        refine aw_goto (tgt := 110) dX12_stays_106 (by decide) ?_
        exact J110 y1_90 y2_90 y4_90 y5_90 y1_90 y2_90 (1 : Int32) s_90 hf
    · have hf := ax_pos hc5 hf
      refine aw_ldc2 dX12_stays_93 kc_X12_197 ?_
      cases hf
      exact aw_lret dX12_stays_96 hq (Nat.le_refl _) (Nat.le_refl _)
  have J77 : ∀ (y1_77 : Int32) (y2_77 : Int32) (y3_77 : Int32) (y4_77 : Int32) (t0_77 : Int32) (s_77 : sx_M), f_X12_stays_J77 y1_77 y2_77 y3_77 y4_77 t0_77 s_77 = some p → AW l X RX12 "stays" cX12_stays 10 (some .long) (ax_rm 5 0 0) (ax_MQ X Q 0 0) 0 0 77 [some (.ref 58), some (.int y1_77), some (.int y2_77), some (.int y3_77), some (.int y4_77), none, none, none, none, none] [.int t0_77] (hp s_77 gb) := by
    intro y1_77 y2_77 y3_77 y4_77 t0_77 s_77 hf
    unfold f_X12_stays_J77 at hf
    refine aw_istore (L' := [some (.ref 58), some (.int y1_77), some (.int y2_77), some (.int y3_77), some (.int y4_77), some (.int t0_77), none, none, none, none]) dX12_stays_77 (by decide) rfl ?_
    refine aw_iload dX12_stays_79 rfl ?_
    refine aw_iload_n dX12_stays_81 rfl rfl ?_
    refine aw_if_ne (tgt := 89) dX12_stays_82 (by decide) (fun hc6 => ?_) (fun hc6 => ?_)
    · have hf := ax_neg hc6 hf
      refine aw_iconst (v := 0) dX12_stays_89 (by decide) ?_
      refine aw_less (L' := [some (.ref 58), some (.int y1_77), some (.int y2_77), none, some (.int y4_77), some (.int t0_77), none, none, none, none]) (And.intro rfl (And.intro rfl (And.intro rfl (And.intro rfl (And.intro rfl trivial))))) ?_
      exact J90 y1_77 y2_77 y4_77 t0_77 t0_77 (0 : Int32) s_77 hf
    · have hf := ax_pos hc6 hf
      refine aw_iconst (v := 1) dX12_stays_85 (by decide) ?_
      refine aw_goto (tgt := 90) dX12_stays_86 (by decide) ?_
      refine aw_less (L' := [some (.ref 58), some (.int y1_77), some (.int y2_77), none, some (.int y4_77), some (.int t0_77), none, none, none, none]) (And.intro rfl (And.intro rfl (And.intro rfl (And.intro rfl (And.intro rfl trivial))))) ?_
      exact J90 y1_77 y2_77 y4_77 t0_77 t0_77 (1 : Int32) s_77 hf
  refine aw_aload_n dX12_stays_0 rfl rfl ?_
  refine aw_iload_n dX12_stays_1 rfl rfl ?_
  obtain ⟨p4, hp4, hf⟩ := ax_bind hf
  refine aw_cVi (As := [.int x1]) (st := []) dX12_stays_2 cl_X12_187 iv_X12_isWorker (k_X12_isWorker (Q := (fun v h' => v = some (.int p4.1) ∧ h' = hp p4.2 gb)) x1 s gb hp4 ⟨rfl, rfl⟩) (ci := 12) rfl (hp_get sh_58) rfl rfl rfl (Nat.le_of_ble_eq_true rfl) rfl (by decide) (by decide) ?_
  refine aw_if_eq (tgt := 37) dX12_stays_5 (by decide) (fun hc12 => ?_) (fun hc12 => ?_)
  · have hf := ax_pos hc12 hf
    refine aw_ldc2 dX12_stays_37 kc_X12_197 ?_
    cases hf
    exact aw_lret dX12_stays_40 hq (Nat.le_refl _) (Nat.le_refl _)
  · have hf := ax_neg hc12 hf
    refine aw_aload_n dX12_stays_8 rfl rfl ?_
    refine aw_iload_n dX12_stays_9 rfl rfl ?_
    obtain ⟨p5, hp5, hf⟩ := ax_bind hf
    refine aw_cVi (As := [.int x2]) (st := []) dX12_stays_10 cl_X12_190 iv_X12_isJob (k_X12_isJob (Q := (fun v h' => v = some (.int p5.1) ∧ h' = hp p5.2 gb)) x2 p4.2 gb hp5 ⟨rfl, rfl⟩) (ci := 12) rfl (hp_get sh_58) rfl rfl rfl (Nat.le_of_ble_eq_true rfl) rfl (by decide) (by decide) ?_
    refine aw_if_eq (tgt := 37) dX12_stays_13 (by decide) (fun hc11 => ?_) (fun hc11 => ?_)
    · have hf := ax_pos hc11 hf
      refine aw_ldc2 dX12_stays_37 kc_X12_197 ?_
      cases hf
      exact aw_lret dX12_stays_40 hq (Nat.le_refl _) (Nat.le_refl _)
    · have hf := ax_neg hc11 hf
      refine aw_iload_n dX12_stays_16 rfl rfl ?_
      refine aw_i2l dX12_stays_17 ?_
      refine aw_lconst (v := 0) dX12_stays_18 (by decide) ?_
      refine aw_lconst (v := 1) dX12_stays_19 (by decide) ?_
      obtain ⟨p6, hp6, hf⟩ := ax_bind hf
      refine aw_cSi (As := [.long ((x3).toInt64), .long (0 : Int64), .long (1 : Int64)]) (st := []) dX12_stays_20 cl_X12_64 st_X12_in (k_X12_in (Q := (fun v h' => v = some (.int p6.1) ∧ h' = hp p6.2 gb)) ((x3).toInt64) (0 : Int64) (1 : Int64) p5.2 gb hp6 ⟨rfl, rfl⟩) rfl rfl (Nat.le_of_ble_eq_true rfl) rfl (by decide) (by decide) ?_
      refine aw_if_eq (tgt := 37) dX12_stays_23 (by decide) (fun hc10 => ?_) (fun hc10 => ?_)
      · have hf := ax_pos hc10 hf
        refine aw_ldc2 dX12_stays_37 kc_X12_197 ?_
        cases hf
        exact aw_lret dX12_stays_40 hq (Nat.le_refl _) (Nat.le_refl _)
      · have hf := ax_neg hc10 hf
        refine aw_aload_n dX12_stays_26 rfl rfl ?_
        refine aw_iload_n dX12_stays_27 rfl rfl ?_
        refine aw_iload_n dX12_stays_28 rfl rfl ?_
        obtain ⟨p7, hp7, hf⟩ := ax_bind hf
        refine aw_cVi (As := [.int x1, .int x2]) (st := []) dX12_stays_29 cl_X12_157 iv_X12_costOf (k_X12_costOf (Q := (fun v h' => v = some (.int p7.1) ∧ h' = hp p7.2 gb)) x1 x2 p6.2 gb hp7 ⟨rfl, rfl⟩) (ci := 12) rfl (hp_get sh_58) rfl rfl rfl (Nat.le_of_ble_eq_true rfl) rfl (by decide) (by decide) ?_
        refine aw_ldc dX12_stays_32 kc_X12_131 ?_
        refine aw_icmp_ne (tgt := 41) dX12_stays_34 (by decide) (fun hc9 => ?_) (fun hc9 => ?_)
        · have hf := ax_neg hc9 hf
          refine aw_aload_n dX12_stays_41 rfl rfl ?_
          obtain ⟨p8, hp8, hf⟩ := ax_bind hf
          refine aw_cVv (As := []) (st := []) dX12_stays_42 cl_X12_173 iv_X12_goesAll (k_X12_goesAll (Q := (fun v h' => v = none ∧ h' = hp p8 gb)) p7.2 gb hp8 ⟨rfl, rfl⟩) (ci := 12) rfl (hp_get sh_58) rfl rfl rfl (Nat.le_of_ble_eq_true rfl) rfl (by decide) (by decide) ?_
          refine aw_aload_n dX12_stays_45 rfl rfl ?_
          obtain ⟨p9, hp9, hf⟩ := ax_bind hf
          refine aw_cVi (As := []) (st := []) dX12_stays_46 cl_X12_212 iv_X12_least (k_X12_least (Q := (fun v h' => v = some (.int p9.1) ∧ h' = hp p9.2 gb)) p8 gb hp9 ⟨rfl, rfl⟩) (ci := 12) rfl (hp_get sh_58) rfl rfl rfl (Nat.le_of_ble_eq_true rfl) rfl (by decide) (by decide) ?_
          refine aw_istore (L' := [some (.ref 58), some (.int x1), some (.int x2), some (.int x3), some (.int p9.1), none, none, none, none, none]) dX12_stays_49 (by decide) rfl ?_
          refine aw_iload dX12_stays_51 rfl ?_
          refine aw_iconst (v := -1) dX12_stays_53 (by decide) ?_
          refine aw_icmp_ne (tgt := 61) dX12_stays_54 (by decide) (fun hc8 => ?_) (fun hc8 => ?_)
          · have hf := ax_neg hc8 hf
            refine aw_aload_n dX12_stays_61 rfl rfl ?_
            refine aw_iload dX12_stays_62 rfl ?_
            refine aw_iload_n dX12_stays_64 rfl rfl ?_
            obtain ⟨p10, hp10, hf⟩ := ax_bind hf
            refine aw_cVi (As := [.int p9.1, .int x1]) (st := []) dX12_stays_65 cl_X12_205 iv_X12_jobOf (k_X12_jobOf (Q := (fun v h' => v = some (.int p10.1) ∧ h' = hp p10.2 gb)) p9.1 x1 p9.2 gb hp10 ⟨rfl, rfl⟩) (ci := 12) rfl (hp_get sh_58) rfl rfl rfl (Nat.le_of_ble_eq_true rfl) rfl (by decide) (by decide) ?_
            refine aw_iload_n dX12_stays_68 rfl rfl ?_
            refine aw_icmp_ne (tgt := 76) dX12_stays_69 (by decide) (fun hc7 => ?_) (fun hc7 => ?_)
            · have hf := ax_neg hc7 hf
              refine aw_iconst (v := 0) dX12_stays_76 (by decide) ?_
              exact J77 x1 x2 x3 p9.1 (0 : Int32) p10.2 hf
            · have hf := ax_pos hc7 hf
              refine aw_iconst (v := 1) dX12_stays_72 (by decide) ?_
              refine aw_goto (tgt := 77) dX12_stays_73 (by decide) ?_
              exact J77 x1 x2 x3 p9.1 (1 : Int32) p10.2 hf
          · have hf := ax_pos hc8 hf
            refine aw_ldc2 dX12_stays_57 kc_X12_197 ?_
            cases hf
            exact aw_lret dX12_stays_60 hq (Nat.le_refl _) (Nat.le_refl _)
        · have hf := ax_pos hc9 hf
          refine aw_ldc2 dX12_stays_37 kc_X12_197 ?_
          cases hf
          exact aw_lret dX12_stays_40 hq (Nat.le_refl _) (Nat.le_refl _)
noncomputable def f_X12_would (x1 : Int32) (x2 : Int32) (x3 : Int32) (s : sx_M) : Option (Int64 × sx_M) :=
  (f_X12_isWorker x1 s).bind (fun p1 =>
 (if p1.1 = 0 then
 some ((-9223372036854775808 : Int64), p1.2)
else
 (f_X12_isJob x2 p1.2).bind (fun p2 =>
 (if p2.1 = 0 then
 some ((-9223372036854775808 : Int64), p2.2)
else
 (f_X12_isCost ((x3).toInt64) p2.2).bind (fun p3 =>
 (if p3.1 = 0 then
 some ((-9223372036854775808 : Int64), p3.2)
else
 (f_X12_costOf x1 x2 p3.2).bind (fun p4 =>
 (f_X12_placeOf x1 x2 p4.2).bind (fun p5 =>
 (if ¬ (p5.1 < 0 ∨ 58 ≤ (p5.1).toNatClampNeg) then
 (f_X12_goesAll (wA p5.2 59 (p5.1).toNatClampNeg x3)).bind (fun p6 =>
 (f_X12_least p6).bind (fun p7 =>
 (f_X12_placeOf x1 x2 p7.2).bind (fun p8 =>
 (if ¬ (p8.1 < 0 ∨ 58 ≤ (p8.1).toNatClampNeg) then
 (if p7.1 = (-1 : Int32) then
 some ((-9223372036854775808 : Int64), (wA p8.2 59 (p8.1).toNatClampNeg p4.1))
else
 (if ¬ (p7.1 < 0 ∨ 40320 ≤ (p7.1).toNatClampNeg) then
 some (((rA (wA p8.2 59 (p8.1).toNatClampNeg p4.1) 64 (p7.1).toNatClampNeg)).toInt64, (wA p8.2 59 (p8.1).toNatClampNeg p4.1))
else none))
else none))))
else none)))))))))
set_option maxRecDepth 100000 in
set_option maxHeartbeats 4000000 in
theorem k_X12_would {l : Launch} {X : ax_X} {Q : Option Value → ax_H → Prop} (x1 : Int32) (x2 : Int32) (x3 : Int32) (s : sx_M) (gb : ax_H) {p : Int64 × sx_M} (hf : f_X12_would x1 x2 x3 s = some p) (hq : Q (some (.long p.1)) (hp p.2 gb)) : AM l X yX12_would cX12_would 6 (some .long) 5 0 0 [.ref 58, .int x1, .int x2, .int x3] (hp s gb) Q := by
  refine aw_met (own := RX12) (nm := "would") (L := [some (.ref 58), some (.int x1), some (.int x2), some (.int x3), none, none]) (by decide +kernel) rfl rfl (And.intro rfl (And.intro rfl (And.intro rfl (And.intro rfl trivial)))) (Nat.le_of_ble_eq_true rfl) ?_
  unfold f_X12_would at hf
  refine aw_aload_n dX12_would_0 rfl rfl ?_
  refine aw_iload_n dX12_would_1 rfl rfl ?_
  obtain ⟨p1, hp1, hf⟩ := ax_bind hf
  refine aw_cVi (As := [.int x1]) (st := []) dX12_would_2 cl_X12_187 iv_X12_isWorker (k_X12_isWorker (Q := (fun v h' => v = some (.int p1.1) ∧ h' = hp p1.2 gb)) x1 s gb hp1 ⟨rfl, rfl⟩) (ci := 12) rfl (hp_get sh_58) rfl rfl rfl (Nat.le_of_ble_eq_true rfl) rfl (by decide) (by decide) ?_
  refine aw_if_eq (tgt := 24) dX12_would_5 (by decide) (fun hc7 => ?_) (fun hc7 => ?_)
  · have hf := ax_pos hc7 hf
    refine aw_ldc2 dX12_would_24 kc_X12_197 ?_
    cases hf
    exact aw_lret dX12_would_27 hq (Nat.le_refl _) (Nat.le_refl _)
  · have hf := ax_neg hc7 hf
    refine aw_aload_n dX12_would_8 rfl rfl ?_
    refine aw_iload_n dX12_would_9 rfl rfl ?_
    obtain ⟨p2, hp2, hf⟩ := ax_bind hf
    refine aw_cVi (As := [.int x2]) (st := []) dX12_would_10 cl_X12_190 iv_X12_isJob (k_X12_isJob (Q := (fun v h' => v = some (.int p2.1) ∧ h' = hp p2.2 gb)) x2 p1.2 gb hp2 ⟨rfl, rfl⟩) (ci := 12) rfl (hp_get sh_58) rfl rfl rfl (Nat.le_of_ble_eq_true rfl) rfl (by decide) (by decide) ?_
    refine aw_if_eq (tgt := 24) dX12_would_13 (by decide) (fun hc6 => ?_) (fun hc6 => ?_)
    · have hf := ax_pos hc6 hf
      refine aw_ldc2 dX12_would_24 kc_X12_197 ?_
      cases hf
      exact aw_lret dX12_would_27 hq (Nat.le_refl _) (Nat.le_refl _)
    · have hf := ax_neg hc6 hf
      refine aw_iload_n dX12_would_16 rfl rfl ?_
      refine aw_i2l dX12_would_17 ?_
      obtain ⟨p3, hp3, hf⟩ := ax_bind hf
      refine aw_cSi (As := [.long ((x3).toInt64)]) (st := []) dX12_would_18 cl_X12_215 st_X12_isCost (k_X12_isCost (Q := (fun v h' => v = some (.int p3.1) ∧ h' = hp p3.2 gb)) ((x3).toInt64) p2.2 gb hp3 ⟨rfl, rfl⟩) rfl rfl (Nat.le_of_ble_eq_true rfl) rfl (by decide) (by decide) ?_
      refine aw_if_ne (tgt := 28) dX12_would_21 (by decide) (fun hc5 => ?_) (fun hc5 => ?_)
      · have hf := ax_neg hc5 hf
        refine aw_aload_n dX12_would_28 rfl rfl ?_
        refine aw_iload_n dX12_would_29 rfl rfl ?_
        refine aw_iload_n dX12_would_30 rfl rfl ?_
        obtain ⟨p4, hp4, hf⟩ := ax_bind hf
        refine aw_cVi (As := [.int x1, .int x2]) (st := []) dX12_would_31 cl_X12_157 iv_X12_costOf (k_X12_costOf (Q := (fun v h' => v = some (.int p4.1) ∧ h' = hp p4.2 gb)) x1 x2 p3.2 gb hp4 ⟨rfl, rfl⟩) (ci := 12) rfl (hp_get sh_58) rfl rfl rfl (Nat.le_of_ble_eq_true rfl) rfl (by decide) (by decide) ?_
        refine aw_istore (L' := [some (.ref 58), some (.int x1), some (.int x2), some (.int x3), some (.int p4.1), none]) dX12_would_34 (by decide) rfl ?_
        refine aw_aload_n dX12_would_36 rfl rfl ?_
        refine aw_gR dX12_would_37 fl_X12_11 sh_58 rfl ?_
        refine aw_iload_n dX12_would_40 rfl rfl ?_
        refine aw_iload_n dX12_would_41 rfl rfl ?_
        obtain ⟨p5, hp5, hf⟩ := ax_bind hf
        refine aw_cSi (As := [.int x1, .int x2]) (st := [.ref 59]) dX12_would_42 cl_X12_56 st_X12_placeOf (k_X12_placeOf (Q := (fun v h' => v = some (.int p5.1) ∧ h' = hp p5.2 gb)) x1 x2 p4.2 gb hp5 ⟨rfl, rfl⟩) rfl rfl (Nat.le_of_ble_eq_true rfl) rfl (by decide) (by decide) ?_
        refine aw_iload_n dX12_would_45 rfl rfl ?_
        obtain ⟨hc1, hf⟩ := ax_ite hf
        refine aw_sA dX12_would_46 sh_59 hc1 ?_
        refine aw_aload_n dX12_would_47 rfl rfl ?_
        obtain ⟨p6, hp6, hf⟩ := ax_bind hf
        refine aw_cVv (As := []) (st := []) dX12_would_48 cl_X12_173 iv_X12_goesAll (k_X12_goesAll (Q := (fun v h' => v = none ∧ h' = hp p6 gb)) (wA p5.2 59 (p5.1).toNatClampNeg x3) gb hp6 ⟨rfl, rfl⟩) (ci := 12) rfl (hp_get sh_58) rfl rfl rfl (Nat.le_of_ble_eq_true rfl) rfl (by decide) (by decide) ?_
        refine aw_aload_n dX12_would_51 rfl rfl ?_
        obtain ⟨p7, hp7, hf⟩ := ax_bind hf
        refine aw_cVi (As := []) (st := []) dX12_would_52 cl_X12_212 iv_X12_least (k_X12_least (Q := (fun v h' => v = some (.int p7.1) ∧ h' = hp p7.2 gb)) p6 gb hp7 ⟨rfl, rfl⟩) (ci := 12) rfl (hp_get sh_58) rfl rfl rfl (Nat.le_of_ble_eq_true rfl) rfl (by decide) (by decide) ?_
        refine aw_istore (L' := [some (.ref 58), some (.int x1), some (.int x2), some (.int x3), some (.int p4.1), some (.int p7.1)]) dX12_would_55 (by decide) rfl ?_
        refine aw_aload_n dX12_would_57 rfl rfl ?_
        refine aw_gR dX12_would_58 fl_X12_11 sh_58 rfl ?_
        refine aw_iload_n dX12_would_61 rfl rfl ?_
        refine aw_iload_n dX12_would_62 rfl rfl ?_
        obtain ⟨p8, hp8, hf⟩ := ax_bind hf
        refine aw_cSi (As := [.int x1, .int x2]) (st := [.ref 59]) dX12_would_63 cl_X12_56 st_X12_placeOf (k_X12_placeOf (Q := (fun v h' => v = some (.int p8.1) ∧ h' = hp p8.2 gb)) x1 x2 p7.2 gb hp8 ⟨rfl, rfl⟩) rfl rfl (Nat.le_of_ble_eq_true rfl) rfl (by decide) (by decide) ?_
        refine aw_iload dX12_would_66 rfl ?_
        obtain ⟨hc2, hf⟩ := ax_ite hf
        refine aw_sA dX12_would_68 sh_59 hc2 ?_
        refine aw_iload dX12_would_69 rfl ?_
        refine aw_iconst (v := -1) dX12_would_71 (by decide) ?_
        refine aw_icmp_ne (tgt := 81) dX12_would_72 (by decide) (fun hc4 => ?_) (fun hc4 => ?_)
        · have hf := ax_neg hc4 hf
          refine aw_aload_n dX12_would_81 rfl rfl ?_
          refine aw_gR dX12_would_82 fl_X12_34 sh_58 rfl ?_
          refine aw_iload dX12_would_85 rfl ?_
          obtain ⟨hc3, hf⟩ := ax_ite hf
          refine aw_lA dX12_would_87 sh_64 hc3 ?_
          refine aw_i2l dX12_would_88 ?_
          cases hf
          exact aw_lret dX12_would_89 hq (Nat.le_refl _) (Nat.le_refl _)
        · have hf := ax_pos hc4 hf
          refine aw_ldc2 dX12_would_75 kc_X12_197 ?_
          refine aw_goto (tgt := 89) dX12_would_78 (by decide) ?_
          cases hf
          exact aw_lret dX12_would_89 hq (Nat.le_refl _) (Nat.le_refl _)
      · have hf := ax_pos hc5 hf
        refine aw_ldc2 dX12_would_24 kc_X12_197 ?_
        cases hf
        exact aw_lret dX12_would_27 hq (Nat.le_refl _) (Nat.le_refl _)
noncomputable def f_X12_ever_L25_J64 (z1 : Int32) (z2 : Int32) (y4_64 : Int32) (t0_64 : Int32) (t1_64 : Int32) (s_64 : sx_M) : Option ((Int32 × Int32 × sx_M) ⊕ (Int32 × sx_M)) :=
  some (.inl ((t0_64 ||| t1_64), (y4_64 + (1 : Int32)), s_64))
noncomputable def f_X12_ever_L25 (z1 : Int32) (z2 : Int32) (a25 : Int32 × Int32 × sx_M) : Option ((Int32 × Int32 × sx_M) ⊕ (Int32 × sx_M)) :=
  (if (rI a25.2.2 58 15) ≤ a25.2.1 then
 some (.inr (a25.1, a25.2.2))
else
 (if ¬ (a25.2.1 < 0 ∨ 40320 ≤ (a25.2.1).toNatClampNeg) then
 (if ¬ (z2 < 0 ∨ 40320 ≤ (z2).toNatClampNeg) then
 (if (rA a25.2.2 64 (a25.2.1).toNatClampNeg) = (rA a25.2.2 64 (z2).toNatClampNeg) then
 (f_X12_jobOf a25.2.1 z1 a25.2.2).bind (fun p4 =>
 f_X12_ever_L25_J64 z1 z2 a25.2.1 a25.1 ((1 : Int32) <<< (p4.1 &&& 31)) p4.2)
else
 f_X12_ever_L25_J64 z1 z2 a25.2.1 a25.1 (0 : Int32) a25.2.2)
else none)
else none))
noncomputable def f_X12_ever (x1 : Int32) (s : sx_M) : Option (Int32 × sx_M) :=
  (f_X12_isWorker x1 s).bind (fun p1 =>
 (if p1.1 = 0 then
 some ((-2 : Int32), p1.2)
else
 (f_X12_goesAll p1.2).bind (fun p2 =>
 (f_X12_least p2).bind (fun p3 =>
 (whT (f_X12_ever_L25 x1 p3.1) ((0 : Int32), (0 : Int32), p3.2)).bind (fun b5 =>
 some (b5.1, b5.2))))))
set_option maxRecDepth 100000 in
set_option maxHeartbeats 4000000 in
theorem k_X12_ever {l : Launch} {X : ax_X} {Q : Option Value → ax_H → Prop} (x1 : Int32) (s : sx_M) (gb : ax_H) {p : Int32 × sx_M} (hf : f_X12_ever x1 s = some p) (hq : Q (some (.int p.1)) (hp p.2 gb)) : AM l X yX12_ever cX12_ever 5 (some .int) 5 0 0 [.ref 58, .int x1] (hp s gb) Q := by
  refine aw_met (own := RX12) (nm := "ever") (L := [some (.ref 58), some (.int x1), none, none, none]) (by decide +kernel) rfl rfl (And.intro rfl (And.intro rfl trivial)) (Nat.le_of_ble_eq_true rfl) ?_
  unfold f_X12_ever at hf
  refine aw_aload_n dX12_ever_0 rfl rfl ?_
  refine aw_iload_n dX12_ever_1 rfl rfl ?_
  obtain ⟨p1, hp1, hf⟩ := ax_bind hf
  refine aw_cVi (As := [.int x1]) (st := []) dX12_ever_2 cl_X12_187 iv_X12_isWorker (k_X12_isWorker (Q := (fun v h' => v = some (.int p1.1) ∧ h' = hp p1.2 gb)) x1 s gb hp1 ⟨rfl, rfl⟩) (ci := 12) rfl (hp_get sh_58) rfl rfl rfl (Nat.le_of_ble_eq_true rfl) rfl (by decide) (by decide) ?_
  refine aw_if_ne (tgt := 11) dX12_ever_5 (by decide) (fun hc5 => ?_) (fun hc5 => ?_)
  · have hf := ax_neg hc5 hf
    refine aw_aload_n dX12_ever_11 rfl rfl ?_
    obtain ⟨p2, hp2, hf⟩ := ax_bind hf
    refine aw_cVv (As := []) (st := []) dX12_ever_12 cl_X12_173 iv_X12_goesAll (k_X12_goesAll (Q := (fun v h' => v = none ∧ h' = hp p2 gb)) p1.2 gb hp2 ⟨rfl, rfl⟩) (ci := 12) rfl (hp_get sh_58) rfl rfl rfl (Nat.le_of_ble_eq_true rfl) rfl (by decide) (by decide) ?_
    refine aw_aload_n dX12_ever_15 rfl rfl ?_
    obtain ⟨p3, hp3, hf⟩ := ax_bind hf
    refine aw_cVi (As := []) (st := []) dX12_ever_16 cl_X12_212 iv_X12_least (k_X12_least (Q := (fun v h' => v = some (.int p3.1) ∧ h' = hp p3.2 gb)) p2 gb hp3 ⟨rfl, rfl⟩) (ci := 12) rfl (hp_get sh_58) rfl rfl rfl (Nat.le_of_ble_eq_true rfl) rfl (by decide) (by decide) ?_
    refine aw_istore_n (L' := [some (.ref 58), some (.int x1), some (.int p3.1), none, none]) dX12_ever_19 rfl (by decide) rfl ?_
    refine aw_iconst (v := 0) dX12_ever_20 (by decide) ?_
    refine aw_istore_n (L' := [some (.ref 58), some (.int x1), some (.int p3.1), some (.int (0 : Int32)), none]) dX12_ever_21 rfl (by decide) rfl ?_
    refine aw_iconst (v := 0) dX12_ever_22 (by decide) ?_
    refine aw_istore (L' := [some (.ref 58), some (.int x1), some (.int p3.1), some (.int (0 : Int32)), some (.int (0 : Int32))]) dX12_ever_23 (by decide) rfl ?_
    obtain ⟨b5, hb5, hf⟩ := ax_bind hf
    refine wh_go ((0 : Int32), (0 : Int32), p3.2) (fun a25 : Int32 × Int32 × sx_M => AW l X RX12 "ever" cX12_ever 5 (some .int) (ax_rm 5 0 0) (ax_MQ X Q 0 0) 0 0 25 [some (.ref 58), some (.int x1), some (.int p3.1), some (.int a25.1), some (.int a25.2.1)] [] (hp a25.2.2 gb)) (fun e : Int32 × sx_M => AW l X RX12 "ever" cX12_ever 5 (some .int) (ax_rm 5 0 0) (ax_MQ X Q 0 0) 0 0 72 [none, none, none, some (.int e.1), none] [] (hp e.2 gb)) hb5 ?_ ?_
    · intro a25 r hf hK
      unfold f_X12_ever_L25 at hf
      have J64 : ∀ (y4_64 : Int32) (t0_64 : Int32) (t1_64 : Int32) (s_64 : sx_M), f_X12_ever_L25_J64 x1 p3.1 y4_64 t0_64 t1_64 s_64 = some r → AW l X RX12 "ever" cX12_ever 5 (some .int) (ax_rm 5 0 0) (ax_MQ X Q 0 0) 0 0 64 [some (.ref 58), some (.int x1), some (.int p3.1), none, some (.int y4_64)] [.int t1_64, .int t0_64] (hp s_64 gb) := by
        intro y4_64 t0_64 t1_64 s_64 hf
        unfold f_X12_ever_L25_J64 at hf
        refine aw_ior dX12_ever_64 ?_
        refine aw_istore_n (L' := [some (.ref 58), some (.int x1), some (.int p3.1), some (.int (t0_64 ||| t1_64)), some (.int y4_64)]) dX12_ever_65 rfl (by decide) rfl ?_
        refine aw_iinc (v := (y4_64 + (1 : Int32))) (L' := [some (.ref 58), some (.int x1), some (.int p3.1), some (.int (t0_64 ||| t1_64)), some (.int (y4_64 + (1 : Int32)))]) dX12_ever_66 rfl rfl (by decide) rfl ?_
        refine aw_goto (tgt := 25) dX12_ever_69 (by decide) ?_
        cases hf
        exact hK
      refine aw_iload dX12_ever_25 rfl ?_
      refine aw_aload_n dX12_ever_27 rfl rfl ?_
      refine aw_gI dX12_ever_28 fl_X12_154 sh_58 rfl ?_
      refine aw_icmp_ge (tgt := 72) dX12_ever_31 (by decide) (fun hc4 => ?_) (fun hc4 => ?_)
      · have hf := ax_pos hc4 hf
        refine aw_less (L' := [none, none, none, some (.int a25.1), none]) (And.intro rfl trivial) ?_
        cases hf
        exact hK
      · have hf := ax_neg hc4 hf
        refine aw_iload_n dX12_ever_34 rfl rfl ?_
        refine aw_aload_n dX12_ever_35 rfl rfl ?_
        refine aw_gR dX12_ever_36 fl_X12_34 sh_58 rfl ?_
        refine aw_iload dX12_ever_39 rfl ?_
        obtain ⟨hc1, hf⟩ := ax_ite hf
        refine aw_lA dX12_ever_41 sh_64 hc1 ?_
        refine aw_aload_n dX12_ever_42 rfl rfl ?_
        refine aw_gR dX12_ever_43 fl_X12_34 sh_58 rfl ?_
        refine aw_iload_n dX12_ever_46 rfl rfl ?_
        obtain ⟨hc2, hf⟩ := ax_ite hf
        refine aw_lA dX12_ever_47 sh_64 hc2 ?_
        refine aw_icmp_ne (tgt := 63) dX12_ever_48 (by decide) (fun hc3 => ?_) (fun hc3 => ?_)
        · have hf := ax_neg hc3 hf
          refine aw_iconst (v := 0) dX12_ever_63 (by decide) ?_
          refine aw_less (L' := [some (.ref 58), some (.int x1), some (.int p3.1), none, some (.int a25.2.1)]) (And.intro rfl (And.intro rfl (And.intro rfl (And.intro rfl trivial)))) ?_
          exact J64 a25.2.1 a25.1 (0 : Int32) a25.2.2 hf
        · have hf := ax_pos hc3 hf
          refine aw_iconst (v := 1) dX12_ever_51 (by decide) ?_
          refine aw_aload_n dX12_ever_52 rfl rfl ?_
          refine aw_iload dX12_ever_53 rfl ?_
          refine aw_iload_n dX12_ever_55 rfl rfl ?_
          obtain ⟨p4, hp4, hf⟩ := ax_bind hf
          refine aw_cVi (As := [.int a25.2.1, .int x1]) (st := [.int (1 : Int32), .int a25.1]) dX12_ever_56 cl_X12_205 iv_X12_jobOf (k_X12_jobOf (Q := (fun v h' => v = some (.int p4.1) ∧ h' = hp p4.2 gb)) a25.2.1 x1 a25.2.2 gb hp4 ⟨rfl, rfl⟩) (ci := 12) rfl (hp_get sh_58) rfl rfl rfl (Nat.le_of_ble_eq_true rfl) rfl (by decide) (by decide) ?_
          refine aw_ishl dX12_ever_59 ?_
          refine aw_goto (tgt := 64) dX12_ever_60 (by decide) ?_
          refine aw_less (L' := [some (.ref 58), some (.int x1), some (.int p3.1), none, some (.int a25.2.1)]) (And.intro rfl (And.intro rfl (And.intro rfl (And.intro rfl trivial)))) ?_
          exact J64 a25.2.1 a25.1 ((1 : Int32) <<< (p4.1 &&& 31)) p4.2 hf
    · refine aw_iload_n dX12_ever_72 rfl rfl ?_
      cases hf
      exact aw_iret dX12_ever_73 hq (Nat.le_refl _) (Nat.le_refl _)
  · have hf := ax_pos hc5 hf
    refine aw_bipush (v := -2) dX12_ever_8 (by decide) ?_
    cases hf
    exact aw_iret dX12_ever_10 hq (Nat.le_refl _) (Nat.le_refl _)
noncomputable def f_X12_leastWith (x1 : Int32) (x2 : Int32) (s : sx_M) : Option (Int64 × sx_M) :=
  (f_X12_goesThrough x1 x2 s).bind (fun p1 =>
 (f_X12_least p1).bind (fun p2 =>
 (if p2.1 = (-1 : Int32) then
 some ((-9223372036854775808 : Int64), p2.2)
else
 (if ¬ (p2.1 < 0 ∨ 40320 ≤ (p2.1).toNatClampNeg) then
 some (((rA p2.2 64 (p2.1).toNatClampNeg)).toInt64, p2.2)
else none))))
set_option maxRecDepth 100000 in
set_option maxHeartbeats 4000000 in
theorem k_X12_leastWith {l : Launch} {X : ax_X} {Q : Option Value → ax_H → Prop} (x1 : Int32) (x2 : Int32) (s : sx_M) (gb : ax_H) {p : Int64 × sx_M} (hf : f_X12_leastWith x1 x2 s = some p) (hq : Q (some (.long p.1)) (hp p.2 gb)) : AM l X yX12_leastWith cX12_leastWith 4 (some .long) 4 0 0 [.ref 58, .int x1, .int x2] (hp s gb) Q := by
  refine aw_met (own := RX12) (nm := "leastWith") (L := [some (.ref 58), some (.int x1), some (.int x2), none]) (by decide +kernel) rfl rfl (And.intro rfl (And.intro rfl (And.intro rfl trivial))) (Nat.le_of_ble_eq_true rfl) ?_
  unfold f_X12_leastWith at hf
  refine aw_aload_n dX12_leastWith_0 rfl rfl ?_
  refine aw_iload_n dX12_leastWith_1 rfl rfl ?_
  refine aw_iload_n dX12_leastWith_2 rfl rfl ?_
  obtain ⟨p1, hp1, hf⟩ := ax_bind hf
  refine aw_cVv (As := [.int x1, .int x2]) (st := []) dX12_leastWith_3 cl_X12_169 iv_X12_goesThrough (k_X12_goesThrough (Q := (fun v h' => v = none ∧ h' = hp p1 gb)) x1 x2 s gb hp1 ⟨rfl, rfl⟩) (ci := 12) rfl (hp_get sh_58) rfl rfl rfl (Nat.le_of_ble_eq_true rfl) rfl (by decide) (by decide) ?_
  refine aw_aload_n dX12_leastWith_6 rfl rfl ?_
  obtain ⟨p2, hp2, hf⟩ := ax_bind hf
  refine aw_cVi (As := []) (st := []) dX12_leastWith_7 cl_X12_212 iv_X12_least (k_X12_least (Q := (fun v h' => v = some (.int p2.1) ∧ h' = hp p2.2 gb)) p1 gb hp2 ⟨rfl, rfl⟩) (ci := 12) rfl (hp_get sh_58) rfl rfl rfl (Nat.le_of_ble_eq_true rfl) rfl (by decide) (by decide) ?_
  refine aw_istore_n (L' := [some (.ref 58), some (.int x1), some (.int x2), some (.int p2.1)]) dX12_leastWith_10 rfl (by decide) rfl ?_
  refine aw_iload_n dX12_leastWith_11 rfl rfl ?_
  refine aw_iconst (v := -1) dX12_leastWith_12 (by decide) ?_
  refine aw_icmp_ne (tgt := 22) dX12_leastWith_13 (by decide) (fun hc2 => ?_) (fun hc2 => ?_)
  · have hf := ax_neg hc2 hf
    refine aw_aload_n dX12_leastWith_22 rfl rfl ?_
    refine aw_gR dX12_leastWith_23 fl_X12_34 sh_58 rfl ?_
    refine aw_iload_n dX12_leastWith_26 rfl rfl ?_
    obtain ⟨hc1, hf⟩ := ax_ite hf
    refine aw_lA dX12_leastWith_27 sh_64 hc1 ?_
    refine aw_i2l dX12_leastWith_28 ?_
    cases hf
    exact aw_lret dX12_leastWith_29 hq (Nat.le_refl _) (Nat.le_refl _)
  · have hf := ax_pos hc2 hf
    refine aw_ldc2 dX12_leastWith_16 kc_X12_197 ?_
    refine aw_goto (tgt := 29) dX12_leastWith_19 (by decide) ?_
    cases hf
    exact aw_lret dX12_leastWith_29 hq (Nat.le_refl _) (Nat.le_refl _)
noncomputable def f_X12_price (x1 : Int32) (s : sx_M) : Option (Int64 × sx_M) :=
  (f_X12_isJob x1 s).bind (fun p1 =>
 (if p1.1 = 0 then
 some ((-9223372036854775808 : Int64), p1.2)
else
 (f_X12_allJobs p1.2).bind (fun p2 =>
 (f_X12_leastWith p2.1 (-1 : Int32) p2.2).bind (fun p3 =>
 (f_X12_allJobs p3.2).bind (fun p4 =>
 (f_X12_leastWith (p4.1 &&& (((1 : Int32) <<< (x1 &&& 31)) ^^^ (-1 : Int32))) (-1 : Int32) p4.2).bind (fun p5 =>
 (if p3.1 = (-9223372036854775808 : Int64) then
 some ((-9223372036854775808 : Int64), p5.2)
else
 (if p5.1 = (-9223372036854775808 : Int64) then
 some ((-9223372036854775808 : Int64), p5.2)
else
 some ((p5.1 - p3.1), p5.2)))))))))
set_option maxRecDepth 100000 in
set_option maxHeartbeats 4000000 in
theorem k_X12_price {l : Launch} {X : ax_X} {Q : Option Value → ax_H → Prop} (x1 : Int32) (s : sx_M) (gb : ax_H) {p : Int64 × sx_M} (hf : f_X12_price x1 s = some p) (hq : Q (some (.long p.1)) (hp p.2 gb)) : AM l X yX12_price cX12_price 6 (some .long) 5 0 0 [.ref 58, .int x1] (hp s gb) Q := by
  refine aw_met (own := RX12) (nm := "price") (L := [some (.ref 58), some (.int x1), none, none, none, none]) (by decide +kernel) rfl rfl (And.intro rfl (And.intro rfl trivial)) (Nat.le_of_ble_eq_true rfl) ?_
  unfold f_X12_price at hf
  refine aw_aload_n dX12_price_0 rfl rfl ?_
  refine aw_iload_n dX12_price_1 rfl rfl ?_
  obtain ⟨p1, hp1, hf⟩ := ax_bind hf
  refine aw_cVi (As := [.int x1]) (st := []) dX12_price_2 cl_X12_190 iv_X12_isJob (k_X12_isJob (Q := (fun v h' => v = some (.int p1.1) ∧ h' = hp p1.2 gb)) x1 s gb hp1 ⟨rfl, rfl⟩) (ci := 12) rfl (hp_get sh_58) rfl rfl rfl (Nat.le_of_ble_eq_true rfl) rfl (by decide) (by decide) ?_
  refine aw_if_ne (tgt := 12) dX12_price_5 (by decide) (fun hc3 => ?_) (fun hc3 => ?_)
  · have hf := ax_neg hc3 hf
    refine aw_aload_n dX12_price_12 rfl rfl ?_
    refine aw_aload_n dX12_price_13 rfl rfl ?_
    obtain ⟨p2, hp2, hf⟩ := ax_bind hf
    refine aw_cVi (As := []) (st := [.ref 58]) dX12_price_14 cl_X12_166 iv_X12_allJobs (k_X12_allJobs (Q := (fun v h' => v = some (.int p2.1) ∧ h' = hp p2.2 gb)) p1.2 gb hp2 ⟨rfl, rfl⟩) (ci := 12) rfl (hp_get sh_58) rfl rfl rfl (Nat.le_of_ble_eq_true rfl) rfl (by decide) (by decide) ?_
    refine aw_iconst (v := -1) dX12_price_17 (by decide) ?_
    obtain ⟨p3, hp3, hf⟩ := ax_bind hf
    refine aw_cVl (As := [.int p2.1, .int (-1 : Int32)]) (st := []) dX12_price_18 cl_X12_219 iv_X12_leastWith (k_X12_leastWith (Q := (fun v h' => v = some (.long p3.1) ∧ h' = hp p3.2 gb)) p2.1 (-1 : Int32) p2.2 gb hp3 ⟨rfl, rfl⟩) (ci := 12) rfl (hp_get sh_58) rfl rfl rfl (Nat.le_of_ble_eq_true rfl) rfl (by decide) (by decide) ?_
    refine aw_lstore_n (L' := [some (.ref 58), some (.int x1), some (.long p3.1), none, none, none]) dX12_price_21 rfl (by decide) rfl ?_
    refine aw_aload_n dX12_price_22 rfl rfl ?_
    refine aw_aload_n dX12_price_23 rfl rfl ?_
    obtain ⟨p4, hp4, hf⟩ := ax_bind hf
    refine aw_cVi (As := []) (st := [.ref 58]) dX12_price_24 cl_X12_166 iv_X12_allJobs (k_X12_allJobs (Q := (fun v h' => v = some (.int p4.1) ∧ h' = hp p4.2 gb)) p3.2 gb hp4 ⟨rfl, rfl⟩) (ci := 12) rfl (hp_get sh_58) rfl rfl rfl (Nat.le_of_ble_eq_true rfl) rfl (by decide) (by decide) ?_
    refine aw_iconst (v := 1) dX12_price_27 (by decide) ?_
    refine aw_iload_n dX12_price_28 rfl rfl ?_
    refine aw_ishl dX12_price_29 ?_
    refine aw_iconst (v := -1) dX12_price_30 (by decide) ?_
    refine aw_ixor dX12_price_31 ?_
    refine aw_iand dX12_price_32 ?_
    refine aw_iconst (v := -1) dX12_price_33 (by decide) ?_
    obtain ⟨p5, hp5, hf⟩ := ax_bind hf
    refine aw_cVl (As := [.int (p4.1 &&& (((1 : Int32) <<< (x1 &&& 31)) ^^^ (-1 : Int32))), .int (-1 : Int32)]) (st := []) dX12_price_34 cl_X12_219 iv_X12_leastWith (k_X12_leastWith (Q := (fun v h' => v = some (.long p5.1) ∧ h' = hp p5.2 gb)) (p4.1 &&& (((1 : Int32) <<< (x1 &&& 31)) ^^^ (-1 : Int32))) (-1 : Int32) p4.2 gb hp5 ⟨rfl, rfl⟩) (ci := 12) rfl (hp_get sh_58) rfl rfl rfl (Nat.le_of_ble_eq_true rfl) rfl (by decide) (by decide) ?_
    refine aw_lstore (L' := [some (.ref 58), some (.int x1), some (.long p3.1), none, some (.long p5.1), none]) dX12_price_37 (by decide) rfl ?_
    refine aw_lload_n dX12_price_39 rfl rfl ?_
    refine aw_ldc2 dX12_price_40 kc_X12_197 ?_
    refine aw_lcmp_eq (tgt := 56) dX12_price_43 dX12_price_44 (by decide) (fun hc2 => ?_) (fun hc2 => ?_)
    · have hf := ax_pos hc2 hf
      refine aw_ldc2 dX12_price_56 kc_X12_197 ?_
      refine aw_goto (tgt := 66) dX12_price_59 (by decide) ?_
      cases hf
      exact aw_lret dX12_price_66 hq (Nat.le_refl _) (Nat.le_refl _)
    · have hf := ax_neg hc2 hf
      refine aw_lload dX12_price_47 rfl ?_
      refine aw_ldc2 dX12_price_49 kc_X12_197 ?_
      refine aw_lcmp_ne (tgt := 62) dX12_price_52 dX12_price_53 (by decide) (fun hc1 => ?_) (fun hc1 => ?_)
      · have hf := ax_neg hc1 hf
        refine aw_lload dX12_price_62 rfl ?_
        refine aw_lload_n dX12_price_64 rfl rfl ?_
        refine aw_lsub dX12_price_65 ?_
        cases hf
        exact aw_lret dX12_price_66 hq (Nat.le_refl _) (Nat.le_refl _)
      · have hf := ax_pos hc1 hf
        refine aw_ldc2 dX12_price_56 kc_X12_197 ?_
        refine aw_goto (tgt := 66) dX12_price_59 (by decide) ?_
        cases hf
        exact aw_lret dX12_price_66 hq (Nat.le_refl _) (Nat.le_refl _)
  · have hf := ax_pos hc3 hf
    refine aw_ldc2 dX12_price_8 kc_X12_197 ?_
    cases hf
    exact aw_lret dX12_price_11 hq (Nat.le_refl _) (Nat.le_refl _)
noncomputable def f_X12_pay (x1 : Int32) (s : sx_M) : Option (Int64 × sx_M) :=
  (f_X12_isWorker x1 s).bind (fun p1 =>
 (if p1.1 = 0 then
 some ((-9223372036854775808 : Int64), p1.2)
else
 (f_X12_goesAll p1.2).bind (fun p2 =>
 (f_X12_least p2).bind (fun p3 =>
 (if p3.1 = (-1 : Int32) then
 some ((-9223372036854775808 : Int64), p3.2)
else
 (f_X12_jobOf p3.1 x1 p3.2).bind (fun p4 =>
 (f_X12_allJobs p4.2).bind (fun p5 =>
 (f_X12_leastWith (p5.1 &&& (((1 : Int32) <<< (p4.1 &&& 31)) ^^^ (-1 : Int32))) x1 p5.2).bind (fun p6 =>
 (f_X12_allJobs p6.2).bind (fun p7 =>
 (f_X12_leastWith p7.1 x1 p7.2).bind (fun p8 =>
 some ((p6.1 - p8.1), p8.2)))))))))))
set_option maxRecDepth 100000 in
set_option maxHeartbeats 4000000 in
theorem k_X12_pay {l : Launch} {X : ax_X} {Q : Option Value → ax_H → Prop} (x1 : Int32) (s : sx_M) (gb : ax_H) {p : Int64 × sx_M} (hf : f_X12_pay x1 s = some p) (hq : Q (some (.long p.1)) (hp p.2 gb)) : AM l X yX12_pay cX12_pay 4 (some .long) 5 0 0 [.ref 58, .int x1] (hp s gb) Q := by
  refine aw_met (own := RX12) (nm := "pay") (L := [some (.ref 58), some (.int x1), none, none]) (by decide +kernel) rfl rfl (And.intro rfl (And.intro rfl trivial)) (Nat.le_of_ble_eq_true rfl) ?_
  unfold f_X12_pay at hf
  refine aw_aload_n dX12_pay_0 rfl rfl ?_
  refine aw_iload_n dX12_pay_1 rfl rfl ?_
  obtain ⟨p1, hp1, hf⟩ := ax_bind hf
  refine aw_cVi (As := [.int x1]) (st := []) dX12_pay_2 cl_X12_187 iv_X12_isWorker (k_X12_isWorker (Q := (fun v h' => v = some (.int p1.1) ∧ h' = hp p1.2 gb)) x1 s gb hp1 ⟨rfl, rfl⟩) (ci := 12) rfl (hp_get sh_58) rfl rfl rfl (Nat.le_of_ble_eq_true rfl) rfl (by decide) (by decide) ?_
  refine aw_if_ne (tgt := 12) dX12_pay_5 (by decide) (fun hc2 => ?_) (fun hc2 => ?_)
  · have hf := ax_neg hc2 hf
    refine aw_aload_n dX12_pay_12 rfl rfl ?_
    obtain ⟨p2, hp2, hf⟩ := ax_bind hf
    refine aw_cVv (As := []) (st := []) dX12_pay_13 cl_X12_173 iv_X12_goesAll (k_X12_goesAll (Q := (fun v h' => v = none ∧ h' = hp p2 gb)) p1.2 gb hp2 ⟨rfl, rfl⟩) (ci := 12) rfl (hp_get sh_58) rfl rfl rfl (Nat.le_of_ble_eq_true rfl) rfl (by decide) (by decide) ?_
    refine aw_aload_n dX12_pay_16 rfl rfl ?_
    obtain ⟨p3, hp3, hf⟩ := ax_bind hf
    refine aw_cVi (As := []) (st := []) dX12_pay_17 cl_X12_212 iv_X12_least (k_X12_least (Q := (fun v h' => v = some (.int p3.1) ∧ h' = hp p3.2 gb)) p2 gb hp3 ⟨rfl, rfl⟩) (ci := 12) rfl (hp_get sh_58) rfl rfl rfl (Nat.le_of_ble_eq_true rfl) rfl (by decide) (by decide) ?_
    refine aw_istore_n (L' := [some (.ref 58), some (.int x1), some (.int p3.1), none]) dX12_pay_20 rfl (by decide) rfl ?_
    refine aw_iload_n dX12_pay_21 rfl rfl ?_
    refine aw_iconst (v := -1) dX12_pay_22 (by decide) ?_
    refine aw_icmp_ne (tgt := 30) dX12_pay_23 (by decide) (fun hc1 => ?_) (fun hc1 => ?_)
    · have hf := ax_neg hc1 hf
      refine aw_aload_n dX12_pay_30 rfl rfl ?_
      refine aw_iload_n dX12_pay_31 rfl rfl ?_
      refine aw_iload_n dX12_pay_32 rfl rfl ?_
      obtain ⟨p4, hp4, hf⟩ := ax_bind hf
      refine aw_cVi (As := [.int p3.1, .int x1]) (st := []) dX12_pay_33 cl_X12_205 iv_X12_jobOf (k_X12_jobOf (Q := (fun v h' => v = some (.int p4.1) ∧ h' = hp p4.2 gb)) p3.1 x1 p3.2 gb hp4 ⟨rfl, rfl⟩) (ci := 12) rfl (hp_get sh_58) rfl rfl rfl (Nat.le_of_ble_eq_true rfl) rfl (by decide) (by decide) ?_
      refine aw_istore_n (L' := [some (.ref 58), some (.int x1), some (.int p3.1), some (.int p4.1)]) dX12_pay_36 rfl (by decide) rfl ?_
      refine aw_aload_n dX12_pay_37 rfl rfl ?_
      refine aw_aload_n dX12_pay_38 rfl rfl ?_
      obtain ⟨p5, hp5, hf⟩ := ax_bind hf
      refine aw_cVi (As := []) (st := [.ref 58]) dX12_pay_39 cl_X12_166 iv_X12_allJobs (k_X12_allJobs (Q := (fun v h' => v = some (.int p5.1) ∧ h' = hp p5.2 gb)) p4.2 gb hp5 ⟨rfl, rfl⟩) (ci := 12) rfl (hp_get sh_58) rfl rfl rfl (Nat.le_of_ble_eq_true rfl) rfl (by decide) (by decide) ?_
      refine aw_iconst (v := 1) dX12_pay_42 (by decide) ?_
      refine aw_iload_n dX12_pay_43 rfl rfl ?_
      refine aw_ishl dX12_pay_44 ?_
      refine aw_iconst (v := -1) dX12_pay_45 (by decide) ?_
      refine aw_ixor dX12_pay_46 ?_
      refine aw_iand dX12_pay_47 ?_
      refine aw_iload_n dX12_pay_48 rfl rfl ?_
      obtain ⟨p6, hp6, hf⟩ := ax_bind hf
      refine aw_cVl (As := [.int (p5.1 &&& (((1 : Int32) <<< (p4.1 &&& 31)) ^^^ (-1 : Int32))), .int x1]) (st := []) dX12_pay_49 cl_X12_219 iv_X12_leastWith (k_X12_leastWith (Q := (fun v h' => v = some (.long p6.1) ∧ h' = hp p6.2 gb)) (p5.1 &&& (((1 : Int32) <<< (p4.1 &&& 31)) ^^^ (-1 : Int32))) x1 p5.2 gb hp6 ⟨rfl, rfl⟩) (ci := 12) rfl (hp_get sh_58) rfl rfl rfl (Nat.le_of_ble_eq_true rfl) rfl (by decide) (by decide) ?_
      refine aw_aload_n dX12_pay_52 rfl rfl ?_
      refine aw_aload_n dX12_pay_53 rfl rfl ?_
      obtain ⟨p7, hp7, hf⟩ := ax_bind hf
      refine aw_cVi (As := []) (st := [.ref 58, .long p6.1]) dX12_pay_54 cl_X12_166 iv_X12_allJobs (k_X12_allJobs (Q := (fun v h' => v = some (.int p7.1) ∧ h' = hp p7.2 gb)) p6.2 gb hp7 ⟨rfl, rfl⟩) (ci := 12) rfl (hp_get sh_58) rfl rfl rfl (Nat.le_of_ble_eq_true rfl) rfl (by decide) (by decide) ?_
      refine aw_iload_n dX12_pay_57 rfl rfl ?_
      obtain ⟨p8, hp8, hf⟩ := ax_bind hf
      refine aw_cVl (As := [.int p7.1, .int x1]) (st := [.long p6.1]) dX12_pay_58 cl_X12_219 iv_X12_leastWith (k_X12_leastWith (Q := (fun v h' => v = some (.long p8.1) ∧ h' = hp p8.2 gb)) p7.1 x1 p7.2 gb hp8 ⟨rfl, rfl⟩) (ci := 12) rfl (hp_get sh_58) rfl rfl rfl (Nat.le_of_ble_eq_true rfl) rfl (by decide) (by decide) ?_
      refine aw_lsub dX12_pay_61 ?_
      cases hf
      exact aw_lret dX12_pay_62 hq (Nat.le_refl _) (Nat.le_refl _)
    · have hf := ax_pos hc1 hf
      refine aw_ldc2 dX12_pay_26 kc_X12_197 ?_
      cases hf
      exact aw_lret dX12_pay_29 hq (Nat.le_refl _) (Nat.le_refl _)
  · have hf := ax_pos hc2 hf
    refine aw_ldc2 dX12_pay_8 kc_X12_197 ?_
    cases hf
    exact aw_lret dX12_pay_11 hq (Nat.le_refl _) (Nat.le_refl _)
noncomputable def f_X12_only (x1 : Int32) (s : sx_M) : Option (Int64 × sx_M) :=
  (f_X12_allJobs s).bind (fun p1 =>
 (f_X12_in ((x1).toInt64) (0 : Int64) ((p1.1).toInt64) p1.2).bind (fun p2 =>
 (if p2.1 = 0 then
 some ((-9223372036854775808 : Int64), p2.2)
else
 (f_X12_leastWith x1 (-1 : Int32) p2.2).bind (fun p3 =>
 some (p3.1, p3.2)))))
set_option maxRecDepth 100000 in
set_option maxHeartbeats 4000000 in
theorem k_X12_only {l : Launch} {X : ax_X} {Q : Option Value → ax_H → Prop} (x1 : Int32) (s : sx_M) (gb : ax_H) {p : Int64 × sx_M} (hf : f_X12_only x1 s = some p) (hq : Q (some (.long p.1)) (hp p.2 gb)) : AM l X yX12_only cX12_only 2 (some .long) 5 0 0 [.ref 58, .int x1] (hp s gb) Q := by
  refine aw_met (own := RX12) (nm := "only") (L := [some (.ref 58), some (.int x1)]) (by decide +kernel) rfl rfl (And.intro rfl (And.intro rfl trivial)) (Nat.le_of_ble_eq_true rfl) ?_
  unfold f_X12_only at hf
  refine aw_iload_n dX12_only_0 rfl rfl ?_
  refine aw_i2l dX12_only_1 ?_
  refine aw_lconst (v := 0) dX12_only_2 (by decide) ?_
  refine aw_aload_n dX12_only_3 rfl rfl ?_
  obtain ⟨p1, hp1, hf⟩ := ax_bind hf
  refine aw_cVi (As := []) (st := [.long (0 : Int64), .long ((x1).toInt64)]) dX12_only_4 cl_X12_166 iv_X12_allJobs (k_X12_allJobs (Q := (fun v h' => v = some (.int p1.1) ∧ h' = hp p1.2 gb)) s gb hp1 ⟨rfl, rfl⟩) (ci := 12) rfl (hp_get sh_58) rfl rfl rfl (Nat.le_of_ble_eq_true rfl) rfl (by decide) (by decide) ?_
  refine aw_i2l dX12_only_7 ?_
  obtain ⟨p2, hp2, hf⟩ := ax_bind hf
  refine aw_cSi (As := [.long ((x1).toInt64), .long (0 : Int64), .long ((p1.1).toInt64)]) (st := []) dX12_only_8 cl_X12_64 st_X12_in (k_X12_in (Q := (fun v h' => v = some (.int p2.1) ∧ h' = hp p2.2 gb)) ((x1).toInt64) (0 : Int64) ((p1.1).toInt64) p1.2 gb hp2 ⟨rfl, rfl⟩) rfl rfl (Nat.le_of_ble_eq_true rfl) rfl (by decide) (by decide) ?_
  refine aw_if_eq (tgt := 23) dX12_only_11 (by decide) (fun hc1 => ?_) (fun hc1 => ?_)
  · have hf := ax_pos hc1 hf
    refine aw_ldc2 dX12_only_23 kc_X12_197 ?_
    cases hf
    exact aw_lret dX12_only_26 hq (Nat.le_refl _) (Nat.le_refl _)
  · have hf := ax_neg hc1 hf
    refine aw_aload_n dX12_only_14 rfl rfl ?_
    refine aw_iload_n dX12_only_15 rfl rfl ?_
    refine aw_iconst (v := -1) dX12_only_16 (by decide) ?_
    obtain ⟨p3, hp3, hf⟩ := ax_bind hf
    refine aw_cVl (As := [.int x1, .int (-1 : Int32)]) (st := []) dX12_only_17 cl_X12_219 iv_X12_leastWith (k_X12_leastWith (Q := (fun v h' => v = some (.long p3.1) ∧ h' = hp p3.2 gb)) x1 (-1 : Int32) p2.2 gb hp3 ⟨rfl, rfl⟩) (ci := 12) rfl (hp_get sh_58) rfl rfl rfl (Nat.le_of_ble_eq_true rfl) rfl (by decide) (by decide) ?_
    refine aw_goto (tgt := 26) dX12_only_20 (by decide) ?_
    cases hf
    exact aw_lret dX12_only_26 hq (Nat.le_refl _) (Nat.le_refl _)
noncomputable def f_X12_measureOf_L16_J73 (z1 : Int32) (z2 : Int32) (z3 : Int32) (y4_73 : Int64) (y6_73 : Int64) (y9_73 : Int32) (t0_73 : Int32) (t1_73 : Int32) (s_73 : sx_M) : Option ((Int64 × Int64 × Int32 × Int32 × sx_M) ⊕ (Int64 × Int64 × Int32 × sx_M)) :=
  some (.inl (y4_73, y6_73, (t0_73 + t1_73), (y9_73 + (1 : Int32)), s_73))
noncomputable def f_X12_measureOf_L16 (z1 : Int32) (z2 : Int32) (z3 : Int32) (a16 : Int64 × Int64 × Int32 × Int32 × sx_M) : Option ((Int64 × Int64 × Int32 × Int32 × sx_M) ⊕ (Int64 × Int64 × Int32 × sx_M)) :=
  (f_X12_workers a16.2.2.2.2).bind (fun p1 =>
 (if p1.1 ≤ a16.2.2.2.1 then
 some (.inr (a16.1, a16.2.1, a16.2.2.1, p1.2))
else
 (f_X12_jobOf z1 a16.2.2.2.1 p1.2).bind (fun p2 =>
 (f_X12_costOf a16.2.2.2.1 p2.1 p2.2).bind (fun p3 =>
 (f_J9_max_f86c9 a16.1 ((p3.1).toInt64) p3.2).bind (fun p4 =>
 (f_J9_min_f86c9 a16.2.1 ((p3.1).toInt64) p4.2).bind (fun p5 =>
 (if p3.1 ≤ z3 then
 f_X12_measureOf_L16_J73 z1 z2 z3 p4.1 p5.1 a16.2.2.2.1 a16.2.2.1 (0 : Int32) p5.2
else
 f_X12_measureOf_L16_J73 z1 z2 z3 p4.1 p5.1 a16.2.2.2.1 a16.2.2.1 (1 : Int32) p5.2)))))))
noncomputable def f_X12_measureOf (x1 : Int32) (x2 : Int32) (x3 : Int32) (s : sx_M) : Option (Int64 × sx_M) :=
  (whT (f_X12_measureOf_L16 x1 x2 x3) ((-9223372036854775808 : Int64), (9223372036854775807 : Int64), (0 : Int32), (0 : Int32), s)).bind (fun b6 =>
 (f_X12_workers b6.2.2.2).bind (fun p7 =>
 (if p7.1 = 0 then
 some ((0 : Int64), p7.2)
else
 (if x2 = 0 then
 (if ¬ (x1 < 0 ∨ 40320 ≤ (x1).toNatClampNeg) then
 some (((rA p7.2 64 (x1).toNatClampNeg)).toInt64, p7.2)
else none)
else
 (if x2 = (1 : Int32) then
 some (b6.1, p7.2)
else
 (if x2 = (2 : Int32) then
 some ((b6.1 - b6.2.1), p7.2)
else
 some ((b6.2.2.1).toInt64, p7.2)))))))
set_option maxRecDepth 100000 in
set_option maxHeartbeats 4000000 in
theorem k_X12_measureOf {l : Launch} {X : ax_X} {Q : Option Value → ax_H → Prop} (x1 : Int32) (x2 : Int32) (x3 : Int32) (s : sx_M) (gb : ax_H) {p : Int64 × sx_M} (hf : f_X12_measureOf x1 x2 x3 s = some p) (hq : Q (some (.long p.1)) (hp p.2 gb)) : AM l X yX12_measureOf cX12_measureOf 11 (some .long) 2 0 0 [.ref 58, .int x1, .int x2, .int x3] (hp s gb) Q := by
  refine aw_met (own := RX12) (nm := "measureOf") (L := [some (.ref 58), some (.int x1), some (.int x2), some (.int x3), none, none, none, none, none, none, none]) (by decide +kernel) rfl rfl (And.intro rfl (And.intro rfl (And.intro rfl (And.intro rfl trivial)))) (Nat.le_of_ble_eq_true rfl) ?_
  unfold f_X12_measureOf at hf
  refine aw_ldc2 dX12_measureOf_0 kc_X12_197 ?_
  refine aw_lstore (L' := [some (.ref 58), some (.int x1), some (.int x2), some (.int x3), some (.long (-9223372036854775808 : Int64)), none, none, none, none, none, none]) dX12_measureOf_3 (by decide) rfl ?_
  refine aw_ldc2 dX12_measureOf_5 kc_X12_185 ?_
  refine aw_lstore (L' := [some (.ref 58), some (.int x1), some (.int x2), some (.int x3), some (.long (-9223372036854775808 : Int64)), none, some (.long (9223372036854775807 : Int64)), none, none, none, none]) dX12_measureOf_8 (by decide) rfl ?_
  refine aw_iconst (v := 0) dX12_measureOf_10 (by decide) ?_
  refine aw_istore (L' := [some (.ref 58), some (.int x1), some (.int x2), some (.int x3), some (.long (-9223372036854775808 : Int64)), none, some (.long (9223372036854775807 : Int64)), none, some (.int (0 : Int32)), none, none]) dX12_measureOf_11 (by decide) rfl ?_
  refine aw_iconst (v := 0) dX12_measureOf_13 (by decide) ?_
  refine aw_istore (L' := [some (.ref 58), some (.int x1), some (.int x2), some (.int x3), some (.long (-9223372036854775808 : Int64)), none, some (.long (9223372036854775807 : Int64)), none, some (.int (0 : Int32)), some (.int (0 : Int32)), none]) dX12_measureOf_14 (by decide) rfl ?_
  obtain ⟨b6, hb6, hf⟩ := ax_bind hf
  refine wh_go ((-9223372036854775808 : Int64), (9223372036854775807 : Int64), (0 : Int32), (0 : Int32), s) (fun a16 : Int64 × Int64 × Int32 × Int32 × sx_M => AW l X RX12 "measureOf" cX12_measureOf 11 (some .long) (ax_rm 2 0 0) (ax_MQ X Q 0 0) 0 0 16 [some (.ref 58), some (.int x1), some (.int x2), some (.int x3), some (.long a16.1), none, some (.long a16.2.1), none, some (.int a16.2.2.1), some (.int a16.2.2.2.1), none] [] (hp a16.2.2.2.2 gb)) (fun e : Int64 × Int64 × Int32 × sx_M => AW l X RX12 "measureOf" cX12_measureOf 11 (some .long) (ax_rm 2 0 0) (ax_MQ X Q 0 0) 0 0 82 [some (.ref 58), some (.int x1), some (.int x2), none, some (.long e.1), none, some (.long e.2.1), none, some (.int e.2.2.1), none, none] [] (hp e.2.2.2 gb)) hb6 ?_ ?_
  · intro a16 r hf hK
    unfold f_X12_measureOf_L16 at hf
    have J73 : ∀ (y4_73 : Int64) (y6_73 : Int64) (y9_73 : Int32) (t0_73 : Int32) (t1_73 : Int32) (s_73 : sx_M), f_X12_measureOf_L16_J73 x1 x2 x3 y4_73 y6_73 y9_73 t0_73 t1_73 s_73 = some r → AW l X RX12 "measureOf" cX12_measureOf 11 (some .long) (ax_rm 2 0 0) (ax_MQ X Q 0 0) 0 0 73 [some (.ref 58), some (.int x1), some (.int x2), some (.int x3), some (.long y4_73), none, some (.long y6_73), none, none, some (.int y9_73), none] [.int t1_73, .int t0_73] (hp s_73 gb) := by
      intro y4_73 y6_73 y9_73 t0_73 t1_73 s_73 hf
      unfold f_X12_measureOf_L16_J73 at hf
      refine aw_iadd dX12_measureOf_73 ?_
      refine aw_istore (L' := [some (.ref 58), some (.int x1), some (.int x2), some (.int x3), some (.long y4_73), none, some (.long y6_73), none, some (.int (t0_73 + t1_73)), some (.int y9_73), none]) dX12_measureOf_74 (by decide) rfl ?_
      refine aw_iinc (v := (y9_73 + (1 : Int32))) (L' := [some (.ref 58), some (.int x1), some (.int x2), some (.int x3), some (.long y4_73), none, some (.long y6_73), none, some (.int (t0_73 + t1_73)), some (.int (y9_73 + (1 : Int32))), none]) dX12_measureOf_76 rfl rfl (by decide) rfl ?_
      refine aw_goto (tgt := 16) dX12_measureOf_79 (by decide) ?_
      cases hf
      exact hK
    refine aw_iload dX12_measureOf_16 rfl ?_
    refine aw_aload_n dX12_measureOf_18 rfl rfl ?_
    obtain ⟨p1, hp1, hf⟩ := ax_bind hf
    refine aw_cVi (As := []) (st := [.int a16.2.2.2.1]) dX12_measureOf_19 cl_X12_60 iv_X12_workers (k_X12_workers (Q := (fun v h' => v = some (.int p1.1) ∧ h' = hp p1.2 gb)) a16.2.2.2.2 gb hp1 ⟨rfl, rfl⟩) (ci := 12) rfl (hp_get sh_58) rfl rfl rfl (Nat.le_of_ble_eq_true rfl) rfl (by decide) (by decide) ?_
    refine aw_icmp_ge (tgt := 82) dX12_measureOf_22 (by decide) (fun hc2 => ?_) (fun hc2 => ?_)
    · have hf := ax_pos hc2 hf
      refine aw_less (L' := [some (.ref 58), some (.int x1), some (.int x2), none, some (.long a16.1), none, some (.long a16.2.1), none, some (.int a16.2.2.1), none, none]) (And.intro rfl (And.intro rfl (And.intro rfl (And.intro rfl (And.intro rfl (And.intro rfl trivial)))))) ?_
      cases hf
      exact hK
    · have hf := ax_neg hc2 hf
      refine aw_aload_n dX12_measureOf_25 rfl rfl ?_
      refine aw_iload dX12_measureOf_26 rfl ?_
      refine aw_aload_n dX12_measureOf_28 rfl rfl ?_
      refine aw_iload_n dX12_measureOf_29 rfl rfl ?_
      refine aw_iload dX12_measureOf_30 rfl ?_
      obtain ⟨p2, hp2, hf⟩ := ax_bind hf
      refine aw_cVi (As := [.int x1, .int a16.2.2.2.1]) (st := [.int a16.2.2.2.1, .ref 58]) dX12_measureOf_32 cl_X12_205 iv_X12_jobOf (k_X12_jobOf (Q := (fun v h' => v = some (.int p2.1) ∧ h' = hp p2.2 gb)) x1 a16.2.2.2.1 p1.2 gb hp2 ⟨rfl, rfl⟩) (ci := 12) rfl (hp_get sh_58) rfl rfl rfl (Nat.le_of_ble_eq_true rfl) rfl (by decide) (by decide) ?_
      obtain ⟨p3, hp3, hf⟩ := ax_bind hf
      refine aw_cVi (As := [.int a16.2.2.2.1, .int p2.1]) (st := []) dX12_measureOf_35 cl_X12_157 iv_X12_costOf (k_X12_costOf (Q := (fun v h' => v = some (.int p3.1) ∧ h' = hp p3.2 gb)) a16.2.2.2.1 p2.1 p2.2 gb hp3 ⟨rfl, rfl⟩) (ci := 12) rfl (hp_get sh_58) rfl rfl rfl (Nat.le_of_ble_eq_true rfl) rfl (by decide) (by decide) ?_
      refine aw_istore (L' := [some (.ref 58), some (.int x1), some (.int x2), some (.int x3), some (.long a16.1), none, some (.long a16.2.1), none, some (.int a16.2.2.1), some (.int a16.2.2.2.1), some (.int p3.1)]) dX12_measureOf_38 (by decide) rfl ?_
      refine aw_lload dX12_measureOf_40 rfl ?_
      refine aw_iload dX12_measureOf_42 rfl ?_
      refine aw_i2l dX12_measureOf_44 ?_
      obtain ⟨p4, hp4, hf⟩ := ax_bind hf
      refine aw_cSl (As := [.long a16.1, .long ((p3.1).toInt64)]) (st := []) dX12_measureOf_45 cl_X12_223 st_J9_max_f86c9 (k_J9_max_f86c9 (Q := (fun v h' => v = some (.long p4.1) ∧ h' = hp p4.2 gb)) a16.1 ((p3.1).toInt64) p3.2 gb hp4 ⟨rfl, rfl⟩) rfl rfl (Nat.le_of_ble_eq_true rfl) rfl (by decide) (by decide) ?_
      refine aw_lstore (L' := [some (.ref 58), some (.int x1), some (.int x2), some (.int x3), some (.long p4.1), none, some (.long a16.2.1), none, some (.int a16.2.2.1), some (.int a16.2.2.2.1), some (.int p3.1)]) dX12_measureOf_48 (by decide) rfl ?_
      refine aw_lload dX12_measureOf_50 rfl ?_
      refine aw_iload dX12_measureOf_52 rfl ?_
      refine aw_i2l dX12_measureOf_54 ?_
      obtain ⟨p5, hp5, hf⟩ := ax_bind hf
      refine aw_cSl (As := [.long a16.2.1, .long ((p3.1).toInt64)]) (st := []) dX12_measureOf_55 cl_X12_227 st_J9_min_f86c9 (k_J9_min_f86c9 (Q := (fun v h' => v = some (.long p5.1) ∧ h' = hp p5.2 gb)) a16.2.1 ((p3.1).toInt64) p4.2 gb hp5 ⟨rfl, rfl⟩) rfl rfl (Nat.le_of_ble_eq_true rfl) rfl (by decide) (by decide) ?_
      refine aw_lstore (L' := [some (.ref 58), some (.int x1), some (.int x2), some (.int x3), some (.long p4.1), none, some (.long p5.1), none, some (.int a16.2.2.1), some (.int a16.2.2.2.1), some (.int p3.1)]) dX12_measureOf_58 (by decide) rfl ?_
      refine aw_iload dX12_measureOf_60 rfl ?_
      refine aw_iload dX12_measureOf_62 rfl ?_
      refine aw_iload_n dX12_measureOf_64 rfl rfl ?_
      refine aw_icmp_le (tgt := 72) dX12_measureOf_65 (by decide) (fun hc1 => ?_) (fun hc1 => ?_)
      · have hf := ax_pos hc1 hf
        refine aw_iconst (v := 0) dX12_measureOf_72 (by decide) ?_
        refine aw_less (L' := [some (.ref 58), some (.int x1), some (.int x2), some (.int x3), some (.long p4.1), none, some (.long p5.1), none, none, some (.int a16.2.2.2.1), none]) (And.intro rfl (And.intro rfl (And.intro rfl (And.intro rfl (And.intro rfl (And.intro rfl (And.intro rfl trivial))))))) ?_
        exact J73 p4.1 p5.1 a16.2.2.2.1 a16.2.2.1 (0 : Int32) p5.2 hf
      · have hf := ax_neg hc1 hf
        refine aw_iconst (v := 1) dX12_measureOf_68 (by decide) ?_
        refine aw_goto (tgt := 73) dX12_measureOf_69 (by decide) ?_
        refine aw_less (L' := [some (.ref 58), some (.int x1), some (.int x2), some (.int x3), some (.long p4.1), none, some (.long p5.1), none, none, some (.int a16.2.2.2.1), none]) (And.intro rfl (And.intro rfl (And.intro rfl (And.intro rfl (And.intro rfl (And.intro rfl (And.intro rfl trivial))))))) ?_
        exact J73 p4.1 p5.1 a16.2.2.2.1 a16.2.2.1 (1 : Int32) p5.2 hf
  · refine aw_aload_n dX12_measureOf_82 rfl rfl ?_
    obtain ⟨p7, hp7, hf⟩ := ax_bind hf
    refine aw_cVi (As := []) (st := []) dX12_measureOf_83 cl_X12_60 iv_X12_workers (k_X12_workers (Q := (fun v h' => v = some (.int p7.1) ∧ h' = hp p7.2 gb)) b6.2.2.2 gb hp7 ⟨rfl, rfl⟩) (ci := 12) rfl (hp_get sh_58) rfl rfl rfl (Nat.le_of_ble_eq_true rfl) rfl (by decide) (by decide) ?_
    refine aw_if_ne (tgt := 91) dX12_measureOf_86 (by decide) (fun hc7 => ?_) (fun hc7 => ?_)
    · have hf := ax_neg hc7 hf
      refine aw_iload_n dX12_measureOf_91 rfl rfl ?_
      refine aw_if_ne (tgt := 105) dX12_measureOf_92 (by decide) (fun hc6 => ?_) (fun hc6 => ?_)
      · have hf := ax_neg hc6 hf
        refine aw_iload_n dX12_measureOf_105 rfl rfl ?_
        refine aw_iconst (v := 1) dX12_measureOf_106 (by decide) ?_
        refine aw_icmp_ne (tgt := 115) dX12_measureOf_107 (by decide) (fun hc4 => ?_) (fun hc4 => ?_)
        · have hf := ax_neg hc4 hf
          refine aw_iload_n dX12_measureOf_115 rfl rfl ?_
          refine aw_iconst (v := 2) dX12_measureOf_116 (by decide) ?_
          refine aw_icmp_ne (tgt := 128) dX12_measureOf_117 (by decide) (fun hc3 => ?_) (fun hc3 => ?_)
          · have hf := ax_neg hc3 hf
            refine aw_iload dX12_measureOf_128 rfl ?_
            refine aw_i2l dX12_measureOf_130 ?_
            cases hf
            exact aw_lret dX12_measureOf_131 hq (Nat.le_refl _) (Nat.le_refl _)
          · have hf := ax_pos hc3 hf
            refine aw_lload dX12_measureOf_120 rfl ?_
            refine aw_lload dX12_measureOf_122 rfl ?_
            refine aw_lsub dX12_measureOf_124 ?_
            refine aw_goto (tgt := 131) dX12_measureOf_125 (by decide) ?_
            cases hf
            exact aw_lret dX12_measureOf_131 hq (Nat.le_refl _) (Nat.le_refl _)
        · have hf := ax_pos hc4 hf
          refine aw_lload dX12_measureOf_110 rfl ?_
          refine aw_goto (tgt := 131) dX12_measureOf_112 (by decide) ?_
          cases hf
          exact aw_lret dX12_measureOf_131 hq (Nat.le_refl _) (Nat.le_refl _)
      · have hf := ax_pos hc6 hf
        refine aw_aload_n dX12_measureOf_95 rfl rfl ?_
        refine aw_gR dX12_measureOf_96 fl_X12_34 sh_58 rfl ?_
        refine aw_iload_n dX12_measureOf_99 rfl rfl ?_
        obtain ⟨hc5, hf⟩ := ax_ite hf
        refine aw_lA dX12_measureOf_100 sh_64 hc5 ?_
        refine aw_i2l dX12_measureOf_101 ?_
        refine aw_goto (tgt := 131) dX12_measureOf_102 (by decide) ?_
        cases hf
        exact aw_lret dX12_measureOf_131 hq (Nat.le_refl _) (Nat.le_refl _)
    · have hf := ax_pos hc7 hf
      refine aw_lconst (v := 0) dX12_measureOf_89 (by decide) ?_
      cases hf
      exact aw_lret dX12_measureOf_90 hq (Nat.le_refl _) (Nat.le_refl _)
noncomputable def f_X12_firstBy_L12_J68 (z1 : Int32) (z2 : Int32) (y6_68 : Int32) (y7_68 : Int64) (s_68 : sx_M) : Option ((Int32 × Int64 × Int32 × sx_M) ⊕ (Int32 × sx_M)) :=
  some (.inl (y6_68, y7_68, (y6_68 + (1 : Int32)), s_68))
noncomputable def f_X12_firstBy_L12 (z1 : Int32) (z2 : Int32) (a12 : Int32 × Int64 × Int32 × sx_M) : Option ((Int32 × Int64 × Int32 × sx_M) ⊕ (Int32 × sx_M)) :=
  (if (rI a12.2.2.2 58 15) ≤ a12.2.2.1 then
 some (.inr (a12.1, a12.2.2.2))
else
 (f_X12_measureOf a12.2.2.1 z1 z2 a12.2.2.2).bind (fun p2 =>
 (if a12.1 = (-1 : Int32) then
 f_X12_firstBy_L12_J68 z1 z2 a12.2.2.1 p2.1 p2.2
else
 (if p2.1 < a12.2.1 then
 f_X12_firstBy_L12_J68 z1 z2 a12.2.2.1 p2.1 p2.2
else
 (if p2.1 = a12.2.1 then
 (if ¬ (a12.2.2.1 < 0 ∨ 40320 ≤ (a12.2.2.1).toNatClampNeg) then
 (if ¬ (a12.1 < 0 ∨ 40320 ≤ (a12.1).toNatClampNeg) then
 (if (rA p2.2 64 (a12.1).toNatClampNeg) ≤ (rA p2.2 64 (a12.2.2.1).toNatClampNeg) then
 some (.inl (a12.1, a12.2.1, (a12.2.2.1 + (1 : Int32)), p2.2))
else
 f_X12_firstBy_L12_J68 z1 z2 a12.2.2.1 p2.1 p2.2)
else none)
else none)
else
 some (.inl (a12.1, a12.2.1, (a12.2.2.1 + (1 : Int32)), p2.2)))))))
noncomputable def f_X12_firstBy (x1 : Int32) (x2 : Int32) (s : sx_M) : Option (Int32 × sx_M) :=
  (f_X12_goesAll s).bind (fun p1 =>
 (whT (f_X12_firstBy_L12 x1 x2) ((-1 : Int32), (0 : Int64), (0 : Int32), p1)).bind (fun b3 =>
 some (b3.1, b3.2)))
set_option maxRecDepth 100000 in
set_option maxHeartbeats 4000000 in
theorem k_X12_firstBy {l : Launch} {X : ax_X} {Q : Option Value → ax_H → Prop} (x1 : Int32) (x2 : Int32) (s : sx_M) (gb : ax_H) {p : Int32 × sx_M} (hf : f_X12_firstBy x1 x2 s = some p) (hq : Q (some (.int p.1)) (hp p.2 gb)) : AM l X yX12_firstBy cX12_firstBy 9 (some .int) 5 0 0 [.ref 58, .int x1, .int x2] (hp s gb) Q := by
  refine aw_met (own := RX12) (nm := "firstBy") (L := [some (.ref 58), some (.int x1), some (.int x2), none, none, none, none, none, none]) (by decide +kernel) rfl rfl (And.intro rfl (And.intro rfl (And.intro rfl trivial))) (Nat.le_of_ble_eq_true rfl) ?_
  unfold f_X12_firstBy at hf
  refine aw_aload_n dX12_firstBy_0 rfl rfl ?_
  obtain ⟨p1, hp1, hf⟩ := ax_bind hf
  refine aw_cVv (As := []) (st := []) dX12_firstBy_1 cl_X12_173 iv_X12_goesAll (k_X12_goesAll (Q := (fun v h' => v = none ∧ h' = hp p1 gb)) s gb hp1 ⟨rfl, rfl⟩) (ci := 12) rfl (hp_get sh_58) rfl rfl rfl (Nat.le_of_ble_eq_true rfl) rfl (by decide) (by decide) ?_
  refine aw_iconst (v := -1) dX12_firstBy_4 (by decide) ?_
  refine aw_istore_n (L' := [some (.ref 58), some (.int x1), some (.int x2), some (.int (-1 : Int32)), none, none, none, none, none]) dX12_firstBy_5 rfl (by decide) rfl ?_
  refine aw_lconst (v := 0) dX12_firstBy_6 (by decide) ?_
  refine aw_lstore (L' := [some (.ref 58), some (.int x1), some (.int x2), some (.int (-1 : Int32)), some (.long (0 : Int64)), none, none, none, none]) dX12_firstBy_7 (by decide) rfl ?_
  refine aw_iconst (v := 0) dX12_firstBy_9 (by decide) ?_
  refine aw_istore (L' := [some (.ref 58), some (.int x1), some (.int x2), some (.int (-1 : Int32)), some (.long (0 : Int64)), none, some (.int (0 : Int32)), none, none]) dX12_firstBy_10 (by decide) rfl ?_
  obtain ⟨b3, hb3, hf⟩ := ax_bind hf
  refine wh_go ((-1 : Int32), (0 : Int64), (0 : Int32), p1) (fun a12 : Int32 × Int64 × Int32 × sx_M => AW l X RX12 "firstBy" cX12_firstBy 9 (some .int) (ax_rm 5 0 0) (ax_MQ X Q 0 0) 0 0 12 [some (.ref 58), some (.int x1), some (.int x2), some (.int a12.1), some (.long a12.2.1), none, some (.int a12.2.2.1), none, none] [] (hp a12.2.2.2 gb)) (fun e : Int32 × sx_M => AW l X RX12 "firstBy" cX12_firstBy 9 (some .int) (ax_rm 5 0 0) (ax_MQ X Q 0 0) 0 0 81 [none, none, none, some (.int e.1), none, none, none, none, none] [] (hp e.2 gb)) hb3 ?_ ?_
  · intro a12 r hf hK
    unfold f_X12_firstBy_L12 at hf
    have J68 : ∀ (y6_68 : Int32) (y7_68 : Int64) (s_68 : sx_M), f_X12_firstBy_L12_J68 x1 x2 y6_68 y7_68 s_68 = some r → AW l X RX12 "firstBy" cX12_firstBy 9 (some .int) (ax_rm 5 0 0) (ax_MQ X Q 0 0) 0 0 68 [some (.ref 58), some (.int x1), some (.int x2), none, none, none, some (.int y6_68), some (.long y7_68), none] [] (hp s_68 gb) := by
      intro y6_68 y7_68 s_68 hf
      unfold f_X12_firstBy_L12_J68 at hf
      refine aw_iload dX12_firstBy_68 rfl ?_
      refine aw_istore_n (L' := [some (.ref 58), some (.int x1), some (.int x2), some (.int y6_68), none, none, some (.int y6_68), some (.long y7_68), none]) dX12_firstBy_70 rfl (by decide) rfl ?_
      refine aw_lload dX12_firstBy_71 rfl ?_
      refine aw_lstore (L' := [some (.ref 58), some (.int x1), some (.int x2), some (.int y6_68), some (.long y7_68), none, some (.int y6_68), some (.long y7_68), none]) dX12_firstBy_73 (by decide) rfl ?_
      refine aw_iinc (v := (y6_68 + (1 : Int32))) (L' := [some (.ref 58), some (.int x1), some (.int x2), some (.int y6_68), some (.long y7_68), none, some (.int (y6_68 + (1 : Int32))), some (.long y7_68), none]) dX12_firstBy_75 rfl rfl (by decide) rfl ?_
      refine aw_goto (tgt := 12) dX12_firstBy_78 (by decide) ?_
      refine aw_less (L' := [some (.ref 58), some (.int x1), some (.int x2), some (.int y6_68), some (.long y7_68), none, some (.int (y6_68 + (1 : Int32))), none, none]) (And.intro rfl (And.intro rfl (And.intro rfl (And.intro rfl (And.intro rfl (And.intro rfl trivial)))))) ?_
      cases hf
      exact hK
    refine aw_iload dX12_firstBy_12 rfl ?_
    refine aw_aload_n dX12_firstBy_14 rfl rfl ?_
    refine aw_gI dX12_firstBy_15 fl_X12_154 sh_58 rfl ?_
    refine aw_icmp_ge (tgt := 81) dX12_firstBy_18 (by decide) (fun hc7 => ?_) (fun hc7 => ?_)
    · have hf := ax_pos hc7 hf
      refine aw_less (L' := [none, none, none, some (.int a12.1), none, none, none, none, none]) (And.intro rfl trivial) ?_
      cases hf
      exact hK
    · have hf := ax_neg hc7 hf
      refine aw_aload_n dX12_firstBy_21 rfl rfl ?_
      refine aw_iload dX12_firstBy_22 rfl ?_
      refine aw_iload_n dX12_firstBy_24 rfl rfl ?_
      refine aw_iload_n dX12_firstBy_25 rfl rfl ?_
      obtain ⟨p2, hp2, hf⟩ := ax_bind hf
      refine aw_cVl (As := [.int a12.2.2.1, .int x1, .int x2]) (st := []) dX12_firstBy_26 cl_X12_229 iv_X12_measureOf (k_X12_measureOf (Q := (fun v h' => v = some (.long p2.1) ∧ h' = hp p2.2 gb)) a12.2.2.1 x1 x2 a12.2.2.2 gb hp2 ⟨rfl, rfl⟩) (ci := 12) rfl (hp_get sh_58) rfl rfl rfl (Nat.le_of_ble_eq_true rfl) rfl (by decide) (by decide) ?_
      refine aw_lstore (L' := [some (.ref 58), some (.int x1), some (.int x2), some (.int a12.1), some (.long a12.2.1), none, some (.int a12.2.2.1), some (.long p2.1), none]) dX12_firstBy_29 (by decide) rfl ?_
      refine aw_iload_n dX12_firstBy_31 rfl rfl ?_
      refine aw_iconst (v := -1) dX12_firstBy_32 (by decide) ?_
      refine aw_icmp_eq (tgt := 68) dX12_firstBy_33 (by decide) (fun hc6 => ?_) (fun hc6 => ?_)
      · have hf := ax_pos hc6 hf
        refine aw_less (L' := [some (.ref 58), some (.int x1), some (.int x2), none, none, none, some (.int a12.2.2.1), some (.long p2.1), none]) (And.intro rfl (And.intro rfl (And.intro rfl (And.intro rfl (And.intro rfl trivial))))) ?_
        exact J68 a12.2.2.1 p2.1 p2.2 hf
      · have hf := ax_neg hc6 hf
        refine aw_lload dX12_firstBy_36 rfl ?_
        refine aw_lload dX12_firstBy_38 rfl ?_
        refine aw_lcmp_lt (tgt := 68) dX12_firstBy_40 dX12_firstBy_41 (by decide) (fun hc5 => ?_) (fun hc5 => ?_)
        · have hf := ax_pos hc5 hf
          refine aw_less (L' := [some (.ref 58), some (.int x1), some (.int x2), none, none, none, some (.int a12.2.2.1), some (.long p2.1), none]) (And.intro rfl (And.intro rfl (And.intro rfl (And.intro rfl (And.intro rfl trivial))))) ?_
          exact J68 a12.2.2.1 p2.1 p2.2 hf
        · have hf := ax_neg hc5 hf
          refine aw_lload dX12_firstBy_44 rfl ?_
          refine aw_lload dX12_firstBy_46 rfl ?_
          refine aw_lcmp_ne (tgt := 75) dX12_firstBy_48 dX12_firstBy_49 (by decide) (fun hc4 => ?_) (fun hc4 => ?_)
          · have hf := ax_neg hc4 hf
            refine aw_iinc (v := (a12.2.2.1 + (1 : Int32))) (L' := [some (.ref 58), some (.int x1), some (.int x2), some (.int a12.1), some (.long a12.2.1), none, some (.int (a12.2.2.1 + (1 : Int32))), some (.long p2.1), none]) dX12_firstBy_75 rfl rfl (by decide) rfl ?_
            refine aw_goto (tgt := 12) dX12_firstBy_78 (by decide) ?_
            refine aw_less (L' := [some (.ref 58), some (.int x1), some (.int x2), some (.int a12.1), some (.long a12.2.1), none, some (.int (a12.2.2.1 + (1 : Int32))), none, none]) (And.intro rfl (And.intro rfl (And.intro rfl (And.intro rfl (And.intro rfl (And.intro rfl trivial)))))) ?_
            cases hf
            exact hK
          · have hf := ax_pos hc4 hf
            refine aw_aload_n dX12_firstBy_52 rfl rfl ?_
            refine aw_gR dX12_firstBy_53 fl_X12_34 sh_58 rfl ?_
            refine aw_iload dX12_firstBy_56 rfl ?_
            obtain ⟨hc1, hf⟩ := ax_ite hf
            refine aw_lA dX12_firstBy_58 sh_64 hc1 ?_
            refine aw_aload_n dX12_firstBy_59 rfl rfl ?_
            refine aw_gR dX12_firstBy_60 fl_X12_34 sh_58 rfl ?_
            refine aw_iload_n dX12_firstBy_63 rfl rfl ?_
            obtain ⟨hc2, hf⟩ := ax_ite hf
            refine aw_lA dX12_firstBy_64 sh_64 hc2 ?_
            refine aw_icmp_ge (tgt := 75) dX12_firstBy_65 (by decide) (fun hc3 => ?_) (fun hc3 => ?_)
            · have hf := ax_pos hc3 hf
              refine aw_iinc (v := (a12.2.2.1 + (1 : Int32))) (L' := [some (.ref 58), some (.int x1), some (.int x2), some (.int a12.1), some (.long a12.2.1), none, some (.int (a12.2.2.1 + (1 : Int32))), some (.long p2.1), none]) dX12_firstBy_75 rfl rfl (by decide) rfl ?_
              refine aw_goto (tgt := 12) dX12_firstBy_78 (by decide) ?_
              refine aw_less (L' := [some (.ref 58), some (.int x1), some (.int x2), some (.int a12.1), some (.long a12.2.1), none, some (.int (a12.2.2.1 + (1 : Int32))), none, none]) (And.intro rfl (And.intro rfl (And.intro rfl (And.intro rfl (And.intro rfl (And.intro rfl trivial)))))) ?_
              cases hf
              exact hK
            · have hf := ax_neg hc3 hf
              refine aw_less (L' := [some (.ref 58), some (.int x1), some (.int x2), none, none, none, some (.int a12.2.2.1), some (.long p2.1), none]) (And.intro rfl (And.intro rfl (And.intro rfl (And.intro rfl (And.intro rfl trivial))))) ?_
              exact J68 a12.2.2.1 p2.1 p2.2 hf
  · refine aw_iload_n dX12_firstBy_81 rfl rfl ?_
    cases hf
    exact aw_iret dX12_firstBy_82 hq (Nat.le_refl _) (Nat.le_refl _)
noncomputable def f_X12_first (x1 : Int32) (x2 : Int32) (x3 : Int32) (s : sx_M) : Option (Int64 × sx_M) :=
  (f_X12_in ((x1).toInt64) (0 : Int64) (3 : Int64) s).bind (fun p1 =>
 (if p1.1 = 0 then
 some ((-9223372036854775808 : Int64), p1.2)
else
 (f_X12_in ((x3).toInt64) (0 : Int64) (1 : Int64) p1.2).bind (fun p2 =>
 (if p2.1 = 0 then
 some ((-9223372036854775808 : Int64), p2.2)
else
 (f_X12_firstBy x1 x2 p2.2).bind (fun p3 =>
 (if p3.1 = (-1 : Int32) then
 some ((-9223372036854775808 : Int64), p3.2)
else
 (if x3 = 0 then
 (f_X12_measureOf p3.1 x1 x2 p3.2).bind (fun p4 =>
 some (p4.1, p4.2))
else
 (if ¬ (p3.1 < 0 ∨ 40320 ≤ (p3.1).toNatClampNeg) then
 some (((rA p3.2 64 (p3.1).toNatClampNeg)).toInt64, p3.2)
else none))))))))
set_option maxRecDepth 100000 in
set_option maxHeartbeats 4000000 in
theorem k_X12_first {l : Launch} {X : ax_X} {Q : Option Value → ax_H → Prop} (x1 : Int32) (x2 : Int32) (x3 : Int32) (s : sx_M) (gb : ax_H) {p : Int64 × sx_M} (hf : f_X12_first x1 x2 x3 s = some p) (hq : Q (some (.long p.1)) (hp p.2 gb)) : AM l X yX12_first cX12_first 5 (some .long) 6 0 0 [.ref 58, .int x1, .int x2, .int x3] (hp s gb) Q := by
  refine aw_met (own := RX12) (nm := "first") (L := [some (.ref 58), some (.int x1), some (.int x2), some (.int x3), none]) (by decide +kernel) rfl rfl (And.intro rfl (And.intro rfl (And.intro rfl (And.intro rfl trivial)))) (Nat.le_of_ble_eq_true rfl) ?_
  unfold f_X12_first at hf
  refine aw_iload_n dX12_first_0 rfl rfl ?_
  refine aw_i2l dX12_first_1 ?_
  refine aw_lconst (v := 0) dX12_first_2 (by decide) ?_
  refine aw_ldc2 dX12_first_3 kc_X12_233 ?_
  obtain ⟨p1, hp1, hf⟩ := ax_bind hf
  refine aw_cSi (As := [.long ((x1).toInt64), .long (0 : Int64), .long (3 : Int64)]) (st := []) dX12_first_6 cl_X12_64 st_X12_in (k_X12_in (Q := (fun v h' => v = some (.int p1.1) ∧ h' = hp p1.2 gb)) ((x1).toInt64) (0 : Int64) (3 : Int64) s gb hp1 ⟨rfl, rfl⟩) rfl rfl (Nat.le_of_ble_eq_true rfl) rfl (by decide) (by decide) ?_
  refine aw_if_eq (tgt := 22) dX12_first_9 (by decide) (fun hc5 => ?_) (fun hc5 => ?_)
  · have hf := ax_pos hc5 hf
    refine aw_ldc2 dX12_first_22 kc_X12_197 ?_
    cases hf
    exact aw_lret dX12_first_25 hq (Nat.le_refl _) (Nat.le_refl _)
  · have hf := ax_neg hc5 hf
    refine aw_iload_n dX12_first_12 rfl rfl ?_
    refine aw_i2l dX12_first_13 ?_
    refine aw_lconst (v := 0) dX12_first_14 (by decide) ?_
    refine aw_lconst (v := 1) dX12_first_15 (by decide) ?_
    obtain ⟨p2, hp2, hf⟩ := ax_bind hf
    refine aw_cSi (As := [.long ((x3).toInt64), .long (0 : Int64), .long (1 : Int64)]) (st := []) dX12_first_16 cl_X12_64 st_X12_in (k_X12_in (Q := (fun v h' => v = some (.int p2.1) ∧ h' = hp p2.2 gb)) ((x3).toInt64) (0 : Int64) (1 : Int64) p1.2 gb hp2 ⟨rfl, rfl⟩) rfl rfl (Nat.le_of_ble_eq_true rfl) rfl (by decide) (by decide) ?_
    refine aw_if_ne (tgt := 26) dX12_first_19 (by decide) (fun hc4 => ?_) (fun hc4 => ?_)
    · have hf := ax_neg hc4 hf
      refine aw_aload_n dX12_first_26 rfl rfl ?_
      refine aw_iload_n dX12_first_27 rfl rfl ?_
      refine aw_iload_n dX12_first_28 rfl rfl ?_
      obtain ⟨p3, hp3, hf⟩ := ax_bind hf
      refine aw_cVi (As := [.int x1, .int x2]) (st := []) dX12_first_29 cl_X12_235 iv_X12_firstBy (k_X12_firstBy (Q := (fun v h' => v = some (.int p3.1) ∧ h' = hp p3.2 gb)) x1 x2 p2.2 gb hp3 ⟨rfl, rfl⟩) (ci := 12) rfl (hp_get sh_58) rfl rfl rfl (Nat.le_of_ble_eq_true rfl) rfl (by decide) (by decide) ?_
      refine aw_istore (L' := [some (.ref 58), some (.int x1), some (.int x2), some (.int x3), some (.int p3.1)]) dX12_first_32 (by decide) rfl ?_
      refine aw_iload dX12_first_34 rfl ?_
      refine aw_iconst (v := -1) dX12_first_36 (by decide) ?_
      refine aw_icmp_ne (tgt := 46) dX12_first_37 (by decide) (fun hc3 => ?_) (fun hc3 => ?_)
      · have hf := ax_neg hc3 hf
        refine aw_iload_n dX12_first_46 rfl rfl ?_
        refine aw_if_ne (tgt := 61) dX12_first_47 (by decide) (fun hc2 => ?_) (fun hc2 => ?_)
        · have hf := ax_neg hc2 hf
          refine aw_aload_n dX12_first_61 rfl rfl ?_
          refine aw_gR dX12_first_62 fl_X12_34 sh_58 rfl ?_
          refine aw_iload dX12_first_65 rfl ?_
          obtain ⟨hc1, hf⟩ := ax_ite hf
          refine aw_lA dX12_first_67 sh_64 hc1 ?_
          refine aw_i2l dX12_first_68 ?_
          cases hf
          exact aw_lret dX12_first_69 hq (Nat.le_refl _) (Nat.le_refl _)
        · have hf := ax_pos hc2 hf
          refine aw_aload_n dX12_first_50 rfl rfl ?_
          refine aw_iload dX12_first_51 rfl ?_
          refine aw_iload_n dX12_first_53 rfl rfl ?_
          refine aw_iload_n dX12_first_54 rfl rfl ?_
          obtain ⟨p4, hp4, hf⟩ := ax_bind hf
          refine aw_cVl (As := [.int p3.1, .int x1, .int x2]) (st := []) dX12_first_55 cl_X12_229 iv_X12_measureOf (k_X12_measureOf (Q := (fun v h' => v = some (.long p4.1) ∧ h' = hp p4.2 gb)) p3.1 x1 x2 p3.2 gb hp4 ⟨rfl, rfl⟩) (ci := 12) rfl (hp_get sh_58) rfl rfl rfl (Nat.le_of_ble_eq_true rfl) rfl (by decide) (by decide) ?_
          refine aw_goto (tgt := 69) dX12_first_58 (by decide) ?_
          cases hf
          exact aw_lret dX12_first_69 hq (Nat.le_refl _) (Nat.le_refl _)
      · have hf := ax_pos hc3 hf
        refine aw_ldc2 dX12_first_40 kc_X12_197 ?_
        refine aw_goto (tgt := 69) dX12_first_43 (by decide) ?_
        cases hf
        exact aw_lret dX12_first_69 hq (Nat.le_refl _) (Nat.le_refl _)
    · have hf := ax_pos hc4 hf
      refine aw_ldc2 dX12_first_22 kc_X12_197 ?_
      cases hf
      exact aw_lret dX12_first_25 hq (Nat.le_refl _) (Nat.le_refl _)
noncomputable def f_X12_firstJob (x1 : Int32) (x2 : Int32) (x3 : Int32) (s : sx_M) : Option (Int32 × sx_M) :=
  (f_X12_in ((x1).toInt64) (0 : Int64) (3 : Int64) s).bind (fun p1 =>
 (if p1.1 = 0 then
 some ((-2 : Int32), p1.2)
else
 (f_X12_isWorker x3 p1.2).bind (fun p2 =>
 (if p2.1 = 0 then
 some ((-2 : Int32), p2.2)
else
 (f_X12_firstBy x1 x2 p2.2).bind (fun p3 =>
 (if p3.1 = (-1 : Int32) then
 some ((-1 : Int32), p3.2)
else
 (f_X12_jobOf p3.1 x3 p3.2).bind (fun p4 =>
 some (p4.1, p4.2))))))))
set_option maxRecDepth 100000 in
set_option maxHeartbeats 4000000 in
theorem k_X12_firstJob {l : Launch} {X : ax_X} {Q : Option Value → ax_H → Prop} (x1 : Int32) (x2 : Int32) (x3 : Int32) (s : sx_M) (gb : ax_H) {p : Int32 × sx_M} (hf : f_X12_firstJob x1 x2 x3 s = some p) (hq : Q (some (.int p.1)) (hp p.2 gb)) : AM l X yX12_firstJob cX12_firstJob 5 (some .int) 6 0 0 [.ref 58, .int x1, .int x2, .int x3] (hp s gb) Q := by
  refine aw_met (own := RX12) (nm := "firstJob") (L := [some (.ref 58), some (.int x1), some (.int x2), some (.int x3), none]) (by decide +kernel) rfl rfl (And.intro rfl (And.intro rfl (And.intro rfl (And.intro rfl trivial)))) (Nat.le_of_ble_eq_true rfl) ?_
  unfold f_X12_firstJob at hf
  refine aw_iload_n dX12_firstJob_0 rfl rfl ?_
  refine aw_i2l dX12_firstJob_1 ?_
  refine aw_lconst (v := 0) dX12_firstJob_2 (by decide) ?_
  refine aw_ldc2 dX12_firstJob_3 kc_X12_233 ?_
  obtain ⟨p1, hp1, hf⟩ := ax_bind hf
  refine aw_cSi (As := [.long ((x1).toInt64), .long (0 : Int64), .long (3 : Int64)]) (st := []) dX12_firstJob_6 cl_X12_64 st_X12_in (k_X12_in (Q := (fun v h' => v = some (.int p1.1) ∧ h' = hp p1.2 gb)) ((x1).toInt64) (0 : Int64) (3 : Int64) s gb hp1 ⟨rfl, rfl⟩) rfl rfl (Nat.le_of_ble_eq_true rfl) rfl (by decide) (by decide) ?_
  refine aw_if_eq (tgt := 20) dX12_firstJob_9 (by decide) (fun hc3 => ?_) (fun hc3 => ?_)
  · have hf := ax_pos hc3 hf
    refine aw_bipush (v := -2) dX12_firstJob_20 (by decide) ?_
    cases hf
    exact aw_iret dX12_firstJob_22 hq (Nat.le_refl _) (Nat.le_refl _)
  · have hf := ax_neg hc3 hf
    refine aw_aload_n dX12_firstJob_12 rfl rfl ?_
    refine aw_iload_n dX12_firstJob_13 rfl rfl ?_
    obtain ⟨p2, hp2, hf⟩ := ax_bind hf
    refine aw_cVi (As := [.int x3]) (st := []) dX12_firstJob_14 cl_X12_187 iv_X12_isWorker (k_X12_isWorker (Q := (fun v h' => v = some (.int p2.1) ∧ h' = hp p2.2 gb)) x3 p1.2 gb hp2 ⟨rfl, rfl⟩) (ci := 12) rfl (hp_get sh_58) rfl rfl rfl (Nat.le_of_ble_eq_true rfl) rfl (by decide) (by decide) ?_
    refine aw_if_ne (tgt := 23) dX12_firstJob_17 (by decide) (fun hc2 => ?_) (fun hc2 => ?_)
    · have hf := ax_neg hc2 hf
      refine aw_aload_n dX12_firstJob_23 rfl rfl ?_
      refine aw_iload_n dX12_firstJob_24 rfl rfl ?_
      refine aw_iload_n dX12_firstJob_25 rfl rfl ?_
      obtain ⟨p3, hp3, hf⟩ := ax_bind hf
      refine aw_cVi (As := [.int x1, .int x2]) (st := []) dX12_firstJob_26 cl_X12_235 iv_X12_firstBy (k_X12_firstBy (Q := (fun v h' => v = some (.int p3.1) ∧ h' = hp p3.2 gb)) x1 x2 p2.2 gb hp3 ⟨rfl, rfl⟩) (ci := 12) rfl (hp_get sh_58) rfl rfl rfl (Nat.le_of_ble_eq_true rfl) rfl (by decide) (by decide) ?_
      refine aw_istore (L' := [some (.ref 58), some (.int x1), some (.int x2), some (.int x3), some (.int p3.1)]) dX12_firstJob_29 (by decide) rfl ?_
      refine aw_iload dX12_firstJob_31 rfl ?_
      refine aw_iconst (v := -1) dX12_firstJob_33 (by decide) ?_
      refine aw_icmp_ne (tgt := 41) dX12_firstJob_34 (by decide) (fun hc1 => ?_) (fun hc1 => ?_)
      · have hf := ax_neg hc1 hf
        refine aw_aload_n dX12_firstJob_41 rfl rfl ?_
        refine aw_iload dX12_firstJob_42 rfl ?_
        refine aw_iload_n dX12_firstJob_44 rfl rfl ?_
        obtain ⟨p4, hp4, hf⟩ := ax_bind hf
        refine aw_cVi (As := [.int p3.1, .int x3]) (st := []) dX12_firstJob_45 cl_X12_205 iv_X12_jobOf (k_X12_jobOf (Q := (fun v h' => v = some (.int p4.1) ∧ h' = hp p4.2 gb)) p3.1 x3 p3.2 gb hp4 ⟨rfl, rfl⟩) (ci := 12) rfl (hp_get sh_58) rfl rfl rfl (Nat.le_of_ble_eq_true rfl) rfl (by decide) (by decide) ?_
        cases hf
        exact aw_iret dX12_firstJob_48 hq (Nat.le_refl _) (Nat.le_refl _)
      · have hf := ax_pos hc1 hf
        refine aw_iconst (v := -1) dX12_firstJob_37 (by decide) ?_
        refine aw_goto (tgt := 48) dX12_firstJob_38 (by decide) ?_
        cases hf
        exact aw_iret dX12_firstJob_48 hq (Nat.le_refl _) (Nat.le_refl _)
    · have hf := ax_pos hc2 hf
      refine aw_bipush (v := -2) dX12_firstJob_20 (by decide) ?_
      cases hf
      exact aw_iret dX12_firstJob_22 hq (Nat.le_refl _) (Nat.le_refl _)
noncomputable def f_X12_isTaken_L2 (z1 : Int32) (a2 : Int32 × sx_M) : Option ((Int32 × sx_M) ⊕ ((sx_M) ⊕ (Int32 × sx_M))) :=
  (f_X12_workers a2.2).bind (fun p1 =>
 (if p1.1 ≤ a2.1 then
 some (.inr (.inl p1.2))
else
 (if ¬ (a2.1 < 0 ∨ 7 ≤ (a2.1).toNatClampNeg) then
 (if (rA p1.2 67 (a2.1).toNatClampNeg) = z1 then
 some (.inr (.inr (((1 : Int32), p1.2))))
else
 some (.inl ((a2.1 + (1 : Int32)), p1.2)))
else none)))
noncomputable def f_X12_isTaken (x1 : Int32) (s : sx_M) : Option (Int32 × sx_M) :=
  (whT (f_X12_isTaken_L2 x1) ((0 : Int32), s)).bind (fun b2 => (Sum.elim (fun e3 =>
 some ((0 : Int32), e3)) (fun e4 =>
 some e4)) b2)
set_option maxRecDepth 100000 in
set_option maxHeartbeats 4000000 in
theorem k_X12_isTaken {l : Launch} {X : ax_X} {Q : Option Value → ax_H → Prop} (x1 : Int32) (s : sx_M) (gb : ax_H) {p : Int32 × sx_M} (hf : f_X12_isTaken x1 s = some p) (hq : Q (some (.int p.1)) (hp p.2 gb)) : AM l X yX12_isTaken cX12_isTaken 3 (some .boolean) 1 0 0 [.ref 58, .int x1] (hp s gb) Q := by
  refine aw_met (own := RX12) (nm := "isTaken") (L := [some (.ref 58), some (.int x1), none]) (by decide +kernel) rfl rfl (And.intro rfl (And.intro rfl trivial)) (Nat.le_of_ble_eq_true rfl) ?_
  unfold f_X12_isTaken at hf
  refine aw_iconst (v := 0) dX12_isTaken_0 (by decide) ?_
  refine aw_istore_n (L' := [some (.ref 58), some (.int x1), some (.int (0 : Int32))]) dX12_isTaken_1 rfl (by decide) rfl ?_
  obtain ⟨b2, hb2, hf⟩ := ax_bind hf
  refine wh_go ((0 : Int32), s) (fun a2 : Int32 × sx_M => AW l X RX12 "isTaken" cX12_isTaken 3 (some .boolean) (ax_rm 1 0 0) (ax_MQ X Q 0 0) 0 0 2 [some (.ref 58), some (.int x1), some (.int a2.1)] [] (hp a2.2 gb)) (Sum.elim (fun e : sx_M => AW l X RX12 "isTaken" cX12_isTaken 3 (some .boolean) (ax_rm 1 0 0) (ax_MQ X Q 0 0) 0 0 28 [none, none, none] [] (hp e gb)) (fun v : Int32 × sx_M => Q (some (.int v.1)) (hp v.2 gb))) hb2 ?_ ?_
  · intro a2 r hf hK
    unfold f_X12_isTaken_L2 at hf
    refine aw_iload_n dX12_isTaken_2 rfl rfl ?_
    refine aw_aload_n dX12_isTaken_3 rfl rfl ?_
    obtain ⟨p1, hp1, hf⟩ := ax_bind hf
    refine aw_cVi (As := []) (st := [.int a2.1]) dX12_isTaken_4 cl_X12_60 iv_X12_workers (k_X12_workers (Q := (fun v h' => v = some (.int p1.1) ∧ h' = hp p1.2 gb)) a2.2 gb hp1 ⟨rfl, rfl⟩) (ci := 12) rfl (hp_get sh_58) rfl rfl rfl (Nat.le_of_ble_eq_true rfl) rfl (by decide) (by decide) ?_
    refine aw_icmp_ge (tgt := 28) dX12_isTaken_7 (by decide) (fun hc3 => ?_) (fun hc3 => ?_)
    · have hf := ax_pos hc3 hf
      refine aw_less (L' := [none, none, none]) trivial ?_
      cases hf
      exact hK
    · have hf := ax_neg hc3 hf
      refine aw_aload_n dX12_isTaken_10 rfl rfl ?_
      refine aw_gR dX12_isTaken_11 fl_X12_43 sh_58 rfl ?_
      refine aw_iload_n dX12_isTaken_14 rfl rfl ?_
      obtain ⟨hc1, hf⟩ := ax_ite hf
      refine aw_lA dX12_isTaken_15 sh_67 hc1 ?_
      refine aw_iload_n dX12_isTaken_16 rfl rfl ?_
      refine aw_icmp_ne (tgt := 22) dX12_isTaken_17 (by decide) (fun hc2 => ?_) (fun hc2 => ?_)
      · have hf := ax_neg hc2 hf
        refine aw_iinc (v := (a2.1 + (1 : Int32))) (L' := [some (.ref 58), some (.int x1), some (.int (a2.1 + (1 : Int32)))]) dX12_isTaken_22 rfl rfl (by decide) rfl ?_
        refine aw_goto (tgt := 2) dX12_isTaken_25 (by decide) ?_
        cases hf
        exact hK
      · have hf := ax_pos hc2 hf
        refine aw_iconst (v := 1) dX12_isTaken_20 (by decide) ?_
        cases hf
        exact aw_zret dX12_isTaken_21 (by decide) hK (Nat.le_refl _) (Nat.le_refl _)
  · rcases b2 with e3 | e4
    · refine aw_iconst (v := 0) dX12_isTaken_28 (by decide) ?_
      cases hf
      exact aw_zret dX12_isTaken_29 (by decide) hq (Nat.le_refl _) (Nat.le_refl _)
    · cases hf
      exact hq
noncomputable def f_X12_laysGreedy_L2 (a2 : Int32 × sx_M) : Option ((Int32 × sx_M) ⊕ (sx_M)) :=
  (if (7 : Int32) ≤ a2.1 then
 some (.inr a2.2)
else
 (if ¬ (a2.1 < 0 ∨ 7 ≤ (a2.1).toNatClampNeg) then
 some (.inl ((a2.1 + (1 : Int32)), (wA a2.2 67 (a2.1).toNatClampNeg (-1 : Int32))))
else none))
noncomputable def f_X12_laysGreedy_L23_J150 (y2_150 : Int32) (y3_150 : Int32) (t0_150 : Int32) (s_150 : sx_M) : Option ((Int32 × sx_M) ⊕ (sx_M)) :=
  (if t0_150 = 0 then
 some (.inl (t0_150, s_150))
else
 (if ¬ (y2_150 < 0 ∨ 7 ≤ (y2_150).toNatClampNeg) then
 some (.inl (t0_150, (wA s_150 67 (y2_150).toNatClampNeg y3_150)))
else none))
noncomputable def f_X12_laysGreedy_L46_J122 (z4 : Int32) (y5_122 : Int32) (s_122 : sx_M) : Option ((Int32 × Int32 × Int32 × sx_M) ⊕ (Int32 × Int32 × sx_M)) :=
  some (.inl (z4, y5_122, (y5_122 + (1 : Int32)), s_122))
noncomputable def f_X12_laysGreedy_L46_J93 (z4 : Int32) (y2_93 : Int32) (y3_93 : Int32) (y5_93 : Int32) (t0_93 : Int32) (s_93 : sx_M) : Option ((Int32 × Int32 × Int32 × sx_M) ⊕ (Int32 × Int32 × sx_M)) :=
  (if t0_93 = 0 then
 some (.inl (y2_93, y3_93, (y5_93 + (1 : Int32)), s_93))
else
 (if y2_93 = (-1 : Int32) then
 f_X12_laysGreedy_L46_J122 z4 y5_93 s_93
else
 (f_X12_costOf z4 y5_93 s_93).bind (fun p3 =>
 (f_X12_costOf y2_93 y3_93 p3.2).bind (fun p4 =>
 (if p4.1 ≤ p3.1 then
 some (.inl (y2_93, y3_93, (y5_93 + (1 : Int32)), p4.2))
else
 f_X12_laysGreedy_L46_J122 z4 y5_93 p4.2)))))
noncomputable def f_X12_laysGreedy_L46 (z4 : Int32) (a46 : Int32 × Int32 × Int32 × sx_M) : Option ((Int32 × Int32 × Int32 × sx_M) ⊕ (Int32 × Int32 × sx_M)) :=
  (f_X12_jobs a46.2.2.2).bind (fun p5 =>
 (if p5.1 ≤ a46.2.2.1 then
 some (.inr (a46.1, a46.2.1, p5.2))
else
 (if ¬ (z4 < 0 ∨ 7 ≤ (z4).toNatClampNeg) then
 (if (rA p5.2 67 (z4).toNatClampNeg) = (-1 : Int32) then
 (f_X12_isTaken a46.2.2.1 p5.2).bind (fun p6 =>
 (if p6.1 = 0 then
 (f_X12_costOf z4 a46.2.2.1 p6.2).bind (fun p7 =>
 (if p7.1 = (2147483647 : Int32) then
 f_X12_laysGreedy_L46_J93 z4 a46.1 a46.2.1 a46.2.2.1 (0 : Int32) p7.2
else
 f_X12_laysGreedy_L46_J93 z4 a46.1 a46.2.1 a46.2.2.1 (1 : Int32) p7.2))
else
 f_X12_laysGreedy_L46_J93 z4 a46.1 a46.2.1 a46.2.2.1 (0 : Int32) p6.2))
else
 f_X12_laysGreedy_L46_J93 z4 a46.1 a46.2.1 a46.2.2.1 (0 : Int32) p5.2)
else none)))
noncomputable def f_X12_laysGreedy_L34 (a34 : Int32 × Int32 × Int32 × sx_M) : Option ((Int32 × Int32 × Int32 × sx_M) ⊕ (Int32 × Int32 × sx_M)) :=
  (f_X12_workers a34.2.2.2).bind (fun p2 =>
 (if p2.1 ≤ a34.2.2.1 then
 some (.inr (a34.1, a34.2.1, p2.2))
else
 (whT (f_X12_laysGreedy_L46 a34.2.2.1) (a34.1, a34.2.1, (0 : Int32), p2.2)).bind (fun b8 =>
 some (.inl (b8.1, b8.2.1, (a34.2.2.1 + (1 : Int32)), b8.2.2)))))
noncomputable def f_X12_laysGreedy_L23 (a23 : Int32 × sx_M) : Option ((Int32 × sx_M) ⊕ (sx_M)) :=
  (if a23.1 = 0 then
 some (.inr a23.2)
else
 (whT (f_X12_laysGreedy_L34) ((-1 : Int32), (-1 : Int32), (0 : Int32), a23.2)).bind (fun b9 =>
 (if b9.1 = (-1 : Int32) then
 f_X12_laysGreedy_L23_J150 b9.1 b9.2.1 (0 : Int32) b9.2.2
else
 f_X12_laysGreedy_L23_J150 b9.1 b9.2.1 (1 : Int32) b9.2.2)))
noncomputable def f_X12_laysGreedy (s : sx_M) : Option sx_M :=
  (whT (f_X12_laysGreedy_L2) ((0 : Int32), s)).bind (fun b1 =>
 (whT (f_X12_laysGreedy_L23) ((1 : Int32), b1)).bind (fun b10 =>
 some b10))
set_option maxRecDepth 100000 in
set_option maxHeartbeats 4000000 in
theorem k_X12_laysGreedy {l : Launch} {X : ax_X} {Q : Option Value → ax_H → Prop} (s : sx_M) (gb : ax_H) {p : sx_M} (hf : f_X12_laysGreedy s = some p) (hq : Q (none) (hp p gb)) : AM l X yX12_laysGreedy cX12_laysGreedy 7 none 2 0 0 [.ref 58] (hp s gb) Q := by
  refine aw_met (own := RX12) (nm := "laysGreedy") (L := [some (.ref 58), none, none, none, none, none, none]) (by decide +kernel) rfl rfl (And.intro rfl trivial) (Nat.le_of_ble_eq_true rfl) ?_
  unfold f_X12_laysGreedy at hf
  refine aw_iconst (v := 0) dX12_laysGreedy_0 (by decide) ?_
  refine aw_istore_n (L' := [some (.ref 58), some (.int (0 : Int32)), none, none, none, none, none]) dX12_laysGreedy_1 rfl (by decide) rfl ?_
  obtain ⟨b1, hb1, hf⟩ := ax_bind hf
  refine wh_go ((0 : Int32), s) (fun a2 : Int32 × sx_M => AW l X RX12 "laysGreedy" cX12_laysGreedy 7 none (ax_rm 2 0 0) (ax_MQ X Q 0 0) 0 0 2 [some (.ref 58), some (.int a2.1), none, none, none, none, none] [] (hp a2.2 gb)) (fun e : sx_M => AW l X RX12 "laysGreedy" cX12_laysGreedy 7 none (ax_rm 2 0 0) (ax_MQ X Q 0 0) 0 0 21 [some (.ref 58), none, none, none, none, none, none] [] (hp e gb)) hb1 ?_ ?_
  · intro a2 r hf hK
    unfold f_X12_laysGreedy_L2 at hf
    refine aw_iload_n dX12_laysGreedy_2 rfl rfl ?_
    refine aw_bipush (v := 7) dX12_laysGreedy_3 (by decide) ?_
    refine aw_icmp_ge (tgt := 21) dX12_laysGreedy_5 (by decide) (fun hc2 => ?_) (fun hc2 => ?_)
    · have hf := ax_pos hc2 hf
      refine aw_less (L' := [some (.ref 58), none, none, none, none, none, none]) (And.intro rfl trivial) ?_
      cases hf
      exact hK
    · have hf := ax_neg hc2 hf
      refine aw_aload_n dX12_laysGreedy_8 rfl rfl ?_
      refine aw_gR dX12_laysGreedy_9 fl_X12_43 sh_58 rfl ?_
      refine aw_iload_n dX12_laysGreedy_12 rfl rfl ?_
      refine aw_iconst (v := -1) dX12_laysGreedy_13 (by decide) ?_
      obtain ⟨hc1, hf⟩ := ax_ite hf
      refine aw_sA dX12_laysGreedy_14 sh_67 hc1 ?_
      refine aw_iinc (v := (a2.1 + (1 : Int32))) (L' := [some (.ref 58), some (.int (a2.1 + (1 : Int32))), none, none, none, none, none]) dX12_laysGreedy_15 rfl rfl (by decide) rfl ?_
      refine aw_goto (tgt := 2) dX12_laysGreedy_18 (by decide) ?_
      cases hf
      exact hK
  · refine aw_iconst (v := 1) dX12_laysGreedy_21 (by decide) ?_
    refine aw_istore_n (L' := [some (.ref 58), some (.int (1 : Int32)), none, none, none, none, none]) dX12_laysGreedy_22 rfl (by decide) rfl ?_
    obtain ⟨b10, hb10, hf⟩ := ax_bind hf
    refine wh_go ((1 : Int32), b1) (fun a23 : Int32 × sx_M => AW l X RX12 "laysGreedy" cX12_laysGreedy 7 none (ax_rm 2 0 0) (ax_MQ X Q 0 0) 0 0 23 [some (.ref 58), some (.int a23.1), none, none, none, none, none] [] (hp a23.2 gb)) (fun e : sx_M => AW l X RX12 "laysGreedy" cX12_laysGreedy 7 none (ax_rm 2 0 0) (ax_MQ X Q 0 0) 0 0 165 [none, none, none, none, none, none, none] [] (hp e gb)) hb10 ?_ ?_
    · intro a23 r hf hK
      unfold f_X12_laysGreedy_L23 at hf
      have J150 : ∀ (y2_150 : Int32) (y3_150 : Int32) (t0_150 : Int32) (s_150 : sx_M), f_X12_laysGreedy_L23_J150 y2_150 y3_150 t0_150 s_150 = some r → AW l X RX12 "laysGreedy" cX12_laysGreedy 7 none (ax_rm 2 0 0) (ax_MQ X Q 0 0) 0 0 150 [some (.ref 58), none, some (.int y2_150), some (.int y3_150), none, none, none] [.int t0_150] (hp s_150 gb) := by
        intro y2_150 y3_150 t0_150 s_150 hf
        unfold f_X12_laysGreedy_L23_J150 at hf
        refine aw_istore_n (L' := [some (.ref 58), some (.int t0_150), some (.int y2_150), some (.int y3_150), none, none, none]) dX12_laysGreedy_150 rfl (by decide) rfl ?_
        refine aw_iload_n dX12_laysGreedy_151 rfl rfl ?_
        refine aw_if_eq (tgt := 162) dX12_laysGreedy_152 (by decide) (fun hc4 => ?_) (fun hc4 => ?_)
        · have hf := ax_pos hc4 hf
          refine aw_goto (tgt := 23) dX12_laysGreedy_162 (by decide) ?_
          refine aw_less (L' := [some (.ref 58), some (.int t0_150), none, none, none, none, none]) (And.intro rfl (And.intro rfl trivial)) ?_
          cases hf
          exact hK
        · have hf := ax_neg hc4 hf
          refine aw_aload_n dX12_laysGreedy_155 rfl rfl ?_
          refine aw_gR dX12_laysGreedy_156 fl_X12_43 sh_58 rfl ?_
          refine aw_iload_n dX12_laysGreedy_159 rfl rfl ?_
          refine aw_iload_n dX12_laysGreedy_160 rfl rfl ?_
          obtain ⟨hc3, hf⟩ := ax_ite hf
          refine aw_sA dX12_laysGreedy_161 sh_67 hc3 ?_
          refine aw_goto (tgt := 23) dX12_laysGreedy_162 (by decide) ?_
          refine aw_less (L' := [some (.ref 58), some (.int t0_150), none, none, none, none, none]) (And.intro rfl (And.intro rfl trivial)) ?_
          cases hf
          exact hK
      refine aw_iload_n dX12_laysGreedy_23 rfl rfl ?_
      refine aw_if_eq (tgt := 165) dX12_laysGreedy_24 (by decide) (fun hc15 => ?_) (fun hc15 => ?_)
      · have hf := ax_pos hc15 hf
        refine aw_less (L' := [none, none, none, none, none, none, none]) trivial ?_
        cases hf
        exact hK
      · have hf := ax_neg hc15 hf
        refine aw_iconst (v := -1) dX12_laysGreedy_27 (by decide) ?_
        refine aw_istore_n (L' := [some (.ref 58), some (.int a23.1), some (.int (-1 : Int32)), none, none, none, none]) dX12_laysGreedy_28 rfl (by decide) rfl ?_
        refine aw_iconst (v := -1) dX12_laysGreedy_29 (by decide) ?_
        refine aw_istore_n (L' := [some (.ref 58), some (.int a23.1), some (.int (-1 : Int32)), some (.int (-1 : Int32)), none, none, none]) dX12_laysGreedy_30 rfl (by decide) rfl ?_
        refine aw_iconst (v := 0) dX12_laysGreedy_31 (by decide) ?_
        refine aw_istore (L' := [some (.ref 58), some (.int a23.1), some (.int (-1 : Int32)), some (.int (-1 : Int32)), some (.int (0 : Int32)), none, none]) dX12_laysGreedy_32 (by decide) rfl ?_
        refine aw_less (L' := [some (.ref 58), none, some (.int (-1 : Int32)), some (.int (-1 : Int32)), some (.int (0 : Int32)), none, none]) (And.intro rfl (And.intro rfl (And.intro rfl (And.intro rfl trivial)))) ?_
        obtain ⟨b9, hb9, hf⟩ := ax_bind hf
        refine wh_go ((-1 : Int32), (-1 : Int32), (0 : Int32), a23.2) (fun a34 : Int32 × Int32 × Int32 × sx_M => AW l X RX12 "laysGreedy" cX12_laysGreedy 7 none (ax_rm 2 0 0) (ax_MQ X Q 0 0) 0 0 34 [some (.ref 58), none, some (.int a34.1), some (.int a34.2.1), some (.int a34.2.2.1), none, none] [] (hp a34.2.2.2 gb)) (fun e : Int32 × Int32 × sx_M => AW l X RX12 "laysGreedy" cX12_laysGreedy 7 none (ax_rm 2 0 0) (ax_MQ X Q 0 0) 0 0 140 [some (.ref 58), none, some (.int e.1), some (.int e.2.1), none, none, none] [] (hp e.2.2 gb)) hb9 ?_ ?_
        · intro a34 r hf hK
          unfold f_X12_laysGreedy_L34 at hf
          refine aw_iload dX12_laysGreedy_34 rfl ?_
          refine aw_aload_n dX12_laysGreedy_36 rfl rfl ?_
          obtain ⟨p2, hp2, hf⟩ := ax_bind hf
          refine aw_cVi (As := []) (st := [.int a34.2.2.1]) dX12_laysGreedy_37 cl_X12_60 iv_X12_workers (k_X12_workers (Q := (fun v h' => v = some (.int p2.1) ∧ h' = hp p2.2 gb)) a34.2.2.2 gb hp2 ⟨rfl, rfl⟩) (ci := 12) rfl (hp_get sh_58) rfl rfl rfl (Nat.le_of_ble_eq_true rfl) rfl (by decide) (by decide) ?_
          refine aw_icmp_ge (tgt := 140) dX12_laysGreedy_40 (by decide) (fun hc13 => ?_) (fun hc13 => ?_)
          · have hf := ax_pos hc13 hf
            refine aw_less (L' := [some (.ref 58), none, some (.int a34.1), some (.int a34.2.1), none, none, none]) (And.intro rfl (And.intro rfl (And.intro rfl trivial))) ?_
            cases hf
            exact hK
          · have hf := ax_neg hc13 hf
            refine aw_iconst (v := 0) dX12_laysGreedy_43 (by decide) ?_
            refine aw_istore (L' := [some (.ref 58), none, some (.int a34.1), some (.int a34.2.1), some (.int a34.2.2.1), some (.int (0 : Int32)), none]) dX12_laysGreedy_44 (by decide) rfl ?_
            obtain ⟨b8, hb8, hf⟩ := ax_bind hf
            refine wh_go (a34.1, a34.2.1, (0 : Int32), p2.2) (fun a46 : Int32 × Int32 × Int32 × sx_M => AW l X RX12 "laysGreedy" cX12_laysGreedy 7 none (ax_rm 2 0 0) (ax_MQ X Q 0 0) 0 0 46 [some (.ref 58), none, some (.int a46.1), some (.int a46.2.1), some (.int a34.2.2.1), some (.int a46.2.2.1), none] [] (hp a46.2.2.2 gb)) (fun e : Int32 × Int32 × sx_M => AW l X RX12 "laysGreedy" cX12_laysGreedy 7 none (ax_rm 2 0 0) (ax_MQ X Q 0 0) 0 0 134 [some (.ref 58), none, some (.int e.1), some (.int e.2.1), some (.int a34.2.2.1), none, none] [] (hp e.2.2 gb)) hb8 ?_ ?_
            · intro a46 r hf hK
              unfold f_X12_laysGreedy_L46 at hf
              have J122 : ∀ (y5_122 : Int32) (s_122 : sx_M), f_X12_laysGreedy_L46_J122 a34.2.2.1 y5_122 s_122 = some r → AW l X RX12 "laysGreedy" cX12_laysGreedy 7 none (ax_rm 2 0 0) (ax_MQ X Q 0 0) 0 0 122 [some (.ref 58), none, none, none, some (.int a34.2.2.1), some (.int y5_122), none] [] (hp s_122 gb) := by
                intro y5_122 s_122 hf
                unfold f_X12_laysGreedy_L46_J122 at hf
                refine aw_iload dX12_laysGreedy_122 rfl ?_
                refine aw_istore_n (L' := [some (.ref 58), none, some (.int a34.2.2.1), none, some (.int a34.2.2.1), some (.int y5_122), none]) dX12_laysGreedy_124 rfl (by decide) rfl ?_
                refine aw_iload dX12_laysGreedy_125 rfl ?_
                refine aw_istore_n (L' := [some (.ref 58), none, some (.int a34.2.2.1), some (.int y5_122), some (.int a34.2.2.1), some (.int y5_122), none]) dX12_laysGreedy_127 rfl (by decide) rfl ?_
                refine aw_iinc (v := (y5_122 + (1 : Int32))) (L' := [some (.ref 58), none, some (.int a34.2.2.1), some (.int y5_122), some (.int a34.2.2.1), some (.int (y5_122 + (1 : Int32))), none]) dX12_laysGreedy_128 rfl rfl (by decide) rfl ?_
                refine aw_goto (tgt := 46) dX12_laysGreedy_131 (by decide) ?_
                cases hf
                exact hK
              have J93 : ∀ (y2_93 : Int32) (y3_93 : Int32) (y5_93 : Int32) (t0_93 : Int32) (s_93 : sx_M), f_X12_laysGreedy_L46_J93 a34.2.2.1 y2_93 y3_93 y5_93 t0_93 s_93 = some r → AW l X RX12 "laysGreedy" cX12_laysGreedy 7 none (ax_rm 2 0 0) (ax_MQ X Q 0 0) 0 0 93 [some (.ref 58), none, some (.int y2_93), some (.int y3_93), some (.int a34.2.2.1), some (.int y5_93), none] [.int t0_93] (hp s_93 gb) := by
                intro y2_93 y3_93 y5_93 t0_93 s_93 hf
                unfold f_X12_laysGreedy_L46_J93 at hf
                refine aw_istore (L' := [some (.ref 58), none, some (.int y2_93), some (.int y3_93), some (.int a34.2.2.1), some (.int y5_93), some (.int t0_93)]) dX12_laysGreedy_93 (by decide) rfl ?_
                refine aw_iload dX12_laysGreedy_95 rfl ?_
                refine aw_if_eq (tgt := 128) dX12_laysGreedy_97 (by decide) (fun hc7 => ?_) (fun hc7 => ?_)
                · have hf := ax_pos hc7 hf
                  refine aw_iinc (v := (y5_93 + (1 : Int32))) (L' := [some (.ref 58), none, some (.int y2_93), some (.int y3_93), some (.int a34.2.2.1), some (.int (y5_93 + (1 : Int32))), some (.int t0_93)]) dX12_laysGreedy_128 rfl rfl (by decide) rfl ?_
                  refine aw_goto (tgt := 46) dX12_laysGreedy_131 (by decide) ?_
                  refine aw_less (L' := [some (.ref 58), none, some (.int y2_93), some (.int y3_93), some (.int a34.2.2.1), some (.int (y5_93 + (1 : Int32))), none]) (And.intro rfl (And.intro rfl (And.intro rfl (And.intro rfl (And.intro rfl trivial))))) ?_
                  cases hf
                  exact hK
                · have hf := ax_neg hc7 hf
                  refine aw_iload_n dX12_laysGreedy_100 rfl rfl ?_
                  refine aw_iconst (v := -1) dX12_laysGreedy_101 (by decide) ?_
                  refine aw_icmp_eq (tgt := 122) dX12_laysGreedy_102 (by decide) (fun hc6 => ?_) (fun hc6 => ?_)
                  · have hf := ax_pos hc6 hf
                    refine aw_less (L' := [some (.ref 58), none, none, none, some (.int a34.2.2.1), some (.int y5_93), none]) (And.intro rfl (And.intro rfl (And.intro rfl trivial))) ?_
                    exact J122 y5_93 s_93 hf
                  · have hf := ax_neg hc6 hf
                    refine aw_aload_n dX12_laysGreedy_105 rfl rfl ?_
                    refine aw_iload dX12_laysGreedy_106 rfl ?_
                    refine aw_iload dX12_laysGreedy_108 rfl ?_
                    obtain ⟨p3, hp3, hf⟩ := ax_bind hf
                    refine aw_cVi (As := [.int a34.2.2.1, .int y5_93]) (st := []) dX12_laysGreedy_110 cl_X12_157 iv_X12_costOf (k_X12_costOf (Q := (fun v h' => v = some (.int p3.1) ∧ h' = hp p3.2 gb)) a34.2.2.1 y5_93 s_93 gb hp3 ⟨rfl, rfl⟩) (ci := 12) rfl (hp_get sh_58) rfl rfl rfl (Nat.le_of_ble_eq_true rfl) rfl (by decide) (by decide) ?_
                    refine aw_aload_n dX12_laysGreedy_113 rfl rfl ?_
                    refine aw_iload_n dX12_laysGreedy_114 rfl rfl ?_
                    refine aw_iload_n dX12_laysGreedy_115 rfl rfl ?_
                    obtain ⟨p4, hp4, hf⟩ := ax_bind hf
                    refine aw_cVi (As := [.int y2_93, .int y3_93]) (st := [.int p3.1]) dX12_laysGreedy_116 cl_X12_157 iv_X12_costOf (k_X12_costOf (Q := (fun v h' => v = some (.int p4.1) ∧ h' = hp p4.2 gb)) y2_93 y3_93 p3.2 gb hp4 ⟨rfl, rfl⟩) (ci := 12) rfl (hp_get sh_58) rfl rfl rfl (Nat.le_of_ble_eq_true rfl) rfl (by decide) (by decide) ?_
                    refine aw_icmp_ge (tgt := 128) dX12_laysGreedy_119 (by decide) (fun hc5 => ?_) (fun hc5 => ?_)
                    · have hf := ax_pos hc5 hf
                      refine aw_iinc (v := (y5_93 + (1 : Int32))) (L' := [some (.ref 58), none, some (.int y2_93), some (.int y3_93), some (.int a34.2.2.1), some (.int (y5_93 + (1 : Int32))), some (.int t0_93)]) dX12_laysGreedy_128 rfl rfl (by decide) rfl ?_
                      refine aw_goto (tgt := 46) dX12_laysGreedy_131 (by decide) ?_
                      refine aw_less (L' := [some (.ref 58), none, some (.int y2_93), some (.int y3_93), some (.int a34.2.2.1), some (.int (y5_93 + (1 : Int32))), none]) (And.intro rfl (And.intro rfl (And.intro rfl (And.intro rfl (And.intro rfl trivial))))) ?_
                      cases hf
                      exact hK
                    · have hf := ax_neg hc5 hf
                      refine aw_less (L' := [some (.ref 58), none, none, none, some (.int a34.2.2.1), some (.int y5_93), none]) (And.intro rfl (And.intro rfl (And.intro rfl trivial))) ?_
                      exact J122 y5_93 p4.2 hf
              refine aw_iload dX12_laysGreedy_46 rfl ?_
              refine aw_aload_n dX12_laysGreedy_48 rfl rfl ?_
              obtain ⟨p5, hp5, hf⟩ := ax_bind hf
              refine aw_cVi (As := []) (st := [.int a46.2.2.1]) dX12_laysGreedy_49 cl_X12_68 iv_X12_jobs (k_X12_jobs (Q := (fun v h' => v = some (.int p5.1) ∧ h' = hp p5.2 gb)) a46.2.2.2 gb hp5 ⟨rfl, rfl⟩) (ci := 12) rfl (hp_get sh_58) rfl rfl rfl (Nat.le_of_ble_eq_true rfl) rfl (by decide) (by decide) ?_
              refine aw_icmp_ge (tgt := 134) dX12_laysGreedy_52 (by decide) (fun hc12 => ?_) (fun hc12 => ?_)
              · have hf := ax_pos hc12 hf
                refine aw_less (L' := [some (.ref 58), none, some (.int a46.1), some (.int a46.2.1), some (.int a34.2.2.1), none, none]) (And.intro rfl (And.intro rfl (And.intro rfl (And.intro rfl trivial)))) ?_
                cases hf
                exact hK
              · have hf := ax_neg hc12 hf
                refine aw_aload_n dX12_laysGreedy_55 rfl rfl ?_
                refine aw_gR dX12_laysGreedy_56 fl_X12_43 sh_58 rfl ?_
                refine aw_iload dX12_laysGreedy_59 rfl ?_
                obtain ⟨hc8, hf⟩ := ax_ite hf
                refine aw_lA dX12_laysGreedy_61 sh_67 hc8 ?_
                refine aw_iconst (v := -1) dX12_laysGreedy_62 (by decide) ?_
                refine aw_icmp_ne (tgt := 92) dX12_laysGreedy_63 (by decide) (fun hc11 => ?_) (fun hc11 => ?_)
                · have hf := ax_neg hc11 hf
                  refine aw_iconst (v := 0) dX12_laysGreedy_92 (by decide) ?_
                  exact J93 a46.1 a46.2.1 a46.2.2.1 (0 : Int32) p5.2 hf
                · have hf := ax_pos hc11 hf
                  refine aw_aload_n dX12_laysGreedy_66 rfl rfl ?_
                  refine aw_iload dX12_laysGreedy_67 rfl ?_
                  obtain ⟨p6, hp6, hf⟩ := ax_bind hf
                  refine aw_cVi (As := [.int a46.2.2.1]) (st := []) dX12_laysGreedy_69 cl_X12_238 iv_X12_isTaken (k_X12_isTaken (Q := (fun v h' => v = some (.int p6.1) ∧ h' = hp p6.2 gb)) a46.2.2.1 p5.2 gb hp6 ⟨rfl, rfl⟩) (ci := 12) rfl (hp_get sh_58) rfl rfl rfl (Nat.le_of_ble_eq_true rfl) rfl (by decide) (by decide) ?_
                  refine aw_if_ne (tgt := 92) dX12_laysGreedy_72 (by decide) (fun hc10 => ?_) (fun hc10 => ?_)
                  · have hf := ax_neg hc10 hf
                    refine aw_iconst (v := 0) dX12_laysGreedy_92 (by decide) ?_
                    exact J93 a46.1 a46.2.1 a46.2.2.1 (0 : Int32) p6.2 hf
                  · have hf := ax_pos hc10 hf
                    refine aw_aload_n dX12_laysGreedy_75 rfl rfl ?_
                    refine aw_iload dX12_laysGreedy_76 rfl ?_
                    refine aw_iload dX12_laysGreedy_78 rfl ?_
                    obtain ⟨p7, hp7, hf⟩ := ax_bind hf
                    refine aw_cVi (As := [.int a34.2.2.1, .int a46.2.2.1]) (st := []) dX12_laysGreedy_80 cl_X12_157 iv_X12_costOf (k_X12_costOf (Q := (fun v h' => v = some (.int p7.1) ∧ h' = hp p7.2 gb)) a34.2.2.1 a46.2.2.1 p6.2 gb hp7 ⟨rfl, rfl⟩) (ci := 12) rfl (hp_get sh_58) rfl rfl rfl (Nat.le_of_ble_eq_true rfl) rfl (by decide) (by decide) ?_
                    refine aw_ldc dX12_laysGreedy_83 kc_X12_131 ?_
                    refine aw_icmp_eq (tgt := 92) dX12_laysGreedy_85 (by decide) (fun hc9 => ?_) (fun hc9 => ?_)
                    · have hf := ax_pos hc9 hf
                      refine aw_iconst (v := 0) dX12_laysGreedy_92 (by decide) ?_
                      exact J93 a46.1 a46.2.1 a46.2.2.1 (0 : Int32) p7.2 hf
                    · have hf := ax_neg hc9 hf
                      refine aw_iconst (v := 1) dX12_laysGreedy_88 (by decide) ?_
                      refine aw_goto (tgt := 93) dX12_laysGreedy_89 (by decide) ?_
                      exact J93 a46.1 a46.2.1 a46.2.2.1 (1 : Int32) p7.2 hf
            · refine aw_iinc (v := (a34.2.2.1 + (1 : Int32))) (L' := [some (.ref 58), none, some (.int b8.1), some (.int b8.2.1), some (.int (a34.2.2.1 + (1 : Int32))), none, none]) dX12_laysGreedy_134 rfl rfl (by decide) rfl ?_
              refine aw_goto (tgt := 34) dX12_laysGreedy_137 (by decide) ?_
              cases hf
              exact hK
        · refine aw_iload_n dX12_laysGreedy_140 rfl rfl ?_
          refine aw_iconst (v := -1) dX12_laysGreedy_141 (by decide) ?_
          refine aw_icmp_eq (tgt := 149) dX12_laysGreedy_142 (by decide) (fun hc14 => ?_) (fun hc14 => ?_)
          · have hf := ax_pos hc14 hf
            refine aw_iconst (v := 0) dX12_laysGreedy_149 (by decide) ?_
            exact J150 b9.1 b9.2.1 (0 : Int32) b9.2.2 hf
          · have hf := ax_neg hc14 hf
            refine aw_iconst (v := 1) dX12_laysGreedy_145 (by decide) ?_
            refine aw_goto (tgt := 150) dX12_laysGreedy_146 (by decide) ?_
            exact J150 b9.1 b9.2.1 (1 : Int32) b9.2.2 hf
    · cases hf
      exact aw_vret dX12_laysGreedy_165 hq (Nat.le_refl _) (Nat.le_refl _)
noncomputable def f_X12_hasMany_L4_J28 (y2_28 : Int32) (t0_28 : Int32) (t1_28 : Int32) (s_28 : sx_M) : Option ((Int32 × Int32 × sx_M) ⊕ (Int32 × sx_M)) :=
  some (.inl ((t0_28 + t1_28), (y2_28 + (1 : Int32)), s_28))
noncomputable def f_X12_hasMany_L4 (a4 : Int32 × Int32 × sx_M) : Option ((Int32 × Int32 × sx_M) ⊕ (Int32 × sx_M)) :=
  (f_X12_workers a4.2.2).bind (fun p1 =>
 (if p1.1 ≤ a4.2.1 then
 some (.inr (a4.1, p1.2))
else
 (if ¬ (a4.2.1 < 0 ∨ 7 ≤ (a4.2.1).toNatClampNeg) then
 (if (rA p1.2 67 (a4.2.1).toNatClampNeg) = (-1 : Int32) then
 f_X12_hasMany_L4_J28 a4.2.1 a4.1 (0 : Int32) p1.2
else
 f_X12_hasMany_L4_J28 a4.2.1 a4.1 (1 : Int32) p1.2)
else none)))
noncomputable def f_X12_hasMany (s : sx_M) : Option (Int32 × sx_M) :=
  (whT (f_X12_hasMany_L4) ((0 : Int32), (0 : Int32), s)).bind (fun b2 =>
 some (b2.1, b2.2))
set_option maxRecDepth 100000 in
set_option maxHeartbeats 4000000 in
theorem k_X12_hasMany {l : Launch} {X : ax_X} {Q : Option Value → ax_H → Prop} (s : sx_M) (gb : ax_H) {p : Int32 × sx_M} (hf : f_X12_hasMany s = some p) (hq : Q (some (.int p.1)) (hp p.2 gb)) : AM l X yX12_hasMany cX12_hasMany 3 (some .int) 1 0 0 [.ref 58] (hp s gb) Q := by
  refine aw_met (own := RX12) (nm := "hasMany") (L := [some (.ref 58), none, none]) (by decide +kernel) rfl rfl (And.intro rfl trivial) (Nat.le_of_ble_eq_true rfl) ?_
  unfold f_X12_hasMany at hf
  refine aw_iconst (v := 0) dX12_hasMany_0 (by decide) ?_
  refine aw_istore_n (L' := [some (.ref 58), some (.int (0 : Int32)), none]) dX12_hasMany_1 rfl (by decide) rfl ?_
  refine aw_iconst (v := 0) dX12_hasMany_2 (by decide) ?_
  refine aw_istore_n (L' := [some (.ref 58), some (.int (0 : Int32)), some (.int (0 : Int32))]) dX12_hasMany_3 rfl (by decide) rfl ?_
  obtain ⟨b2, hb2, hf⟩ := ax_bind hf
  refine wh_go ((0 : Int32), (0 : Int32), s) (fun a4 : Int32 × Int32 × sx_M => AW l X RX12 "hasMany" cX12_hasMany 3 (some .int) (ax_rm 1 0 0) (ax_MQ X Q 0 0) 0 0 4 [some (.ref 58), some (.int a4.1), some (.int a4.2.1)] [] (hp a4.2.2 gb)) (fun e : Int32 × sx_M => AW l X RX12 "hasMany" cX12_hasMany 3 (some .int) (ax_rm 1 0 0) (ax_MQ X Q 0 0) 0 0 36 [none, some (.int e.1), none] [] (hp e.2 gb)) hb2 ?_ ?_
  · intro a4 r hf hK
    unfold f_X12_hasMany_L4 at hf
    have J28 : ∀ (y2_28 : Int32) (t0_28 : Int32) (t1_28 : Int32) (s_28 : sx_M), f_X12_hasMany_L4_J28 y2_28 t0_28 t1_28 s_28 = some r → AW l X RX12 "hasMany" cX12_hasMany 3 (some .int) (ax_rm 1 0 0) (ax_MQ X Q 0 0) 0 0 28 [some (.ref 58), none, some (.int y2_28)] [.int t1_28, .int t0_28] (hp s_28 gb) := by
      intro y2_28 t0_28 t1_28 s_28 hf
      unfold f_X12_hasMany_L4_J28 at hf
      refine aw_iadd dX12_hasMany_28 ?_
      refine aw_istore_n (L' := [some (.ref 58), some (.int (t0_28 + t1_28)), some (.int y2_28)]) dX12_hasMany_29 rfl (by decide) rfl ?_
      refine aw_iinc (v := (y2_28 + (1 : Int32))) (L' := [some (.ref 58), some (.int (t0_28 + t1_28)), some (.int (y2_28 + (1 : Int32)))]) dX12_hasMany_30 rfl rfl (by decide) rfl ?_
      refine aw_goto (tgt := 4) dX12_hasMany_33 (by decide) ?_
      cases hf
      exact hK
    refine aw_iload_n dX12_hasMany_4 rfl rfl ?_
    refine aw_aload_n dX12_hasMany_5 rfl rfl ?_
    obtain ⟨p1, hp1, hf⟩ := ax_bind hf
    refine aw_cVi (As := []) (st := [.int a4.2.1]) dX12_hasMany_6 cl_X12_60 iv_X12_workers (k_X12_workers (Q := (fun v h' => v = some (.int p1.1) ∧ h' = hp p1.2 gb)) a4.2.2 gb hp1 ⟨rfl, rfl⟩) (ci := 12) rfl (hp_get sh_58) rfl rfl rfl (Nat.le_of_ble_eq_true rfl) rfl (by decide) (by decide) ?_
    refine aw_icmp_ge (tgt := 36) dX12_hasMany_9 (by decide) (fun hc3 => ?_) (fun hc3 => ?_)
    · have hf := ax_pos hc3 hf
      refine aw_less (L' := [none, some (.int a4.1), none]) (And.intro rfl trivial) ?_
      cases hf
      exact hK
    · have hf := ax_neg hc3 hf
      refine aw_iload_n dX12_hasMany_12 rfl rfl ?_
      refine aw_aload_n dX12_hasMany_13 rfl rfl ?_
      refine aw_gR dX12_hasMany_14 fl_X12_43 sh_58 rfl ?_
      refine aw_iload_n dX12_hasMany_17 rfl rfl ?_
      obtain ⟨hc1, hf⟩ := ax_ite hf
      refine aw_lA dX12_hasMany_18 sh_67 hc1 ?_
      refine aw_iconst (v := -1) dX12_hasMany_19 (by decide) ?_
      refine aw_icmp_ne (tgt := 27) dX12_hasMany_20 (by decide) (fun hc2 => ?_) (fun hc2 => ?_)
      · have hf := ax_neg hc2 hf
        refine aw_iconst (v := 1) dX12_hasMany_27 (by decide) ?_
        refine aw_less (L' := [some (.ref 58), none, some (.int a4.2.1)]) (And.intro rfl (And.intro rfl trivial)) ?_
        exact J28 a4.2.1 a4.1 (1 : Int32) p1.2 hf
      · have hf := ax_pos hc2 hf
        refine aw_iconst (v := 0) dX12_hasMany_23 (by decide) ?_
        refine aw_goto (tgt := 28) dX12_hasMany_24 (by decide) ?_
        refine aw_less (L' := [some (.ref 58), none, some (.int a4.2.1)]) (And.intro rfl (And.intro rfl trivial)) ?_
        exact J28 a4.2.1 a4.1 (0 : Int32) p1.2 hf
  · refine aw_iload_n dX12_hasMany_36 rfl rfl ?_
    cases hf
    exact aw_iret dX12_hasMany_37 hq (Nat.le_refl _) (Nat.le_refl _)
noncomputable def f_X12_hasSum_L4_J39 (y3_39 : Int32) (t0_39 : Int64) (t1_39 : Int64) (s_39 : sx_M) : Option ((Int64 × Int32 × sx_M) ⊕ (Int64 × sx_M)) :=
  some (.inl ((t0_39 + t1_39), (y3_39 + (1 : Int32)), s_39))
noncomputable def f_X12_hasSum_L4 (a4 : Int64 × Int32 × sx_M) : Option ((Int64 × Int32 × sx_M) ⊕ (Int64 × sx_M)) :=
  (f_X12_workers a4.2.2).bind (fun p1 =>
 (if p1.1 ≤ a4.2.1 then
 some (.inr (a4.1, p1.2))
else
 (if ¬ (a4.2.1 < 0 ∨ 7 ≤ (a4.2.1).toNatClampNeg) then
 (if (rA p1.2 67 (a4.2.1).toNatClampNeg) = (-1 : Int32) then
 f_X12_hasSum_L4_J39 a4.2.1 a4.1 (0 : Int64) p1.2
else
 (if ¬ (a4.2.1 < 0 ∨ 7 ≤ (a4.2.1).toNatClampNeg) then
 (f_X12_costOf a4.2.1 (rA p1.2 67 (a4.2.1).toNatClampNeg) p1.2).bind (fun p2 =>
 f_X12_hasSum_L4_J39 a4.2.1 a4.1 ((p2.1).toInt64) p2.2)
else none))
else none)))
noncomputable def f_X12_hasSum (s : sx_M) : Option (Int64 × sx_M) :=
  (whT (f_X12_hasSum_L4) ((0 : Int64), (0 : Int32), s)).bind (fun b3 =>
 some (b3.1, b3.2))
set_option maxRecDepth 100000 in
set_option maxHeartbeats 4000000 in
theorem k_X12_hasSum {l : Launch} {X : ax_X} {Q : Option Value → ax_H → Prop} (s : sx_M) (gb : ax_H) {p : Int64 × sx_M} (hf : f_X12_hasSum s = some p) (hq : Q (some (.long p.1)) (hp p.2 gb)) : AM l X yX12_hasSum cX12_hasSum 4 (some .long) 2 0 0 [.ref 58] (hp s gb) Q := by
  refine aw_met (own := RX12) (nm := "hasSum") (L := [some (.ref 58), none, none, none]) (by decide +kernel) rfl rfl (And.intro rfl trivial) (Nat.le_of_ble_eq_true rfl) ?_
  unfold f_X12_hasSum at hf
  refine aw_lconst (v := 0) dX12_hasSum_0 (by decide) ?_
  refine aw_lstore_n (L' := [some (.ref 58), some (.long (0 : Int64)), none, none]) dX12_hasSum_1 rfl (by decide) rfl ?_
  refine aw_iconst (v := 0) dX12_hasSum_2 (by decide) ?_
  refine aw_istore_n (L' := [some (.ref 58), some (.long (0 : Int64)), none, some (.int (0 : Int32))]) dX12_hasSum_3 rfl (by decide) rfl ?_
  obtain ⟨b3, hb3, hf⟩ := ax_bind hf
  refine wh_go ((0 : Int64), (0 : Int32), s) (fun a4 : Int64 × Int32 × sx_M => AW l X RX12 "hasSum" cX12_hasSum 4 (some .long) (ax_rm 2 0 0) (ax_MQ X Q 0 0) 0 0 4 [some (.ref 58), some (.long a4.1), none, some (.int a4.2.1)] [] (hp a4.2.2 gb)) (fun e : Int64 × sx_M => AW l X RX12 "hasSum" cX12_hasSum 4 (some .long) (ax_rm 2 0 0) (ax_MQ X Q 0 0) 0 0 47 [none, some (.long e.1), none, none] [] (hp e.2 gb)) hb3 ?_ ?_
  · intro a4 r hf hK
    unfold f_X12_hasSum_L4 at hf
    have J39 : ∀ (y3_39 : Int32) (t0_39 : Int64) (t1_39 : Int64) (s_39 : sx_M), f_X12_hasSum_L4_J39 y3_39 t0_39 t1_39 s_39 = some r → AW l X RX12 "hasSum" cX12_hasSum 4 (some .long) (ax_rm 2 0 0) (ax_MQ X Q 0 0) 0 0 39 [some (.ref 58), none, none, some (.int y3_39)] [.long t1_39, .long t0_39] (hp s_39 gb) := by
      intro y3_39 t0_39 t1_39 s_39 hf
      unfold f_X12_hasSum_L4_J39 at hf
      refine aw_ladd dX12_hasSum_39 ?_
      refine aw_lstore_n (L' := [some (.ref 58), some (.long (t0_39 + t1_39)), none, some (.int y3_39)]) dX12_hasSum_40 rfl (by decide) rfl ?_
      refine aw_iinc (v := (y3_39 + (1 : Int32))) (L' := [some (.ref 58), some (.long (t0_39 + t1_39)), none, some (.int (y3_39 + (1 : Int32)))]) dX12_hasSum_41 rfl rfl (by decide) rfl ?_
      refine aw_goto (tgt := 4) dX12_hasSum_44 (by decide) ?_
      cases hf
      exact hK
    refine aw_iload_n dX12_hasSum_4 rfl rfl ?_
    refine aw_aload_n dX12_hasSum_5 rfl rfl ?_
    obtain ⟨p1, hp1, hf⟩ := ax_bind hf
    refine aw_cVi (As := []) (st := [.int a4.2.1]) dX12_hasSum_6 cl_X12_60 iv_X12_workers (k_X12_workers (Q := (fun v h' => v = some (.int p1.1) ∧ h' = hp p1.2 gb)) a4.2.2 gb hp1 ⟨rfl, rfl⟩) (ci := 12) rfl (hp_get sh_58) rfl rfl rfl (Nat.le_of_ble_eq_true rfl) rfl (by decide) (by decide) ?_
    refine aw_icmp_ge (tgt := 47) dX12_hasSum_9 (by decide) (fun hc4 => ?_) (fun hc4 => ?_)
    · have hf := ax_pos hc4 hf
      refine aw_less (L' := [none, some (.long a4.1), none, none]) (And.intro rfl trivial) ?_
      cases hf
      exact hK
    · have hf := ax_neg hc4 hf
      refine aw_lload_n dX12_hasSum_12 rfl rfl ?_
      refine aw_aload_n dX12_hasSum_13 rfl rfl ?_
      refine aw_gR dX12_hasSum_14 fl_X12_43 sh_58 rfl ?_
      refine aw_iload_n dX12_hasSum_17 rfl rfl ?_
      obtain ⟨hc1, hf⟩ := ax_ite hf
      refine aw_lA dX12_hasSum_18 sh_67 hc1 ?_
      refine aw_iconst (v := -1) dX12_hasSum_19 (by decide) ?_
      refine aw_icmp_ne (tgt := 27) dX12_hasSum_20 (by decide) (fun hc3 => ?_) (fun hc3 => ?_)
      · have hf := ax_neg hc3 hf
        refine aw_aload_n dX12_hasSum_27 rfl rfl ?_
        refine aw_iload_n dX12_hasSum_28 rfl rfl ?_
        refine aw_aload_n dX12_hasSum_29 rfl rfl ?_
        refine aw_gR dX12_hasSum_30 fl_X12_43 sh_58 rfl ?_
        refine aw_iload_n dX12_hasSum_33 rfl rfl ?_
        obtain ⟨hc2, hf⟩ := ax_ite hf
        refine aw_lA dX12_hasSum_34 sh_67 hc2 ?_
        obtain ⟨p2, hp2, hf⟩ := ax_bind hf
        refine aw_cVi (As := [.int a4.2.1, .int (rA p1.2 67 (a4.2.1).toNatClampNeg)]) (st := [.long a4.1]) dX12_hasSum_35 cl_X12_157 iv_X12_costOf (k_X12_costOf (Q := (fun v h' => v = some (.int p2.1) ∧ h' = hp p2.2 gb)) a4.2.1 (rA p1.2 67 (a4.2.1).toNatClampNeg) p1.2 gb hp2 ⟨rfl, rfl⟩) (ci := 12) rfl (hp_get sh_58) rfl rfl rfl (Nat.le_of_ble_eq_true rfl) rfl (by decide) (by decide) ?_
        refine aw_i2l dX12_hasSum_38 ?_
        refine aw_less (L' := [some (.ref 58), none, none, some (.int a4.2.1)]) (And.intro rfl (And.intro rfl trivial)) ?_
        exact J39 a4.2.1 a4.1 ((p2.1).toInt64) p2.2 hf
      · have hf := ax_pos hc3 hf
        refine aw_lconst (v := 0) dX12_hasSum_23 (by decide) ?_
        refine aw_goto (tgt := 39) dX12_hasSum_24 (by decide) ?_
        refine aw_less (L' := [some (.ref 58), none, none, some (.int a4.2.1)]) (And.intro rfl (And.intro rfl trivial)) ?_
        exact J39 a4.2.1 a4.1 (0 : Int64) p1.2 hf
  · refine aw_lload_n dX12_hasSum_47 rfl rfl ?_
    cases hf
    exact aw_lret dX12_hasSum_48 hq (Nat.le_refl _) (Nat.le_refl _)
noncomputable def f_X12_greedy (x1 : Int32) (s : sx_M) : Option (Int64 × sx_M) :=
  (f_X12_laysGreedy s).bind (fun p1 =>
 (if x1 = 0 then
 (f_X12_hasSum p1).bind (fun p3 =>
 some (p3.1, p3.2))
else
 (if x1 = (1 : Int32) then
 (f_X12_hasMany p1).bind (fun p2 =>
 some ((p2.1).toInt64, p2.2))
else
 some ((-9223372036854775808 : Int64), p1))))
set_option maxRecDepth 100000 in
set_option maxHeartbeats 4000000 in
theorem k_X12_greedy {l : Launch} {X : ax_X} {Q : Option Value → ax_H → Prop} (x1 : Int32) (s : sx_M) (gb : ax_H) {p : Int64 × sx_M} (hf : f_X12_greedy x1 s = some p) (hq : Q (some (.long p.1)) (hp p.2 gb)) : AM l X yX12_greedy cX12_greedy 2 (some .long) 3 0 0 [.ref 58, .int x1] (hp s gb) Q := by
  refine aw_met (own := RX12) (nm := "greedy") (L := [some (.ref 58), some (.int x1)]) (by decide +kernel) rfl rfl (And.intro rfl (And.intro rfl trivial)) (Nat.le_of_ble_eq_true rfl) ?_
  unfold f_X12_greedy at hf
  refine aw_aload_n dX12_greedy_0 rfl rfl ?_
  obtain ⟨p1, hp1, hf⟩ := ax_bind hf
  refine aw_cVv (As := []) (st := []) dX12_greedy_1 cl_X12_241 iv_X12_laysGreedy (k_X12_laysGreedy (Q := (fun v h' => v = none ∧ h' = hp p1 gb)) s gb hp1 ⟨rfl, rfl⟩) (ci := 12) rfl (hp_get sh_58) rfl rfl rfl (Nat.le_of_ble_eq_true rfl) rfl (by decide) (by decide) ?_
  refine aw_iload_n dX12_greedy_4 rfl rfl ?_
  refine aw_if_ne (tgt := 15) dX12_greedy_5 (by decide) (fun hc2 => ?_) (fun hc2 => ?_)
  · have hf := ax_neg hc2 hf
    refine aw_iload_n dX12_greedy_15 rfl rfl ?_
    refine aw_iconst (v := 1) dX12_greedy_16 (by decide) ?_
    refine aw_icmp_ne (tgt := 28) dX12_greedy_17 (by decide) (fun hc1 => ?_) (fun hc1 => ?_)
    · have hf := ax_neg hc1 hf
      refine aw_ldc2 dX12_greedy_28 kc_X12_197 ?_
      cases hf
      exact aw_lret dX12_greedy_31 hq (Nat.le_refl _) (Nat.le_refl _)
    · have hf := ax_pos hc1 hf
      refine aw_aload_n dX12_greedy_20 rfl rfl ?_
      obtain ⟨p2, hp2, hf⟩ := ax_bind hf
      refine aw_cVi (As := []) (st := []) dX12_greedy_21 cl_X12_248 iv_X12_hasMany (k_X12_hasMany (Q := (fun v h' => v = some (.int p2.1) ∧ h' = hp p2.2 gb)) p1 gb hp2 ⟨rfl, rfl⟩) (ci := 12) rfl (hp_get sh_58) rfl rfl rfl (Nat.le_of_ble_eq_true rfl) rfl (by decide) (by decide) ?_
      refine aw_i2l dX12_greedy_24 ?_
      refine aw_goto (tgt := 31) dX12_greedy_25 (by decide) ?_
      cases hf
      exact aw_lret dX12_greedy_31 hq (Nat.le_refl _) (Nat.le_refl _)
  · have hf := ax_pos hc2 hf
    refine aw_aload_n dX12_greedy_8 rfl rfl ?_
    obtain ⟨p3, hp3, hf⟩ := ax_bind hf
    refine aw_cVl (As := []) (st := []) dX12_greedy_9 cl_X12_244 iv_X12_hasSum (k_X12_hasSum (Q := (fun v h' => v = some (.long p3.1) ∧ h' = hp p3.2 gb)) p1 gb hp3 ⟨rfl, rfl⟩) (ci := 12) rfl (hp_get sh_58) rfl rfl rfl (Nat.le_of_ble_eq_true rfl) rfl (by decide) (by decide) ?_
    refine aw_goto (tgt := 31) dX12_greedy_12 (by decide) ?_
    cases hf
    exact aw_lret dX12_greedy_31 hq (Nat.le_refl _) (Nat.le_refl _)
noncomputable def f_X12_greedyJob (x1 : Int32) (s : sx_M) : Option (Int32 × sx_M) :=
  (f_X12_isWorker x1 s).bind (fun p1 =>
 (if p1.1 = 0 then
 some ((-2 : Int32), p1.2)
else
 (f_X12_laysGreedy p1.2).bind (fun p2 =>
 (if ¬ (x1 < 0 ∨ 7 ≤ (x1).toNatClampNeg) then
 some ((rA p2 67 (x1).toNatClampNeg), p2)
else none))))
set_option maxRecDepth 100000 in
set_option maxHeartbeats 4000000 in
theorem k_X12_greedyJob {l : Launch} {X : ax_X} {Q : Option Value → ax_H → Prop} (x1 : Int32) (s : sx_M) (gb : ax_H) {p : Int32 × sx_M} (hf : f_X12_greedyJob x1 s = some p) (hq : Q (some (.int p.1)) (hp p.2 gb)) : AM l X yX12_greedyJob cX12_greedyJob 2 (some .int) 3 0 0 [.ref 58, .int x1] (hp s gb) Q := by
  refine aw_met (own := RX12) (nm := "greedyJob") (L := [some (.ref 58), some (.int x1)]) (by decide +kernel) rfl rfl (And.intro rfl (And.intro rfl trivial)) (Nat.le_of_ble_eq_true rfl) ?_
  unfold f_X12_greedyJob at hf
  refine aw_aload_n dX12_greedyJob_0 rfl rfl ?_
  refine aw_iload_n dX12_greedyJob_1 rfl rfl ?_
  obtain ⟨p1, hp1, hf⟩ := ax_bind hf
  refine aw_cVi (As := [.int x1]) (st := []) dX12_greedyJob_2 cl_X12_187 iv_X12_isWorker (k_X12_isWorker (Q := (fun v h' => v = some (.int p1.1) ∧ h' = hp p1.2 gb)) x1 s gb hp1 ⟨rfl, rfl⟩) (ci := 12) rfl (hp_get sh_58) rfl rfl rfl (Nat.le_of_ble_eq_true rfl) rfl (by decide) (by decide) ?_
  refine aw_if_ne (tgt := 11) dX12_greedyJob_5 (by decide) (fun hc2 => ?_) (fun hc2 => ?_)
  · have hf := ax_neg hc2 hf
    refine aw_aload_n dX12_greedyJob_11 rfl rfl ?_
    obtain ⟨p2, hp2, hf⟩ := ax_bind hf
    refine aw_cVv (As := []) (st := []) dX12_greedyJob_12 cl_X12_241 iv_X12_laysGreedy (k_X12_laysGreedy (Q := (fun v h' => v = none ∧ h' = hp p2 gb)) p1.2 gb hp2 ⟨rfl, rfl⟩) (ci := 12) rfl (hp_get sh_58) rfl rfl rfl (Nat.le_of_ble_eq_true rfl) rfl (by decide) (by decide) ?_
    refine aw_aload_n dX12_greedyJob_15 rfl rfl ?_
    refine aw_gR dX12_greedyJob_16 fl_X12_43 sh_58 rfl ?_
    refine aw_iload_n dX12_greedyJob_19 rfl rfl ?_
    obtain ⟨hc1, hf⟩ := ax_ite hf
    refine aw_lA dX12_greedyJob_20 sh_67 hc1 ?_
    cases hf
    exact aw_iret dX12_greedyJob_21 hq (Nat.le_refl _) (Nat.le_refl _)
  · have hf := ax_pos hc2 hf
    refine aw_bipush (v := -2) dX12_greedyJob_8 (by decide) ?_
    cases hf
    exact aw_iret dX12_greedyJob_10 hq (Nat.le_refl _) (Nat.le_refl _)
noncomputable def f_X12_offers (x1 : Int32) (x2 : Int32) (x3 : Int32) (x4 : Int32) (s : sx_M) : Option sx_M :=
  (if x1 ≤ (rI s 58 20) then
 some s
else
 (if (x4 = 0 ∨ x4 = 1) then
 some (wI (wI (wI (wI s 58 20 x1) 58 21 x2) 58 22 x3) 58 23 x4)
else none))
set_option maxRecDepth 100000 in
set_option maxHeartbeats 4000000 in
theorem k_X12_offers {l : Launch} {X : ax_X} {Q : Option Value → ax_H → Prop} (x1 : Int32) (x2 : Int32) (x3 : Int32) (x4 : Int32) (s : sx_M) (gb : ax_H) {p : sx_M} (hf : f_X12_offers x1 x2 x3 x4 s = some p) (hq : Q (none) (hp p gb)) : AM l X yX12_offers cX12_offers 5 none 0 0 0 [.ref 58, .int x1, .int x2, .int x3, .int x4] (hp s gb) Q := by
  refine aw_met (own := RX12) (nm := "offers") (L := [some (.ref 58), some (.int x1), some (.int x2), some (.int x3), some (.int x4)]) (by decide +kernel) rfl rfl (And.intro rfl (And.intro rfl (And.intro rfl (And.intro rfl (And.intro rfl trivial))))) (Nat.le_of_ble_eq_true rfl) ?_
  unfold f_X12_offers at hf
  refine aw_iload_n dX12_offers_0 rfl rfl ?_
  refine aw_aload_n dX12_offers_1 rfl rfl ?_
  refine aw_gI dX12_offers_2 fl_X12_251 sh_58 rfl ?_
  refine aw_icmp_le (tgt := 29) dX12_offers_5 (by decide) (fun hc2 => ?_) (fun hc2 => ?_)
  · have hf := ax_pos hc2 hf
    cases hf
    exact aw_vret dX12_offers_29 hq (Nat.le_refl _) (Nat.le_refl _)
  · have hf := ax_neg hc2 hf
    refine aw_aload_n dX12_offers_8 rfl rfl ?_
    refine aw_iload_n dX12_offers_9 rfl rfl ?_
    refine aw_pI dX12_offers_10 fp_X12_251 sh_58 rfl rfl rfl ?_
    refine aw_aload_n dX12_offers_13 rfl rfl ?_
    refine aw_iload_n dX12_offers_14 rfl rfl ?_
    refine aw_pI dX12_offers_15 fp_X12_254 sh_58 rfl rfl rfl ?_
    refine aw_aload_n dX12_offers_18 rfl rfl ?_
    refine aw_iload_n dX12_offers_19 rfl rfl ?_
    refine aw_pI dX12_offers_20 fp_X12_257 sh_58 rfl rfl rfl ?_
    refine aw_aload_n dX12_offers_23 rfl rfl ?_
    refine aw_iload dX12_offers_24 rfl ?_
    obtain ⟨hc1, hf⟩ := ax_ite hf
    refine aw_pI dX12_offers_26 fp_X12_260 sh_58 rfl (ax_nb hc1) (ax_fb hc1) ?_
    cases hf
    exact aw_vret dX12_offers_29 hq (Nat.le_refl _) (Nat.le_refl _)
noncomputable def f_X12_mends_J259 (y1_259 : Int32) (s_259 : sx_M) : Option (Int32 × sx_M) :=
  (if ¬ ((rI s_259 58 21) < 0 ∨ 7 ≤ ((rI s_259 58 21)).toNatClampNeg) then
 some ((1 : Int32), (wA s_259 67 ((rI s_259 58 21)).toNatClampNeg y1_259))
else none)
noncomputable def f_X12_mends_J233 (t0_233 : Int32) (s_233 : sx_M) : Option (Int32 × sx_M) :=
  (if (rI s_233 58 23) = 0 then
 f_X12_mends_J259 t0_233 s_233
else
 (if ¬ ((rI s_233 58 21) < 0 ∨ 7 ≤ ((rI s_233 58 21)).toNatClampNeg) then
 (if ¬ ((rI s_233 58 22) < 0 ∨ 7 ≤ ((rI s_233 58 22)).toNatClampNeg) then
 f_X12_mends_J259 t0_233 (wA s_233 67 ((rI s_233 58 22)).toNatClampNeg (rA s_233 67 ((rI s_233 58 21)).toNatClampNeg))
else none)
else none))
noncomputable def f_X12_mends_L17 (z1 : Int32) (a17 : Int32 × sx_M) : Option ((Int32 × sx_M) ⊕ (sx_M)) :=
  (f_X12_jobs a17.2).bind (fun p2 =>
 (if p2.1 ≤ a17.1 then
 some (.inr p2.2)
else
 (f_X12_isTaken a17.1 p2.2).bind (fun p3 =>
 (if p3.1 = 0 then
 (f_X12_costOf z1 a17.1 p3.2).bind (fun p4 =>
 (if p4.1 = (2147483647 : Int32) then
 some (.inl ((a17.1 + (1 : Int32)), p4.2))
else
 (if ¬ (z1 < 0 ∨ 7 ≤ (z1).toNatClampNeg) then
 (f_X12_costOf z1 (rA p4.2 67 (z1).toNatClampNeg) p4.2).bind (fun p5 =>
 (f_X12_costOf z1 a17.1 p5.2).bind (fun p6 =>
 (f_X12_offers (p5.1 - p6.1) z1 a17.1 (0 : Int32) p6.2).bind (fun p7 =>
 some (.inl ((a17.1 + (1 : Int32)), p7)))))
else none)))
else
 some (.inl ((a17.1 + (1 : Int32)), p3.2))))))
noncomputable def f_X12_mends_L7 (a7 : Int32 × sx_M) : Option ((Int32 × sx_M) ⊕ (sx_M)) :=
  (f_X12_workers a7.2).bind (fun p1 =>
 (if p1.1 ≤ a7.1 then
 some (.inr p1.2)
else
 (whT (f_X12_mends_L17 a7.1) ((0 : Int32), p1.2)).bind (fun b8 =>
 some (.inl ((a7.1 + (1 : Int32)), b8)))))
noncomputable def f_X12_mends_L95 (z1 : Int32) (a95 : Int32 × sx_M) : Option ((Int32 × sx_M) ⊕ (sx_M)) :=
  (f_X12_workers a95.2).bind (fun p11 =>
 (if p11.1 ≤ a95.1 then
 some (.inr p11.2)
else
 (if ¬ (a95.1 < 0 ∨ 7 ≤ (a95.1).toNatClampNeg) then
 (f_X12_costOf z1 (rA p11.2 67 (a95.1).toNatClampNeg) p11.2).bind (fun p12 =>
 (if p12.1 = (2147483647 : Int32) then
 some (.inl ((a95.1 + (1 : Int32)), p12.2))
else
 (if ¬ (z1 < 0 ∨ 7 ≤ (z1).toNatClampNeg) then
 (f_X12_costOf a95.1 (rA p12.2 67 (z1).toNatClampNeg) p12.2).bind (fun p13 =>
 (if p13.1 = (2147483647 : Int32) then
 some (.inl ((a95.1 + (1 : Int32)), p13.2))
else
 (if ¬ (z1 < 0 ∨ 7 ≤ (z1).toNatClampNeg) then
 (f_X12_costOf z1 (rA p13.2 67 (z1).toNatClampNeg) p13.2).bind (fun p14 =>
 (if ¬ (a95.1 < 0 ∨ 7 ≤ (a95.1).toNatClampNeg) then
 (f_X12_costOf a95.1 (rA p14.2 67 (a95.1).toNatClampNeg) p14.2).bind (fun p15 =>
 (if ¬ (a95.1 < 0 ∨ 7 ≤ (a95.1).toNatClampNeg) then
 (f_X12_costOf z1 (rA p15.2 67 (a95.1).toNatClampNeg) p15.2).bind (fun p16 =>
 (if ¬ (z1 < 0 ∨ 7 ≤ (z1).toNatClampNeg) then
 (f_X12_costOf a95.1 (rA p16.2 67 (z1).toNatClampNeg) p16.2).bind (fun p17 =>
 (f_X12_offers (((p14.1 + p15.1) - p16.1) - p17.1) z1 a95.1 (1 : Int32) p17.2).bind (fun p18 =>
 some (.inl ((a95.1 + (1 : Int32)), p18))))
else none))
else none))
else none))
else none)))
else none)))
else none)))
noncomputable def f_X12_mends_L83 (a83 : Int32 × sx_M) : Option ((Int32 × sx_M) ⊕ (sx_M)) :=
  (f_X12_workers a83.2).bind (fun p10 =>
 (if p10.1 ≤ a83.1 then
 some (.inr p10.2)
else
 (whT (f_X12_mends_L95 a83.1) ((a83.1 + (1 : Int32)), p10.2)).bind (fun b19 =>
 some (.inl ((a83.1 + (1 : Int32)), b19)))))
noncomputable def f_X12_mends (s : sx_M) : Option (Int32 × sx_M) :=
  (whT (f_X12_mends_L7) ((0 : Int32), (wI s 58 20 (0 : Int32)))).bind (fun b9 =>
 (whT (f_X12_mends_L83) ((0 : Int32), b9)).bind (fun b20 =>
 (if (rI b20 58 20) = 0 then
 some ((0 : Int32), b20)
else
 (if (rI b20 58 23) = 0 then
 f_X12_mends_J233 (rI b20 58 22) b20
else
 (if ¬ ((rI b20 58 22) < 0 ∨ 7 ≤ ((rI b20 58 22)).toNatClampNeg) then
 f_X12_mends_J233 (rA b20 67 ((rI b20 58 22)).toNatClampNeg) b20
else none)))))
set_option maxRecDepth 100000 in
set_option maxHeartbeats 4000000 in
theorem k_X12_mends {l : Launch} {X : ax_X} {Q : Option Value → ax_H → Prop} (s : sx_M) (gb : ax_H) {p : Int32 × sx_M} (hf : f_X12_mends s = some p) (hq : Q (some (.int p.1)) (hp p.2 gb)) : AM l X yX12_mends cX12_mends 3 (some .boolean) 2 0 0 [.ref 58] (hp s gb) Q := by
  refine aw_met (own := RX12) (nm := "mends") (L := [some (.ref 58), none, none]) (by decide +kernel) rfl rfl (And.intro rfl trivial) (Nat.le_of_ble_eq_true rfl) ?_
  unfold f_X12_mends at hf
  have J259 : ∀ (y1_259 : Int32) (s_259 : sx_M), f_X12_mends_J259 y1_259 s_259 = some p → AW l X RX12 "mends" cX12_mends 3 (some .boolean) (ax_rm 2 0 0) (ax_MQ X Q 0 0) 0 0 259 [some (.ref 58), some (.int y1_259), none] [] (hp s_259 gb) := by
    intro y1_259 s_259 hf
    unfold f_X12_mends_J259 at hf
    refine aw_aload_n dX12_mends_259 rfl rfl ?_
    refine aw_gR dX12_mends_260 fl_X12_43 sh_58 rfl ?_
    refine aw_aload_n dX12_mends_263 rfl rfl ?_
    refine aw_gI dX12_mends_264 fl_X12_254 sh_58 rfl ?_
    refine aw_iload_n dX12_mends_267 rfl rfl ?_
    obtain ⟨hc1, hf⟩ := ax_ite hf
    refine aw_sA dX12_mends_268 sh_67 hc1 ?_
    refine aw_iconst (v := 1) dX12_mends_269 (by decide) ?_
    cases hf
    exact aw_zret dX12_mends_270 (by decide) hq (Nat.le_refl _) (Nat.le_refl _)
  have J233 : ∀ (t0_233 : Int32) (s_233 : sx_M), f_X12_mends_J233 t0_233 s_233 = some p → AW l X RX12 "mends" cX12_mends 3 (some .boolean) (ax_rm 2 0 0) (ax_MQ X Q 0 0) 0 0 233 [some (.ref 58), none, none] [.int t0_233] (hp s_233 gb) := by
    intro t0_233 s_233 hf
    unfold f_X12_mends_J233 at hf
    refine aw_istore_n (L' := [some (.ref 58), some (.int t0_233), none]) dX12_mends_233 rfl (by decide) rfl ?_
    refine aw_aload_n dX12_mends_234 rfl rfl ?_
    refine aw_gI dX12_mends_235 fl_X12_260 sh_58 rfl ?_
    refine aw_if_eq (tgt := 259) dX12_mends_238 (by decide) (fun hc4 => ?_) (fun hc4 => ?_)
    · have hf := ax_pos hc4 hf
      exact J259 t0_233 s_233 hf
    · have hf := ax_neg hc4 hf
      refine aw_aload_n dX12_mends_241 rfl rfl ?_
      refine aw_gR dX12_mends_242 fl_X12_43 sh_58 rfl ?_
      refine aw_aload_n dX12_mends_245 rfl rfl ?_
      refine aw_gI dX12_mends_246 fl_X12_257 sh_58 rfl ?_
      refine aw_aload_n dX12_mends_249 rfl rfl ?_
      refine aw_gR dX12_mends_250 fl_X12_43 sh_58 rfl ?_
      refine aw_aload_n dX12_mends_253 rfl rfl ?_
      refine aw_gI dX12_mends_254 fl_X12_254 sh_58 rfl ?_
      obtain ⟨hc2, hf⟩ := ax_ite hf
      refine aw_lA dX12_mends_257 sh_67 hc2 ?_
      obtain ⟨hc3, hf⟩ := ax_ite hf
      refine aw_sA dX12_mends_258 sh_67 hc3 ?_
      exact J259 t0_233 (wA s_233 67 ((rI s_233 58 22)).toNatClampNeg (rA s_233 67 ((rI s_233 58 21)).toNatClampNeg)) hf
  refine aw_aload_n dX12_mends_0 rfl rfl ?_
  refine aw_iconst (v := 0) dX12_mends_1 (by decide) ?_
  refine aw_pI dX12_mends_2 fp_X12_251 sh_58 rfl rfl rfl ?_
  refine aw_iconst (v := 0) dX12_mends_5 (by decide) ?_
  refine aw_istore_n (L' := [some (.ref 58), some (.int (0 : Int32)), none]) dX12_mends_6 rfl (by decide) rfl ?_
  obtain ⟨b9, hb9, hf⟩ := ax_bind hf
  refine wh_go ((0 : Int32), (wI s 58 20 (0 : Int32))) (fun a7 : Int32 × sx_M => AW l X RX12 "mends" cX12_mends 3 (some .boolean) (ax_rm 2 0 0) (ax_MQ X Q 0 0) 0 0 7 [some (.ref 58), some (.int a7.1), none] [] (hp a7.2 gb)) (fun e : sx_M => AW l X RX12 "mends" cX12_mends 3 (some .boolean) (ax_rm 2 0 0) (ax_MQ X Q 0 0) 0 0 81 [some (.ref 58), none, none] [] (hp e gb)) hb9 ?_ ?_
  · intro a7 r hf hK
    unfold f_X12_mends_L7 at hf
    refine aw_iload_n dX12_mends_7 rfl rfl ?_
    refine aw_aload_n dX12_mends_8 rfl rfl ?_
    obtain ⟨p1, hp1, hf⟩ := ax_bind hf
    refine aw_cVi (As := []) (st := [.int a7.1]) dX12_mends_9 cl_X12_60 iv_X12_workers (k_X12_workers (Q := (fun v h' => v = some (.int p1.1) ∧ h' = hp p1.2 gb)) a7.2 gb hp1 ⟨rfl, rfl⟩) (ci := 12) rfl (hp_get sh_58) rfl rfl rfl (Nat.le_of_ble_eq_true rfl) rfl (by decide) (by decide) ?_
    refine aw_icmp_ge (tgt := 81) dX12_mends_12 (by decide) (fun hc9 => ?_) (fun hc9 => ?_)
    · have hf := ax_pos hc9 hf
      refine aw_less (L' := [some (.ref 58), none, none]) (And.intro rfl trivial) ?_
      cases hf
      exact hK
    · have hf := ax_neg hc9 hf
      refine aw_iconst (v := 0) dX12_mends_15 (by decide) ?_
      refine aw_istore_n (L' := [some (.ref 58), some (.int a7.1), some (.int (0 : Int32))]) dX12_mends_16 rfl (by decide) rfl ?_
      obtain ⟨b8, hb8, hf⟩ := ax_bind hf
      refine wh_go ((0 : Int32), p1.2) (fun a17 : Int32 × sx_M => AW l X RX12 "mends" cX12_mends 3 (some .boolean) (ax_rm 2 0 0) (ax_MQ X Q 0 0) 0 0 17 [some (.ref 58), some (.int a7.1), some (.int a17.1)] [] (hp a17.2 gb)) (fun e : sx_M => AW l X RX12 "mends" cX12_mends 3 (some .boolean) (ax_rm 2 0 0) (ax_MQ X Q 0 0) 0 0 75 [some (.ref 58), some (.int a7.1), none] [] (hp e gb)) hb8 ?_ ?_
      · intro a17 r hf hK
        unfold f_X12_mends_L17 at hf
        refine aw_iload_n dX12_mends_17 rfl rfl ?_
        refine aw_aload_n dX12_mends_18 rfl rfl ?_
        obtain ⟨p2, hp2, hf⟩ := ax_bind hf
        refine aw_cVi (As := []) (st := [.int a17.1]) dX12_mends_19 cl_X12_68 iv_X12_jobs (k_X12_jobs (Q := (fun v h' => v = some (.int p2.1) ∧ h' = hp p2.2 gb)) a17.2 gb hp2 ⟨rfl, rfl⟩) (ci := 12) rfl (hp_get sh_58) rfl rfl rfl (Nat.le_of_ble_eq_true rfl) rfl (by decide) (by decide) ?_
        refine aw_icmp_ge (tgt := 75) dX12_mends_22 (by decide) (fun hc8 => ?_) (fun hc8 => ?_)
        · have hf := ax_pos hc8 hf
          refine aw_less (L' := [some (.ref 58), some (.int a7.1), none]) (And.intro rfl (And.intro rfl trivial)) ?_
          cases hf
          exact hK
        · have hf := ax_neg hc8 hf
          refine aw_aload_n dX12_mends_25 rfl rfl ?_
          refine aw_iload_n dX12_mends_26 rfl rfl ?_
          obtain ⟨p3, hp3, hf⟩ := ax_bind hf
          refine aw_cVi (As := [.int a17.1]) (st := []) dX12_mends_27 cl_X12_238 iv_X12_isTaken (k_X12_isTaken (Q := (fun v h' => v = some (.int p3.1) ∧ h' = hp p3.2 gb)) a17.1 p2.2 gb hp3 ⟨rfl, rfl⟩) (ci := 12) rfl (hp_get sh_58) rfl rfl rfl (Nat.le_of_ble_eq_true rfl) rfl (by decide) (by decide) ?_
          refine aw_if_ne (tgt := 69) dX12_mends_30 (by decide) (fun hc7 => ?_) (fun hc7 => ?_)
          · have hf := ax_neg hc7 hf
            refine aw_iinc (v := (a17.1 + (1 : Int32))) (L' := [some (.ref 58), some (.int a7.1), some (.int (a17.1 + (1 : Int32)))]) dX12_mends_69 rfl rfl (by decide) rfl ?_
            refine aw_goto (tgt := 17) dX12_mends_72 (by decide) ?_
            cases hf
            exact hK
          · have hf := ax_pos hc7 hf
            refine aw_aload_n dX12_mends_33 rfl rfl ?_
            refine aw_iload_n dX12_mends_34 rfl rfl ?_
            refine aw_iload_n dX12_mends_35 rfl rfl ?_
            obtain ⟨p4, hp4, hf⟩ := ax_bind hf
            refine aw_cVi (As := [.int a7.1, .int a17.1]) (st := []) dX12_mends_36 cl_X12_157 iv_X12_costOf (k_X12_costOf (Q := (fun v h' => v = some (.int p4.1) ∧ h' = hp p4.2 gb)) a7.1 a17.1 p3.2 gb hp4 ⟨rfl, rfl⟩) (ci := 12) rfl (hp_get sh_58) rfl rfl rfl (Nat.le_of_ble_eq_true rfl) rfl (by decide) (by decide) ?_
            refine aw_ldc dX12_mends_39 kc_X12_131 ?_
            refine aw_icmp_eq (tgt := 69) dX12_mends_41 (by decide) (fun hc6 => ?_) (fun hc6 => ?_)
            · have hf := ax_pos hc6 hf
              refine aw_iinc (v := (a17.1 + (1 : Int32))) (L' := [some (.ref 58), some (.int a7.1), some (.int (a17.1 + (1 : Int32)))]) dX12_mends_69 rfl rfl (by decide) rfl ?_
              refine aw_goto (tgt := 17) dX12_mends_72 (by decide) ?_
              cases hf
              exact hK
            · have hf := ax_neg hc6 hf
              refine aw_aload_n dX12_mends_44 rfl rfl ?_
              refine aw_aload_n dX12_mends_45 rfl rfl ?_
              refine aw_iload_n dX12_mends_46 rfl rfl ?_
              refine aw_aload_n dX12_mends_47 rfl rfl ?_
              refine aw_gR dX12_mends_48 fl_X12_43 sh_58 rfl ?_
              refine aw_iload_n dX12_mends_51 rfl rfl ?_
              obtain ⟨hc5, hf⟩ := ax_ite hf
              refine aw_lA dX12_mends_52 sh_67 hc5 ?_
              obtain ⟨p5, hp5, hf⟩ := ax_bind hf
              refine aw_cVi (As := [.int a7.1, .int (rA p4.2 67 (a7.1).toNatClampNeg)]) (st := [.ref 58]) dX12_mends_53 cl_X12_157 iv_X12_costOf (k_X12_costOf (Q := (fun v h' => v = some (.int p5.1) ∧ h' = hp p5.2 gb)) a7.1 (rA p4.2 67 (a7.1).toNatClampNeg) p4.2 gb hp5 ⟨rfl, rfl⟩) (ci := 12) rfl (hp_get sh_58) rfl rfl rfl (Nat.le_of_ble_eq_true rfl) rfl (by decide) (by decide) ?_
              refine aw_aload_n dX12_mends_56 rfl rfl ?_
              refine aw_iload_n dX12_mends_57 rfl rfl ?_
              refine aw_iload_n dX12_mends_58 rfl rfl ?_
              obtain ⟨p6, hp6, hf⟩ := ax_bind hf
              refine aw_cVi (As := [.int a7.1, .int a17.1]) (st := [.int p5.1, .ref 58]) dX12_mends_59 cl_X12_157 iv_X12_costOf (k_X12_costOf (Q := (fun v h' => v = some (.int p6.1) ∧ h' = hp p6.2 gb)) a7.1 a17.1 p5.2 gb hp6 ⟨rfl, rfl⟩) (ci := 12) rfl (hp_get sh_58) rfl rfl rfl (Nat.le_of_ble_eq_true rfl) rfl (by decide) (by decide) ?_
              refine aw_isub dX12_mends_62 ?_
              refine aw_iload_n dX12_mends_63 rfl rfl ?_
              refine aw_iload_n dX12_mends_64 rfl rfl ?_
              refine aw_iconst (v := 0) dX12_mends_65 (by decide) ?_
              obtain ⟨p7, hp7, hf⟩ := ax_bind hf
              refine aw_cVv (As := [.int (p5.1 - p6.1), .int a7.1, .int a17.1, .int (0 : Int32)]) (st := []) dX12_mends_66 cl_X12_263 iv_X12_offers (k_X12_offers (Q := (fun v h' => v = none ∧ h' = hp p7 gb)) (p5.1 - p6.1) a7.1 a17.1 (0 : Int32) p6.2 gb hp7 ⟨rfl, rfl⟩) (ci := 12) rfl (hp_get sh_58) rfl rfl rfl (Nat.le_of_ble_eq_true rfl) rfl (by decide) (by decide) ?_
              refine aw_iinc (v := (a17.1 + (1 : Int32))) (L' := [some (.ref 58), some (.int a7.1), some (.int (a17.1 + (1 : Int32)))]) dX12_mends_69 rfl rfl (by decide) rfl ?_
              refine aw_goto (tgt := 17) dX12_mends_72 (by decide) ?_
              cases hf
              exact hK
      · refine aw_iinc (v := (a7.1 + (1 : Int32))) (L' := [some (.ref 58), some (.int (a7.1 + (1 : Int32))), none]) dX12_mends_75 rfl rfl (by decide) rfl ?_
        refine aw_goto (tgt := 7) dX12_mends_78 (by decide) ?_
        cases hf
        exact hK
  · refine aw_iconst (v := 0) dX12_mends_81 (by decide) ?_
    refine aw_istore_n (L' := [some (.ref 58), some (.int (0 : Int32)), none]) dX12_mends_82 rfl (by decide) rfl ?_
    obtain ⟨b20, hb20, hf⟩ := ax_bind hf
    refine wh_go ((0 : Int32), b9) (fun a83 : Int32 × sx_M => AW l X RX12 "mends" cX12_mends 3 (some .boolean) (ax_rm 2 0 0) (ax_MQ X Q 0 0) 0 0 83 [some (.ref 58), some (.int a83.1), none] [] (hp a83.2 gb)) (fun e : sx_M => AW l X RX12 "mends" cX12_mends 3 (some .boolean) (ax_rm 2 0 0) (ax_MQ X Q 0 0) 0 0 201 [some (.ref 58), none, none] [] (hp e gb)) hb20 ?_ ?_
    · intro a83 r hf hK
      unfold f_X12_mends_L83 at hf
      refine aw_iload_n dX12_mends_83 rfl rfl ?_
      refine aw_aload_n dX12_mends_84 rfl rfl ?_
      obtain ⟨p10, hp10, hf⟩ := ax_bind hf
      refine aw_cVi (As := []) (st := [.int a83.1]) dX12_mends_85 cl_X12_60 iv_X12_workers (k_X12_workers (Q := (fun v h' => v = some (.int p10.1) ∧ h' = hp p10.2 gb)) a83.2 gb hp10 ⟨rfl, rfl⟩) (ci := 12) rfl (hp_get sh_58) rfl rfl rfl (Nat.le_of_ble_eq_true rfl) rfl (by decide) (by decide) ?_
      refine aw_icmp_ge (tgt := 201) dX12_mends_88 (by decide) (fun hc19 => ?_) (fun hc19 => ?_)
      · have hf := ax_pos hc19 hf
        refine aw_less (L' := [some (.ref 58), none, none]) (And.intro rfl trivial) ?_
        cases hf
        exact hK
      · have hf := ax_neg hc19 hf
        refine aw_iload_n dX12_mends_91 rfl rfl ?_
        refine aw_iconst (v := 1) dX12_mends_92 (by decide) ?_
        refine aw_iadd dX12_mends_93 ?_
        refine aw_istore_n (L' := [some (.ref 58), some (.int a83.1), some (.int (a83.1 + (1 : Int32)))]) dX12_mends_94 rfl (by decide) rfl ?_
        obtain ⟨b19, hb19, hf⟩ := ax_bind hf
        refine wh_go ((a83.1 + (1 : Int32)), p10.2) (fun a95 : Int32 × sx_M => AW l X RX12 "mends" cX12_mends 3 (some .boolean) (ax_rm 2 0 0) (ax_MQ X Q 0 0) 0 0 95 [some (.ref 58), some (.int a83.1), some (.int a95.1)] [] (hp a95.2 gb)) (fun e : sx_M => AW l X RX12 "mends" cX12_mends 3 (some .boolean) (ax_rm 2 0 0) (ax_MQ X Q 0 0) 0 0 195 [some (.ref 58), some (.int a83.1), none] [] (hp e gb)) hb19 ?_ ?_
        · intro a95 r hf hK
          unfold f_X12_mends_L95 at hf
          refine aw_iload_n dX12_mends_95 rfl rfl ?_
          refine aw_aload_n dX12_mends_96 rfl rfl ?_
          obtain ⟨p11, hp11, hf⟩ := ax_bind hf
          refine aw_cVi (As := []) (st := [.int a95.1]) dX12_mends_97 cl_X12_60 iv_X12_workers (k_X12_workers (Q := (fun v h' => v = some (.int p11.1) ∧ h' = hp p11.2 gb)) a95.2 gb hp11 ⟨rfl, rfl⟩) (ci := 12) rfl (hp_get sh_58) rfl rfl rfl (Nat.le_of_ble_eq_true rfl) rfl (by decide) (by decide) ?_
          refine aw_icmp_ge (tgt := 195) dX12_mends_100 (by decide) (fun hc18 => ?_) (fun hc18 => ?_)
          · have hf := ax_pos hc18 hf
            refine aw_less (L' := [some (.ref 58), some (.int a83.1), none]) (And.intro rfl (And.intro rfl trivial)) ?_
            cases hf
            exact hK
          · have hf := ax_neg hc18 hf
            refine aw_aload_n dX12_mends_103 rfl rfl ?_
            refine aw_iload_n dX12_mends_104 rfl rfl ?_
            refine aw_aload_n dX12_mends_105 rfl rfl ?_
            refine aw_gR dX12_mends_106 fl_X12_43 sh_58 rfl ?_
            refine aw_iload_n dX12_mends_109 rfl rfl ?_
            obtain ⟨hc10, hf⟩ := ax_ite hf
            refine aw_lA dX12_mends_110 sh_67 hc10 ?_
            obtain ⟨p12, hp12, hf⟩ := ax_bind hf
            refine aw_cVi (As := [.int a83.1, .int (rA p11.2 67 (a95.1).toNatClampNeg)]) (st := []) dX12_mends_111 cl_X12_157 iv_X12_costOf (k_X12_costOf (Q := (fun v h' => v = some (.int p12.1) ∧ h' = hp p12.2 gb)) a83.1 (rA p11.2 67 (a95.1).toNatClampNeg) p11.2 gb hp12 ⟨rfl, rfl⟩) (ci := 12) rfl (hp_get sh_58) rfl rfl rfl (Nat.le_of_ble_eq_true rfl) rfl (by decide) (by decide) ?_
            refine aw_ldc dX12_mends_114 kc_X12_131 ?_
            refine aw_icmp_eq (tgt := 189) dX12_mends_116 (by decide) (fun hc17 => ?_) (fun hc17 => ?_)
            · have hf := ax_pos hc17 hf
              refine aw_iinc (v := (a95.1 + (1 : Int32))) (L' := [some (.ref 58), some (.int a83.1), some (.int (a95.1 + (1 : Int32)))]) dX12_mends_189 rfl rfl (by decide) rfl ?_
              refine aw_goto (tgt := 95) dX12_mends_192 (by decide) ?_
              cases hf
              exact hK
            · have hf := ax_neg hc17 hf
              refine aw_aload_n dX12_mends_119 rfl rfl ?_
              refine aw_iload_n dX12_mends_120 rfl rfl ?_
              refine aw_aload_n dX12_mends_121 rfl rfl ?_
              refine aw_gR dX12_mends_122 fl_X12_43 sh_58 rfl ?_
              refine aw_iload_n dX12_mends_125 rfl rfl ?_
              obtain ⟨hc11, hf⟩ := ax_ite hf
              refine aw_lA dX12_mends_126 sh_67 hc11 ?_
              obtain ⟨p13, hp13, hf⟩ := ax_bind hf
              refine aw_cVi (As := [.int a95.1, .int (rA p12.2 67 (a83.1).toNatClampNeg)]) (st := []) dX12_mends_127 cl_X12_157 iv_X12_costOf (k_X12_costOf (Q := (fun v h' => v = some (.int p13.1) ∧ h' = hp p13.2 gb)) a95.1 (rA p12.2 67 (a83.1).toNatClampNeg) p12.2 gb hp13 ⟨rfl, rfl⟩) (ci := 12) rfl (hp_get sh_58) rfl rfl rfl (Nat.le_of_ble_eq_true rfl) rfl (by decide) (by decide) ?_
              refine aw_ldc dX12_mends_130 kc_X12_131 ?_
              refine aw_icmp_eq (tgt := 189) dX12_mends_132 (by decide) (fun hc16 => ?_) (fun hc16 => ?_)
              · have hf := ax_pos hc16 hf
                refine aw_iinc (v := (a95.1 + (1 : Int32))) (L' := [some (.ref 58), some (.int a83.1), some (.int (a95.1 + (1 : Int32)))]) dX12_mends_189 rfl rfl (by decide) rfl ?_
                refine aw_goto (tgt := 95) dX12_mends_192 (by decide) ?_
                cases hf
                exact hK
              · have hf := ax_neg hc16 hf
                refine aw_aload_n dX12_mends_135 rfl rfl ?_
                refine aw_aload_n dX12_mends_136 rfl rfl ?_
                refine aw_iload_n dX12_mends_137 rfl rfl ?_
                refine aw_aload_n dX12_mends_138 rfl rfl ?_
                refine aw_gR dX12_mends_139 fl_X12_43 sh_58 rfl ?_
                refine aw_iload_n dX12_mends_142 rfl rfl ?_
                obtain ⟨hc12, hf⟩ := ax_ite hf
                refine aw_lA dX12_mends_143 sh_67 hc12 ?_
                obtain ⟨p14, hp14, hf⟩ := ax_bind hf
                refine aw_cVi (As := [.int a83.1, .int (rA p13.2 67 (a83.1).toNatClampNeg)]) (st := [.ref 58]) dX12_mends_144 cl_X12_157 iv_X12_costOf (k_X12_costOf (Q := (fun v h' => v = some (.int p14.1) ∧ h' = hp p14.2 gb)) a83.1 (rA p13.2 67 (a83.1).toNatClampNeg) p13.2 gb hp14 ⟨rfl, rfl⟩) (ci := 12) rfl (hp_get sh_58) rfl rfl rfl (Nat.le_of_ble_eq_true rfl) rfl (by decide) (by decide) ?_
                refine aw_aload_n dX12_mends_147 rfl rfl ?_
                refine aw_iload_n dX12_mends_148 rfl rfl ?_
                refine aw_aload_n dX12_mends_149 rfl rfl ?_
                refine aw_gR dX12_mends_150 fl_X12_43 sh_58 rfl ?_
                refine aw_iload_n dX12_mends_153 rfl rfl ?_
                obtain ⟨hc13, hf⟩ := ax_ite hf
                refine aw_lA dX12_mends_154 sh_67 hc13 ?_
                obtain ⟨p15, hp15, hf⟩ := ax_bind hf
                refine aw_cVi (As := [.int a95.1, .int (rA p14.2 67 (a95.1).toNatClampNeg)]) (st := [.int p14.1, .ref 58]) dX12_mends_155 cl_X12_157 iv_X12_costOf (k_X12_costOf (Q := (fun v h' => v = some (.int p15.1) ∧ h' = hp p15.2 gb)) a95.1 (rA p14.2 67 (a95.1).toNatClampNeg) p14.2 gb hp15 ⟨rfl, rfl⟩) (ci := 12) rfl (hp_get sh_58) rfl rfl rfl (Nat.le_of_ble_eq_true rfl) rfl (by decide) (by decide) ?_
                refine aw_iadd dX12_mends_158 ?_
                refine aw_aload_n dX12_mends_159 rfl rfl ?_
                refine aw_iload_n dX12_mends_160 rfl rfl ?_
                refine aw_aload_n dX12_mends_161 rfl rfl ?_
                refine aw_gR dX12_mends_162 fl_X12_43 sh_58 rfl ?_
                refine aw_iload_n dX12_mends_165 rfl rfl ?_
                obtain ⟨hc14, hf⟩ := ax_ite hf
                refine aw_lA dX12_mends_166 sh_67 hc14 ?_
                obtain ⟨p16, hp16, hf⟩ := ax_bind hf
                refine aw_cVi (As := [.int a83.1, .int (rA p15.2 67 (a95.1).toNatClampNeg)]) (st := [.int (p14.1 + p15.1), .ref 58]) dX12_mends_167 cl_X12_157 iv_X12_costOf (k_X12_costOf (Q := (fun v h' => v = some (.int p16.1) ∧ h' = hp p16.2 gb)) a83.1 (rA p15.2 67 (a95.1).toNatClampNeg) p15.2 gb hp16 ⟨rfl, rfl⟩) (ci := 12) rfl (hp_get sh_58) rfl rfl rfl (Nat.le_of_ble_eq_true rfl) rfl (by decide) (by decide) ?_
                refine aw_isub dX12_mends_170 ?_
                refine aw_aload_n dX12_mends_171 rfl rfl ?_
                refine aw_iload_n dX12_mends_172 rfl rfl ?_
                refine aw_aload_n dX12_mends_173 rfl rfl ?_
                refine aw_gR dX12_mends_174 fl_X12_43 sh_58 rfl ?_
                refine aw_iload_n dX12_mends_177 rfl rfl ?_
                obtain ⟨hc15, hf⟩ := ax_ite hf
                refine aw_lA dX12_mends_178 sh_67 hc15 ?_
                obtain ⟨p17, hp17, hf⟩ := ax_bind hf
                refine aw_cVi (As := [.int a95.1, .int (rA p16.2 67 (a83.1).toNatClampNeg)]) (st := [.int ((p14.1 + p15.1) - p16.1), .ref 58]) dX12_mends_179 cl_X12_157 iv_X12_costOf (k_X12_costOf (Q := (fun v h' => v = some (.int p17.1) ∧ h' = hp p17.2 gb)) a95.1 (rA p16.2 67 (a83.1).toNatClampNeg) p16.2 gb hp17 ⟨rfl, rfl⟩) (ci := 12) rfl (hp_get sh_58) rfl rfl rfl (Nat.le_of_ble_eq_true rfl) rfl (by decide) (by decide) ?_
                refine aw_isub dX12_mends_182 ?_
                refine aw_iload_n dX12_mends_183 rfl rfl ?_
                refine aw_iload_n dX12_mends_184 rfl rfl ?_
                refine aw_iconst (v := 1) dX12_mends_185 (by decide) ?_
                obtain ⟨p18, hp18, hf⟩ := ax_bind hf
                refine aw_cVv (As := [.int (((p14.1 + p15.1) - p16.1) - p17.1), .int a83.1, .int a95.1, .int (1 : Int32)]) (st := []) dX12_mends_186 cl_X12_263 iv_X12_offers (k_X12_offers (Q := (fun v h' => v = none ∧ h' = hp p18 gb)) (((p14.1 + p15.1) - p16.1) - p17.1) a83.1 a95.1 (1 : Int32) p17.2 gb hp18 ⟨rfl, rfl⟩) (ci := 12) rfl (hp_get sh_58) rfl rfl rfl (Nat.le_of_ble_eq_true rfl) rfl (by decide) (by decide) ?_
                refine aw_iinc (v := (a95.1 + (1 : Int32))) (L' := [some (.ref 58), some (.int a83.1), some (.int (a95.1 + (1 : Int32)))]) dX12_mends_189 rfl rfl (by decide) rfl ?_
                refine aw_goto (tgt := 95) dX12_mends_192 (by decide) ?_
                cases hf
                exact hK
        · refine aw_iinc (v := (a83.1 + (1 : Int32))) (L' := [some (.ref 58), some (.int (a83.1 + (1 : Int32))), none]) dX12_mends_195 rfl rfl (by decide) rfl ?_
          refine aw_goto (tgt := 83) dX12_mends_198 (by decide) ?_
          cases hf
          exact hK
    · refine aw_aload_n dX12_mends_201 rfl rfl ?_
      refine aw_gI dX12_mends_202 fl_X12_251 sh_58 rfl ?_
      refine aw_if_ne (tgt := 210) dX12_mends_205 (by decide) (fun hc22 => ?_) (fun hc22 => ?_)
      · have hf := ax_neg hc22 hf
        refine aw_aload_n dX12_mends_210 rfl rfl ?_
        refine aw_gI dX12_mends_211 fl_X12_260 sh_58 rfl ?_
        refine aw_if_eq (tgt := 229) dX12_mends_214 (by decide) (fun hc21 => ?_) (fun hc21 => ?_)
        · have hf := ax_pos hc21 hf
          refine aw_aload_n dX12_mends_229 rfl rfl ?_
          refine aw_gI dX12_mends_230 fl_X12_257 sh_58 rfl ?_
          exact J233 (rI b20 58 22) b20 hf
        · have hf := ax_neg hc21 hf
          refine aw_aload_n dX12_mends_217 rfl rfl ?_
          refine aw_gR dX12_mends_218 fl_X12_43 sh_58 rfl ?_
          refine aw_aload_n dX12_mends_221 rfl rfl ?_
          refine aw_gI dX12_mends_222 fl_X12_257 sh_58 rfl ?_
          obtain ⟨hc20, hf⟩ := ax_ite hf
          refine aw_lA dX12_mends_225 sh_67 hc20 ?_
          refine aw_goto (tgt := 233) dX12_mends_226 (by decide) ?_
          exact J233 (rA b20 67 ((rI b20 58 22)).toNatClampNeg) b20 hf
      · have hf := ax_pos hc22 hf
        refine aw_iconst (v := 0) dX12_mends_208 (by decide) ?_
        cases hf
        exact aw_zret dX12_mends_209 (by decide) hq (Nat.le_refl _) (Nat.le_refl _)
noncomputable def f_X12_mended_L31 (z1 : Int32) (a31 : Int32 × sx_M) : Option ((Int32 × sx_M) ⊕ (Int32 × sx_M)) :=
  (f_X12_mends a31.2).bind (fun p5 =>
 (if p5.1 = 0 then
 some (.inr (a31.1, p5.2))
else
 some (.inl ((a31.1 + (1 : Int32)), p5.2))))
noncomputable def f_X12_mended (x1 : Int32) (s : sx_M) : Option (Int64 × sx_M) :=
  (f_X12_laysGreedy s).bind (fun p1 =>
 (f_X12_in ((x1).toInt64) (0 : Int64) (1 : Int64) p1).bind (fun p2 =>
 (if p2.1 = 0 then
 some ((-9223372036854775808 : Int64), p2.2)
else
 (f_X12_hasMany p2.2).bind (fun p3 =>
 (f_X12_workers p3.2).bind (fun p4 =>
 (if p4.1 ≤ p3.1 then
 (whT (f_X12_mended_L31 x1) ((0 : Int32), p4.2)).bind (fun b6 =>
 (if x1 = 0 then
 (f_X12_hasSum b6.2).bind (fun p7 =>
 some (p7.1, p7.2))
else
 some ((b6.1).toInt64, b6.2)))
else
 some ((-9223372036854775808 : Int64), p4.2)))))))
set_option maxRecDepth 100000 in
set_option maxHeartbeats 4000000 in
theorem k_X12_mended {l : Launch} {X : ax_X} {Q : Option Value → ax_H → Prop} (x1 : Int32) (s : sx_M) (gb : ax_H) {p : Int64 × sx_M} (hf : f_X12_mended x1 s = some p) (hq : Q (some (.long p.1)) (hp p.2 gb)) : AM l X yX12_mended cX12_mended 3 (some .long) 3 0 0 [.ref 58, .int x1] (hp s gb) Q := by
  refine aw_met (own := RX12) (nm := "mended") (L := [some (.ref 58), some (.int x1), none]) (by decide +kernel) rfl rfl (And.intro rfl (And.intro rfl trivial)) (Nat.le_of_ble_eq_true rfl) ?_
  unfold f_X12_mended at hf
  refine aw_aload_n dX12_mended_0 rfl rfl ?_
  obtain ⟨p1, hp1, hf⟩ := ax_bind hf
  refine aw_cVv (As := []) (st := []) dX12_mended_1 cl_X12_241 iv_X12_laysGreedy (k_X12_laysGreedy (Q := (fun v h' => v = none ∧ h' = hp p1 gb)) s gb hp1 ⟨rfl, rfl⟩) (ci := 12) rfl (hp_get sh_58) rfl rfl rfl (Nat.le_of_ble_eq_true rfl) rfl (by decide) (by decide) ?_
  refine aw_iload_n dX12_mended_4 rfl rfl ?_
  refine aw_i2l dX12_mended_5 ?_
  refine aw_lconst (v := 0) dX12_mended_6 (by decide) ?_
  refine aw_lconst (v := 1) dX12_mended_7 (by decide) ?_
  obtain ⟨p2, hp2, hf⟩ := ax_bind hf
  refine aw_cSi (As := [.long ((x1).toInt64), .long (0 : Int64), .long (1 : Int64)]) (st := []) dX12_mended_8 cl_X12_64 st_X12_in (k_X12_in (Q := (fun v h' => v = some (.int p2.1) ∧ h' = hp p2.2 gb)) ((x1).toInt64) (0 : Int64) (1 : Int64) p1 gb hp2 ⟨rfl, rfl⟩) rfl rfl (Nat.le_of_ble_eq_true rfl) rfl (by decide) (by decide) ?_
  refine aw_if_eq (tgt := 25) dX12_mended_11 (by decide) (fun hc4 => ?_) (fun hc4 => ?_)
  · have hf := ax_pos hc4 hf
    refine aw_ldc2 dX12_mended_25 kc_X12_197 ?_
    cases hf
    exact aw_lret dX12_mended_28 hq (Nat.le_refl _) (Nat.le_refl _)
  · have hf := ax_neg hc4 hf
    refine aw_aload_n dX12_mended_14 rfl rfl ?_
    obtain ⟨p3, hp3, hf⟩ := ax_bind hf
    refine aw_cVi (As := []) (st := []) dX12_mended_15 cl_X12_248 iv_X12_hasMany (k_X12_hasMany (Q := (fun v h' => v = some (.int p3.1) ∧ h' = hp p3.2 gb)) p2.2 gb hp3 ⟨rfl, rfl⟩) (ci := 12) rfl (hp_get sh_58) rfl rfl rfl (Nat.le_of_ble_eq_true rfl) rfl (by decide) (by decide) ?_
    refine aw_aload_n dX12_mended_18 rfl rfl ?_
    obtain ⟨p4, hp4, hf⟩ := ax_bind hf
    refine aw_cVi (As := []) (st := [.int p3.1]) dX12_mended_19 cl_X12_60 iv_X12_workers (k_X12_workers (Q := (fun v h' => v = some (.int p4.1) ∧ h' = hp p4.2 gb)) p3.2 gb hp4 ⟨rfl, rfl⟩) (ci := 12) rfl (hp_get sh_58) rfl rfl rfl (Nat.le_of_ble_eq_true rfl) rfl (by decide) (by decide) ?_
    refine aw_icmp_ge (tgt := 29) dX12_mended_22 (by decide) (fun hc3 => ?_) (fun hc3 => ?_)
    · have hf := ax_pos hc3 hf
      refine aw_iconst (v := 0) dX12_mended_29 (by decide) ?_
      refine aw_istore_n (L' := [some (.ref 58), some (.int x1), some (.int (0 : Int32))]) dX12_mended_30 rfl (by decide) rfl ?_
      obtain ⟨b6, hb6, hf⟩ := ax_bind hf
      refine wh_go ((0 : Int32), p4.2) (fun a31 : Int32 × sx_M => AW l X RX12 "mended" cX12_mended 3 (some .long) (ax_rm 3 0 0) (ax_MQ X Q 0 0) 0 0 31 [some (.ref 58), some (.int x1), some (.int a31.1)] [] (hp a31.2 gb)) (fun e : Int32 × sx_M => AW l X RX12 "mended" cX12_mended 3 (some .long) (ax_rm 3 0 0) (ax_MQ X Q 0 0) 0 0 44 [some (.ref 58), some (.int x1), some (.int e.1)] [] (hp e.2 gb)) hb6 ?_ ?_
      · intro a31 r hf hK
        unfold f_X12_mended_L31 at hf
        refine aw_aload_n dX12_mended_31 rfl rfl ?_
        obtain ⟨p5, hp5, hf⟩ := ax_bind hf
        refine aw_cVi (As := []) (st := []) dX12_mended_32 cl_X12_267 iv_X12_mends (k_X12_mends (Q := (fun v h' => v = some (.int p5.1) ∧ h' = hp p5.2 gb)) a31.2 gb hp5 ⟨rfl, rfl⟩) (ci := 12) rfl (hp_get sh_58) rfl rfl rfl (Nat.le_of_ble_eq_true rfl) rfl (by decide) (by decide) ?_
        refine aw_if_eq (tgt := 44) dX12_mended_35 (by decide) (fun hc1 => ?_) (fun hc1 => ?_)
        · have hf := ax_pos hc1 hf
          cases hf
          exact hK
        · have hf := ax_neg hc1 hf
          refine aw_iinc (v := (a31.1 + (1 : Int32))) (L' := [some (.ref 58), some (.int x1), some (.int (a31.1 + (1 : Int32)))]) dX12_mended_38 rfl rfl (by decide) rfl ?_
          refine aw_goto (tgt := 31) dX12_mended_41 (by decide) ?_
          cases hf
          exact hK
      · refine aw_iload_n dX12_mended_44 rfl rfl ?_
        refine aw_if_ne (tgt := 55) dX12_mended_45 (by decide) (fun hc2 => ?_) (fun hc2 => ?_)
        · have hf := ax_neg hc2 hf
          refine aw_iload_n dX12_mended_55 rfl rfl ?_
          refine aw_i2l dX12_mended_56 ?_
          cases hf
          exact aw_lret dX12_mended_57 hq (Nat.le_refl _) (Nat.le_refl _)
        · have hf := ax_pos hc2 hf
          refine aw_aload_n dX12_mended_48 rfl rfl ?_
          obtain ⟨p7, hp7, hf⟩ := ax_bind hf
          refine aw_cVl (As := []) (st := []) dX12_mended_49 cl_X12_244 iv_X12_hasSum (k_X12_hasSum (Q := (fun v h' => v = some (.long p7.1) ∧ h' = hp p7.2 gb)) b6.2 gb hp7 ⟨rfl, rfl⟩) (ci := 12) rfl (hp_get sh_58) rfl rfl rfl (Nat.le_of_ble_eq_true rfl) rfl (by decide) (by decide) ?_
          refine aw_goto (tgt := 57) dX12_mended_52 (by decide) ?_
          cases hf
          exact aw_lret dX12_mended_57 hq (Nat.le_refl _) (Nat.le_refl _)
    · have hf := ax_neg hc3 hf
      refine aw_ldc2 dX12_mended_25 kc_X12_197 ?_
      cases hf
      exact aw_lret dX12_mended_28 hq (Nat.le_refl _) (Nat.le_refl _)
noncomputable def f_X12_leastNet_L5_J76 (z1 : Int32) (z2 : Int32) (y3_76 : Int32) (y4_76 : Int32) (t0_76 : Int32) (s_76 : sx_M) : Option ((Int32 × Int32 × sx_M) ⊕ (Int32 × sx_M)) :=
  (if t0_76 = 0 then
 some (.inl (y3_76, (y4_76 + (1 : Int32)), s_76))
else
 some (.inl (y4_76, (y4_76 + (1 : Int32)), s_76)))
noncomputable def f_X12_leastNet_L5 (z1 : Int32) (z2 : Int32) (a5 : Int32 × Int32 × sx_M) : Option ((Int32 × Int32 × sx_M) ⊕ (Int32 × sx_M)) :=
  (f_X12_jobs a5.2.2).bind (fun p1 =>
 (if p1.1 ≤ a5.2.1 then
 some (.inr (a5.1, p1.2))
else
 (if a5.2.1 = z2 then
 f_X12_leastNet_L5_J76 z1 z2 a5.1 a5.2.1 (0 : Int32) p1.2
else
 (f_X12_costOf z1 a5.2.1 p1.2).bind (fun p2 =>
 (if p2.1 = (2147483647 : Int32) then
 f_X12_leastNet_L5_J76 z1 z2 a5.1 a5.2.1 (0 : Int32) p2.2
else
 (if a5.1 = (-1 : Int32) then
 f_X12_leastNet_L5_J76 z1 z2 a5.1 a5.2.1 (1 : Int32) p2.2
else
 (f_X12_costOf z1 a5.2.1 p2.2).bind (fun p3 =>
 (if ¬ (a5.2.1 < 0 ∨ 8 ≤ (a5.2.1).toNatClampNeg) then
 (f_X12_costOf z1 a5.1 p3.2).bind (fun p4 =>
 (if ¬ (a5.1 < 0 ∨ 8 ≤ (a5.1).toNatClampNeg) then
 (if ((p4.1).toInt64 + (rB p4.2 68 (a5.1).toNatClampNeg)) ≤ ((p3.1).toInt64 + (rB p3.2 68 (a5.2.1).toNatClampNeg)) then
 f_X12_leastNet_L5_J76 z1 z2 a5.1 a5.2.1 (0 : Int32) p4.2
else
 f_X12_leastNet_L5_J76 z1 z2 a5.1 a5.2.1 (1 : Int32) p4.2)
else none))
else none))))))))
noncomputable def f_X12_leastNet (x1 : Int32) (x2 : Int32) (s : sx_M) : Option (Int32 × sx_M) :=
  (whT (f_X12_leastNet_L5 x1 x2) ((-1 : Int32), (0 : Int32), s)).bind (fun b5 =>
 some (b5.1, b5.2))
set_option maxRecDepth 100000 in
set_option maxHeartbeats 4000000 in
theorem k_X12_leastNet {l : Launch} {X : ax_X} {Q : Option Value → ax_H → Prop} (x1 : Int32) (x2 : Int32) (s : sx_M) (gb : ax_H) {p : Int32 × sx_M} (hf : f_X12_leastNet x1 x2 s = some p) (hq : Q (some (.int p.1)) (hp p.2 gb)) : AM l X yX12_leastNet cX12_leastNet 6 (some .int) 2 0 0 [.ref 58, .int x1, .int x2] (hp s gb) Q := by
  refine aw_met (own := RX12) (nm := "leastNet") (L := [some (.ref 58), some (.int x1), some (.int x2), none, none, none]) (by decide +kernel) rfl rfl (And.intro rfl (And.intro rfl (And.intro rfl trivial))) (Nat.le_of_ble_eq_true rfl) ?_
  unfold f_X12_leastNet at hf
  refine aw_iconst (v := -1) dX12_leastNet_0 (by decide) ?_
  refine aw_istore_n (L' := [some (.ref 58), some (.int x1), some (.int x2), some (.int (-1 : Int32)), none, none]) dX12_leastNet_1 rfl (by decide) rfl ?_
  refine aw_iconst (v := 0) dX12_leastNet_2 (by decide) ?_
  refine aw_istore (L' := [some (.ref 58), some (.int x1), some (.int x2), some (.int (-1 : Int32)), some (.int (0 : Int32)), none]) dX12_leastNet_3 (by decide) rfl ?_
  obtain ⟨b5, hb5, hf⟩ := ax_bind hf
  refine wh_go ((-1 : Int32), (0 : Int32), s) (fun a5 : Int32 × Int32 × sx_M => AW l X RX12 "leastNet" cX12_leastNet 6 (some .int) (ax_rm 2 0 0) (ax_MQ X Q 0 0) 0 0 5 [some (.ref 58), some (.int x1), some (.int x2), some (.int a5.1), some (.int a5.2.1), none] [] (hp a5.2.2 gb)) (fun e : Int32 × sx_M => AW l X RX12 "leastNet" cX12_leastNet 6 (some .int) (ax_rm 2 0 0) (ax_MQ X Q 0 0) 0 0 96 [none, none, none, some (.int e.1), none, none] [] (hp e.2 gb)) hb5 ?_ ?_
  · intro a5 r hf hK
    unfold f_X12_leastNet_L5 at hf
    have J76 : ∀ (y3_76 : Int32) (y4_76 : Int32) (t0_76 : Int32) (s_76 : sx_M), f_X12_leastNet_L5_J76 x1 x2 y3_76 y4_76 t0_76 s_76 = some r → AW l X RX12 "leastNet" cX12_leastNet 6 (some .int) (ax_rm 2 0 0) (ax_MQ X Q 0 0) 0 0 76 [some (.ref 58), some (.int x1), some (.int x2), some (.int y3_76), some (.int y4_76), none] [.int t0_76] (hp s_76 gb) := by
      intro y3_76 y4_76 t0_76 s_76 hf
      unfold f_X12_leastNet_L5_J76 at hf
      refine aw_istore (L' := [some (.ref 58), some (.int x1), some (.int x2), some (.int y3_76), some (.int y4_76), some (.int t0_76)]) dX12_leastNet_76 (by decide) rfl ?_
      refine aw_iload dX12_leastNet_78 rfl ?_
      refine aw_if_eq (tgt := 88) dX12_leastNet_80 (by decide) (fun hc1 => ?_) (fun hc1 => ?_)
      · have hf := ax_pos hc1 hf
        refine aw_iload_n dX12_leastNet_88 rfl rfl ?_
        refine aw_istore_n (L' := [some (.ref 58), some (.int x1), some (.int x2), some (.int y3_76), some (.int y4_76), some (.int t0_76)]) dX12_leastNet_89 rfl (by decide) rfl ?_
        refine aw_iinc (v := (y4_76 + (1 : Int32))) (L' := [some (.ref 58), some (.int x1), some (.int x2), some (.int y3_76), some (.int (y4_76 + (1 : Int32))), some (.int t0_76)]) dX12_leastNet_90 rfl rfl (by decide) rfl ?_
        refine aw_goto (tgt := 5) dX12_leastNet_93 (by decide) ?_
        refine aw_less (L' := [some (.ref 58), some (.int x1), some (.int x2), some (.int y3_76), some (.int (y4_76 + (1 : Int32))), none]) (And.intro rfl (And.intro rfl (And.intro rfl (And.intro rfl (And.intro rfl trivial))))) ?_
        cases hf
        exact hK
      · have hf := ax_neg hc1 hf
        refine aw_iload dX12_leastNet_83 rfl ?_
        refine aw_goto (tgt := 89) dX12_leastNet_85 (by decide) ?_
        refine aw_istore_n (L' := [some (.ref 58), some (.int x1), some (.int x2), some (.int y4_76), some (.int y4_76), some (.int t0_76)]) dX12_leastNet_89 rfl (by decide) rfl ?_
        refine aw_iinc (v := (y4_76 + (1 : Int32))) (L' := [some (.ref 58), some (.int x1), some (.int x2), some (.int y4_76), some (.int (y4_76 + (1 : Int32))), some (.int t0_76)]) dX12_leastNet_90 rfl rfl (by decide) rfl ?_
        refine aw_goto (tgt := 5) dX12_leastNet_93 (by decide) ?_
        refine aw_less (L' := [some (.ref 58), some (.int x1), some (.int x2), some (.int y4_76), some (.int (y4_76 + (1 : Int32))), none]) (And.intro rfl (And.intro rfl (And.intro rfl (And.intro rfl (And.intro rfl trivial))))) ?_
        cases hf
        exact hK
    refine aw_iload dX12_leastNet_5 rfl ?_
    refine aw_aload_n dX12_leastNet_7 rfl rfl ?_
    obtain ⟨p1, hp1, hf⟩ := ax_bind hf
    refine aw_cVi (As := []) (st := [.int a5.2.1]) dX12_leastNet_8 cl_X12_68 iv_X12_jobs (k_X12_jobs (Q := (fun v h' => v = some (.int p1.1) ∧ h' = hp p1.2 gb)) a5.2.2 gb hp1 ⟨rfl, rfl⟩) (ci := 12) rfl (hp_get sh_58) rfl rfl rfl (Nat.le_of_ble_eq_true rfl) rfl (by decide) (by decide) ?_
    refine aw_icmp_ge (tgt := 96) dX12_leastNet_11 (by decide) (fun hc8 => ?_) (fun hc8 => ?_)
    · have hf := ax_pos hc8 hf
      refine aw_less (L' := [none, none, none, some (.int a5.1), none, none]) (And.intro rfl trivial) ?_
      cases hf
      exact hK
    · have hf := ax_neg hc8 hf
      refine aw_iload dX12_leastNet_14 rfl ?_
      refine aw_iload_n dX12_leastNet_16 rfl rfl ?_
      refine aw_icmp_eq (tgt := 75) dX12_leastNet_17 (by decide) (fun hc7 => ?_) (fun hc7 => ?_)
      · have hf := ax_pos hc7 hf
        refine aw_iconst (v := 0) dX12_leastNet_75 (by decide) ?_
        exact J76 a5.1 a5.2.1 (0 : Int32) p1.2 hf
      · have hf := ax_neg hc7 hf
        refine aw_aload_n dX12_leastNet_20 rfl rfl ?_
        refine aw_iload_n dX12_leastNet_21 rfl rfl ?_
        refine aw_iload dX12_leastNet_22 rfl ?_
        obtain ⟨p2, hp2, hf⟩ := ax_bind hf
        refine aw_cVi (As := [.int x1, .int a5.2.1]) (st := []) dX12_leastNet_24 cl_X12_157 iv_X12_costOf (k_X12_costOf (Q := (fun v h' => v = some (.int p2.1) ∧ h' = hp p2.2 gb)) x1 a5.2.1 p1.2 gb hp2 ⟨rfl, rfl⟩) (ci := 12) rfl (hp_get sh_58) rfl rfl rfl (Nat.le_of_ble_eq_true rfl) rfl (by decide) (by decide) ?_
        refine aw_ldc dX12_leastNet_27 kc_X12_131 ?_
        refine aw_icmp_eq (tgt := 75) dX12_leastNet_29 (by decide) (fun hc6 => ?_) (fun hc6 => ?_)
        · have hf := ax_pos hc6 hf
          refine aw_iconst (v := 0) dX12_leastNet_75 (by decide) ?_
          exact J76 a5.1 a5.2.1 (0 : Int32) p2.2 hf
        · have hf := ax_neg hc6 hf
          refine aw_iload_n dX12_leastNet_32 rfl rfl ?_
          refine aw_iconst (v := -1) dX12_leastNet_33 (by decide) ?_
          refine aw_icmp_eq (tgt := 71) dX12_leastNet_34 (by decide) (fun hc5 => ?_) (fun hc5 => ?_)
          · have hf := ax_pos hc5 hf
            refine aw_iconst (v := 1) dX12_leastNet_71 (by decide) ?_
            refine aw_goto (tgt := 76) dX12_leastNet_72 (by decide) ?_
            exact J76 a5.1 a5.2.1 (1 : Int32) p2.2 hf
          · have hf := ax_neg hc5 hf
            refine aw_aload_n dX12_leastNet_37 rfl rfl ?_
            refine aw_iload_n dX12_leastNet_38 rfl rfl ?_
            refine aw_iload dX12_leastNet_39 rfl ?_
            obtain ⟨p3, hp3, hf⟩ := ax_bind hf
            refine aw_cVi (As := [.int x1, .int a5.2.1]) (st := []) dX12_leastNet_41 cl_X12_157 iv_X12_costOf (k_X12_costOf (Q := (fun v h' => v = some (.int p3.1) ∧ h' = hp p3.2 gb)) x1 a5.2.1 p2.2 gb hp3 ⟨rfl, rfl⟩) (ci := 12) rfl (hp_get sh_58) rfl rfl rfl (Nat.le_of_ble_eq_true rfl) rfl (by decide) (by decide) ?_
            refine aw_i2l dX12_leastNet_44 ?_
            refine aw_aload_n dX12_leastNet_45 rfl rfl ?_
            refine aw_gR dX12_leastNet_46 fl_X12_46 sh_58 rfl ?_
            refine aw_iload dX12_leastNet_49 rfl ?_
            obtain ⟨hc2, hf⟩ := ax_ite hf
            refine aw_lB dX12_leastNet_51 sh_68 hc2 ?_
            refine aw_ladd dX12_leastNet_52 ?_
            refine aw_aload_n dX12_leastNet_53 rfl rfl ?_
            refine aw_iload_n dX12_leastNet_54 rfl rfl ?_
            refine aw_iload_n dX12_leastNet_55 rfl rfl ?_
            obtain ⟨p4, hp4, hf⟩ := ax_bind hf
            refine aw_cVi (As := [.int x1, .int a5.1]) (st := [.long ((p3.1).toInt64 + (rB p3.2 68 (a5.2.1).toNatClampNeg))]) dX12_leastNet_56 cl_X12_157 iv_X12_costOf (k_X12_costOf (Q := (fun v h' => v = some (.int p4.1) ∧ h' = hp p4.2 gb)) x1 a5.1 p3.2 gb hp4 ⟨rfl, rfl⟩) (ci := 12) rfl (hp_get sh_58) rfl rfl rfl (Nat.le_of_ble_eq_true rfl) rfl (by decide) (by decide) ?_
            refine aw_i2l dX12_leastNet_59 ?_
            refine aw_aload_n dX12_leastNet_60 rfl rfl ?_
            refine aw_gR dX12_leastNet_61 fl_X12_46 sh_58 rfl ?_
            refine aw_iload_n dX12_leastNet_64 rfl rfl ?_
            obtain ⟨hc3, hf⟩ := ax_ite hf
            refine aw_lB dX12_leastNet_65 sh_68 hc3 ?_
            refine aw_ladd dX12_leastNet_66 ?_
            refine aw_lcmp_ge (tgt := 75) dX12_leastNet_67 dX12_leastNet_68 (by decide) (fun hc4 => ?_) (fun hc4 => ?_)
            · have hf := ax_pos hc4 hf
              refine aw_iconst (v := 0) dX12_leastNet_75 (by decide) ?_
              exact J76 a5.1 a5.2.1 (0 : Int32) p4.2 hf
            · have hf := ax_neg hc4 hf
              refine aw_iconst (v := 1) dX12_leastNet_71 (by decide) ?_
              refine aw_goto (tgt := 76) dX12_leastNet_72 (by decide) ?_
              exact J76 a5.1 a5.2.1 (1 : Int32) p4.2 hf
  · refine aw_iload_n dX12_leastNet_96 rfl rfl ?_
    cases hf
    exact aw_iret dX12_leastNet_97 hq (Nat.le_refl _) (Nat.le_refl _)
noncomputable def f_X12_laysAuction_L2 (z1 : Int32) (a2 : Int32 × sx_M) : Option ((Int32 × sx_M) ⊕ (sx_M)) :=
  (if (8 : Int32) ≤ a2.1 then
 some (.inr a2.2)
else
 (if ¬ (a2.1 < 0 ∨ 8 ≤ (a2.1).toNatClampNeg) then
 some (.inl ((a2.1 + (1 : Int32)), (wB a2.2 68 (a2.1).toNatClampNeg (0 : Int64))))
else none))
noncomputable def f_X12_laysAuction_L23 (z1 : Int32) (a23 : Int32 × sx_M) : Option ((Int32 × sx_M) ⊕ (sx_M)) :=
  (if (7 : Int32) ≤ a23.1 then
 some (.inr a23.2)
else
 (if ¬ (a23.1 < 0 ∨ 7 ≤ (a23.1).toNatClampNeg) then
 (if ¬ (a23.1 < 0 ∨ 600 ≤ (a23.1).toNatClampNeg) then
 some (.inl ((a23.1 + (1 : Int32)), (wA (wA a23.2 67 (a23.1).toNatClampNeg (-1 : Int32)) 69 (a23.1).toNatClampNeg a23.1)))
else none)
else none))
noncomputable def f_X12_laysAuction_L179 (z1 : Int32) (z1 : Int32) (z2 : Int32) (z4 : Int32) (z5 : Int32) (z9 : Int64) (a179 : Int32 × Int32 × sx_M) : Option ((Int32 × Int32 × sx_M) ⊕ (Int32 × sx_M)) :=
  (f_X12_workers a179.2.2).bind (fun p4 =>
 (if p4.1 ≤ a179.2.1 then
 some (.inr (a179.1, p4.2))
else
 (if ¬ (a179.2.1 < 0 ∨ 7 ≤ (a179.2.1).toNatClampNeg) then
 (if (rA p4.2 67 (a179.2.1).toNatClampNeg) = z5 then
 (if ¬ (a179.2.1 < 0 ∨ 7 ≤ (a179.2.1).toNatClampNeg) then
 (if ¬ (a179.1 < 0 ∨ 600 ≤ (a179.1).toNatClampNeg) then
 some (.inl ((a179.1 + (1 : Int32)), (a179.2.1 + (1 : Int32)), (wA (wA p4.2 67 (a179.2.1).toNatClampNeg (-1 : Int32)) 69 (a179.1).toNatClampNeg a179.2.1)))
else none)
else none)
else
 some (.inl (a179.1, (a179.2.1 + (1 : Int32)), p4.2)))
else none)))
noncomputable def f_X12_laysAuction_L61_J161 (z1 : Int32) (y2_161 : Int32) (y3_161 : Int32) (y4_161 : Int32) (y5_161 : Int32) (t0_161 : Int64) (s_161 : sx_M) : Option ((Int32 × Int32 × sx_M) ⊕ ((sx_M) ⊕ (sx_M))) :=
  (whT (f_X12_laysAuction_L179 z1 z1 (y2_161 + (1 : Int32)) y4_161 y5_161 t0_161) (y3_161, (0 : Int32), (wI s_161 58 26 ((rI s_161 58 26) + (1 : Int32))))).bind (fun b5 =>
 (if ¬ (y5_161 < 0 ∨ 8 ≤ (y5_161).toNatClampNeg) then
 (if ¬ (y5_161 < 0 ∨ 8 ≤ (y5_161).toNatClampNeg) then
 (if ¬ (y4_161 < 0 ∨ 7 ≤ (y4_161).toNatClampNeg) then
 some (.inl ((y2_161 + (1 : Int32)), b5.1, (wA (wB b5.2 68 (y5_161).toNatClampNeg ((rB b5.2 68 (y5_161).toNatClampNeg) + (t0_161 + (z1).toInt64))) 67 (y4_161).toNatClampNeg y5_161)))
else none)
else none)
else none))
noncomputable def f_X12_laysAuction_L61 (z1 : Int32) (a61 : Int32 × Int32 × sx_M) : Option ((Int32 × Int32 × sx_M) ⊕ ((sx_M) ⊕ (sx_M))) :=
  (if a61.2.1 ≤ a61.1 then
 some (.inr (.inl a61.2.2))
else
 (if (500 : Int32) ≤ (rI a61.2.2 58 26) then
 some (.inr (.inl a61.2.2))
else
 (if ¬ (a61.1 < 0 ∨ 600 ≤ (a61.1).toNatClampNeg) then
 (f_X12_leastNet (rA a61.2.2 69 (a61.1).toNatClampNeg) (-1 : Int32) a61.2.2).bind (fun p6 =>
 (if p6.1 = (-1 : Int32) then
 some (.inr (.inr (p6.2)))
else
 (f_X12_leastNet (rA a61.2.2 69 (a61.1).toNatClampNeg) p6.1 p6.2).bind (fun p7 =>
 (f_X12_costOf (rA a61.2.2 69 (a61.1).toNatClampNeg) p6.1 p7.2).bind (fun p8 =>
 (if ¬ (p6.1 < 0 ∨ 8 ≤ (p6.1).toNatClampNeg) then
 (if p7.1 = (-1 : Int32) then
 f_X12_laysAuction_L61_J161 z1 a61.1 a61.2.1 (rA a61.2.2 69 (a61.1).toNatClampNeg) p6.1 (1000 : Int64) p8.2
else
 (f_X12_costOf (rA a61.2.2 69 (a61.1).toNatClampNeg) p7.1 p8.2).bind (fun p9 =>
 (if ¬ (p7.1 < 0 ∨ 8 ≤ (p7.1).toNatClampNeg) then
 f_X12_laysAuction_L61_J161 z1 a61.1 a61.2.1 (rA a61.2.2 69 (a61.1).toNatClampNeg) p6.1 (((p9.1).toInt64 + (rB p9.2 68 (p7.1).toNatClampNeg)) - ((p8.1).toInt64 + (rB p8.2 68 (p6.1).toNatClampNeg))) p9.2
else none)))
else none)))))
else none)))
noncomputable def f_X12_laysAuction (x1 : Int32) (s : sx_M) : Option sx_M :=
  (whT (f_X12_laysAuction_L2 x1) ((0 : Int32), s)).bind (fun b1 =>
 (whT (f_X12_laysAuction_L23 x1) ((0 : Int32), b1)).bind (fun b2 =>
 (f_X12_workers b2).bind (fun p3 =>
 (whT (f_X12_laysAuction_L61 x1) ((0 : Int32), p3.1, (wI p3.2 58 26 (0 : Int32)))).bind (fun b10 => (Sum.elim (fun e11 =>
 some e11) (fun e12 =>
 some e12)) b10))))
set_option maxRecDepth 100000 in
set_option maxHeartbeats 4000000 in
theorem k_X12_laysAuction {l : Launch} {X : ax_X} {Q : Option Value → ax_H → Prop} (x1 : Int32) (s : sx_M) (gb : ax_H) {p : sx_M} (hf : f_X12_laysAuction x1 s = some p) (hq : Q (none) (hp p gb)) : AM l X yX12_laysAuction cX12_laysAuction 12 none 3 0 0 [.ref 58, .int x1] (hp s gb) Q := by
  refine aw_met (own := RX12) (nm := "laysAuction") (L := [some (.ref 58), some (.int x1), none, none, none, none, none, none, none, none, none, none]) (by decide +kernel) rfl rfl (And.intro rfl (And.intro rfl trivial)) (Nat.le_of_ble_eq_true rfl) ?_
  unfold f_X12_laysAuction at hf
  refine aw_iconst (v := 0) dX12_laysAuction_0 (by decide) ?_
  refine aw_istore_n (L' := [some (.ref 58), some (.int x1), some (.int (0 : Int32)), none, none, none, none, none, none, none, none, none]) dX12_laysAuction_1 rfl (by decide) rfl ?_
  obtain ⟨b1, hb1, hf⟩ := ax_bind hf
  refine wh_go ((0 : Int32), s) (fun a2 : Int32 × sx_M => AW l X RX12 "laysAuction" cX12_laysAuction 12 none (ax_rm 3 0 0) (ax_MQ X Q 0 0) 0 0 2 [some (.ref 58), some (.int x1), some (.int a2.1), none, none, none, none, none, none, none, none, none] [] (hp a2.2 gb)) (fun e : sx_M => AW l X RX12 "laysAuction" cX12_laysAuction 12 none (ax_rm 3 0 0) (ax_MQ X Q 0 0) 0 0 21 [some (.ref 58), some (.int x1), none, none, none, none, none, none, none, none, none, none] [] (hp e gb)) hb1 ?_ ?_
  · intro a2 r hf hK
    unfold f_X12_laysAuction_L2 at hf
    refine aw_iload_n dX12_laysAuction_2 rfl rfl ?_
    refine aw_bipush (v := 8) dX12_laysAuction_3 (by decide) ?_
    refine aw_icmp_ge (tgt := 21) dX12_laysAuction_5 (by decide) (fun hc2 => ?_) (fun hc2 => ?_)
    · have hf := ax_pos hc2 hf
      refine aw_less (L' := [some (.ref 58), some (.int x1), none, none, none, none, none, none, none, none, none, none]) (And.intro rfl (And.intro rfl trivial)) ?_
      cases hf
      exact hK
    · have hf := ax_neg hc2 hf
      refine aw_aload_n dX12_laysAuction_8 rfl rfl ?_
      refine aw_gR dX12_laysAuction_9 fl_X12_46 sh_58 rfl ?_
      refine aw_iload_n dX12_laysAuction_12 rfl rfl ?_
      refine aw_lconst (v := 0) dX12_laysAuction_13 (by decide) ?_
      obtain ⟨hc1, hf⟩ := ax_ite hf
      refine aw_sB dX12_laysAuction_14 sh_68 hc1 ?_
      refine aw_iinc (v := (a2.1 + (1 : Int32))) (L' := [some (.ref 58), some (.int x1), some (.int (a2.1 + (1 : Int32))), none, none, none, none, none, none, none, none, none]) dX12_laysAuction_15 rfl rfl (by decide) rfl ?_
      refine aw_goto (tgt := 2) dX12_laysAuction_18 (by decide) ?_
      cases hf
      exact hK
  · refine aw_iconst (v := 0) dX12_laysAuction_21 (by decide) ?_
    refine aw_istore_n (L' := [some (.ref 58), some (.int x1), some (.int (0 : Int32)), none, none, none, none, none, none, none, none, none]) dX12_laysAuction_22 rfl (by decide) rfl ?_
    obtain ⟨b2, hb2, hf⟩ := ax_bind hf
    refine wh_go ((0 : Int32), b1) (fun a23 : Int32 × sx_M => AW l X RX12 "laysAuction" cX12_laysAuction 12 none (ax_rm 3 0 0) (ax_MQ X Q 0 0) 0 0 23 [some (.ref 58), some (.int x1), some (.int a23.1), none, none, none, none, none, none, none, none, none] [] (hp a23.2 gb)) (fun e : sx_M => AW l X RX12 "laysAuction" cX12_laysAuction 12 none (ax_rm 3 0 0) (ax_MQ X Q 0 0) 0 0 49 [some (.ref 58), some (.int x1), none, none, none, none, none, none, none, none, none, none] [] (hp e gb)) hb2 ?_ ?_
    · intro a23 r hf hK
      unfold f_X12_laysAuction_L23 at hf
      refine aw_iload_n dX12_laysAuction_23 rfl rfl ?_
      refine aw_bipush (v := 7) dX12_laysAuction_24 (by decide) ?_
      refine aw_icmp_ge (tgt := 49) dX12_laysAuction_26 (by decide) (fun hc5 => ?_) (fun hc5 => ?_)
      · have hf := ax_pos hc5 hf
        refine aw_less (L' := [some (.ref 58), some (.int x1), none, none, none, none, none, none, none, none, none, none]) (And.intro rfl (And.intro rfl trivial)) ?_
        cases hf
        exact hK
      · have hf := ax_neg hc5 hf
        refine aw_aload_n dX12_laysAuction_29 rfl rfl ?_
        refine aw_gR dX12_laysAuction_30 fl_X12_43 sh_58 rfl ?_
        refine aw_iload_n dX12_laysAuction_33 rfl rfl ?_
        refine aw_iconst (v := -1) dX12_laysAuction_34 (by decide) ?_
        obtain ⟨hc3, hf⟩ := ax_ite hf
        refine aw_sA dX12_laysAuction_35 sh_67 hc3 ?_
        refine aw_aload_n dX12_laysAuction_36 rfl rfl ?_
        refine aw_gR dX12_laysAuction_37 fl_X12_50 sh_58 rfl ?_
        refine aw_iload_n dX12_laysAuction_40 rfl rfl ?_
        refine aw_iload_n dX12_laysAuction_41 rfl rfl ?_
        obtain ⟨hc4, hf⟩ := ax_ite hf
        refine aw_sA dX12_laysAuction_42 sh_69 hc4 ?_
        refine aw_iinc (v := (a23.1 + (1 : Int32))) (L' := [some (.ref 58), some (.int x1), some (.int (a23.1 + (1 : Int32))), none, none, none, none, none, none, none, none, none]) dX12_laysAuction_43 rfl rfl (by decide) rfl ?_
        refine aw_goto (tgt := 23) dX12_laysAuction_46 (by decide) ?_
        cases hf
        exact hK
    · refine aw_iconst (v := 0) dX12_laysAuction_49 (by decide) ?_
      refine aw_istore_n (L' := [some (.ref 58), some (.int x1), some (.int (0 : Int32)), none, none, none, none, none, none, none, none, none]) dX12_laysAuction_50 rfl (by decide) rfl ?_
      refine aw_aload_n dX12_laysAuction_51 rfl rfl ?_
      obtain ⟨p3, hp3, hf⟩ := ax_bind hf
      refine aw_cVi (As := []) (st := []) dX12_laysAuction_52 cl_X12_60 iv_X12_workers (k_X12_workers (Q := (fun v h' => v = some (.int p3.1) ∧ h' = hp p3.2 gb)) b2 gb hp3 ⟨rfl, rfl⟩) (ci := 12) rfl (hp_get sh_58) rfl rfl rfl (Nat.le_of_ble_eq_true rfl) rfl (by decide) (by decide) ?_
      refine aw_istore_n (L' := [some (.ref 58), some (.int x1), some (.int (0 : Int32)), some (.int p3.1), none, none, none, none, none, none, none, none]) dX12_laysAuction_55 rfl (by decide) rfl ?_
      refine aw_aload_n dX12_laysAuction_56 rfl rfl ?_
      refine aw_iconst (v := 0) dX12_laysAuction_57 (by decide) ?_
      refine aw_pI dX12_laysAuction_58 fp_X12_271 sh_58 rfl rfl rfl ?_
      obtain ⟨b10, hb10, hf⟩ := ax_bind hf
      refine wh_go ((0 : Int32), p3.1, (wI p3.2 58 26 (0 : Int32))) (fun a61 : Int32 × Int32 × sx_M => AW l X RX12 "laysAuction" cX12_laysAuction 12 none (ax_rm 3 0 0) (ax_MQ X Q 0 0) 0 0 61 [some (.ref 58), some (.int x1), some (.int a61.1), some (.int a61.2.1), none, none, none, none, none, none, none, none] [] (hp a61.2.2 gb)) (Sum.elim (fun e : sx_M => AW l X RX12 "laysAuction" cX12_laysAuction 12 none (ax_rm 3 0 0) (ax_MQ X Q 0 0) 0 0 252 [none, none, none, none, none, none, none, none, none, none, none, none] [] (hp e gb)) (fun v : sx_M => Q (none) (hp v gb))) hb10 ?_ ?_
      · intro a61 r hf hK
        unfold f_X12_laysAuction_L61 at hf
        have J161 : ∀ (y2_161 : Int32) (y3_161 : Int32) (y4_161 : Int32) (y5_161 : Int32) (t0_161 : Int64) (s_161 : sx_M), f_X12_laysAuction_L61_J161 x1 y2_161 y3_161 y4_161 y5_161 t0_161 s_161 = some r → AW l X RX12 "laysAuction" cX12_laysAuction 12 none (ax_rm 3 0 0) (ax_MQ X Q 0 0) 0 0 161 [some (.ref 58), some (.int x1), some (.int y2_161), some (.int y3_161), some (.int y4_161), some (.int y5_161), none, none, none, none, none, none] [.long t0_161] (hp s_161 gb) := by
          intro y2_161 y3_161 y4_161 y5_161 t0_161 s_161 hf
          unfold f_X12_laysAuction_L61_J161 at hf
          refine aw_lstore (L' := [some (.ref 58), some (.int x1), some (.int y2_161), some (.int y3_161), some (.int y4_161), some (.int y5_161), none, none, none, some (.long t0_161), none, none]) dX12_laysAuction_161 (by decide) rfl ?_
          refine aw_iinc (v := (y2_161 + (1 : Int32))) (L' := [some (.ref 58), some (.int x1), some (.int (y2_161 + (1 : Int32))), some (.int y3_161), some (.int y4_161), some (.int y5_161), none, none, none, some (.long t0_161), none, none]) dX12_laysAuction_163 rfl rfl (by decide) rfl ?_
          refine aw_aload_n dX12_laysAuction_166 rfl rfl ?_
          refine aw_dup dX12_laysAuction_167 rfl ?_
          refine aw_gI dX12_laysAuction_168 fl_X12_271 sh_58 rfl ?_
          refine aw_iconst (v := 1) dX12_laysAuction_171 (by decide) ?_
          refine aw_iadd dX12_laysAuction_172 ?_
          refine aw_pI dX12_laysAuction_173 fp_X12_271 sh_58 rfl rfl rfl ?_
          refine aw_iconst (v := 0) dX12_laysAuction_176 (by decide) ?_
          refine aw_istore (L' := [some (.ref 58), some (.int x1), some (.int (y2_161 + (1 : Int32))), some (.int y3_161), some (.int y4_161), some (.int y5_161), none, none, none, some (.long t0_161), none, some (.int (0 : Int32))]) dX12_laysAuction_177 (by decide) rfl ?_
          obtain ⟨b5, hb5, hf⟩ := ax_bind hf
          refine wh_go (y3_161, (0 : Int32), (wI s_161 58 26 ((rI s_161 58 26) + (1 : Int32)))) (fun a179 : Int32 × Int32 × sx_M => AW l X RX12 "laysAuction" cX12_laysAuction 12 none (ax_rm 3 0 0) (ax_MQ X Q 0 0) 0 0 179 [some (.ref 58), some (.int x1), some (.int (y2_161 + (1 : Int32))), some (.int a179.1), some (.int y4_161), some (.int y5_161), none, none, none, some (.long t0_161), none, some (.int a179.2.1)] [] (hp a179.2.2 gb)) (fun e : Int32 × sx_M => AW l X RX12 "laysAuction" cX12_laysAuction 12 none (ax_rm 3 0 0) (ax_MQ X Q 0 0) 0 0 225 [some (.ref 58), some (.int x1), some (.int (y2_161 + (1 : Int32))), some (.int e.1), some (.int y4_161), some (.int y5_161), none, none, none, some (.long t0_161), none, none] [] (hp e.2 gb)) hb5 ?_ ?_
          · intro a179 r hf hK
            unfold f_X12_laysAuction_L179 at hf
            refine aw_iload dX12_laysAuction_179 rfl ?_
            refine aw_aload_n dX12_laysAuction_181 rfl rfl ?_
            obtain ⟨p4, hp4, hf⟩ := ax_bind hf
            refine aw_cVi (As := []) (st := [.int a179.2.1]) dX12_laysAuction_182 cl_X12_60 iv_X12_workers (k_X12_workers (Q := (fun v h' => v = some (.int p4.1) ∧ h' = hp p4.2 gb)) a179.2.2 gb hp4 ⟨rfl, rfl⟩) (ci := 12) rfl (hp_get sh_58) rfl rfl rfl (Nat.le_of_ble_eq_true rfl) rfl (by decide) (by decide) ?_
            refine aw_icmp_ge (tgt := 225) dX12_laysAuction_185 (by decide) (fun hc10 => ?_) (fun hc10 => ?_)
            · have hf := ax_pos hc10 hf
              refine aw_less (L' := [some (.ref 58), some (.int x1), some (.int (y2_161 + (1 : Int32))), some (.int a179.1), some (.int y4_161), some (.int y5_161), none, none, none, some (.long t0_161), none, none]) (And.intro rfl (And.intro rfl (And.intro rfl (And.intro rfl (And.intro rfl (And.intro rfl (And.intro rfl trivial))))))) ?_
              cases hf
              exact hK
            · have hf := ax_neg hc10 hf
              refine aw_aload_n dX12_laysAuction_188 rfl rfl ?_
              refine aw_gR dX12_laysAuction_189 fl_X12_43 sh_58 rfl ?_
              refine aw_iload dX12_laysAuction_192 rfl ?_
              obtain ⟨hc6, hf⟩ := ax_ite hf
              refine aw_lA dX12_laysAuction_194 sh_67 hc6 ?_
              refine aw_iload dX12_laysAuction_195 rfl ?_
              refine aw_icmp_ne (tgt := 219) dX12_laysAuction_197 (by decide) (fun hc9 => ?_) (fun hc9 => ?_)
              · have hf := ax_neg hc9 hf
                refine aw_iinc (v := (a179.2.1 + (1 : Int32))) (L' := [some (.ref 58), some (.int x1), some (.int (y2_161 + (1 : Int32))), some (.int a179.1), some (.int y4_161), some (.int y5_161), none, none, none, some (.long t0_161), none, some (.int (a179.2.1 + (1 : Int32)))]) dX12_laysAuction_219 rfl rfl (by decide) rfl ?_
                refine aw_goto (tgt := 179) dX12_laysAuction_222 (by decide) ?_
                cases hf
                exact hK
              · have hf := ax_pos hc9 hf
                refine aw_aload_n dX12_laysAuction_200 rfl rfl ?_
                refine aw_gR dX12_laysAuction_201 fl_X12_43 sh_58 rfl ?_
                refine aw_iload dX12_laysAuction_204 rfl ?_
                refine aw_iconst (v := -1) dX12_laysAuction_206 (by decide) ?_
                obtain ⟨hc7, hf⟩ := ax_ite hf
                refine aw_sA dX12_laysAuction_207 sh_67 hc7 ?_
                refine aw_aload_n dX12_laysAuction_208 rfl rfl ?_
                refine aw_gR dX12_laysAuction_209 fl_X12_50 sh_58 rfl ?_
                refine aw_iload_n dX12_laysAuction_212 rfl rfl ?_
                refine aw_iload dX12_laysAuction_213 rfl ?_
                obtain ⟨hc8, hf⟩ := ax_ite hf
                refine aw_sA dX12_laysAuction_215 sh_69 hc8 ?_
                refine aw_iinc (v := (a179.1 + (1 : Int32))) (L' := [some (.ref 58), some (.int x1), some (.int (y2_161 + (1 : Int32))), some (.int (a179.1 + (1 : Int32))), some (.int y4_161), some (.int y5_161), none, none, none, some (.long t0_161), none, some (.int a179.2.1)]) dX12_laysAuction_216 rfl rfl (by decide) rfl ?_
                refine aw_iinc (v := (a179.2.1 + (1 : Int32))) (L' := [some (.ref 58), some (.int x1), some (.int (y2_161 + (1 : Int32))), some (.int (a179.1 + (1 : Int32))), some (.int y4_161), some (.int y5_161), none, none, none, some (.long t0_161), none, some (.int (a179.2.1 + (1 : Int32)))]) dX12_laysAuction_219 rfl rfl (by decide) rfl ?_
                refine aw_goto (tgt := 179) dX12_laysAuction_222 (by decide) ?_
                cases hf
                exact hK
          · refine aw_aload_n dX12_laysAuction_225 rfl rfl ?_
            refine aw_gR dX12_laysAuction_226 fl_X12_46 sh_58 rfl ?_
            refine aw_iload dX12_laysAuction_229 rfl ?_
            refine aw_dup2_11 dX12_laysAuction_231 rfl rfl ?_
            obtain ⟨hc11, hf⟩ := ax_ite hf
            refine aw_lB dX12_laysAuction_232 sh_68 hc11 ?_
            refine aw_lload dX12_laysAuction_233 rfl ?_
            refine aw_iload_n dX12_laysAuction_235 rfl rfl ?_
            refine aw_i2l dX12_laysAuction_236 ?_
            refine aw_ladd dX12_laysAuction_237 ?_
            refine aw_ladd dX12_laysAuction_238 ?_
            obtain ⟨hc12, hf⟩ := ax_ite hf
            refine aw_sB dX12_laysAuction_239 sh_68 hc12 ?_
            refine aw_aload_n dX12_laysAuction_240 rfl rfl ?_
            refine aw_gR dX12_laysAuction_241 fl_X12_43 sh_58 rfl ?_
            refine aw_iload dX12_laysAuction_244 rfl ?_
            refine aw_iload dX12_laysAuction_246 rfl ?_
            obtain ⟨hc13, hf⟩ := ax_ite hf
            refine aw_sA dX12_laysAuction_248 sh_67 hc13 ?_
            refine aw_goto (tgt := 61) dX12_laysAuction_249 (by decide) ?_
            refine aw_less (L' := [some (.ref 58), some (.int x1), some (.int (y2_161 + (1 : Int32))), some (.int b5.1), none, none, none, none, none, none, none, none]) (And.intro rfl (And.intro rfl (And.intro rfl (And.intro rfl trivial)))) ?_
            cases hf
            exact hK
        refine aw_iload_n dX12_laysAuction_61 rfl rfl ?_
        refine aw_iload_n dX12_laysAuction_62 rfl rfl ?_
        refine aw_icmp_ge (tgt := 252) dX12_laysAuction_63 (by decide) (fun hc20 => ?_) (fun hc20 => ?_)
        · have hf := ax_pos hc20 hf
          refine aw_less (L' := [none, none, none, none, none, none, none, none, none, none, none, none]) trivial ?_
          cases hf
          exact hK
        · have hf := ax_neg hc20 hf
          refine aw_aload_n dX12_laysAuction_66 rfl rfl ?_
          refine aw_gI dX12_laysAuction_67 fl_X12_271 sh_58 rfl ?_
          refine aw_sipush (v := 500) dX12_laysAuction_70 (by decide) ?_
          refine aw_icmp_ge (tgt := 252) dX12_laysAuction_73 (by decide) (fun hc19 => ?_) (fun hc19 => ?_)
          · have hf := ax_pos hc19 hf
            refine aw_less (L' := [none, none, none, none, none, none, none, none, none, none, none, none]) trivial ?_
            cases hf
            exact hK
          · have hf := ax_neg hc19 hf
            refine aw_aload_n dX12_laysAuction_76 rfl rfl ?_
            refine aw_gR dX12_laysAuction_77 fl_X12_50 sh_58 rfl ?_
            refine aw_iload_n dX12_laysAuction_80 rfl rfl ?_
            obtain ⟨hc14, hf⟩ := ax_ite hf
            refine aw_lA dX12_laysAuction_81 sh_69 hc14 ?_
            refine aw_istore (L' := [some (.ref 58), some (.int x1), some (.int a61.1), some (.int a61.2.1), some (.int (rA a61.2.2 69 (a61.1).toNatClampNeg)), none, none, none, none, none, none, none]) dX12_laysAuction_82 (by decide) rfl ?_
            refine aw_aload_n dX12_laysAuction_84 rfl rfl ?_
            refine aw_iload dX12_laysAuction_85 rfl ?_
            refine aw_iconst (v := -1) dX12_laysAuction_87 (by decide) ?_
            obtain ⟨p6, hp6, hf⟩ := ax_bind hf
            refine aw_cVi (As := [.int (rA a61.2.2 69 (a61.1).toNatClampNeg), .int (-1 : Int32)]) (st := []) dX12_laysAuction_88 cl_X12_274 iv_X12_leastNet (k_X12_leastNet (Q := (fun v h' => v = some (.int p6.1) ∧ h' = hp p6.2 gb)) (rA a61.2.2 69 (a61.1).toNatClampNeg) (-1 : Int32) a61.2.2 gb hp6 ⟨rfl, rfl⟩) (ci := 12) rfl (hp_get sh_58) rfl rfl rfl (Nat.le_of_ble_eq_true rfl) rfl (by decide) (by decide) ?_
            refine aw_istore (L' := [some (.ref 58), some (.int x1), some (.int a61.1), some (.int a61.2.1), some (.int (rA a61.2.2 69 (a61.1).toNatClampNeg)), some (.int p6.1), none, none, none, none, none, none]) dX12_laysAuction_91 (by decide) rfl ?_
            refine aw_iload dX12_laysAuction_93 rfl ?_
            refine aw_iconst (v := -1) dX12_laysAuction_95 (by decide) ?_
            refine aw_icmp_ne (tgt := 100) dX12_laysAuction_96 (by decide) (fun hc18 => ?_) (fun hc18 => ?_)
            · have hf := ax_neg hc18 hf
              refine aw_aload_n dX12_laysAuction_100 rfl rfl ?_
              refine aw_iload dX12_laysAuction_101 rfl ?_
              refine aw_iload dX12_laysAuction_103 rfl ?_
              obtain ⟨p7, hp7, hf⟩ := ax_bind hf
              refine aw_cVi (As := [.int (rA a61.2.2 69 (a61.1).toNatClampNeg), .int p6.1]) (st := []) dX12_laysAuction_105 cl_X12_274 iv_X12_leastNet (k_X12_leastNet (Q := (fun v h' => v = some (.int p7.1) ∧ h' = hp p7.2 gb)) (rA a61.2.2 69 (a61.1).toNatClampNeg) p6.1 p6.2 gb hp7 ⟨rfl, rfl⟩) (ci := 12) rfl (hp_get sh_58) rfl rfl rfl (Nat.le_of_ble_eq_true rfl) rfl (by decide) (by decide) ?_
              refine aw_istore (L' := [some (.ref 58), some (.int x1), some (.int a61.1), some (.int a61.2.1), some (.int (rA a61.2.2 69 (a61.1).toNatClampNeg)), some (.int p6.1), some (.int p7.1), none, none, none, none, none]) dX12_laysAuction_108 (by decide) rfl ?_
              refine aw_aload_n dX12_laysAuction_110 rfl rfl ?_
              refine aw_iload dX12_laysAuction_111 rfl ?_
              refine aw_iload dX12_laysAuction_113 rfl ?_
              obtain ⟨p8, hp8, hf⟩ := ax_bind hf
              refine aw_cVi (As := [.int (rA a61.2.2 69 (a61.1).toNatClampNeg), .int p6.1]) (st := []) dX12_laysAuction_115 cl_X12_157 iv_X12_costOf (k_X12_costOf (Q := (fun v h' => v = some (.int p8.1) ∧ h' = hp p8.2 gb)) (rA a61.2.2 69 (a61.1).toNatClampNeg) p6.1 p7.2 gb hp8 ⟨rfl, rfl⟩) (ci := 12) rfl (hp_get sh_58) rfl rfl rfl (Nat.le_of_ble_eq_true rfl) rfl (by decide) (by decide) ?_
              refine aw_i2l dX12_laysAuction_118 ?_
              refine aw_aload_n dX12_laysAuction_119 rfl rfl ?_
              refine aw_gR dX12_laysAuction_120 fl_X12_46 sh_58 rfl ?_
              refine aw_iload dX12_laysAuction_123 rfl ?_
              obtain ⟨hc15, hf⟩ := ax_ite hf
              refine aw_lB dX12_laysAuction_125 sh_68 hc15 ?_
              refine aw_ladd dX12_laysAuction_126 ?_
              refine aw_lstore (L' := [some (.ref 58), some (.int x1), some (.int a61.1), some (.int a61.2.1), some (.int (rA a61.2.2 69 (a61.1).toNatClampNeg)), some (.int p6.1), some (.int p7.1), some (.long ((p8.1).toInt64 + (rB p8.2 68 (p6.1).toNatClampNeg))), none, none, none, none]) dX12_laysAuction_127 (by decide) rfl ?_
              refine aw_iload dX12_laysAuction_129 rfl ?_
              refine aw_iconst (v := -1) dX12_laysAuction_131 (by decide) ?_
              refine aw_icmp_ne (tgt := 141) dX12_laysAuction_132 (by decide) (fun hc17 => ?_) (fun hc17 => ?_)
              · have hf := ax_neg hc17 hf
                refine aw_aload_n dX12_laysAuction_141 rfl rfl ?_
                refine aw_iload dX12_laysAuction_142 rfl ?_
                refine aw_iload dX12_laysAuction_144 rfl ?_
                obtain ⟨p9, hp9, hf⟩ := ax_bind hf
                refine aw_cVi (As := [.int (rA a61.2.2 69 (a61.1).toNatClampNeg), .int p7.1]) (st := []) dX12_laysAuction_146 cl_X12_157 iv_X12_costOf (k_X12_costOf (Q := (fun v h' => v = some (.int p9.1) ∧ h' = hp p9.2 gb)) (rA a61.2.2 69 (a61.1).toNatClampNeg) p7.1 p8.2 gb hp9 ⟨rfl, rfl⟩) (ci := 12) rfl (hp_get sh_58) rfl rfl rfl (Nat.le_of_ble_eq_true rfl) rfl (by decide) (by decide) ?_
                refine aw_i2l dX12_laysAuction_149 ?_
                refine aw_aload_n dX12_laysAuction_150 rfl rfl ?_
                refine aw_gR dX12_laysAuction_151 fl_X12_46 sh_58 rfl ?_
                refine aw_iload dX12_laysAuction_154 rfl ?_
                obtain ⟨hc16, hf⟩ := ax_ite hf
                refine aw_lB dX12_laysAuction_156 sh_68 hc16 ?_
                refine aw_ladd dX12_laysAuction_157 ?_
                refine aw_lload dX12_laysAuction_158 rfl ?_
                refine aw_lsub dX12_laysAuction_160 ?_
                refine aw_less (L' := [some (.ref 58), some (.int x1), some (.int a61.1), some (.int a61.2.1), some (.int (rA a61.2.2 69 (a61.1).toNatClampNeg)), some (.int p6.1), none, none, none, none, none, none]) (And.intro rfl (And.intro rfl (And.intro rfl (And.intro rfl (And.intro rfl (And.intro rfl trivial)))))) ?_
                exact J161 a61.1 a61.2.1 (rA a61.2.2 69 (a61.1).toNatClampNeg) p6.1 (((p9.1).toInt64 + (rB p9.2 68 (p7.1).toNatClampNeg)) - ((p8.1).toInt64 + (rB p8.2 68 (p6.1).toNatClampNeg))) p9.2 hf
              · have hf := ax_pos hc17 hf
                refine aw_ldc2 dX12_laysAuction_135 kc_X12_277 ?_
                refine aw_goto (tgt := 161) dX12_laysAuction_138 (by decide) ?_
                refine aw_less (L' := [some (.ref 58), some (.int x1), some (.int a61.1), some (.int a61.2.1), some (.int (rA a61.2.2 69 (a61.1).toNatClampNeg)), some (.int p6.1), none, none, none, none, none, none]) (And.intro rfl (And.intro rfl (And.intro rfl (And.intro rfl (And.intro rfl (And.intro rfl trivial)))))) ?_
                exact J161 a61.1 a61.2.1 (rA a61.2.2 69 (a61.1).toNatClampNeg) p6.1 (1000 : Int64) p8.2 hf
            · have hf := ax_pos hc18 hf
              cases hf
              exact aw_vret dX12_laysAuction_99 hK (Nat.le_refl _) (Nat.le_refl _)
      · rcases b10 with e11 | e12
        · cases hf
          exact aw_vret dX12_laysAuction_252 hq (Nat.le_refl _) (Nat.le_refl _)
        · cases hf
          exact hq
noncomputable def f_X12_auction (x1 : Int32) (x2 : Int32) (s : sx_M) : Option (Int64 × sx_M) :=
  (f_X12_in ((x1).toInt64) (1 : Int64) (99 : Int64) s).bind (fun p1 =>
 (if p1.1 = 0 then
 some ((-9223372036854775808 : Int64), p1.2)
else
 (f_X12_in ((x2).toInt64) (0 : Int64) (2 : Int64) p1.2).bind (fun p2 =>
 (if p2.1 = 0 then
 some ((-9223372036854775808 : Int64), p2.2)
else
 (f_X12_laysAuction x1 p2.2).bind (fun p3 =>
 (if x2 = 0 then
 some (((rI p3 58 26)).toInt64, p3)
else
 (if x2 = (1 : Int32) then
 (f_X12_hasMany p3).bind (fun p5 =>
 (f_X12_workers p5.2).bind (fun p6 =>
 (if p5.1 = p6.1 then
 some ((1 : Int64), p6.2)
else
 some ((0 : Int64), p6.2))))
else
 (f_X12_hasSum p3).bind (fun p4 =>
 some (p4.1, p4.2)))))))))
set_option maxRecDepth 100000 in
set_option maxHeartbeats 4000000 in
theorem k_X12_auction {l : Launch} {X : ax_X} {Q : Option Value → ax_H → Prop} (x1 : Int32) (x2 : Int32) (s : sx_M) (gb : ax_H) {p : Int64 × sx_M} (hf : f_X12_auction x1 x2 s = some p) (hq : Q (some (.long p.1)) (hp p.2 gb)) : AM l X yX12_auction cX12_auction 3 (some .long) 4 0 0 [.ref 58, .int x1, .int x2] (hp s gb) Q := by
  refine aw_met (own := RX12) (nm := "auction") (L := [some (.ref 58), some (.int x1), some (.int x2)]) (by decide +kernel) rfl rfl (And.intro rfl (And.intro rfl (And.intro rfl trivial))) (Nat.le_of_ble_eq_true rfl) ?_
  unfold f_X12_auction at hf
  refine aw_iload_n dX12_auction_0 rfl rfl ?_
  refine aw_i2l dX12_auction_1 ?_
  refine aw_lconst (v := 1) dX12_auction_2 (by decide) ?_
  refine aw_ldc2 dX12_auction_3 kc_X12_279 ?_
  obtain ⟨p1, hp1, hf⟩ := ax_bind hf
  refine aw_cSi (As := [.long ((x1).toInt64), .long (1 : Int64), .long (99 : Int64)]) (st := []) dX12_auction_6 cl_X12_64 st_X12_in (k_X12_in (Q := (fun v h' => v = some (.int p1.1) ∧ h' = hp p1.2 gb)) ((x1).toInt64) (1 : Int64) (99 : Int64) s gb hp1 ⟨rfl, rfl⟩) rfl rfl (Nat.le_of_ble_eq_true rfl) rfl (by decide) (by decide) ?_
  refine aw_if_eq (tgt := 24) dX12_auction_9 (by decide) (fun hc5 => ?_) (fun hc5 => ?_)
  · have hf := ax_pos hc5 hf
    refine aw_ldc2 dX12_auction_24 kc_X12_197 ?_
    cases hf
    exact aw_lret dX12_auction_27 hq (Nat.le_refl _) (Nat.le_refl _)
  · have hf := ax_neg hc5 hf
    refine aw_iload_n dX12_auction_12 rfl rfl ?_
    refine aw_i2l dX12_auction_13 ?_
    refine aw_lconst (v := 0) dX12_auction_14 (by decide) ?_
    refine aw_ldc2 dX12_auction_15 kc_X12_281 ?_
    obtain ⟨p2, hp2, hf⟩ := ax_bind hf
    refine aw_cSi (As := [.long ((x2).toInt64), .long (0 : Int64), .long (2 : Int64)]) (st := []) dX12_auction_18 cl_X12_64 st_X12_in (k_X12_in (Q := (fun v h' => v = some (.int p2.1) ∧ h' = hp p2.2 gb)) ((x2).toInt64) (0 : Int64) (2 : Int64) p1.2 gb hp2 ⟨rfl, rfl⟩) rfl rfl (Nat.le_of_ble_eq_true rfl) rfl (by decide) (by decide) ?_
    refine aw_if_ne (tgt := 28) dX12_auction_21 (by decide) (fun hc4 => ?_) (fun hc4 => ?_)
    · have hf := ax_neg hc4 hf
      refine aw_aload_n dX12_auction_28 rfl rfl ?_
      refine aw_iload_n dX12_auction_29 rfl rfl ?_
      obtain ⟨p3, hp3, hf⟩ := ax_bind hf
      refine aw_cVv (As := [.int x1]) (st := []) dX12_auction_30 cl_X12_283 iv_X12_laysAuction (k_X12_laysAuction (Q := (fun v h' => v = none ∧ h' = hp p3 gb)) x1 p2.2 gb hp3 ⟨rfl, rfl⟩) (ci := 12) rfl (hp_get sh_58) rfl rfl rfl (Nat.le_of_ble_eq_true rfl) rfl (by decide) (by decide) ?_
      refine aw_iload_n dX12_auction_33 rfl rfl ?_
      refine aw_if_ne (tgt := 45) dX12_auction_34 (by decide) (fun hc3 => ?_) (fun hc3 => ?_)
      · have hf := ax_neg hc3 hf
        refine aw_iload_n dX12_auction_45 rfl rfl ?_
        refine aw_iconst (v := 1) dX12_auction_46 (by decide) ?_
        refine aw_icmp_ne (tgt := 69) dX12_auction_47 (by decide) (fun hc2 => ?_) (fun hc2 => ?_)
        · have hf := ax_neg hc2 hf
          refine aw_aload_n dX12_auction_69 rfl rfl ?_
          obtain ⟨p4, hp4, hf⟩ := ax_bind hf
          refine aw_cVl (As := []) (st := []) dX12_auction_70 cl_X12_244 iv_X12_hasSum (k_X12_hasSum (Q := (fun v h' => v = some (.long p4.1) ∧ h' = hp p4.2 gb)) p3 gb hp4 ⟨rfl, rfl⟩) (ci := 12) rfl (hp_get sh_58) rfl rfl rfl (Nat.le_of_ble_eq_true rfl) rfl (by decide) (by decide) ?_
          cases hf
          exact aw_lret dX12_auction_73 hq (Nat.le_refl _) (Nat.le_refl _)
        · have hf := ax_pos hc2 hf
          refine aw_aload_n dX12_auction_50 rfl rfl ?_
          obtain ⟨p5, hp5, hf⟩ := ax_bind hf
          refine aw_cVi (As := []) (st := []) dX12_auction_51 cl_X12_248 iv_X12_hasMany (k_X12_hasMany (Q := (fun v h' => v = some (.int p5.1) ∧ h' = hp p5.2 gb)) p3 gb hp5 ⟨rfl, rfl⟩) (ci := 12) rfl (hp_get sh_58) rfl rfl rfl (Nat.le_of_ble_eq_true rfl) rfl (by decide) (by decide) ?_
          refine aw_aload_n dX12_auction_54 rfl rfl ?_
          obtain ⟨p6, hp6, hf⟩ := ax_bind hf
          refine aw_cVi (As := []) (st := [.int p5.1]) dX12_auction_55 cl_X12_60 iv_X12_workers (k_X12_workers (Q := (fun v h' => v = some (.int p6.1) ∧ h' = hp p6.2 gb)) p5.2 gb hp6 ⟨rfl, rfl⟩) (ci := 12) rfl (hp_get sh_58) rfl rfl rfl (Nat.le_of_ble_eq_true rfl) rfl (by decide) (by decide) ?_
          refine aw_icmp_ne (tgt := 65) dX12_auction_58 (by decide) (fun hc1 => ?_) (fun hc1 => ?_)
          · have hf := ax_neg hc1 hf
            refine aw_lconst (v := 0) dX12_auction_65 (by decide) ?_
            refine aw_goto (tgt := 73) dX12_auction_66 (by decide) ?_
            cases hf
            exact aw_lret dX12_auction_73 hq (Nat.le_refl _) (Nat.le_refl _)
          · have hf := ax_pos hc1 hf
            refine aw_lconst (v := 1) dX12_auction_61 (by decide) ?_
            refine aw_goto (tgt := 73) dX12_auction_62 (by decide) ?_
            cases hf
            exact aw_lret dX12_auction_73 hq (Nat.le_refl _) (Nat.le_refl _)
      · have hf := ax_pos hc3 hf
        refine aw_aload_n dX12_auction_37 rfl rfl ?_
        refine aw_gI dX12_auction_38 fl_X12_271 sh_58 rfl ?_
        refine aw_i2l dX12_auction_41 ?_
        refine aw_goto (tgt := 73) dX12_auction_42 (by decide) ?_
        cases hf
        exact aw_lret dX12_auction_73 hq (Nat.le_refl _) (Nat.le_refl _)
    · have hf := ax_pos hc4 hf
      refine aw_ldc2 dX12_auction_24 kc_X12_197 ?_
      cases hf
      exact aw_lret dX12_auction_27 hq (Nat.le_refl _) (Nat.le_refl _)
noncomputable def f_X12_auctionPrice (x1 : Int32) (x2 : Int32) (s : sx_M) : Option (Int32 × sx_M) :=
  (f_X12_in ((x1).toInt64) (1 : Int64) (99 : Int64) s).bind (fun p1 =>
 (if p1.1 = 0 then
 some ((-2 : Int32), p1.2)
else
 (f_X12_isJob x2 p1.2).bind (fun p2 =>
 (if p2.1 = 0 then
 some ((-2 : Int32), p2.2)
else
 (f_X12_laysAuction x1 p2.2).bind (fun p3 =>
 (if ¬ (x2 < 0 ∨ 8 ≤ (x2).toNatClampNeg) then
 some (((rB p3 68 (x2).toNatClampNeg)).toInt32, p3)
else none))))))
set_option maxRecDepth 100000 in
set_option maxHeartbeats 4000000 in
theorem k_X12_auctionPrice {l : Launch} {X : ax_X} {Q : Option Value → ax_H → Prop} (x1 : Int32) (x2 : Int32) (s : sx_M) (gb : ax_H) {p : Int32 × sx_M} (hf : f_X12_auctionPrice x1 x2 s = some p) (hq : Q (some (.int p.1)) (hp p.2 gb)) : AM l X yX12_auctionPrice cX12_auctionPrice 3 (some .int) 4 0 0 [.ref 58, .int x1, .int x2] (hp s gb) Q := by
  refine aw_met (own := RX12) (nm := "auctionPrice") (L := [some (.ref 58), some (.int x1), some (.int x2)]) (by decide +kernel) rfl rfl (And.intro rfl (And.intro rfl (And.intro rfl trivial))) (Nat.le_of_ble_eq_true rfl) ?_
  unfold f_X12_auctionPrice at hf
  refine aw_iload_n dX12_auctionPrice_0 rfl rfl ?_
  refine aw_i2l dX12_auctionPrice_1 ?_
  refine aw_lconst (v := 1) dX12_auctionPrice_2 (by decide) ?_
  refine aw_ldc2 dX12_auctionPrice_3 kc_X12_279 ?_
  obtain ⟨p1, hp1, hf⟩ := ax_bind hf
  refine aw_cSi (As := [.long ((x1).toInt64), .long (1 : Int64), .long (99 : Int64)]) (st := []) dX12_auctionPrice_6 cl_X12_64 st_X12_in (k_X12_in (Q := (fun v h' => v = some (.int p1.1) ∧ h' = hp p1.2 gb)) ((x1).toInt64) (1 : Int64) (99 : Int64) s gb hp1 ⟨rfl, rfl⟩) rfl rfl (Nat.le_of_ble_eq_true rfl) rfl (by decide) (by decide) ?_
  refine aw_if_eq (tgt := 20) dX12_auctionPrice_9 (by decide) (fun hc3 => ?_) (fun hc3 => ?_)
  · have hf := ax_pos hc3 hf
    refine aw_bipush (v := -2) dX12_auctionPrice_20 (by decide) ?_
    cases hf
    exact aw_iret dX12_auctionPrice_22 hq (Nat.le_refl _) (Nat.le_refl _)
  · have hf := ax_neg hc3 hf
    refine aw_aload_n dX12_auctionPrice_12 rfl rfl ?_
    refine aw_iload_n dX12_auctionPrice_13 rfl rfl ?_
    obtain ⟨p2, hp2, hf⟩ := ax_bind hf
    refine aw_cVi (As := [.int x2]) (st := []) dX12_auctionPrice_14 cl_X12_190 iv_X12_isJob (k_X12_isJob (Q := (fun v h' => v = some (.int p2.1) ∧ h' = hp p2.2 gb)) x2 p1.2 gb hp2 ⟨rfl, rfl⟩) (ci := 12) rfl (hp_get sh_58) rfl rfl rfl (Nat.le_of_ble_eq_true rfl) rfl (by decide) (by decide) ?_
    refine aw_if_ne (tgt := 23) dX12_auctionPrice_17 (by decide) (fun hc2 => ?_) (fun hc2 => ?_)
    · have hf := ax_neg hc2 hf
      refine aw_aload_n dX12_auctionPrice_23 rfl rfl ?_
      refine aw_iload_n dX12_auctionPrice_24 rfl rfl ?_
      obtain ⟨p3, hp3, hf⟩ := ax_bind hf
      refine aw_cVv (As := [.int x1]) (st := []) dX12_auctionPrice_25 cl_X12_283 iv_X12_laysAuction (k_X12_laysAuction (Q := (fun v h' => v = none ∧ h' = hp p3 gb)) x1 p2.2 gb hp3 ⟨rfl, rfl⟩) (ci := 12) rfl (hp_get sh_58) rfl rfl rfl (Nat.le_of_ble_eq_true rfl) rfl (by decide) (by decide) ?_
      refine aw_aload_n dX12_auctionPrice_28 rfl rfl ?_
      refine aw_gR dX12_auctionPrice_29 fl_X12_46 sh_58 rfl ?_
      refine aw_iload_n dX12_auctionPrice_32 rfl rfl ?_
      obtain ⟨hc1, hf⟩ := ax_ite hf
      refine aw_lB dX12_auctionPrice_33 sh_68 hc1 ?_
      refine aw_l2i dX12_auctionPrice_34 ?_
      cases hf
      exact aw_iret dX12_auctionPrice_35 hq (Nat.le_refl _) (Nat.le_refl _)
    · have hf := ax_pos hc2 hf
      refine aw_bipush (v := -2) dX12_auctionPrice_20 (by decide) ?_
      cases hf
      exact aw_iret dX12_auctionPrice_22 hq (Nat.le_refl _) (Nat.le_refl _)
noncomputable def f_X12_auctionJob (x1 : Int32) (x2 : Int32) (s : sx_M) : Option (Int32 × sx_M) :=
  (f_X12_in ((x1).toInt64) (1 : Int64) (99 : Int64) s).bind (fun p1 =>
 (if p1.1 = 0 then
 some ((-2 : Int32), p1.2)
else
 (f_X12_isWorker x2 p1.2).bind (fun p2 =>
 (if p2.1 = 0 then
 some ((-2 : Int32), p2.2)
else
 (f_X12_laysAuction x1 p2.2).bind (fun p3 =>
 (if ¬ (x2 < 0 ∨ 7 ≤ (x2).toNatClampNeg) then
 some ((rA p3 67 (x2).toNatClampNeg), p3)
else none))))))
set_option maxRecDepth 100000 in
set_option maxHeartbeats 4000000 in
theorem k_X12_auctionJob {l : Launch} {X : ax_X} {Q : Option Value → ax_H → Prop} (x1 : Int32) (x2 : Int32) (s : sx_M) (gb : ax_H) {p : Int32 × sx_M} (hf : f_X12_auctionJob x1 x2 s = some p) (hq : Q (some (.int p.1)) (hp p.2 gb)) : AM l X yX12_auctionJob cX12_auctionJob 3 (some .int) 4 0 0 [.ref 58, .int x1, .int x2] (hp s gb) Q := by
  refine aw_met (own := RX12) (nm := "auctionJob") (L := [some (.ref 58), some (.int x1), some (.int x2)]) (by decide +kernel) rfl rfl (And.intro rfl (And.intro rfl (And.intro rfl trivial))) (Nat.le_of_ble_eq_true rfl) ?_
  unfold f_X12_auctionJob at hf
  refine aw_iload_n dX12_auctionJob_0 rfl rfl ?_
  refine aw_i2l dX12_auctionJob_1 ?_
  refine aw_lconst (v := 1) dX12_auctionJob_2 (by decide) ?_
  refine aw_ldc2 dX12_auctionJob_3 kc_X12_279 ?_
  obtain ⟨p1, hp1, hf⟩ := ax_bind hf
  refine aw_cSi (As := [.long ((x1).toInt64), .long (1 : Int64), .long (99 : Int64)]) (st := []) dX12_auctionJob_6 cl_X12_64 st_X12_in (k_X12_in (Q := (fun v h' => v = some (.int p1.1) ∧ h' = hp p1.2 gb)) ((x1).toInt64) (1 : Int64) (99 : Int64) s gb hp1 ⟨rfl, rfl⟩) rfl rfl (Nat.le_of_ble_eq_true rfl) rfl (by decide) (by decide) ?_
  refine aw_if_eq (tgt := 20) dX12_auctionJob_9 (by decide) (fun hc3 => ?_) (fun hc3 => ?_)
  · have hf := ax_pos hc3 hf
    refine aw_bipush (v := -2) dX12_auctionJob_20 (by decide) ?_
    cases hf
    exact aw_iret dX12_auctionJob_22 hq (Nat.le_refl _) (Nat.le_refl _)
  · have hf := ax_neg hc3 hf
    refine aw_aload_n dX12_auctionJob_12 rfl rfl ?_
    refine aw_iload_n dX12_auctionJob_13 rfl rfl ?_
    obtain ⟨p2, hp2, hf⟩ := ax_bind hf
    refine aw_cVi (As := [.int x2]) (st := []) dX12_auctionJob_14 cl_X12_187 iv_X12_isWorker (k_X12_isWorker (Q := (fun v h' => v = some (.int p2.1) ∧ h' = hp p2.2 gb)) x2 p1.2 gb hp2 ⟨rfl, rfl⟩) (ci := 12) rfl (hp_get sh_58) rfl rfl rfl (Nat.le_of_ble_eq_true rfl) rfl (by decide) (by decide) ?_
    refine aw_if_ne (tgt := 23) dX12_auctionJob_17 (by decide) (fun hc2 => ?_) (fun hc2 => ?_)
    · have hf := ax_neg hc2 hf
      refine aw_aload_n dX12_auctionJob_23 rfl rfl ?_
      refine aw_iload_n dX12_auctionJob_24 rfl rfl ?_
      obtain ⟨p3, hp3, hf⟩ := ax_bind hf
      refine aw_cVv (As := [.int x1]) (st := []) dX12_auctionJob_25 cl_X12_283 iv_X12_laysAuction (k_X12_laysAuction (Q := (fun v h' => v = none ∧ h' = hp p3 gb)) x1 p2.2 gb hp3 ⟨rfl, rfl⟩) (ci := 12) rfl (hp_get sh_58) rfl rfl rfl (Nat.le_of_ble_eq_true rfl) rfl (by decide) (by decide) ?_
      refine aw_aload_n dX12_auctionJob_28 rfl rfl ?_
      refine aw_gR dX12_auctionJob_29 fl_X12_43 sh_58 rfl ?_
      refine aw_iload_n dX12_auctionJob_32 rfl rfl ?_
      obtain ⟨hc1, hf⟩ := ax_ite hf
      refine aw_lA dX12_auctionJob_33 sh_67 hc1 ?_
      cases hf
      exact aw_iret dX12_auctionJob_34 hq (Nat.le_refl _) (Nat.le_refl _)
    · have hf := ax_pos hc2 hf
      refine aw_bipush (v := -2) dX12_auctionJob_20 (by decide) ?_
      cases hf
      exact aw_iret dX12_auctionJob_22 hq (Nat.le_refl _) (Nat.le_refl _)
noncomputable def f_X12_drawn (x1 : Int64) (s : sx_M) : Option (Int32 × sx_M) :=
  (f_X12_goesAll s).bind (fun p1 =>
 (if (rI p1 58 15) = 0 then
 some ((-1 : Int32), p1)
else
 (if ¬ ((rI p1 58 15)).toInt64 = 0 then
 some (((((((x1 * (6364136223846793005 : Int64)) + (1442695040888963407 : Int64))).toUInt64 >>> (((33 : Int32)).toInt64.toUInt64 &&& Int64.toUInt64 63)).toInt64 - ((((x1 * (6364136223846793005 : Int64)) + (1442695040888963407 : Int64))).toUInt64 >>> (((33 : Int32)).toInt64.toUInt64 &&& Int64.toUInt64 63)).toInt64 / ((rI p1 58 15)).toInt64 * ((rI p1 58 15)).toInt64)).toInt32, p1)
else none)))
set_option maxRecDepth 100000 in
set_option maxHeartbeats 4000000 in
theorem k_X12_drawn {l : Launch} {X : ax_X} {Q : Option Value → ax_H → Prop} (x1 : Int64) (s : sx_M) (gb : ax_H) {p : Int32 × sx_M} (hf : f_X12_drawn x1 s = some p) (hq : Q (some (.int p.1)) (hp p.2 gb)) : AM l X yX12_drawn cX12_drawn 3 (some .int) 5 0 0 [.ref 58, .long x1] (hp s gb) Q := by
  refine aw_met (own := RX12) (nm := "drawn") (L := [some (.ref 58), some (.long x1), none]) (by decide +kernel) rfl rfl (And.intro rfl (And.intro rfl trivial)) (Nat.le_of_ble_eq_true rfl) ?_
  unfold f_X12_drawn at hf
  refine aw_aload_n dX12_drawn_0 rfl rfl ?_
  obtain ⟨p1, hp1, hf⟩ := ax_bind hf
  refine aw_cVv (As := []) (st := []) dX12_drawn_1 cl_X12_173 iv_X12_goesAll (k_X12_goesAll (Q := (fun v h' => v = none ∧ h' = hp p1 gb)) s gb hp1 ⟨rfl, rfl⟩) (ci := 12) rfl (hp_get sh_58) rfl rfl rfl (Nat.le_of_ble_eq_true rfl) rfl (by decide) (by decide) ?_
  refine aw_aload_n dX12_drawn_4 rfl rfl ?_
  refine aw_gI dX12_drawn_5 fl_X12_154 sh_58 rfl ?_
  refine aw_if_ne (tgt := 15) dX12_drawn_8 (by decide) (fun hc2 => ?_) (fun hc2 => ?_)
  · have hf := ax_neg hc2 hf
    refine aw_lload_n dX12_drawn_15 rfl rfl ?_
    refine aw_ldc2 dX12_drawn_16 kc_X12_286 ?_
    refine aw_lmul dX12_drawn_19 ?_
    refine aw_ldc2 dX12_drawn_20 kc_X12_288 ?_
    refine aw_ladd dX12_drawn_23 ?_
    refine aw_bipush (v := 33) dX12_drawn_24 (by decide) ?_
    refine aw_lushr dX12_drawn_26 ?_
    refine aw_aload_n dX12_drawn_27 rfl rfl ?_
    refine aw_gI dX12_drawn_28 fl_X12_154 sh_58 rfl ?_
    refine aw_i2l dX12_drawn_31 ?_
    obtain ⟨hc1, hf⟩ := ax_ite hf
    refine aw_lrem dX12_drawn_32 hc1 ?_
    refine aw_l2i dX12_drawn_33 ?_
    cases hf
    exact aw_iret dX12_drawn_34 hq (Nat.le_refl _) (Nat.le_refl _)
  · have hf := ax_pos hc2 hf
    refine aw_iconst (v := -1) dX12_drawn_11 (by decide) ?_
    refine aw_goto (tgt := 34) dX12_drawn_12 (by decide) ?_
    cases hf
    exact aw_iret dX12_drawn_34 hq (Nat.le_refl _) (Nat.le_refl _)
noncomputable def f_X12_leastOf_L6_J48 (z1 : Int32) (z2 : Int32) (y4_48 : Int32) (t0_48 : Int32) (t1_48 : Int32) (s_48 : sx_M) : Option ((Int32 × Int32 × sx_M) ⊕ (Int32 × sx_M)) :=
  (f_J9_min_7cf53 t0_48 t1_48 s_48).bind (fun p1 =>
 some (.inl (p1.1, (y4_48 + (1 : Int32)), p1.2)))
noncomputable def f_X12_leastOf_L6_J23 (z1 : Int32) (z2 : Int32) (y3_23 : Int32) (y4_23 : Int32) (t0_23 : Int32) (t1_23 : Int32) (s_23 : sx_M) : Option ((Int32 × Int32 × sx_M) ⊕ (Int32 × sx_M)) :=
  (if t1_23 ≤ t0_23 then
 some (.inr (y3_23, s_23))
else
 (if z2 = 0 then
 (f_X12_costOf z1 y4_23 s_23).bind (fun p3 =>
 f_X12_leastOf_L6_J48 z1 z2 y4_23 y3_23 p3.1 p3.2)
else
 (f_X12_costOf y4_23 z1 s_23).bind (fun p2 =>
 f_X12_leastOf_L6_J48 z1 z2 y4_23 y3_23 p2.1 p2.2)))
noncomputable def f_X12_leastOf_L6 (z1 : Int32) (z2 : Int32) (a6 : Int32 × Int32 × sx_M) : Option ((Int32 × Int32 × sx_M) ⊕ (Int32 × sx_M)) :=
  (if z2 = 0 then
 (f_X12_jobs a6.2.2).bind (fun p5 =>
 f_X12_leastOf_L6_J23 z1 z2 a6.1 a6.2.1 a6.2.1 p5.1 p5.2)
else
 (f_X12_workers a6.2.2).bind (fun p4 =>
 f_X12_leastOf_L6_J23 z1 z2 a6.1 a6.2.1 a6.2.1 p4.1 p4.2))
noncomputable def f_X12_leastOf (x1 : Int32) (x2 : Int32) (s : sx_M) : Option (Int64 × sx_M) :=
  (whT (f_X12_leastOf_L6 x1 x2) ((2147483647 : Int32), (0 : Int32), s)).bind (fun b6 =>
 (if b6.1 = (2147483647 : Int32) then
 some ((-9223372036854775808 : Int64), b6.2)
else
 some ((b6.1).toInt64, b6.2)))
set_option maxRecDepth 100000 in
set_option maxHeartbeats 4000000 in
theorem k_X12_leastOf {l : Launch} {X : ax_X} {Q : Option Value → ax_H → Prop} (x1 : Int32) (x2 : Int32) (s : sx_M) (gb : ax_H) {p : Int64 × sx_M} (hf : f_X12_leastOf x1 x2 s = some p) (hq : Q (some (.long p.1)) (hp p.2 gb)) : AM l X yX12_leastOf cX12_leastOf 5 (some .long) 2 0 0 [.ref 58, .int x1, .int x2] (hp s gb) Q := by
  refine aw_met (own := RX12) (nm := "leastOf") (L := [some (.ref 58), some (.int x1), some (.int x2), none, none]) (by decide +kernel) rfl rfl (And.intro rfl (And.intro rfl (And.intro rfl trivial))) (Nat.le_of_ble_eq_true rfl) ?_
  unfold f_X12_leastOf at hf
  refine aw_ldc dX12_leastOf_0 kc_X12_131 ?_
  refine aw_istore_n (L' := [some (.ref 58), some (.int x1), some (.int x2), some (.int (2147483647 : Int32)), none]) dX12_leastOf_2 rfl (by decide) rfl ?_
  refine aw_iconst (v := 0) dX12_leastOf_3 (by decide) ?_
  refine aw_istore (L' := [some (.ref 58), some (.int x1), some (.int x2), some (.int (2147483647 : Int32)), some (.int (0 : Int32))]) dX12_leastOf_4 (by decide) rfl ?_
  obtain ⟨b6, hb6, hf⟩ := ax_bind hf
  refine wh_go ((2147483647 : Int32), (0 : Int32), s) (fun a6 : Int32 × Int32 × sx_M => AW l X RX12 "leastOf" cX12_leastOf 5 (some .long) (ax_rm 2 0 0) (ax_MQ X Q 0 0) 0 0 6 [some (.ref 58), some (.int x1), some (.int x2), some (.int a6.1), some (.int a6.2.1)] [] (hp a6.2.2 gb)) (fun e : Int32 × sx_M => AW l X RX12 "leastOf" cX12_leastOf 5 (some .long) (ax_rm 2 0 0) (ax_MQ X Q 0 0) 0 0 58 [none, none, none, some (.int e.1), none] [] (hp e.2 gb)) hb6 ?_ ?_
  · intro a6 r hf hK
    unfold f_X12_leastOf_L6 at hf
    have J48 : ∀ (y4_48 : Int32) (t0_48 : Int32) (t1_48 : Int32) (s_48 : sx_M), f_X12_leastOf_L6_J48 x1 x2 y4_48 t0_48 t1_48 s_48 = some r → AW l X RX12 "leastOf" cX12_leastOf 5 (some .long) (ax_rm 2 0 0) (ax_MQ X Q 0 0) 0 0 48 [some (.ref 58), some (.int x1), some (.int x2), none, some (.int y4_48)] [.int t1_48, .int t0_48] (hp s_48 gb) := by
      intro y4_48 t0_48 t1_48 s_48 hf
      unfold f_X12_leastOf_L6_J48 at hf
      obtain ⟨p1, hp1, hf⟩ := ax_bind hf
      refine aw_cSi (As := [.int t0_48, .int t1_48]) (st := []) dX12_leastOf_48 cl_X12_94 st_J9_min_7cf53 (k_J9_min_7cf53 (Q := (fun v h' => v = some (.int p1.1) ∧ h' = hp p1.2 gb)) t0_48 t1_48 s_48 gb hp1 ⟨rfl, rfl⟩) rfl rfl (Nat.le_of_ble_eq_true rfl) rfl (by decide) (by decide) ?_
      refine aw_istore_n (L' := [some (.ref 58), some (.int x1), some (.int x2), some (.int p1.1), some (.int y4_48)]) dX12_leastOf_51 rfl (by decide) rfl ?_
      refine aw_iinc (v := (y4_48 + (1 : Int32))) (L' := [some (.ref 58), some (.int x1), some (.int x2), some (.int p1.1), some (.int (y4_48 + (1 : Int32)))]) dX12_leastOf_52 rfl rfl (by decide) rfl ?_
      refine aw_goto (tgt := 6) dX12_leastOf_55 (by decide) ?_
      cases hf
      exact hK
    have J23 : ∀ (y3_23 : Int32) (y4_23 : Int32) (t0_23 : Int32) (t1_23 : Int32) (s_23 : sx_M), f_X12_leastOf_L6_J23 x1 x2 y3_23 y4_23 t0_23 t1_23 s_23 = some r → AW l X RX12 "leastOf" cX12_leastOf 5 (some .long) (ax_rm 2 0 0) (ax_MQ X Q 0 0) 0 0 23 [some (.ref 58), some (.int x1), some (.int x2), some (.int y3_23), some (.int y4_23)] [.int t1_23, .int t0_23] (hp s_23 gb) := by
      intro y3_23 y4_23 t0_23 t1_23 s_23 hf
      unfold f_X12_leastOf_L6_J23 at hf
      refine aw_icmp_ge (tgt := 58) dX12_leastOf_23 (by decide) (fun hc2 => ?_) (fun hc2 => ?_)
      · have hf := ax_pos hc2 hf
        refine aw_less (L' := [none, none, none, some (.int y3_23), none]) (And.intro rfl trivial) ?_
        cases hf
        exact hK
      · have hf := ax_neg hc2 hf
        refine aw_iload_n dX12_leastOf_26 rfl rfl ?_
        refine aw_iload_n dX12_leastOf_27 rfl rfl ?_
        refine aw_if_ne (tgt := 41) dX12_leastOf_28 (by decide) (fun hc1 => ?_) (fun hc1 => ?_)
        · have hf := ax_neg hc1 hf
          refine aw_aload_n dX12_leastOf_41 rfl rfl ?_
          refine aw_iload dX12_leastOf_42 rfl ?_
          refine aw_iload_n dX12_leastOf_44 rfl rfl ?_
          obtain ⟨p2, hp2, hf⟩ := ax_bind hf
          refine aw_cVi (As := [.int y4_23, .int x1]) (st := [.int y3_23]) dX12_leastOf_45 cl_X12_157 iv_X12_costOf (k_X12_costOf (Q := (fun v h' => v = some (.int p2.1) ∧ h' = hp p2.2 gb)) y4_23 x1 s_23 gb hp2 ⟨rfl, rfl⟩) (ci := 12) rfl (hp_get sh_58) rfl rfl rfl (Nat.le_of_ble_eq_true rfl) rfl (by decide) (by decide) ?_
          refine aw_less (L' := [some (.ref 58), some (.int x1), some (.int x2), none, some (.int y4_23)]) (And.intro rfl (And.intro rfl (And.intro rfl (And.intro rfl trivial)))) ?_
          exact J48 y4_23 y3_23 p2.1 p2.2 hf
        · have hf := ax_pos hc1 hf
          refine aw_aload_n dX12_leastOf_31 rfl rfl ?_
          refine aw_iload_n dX12_leastOf_32 rfl rfl ?_
          refine aw_iload dX12_leastOf_33 rfl ?_
          obtain ⟨p3, hp3, hf⟩ := ax_bind hf
          refine aw_cVi (As := [.int x1, .int y4_23]) (st := [.int y3_23]) dX12_leastOf_35 cl_X12_157 iv_X12_costOf (k_X12_costOf (Q := (fun v h' => v = some (.int p3.1) ∧ h' = hp p3.2 gb)) x1 y4_23 s_23 gb hp3 ⟨rfl, rfl⟩) (ci := 12) rfl (hp_get sh_58) rfl rfl rfl (Nat.le_of_ble_eq_true rfl) rfl (by decide) (by decide) ?_
          refine aw_goto (tgt := 48) dX12_leastOf_38 (by decide) ?_
          refine aw_less (L' := [some (.ref 58), some (.int x1), some (.int x2), none, some (.int y4_23)]) (And.intro rfl (And.intro rfl (And.intro rfl (And.intro rfl trivial)))) ?_
          exact J48 y4_23 y3_23 p3.1 p3.2 hf
    refine aw_iload dX12_leastOf_6 rfl ?_
    refine aw_iload_n dX12_leastOf_8 rfl rfl ?_
    refine aw_if_ne (tgt := 19) dX12_leastOf_9 (by decide) (fun hc3 => ?_) (fun hc3 => ?_)
    · have hf := ax_neg hc3 hf
      refine aw_aload_n dX12_leastOf_19 rfl rfl ?_
      obtain ⟨p4, hp4, hf⟩ := ax_bind hf
      refine aw_cVi (As := []) (st := [.int a6.2.1]) dX12_leastOf_20 cl_X12_60 iv_X12_workers (k_X12_workers (Q := (fun v h' => v = some (.int p4.1) ∧ h' = hp p4.2 gb)) a6.2.2 gb hp4 ⟨rfl, rfl⟩) (ci := 12) rfl (hp_get sh_58) rfl rfl rfl (Nat.le_of_ble_eq_true rfl) rfl (by decide) (by decide) ?_
      exact J23 a6.1 a6.2.1 a6.2.1 p4.1 p4.2 hf
    · have hf := ax_pos hc3 hf
      refine aw_aload_n dX12_leastOf_12 rfl rfl ?_
      obtain ⟨p5, hp5, hf⟩ := ax_bind hf
      refine aw_cVi (As := []) (st := [.int a6.2.1]) dX12_leastOf_13 cl_X12_68 iv_X12_jobs (k_X12_jobs (Q := (fun v h' => v = some (.int p5.1) ∧ h' = hp p5.2 gb)) a6.2.2 gb hp5 ⟨rfl, rfl⟩) (ci := 12) rfl (hp_get sh_58) rfl rfl rfl (Nat.le_of_ble_eq_true rfl) rfl (by decide) (by decide) ?_
      refine aw_goto (tgt := 23) dX12_leastOf_16 (by decide) ?_
      exact J23 a6.1 a6.2.1 a6.2.1 p5.1 p5.2 hf
  · refine aw_iload_n dX12_leastOf_58 rfl rfl ?_
    refine aw_ldc dX12_leastOf_59 kc_X12_131 ?_
    refine aw_icmp_ne (tgt := 70) dX12_leastOf_61 (by decide) (fun hc4 => ?_) (fun hc4 => ?_)
    · have hf := ax_neg hc4 hf
      refine aw_iload_n dX12_leastOf_70 rfl rfl ?_
      refine aw_i2l dX12_leastOf_71 ?_
      cases hf
      exact aw_lret dX12_leastOf_72 hq (Nat.le_refl _) (Nat.le_refl _)
    · have hf := ax_pos hc4 hf
      refine aw_ldc2 dX12_leastOf_64 kc_X12_197 ?_
      refine aw_goto (tgt := 72) dX12_leastOf_67 (by decide) ?_
      cases hf
      exact aw_lret dX12_leastOf_72 hq (Nat.le_refl _) (Nat.le_refl _)
noncomputable def f_X12_least__J30 (y1_30 : Int32) (y2_30 : Int32) (t0_30 : Int32) (s_30 : sx_M) : Option (Int64 × sx_M) :=
  (if t0_30 = 0 then
 some ((-9223372036854775808 : Int64), s_30)
else
 (f_X12_leastOf y1_30 y2_30 s_30).bind (fun p1 =>
 some (p1.1, p1.2)))
noncomputable def f_X12_least__J12 (y1_12 : Int32) (y2_12 : Int32) (s_12 : sx_M) : Option (Int64 × sx_M) :=
  (if y2_12 = (1 : Int32) then
 (f_X12_isJob y1_12 s_12).bind (fun p2 =>
 (if p2.1 = 0 then
 f_X12_least__J30 y1_12 y2_12 (0 : Int32) p2.2
else
 f_X12_least__J30 y1_12 y2_12 (1 : Int32) p2.2))
else
 f_X12_least__J30 y1_12 y2_12 (0 : Int32) s_12)
noncomputable def f_X12_least_ (x1 : Int32) (x2 : Int32) (s : sx_M) : Option (Int64 × sx_M) :=
  (if x2 = 0 then
 (f_X12_isWorker x1 s).bind (fun p3 =>
 (if p3.1 = 0 then
 f_X12_least__J12 x1 x2 p3.2
else
 f_X12_least__J30 x1 x2 (1 : Int32) p3.2))
else
 f_X12_least__J12 x1 x2 s)
set_option maxRecDepth 100000 in
set_option maxHeartbeats 4000000 in
theorem k_X12_least_ {l : Launch} {X : ax_X} {Q : Option Value → ax_H → Prop} (x1 : Int32) (x2 : Int32) (s : sx_M) (gb : ax_H) {p : Int64 × sx_M} (hf : f_X12_least_ x1 x2 s = some p) (hq : Q (some (.long p.1)) (hp p.2 gb)) : AM l X yX12_least_ cX12_least_ 4 (some .long) 3 0 0 [.ref 58, .int x1, .int x2] (hp s gb) Q := by
  refine aw_met (own := RX12) (nm := "least") (L := [some (.ref 58), some (.int x1), some (.int x2), none]) (by decide +kernel) rfl rfl (And.intro rfl (And.intro rfl (And.intro rfl trivial))) (Nat.le_of_ble_eq_true rfl) ?_
  unfold f_X12_least_ at hf
  have J30 : ∀ (y1_30 : Int32) (y2_30 : Int32) (t0_30 : Int32) (s_30 : sx_M), f_X12_least__J30 y1_30 y2_30 t0_30 s_30 = some p → AW l X RX12 "least" cX12_least_ 4 (some .long) (ax_rm 3 0 0) (ax_MQ X Q 0 0) 0 0 30 [some (.ref 58), some (.int y1_30), some (.int y2_30), none] [.int t0_30] (hp s_30 gb) := by
    intro y1_30 y2_30 t0_30 s_30 hf
    unfold f_X12_least__J30 at hf
    refine aw_istore_n (L' := [some (.ref 58), some (.int y1_30), some (.int y2_30), some (.int t0_30)]) dX12_least__30 rfl (by decide) rfl ?_
    refine aw_iload_n dX12_least__31 rfl rfl ?_
    refine aw_if_eq (tgt := 44) dX12_least__32 (by decide) (fun hc1 => ?_) (fun hc1 => ?_)
    · have hf := ax_pos hc1 hf
      refine aw_ldc2 dX12_least__44 kc_X12_197 ?_
      cases hf
      exact aw_lret dX12_least__47 hq (Nat.le_refl _) (Nat.le_refl _)
    · have hf := ax_neg hc1 hf
      refine aw_aload_n dX12_least__35 rfl rfl ?_
      refine aw_iload_n dX12_least__36 rfl rfl ?_
      refine aw_iload_n dX12_least__37 rfl rfl ?_
      obtain ⟨p1, hp1, hf⟩ := ax_bind hf
      refine aw_cVl (As := [.int y1_30, .int y2_30]) (st := []) dX12_least__38 cl_X12_290 iv_X12_leastOf (k_X12_leastOf (Q := (fun v h' => v = some (.long p1.1) ∧ h' = hp p1.2 gb)) y1_30 y2_30 s_30 gb hp1 ⟨rfl, rfl⟩) (ci := 12) rfl (hp_get sh_58) rfl rfl rfl (Nat.le_of_ble_eq_true rfl) rfl (by decide) (by decide) ?_
      refine aw_goto (tgt := 47) dX12_least__41 (by decide) ?_
      cases hf
      exact aw_lret dX12_least__47 hq (Nat.le_refl _) (Nat.le_refl _)
  have J12 : ∀ (y1_12 : Int32) (y2_12 : Int32) (s_12 : sx_M), f_X12_least__J12 y1_12 y2_12 s_12 = some p → AW l X RX12 "least" cX12_least_ 4 (some .long) (ax_rm 3 0 0) (ax_MQ X Q 0 0) 0 0 12 [some (.ref 58), some (.int y1_12), some (.int y2_12), none] [] (hp s_12 gb) := by
    intro y1_12 y2_12 s_12 hf
    unfold f_X12_least__J12 at hf
    refine aw_iload_n dX12_least__12 rfl rfl ?_
    refine aw_iconst (v := 1) dX12_least__13 (by decide) ?_
    refine aw_icmp_ne (tgt := 29) dX12_least__14 (by decide) (fun hc3 => ?_) (fun hc3 => ?_)
    · have hf := ax_neg hc3 hf
      refine aw_iconst (v := 0) dX12_least__29 (by decide) ?_
      exact J30 y1_12 y2_12 (0 : Int32) s_12 hf
    · have hf := ax_pos hc3 hf
      refine aw_aload_n dX12_least__17 rfl rfl ?_
      refine aw_iload_n dX12_least__18 rfl rfl ?_
      obtain ⟨p2, hp2, hf⟩ := ax_bind hf
      refine aw_cVi (As := [.int y1_12]) (st := []) dX12_least__19 cl_X12_190 iv_X12_isJob (k_X12_isJob (Q := (fun v h' => v = some (.int p2.1) ∧ h' = hp p2.2 gb)) y1_12 s_12 gb hp2 ⟨rfl, rfl⟩) (ci := 12) rfl (hp_get sh_58) rfl rfl rfl (Nat.le_of_ble_eq_true rfl) rfl (by decide) (by decide) ?_
      refine aw_if_eq (tgt := 29) dX12_least__22 (by decide) (fun hc2 => ?_) (fun hc2 => ?_)
      · have hf := ax_pos hc2 hf
        refine aw_iconst (v := 0) dX12_least__29 (by decide) ?_
        exact J30 y1_12 y2_12 (0 : Int32) p2.2 hf
      · have hf := ax_neg hc2 hf
        refine aw_iconst (v := 1) dX12_least__25 (by decide) ?_
        refine aw_goto (tgt := 30) dX12_least__26 (by decide) ?_
        exact J30 y1_12 y2_12 (1 : Int32) p2.2 hf
  refine aw_iload_n dX12_least__0 rfl rfl ?_
  refine aw_if_ne (tgt := 12) dX12_least__1 (by decide) (fun hc5 => ?_) (fun hc5 => ?_)
  · have hf := ax_neg hc5 hf
    exact J12 x1 x2 s hf
  · have hf := ax_pos hc5 hf
    refine aw_aload_n dX12_least__4 rfl rfl ?_
    refine aw_iload_n dX12_least__5 rfl rfl ?_
    obtain ⟨p3, hp3, hf⟩ := ax_bind hf
    refine aw_cVi (As := [.int x1]) (st := []) dX12_least__6 cl_X12_187 iv_X12_isWorker (k_X12_isWorker (Q := (fun v h' => v = some (.int p3.1) ∧ h' = hp p3.2 gb)) x1 s gb hp3 ⟨rfl, rfl⟩) (ci := 12) rfl (hp_get sh_58) rfl rfl rfl (Nat.le_of_ble_eq_true rfl) rfl (by decide) (by decide) ?_
    refine aw_if_ne (tgt := 25) dX12_least__9 (by decide) (fun hc4 => ?_) (fun hc4 => ?_)
    · have hf := ax_neg hc4 hf
      refine aw_iconst (v := 1) dX12_least__25 (by decide) ?_
      refine aw_goto (tgt := 30) dX12_least__26 (by decide) ?_
      exact J30 x1 x2 (1 : Int32) p3.2 hf
    · have hf := ax_pos hc4 hf
      exact J12 x1 x2 p3.2 hf
noncomputable def f_X12_loss_L32 (a32 : Int64 × Int32 × sx_M) : Option ((Int64 × Int32 × sx_M) ⊕ (Int64 × sx_M)) :=
  (f_X12_workers a32.2.2).bind (fun p3 =>
 (if p3.1 ≤ a32.2.1 then
 some (.inr (a32.1, p3.2))
else
 (f_X12_leastOf a32.2.1 (0 : Int32) p3.2).bind (fun p4 =>
 some (.inl ((a32.1 - p4.1), (a32.2.1 + (1 : Int32)), p4.2)))))
noncomputable def f_X12_loss (x1 : Int32) (s : sx_M) : Option (Int64 × sx_M) :=
  (f_X12_laysFirst s).bind (fun p1 =>
 (f_X12_isThere x1 p1).bind (fun p2 =>
 (if p2.1 = 0 then
 some ((-9223372036854775808 : Int64), p2.2)
else
 (if ¬ (x1 < 0 ∨ 200 ≤ (x1).toNatClampNeg) then
 (if ¬ ((rA p2.2 66 (x1).toNatClampNeg) < 0 ∨ 40320 ≤ ((rA p2.2 66 (x1).toNatClampNeg)).toNatClampNeg) then
 (whT (f_X12_loss_L32) (((rA p2.2 64 ((rA p2.2 66 (x1).toNatClampNeg)).toNatClampNeg)).toInt64, (0 : Int32), p2.2)).bind (fun b5 =>
 some (b5.1, b5.2))
else none)
else none))))
set_option maxRecDepth 100000 in
set_option maxHeartbeats 4000000 in
theorem k_X12_loss {l : Launch} {X : ax_X} {Q : Option Value → ax_H → Prop} (x1 : Int32) (s : sx_M) (gb : ax_H) {p : Int64 × sx_M} (hf : f_X12_loss x1 s = some p) (hq : Q (some (.long p.1)) (hp p.2 gb)) : AM l X yX12_loss cX12_loss 5 (some .long) 6 0 0 [.ref 58, .int x1] (hp s gb) Q := by
  refine aw_met (own := RX12) (nm := "loss") (L := [some (.ref 58), some (.int x1), none, none, none]) (by decide +kernel) rfl rfl (And.intro rfl (And.intro rfl trivial)) (Nat.le_of_ble_eq_true rfl) ?_
  unfold f_X12_loss at hf
  refine aw_aload_n dX12_loss_0 rfl rfl ?_
  obtain ⟨p1, hp1, hf⟩ := ax_bind hf
  refine aw_cVv (As := []) (st := []) dX12_loss_1 cl_X12_199 iv_X12_laysFirst (k_X12_laysFirst (Q := (fun v h' => v = none ∧ h' = hp p1 gb)) s gb hp1 ⟨rfl, rfl⟩) (ci := 12) rfl (hp_get sh_58) rfl rfl rfl (Nat.le_of_ble_eq_true rfl) rfl (by decide) (by decide) ?_
  refine aw_aload_n dX12_loss_4 rfl rfl ?_
  refine aw_iload_n dX12_loss_5 rfl rfl ?_
  obtain ⟨p2, hp2, hf⟩ := ax_bind hf
  refine aw_cVi (As := [.int x1]) (st := []) dX12_loss_6 cl_X12_202 iv_X12_isThere (k_X12_isThere (Q := (fun v h' => v = some (.int p2.1) ∧ h' = hp p2.2 gb)) x1 p1 gb hp2 ⟨rfl, rfl⟩) (ci := 12) rfl (hp_get sh_58) rfl rfl rfl (Nat.le_of_ble_eq_true rfl) rfl (by decide) (by decide) ?_
  refine aw_if_ne (tgt := 16) dX12_loss_9 (by decide) (fun hc4 => ?_) (fun hc4 => ?_)
  · have hf := ax_neg hc4 hf
    refine aw_aload_n dX12_loss_16 rfl rfl ?_
    refine aw_gR dX12_loss_17 fl_X12_34 sh_58 rfl ?_
    refine aw_aload_n dX12_loss_20 rfl rfl ?_
    refine aw_gR dX12_loss_21 fl_X12_40 sh_58 rfl ?_
    refine aw_iload_n dX12_loss_24 rfl rfl ?_
    obtain ⟨hc1, hf⟩ := ax_ite hf
    refine aw_lA dX12_loss_25 sh_66 hc1 ?_
    obtain ⟨hc2, hf⟩ := ax_ite hf
    refine aw_lA dX12_loss_26 sh_64 hc2 ?_
    refine aw_i2l dX12_loss_27 ?_
    refine aw_lstore_n (L' := [some (.ref 58), some (.int x1), some (.long (((rA p2.2 64 ((rA p2.2 66 (x1).toNatClampNeg)).toNatClampNeg)).toInt64)), none, none]) dX12_loss_28 rfl (by decide) rfl ?_
    refine aw_iconst (v := 0) dX12_loss_29 (by decide) ?_
    refine aw_istore (L' := [some (.ref 58), some (.int x1), some (.long (((rA p2.2 64 ((rA p2.2 66 (x1).toNatClampNeg)).toNatClampNeg)).toInt64)), none, some (.int (0 : Int32))]) dX12_loss_30 (by decide) rfl ?_
    refine aw_less (L' := [some (.ref 58), none, some (.long (((rA p2.2 64 ((rA p2.2 66 (x1).toNatClampNeg)).toNatClampNeg)).toInt64)), none, some (.int (0 : Int32))]) (And.intro rfl (And.intro rfl (And.intro rfl trivial))) ?_
    obtain ⟨b5, hb5, hf⟩ := ax_bind hf
    refine wh_go (((rA p2.2 64 ((rA p2.2 66 (x1).toNatClampNeg)).toNatClampNeg)).toInt64, (0 : Int32), p2.2) (fun a32 : Int64 × Int32 × sx_M => AW l X RX12 "loss" cX12_loss 5 (some .long) (ax_rm 6 0 0) (ax_MQ X Q 0 0) 0 0 32 [some (.ref 58), none, some (.long a32.1), none, some (.int a32.2.1)] [] (hp a32.2.2 gb)) (fun e : Int64 × sx_M => AW l X RX12 "loss" cX12_loss 5 (some .long) (ax_rm 6 0 0) (ax_MQ X Q 0 0) 0 0 57 [none, none, some (.long e.1), none, none] [] (hp e.2 gb)) hb5 ?_ ?_
    · intro a32 r hf hK
      unfold f_X12_loss_L32 at hf
      refine aw_iload dX12_loss_32 rfl ?_
      refine aw_aload_n dX12_loss_34 rfl rfl ?_
      obtain ⟨p3, hp3, hf⟩ := ax_bind hf
      refine aw_cVi (As := []) (st := [.int a32.2.1]) dX12_loss_35 cl_X12_60 iv_X12_workers (k_X12_workers (Q := (fun v h' => v = some (.int p3.1) ∧ h' = hp p3.2 gb)) a32.2.2 gb hp3 ⟨rfl, rfl⟩) (ci := 12) rfl (hp_get sh_58) rfl rfl rfl (Nat.le_of_ble_eq_true rfl) rfl (by decide) (by decide) ?_
      refine aw_icmp_ge (tgt := 57) dX12_loss_38 (by decide) (fun hc3 => ?_) (fun hc3 => ?_)
      · have hf := ax_pos hc3 hf
        refine aw_less (L' := [none, none, some (.long a32.1), none, none]) (And.intro rfl trivial) ?_
        cases hf
        exact hK
      · have hf := ax_neg hc3 hf
        refine aw_lload_n dX12_loss_41 rfl rfl ?_
        refine aw_aload_n dX12_loss_42 rfl rfl ?_
        refine aw_iload dX12_loss_43 rfl ?_
        refine aw_iconst (v := 0) dX12_loss_45 (by decide) ?_
        obtain ⟨p4, hp4, hf⟩ := ax_bind hf
        refine aw_cVl (As := [.int a32.2.1, .int (0 : Int32)]) (st := [.long a32.1]) dX12_loss_46 cl_X12_290 iv_X12_leastOf (k_X12_leastOf (Q := (fun v h' => v = some (.long p4.1) ∧ h' = hp p4.2 gb)) a32.2.1 (0 : Int32) p3.2 gb hp4 ⟨rfl, rfl⟩) (ci := 12) rfl (hp_get sh_58) rfl rfl rfl (Nat.le_of_ble_eq_true rfl) rfl (by decide) (by decide) ?_
        refine aw_lsub dX12_loss_49 ?_
        refine aw_lstore_n (L' := [some (.ref 58), none, some (.long (a32.1 - p4.1)), none, some (.int a32.2.1)]) dX12_loss_50 rfl (by decide) rfl ?_
        refine aw_iinc (v := (a32.2.1 + (1 : Int32))) (L' := [some (.ref 58), none, some (.long (a32.1 - p4.1)), none, some (.int (a32.2.1 + (1 : Int32)))]) dX12_loss_51 rfl rfl (by decide) rfl ?_
        refine aw_goto (tgt := 32) dX12_loss_54 (by decide) ?_
        cases hf
        exact hK
    · refine aw_lload_n dX12_loss_57 rfl rfl ?_
      cases hf
      exact aw_lret dX12_loss_58 hq (Nat.le_refl _) (Nat.le_refl _)
  · have hf := ax_pos hc4 hf
    refine aw_ldc2 dX12_loss_12 kc_X12_197 ?_
    cases hf
    exact aw_lret dX12_loss_15 hq (Nat.le_refl _) (Nat.le_refl _)
noncomputable def f_X12_dearest (x1 : Int32) (s : sx_M) : Option (Int64 × sx_M) :=
  (f_X12_laysFirst s).bind (fun p1 =>
 (f_X12_isThere x1 p1).bind (fun p2 =>
 (if p2.1 = 0 then
 some ((-9223372036854775808 : Int64), p2.2)
else
 (f_X12_workers p2.2).bind (fun p3 =>
 (if p3.1 ≤ 0 then
 some ((-9223372036854775808 : Int64), p3.2)
else
 (if ¬ (x1 < 0 ∨ 200 ≤ (x1).toNatClampNeg) then
 (f_X12_measureOf (rA p3.2 66 (x1).toNatClampNeg) (1 : Int32) (0 : Int32) p3.2).bind (fun p4 =>
 some (p4.1, p4.2))
else none))))))
set_option maxRecDepth 100000 in
set_option maxHeartbeats 4000000 in
theorem k_X12_dearest {l : Launch} {X : ax_X} {Q : Option Value → ax_H → Prop} (x1 : Int32) (s : sx_M) (gb : ax_H) {p : Int64 × sx_M} (hf : f_X12_dearest x1 s = some p) (hq : Q (some (.long p.1)) (hp p.2 gb)) : AM l X yX12_dearest cX12_dearest 2 (some .long) 6 0 0 [.ref 58, .int x1] (hp s gb) Q := by
  refine aw_met (own := RX12) (nm := "dearest") (L := [some (.ref 58), some (.int x1)]) (by decide +kernel) rfl rfl (And.intro rfl (And.intro rfl trivial)) (Nat.le_of_ble_eq_true rfl) ?_
  unfold f_X12_dearest at hf
  refine aw_aload_n dX12_dearest_0 rfl rfl ?_
  obtain ⟨p1, hp1, hf⟩ := ax_bind hf
  refine aw_cVv (As := []) (st := []) dX12_dearest_1 cl_X12_199 iv_X12_laysFirst (k_X12_laysFirst (Q := (fun v h' => v = none ∧ h' = hp p1 gb)) s gb hp1 ⟨rfl, rfl⟩) (ci := 12) rfl (hp_get sh_58) rfl rfl rfl (Nat.le_of_ble_eq_true rfl) rfl (by decide) (by decide) ?_
  refine aw_aload_n dX12_dearest_4 rfl rfl ?_
  refine aw_iload_n dX12_dearest_5 rfl rfl ?_
  obtain ⟨p2, hp2, hf⟩ := ax_bind hf
  refine aw_cVi (As := [.int x1]) (st := []) dX12_dearest_6 cl_X12_202 iv_X12_isThere (k_X12_isThere (Q := (fun v h' => v = some (.int p2.1) ∧ h' = hp p2.2 gb)) x1 p1 gb hp2 ⟨rfl, rfl⟩) (ci := 12) rfl (hp_get sh_58) rfl rfl rfl (Nat.le_of_ble_eq_true rfl) rfl (by decide) (by decide) ?_
  refine aw_if_eq (tgt := 34) dX12_dearest_9 (by decide) (fun hc3 => ?_) (fun hc3 => ?_)
  · have hf := ax_pos hc3 hf
    refine aw_ldc2 dX12_dearest_34 kc_X12_197 ?_
    cases hf
    exact aw_lret dX12_dearest_37 hq (Nat.le_refl _) (Nat.le_refl _)
  · have hf := ax_neg hc3 hf
    refine aw_aload_n dX12_dearest_12 rfl rfl ?_
    obtain ⟨p3, hp3, hf⟩ := ax_bind hf
    refine aw_cVi (As := []) (st := []) dX12_dearest_13 cl_X12_60 iv_X12_workers (k_X12_workers (Q := (fun v h' => v = some (.int p3.1) ∧ h' = hp p3.2 gb)) p2.2 gb hp3 ⟨rfl, rfl⟩) (ci := 12) rfl (hp_get sh_58) rfl rfl rfl (Nat.le_of_ble_eq_true rfl) rfl (by decide) (by decide) ?_
    refine aw_if_le (tgt := 34) dX12_dearest_16 (by decide) (fun hc2 => ?_) (fun hc2 => ?_)
    · have hf := ax_pos hc2 hf
      refine aw_ldc2 dX12_dearest_34 kc_X12_197 ?_
      cases hf
      exact aw_lret dX12_dearest_37 hq (Nat.le_refl _) (Nat.le_refl _)
    · have hf := ax_neg hc2 hf
      refine aw_aload_n dX12_dearest_19 rfl rfl ?_
      refine aw_aload_n dX12_dearest_20 rfl rfl ?_
      refine aw_gR dX12_dearest_21 fl_X12_40 sh_58 rfl ?_
      refine aw_iload_n dX12_dearest_24 rfl rfl ?_
      obtain ⟨hc1, hf⟩ := ax_ite hf
      refine aw_lA dX12_dearest_25 sh_66 hc1 ?_
      refine aw_iconst (v := 1) dX12_dearest_26 (by decide) ?_
      refine aw_iconst (v := 0) dX12_dearest_27 (by decide) ?_
      obtain ⟨p4, hp4, hf⟩ := ax_bind hf
      refine aw_cVl (As := [.int (rA p3.2 66 (x1).toNatClampNeg), .int (1 : Int32), .int (0 : Int32)]) (st := []) dX12_dearest_28 cl_X12_229 iv_X12_measureOf (k_X12_measureOf (Q := (fun v h' => v = some (.long p4.1) ∧ h' = hp p4.2 gb)) (rA p3.2 66 (x1).toNatClampNeg) (1 : Int32) (0 : Int32) p3.2 gb hp4 ⟨rfl, rfl⟩) (ci := 12) rfl (hp_get sh_58) rfl rfl rfl (Nat.le_of_ble_eq_true rfl) rfl (by decide) (by decide) ?_
      refine aw_goto (tgt := 37) dX12_dearest_31 (by decide) ?_
      cases hf
      exact aw_lret dX12_dearest_37 hq (Nat.le_refl _) (Nat.le_refl _)
noncomputable def f_X12_apart_L44_J86 (z1 : Int32) (z2 : Int32) (y4_86 : Int32) (t0_86 : Int32) (t1_86 : Int32) (s_86 : sx_M) : Option ((Int32 × Int32 × sx_M) ⊕ (Int32 × sx_M)) :=
  some (.inl ((t0_86 + t1_86), (y4_86 + (1 : Int32)), s_86))
noncomputable def f_X12_apart_L44 (z1 : Int32) (z2 : Int32) (a44 : Int32 × Int32 × sx_M) : Option ((Int32 × Int32 × sx_M) ⊕ (Int32 × sx_M)) :=
  (f_X12_workers a44.2.2).bind (fun p6 =>
 (if p6.1 ≤ a44.2.1 then
 some (.inr (a44.1, p6.2))
else
 (if ¬ (z1 < 0 ∨ 200 ≤ (z1).toNatClampNeg) then
 (f_X12_jobOf (rA p6.2 66 (z1).toNatClampNeg) a44.2.1 p6.2).bind (fun p7 =>
 (if ¬ (z2 < 0 ∨ 200 ≤ (z2).toNatClampNeg) then
 (f_X12_jobOf (rA p7.2 66 (z2).toNatClampNeg) a44.2.1 p7.2).bind (fun p8 =>
 (if p7.1 = p8.1 then
 f_X12_apart_L44_J86 z1 z2 a44.2.1 a44.1 (0 : Int32) p8.2
else
 f_X12_apart_L44_J86 z1 z2 a44.2.1 a44.1 (1 : Int32) p8.2))
else none))
else none)))
noncomputable def f_X12_apart (x1 : Int32) (x2 : Int32) (s : sx_M) : Option (Int32 × sx_M) :=
  (f_X12_isRank x1 s).bind (fun p1 =>
 (if p1.1 = 0 then
 some ((-2 : Int32), p1.2)
else
 (f_X12_isRank x2 p1.2).bind (fun p2 =>
 (if p2.1 = 0 then
 some ((-2 : Int32), p2.2)
else
 (f_X12_laysFirst p2.2).bind (fun p3 =>
 (f_X12_isThere x1 p3).bind (fun p4 =>
 (if p4.1 = 0 then
 some ((-1 : Int32), p4.2)
else
 (f_X12_isThere x2 p4.2).bind (fun p5 =>
 (if p5.1 = 0 then
 some ((-1 : Int32), p5.2)
else
 (whT (f_X12_apart_L44 x1 x2) ((0 : Int32), (0 : Int32), p5.2)).bind (fun b9 =>
 some (b9.1, b9.2)))))))))))
set_option maxRecDepth 100000 in
set_option maxHeartbeats 4000000 in
theorem k_X12_apart {l : Launch} {X : ax_X} {Q : Option Value → ax_H → Prop} (x1 : Int32) (x2 : Int32) (s : sx_M) (gb : ax_H) {p : Int32 × sx_M} (hf : f_X12_apart x1 x2 s = some p) (hq : Q (some (.int p.1)) (hp p.2 gb)) : AM l X yX12_apart cX12_apart 5 (some .int) 6 0 0 [.ref 58, .int x1, .int x2] (hp s gb) Q := by
  refine aw_met (own := RX12) (nm := "apart") (L := [some (.ref 58), some (.int x1), some (.int x2), none, none]) (by decide +kernel) rfl rfl (And.intro rfl (And.intro rfl (And.intro rfl trivial))) (Nat.le_of_ble_eq_true rfl) ?_
  unfold f_X12_apart at hf
  refine aw_iload_n dX12_apart_0 rfl rfl ?_
  obtain ⟨p1, hp1, hf⟩ := ax_bind hf
  refine aw_cSi (As := [.int x1]) (st := []) dX12_apart_1 cl_X12_181 st_X12_isRank (k_X12_isRank (Q := (fun v h' => v = some (.int p1.1) ∧ h' = hp p1.2 gb)) x1 s gb hp1 ⟨rfl, rfl⟩) rfl rfl (Nat.le_of_ble_eq_true rfl) rfl (by decide) (by decide) ?_
  refine aw_if_eq (tgt := 14) dX12_apart_4 (by decide) (fun hc8 => ?_) (fun hc8 => ?_)
  · have hf := ax_pos hc8 hf
    refine aw_bipush (v := -2) dX12_apart_14 (by decide) ?_
    cases hf
    exact aw_iret dX12_apart_16 hq (Nat.le_refl _) (Nat.le_refl _)
  · have hf := ax_neg hc8 hf
    refine aw_iload_n dX12_apart_7 rfl rfl ?_
    obtain ⟨p2, hp2, hf⟩ := ax_bind hf
    refine aw_cSi (As := [.int x2]) (st := []) dX12_apart_8 cl_X12_181 st_X12_isRank (k_X12_isRank (Q := (fun v h' => v = some (.int p2.1) ∧ h' = hp p2.2 gb)) x2 p1.2 gb hp2 ⟨rfl, rfl⟩) rfl rfl (Nat.le_of_ble_eq_true rfl) rfl (by decide) (by decide) ?_
    refine aw_if_ne (tgt := 17) dX12_apart_11 (by decide) (fun hc7 => ?_) (fun hc7 => ?_)
    · have hf := ax_neg hc7 hf
      refine aw_aload_n dX12_apart_17 rfl rfl ?_
      obtain ⟨p3, hp3, hf⟩ := ax_bind hf
      refine aw_cVv (As := []) (st := []) dX12_apart_18 cl_X12_199 iv_X12_laysFirst (k_X12_laysFirst (Q := (fun v h' => v = none ∧ h' = hp p3 gb)) p2.2 gb hp3 ⟨rfl, rfl⟩) (ci := 12) rfl (hp_get sh_58) rfl rfl rfl (Nat.le_of_ble_eq_true rfl) rfl (by decide) (by decide) ?_
      refine aw_aload_n dX12_apart_21 rfl rfl ?_
      refine aw_iload_n dX12_apart_22 rfl rfl ?_
      obtain ⟨p4, hp4, hf⟩ := ax_bind hf
      refine aw_cVi (As := [.int x1]) (st := []) dX12_apart_23 cl_X12_202 iv_X12_isThere (k_X12_isThere (Q := (fun v h' => v = some (.int p4.1) ∧ h' = hp p4.2 gb)) x1 p3 gb hp4 ⟨rfl, rfl⟩) (ci := 12) rfl (hp_get sh_58) rfl rfl rfl (Nat.le_of_ble_eq_true rfl) rfl (by decide) (by decide) ?_
      refine aw_if_eq (tgt := 37) dX12_apart_26 (by decide) (fun hc6 => ?_) (fun hc6 => ?_)
      · have hf := ax_pos hc6 hf
        refine aw_iconst (v := -1) dX12_apart_37 (by decide) ?_
        cases hf
        exact aw_iret dX12_apart_38 hq (Nat.le_refl _) (Nat.le_refl _)
      · have hf := ax_neg hc6 hf
        refine aw_aload_n dX12_apart_29 rfl rfl ?_
        refine aw_iload_n dX12_apart_30 rfl rfl ?_
        obtain ⟨p5, hp5, hf⟩ := ax_bind hf
        refine aw_cVi (As := [.int x2]) (st := []) dX12_apart_31 cl_X12_202 iv_X12_isThere (k_X12_isThere (Q := (fun v h' => v = some (.int p5.1) ∧ h' = hp p5.2 gb)) x2 p4.2 gb hp5 ⟨rfl, rfl⟩) (ci := 12) rfl (hp_get sh_58) rfl rfl rfl (Nat.le_of_ble_eq_true rfl) rfl (by decide) (by decide) ?_
        refine aw_if_ne (tgt := 39) dX12_apart_34 (by decide) (fun hc5 => ?_) (fun hc5 => ?_)
        · have hf := ax_neg hc5 hf
          refine aw_iconst (v := 0) dX12_apart_39 (by decide) ?_
          refine aw_istore_n (L' := [some (.ref 58), some (.int x1), some (.int x2), some (.int (0 : Int32)), none]) dX12_apart_40 rfl (by decide) rfl ?_
          refine aw_iconst (v := 0) dX12_apart_41 (by decide) ?_
          refine aw_istore (L' := [some (.ref 58), some (.int x1), some (.int x2), some (.int (0 : Int32)), some (.int (0 : Int32))]) dX12_apart_42 (by decide) rfl ?_
          obtain ⟨b9, hb9, hf⟩ := ax_bind hf
          refine wh_go ((0 : Int32), (0 : Int32), p5.2) (fun a44 : Int32 × Int32 × sx_M => AW l X RX12 "apart" cX12_apart 5 (some .int) (ax_rm 6 0 0) (ax_MQ X Q 0 0) 0 0 44 [some (.ref 58), some (.int x1), some (.int x2), some (.int a44.1), some (.int a44.2.1)] [] (hp a44.2.2 gb)) (fun e : Int32 × sx_M => AW l X RX12 "apart" cX12_apart 5 (some .int) (ax_rm 6 0 0) (ax_MQ X Q 0 0) 0 0 94 [none, none, none, some (.int e.1), none] [] (hp e.2 gb)) hb9 ?_ ?_
          · intro a44 r hf hK
            unfold f_X12_apart_L44 at hf
            have J86 : ∀ (y4_86 : Int32) (t0_86 : Int32) (t1_86 : Int32) (s_86 : sx_M), f_X12_apart_L44_J86 x1 x2 y4_86 t0_86 t1_86 s_86 = some r → AW l X RX12 "apart" cX12_apart 5 (some .int) (ax_rm 6 0 0) (ax_MQ X Q 0 0) 0 0 86 [some (.ref 58), some (.int x1), some (.int x2), none, some (.int y4_86)] [.int t1_86, .int t0_86] (hp s_86 gb) := by
              intro y4_86 t0_86 t1_86 s_86 hf
              unfold f_X12_apart_L44_J86 at hf
              refine aw_iadd dX12_apart_86 ?_
              refine aw_istore_n (L' := [some (.ref 58), some (.int x1), some (.int x2), some (.int (t0_86 + t1_86)), some (.int y4_86)]) dX12_apart_87 rfl (by decide) rfl ?_
              refine aw_iinc (v := (y4_86 + (1 : Int32))) (L' := [some (.ref 58), some (.int x1), some (.int x2), some (.int (t0_86 + t1_86)), some (.int (y4_86 + (1 : Int32)))]) dX12_apart_88 rfl rfl (by decide) rfl ?_
              refine aw_goto (tgt := 44) dX12_apart_91 (by decide) ?_
              cases hf
              exact hK
            refine aw_iload dX12_apart_44 rfl ?_
            refine aw_aload_n dX12_apart_46 rfl rfl ?_
            obtain ⟨p6, hp6, hf⟩ := ax_bind hf
            refine aw_cVi (As := []) (st := [.int a44.2.1]) dX12_apart_47 cl_X12_60 iv_X12_workers (k_X12_workers (Q := (fun v h' => v = some (.int p6.1) ∧ h' = hp p6.2 gb)) a44.2.2 gb hp6 ⟨rfl, rfl⟩) (ci := 12) rfl (hp_get sh_58) rfl rfl rfl (Nat.le_of_ble_eq_true rfl) rfl (by decide) (by decide) ?_
            refine aw_icmp_ge (tgt := 94) dX12_apart_50 (by decide) (fun hc4 => ?_) (fun hc4 => ?_)
            · have hf := ax_pos hc4 hf
              refine aw_less (L' := [none, none, none, some (.int a44.1), none]) (And.intro rfl trivial) ?_
              cases hf
              exact hK
            · have hf := ax_neg hc4 hf
              refine aw_iload_n dX12_apart_53 rfl rfl ?_
              refine aw_aload_n dX12_apart_54 rfl rfl ?_
              refine aw_aload_n dX12_apart_55 rfl rfl ?_
              refine aw_gR dX12_apart_56 fl_X12_40 sh_58 rfl ?_
              refine aw_iload_n dX12_apart_59 rfl rfl ?_
              obtain ⟨hc1, hf⟩ := ax_ite hf
              refine aw_lA dX12_apart_60 sh_66 hc1 ?_
              refine aw_iload dX12_apart_61 rfl ?_
              obtain ⟨p7, hp7, hf⟩ := ax_bind hf
              refine aw_cVi (As := [.int (rA p6.2 66 (x1).toNatClampNeg), .int a44.2.1]) (st := [.int a44.1]) dX12_apart_63 cl_X12_205 iv_X12_jobOf (k_X12_jobOf (Q := (fun v h' => v = some (.int p7.1) ∧ h' = hp p7.2 gb)) (rA p6.2 66 (x1).toNatClampNeg) a44.2.1 p6.2 gb hp7 ⟨rfl, rfl⟩) (ci := 12) rfl (hp_get sh_58) rfl rfl rfl (Nat.le_of_ble_eq_true rfl) rfl (by decide) (by decide) ?_
              refine aw_aload_n dX12_apart_66 rfl rfl ?_
              refine aw_aload_n dX12_apart_67 rfl rfl ?_
              refine aw_gR dX12_apart_68 fl_X12_40 sh_58 rfl ?_
              refine aw_iload_n dX12_apart_71 rfl rfl ?_
              obtain ⟨hc2, hf⟩ := ax_ite hf
              refine aw_lA dX12_apart_72 sh_66 hc2 ?_
              refine aw_iload dX12_apart_73 rfl ?_
              obtain ⟨p8, hp8, hf⟩ := ax_bind hf
              refine aw_cVi (As := [.int (rA p7.2 66 (x2).toNatClampNeg), .int a44.2.1]) (st := [.int p7.1, .int a44.1]) dX12_apart_75 cl_X12_205 iv_X12_jobOf (k_X12_jobOf (Q := (fun v h' => v = some (.int p8.1) ∧ h' = hp p8.2 gb)) (rA p7.2 66 (x2).toNatClampNeg) a44.2.1 p7.2 gb hp8 ⟨rfl, rfl⟩) (ci := 12) rfl (hp_get sh_58) rfl rfl rfl (Nat.le_of_ble_eq_true rfl) rfl (by decide) (by decide) ?_
              refine aw_icmp_ne (tgt := 85) dX12_apart_78 (by decide) (fun hc3 => ?_) (fun hc3 => ?_)
              · have hf := ax_neg hc3 hf
                refine aw_iconst (v := 1) dX12_apart_85 (by decide) ?_
                refine aw_less (L' := [some (.ref 58), some (.int x1), some (.int x2), none, some (.int a44.2.1)]) (And.intro rfl (And.intro rfl (And.intro rfl (And.intro rfl trivial)))) ?_
                exact J86 a44.2.1 a44.1 (1 : Int32) p8.2 hf
              · have hf := ax_pos hc3 hf
                refine aw_iconst (v := 0) dX12_apart_81 (by decide) ?_
                refine aw_goto (tgt := 86) dX12_apart_82 (by decide) ?_
                refine aw_less (L' := [some (.ref 58), some (.int x1), some (.int x2), none, some (.int a44.2.1)]) (And.intro rfl (And.intro rfl (And.intro rfl (And.intro rfl trivial)))) ?_
                exact J86 a44.2.1 a44.1 (0 : Int32) p8.2 hf
          · refine aw_iload_n dX12_apart_94 rfl rfl ?_
            cases hf
            exact aw_iret dX12_apart_95 hq (Nat.le_refl _) (Nat.le_refl _)
        · have hf := ax_pos hc5 hf
          refine aw_iconst (v := -1) dX12_apart_37 (by decide) ?_
          cases hf
          exact aw_iret dX12_apart_38 hq (Nat.le_refl _) (Nat.le_refl _)
    · have hf := ax_pos hc7 hf
      refine aw_bipush (v := -2) dX12_apart_14 (by decide) ?_
      cases hf
      exact aw_iret dX12_apart_16 hq (Nat.le_refl _) (Nat.le_refl _)
noncomputable def f_X12_whoHad_L2 (z1 : Int32) (z2 : Int32) (a2 : Int32 × sx_M) : Option ((Int32 × sx_M) ⊕ ((sx_M) ⊕ (Int32 × sx_M))) :=
  (f_X12_workers a2.2).bind (fun p1 =>
 (if p1.1 ≤ a2.1 then
 some (.inr (.inl p1.2))
else
 (f_X12_jobOf z1 a2.1 p1.2).bind (fun p2 =>
 (if p2.1 = z2 then
 some (.inr (.inr ((a2.1, p2.2))))
else
 some (.inl ((a2.1 + (1 : Int32)), p2.2))))))
noncomputable def f_X12_whoHad (x1 : Int32) (x2 : Int32) (s : sx_M) : Option (Int32 × sx_M) :=
  (whT (f_X12_whoHad_L2 x1 x2) ((0 : Int32), s)).bind (fun b3 => (Sum.elim (fun e4 =>
 some ((-1 : Int32), e4)) (fun e5 =>
 some e5)) b3)
set_option maxRecDepth 100000 in
set_option maxHeartbeats 4000000 in
theorem k_X12_whoHad {l : Launch} {X : ax_X} {Q : Option Value → ax_H → Prop} (x1 : Int32) (x2 : Int32) (s : sx_M) (gb : ax_H) {p : Int32 × sx_M} (hf : f_X12_whoHad x1 x2 s = some p) (hq : Q (some (.int p.1)) (hp p.2 gb)) : AM l X yX12_whoHad cX12_whoHad 4 (some .int) 2 0 0 [.ref 58, .int x1, .int x2] (hp s gb) Q := by
  refine aw_met (own := RX12) (nm := "whoHad") (L := [some (.ref 58), some (.int x1), some (.int x2), none]) (by decide +kernel) rfl rfl (And.intro rfl (And.intro rfl (And.intro rfl trivial))) (Nat.le_of_ble_eq_true rfl) ?_
  unfold f_X12_whoHad at hf
  refine aw_iconst (v := 0) dX12_whoHad_0 (by decide) ?_
  refine aw_istore_n (L' := [some (.ref 58), some (.int x1), some (.int x2), some (.int (0 : Int32))]) dX12_whoHad_1 rfl (by decide) rfl ?_
  obtain ⟨b3, hb3, hf⟩ := ax_bind hf
  refine wh_go ((0 : Int32), s) (fun a2 : Int32 × sx_M => AW l X RX12 "whoHad" cX12_whoHad 4 (some .int) (ax_rm 2 0 0) (ax_MQ X Q 0 0) 0 0 2 [some (.ref 58), some (.int x1), some (.int x2), some (.int a2.1)] [] (hp a2.2 gb)) (Sum.elim (fun e : sx_M => AW l X RX12 "whoHad" cX12_whoHad 4 (some .int) (ax_rm 2 0 0) (ax_MQ X Q 0 0) 0 0 28 [none, none, none, none] [] (hp e gb)) (fun v : Int32 × sx_M => Q (some (.int v.1)) (hp v.2 gb))) hb3 ?_ ?_
  · intro a2 r hf hK
    unfold f_X12_whoHad_L2 at hf
    refine aw_iload_n dX12_whoHad_2 rfl rfl ?_
    refine aw_aload_n dX12_whoHad_3 rfl rfl ?_
    obtain ⟨p1, hp1, hf⟩ := ax_bind hf
    refine aw_cVi (As := []) (st := [.int a2.1]) dX12_whoHad_4 cl_X12_60 iv_X12_workers (k_X12_workers (Q := (fun v h' => v = some (.int p1.1) ∧ h' = hp p1.2 gb)) a2.2 gb hp1 ⟨rfl, rfl⟩) (ci := 12) rfl (hp_get sh_58) rfl rfl rfl (Nat.le_of_ble_eq_true rfl) rfl (by decide) (by decide) ?_
    refine aw_icmp_ge (tgt := 28) dX12_whoHad_7 (by decide) (fun hc2 => ?_) (fun hc2 => ?_)
    · have hf := ax_pos hc2 hf
      refine aw_less (L' := [none, none, none, none]) trivial ?_
      cases hf
      exact hK
    · have hf := ax_neg hc2 hf
      refine aw_aload_n dX12_whoHad_10 rfl rfl ?_
      refine aw_iload_n dX12_whoHad_11 rfl rfl ?_
      refine aw_iload_n dX12_whoHad_12 rfl rfl ?_
      obtain ⟨p2, hp2, hf⟩ := ax_bind hf
      refine aw_cVi (As := [.int x1, .int a2.1]) (st := []) dX12_whoHad_13 cl_X12_205 iv_X12_jobOf (k_X12_jobOf (Q := (fun v h' => v = some (.int p2.1) ∧ h' = hp p2.2 gb)) x1 a2.1 p1.2 gb hp2 ⟨rfl, rfl⟩) (ci := 12) rfl (hp_get sh_58) rfl rfl rfl (Nat.le_of_ble_eq_true rfl) rfl (by decide) (by decide) ?_
      refine aw_iload_n dX12_whoHad_16 rfl rfl ?_
      refine aw_icmp_ne (tgt := 22) dX12_whoHad_17 (by decide) (fun hc1 => ?_) (fun hc1 => ?_)
      · have hf := ax_neg hc1 hf
        refine aw_iinc (v := (a2.1 + (1 : Int32))) (L' := [some (.ref 58), some (.int x1), some (.int x2), some (.int (a2.1 + (1 : Int32)))]) dX12_whoHad_22 rfl rfl (by decide) rfl ?_
        refine aw_goto (tgt := 2) dX12_whoHad_25 (by decide) ?_
        cases hf
        exact hK
      · have hf := ax_pos hc1 hf
        refine aw_iload_n dX12_whoHad_20 rfl rfl ?_
        cases hf
        exact aw_iret dX12_whoHad_21 hK (Nat.le_refl _) (Nat.le_refl _)
  · rcases b3 with e4 | e5
    · refine aw_iconst (v := -1) dX12_whoHad_28 (by decide) ?_
      cases hf
      exact aw_iret dX12_whoHad_29 hq (Nat.le_refl _) (Nat.le_refl _)
    · cases hf
      exact hq
noncomputable def f_X12_laysRounds_L35_J233 (z1 : Int32) (z2 : Int32) (z1 : Int32) (z2 : Int32) (z3 : Int32) (y4_233 : Int32) (y7_233 : Int32) (t1_233 : Int32) (t2_233 : Int32) (s_233 : sx_M) : Option ((Int32 × sx_M) ⊕ (sx_M)) :=
  (f_J9_max_7cf53 (rI (wI s_233 58 30 (t1_233 + t2_233)) 58 29) y7_233 (wI s_233 58 30 (t1_233 + t2_233))).bind (fun p1 =>
 some (.inl ((y4_233 + (1 : Int32)), (wI p1.2 58 29 p1.1))))
noncomputable def f_X12_laysRounds_L35_J211 (z1 : Int32) (z2 : Int32) (z1 : Int32) (z2 : Int32) (z3 : Int32) (y4_211 : Int32) (y7_211 : Int32) (t1_211 : Int32) (t2_211 : Int32) (s_211 : sx_M) : Option ((Int32 × sx_M) ⊕ (sx_M)) :=
  (if z3 = 0 then
 f_X12_laysRounds_L35_J233 z1 z2 z1 z2 z3 y4_211 y7_211 (rI (wI s_211 58 27 (t1_211 + t2_211)) 58 30) y7_211 (wI s_211 58 27 (t1_211 + t2_211))
else
 f_X12_laysRounds_L35_J233 z1 z2 z1 z2 z3 y4_211 y7_211 (rI (wI s_211 58 27 (t1_211 + t2_211)) 58 30) (y7_211 - (1 : Int32)) (wI s_211 58 27 (t1_211 + t2_211)))
noncomputable def f_X12_laysRounds_L35_J193 (z1 : Int32) (z2 : Int32) (z1 : Int32) (z2 : Int32) (z3 : Int32) (y4_193 : Int32) (y7_193 : Int32) (t1_193 : Int32) (t2_193 : Int32) (s_193 : sx_M) : Option ((Int32 × sx_M) ⊕ (sx_M)) :=
  (if z3 = 0 then
 f_X12_laysRounds_L35_J211 z1 z2 z1 z2 z3 y4_193 y7_193 (rI (wI s_193 58 28 (t1_193 + t2_193)) 58 27) (0 : Int32) (wI s_193 58 28 (t1_193 + t2_193))
else
 f_X12_laysRounds_L35_J211 z1 z2 z1 z2 z3 y4_193 y7_193 (rI (wI s_193 58 28 (t1_193 + t2_193)) 58 27) (1 : Int32) (wI s_193 58 28 (t1_193 + t2_193)))
noncomputable def f_X12_laysRounds_L128 (z1 : Int32) (z2 : Int32) (z1 : Int32) (z2 : Int32) (z3 : Int32) (z1 : Int32) (z2 : Int32) (z3 : Int32) (z4 : Int32) (a128 : Int32 × Int32 × sx_M) : Option ((Int32 × Int32 × sx_M) ⊕ (Int32 × sx_M)) :=
  (if a128.2.1 = (-1 : Int32) then
 some (.inr (a128.1, a128.2.2))
else
 (f_X12_has (rI a128.2.2 58 31) a128.2.1 a128.2.2).bind (fun p3 =>
 (if p3.1 = 0 then
 (f_X12_jobOf z2 a128.2.1 (wI p3.2 58 31 ((rI p3.2 58 31) ||| ((1 : Int32) <<< (a128.2.1 &&& 31))))).bind (fun p4 =>
 (f_X12_whoHad z1 p4.1 p4.2).bind (fun p5 =>
 some (.inl ((a128.1 + (1 : Int32)), p5.1, p5.2))))
else
 some (.inr (a128.1, p3.2)))))
noncomputable def f_X12_laysRounds_L35_J94 (z1 : Int32) (z2 : Int32) (z1 : Int32) (z2 : Int32) (z3 : Int32) (y4_94 : Int32) (y5_94 : Int32) (t0_94 : Int32) (s_94 : sx_M) : Option ((Int32 × sx_M) ⊕ (sx_M)) :=
  (if y5_94 = 0 then
 (if t0_94 = 0 then
 some (.inl ((y4_94 + (1 : Int32)), s_94))
else
 (f_X12_has (rI s_94 58 31) y4_94 s_94).bind (fun p2 =>
 (if p2.1 = 0 then
 (whT (f_X12_laysRounds_L128 z1 z2 z1 z2 z3 z1 z2 z3 y4_94) ((0 : Int32), y4_94, p2.2)).bind (fun b6 =>
 (if z3 = 0 then
 f_X12_laysRounds_L35_J193 z1 z2 z1 z2 z3 y4_94 b6.1 (rI b6.2 58 28) (1 : Int32) b6.2
else
 f_X12_laysRounds_L35_J193 z1 z2 z1 z2 z3 y4_94 b6.1 (rI b6.2 58 28) (0 : Int32) b6.2))
else
 some (.inl ((y4_94 + (1 : Int32)), p2.2)))))
else
 some (.inl ((y4_94 + (1 : Int32)), s_94)))
noncomputable def f_X12_laysRounds_L35_J66 (z1 : Int32) (z2 : Int32) (z1 : Int32) (z2 : Int32) (z3 : Int32) (y4_66 : Int32) (t0_66 : Int32) (s_66 : sx_M) : Option ((Int32 × sx_M) ⊕ (sx_M)) :=
  (if z3 = (1 : Int32) then
 f_X12_laysRounds_L35_J94 z1 z2 z1 z2 z3 y4_66 t0_66 (1 : Int32) s_66
else
 (f_X12_jobOf z1 y4_66 s_66).bind (fun p7 =>
 (f_X12_whoHad z2 p7.1 p7.2).bind (fun p8 =>
 (if p8.1 = (-1 : Int32) then
 f_X12_laysRounds_L35_J94 z1 z2 z1 z2 z3 y4_66 t0_66 (1 : Int32) p8.2
else
 f_X12_laysRounds_L35_J94 z1 z2 z1 z2 z3 y4_66 t0_66 (0 : Int32) p8.2))))
noncomputable def f_X12_laysRounds_L35 (z1 : Int32) (z2 : Int32) (z1 : Int32) (z2 : Int32) (z3 : Int32) (a35 : Int32 × sx_M) : Option ((Int32 × sx_M) ⊕ (sx_M)) :=
  (f_X12_workers a35.2).bind (fun p9 =>
 (if p9.1 ≤ a35.1 then
 some (.inr p9.2)
else
 (f_X12_jobOf z1 a35.1 p9.2).bind (fun p10 =>
 (f_X12_jobOf z2 a35.1 p10.2).bind (fun p11 =>
 (if p10.1 = p11.1 then
 f_X12_laysRounds_L35_J66 z1 z2 z1 z2 z3 a35.1 (1 : Int32) p11.2
else
 f_X12_laysRounds_L35_J66 z1 z2 z1 z2 z3 a35.1 (0 : Int32) p11.2)))))
noncomputable def f_X12_laysRounds_L27 (z1 : Int32) (z2 : Int32) (a27 : Int32 × sx_M) : Option ((Int32 × sx_M) ⊕ (sx_M)) :=
  (if (2 : Int32) ≤ a27.1 then
 some (.inr a27.2)
else
 (whT (f_X12_laysRounds_L35 z1 z2 z1 z2 a27.1) ((0 : Int32), a27.2)).bind (fun b12 =>
 some (.inl ((a27.1 + (1 : Int32)), b12))))
noncomputable def f_X12_laysRounds (x1 : Int32) (x2 : Int32) (s : sx_M) : Option sx_M :=
  (whT (f_X12_laysRounds_L27 x1 x2) ((0 : Int32), (wI (wI (wI (wI (wI s 58 27 (0 : Int32)) 58 28 (0 : Int32)) 58 29 (0 : Int32)) 58 30 (0 : Int32)) 58 31 (0 : Int32)))).bind (fun b13 =>
 some b13)
set_option maxRecDepth 100000 in
set_option maxHeartbeats 4000000 in
theorem k_X12_laysRounds {l : Launch} {X : ax_X} {Q : Option Value → ax_H → Prop} (x1 : Int32) (x2 : Int32) (s : sx_M) (gb : ax_H) {p : sx_M} (hf : f_X12_laysRounds x1 x2 s = some p) (hq : Q (none) (hp p gb)) : AM l X yX12_laysRounds cX12_laysRounds 9 none 3 0 0 [.ref 58, .int x1, .int x2] (hp s gb) Q := by
  refine aw_met (own := RX12) (nm := "laysRounds") (L := [some (.ref 58), some (.int x1), some (.int x2), none, none, none, none, none, none]) (by decide +kernel) rfl rfl (And.intro rfl (And.intro rfl (And.intro rfl trivial))) (Nat.le_of_ble_eq_true rfl) ?_
  unfold f_X12_laysRounds at hf
  refine aw_aload_n dX12_laysRounds_0 rfl rfl ?_
  refine aw_iconst (v := 0) dX12_laysRounds_1 (by decide) ?_
  refine aw_pI dX12_laysRounds_2 fp_X12_293 sh_58 rfl rfl rfl ?_
  refine aw_aload_n dX12_laysRounds_5 rfl rfl ?_
  refine aw_iconst (v := 0) dX12_laysRounds_6 (by decide) ?_
  refine aw_pI dX12_laysRounds_7 fp_X12_296 sh_58 rfl rfl rfl ?_
  refine aw_aload_n dX12_laysRounds_10 rfl rfl ?_
  refine aw_iconst (v := 0) dX12_laysRounds_11 (by decide) ?_
  refine aw_pI dX12_laysRounds_12 fp_X12_299 sh_58 rfl rfl rfl ?_
  refine aw_aload_n dX12_laysRounds_15 rfl rfl ?_
  refine aw_iconst (v := 0) dX12_laysRounds_16 (by decide) ?_
  refine aw_pI dX12_laysRounds_17 fp_X12_302 sh_58 rfl rfl rfl ?_
  refine aw_aload_n dX12_laysRounds_20 rfl rfl ?_
  refine aw_iconst (v := 0) dX12_laysRounds_21 (by decide) ?_
  refine aw_pI dX12_laysRounds_22 fp_X12_305 sh_58 rfl rfl rfl ?_
  refine aw_iconst (v := 0) dX12_laysRounds_25 (by decide) ?_
  refine aw_istore_n (L' := [some (.ref 58), some (.int x1), some (.int x2), some (.int (0 : Int32)), none, none, none, none, none]) dX12_laysRounds_26 rfl (by decide) rfl ?_
  obtain ⟨b13, hb13, hf⟩ := ax_bind hf
  refine wh_go ((0 : Int32), (wI (wI (wI (wI (wI s 58 27 (0 : Int32)) 58 28 (0 : Int32)) 58 29 (0 : Int32)) 58 30 (0 : Int32)) 58 31 (0 : Int32))) (fun a27 : Int32 × sx_M => AW l X RX12 "laysRounds" cX12_laysRounds 9 none (ax_rm 3 0 0) (ax_MQ X Q 0 0) 0 0 27 [some (.ref 58), some (.int x1), some (.int x2), some (.int a27.1), none, none, none, none, none] [] (hp a27.2 gb)) (fun e : sx_M => AW l X RX12 "laysRounds" cX12_laysRounds 9 none (ax_rm 3 0 0) (ax_MQ X Q 0 0) 0 0 262 [none, none, none, none, none, none, none, none, none] [] (hp e gb)) hb13 ?_ ?_
  · intro a27 r hf hK
    unfold f_X12_laysRounds_L27 at hf
    refine aw_iload_n dX12_laysRounds_27 rfl rfl ?_
    refine aw_iconst (v := 2) dX12_laysRounds_28 (by decide) ?_
    refine aw_icmp_ge (tgt := 262) dX12_laysRounds_29 (by decide) (fun hc13 => ?_) (fun hc13 => ?_)
    · have hf := ax_pos hc13 hf
      refine aw_less (L' := [none, none, none, none, none, none, none, none, none]) trivial ?_
      cases hf
      exact hK
    · have hf := ax_neg hc13 hf
      refine aw_iconst (v := 0) dX12_laysRounds_32 (by decide) ?_
      refine aw_istore (L' := [some (.ref 58), some (.int x1), some (.int x2), some (.int a27.1), some (.int (0 : Int32)), none, none, none, none]) dX12_laysRounds_33 (by decide) rfl ?_
      obtain ⟨b12, hb12, hf⟩ := ax_bind hf
      refine wh_go ((0 : Int32), a27.2) (fun a35 : Int32 × sx_M => AW l X RX12 "laysRounds" cX12_laysRounds 9 none (ax_rm 3 0 0) (ax_MQ X Q 0 0) 0 0 35 [some (.ref 58), some (.int x1), some (.int x2), some (.int a27.1), some (.int a35.1), none, none, none, none] [] (hp a35.2 gb)) (fun e : sx_M => AW l X RX12 "laysRounds" cX12_laysRounds 9 none (ax_rm 3 0 0) (ax_MQ X Q 0 0) 0 0 256 [some (.ref 58), some (.int x1), some (.int x2), some (.int a27.1), none, none, none, none, none] [] (hp e gb)) hb12 ?_ ?_
      · intro a35 r hf hK
        unfold f_X12_laysRounds_L35 at hf
        have J233 : ∀ (y4_233 : Int32) (y7_233 : Int32) (t1_233 : Int32) (t2_233 : Int32) (s_233 : sx_M), f_X12_laysRounds_L35_J233 x1 x2 x1 x2 a27.1 y4_233 y7_233 t1_233 t2_233 s_233 = some r → AW l X RX12 "laysRounds" cX12_laysRounds 9 none (ax_rm 3 0 0) (ax_MQ X Q 0 0) 0 0 233 [some (.ref 58), some (.int x1), some (.int x2), some (.int a27.1), some (.int y4_233), none, none, some (.int y7_233), none] [.int t2_233, .int t1_233, .ref 58] (hp s_233 gb) := by
          intro y4_233 y7_233 t1_233 t2_233 s_233 hf
          unfold f_X12_laysRounds_L35_J233 at hf
          refine aw_iadd dX12_laysRounds_233 ?_
          refine aw_pI dX12_laysRounds_234 fp_X12_302 sh_58 rfl rfl rfl ?_
          refine aw_aload_n dX12_laysRounds_237 rfl rfl ?_
          refine aw_aload_n dX12_laysRounds_238 rfl rfl ?_
          refine aw_gI dX12_laysRounds_239 fl_X12_299 sh_58 rfl ?_
          refine aw_iload dX12_laysRounds_242 rfl ?_
          obtain ⟨p1, hp1, hf⟩ := ax_bind hf
          refine aw_cSi (As := [.int (rI (wI s_233 58 30 (t1_233 + t2_233)) 58 29), .int y7_233]) (st := [.ref 58]) dX12_laysRounds_244 cl_X12_311 st_J9_max_7cf53 (k_J9_max_7cf53 (Q := (fun v h' => v = some (.int p1.1) ∧ h' = hp p1.2 gb)) (rI (wI s_233 58 30 (t1_233 + t2_233)) 58 29) y7_233 (wI s_233 58 30 (t1_233 + t2_233)) gb hp1 ⟨rfl, rfl⟩) rfl rfl (Nat.le_of_ble_eq_true rfl) rfl (by decide) (by decide) ?_
          refine aw_pI dX12_laysRounds_247 fp_X12_299 sh_58 rfl rfl rfl ?_
          refine aw_iinc (v := (y4_233 + (1 : Int32))) (L' := [some (.ref 58), some (.int x1), some (.int x2), some (.int a27.1), some (.int (y4_233 + (1 : Int32))), none, none, some (.int y7_233), none]) dX12_laysRounds_250 rfl rfl (by decide) rfl ?_
          refine aw_goto (tgt := 35) dX12_laysRounds_253 (by decide) ?_
          refine aw_less (L' := [some (.ref 58), some (.int x1), some (.int x2), some (.int a27.1), some (.int (y4_233 + (1 : Int32))), none, none, none, none]) (And.intro rfl (And.intro rfl (And.intro rfl (And.intro rfl (And.intro rfl trivial))))) ?_
          cases hf
          exact hK
        have J211 : ∀ (y4_211 : Int32) (y7_211 : Int32) (t1_211 : Int32) (t2_211 : Int32) (s_211 : sx_M), f_X12_laysRounds_L35_J211 x1 x2 x1 x2 a27.1 y4_211 y7_211 t1_211 t2_211 s_211 = some r → AW l X RX12 "laysRounds" cX12_laysRounds 9 none (ax_rm 3 0 0) (ax_MQ X Q 0 0) 0 0 211 [some (.ref 58), some (.int x1), some (.int x2), some (.int a27.1), some (.int y4_211), none, none, some (.int y7_211), none] [.int t2_211, .int t1_211, .ref 58] (hp s_211 gb) := by
          intro y4_211 y7_211 t1_211 t2_211 s_211 hf
          unfold f_X12_laysRounds_L35_J211 at hf
          refine aw_iadd dX12_laysRounds_211 ?_
          refine aw_pI dX12_laysRounds_212 fp_X12_293 sh_58 rfl rfl rfl ?_
          refine aw_aload_n dX12_laysRounds_215 rfl rfl ?_
          refine aw_dup dX12_laysRounds_216 rfl ?_
          refine aw_gI dX12_laysRounds_217 fl_X12_302 sh_58 rfl ?_
          refine aw_iload_n dX12_laysRounds_220 rfl rfl ?_
          refine aw_if_ne (tgt := 229) dX12_laysRounds_221 (by decide) (fun hc1 => ?_) (fun hc1 => ?_)
          · have hf := ax_neg hc1 hf
            refine aw_iload dX12_laysRounds_229 rfl ?_
            refine aw_iconst (v := 1) dX12_laysRounds_231 (by decide) ?_
            refine aw_isub dX12_laysRounds_232 ?_
            exact J233 y4_211 y7_211 (rI (wI s_211 58 27 (t1_211 + t2_211)) 58 30) (y7_211 - (1 : Int32)) (wI s_211 58 27 (t1_211 + t2_211)) hf
          · have hf := ax_pos hc1 hf
            refine aw_iload dX12_laysRounds_224 rfl ?_
            refine aw_goto (tgt := 233) dX12_laysRounds_226 (by decide) ?_
            exact J233 y4_211 y7_211 (rI (wI s_211 58 27 (t1_211 + t2_211)) 58 30) y7_211 (wI s_211 58 27 (t1_211 + t2_211)) hf
        have J193 : ∀ (y4_193 : Int32) (y7_193 : Int32) (t1_193 : Int32) (t2_193 : Int32) (s_193 : sx_M), f_X12_laysRounds_L35_J193 x1 x2 x1 x2 a27.1 y4_193 y7_193 t1_193 t2_193 s_193 = some r → AW l X RX12 "laysRounds" cX12_laysRounds 9 none (ax_rm 3 0 0) (ax_MQ X Q 0 0) 0 0 193 [some (.ref 58), some (.int x1), some (.int x2), some (.int a27.1), some (.int y4_193), none, none, some (.int y7_193), none] [.int t2_193, .int t1_193, .ref 58] (hp s_193 gb) := by
          intro y4_193 y7_193 t1_193 t2_193 s_193 hf
          unfold f_X12_laysRounds_L35_J193 at hf
          refine aw_iadd dX12_laysRounds_193 ?_
          refine aw_pI dX12_laysRounds_194 fp_X12_296 sh_58 rfl rfl rfl ?_
          refine aw_aload_n dX12_laysRounds_197 rfl rfl ?_
          refine aw_dup dX12_laysRounds_198 rfl ?_
          refine aw_gI dX12_laysRounds_199 fl_X12_293 sh_58 rfl ?_
          refine aw_iload_n dX12_laysRounds_202 rfl rfl ?_
          refine aw_if_ne (tgt := 210) dX12_laysRounds_203 (by decide) (fun hc2 => ?_) (fun hc2 => ?_)
          · have hf := ax_neg hc2 hf
            refine aw_iconst (v := 1) dX12_laysRounds_210 (by decide) ?_
            exact J211 y4_193 y7_193 (rI (wI s_193 58 28 (t1_193 + t2_193)) 58 27) (1 : Int32) (wI s_193 58 28 (t1_193 + t2_193)) hf
          · have hf := ax_pos hc2 hf
            refine aw_iconst (v := 0) dX12_laysRounds_206 (by decide) ?_
            refine aw_goto (tgt := 211) dX12_laysRounds_207 (by decide) ?_
            exact J211 y4_193 y7_193 (rI (wI s_193 58 28 (t1_193 + t2_193)) 58 27) (0 : Int32) (wI s_193 58 28 (t1_193 + t2_193)) hf
        have J94 : ∀ (y4_94 : Int32) (y5_94 : Int32) (t0_94 : Int32) (s_94 : sx_M), f_X12_laysRounds_L35_J94 x1 x2 x1 x2 a27.1 y4_94 y5_94 t0_94 s_94 = some r → AW l X RX12 "laysRounds" cX12_laysRounds 9 none (ax_rm 3 0 0) (ax_MQ X Q 0 0) 0 0 94 [some (.ref 58), some (.int x1), some (.int x2), some (.int a27.1), some (.int y4_94), some (.int y5_94), none, none, none] [.int t0_94] (hp s_94 gb) := by
          intro y4_94 y5_94 t0_94 s_94 hf
          unfold f_X12_laysRounds_L35_J94 at hf
          refine aw_istore (L' := [some (.ref 58), some (.int x1), some (.int x2), some (.int a27.1), some (.int y4_94), some (.int y5_94), some (.int t0_94), none, none]) dX12_laysRounds_94 (by decide) rfl ?_
          refine aw_iload dX12_laysRounds_96 rfl ?_
          refine aw_if_ne (tgt := 250) dX12_laysRounds_98 (by decide) (fun hc8 => ?_) (fun hc8 => ?_)
          · have hf := ax_neg hc8 hf
            refine aw_iinc (v := (y4_94 + (1 : Int32))) (L' := [some (.ref 58), some (.int x1), some (.int x2), some (.int a27.1), some (.int (y4_94 + (1 : Int32))), some (.int y5_94), some (.int t0_94), none, none]) dX12_laysRounds_250 rfl rfl (by decide) rfl ?_
            refine aw_goto (tgt := 35) dX12_laysRounds_253 (by decide) ?_
            refine aw_less (L' := [some (.ref 58), some (.int x1), some (.int x2), some (.int a27.1), some (.int (y4_94 + (1 : Int32))), none, none, none, none]) (And.intro rfl (And.intro rfl (And.intro rfl (And.intro rfl (And.intro rfl trivial))))) ?_
            cases hf
            exact hK
          · have hf := ax_pos hc8 hf
            refine aw_iload dX12_laysRounds_101 rfl ?_
            refine aw_if_eq (tgt := 250) dX12_laysRounds_103 (by decide) (fun hc7 => ?_) (fun hc7 => ?_)
            · have hf := ax_pos hc7 hf
              refine aw_iinc (v := (y4_94 + (1 : Int32))) (L' := [some (.ref 58), some (.int x1), some (.int x2), some (.int a27.1), some (.int (y4_94 + (1 : Int32))), some (.int y5_94), some (.int t0_94), none, none]) dX12_laysRounds_250 rfl rfl (by decide) rfl ?_
              refine aw_goto (tgt := 35) dX12_laysRounds_253 (by decide) ?_
              refine aw_less (L' := [some (.ref 58), some (.int x1), some (.int x2), some (.int a27.1), some (.int (y4_94 + (1 : Int32))), none, none, none, none]) (And.intro rfl (And.intro rfl (And.intro rfl (And.intro rfl (And.intro rfl trivial))))) ?_
              cases hf
              exact hK
            · have hf := ax_neg hc7 hf
              refine aw_aload_n dX12_laysRounds_106 rfl rfl ?_
              refine aw_gI dX12_laysRounds_107 fl_X12_305 sh_58 rfl ?_
              refine aw_iload dX12_laysRounds_110 rfl ?_
              obtain ⟨p2, hp2, hf⟩ := ax_bind hf
              refine aw_cSi (As := [.int (rI s_94 58 31), .int y4_94]) (st := []) dX12_laysRounds_112 cl_X12_164 st_X12_has (k_X12_has (Q := (fun v h' => v = some (.int p2.1) ∧ h' = hp p2.2 gb)) (rI s_94 58 31) y4_94 s_94 gb hp2 ⟨rfl, rfl⟩) rfl rfl (Nat.le_of_ble_eq_true rfl) rfl (by decide) (by decide) ?_
              refine aw_if_eq (tgt := 121) dX12_laysRounds_115 (by decide) (fun hc6 => ?_) (fun hc6 => ?_)
              · have hf := ax_pos hc6 hf
                refine aw_iconst (v := 0) dX12_laysRounds_121 (by decide) ?_
                refine aw_istore (L' := [some (.ref 58), some (.int x1), some (.int x2), some (.int a27.1), some (.int y4_94), some (.int y5_94), some (.int t0_94), some (.int (0 : Int32)), none]) dX12_laysRounds_122 (by decide) rfl ?_
                refine aw_iload dX12_laysRounds_124 rfl ?_
                refine aw_istore (L' := [some (.ref 58), some (.int x1), some (.int x2), some (.int a27.1), some (.int y4_94), some (.int y5_94), some (.int t0_94), some (.int (0 : Int32)), some (.int y4_94)]) dX12_laysRounds_126 (by decide) rfl ?_
                refine aw_less (L' := [some (.ref 58), some (.int x1), some (.int x2), some (.int a27.1), some (.int y4_94), none, none, some (.int (0 : Int32)), some (.int y4_94)]) (And.intro rfl (And.intro rfl (And.intro rfl (And.intro rfl (And.intro rfl (And.intro rfl (And.intro rfl trivial))))))) ?_
                obtain ⟨b6, hb6, hf⟩ := ax_bind hf
                refine wh_go ((0 : Int32), y4_94, p2.2) (fun a128 : Int32 × Int32 × sx_M => AW l X RX12 "laysRounds" cX12_laysRounds 9 none (ax_rm 3 0 0) (ax_MQ X Q 0 0) 0 0 128 [some (.ref 58), some (.int x1), some (.int x2), some (.int a27.1), some (.int y4_94), none, none, some (.int a128.1), some (.int a128.2.1)] [] (hp a128.2.2 gb)) (fun e : Int32 × sx_M => AW l X RX12 "laysRounds" cX12_laysRounds 9 none (ax_rm 3 0 0) (ax_MQ X Q 0 0) 0 0 179 [some (.ref 58), some (.int x1), some (.int x2), some (.int a27.1), some (.int y4_94), none, none, some (.int e.1), none] [] (hp e.2 gb)) hb6 ?_ ?_
                · intro a128 r hf hK
                  unfold f_X12_laysRounds_L128 at hf
                  refine aw_iload dX12_laysRounds_128 rfl ?_
                  refine aw_iconst (v := -1) dX12_laysRounds_130 (by decide) ?_
                  refine aw_icmp_eq (tgt := 179) dX12_laysRounds_131 (by decide) (fun hc4 => ?_) (fun hc4 => ?_)
                  · have hf := ax_pos hc4 hf
                    refine aw_less (L' := [some (.ref 58), some (.int x1), some (.int x2), some (.int a27.1), some (.int y4_94), none, none, some (.int a128.1), none]) (And.intro rfl (And.intro rfl (And.intro rfl (And.intro rfl (And.intro rfl (And.intro rfl trivial)))))) ?_
                    cases hf
                    exact hK
                  · have hf := ax_neg hc4 hf
                    refine aw_aload_n dX12_laysRounds_134 rfl rfl ?_
                    refine aw_gI dX12_laysRounds_135 fl_X12_305 sh_58 rfl ?_
                    refine aw_iload dX12_laysRounds_138 rfl ?_
                    obtain ⟨p3, hp3, hf⟩ := ax_bind hf
                    refine aw_cSi (As := [.int (rI a128.2.2 58 31), .int a128.2.1]) (st := []) dX12_laysRounds_140 cl_X12_164 st_X12_has (k_X12_has (Q := (fun v h' => v = some (.int p3.1) ∧ h' = hp p3.2 gb)) (rI a128.2.2 58 31) a128.2.1 a128.2.2 gb hp3 ⟨rfl, rfl⟩) rfl rfl (Nat.le_of_ble_eq_true rfl) rfl (by decide) (by decide) ?_
                    refine aw_if_ne (tgt := 179) dX12_laysRounds_143 (by decide) (fun hc3 => ?_) (fun hc3 => ?_)
                    · have hf := ax_neg hc3 hf
                      refine aw_less (L' := [some (.ref 58), some (.int x1), some (.int x2), some (.int a27.1), some (.int y4_94), none, none, some (.int a128.1), none]) (And.intro rfl (And.intro rfl (And.intro rfl (And.intro rfl (And.intro rfl (And.intro rfl trivial)))))) ?_
                      cases hf
                      exact hK
                    · have hf := ax_pos hc3 hf
                      refine aw_aload_n dX12_laysRounds_146 rfl rfl ?_
                      refine aw_dup dX12_laysRounds_147 rfl ?_
                      refine aw_gI dX12_laysRounds_148 fl_X12_305 sh_58 rfl ?_
                      refine aw_iconst (v := 1) dX12_laysRounds_151 (by decide) ?_
                      refine aw_iload dX12_laysRounds_152 rfl ?_
                      refine aw_ishl dX12_laysRounds_154 ?_
                      refine aw_ior dX12_laysRounds_155 ?_
                      refine aw_pI dX12_laysRounds_156 fp_X12_305 sh_58 rfl rfl rfl ?_
                      refine aw_iinc (v := (a128.1 + (1 : Int32))) (L' := [some (.ref 58), some (.int x1), some (.int x2), some (.int a27.1), some (.int y4_94), none, none, some (.int (a128.1 + (1 : Int32))), some (.int a128.2.1)]) dX12_laysRounds_159 rfl rfl (by decide) rfl ?_
                      refine aw_aload_n dX12_laysRounds_162 rfl rfl ?_
                      refine aw_iload_n dX12_laysRounds_163 rfl rfl ?_
                      refine aw_aload_n dX12_laysRounds_164 rfl rfl ?_
                      refine aw_iload_n dX12_laysRounds_165 rfl rfl ?_
                      refine aw_iload dX12_laysRounds_166 rfl ?_
                      obtain ⟨p4, hp4, hf⟩ := ax_bind hf
                      refine aw_cVi (As := [.int x2, .int a128.2.1]) (st := [.int x1, .ref 58]) dX12_laysRounds_168 cl_X12_205 iv_X12_jobOf (k_X12_jobOf (Q := (fun v h' => v = some (.int p4.1) ∧ h' = hp p4.2 gb)) x2 a128.2.1 (wI p3.2 58 31 ((rI p3.2 58 31) ||| ((1 : Int32) <<< (a128.2.1 &&& 31)))) gb hp4 ⟨rfl, rfl⟩) (ci := 12) rfl (hp_get sh_58) rfl rfl rfl (Nat.le_of_ble_eq_true rfl) rfl (by decide) (by decide) ?_
                      obtain ⟨p5, hp5, hf⟩ := ax_bind hf
                      refine aw_cVi (As := [.int x1, .int p4.1]) (st := []) dX12_laysRounds_171 cl_X12_308 iv_X12_whoHad (k_X12_whoHad (Q := (fun v h' => v = some (.int p5.1) ∧ h' = hp p5.2 gb)) x1 p4.1 p4.2 gb hp5 ⟨rfl, rfl⟩) (ci := 12) rfl (hp_get sh_58) rfl rfl rfl (Nat.le_of_ble_eq_true rfl) rfl (by decide) (by decide) ?_
                      refine aw_istore (L' := [some (.ref 58), some (.int x1), some (.int x2), some (.int a27.1), some (.int y4_94), none, none, some (.int (a128.1 + (1 : Int32))), some (.int p5.1)]) dX12_laysRounds_174 (by decide) rfl ?_
                      refine aw_goto (tgt := 128) dX12_laysRounds_176 (by decide) ?_
                      cases hf
                      exact hK
                · refine aw_aload_n dX12_laysRounds_179 rfl rfl ?_
                  refine aw_dup dX12_laysRounds_180 rfl ?_
                  refine aw_gI dX12_laysRounds_181 fl_X12_296 sh_58 rfl ?_
                  refine aw_iload_n dX12_laysRounds_184 rfl rfl ?_
                  refine aw_if_ne (tgt := 192) dX12_laysRounds_185 (by decide) (fun hc5 => ?_) (fun hc5 => ?_)
                  · have hf := ax_neg hc5 hf
                    refine aw_iconst (v := 0) dX12_laysRounds_192 (by decide) ?_
                    exact J193 y4_94 b6.1 (rI b6.2 58 28) (0 : Int32) b6.2 hf
                  · have hf := ax_pos hc5 hf
                    refine aw_iconst (v := 1) dX12_laysRounds_188 (by decide) ?_
                    refine aw_goto (tgt := 193) dX12_laysRounds_189 (by decide) ?_
                    exact J193 y4_94 b6.1 (rI b6.2 58 28) (1 : Int32) b6.2 hf
              · have hf := ax_neg hc6 hf
                refine aw_goto (tgt := 250) dX12_laysRounds_118 (by decide) ?_
                refine aw_iinc (v := (y4_94 + (1 : Int32))) (L' := [some (.ref 58), some (.int x1), some (.int x2), some (.int a27.1), some (.int (y4_94 + (1 : Int32))), some (.int y5_94), some (.int t0_94), none, none]) dX12_laysRounds_250 rfl rfl (by decide) rfl ?_
                refine aw_goto (tgt := 35) dX12_laysRounds_253 (by decide) ?_
                refine aw_less (L' := [some (.ref 58), some (.int x1), some (.int x2), some (.int a27.1), some (.int (y4_94 + (1 : Int32))), none, none, none, none]) (And.intro rfl (And.intro rfl (And.intro rfl (And.intro rfl (And.intro rfl trivial))))) ?_
                cases hf
                exact hK
        have J66 : ∀ (y4_66 : Int32) (t0_66 : Int32) (s_66 : sx_M), f_X12_laysRounds_L35_J66 x1 x2 x1 x2 a27.1 y4_66 t0_66 s_66 = some r → AW l X RX12 "laysRounds" cX12_laysRounds 9 none (ax_rm 3 0 0) (ax_MQ X Q 0 0) 0 0 66 [some (.ref 58), some (.int x1), some (.int x2), some (.int a27.1), some (.int y4_66), none, none, none, none] [.int t0_66] (hp s_66 gb) := by
          intro y4_66 t0_66 s_66 hf
          unfold f_X12_laysRounds_L35_J66 at hf
          refine aw_istore (L' := [some (.ref 58), some (.int x1), some (.int x2), some (.int a27.1), some (.int y4_66), some (.int t0_66), none, none, none]) dX12_laysRounds_66 (by decide) rfl ?_
          refine aw_iload_n dX12_laysRounds_68 rfl rfl ?_
          refine aw_iconst (v := 1) dX12_laysRounds_69 (by decide) ?_
          refine aw_icmp_eq (tgt := 89) dX12_laysRounds_70 (by decide) (fun hc10 => ?_) (fun hc10 => ?_)
          · have hf := ax_pos hc10 hf
            refine aw_iconst (v := 1) dX12_laysRounds_89 (by decide) ?_
            refine aw_goto (tgt := 94) dX12_laysRounds_90 (by decide) ?_
            exact J94 y4_66 t0_66 (1 : Int32) s_66 hf
          · have hf := ax_neg hc10 hf
            refine aw_aload_n dX12_laysRounds_73 rfl rfl ?_
            refine aw_iload_n dX12_laysRounds_74 rfl rfl ?_
            refine aw_aload_n dX12_laysRounds_75 rfl rfl ?_
            refine aw_iload_n dX12_laysRounds_76 rfl rfl ?_
            refine aw_iload dX12_laysRounds_77 rfl ?_
            obtain ⟨p7, hp7, hf⟩ := ax_bind hf
            refine aw_cVi (As := [.int x1, .int y4_66]) (st := [.int x2, .ref 58]) dX12_laysRounds_79 cl_X12_205 iv_X12_jobOf (k_X12_jobOf (Q := (fun v h' => v = some (.int p7.1) ∧ h' = hp p7.2 gb)) x1 y4_66 s_66 gb hp7 ⟨rfl, rfl⟩) (ci := 12) rfl (hp_get sh_58) rfl rfl rfl (Nat.le_of_ble_eq_true rfl) rfl (by decide) (by decide) ?_
            obtain ⟨p8, hp8, hf⟩ := ax_bind hf
            refine aw_cVi (As := [.int x2, .int p7.1]) (st := []) dX12_laysRounds_82 cl_X12_308 iv_X12_whoHad (k_X12_whoHad (Q := (fun v h' => v = some (.int p8.1) ∧ h' = hp p8.2 gb)) x2 p7.1 p7.2 gb hp8 ⟨rfl, rfl⟩) (ci := 12) rfl (hp_get sh_58) rfl rfl rfl (Nat.le_of_ble_eq_true rfl) rfl (by decide) (by decide) ?_
            refine aw_iconst (v := -1) dX12_laysRounds_85 (by decide) ?_
            refine aw_icmp_ne (tgt := 93) dX12_laysRounds_86 (by decide) (fun hc9 => ?_) (fun hc9 => ?_)
            · have hf := ax_neg hc9 hf
              refine aw_iconst (v := 0) dX12_laysRounds_93 (by decide) ?_
              exact J94 y4_66 t0_66 (0 : Int32) p8.2 hf
            · have hf := ax_pos hc9 hf
              refine aw_iconst (v := 1) dX12_laysRounds_89 (by decide) ?_
              refine aw_goto (tgt := 94) dX12_laysRounds_90 (by decide) ?_
              exact J94 y4_66 t0_66 (1 : Int32) p8.2 hf
        refine aw_iload dX12_laysRounds_35 rfl ?_
        refine aw_aload_n dX12_laysRounds_37 rfl rfl ?_
        obtain ⟨p9, hp9, hf⟩ := ax_bind hf
        refine aw_cVi (As := []) (st := [.int a35.1]) dX12_laysRounds_38 cl_X12_60 iv_X12_workers (k_X12_workers (Q := (fun v h' => v = some (.int p9.1) ∧ h' = hp p9.2 gb)) a35.2 gb hp9 ⟨rfl, rfl⟩) (ci := 12) rfl (hp_get sh_58) rfl rfl rfl (Nat.le_of_ble_eq_true rfl) rfl (by decide) (by decide) ?_
        refine aw_icmp_ge (tgt := 256) dX12_laysRounds_41 (by decide) (fun hc12 => ?_) (fun hc12 => ?_)
        · have hf := ax_pos hc12 hf
          refine aw_less (L' := [some (.ref 58), some (.int x1), some (.int x2), some (.int a27.1), none, none, none, none, none]) (And.intro rfl (And.intro rfl (And.intro rfl (And.intro rfl trivial)))) ?_
          cases hf
          exact hK
        · have hf := ax_neg hc12 hf
          refine aw_aload_n dX12_laysRounds_44 rfl rfl ?_
          refine aw_iload_n dX12_laysRounds_45 rfl rfl ?_
          refine aw_iload dX12_laysRounds_46 rfl ?_
          obtain ⟨p10, hp10, hf⟩ := ax_bind hf
          refine aw_cVi (As := [.int x1, .int a35.1]) (st := []) dX12_laysRounds_48 cl_X12_205 iv_X12_jobOf (k_X12_jobOf (Q := (fun v h' => v = some (.int p10.1) ∧ h' = hp p10.2 gb)) x1 a35.1 p9.2 gb hp10 ⟨rfl, rfl⟩) (ci := 12) rfl (hp_get sh_58) rfl rfl rfl (Nat.le_of_ble_eq_true rfl) rfl (by decide) (by decide) ?_
          refine aw_aload_n dX12_laysRounds_51 rfl rfl ?_
          refine aw_iload_n dX12_laysRounds_52 rfl rfl ?_
          refine aw_iload dX12_laysRounds_53 rfl ?_
          obtain ⟨p11, hp11, hf⟩ := ax_bind hf
          refine aw_cVi (As := [.int x2, .int a35.1]) (st := [.int p10.1]) dX12_laysRounds_55 cl_X12_205 iv_X12_jobOf (k_X12_jobOf (Q := (fun v h' => v = some (.int p11.1) ∧ h' = hp p11.2 gb)) x2 a35.1 p10.2 gb hp11 ⟨rfl, rfl⟩) (ci := 12) rfl (hp_get sh_58) rfl rfl rfl (Nat.le_of_ble_eq_true rfl) rfl (by decide) (by decide) ?_
          refine aw_icmp_ne (tgt := 65) dX12_laysRounds_58 (by decide) (fun hc11 => ?_) (fun hc11 => ?_)
          · have hf := ax_neg hc11 hf
            refine aw_iconst (v := 0) dX12_laysRounds_65 (by decide) ?_
            exact J66 a35.1 (0 : Int32) p11.2 hf
          · have hf := ax_pos hc11 hf
            refine aw_iconst (v := 1) dX12_laysRounds_61 (by decide) ?_
            refine aw_goto (tgt := 66) dX12_laysRounds_62 (by decide) ?_
            exact J66 a35.1 (1 : Int32) p11.2 hf
      · refine aw_iinc (v := (a27.1 + (1 : Int32))) (L' := [some (.ref 58), some (.int x1), some (.int x2), some (.int (a27.1 + (1 : Int32))), none, none, none, none, none]) dX12_laysRounds_256 rfl rfl (by decide) rfl ?_
        refine aw_goto (tgt := 27) dX12_laysRounds_259 (by decide) ?_
        cases hf
        exact hK
  · cases hf
    exact aw_vret dX12_laysRounds_262 hq (Nat.le_refl _) (Nat.le_refl _)
noncomputable def f_X12_rounds (x1 : Int32) (x2 : Int32) (x3 : Int32) (s : sx_M) : Option (Int32 × sx_M) :=
  (f_X12_isRank x1 s).bind (fun p1 =>
 (if p1.1 = 0 then
 some ((-2 : Int32), p1.2)
else
 (f_X12_isRank x2 p1.2).bind (fun p2 =>
 (if p2.1 = 0 then
 some ((-2 : Int32), p2.2)
else
 (f_X12_in ((x3).toInt64) (0 : Int64) (3 : Int64) p2.2).bind (fun p3 =>
 (if p3.1 = 0 then
 some ((-2 : Int32), p3.2)
else
 (f_X12_laysFirst p3.2).bind (fun p4 =>
 (f_X12_isThere x1 p4).bind (fun p5 =>
 (if p5.1 = 0 then
 some ((-1 : Int32), p5.2)
else
 (f_X12_isThere x2 p5.2).bind (fun p6 =>
 (if p6.1 = 0 then
 some ((-1 : Int32), p6.2)
else
 (if ¬ (x1 < 0 ∨ 200 ≤ (x1).toNatClampNeg) then
 (if ¬ (x2 < 0 ∨ 200 ≤ (x2).toNatClampNeg) then
 (f_X12_laysRounds (rA p6.2 66 (x1).toNatClampNeg) (rA p6.2 66 (x2).toNatClampNeg) p6.2).bind (fun p7 =>
 (if x3 = 0 then
 some ((rI p7 58 27), p7)
else
 (if x3 = (1 : Int32) then
 some ((rI p7 58 28), p7)
else
 (if x3 = (2 : Int32) then
 some ((rI p7 58 29), p7)
else
 some ((rI p7 58 30), p7)))))
else none)
else none))))))))))))
set_option maxRecDepth 100000 in
set_option maxHeartbeats 4000000 in
theorem k_X12_rounds {l : Launch} {X : ax_X} {Q : Option Value → ax_H → Prop} (x1 : Int32) (x2 : Int32) (x3 : Int32) (s : sx_M) (gb : ax_H) {p : Int32 × sx_M} (hf : f_X12_rounds x1 x2 x3 s = some p) (hq : Q (some (.int p.1)) (hp p.2 gb)) : AM l X yX12_rounds cX12_rounds 4 (some .int) 6 0 0 [.ref 58, .int x1, .int x2, .int x3] (hp s gb) Q := by
  refine aw_met (own := RX12) (nm := "rounds") (L := [some (.ref 58), some (.int x1), some (.int x2), some (.int x3)]) (by decide +kernel) rfl rfl (And.intro rfl (And.intro rfl (And.intro rfl (And.intro rfl trivial)))) (Nat.le_of_ble_eq_true rfl) ?_
  unfold f_X12_rounds at hf
  refine aw_iload_n dX12_rounds_0 rfl rfl ?_
  obtain ⟨p1, hp1, hf⟩ := ax_bind hf
  refine aw_cSi (As := [.int x1]) (st := []) dX12_rounds_1 cl_X12_181 st_X12_isRank (k_X12_isRank (Q := (fun v h' => v = some (.int p1.1) ∧ h' = hp p1.2 gb)) x1 s gb hp1 ⟨rfl, rfl⟩) rfl rfl (Nat.le_of_ble_eq_true rfl) rfl (by decide) (by decide) ?_
  refine aw_if_eq (tgt := 26) dX12_rounds_4 (by decide) (fun hc10 => ?_) (fun hc10 => ?_)
  · have hf := ax_pos hc10 hf
    refine aw_bipush (v := -2) dX12_rounds_26 (by decide) ?_
    cases hf
    exact aw_iret dX12_rounds_28 hq (Nat.le_refl _) (Nat.le_refl _)
  · have hf := ax_neg hc10 hf
    refine aw_iload_n dX12_rounds_7 rfl rfl ?_
    obtain ⟨p2, hp2, hf⟩ := ax_bind hf
    refine aw_cSi (As := [.int x2]) (st := []) dX12_rounds_8 cl_X12_181 st_X12_isRank (k_X12_isRank (Q := (fun v h' => v = some (.int p2.1) ∧ h' = hp p2.2 gb)) x2 p1.2 gb hp2 ⟨rfl, rfl⟩) rfl rfl (Nat.le_of_ble_eq_true rfl) rfl (by decide) (by decide) ?_
    refine aw_if_eq (tgt := 26) dX12_rounds_11 (by decide) (fun hc9 => ?_) (fun hc9 => ?_)
    · have hf := ax_pos hc9 hf
      refine aw_bipush (v := -2) dX12_rounds_26 (by decide) ?_
      cases hf
      exact aw_iret dX12_rounds_28 hq (Nat.le_refl _) (Nat.le_refl _)
    · have hf := ax_neg hc9 hf
      refine aw_iload_n dX12_rounds_14 rfl rfl ?_
      refine aw_i2l dX12_rounds_15 ?_
      refine aw_lconst (v := 0) dX12_rounds_16 (by decide) ?_
      refine aw_ldc2 dX12_rounds_17 kc_X12_233 ?_
      obtain ⟨p3, hp3, hf⟩ := ax_bind hf
      refine aw_cSi (As := [.long ((x3).toInt64), .long (0 : Int64), .long (3 : Int64)]) (st := []) dX12_rounds_20 cl_X12_64 st_X12_in (k_X12_in (Q := (fun v h' => v = some (.int p3.1) ∧ h' = hp p3.2 gb)) ((x3).toInt64) (0 : Int64) (3 : Int64) p2.2 gb hp3 ⟨rfl, rfl⟩) rfl rfl (Nat.le_of_ble_eq_true rfl) rfl (by decide) (by decide) ?_
      refine aw_if_ne (tgt := 29) dX12_rounds_23 (by decide) (fun hc8 => ?_) (fun hc8 => ?_)
      · have hf := ax_neg hc8 hf
        refine aw_aload_n dX12_rounds_29 rfl rfl ?_
        obtain ⟨p4, hp4, hf⟩ := ax_bind hf
        refine aw_cVv (As := []) (st := []) dX12_rounds_30 cl_X12_199 iv_X12_laysFirst (k_X12_laysFirst (Q := (fun v h' => v = none ∧ h' = hp p4 gb)) p3.2 gb hp4 ⟨rfl, rfl⟩) (ci := 12) rfl (hp_get sh_58) rfl rfl rfl (Nat.le_of_ble_eq_true rfl) rfl (by decide) (by decide) ?_
        refine aw_aload_n dX12_rounds_33 rfl rfl ?_
        refine aw_iload_n dX12_rounds_34 rfl rfl ?_
        obtain ⟨p5, hp5, hf⟩ := ax_bind hf
        refine aw_cVi (As := [.int x1]) (st := []) dX12_rounds_35 cl_X12_202 iv_X12_isThere (k_X12_isThere (Q := (fun v h' => v = some (.int p5.1) ∧ h' = hp p5.2 gb)) x1 p4 gb hp5 ⟨rfl, rfl⟩) (ci := 12) rfl (hp_get sh_58) rfl rfl rfl (Nat.le_of_ble_eq_true rfl) rfl (by decide) (by decide) ?_
        refine aw_if_eq (tgt := 49) dX12_rounds_38 (by decide) (fun hc7 => ?_) (fun hc7 => ?_)
        · have hf := ax_pos hc7 hf
          refine aw_iconst (v := -1) dX12_rounds_49 (by decide) ?_
          cases hf
          exact aw_iret dX12_rounds_50 hq (Nat.le_refl _) (Nat.le_refl _)
        · have hf := ax_neg hc7 hf
          refine aw_aload_n dX12_rounds_41 rfl rfl ?_
          refine aw_iload_n dX12_rounds_42 rfl rfl ?_
          obtain ⟨p6, hp6, hf⟩ := ax_bind hf
          refine aw_cVi (As := [.int x2]) (st := []) dX12_rounds_43 cl_X12_202 iv_X12_isThere (k_X12_isThere (Q := (fun v h' => v = some (.int p6.1) ∧ h' = hp p6.2 gb)) x2 p5.2 gb hp6 ⟨rfl, rfl⟩) (ci := 12) rfl (hp_get sh_58) rfl rfl rfl (Nat.le_of_ble_eq_true rfl) rfl (by decide) (by decide) ?_
          refine aw_if_ne (tgt := 51) dX12_rounds_46 (by decide) (fun hc6 => ?_) (fun hc6 => ?_)
          · have hf := ax_neg hc6 hf
            refine aw_aload_n dX12_rounds_51 rfl rfl ?_
            refine aw_aload_n dX12_rounds_52 rfl rfl ?_
            refine aw_gR dX12_rounds_53 fl_X12_40 sh_58 rfl ?_
            refine aw_iload_n dX12_rounds_56 rfl rfl ?_
            obtain ⟨hc1, hf⟩ := ax_ite hf
            refine aw_lA dX12_rounds_57 sh_66 hc1 ?_
            refine aw_aload_n dX12_rounds_58 rfl rfl ?_
            refine aw_gR dX12_rounds_59 fl_X12_40 sh_58 rfl ?_
            refine aw_iload_n dX12_rounds_62 rfl rfl ?_
            obtain ⟨hc2, hf⟩ := ax_ite hf
            refine aw_lA dX12_rounds_63 sh_66 hc2 ?_
            obtain ⟨p7, hp7, hf⟩ := ax_bind hf
            refine aw_cVv (As := [.int (rA p6.2 66 (x1).toNatClampNeg), .int (rA p6.2 66 (x2).toNatClampNeg)]) (st := []) dX12_rounds_64 cl_X12_313 iv_X12_laysRounds (k_X12_laysRounds (Q := (fun v h' => v = none ∧ h' = hp p7 gb)) (rA p6.2 66 (x1).toNatClampNeg) (rA p6.2 66 (x2).toNatClampNeg) p6.2 gb hp7 ⟨rfl, rfl⟩) (ci := 12) rfl (hp_get sh_58) rfl rfl rfl (Nat.le_of_ble_eq_true rfl) rfl (by decide) (by decide) ?_
            refine aw_iload_n dX12_rounds_67 rfl rfl ?_
            refine aw_if_ne (tgt := 78) dX12_rounds_68 (by decide) (fun hc5 => ?_) (fun hc5 => ?_)
            · have hf := ax_neg hc5 hf
              refine aw_iload_n dX12_rounds_78 rfl rfl ?_
              refine aw_iconst (v := 1) dX12_rounds_79 (by decide) ?_
              refine aw_icmp_ne (tgt := 90) dX12_rounds_80 (by decide) (fun hc4 => ?_) (fun hc4 => ?_)
              · have hf := ax_neg hc4 hf
                refine aw_iload_n dX12_rounds_90 rfl rfl ?_
                refine aw_iconst (v := 2) dX12_rounds_91 (by decide) ?_
                refine aw_icmp_ne (tgt := 102) dX12_rounds_92 (by decide) (fun hc3 => ?_) (fun hc3 => ?_)
                · have hf := ax_neg hc3 hf
                  refine aw_aload_n dX12_rounds_102 rfl rfl ?_
                  refine aw_gI dX12_rounds_103 fl_X12_302 sh_58 rfl ?_
                  cases hf
                  exact aw_iret dX12_rounds_106 hq (Nat.le_refl _) (Nat.le_refl _)
                · have hf := ax_pos hc3 hf
                  refine aw_aload_n dX12_rounds_95 rfl rfl ?_
                  refine aw_gI dX12_rounds_96 fl_X12_299 sh_58 rfl ?_
                  refine aw_goto (tgt := 106) dX12_rounds_99 (by decide) ?_
                  cases hf
                  exact aw_iret dX12_rounds_106 hq (Nat.le_refl _) (Nat.le_refl _)
              · have hf := ax_pos hc4 hf
                refine aw_aload_n dX12_rounds_83 rfl rfl ?_
                refine aw_gI dX12_rounds_84 fl_X12_296 sh_58 rfl ?_
                refine aw_goto (tgt := 106) dX12_rounds_87 (by decide) ?_
                cases hf
                exact aw_iret dX12_rounds_106 hq (Nat.le_refl _) (Nat.le_refl _)
            · have hf := ax_pos hc5 hf
              refine aw_aload_n dX12_rounds_71 rfl rfl ?_
              refine aw_gI dX12_rounds_72 fl_X12_293 sh_58 rfl ?_
              refine aw_goto (tgt := 106) dX12_rounds_75 (by decide) ?_
              cases hf
              exact aw_iret dX12_rounds_106 hq (Nat.le_refl _) (Nat.le_refl _)
          · have hf := ax_pos hc6 hf
            refine aw_iconst (v := -1) dX12_rounds_49 (by decide) ?_
            cases hf
            exact aw_iret dX12_rounds_50 hq (Nat.le_refl _) (Nat.le_refl _)
      · have hf := ax_pos hc8 hf
        refine aw_bipush (v := -2) dX12_rounds_26 (by decide) ?_
        cases hf
        exact aw_iret dX12_rounds_28 hq (Nat.le_refl _) (Nat.le_refl _)
noncomputable def f_X12_bits_L4 (z0 : Int32) (a4 : Int32 × Int32 × sx_M) : Option ((Int32 × Int32 × sx_M) ⊕ (Int32 × sx_M)) :=
  (if (8 : Int32) ≤ a4.2.1 then
 some (.inr (a4.1, a4.2.2))
else
 some (.inl ((a4.1 + ((z0 >>> (a4.2.1 &&& 31)) &&& (1 : Int32))), (a4.2.1 + (1 : Int32)), a4.2.2)))
noncomputable def f_X12_bits (x0 : Int32) (s : sx_M) : Option (Int32 × sx_M) :=
  (whT (f_X12_bits_L4 x0) ((0 : Int32), (0 : Int32), s)).bind (fun b1 =>
 some (b1.1, b1.2))
set_option maxRecDepth 100000 in
set_option maxHeartbeats 4000000 in
theorem k_X12_bits {l : Launch} {X : ax_X} {Q : Option Value → ax_H → Prop} (x0 : Int32) (s : sx_M) (gb : ax_H) {p : Int32 × sx_M} (hf : f_X12_bits x0 s = some p) (hq : Q (some (.int p.1)) (hp p.2 gb)) : AM l X yX12_bits cX12_bits 3 (some .int) 0 0 0 [.int x0] (hp s gb) Q := by
  refine aw_met (own := RX12) (nm := "bits") (L := [some (.int x0), none, none]) (by decide +kernel) rfl rfl (And.intro rfl trivial) (Nat.le_of_ble_eq_true rfl) ?_
  unfold f_X12_bits at hf
  refine aw_iconst (v := 0) dX12_bits_0 (by decide) ?_
  refine aw_istore_n (L' := [some (.int x0), some (.int (0 : Int32)), none]) dX12_bits_1 rfl (by decide) rfl ?_
  refine aw_iconst (v := 0) dX12_bits_2 (by decide) ?_
  refine aw_istore_n (L' := [some (.int x0), some (.int (0 : Int32)), some (.int (0 : Int32))]) dX12_bits_3 rfl (by decide) rfl ?_
  obtain ⟨b1, hb1, hf⟩ := ax_bind hf
  refine wh_go ((0 : Int32), (0 : Int32), s) (fun a4 : Int32 × Int32 × sx_M => AW l X RX12 "bits" cX12_bits 3 (some .int) (ax_rm 0 0 0) (ax_MQ X Q 0 0) 0 0 4 [some (.int x0), some (.int a4.1), some (.int a4.2.1)] [] (hp a4.2.2 gb)) (fun e : Int32 × sx_M => AW l X RX12 "bits" cX12_bits 3 (some .int) (ax_rm 0 0 0) (ax_MQ X Q 0 0) 0 0 24 [none, some (.int e.1), none] [] (hp e.2 gb)) hb1 ?_ ?_
  · intro a4 r hf hK
    unfold f_X12_bits_L4 at hf
    refine aw_iload_n dX12_bits_4 rfl rfl ?_
    refine aw_bipush (v := 8) dX12_bits_5 (by decide) ?_
    refine aw_icmp_ge (tgt := 24) dX12_bits_7 (by decide) (fun hc1 => ?_) (fun hc1 => ?_)
    · have hf := ax_pos hc1 hf
      refine aw_less (L' := [none, some (.int a4.1), none]) (And.intro rfl trivial) ?_
      cases hf
      exact hK
    · have hf := ax_neg hc1 hf
      refine aw_iload_n dX12_bits_10 rfl rfl ?_
      refine aw_iload_n dX12_bits_11 rfl rfl ?_
      refine aw_iload_n dX12_bits_12 rfl rfl ?_
      refine aw_ishr dX12_bits_13 ?_
      refine aw_iconst (v := 1) dX12_bits_14 (by decide) ?_
      refine aw_iand dX12_bits_15 ?_
      refine aw_iadd dX12_bits_16 ?_
      refine aw_istore_n (L' := [some (.int x0), some (.int (a4.1 + ((x0 >>> (a4.2.1 &&& 31)) &&& (1 : Int32)))), some (.int a4.2.1)]) dX12_bits_17 rfl (by decide) rfl ?_
      refine aw_iinc (v := (a4.2.1 + (1 : Int32))) (L' := [some (.int x0), some (.int (a4.1 + ((x0 >>> (a4.2.1 &&& 31)) &&& (1 : Int32)))), some (.int (a4.2.1 + (1 : Int32)))]) dX12_bits_18 rfl rfl (by decide) rfl ?_
      refine aw_goto (tgt := 4) dX12_bits_21 (by decide) ?_
      cases hf
      exact hK
  · refine aw_iload_n dX12_bits_24 rfl rfl ?_
    cases hf
    exact aw_iret dX12_bits_25 hq (Nat.le_refl _) (Nat.le_refl _)
noncomputable def f_X12_move_L9 (z1 : Int32) (z2 : Int32) (a9 : Int32 × Int32 × sx_M) : Option ((Int32 × Int32 × sx_M) ⊕ (Int32 × sx_M)) :=
  (if (rI a9.2.2 58 15) ≤ a9.2.1 then
 some (.inr (a9.1, a9.2.2))
else
 (if ¬ (a9.2.1 < 0 ∨ 40320 ≤ (a9.2.1).toNatClampNeg) then
 (if (rA a9.2.2 63 (a9.2.1).toNatClampNeg) = z1 then
 some (.inl (a9.2.1, (a9.2.1 + (1 : Int32)), a9.2.2))
else
 some (.inl (a9.1, (a9.2.1 + (1 : Int32)), a9.2.2)))
else none))
noncomputable def f_X12_move_L72_J187 (z2 : Int32) (z3 : Int32) (y4_187 : Int32) (y5_187 : Int32) (y6_187 : Int32) (t0_187 : Int32) (s_187 : sx_M) : Option ((Int32 × Int32 × Int32 × sx_M) ⊕ (Int32 × Int32 × sx_M)) :=
  (if 0 ≤ t0_187 then
 some (.inl (y4_187, y5_187, (y6_187 + (1 : Int32)), s_187))
else
 some (.inl (y6_187, (rI s_187 58 31), (y6_187 + (1 : Int32)), s_187)))
noncomputable def f_X12_move_L72 (z2 : Int32) (z3 : Int32) (a72 : Int32 × Int32 × Int32 × sx_M) : Option ((Int32 × Int32 × Int32 × sx_M) ⊕ (Int32 × Int32 × sx_M)) :=
  (if (rI a72.2.2.2 58 15) ≤ a72.2.2.1 then
 some (.inr (a72.1, a72.2.1, a72.2.2.2))
else
 (f_X12_laysRounds z3 a72.2.2.1 a72.2.2.2).bind (fun p4 =>
 (if ((rI p4 58 27) + (rI p4 58 28)) = (1 : Int32) then
 (if a72.1 = (-1 : Int32) then
 f_X12_move_L72_J187 z2 z3 a72.1 a72.2.1 a72.2.2.1 (-1 : Int32) p4
else
 (if ¬ (a72.2.2.1 < 0 ∨ 40320 ≤ (a72.2.2.1).toNatClampNeg) then
 (if ¬ (a72.1 < 0 ∨ 40320 ≤ (a72.1).toNatClampNeg) then
 (if (rA p4 64 (a72.2.2.1).toNatClampNeg) = (rA p4 64 (a72.1).toNatClampNeg) then
 (f_X12_bits (rI p4 58 31) p4).bind (fun p5 =>
 (f_X12_bits a72.2.1 p5.2).bind (fun p6 =>
 (if p5.1 = p6.1 then
 f_X12_move_L72_J187 z2 z3 a72.1 a72.2.1 a72.2.2.1 ((rI p6.2 58 31) - a72.2.1) p6.2
else
 (f_X12_bits (rI p6.2 58 31) p6.2).bind (fun p7 =>
 (f_X12_bits a72.2.1 p7.2).bind (fun p8 =>
 f_X12_move_L72_J187 z2 z3 a72.1 a72.2.1 a72.2.2.1 (p7.1 - p8.1) p8.2)))))
else
 (if ¬ (a72.2.2.1 < 0 ∨ 40320 ≤ (a72.2.2.1).toNatClampNeg) then
 (if ¬ (a72.1 < 0 ∨ 40320 ≤ (a72.1).toNatClampNeg) then
 f_X12_move_L72_J187 z2 z3 a72.1 a72.2.1 a72.2.2.1 ((rA p4 64 (a72.2.2.1).toNatClampNeg) - (rA p4 64 (a72.1).toNatClampNeg)) p4
else none)
else none))
else none)
else none))
else
 some (.inl (a72.1, a72.2.1, (a72.2.2.1 + (1 : Int32)), p4)))))
noncomputable def f_X12_move (x1 : Int32) (x2 : Int32) (s : sx_M) : Option (Int64 × sx_M) :=
  (f_X12_goesAll s).bind (fun p1 =>
 (whT (f_X12_move_L9 x1 x2) ((-1 : Int32), (0 : Int32), p1)).bind (fun b2 =>
 (if b2.1 = (-1 : Int32) then
 some ((-9223372036854775808 : Int64), b2.2)
else
 (f_X12_in ((x2).toInt64) (0 : Int64) (2 : Int64) b2.2).bind (fun p3 =>
 (if p3.1 = 0 then
 some ((-9223372036854775808 : Int64), p3.2)
else
 (whT (f_X12_move_L72 x2 b2.1) ((-1 : Int32), (0 : Int32), (0 : Int32), p3.2)).bind (fun b9 =>
 (if b9.1 = (-1 : Int32) then
 some ((-9223372036854775808 : Int64), b9.2.2)
else
 (if x2 = 0 then
 (if ¬ (b9.1 < 0 ∨ 40320 ≤ (b9.1).toNatClampNeg) then
 (if ¬ (b2.1 < 0 ∨ 40320 ≤ (b2.1).toNatClampNeg) then
 some ((((rA b9.2.2 64 (b9.1).toNatClampNeg) - (rA b9.2.2 64 (b2.1).toNatClampNeg))).toInt64, b9.2.2)
else none)
else none)
else
 (if x2 = (1 : Int32) then
 (f_X12_bits b9.2.1 b9.2.2).bind (fun p10 =>
 some ((p10.1).toInt64, p10.2))
else
 some ((b9.2.1).toInt64, b9.2.2))))))))))
set_option maxRecDepth 100000 in
set_option maxHeartbeats 4000000 in
theorem k_X12_move {l : Launch} {X : ax_X} {Q : Option Value → ax_H → Prop} (x1 : Int32) (x2 : Int32) (s : sx_M) (gb : ax_H) {p : Int64 × sx_M} (hf : f_X12_move x1 x2 s = some p) (hq : Q (some (.long p.1)) (hp p.2 gb)) : AM l X yX12_move cX12_move 8 (some .long) 5 0 0 [.ref 58, .int x1, .int x2] (hp s gb) Q := by
  refine aw_met (own := RX12) (nm := "move") (L := [some (.ref 58), some (.int x1), some (.int x2), none, none, none, none, none]) (by decide +kernel) rfl rfl (And.intro rfl (And.intro rfl (And.intro rfl trivial))) (Nat.le_of_ble_eq_true rfl) ?_
  unfold f_X12_move at hf
  refine aw_aload_n dX12_move_0 rfl rfl ?_
  obtain ⟨p1, hp1, hf⟩ := ax_bind hf
  refine aw_cVv (As := []) (st := []) dX12_move_1 cl_X12_173 iv_X12_goesAll (k_X12_goesAll (Q := (fun v h' => v = none ∧ h' = hp p1 gb)) s gb hp1 ⟨rfl, rfl⟩) (ci := 12) rfl (hp_get sh_58) rfl rfl rfl (Nat.le_of_ble_eq_true rfl) rfl (by decide) (by decide) ?_
  refine aw_iconst (v := -1) dX12_move_4 (by decide) ?_
  refine aw_istore_n (L' := [some (.ref 58), some (.int x1), some (.int x2), some (.int (-1 : Int32)), none, none, none, none]) dX12_move_5 rfl (by decide) rfl ?_
  refine aw_iconst (v := 0) dX12_move_6 (by decide) ?_
  refine aw_istore (L' := [some (.ref 58), some (.int x1), some (.int x2), some (.int (-1 : Int32)), some (.int (0 : Int32)), none, none, none]) dX12_move_7 (by decide) rfl ?_
  obtain ⟨b2, hb2, hf⟩ := ax_bind hf
  refine wh_go ((-1 : Int32), (0 : Int32), p1) (fun a9 : Int32 × Int32 × sx_M => AW l X RX12 "move" cX12_move 8 (some .long) (ax_rm 5 0 0) (ax_MQ X Q 0 0) 0 0 9 [some (.ref 58), some (.int x1), some (.int x2), some (.int a9.1), some (.int a9.2.1), none, none, none] [] (hp a9.2.2 gb)) (fun e : Int32 × sx_M => AW l X RX12 "move" cX12_move 8 (some .long) (ax_rm 5 0 0) (ax_MQ X Q 0 0) 0 0 42 [some (.ref 58), none, some (.int x2), some (.int e.1), none, none, none, none] [] (hp e.2 gb)) hb2 ?_ ?_
  · intro a9 r hf hK
    unfold f_X12_move_L9 at hf
    refine aw_iload dX12_move_9 rfl ?_
    refine aw_aload_n dX12_move_11 rfl rfl ?_
    refine aw_gI dX12_move_12 fl_X12_154 sh_58 rfl ?_
    refine aw_icmp_ge (tgt := 42) dX12_move_15 (by decide) (fun hc3 => ?_) (fun hc3 => ?_)
    · have hf := ax_pos hc3 hf
      refine aw_less (L' := [some (.ref 58), none, some (.int x2), some (.int a9.1), none, none, none, none]) (And.intro rfl (And.intro rfl (And.intro rfl trivial))) ?_
      cases hf
      exact hK
    · have hf := ax_neg hc3 hf
      refine aw_aload_n dX12_move_18 rfl rfl ?_
      refine aw_gR dX12_move_19 fl_X12_31 sh_58 rfl ?_
      refine aw_iload dX12_move_22 rfl ?_
      obtain ⟨hc1, hf⟩ := ax_ite hf
      refine aw_lA dX12_move_24 sh_63 hc1 ?_
      refine aw_iload_n dX12_move_25 rfl rfl ?_
      refine aw_icmp_ne (tgt := 34) dX12_move_26 (by decide) (fun hc2 => ?_) (fun hc2 => ?_)
      · have hf := ax_neg hc2 hf
        refine aw_iload_n dX12_move_34 rfl rfl ?_
        refine aw_istore_n (L' := [some (.ref 58), some (.int x1), some (.int x2), some (.int a9.1), some (.int a9.2.1), none, none, none]) dX12_move_35 rfl (by decide) rfl ?_
        refine aw_iinc (v := (a9.2.1 + (1 : Int32))) (L' := [some (.ref 58), some (.int x1), some (.int x2), some (.int a9.1), some (.int (a9.2.1 + (1 : Int32))), none, none, none]) dX12_move_36 rfl rfl (by decide) rfl ?_
        refine aw_goto (tgt := 9) dX12_move_39 (by decide) ?_
        cases hf
        exact hK
      · have hf := ax_pos hc2 hf
        refine aw_iload dX12_move_29 rfl ?_
        refine aw_goto (tgt := 35) dX12_move_31 (by decide) ?_
        refine aw_istore_n (L' := [some (.ref 58), some (.int x1), some (.int x2), some (.int a9.2.1), some (.int a9.2.1), none, none, none]) dX12_move_35 rfl (by decide) rfl ?_
        refine aw_iinc (v := (a9.2.1 + (1 : Int32))) (L' := [some (.ref 58), some (.int x1), some (.int x2), some (.int a9.2.1), some (.int (a9.2.1 + (1 : Int32))), none, none, none]) dX12_move_36 rfl rfl (by decide) rfl ?_
        refine aw_goto (tgt := 9) dX12_move_39 (by decide) ?_
        cases hf
        exact hK
  · refine aw_iload_n dX12_move_42 rfl rfl ?_
    refine aw_iconst (v := -1) dX12_move_43 (by decide) ?_
    refine aw_icmp_eq (tgt := 59) dX12_move_44 (by decide) (fun hc20 => ?_) (fun hc20 => ?_)
    · have hf := ax_pos hc20 hf
      refine aw_ldc2 dX12_move_59 kc_X12_197 ?_
      cases hf
      exact aw_lret dX12_move_62 hq (Nat.le_refl _) (Nat.le_refl _)
    · have hf := ax_neg hc20 hf
      refine aw_iload_n dX12_move_47 rfl rfl ?_
      refine aw_i2l dX12_move_48 ?_
      refine aw_lconst (v := 0) dX12_move_49 (by decide) ?_
      refine aw_ldc2 dX12_move_50 kc_X12_281 ?_
      obtain ⟨p3, hp3, hf⟩ := ax_bind hf
      refine aw_cSi (As := [.long ((x2).toInt64), .long (0 : Int64), .long (2 : Int64)]) (st := []) dX12_move_53 cl_X12_64 st_X12_in (k_X12_in (Q := (fun v h' => v = some (.int p3.1) ∧ h' = hp p3.2 gb)) ((x2).toInt64) (0 : Int64) (2 : Int64) b2.2 gb hp3 ⟨rfl, rfl⟩) rfl rfl (Nat.le_of_ble_eq_true rfl) rfl (by decide) (by decide) ?_
      refine aw_if_ne (tgt := 63) dX12_move_56 (by decide) (fun hc19 => ?_) (fun hc19 => ?_)
      · have hf := ax_neg hc19 hf
        refine aw_iconst (v := -1) dX12_move_63 (by decide) ?_
        refine aw_istore (L' := [some (.ref 58), none, some (.int x2), some (.int b2.1), some (.int (-1 : Int32)), none, none, none]) dX12_move_64 (by decide) rfl ?_
        refine aw_iconst (v := 0) dX12_move_66 (by decide) ?_
        refine aw_istore (L' := [some (.ref 58), none, some (.int x2), some (.int b2.1), some (.int (-1 : Int32)), some (.int (0 : Int32)), none, none]) dX12_move_67 (by decide) rfl ?_
        refine aw_iconst (v := 0) dX12_move_69 (by decide) ?_
        refine aw_istore (L' := [some (.ref 58), none, some (.int x2), some (.int b2.1), some (.int (-1 : Int32)), some (.int (0 : Int32)), some (.int (0 : Int32)), none]) dX12_move_70 (by decide) rfl ?_
        obtain ⟨b9, hb9, hf⟩ := ax_bind hf
        refine wh_go ((-1 : Int32), (0 : Int32), (0 : Int32), p3.2) (fun a72 : Int32 × Int32 × Int32 × sx_M => AW l X RX12 "move" cX12_move 8 (some .long) (ax_rm 5 0 0) (ax_MQ X Q 0 0) 0 0 72 [some (.ref 58), none, some (.int x2), some (.int b2.1), some (.int a72.1), some (.int a72.2.1), some (.int a72.2.2.1), none] [] (hp a72.2.2.2 gb)) (fun e : Int32 × Int32 × sx_M => AW l X RX12 "move" cX12_move 8 (some .long) (ax_rm 5 0 0) (ax_MQ X Q 0 0) 0 0 210 [some (.ref 58), none, some (.int x2), some (.int b2.1), some (.int e.1), some (.int e.2.1), none, none] [] (hp e.2.2 gb)) hb9 ?_ ?_
        · intro a72 r hf hK
          unfold f_X12_move_L72 at hf
          have J187 : ∀ (y4_187 : Int32) (y5_187 : Int32) (y6_187 : Int32) (t0_187 : Int32) (s_187 : sx_M), f_X12_move_L72_J187 x2 b2.1 y4_187 y5_187 y6_187 t0_187 s_187 = some r → AW l X RX12 "move" cX12_move 8 (some .long) (ax_rm 5 0 0) (ax_MQ X Q 0 0) 0 0 187 [some (.ref 58), none, some (.int x2), some (.int b2.1), some (.int y4_187), some (.int y5_187), some (.int y6_187), none] [.int t0_187] (hp s_187 gb) := by
            intro y4_187 y5_187 y6_187 t0_187 s_187 hf
            unfold f_X12_move_L72_J187 at hf
            refine aw_istore (L' := [some (.ref 58), none, some (.int x2), some (.int b2.1), some (.int y4_187), some (.int y5_187), some (.int y6_187), some (.int t0_187)]) dX12_move_187 (by decide) rfl ?_
            refine aw_iload dX12_move_189 rfl ?_
            refine aw_if_ge (tgt := 204) dX12_move_191 (by decide) (fun hc4 => ?_) (fun hc4 => ?_)
            · have hf := ax_pos hc4 hf
              refine aw_iinc (v := (y6_187 + (1 : Int32))) (L' := [some (.ref 58), none, some (.int x2), some (.int b2.1), some (.int y4_187), some (.int y5_187), some (.int (y6_187 + (1 : Int32))), some (.int t0_187)]) dX12_move_204 rfl rfl (by decide) rfl ?_
              refine aw_goto (tgt := 72) dX12_move_207 (by decide) ?_
              refine aw_less (L' := [some (.ref 58), none, some (.int x2), some (.int b2.1), some (.int y4_187), some (.int y5_187), some (.int (y6_187 + (1 : Int32))), none]) (And.intro rfl (And.intro rfl (And.intro rfl (And.intro rfl (And.intro rfl (And.intro rfl trivial)))))) ?_
              cases hf
              exact hK
            · have hf := ax_neg hc4 hf
              refine aw_iload dX12_move_194 rfl ?_
              refine aw_istore (L' := [some (.ref 58), none, some (.int x2), some (.int b2.1), some (.int y6_187), some (.int y5_187), some (.int y6_187), some (.int t0_187)]) dX12_move_196 (by decide) rfl ?_
              refine aw_aload_n dX12_move_198 rfl rfl ?_
              refine aw_gI dX12_move_199 fl_X12_305 sh_58 rfl ?_
              refine aw_istore (L' := [some (.ref 58), none, some (.int x2), some (.int b2.1), some (.int y6_187), some (.int (rI s_187 58 31)), some (.int y6_187), some (.int t0_187)]) dX12_move_202 (by decide) rfl ?_
              refine aw_iinc (v := (y6_187 + (1 : Int32))) (L' := [some (.ref 58), none, some (.int x2), some (.int b2.1), some (.int y6_187), some (.int (rI s_187 58 31)), some (.int (y6_187 + (1 : Int32))), some (.int t0_187)]) dX12_move_204 rfl rfl (by decide) rfl ?_
              refine aw_goto (tgt := 72) dX12_move_207 (by decide) ?_
              refine aw_less (L' := [some (.ref 58), none, some (.int x2), some (.int b2.1), some (.int y6_187), some (.int (rI s_187 58 31)), some (.int (y6_187 + (1 : Int32))), none]) (And.intro rfl (And.intro rfl (And.intro rfl (And.intro rfl (And.intro rfl (And.intro rfl trivial)))))) ?_
              cases hf
              exact hK
          refine aw_iload dX12_move_72 rfl ?_
          refine aw_aload_n dX12_move_74 rfl rfl ?_
          refine aw_gI dX12_move_75 fl_X12_154 sh_58 rfl ?_
          refine aw_icmp_ge (tgt := 210) dX12_move_78 (by decide) (fun hc13 => ?_) (fun hc13 => ?_)
          · have hf := ax_pos hc13 hf
            refine aw_less (L' := [some (.ref 58), none, some (.int x2), some (.int b2.1), some (.int a72.1), some (.int a72.2.1), none, none]) (And.intro rfl (And.intro rfl (And.intro rfl (And.intro rfl (And.intro rfl trivial))))) ?_
            cases hf
            exact hK
          · have hf := ax_neg hc13 hf
            refine aw_aload_n dX12_move_81 rfl rfl ?_
            refine aw_iload_n dX12_move_82 rfl rfl ?_
            refine aw_iload dX12_move_83 rfl ?_
            obtain ⟨p4, hp4, hf⟩ := ax_bind hf
            refine aw_cVv (As := [.int b2.1, .int a72.2.2.1]) (st := []) dX12_move_85 cl_X12_313 iv_X12_laysRounds (k_X12_laysRounds (Q := (fun v h' => v = none ∧ h' = hp p4 gb)) b2.1 a72.2.2.1 a72.2.2.2 gb hp4 ⟨rfl, rfl⟩) (ci := 12) rfl (hp_get sh_58) rfl rfl rfl (Nat.le_of_ble_eq_true rfl) rfl (by decide) (by decide) ?_
            refine aw_aload_n dX12_move_88 rfl rfl ?_
            refine aw_gI dX12_move_89 fl_X12_293 sh_58 rfl ?_
            refine aw_aload_n dX12_move_92 rfl rfl ?_
            refine aw_gI dX12_move_93 fl_X12_296 sh_58 rfl ?_
            refine aw_iadd dX12_move_96 ?_
            refine aw_iconst (v := 1) dX12_move_97 (by decide) ?_
            refine aw_icmp_eq (tgt := 104) dX12_move_98 (by decide) (fun hc12 => ?_) (fun hc12 => ?_)
            · have hf := ax_pos hc12 hf
              refine aw_iload dX12_move_104 rfl ?_
              refine aw_iconst (v := -1) dX12_move_106 (by decide) ?_
              refine aw_icmp_ne (tgt := 114) dX12_move_107 (by decide) (fun hc11 => ?_) (fun hc11 => ?_)
              · have hf := ax_neg hc11 hf
                refine aw_aload_n dX12_move_114 rfl rfl ?_
                refine aw_gR dX12_move_115 fl_X12_34 sh_58 rfl ?_
                refine aw_iload dX12_move_118 rfl ?_
                obtain ⟨hc5, hf⟩ := ax_ite hf
                refine aw_lA dX12_move_120 sh_64 hc5 ?_
                refine aw_aload_n dX12_move_121 rfl rfl ?_
                refine aw_gR dX12_move_122 fl_X12_34 sh_58 rfl ?_
                refine aw_iload dX12_move_125 rfl ?_
                obtain ⟨hc6, hf⟩ := ax_ite hf
                refine aw_lA dX12_move_127 sh_64 hc6 ?_
                refine aw_icmp_eq (tgt := 149) dX12_move_128 (by decide) (fun hc10 => ?_) (fun hc10 => ?_)
                · have hf := ax_pos hc10 hf
                  refine aw_aload_n dX12_move_149 rfl rfl ?_
                  refine aw_gI dX12_move_150 fl_X12_305 sh_58 rfl ?_
                  obtain ⟨p5, hp5, hf⟩ := ax_bind hf
                  refine aw_cSi (As := [.int (rI p4 58 31)]) (st := []) dX12_move_153 cl_X12_316 st_X12_bits (k_X12_bits (Q := (fun v h' => v = some (.int p5.1) ∧ h' = hp p5.2 gb)) (rI p4 58 31) p4 gb hp5 ⟨rfl, rfl⟩) rfl rfl (Nat.le_of_ble_eq_true rfl) rfl (by decide) (by decide) ?_
                  refine aw_iload dX12_move_156 rfl ?_
                  obtain ⟨p6, hp6, hf⟩ := ax_bind hf
                  refine aw_cSi (As := [.int a72.2.1]) (st := [.int p5.1]) dX12_move_158 cl_X12_316 st_X12_bits (k_X12_bits (Q := (fun v h' => v = some (.int p6.1) ∧ h' = hp p6.2 gb)) a72.2.1 p5.2 gb hp6 ⟨rfl, rfl⟩) rfl rfl (Nat.le_of_ble_eq_true rfl) rfl (by decide) (by decide) ?_
                  refine aw_icmp_eq (tgt := 180) dX12_move_161 (by decide) (fun hc7 => ?_) (fun hc7 => ?_)
                  · have hf := ax_pos hc7 hf
                    refine aw_aload_n dX12_move_180 rfl rfl ?_
                    refine aw_gI dX12_move_181 fl_X12_305 sh_58 rfl ?_
                    refine aw_iload dX12_move_184 rfl ?_
                    refine aw_isub dX12_move_186 ?_
                    exact J187 a72.1 a72.2.1 a72.2.2.1 ((rI p6.2 58 31) - a72.2.1) p6.2 hf
                  · have hf := ax_neg hc7 hf
                    refine aw_aload_n dX12_move_164 rfl rfl ?_
                    refine aw_gI dX12_move_165 fl_X12_305 sh_58 rfl ?_
                    obtain ⟨p7, hp7, hf⟩ := ax_bind hf
                    refine aw_cSi (As := [.int (rI p6.2 58 31)]) (st := []) dX12_move_168 cl_X12_316 st_X12_bits (k_X12_bits (Q := (fun v h' => v = some (.int p7.1) ∧ h' = hp p7.2 gb)) (rI p6.2 58 31) p6.2 gb hp7 ⟨rfl, rfl⟩) rfl rfl (Nat.le_of_ble_eq_true rfl) rfl (by decide) (by decide) ?_
                    refine aw_iload dX12_move_171 rfl ?_
                    obtain ⟨p8, hp8, hf⟩ := ax_bind hf
                    refine aw_cSi (As := [.int a72.2.1]) (st := [.int p7.1]) dX12_move_173 cl_X12_316 st_X12_bits (k_X12_bits (Q := (fun v h' => v = some (.int p8.1) ∧ h' = hp p8.2 gb)) a72.2.1 p7.2 gb hp8 ⟨rfl, rfl⟩) rfl rfl (Nat.le_of_ble_eq_true rfl) rfl (by decide) (by decide) ?_
                    refine aw_isub dX12_move_176 ?_
                    refine aw_goto (tgt := 187) dX12_move_177 (by decide) ?_
                    exact J187 a72.1 a72.2.1 a72.2.2.1 (p7.1 - p8.1) p8.2 hf
                · have hf := ax_neg hc10 hf
                  refine aw_aload_n dX12_move_131 rfl rfl ?_
                  refine aw_gR dX12_move_132 fl_X12_34 sh_58 rfl ?_
                  refine aw_iload dX12_move_135 rfl ?_
                  obtain ⟨hc8, hf⟩ := ax_ite hf
                  refine aw_lA dX12_move_137 sh_64 hc8 ?_
                  refine aw_aload_n dX12_move_138 rfl rfl ?_
                  refine aw_gR dX12_move_139 fl_X12_34 sh_58 rfl ?_
                  refine aw_iload dX12_move_142 rfl ?_
                  obtain ⟨hc9, hf⟩ := ax_ite hf
                  refine aw_lA dX12_move_144 sh_64 hc9 ?_
                  refine aw_isub dX12_move_145 ?_
                  refine aw_goto (tgt := 187) dX12_move_146 (by decide) ?_
                  exact J187 a72.1 a72.2.1 a72.2.2.1 ((rA p4 64 (a72.2.2.1).toNatClampNeg) - (rA p4 64 (a72.1).toNatClampNeg)) p4 hf
              · have hf := ax_pos hc11 hf
                refine aw_iconst (v := -1) dX12_move_110 (by decide) ?_
                refine aw_goto (tgt := 187) dX12_move_111 (by decide) ?_
                exact J187 a72.1 a72.2.1 a72.2.2.1 (-1 : Int32) p4 hf
            · have hf := ax_neg hc12 hf
              refine aw_goto (tgt := 204) dX12_move_101 (by decide) ?_
              refine aw_iinc (v := (a72.2.2.1 + (1 : Int32))) (L' := [some (.ref 58), none, some (.int x2), some (.int b2.1), some (.int a72.1), some (.int a72.2.1), some (.int (a72.2.2.1 + (1 : Int32))), none]) dX12_move_204 rfl rfl (by decide) rfl ?_
              refine aw_goto (tgt := 72) dX12_move_207 (by decide) ?_
              cases hf
              exact hK
        · refine aw_iload dX12_move_210 rfl ?_
          refine aw_iconst (v := -1) dX12_move_212 (by decide) ?_
          refine aw_icmp_ne (tgt := 222) dX12_move_213 (by decide) (fun hc18 => ?_) (fun hc18 => ?_)
          · have hf := ax_neg hc18 hf
            refine aw_iload_n dX12_move_222 rfl rfl ?_
            refine aw_if_ne (tgt := 244) dX12_move_223 (by decide) (fun hc17 => ?_) (fun hc17 => ?_)
            · have hf := ax_neg hc17 hf
              refine aw_iload_n dX12_move_244 rfl rfl ?_
              refine aw_iconst (v := 1) dX12_move_245 (by decide) ?_
              refine aw_icmp_ne (tgt := 258) dX12_move_246 (by decide) (fun hc14 => ?_) (fun hc14 => ?_)
              · have hf := ax_neg hc14 hf
                refine aw_iload dX12_move_258 rfl ?_
                refine aw_i2l dX12_move_260 ?_
                cases hf
                exact aw_lret dX12_move_261 hq (Nat.le_refl _) (Nat.le_refl _)
              · have hf := ax_pos hc14 hf
                refine aw_iload dX12_move_249 rfl ?_
                obtain ⟨p10, hp10, hf⟩ := ax_bind hf
                refine aw_cSi (As := [.int b9.2.1]) (st := []) dX12_move_251 cl_X12_316 st_X12_bits (k_X12_bits (Q := (fun v h' => v = some (.int p10.1) ∧ h' = hp p10.2 gb)) b9.2.1 b9.2.2 gb hp10 ⟨rfl, rfl⟩) rfl rfl (Nat.le_of_ble_eq_true rfl) rfl (by decide) (by decide) ?_
                refine aw_i2l dX12_move_254 ?_
                refine aw_goto (tgt := 261) dX12_move_255 (by decide) ?_
                cases hf
                exact aw_lret dX12_move_261 hq (Nat.le_refl _) (Nat.le_refl _)
            · have hf := ax_pos hc17 hf
              refine aw_aload_n dX12_move_226 rfl rfl ?_
              refine aw_gR dX12_move_227 fl_X12_34 sh_58 rfl ?_
              refine aw_iload dX12_move_230 rfl ?_
              obtain ⟨hc15, hf⟩ := ax_ite hf
              refine aw_lA dX12_move_232 sh_64 hc15 ?_
              refine aw_aload_n dX12_move_233 rfl rfl ?_
              refine aw_gR dX12_move_234 fl_X12_34 sh_58 rfl ?_
              refine aw_iload_n dX12_move_237 rfl rfl ?_
              obtain ⟨hc16, hf⟩ := ax_ite hf
              refine aw_lA dX12_move_238 sh_64 hc16 ?_
              refine aw_isub dX12_move_239 ?_
              refine aw_i2l dX12_move_240 ?_
              refine aw_goto (tgt := 261) dX12_move_241 (by decide) ?_
              cases hf
              exact aw_lret dX12_move_261 hq (Nat.le_refl _) (Nat.le_refl _)
          · have hf := ax_pos hc18 hf
            refine aw_ldc2 dX12_move_216 kc_X12_197 ?_
            refine aw_goto (tgt := 261) dX12_move_219 (by decide) ?_
            cases hf
            exact aw_lret dX12_move_261 hq (Nat.le_refl _) (Nat.le_refl _)
      · have hf := ax_pos hc19 hf
        refine aw_ldc2 dX12_move_59 kc_X12_197 ?_
        cases hf
        exact aw_lret dX12_move_62 hq (Nat.le_refl _) (Nat.le_refl _)
noncomputable def f_X12_manyUpTo_L4_J28 (z1 : Int32) (y3_28 : Int32) (t0_28 : Int32) (t1_28 : Int32) (s_28 : sx_M) : Option ((Int32 × Int32 × sx_M) ⊕ (Int32 × sx_M)) :=
  some (.inl ((t0_28 + t1_28), (y3_28 + (1 : Int32)), s_28))
noncomputable def f_X12_manyUpTo_L4 (z1 : Int32) (a4 : Int32 × Int32 × sx_M) : Option ((Int32 × Int32 × sx_M) ⊕ (Int32 × sx_M)) :=
  (if (rI a4.2.2 58 15) ≤ a4.2.1 then
 some (.inr (a4.1, a4.2.2))
else
 (if ¬ (a4.2.1 < 0 ∨ 40320 ≤ (a4.2.1).toNatClampNeg) then
 (if z1 < (rA a4.2.2 64 (a4.2.1).toNatClampNeg) then
 f_X12_manyUpTo_L4_J28 z1 a4.2.1 a4.1 (0 : Int32) a4.2.2
else
 f_X12_manyUpTo_L4_J28 z1 a4.2.1 a4.1 (1 : Int32) a4.2.2)
else none))
noncomputable def f_X12_manyUpTo (x1 : Int32) (s : sx_M) : Option (Int32 × sx_M) :=
  (whT (f_X12_manyUpTo_L4 x1) ((0 : Int32), (0 : Int32), s)).bind (fun b1 =>
 some (b1.1, b1.2))
set_option maxRecDepth 100000 in
set_option maxHeartbeats 4000000 in
theorem k_X12_manyUpTo {l : Launch} {X : ax_X} {Q : Option Value → ax_H → Prop} (x1 : Int32) (s : sx_M) (gb : ax_H) {p : Int32 × sx_M} (hf : f_X12_manyUpTo x1 s = some p) (hq : Q (some (.int p.1)) (hp p.2 gb)) : AM l X yX12_manyUpTo cX12_manyUpTo 4 (some .int) 0 0 0 [.ref 58, .int x1] (hp s gb) Q := by
  refine aw_met (own := RX12) (nm := "manyUpTo") (L := [some (.ref 58), some (.int x1), none, none]) (by decide +kernel) rfl rfl (And.intro rfl (And.intro rfl trivial)) (Nat.le_of_ble_eq_true rfl) ?_
  unfold f_X12_manyUpTo at hf
  refine aw_iconst (v := 0) dX12_manyUpTo_0 (by decide) ?_
  refine aw_istore_n (L' := [some (.ref 58), some (.int x1), some (.int (0 : Int32)), none]) dX12_manyUpTo_1 rfl (by decide) rfl ?_
  refine aw_iconst (v := 0) dX12_manyUpTo_2 (by decide) ?_
  refine aw_istore_n (L' := [some (.ref 58), some (.int x1), some (.int (0 : Int32)), some (.int (0 : Int32))]) dX12_manyUpTo_3 rfl (by decide) rfl ?_
  obtain ⟨b1, hb1, hf⟩ := ax_bind hf
  refine wh_go ((0 : Int32), (0 : Int32), s) (fun a4 : Int32 × Int32 × sx_M => AW l X RX12 "manyUpTo" cX12_manyUpTo 4 (some .int) (ax_rm 0 0 0) (ax_MQ X Q 0 0) 0 0 4 [some (.ref 58), some (.int x1), some (.int a4.1), some (.int a4.2.1)] [] (hp a4.2.2 gb)) (fun e : Int32 × sx_M => AW l X RX12 "manyUpTo" cX12_manyUpTo 4 (some .int) (ax_rm 0 0 0) (ax_MQ X Q 0 0) 0 0 36 [none, none, some (.int e.1), none] [] (hp e.2 gb)) hb1 ?_ ?_
  · intro a4 r hf hK
    unfold f_X12_manyUpTo_L4 at hf
    have J28 : ∀ (y3_28 : Int32) (t0_28 : Int32) (t1_28 : Int32) (s_28 : sx_M), f_X12_manyUpTo_L4_J28 x1 y3_28 t0_28 t1_28 s_28 = some r → AW l X RX12 "manyUpTo" cX12_manyUpTo 4 (some .int) (ax_rm 0 0 0) (ax_MQ X Q 0 0) 0 0 28 [some (.ref 58), some (.int x1), none, some (.int y3_28)] [.int t1_28, .int t0_28] (hp s_28 gb) := by
      intro y3_28 t0_28 t1_28 s_28 hf
      unfold f_X12_manyUpTo_L4_J28 at hf
      refine aw_iadd dX12_manyUpTo_28 ?_
      refine aw_istore_n (L' := [some (.ref 58), some (.int x1), some (.int (t0_28 + t1_28)), some (.int y3_28)]) dX12_manyUpTo_29 rfl (by decide) rfl ?_
      refine aw_iinc (v := (y3_28 + (1 : Int32))) (L' := [some (.ref 58), some (.int x1), some (.int (t0_28 + t1_28)), some (.int (y3_28 + (1 : Int32)))]) dX12_manyUpTo_30 rfl rfl (by decide) rfl ?_
      refine aw_goto (tgt := 4) dX12_manyUpTo_33 (by decide) ?_
      cases hf
      exact hK
    refine aw_iload_n dX12_manyUpTo_4 rfl rfl ?_
    refine aw_aload_n dX12_manyUpTo_5 rfl rfl ?_
    refine aw_gI dX12_manyUpTo_6 fl_X12_154 sh_58 rfl ?_
    refine aw_icmp_ge (tgt := 36) dX12_manyUpTo_9 (by decide) (fun hc3 => ?_) (fun hc3 => ?_)
    · have hf := ax_pos hc3 hf
      refine aw_less (L' := [none, none, some (.int a4.1), none]) (And.intro rfl trivial) ?_
      cases hf
      exact hK
    · have hf := ax_neg hc3 hf
      refine aw_iload_n dX12_manyUpTo_12 rfl rfl ?_
      refine aw_aload_n dX12_manyUpTo_13 rfl rfl ?_
      refine aw_gR dX12_manyUpTo_14 fl_X12_34 sh_58 rfl ?_
      refine aw_iload_n dX12_manyUpTo_17 rfl rfl ?_
      obtain ⟨hc1, hf⟩ := ax_ite hf
      refine aw_lA dX12_manyUpTo_18 sh_64 hc1 ?_
      refine aw_iload_n dX12_manyUpTo_19 rfl rfl ?_
      refine aw_icmp_gt (tgt := 27) dX12_manyUpTo_20 (by decide) (fun hc2 => ?_) (fun hc2 => ?_)
      · have hf := ax_pos hc2 hf
        refine aw_iconst (v := 0) dX12_manyUpTo_27 (by decide) ?_
        refine aw_less (L' := [some (.ref 58), some (.int x1), none, some (.int a4.2.1)]) (And.intro rfl (And.intro rfl (And.intro rfl trivial))) ?_
        exact J28 a4.2.1 a4.1 (0 : Int32) a4.2.2 hf
      · have hf := ax_neg hc2 hf
        refine aw_iconst (v := 1) dX12_manyUpTo_23 (by decide) ?_
        refine aw_goto (tgt := 28) dX12_manyUpTo_24 (by decide) ?_
        refine aw_less (L' := [some (.ref 58), some (.int x1), none, some (.int a4.2.1)]) (And.intro rfl (And.intro rfl (And.intro rfl trivial))) ?_
        exact J28 a4.2.1 a4.1 (1 : Int32) a4.2.2 hf
  · refine aw_iload_n dX12_manyUpTo_36 rfl rfl ?_
    cases hf
    exact aw_iret dX12_manyUpTo_37 hq (Nat.le_refl _) (Nat.le_refl _)
noncomputable def f_X12_middle_L39 (z1 : Int32) (z2 : Int32) (a39 : Int32 × Int32 × sx_M) : Option ((Int32 × Int32 × sx_M) ⊕ (Int32 × sx_M)) :=
  (if (rI a39.2.2 58 15) ≤ a39.2.1 then
 some (.inr (a39.1, a39.2.2))
else
 (if ¬ (a39.2.1 < 0 ∨ 40320 ≤ (a39.2.1).toNatClampNeg) then
 (f_J9_max_7cf53 a39.1 (rA a39.2.2 64 (a39.2.1).toNatClampNeg) a39.2.2).bind (fun p3 =>
 some (.inl (p3.1, (a39.2.1 + (1 : Int32)), p3.2)))
else none))
noncomputable def f_X12_middle_L66 (z1 : Int32) (a66 : Int32 × Int32 × sx_M) : Option ((Int32 × Int32 × sx_M) ⊕ (Int32 × sx_M)) :=
  (if a66.2.1 ≤ a66.1 then
 some (.inr (a66.1, a66.2.2))
else
 (f_J9_floorDiv_7cf53 (a66.1 + a66.2.1) (2 : Int32) a66.2.2).bind (fun p5 =>
 (f_X12_manyUpTo p5.1 p5.2).bind (fun p6 =>
 (if p6.1 ≤ z1 then
 some (.inl ((p5.1 + (1 : Int32)), a66.2.1, p6.2))
else
 some (.inl (a66.1, p5.1, p6.2))))))
noncomputable def f_X12_middle (s : sx_M) : Option (Int64 × sx_M) :=
  (f_X12_goesAll s).bind (fun p1 =>
 (if (rI p1 58 15) = 0 then
 some ((-9223372036854775808 : Int64), p1)
else
 (f_X12_least p1).bind (fun p2 =>
 (if ¬ (p2.1 < 0 ∨ 40320 ≤ (p2.1).toNatClampNeg) then
 (whT (f_X12_middle_L39 (((rI p1 58 15) - (1 : Int32)) / (2 : Int32)) (rA p2.2 64 (p2.1).toNatClampNeg)) ((rA p2.2 64 (p2.1).toNatClampNeg), (0 : Int32), p2.2)).bind (fun b4 =>
 (whT (f_X12_middle_L66 (((rI p1 58 15) - (1 : Int32)) / (2 : Int32))) ((rA p2.2 64 (p2.1).toNatClampNeg), b4.1, b4.2)).bind (fun b7 =>
 some ((b7.1).toInt64, b7.2)))
else none))))
set_option maxRecDepth 100000 in
set_option maxHeartbeats 4000000 in
theorem k_X12_middle {l : Launch} {X : ax_X} {Q : Option Value → ax_H → Prop} (s : sx_M) (gb : ax_H) {p : Int64 × sx_M} (hf : f_X12_middle s = some p) (hq : Q (some (.long p.1)) (hp p.2 gb)) : AM l X yX12_middle cX12_middle 5 (some .long) 5 0 0 [.ref 58] (hp s gb) Q := by
  refine aw_met (own := RX12) (nm := "middle") (L := [some (.ref 58), none, none, none, none]) (by decide +kernel) rfl rfl (And.intro rfl trivial) (Nat.le_of_ble_eq_true rfl) ?_
  unfold f_X12_middle at hf
  refine aw_aload_n dX12_middle_0 rfl rfl ?_
  obtain ⟨p1, hp1, hf⟩ := ax_bind hf
  refine aw_cVv (As := []) (st := []) dX12_middle_1 cl_X12_173 iv_X12_goesAll (k_X12_goesAll (Q := (fun v h' => v = none ∧ h' = hp p1 gb)) s gb hp1 ⟨rfl, rfl⟩) (ci := 12) rfl (hp_get sh_58) rfl rfl rfl (Nat.le_of_ble_eq_true rfl) rfl (by decide) (by decide) ?_
  refine aw_aload_n dX12_middle_4 rfl rfl ?_
  refine aw_gI dX12_middle_5 fl_X12_154 sh_58 rfl ?_
  refine aw_if_ne (tgt := 15) dX12_middle_8 (by decide) (fun hc6 => ?_) (fun hc6 => ?_)
  · have hf := ax_neg hc6 hf
    refine aw_aload_n dX12_middle_15 rfl rfl ?_
    refine aw_gI dX12_middle_16 fl_X12_154 sh_58 rfl ?_
    refine aw_iconst (v := 1) dX12_middle_19 (by decide) ?_
    refine aw_isub dX12_middle_20 ?_
    refine aw_iconst (v := 2) dX12_middle_21 (by decide) ?_
    refine aw_idiv dX12_middle_22 (by decide) ?_
    refine aw_istore_n (L' := [some (.ref 58), some (.int (((rI p1 58 15) - (1 : Int32)) / (2 : Int32))), none, none, none]) dX12_middle_23 rfl (by decide) rfl ?_
    refine aw_aload_n dX12_middle_24 rfl rfl ?_
    refine aw_gR dX12_middle_25 fl_X12_34 sh_58 rfl ?_
    refine aw_aload_n dX12_middle_28 rfl rfl ?_
    obtain ⟨p2, hp2, hf⟩ := ax_bind hf
    refine aw_cVi (As := []) (st := [.ref 64]) dX12_middle_29 cl_X12_212 iv_X12_least (k_X12_least (Q := (fun v h' => v = some (.int p2.1) ∧ h' = hp p2.2 gb)) p1 gb hp2 ⟨rfl, rfl⟩) (ci := 12) rfl (hp_get sh_58) rfl rfl rfl (Nat.le_of_ble_eq_true rfl) rfl (by decide) (by decide) ?_
    obtain ⟨hc1, hf⟩ := ax_ite hf
    refine aw_lA dX12_middle_32 sh_64 hc1 ?_
    refine aw_istore_n (L' := [some (.ref 58), some (.int (((rI p1 58 15) - (1 : Int32)) / (2 : Int32))), some (.int (rA p2.2 64 (p2.1).toNatClampNeg)), none, none]) dX12_middle_33 rfl (by decide) rfl ?_
    refine aw_iload_n dX12_middle_34 rfl rfl ?_
    refine aw_istore_n (L' := [some (.ref 58), some (.int (((rI p1 58 15) - (1 : Int32)) / (2 : Int32))), some (.int (rA p2.2 64 (p2.1).toNatClampNeg)), some (.int (rA p2.2 64 (p2.1).toNatClampNeg)), none]) dX12_middle_35 rfl (by decide) rfl ?_
    refine aw_iconst (v := 0) dX12_middle_36 (by decide) ?_
    refine aw_istore (L' := [some (.ref 58), some (.int (((rI p1 58 15) - (1 : Int32)) / (2 : Int32))), some (.int (rA p2.2 64 (p2.1).toNatClampNeg)), some (.int (rA p2.2 64 (p2.1).toNatClampNeg)), some (.int (0 : Int32))]) dX12_middle_37 (by decide) rfl ?_
    obtain ⟨b4, hb4, hf⟩ := ax_bind hf
    refine wh_go ((rA p2.2 64 (p2.1).toNatClampNeg), (0 : Int32), p2.2) (fun a39 : Int32 × Int32 × sx_M => AW l X RX12 "middle" cX12_middle 5 (some .long) (ax_rm 5 0 0) (ax_MQ X Q 0 0) 0 0 39 [some (.ref 58), some (.int (((rI p1 58 15) - (1 : Int32)) / (2 : Int32))), some (.int (rA p2.2 64 (p2.1).toNatClampNeg)), some (.int a39.1), some (.int a39.2.1)] [] (hp a39.2.2 gb)) (fun e : Int32 × sx_M => AW l X RX12 "middle" cX12_middle 5 (some .long) (ax_rm 5 0 0) (ax_MQ X Q 0 0) 0 0 66 [some (.ref 58), some (.int (((rI p1 58 15) - (1 : Int32)) / (2 : Int32))), some (.int (rA p2.2 64 (p2.1).toNatClampNeg)), some (.int e.1), none] [] (hp e.2 gb)) hb4 ?_ ?_
    · intro a39 r hf hK
      unfold f_X12_middle_L39 at hf
      refine aw_iload dX12_middle_39 rfl ?_
      refine aw_aload_n dX12_middle_41 rfl rfl ?_
      refine aw_gI dX12_middle_42 fl_X12_154 sh_58 rfl ?_
      refine aw_icmp_ge (tgt := 66) dX12_middle_45 (by decide) (fun hc3 => ?_) (fun hc3 => ?_)
      · have hf := ax_pos hc3 hf
        refine aw_less (L' := [some (.ref 58), some (.int (((rI p1 58 15) - (1 : Int32)) / (2 : Int32))), some (.int (rA p2.2 64 (p2.1).toNatClampNeg)), some (.int a39.1), none]) (And.intro rfl (And.intro rfl (And.intro rfl (And.intro rfl trivial)))) ?_
        cases hf
        exact hK
      · have hf := ax_neg hc3 hf
        refine aw_iload_n dX12_middle_48 rfl rfl ?_
        refine aw_aload_n dX12_middle_49 rfl rfl ?_
        refine aw_gR dX12_middle_50 fl_X12_34 sh_58 rfl ?_
        refine aw_iload dX12_middle_53 rfl ?_
        obtain ⟨hc2, hf⟩ := ax_ite hf
        refine aw_lA dX12_middle_55 sh_64 hc2 ?_
        obtain ⟨p3, hp3, hf⟩ := ax_bind hf
        refine aw_cSi (As := [.int a39.1, .int (rA a39.2.2 64 (a39.2.1).toNatClampNeg)]) (st := []) dX12_middle_56 cl_X12_311 st_J9_max_7cf53 (k_J9_max_7cf53 (Q := (fun v h' => v = some (.int p3.1) ∧ h' = hp p3.2 gb)) a39.1 (rA a39.2.2 64 (a39.2.1).toNatClampNeg) a39.2.2 gb hp3 ⟨rfl, rfl⟩) rfl rfl (Nat.le_of_ble_eq_true rfl) rfl (by decide) (by decide) ?_
        refine aw_istore_n (L' := [some (.ref 58), some (.int (((rI p1 58 15) - (1 : Int32)) / (2 : Int32))), some (.int (rA p2.2 64 (p2.1).toNatClampNeg)), some (.int p3.1), some (.int a39.2.1)]) dX12_middle_59 rfl (by decide) rfl ?_
        refine aw_iinc (v := (a39.2.1 + (1 : Int32))) (L' := [some (.ref 58), some (.int (((rI p1 58 15) - (1 : Int32)) / (2 : Int32))), some (.int (rA p2.2 64 (p2.1).toNatClampNeg)), some (.int p3.1), some (.int (a39.2.1 + (1 : Int32)))]) dX12_middle_60 rfl rfl (by decide) rfl ?_
        refine aw_goto (tgt := 39) dX12_middle_63 (by decide) ?_
        cases hf
        exact hK
    · obtain ⟨b7, hb7, hf⟩ := ax_bind hf
      refine wh_go ((rA p2.2 64 (p2.1).toNatClampNeg), b4.1, b4.2) (fun a66 : Int32 × Int32 × sx_M => AW l X RX12 "middle" cX12_middle 5 (some .long) (ax_rm 5 0 0) (ax_MQ X Q 0 0) 0 0 66 [some (.ref 58), some (.int (((rI p1 58 15) - (1 : Int32)) / (2 : Int32))), some (.int a66.1), some (.int a66.2.1), none] [] (hp a66.2.2 gb)) (fun e : Int32 × sx_M => AW l X RX12 "middle" cX12_middle 5 (some .long) (ax_rm 5 0 0) (ax_MQ X Q 0 0) 0 0 104 [none, none, some (.int e.1), none, none] [] (hp e.2 gb)) hb7 ?_ ?_
      · intro a66 r hf hK
        unfold f_X12_middle_L66 at hf
        refine aw_iload_n dX12_middle_66 rfl rfl ?_
        refine aw_iload_n dX12_middle_67 rfl rfl ?_
        refine aw_icmp_ge (tgt := 104) dX12_middle_68 (by decide) (fun hc5 => ?_) (fun hc5 => ?_)
        · have hf := ax_pos hc5 hf
          refine aw_less (L' := [none, none, some (.int a66.1), none, none]) (And.intro rfl trivial) ?_
          cases hf
          exact hK
        · have hf := ax_neg hc5 hf
          refine aw_iload_n dX12_middle_71 rfl rfl ?_
          refine aw_iload_n dX12_middle_72 rfl rfl ?_
          refine aw_iadd dX12_middle_73 ?_
          refine aw_iconst (v := 2) dX12_middle_74 (by decide) ?_
          obtain ⟨p5, hp5, hf⟩ := ax_bind hf
          refine aw_cSi (As := [.int (a66.1 + a66.2.1), .int (2 : Int32)]) (st := []) dX12_middle_75 cl_X12_320 st_J9_floorDiv_7cf53 (k_J9_floorDiv_7cf53 (Q := (fun v h' => v = some (.int p5.1) ∧ h' = hp p5.2 gb)) (a66.1 + a66.2.1) (2 : Int32) a66.2.2 gb hp5 ⟨rfl, rfl⟩) rfl rfl (Nat.le_of_ble_eq_true rfl) rfl (by decide) (by decide) ?_
          refine aw_istore (L' := [some (.ref 58), some (.int (((rI p1 58 15) - (1 : Int32)) / (2 : Int32))), some (.int a66.1), some (.int a66.2.1), some (.int p5.1)]) dX12_middle_78 (by decide) rfl ?_
          refine aw_aload_n dX12_middle_80 rfl rfl ?_
          refine aw_iload dX12_middle_81 rfl ?_
          obtain ⟨p6, hp6, hf⟩ := ax_bind hf
          refine aw_cVi (As := [.int p5.1]) (st := []) dX12_middle_83 cl_X12_323 iv_X12_manyUpTo (k_X12_manyUpTo (Q := (fun v h' => v = some (.int p6.1) ∧ h' = hp p6.2 gb)) p5.1 p5.2 gb hp6 ⟨rfl, rfl⟩) (ci := 12) rfl (hp_get sh_58) rfl rfl rfl (Nat.le_of_ble_eq_true rfl) rfl (by decide) (by decide) ?_
          refine aw_iload_n dX12_middle_86 rfl rfl ?_
          refine aw_icmp_le (tgt := 96) dX12_middle_87 (by decide) (fun hc4 => ?_) (fun hc4 => ?_)
          · have hf := ax_pos hc4 hf
            refine aw_iload dX12_middle_96 rfl ?_
            refine aw_iconst (v := 1) dX12_middle_98 (by decide) ?_
            refine aw_iadd dX12_middle_99 ?_
            refine aw_istore_n (L' := [some (.ref 58), some (.int (((rI p1 58 15) - (1 : Int32)) / (2 : Int32))), some (.int (p5.1 + (1 : Int32))), some (.int a66.2.1), some (.int p5.1)]) dX12_middle_100 rfl (by decide) rfl ?_
            refine aw_goto (tgt := 66) dX12_middle_101 (by decide) ?_
            refine aw_less (L' := [some (.ref 58), some (.int (((rI p1 58 15) - (1 : Int32)) / (2 : Int32))), some (.int (p5.1 + (1 : Int32))), some (.int a66.2.1), none]) (And.intro rfl (And.intro rfl (And.intro rfl (And.intro rfl trivial)))) ?_
            cases hf
            exact hK
          · have hf := ax_neg hc4 hf
            refine aw_iload dX12_middle_90 rfl ?_
            refine aw_istore_n (L' := [some (.ref 58), some (.int (((rI p1 58 15) - (1 : Int32)) / (2 : Int32))), some (.int a66.1), some (.int p5.1), some (.int p5.1)]) dX12_middle_92 rfl (by decide) rfl ?_
            refine aw_goto (tgt := 101) dX12_middle_93 (by decide) ?_
            refine aw_goto (tgt := 66) dX12_middle_101 (by decide) ?_
            refine aw_less (L' := [some (.ref 58), some (.int (((rI p1 58 15) - (1 : Int32)) / (2 : Int32))), some (.int a66.1), some (.int p5.1), none]) (And.intro rfl (And.intro rfl (And.intro rfl (And.intro rfl trivial)))) ?_
            cases hf
            exact hK
      · refine aw_iload_n dX12_middle_104 rfl rfl ?_
        refine aw_i2l dX12_middle_105 ?_
        cases hf
        exact aw_lret dX12_middle_106 hq (Nat.le_refl _) (Nat.le_refl _)
  · have hf := ax_pos hc6 hf
    refine aw_ldc2 dX12_middle_11 kc_X12_197 ?_
    cases hf
    exact aw_lret dX12_middle_14 hq (Nat.le_refl _) (Nat.le_refl _)
noncomputable def f_X12_often_L41_J79 (z1 : Int32) (z2 : Int32) (z3 : Int32) (y5_79 : Int32) (t0_79 : Int32) (t1_79 : Int32) (s_79 : sx_M) : Option ((Int32 × Int32 × sx_M) ⊕ (Int32 × sx_M)) :=
  some (.inl ((t0_79 + t1_79), (y5_79 + (1 : Int32)), s_79))
noncomputable def f_X12_often_L41 (z1 : Int32) (z2 : Int32) (z3 : Int32) (a41 : Int32 × Int32 × sx_M) : Option ((Int32 × Int32 × sx_M) ⊕ (Int32 × sx_M)) :=
  (if z3 ≤ a41.2.1 then
 some (.inr (a41.1, a41.2.2))
else
 (if (rI a41.2.2 58 18) ≤ a41.2.1 then
 some (.inr (a41.1, a41.2.2))
else
 (if ¬ (a41.2.1 < 0 ∨ 200 ≤ (a41.2.1).toNatClampNeg) then
 (f_X12_jobOf (rA a41.2.2 66 (a41.2.1).toNatClampNeg) z1 a41.2.2).bind (fun p5 =>
 (if p5.1 = z2 then
 f_X12_often_L41_J79 z1 z2 z3 a41.2.1 a41.1 (1 : Int32) p5.2
else
 f_X12_often_L41_J79 z1 z2 z3 a41.2.1 a41.1 (0 : Int32) p5.2))
else none)))
noncomputable def f_X12_often (x1 : Int32) (x2 : Int32) (x3 : Int32) (s : sx_M) : Option (Int32 × sx_M) :=
  (f_X12_isWorker x1 s).bind (fun p1 =>
 (if p1.1 = 0 then
 some ((-2 : Int32), p1.2)
else
 (f_X12_isJob x2 p1.2).bind (fun p2 =>
 (if p2.1 = 0 then
 some ((-2 : Int32), p2.2)
else
 (f_X12_in ((x3).toInt64) (1 : Int64) (200 : Int64) p2.2).bind (fun p3 =>
 (if p3.1 = 0 then
 some ((-2 : Int32), p3.2)
else
 (f_X12_laysFirst p3.2).bind (fun p4 =>
 (whT (f_X12_often_L41 x1 x2 x3) ((0 : Int32), (0 : Int32), p4)).bind (fun b6 =>
 some (b6.1, b6.2)))))))))
set_option maxRecDepth 100000 in
set_option maxHeartbeats 4000000 in
theorem k_X12_often {l : Launch} {X : ax_X} {Q : Option Value → ax_H → Prop} (x1 : Int32) (x2 : Int32) (x3 : Int32) (s : sx_M) (gb : ax_H) {p : Int32 × sx_M} (hf : f_X12_often x1 x2 x3 s = some p) (hq : Q (some (.int p.1)) (hp p.2 gb)) : AM l X yX12_often cX12_often 6 (some .int) 6 0 0 [.ref 58, .int x1, .int x2, .int x3] (hp s gb) Q := by
  refine aw_met (own := RX12) (nm := "often") (L := [some (.ref 58), some (.int x1), some (.int x2), some (.int x3), none, none]) (by decide +kernel) rfl rfl (And.intro rfl (And.intro rfl (And.intro rfl (And.intro rfl trivial)))) (Nat.le_of_ble_eq_true rfl) ?_
  unfold f_X12_often at hf
  refine aw_aload_n dX12_often_0 rfl rfl ?_
  refine aw_iload_n dX12_often_1 rfl rfl ?_
  obtain ⟨p1, hp1, hf⟩ := ax_bind hf
  refine aw_cVi (As := [.int x1]) (st := []) dX12_often_2 cl_X12_187 iv_X12_isWorker (k_X12_isWorker (Q := (fun v h' => v = some (.int p1.1) ∧ h' = hp p1.2 gb)) x1 s gb hp1 ⟨rfl, rfl⟩) (ci := 12) rfl (hp_get sh_58) rfl rfl rfl (Nat.le_of_ble_eq_true rfl) rfl (by decide) (by decide) ?_
  refine aw_if_eq (tgt := 28) dX12_often_5 (by decide) (fun hc7 => ?_) (fun hc7 => ?_)
  · have hf := ax_pos hc7 hf
    refine aw_bipush (v := -2) dX12_often_28 (by decide) ?_
    cases hf
    exact aw_iret dX12_often_30 hq (Nat.le_refl _) (Nat.le_refl _)
  · have hf := ax_neg hc7 hf
    refine aw_aload_n dX12_often_8 rfl rfl ?_
    refine aw_iload_n dX12_often_9 rfl rfl ?_
    obtain ⟨p2, hp2, hf⟩ := ax_bind hf
    refine aw_cVi (As := [.int x2]) (st := []) dX12_often_10 cl_X12_190 iv_X12_isJob (k_X12_isJob (Q := (fun v h' => v = some (.int p2.1) ∧ h' = hp p2.2 gb)) x2 p1.2 gb hp2 ⟨rfl, rfl⟩) (ci := 12) rfl (hp_get sh_58) rfl rfl rfl (Nat.le_of_ble_eq_true rfl) rfl (by decide) (by decide) ?_
    refine aw_if_eq (tgt := 28) dX12_often_13 (by decide) (fun hc6 => ?_) (fun hc6 => ?_)
    · have hf := ax_pos hc6 hf
      refine aw_bipush (v := -2) dX12_often_28 (by decide) ?_
      cases hf
      exact aw_iret dX12_often_30 hq (Nat.le_refl _) (Nat.le_refl _)
    · have hf := ax_neg hc6 hf
      refine aw_iload_n dX12_often_16 rfl rfl ?_
      refine aw_i2l dX12_often_17 ?_
      refine aw_lconst (v := 1) dX12_often_18 (by decide) ?_
      refine aw_ldc2 dX12_often_19 kc_X12_326 ?_
      obtain ⟨p3, hp3, hf⟩ := ax_bind hf
      refine aw_cSi (As := [.long ((x3).toInt64), .long (1 : Int64), .long (200 : Int64)]) (st := []) dX12_often_22 cl_X12_64 st_X12_in (k_X12_in (Q := (fun v h' => v = some (.int p3.1) ∧ h' = hp p3.2 gb)) ((x3).toInt64) (1 : Int64) (200 : Int64) p2.2 gb hp3 ⟨rfl, rfl⟩) rfl rfl (Nat.le_of_ble_eq_true rfl) rfl (by decide) (by decide) ?_
      refine aw_if_ne (tgt := 31) dX12_often_25 (by decide) (fun hc5 => ?_) (fun hc5 => ?_)
      · have hf := ax_neg hc5 hf
        refine aw_aload_n dX12_often_31 rfl rfl ?_
        obtain ⟨p4, hp4, hf⟩ := ax_bind hf
        refine aw_cVv (As := []) (st := []) dX12_often_32 cl_X12_199 iv_X12_laysFirst (k_X12_laysFirst (Q := (fun v h' => v = none ∧ h' = hp p4 gb)) p3.2 gb hp4 ⟨rfl, rfl⟩) (ci := 12) rfl (hp_get sh_58) rfl rfl rfl (Nat.le_of_ble_eq_true rfl) rfl (by decide) (by decide) ?_
        refine aw_iconst (v := 0) dX12_often_35 (by decide) ?_
        refine aw_istore (L' := [some (.ref 58), some (.int x1), some (.int x2), some (.int x3), some (.int (0 : Int32)), none]) dX12_often_36 (by decide) rfl ?_
        refine aw_iconst (v := 0) dX12_often_38 (by decide) ?_
        refine aw_istore (L' := [some (.ref 58), some (.int x1), some (.int x2), some (.int x3), some (.int (0 : Int32)), some (.int (0 : Int32))]) dX12_often_39 (by decide) rfl ?_
        obtain ⟨b6, hb6, hf⟩ := ax_bind hf
        refine wh_go ((0 : Int32), (0 : Int32), p4) (fun a41 : Int32 × Int32 × sx_M => AW l X RX12 "often" cX12_often 6 (some .int) (ax_rm 6 0 0) (ax_MQ X Q 0 0) 0 0 41 [some (.ref 58), some (.int x1), some (.int x2), some (.int x3), some (.int a41.1), some (.int a41.2.1)] [] (hp a41.2.2 gb)) (fun e : Int32 × sx_M => AW l X RX12 "often" cX12_often 6 (some .int) (ax_rm 6 0 0) (ax_MQ X Q 0 0) 0 0 88 [none, none, none, none, some (.int e.1), none] [] (hp e.2 gb)) hb6 ?_ ?_
        · intro a41 r hf hK
          unfold f_X12_often_L41 at hf
          have J79 : ∀ (y5_79 : Int32) (t0_79 : Int32) (t1_79 : Int32) (s_79 : sx_M), f_X12_often_L41_J79 x1 x2 x3 y5_79 t0_79 t1_79 s_79 = some r → AW l X RX12 "often" cX12_often 6 (some .int) (ax_rm 6 0 0) (ax_MQ X Q 0 0) 0 0 79 [some (.ref 58), some (.int x1), some (.int x2), some (.int x3), none, some (.int y5_79)] [.int t1_79, .int t0_79] (hp s_79 gb) := by
            intro y5_79 t0_79 t1_79 s_79 hf
            unfold f_X12_often_L41_J79 at hf
            refine aw_iadd dX12_often_79 ?_
            refine aw_istore (L' := [some (.ref 58), some (.int x1), some (.int x2), some (.int x3), some (.int (t0_79 + t1_79)), some (.int y5_79)]) dX12_often_80 (by decide) rfl ?_
            refine aw_iinc (v := (y5_79 + (1 : Int32))) (L' := [some (.ref 58), some (.int x1), some (.int x2), some (.int x3), some (.int (t0_79 + t1_79)), some (.int (y5_79 + (1 : Int32)))]) dX12_often_82 rfl rfl (by decide) rfl ?_
            refine aw_goto (tgt := 41) dX12_often_85 (by decide) ?_
            cases hf
            exact hK
          refine aw_iload dX12_often_41 rfl ?_
          refine aw_iload_n dX12_often_43 rfl rfl ?_
          refine aw_icmp_ge (tgt := 88) dX12_often_44 (by decide) (fun hc4 => ?_) (fun hc4 => ?_)
          · have hf := ax_pos hc4 hf
            refine aw_less (L' := [none, none, none, none, some (.int a41.1), none]) (And.intro rfl trivial) ?_
            cases hf
            exact hK
          · have hf := ax_neg hc4 hf
            refine aw_iload dX12_often_47 rfl ?_
            refine aw_aload_n dX12_often_49 rfl rfl ?_
            refine aw_gI dX12_often_50 fl_X12_176 sh_58 rfl ?_
            refine aw_icmp_ge (tgt := 88) dX12_often_53 (by decide) (fun hc3 => ?_) (fun hc3 => ?_)
            · have hf := ax_pos hc3 hf
              refine aw_less (L' := [none, none, none, none, some (.int a41.1), none]) (And.intro rfl trivial) ?_
              cases hf
              exact hK
            · have hf := ax_neg hc3 hf
              refine aw_iload dX12_often_56 rfl ?_
              refine aw_aload_n dX12_often_58 rfl rfl ?_
              refine aw_aload_n dX12_often_59 rfl rfl ?_
              refine aw_gR dX12_often_60 fl_X12_40 sh_58 rfl ?_
              refine aw_iload dX12_often_63 rfl ?_
              obtain ⟨hc1, hf⟩ := ax_ite hf
              refine aw_lA dX12_often_65 sh_66 hc1 ?_
              refine aw_iload_n dX12_often_66 rfl rfl ?_
              obtain ⟨p5, hp5, hf⟩ := ax_bind hf
              refine aw_cVi (As := [.int (rA a41.2.2 66 (a41.2.1).toNatClampNeg), .int x1]) (st := [.int a41.1]) dX12_often_67 cl_X12_205 iv_X12_jobOf (k_X12_jobOf (Q := (fun v h' => v = some (.int p5.1) ∧ h' = hp p5.2 gb)) (rA a41.2.2 66 (a41.2.1).toNatClampNeg) x1 a41.2.2 gb hp5 ⟨rfl, rfl⟩) (ci := 12) rfl (hp_get sh_58) rfl rfl rfl (Nat.le_of_ble_eq_true rfl) rfl (by decide) (by decide) ?_
              refine aw_iload_n dX12_often_70 rfl rfl ?_
              refine aw_icmp_ne (tgt := 78) dX12_often_71 (by decide) (fun hc2 => ?_) (fun hc2 => ?_)
              · have hf := ax_neg hc2 hf
                refine aw_iconst (v := 0) dX12_often_78 (by decide) ?_
                refine aw_less (L' := [some (.ref 58), some (.int x1), some (.int x2), some (.int x3), none, some (.int a41.2.1)]) (And.intro rfl (And.intro rfl (And.intro rfl (And.intro rfl (And.intro rfl trivial))))) ?_
                exact J79 a41.2.1 a41.1 (0 : Int32) p5.2 hf
              · have hf := ax_pos hc2 hf
                refine aw_iconst (v := 1) dX12_often_74 (by decide) ?_
                refine aw_goto (tgt := 79) dX12_often_75 (by decide) ?_
                refine aw_less (L' := [some (.ref 58), some (.int x1), some (.int x2), some (.int x3), none, some (.int a41.2.1)]) (And.intro rfl (And.intro rfl (And.intro rfl (And.intro rfl (And.intro rfl trivial))))) ?_
                exact J79 a41.2.1 a41.1 (1 : Int32) p5.2 hf
        · refine aw_iload dX12_often_88 rfl ?_
          cases hf
          exact aw_iret dX12_often_90 hq (Nat.le_refl _) (Nat.le_refl _)
      · have hf := ax_pos hc5 hf
        refine aw_bipush (v := -2) dX12_often_28 (by decide) ?_
        cases hf
        exact aw_iret dX12_often_30 hq (Nat.le_refl _) (Nat.le_refl _)
noncomputable def f_X12_blocked_L27_J65 (z1 : Int32) (z1 : Int32) (z3 : Int32) (y4_65 : Int32) (t0_65 : Int32) (t1_65 : Int32) (s_65 : sx_M) : Option ((Int32 × Int32 × sx_M) ⊕ (Int32 × sx_M)) :=
  some (.inl ((t0_65 ||| t1_65), (y4_65 + (1 : Int32)), s_65))
noncomputable def f_X12_blocked_L27 (z1 : Int32) (z1 : Int32) (z3 : Int32) (a27 : Int32 × Int32 × sx_M) : Option ((Int32 × Int32 × sx_M) ⊕ (Int32 × sx_M)) :=
  (f_X12_jobs a27.2.2).bind (fun p3 =>
 (if p3.1 ≤ a27.2.1 then
 some (.inr (a27.1, p3.2))
else
 (f_X12_has z1 z3 p3.2).bind (fun p4 =>
 (if p4.1 = 0 then
 f_X12_blocked_L27_J65 z1 z1 z3 a27.2.1 a27.1 (0 : Int32) p4.2
else
 (f_X12_costOf z3 a27.2.1 p4.2).bind (fun p5 =>
 (if p5.1 = (2147483647 : Int32) then
 f_X12_blocked_L27_J65 z1 z1 z3 a27.2.1 a27.1 (0 : Int32) p5.2
else
 f_X12_blocked_L27_J65 z1 z1 z3 a27.2.1 a27.1 ((1 : Int32) <<< (a27.2.1 &&& 31)) p5.2))))))
noncomputable def f_X12_blocked_L16 (z1 : Int32) (a16 : Int32 × Int32 × sx_M) : Option ((Int32 × Int32 × sx_M) ⊕ (Int32 × sx_M)) :=
  (f_X12_workers a16.2.2).bind (fun p2 =>
 (if p2.1 ≤ a16.2.1 then
 some (.inr (a16.1, p2.2))
else
 (whT (f_X12_blocked_L27 z1 z1 a16.2.1) (a16.1, (0 : Int32), p2.2)).bind (fun b6 =>
 some (.inl (b6.1, (a16.2.1 + (1 : Int32)), b6.2)))))
noncomputable def f_X12_blocked_L2 (a2 : Int32 × sx_M) : Option ((Int32 × sx_M) ⊕ ((sx_M) ⊕ (Int32 × sx_M))) :=
  (f_X12_workers a2.2).bind (fun p1 =>
 (if ((1 : Int32) <<< (p1.1 &&& 31)) ≤ a2.1 then
 some (.inr (.inl p1.2))
else
 (whT (f_X12_blocked_L16 a2.1) ((0 : Int32), (0 : Int32), p1.2)).bind (fun b7 =>
 (f_X12_bits b7.1 b7.2).bind (fun p8 =>
 (f_X12_bits a2.1 p8.2).bind (fun p9 =>
 (if p9.1 ≤ p8.1 then
 some (.inl ((a2.1 + (1 : Int32)), p9.2))
else
 some (.inr (.inr ((a2.1, p9.2))))))))))
noncomputable def f_X12_blocked (s : sx_M) : Option (Int32 × sx_M) :=
  (whT (f_X12_blocked_L2) ((1 : Int32), s)).bind (fun b10 => (Sum.elim (fun e11 =>
 some ((0 : Int32), e11)) (fun e12 =>
 some e12)) b10)
set_option maxRecDepth 100000 in
set_option maxHeartbeats 4000000 in
theorem k_X12_blocked {l : Launch} {X : ax_X} {Q : Option Value → ax_H → Prop} (s : sx_M) (gb : ax_H) {p : Int32 × sx_M} (hf : f_X12_blocked s = some p) (hq : Q (some (.int p.1)) (hp p.2 gb)) : AM l X yX12_blocked cX12_blocked 5 (some .int) 2 0 0 [.ref 58] (hp s gb) Q := by
  refine aw_met (own := RX12) (nm := "blocked") (L := [some (.ref 58), none, none, none, none]) (by decide +kernel) rfl rfl (And.intro rfl trivial) (Nat.le_of_ble_eq_true rfl) ?_
  unfold f_X12_blocked at hf
  refine aw_iconst (v := 1) dX12_blocked_0 (by decide) ?_
  refine aw_istore_n (L' := [some (.ref 58), some (.int (1 : Int32)), none, none, none]) dX12_blocked_1 rfl (by decide) rfl ?_
  obtain ⟨b10, hb10, hf⟩ := ax_bind hf
  refine wh_go ((1 : Int32), s) (fun a2 : Int32 × sx_M => AW l X RX12 "blocked" cX12_blocked 5 (some .int) (ax_rm 2 0 0) (ax_MQ X Q 0 0) 0 0 2 [some (.ref 58), some (.int a2.1), none, none, none] [] (hp a2.2 gb)) (Sum.elim (fun e : sx_M => AW l X RX12 "blocked" cX12_blocked 5 (some .int) (ax_rm 2 0 0) (ax_MQ X Q 0 0) 0 0 98 [none, none, none, none, none] [] (hp e gb)) (fun v : Int32 × sx_M => Q (some (.int v.1)) (hp v.2 gb))) hb10 ?_ ?_
  · intro a2 r hf hK
    unfold f_X12_blocked_L2 at hf
    refine aw_iload_n dX12_blocked_2 rfl rfl ?_
    refine aw_iconst (v := 1) dX12_blocked_3 (by decide) ?_
    refine aw_aload_n dX12_blocked_4 rfl rfl ?_
    obtain ⟨p1, hp1, hf⟩ := ax_bind hf
    refine aw_cVi (As := []) (st := [.int (1 : Int32), .int a2.1]) dX12_blocked_5 cl_X12_60 iv_X12_workers (k_X12_workers (Q := (fun v h' => v = some (.int p1.1) ∧ h' = hp p1.2 gb)) a2.2 gb hp1 ⟨rfl, rfl⟩) (ci := 12) rfl (hp_get sh_58) rfl rfl rfl (Nat.le_of_ble_eq_true rfl) rfl (by decide) (by decide) ?_
    refine aw_ishl dX12_blocked_8 ?_
    refine aw_icmp_ge (tgt := 98) dX12_blocked_9 (by decide) (fun hc6 => ?_) (fun hc6 => ?_)
    · have hf := ax_pos hc6 hf
      refine aw_less (L' := [none, none, none, none, none]) trivial ?_
      cases hf
      exact hK
    · have hf := ax_neg hc6 hf
      refine aw_iconst (v := 0) dX12_blocked_12 (by decide) ?_
      refine aw_istore_n (L' := [some (.ref 58), some (.int a2.1), some (.int (0 : Int32)), none, none]) dX12_blocked_13 rfl (by decide) rfl ?_
      refine aw_iconst (v := 0) dX12_blocked_14 (by decide) ?_
      refine aw_istore_n (L' := [some (.ref 58), some (.int a2.1), some (.int (0 : Int32)), some (.int (0 : Int32)), none]) dX12_blocked_15 rfl (by decide) rfl ?_
      obtain ⟨b7, hb7, hf⟩ := ax_bind hf
      refine wh_go ((0 : Int32), (0 : Int32), p1.2) (fun a16 : Int32 × Int32 × sx_M => AW l X RX12 "blocked" cX12_blocked 5 (some .int) (ax_rm 2 0 0) (ax_MQ X Q 0 0) 0 0 16 [some (.ref 58), some (.int a2.1), some (.int a16.1), some (.int a16.2.1), none] [] (hp a16.2.2 gb)) (fun e : Int32 × sx_M => AW l X RX12 "blocked" cX12_blocked 5 (some .int) (ax_rm 2 0 0) (ax_MQ X Q 0 0) 0 0 79 [some (.ref 58), some (.int a2.1), some (.int e.1), none, none] [] (hp e.2 gb)) hb7 ?_ ?_
      · intro a16 r hf hK
        unfold f_X12_blocked_L16 at hf
        refine aw_iload_n dX12_blocked_16 rfl rfl ?_
        refine aw_aload_n dX12_blocked_17 rfl rfl ?_
        obtain ⟨p2, hp2, hf⟩ := ax_bind hf
        refine aw_cVi (As := []) (st := [.int a16.2.1]) dX12_blocked_18 cl_X12_60 iv_X12_workers (k_X12_workers (Q := (fun v h' => v = some (.int p2.1) ∧ h' = hp p2.2 gb)) a16.2.2 gb hp2 ⟨rfl, rfl⟩) (ci := 12) rfl (hp_get sh_58) rfl rfl rfl (Nat.le_of_ble_eq_true rfl) rfl (by decide) (by decide) ?_
        refine aw_icmp_ge (tgt := 79) dX12_blocked_21 (by decide) (fun hc4 => ?_) (fun hc4 => ?_)
        · have hf := ax_pos hc4 hf
          refine aw_less (L' := [some (.ref 58), some (.int a2.1), some (.int a16.1), none, none]) (And.intro rfl (And.intro rfl (And.intro rfl trivial))) ?_
          cases hf
          exact hK
        · have hf := ax_neg hc4 hf
          refine aw_iconst (v := 0) dX12_blocked_24 (by decide) ?_
          refine aw_istore (L' := [some (.ref 58), some (.int a2.1), some (.int a16.1), some (.int a16.2.1), some (.int (0 : Int32))]) dX12_blocked_25 (by decide) rfl ?_
          obtain ⟨b6, hb6, hf⟩ := ax_bind hf
          refine wh_go (a16.1, (0 : Int32), p2.2) (fun a27 : Int32 × Int32 × sx_M => AW l X RX12 "blocked" cX12_blocked 5 (some .int) (ax_rm 2 0 0) (ax_MQ X Q 0 0) 0 0 27 [some (.ref 58), some (.int a2.1), some (.int a27.1), some (.int a16.2.1), some (.int a27.2.1)] [] (hp a27.2.2 gb)) (fun e : Int32 × sx_M => AW l X RX12 "blocked" cX12_blocked 5 (some .int) (ax_rm 2 0 0) (ax_MQ X Q 0 0) 0 0 73 [some (.ref 58), some (.int a2.1), some (.int e.1), some (.int a16.2.1), none] [] (hp e.2 gb)) hb6 ?_ ?_
          · intro a27 r hf hK
            unfold f_X12_blocked_L27 at hf
            have J65 : ∀ (y4_65 : Int32) (t0_65 : Int32) (t1_65 : Int32) (s_65 : sx_M), f_X12_blocked_L27_J65 a2.1 a2.1 a16.2.1 y4_65 t0_65 t1_65 s_65 = some r → AW l X RX12 "blocked" cX12_blocked 5 (some .int) (ax_rm 2 0 0) (ax_MQ X Q 0 0) 0 0 65 [some (.ref 58), some (.int a2.1), none, some (.int a16.2.1), some (.int y4_65)] [.int t1_65, .int t0_65] (hp s_65 gb) := by
              intro y4_65 t0_65 t1_65 s_65 hf
              unfold f_X12_blocked_L27_J65 at hf
              refine aw_ior dX12_blocked_65 ?_
              refine aw_istore_n (L' := [some (.ref 58), some (.int a2.1), some (.int (t0_65 ||| t1_65)), some (.int a16.2.1), some (.int y4_65)]) dX12_blocked_66 rfl (by decide) rfl ?_
              refine aw_iinc (v := (y4_65 + (1 : Int32))) (L' := [some (.ref 58), some (.int a2.1), some (.int (t0_65 ||| t1_65)), some (.int a16.2.1), some (.int (y4_65 + (1 : Int32)))]) dX12_blocked_67 rfl rfl (by decide) rfl ?_
              refine aw_goto (tgt := 27) dX12_blocked_70 (by decide) ?_
              cases hf
              exact hK
            refine aw_iload dX12_blocked_27 rfl ?_
            refine aw_aload_n dX12_blocked_29 rfl rfl ?_
            obtain ⟨p3, hp3, hf⟩ := ax_bind hf
            refine aw_cVi (As := []) (st := [.int a27.2.1]) dX12_blocked_30 cl_X12_68 iv_X12_jobs (k_X12_jobs (Q := (fun v h' => v = some (.int p3.1) ∧ h' = hp p3.2 gb)) a27.2.2 gb hp3 ⟨rfl, rfl⟩) (ci := 12) rfl (hp_get sh_58) rfl rfl rfl (Nat.le_of_ble_eq_true rfl) rfl (by decide) (by decide) ?_
            refine aw_icmp_ge (tgt := 73) dX12_blocked_33 (by decide) (fun hc3 => ?_) (fun hc3 => ?_)
            · have hf := ax_pos hc3 hf
              refine aw_less (L' := [some (.ref 58), some (.int a2.1), some (.int a27.1), some (.int a16.2.1), none]) (And.intro rfl (And.intro rfl (And.intro rfl (And.intro rfl trivial)))) ?_
              cases hf
              exact hK
            · have hf := ax_neg hc3 hf
              refine aw_iload_n dX12_blocked_36 rfl rfl ?_
              refine aw_iload_n dX12_blocked_37 rfl rfl ?_
              refine aw_iload_n dX12_blocked_38 rfl rfl ?_
              obtain ⟨p4, hp4, hf⟩ := ax_bind hf
              refine aw_cSi (As := [.int a2.1, .int a16.2.1]) (st := [.int a27.1]) dX12_blocked_39 cl_X12_164 st_X12_has (k_X12_has (Q := (fun v h' => v = some (.int p4.1) ∧ h' = hp p4.2 gb)) a2.1 a16.2.1 p3.2 gb hp4 ⟨rfl, rfl⟩) rfl rfl (Nat.le_of_ble_eq_true rfl) rfl (by decide) (by decide) ?_
              refine aw_if_eq (tgt := 64) dX12_blocked_42 (by decide) (fun hc2 => ?_) (fun hc2 => ?_)
              · have hf := ax_pos hc2 hf
                refine aw_iconst (v := 0) dX12_blocked_64 (by decide) ?_
                refine aw_less (L' := [some (.ref 58), some (.int a2.1), none, some (.int a16.2.1), some (.int a27.2.1)]) (And.intro rfl (And.intro rfl (And.intro rfl (And.intro rfl trivial)))) ?_
                exact J65 a27.2.1 a27.1 (0 : Int32) p4.2 hf
              · have hf := ax_neg hc2 hf
                refine aw_aload_n dX12_blocked_45 rfl rfl ?_
                refine aw_iload_n dX12_blocked_46 rfl rfl ?_
                refine aw_iload dX12_blocked_47 rfl ?_
                obtain ⟨p5, hp5, hf⟩ := ax_bind hf
                refine aw_cVi (As := [.int a16.2.1, .int a27.2.1]) (st := [.int a27.1]) dX12_blocked_49 cl_X12_157 iv_X12_costOf (k_X12_costOf (Q := (fun v h' => v = some (.int p5.1) ∧ h' = hp p5.2 gb)) a16.2.1 a27.2.1 p4.2 gb hp5 ⟨rfl, rfl⟩) (ci := 12) rfl (hp_get sh_58) rfl rfl rfl (Nat.le_of_ble_eq_true rfl) rfl (by decide) (by decide) ?_
                refine aw_ldc dX12_blocked_52 kc_X12_131 ?_
                refine aw_icmp_eq (tgt := 64) dX12_blocked_54 (by decide) (fun hc1 => ?_) (fun hc1 => ?_)
                · have hf := ax_pos hc1 hf
                  refine aw_iconst (v := 0) dX12_blocked_64 (by decide) ?_
                  refine aw_less (L' := [some (.ref 58), some (.int a2.1), none, some (.int a16.2.1), some (.int a27.2.1)]) (And.intro rfl (And.intro rfl (And.intro rfl (And.intro rfl trivial)))) ?_
                  exact J65 a27.2.1 a27.1 (0 : Int32) p5.2 hf
                · have hf := ax_neg hc1 hf
                  refine aw_iconst (v := 1) dX12_blocked_57 (by decide) ?_
                  refine aw_iload dX12_blocked_58 rfl ?_
                  refine aw_ishl dX12_blocked_60 ?_
                  refine aw_goto (tgt := 65) dX12_blocked_61 (by decide) ?_
                  refine aw_less (L' := [some (.ref 58), some (.int a2.1), none, some (.int a16.2.1), some (.int a27.2.1)]) (And.intro rfl (And.intro rfl (And.intro rfl (And.intro rfl trivial)))) ?_
                  exact J65 a27.2.1 a27.1 ((1 : Int32) <<< (a27.2.1 &&& 31)) p5.2 hf
          · refine aw_iinc (v := (a16.2.1 + (1 : Int32))) (L' := [some (.ref 58), some (.int a2.1), some (.int b6.1), some (.int (a16.2.1 + (1 : Int32))), none]) dX12_blocked_73 rfl rfl (by decide) rfl ?_
            refine aw_goto (tgt := 16) dX12_blocked_76 (by decide) ?_
            cases hf
            exact hK
      · refine aw_iload_n dX12_blocked_79 rfl rfl ?_
        obtain ⟨p8, hp8, hf⟩ := ax_bind hf
        refine aw_cSi (As := [.int b7.1]) (st := []) dX12_blocked_80 cl_X12_316 st_X12_bits (k_X12_bits (Q := (fun v h' => v = some (.int p8.1) ∧ h' = hp p8.2 gb)) b7.1 b7.2 gb hp8 ⟨rfl, rfl⟩) rfl rfl (Nat.le_of_ble_eq_true rfl) rfl (by decide) (by decide) ?_
        refine aw_iload_n dX12_blocked_83 rfl rfl ?_
        obtain ⟨p9, hp9, hf⟩ := ax_bind hf
        refine aw_cSi (As := [.int a2.1]) (st := [.int p8.1]) dX12_blocked_84 cl_X12_316 st_X12_bits (k_X12_bits (Q := (fun v h' => v = some (.int p9.1) ∧ h' = hp p9.2 gb)) a2.1 p8.2 gb hp9 ⟨rfl, rfl⟩) rfl rfl (Nat.le_of_ble_eq_true rfl) rfl (by decide) (by decide) ?_
        refine aw_icmp_ge (tgt := 92) dX12_blocked_87 (by decide) (fun hc5 => ?_) (fun hc5 => ?_)
        · have hf := ax_pos hc5 hf
          refine aw_iinc (v := (a2.1 + (1 : Int32))) (L' := [some (.ref 58), some (.int (a2.1 + (1 : Int32))), some (.int b7.1), none, none]) dX12_blocked_92 rfl rfl (by decide) rfl ?_
          refine aw_goto (tgt := 2) dX12_blocked_95 (by decide) ?_
          refine aw_less (L' := [some (.ref 58), some (.int (a2.1 + (1 : Int32))), none, none, none]) (And.intro rfl (And.intro rfl trivial)) ?_
          cases hf
          exact hK
        · have hf := ax_neg hc5 hf
          refine aw_iload_n dX12_blocked_90 rfl rfl ?_
          cases hf
          exact aw_iret dX12_blocked_91 hK (Nat.le_refl _) (Nat.le_refl _)
  · rcases b10 with e11 | e12
    · refine aw_iconst (v := 0) dX12_blocked_98 (by decide) ?_
      cases hf
      exact aw_iret dX12_blocked_99 hq (Nat.le_refl _) (Nat.le_refl _)
    · cases hf
      exact hq
noncomputable def f_X12_lessOf (x1 : Int32) (x2 : Int32) (s : sx_M) : Option (Int32 × sx_M) :=
  (f_X12_costOf x1 x2 s).bind (fun p1 =>
 (f_X12_leastOf x1 (0 : Int32) p1.2).bind (fun p2 =>
 some ((p1.1 - (p2.1).toInt32), p2.2)))
set_option maxRecDepth 100000 in
set_option maxHeartbeats 4000000 in
theorem k_X12_lessOf {l : Launch} {X : ax_X} {Q : Option Value → ax_H → Prop} (x1 : Int32) (x2 : Int32) (s : sx_M) (gb : ax_H) {p : Int32 × sx_M} (hf : f_X12_lessOf x1 x2 s = some p) (hq : Q (some (.int p.1)) (hp p.2 gb)) : AM l X yX12_lessOf cX12_lessOf 3 (some .int) 3 0 0 [.ref 58, .int x1, .int x2] (hp s gb) Q := by
  refine aw_met (own := RX12) (nm := "lessOf") (L := [some (.ref 58), some (.int x1), some (.int x2)]) (by decide +kernel) rfl rfl (And.intro rfl (And.intro rfl (And.intro rfl trivial))) (Nat.le_of_ble_eq_true rfl) ?_
  unfold f_X12_lessOf at hf
  refine aw_aload_n dX12_lessOf_0 rfl rfl ?_
  refine aw_iload_n dX12_lessOf_1 rfl rfl ?_
  refine aw_iload_n dX12_lessOf_2 rfl rfl ?_
  obtain ⟨p1, hp1, hf⟩ := ax_bind hf
  refine aw_cVi (As := [.int x1, .int x2]) (st := []) dX12_lessOf_3 cl_X12_157 iv_X12_costOf (k_X12_costOf (Q := (fun v h' => v = some (.int p1.1) ∧ h' = hp p1.2 gb)) x1 x2 s gb hp1 ⟨rfl, rfl⟩) (ci := 12) rfl (hp_get sh_58) rfl rfl rfl (Nat.le_of_ble_eq_true rfl) rfl (by decide) (by decide) ?_
  refine aw_aload_n dX12_lessOf_6 rfl rfl ?_
  refine aw_iload_n dX12_lessOf_7 rfl rfl ?_
  refine aw_iconst (v := 0) dX12_lessOf_8 (by decide) ?_
  obtain ⟨p2, hp2, hf⟩ := ax_bind hf
  refine aw_cVl (As := [.int x1, .int (0 : Int32)]) (st := [.int p1.1]) dX12_lessOf_9 cl_X12_290 iv_X12_leastOf (k_X12_leastOf (Q := (fun v h' => v = some (.long p2.1) ∧ h' = hp p2.2 gb)) x1 (0 : Int32) p1.2 gb hp2 ⟨rfl, rfl⟩) (ci := 12) rfl (hp_get sh_58) rfl rfl rfl (Nat.le_of_ble_eq_true rfl) rfl (by decide) (by decide) ?_
  refine aw_l2i dX12_lessOf_12 ?_
  refine aw_isub dX12_lessOf_13 ?_
  cases hf
  exact aw_iret dX12_lessOf_14 hq (Nat.le_refl _) (Nat.le_refl _)
noncomputable def f_X12_reducedOf_L6 (z1 : Int32) (z2 : Int32) (a6 : Int32 × Int32 × sx_M) : Option ((Int32 × Int32 × sx_M) ⊕ (Int32 × sx_M)) :=
  (f_X12_workers a6.2.2).bind (fun p1 =>
 (if p1.1 ≤ a6.2.1 then
 some (.inr (a6.1, p1.2))
else
 (f_X12_costOf a6.2.1 z2 p1.2).bind (fun p2 =>
 (if p2.1 = (2147483647 : Int32) then
 some (.inl (a6.1, (a6.2.1 + (1 : Int32)), p2.2))
else
 (f_X12_lessOf a6.2.1 z2 p2.2).bind (fun p3 =>
 (f_J9_min_7cf53 a6.1 p3.1 p3.2).bind (fun p4 =>
 some (.inl (p4.1, (a6.2.1 + (1 : Int32)), p4.2))))))))
noncomputable def f_X12_reducedOf (x1 : Int32) (x2 : Int32) (s : sx_M) : Option (Int64 × sx_M) :=
  (whT (f_X12_reducedOf_L6 x1 x2) ((2147483647 : Int32), (0 : Int32), s)).bind (fun b5 =>
 (f_X12_lessOf x1 x2 b5.2).bind (fun p6 =>
 some (((p6.1 - b5.1)).toInt64, p6.2)))
set_option maxRecDepth 100000 in
set_option maxHeartbeats 4000000 in
theorem k_X12_reducedOf {l : Launch} {X : ax_X} {Q : Option Value → ax_H → Prop} (x1 : Int32) (x2 : Int32) (s : sx_M) (gb : ax_H) {p : Int64 × sx_M} (hf : f_X12_reducedOf x1 x2 s = some p) (hq : Q (some (.long p.1)) (hp p.2 gb)) : AM l X yX12_reducedOf cX12_reducedOf 5 (some .long) 4 0 0 [.ref 58, .int x1, .int x2] (hp s gb) Q := by
  refine aw_met (own := RX12) (nm := "reducedOf") (L := [some (.ref 58), some (.int x1), some (.int x2), none, none]) (by decide +kernel) rfl rfl (And.intro rfl (And.intro rfl (And.intro rfl trivial))) (Nat.le_of_ble_eq_true rfl) ?_
  unfold f_X12_reducedOf at hf
  refine aw_ldc dX12_reducedOf_0 kc_X12_131 ?_
  refine aw_istore_n (L' := [some (.ref 58), some (.int x1), some (.int x2), some (.int (2147483647 : Int32)), none]) dX12_reducedOf_2 rfl (by decide) rfl ?_
  refine aw_iconst (v := 0) dX12_reducedOf_3 (by decide) ?_
  refine aw_istore (L' := [some (.ref 58), some (.int x1), some (.int x2), some (.int (2147483647 : Int32)), some (.int (0 : Int32))]) dX12_reducedOf_4 (by decide) rfl ?_
  obtain ⟨b5, hb5, hf⟩ := ax_bind hf
  refine wh_go ((2147483647 : Int32), (0 : Int32), s) (fun a6 : Int32 × Int32 × sx_M => AW l X RX12 "reducedOf" cX12_reducedOf 5 (some .long) (ax_rm 4 0 0) (ax_MQ X Q 0 0) 0 0 6 [some (.ref 58), some (.int x1), some (.int x2), some (.int a6.1), some (.int a6.2.1)] [] (hp a6.2.2 gb)) (fun e : Int32 × sx_M => AW l X RX12 "reducedOf" cX12_reducedOf 5 (some .long) (ax_rm 4 0 0) (ax_MQ X Q 0 0) 0 0 49 [some (.ref 58), some (.int x1), some (.int x2), some (.int e.1), none] [] (hp e.2 gb)) hb5 ?_ ?_
  · intro a6 r hf hK
    unfold f_X12_reducedOf_L6 at hf
    refine aw_iload dX12_reducedOf_6 rfl ?_
    refine aw_aload_n dX12_reducedOf_8 rfl rfl ?_
    obtain ⟨p1, hp1, hf⟩ := ax_bind hf
    refine aw_cVi (As := []) (st := [.int a6.2.1]) dX12_reducedOf_9 cl_X12_60 iv_X12_workers (k_X12_workers (Q := (fun v h' => v = some (.int p1.1) ∧ h' = hp p1.2 gb)) a6.2.2 gb hp1 ⟨rfl, rfl⟩) (ci := 12) rfl (hp_get sh_58) rfl rfl rfl (Nat.le_of_ble_eq_true rfl) rfl (by decide) (by decide) ?_
    refine aw_icmp_ge (tgt := 49) dX12_reducedOf_12 (by decide) (fun hc2 => ?_) (fun hc2 => ?_)
    · have hf := ax_pos hc2 hf
      refine aw_less (L' := [some (.ref 58), some (.int x1), some (.int x2), some (.int a6.1), none]) (And.intro rfl (And.intro rfl (And.intro rfl (And.intro rfl trivial)))) ?_
      cases hf
      exact hK
    · have hf := ax_neg hc2 hf
      refine aw_aload_n dX12_reducedOf_15 rfl rfl ?_
      refine aw_iload dX12_reducedOf_16 rfl ?_
      refine aw_iload_n dX12_reducedOf_18 rfl rfl ?_
      obtain ⟨p2, hp2, hf⟩ := ax_bind hf
      refine aw_cVi (As := [.int a6.2.1, .int x2]) (st := []) dX12_reducedOf_19 cl_X12_157 iv_X12_costOf (k_X12_costOf (Q := (fun v h' => v = some (.int p2.1) ∧ h' = hp p2.2 gb)) a6.2.1 x2 p1.2 gb hp2 ⟨rfl, rfl⟩) (ci := 12) rfl (hp_get sh_58) rfl rfl rfl (Nat.le_of_ble_eq_true rfl) rfl (by decide) (by decide) ?_
      refine aw_ldc dX12_reducedOf_22 kc_X12_131 ?_
      refine aw_icmp_ne (tgt := 31) dX12_reducedOf_24 (by decide) (fun hc1 => ?_) (fun hc1 => ?_)
      · have hf := ax_neg hc1 hf
        refine aw_iload_n dX12_reducedOf_31 rfl rfl ?_
        refine aw_aload_n dX12_reducedOf_32 rfl rfl ?_
        refine aw_iload dX12_reducedOf_33 rfl ?_
        refine aw_iload_n dX12_reducedOf_35 rfl rfl ?_
        obtain ⟨p3, hp3, hf⟩ := ax_bind hf
        refine aw_cVi (As := [.int a6.2.1, .int x2]) (st := [.int a6.1]) dX12_reducedOf_36 cl_X12_328 iv_X12_lessOf (k_X12_lessOf (Q := (fun v h' => v = some (.int p3.1) ∧ h' = hp p3.2 gb)) a6.2.1 x2 p2.2 gb hp3 ⟨rfl, rfl⟩) (ci := 12) rfl (hp_get sh_58) rfl rfl rfl (Nat.le_of_ble_eq_true rfl) rfl (by decide) (by decide) ?_
        obtain ⟨p4, hp4, hf⟩ := ax_bind hf
        refine aw_cSi (As := [.int a6.1, .int p3.1]) (st := []) dX12_reducedOf_39 cl_X12_94 st_J9_min_7cf53 (k_J9_min_7cf53 (Q := (fun v h' => v = some (.int p4.1) ∧ h' = hp p4.2 gb)) a6.1 p3.1 p3.2 gb hp4 ⟨rfl, rfl⟩) rfl rfl (Nat.le_of_ble_eq_true rfl) rfl (by decide) (by decide) ?_
        refine aw_istore_n (L' := [some (.ref 58), some (.int x1), some (.int x2), some (.int p4.1), some (.int a6.2.1)]) dX12_reducedOf_42 rfl (by decide) rfl ?_
        refine aw_iinc (v := (a6.2.1 + (1 : Int32))) (L' := [some (.ref 58), some (.int x1), some (.int x2), some (.int p4.1), some (.int (a6.2.1 + (1 : Int32)))]) dX12_reducedOf_43 rfl rfl (by decide) rfl ?_
        refine aw_goto (tgt := 6) dX12_reducedOf_46 (by decide) ?_
        cases hf
        exact hK
      · have hf := ax_pos hc1 hf
        refine aw_iload_n dX12_reducedOf_27 rfl rfl ?_
        refine aw_goto (tgt := 42) dX12_reducedOf_28 (by decide) ?_
        refine aw_istore_n (L' := [some (.ref 58), some (.int x1), some (.int x2), some (.int a6.1), some (.int a6.2.1)]) dX12_reducedOf_42 rfl (by decide) rfl ?_
        refine aw_iinc (v := (a6.2.1 + (1 : Int32))) (L' := [some (.ref 58), some (.int x1), some (.int x2), some (.int a6.1), some (.int (a6.2.1 + (1 : Int32)))]) dX12_reducedOf_43 rfl rfl (by decide) rfl ?_
        refine aw_goto (tgt := 6) dX12_reducedOf_46 (by decide) ?_
        cases hf
        exact hK
  · refine aw_aload_n dX12_reducedOf_49 rfl rfl ?_
    refine aw_iload_n dX12_reducedOf_50 rfl rfl ?_
    refine aw_iload_n dX12_reducedOf_51 rfl rfl ?_
    obtain ⟨p6, hp6, hf⟩ := ax_bind hf
    refine aw_cVi (As := [.int x1, .int x2]) (st := []) dX12_reducedOf_52 cl_X12_328 iv_X12_lessOf (k_X12_lessOf (Q := (fun v h' => v = some (.int p6.1) ∧ h' = hp p6.2 gb)) x1 x2 b5.2 gb hp6 ⟨rfl, rfl⟩) (ci := 12) rfl (hp_get sh_58) rfl rfl rfl (Nat.le_of_ble_eq_true rfl) rfl (by decide) (by decide) ?_
    refine aw_iload_n dX12_reducedOf_55 rfl rfl ?_
    refine aw_isub dX12_reducedOf_56 ?_
    refine aw_i2l dX12_reducedOf_57 ?_
    cases hf
    exact aw_lret dX12_reducedOf_58 hq (Nat.le_refl _) (Nat.le_refl _)
noncomputable def f_X12_reduced (x1 : Int32) (x2 : Int32) (s : sx_M) : Option (Int64 × sx_M) :=
  (f_X12_isWorker x1 s).bind (fun p1 =>
 (if p1.1 = 0 then
 some ((-9223372036854775808 : Int64), p1.2)
else
 (f_X12_isJob x2 p1.2).bind (fun p2 =>
 (if p2.1 = 0 then
 some ((-9223372036854775808 : Int64), p2.2)
else
 (f_X12_costOf x1 x2 p2.2).bind (fun p3 =>
 (if p3.1 = (2147483647 : Int32) then
 some ((9223372036854775807 : Int64), p3.2)
else
 (f_X12_reducedOf x1 x2 p3.2).bind (fun p4 =>
 some (p4.1, p4.2))))))))
set_option maxRecDepth 100000 in
set_option maxHeartbeats 4000000 in
theorem k_X12_reduced {l : Launch} {X : ax_X} {Q : Option Value → ax_H → Prop} (x1 : Int32) (x2 : Int32) (s : sx_M) (gb : ax_H) {p : Int64 × sx_M} (hf : f_X12_reduced x1 x2 s = some p) (hq : Q (some (.long p.1)) (hp p.2 gb)) : AM l X yX12_reduced cX12_reduced 3 (some .long) 5 0 0 [.ref 58, .int x1, .int x2] (hp s gb) Q := by
  refine aw_met (own := RX12) (nm := "reduced") (L := [some (.ref 58), some (.int x1), some (.int x2)]) (by decide +kernel) rfl rfl (And.intro rfl (And.intro rfl (And.intro rfl trivial))) (Nat.le_of_ble_eq_true rfl) ?_
  unfold f_X12_reduced at hf
  refine aw_aload_n dX12_reduced_0 rfl rfl ?_
  refine aw_iload_n dX12_reduced_1 rfl rfl ?_
  obtain ⟨p1, hp1, hf⟩ := ax_bind hf
  refine aw_cVi (As := [.int x1]) (st := []) dX12_reduced_2 cl_X12_187 iv_X12_isWorker (k_X12_isWorker (Q := (fun v h' => v = some (.int p1.1) ∧ h' = hp p1.2 gb)) x1 s gb hp1 ⟨rfl, rfl⟩) (ci := 12) rfl (hp_get sh_58) rfl rfl rfl (Nat.le_of_ble_eq_true rfl) rfl (by decide) (by decide) ?_
  refine aw_if_eq (tgt := 16) dX12_reduced_5 (by decide) (fun hc3 => ?_) (fun hc3 => ?_)
  · have hf := ax_pos hc3 hf
    refine aw_ldc2 dX12_reduced_16 kc_X12_197 ?_
    cases hf
    exact aw_lret dX12_reduced_19 hq (Nat.le_refl _) (Nat.le_refl _)
  · have hf := ax_neg hc3 hf
    refine aw_aload_n dX12_reduced_8 rfl rfl ?_
    refine aw_iload_n dX12_reduced_9 rfl rfl ?_
    obtain ⟨p2, hp2, hf⟩ := ax_bind hf
    refine aw_cVi (As := [.int x2]) (st := []) dX12_reduced_10 cl_X12_190 iv_X12_isJob (k_X12_isJob (Q := (fun v h' => v = some (.int p2.1) ∧ h' = hp p2.2 gb)) x2 p1.2 gb hp2 ⟨rfl, rfl⟩) (ci := 12) rfl (hp_get sh_58) rfl rfl rfl (Nat.le_of_ble_eq_true rfl) rfl (by decide) (by decide) ?_
    refine aw_if_ne (tgt := 20) dX12_reduced_13 (by decide) (fun hc2 => ?_) (fun hc2 => ?_)
    · have hf := ax_neg hc2 hf
      refine aw_aload_n dX12_reduced_20 rfl rfl ?_
      refine aw_iload_n dX12_reduced_21 rfl rfl ?_
      refine aw_iload_n dX12_reduced_22 rfl rfl ?_
      obtain ⟨p3, hp3, hf⟩ := ax_bind hf
      refine aw_cVi (As := [.int x1, .int x2]) (st := []) dX12_reduced_23 cl_X12_157 iv_X12_costOf (k_X12_costOf (Q := (fun v h' => v = some (.int p3.1) ∧ h' = hp p3.2 gb)) x1 x2 p2.2 gb hp3 ⟨rfl, rfl⟩) (ci := 12) rfl (hp_get sh_58) rfl rfl rfl (Nat.le_of_ble_eq_true rfl) rfl (by decide) (by decide) ?_
      refine aw_ldc dX12_reduced_26 kc_X12_131 ?_
      refine aw_icmp_ne (tgt := 37) dX12_reduced_28 (by decide) (fun hc1 => ?_) (fun hc1 => ?_)
      · have hf := ax_neg hc1 hf
        refine aw_aload_n dX12_reduced_37 rfl rfl ?_
        refine aw_iload_n dX12_reduced_38 rfl rfl ?_
        refine aw_iload_n dX12_reduced_39 rfl rfl ?_
        obtain ⟨p4, hp4, hf⟩ := ax_bind hf
        refine aw_cVl (As := [.int x1, .int x2]) (st := []) dX12_reduced_40 cl_X12_331 iv_X12_reducedOf (k_X12_reducedOf (Q := (fun v h' => v = some (.long p4.1) ∧ h' = hp p4.2 gb)) x1 x2 p3.2 gb hp4 ⟨rfl, rfl⟩) (ci := 12) rfl (hp_get sh_58) rfl rfl rfl (Nat.le_of_ble_eq_true rfl) rfl (by decide) (by decide) ?_
        cases hf
        exact aw_lret dX12_reduced_43 hq (Nat.le_refl _) (Nat.le_refl _)
      · have hf := ax_pos hc1 hf
        refine aw_ldc2 dX12_reduced_31 kc_X12_185 ?_
        refine aw_goto (tgt := 43) dX12_reduced_34 (by decide) ?_
        cases hf
        exact aw_lret dX12_reduced_43 hq (Nat.le_refl _) (Nat.le_refl _)
    · have hf := ax_pos hc2 hf
      refine aw_ldc2 dX12_reduced_16 kc_X12_197 ?_
      cases hf
      exact aw_lret dX12_reduced_19 hq (Nat.le_refl _) (Nat.le_refl _)
noncomputable def f_X12_noughts_L14_J50 (z2 : Int32) (y3_50 : Int32) (t0_50 : Int32) (t1_50 : Int32) (s_50 : sx_M) : Option ((Int32 × Int32 × sx_M) ⊕ (Int32 × sx_M)) :=
  some (.inl ((t0_50 + t1_50), (y3_50 + (1 : Int32)), s_50))
noncomputable def f_X12_noughts_L14 (z2 : Int32) (a14 : Int32 × Int32 × sx_M) : Option ((Int32 × Int32 × sx_M) ⊕ (Int32 × sx_M)) :=
  (f_X12_jobs a14.2.2).bind (fun p2 =>
 (if p2.1 ≤ a14.2.1 then
 some (.inr (a14.1, p2.2))
else
 (f_X12_costOf z2 a14.2.1 p2.2).bind (fun p3 =>
 (if p3.1 = (2147483647 : Int32) then
 f_X12_noughts_L14_J50 z2 a14.2.1 a14.1 (0 : Int32) p3.2
else
 (f_X12_reducedOf z2 a14.2.1 p3.2).bind (fun p4 =>
 (if p4.1 = (0 : Int64) then
 f_X12_noughts_L14_J50 z2 a14.2.1 a14.1 (1 : Int32) p4.2
else
 f_X12_noughts_L14_J50 z2 a14.2.1 a14.1 (0 : Int32) p4.2))))))
noncomputable def f_X12_noughts_L4 (a4 : Int32 × Int32 × sx_M) : Option ((Int32 × Int32 × sx_M) ⊕ (Int32 × sx_M)) :=
  (f_X12_workers a4.2.2).bind (fun p1 =>
 (if p1.1 ≤ a4.2.1 then
 some (.inr (a4.1, p1.2))
else
 (whT (f_X12_noughts_L14 a4.2.1) (a4.1, (0 : Int32), p1.2)).bind (fun b5 =>
 some (.inl (b5.1, (a4.2.1 + (1 : Int32)), b5.2)))))
noncomputable def f_X12_noughts (s : sx_M) : Option (Int32 × sx_M) :=
  (whT (f_X12_noughts_L4) ((0 : Int32), (0 : Int32), s)).bind (fun b6 =>
 some (b6.1, b6.2))
set_option maxRecDepth 100000 in
set_option maxHeartbeats 4000000 in
theorem k_X12_noughts {l : Launch} {X : ax_X} {Q : Option Value → ax_H → Prop} (s : sx_M) (gb : ax_H) {p : Int32 × sx_M} (hf : f_X12_noughts s = some p) (hq : Q (some (.int p.1)) (hp p.2 gb)) : AM l X yX12_noughts cX12_noughts 4 (some .int) 5 0 0 [.ref 58] (hp s gb) Q := by
  refine aw_met (own := RX12) (nm := "noughts") (L := [some (.ref 58), none, none, none]) (by decide +kernel) rfl rfl (And.intro rfl trivial) (Nat.le_of_ble_eq_true rfl) ?_
  unfold f_X12_noughts at hf
  refine aw_iconst (v := 0) dX12_noughts_0 (by decide) ?_
  refine aw_istore_n (L' := [some (.ref 58), some (.int (0 : Int32)), none, none]) dX12_noughts_1 rfl (by decide) rfl ?_
  refine aw_iconst (v := 0) dX12_noughts_2 (by decide) ?_
  refine aw_istore_n (L' := [some (.ref 58), some (.int (0 : Int32)), some (.int (0 : Int32)), none]) dX12_noughts_3 rfl (by decide) rfl ?_
  obtain ⟨b6, hb6, hf⟩ := ax_bind hf
  refine wh_go ((0 : Int32), (0 : Int32), s) (fun a4 : Int32 × Int32 × sx_M => AW l X RX12 "noughts" cX12_noughts 4 (some .int) (ax_rm 5 0 0) (ax_MQ X Q 0 0) 0 0 4 [some (.ref 58), some (.int a4.1), some (.int a4.2.1), none] [] (hp a4.2.2 gb)) (fun e : Int32 × sx_M => AW l X RX12 "noughts" cX12_noughts 4 (some .int) (ax_rm 5 0 0) (ax_MQ X Q 0 0) 0 0 64 [none, some (.int e.1), none, none] [] (hp e.2 gb)) hb6 ?_ ?_
  · intro a4 r hf hK
    unfold f_X12_noughts_L4 at hf
    refine aw_iload_n dX12_noughts_4 rfl rfl ?_
    refine aw_aload_n dX12_noughts_5 rfl rfl ?_
    obtain ⟨p1, hp1, hf⟩ := ax_bind hf
    refine aw_cVi (As := []) (st := [.int a4.2.1]) dX12_noughts_6 cl_X12_60 iv_X12_workers (k_X12_workers (Q := (fun v h' => v = some (.int p1.1) ∧ h' = hp p1.2 gb)) a4.2.2 gb hp1 ⟨rfl, rfl⟩) (ci := 12) rfl (hp_get sh_58) rfl rfl rfl (Nat.le_of_ble_eq_true rfl) rfl (by decide) (by decide) ?_
    refine aw_icmp_ge (tgt := 64) dX12_noughts_9 (by decide) (fun hc4 => ?_) (fun hc4 => ?_)
    · have hf := ax_pos hc4 hf
      refine aw_less (L' := [none, some (.int a4.1), none, none]) (And.intro rfl trivial) ?_
      cases hf
      exact hK
    · have hf := ax_neg hc4 hf
      refine aw_iconst (v := 0) dX12_noughts_12 (by decide) ?_
      refine aw_istore_n (L' := [some (.ref 58), some (.int a4.1), some (.int a4.2.1), some (.int (0 : Int32))]) dX12_noughts_13 rfl (by decide) rfl ?_
      obtain ⟨b5, hb5, hf⟩ := ax_bind hf
      refine wh_go (a4.1, (0 : Int32), p1.2) (fun a14 : Int32 × Int32 × sx_M => AW l X RX12 "noughts" cX12_noughts 4 (some .int) (ax_rm 5 0 0) (ax_MQ X Q 0 0) 0 0 14 [some (.ref 58), some (.int a14.1), some (.int a4.2.1), some (.int a14.2.1)] [] (hp a14.2.2 gb)) (fun e : Int32 × sx_M => AW l X RX12 "noughts" cX12_noughts 4 (some .int) (ax_rm 5 0 0) (ax_MQ X Q 0 0) 0 0 58 [some (.ref 58), some (.int e.1), some (.int a4.2.1), none] [] (hp e.2 gb)) hb5 ?_ ?_
      · intro a14 r hf hK
        unfold f_X12_noughts_L14 at hf
        have J50 : ∀ (y3_50 : Int32) (t0_50 : Int32) (t1_50 : Int32) (s_50 : sx_M), f_X12_noughts_L14_J50 a4.2.1 y3_50 t0_50 t1_50 s_50 = some r → AW l X RX12 "noughts" cX12_noughts 4 (some .int) (ax_rm 5 0 0) (ax_MQ X Q 0 0) 0 0 50 [some (.ref 58), none, some (.int a4.2.1), some (.int y3_50)] [.int t1_50, .int t0_50] (hp s_50 gb) := by
          intro y3_50 t0_50 t1_50 s_50 hf
          unfold f_X12_noughts_L14_J50 at hf
          refine aw_iadd dX12_noughts_50 ?_
          refine aw_istore_n (L' := [some (.ref 58), some (.int (t0_50 + t1_50)), some (.int a4.2.1), some (.int y3_50)]) dX12_noughts_51 rfl (by decide) rfl ?_
          refine aw_iinc (v := (y3_50 + (1 : Int32))) (L' := [some (.ref 58), some (.int (t0_50 + t1_50)), some (.int a4.2.1), some (.int (y3_50 + (1 : Int32)))]) dX12_noughts_52 rfl rfl (by decide) rfl ?_
          refine aw_goto (tgt := 14) dX12_noughts_55 (by decide) ?_
          cases hf
          exact hK
        refine aw_iload_n dX12_noughts_14 rfl rfl ?_
        refine aw_aload_n dX12_noughts_15 rfl rfl ?_
        obtain ⟨p2, hp2, hf⟩ := ax_bind hf
        refine aw_cVi (As := []) (st := [.int a14.2.1]) dX12_noughts_16 cl_X12_68 iv_X12_jobs (k_X12_jobs (Q := (fun v h' => v = some (.int p2.1) ∧ h' = hp p2.2 gb)) a14.2.2 gb hp2 ⟨rfl, rfl⟩) (ci := 12) rfl (hp_get sh_58) rfl rfl rfl (Nat.le_of_ble_eq_true rfl) rfl (by decide) (by decide) ?_
        refine aw_icmp_ge (tgt := 58) dX12_noughts_19 (by decide) (fun hc3 => ?_) (fun hc3 => ?_)
        · have hf := ax_pos hc3 hf
          refine aw_less (L' := [some (.ref 58), some (.int a14.1), some (.int a4.2.1), none]) (And.intro rfl (And.intro rfl (And.intro rfl trivial))) ?_
          cases hf
          exact hK
        · have hf := ax_neg hc3 hf
          refine aw_iload_n dX12_noughts_22 rfl rfl ?_
          refine aw_aload_n dX12_noughts_23 rfl rfl ?_
          refine aw_iload_n dX12_noughts_24 rfl rfl ?_
          refine aw_iload_n dX12_noughts_25 rfl rfl ?_
          obtain ⟨p3, hp3, hf⟩ := ax_bind hf
          refine aw_cVi (As := [.int a4.2.1, .int a14.2.1]) (st := [.int a14.1]) dX12_noughts_26 cl_X12_157 iv_X12_costOf (k_X12_costOf (Q := (fun v h' => v = some (.int p3.1) ∧ h' = hp p3.2 gb)) a4.2.1 a14.2.1 p2.2 gb hp3 ⟨rfl, rfl⟩) (ci := 12) rfl (hp_get sh_58) rfl rfl rfl (Nat.le_of_ble_eq_true rfl) rfl (by decide) (by decide) ?_
          refine aw_ldc dX12_noughts_29 kc_X12_131 ?_
          refine aw_icmp_eq (tgt := 49) dX12_noughts_31 (by decide) (fun hc2 => ?_) (fun hc2 => ?_)
          · have hf := ax_pos hc2 hf
            refine aw_iconst (v := 0) dX12_noughts_49 (by decide) ?_
            refine aw_less (L' := [some (.ref 58), none, some (.int a4.2.1), some (.int a14.2.1)]) (And.intro rfl (And.intro rfl (And.intro rfl trivial))) ?_
            exact J50 a14.2.1 a14.1 (0 : Int32) p3.2 hf
          · have hf := ax_neg hc2 hf
            refine aw_aload_n dX12_noughts_34 rfl rfl ?_
            refine aw_iload_n dX12_noughts_35 rfl rfl ?_
            refine aw_iload_n dX12_noughts_36 rfl rfl ?_
            obtain ⟨p4, hp4, hf⟩ := ax_bind hf
            refine aw_cVl (As := [.int a4.2.1, .int a14.2.1]) (st := [.int a14.1]) dX12_noughts_37 cl_X12_331 iv_X12_reducedOf (k_X12_reducedOf (Q := (fun v h' => v = some (.long p4.1) ∧ h' = hp p4.2 gb)) a4.2.1 a14.2.1 p3.2 gb hp4 ⟨rfl, rfl⟩) (ci := 12) rfl (hp_get sh_58) rfl rfl rfl (Nat.le_of_ble_eq_true rfl) rfl (by decide) (by decide) ?_
            refine aw_lconst (v := 0) dX12_noughts_40 (by decide) ?_
            refine aw_lcmp_ne (tgt := 49) dX12_noughts_41 dX12_noughts_42 (by decide) (fun hc1 => ?_) (fun hc1 => ?_)
            · have hf := ax_neg hc1 hf
              refine aw_iconst (v := 0) dX12_noughts_49 (by decide) ?_
              refine aw_less (L' := [some (.ref 58), none, some (.int a4.2.1), some (.int a14.2.1)]) (And.intro rfl (And.intro rfl (And.intro rfl trivial))) ?_
              exact J50 a14.2.1 a14.1 (0 : Int32) p4.2 hf
            · have hf := ax_pos hc1 hf
              refine aw_iconst (v := 1) dX12_noughts_45 (by decide) ?_
              refine aw_goto (tgt := 50) dX12_noughts_46 (by decide) ?_
              refine aw_less (L' := [some (.ref 58), none, some (.int a4.2.1), some (.int a14.2.1)]) (And.intro rfl (And.intro rfl (And.intro rfl trivial))) ?_
              exact J50 a14.2.1 a14.1 (1 : Int32) p4.2 hf
      · refine aw_iinc (v := (a4.2.1 + (1 : Int32))) (L' := [some (.ref 58), some (.int b5.1), some (.int (a4.2.1 + (1 : Int32))), none]) dX12_noughts_58 rfl rfl (by decide) rfl ?_
        refine aw_goto (tgt := 4) dX12_noughts_61 (by decide) ?_
        cases hf
        exact hK
  · refine aw_iload_n dX12_noughts_64 rfl rfl ?_
    cases hf
    exact aw_iret dX12_noughts_65 hq (Nat.le_refl _) (Nat.le_refl _)
noncomputable def f_X12_remembers_L2 (a2 : Int32 × sx_M) : Option ((Int32 × sx_M) ⊕ (sx_M)) :=
  (if (58 : Int32) ≤ a2.1 then
 some (.inr a2.2)
else
 (if ¬ (a2.1 < 0 ∨ 58 ≤ (a2.1).toNatClampNeg) then
 (if ¬ (a2.1 < 0 ∨ 58 ≤ (a2.1).toNatClampNeg) then
 some (.inl ((a2.1 + (1 : Int32)), (wA a2.2 70 (a2.1).toNatClampNeg (rA a2.2 59 (a2.1).toNatClampNeg))))
else none)
else none))
noncomputable def f_X12_remembers (s : sx_M) : Option sx_M :=
  (whT (f_X12_remembers_L2) ((0 : Int32), s)).bind (fun b1 =>
 some b1)
set_option maxRecDepth 100000 in
set_option maxHeartbeats 4000000 in
theorem k_X12_remembers {l : Launch} {X : ax_X} {Q : Option Value → ax_H → Prop} (s : sx_M) (gb : ax_H) {p : sx_M} (hf : f_X12_remembers s = some p) (hq : Q (none) (hp p gb)) : AM l X yX12_remembers cX12_remembers 2 none 0 0 0 [.ref 58] (hp s gb) Q := by
  refine aw_met (own := RX12) (nm := "remembers") (L := [some (.ref 58), none]) (by decide +kernel) rfl rfl (And.intro rfl trivial) (Nat.le_of_ble_eq_true rfl) ?_
  unfold f_X12_remembers at hf
  refine aw_iconst (v := 0) dX12_remembers_0 (by decide) ?_
  refine aw_istore_n (L' := [some (.ref 58), some (.int (0 : Int32))]) dX12_remembers_1 rfl (by decide) rfl ?_
  obtain ⟨b1, hb1, hf⟩ := ax_bind hf
  refine wh_go ((0 : Int32), s) (fun a2 : Int32 × sx_M => AW l X RX12 "remembers" cX12_remembers 2 none (ax_rm 0 0 0) (ax_MQ X Q 0 0) 0 0 2 [some (.ref 58), some (.int a2.1)] [] (hp a2.2 gb)) (fun e : sx_M => AW l X RX12 "remembers" cX12_remembers 2 none (ax_rm 0 0 0) (ax_MQ X Q 0 0) 0 0 26 [none, none] [] (hp e gb)) hb1 ?_ ?_
  · intro a2 r hf hK
    unfold f_X12_remembers_L2 at hf
    refine aw_iload_n dX12_remembers_2 rfl rfl ?_
    refine aw_bipush (v := 58) dX12_remembers_3 (by decide) ?_
    refine aw_icmp_ge (tgt := 26) dX12_remembers_5 (by decide) (fun hc3 => ?_) (fun hc3 => ?_)
    · have hf := ax_pos hc3 hf
      refine aw_less (L' := [none, none]) trivial ?_
      cases hf
      exact hK
    · have hf := ax_neg hc3 hf
      refine aw_aload_n dX12_remembers_8 rfl rfl ?_
      refine aw_gR dX12_remembers_9 fl_X12_53 sh_58 rfl ?_
      refine aw_iload_n dX12_remembers_12 rfl rfl ?_
      refine aw_aload_n dX12_remembers_13 rfl rfl ?_
      refine aw_gR dX12_remembers_14 fl_X12_11 sh_58 rfl ?_
      refine aw_iload_n dX12_remembers_17 rfl rfl ?_
      obtain ⟨hc1, hf⟩ := ax_ite hf
      refine aw_lA dX12_remembers_18 sh_59 hc1 ?_
      obtain ⟨hc2, hf⟩ := ax_ite hf
      refine aw_sA dX12_remembers_19 sh_70 hc2 ?_
      refine aw_iinc (v := (a2.1 + (1 : Int32))) (L' := [some (.ref 58), some (.int (a2.1 + (1 : Int32)))]) dX12_remembers_20 rfl rfl (by decide) rfl ?_
      refine aw_goto (tgt := 2) dX12_remembers_23 (by decide) ?_
      cases hf
      exact hK
  · cases hf
    exact aw_vret dX12_remembers_26 hq (Nat.le_refl _) (Nat.le_refl _)
noncomputable def f_X12_keeps_L98 (a98 : Int32 × sx_M) : Option ((Int32 × sx_M) ⊕ (sx_M)) :=
  (if (58 : Int32) ≤ a98.1 then
 some (.inr a98.2)
else
 (if ¬ (a98.1 < 0 ∨ 58 ≤ (a98.1).toNatClampNeg) then
 (if ¬ ((((58 : Int32) * (rI a98.2 58 2)) + a98.1) < 0 ∨ 580 ≤ ((((58 : Int32) * (rI a98.2 58 2)) + a98.1)).toNatClampNeg) then
 some (.inl ((a98.1 + (1 : Int32)), (wA a98.2 60 ((((58 : Int32) * (rI a98.2 58 2)) + a98.1)).toNatClampNeg (rA a98.2 70 (a98.1).toNatClampNeg))))
else none)
else none))
noncomputable def f_X12_keeps_J96 (s_96 : sx_M) : Option (Int32 × sx_M) :=
  (whT (f_X12_keeps_L98) ((0 : Int32), s_96)).bind (fun b1 =>
 some ((1 : Int32), (wI b1 58 2 ((rI b1 58 2) + (1 : Int32)))))
noncomputable def f_X12_keeps_L4_J29 (y2_29 : Int32) (s_29 : sx_M) : Option ((Int32 × Int32 × sx_M) ⊕ (Int32 × sx_M)) :=
  some (.inl ((1 : Int32), (y2_29 + (1 : Int32)), s_29))
noncomputable def f_X12_keeps_L4 (a4 : Int32 × Int32 × sx_M) : Option ((Int32 × Int32 × sx_M) ⊕ (Int32 × sx_M)) :=
  (if (58 : Int32) ≤ a4.2.1 then
 some (.inr (a4.1, a4.2.2))
else
 (if a4.1 = 0 then
 (if ¬ (a4.2.1 < 0 ∨ 58 ≤ (a4.2.1).toNatClampNeg) then
 (if ¬ (a4.2.1 < 0 ∨ 58 ≤ (a4.2.1).toNatClampNeg) then
 (if (rA a4.2.2 70 (a4.2.1).toNatClampNeg) = (rA a4.2.2 59 (a4.2.1).toNatClampNeg) then
 some (.inl ((0 : Int32), (a4.2.1 + (1 : Int32)), a4.2.2))
else
 f_X12_keeps_L4_J29 a4.2.1 a4.2.2)
else none)
else none)
else
 f_X12_keeps_L4_J29 a4.2.1 a4.2.2))
noncomputable def f_X12_keeps_L58 (a58 : Int32 × sx_M) : Option ((Int32 × sx_M) ⊕ (sx_M)) :=
  (if (522 : Int32) ≤ a58.1 then
 some (.inr a58.2)
else
 (if ¬ ((a58.1 + (58 : Int32)) < 0 ∨ 580 ≤ ((a58.1 + (58 : Int32))).toNatClampNeg) then
 (if ¬ (a58.1 < 0 ∨ 580 ≤ (a58.1).toNatClampNeg) then
 some (.inl ((a58.1 + (1 : Int32)), (wA a58.2 60 (a58.1).toNatClampNeg (rA a58.2 60 ((a58.1 + (58 : Int32))).toNatClampNeg))))
else none)
else none))
noncomputable def f_X12_keeps (s : sx_M) : Option (Int32 × sx_M) :=
  (whT (f_X12_keeps_L4) ((0 : Int32), (0 : Int32), s)).bind (fun b2 =>
 (if b2.1 = 0 then
 some ((0 : Int32), b2.2)
else
 (if (rI b2.2 58 2) = (10 : Int32) then
 (whT (f_X12_keeps_L58) ((0 : Int32), b2.2)).bind (fun b3 =>
 f_X12_keeps_J96 (wI b3 58 2 ((rI b3 58 2) - (1 : Int32))))
else
 f_X12_keeps_J96 b2.2)))
set_option maxRecDepth 100000 in
set_option maxHeartbeats 4000000 in
theorem k_X12_keeps {l : Launch} {X : ax_X} {Q : Option Value → ax_H → Prop} (s : sx_M) (gb : ax_H) {p : Int32 × sx_M} (hf : f_X12_keeps s = some p) (hq : Q (some (.int p.1)) (hp p.2 gb)) : AM l X yX12_keeps cX12_keeps 3 (some .boolean) 0 0 0 [.ref 58] (hp s gb) Q := by
  refine aw_met (own := RX12) (nm := "keeps") (L := [some (.ref 58), none, none]) (by decide +kernel) rfl rfl (And.intro rfl trivial) (Nat.le_of_ble_eq_true rfl) ?_
  unfold f_X12_keeps at hf
  have J96 : ∀ (s_96 : sx_M), f_X12_keeps_J96 s_96 = some p → AW l X RX12 "keeps" cX12_keeps 3 (some .boolean) (ax_rm 0 0 0) (ax_MQ X Q 0 0) 0 0 96 [some (.ref 58), none, none] [] (hp s_96 gb) := by
    intro s_96 hf
    unfold f_X12_keeps_J96 at hf
    refine aw_iconst (v := 0) dX12_keeps_96 (by decide) ?_
    refine aw_istore_n (L' := [some (.ref 58), none, some (.int (0 : Int32))]) dX12_keeps_97 rfl (by decide) rfl ?_
    obtain ⟨b1, hb1, hf⟩ := ax_bind hf
    refine wh_go ((0 : Int32), s_96) (fun a98 : Int32 × sx_M => AW l X RX12 "keeps" cX12_keeps 3 (some .boolean) (ax_rm 0 0 0) (ax_MQ X Q 0 0) 0 0 98 [some (.ref 58), none, some (.int a98.1)] [] (hp a98.2 gb)) (fun e : sx_M => AW l X RX12 "keeps" cX12_keeps 3 (some .boolean) (ax_rm 0 0 0) (ax_MQ X Q 0 0) 0 0 130 [some (.ref 58), none, none] [] (hp e gb)) hb1 ?_ ?_
    · intro a98 r hf hK
      unfold f_X12_keeps_L98 at hf
      refine aw_iload_n dX12_keeps_98 rfl rfl ?_
      refine aw_bipush (v := 58) dX12_keeps_99 (by decide) ?_
      refine aw_icmp_ge (tgt := 130) dX12_keeps_101 (by decide) (fun hc3 => ?_) (fun hc3 => ?_)
      · have hf := ax_pos hc3 hf
        refine aw_less (L' := [some (.ref 58), none, none]) (And.intro rfl trivial) ?_
        cases hf
        exact hK
      · have hf := ax_neg hc3 hf
        refine aw_aload_n dX12_keeps_104 rfl rfl ?_
        refine aw_gR dX12_keeps_105 fl_X12_17 sh_58 rfl ?_
        refine aw_bipush (v := 58) dX12_keeps_108 (by decide) ?_
        refine aw_aload_n dX12_keeps_110 rfl rfl ?_
        refine aw_gI dX12_keeps_111 fl_X12_147 sh_58 rfl ?_
        refine aw_imul dX12_keeps_114 ?_
        refine aw_iload_n dX12_keeps_115 rfl rfl ?_
        refine aw_iadd dX12_keeps_116 ?_
        refine aw_aload_n dX12_keeps_117 rfl rfl ?_
        refine aw_gR dX12_keeps_118 fl_X12_53 sh_58 rfl ?_
        refine aw_iload_n dX12_keeps_121 rfl rfl ?_
        obtain ⟨hc1, hf⟩ := ax_ite hf
        refine aw_lA dX12_keeps_122 sh_70 hc1 ?_
        obtain ⟨hc2, hf⟩ := ax_ite hf
        refine aw_sA dX12_keeps_123 sh_60 hc2 ?_
        refine aw_iinc (v := (a98.1 + (1 : Int32))) (L' := [some (.ref 58), none, some (.int (a98.1 + (1 : Int32)))]) dX12_keeps_124 rfl rfl (by decide) rfl ?_
        refine aw_goto (tgt := 98) dX12_keeps_127 (by decide) ?_
        cases hf
        exact hK
    · refine aw_aload_n dX12_keeps_130 rfl rfl ?_
      refine aw_dup dX12_keeps_131 rfl ?_
      refine aw_gI dX12_keeps_132 fl_X12_147 sh_58 rfl ?_
      refine aw_iconst (v := 1) dX12_keeps_135 (by decide) ?_
      refine aw_iadd dX12_keeps_136 ?_
      refine aw_pI dX12_keeps_137 fp_X12_147 sh_58 rfl rfl rfl ?_
      refine aw_iconst (v := 1) dX12_keeps_140 (by decide) ?_
      cases hf
      exact aw_zret dX12_keeps_141 (by decide) hq (Nat.le_refl _) (Nat.le_refl _)
  refine aw_iconst (v := 0) dX12_keeps_0 (by decide) ?_
  refine aw_istore_n (L' := [some (.ref 58), some (.int (0 : Int32)), none]) dX12_keeps_1 rfl (by decide) rfl ?_
  refine aw_iconst (v := 0) dX12_keeps_2 (by decide) ?_
  refine aw_istore_n (L' := [some (.ref 58), some (.int (0 : Int32)), some (.int (0 : Int32))]) dX12_keeps_3 rfl (by decide) rfl ?_
  obtain ⟨b2, hb2, hf⟩ := ax_bind hf
  refine wh_go ((0 : Int32), (0 : Int32), s) (fun a4 : Int32 × Int32 × sx_M => AW l X RX12 "keeps" cX12_keeps 3 (some .boolean) (ax_rm 0 0 0) (ax_MQ X Q 0 0) 0 0 4 [some (.ref 58), some (.int a4.1), some (.int a4.2.1)] [] (hp a4.2.2 gb)) (fun e : Int32 × sx_M => AW l X RX12 "keeps" cX12_keeps 3 (some .boolean) (ax_rm 0 0 0) (ax_MQ X Q 0 0) 0 0 41 [some (.ref 58), some (.int e.1), none] [] (hp e.2 gb)) hb2 ?_ ?_
  · intro a4 r hf hK
    unfold f_X12_keeps_L4 at hf
    have J29 : ∀ (y2_29 : Int32) (s_29 : sx_M), f_X12_keeps_L4_J29 y2_29 s_29 = some r → AW l X RX12 "keeps" cX12_keeps 3 (some .boolean) (ax_rm 0 0 0) (ax_MQ X Q 0 0) 0 0 29 [some (.ref 58), none, some (.int y2_29)] [] (hp s_29 gb) := by
      intro y2_29 s_29 hf
      unfold f_X12_keeps_L4_J29 at hf
      refine aw_iconst (v := 1) dX12_keeps_29 (by decide) ?_
      refine aw_goto (tgt := 34) dX12_keeps_30 (by decide) ?_
      refine aw_istore_n (L' := [some (.ref 58), some (.int (1 : Int32)), some (.int y2_29)]) dX12_keeps_34 rfl (by decide) rfl ?_
      refine aw_iinc (v := (y2_29 + (1 : Int32))) (L' := [some (.ref 58), some (.int (1 : Int32)), some (.int (y2_29 + (1 : Int32)))]) dX12_keeps_35 rfl rfl (by decide) rfl ?_
      refine aw_goto (tgt := 4) dX12_keeps_38 (by decide) ?_
      cases hf
      exact hK
    refine aw_iload_n dX12_keeps_4 rfl rfl ?_
    refine aw_bipush (v := 58) dX12_keeps_5 (by decide) ?_
    refine aw_icmp_ge (tgt := 41) dX12_keeps_7 (by decide) (fun hc8 => ?_) (fun hc8 => ?_)
    · have hf := ax_pos hc8 hf
      refine aw_less (L' := [some (.ref 58), some (.int a4.1), none]) (And.intro rfl (And.intro rfl trivial)) ?_
      cases hf
      exact hK
    · have hf := ax_neg hc8 hf
      refine aw_iload_n dX12_keeps_10 rfl rfl ?_
      refine aw_if_ne (tgt := 29) dX12_keeps_11 (by decide) (fun hc7 => ?_) (fun hc7 => ?_)
      · have hf := ax_neg hc7 hf
        refine aw_less (L' := [some (.ref 58), none, some (.int a4.2.1)]) (And.intro rfl (And.intro rfl trivial)) ?_
        exact J29 a4.2.1 a4.2.2 hf
      · have hf := ax_pos hc7 hf
        refine aw_aload_n dX12_keeps_14 rfl rfl ?_
        refine aw_gR dX12_keeps_15 fl_X12_53 sh_58 rfl ?_
        refine aw_iload_n dX12_keeps_18 rfl rfl ?_
        obtain ⟨hc4, hf⟩ := ax_ite hf
        refine aw_lA dX12_keeps_19 sh_70 hc4 ?_
        refine aw_aload_n dX12_keeps_20 rfl rfl ?_
        refine aw_gR dX12_keeps_21 fl_X12_11 sh_58 rfl ?_
        refine aw_iload_n dX12_keeps_24 rfl rfl ?_
        obtain ⟨hc5, hf⟩ := ax_ite hf
        refine aw_lA dX12_keeps_25 sh_59 hc5 ?_
        refine aw_icmp_eq (tgt := 33) dX12_keeps_26 (by decide) (fun hc6 => ?_) (fun hc6 => ?_)
        · have hf := ax_pos hc6 hf
          refine aw_iconst (v := 0) dX12_keeps_33 (by decide) ?_
          refine aw_istore_n (L' := [some (.ref 58), some (.int (0 : Int32)), some (.int a4.2.1)]) dX12_keeps_34 rfl (by decide) rfl ?_
          refine aw_iinc (v := (a4.2.1 + (1 : Int32))) (L' := [some (.ref 58), some (.int (0 : Int32)), some (.int (a4.2.1 + (1 : Int32)))]) dX12_keeps_35 rfl rfl (by decide) rfl ?_
          refine aw_goto (tgt := 4) dX12_keeps_38 (by decide) ?_
          cases hf
          exact hK
        · have hf := ax_neg hc6 hf
          refine aw_less (L' := [some (.ref 58), none, some (.int a4.2.1)]) (And.intro rfl (And.intro rfl trivial)) ?_
          exact J29 a4.2.1 a4.2.2 hf
  · refine aw_iload_n dX12_keeps_41 rfl rfl ?_
    refine aw_if_ne (tgt := 47) dX12_keeps_42 (by decide) (fun hc13 => ?_) (fun hc13 => ?_)
    · have hf := ax_neg hc13 hf
      refine aw_aload_n dX12_keeps_47 rfl rfl ?_
      refine aw_gI dX12_keeps_48 fl_X12_147 sh_58 rfl ?_
      refine aw_bipush (v := 10) dX12_keeps_51 (by decide) ?_
      refine aw_icmp_ne (tgt := 96) dX12_keeps_53 (by decide) (fun hc12 => ?_) (fun hc12 => ?_)
      · have hf := ax_neg hc12 hf
        refine aw_less (L' := [some (.ref 58), none, none]) (And.intro rfl trivial) ?_
        exact J96 b2.2 hf
      · have hf := ax_pos hc12 hf
        refine aw_iconst (v := 0) dX12_keeps_56 (by decide) ?_
        refine aw_istore_n (L' := [some (.ref 58), some (.int b2.1), some (.int (0 : Int32))]) dX12_keeps_57 rfl (by decide) rfl ?_
        refine aw_less (L' := [some (.ref 58), none, some (.int (0 : Int32))]) (And.intro rfl (And.intro rfl trivial)) ?_
        obtain ⟨b3, hb3, hf⟩ := ax_bind hf
        refine wh_go ((0 : Int32), b2.2) (fun a58 : Int32 × sx_M => AW l X RX12 "keeps" cX12_keeps 3 (some .boolean) (ax_rm 0 0 0) (ax_MQ X Q 0 0) 0 0 58 [some (.ref 58), none, some (.int a58.1)] [] (hp a58.2 gb)) (fun e : sx_M => AW l X RX12 "keeps" cX12_keeps 3 (some .boolean) (ax_rm 0 0 0) (ax_MQ X Q 0 0) 0 0 86 [some (.ref 58), none, none] [] (hp e gb)) hb3 ?_ ?_
        · intro a58 r hf hK
          unfold f_X12_keeps_L58 at hf
          refine aw_iload_n dX12_keeps_58 rfl rfl ?_
          refine aw_sipush (v := 522) dX12_keeps_59 (by decide) ?_
          refine aw_icmp_ge (tgt := 86) dX12_keeps_62 (by decide) (fun hc11 => ?_) (fun hc11 => ?_)
          · have hf := ax_pos hc11 hf
            refine aw_less (L' := [some (.ref 58), none, none]) (And.intro rfl trivial) ?_
            cases hf
            exact hK
          · have hf := ax_neg hc11 hf
            refine aw_aload_n dX12_keeps_65 rfl rfl ?_
            refine aw_gR dX12_keeps_66 fl_X12_17 sh_58 rfl ?_
            refine aw_iload_n dX12_keeps_69 rfl rfl ?_
            refine aw_aload_n dX12_keeps_70 rfl rfl ?_
            refine aw_gR dX12_keeps_71 fl_X12_17 sh_58 rfl ?_
            refine aw_iload_n dX12_keeps_74 rfl rfl ?_
            refine aw_bipush (v := 58) dX12_keeps_75 (by decide) ?_
            refine aw_iadd dX12_keeps_77 ?_
            obtain ⟨hc9, hf⟩ := ax_ite hf
            refine aw_lA dX12_keeps_78 sh_60 hc9 ?_
            obtain ⟨hc10, hf⟩ := ax_ite hf
            refine aw_sA dX12_keeps_79 sh_60 hc10 ?_
            refine aw_iinc (v := (a58.1 + (1 : Int32))) (L' := [some (.ref 58), none, some (.int (a58.1 + (1 : Int32)))]) dX12_keeps_80 rfl rfl (by decide) rfl ?_
            refine aw_goto (tgt := 58) dX12_keeps_83 (by decide) ?_
            cases hf
            exact hK
        · refine aw_aload_n dX12_keeps_86 rfl rfl ?_
          refine aw_dup dX12_keeps_87 rfl ?_
          refine aw_gI dX12_keeps_88 fl_X12_147 sh_58 rfl ?_
          refine aw_iconst (v := 1) dX12_keeps_91 (by decide) ?_
          refine aw_isub dX12_keeps_92 ?_
          refine aw_pI dX12_keeps_93 fp_X12_147 sh_58 rfl rfl rfl ?_
          exact J96 (wI b3 58 2 ((rI b3 58 2) - (1 : Int32))) hf
    · have hf := ax_pos hc13 hf
      refine aw_iconst (v := 0) dX12_keeps_45 (by decide) ?_
      cases hf
      exact aw_zret dX12_keeps_46 (by decide) hq (Nat.le_refl _) (Nat.le_refl _)
noncomputable def f_X12_becomes (x1 : Int32) (x2 : Int32) (x3 : Int32) (s : sx_M) : Option (Int32 × sx_M) :=
  (f_X12_remembers s).bind (fun p1 =>
 (f_X12_placeOf x1 x2 p1).bind (fun p2 =>
 (if ¬ (p2.1 < 0 ∨ 58 ≤ (p2.1).toNatClampNeg) then
 (f_X12_keeps (wA p2.2 59 (p2.1).toNatClampNeg x3)).bind (fun p3 =>
 (if p3.1 = 0 then
 some ((0 : Int32), p3.2)
else
 some ((1 : Int32), p3.2)))
else none)))
set_option maxRecDepth 100000 in
set_option maxHeartbeats 4000000 in
theorem k_X12_becomes {l : Launch} {X : ax_X} {Q : Option Value → ax_H → Prop} (x1 : Int32) (x2 : Int32) (x3 : Int32) (s : sx_M) (gb : ax_H) {p : Int32 × sx_M} (hf : f_X12_becomes x1 x2 x3 s = some p) (hq : Q (some (.int p.1)) (hp p.2 gb)) : AM l X yX12_becomes cX12_becomes 4 (some .int) 1 0 0 [.ref 58, .int x1, .int x2, .int x3] (hp s gb) Q := by
  refine aw_met (own := RX12) (nm := "becomes") (L := [some (.ref 58), some (.int x1), some (.int x2), some (.int x3)]) (by decide +kernel) rfl rfl (And.intro rfl (And.intro rfl (And.intro rfl (And.intro rfl trivial)))) (Nat.le_of_ble_eq_true rfl) ?_
  unfold f_X12_becomes at hf
  refine aw_aload_n dX12_becomes_0 rfl rfl ?_
  obtain ⟨p1, hp1, hf⟩ := ax_bind hf
  refine aw_cVv (As := []) (st := []) dX12_becomes_1 cl_X12_334 iv_X12_remembers (k_X12_remembers (Q := (fun v h' => v = none ∧ h' = hp p1 gb)) s gb hp1 ⟨rfl, rfl⟩) (ci := 12) rfl (hp_get sh_58) rfl rfl rfl (Nat.le_of_ble_eq_true rfl) rfl (by decide) (by decide) ?_
  refine aw_aload_n dX12_becomes_4 rfl rfl ?_
  refine aw_gR dX12_becomes_5 fl_X12_11 sh_58 rfl ?_
  refine aw_iload_n dX12_becomes_8 rfl rfl ?_
  refine aw_iload_n dX12_becomes_9 rfl rfl ?_
  obtain ⟨p2, hp2, hf⟩ := ax_bind hf
  refine aw_cSi (As := [.int x1, .int x2]) (st := [.ref 59]) dX12_becomes_10 cl_X12_56 st_X12_placeOf (k_X12_placeOf (Q := (fun v h' => v = some (.int p2.1) ∧ h' = hp p2.2 gb)) x1 x2 p1 gb hp2 ⟨rfl, rfl⟩) rfl rfl (Nat.le_of_ble_eq_true rfl) rfl (by decide) (by decide) ?_
  refine aw_iload_n dX12_becomes_13 rfl rfl ?_
  obtain ⟨hc1, hf⟩ := ax_ite hf
  refine aw_sA dX12_becomes_14 sh_59 hc1 ?_
  refine aw_aload_n dX12_becomes_15 rfl rfl ?_
  obtain ⟨p3, hp3, hf⟩ := ax_bind hf
  refine aw_cVi (As := []) (st := []) dX12_becomes_16 cl_X12_337 iv_X12_keeps (k_X12_keeps (Q := (fun v h' => v = some (.int p3.1) ∧ h' = hp p3.2 gb)) (wA p2.2 59 (p2.1).toNatClampNeg x3) gb hp3 ⟨rfl, rfl⟩) (ci := 12) rfl (hp_get sh_58) rfl rfl rfl (Nat.le_of_ble_eq_true rfl) rfl (by decide) (by decide) ?_
  refine aw_if_eq (tgt := 26) dX12_becomes_19 (by decide) (fun hc2 => ?_) (fun hc2 => ?_)
  · have hf := ax_pos hc2 hf
    refine aw_iconst (v := 0) dX12_becomes_26 (by decide) ?_
    cases hf
    exact aw_iret dX12_becomes_27 hq (Nat.le_refl _) (Nat.le_refl _)
  · have hf := ax_neg hc2 hf
    refine aw_iconst (v := 1) dX12_becomes_22 (by decide) ?_
    refine aw_goto (tgt := 27) dX12_becomes_23 (by decide) ?_
    cases hf
    exact aw_iret dX12_becomes_27 hq (Nat.le_refl _) (Nat.le_refl _)
noncomputable def f_X12_sets (x1 : Int32) (x2 : Int32) (x3 : Int32) (s : sx_M) : Option (Int32 × sx_M) :=
  (f_X12_isWorker x1 s).bind (fun p1 =>
 (if p1.1 = 0 then
 some ((-2 : Int32), p1.2)
else
 (f_X12_isJob x2 p1.2).bind (fun p2 =>
 (if p2.1 = 0 then
 some ((-2 : Int32), p2.2)
else
 (f_X12_isCost ((x3).toInt64) p2.2).bind (fun p3 =>
 (if p3.1 = 0 then
 some ((-2 : Int32), p3.2)
else
 (f_X12_becomes x1 x2 x3 p3.2).bind (fun p4 =>
 some (p4.1, p4.2))))))))
set_option maxRecDepth 100000 in
set_option maxHeartbeats 4000000 in
theorem k_X12_sets {l : Launch} {X : ax_X} {Q : Option Value → ax_H → Prop} (x1 : Int32) (x2 : Int32) (x3 : Int32) (s : sx_M) (gb : ax_H) {p : Int32 × sx_M} (hf : f_X12_sets x1 x2 x3 s = some p) (hq : Q (some (.int p.1)) (hp p.2 gb)) : AM l X yX12_sets cX12_sets 4 (some .int) 2 0 0 [.ref 58, .int x1, .int x2, .int x3] (hp s gb) Q := by
  refine aw_met (own := RX12) (nm := "sets") (L := [some (.ref 58), some (.int x1), some (.int x2), some (.int x3)]) (by decide +kernel) rfl rfl (And.intro rfl (And.intro rfl (And.intro rfl (And.intro rfl trivial)))) (Nat.le_of_ble_eq_true rfl) ?_
  unfold f_X12_sets at hf
  refine aw_aload_n dX12_sets_0 rfl rfl ?_
  refine aw_iload_n dX12_sets_1 rfl rfl ?_
  obtain ⟨p1, hp1, hf⟩ := ax_bind hf
  refine aw_cVi (As := [.int x1]) (st := []) dX12_sets_2 cl_X12_187 iv_X12_isWorker (k_X12_isWorker (Q := (fun v h' => v = some (.int p1.1) ∧ h' = hp p1.2 gb)) x1 s gb hp1 ⟨rfl, rfl⟩) (ci := 12) rfl (hp_get sh_58) rfl rfl rfl (Nat.le_of_ble_eq_true rfl) rfl (by decide) (by decide) ?_
  refine aw_if_eq (tgt := 34) dX12_sets_5 (by decide) (fun hc3 => ?_) (fun hc3 => ?_)
  · have hf := ax_pos hc3 hf
    refine aw_bipush (v := -2) dX12_sets_34 (by decide) ?_
    cases hf
    exact aw_iret dX12_sets_36 hq (Nat.le_refl _) (Nat.le_refl _)
  · have hf := ax_neg hc3 hf
    refine aw_aload_n dX12_sets_8 rfl rfl ?_
    refine aw_iload_n dX12_sets_9 rfl rfl ?_
    obtain ⟨p2, hp2, hf⟩ := ax_bind hf
    refine aw_cVi (As := [.int x2]) (st := []) dX12_sets_10 cl_X12_190 iv_X12_isJob (k_X12_isJob (Q := (fun v h' => v = some (.int p2.1) ∧ h' = hp p2.2 gb)) x2 p1.2 gb hp2 ⟨rfl, rfl⟩) (ci := 12) rfl (hp_get sh_58) rfl rfl rfl (Nat.le_of_ble_eq_true rfl) rfl (by decide) (by decide) ?_
    refine aw_if_eq (tgt := 34) dX12_sets_13 (by decide) (fun hc2 => ?_) (fun hc2 => ?_)
    · have hf := ax_pos hc2 hf
      refine aw_bipush (v := -2) dX12_sets_34 (by decide) ?_
      cases hf
      exact aw_iret dX12_sets_36 hq (Nat.le_refl _) (Nat.le_refl _)
    · have hf := ax_neg hc2 hf
      refine aw_iload_n dX12_sets_16 rfl rfl ?_
      refine aw_i2l dX12_sets_17 ?_
      obtain ⟨p3, hp3, hf⟩ := ax_bind hf
      refine aw_cSi (As := [.long ((x3).toInt64)]) (st := []) dX12_sets_18 cl_X12_215 st_X12_isCost (k_X12_isCost (Q := (fun v h' => v = some (.int p3.1) ∧ h' = hp p3.2 gb)) ((x3).toInt64) p2.2 gb hp3 ⟨rfl, rfl⟩) rfl rfl (Nat.le_of_ble_eq_true rfl) rfl (by decide) (by decide) ?_
      refine aw_if_eq (tgt := 34) dX12_sets_21 (by decide) (fun hc1 => ?_) (fun hc1 => ?_)
      · have hf := ax_pos hc1 hf
        refine aw_bipush (v := -2) dX12_sets_34 (by decide) ?_
        cases hf
        exact aw_iret dX12_sets_36 hq (Nat.le_refl _) (Nat.le_refl _)
      · have hf := ax_neg hc1 hf
        refine aw_aload_n dX12_sets_24 rfl rfl ?_
        refine aw_iload_n dX12_sets_25 rfl rfl ?_
        refine aw_iload_n dX12_sets_26 rfl rfl ?_
        refine aw_iload_n dX12_sets_27 rfl rfl ?_
        obtain ⟨p4, hp4, hf⟩ := ax_bind hf
        refine aw_cVi (As := [.int x1, .int x2, .int x3]) (st := []) dX12_sets_28 cl_X12_340 iv_X12_becomes (k_X12_becomes (Q := (fun v h' => v = some (.int p4.1) ∧ h' = hp p4.2 gb)) x1 x2 x3 p3.2 gb hp4 ⟨rfl, rfl⟩) (ci := 12) rfl (hp_get sh_58) rfl rfl rfl (Nat.le_of_ble_eq_true rfl) rfl (by decide) (by decide) ?_
        refine aw_goto (tgt := 36) dX12_sets_31 (by decide) ?_
        cases hf
        exact aw_iret dX12_sets_36 hq (Nat.le_refl _) (Nat.le_refl _)
noncomputable def f_X12_bars (x1 : Int32) (x2 : Int32) (s : sx_M) : Option (Int32 × sx_M) :=
  (f_X12_isWorker x1 s).bind (fun p1 =>
 (if p1.1 = 0 then
 some ((-2 : Int32), p1.2)
else
 (f_X12_isJob x2 p1.2).bind (fun p2 =>
 (if p2.1 = 0 then
 some ((-2 : Int32), p2.2)
else
 (f_X12_becomes x1 x2 (2147483647 : Int32) p2.2).bind (fun p3 =>
 some (p3.1, p3.2))))))
set_option maxRecDepth 100000 in
set_option maxHeartbeats 4000000 in
theorem k_X12_bars {l : Launch} {X : ax_X} {Q : Option Value → ax_H → Prop} (x1 : Int32) (x2 : Int32) (s : sx_M) (gb : ax_H) {p : Int32 × sx_M} (hf : f_X12_bars x1 x2 s = some p) (hq : Q (some (.int p.1)) (hp p.2 gb)) : AM l X yX12_bars cX12_bars 3 (some .int) 2 0 0 [.ref 58, .int x1, .int x2] (hp s gb) Q := by
  refine aw_met (own := RX12) (nm := "bars") (L := [some (.ref 58), some (.int x1), some (.int x2)]) (by decide +kernel) rfl rfl (And.intro rfl (And.intro rfl (And.intro rfl trivial))) (Nat.le_of_ble_eq_true rfl) ?_
  unfold f_X12_bars at hf
  refine aw_aload_n dX12_bars_0 rfl rfl ?_
  refine aw_iload_n dX12_bars_1 rfl rfl ?_
  obtain ⟨p1, hp1, hf⟩ := ax_bind hf
  refine aw_cVi (As := [.int x1]) (st := []) dX12_bars_2 cl_X12_187 iv_X12_isWorker (k_X12_isWorker (Q := (fun v h' => v = some (.int p1.1) ∧ h' = hp p1.2 gb)) x1 s gb hp1 ⟨rfl, rfl⟩) (ci := 12) rfl (hp_get sh_58) rfl rfl rfl (Nat.le_of_ble_eq_true rfl) rfl (by decide) (by decide) ?_
  refine aw_if_eq (tgt := 27) dX12_bars_5 (by decide) (fun hc2 => ?_) (fun hc2 => ?_)
  · have hf := ax_pos hc2 hf
    refine aw_bipush (v := -2) dX12_bars_27 (by decide) ?_
    cases hf
    exact aw_iret dX12_bars_29 hq (Nat.le_refl _) (Nat.le_refl _)
  · have hf := ax_neg hc2 hf
    refine aw_aload_n dX12_bars_8 rfl rfl ?_
    refine aw_iload_n dX12_bars_9 rfl rfl ?_
    obtain ⟨p2, hp2, hf⟩ := ax_bind hf
    refine aw_cVi (As := [.int x2]) (st := []) dX12_bars_10 cl_X12_190 iv_X12_isJob (k_X12_isJob (Q := (fun v h' => v = some (.int p2.1) ∧ h' = hp p2.2 gb)) x2 p1.2 gb hp2 ⟨rfl, rfl⟩) (ci := 12) rfl (hp_get sh_58) rfl rfl rfl (Nat.le_of_ble_eq_true rfl) rfl (by decide) (by decide) ?_
    refine aw_if_eq (tgt := 27) dX12_bars_13 (by decide) (fun hc1 => ?_) (fun hc1 => ?_)
    · have hf := ax_pos hc1 hf
      refine aw_bipush (v := -2) dX12_bars_27 (by decide) ?_
      cases hf
      exact aw_iret dX12_bars_29 hq (Nat.le_refl _) (Nat.le_refl _)
    · have hf := ax_neg hc1 hf
      refine aw_aload_n dX12_bars_16 rfl rfl ?_
      refine aw_iload_n dX12_bars_17 rfl rfl ?_
      refine aw_iload_n dX12_bars_18 rfl rfl ?_
      refine aw_ldc dX12_bars_19 kc_X12_131 ?_
      obtain ⟨p3, hp3, hf⟩ := ax_bind hf
      refine aw_cVi (As := [.int x1, .int x2, .int (2147483647 : Int32)]) (st := []) dX12_bars_21 cl_X12_340 iv_X12_becomes (k_X12_becomes (Q := (fun v h' => v = some (.int p3.1) ∧ h' = hp p3.2 gb)) x1 x2 (2147483647 : Int32) p2.2 gb hp3 ⟨rfl, rfl⟩) (ci := 12) rfl (hp_get sh_58) rfl rfl rfl (Nat.le_of_ble_eq_true rfl) rfl (by decide) (by decide) ?_
      refine aw_goto (tgt := 29) dX12_bars_24 (by decide) ?_
      cases hf
      exact aw_iret dX12_bars_29 hq (Nat.le_refl _) (Nat.le_refl _)
noncomputable def f_X12_tilts_L60_J88 (z1 : Int32) (z2 : Int32) (z3 : Int32) (z5 : Int32) (y6_88 : Int32) (t0_88 : Int32) (s_88 : sx_M) : Option ((Int32 × sx_M) ⊕ ((sx_M) ⊕ (Int32 × sx_M))) :=
  (if t0_88 = (2147483647 : Int32) then
 some (.inl ((y6_88 + (1 : Int32)), s_88))
else
 (f_X12_isCost ((t0_88).toInt64 + (z2).toInt64) s_88).bind (fun p1 =>
 (if p1.1 = 0 then
 some (.inr (.inr (((-5 : Int32), p1.2))))
else
 some (.inl ((y6_88 + (1 : Int32)), p1.2)))))
noncomputable def f_X12_tilts_L60 (z1 : Int32) (z2 : Int32) (z3 : Int32) (z5 : Int32) (a60 : Int32 × sx_M) : Option ((Int32 × sx_M) ⊕ ((sx_M) ⊕ (Int32 × sx_M))) :=
  (if z5 ≤ a60.1 then
 some (.inr (.inl a60.2))
else
 (if z3 = 0 then
 (f_X12_costOf z1 a60.1 a60.2).bind (fun p3 =>
 f_X12_tilts_L60_J88 z1 z2 z3 z5 a60.1 p3.1 p3.2)
else
 (f_X12_costOf a60.1 z1 a60.2).bind (fun p2 =>
 f_X12_tilts_L60_J88 z1 z2 z3 z5 a60.1 p2.1 p2.2)))
noncomputable def f_X12_tilts_L128_J154 (z1 : Int32) (z2 : Int32) (z3 : Int32) (z5 : Int32) (y6_154 : Int32) (y7_154 : Int32) (t0_154 : Int32) (s_154 : sx_M) : Option ((Int32 × Int32 × sx_M) ⊕ (Int32 × sx_M)) :=
  (if ¬ (t0_154 < 0 ∨ 58 ≤ (t0_154).toNatClampNeg) then
 (if (rA s_154 59 (t0_154).toNatClampNeg) = (2147483647 : Int32) then
 some (.inl (y6_154, (y7_154 + (1 : Int32)), s_154))
else
 (if ¬ (t0_154 < 0 ∨ 58 ≤ (t0_154).toNatClampNeg) then
 (if ¬ (t0_154 < 0 ∨ 58 ≤ (t0_154).toNatClampNeg) then
 some (.inl ((y6_154 + (1 : Int32)), (y7_154 + (1 : Int32)), (wA s_154 59 (t0_154).toNatClampNeg ((rA s_154 59 (t0_154).toNatClampNeg) + z2))))
else none)
else none))
else none)
noncomputable def f_X12_tilts_L128 (z1 : Int32) (z2 : Int32) (z3 : Int32) (z5 : Int32) (a128 : Int32 × Int32 × sx_M) : Option ((Int32 × Int32 × sx_M) ⊕ (Int32 × sx_M)) :=
  (if z5 ≤ a128.2.1 then
 some (.inr (a128.1, a128.2.2))
else
 (if z3 = 0 then
 (f_X12_placeOf z1 a128.2.1 a128.2.2).bind (fun p8 =>
 f_X12_tilts_L128_J154 z1 z2 z3 z5 a128.1 a128.2.1 p8.1 p8.2)
else
 (f_X12_placeOf a128.2.1 z1 a128.2.2).bind (fun p7 =>
 f_X12_tilts_L128_J154 z1 z2 z3 z5 a128.1 a128.2.1 p7.1 p7.2)))
noncomputable def f_X12_tilts_J55 (y1_55 : Int32) (y2_55 : Int32) (y3_55 : Int32) (t0_55 : Int32) (s_55 : sx_M) : Option (Int32 × sx_M) :=
  (whT (f_X12_tilts_L60 y1_55 y2_55 y3_55 t0_55) ((0 : Int32), s_55)).bind (fun b4 => (Sum.elim (fun e5 =>
 (f_X12_remembers e5).bind (fun p6 =>
 (whT (f_X12_tilts_L128 y1_55 y2_55 y3_55 t0_55) ((0 : Int32), (0 : Int32), p6)).bind (fun b9 =>
 (f_X12_keeps b9.2).bind (fun p10 =>
 some (b9.1, p10.2))))) (fun e11 =>
 some e11)) b4)
noncomputable def f_X12_tilts_J30 (y1_30 : Int32) (y2_30 : Int32) (y3_30 : Int32) (t0_30 : Int32) (s_30 : sx_M) : Option (Int32 × sx_M) :=
  (if t0_30 = 0 then
 some ((-2 : Int32), s_30)
else
 (if y3_30 = 0 then
 (f_X12_jobs s_30).bind (fun p13 =>
 f_X12_tilts_J55 y1_30 y2_30 y3_30 p13.1 p13.2)
else
 (f_X12_workers s_30).bind (fun p12 =>
 f_X12_tilts_J55 y1_30 y2_30 y3_30 p12.1 p12.2)))
noncomputable def f_X12_tilts_J12 (y1_12 : Int32) (y2_12 : Int32) (y3_12 : Int32) (s_12 : sx_M) : Option (Int32 × sx_M) :=
  (if y3_12 = (1 : Int32) then
 (f_X12_isJob y1_12 s_12).bind (fun p14 =>
 (if p14.1 = 0 then
 f_X12_tilts_J30 y1_12 y2_12 y3_12 (0 : Int32) p14.2
else
 f_X12_tilts_J30 y1_12 y2_12 y3_12 (1 : Int32) p14.2))
else
 f_X12_tilts_J30 y1_12 y2_12 y3_12 (0 : Int32) s_12)
noncomputable def f_X12_tilts (x1 : Int32) (x2 : Int32) (x3 : Int32) (s : sx_M) : Option (Int32 × sx_M) :=
  (if x3 = 0 then
 (f_X12_isWorker x1 s).bind (fun p15 =>
 (if p15.1 = 0 then
 f_X12_tilts_J12 x1 x2 x3 p15.2
else
 f_X12_tilts_J30 x1 x2 x3 (1 : Int32) p15.2))
else
 f_X12_tilts_J12 x1 x2 x3 s)
set_option maxRecDepth 100000 in
set_option maxHeartbeats 4000000 in
theorem k_X12_tilts {l : Launch} {X : ax_X} {Q : Option Value → ax_H → Prop} (x1 : Int32) (x2 : Int32) (x3 : Int32) (s : sx_M) (gb : ax_H) {p : Int32 × sx_M} (hf : f_X12_tilts x1 x2 x3 s = some p) (hq : Q (some (.int p.1)) (hp p.2 gb)) : AM l X yX12_tilts cX12_tilts 9 (some .int) 2 0 0 [.ref 58, .int x1, .int x2, .int x3] (hp s gb) Q := by
  refine aw_met (own := RX12) (nm := "tilts") (L := [some (.ref 58), some (.int x1), some (.int x2), some (.int x3), none, none, none, none, none]) (by decide +kernel) rfl rfl (And.intro rfl (And.intro rfl (And.intro rfl (And.intro rfl trivial)))) (Nat.le_of_ble_eq_true rfl) ?_
  unfold f_X12_tilts at hf
  have J55 : ∀ (y1_55 : Int32) (y2_55 : Int32) (y3_55 : Int32) (t0_55 : Int32) (s_55 : sx_M), f_X12_tilts_J55 y1_55 y2_55 y3_55 t0_55 s_55 = some p → AW l X RX12 "tilts" cX12_tilts 9 (some .int) (ax_rm 2 0 0) (ax_MQ X Q 0 0) 0 0 55 [some (.ref 58), some (.int y1_55), some (.int y2_55), some (.int y3_55), none, none, none, none, none] [.int t0_55] (hp s_55 gb) := by
    intro y1_55 y2_55 y3_55 t0_55 s_55 hf
    unfold f_X12_tilts_J55 at hf
    refine aw_istore (L' := [some (.ref 58), some (.int y1_55), some (.int y2_55), some (.int y3_55), none, some (.int t0_55), none, none, none]) dX12_tilts_55 (by decide) rfl ?_
    refine aw_iconst (v := 0) dX12_tilts_57 (by decide) ?_
    refine aw_istore (L' := [some (.ref 58), some (.int y1_55), some (.int y2_55), some (.int y3_55), none, some (.int t0_55), some (.int (0 : Int32)), none, none]) dX12_tilts_58 (by decide) rfl ?_
    obtain ⟨b4, hb4, hf⟩ := ax_bind hf
    refine wh_go ((0 : Int32), s_55) (fun a60 : Int32 × sx_M => AW l X RX12 "tilts" cX12_tilts 9 (some .int) (ax_rm 2 0 0) (ax_MQ X Q 0 0) 0 0 60 [some (.ref 58), some (.int y1_55), some (.int y2_55), some (.int y3_55), none, some (.int t0_55), some (.int a60.1), none, none] [] (hp a60.2 gb)) (Sum.elim (fun e : sx_M => AW l X RX12 "tilts" cX12_tilts 9 (some .int) (ax_rm 2 0 0) (ax_MQ X Q 0 0) 0 0 118 [some (.ref 58), some (.int y1_55), some (.int y2_55), some (.int y3_55), none, some (.int t0_55), none, none, none] [] (hp e gb)) (fun v : Int32 × sx_M => Q (some (.int v.1)) (hp v.2 gb))) hb4 ?_ ?_
    · intro a60 r hf hK
      unfold f_X12_tilts_L60 at hf
      have J88 : ∀ (y6_88 : Int32) (t0_88 : Int32) (s_88 : sx_M), f_X12_tilts_L60_J88 y1_55 y2_55 y3_55 t0_55 y6_88 t0_88 s_88 = some r → AW l X RX12 "tilts" cX12_tilts 9 (some .int) (ax_rm 2 0 0) (ax_MQ X Q 0 0) 0 0 88 [some (.ref 58), some (.int y1_55), some (.int y2_55), some (.int y3_55), none, some (.int t0_55), some (.int y6_88), none, none] [.int t0_88] (hp s_88 gb) := by
        intro y6_88 t0_88 s_88 hf
        unfold f_X12_tilts_L60_J88 at hf
        refine aw_istore (L' := [some (.ref 58), some (.int y1_55), some (.int y2_55), some (.int y3_55), none, some (.int t0_55), some (.int y6_88), some (.int t0_88), none]) dX12_tilts_88 (by decide) rfl ?_
        refine aw_iload dX12_tilts_90 rfl ?_
        refine aw_ldc dX12_tilts_92 kc_X12_131 ?_
        refine aw_icmp_eq (tgt := 112) dX12_tilts_94 (by decide) (fun hc2 => ?_) (fun hc2 => ?_)
        · have hf := ax_pos hc2 hf
          refine aw_iinc (v := (y6_88 + (1 : Int32))) (L' := [some (.ref 58), some (.int y1_55), some (.int y2_55), some (.int y3_55), none, some (.int t0_55), some (.int (y6_88 + (1 : Int32))), some (.int t0_88), none]) dX12_tilts_112 rfl rfl (by decide) rfl ?_
          refine aw_goto (tgt := 60) dX12_tilts_115 (by decide) ?_
          refine aw_less (L' := [some (.ref 58), some (.int y1_55), some (.int y2_55), some (.int y3_55), none, some (.int t0_55), some (.int (y6_88 + (1 : Int32))), none, none]) (And.intro rfl (And.intro rfl (And.intro rfl (And.intro rfl (And.intro rfl (And.intro rfl trivial)))))) ?_
          cases hf
          exact hK
        · have hf := ax_neg hc2 hf
          refine aw_iload dX12_tilts_97 rfl ?_
          refine aw_i2l dX12_tilts_99 ?_
          refine aw_iload_n dX12_tilts_100 rfl rfl ?_
          refine aw_i2l dX12_tilts_101 ?_
          refine aw_ladd dX12_tilts_102 ?_
          obtain ⟨p1, hp1, hf⟩ := ax_bind hf
          refine aw_cSi (As := [.long ((t0_88).toInt64 + (y2_55).toInt64)]) (st := []) dX12_tilts_103 cl_X12_215 st_X12_isCost (k_X12_isCost (Q := (fun v h' => v = some (.int p1.1) ∧ h' = hp p1.2 gb)) ((t0_88).toInt64 + (y2_55).toInt64) s_88 gb hp1 ⟨rfl, rfl⟩) rfl rfl (Nat.le_of_ble_eq_true rfl) rfl (by decide) (by decide) ?_
          refine aw_if_ne (tgt := 112) dX12_tilts_106 (by decide) (fun hc1 => ?_) (fun hc1 => ?_)
          · have hf := ax_neg hc1 hf
            refine aw_iinc (v := (y6_88 + (1 : Int32))) (L' := [some (.ref 58), some (.int y1_55), some (.int y2_55), some (.int y3_55), none, some (.int t0_55), some (.int (y6_88 + (1 : Int32))), some (.int t0_88), none]) dX12_tilts_112 rfl rfl (by decide) rfl ?_
            refine aw_goto (tgt := 60) dX12_tilts_115 (by decide) ?_
            refine aw_less (L' := [some (.ref 58), some (.int y1_55), some (.int y2_55), some (.int y3_55), none, some (.int t0_55), some (.int (y6_88 + (1 : Int32))), none, none]) (And.intro rfl (And.intro rfl (And.intro rfl (And.intro rfl (And.intro rfl (And.intro rfl trivial)))))) ?_
            cases hf
            exact hK
          · have hf := ax_pos hc1 hf
            refine aw_bipush (v := -5) dX12_tilts_109 (by decide) ?_
            cases hf
            exact aw_iret dX12_tilts_111 hK (Nat.le_refl _) (Nat.le_refl _)
      refine aw_iload dX12_tilts_60 rfl ?_
      refine aw_iload dX12_tilts_62 rfl ?_
      refine aw_icmp_ge (tgt := 118) dX12_tilts_64 (by decide) (fun hc4 => ?_) (fun hc4 => ?_)
      · have hf := ax_pos hc4 hf
        refine aw_less (L' := [some (.ref 58), some (.int y1_55), some (.int y2_55), some (.int y3_55), none, some (.int t0_55), none, none, none]) (And.intro rfl (And.intro rfl (And.intro rfl (And.intro rfl (And.intro rfl trivial))))) ?_
        cases hf
        exact hK
      · have hf := ax_neg hc4 hf
        refine aw_iload_n dX12_tilts_67 rfl rfl ?_
        refine aw_if_ne (tgt := 81) dX12_tilts_68 (by decide) (fun hc3 => ?_) (fun hc3 => ?_)
        · have hf := ax_neg hc3 hf
          refine aw_aload_n dX12_tilts_81 rfl rfl ?_
          refine aw_iload dX12_tilts_82 rfl ?_
          refine aw_iload_n dX12_tilts_84 rfl rfl ?_
          obtain ⟨p2, hp2, hf⟩ := ax_bind hf
          refine aw_cVi (As := [.int a60.1, .int y1_55]) (st := []) dX12_tilts_85 cl_X12_157 iv_X12_costOf (k_X12_costOf (Q := (fun v h' => v = some (.int p2.1) ∧ h' = hp p2.2 gb)) a60.1 y1_55 a60.2 gb hp2 ⟨rfl, rfl⟩) (ci := 12) rfl (hp_get sh_58) rfl rfl rfl (Nat.le_of_ble_eq_true rfl) rfl (by decide) (by decide) ?_
          exact J88 a60.1 p2.1 p2.2 hf
        · have hf := ax_pos hc3 hf
          refine aw_aload_n dX12_tilts_71 rfl rfl ?_
          refine aw_iload_n dX12_tilts_72 rfl rfl ?_
          refine aw_iload dX12_tilts_73 rfl ?_
          obtain ⟨p3, hp3, hf⟩ := ax_bind hf
          refine aw_cVi (As := [.int y1_55, .int a60.1]) (st := []) dX12_tilts_75 cl_X12_157 iv_X12_costOf (k_X12_costOf (Q := (fun v h' => v = some (.int p3.1) ∧ h' = hp p3.2 gb)) y1_55 a60.1 a60.2 gb hp3 ⟨rfl, rfl⟩) (ci := 12) rfl (hp_get sh_58) rfl rfl rfl (Nat.le_of_ble_eq_true rfl) rfl (by decide) (by decide) ?_
          refine aw_goto (tgt := 88) dX12_tilts_78 (by decide) ?_
          exact J88 a60.1 p3.1 p3.2 hf
    · rcases b4 with e5 | e11
      · refine aw_aload_n dX12_tilts_118 rfl rfl ?_
        obtain ⟨p6, hp6, hf⟩ := ax_bind hf
        refine aw_cVv (As := []) (st := []) dX12_tilts_119 cl_X12_334 iv_X12_remembers (k_X12_remembers (Q := (fun v h' => v = none ∧ h' = hp p6 gb)) e5 gb hp6 ⟨rfl, rfl⟩) (ci := 12) rfl (hp_get sh_58) rfl rfl rfl (Nat.le_of_ble_eq_true rfl) rfl (by decide) (by decide) ?_
        refine aw_iconst (v := 0) dX12_tilts_122 (by decide) ?_
        refine aw_istore (L' := [some (.ref 58), some (.int y1_55), some (.int y2_55), some (.int y3_55), none, some (.int t0_55), some (.int (0 : Int32)), none, none]) dX12_tilts_123 (by decide) rfl ?_
        refine aw_iconst (v := 0) dX12_tilts_125 (by decide) ?_
        refine aw_istore (L' := [some (.ref 58), some (.int y1_55), some (.int y2_55), some (.int y3_55), none, some (.int t0_55), some (.int (0 : Int32)), some (.int (0 : Int32)), none]) dX12_tilts_126 (by decide) rfl ?_
        obtain ⟨b9, hb9, hf⟩ := ax_bind hf
        refine wh_go ((0 : Int32), (0 : Int32), p6) (fun a128 : Int32 × Int32 × sx_M => AW l X RX12 "tilts" cX12_tilts 9 (some .int) (ax_rm 2 0 0) (ax_MQ X Q 0 0) 0 0 128 [some (.ref 58), some (.int y1_55), some (.int y2_55), some (.int y3_55), none, some (.int t0_55), some (.int a128.1), some (.int a128.2.1), none] [] (hp a128.2.2 gb)) (fun e : Int32 × sx_M => AW l X RX12 "tilts" cX12_tilts 9 (some .int) (ax_rm 2 0 0) (ax_MQ X Q 0 0) 0 0 188 [some (.ref 58), none, none, none, none, none, some (.int e.1), none, none] [] (hp e.2 gb)) hb9 ?_ ?_
        · intro a128 r hf hK
          unfold f_X12_tilts_L128 at hf
          have J154 : ∀ (y6_154 : Int32) (y7_154 : Int32) (t0_154 : Int32) (s_154 : sx_M), f_X12_tilts_L128_J154 y1_55 y2_55 y3_55 t0_55 y6_154 y7_154 t0_154 s_154 = some r → AW l X RX12 "tilts" cX12_tilts 9 (some .int) (ax_rm 2 0 0) (ax_MQ X Q 0 0) 0 0 154 [some (.ref 58), some (.int y1_55), some (.int y2_55), some (.int y3_55), none, some (.int t0_55), some (.int y6_154), some (.int y7_154), none] [.int t0_154] (hp s_154 gb) := by
            intro y6_154 y7_154 t0_154 s_154 hf
            unfold f_X12_tilts_L128_J154 at hf
            refine aw_istore (L' := [some (.ref 58), some (.int y1_55), some (.int y2_55), some (.int y3_55), none, some (.int t0_55), some (.int y6_154), some (.int y7_154), some (.int t0_154)]) dX12_tilts_154 (by decide) rfl ?_
            refine aw_aload_n dX12_tilts_156 rfl rfl ?_
            refine aw_gR dX12_tilts_157 fl_X12_11 sh_58 rfl ?_
            refine aw_iload dX12_tilts_160 rfl ?_
            obtain ⟨hc5, hf⟩ := ax_ite hf
            refine aw_lA dX12_tilts_162 sh_59 hc5 ?_
            refine aw_ldc dX12_tilts_163 kc_X12_131 ?_
            refine aw_icmp_eq (tgt := 182) dX12_tilts_165 (by decide) (fun hc8 => ?_) (fun hc8 => ?_)
            · have hf := ax_pos hc8 hf
              refine aw_iinc (v := (y7_154 + (1 : Int32))) (L' := [some (.ref 58), some (.int y1_55), some (.int y2_55), some (.int y3_55), none, some (.int t0_55), some (.int y6_154), some (.int (y7_154 + (1 : Int32))), some (.int t0_154)]) dX12_tilts_182 rfl rfl (by decide) rfl ?_
              refine aw_goto (tgt := 128) dX12_tilts_185 (by decide) ?_
              refine aw_less (L' := [some (.ref 58), some (.int y1_55), some (.int y2_55), some (.int y3_55), none, some (.int t0_55), some (.int y6_154), some (.int (y7_154 + (1 : Int32))), none]) (And.intro rfl (And.intro rfl (And.intro rfl (And.intro rfl (And.intro rfl (And.intro rfl (And.intro rfl trivial))))))) ?_
              cases hf
              exact hK
            · have hf := ax_neg hc8 hf
              refine aw_aload_n dX12_tilts_168 rfl rfl ?_
              refine aw_gR dX12_tilts_169 fl_X12_11 sh_58 rfl ?_
              refine aw_iload dX12_tilts_172 rfl ?_
              refine aw_dup2_11 dX12_tilts_174 rfl rfl ?_
              obtain ⟨hc6, hf⟩ := ax_ite hf
              refine aw_lA dX12_tilts_175 sh_59 hc6 ?_
              refine aw_iload_n dX12_tilts_176 rfl rfl ?_
              refine aw_iadd dX12_tilts_177 ?_
              obtain ⟨hc7, hf⟩ := ax_ite hf
              refine aw_sA dX12_tilts_178 sh_59 hc7 ?_
              refine aw_iinc (v := (y6_154 + (1 : Int32))) (L' := [some (.ref 58), some (.int y1_55), some (.int y2_55), some (.int y3_55), none, some (.int t0_55), some (.int (y6_154 + (1 : Int32))), some (.int y7_154), some (.int t0_154)]) dX12_tilts_179 rfl rfl (by decide) rfl ?_
              refine aw_iinc (v := (y7_154 + (1 : Int32))) (L' := [some (.ref 58), some (.int y1_55), some (.int y2_55), some (.int y3_55), none, some (.int t0_55), some (.int (y6_154 + (1 : Int32))), some (.int (y7_154 + (1 : Int32))), some (.int t0_154)]) dX12_tilts_182 rfl rfl (by decide) rfl ?_
              refine aw_goto (tgt := 128) dX12_tilts_185 (by decide) ?_
              refine aw_less (L' := [some (.ref 58), some (.int y1_55), some (.int y2_55), some (.int y3_55), none, some (.int t0_55), some (.int (y6_154 + (1 : Int32))), some (.int (y7_154 + (1 : Int32))), none]) (And.intro rfl (And.intro rfl (And.intro rfl (And.intro rfl (And.intro rfl (And.intro rfl (And.intro rfl trivial))))))) ?_
              cases hf
              exact hK
          refine aw_iload dX12_tilts_128 rfl ?_
          refine aw_iload dX12_tilts_130 rfl ?_
          refine aw_icmp_ge (tgt := 188) dX12_tilts_132 (by decide) (fun hc10 => ?_) (fun hc10 => ?_)
          · have hf := ax_pos hc10 hf
            refine aw_less (L' := [some (.ref 58), none, none, none, none, none, some (.int a128.1), none, none]) (And.intro rfl (And.intro rfl trivial)) ?_
            cases hf
            exact hK
          · have hf := ax_neg hc10 hf
            refine aw_iload_n dX12_tilts_135 rfl rfl ?_
            refine aw_if_ne (tgt := 148) dX12_tilts_136 (by decide) (fun hc9 => ?_) (fun hc9 => ?_)
            · have hf := ax_neg hc9 hf
              refine aw_iload dX12_tilts_148 rfl ?_
              refine aw_iload_n dX12_tilts_150 rfl rfl ?_
              obtain ⟨p7, hp7, hf⟩ := ax_bind hf
              refine aw_cSi (As := [.int a128.2.1, .int y1_55]) (st := []) dX12_tilts_151 cl_X12_56 st_X12_placeOf (k_X12_placeOf (Q := (fun v h' => v = some (.int p7.1) ∧ h' = hp p7.2 gb)) a128.2.1 y1_55 a128.2.2 gb hp7 ⟨rfl, rfl⟩) rfl rfl (Nat.le_of_ble_eq_true rfl) rfl (by decide) (by decide) ?_
              exact J154 a128.1 a128.2.1 p7.1 p7.2 hf
            · have hf := ax_pos hc9 hf
              refine aw_iload_n dX12_tilts_139 rfl rfl ?_
              refine aw_iload dX12_tilts_140 rfl ?_
              obtain ⟨p8, hp8, hf⟩ := ax_bind hf
              refine aw_cSi (As := [.int y1_55, .int a128.2.1]) (st := []) dX12_tilts_142 cl_X12_56 st_X12_placeOf (k_X12_placeOf (Q := (fun v h' => v = some (.int p8.1) ∧ h' = hp p8.2 gb)) y1_55 a128.2.1 a128.2.2 gb hp8 ⟨rfl, rfl⟩) rfl rfl (Nat.le_of_ble_eq_true rfl) rfl (by decide) (by decide) ?_
              refine aw_goto (tgt := 154) dX12_tilts_145 (by decide) ?_
              exact J154 a128.1 a128.2.1 p8.1 p8.2 hf
        · refine aw_aload_n dX12_tilts_188 rfl rfl ?_
          obtain ⟨p10, hp10, hf⟩ := ax_bind hf
          refine aw_cVi (As := []) (st := []) dX12_tilts_189 cl_X12_337 iv_X12_keeps (k_X12_keeps (Q := (fun v h' => v = some (.int p10.1) ∧ h' = hp p10.2 gb)) b9.2 gb hp10 ⟨rfl, rfl⟩) (ci := 12) rfl (hp_get sh_58) rfl rfl rfl (Nat.le_of_ble_eq_true rfl) rfl (by decide) (by decide) ?_
          refine aw_pop dX12_tilts_192 rfl ?_
          refine aw_iload dX12_tilts_193 rfl ?_
          cases hf
          exact aw_iret dX12_tilts_195 hq (Nat.le_refl _) (Nat.le_refl _)
      · cases hf
        exact hq
  have J30 : ∀ (y1_30 : Int32) (y2_30 : Int32) (y3_30 : Int32) (t0_30 : Int32) (s_30 : sx_M), f_X12_tilts_J30 y1_30 y2_30 y3_30 t0_30 s_30 = some p → AW l X RX12 "tilts" cX12_tilts 9 (some .int) (ax_rm 2 0 0) (ax_MQ X Q 0 0) 0 0 30 [some (.ref 58), some (.int y1_30), some (.int y2_30), some (.int y3_30), none, none, none, none, none] [.int t0_30] (hp s_30 gb) := by
    intro y1_30 y2_30 y3_30 t0_30 s_30 hf
    unfold f_X12_tilts_J30 at hf
    refine aw_istore (L' := [some (.ref 58), some (.int y1_30), some (.int y2_30), some (.int y3_30), some (.int t0_30), none, none, none, none]) dX12_tilts_30 (by decide) rfl ?_
    refine aw_iload dX12_tilts_32 rfl ?_
    refine aw_if_ne (tgt := 40) dX12_tilts_34 (by decide) (fun hc12 => ?_) (fun hc12 => ?_)
    · have hf := ax_neg hc12 hf
      refine aw_iload_n dX12_tilts_40 rfl rfl ?_
      refine aw_if_ne (tgt := 51) dX12_tilts_41 (by decide) (fun hc11 => ?_) (fun hc11 => ?_)
      · have hf := ax_neg hc11 hf
        refine aw_aload_n dX12_tilts_51 rfl rfl ?_
        obtain ⟨p12, hp12, hf⟩ := ax_bind hf
        refine aw_cVi (As := []) (st := []) dX12_tilts_52 cl_X12_60 iv_X12_workers (k_X12_workers (Q := (fun v h' => v = some (.int p12.1) ∧ h' = hp p12.2 gb)) s_30 gb hp12 ⟨rfl, rfl⟩) (ci := 12) rfl (hp_get sh_58) rfl rfl rfl (Nat.le_of_ble_eq_true rfl) rfl (by decide) (by decide) ?_
        refine aw_less (L' := [some (.ref 58), some (.int y1_30), some (.int y2_30), some (.int y3_30), none, none, none, none, none]) (And.intro rfl (And.intro rfl (And.intro rfl (And.intro rfl trivial)))) ?_
        exact J55 y1_30 y2_30 y3_30 p12.1 p12.2 hf
      · have hf := ax_pos hc11 hf
        refine aw_aload_n dX12_tilts_44 rfl rfl ?_
        obtain ⟨p13, hp13, hf⟩ := ax_bind hf
        refine aw_cVi (As := []) (st := []) dX12_tilts_45 cl_X12_68 iv_X12_jobs (k_X12_jobs (Q := (fun v h' => v = some (.int p13.1) ∧ h' = hp p13.2 gb)) s_30 gb hp13 ⟨rfl, rfl⟩) (ci := 12) rfl (hp_get sh_58) rfl rfl rfl (Nat.le_of_ble_eq_true rfl) rfl (by decide) (by decide) ?_
        refine aw_goto (tgt := 55) dX12_tilts_48 (by decide) ?_
        refine aw_less (L' := [some (.ref 58), some (.int y1_30), some (.int y2_30), some (.int y3_30), none, none, none, none, none]) (And.intro rfl (And.intro rfl (And.intro rfl (And.intro rfl trivial)))) ?_
        exact J55 y1_30 y2_30 y3_30 p13.1 p13.2 hf
    · have hf := ax_pos hc12 hf
      refine aw_bipush (v := -2) dX12_tilts_37 (by decide) ?_
      cases hf
      exact aw_iret dX12_tilts_39 hq (Nat.le_refl _) (Nat.le_refl _)
  have J12 : ∀ (y1_12 : Int32) (y2_12 : Int32) (y3_12 : Int32) (s_12 : sx_M), f_X12_tilts_J12 y1_12 y2_12 y3_12 s_12 = some p → AW l X RX12 "tilts" cX12_tilts 9 (some .int) (ax_rm 2 0 0) (ax_MQ X Q 0 0) 0 0 12 [some (.ref 58), some (.int y1_12), some (.int y2_12), some (.int y3_12), none, none, none, none, none] [] (hp s_12 gb) := by
    intro y1_12 y2_12 y3_12 s_12 hf
    unfold f_X12_tilts_J12 at hf
    refine aw_iload_n dX12_tilts_12 rfl rfl ?_
    refine aw_iconst (v := 1) dX12_tilts_13 (by decide) ?_
    refine aw_icmp_ne (tgt := 29) dX12_tilts_14 (by decide) (fun hc14 => ?_) (fun hc14 => ?_)
    · have hf := ax_neg hc14 hf
      refine aw_iconst (v := 0) dX12_tilts_29 (by decide) ?_
      exact J30 y1_12 y2_12 y3_12 (0 : Int32) s_12 hf
    · have hf := ax_pos hc14 hf
      refine aw_aload_n dX12_tilts_17 rfl rfl ?_
      refine aw_iload_n dX12_tilts_18 rfl rfl ?_
      obtain ⟨p14, hp14, hf⟩ := ax_bind hf
      refine aw_cVi (As := [.int y1_12]) (st := []) dX12_tilts_19 cl_X12_190 iv_X12_isJob (k_X12_isJob (Q := (fun v h' => v = some (.int p14.1) ∧ h' = hp p14.2 gb)) y1_12 s_12 gb hp14 ⟨rfl, rfl⟩) (ci := 12) rfl (hp_get sh_58) rfl rfl rfl (Nat.le_of_ble_eq_true rfl) rfl (by decide) (by decide) ?_
      refine aw_if_eq (tgt := 29) dX12_tilts_22 (by decide) (fun hc13 => ?_) (fun hc13 => ?_)
      · have hf := ax_pos hc13 hf
        refine aw_iconst (v := 0) dX12_tilts_29 (by decide) ?_
        exact J30 y1_12 y2_12 y3_12 (0 : Int32) p14.2 hf
      · have hf := ax_neg hc13 hf
        refine aw_iconst (v := 1) dX12_tilts_25 (by decide) ?_
        refine aw_goto (tgt := 30) dX12_tilts_26 (by decide) ?_
        exact J30 y1_12 y2_12 y3_12 (1 : Int32) p14.2 hf
  refine aw_iload_n dX12_tilts_0 rfl rfl ?_
  refine aw_if_ne (tgt := 12) dX12_tilts_1 (by decide) (fun hc16 => ?_) (fun hc16 => ?_)
  · have hf := ax_neg hc16 hf
    exact J12 x1 x2 x3 s hf
  · have hf := ax_pos hc16 hf
    refine aw_aload_n dX12_tilts_4 rfl rfl ?_
    refine aw_iload_n dX12_tilts_5 rfl rfl ?_
    obtain ⟨p15, hp15, hf⟩ := ax_bind hf
    refine aw_cVi (As := [.int x1]) (st := []) dX12_tilts_6 cl_X12_187 iv_X12_isWorker (k_X12_isWorker (Q := (fun v h' => v = some (.int p15.1) ∧ h' = hp p15.2 gb)) x1 s gb hp15 ⟨rfl, rfl⟩) (ci := 12) rfl (hp_get sh_58) rfl rfl rfl (Nat.le_of_ble_eq_true rfl) rfl (by decide) (by decide) ?_
    refine aw_if_ne (tgt := 25) dX12_tilts_9 (by decide) (fun hc15 => ?_) (fun hc15 => ?_)
    · have hf := ax_neg hc15 hf
      refine aw_iconst (v := 1) dX12_tilts_25 (by decide) ?_
      refine aw_goto (tgt := 30) dX12_tilts_26 (by decide) ?_
      exact J30 x1 x2 x3 (1 : Int32) p15.2 hf
    · have hf := ax_pos hc15 hf
      exact J12 x1 x2 x3 p15.2 hf
noncomputable def f_X12_comes_L55_J101 (z1 : Int32) (z2 : Int32) (y3_101 : Int32) (t1_101 : Int32) (s_101 : sx_M) : Option ((Int32 × sx_M) ⊕ (sx_M)) :=
  (if ¬ (t1_101 < 0 ∨ 58 ≤ (t1_101).toNatClampNeg) then
 some (.inl ((y3_101 + (1 : Int32)), (wA s_101 59 (t1_101).toNatClampNeg z2)))
else none)
noncomputable def f_X12_comes_L55_J71 (z1 : Int32) (z2 : Int32) (y3_71 : Int32) (t0_71 : Int32) (t1_71 : Int32) (s_71 : sx_M) : Option ((Int32 × sx_M) ⊕ (sx_M)) :=
  (if t1_71 ≤ t0_71 then
 some (.inr s_71)
else
 (if z1 = 0 then
 (f_X12_workers s_71).bind (fun p4 =>
 (f_X12_placeOf p4.1 y3_71 p4.2).bind (fun p5 =>
 f_X12_comes_L55_J101 z1 z2 y3_71 p5.1 p5.2))
else
 (f_X12_jobs s_71).bind (fun p2 =>
 (f_X12_placeOf y3_71 p2.1 p2.2).bind (fun p3 =>
 f_X12_comes_L55_J101 z1 z2 y3_71 p3.1 p3.2))))
noncomputable def f_X12_comes_L55 (z1 : Int32) (z2 : Int32) (a55 : Int32 × sx_M) : Option ((Int32 × sx_M) ⊕ (sx_M)) :=
  (if z1 = 0 then
 (f_X12_jobs a55.2).bind (fun p7 =>
 f_X12_comes_L55_J71 z1 z2 a55.1 a55.1 p7.1 p7.2)
else
 (f_X12_workers a55.2).bind (fun p6 =>
 f_X12_comes_L55_J71 z1 z2 a55.1 a55.1 p6.1 p6.2))
noncomputable def f_X12_comes_J49 (y1_49 : Int32) (y2_49 : Int32) (s_49 : sx_M) : Option (Int32 × sx_M) :=
  (f_X12_remembers s_49).bind (fun p1 =>
 (whT (f_X12_comes_L55 y1_49 y2_49) ((0 : Int32), p1)).bind (fun b8 =>
 (if ¬ (y1_49 < 0 ∨ 58 ≤ (y1_49).toNatClampNeg) then
 (if ¬ (y1_49 < 0 ∨ 58 ≤ (y1_49).toNatClampNeg) then
 (f_X12_keeps (wA b8 59 (y1_49).toNatClampNeg ((rA b8 59 (y1_49).toNatClampNeg) + (1 : Int32)))).bind (fun p9 =>
 (if ¬ (y1_49 < 0 ∨ 58 ≤ (y1_49).toNatClampNeg) then
 some (((rA p9.2 59 (y1_49).toNatClampNeg) - (1 : Int32)), p9.2)
else none))
else none)
else none)))
noncomputable def f_X12_comes (x1 : Int32) (x2 : Int32) (s : sx_M) : Option (Int32 × sx_M) :=
  (f_X12_in ((x1).toInt64) (0 : Int64) (1 : Int64) s).bind (fun p10 =>
 (if p10.1 = 0 then
 some ((-2 : Int32), p10.2)
else
 (f_X12_isCost ((x2).toInt64) p10.2).bind (fun p11 =>
 (if p11.1 = 0 then
 some ((-2 : Int32), p11.2)
else
 (if x1 = 0 then
 (f_X12_workers p11.2).bind (fun p13 =>
 (if p13.1 = (7 : Int32) then
 some ((-5 : Int32), p13.2)
else
 f_X12_comes_J49 x1 x2 p13.2))
else
 (f_X12_jobs p11.2).bind (fun p12 =>
 (if p12.1 = (8 : Int32) then
 some ((-5 : Int32), p12.2)
else
 f_X12_comes_J49 x1 x2 p12.2)))))))
set_option maxRecDepth 100000 in
set_option maxHeartbeats 4000000 in
theorem k_X12_comes {l : Launch} {X : ax_X} {Q : Option Value → ax_H → Prop} (x1 : Int32) (x2 : Int32) (s : sx_M) (gb : ax_H) {p : Int32 × sx_M} (hf : f_X12_comes x1 x2 s = some p) (hq : Q (some (.int p.1)) (hp p.2 gb)) : AM l X yX12_comes cX12_comes 4 (some .int) 2 0 0 [.ref 58, .int x1, .int x2] (hp s gb) Q := by
  refine aw_met (own := RX12) (nm := "comes") (L := [some (.ref 58), some (.int x1), some (.int x2), none]) (by decide +kernel) rfl rfl (And.intro rfl (And.intro rfl (And.intro rfl trivial))) (Nat.le_of_ble_eq_true rfl) ?_
  unfold f_X12_comes at hf
  have J49 : ∀ (y1_49 : Int32) (y2_49 : Int32) (s_49 : sx_M), f_X12_comes_J49 y1_49 y2_49 s_49 = some p → AW l X RX12 "comes" cX12_comes 4 (some .int) (ax_rm 2 0 0) (ax_MQ X Q 0 0) 0 0 49 [some (.ref 58), some (.int y1_49), some (.int y2_49), none] [] (hp s_49 gb) := by
    intro y1_49 y2_49 s_49 hf
    unfold f_X12_comes_J49 at hf
    refine aw_aload_n dX12_comes_49 rfl rfl ?_
    obtain ⟨p1, hp1, hf⟩ := ax_bind hf
    refine aw_cVv (As := []) (st := []) dX12_comes_50 cl_X12_334 iv_X12_remembers (k_X12_remembers (Q := (fun v h' => v = none ∧ h' = hp p1 gb)) s_49 gb hp1 ⟨rfl, rfl⟩) (ci := 12) rfl (hp_get sh_58) rfl rfl rfl (Nat.le_of_ble_eq_true rfl) rfl (by decide) (by decide) ?_
    refine aw_iconst (v := 0) dX12_comes_53 (by decide) ?_
    refine aw_istore_n (L' := [some (.ref 58), some (.int y1_49), some (.int y2_49), some (.int (0 : Int32))]) dX12_comes_54 rfl (by decide) rfl ?_
    obtain ⟨b8, hb8, hf⟩ := ax_bind hf
    refine wh_go ((0 : Int32), p1) (fun a55 : Int32 × sx_M => AW l X RX12 "comes" cX12_comes 4 (some .int) (ax_rm 2 0 0) (ax_MQ X Q 0 0) 0 0 55 [some (.ref 58), some (.int y1_49), some (.int y2_49), some (.int a55.1)] [] (hp a55.2 gb)) (fun e : sx_M => AW l X RX12 "comes" cX12_comes 4 (some .int) (ax_rm 2 0 0) (ax_MQ X Q 0 0) 0 0 109 [some (.ref 58), some (.int y1_49), none, none] [] (hp e gb)) hb8 ?_ ?_
    · intro a55 r hf hK
      unfold f_X12_comes_L55 at hf
      have J101 : ∀ (y3_101 : Int32) (t1_101 : Int32) (s_101 : sx_M), f_X12_comes_L55_J101 y1_49 y2_49 y3_101 t1_101 s_101 = some r → AW l X RX12 "comes" cX12_comes 4 (some .int) (ax_rm 2 0 0) (ax_MQ X Q 0 0) 0 0 101 [some (.ref 58), some (.int y1_49), some (.int y2_49), some (.int y3_101)] [.int t1_101, .ref 59] (hp s_101 gb) := by
        intro y3_101 t1_101 s_101 hf
        unfold f_X12_comes_L55_J101 at hf
        refine aw_iload_n dX12_comes_101 rfl rfl ?_
        obtain ⟨hc1, hf⟩ := ax_ite hf
        refine aw_sA dX12_comes_102 sh_59 hc1 ?_
        refine aw_iinc (v := (y3_101 + (1 : Int32))) (L' := [some (.ref 58), some (.int y1_49), some (.int y2_49), some (.int (y3_101 + (1 : Int32)))]) dX12_comes_103 rfl rfl (by decide) rfl ?_
        refine aw_goto (tgt := 55) dX12_comes_106 (by decide) ?_
        cases hf
        exact hK
      have J71 : ∀ (y3_71 : Int32) (t0_71 : Int32) (t1_71 : Int32) (s_71 : sx_M), f_X12_comes_L55_J71 y1_49 y2_49 y3_71 t0_71 t1_71 s_71 = some r → AW l X RX12 "comes" cX12_comes 4 (some .int) (ax_rm 2 0 0) (ax_MQ X Q 0 0) 0 0 71 [some (.ref 58), some (.int y1_49), some (.int y2_49), some (.int y3_71)] [.int t1_71, .int t0_71] (hp s_71 gb) := by
        intro y3_71 t0_71 t1_71 s_71 hf
        unfold f_X12_comes_L55_J71 at hf
        refine aw_icmp_ge (tgt := 109) dX12_comes_71 (by decide) (fun hc3 => ?_) (fun hc3 => ?_)
        · have hf := ax_pos hc3 hf
          refine aw_less (L' := [some (.ref 58), some (.int y1_49), none, none]) (And.intro rfl (And.intro rfl trivial)) ?_
          cases hf
          exact hK
        · have hf := ax_neg hc3 hf
          refine aw_aload_n dX12_comes_74 rfl rfl ?_
          refine aw_gR dX12_comes_75 fl_X12_11 sh_58 rfl ?_
          refine aw_iload_n dX12_comes_78 rfl rfl ?_
          refine aw_if_ne (tgt := 93) dX12_comes_79 (by decide) (fun hc2 => ?_) (fun hc2 => ?_)
          · have hf := ax_neg hc2 hf
            refine aw_iload_n dX12_comes_93 rfl rfl ?_
            refine aw_aload_n dX12_comes_94 rfl rfl ?_
            obtain ⟨p2, hp2, hf⟩ := ax_bind hf
            refine aw_cVi (As := []) (st := [.int y3_71, .ref 59]) dX12_comes_95 cl_X12_68 iv_X12_jobs (k_X12_jobs (Q := (fun v h' => v = some (.int p2.1) ∧ h' = hp p2.2 gb)) s_71 gb hp2 ⟨rfl, rfl⟩) (ci := 12) rfl (hp_get sh_58) rfl rfl rfl (Nat.le_of_ble_eq_true rfl) rfl (by decide) (by decide) ?_
            obtain ⟨p3, hp3, hf⟩ := ax_bind hf
            refine aw_cSi (As := [.int y3_71, .int p2.1]) (st := [.ref 59]) dX12_comes_98 cl_X12_56 st_X12_placeOf (k_X12_placeOf (Q := (fun v h' => v = some (.int p3.1) ∧ h' = hp p3.2 gb)) y3_71 p2.1 p2.2 gb hp3 ⟨rfl, rfl⟩) rfl rfl (Nat.le_of_ble_eq_true rfl) rfl (by decide) (by decide) ?_
            exact J101 y3_71 p3.1 p3.2 hf
          · have hf := ax_pos hc2 hf
            refine aw_aload_n dX12_comes_82 rfl rfl ?_
            obtain ⟨p4, hp4, hf⟩ := ax_bind hf
            refine aw_cVi (As := []) (st := [.ref 59]) dX12_comes_83 cl_X12_60 iv_X12_workers (k_X12_workers (Q := (fun v h' => v = some (.int p4.1) ∧ h' = hp p4.2 gb)) s_71 gb hp4 ⟨rfl, rfl⟩) (ci := 12) rfl (hp_get sh_58) rfl rfl rfl (Nat.le_of_ble_eq_true rfl) rfl (by decide) (by decide) ?_
            refine aw_iload_n dX12_comes_86 rfl rfl ?_
            obtain ⟨p5, hp5, hf⟩ := ax_bind hf
            refine aw_cSi (As := [.int p4.1, .int y3_71]) (st := [.ref 59]) dX12_comes_87 cl_X12_56 st_X12_placeOf (k_X12_placeOf (Q := (fun v h' => v = some (.int p5.1) ∧ h' = hp p5.2 gb)) p4.1 y3_71 p4.2 gb hp5 ⟨rfl, rfl⟩) rfl rfl (Nat.le_of_ble_eq_true rfl) rfl (by decide) (by decide) ?_
            refine aw_goto (tgt := 101) dX12_comes_90 (by decide) ?_
            exact J101 y3_71 p5.1 p5.2 hf
      refine aw_iload_n dX12_comes_55 rfl rfl ?_
      refine aw_iload_n dX12_comes_56 rfl rfl ?_
      refine aw_if_ne (tgt := 67) dX12_comes_57 (by decide) (fun hc4 => ?_) (fun hc4 => ?_)
      · have hf := ax_neg hc4 hf
        refine aw_aload_n dX12_comes_67 rfl rfl ?_
        obtain ⟨p6, hp6, hf⟩ := ax_bind hf
        refine aw_cVi (As := []) (st := [.int a55.1]) dX12_comes_68 cl_X12_60 iv_X12_workers (k_X12_workers (Q := (fun v h' => v = some (.int p6.1) ∧ h' = hp p6.2 gb)) a55.2 gb hp6 ⟨rfl, rfl⟩) (ci := 12) rfl (hp_get sh_58) rfl rfl rfl (Nat.le_of_ble_eq_true rfl) rfl (by decide) (by decide) ?_
        exact J71 a55.1 a55.1 p6.1 p6.2 hf
      · have hf := ax_pos hc4 hf
        refine aw_aload_n dX12_comes_60 rfl rfl ?_
        obtain ⟨p7, hp7, hf⟩ := ax_bind hf
        refine aw_cVi (As := []) (st := [.int a55.1]) dX12_comes_61 cl_X12_68 iv_X12_jobs (k_X12_jobs (Q := (fun v h' => v = some (.int p7.1) ∧ h' = hp p7.2 gb)) a55.2 gb hp7 ⟨rfl, rfl⟩) (ci := 12) rfl (hp_get sh_58) rfl rfl rfl (Nat.le_of_ble_eq_true rfl) rfl (by decide) (by decide) ?_
        refine aw_goto (tgt := 71) dX12_comes_64 (by decide) ?_
        exact J71 a55.1 a55.1 p7.1 p7.2 hf
    · refine aw_aload_n dX12_comes_109 rfl rfl ?_
      refine aw_gR dX12_comes_110 fl_X12_11 sh_58 rfl ?_
      refine aw_iload_n dX12_comes_113 rfl rfl ?_
      refine aw_dup2_11 dX12_comes_114 rfl rfl ?_
      obtain ⟨hc5, hf⟩ := ax_ite hf
      refine aw_lA dX12_comes_115 sh_59 hc5 ?_
      refine aw_iconst (v := 1) dX12_comes_116 (by decide) ?_
      refine aw_iadd dX12_comes_117 ?_
      obtain ⟨hc6, hf⟩ := ax_ite hf
      refine aw_sA dX12_comes_118 sh_59 hc6 ?_
      refine aw_aload_n dX12_comes_119 rfl rfl ?_
      obtain ⟨p9, hp9, hf⟩ := ax_bind hf
      refine aw_cVi (As := []) (st := []) dX12_comes_120 cl_X12_337 iv_X12_keeps (k_X12_keeps (Q := (fun v h' => v = some (.int p9.1) ∧ h' = hp p9.2 gb)) (wA b8 59 (y1_49).toNatClampNeg ((rA b8 59 (y1_49).toNatClampNeg) + (1 : Int32))) gb hp9 ⟨rfl, rfl⟩) (ci := 12) rfl (hp_get sh_58) rfl rfl rfl (Nat.le_of_ble_eq_true rfl) rfl (by decide) (by decide) ?_
      refine aw_pop dX12_comes_123 rfl ?_
      refine aw_aload_n dX12_comes_124 rfl rfl ?_
      refine aw_gR dX12_comes_125 fl_X12_11 sh_58 rfl ?_
      refine aw_iload_n dX12_comes_128 rfl rfl ?_
      obtain ⟨hc7, hf⟩ := ax_ite hf
      refine aw_lA dX12_comes_129 sh_59 hc7 ?_
      refine aw_iconst (v := 1) dX12_comes_130 (by decide) ?_
      refine aw_isub dX12_comes_131 ?_
      cases hf
      exact aw_iret dX12_comes_132 hq (Nat.le_refl _) (Nat.le_refl _)
  refine aw_iload_n dX12_comes_0 rfl rfl ?_
  refine aw_i2l dX12_comes_1 ?_
  refine aw_lconst (v := 0) dX12_comes_2 (by decide) ?_
  refine aw_lconst (v := 1) dX12_comes_3 (by decide) ?_
  obtain ⟨p10, hp10, hf⟩ := ax_bind hf
  refine aw_cSi (As := [.long ((x1).toInt64), .long (0 : Int64), .long (1 : Int64)]) (st := []) dX12_comes_4 cl_X12_64 st_X12_in (k_X12_in (Q := (fun v h' => v = some (.int p10.1) ∧ h' = hp p10.2 gb)) ((x1).toInt64) (0 : Int64) (1 : Int64) s gb hp10 ⟨rfl, rfl⟩) rfl rfl (Nat.le_of_ble_eq_true rfl) rfl (by decide) (by decide) ?_
  refine aw_if_eq (tgt := 18) dX12_comes_7 (by decide) (fun hc12 => ?_) (fun hc12 => ?_)
  · have hf := ax_pos hc12 hf
    refine aw_bipush (v := -2) dX12_comes_18 (by decide) ?_
    cases hf
    exact aw_iret dX12_comes_20 hq (Nat.le_refl _) (Nat.le_refl _)
  · have hf := ax_neg hc12 hf
    refine aw_iload_n dX12_comes_10 rfl rfl ?_
    refine aw_i2l dX12_comes_11 ?_
    obtain ⟨p11, hp11, hf⟩ := ax_bind hf
    refine aw_cSi (As := [.long ((x2).toInt64)]) (st := []) dX12_comes_12 cl_X12_215 st_X12_isCost (k_X12_isCost (Q := (fun v h' => v = some (.int p11.1) ∧ h' = hp p11.2 gb)) ((x2).toInt64) p10.2 gb hp11 ⟨rfl, rfl⟩) rfl rfl (Nat.le_of_ble_eq_true rfl) rfl (by decide) (by decide) ?_
    refine aw_if_ne (tgt := 21) dX12_comes_15 (by decide) (fun hc11 => ?_) (fun hc11 => ?_)
    · have hf := ax_neg hc11 hf
      refine aw_iload_n dX12_comes_21 rfl rfl ?_
      refine aw_if_ne (tgt := 37) dX12_comes_22 (by decide) (fun hc10 => ?_) (fun hc10 => ?_)
      · have hf := ax_neg hc10 hf
        refine aw_aload_n dX12_comes_37 rfl rfl ?_
        obtain ⟨p12, hp12, hf⟩ := ax_bind hf
        refine aw_cVi (As := []) (st := []) dX12_comes_38 cl_X12_68 iv_X12_jobs (k_X12_jobs (Q := (fun v h' => v = some (.int p12.1) ∧ h' = hp p12.2 gb)) p11.2 gb hp12 ⟨rfl, rfl⟩) (ci := 12) rfl (hp_get sh_58) rfl rfl rfl (Nat.le_of_ble_eq_true rfl) rfl (by decide) (by decide) ?_
        refine aw_bipush (v := 8) dX12_comes_41 (by decide) ?_
        refine aw_icmp_ne (tgt := 49) dX12_comes_43 (by decide) (fun hc8 => ?_) (fun hc8 => ?_)
        · have hf := ax_neg hc8 hf
          exact J49 x1 x2 p12.2 hf
        · have hf := ax_pos hc8 hf
          refine aw_bipush (v := -5) dX12_comes_46 (by decide) ?_
          cases hf
          exact aw_iret dX12_comes_48 hq (Nat.le_refl _) (Nat.le_refl _)
      · have hf := ax_pos hc10 hf
        refine aw_aload_n dX12_comes_25 rfl rfl ?_
        obtain ⟨p13, hp13, hf⟩ := ax_bind hf
        refine aw_cVi (As := []) (st := []) dX12_comes_26 cl_X12_60 iv_X12_workers (k_X12_workers (Q := (fun v h' => v = some (.int p13.1) ∧ h' = hp p13.2 gb)) p11.2 gb hp13 ⟨rfl, rfl⟩) (ci := 12) rfl (hp_get sh_58) rfl rfl rfl (Nat.le_of_ble_eq_true rfl) rfl (by decide) (by decide) ?_
        refine aw_bipush (v := 7) dX12_comes_29 (by decide) ?_
        refine aw_icmp_ne (tgt := 49) dX12_comes_31 (by decide) (fun hc9 => ?_) (fun hc9 => ?_)
        · have hf := ax_neg hc9 hf
          exact J49 x1 x2 p13.2 hf
        · have hf := ax_pos hc9 hf
          refine aw_goto (tgt := 46) dX12_comes_34 (by decide) ?_
          refine aw_bipush (v := -5) dX12_comes_46 (by decide) ?_
          cases hf
          exact aw_iret dX12_comes_48 hq (Nat.le_refl _) (Nat.le_refl _)
    · have hf := ax_pos hc11 hf
      refine aw_bipush (v := -2) dX12_comes_18 (by decide) ?_
      cases hf
      exact aw_iret dX12_comes_20 hq (Nat.le_refl _) (Nat.le_refl _)
noncomputable def f_X12_goes_L65_J144 (z1 : Int32) (z2 : Int32) (z1 : Int32) (z2 : Int32) (z4 : Int32) (y5_144 : Int32) (y6_144 : Int32) (t0_144 : Int32) (s_144 : sx_M) : Option ((Int32 × sx_M) ⊕ (sx_M)) :=
  (f_X12_placeOf z4 y5_144 s_144).bind (fun p2 =>
 (if y6_144 = 0 then
 (if ¬ (p2.1 < 0 ∨ 58 ≤ (p2.1).toNatClampNeg) then
 some (.inl ((y5_144 + (1 : Int32)), (wA p2.2 59 (p2.1).toNatClampNeg (0 : Int32))))
else none)
else
 (if ¬ (t0_144 < 0 ∨ 58 ≤ (t0_144).toNatClampNeg) then
 (if ¬ (p2.1 < 0 ∨ 58 ≤ (p2.1).toNatClampNeg) then
 some (.inl ((y5_144 + (1 : Int32)), (wA p2.2 59 (p2.1).toNatClampNeg (rA p2.2 70 (t0_144).toNatClampNeg))))
else none)
else none)))
noncomputable def f_X12_goes_L65_J141 (z1 : Int32) (z2 : Int32) (z1 : Int32) (z2 : Int32) (z4 : Int32) (y5_141 : Int32) (y6_141 : Int32) (t0_141 : Int32) (t1_141 : Int32) (s_141 : sx_M) : Option ((Int32 × sx_M) ⊕ (sx_M)) :=
  (f_X12_placeOf t0_141 t1_141 s_141).bind (fun p3 =>
 f_X12_goes_L65_J144 z1 z2 z1 z2 z4 y5_141 y6_141 p3.1 p3.2)
noncomputable def f_X12_goes_L65_J116 (z1 : Int32) (z2 : Int32) (z1 : Int32) (z2 : Int32) (z4 : Int32) (y5_116 : Int32) (y6_116 : Int32) (t0_116 : Int32) (s_116 : sx_M) : Option ((Int32 × sx_M) ⊕ (sx_M)) :=
  (f_X12_placeOf t0_116 y5_116 s_116).bind (fun p4 =>
 f_X12_goes_L65_J144 z1 z2 z1 z2 z4 y5_116 y6_116 p4.1 p4.2)
noncomputable def f_X12_goes_L65_J95 (z1 : Int32) (z2 : Int32) (z1 : Int32) (z2 : Int32) (z4 : Int32) (y5_95 : Int32) (t0_95 : Int32) (s_95 : sx_M) : Option ((Int32 × sx_M) ⊕ (sx_M)) :=
  (if z2 = 0 then
 (if z1 ≤ z4 then
 f_X12_goes_L65_J116 z1 z2 z1 z2 z4 y5_95 t0_95 (z4 + (1 : Int32)) s_95
else
 f_X12_goes_L65_J116 z1 z2 z1 z2 z4 y5_95 t0_95 z4 s_95)
else
 (if z1 ≤ y5_95 then
 f_X12_goes_L65_J141 z1 z2 z1 z2 z4 y5_95 t0_95 z4 (y5_95 + (1 : Int32)) s_95
else
 f_X12_goes_L65_J141 z1 z2 z1 z2 z4 y5_95 t0_95 z4 y5_95 s_95))
noncomputable def f_X12_goes_L65 (z1 : Int32) (z2 : Int32) (z1 : Int32) (z2 : Int32) (z4 : Int32) (a65 : Int32 × sx_M) : Option ((Int32 × sx_M) ⊕ (sx_M)) :=
  (if (8 : Int32) ≤ a65.1 then
 some (.inr a65.2)
else
 (f_X12_workers a65.2).bind (fun p5 =>
 (if p5.1 ≤ z4 then
 f_X12_goes_L65_J95 z1 z2 z1 z2 z4 a65.1 (0 : Int32) p5.2
else
 (f_X12_jobs p5.2).bind (fun p6 =>
 (if p6.1 ≤ a65.1 then
 f_X12_goes_L65_J95 z1 z2 z1 z2 z4 a65.1 (0 : Int32) p6.2
else
 f_X12_goes_L65_J95 z1 z2 z1 z2 z4 a65.1 (1 : Int32) p6.2)))))
noncomputable def f_X12_goes_L55 (z1 : Int32) (z2 : Int32) (a55 : Int32 × sx_M) : Option ((Int32 × sx_M) ⊕ (sx_M)) :=
  (if (7 : Int32) ≤ a55.1 then
 some (.inr a55.2)
else
 (whT (f_X12_goes_L65 z1 z2 z1 z2 a55.1) ((0 : Int32), a55.2)).bind (fun b7 =>
 some (.inl ((a55.1 + (1 : Int32)), b7))))
noncomputable def f_X12_goes_J30 (y1_30 : Int32) (y2_30 : Int32) (t0_30 : Int32) (s_30 : sx_M) : Option (Int32 × sx_M) :=
  (if t0_30 = 0 then
 some ((-2 : Int32), s_30)
else
 (f_X12_remembers s_30).bind (fun p1 =>
 (if ¬ (y2_30 < 0 ∨ 58 ≤ (y2_30).toNatClampNeg) then
 (if ¬ (y2_30 < 0 ∨ 58 ≤ (y2_30).toNatClampNeg) then
 (whT (f_X12_goes_L55 y1_30 y2_30) ((0 : Int32), (wA p1 59 (y2_30).toNatClampNeg ((rA p1 59 (y2_30).toNatClampNeg) - (1 : Int32))))).bind (fun b8 =>
 (f_X12_keeps b8).bind (fun p9 =>
 (if ¬ (y2_30 < 0 ∨ 58 ≤ (y2_30).toNatClampNeg) then
 some ((rA p9.2 59 (y2_30).toNatClampNeg), p9.2)
else none)))
else none)
else none)))
noncomputable def f_X12_goes_J12 (y1_12 : Int32) (y2_12 : Int32) (s_12 : sx_M) : Option (Int32 × sx_M) :=
  (if y2_12 = (1 : Int32) then
 (f_X12_isJob y1_12 s_12).bind (fun p10 =>
 (if p10.1 = 0 then
 f_X12_goes_J30 y1_12 y2_12 (0 : Int32) p10.2
else
 f_X12_goes_J30 y1_12 y2_12 (1 : Int32) p10.2))
else
 f_X12_goes_J30 y1_12 y2_12 (0 : Int32) s_12)
noncomputable def f_X12_goes (x1 : Int32) (x2 : Int32) (s : sx_M) : Option (Int32 × sx_M) :=
  (if x2 = 0 then
 (f_X12_isWorker x1 s).bind (fun p11 =>
 (if p11.1 = 0 then
 f_X12_goes_J12 x1 x2 p11.2
else
 f_X12_goes_J30 x1 x2 (1 : Int32) p11.2))
else
 f_X12_goes_J12 x1 x2 s)
set_option maxRecDepth 100000 in
set_option maxHeartbeats 4000000 in
theorem k_X12_goes {l : Launch} {X : ax_X} {Q : Option Value → ax_H → Prop} (x1 : Int32) (x2 : Int32) (s : sx_M) (gb : ax_H) {p : Int32 × sx_M} (hf : f_X12_goes x1 x2 s = some p) (hq : Q (some (.int p.1)) (hp p.2 gb)) : AM l X yX12_goes cX12_goes 8 (some .int) 2 0 0 [.ref 58, .int x1, .int x2] (hp s gb) Q := by
  refine aw_met (own := RX12) (nm := "goes") (L := [some (.ref 58), some (.int x1), some (.int x2), none, none, none, none, none]) (by decide +kernel) rfl rfl (And.intro rfl (And.intro rfl (And.intro rfl trivial))) (Nat.le_of_ble_eq_true rfl) ?_
  unfold f_X12_goes at hf
  have J30 : ∀ (y1_30 : Int32) (y2_30 : Int32) (t0_30 : Int32) (s_30 : sx_M), f_X12_goes_J30 y1_30 y2_30 t0_30 s_30 = some p → AW l X RX12 "goes" cX12_goes 8 (some .int) (ax_rm 2 0 0) (ax_MQ X Q 0 0) 0 0 30 [some (.ref 58), some (.int y1_30), some (.int y2_30), none, none, none, none, none] [.int t0_30] (hp s_30 gb) := by
    intro y1_30 y2_30 t0_30 s_30 hf
    unfold f_X12_goes_J30 at hf
    refine aw_istore_n (L' := [some (.ref 58), some (.int y1_30), some (.int y2_30), some (.int t0_30), none, none, none, none]) dX12_goes_30 rfl (by decide) rfl ?_
    refine aw_iload_n dX12_goes_31 rfl rfl ?_
    refine aw_if_ne (tgt := 38) dX12_goes_32 (by decide) (fun hc15 => ?_) (fun hc15 => ?_)
    · have hf := ax_neg hc15 hf
      refine aw_aload_n dX12_goes_38 rfl rfl ?_
      obtain ⟨p1, hp1, hf⟩ := ax_bind hf
      refine aw_cVv (As := []) (st := []) dX12_goes_39 cl_X12_334 iv_X12_remembers (k_X12_remembers (Q := (fun v h' => v = none ∧ h' = hp p1 gb)) s_30 gb hp1 ⟨rfl, rfl⟩) (ci := 12) rfl (hp_get sh_58) rfl rfl rfl (Nat.le_of_ble_eq_true rfl) rfl (by decide) (by decide) ?_
      refine aw_aload_n dX12_goes_42 rfl rfl ?_
      refine aw_gR dX12_goes_43 fl_X12_11 sh_58 rfl ?_
      refine aw_iload_n dX12_goes_46 rfl rfl ?_
      refine aw_dup2_11 dX12_goes_47 rfl rfl ?_
      obtain ⟨hc1, hf⟩ := ax_ite hf
      refine aw_lA dX12_goes_48 sh_59 hc1 ?_
      refine aw_iconst (v := 1) dX12_goes_49 (by decide) ?_
      refine aw_isub dX12_goes_50 ?_
      obtain ⟨hc2, hf⟩ := ax_ite hf
      refine aw_sA dX12_goes_51 sh_59 hc2 ?_
      refine aw_iconst (v := 0) dX12_goes_52 (by decide) ?_
      refine aw_istore (L' := [some (.ref 58), some (.int y1_30), some (.int y2_30), some (.int t0_30), some (.int (0 : Int32)), none, none, none]) dX12_goes_53 (by decide) rfl ?_
      refine aw_less (L' := [some (.ref 58), some (.int y1_30), some (.int y2_30), none, some (.int (0 : Int32)), none, none, none]) (And.intro rfl (And.intro rfl (And.intro rfl (And.intro rfl trivial)))) ?_
      obtain ⟨b8, hb8, hf⟩ := ax_bind hf
      refine wh_go ((0 : Int32), (wA p1 59 (y2_30).toNatClampNeg ((rA p1 59 (y2_30).toNatClampNeg) - (1 : Int32)))) (fun a55 : Int32 × sx_M => AW l X RX12 "goes" cX12_goes 8 (some .int) (ax_rm 2 0 0) (ax_MQ X Q 0 0) 0 0 55 [some (.ref 58), some (.int y1_30), some (.int y2_30), none, some (.int a55.1), none, none, none] [] (hp a55.2 gb)) (fun e : sx_M => AW l X RX12 "goes" cX12_goes 8 (some .int) (ax_rm 2 0 0) (ax_MQ X Q 0 0) 0 0 186 [some (.ref 58), none, some (.int y2_30), none, none, none, none, none] [] (hp e gb)) hb8 ?_ ?_
      · intro a55 r hf hK
        unfold f_X12_goes_L55 at hf
        refine aw_iload dX12_goes_55 rfl ?_
        refine aw_bipush (v := 7) dX12_goes_57 (by decide) ?_
        refine aw_icmp_ge (tgt := 186) dX12_goes_59 (by decide) (fun hc13 => ?_) (fun hc13 => ?_)
        · have hf := ax_pos hc13 hf
          refine aw_less (L' := [some (.ref 58), none, some (.int y2_30), none, none, none, none, none]) (And.intro rfl (And.intro rfl trivial)) ?_
          cases hf
          exact hK
        · have hf := ax_neg hc13 hf
          refine aw_iconst (v := 0) dX12_goes_62 (by decide) ?_
          refine aw_istore (L' := [some (.ref 58), some (.int y1_30), some (.int y2_30), none, some (.int a55.1), some (.int (0 : Int32)), none, none]) dX12_goes_63 (by decide) rfl ?_
          obtain ⟨b7, hb7, hf⟩ := ax_bind hf
          refine wh_go ((0 : Int32), a55.2) (fun a65 : Int32 × sx_M => AW l X RX12 "goes" cX12_goes 8 (some .int) (ax_rm 2 0 0) (ax_MQ X Q 0 0) 0 0 65 [some (.ref 58), some (.int y1_30), some (.int y2_30), none, some (.int a55.1), some (.int a65.1), none, none] [] (hp a65.2 gb)) (fun e : sx_M => AW l X RX12 "goes" cX12_goes 8 (some .int) (ax_rm 2 0 0) (ax_MQ X Q 0 0) 0 0 180 [some (.ref 58), some (.int y1_30), some (.int y2_30), none, some (.int a55.1), none, none, none] [] (hp e gb)) hb7 ?_ ?_
          · intro a65 r hf hK
            unfold f_X12_goes_L65 at hf
            have J144 : ∀ (y5_144 : Int32) (y6_144 : Int32) (t0_144 : Int32) (s_144 : sx_M), f_X12_goes_L65_J144 y1_30 y2_30 y1_30 y2_30 a55.1 y5_144 y6_144 t0_144 s_144 = some r → AW l X RX12 "goes" cX12_goes 8 (some .int) (ax_rm 2 0 0) (ax_MQ X Q 0 0) 0 0 144 [some (.ref 58), some (.int y1_30), some (.int y2_30), none, some (.int a55.1), some (.int y5_144), some (.int y6_144), none] [.int t0_144] (hp s_144 gb) := by
              intro y5_144 y6_144 t0_144 s_144 hf
              unfold f_X12_goes_L65_J144 at hf
              refine aw_istore (L' := [some (.ref 58), some (.int y1_30), some (.int y2_30), none, some (.int a55.1), some (.int y5_144), some (.int y6_144), some (.int t0_144)]) dX12_goes_144 (by decide) rfl ?_
              refine aw_aload_n dX12_goes_146 rfl rfl ?_
              refine aw_gR dX12_goes_147 fl_X12_11 sh_58 rfl ?_
              refine aw_iload dX12_goes_150 rfl ?_
              refine aw_iload dX12_goes_152 rfl ?_
              obtain ⟨p2, hp2, hf⟩ := ax_bind hf
              refine aw_cSi (As := [.int a55.1, .int y5_144]) (st := [.ref 59]) dX12_goes_154 cl_X12_56 st_X12_placeOf (k_X12_placeOf (Q := (fun v h' => v = some (.int p2.1) ∧ h' = hp p2.2 gb)) a55.1 y5_144 s_144 gb hp2 ⟨rfl, rfl⟩) rfl rfl (Nat.le_of_ble_eq_true rfl) rfl (by decide) (by decide) ?_
              refine aw_iload dX12_goes_157 rfl ?_
              refine aw_if_eq (tgt := 172) dX12_goes_159 (by decide) (fun hc6 => ?_) (fun hc6 => ?_)
              · have hf := ax_pos hc6 hf
                refine aw_iconst (v := 0) dX12_goes_172 (by decide) ?_
                obtain ⟨hc3, hf⟩ := ax_ite hf
                refine aw_sA dX12_goes_173 sh_59 hc3 ?_
                refine aw_iinc (v := (y5_144 + (1 : Int32))) (L' := [some (.ref 58), some (.int y1_30), some (.int y2_30), none, some (.int a55.1), some (.int (y5_144 + (1 : Int32))), some (.int y6_144), some (.int t0_144)]) dX12_goes_174 rfl rfl (by decide) rfl ?_
                refine aw_goto (tgt := 65) dX12_goes_177 (by decide) ?_
                refine aw_less (L' := [some (.ref 58), some (.int y1_30), some (.int y2_30), none, some (.int a55.1), some (.int (y5_144 + (1 : Int32))), none, none]) (And.intro rfl (And.intro rfl (And.intro rfl (And.intro rfl (And.intro rfl trivial))))) ?_
                cases hf
                exact hK
              · have hf := ax_neg hc6 hf
                refine aw_aload_n dX12_goes_162 rfl rfl ?_
                refine aw_gR dX12_goes_163 fl_X12_53 sh_58 rfl ?_
                refine aw_iload dX12_goes_166 rfl ?_
                obtain ⟨hc4, hf⟩ := ax_ite hf
                refine aw_lA dX12_goes_168 sh_70 hc4 ?_
                refine aw_goto (tgt := 173) dX12_goes_169 (by decide) ?_
                obtain ⟨hc5, hf⟩ := ax_ite hf
                refine aw_sA dX12_goes_173 sh_59 hc5 ?_
                refine aw_iinc (v := (y5_144 + (1 : Int32))) (L' := [some (.ref 58), some (.int y1_30), some (.int y2_30), none, some (.int a55.1), some (.int (y5_144 + (1 : Int32))), some (.int y6_144), some (.int t0_144)]) dX12_goes_174 rfl rfl (by decide) rfl ?_
                refine aw_goto (tgt := 65) dX12_goes_177 (by decide) ?_
                refine aw_less (L' := [some (.ref 58), some (.int y1_30), some (.int y2_30), none, some (.int a55.1), some (.int (y5_144 + (1 : Int32))), none, none]) (And.intro rfl (And.intro rfl (And.intro rfl (And.intro rfl (And.intro rfl trivial))))) ?_
                cases hf
                exact hK
            have J141 : ∀ (y5_141 : Int32) (y6_141 : Int32) (t0_141 : Int32) (t1_141 : Int32) (s_141 : sx_M), f_X12_goes_L65_J141 y1_30 y2_30 y1_30 y2_30 a55.1 y5_141 y6_141 t0_141 t1_141 s_141 = some r → AW l X RX12 "goes" cX12_goes 8 (some .int) (ax_rm 2 0 0) (ax_MQ X Q 0 0) 0 0 141 [some (.ref 58), some (.int y1_30), some (.int y2_30), none, some (.int a55.1), some (.int y5_141), some (.int y6_141), none] [.int t1_141, .int t0_141] (hp s_141 gb) := by
              intro y5_141 y6_141 t0_141 t1_141 s_141 hf
              unfold f_X12_goes_L65_J141 at hf
              obtain ⟨p3, hp3, hf⟩ := ax_bind hf
              refine aw_cSi (As := [.int t0_141, .int t1_141]) (st := []) dX12_goes_141 cl_X12_56 st_X12_placeOf (k_X12_placeOf (Q := (fun v h' => v = some (.int p3.1) ∧ h' = hp p3.2 gb)) t0_141 t1_141 s_141 gb hp3 ⟨rfl, rfl⟩) rfl rfl (Nat.le_of_ble_eq_true rfl) rfl (by decide) (by decide) ?_
              exact J144 y5_141 y6_141 p3.1 p3.2 hf
            have J116 : ∀ (y5_116 : Int32) (y6_116 : Int32) (t0_116 : Int32) (s_116 : sx_M), f_X12_goes_L65_J116 y1_30 y2_30 y1_30 y2_30 a55.1 y5_116 y6_116 t0_116 s_116 = some r → AW l X RX12 "goes" cX12_goes 8 (some .int) (ax_rm 2 0 0) (ax_MQ X Q 0 0) 0 0 116 [some (.ref 58), some (.int y1_30), some (.int y2_30), none, some (.int a55.1), some (.int y5_116), some (.int y6_116), none] [.int t0_116] (hp s_116 gb) := by
              intro y5_116 y6_116 t0_116 s_116 hf
              unfold f_X12_goes_L65_J116 at hf
              refine aw_iload dX12_goes_116 rfl ?_
              obtain ⟨p4, hp4, hf⟩ := ax_bind hf
              refine aw_cSi (As := [.int t0_116, .int y5_116]) (st := []) dX12_goes_118 cl_X12_56 st_X12_placeOf (k_X12_placeOf (Q := (fun v h' => v = some (.int p4.1) ∧ h' = hp p4.2 gb)) t0_116 y5_116 s_116 gb hp4 ⟨rfl, rfl⟩) rfl rfl (Nat.le_of_ble_eq_true rfl) rfl (by decide) (by decide) ?_
              refine aw_goto (tgt := 144) dX12_goes_121 (by decide) ?_
              exact J144 y5_116 y6_116 p4.1 p4.2 hf
            have J95 : ∀ (y5_95 : Int32) (t0_95 : Int32) (s_95 : sx_M), f_X12_goes_L65_J95 y1_30 y2_30 y1_30 y2_30 a55.1 y5_95 t0_95 s_95 = some r → AW l X RX12 "goes" cX12_goes 8 (some .int) (ax_rm 2 0 0) (ax_MQ X Q 0 0) 0 0 95 [some (.ref 58), some (.int y1_30), some (.int y2_30), none, some (.int a55.1), some (.int y5_95), none, none] [.int t0_95] (hp s_95 gb) := by
              intro y5_95 t0_95 s_95 hf
              unfold f_X12_goes_L65_J95 at hf
              refine aw_istore (L' := [some (.ref 58), some (.int y1_30), some (.int y2_30), none, some (.int a55.1), some (.int y5_95), some (.int t0_95), none]) dX12_goes_95 (by decide) rfl ?_
              refine aw_iload_n dX12_goes_97 rfl rfl ?_
              refine aw_if_ne (tgt := 124) dX12_goes_98 (by decide) (fun hc9 => ?_) (fun hc9 => ?_)
              · have hf := ax_neg hc9 hf
                refine aw_iload dX12_goes_124 rfl ?_
                refine aw_iload dX12_goes_126 rfl ?_
                refine aw_iload_n dX12_goes_128 rfl rfl ?_
                refine aw_icmp_ge (tgt := 137) dX12_goes_129 (by decide) (fun hc7 => ?_) (fun hc7 => ?_)
                · have hf := ax_pos hc7 hf
                  refine aw_iload dX12_goes_137 rfl ?_
                  refine aw_iconst (v := 1) dX12_goes_139 (by decide) ?_
                  refine aw_iadd dX12_goes_140 ?_
                  exact J141 y5_95 t0_95 a55.1 (y5_95 + (1 : Int32)) s_95 hf
                · have hf := ax_neg hc7 hf
                  refine aw_iload dX12_goes_132 rfl ?_
                  refine aw_goto (tgt := 141) dX12_goes_134 (by decide) ?_
                  exact J141 y5_95 t0_95 a55.1 y5_95 s_95 hf
              · have hf := ax_pos hc9 hf
                refine aw_iload dX12_goes_101 rfl ?_
                refine aw_iload_n dX12_goes_103 rfl rfl ?_
                refine aw_icmp_ge (tgt := 112) dX12_goes_104 (by decide) (fun hc8 => ?_) (fun hc8 => ?_)
                · have hf := ax_pos hc8 hf
                  refine aw_iload dX12_goes_112 rfl ?_
                  refine aw_iconst (v := 1) dX12_goes_114 (by decide) ?_
                  refine aw_iadd dX12_goes_115 ?_
                  exact J116 y5_95 t0_95 (a55.1 + (1 : Int32)) s_95 hf
                · have hf := ax_neg hc8 hf
                  refine aw_iload dX12_goes_107 rfl ?_
                  refine aw_goto (tgt := 116) dX12_goes_109 (by decide) ?_
                  exact J116 y5_95 t0_95 a55.1 s_95 hf
            refine aw_iload dX12_goes_65 rfl ?_
            refine aw_bipush (v := 8) dX12_goes_67 (by decide) ?_
            refine aw_icmp_ge (tgt := 180) dX12_goes_69 (by decide) (fun hc12 => ?_) (fun hc12 => ?_)
            · have hf := ax_pos hc12 hf
              refine aw_less (L' := [some (.ref 58), some (.int y1_30), some (.int y2_30), none, some (.int a55.1), none, none, none]) (And.intro rfl (And.intro rfl (And.intro rfl (And.intro rfl trivial)))) ?_
              cases hf
              exact hK
            · have hf := ax_neg hc12 hf
              refine aw_iload dX12_goes_72 rfl ?_
              refine aw_aload_n dX12_goes_74 rfl rfl ?_
              obtain ⟨p5, hp5, hf⟩ := ax_bind hf
              refine aw_cVi (As := []) (st := [.int a55.1]) dX12_goes_75 cl_X12_60 iv_X12_workers (k_X12_workers (Q := (fun v h' => v = some (.int p5.1) ∧ h' = hp p5.2 gb)) a65.2 gb hp5 ⟨rfl, rfl⟩) (ci := 12) rfl (hp_get sh_58) rfl rfl rfl (Nat.le_of_ble_eq_true rfl) rfl (by decide) (by decide) ?_
              refine aw_icmp_ge (tgt := 94) dX12_goes_78 (by decide) (fun hc11 => ?_) (fun hc11 => ?_)
              · have hf := ax_pos hc11 hf
                refine aw_iconst (v := 0) dX12_goes_94 (by decide) ?_
                exact J95 a65.1 (0 : Int32) p5.2 hf
              · have hf := ax_neg hc11 hf
                refine aw_iload dX12_goes_81 rfl ?_
                refine aw_aload_n dX12_goes_83 rfl rfl ?_
                obtain ⟨p6, hp6, hf⟩ := ax_bind hf
                refine aw_cVi (As := []) (st := [.int a65.1]) dX12_goes_84 cl_X12_68 iv_X12_jobs (k_X12_jobs (Q := (fun v h' => v = some (.int p6.1) ∧ h' = hp p6.2 gb)) p5.2 gb hp6 ⟨rfl, rfl⟩) (ci := 12) rfl (hp_get sh_58) rfl rfl rfl (Nat.le_of_ble_eq_true rfl) rfl (by decide) (by decide) ?_
                refine aw_icmp_ge (tgt := 94) dX12_goes_87 (by decide) (fun hc10 => ?_) (fun hc10 => ?_)
                · have hf := ax_pos hc10 hf
                  refine aw_iconst (v := 0) dX12_goes_94 (by decide) ?_
                  exact J95 a65.1 (0 : Int32) p6.2 hf
                · have hf := ax_neg hc10 hf
                  refine aw_iconst (v := 1) dX12_goes_90 (by decide) ?_
                  refine aw_goto (tgt := 95) dX12_goes_91 (by decide) ?_
                  exact J95 a65.1 (1 : Int32) p6.2 hf
          · refine aw_iinc (v := (a55.1 + (1 : Int32))) (L' := [some (.ref 58), some (.int y1_30), some (.int y2_30), none, some (.int (a55.1 + (1 : Int32))), none, none, none]) dX12_goes_180 rfl rfl (by decide) rfl ?_
            refine aw_goto (tgt := 55) dX12_goes_183 (by decide) ?_
            cases hf
            exact hK
      · refine aw_aload_n dX12_goes_186 rfl rfl ?_
        obtain ⟨p9, hp9, hf⟩ := ax_bind hf
        refine aw_cVi (As := []) (st := []) dX12_goes_187 cl_X12_337 iv_X12_keeps (k_X12_keeps (Q := (fun v h' => v = some (.int p9.1) ∧ h' = hp p9.2 gb)) b8 gb hp9 ⟨rfl, rfl⟩) (ci := 12) rfl (hp_get sh_58) rfl rfl rfl (Nat.le_of_ble_eq_true rfl) rfl (by decide) (by decide) ?_
        refine aw_pop dX12_goes_190 rfl ?_
        refine aw_aload_n dX12_goes_191 rfl rfl ?_
        refine aw_gR dX12_goes_192 fl_X12_11 sh_58 rfl ?_
        refine aw_iload_n dX12_goes_195 rfl rfl ?_
        obtain ⟨hc14, hf⟩ := ax_ite hf
        refine aw_lA dX12_goes_196 sh_59 hc14 ?_
        cases hf
        exact aw_iret dX12_goes_197 hq (Nat.le_refl _) (Nat.le_refl _)
    · have hf := ax_pos hc15 hf
      refine aw_bipush (v := -2) dX12_goes_35 (by decide) ?_
      cases hf
      exact aw_iret dX12_goes_37 hq (Nat.le_refl _) (Nat.le_refl _)
  have J12 : ∀ (y1_12 : Int32) (y2_12 : Int32) (s_12 : sx_M), f_X12_goes_J12 y1_12 y2_12 s_12 = some p → AW l X RX12 "goes" cX12_goes 8 (some .int) (ax_rm 2 0 0) (ax_MQ X Q 0 0) 0 0 12 [some (.ref 58), some (.int y1_12), some (.int y2_12), none, none, none, none, none] [] (hp s_12 gb) := by
    intro y1_12 y2_12 s_12 hf
    unfold f_X12_goes_J12 at hf
    refine aw_iload_n dX12_goes_12 rfl rfl ?_
    refine aw_iconst (v := 1) dX12_goes_13 (by decide) ?_
    refine aw_icmp_ne (tgt := 29) dX12_goes_14 (by decide) (fun hc17 => ?_) (fun hc17 => ?_)
    · have hf := ax_neg hc17 hf
      refine aw_iconst (v := 0) dX12_goes_29 (by decide) ?_
      exact J30 y1_12 y2_12 (0 : Int32) s_12 hf
    · have hf := ax_pos hc17 hf
      refine aw_aload_n dX12_goes_17 rfl rfl ?_
      refine aw_iload_n dX12_goes_18 rfl rfl ?_
      obtain ⟨p10, hp10, hf⟩ := ax_bind hf
      refine aw_cVi (As := [.int y1_12]) (st := []) dX12_goes_19 cl_X12_190 iv_X12_isJob (k_X12_isJob (Q := (fun v h' => v = some (.int p10.1) ∧ h' = hp p10.2 gb)) y1_12 s_12 gb hp10 ⟨rfl, rfl⟩) (ci := 12) rfl (hp_get sh_58) rfl rfl rfl (Nat.le_of_ble_eq_true rfl) rfl (by decide) (by decide) ?_
      refine aw_if_eq (tgt := 29) dX12_goes_22 (by decide) (fun hc16 => ?_) (fun hc16 => ?_)
      · have hf := ax_pos hc16 hf
        refine aw_iconst (v := 0) dX12_goes_29 (by decide) ?_
        exact J30 y1_12 y2_12 (0 : Int32) p10.2 hf
      · have hf := ax_neg hc16 hf
        refine aw_iconst (v := 1) dX12_goes_25 (by decide) ?_
        refine aw_goto (tgt := 30) dX12_goes_26 (by decide) ?_
        exact J30 y1_12 y2_12 (1 : Int32) p10.2 hf
  refine aw_iload_n dX12_goes_0 rfl rfl ?_
  refine aw_if_ne (tgt := 12) dX12_goes_1 (by decide) (fun hc19 => ?_) (fun hc19 => ?_)
  · have hf := ax_neg hc19 hf
    exact J12 x1 x2 s hf
  · have hf := ax_pos hc19 hf
    refine aw_aload_n dX12_goes_4 rfl rfl ?_
    refine aw_iload_n dX12_goes_5 rfl rfl ?_
    obtain ⟨p11, hp11, hf⟩ := ax_bind hf
    refine aw_cVi (As := [.int x1]) (st := []) dX12_goes_6 cl_X12_187 iv_X12_isWorker (k_X12_isWorker (Q := (fun v h' => v = some (.int p11.1) ∧ h' = hp p11.2 gb)) x1 s gb hp11 ⟨rfl, rfl⟩) (ci := 12) rfl (hp_get sh_58) rfl rfl rfl (Nat.le_of_ble_eq_true rfl) rfl (by decide) (by decide) ?_
    refine aw_if_ne (tgt := 25) dX12_goes_9 (by decide) (fun hc18 => ?_) (fun hc18 => ?_)
    · have hf := ax_neg hc18 hf
      refine aw_iconst (v := 1) dX12_goes_25 (by decide) ?_
      refine aw_goto (tgt := 30) dX12_goes_26 (by decide) ?_
      exact J30 x1 x2 (1 : Int32) p11.2 hf
    · have hf := ax_pos hc18 hf
      exact J12 x1 x2 p11.2 hf
noncomputable def f_X12_turn_L25 (z1 : Int32) (z2 : Int32) (a25 : Int32 × sx_M) : Option ((Int32 × sx_M) ⊕ (sx_M)) :=
  (f_X12_jobs a25.2).bind (fun p4 =>
 (if p4.1 ≤ a25.1 then
 some (.inr p4.2)
else
 (f_X12_placeOf z1 a25.1 p4.2).bind (fun p5 =>
 (f_X12_placeOf z2 a25.1 p5.2).bind (fun p6 =>
 (if ¬ (p6.1 < 0 ∨ 58 ≤ (p6.1).toNatClampNeg) then
 (if ¬ (p5.1 < 0 ∨ 58 ≤ (p5.1).toNatClampNeg) then
 (f_X12_placeOf z2 a25.1 (wA p6.2 59 (p5.1).toNatClampNeg (rA p6.2 70 (p6.1).toNatClampNeg))).bind (fun p7 =>
 (f_X12_placeOf z1 a25.1 p7.2).bind (fun p8 =>
 (if ¬ (p8.1 < 0 ∨ 58 ≤ (p8.1).toNatClampNeg) then
 (if ¬ (p7.1 < 0 ∨ 58 ≤ (p7.1).toNatClampNeg) then
 some (.inl ((a25.1 + (1 : Int32)), (wA p8.2 59 (p7.1).toNatClampNeg (rA p8.2 70 (p8.1).toNatClampNeg))))
else none)
else none)))
else none)
else none)))))
noncomputable def f_X12_turn (x1 : Int32) (x2 : Int32) (s : sx_M) : Option (Int32 × sx_M) :=
  (f_X12_isWorker x1 s).bind (fun p1 =>
 (if p1.1 = 0 then
 some ((-2 : Int32), p1.2)
else
 (f_X12_isWorker x2 p1.2).bind (fun p2 =>
 (if p2.1 = 0 then
 some ((-2 : Int32), p2.2)
else
 (f_X12_remembers p2.2).bind (fun p3 =>
 (whT (f_X12_turn_L25 x1 x2) ((0 : Int32), p3)).bind (fun b9 =>
 (f_X12_keeps b9).bind (fun p10 =>
 (if p10.1 = 0 then
 some ((0 : Int32), p10.2)
else
 some ((1 : Int32), p10.2)))))))))
set_option maxRecDepth 100000 in
set_option maxHeartbeats 4000000 in
theorem k_X12_turn {l : Launch} {X : ax_X} {Q : Option Value → ax_H → Prop} (x1 : Int32) (x2 : Int32) (s : sx_M) (gb : ax_H) {p : Int32 × sx_M} (hf : f_X12_turn x1 x2 s = some p) (hq : Q (some (.int p.1)) (hp p.2 gb)) : AM l X yX12_turn cX12_turn 4 (some .int) 2 0 0 [.ref 58, .int x1, .int x2] (hp s gb) Q := by
  refine aw_met (own := RX12) (nm := "turn") (L := [some (.ref 58), some (.int x1), some (.int x2), none]) (by decide +kernel) rfl rfl (And.intro rfl (And.intro rfl (And.intro rfl trivial))) (Nat.le_of_ble_eq_true rfl) ?_
  unfold f_X12_turn at hf
  refine aw_aload_n dX12_turn_0 rfl rfl ?_
  refine aw_iload_n dX12_turn_1 rfl rfl ?_
  obtain ⟨p1, hp1, hf⟩ := ax_bind hf
  refine aw_cVi (As := [.int x1]) (st := []) dX12_turn_2 cl_X12_187 iv_X12_isWorker (k_X12_isWorker (Q := (fun v h' => v = some (.int p1.1) ∧ h' = hp p1.2 gb)) x1 s gb hp1 ⟨rfl, rfl⟩) (ci := 12) rfl (hp_get sh_58) rfl rfl rfl (Nat.le_of_ble_eq_true rfl) rfl (by decide) (by decide) ?_
  refine aw_if_eq (tgt := 16) dX12_turn_5 (by decide) (fun hc8 => ?_) (fun hc8 => ?_)
  · have hf := ax_pos hc8 hf
    refine aw_bipush (v := -2) dX12_turn_16 (by decide) ?_
    cases hf
    exact aw_iret dX12_turn_18 hq (Nat.le_refl _) (Nat.le_refl _)
  · have hf := ax_neg hc8 hf
    refine aw_aload_n dX12_turn_8 rfl rfl ?_
    refine aw_iload_n dX12_turn_9 rfl rfl ?_
    obtain ⟨p2, hp2, hf⟩ := ax_bind hf
    refine aw_cVi (As := [.int x2]) (st := []) dX12_turn_10 cl_X12_187 iv_X12_isWorker (k_X12_isWorker (Q := (fun v h' => v = some (.int p2.1) ∧ h' = hp p2.2 gb)) x2 p1.2 gb hp2 ⟨rfl, rfl⟩) (ci := 12) rfl (hp_get sh_58) rfl rfl rfl (Nat.le_of_ble_eq_true rfl) rfl (by decide) (by decide) ?_
    refine aw_if_ne (tgt := 19) dX12_turn_13 (by decide) (fun hc7 => ?_) (fun hc7 => ?_)
    · have hf := ax_neg hc7 hf
      refine aw_aload_n dX12_turn_19 rfl rfl ?_
      obtain ⟨p3, hp3, hf⟩ := ax_bind hf
      refine aw_cVv (As := []) (st := []) dX12_turn_20 cl_X12_334 iv_X12_remembers (k_X12_remembers (Q := (fun v h' => v = none ∧ h' = hp p3 gb)) p2.2 gb hp3 ⟨rfl, rfl⟩) (ci := 12) rfl (hp_get sh_58) rfl rfl rfl (Nat.le_of_ble_eq_true rfl) rfl (by decide) (by decide) ?_
      refine aw_iconst (v := 0) dX12_turn_23 (by decide) ?_
      refine aw_istore_n (L' := [some (.ref 58), some (.int x1), some (.int x2), some (.int (0 : Int32))]) dX12_turn_24 rfl (by decide) rfl ?_
      obtain ⟨b9, hb9, hf⟩ := ax_bind hf
      refine wh_go ((0 : Int32), p3) (fun a25 : Int32 × sx_M => AW l X RX12 "turn" cX12_turn 4 (some .int) (ax_rm 2 0 0) (ax_MQ X Q 0 0) 0 0 25 [some (.ref 58), some (.int x1), some (.int x2), some (.int a25.1)] [] (hp a25.2 gb)) (fun e : sx_M => AW l X RX12 "turn" cX12_turn 4 (some .int) (ax_rm 2 0 0) (ax_MQ X Q 0 0) 0 0 79 [some (.ref 58), none, none, none] [] (hp e gb)) hb9 ?_ ?_
      · intro a25 r hf hK
        unfold f_X12_turn_L25 at hf
        refine aw_iload_n dX12_turn_25 rfl rfl ?_
        refine aw_aload_n dX12_turn_26 rfl rfl ?_
        obtain ⟨p4, hp4, hf⟩ := ax_bind hf
        refine aw_cVi (As := []) (st := [.int a25.1]) dX12_turn_27 cl_X12_68 iv_X12_jobs (k_X12_jobs (Q := (fun v h' => v = some (.int p4.1) ∧ h' = hp p4.2 gb)) a25.2 gb hp4 ⟨rfl, rfl⟩) (ci := 12) rfl (hp_get sh_58) rfl rfl rfl (Nat.le_of_ble_eq_true rfl) rfl (by decide) (by decide) ?_
        refine aw_icmp_ge (tgt := 79) dX12_turn_30 (by decide) (fun hc5 => ?_) (fun hc5 => ?_)
        · have hf := ax_pos hc5 hf
          refine aw_less (L' := [some (.ref 58), none, none, none]) (And.intro rfl trivial) ?_
          cases hf
          exact hK
        · have hf := ax_neg hc5 hf
          refine aw_aload_n dX12_turn_33 rfl rfl ?_
          refine aw_gR dX12_turn_34 fl_X12_11 sh_58 rfl ?_
          refine aw_iload_n dX12_turn_37 rfl rfl ?_
          refine aw_iload_n dX12_turn_38 rfl rfl ?_
          obtain ⟨p5, hp5, hf⟩ := ax_bind hf
          refine aw_cSi (As := [.int x1, .int a25.1]) (st := [.ref 59]) dX12_turn_39 cl_X12_56 st_X12_placeOf (k_X12_placeOf (Q := (fun v h' => v = some (.int p5.1) ∧ h' = hp p5.2 gb)) x1 a25.1 p4.2 gb hp5 ⟨rfl, rfl⟩) rfl rfl (Nat.le_of_ble_eq_true rfl) rfl (by decide) (by decide) ?_
          refine aw_aload_n dX12_turn_42 rfl rfl ?_
          refine aw_gR dX12_turn_43 fl_X12_53 sh_58 rfl ?_
          refine aw_iload_n dX12_turn_46 rfl rfl ?_
          refine aw_iload_n dX12_turn_47 rfl rfl ?_
          obtain ⟨p6, hp6, hf⟩ := ax_bind hf
          refine aw_cSi (As := [.int x2, .int a25.1]) (st := [.ref 70, .int p5.1, .ref 59]) dX12_turn_48 cl_X12_56 st_X12_placeOf (k_X12_placeOf (Q := (fun v h' => v = some (.int p6.1) ∧ h' = hp p6.2 gb)) x2 a25.1 p5.2 gb hp6 ⟨rfl, rfl⟩) rfl rfl (Nat.le_of_ble_eq_true rfl) rfl (by decide) (by decide) ?_
          obtain ⟨hc1, hf⟩ := ax_ite hf
          refine aw_lA dX12_turn_51 sh_70 hc1 ?_
          obtain ⟨hc2, hf⟩ := ax_ite hf
          refine aw_sA dX12_turn_52 sh_59 hc2 ?_
          refine aw_aload_n dX12_turn_53 rfl rfl ?_
          refine aw_gR dX12_turn_54 fl_X12_11 sh_58 rfl ?_
          refine aw_iload_n dX12_turn_57 rfl rfl ?_
          refine aw_iload_n dX12_turn_58 rfl rfl ?_
          obtain ⟨p7, hp7, hf⟩ := ax_bind hf
          refine aw_cSi (As := [.int x2, .int a25.1]) (st := [.ref 59]) dX12_turn_59 cl_X12_56 st_X12_placeOf (k_X12_placeOf (Q := (fun v h' => v = some (.int p7.1) ∧ h' = hp p7.2 gb)) x2 a25.1 (wA p6.2 59 (p5.1).toNatClampNeg (rA p6.2 70 (p6.1).toNatClampNeg)) gb hp7 ⟨rfl, rfl⟩) rfl rfl (Nat.le_of_ble_eq_true rfl) rfl (by decide) (by decide) ?_
          refine aw_aload_n dX12_turn_62 rfl rfl ?_
          refine aw_gR dX12_turn_63 fl_X12_53 sh_58 rfl ?_
          refine aw_iload_n dX12_turn_66 rfl rfl ?_
          refine aw_iload_n dX12_turn_67 rfl rfl ?_
          obtain ⟨p8, hp8, hf⟩ := ax_bind hf
          refine aw_cSi (As := [.int x1, .int a25.1]) (st := [.ref 70, .int p7.1, .ref 59]) dX12_turn_68 cl_X12_56 st_X12_placeOf (k_X12_placeOf (Q := (fun v h' => v = some (.int p8.1) ∧ h' = hp p8.2 gb)) x1 a25.1 p7.2 gb hp8 ⟨rfl, rfl⟩) rfl rfl (Nat.le_of_ble_eq_true rfl) rfl (by decide) (by decide) ?_
          obtain ⟨hc3, hf⟩ := ax_ite hf
          refine aw_lA dX12_turn_71 sh_70 hc3 ?_
          obtain ⟨hc4, hf⟩ := ax_ite hf
          refine aw_sA dX12_turn_72 sh_59 hc4 ?_
          refine aw_iinc (v := (a25.1 + (1 : Int32))) (L' := [some (.ref 58), some (.int x1), some (.int x2), some (.int (a25.1 + (1 : Int32)))]) dX12_turn_73 rfl rfl (by decide) rfl ?_
          refine aw_goto (tgt := 25) dX12_turn_76 (by decide) ?_
          cases hf
          exact hK
      · refine aw_aload_n dX12_turn_79 rfl rfl ?_
        obtain ⟨p10, hp10, hf⟩ := ax_bind hf
        refine aw_cVi (As := []) (st := []) dX12_turn_80 cl_X12_337 iv_X12_keeps (k_X12_keeps (Q := (fun v h' => v = some (.int p10.1) ∧ h' = hp p10.2 gb)) b9 gb hp10 ⟨rfl, rfl⟩) (ci := 12) rfl (hp_get sh_58) rfl rfl rfl (Nat.le_of_ble_eq_true rfl) rfl (by decide) (by decide) ?_
        refine aw_if_eq (tgt := 90) dX12_turn_83 (by decide) (fun hc6 => ?_) (fun hc6 => ?_)
        · have hf := ax_pos hc6 hf
          refine aw_iconst (v := 0) dX12_turn_90 (by decide) ?_
          cases hf
          exact aw_iret dX12_turn_91 hq (Nat.le_refl _) (Nat.le_refl _)
        · have hf := ax_neg hc6 hf
          refine aw_iconst (v := 1) dX12_turn_86 (by decide) ?_
          refine aw_goto (tgt := 91) dX12_turn_87 (by decide) ?_
          cases hf
          exact aw_iret dX12_turn_91 hq (Nat.le_refl _) (Nat.le_refl _)
    · have hf := ax_pos hc7 hf
      refine aw_bipush (v := -2) dX12_turn_16 (by decide) ?_
      cases hf
      exact aw_iret dX12_turn_18 hq (Nat.le_refl _) (Nat.le_refl _)
noncomputable def f_X12_undo_L21 (a21 : Int32 × sx_M) : Option ((Int32 × sx_M) ⊕ (sx_M)) :=
  (if (58 : Int32) ≤ a21.1 then
 some (.inr a21.2)
else
 (if ¬ ((((58 : Int32) * (rI a21.2 58 2)) + a21.1) < 0 ∨ 580 ≤ ((((58 : Int32) * (rI a21.2 58 2)) + a21.1)).toNatClampNeg) then
 (if ¬ (a21.1 < 0 ∨ 58 ≤ (a21.1).toNatClampNeg) then
 some (.inl ((a21.1 + (1 : Int32)), (wA a21.2 59 (a21.1).toNatClampNeg (rA a21.2 60 ((((58 : Int32) * (rI a21.2 58 2)) + a21.1)).toNatClampNeg))))
else none)
else none))
noncomputable def f_X12_undo (s : sx_M) : Option (Int32 × sx_M) :=
  (if (rI s 58 2) = 0 then
 some ((-1 : Int32), s)
else
 (whT (f_X12_undo_L21) ((0 : Int32), (wI s 58 2 ((rI s 58 2) - (1 : Int32))))).bind (fun b1 =>
 some ((rI b1 58 2), b1)))
set_option maxRecDepth 100000 in
set_option maxHeartbeats 4000000 in
theorem k_X12_undo {l : Launch} {X : ax_X} {Q : Option Value → ax_H → Prop} (s : sx_M) (gb : ax_H) {p : Int32 × sx_M} (hf : f_X12_undo s = some p) (hq : Q (some (.int p.1)) (hp p.2 gb)) : AM l X yX12_undo cX12_undo 2 (some .int) 0 0 0 [.ref 58] (hp s gb) Q := by
  refine aw_met (own := RX12) (nm := "undo") (L := [some (.ref 58), none]) (by decide +kernel) rfl rfl (And.intro rfl trivial) (Nat.le_of_ble_eq_true rfl) ?_
  unfold f_X12_undo at hf
  refine aw_aload_n dX12_undo_0 rfl rfl ?_
  refine aw_gI dX12_undo_1 fl_X12_147 sh_58 rfl ?_
  refine aw_if_ne (tgt := 9) dX12_undo_4 (by decide) (fun hc4 => ?_) (fun hc4 => ?_)
  · have hf := ax_neg hc4 hf
    refine aw_aload_n dX12_undo_9 rfl rfl ?_
    refine aw_dup dX12_undo_10 rfl ?_
    refine aw_gI dX12_undo_11 fl_X12_147 sh_58 rfl ?_
    refine aw_iconst (v := 1) dX12_undo_14 (by decide) ?_
    refine aw_isub dX12_undo_15 ?_
    refine aw_pI dX12_undo_16 fp_X12_147 sh_58 rfl rfl rfl ?_
    refine aw_iconst (v := 0) dX12_undo_19 (by decide) ?_
    refine aw_istore_n (L' := [some (.ref 58), some (.int (0 : Int32))]) dX12_undo_20 rfl (by decide) rfl ?_
    obtain ⟨b1, hb1, hf⟩ := ax_bind hf
    refine wh_go ((0 : Int32), (wI s 58 2 ((rI s 58 2) - (1 : Int32)))) (fun a21 : Int32 × sx_M => AW l X RX12 "undo" cX12_undo 2 (some .int) (ax_rm 0 0 0) (ax_MQ X Q 0 0) 0 0 21 [some (.ref 58), some (.int a21.1)] [] (hp a21.2 gb)) (fun e : sx_M => AW l X RX12 "undo" cX12_undo 2 (some .int) (ax_rm 0 0 0) (ax_MQ X Q 0 0) 0 0 53 [some (.ref 58), none] [] (hp e gb)) hb1 ?_ ?_
    · intro a21 r hf hK
      unfold f_X12_undo_L21 at hf
      refine aw_iload_n dX12_undo_21 rfl rfl ?_
      refine aw_bipush (v := 58) dX12_undo_22 (by decide) ?_
      refine aw_icmp_ge (tgt := 53) dX12_undo_24 (by decide) (fun hc3 => ?_) (fun hc3 => ?_)
      · have hf := ax_pos hc3 hf
        refine aw_less (L' := [some (.ref 58), none]) (And.intro rfl trivial) ?_
        cases hf
        exact hK
      · have hf := ax_neg hc3 hf
        refine aw_aload_n dX12_undo_27 rfl rfl ?_
        refine aw_gR dX12_undo_28 fl_X12_11 sh_58 rfl ?_
        refine aw_iload_n dX12_undo_31 rfl rfl ?_
        refine aw_aload_n dX12_undo_32 rfl rfl ?_
        refine aw_gR dX12_undo_33 fl_X12_17 sh_58 rfl ?_
        refine aw_bipush (v := 58) dX12_undo_36 (by decide) ?_
        refine aw_aload_n dX12_undo_38 rfl rfl ?_
        refine aw_gI dX12_undo_39 fl_X12_147 sh_58 rfl ?_
        refine aw_imul dX12_undo_42 ?_
        refine aw_iload_n dX12_undo_43 rfl rfl ?_
        refine aw_iadd dX12_undo_44 ?_
        obtain ⟨hc1, hf⟩ := ax_ite hf
        refine aw_lA dX12_undo_45 sh_60 hc1 ?_
        obtain ⟨hc2, hf⟩ := ax_ite hf
        refine aw_sA dX12_undo_46 sh_59 hc2 ?_
        refine aw_iinc (v := (a21.1 + (1 : Int32))) (L' := [some (.ref 58), some (.int (a21.1 + (1 : Int32)))]) dX12_undo_47 rfl rfl (by decide) rfl ?_
        refine aw_goto (tgt := 21) dX12_undo_50 (by decide) ?_
        cases hf
        exact hK
    · refine aw_aload_n dX12_undo_53 rfl rfl ?_
      refine aw_gI dX12_undo_54 fl_X12_147 sh_58 rfl ?_
      cases hf
      exact aw_iret dX12_undo_57 hq (Nat.le_refl _) (Nat.le_refl _)
  · have hf := ax_pos hc4 hf
    refine aw_iconst (v := -1) dX12_undo_7 (by decide) ?_
    cases hf
    exact aw_iret dX12_undo_8 hq (Nat.le_refl _) (Nat.le_refl _)
