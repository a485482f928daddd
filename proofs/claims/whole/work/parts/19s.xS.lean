noncomputable def f_X11_table (s : sx_M) : Option (Int32 × sx_M) :=
  (f_X6_read s).bind (fun p1 =>
 (f_X9_cut (0 : Int32) p1.2).bind (fun p2 =>
 (if p1.1 = 0 then
 some ((-4 : Int32), p2.2)
else
 (f_X1_copy 3 13 p2.2).bind (fun p3 =>
 (f_X2_clear p3).bind (fun p4 =>
 (f_X11_changed p4).bind (fun p5 =>
 some ((rI p5 3 1), p5)))))))
set_option maxRecDepth 100000 in
set_option maxHeartbeats 4000000 in
theorem k_X11_table {l : Launch} {X : ax_X} {Q : Option Value → ax_H → Prop} (s : sx_M) (gb : ax_H) {p : Int32 × sx_M} (hf : f_X11_table s = some p) (hq : Q (some (.int p.1)) (hp p.2 gb)) : AM l X yX11_table cX11_table 2 (some .int) 9 0 0 [.ref 0] (hp s gb) Q := by
  refine aw_met (own := RX11) (nm := "table") (L := [some (.ref 0), none]) (by decide +kernel) rfl rfl (And.intro rfl trivial) (Nat.le_of_ble_eq_true rfl) ?_
  unfold f_X11_table at hf
  refine aw_aload_n dX11_table_0 rfl rfl ?_
  refine aw_gR dX11_table_1 fl_X11_54 sh_0 rfl ?_
  obtain ⟨p1, hp1, hf⟩ := ax_bind hf
  refine aw_cVi (As := []) (st := []) dX11_table_4 cl_X11_127 iv_X6_read (k_X6_read (Q := (fun v h' => v = some (.int p1.1) ∧ h' = hp p1.2 gb)) s gb hp1 ⟨rfl, rfl⟩) (ci := 6) rfl (hp_get sh_19) rfl rfl rfl (Nat.le_of_ble_eq_true rfl) rfl (by decide) (by decide) ?_
  refine aw_istore_n (L' := [some (.ref 0), some (.int p1.1)]) dX11_table_7 rfl (by decide) rfl ?_
  refine aw_aload_n dX11_table_8 rfl rfl ?_
  refine aw_gR dX11_table_9 fl_X11_14 sh_0 rfl ?_
  refine aw_iconst (v := 0) dX11_table_12 (by decide) ?_
  obtain ⟨p2, hp2, hf⟩ := ax_bind hf
  refine aw_cVi (As := [.int (0 : Int32)]) (st := []) dX11_table_13 cl_X11_124 iv_X9_cut (k_X9_cut (Q := (fun v h' => v = some (.int p2.1) ∧ h' = hp p2.2 gb)) (0 : Int32) p1.2 gb hp2 ⟨rfl, rfl⟩) (ci := 9) rfl (hp_get sh_1) rfl rfl rfl (Nat.le_of_ble_eq_true rfl) rfl (by decide) (by decide) ?_
  refine aw_pop dX11_table_16 rfl ?_
  refine aw_iload_n dX11_table_17 rfl rfl ?_
  refine aw_if_ne (tgt := 24) dX11_table_18 (by decide) (fun hc1 => ?_) (fun hc1 => ?_)
  · have hf := ax_neg hc1 hf
    refine aw_aload_n dX11_table_24 rfl rfl ?_
    refine aw_gR dX11_table_25 fl_X11_21 sh_0 rfl ?_
    refine aw_aload_n dX11_table_28 rfl rfl ?_
    refine aw_gR dX11_table_29 fl_X11_43 sh_0 rfl ?_
    obtain ⟨p3, hp3, hf⟩ := ax_bind hf
    refine aw_cVv (As := [.ref 13]) (st := []) dX11_table_32 cl_X11_131 iv_X1_copy (k_X1_copy (Q := (fun v h' => v = none ∧ h' = hp p3 gb)) 3 13 p2.2 gb ax_G3 ax_G13 hp3 ⟨rfl, rfl⟩) (ci := 1) rfl (hp_get sh_3) rfl rfl rfl (Nat.le_of_ble_eq_true rfl) rfl (by decide) (by decide) ?_
    refine aw_aload_n dX11_table_35 rfl rfl ?_
    refine aw_gR dX11_table_36 fl_X11_61 sh_0 rfl ?_
    obtain ⟨p4, hp4, hf⟩ := ax_bind hf
    refine aw_cVv (As := []) (st := []) dX11_table_39 cl_X11_134 iv_X2_clear (k_X2_clear (Q := (fun v h' => v = none ∧ h' = hp p4 gb)) p3 gb hp4 ⟨rfl, rfl⟩) (ci := 2) rfl (hp_get sh_20) rfl rfl rfl (Nat.le_of_ble_eq_true rfl) rfl (by decide) (by decide) ?_
    refine aw_aload_n dX11_table_42 rfl rfl ?_
    obtain ⟨p5, hp5, hf⟩ := ax_bind hf
    refine aw_cVv (As := []) (st := []) dX11_table_43 cl_X11_137 iv_X11_changed (k_X11_changed (Q := (fun v h' => v = none ∧ h' = hp p5 gb)) p4 gb hp5 ⟨rfl, rfl⟩) (ci := 11) rfl (hp_get sh_0) rfl rfl rfl (Nat.le_of_ble_eq_true rfl) rfl (by decide) (by decide) ?_
    refine aw_aload_n dX11_table_46 rfl rfl ?_
    refine aw_gR dX11_table_47 fl_X11_21 sh_0 rfl ?_
    refine aw_gI dX11_table_50 fl_X11_140 sh_3 rfl ?_
    cases hf
    exact aw_iret dX11_table_53 hq (Nat.le_refl _) (Nat.le_refl _)
  · have hf := ax_pos hc1 hf
    refine aw_bipush (v := -4) dX11_table_21 (by decide) ?_
    cases hf
    exact aw_iret dX11_table_23 hq (Nat.le_refl _) (Nat.le_refl _)
