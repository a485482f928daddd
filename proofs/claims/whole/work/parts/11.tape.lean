noncomputable def f_X9_at (x1 : Int32) (s : sx_M) : Option (Int32 × sx_M) :=
  (if x1 < 0 then
 some ((-1 : Int32), s)
else
 (if (rI s 1 1) ≤ x1 then
 some ((-1 : Int32), s)
else
 (if ¬ (x1 < 0 ∨ 600 ≤ (x1).toNatClampNeg) then
 some (((rA s 2 (x1).toNatClampNeg) &&& (255 : Int32)), s)
else none)))
set_option maxRecDepth 100000 in
set_option maxHeartbeats 4000000 in
theorem k_X9_at {l : Launch} {X : ax_X} {Q : Option Value → ax_H → Prop} (x1 : Int32) (s : sx_M) (gb : ax_H) {p : Int32 × sx_M} (hf : f_X9_at x1 s = some p) (hq : Q (some (.int p.1)) (hp p.2 gb)) : AM l X yX9_at cX9_at 2 (some .int) 0 0 0 [.ref 1, .int x1] (hp s gb) Q := by
  refine aw_met (own := RX9) (nm := "at") (L := [some (.ref 1), some (.int x1)]) (by decide +kernel) rfl rfl (And.intro rfl (And.intro rfl trivial)) (Nat.le_of_ble_eq_true rfl) ?_
  unfold f_X9_at at hf
  refine aw_iload_n dX9_at_0 rfl rfl ?_
  refine aw_if_lt (tgt := 25) dX9_at_1 (by decide) (fun hc3 => ?_) (fun hc3 => ?_)
  · have hf := ax_pos hc3 hf
    refine aw_iconst (v := -1) dX9_at_25 (by decide) ?_
    cases hf
    exact aw_iret dX9_at_26 hq (Nat.le_refl _) (Nat.le_refl _)
  · have hf := ax_neg hc3 hf
    refine aw_iload_n dX9_at_4 rfl rfl ?_
    refine aw_aload_n dX9_at_5 rfl rfl ?_
    refine aw_gI dX9_at_6 fl_X9_15 sh_1 rfl ?_
    refine aw_icmp_ge (tgt := 25) dX9_at_9 (by decide) (fun hc2 => ?_) (fun hc2 => ?_)
    · have hf := ax_pos hc2 hf
      refine aw_iconst (v := -1) dX9_at_25 (by decide) ?_
      cases hf
      exact aw_iret dX9_at_26 hq (Nat.le_refl _) (Nat.le_refl _)
    · have hf := ax_neg hc2 hf
      refine aw_aload_n dX9_at_12 rfl rfl ?_
      refine aw_gR dX9_at_13 fl_X9_11 sh_1 rfl ?_
      refine aw_iload_n dX9_at_16 rfl rfl ?_
      obtain ⟨hc1, hf⟩ := ax_ite hf
      refine aw_lAb dX9_at_17 sh_2 hc1 ?_
      refine aw_sipush (v := 255) dX9_at_18 (by decide) ?_
      refine aw_iand dX9_at_21 ?_
      refine aw_goto (tgt := 26) dX9_at_22 (by decide) ?_
      cases hf
      exact aw_iret dX9_at_26 hq (Nat.le_refl _) (Nat.le_refl _)
noncomputable def f_X9_hasRoom (x1 : Int32) (s : sx_M) : Option (Int32 × sx_M) :=
  (if (600 : Int32) < ((rI s 1 1) + x1) then
 some ((0 : Int32), s)
else
 some ((1 : Int32), s))
set_option maxRecDepth 100000 in
set_option maxHeartbeats 4000000 in
theorem k_X9_hasRoom {l : Launch} {X : ax_X} {Q : Option Value → ax_H → Prop} (x1 : Int32) (s : sx_M) (gb : ax_H) {p : Int32 × sx_M} (hf : f_X9_hasRoom x1 s = some p) (hq : Q (some (.int p.1)) (hp p.2 gb)) : AM l X yX9_hasRoom cX9_hasRoom 2 (some .boolean) 0 0 0 [.ref 1, .int x1] (hp s gb) Q := by
  refine aw_met (own := RX9) (nm := "hasRoom") (L := [some (.ref 1), some (.int x1)]) (by decide +kernel) rfl rfl (And.intro rfl (And.intro rfl trivial)) (Nat.le_of_ble_eq_true rfl) ?_
  unfold f_X9_hasRoom at hf
  refine aw_aload_n dX9_hasRoom_0 rfl rfl ?_
  refine aw_gI dX9_hasRoom_1 fl_X9_15 sh_1 rfl ?_
  refine aw_iload_n dX9_hasRoom_4 rfl rfl ?_
  refine aw_iadd dX9_hasRoom_5 ?_
  refine aw_sipush (v := 600) dX9_hasRoom_6 (by decide) ?_
  refine aw_icmp_gt (tgt := 16) dX9_hasRoom_9 (by decide) (fun hc1 => ?_) (fun hc1 => ?_)
  · have hf := ax_pos hc1 hf
    refine aw_iconst (v := 0) dX9_hasRoom_16 (by decide) ?_
    cases hf
    exact aw_zret dX9_hasRoom_17 (by decide) hq (Nat.le_refl _) (Nat.le_refl _)
  · have hf := ax_neg hc1 hf
    refine aw_iconst (v := 1) dX9_hasRoom_12 (by decide) ?_
    refine aw_goto (tgt := 17) dX9_hasRoom_13 (by decide) ?_
    cases hf
    exact aw_zret dX9_hasRoom_17 (by decide) hq (Nat.le_refl _) (Nat.le_refl _)
noncomputable def f_X9_addNumber_L3 (z1 : Int32) (a3 : Int32 × sx_M) : Option ((Int32 × sx_M) ⊕ (sx_M)) :=
  (if a3.1 < 0 then
 some (.inr a3.2)
else
 (if (600 : Int32) ≤ (rI a3.2 1 1) then
 some (.inr a3.2)
else
 (if ¬ ((rI a3.2 1 1) < 0 ∨ 600 ≤ ((rI a3.2 1 1)).toNatClampNeg) then
 some (.inl ((a3.1 + (-8 : Int32)), (wI (wA a3.2 2 ((rI a3.2 1 1)).toNatClampNeg (vp_nar .byte (((z1 >>> (a3.1 &&& 31))).toInt8.toInt32))) 1 1 ((rI (wA a3.2 2 ((rI a3.2 1 1)).toNatClampNeg (vp_nar .byte (((z1 >>> (a3.1 &&& 31))).toInt8.toInt32))) 1 1) + (1 : Int32)))))
else none)))
noncomputable def f_X9_addNumber (x1 : Int32) (s : sx_M) : Option sx_M :=
  (whT (f_X9_addNumber_L3 x1) ((24 : Int32), s)).bind (fun b1 =>
 some b1)
set_option maxRecDepth 100000 in
set_option maxHeartbeats 4000000 in
theorem k_X9_addNumber {l : Launch} {X : ax_X} {Q : Option Value → ax_H → Prop} (x1 : Int32) (s : sx_M) (gb : ax_H) {p : sx_M} (hf : f_X9_addNumber x1 s = some p) (hq : Q (none) (hp p gb)) : AM l X yX9_addNumber cX9_addNumber 3 none 0 0 0 [.ref 1, .int x1] (hp s gb) Q := by
  refine aw_met (own := RX9) (nm := "addNumber") (L := [some (.ref 1), some (.int x1), none]) (by decide +kernel) rfl rfl (And.intro rfl (And.intro rfl trivial)) (Nat.le_of_ble_eq_true rfl) ?_
  unfold f_X9_addNumber at hf
  refine aw_bipush (v := 24) dX9_addNumber_0 (by decide) ?_
  refine aw_istore_n (L' := [some (.ref 1), some (.int x1), some (.int (24 : Int32))]) dX9_addNumber_2 rfl (by decide) rfl ?_
  obtain ⟨b1, hb1, hf⟩ := ax_bind hf
  refine wh_go ((24 : Int32), s) (fun a3 : Int32 × sx_M => AW l X RX9 "addNumber" cX9_addNumber 3 none (ax_rm 0 0 0) (ax_MQ X Q 0 0) 0 0 3 [some (.ref 1), some (.int x1), some (.int a3.1)] [] (hp a3.2 gb)) (fun e : sx_M => AW l X RX9 "addNumber" cX9_addNumber 3 none (ax_rm 0 0 0) (ax_MQ X Q 0 0) 0 0 46 [none, none, none] [] (hp e gb)) hb1 ?_ ?_
  · intro a3 r hf hK
    unfold f_X9_addNumber_L3 at hf
    refine aw_iload_n dX9_addNumber_3 rfl rfl ?_
    refine aw_if_lt (tgt := 46) dX9_addNumber_4 (by decide) (fun hc3 => ?_) (fun hc3 => ?_)
    · have hf := ax_pos hc3 hf
      refine aw_less (L' := [none, none, none]) trivial ?_
      cases hf
      exact hK
    · have hf := ax_neg hc3 hf
      refine aw_aload_n dX9_addNumber_7 rfl rfl ?_
      refine aw_gI dX9_addNumber_8 fl_X9_15 sh_1 rfl ?_
      refine aw_sipush (v := 600) dX9_addNumber_11 (by decide) ?_
      refine aw_icmp_ge (tgt := 46) dX9_addNumber_14 (by decide) (fun hc2 => ?_) (fun hc2 => ?_)
      · have hf := ax_pos hc2 hf
        refine aw_less (L' := [none, none, none]) trivial ?_
        cases hf
        exact hK
      · have hf := ax_neg hc2 hf
        refine aw_aload_n dX9_addNumber_17 rfl rfl ?_
        refine aw_gR dX9_addNumber_18 fl_X9_11 sh_1 rfl ?_
        refine aw_aload_n dX9_addNumber_21 rfl rfl ?_
        refine aw_gI dX9_addNumber_22 fl_X9_15 sh_1 rfl ?_
        refine aw_iload_n dX9_addNumber_25 rfl rfl ?_
        refine aw_iload_n dX9_addNumber_26 rfl rfl ?_
        refine aw_ishr dX9_addNumber_27 ?_
        refine aw_i2b dX9_addNumber_28 ?_
        obtain ⟨hc1, hf⟩ := ax_ite hf
        refine aw_sAb dX9_addNumber_29 sh_2 hc1 ?_
        refine aw_aload_n dX9_addNumber_30 rfl rfl ?_
        refine aw_dup dX9_addNumber_31 rfl ?_
        refine aw_gI dX9_addNumber_32 fl_X9_15 sh_1 rfl ?_
        refine aw_iconst (v := 1) dX9_addNumber_35 (by decide) ?_
        refine aw_iadd dX9_addNumber_36 ?_
        refine aw_pI dX9_addNumber_37 fp_X9_15 sh_1 rfl rfl rfl ?_
        refine aw_iinc (v := (a3.1 + (-8 : Int32))) (L' := [some (.ref 1), some (.int x1), some (.int (a3.1 + (-8 : Int32)))]) dX9_addNumber_40 rfl rfl (by decide) rfl ?_
        refine aw_goto (tgt := 3) dX9_addNumber_43 (by decide) ?_
        cases hf
        exact hK
  · cases hf
    exact aw_vret dX9_addNumber_46 hq (Nat.le_refl _) (Nat.le_refl _)
noncomputable def f_X9_cut (x1 : Int32) (s : sx_M) : Option (Int32 × sx_M) :=
  (if x1 < 0 then
 some ((0 : Int32), s)
else
 (if x1 ≤ (rI s 1 1) then
 some ((1 : Int32), (wI s 1 1 x1))
else
 some ((0 : Int32), s)))
set_option maxRecDepth 100000 in
set_option maxHeartbeats 4000000 in
theorem k_X9_cut {l : Launch} {X : ax_X} {Q : Option Value → ax_H → Prop} (x1 : Int32) (s : sx_M) (gb : ax_H) {p : Int32 × sx_M} (hf : f_X9_cut x1 s = some p) (hq : Q (some (.int p.1)) (hp p.2 gb)) : AM l X yX9_cut cX9_cut 2 (some .boolean) 0 0 0 [.ref 1, .int x1] (hp s gb) Q := by
  refine aw_met (own := RX9) (nm := "cut") (L := [some (.ref 1), some (.int x1)]) (by decide +kernel) rfl rfl (And.intro rfl (And.intro rfl trivial)) (Nat.le_of_ble_eq_true rfl) ?_
  unfold f_X9_cut at hf
  refine aw_iload_n dX9_cut_0 rfl rfl ?_
  refine aw_if_lt (tgt := 12) dX9_cut_1 (by decide) (fun hc2 => ?_) (fun hc2 => ?_)
  · have hf := ax_pos hc2 hf
    refine aw_iconst (v := 0) dX9_cut_12 (by decide) ?_
    cases hf
    exact aw_zret dX9_cut_13 (by decide) hq (Nat.le_refl _) (Nat.le_refl _)
  · have hf := ax_neg hc2 hf
    refine aw_iload_n dX9_cut_4 rfl rfl ?_
    refine aw_aload_n dX9_cut_5 rfl rfl ?_
    refine aw_gI dX9_cut_6 fl_X9_15 sh_1 rfl ?_
    refine aw_icmp_le (tgt := 14) dX9_cut_9 (by decide) (fun hc1 => ?_) (fun hc1 => ?_)
    · have hf := ax_pos hc1 hf
      refine aw_aload_n dX9_cut_14 rfl rfl ?_
      refine aw_iload_n dX9_cut_15 rfl rfl ?_
      refine aw_pI dX9_cut_16 fp_X9_15 sh_1 rfl rfl rfl ?_
      refine aw_iconst (v := 1) dX9_cut_19 (by decide) ?_
      cases hf
      exact aw_zret dX9_cut_20 (by decide) hq (Nat.le_refl _) (Nat.le_refl _)
    · have hf := ax_neg hc1 hf
      refine aw_iconst (v := 0) dX9_cut_12 (by decide) ?_
      cases hf
      exact aw_zret dX9_cut_13 (by decide) hq (Nat.le_refl _) (Nat.le_refl _)
