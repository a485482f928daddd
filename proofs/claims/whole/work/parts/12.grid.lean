noncomputable def f_X1_at_J29 (g : Nat) (y1_29 : Int32) (y2_29 : Int32) (t0_29 : Int32) (s_29 : sx_M) : Option (Int64 × sx_M) :=
  (if t0_29 = 0 then
 some ((9223372036854775807 : Int64), s_29)
else
 (if ¬ (((y1_29 * (8 : Int32)) + y2_29) < 0 ∨ 56 ≤ (((y1_29 * (8 : Int32)) + y2_29)).toNatClampNeg) then
 some ((rB s_29 (g + 1) (((y1_29 * (8 : Int32)) + y2_29)).toNatClampNeg), s_29)
else none))
noncomputable def f_X1_at (g : Nat) (x1 : Int32) (x2 : Int32) (s : sx_M) : Option (Int64 × sx_M) :=
  (if x1 < 0 then
 f_X1_at_J29 g x1 x2 (0 : Int32) s
else
 (if (rI s g 1) ≤ x1 then
 f_X1_at_J29 g x1 x2 (0 : Int32) s
else
 (if x2 < 0 then
 f_X1_at_J29 g x1 x2 (0 : Int32) s
else
 (if (rI s g 2) ≤ x2 then
 f_X1_at_J29 g x1 x2 (0 : Int32) s
else
 f_X1_at_J29 g x1 x2 (1 : Int32) s))))
set_option maxRecDepth 100000 in
set_option maxHeartbeats 4000000 in
theorem k_X1_at {l : Launch} {X : ax_X} {Q : Option Value → ax_H → Prop} (g : Nat) (x1 : Int32) (x2 : Int32) (s : sx_M) (gb : ax_H) (hg : ax_G g) {p : Int64 × sx_M} (hf : f_X1_at g x1 x2 s = some p) (hq : Q (some (.long p.1)) (hp p.2 gb)) : AM l X yX1_at cX1_at 4 (some .long) 0 0 0 [.ref g, .int x1, .int x2] (hp s gb) Q := by
  refine aw_met (own := RX1) (nm := "at") (L := [some (.ref g), some (.int x1), some (.int x2), none]) (by decide +kernel) rfl rfl (And.intro rfl (And.intro rfl (And.intro rfl trivial))) (Nat.le_of_ble_eq_true rfl) ?_
  unfold f_X1_at at hf
  have J29 : ∀ (y1_29 : Int32) (y2_29 : Int32) (t0_29 : Int32) (s_29 : sx_M), f_X1_at_J29 g y1_29 y2_29 t0_29 s_29 = some p → AW l X RX1 "at" cX1_at 4 (some .long) (ax_rm 0 0 0) (ax_MQ X Q 0 0) 0 0 29 [some (.ref g), some (.int y1_29), some (.int y2_29), none] [.int t0_29] (hp s_29 gb) := by
    intro y1_29 y2_29 t0_29 s_29 hf
    unfold f_X1_at_J29 at hf
    refine aw_istore_n (L' := [some (.ref g), some (.int y1_29), some (.int y2_29), some (.int t0_29)]) dX1_at_29 rfl (by decide) rfl ?_
    refine aw_iload_n dX1_at_30 rfl rfl ?_
    refine aw_if_eq (tgt := 48) dX1_at_31 (by decide) (fun hc2 => ?_) (fun hc2 => ?_)
    · have hf := ax_pos hc2 hf
      refine aw_ldc2 dX1_at_48 kc_X1_30 ?_
      cases hf
      exact aw_lret dX1_at_51 hq (Nat.le_refl _) (Nat.le_refl _)
    · have hf := ax_neg hc2 hf
      refine aw_aload_n dX1_at_34 rfl rfl ?_
      refine aw_gR dX1_at_35 fl_X1_9 hg.1 rfl ?_
      refine aw_iload_n dX1_at_38 rfl rfl ?_
      refine aw_bipush (v := 8) dX1_at_39 (by decide) ?_
      refine aw_imul dX1_at_41 ?_
      refine aw_iload_n dX1_at_42 rfl rfl ?_
      refine aw_iadd dX1_at_43 ?_
      obtain ⟨hc1, hf⟩ := ax_ite hf
      refine aw_lB dX1_at_44 hg.2 hc1 ?_
      refine aw_goto (tgt := 51) dX1_at_45 (by decide) ?_
      cases hf
      exact aw_lret dX1_at_51 hq (Nat.le_refl _) (Nat.le_refl _)
  refine aw_iload_n dX1_at_0 rfl rfl ?_
  refine aw_if_lt (tgt := 28) dX1_at_1 (by decide) (fun hc6 => ?_) (fun hc6 => ?_)
  · have hf := ax_pos hc6 hf
    refine aw_iconst (v := 0) dX1_at_28 (by decide) ?_
    exact J29 x1 x2 (0 : Int32) s hf
  · have hf := ax_neg hc6 hf
    refine aw_iload_n dX1_at_4 rfl rfl ?_
    refine aw_aload_n dX1_at_5 rfl rfl ?_
    refine aw_gI dX1_at_6 fl_X1_15 hg.1 rfl ?_
    refine aw_icmp_ge (tgt := 28) dX1_at_9 (by decide) (fun hc5 => ?_) (fun hc5 => ?_)
    · have hf := ax_pos hc5 hf
      refine aw_iconst (v := 0) dX1_at_28 (by decide) ?_
      exact J29 x1 x2 (0 : Int32) s hf
    · have hf := ax_neg hc5 hf
      refine aw_iload_n dX1_at_12 rfl rfl ?_
      refine aw_if_lt (tgt := 28) dX1_at_13 (by decide) (fun hc4 => ?_) (fun hc4 => ?_)
      · have hf := ax_pos hc4 hf
        refine aw_iconst (v := 0) dX1_at_28 (by decide) ?_
        exact J29 x1 x2 (0 : Int32) s hf
      · have hf := ax_neg hc4 hf
        refine aw_iload_n dX1_at_16 rfl rfl ?_
        refine aw_aload_n dX1_at_17 rfl rfl ?_
        refine aw_gI dX1_at_18 fl_X1_19 hg.1 rfl ?_
        refine aw_icmp_ge (tgt := 28) dX1_at_21 (by decide) (fun hc3 => ?_) (fun hc3 => ?_)
        · have hf := ax_pos hc3 hf
          refine aw_iconst (v := 0) dX1_at_28 (by decide) ?_
          exact J29 x1 x2 (0 : Int32) s hf
        · have hf := ax_neg hc3 hf
          refine aw_iconst (v := 1) dX1_at_24 (by decide) ?_
          refine aw_goto (tgt := 29) dX1_at_25 (by decide) ?_
          exact J29 x1 x2 (1 : Int32) s hf
noncomputable def f_X1_has (g : Nat) (x1 : Int32) (x2 : Int32) (s : sx_M) : Option (Int32 × sx_M) :=
  (if x1 < 0 then
 some ((0 : Int32), s)
else
 (if (rI s g 1) ≤ x1 then
 some ((0 : Int32), s)
else
 (if x2 < 0 then
 some ((0 : Int32), s)
else
 (if (rI s g 2) ≤ x2 then
 some ((0 : Int32), s)
else
 some ((1 : Int32), s)))))
set_option maxRecDepth 100000 in
set_option maxHeartbeats 4000000 in
theorem k_X1_has {l : Launch} {X : ax_X} {Q : Option Value → ax_H → Prop} (g : Nat) (x1 : Int32) (x2 : Int32) (s : sx_M) (gb : ax_H) (hg : ax_G g) {p : Int32 × sx_M} (hf : f_X1_has g x1 x2 s = some p) (hq : Q (some (.int p.1)) (hp p.2 gb)) : AM l X yX1_has cX1_has 3 (some .boolean) 0 0 0 [.ref g, .int x1, .int x2] (hp s gb) Q := by
  refine aw_met (own := RX1) (nm := "has") (L := [some (.ref g), some (.int x1), some (.int x2)]) (by decide +kernel) rfl rfl (And.intro rfl (And.intro rfl (And.intro rfl trivial))) (Nat.le_of_ble_eq_true rfl) ?_
  unfold f_X1_has at hf
  refine aw_iload_n dX1_has_0 rfl rfl ?_
  refine aw_if_lt (tgt := 28) dX1_has_1 (by decide) (fun hc4 => ?_) (fun hc4 => ?_)
  · have hf := ax_pos hc4 hf
    refine aw_iconst (v := 0) dX1_has_28 (by decide) ?_
    cases hf
    exact aw_zret dX1_has_29 (by decide) hq (Nat.le_refl _) (Nat.le_refl _)
  · have hf := ax_neg hc4 hf
    refine aw_iload_n dX1_has_4 rfl rfl ?_
    refine aw_aload_n dX1_has_5 rfl rfl ?_
    refine aw_gI dX1_has_6 fl_X1_15 hg.1 rfl ?_
    refine aw_icmp_ge (tgt := 28) dX1_has_9 (by decide) (fun hc3 => ?_) (fun hc3 => ?_)
    · have hf := ax_pos hc3 hf
      refine aw_iconst (v := 0) dX1_has_28 (by decide) ?_
      cases hf
      exact aw_zret dX1_has_29 (by decide) hq (Nat.le_refl _) (Nat.le_refl _)
    · have hf := ax_neg hc3 hf
      refine aw_iload_n dX1_has_12 rfl rfl ?_
      refine aw_if_lt (tgt := 28) dX1_has_13 (by decide) (fun hc2 => ?_) (fun hc2 => ?_)
      · have hf := ax_pos hc2 hf
        refine aw_iconst (v := 0) dX1_has_28 (by decide) ?_
        cases hf
        exact aw_zret dX1_has_29 (by decide) hq (Nat.le_refl _) (Nat.le_refl _)
      · have hf := ax_neg hc2 hf
        refine aw_iload_n dX1_has_16 rfl rfl ?_
        refine aw_aload_n dX1_has_17 rfl rfl ?_
        refine aw_gI dX1_has_18 fl_X1_19 hg.1 rfl ?_
        refine aw_icmp_ge (tgt := 28) dX1_has_21 (by decide) (fun hc1 => ?_) (fun hc1 => ?_)
        · have hf := ax_pos hc1 hf
          refine aw_iconst (v := 0) dX1_has_28 (by decide) ?_
          cases hf
          exact aw_zret dX1_has_29 (by decide) hq (Nat.le_refl _) (Nat.le_refl _)
        · have hf := ax_neg hc1 hf
          refine aw_iconst (v := 1) dX1_has_24 (by decide) ?_
          refine aw_goto (tgt := 29) dX1_has_25 (by decide) ?_
          cases hf
          exact aw_zret dX1_has_29 (by decide) hq (Nat.le_refl _) (Nat.le_refl _)
noncomputable def f_X1_clear (g : Nat) (s : sx_M) : Option sx_M :=
  some (wI (wI s g 1 (0 : Int32)) g 2 (0 : Int32))
set_option maxRecDepth 100000 in
set_option maxHeartbeats 4000000 in
theorem k_X1_clear {l : Launch} {X : ax_X} {Q : Option Value → ax_H → Prop} (g : Nat) (s : sx_M) (gb : ax_H) (hg : ax_G g) {p : sx_M} (hf : f_X1_clear g s = some p) (hq : Q (none) (hp p gb)) : AM l X yX1_clear cX1_clear 1 none 0 0 0 [.ref g] (hp s gb) Q := by
  refine aw_met (own := RX1) (nm := "clear") (L := [some (.ref g)]) (by decide +kernel) rfl rfl (And.intro rfl trivial) (Nat.le_of_ble_eq_true rfl) ?_
  unfold f_X1_clear at hf
  refine aw_aload_n dX1_clear_0 rfl rfl ?_
  refine aw_iconst (v := 0) dX1_clear_1 (by decide) ?_
  refine aw_pI dX1_clear_2 fp_X1_15 hg.1 rfl rfl rfl ?_
  refine aw_aload_n dX1_clear_5 rfl rfl ?_
  refine aw_iconst (v := 0) dX1_clear_6 (by decide) ?_
  refine aw_pI dX1_clear_7 fp_X1_19 hg.1 rfl rfl rfl ?_
  cases hf
  exact aw_vret dX1_clear_10 hq (Nat.le_refl _) (Nat.le_refl _)
noncomputable def f_X1_copy_L18 (g : Nat) (g2 : Nat) (a18 : Int32 × sx_M) : Option ((Int32 × sx_M) ⊕ (sx_M)) :=
  (if (56 : Int32) ≤ a18.1 then
 some (.inr a18.2)
else
 (if ¬ (a18.1 < 0 ∨ 56 ≤ (a18.1).toNatClampNeg) then
 (if ¬ (a18.1 < 0 ∨ 56 ≤ (a18.1).toNatClampNeg) then
 some (.inl ((a18.1 + (1 : Int32)), (wB a18.2 (g + 1) (a18.1).toNatClampNeg (rB a18.2 (g2 + 1) (a18.1).toNatClampNeg))))
else none)
else none))
noncomputable def f_X1_copy (g : Nat) (g2 : Nat) (s : sx_M) : Option sx_M :=
  (whT (f_X1_copy_L18 g g2) ((0 : Int32), (wI (wI s g 1 (rI s g2 1)) g 2 (rI (wI s g 1 (rI s g2 1)) g2 2)))).bind (fun b1 =>
 some b1)
set_option maxRecDepth 100000 in
set_option maxHeartbeats 4000000 in
theorem k_X1_copy {l : Launch} {X : ax_X} {Q : Option Value → ax_H → Prop} (g : Nat) (g2 : Nat) (s : sx_M) (gb : ax_H) (hg : ax_G g) (hg2 : ax_G g2) {p : sx_M} (hf : f_X1_copy g g2 s = some p) (hq : Q (none) (hp p gb)) : AM l X yX1_copy cX1_copy 3 none 0 0 0 [.ref g, .ref g2] (hp s gb) Q := by
  refine aw_met (own := RX1) (nm := "copy") (L := [some (.ref g), some (.ref g2), none]) (by decide +kernel) rfl rfl (And.intro rfl (And.intro rfl trivial)) (Nat.le_of_ble_eq_true rfl) ?_
  unfold f_X1_copy at hf
  refine aw_aload_n dX1_copy_0 rfl rfl ?_
  refine aw_aload_n dX1_copy_1 rfl rfl ?_
  refine aw_gI dX1_copy_2 fl_X1_15 hg2.1 rfl ?_
  refine aw_pI dX1_copy_5 fp_X1_15 hg.1 rfl rfl rfl ?_
  refine aw_aload_n dX1_copy_8 rfl rfl ?_
  refine aw_aload_n dX1_copy_9 rfl rfl ?_
  refine aw_gI dX1_copy_10 fl_X1_19 hg2.1 rfl ?_
  refine aw_pI dX1_copy_13 fp_X1_19 hg.1 rfl rfl rfl ?_
  refine aw_iconst (v := 0) dX1_copy_16 (by decide) ?_
  refine aw_istore_n (L' := [some (.ref g), some (.ref g2), some (.int (0 : Int32))]) dX1_copy_17 rfl (by decide) rfl ?_
  obtain ⟨b1, hb1, hf⟩ := ax_bind hf
  refine wh_go ((0 : Int32), (wI (wI s g 1 (rI s g2 1)) g 2 (rI (wI s g 1 (rI s g2 1)) g2 2))) (fun a18 : Int32 × sx_M => AW l X RX1 "copy" cX1_copy 3 none (ax_rm 0 0 0) (ax_MQ X Q 0 0) 0 0 18 [some (.ref g), some (.ref g2), some (.int a18.1)] [] (hp a18.2 gb)) (fun e : sx_M => AW l X RX1 "copy" cX1_copy 3 none (ax_rm 0 0 0) (ax_MQ X Q 0 0) 0 0 45 [none, none, none] [] (hp e gb)) hb1 ?_ ?_
  · intro a18 r hf hK
    unfold f_X1_copy_L18 at hf
    refine aw_iload_n dX1_copy_18 rfl rfl ?_
    refine aw_aload_n dX1_copy_19 rfl rfl ?_
    refine aw_gR dX1_copy_20 fl_X1_9 hg.1 rfl ?_
    refine aw_al dX1_copy_23 hg.2 (by decide) rfl ?_
    refine aw_icmp_ge (tgt := 45) dX1_copy_24 (by decide) (fun hc3 => ?_) (fun hc3 => ?_)
    · have hf := ax_pos hc3 hf
      refine aw_less (L' := [none, none, none]) trivial ?_
      cases hf
      exact hK
    · have hf := ax_neg hc3 hf
      refine aw_aload_n dX1_copy_27 rfl rfl ?_
      refine aw_gR dX1_copy_28 fl_X1_9 hg.1 rfl ?_
      refine aw_iload_n dX1_copy_31 rfl rfl ?_
      refine aw_aload_n dX1_copy_32 rfl rfl ?_
      refine aw_gR dX1_copy_33 fl_X1_9 hg2.1 rfl ?_
      refine aw_iload_n dX1_copy_36 rfl rfl ?_
      obtain ⟨hc1, hf⟩ := ax_ite hf
      refine aw_lB dX1_copy_37 hg2.2 hc1 ?_
      obtain ⟨hc2, hf⟩ := ax_ite hf
      refine aw_sB dX1_copy_38 hg.2 hc2 ?_
      refine aw_iinc (v := (a18.1 + (1 : Int32))) (L' := [some (.ref g), some (.ref g2), some (.int (a18.1 + (1 : Int32)))]) dX1_copy_39 rfl rfl (by decide) rfl ?_
      refine aw_goto (tgt := 18) dX1_copy_42 (by decide) ?_
      cases hf
      exact hK
  · cases hf
    exact aw_vret dX1_copy_45 hq (Nat.le_refl _) (Nat.le_refl _)
noncomputable def f_X1_hasWorker (g : Nat) (x1 : Int32) (s : sx_M) : Option (Int32 × sx_M) :=
  (if x1 < 0 then
 some ((0 : Int32), s)
else
 (if (rI s g 1) ≤ x1 then
 some ((0 : Int32), s)
else
 some ((1 : Int32), s)))
set_option maxRecDepth 100000 in
set_option maxHeartbeats 4000000 in
theorem k_X1_hasWorker {l : Launch} {X : ax_X} {Q : Option Value → ax_H → Prop} (g : Nat) (x1 : Int32) (s : sx_M) (gb : ax_H) (hg : ax_G g) {p : Int32 × sx_M} (hf : f_X1_hasWorker g x1 s = some p) (hq : Q (some (.int p.1)) (hp p.2 gb)) : AM l X yX1_hasWorker cX1_hasWorker 2 (some .boolean) 0 0 0 [.ref g, .int x1] (hp s gb) Q := by
  refine aw_met (own := RX1) (nm := "hasWorker") (L := [some (.ref g), some (.int x1)]) (by decide +kernel) rfl rfl (And.intro rfl (And.intro rfl trivial)) (Nat.le_of_ble_eq_true rfl) ?_
  unfold f_X1_hasWorker at hf
  refine aw_iload_n dX1_hasWorker_0 rfl rfl ?_
  refine aw_if_lt (tgt := 16) dX1_hasWorker_1 (by decide) (fun hc2 => ?_) (fun hc2 => ?_)
  · have hf := ax_pos hc2 hf
    refine aw_iconst (v := 0) dX1_hasWorker_16 (by decide) ?_
    cases hf
    exact aw_zret dX1_hasWorker_17 (by decide) hq (Nat.le_refl _) (Nat.le_refl _)
  · have hf := ax_neg hc2 hf
    refine aw_iload_n dX1_hasWorker_4 rfl rfl ?_
    refine aw_aload_n dX1_hasWorker_5 rfl rfl ?_
    refine aw_gI dX1_hasWorker_6 fl_X1_15 hg.1 rfl ?_
    refine aw_icmp_ge (tgt := 16) dX1_hasWorker_9 (by decide) (fun hc1 => ?_) (fun hc1 => ?_)
    · have hf := ax_pos hc1 hf
      refine aw_iconst (v := 0) dX1_hasWorker_16 (by decide) ?_
      cases hf
      exact aw_zret dX1_hasWorker_17 (by decide) hq (Nat.le_refl _) (Nat.le_refl _)
    · have hf := ax_neg hc1 hf
      refine aw_iconst (v := 1) dX1_hasWorker_12 (by decide) ?_
      refine aw_goto (tgt := 17) dX1_hasWorker_13 (by decide) ?_
      cases hf
      exact aw_zret dX1_hasWorker_17 (by decide) hq (Nat.le_refl _) (Nat.le_refl _)
noncomputable def f_X1_hasJob (g : Nat) (x1 : Int32) (s : sx_M) : Option (Int32 × sx_M) :=
  (if x1 < 0 then
 some ((0 : Int32), s)
else
 (if (rI s g 2) ≤ x1 then
 some ((0 : Int32), s)
else
 some ((1 : Int32), s)))
set_option maxRecDepth 100000 in
set_option maxHeartbeats 4000000 in
theorem k_X1_hasJob {l : Launch} {X : ax_X} {Q : Option Value → ax_H → Prop} (g : Nat) (x1 : Int32) (s : sx_M) (gb : ax_H) (hg : ax_G g) {p : Int32 × sx_M} (hf : f_X1_hasJob g x1 s = some p) (hq : Q (some (.int p.1)) (hp p.2 gb)) : AM l X yX1_hasJob cX1_hasJob 2 (some .boolean) 0 0 0 [.ref g, .int x1] (hp s gb) Q := by
  refine aw_met (own := RX1) (nm := "hasJob") (L := [some (.ref g), some (.int x1)]) (by decide +kernel) rfl rfl (And.intro rfl (And.intro rfl trivial)) (Nat.le_of_ble_eq_true rfl) ?_
  unfold f_X1_hasJob at hf
  refine aw_iload_n dX1_hasJob_0 rfl rfl ?_
  refine aw_if_lt (tgt := 16) dX1_hasJob_1 (by decide) (fun hc2 => ?_) (fun hc2 => ?_)
  · have hf := ax_pos hc2 hf
    refine aw_iconst (v := 0) dX1_hasJob_16 (by decide) ?_
    cases hf
    exact aw_zret dX1_hasJob_17 (by decide) hq (Nat.le_refl _) (Nat.le_refl _)
  · have hf := ax_neg hc2 hf
    refine aw_iload_n dX1_hasJob_4 rfl rfl ?_
    refine aw_aload_n dX1_hasJob_5 rfl rfl ?_
    refine aw_gI dX1_hasJob_6 fl_X1_19 hg.1 rfl ?_
    refine aw_icmp_ge (tgt := 16) dX1_hasJob_9 (by decide) (fun hc1 => ?_) (fun hc1 => ?_)
    · have hf := ax_pos hc1 hf
      refine aw_iconst (v := 0) dX1_hasJob_16 (by decide) ?_
      cases hf
      exact aw_zret dX1_hasJob_17 (by decide) hq (Nat.le_refl _) (Nat.le_refl _)
    · have hf := ax_neg hc1 hf
      refine aw_iconst (v := 1) dX1_hasJob_12 (by decide) ?_
      refine aw_goto (tgt := 17) dX1_hasJob_13 (by decide) ?_
      cases hf
      exact aw_zret dX1_hasJob_17 (by decide) hq (Nat.le_refl _) (Nat.le_refl _)
noncomputable def f_X1_howMany (g : Nat) (x1 : Int32) (s : sx_M) : Option (Int32 × sx_M) :=
  (if x1 = 0 then
 some ((rI s g 1), s)
else
 some ((rI s g 2), s))
set_option maxRecDepth 100000 in
set_option maxHeartbeats 4000000 in
theorem k_X1_howMany {l : Launch} {X : ax_X} {Q : Option Value → ax_H → Prop} (g : Nat) (x1 : Int32) (s : sx_M) (gb : ax_H) (hg : ax_G g) {p : Int32 × sx_M} (hf : f_X1_howMany g x1 s = some p) (hq : Q (some (.int p.1)) (hp p.2 gb)) : AM l X yX1_howMany cX1_howMany 2 (some .int) 0 0 0 [.ref g, .int x1] (hp s gb) Q := by
  refine aw_met (own := RX1) (nm := "howMany") (L := [some (.ref g), some (.int x1)]) (by decide +kernel) rfl rfl (And.intro rfl (And.intro rfl trivial)) (Nat.le_of_ble_eq_true rfl) ?_
  unfold f_X1_howMany at hf
  refine aw_iload_n dX1_howMany_0 rfl rfl ?_
  refine aw_if_ne (tgt := 11) dX1_howMany_1 (by decide) (fun hc1 => ?_) (fun hc1 => ?_)
  · have hf := ax_neg hc1 hf
    refine aw_aload_n dX1_howMany_11 rfl rfl ?_
    refine aw_gI dX1_howMany_12 fl_X1_19 hg.1 rfl ?_
    cases hf
    exact aw_iret dX1_howMany_15 hq (Nat.le_refl _) (Nat.le_refl _)
  · have hf := ax_pos hc1 hf
    refine aw_aload_n dX1_howMany_4 rfl rfl ?_
    refine aw_gI dX1_howMany_5 fl_X1_15 hg.1 rfl ?_
    refine aw_goto (tgt := 15) dX1_howMany_8 (by decide) ?_
    cases hf
    exact aw_iret dX1_howMany_15 hq (Nat.le_refl _) (Nat.le_refl _)
noncomputable def f_X1_hasLine (g : Nat) (x1 : Int32) (x2 : Int32) (s : sx_M) : Option (Int32 × sx_M) :=
  (f_X11_isKind x2 s).bind (fun p1 =>
 (if p1.1 = 0 then
 some ((0 : Int32), p1.2)
else
 (if x1 < 0 then
 some ((0 : Int32), p1.2)
else
 (f_X1_howMany g x2 p1.2).bind (fun p2 =>
 (if p2.1 ≤ x1 then
 some ((0 : Int32), p2.2)
else
 some ((1 : Int32), p2.2))))))
set_option maxRecDepth 100000 in
set_option maxHeartbeats 4000000 in
theorem k_X1_hasLine {l : Launch} {X : ax_X} {Q : Option Value → ax_H → Prop} (g : Nat) (x1 : Int32) (x2 : Int32) (s : sx_M) (gb : ax_H) (hg : ax_G g) {p : Int32 × sx_M} (hf : f_X1_hasLine g x1 x2 s = some p) (hq : Q (some (.int p.1)) (hp p.2 gb)) : AM l X yX1_hasLine cX1_hasLine 3 (some .boolean) 1 0 0 [.ref g, .int x1, .int x2] (hp s gb) Q := by
  refine aw_met (own := RX1) (nm := "hasLine") (L := [some (.ref g), some (.int x1), some (.int x2)]) (by decide +kernel) rfl rfl (And.intro rfl (And.intro rfl (And.intro rfl trivial))) (Nat.le_of_ble_eq_true rfl) ?_
  unfold f_X1_hasLine at hf
  refine aw_iload_n dX1_hasLine_0 rfl rfl ?_
  obtain ⟨p1, hp1, hf⟩ := ax_bind hf
  refine aw_cSi (As := [.int x2]) (st := []) dX1_hasLine_1 cl_X1_22 st_X11_isKind (k_X11_isKind (Q := (fun v h' => v = some (.int p1.1) ∧ h' = hp p1.2 gb)) x2 s gb hp1 ⟨rfl, rfl⟩) rfl rfl (Nat.le_of_ble_eq_true rfl) rfl (by decide) (by decide) ?_
  refine aw_if_eq (tgt := 24) dX1_hasLine_4 (by decide) (fun hc3 => ?_) (fun hc3 => ?_)
  · have hf := ax_pos hc3 hf
    refine aw_iconst (v := 0) dX1_hasLine_24 (by decide) ?_
    cases hf
    exact aw_zret dX1_hasLine_25 (by decide) hq (Nat.le_refl _) (Nat.le_refl _)
  · have hf := ax_neg hc3 hf
    refine aw_iload_n dX1_hasLine_7 rfl rfl ?_
    refine aw_if_lt (tgt := 24) dX1_hasLine_8 (by decide) (fun hc2 => ?_) (fun hc2 => ?_)
    · have hf := ax_pos hc2 hf
      refine aw_iconst (v := 0) dX1_hasLine_24 (by decide) ?_
      cases hf
      exact aw_zret dX1_hasLine_25 (by decide) hq (Nat.le_refl _) (Nat.le_refl _)
    · have hf := ax_neg hc2 hf
      refine aw_iload_n dX1_hasLine_11 rfl rfl ?_
      refine aw_aload_n dX1_hasLine_12 rfl rfl ?_
      refine aw_iload_n dX1_hasLine_13 rfl rfl ?_
      obtain ⟨p2, hp2, hf⟩ := ax_bind hf
      refine aw_cVi (As := [.int x2]) (st := [.int x1]) dX1_hasLine_14 cl_X1_26 iv_X1_howMany (k_X1_howMany (Q := (fun v h' => v = some (.int p2.1) ∧ h' = hp p2.2 gb)) g x2 p1.2 gb hg hp2 ⟨rfl, rfl⟩) (ci := 1) rfl (hp_get hg.1) rfl rfl rfl (Nat.le_of_ble_eq_true rfl) rfl (by decide) (by decide) ?_
      refine aw_icmp_ge (tgt := 24) dX1_hasLine_17 (by decide) (fun hc1 => ?_) (fun hc1 => ?_)
      · have hf := ax_pos hc1 hf
        refine aw_iconst (v := 0) dX1_hasLine_24 (by decide) ?_
        cases hf
        exact aw_zret dX1_hasLine_25 (by decide) hq (Nat.le_refl _) (Nat.le_refl _)
      · have hf := ax_neg hc1 hf
        refine aw_iconst (v := 1) dX1_hasLine_20 (by decide) ?_
        refine aw_goto (tgt := 25) dX1_hasLine_21 (by decide) ?_
        cases hf
        exact aw_zret dX1_hasLine_25 (by decide) hq (Nat.le_refl _) (Nat.le_refl _)
noncomputable def f_X1_put (g : Nat) (x1 : Int32) (x2 : Int32) (x3 : Int64) (s : sx_M) : Option sx_M :=
  (f_X1_has g x1 x2 s).bind (fun p1 =>
 (if p1.1 = 0 then
 some p1.2
else
 (if ¬ (((x1 * (8 : Int32)) + x2) < 0 ∨ 56 ≤ (((x1 * (8 : Int32)) + x2)).toNatClampNeg) then
 some (wB p1.2 (g + 1) (((x1 * (8 : Int32)) + x2)).toNatClampNeg x3)
else none)))
set_option maxRecDepth 100000 in
set_option maxHeartbeats 4000000 in
theorem k_X1_put {l : Launch} {X : ax_X} {Q : Option Value → ax_H → Prop} (g : Nat) (x1 : Int32) (x2 : Int32) (x3 : Int64) (s : sx_M) (gb : ax_H) (hg : ax_G g) {p : sx_M} (hf : f_X1_put g x1 x2 x3 s = some p) (hq : Q (none) (hp p gb)) : AM l X yX1_put cX1_put 5 none 1 0 0 [.ref g, .int x1, .int x2, .long x3] (hp s gb) Q := by
  refine aw_met (own := RX1) (nm := "put") (L := [some (.ref g), some (.int x1), some (.int x2), some (.long x3), none]) (by decide +kernel) rfl rfl (And.intro rfl (And.intro rfl (And.intro rfl (And.intro rfl trivial)))) (Nat.le_of_ble_eq_true rfl) ?_
  unfold f_X1_put at hf
  refine aw_aload_n dX1_put_0 rfl rfl ?_
  refine aw_iload_n dX1_put_1 rfl rfl ?_
  refine aw_iload_n dX1_put_2 rfl rfl ?_
  obtain ⟨p1, hp1, hf⟩ := ax_bind hf
  refine aw_cVi (As := [.int x1, .int x2]) (st := []) dX1_put_3 cl_X1_32 iv_X1_has (k_X1_has (Q := (fun v h' => v = some (.int p1.1) ∧ h' = hp p1.2 gb)) g x1 x2 s gb hg hp1 ⟨rfl, rfl⟩) (ci := 1) rfl (hp_get hg.1) rfl rfl rfl (Nat.le_of_ble_eq_true rfl) rfl (by decide) (by decide) ?_
  refine aw_if_eq (tgt := 21) dX1_put_6 (by decide) (fun hc2 => ?_) (fun hc2 => ?_)
  · have hf := ax_pos hc2 hf
    cases hf
    exact aw_vret dX1_put_21 hq (Nat.le_refl _) (Nat.le_refl _)
  · have hf := ax_neg hc2 hf
    refine aw_aload_n dX1_put_9 rfl rfl ?_
    refine aw_gR dX1_put_10 fl_X1_9 hg.1 rfl ?_
    refine aw_iload_n dX1_put_13 rfl rfl ?_
    refine aw_bipush (v := 8) dX1_put_14 (by decide) ?_
    refine aw_imul dX1_put_16 ?_
    refine aw_iload_n dX1_put_17 rfl rfl ?_
    refine aw_iadd dX1_put_18 ?_
    refine aw_lload_n dX1_put_19 rfl rfl ?_
    obtain ⟨hc1, hf⟩ := ax_ite hf
    refine aw_sB dX1_put_20 hg.2 hc1 ?_
    cases hf
    exact aw_vret dX1_put_21 hq (Nat.le_refl _) (Nat.le_refl _)
noncomputable def f_X1_across (g : Nat) (x1 : Int32) (s : sx_M) : Option (Int32 × sx_M) :=
  (if x1 = 0 then
 some ((rI s g 2), s)
else
 some ((rI s g 1), s))
set_option maxRecDepth 100000 in
set_option maxHeartbeats 4000000 in
theorem k_X1_across {l : Launch} {X : ax_X} {Q : Option Value → ax_H → Prop} (g : Nat) (x1 : Int32) (s : sx_M) (gb : ax_H) (hg : ax_G g) {p : Int32 × sx_M} (hf : f_X1_across g x1 s = some p) (hq : Q (some (.int p.1)) (hp p.2 gb)) : AM l X yX1_across cX1_across 2 (some .int) 0 0 0 [.ref g, .int x1] (hp s gb) Q := by
  refine aw_met (own := RX1) (nm := "across") (L := [some (.ref g), some (.int x1)]) (by decide +kernel) rfl rfl (And.intro rfl (And.intro rfl trivial)) (Nat.le_of_ble_eq_true rfl) ?_
  unfold f_X1_across at hf
  refine aw_iload_n dX1_across_0 rfl rfl ?_
  refine aw_if_ne (tgt := 11) dX1_across_1 (by decide) (fun hc1 => ?_) (fun hc1 => ?_)
  · have hf := ax_neg hc1 hf
    refine aw_aload_n dX1_across_11 rfl rfl ?_
    refine aw_gI dX1_across_12 fl_X1_15 hg.1 rfl ?_
    cases hf
    exact aw_iret dX1_across_15 hq (Nat.le_refl _) (Nat.le_refl _)
  · have hf := ax_pos hc1 hf
    refine aw_aload_n dX1_across_4 rfl rfl ?_
    refine aw_gI dX1_across_5 fl_X1_19 hg.1 rfl ?_
    refine aw_goto (tgt := 15) dX1_across_8 (by decide) ?_
    cases hf
    exact aw_iret dX1_across_15 hq (Nat.le_refl _) (Nat.le_refl _)
noncomputable def f_X1_inLine (g : Nat) (x1 : Int32) (x2 : Int32) (x3 : Int32) (s : sx_M) : Option (Int64 × sx_M) :=
  (if x2 = 0 then
 (f_X1_at g x1 x3 s).bind (fun p2 =>
 some (p2.1, p2.2))
else
 (f_X1_at g x3 x1 s).bind (fun p1 =>
 some (p1.1, p1.2)))
set_option maxRecDepth 100000 in
set_option maxHeartbeats 4000000 in
theorem k_X1_inLine {l : Launch} {X : ax_X} {Q : Option Value → ax_H → Prop} (g : Nat) (x1 : Int32) (x2 : Int32) (x3 : Int32) (s : sx_M) (gb : ax_H) (hg : ax_G g) {p : Int64 × sx_M} (hf : f_X1_inLine g x1 x2 x3 s = some p) (hq : Q (some (.long p.1)) (hp p.2 gb)) : AM l X yX1_inLine cX1_inLine 4 (some .long) 1 0 0 [.ref g, .int x1, .int x2, .int x3] (hp s gb) Q := by
  refine aw_met (own := RX1) (nm := "inLine") (L := [some (.ref g), some (.int x1), some (.int x2), some (.int x3)]) (by decide +kernel) rfl rfl (And.intro rfl (And.intro rfl (And.intro rfl (And.intro rfl trivial)))) (Nat.le_of_ble_eq_true rfl) ?_
  unfold f_X1_inLine at hf
  refine aw_iload_n dX1_inLine_0 rfl rfl ?_
  refine aw_if_ne (tgt := 13) dX1_inLine_1 (by decide) (fun hc1 => ?_) (fun hc1 => ?_)
  · have hf := ax_neg hc1 hf
    refine aw_aload_n dX1_inLine_13 rfl rfl ?_
    refine aw_iload_n dX1_inLine_14 rfl rfl ?_
    refine aw_iload_n dX1_inLine_15 rfl rfl ?_
    obtain ⟨p1, hp1, hf⟩ := ax_bind hf
    refine aw_cVl (As := [.int x3, .int x1]) (st := []) dX1_inLine_16 cl_X1_36 iv_X1_at (k_X1_at (Q := (fun v h' => v = some (.long p1.1) ∧ h' = hp p1.2 gb)) g x3 x1 s gb hg hp1 ⟨rfl, rfl⟩) (ci := 1) rfl (hp_get hg.1) rfl rfl rfl (Nat.le_of_ble_eq_true rfl) rfl (by decide) (by decide) ?_
    cases hf
    exact aw_lret dX1_inLine_19 hq (Nat.le_refl _) (Nat.le_refl _)
  · have hf := ax_pos hc1 hf
    refine aw_aload_n dX1_inLine_4 rfl rfl ?_
    refine aw_iload_n dX1_inLine_5 rfl rfl ?_
    refine aw_iload_n dX1_inLine_6 rfl rfl ?_
    obtain ⟨p2, hp2, hf⟩ := ax_bind hf
    refine aw_cVl (As := [.int x1, .int x3]) (st := []) dX1_inLine_7 cl_X1_36 iv_X1_at (k_X1_at (Q := (fun v h' => v = some (.long p2.1) ∧ h' = hp p2.2 gb)) g x1 x3 s gb hg hp2 ⟨rfl, rfl⟩) (ci := 1) rfl (hp_get hg.1) rfl rfl rfl (Nat.le_of_ble_eq_true rfl) rfl (by decide) (by decide) ?_
    refine aw_goto (tgt := 19) dX1_inLine_10 (by decide) ?_
    cases hf
    exact aw_lret dX1_inLine_19 hq (Nat.le_refl _) (Nat.le_refl _)
noncomputable def f_X1_openIn_L5 (g : Nat) (z1 : Int32) (z2 : Int32) (a5 : Int32 × Int32 × sx_M) : Option ((Int32 × Int32 × sx_M) ⊕ (Int32 × sx_M)) :=
  (f_X1_across g z2 a5.2.2).bind (fun p1 =>
 (if p1.1 ≤ a5.2.1 then
 some (.inr (a5.1, p1.2))
else
 (f_X1_inLine g z1 z2 a5.2.1 p1.2).bind (fun p2 =>
 (if p2.1 = (9223372036854775807 : Int64) then
 some (.inl (a5.1, (a5.2.1 + (1 : Int32)), p2.2))
else
 some (.inl ((a5.1 + (1 : Int32)), (a5.2.1 + (1 : Int32)), p2.2))))))
noncomputable def f_X1_openIn (g : Nat) (x1 : Int32) (x2 : Int32) (s : sx_M) : Option (Int32 × sx_M) :=
  (whT (f_X1_openIn_L5 g x1 x2) ((0 : Int32), (0 : Int32), s)).bind (fun b3 =>
 some (b3.1, b3.2))
set_option maxRecDepth 100000 in
set_option maxHeartbeats 4000000 in
theorem k_X1_openIn {l : Launch} {X : ax_X} {Q : Option Value → ax_H → Prop} (g : Nat) (x1 : Int32) (x2 : Int32) (s : sx_M) (gb : ax_H) (hg : ax_G g) {p : Int32 × sx_M} (hf : f_X1_openIn g x1 x2 s = some p) (hq : Q (some (.int p.1)) (hp p.2 gb)) : AM l X yX1_openIn cX1_openIn 5 (some .int) 2 0 0 [.ref g, .int x1, .int x2] (hp s gb) Q := by
  refine aw_met (own := RX1) (nm := "openIn") (L := [some (.ref g), some (.int x1), some (.int x2), none, none]) (by decide +kernel) rfl rfl (And.intro rfl (And.intro rfl (And.intro rfl trivial))) (Nat.le_of_ble_eq_true rfl) ?_
  unfold f_X1_openIn at hf
  refine aw_iconst (v := 0) dX1_openIn_0 (by decide) ?_
  refine aw_istore_n (L' := [some (.ref g), some (.int x1), some (.int x2), some (.int (0 : Int32)), none]) dX1_openIn_1 rfl (by decide) rfl ?_
  refine aw_iconst (v := 0) dX1_openIn_2 (by decide) ?_
  refine aw_istore (L' := [some (.ref g), some (.int x1), some (.int x2), some (.int (0 : Int32)), some (.int (0 : Int32))]) dX1_openIn_3 (by decide) rfl ?_
  obtain ⟨b3, hb3, hf⟩ := ax_bind hf
  refine wh_go ((0 : Int32), (0 : Int32), s) (fun a5 : Int32 × Int32 × sx_M => AW l X RX1 "openIn" cX1_openIn 5 (some .int) (ax_rm 2 0 0) (ax_MQ X Q 0 0) 0 0 5 [some (.ref g), some (.int x1), some (.int x2), some (.int a5.1), some (.int a5.2.1)] [] (hp a5.2.2 gb)) (fun e : Int32 × sx_M => AW l X RX1 "openIn" cX1_openIn 5 (some .int) (ax_rm 2 0 0) (ax_MQ X Q 0 0) 0 0 39 [none, none, none, some (.int e.1), none] [] (hp e.2 gb)) hb3 ?_ ?_
  · intro a5 r hf hK
    unfold f_X1_openIn_L5 at hf
    refine aw_iload dX1_openIn_5 rfl ?_
    refine aw_aload_n dX1_openIn_7 rfl rfl ?_
    refine aw_iload_n dX1_openIn_8 rfl rfl ?_
    obtain ⟨p1, hp1, hf⟩ := ax_bind hf
    refine aw_cVi (As := [.int x2]) (st := [.int a5.2.1]) dX1_openIn_9 cl_X1_44 iv_X1_across (k_X1_across (Q := (fun v h' => v = some (.int p1.1) ∧ h' = hp p1.2 gb)) g x2 a5.2.2 gb hg hp1 ⟨rfl, rfl⟩) (ci := 1) rfl (hp_get hg.1) rfl rfl rfl (Nat.le_of_ble_eq_true rfl) rfl (by decide) (by decide) ?_
    refine aw_icmp_ge (tgt := 39) dX1_openIn_12 (by decide) (fun hc2 => ?_) (fun hc2 => ?_)
    · have hf := ax_pos hc2 hf
      refine aw_less (L' := [none, none, none, some (.int a5.1), none]) (And.intro rfl trivial) ?_
      cases hf
      exact hK
    · have hf := ax_neg hc2 hf
      refine aw_aload_n dX1_openIn_15 rfl rfl ?_
      refine aw_iload_n dX1_openIn_16 rfl rfl ?_
      refine aw_iload_n dX1_openIn_17 rfl rfl ?_
      refine aw_iload dX1_openIn_18 rfl ?_
      obtain ⟨p2, hp2, hf⟩ := ax_bind hf
      refine aw_cVl (As := [.int x1, .int x2, .int a5.2.1]) (st := []) dX1_openIn_20 cl_X1_47 iv_X1_inLine (k_X1_inLine (Q := (fun v h' => v = some (.long p2.1) ∧ h' = hp p2.2 gb)) g x1 x2 a5.2.1 p1.2 gb hg hp2 ⟨rfl, rfl⟩) (ci := 1) rfl (hp_get hg.1) rfl rfl rfl (Nat.le_of_ble_eq_true rfl) rfl (by decide) (by decide) ?_
      refine aw_ldc2 dX1_openIn_23 kc_X1_30 ?_
      refine aw_lcmp_eq (tgt := 33) dX1_openIn_26 dX1_openIn_27 (by decide) (fun hc1 => ?_) (fun hc1 => ?_)
      · have hf := ax_pos hc1 hf
        refine aw_iinc (v := (a5.2.1 + (1 : Int32))) (L' := [some (.ref g), some (.int x1), some (.int x2), some (.int a5.1), some (.int (a5.2.1 + (1 : Int32)))]) dX1_openIn_33 rfl rfl (by decide) rfl ?_
        refine aw_goto (tgt := 5) dX1_openIn_36 (by decide) ?_
        cases hf
        exact hK
      · have hf := ax_neg hc1 hf
        refine aw_iinc (v := (a5.1 + (1 : Int32))) (L' := [some (.ref g), some (.int x1), some (.int x2), some (.int (a5.1 + (1 : Int32))), some (.int a5.2.1)]) dX1_openIn_30 rfl rfl (by decide) rfl ?_
        refine aw_iinc (v := (a5.2.1 + (1 : Int32))) (L' := [some (.ref g), some (.int x1), some (.int x2), some (.int (a5.1 + (1 : Int32))), some (.int (a5.2.1 + (1 : Int32)))]) dX1_openIn_33 rfl rfl (by decide) rfl ?_
        refine aw_goto (tgt := 5) dX1_openIn_36 (by decide) ?_
        cases hf
        exact hK
  · refine aw_iload_n dX1_openIn_39 rfl rfl ?_
    cases hf
    exact aw_iret dX1_openIn_40 hq (Nat.le_refl _) (Nat.le_refl _)
noncomputable def f_X1_barred_L4 (g : Nat) (a4 : Int32 × Int32 × sx_M) : Option ((Int32 × Int32 × sx_M) ⊕ (Int32 × sx_M)) :=
  (if (rI a4.2.2 g 1) ≤ a4.2.1 then
 some (.inr (a4.1, a4.2.2))
else
 (f_X1_openIn g a4.2.1 (0 : Int32) a4.2.2).bind (fun p1 =>
 some (.inl ((a4.1 + ((rI a4.2.2 g 2) - p1.1)), (a4.2.1 + (1 : Int32)), p1.2))))
noncomputable def f_X1_barred (g : Nat) (s : sx_M) : Option (Int32 × sx_M) :=
  (whT (f_X1_barred_L4 g) ((0 : Int32), (0 : Int32), s)).bind (fun b2 =>
 some (b2.1, b2.2))
set_option maxRecDepth 100000 in
set_option maxHeartbeats 4000000 in
theorem k_X1_barred {l : Launch} {X : ax_X} {Q : Option Value → ax_H → Prop} (g : Nat) (s : sx_M) (gb : ax_H) (hg : ax_G g) {p : Int32 × sx_M} (hf : f_X1_barred g s = some p) (hq : Q (some (.int p.1)) (hp p.2 gb)) : AM l X yX1_barred cX1_barred 3 (some .int) 3 0 0 [.ref g] (hp s gb) Q := by
  refine aw_met (own := RX1) (nm := "barred") (L := [some (.ref g), none, none]) (by decide +kernel) rfl rfl (And.intro rfl trivial) (Nat.le_of_ble_eq_true rfl) ?_
  unfold f_X1_barred at hf
  refine aw_iconst (v := 0) dX1_barred_0 (by decide) ?_
  refine aw_istore_n (L' := [some (.ref g), some (.int (0 : Int32)), none]) dX1_barred_1 rfl (by decide) rfl ?_
  refine aw_iconst (v := 0) dX1_barred_2 (by decide) ?_
  refine aw_istore_n (L' := [some (.ref g), some (.int (0 : Int32)), some (.int (0 : Int32))]) dX1_barred_3 rfl (by decide) rfl ?_
  obtain ⟨b2, hb2, hf⟩ := ax_bind hf
  refine wh_go ((0 : Int32), (0 : Int32), s) (fun a4 : Int32 × Int32 × sx_M => AW l X RX1 "barred" cX1_barred 3 (some .int) (ax_rm 3 0 0) (ax_MQ X Q 0 0) 0 0 4 [some (.ref g), some (.int a4.1), some (.int a4.2.1)] [] (hp a4.2.2 gb)) (fun e : Int32 × sx_M => AW l X RX1 "barred" cX1_barred 3 (some .int) (ax_rm 3 0 0) (ax_MQ X Q 0 0) 0 0 32 [none, some (.int e.1), none] [] (hp e.2 gb)) hb2 ?_ ?_
  · intro a4 r hf hK
    unfold f_X1_barred_L4 at hf
    refine aw_iload_n dX1_barred_4 rfl rfl ?_
    refine aw_aload_n dX1_barred_5 rfl rfl ?_
    refine aw_gI dX1_barred_6 fl_X1_15 hg.1 rfl ?_
    refine aw_icmp_ge (tgt := 32) dX1_barred_9 (by decide) (fun hc1 => ?_) (fun hc1 => ?_)
    · have hf := ax_pos hc1 hf
      refine aw_less (L' := [none, some (.int a4.1), none]) (And.intro rfl trivial) ?_
      cases hf
      exact hK
    · have hf := ax_neg hc1 hf
      refine aw_iload_n dX1_barred_12 rfl rfl ?_
      refine aw_aload_n dX1_barred_13 rfl rfl ?_
      refine aw_gI dX1_barred_14 fl_X1_19 hg.1 rfl ?_
      refine aw_aload_n dX1_barred_17 rfl rfl ?_
      refine aw_iload_n dX1_barred_18 rfl rfl ?_
      refine aw_iconst (v := 0) dX1_barred_19 (by decide) ?_
      obtain ⟨p1, hp1, hf⟩ := ax_bind hf
      refine aw_cVi (As := [.int a4.2.1, .int (0 : Int32)]) (st := [.int (rI a4.2.2 g 2), .int a4.1]) dX1_barred_20 cl_X1_40 iv_X1_openIn (k_X1_openIn (Q := (fun v h' => v = some (.int p1.1) ∧ h' = hp p1.2 gb)) g a4.2.1 (0 : Int32) a4.2.2 gb hg hp1 ⟨rfl, rfl⟩) (ci := 1) rfl (hp_get hg.1) rfl rfl rfl (Nat.le_of_ble_eq_true rfl) rfl (by decide) (by decide) ?_
      refine aw_isub dX1_barred_23 ?_
      refine aw_iadd dX1_barred_24 ?_
      refine aw_istore_n (L' := [some (.ref g), some (.int (a4.1 + ((rI a4.2.2 g 2) - p1.1))), some (.int a4.2.1)]) dX1_barred_25 rfl (by decide) rfl ?_
      refine aw_iinc (v := (a4.2.1 + (1 : Int32))) (L' := [some (.ref g), some (.int (a4.1 + ((rI a4.2.2 g 2) - p1.1))), some (.int (a4.2.1 + (1 : Int32)))]) dX1_barred_26 rfl rfl (by decide) rfl ?_
      refine aw_goto (tgt := 4) dX1_barred_29 (by decide) ?_
      cases hf
      exact hK
  · refine aw_iload_n dX1_barred_32 rfl rfl ?_
    cases hf
    exact aw_iret dX1_barred_33 hq (Nat.le_refl _) (Nat.le_refl _)
noncomputable def f_X1_leastOf_L7 (g : Nat) (z1 : Int32) (z2 : Int32) (a7 : Int64 × Int32 × sx_M) : Option ((Int64 × Int32 × sx_M) ⊕ (Int64 × sx_M)) :=
  (f_X1_across g z2 a7.2.2).bind (fun p1 =>
 (if p1.1 ≤ a7.2.1 then
 some (.inr (a7.1, p1.2))
else
 (f_X1_inLine g z1 z2 a7.2.1 p1.2).bind (fun p2 =>
 (f_J9_min_f86c9 a7.1 p2.1 p2.2).bind (fun p3 =>
 some (.inl (p3.1, (a7.2.1 + (1 : Int32)), p3.2))))))
noncomputable def f_X1_leastOf (g : Nat) (x1 : Int32) (x2 : Int32) (s : sx_M) : Option (Int64 × sx_M) :=
  (whT (f_X1_leastOf_L7 g x1 x2) ((9223372036854775807 : Int64), (0 : Int32), s)).bind (fun b4 =>
 some (b4.1, b4.2))
set_option maxRecDepth 100000 in
set_option maxHeartbeats 4000000 in
theorem k_X1_leastOf {l : Launch} {X : ax_X} {Q : Option Value → ax_H → Prop} (g : Nat) (x1 : Int32) (x2 : Int32) (s : sx_M) (gb : ax_H) (hg : ax_G g) {p : Int64 × sx_M} (hf : f_X1_leastOf g x1 x2 s = some p) (hq : Q (some (.long p.1)) (hp p.2 gb)) : AM l X yX1_leastOf cX1_leastOf 6 (some .long) 2 0 0 [.ref g, .int x1, .int x2] (hp s gb) Q := by
  refine aw_met (own := RX1) (nm := "leastOf") (L := [some (.ref g), some (.int x1), some (.int x2), none, none, none]) (by decide +kernel) rfl rfl (And.intro rfl (And.intro rfl (And.intro rfl trivial))) (Nat.le_of_ble_eq_true rfl) ?_
  unfold f_X1_leastOf at hf
  refine aw_ldc2 dX1_leastOf_0 kc_X1_30 ?_
  refine aw_lstore_n (L' := [some (.ref g), some (.int x1), some (.int x2), some (.long (9223372036854775807 : Int64)), none, none]) dX1_leastOf_3 rfl (by decide) rfl ?_
  refine aw_iconst (v := 0) dX1_leastOf_4 (by decide) ?_
  refine aw_istore (L' := [some (.ref g), some (.int x1), some (.int x2), some (.long (9223372036854775807 : Int64)), none, some (.int (0 : Int32))]) dX1_leastOf_5 (by decide) rfl ?_
  obtain ⟨b4, hb4, hf⟩ := ax_bind hf
  refine wh_go ((9223372036854775807 : Int64), (0 : Int32), s) (fun a7 : Int64 × Int32 × sx_M => AW l X RX1 "leastOf" cX1_leastOf 6 (some .long) (ax_rm 2 0 0) (ax_MQ X Q 0 0) 0 0 7 [some (.ref g), some (.int x1), some (.int x2), some (.long a7.1), none, some (.int a7.2.1)] [] (hp a7.2.2 gb)) (fun e : Int64 × sx_M => AW l X RX1 "leastOf" cX1_leastOf 6 (some .long) (ax_rm 2 0 0) (ax_MQ X Q 0 0) 0 0 36 [none, none, none, some (.long e.1), none, none] [] (hp e.2 gb)) hb4 ?_ ?_
  · intro a7 r hf hK
    unfold f_X1_leastOf_L7 at hf
    refine aw_iload dX1_leastOf_7 rfl ?_
    refine aw_aload_n dX1_leastOf_9 rfl rfl ?_
    refine aw_iload_n dX1_leastOf_10 rfl rfl ?_
    obtain ⟨p1, hp1, hf⟩ := ax_bind hf
    refine aw_cVi (As := [.int x2]) (st := [.int a7.2.1]) dX1_leastOf_11 cl_X1_44 iv_X1_across (k_X1_across (Q := (fun v h' => v = some (.int p1.1) ∧ h' = hp p1.2 gb)) g x2 a7.2.2 gb hg hp1 ⟨rfl, rfl⟩) (ci := 1) rfl (hp_get hg.1) rfl rfl rfl (Nat.le_of_ble_eq_true rfl) rfl (by decide) (by decide) ?_
    refine aw_icmp_ge (tgt := 36) dX1_leastOf_14 (by decide) (fun hc1 => ?_) (fun hc1 => ?_)
    · have hf := ax_pos hc1 hf
      refine aw_less (L' := [none, none, none, some (.long a7.1), none, none]) (And.intro rfl trivial) ?_
      cases hf
      exact hK
    · have hf := ax_neg hc1 hf
      refine aw_lload_n dX1_leastOf_17 rfl rfl ?_
      refine aw_aload_n dX1_leastOf_18 rfl rfl ?_
      refine aw_iload_n dX1_leastOf_19 rfl rfl ?_
      refine aw_iload_n dX1_leastOf_20 rfl rfl ?_
      refine aw_iload dX1_leastOf_21 rfl ?_
      obtain ⟨p2, hp2, hf⟩ := ax_bind hf
      refine aw_cVl (As := [.int x1, .int x2, .int a7.2.1]) (st := [.long a7.1]) dX1_leastOf_23 cl_X1_47 iv_X1_inLine (k_X1_inLine (Q := (fun v h' => v = some (.long p2.1) ∧ h' = hp p2.2 gb)) g x1 x2 a7.2.1 p1.2 gb hg hp2 ⟨rfl, rfl⟩) (ci := 1) rfl (hp_get hg.1) rfl rfl rfl (Nat.le_of_ble_eq_true rfl) rfl (by decide) (by decide) ?_
      obtain ⟨p3, hp3, hf⟩ := ax_bind hf
      refine aw_cSl (As := [.long a7.1, .long p2.1]) (st := []) dX1_leastOf_26 cl_X1_51 st_J9_min_f86c9 (k_J9_min_f86c9 (Q := (fun v h' => v = some (.long p3.1) ∧ h' = hp p3.2 gb)) a7.1 p2.1 p2.2 gb hp3 ⟨rfl, rfl⟩) rfl rfl (Nat.le_of_ble_eq_true rfl) rfl (by decide) (by decide) ?_
      refine aw_lstore_n (L' := [some (.ref g), some (.int x1), some (.int x2), some (.long p3.1), none, some (.int a7.2.1)]) dX1_leastOf_29 rfl (by decide) rfl ?_
      refine aw_iinc (v := (a7.2.1 + (1 : Int32))) (L' := [some (.ref g), some (.int x1), some (.int x2), some (.long p3.1), none, some (.int (a7.2.1 + (1 : Int32)))]) dX1_leastOf_30 rfl rfl (by decide) rfl ?_
      refine aw_goto (tgt := 7) dX1_leastOf_33 (by decide) ?_
      cases hf
      exact hK
  · refine aw_lload_n dX1_leastOf_36 rfl rfl ?_
    cases hf
    exact aw_lret dX1_leastOf_37 hq (Nat.le_refl _) (Nat.le_refl _)
noncomputable def f_X1_bearsTilt_L3 (g : Nat) (z1 : Int32) (z2 : Int64) (z4 : Int32) (a3 : Int32 × sx_M) : Option ((Int32 × sx_M) ⊕ ((sx_M) ⊕ (Int32 × sx_M))) :=
  (f_X1_across g z4 a3.2).bind (fun p1 =>
 (if p1.1 ≤ a3.1 then
 some (.inr (.inl p1.2))
else
 (f_X1_inLine g z1 z4 a3.1 p1.2).bind (fun p2 =>
 (if p2.1 = (9223372036854775807 : Int64) then
 some (.inl ((a3.1 + (1 : Int32)), p2.2))
else
 (f_X11_isCost (p2.1 + z2) p2.2).bind (fun p3 =>
 (if p3.1 = 0 then
 some (.inr (.inr (((0 : Int32), p3.2))))
else
 some (.inl ((a3.1 + (1 : Int32)), p3.2))))))))
noncomputable def f_X1_bearsTilt (g : Nat) (x1 : Int32) (x2 : Int64) (x4 : Int32) (s : sx_M) : Option (Int32 × sx_M) :=
  (whT (f_X1_bearsTilt_L3 g x1 x2 x4) ((0 : Int32), s)).bind (fun b4 => (Sum.elim (fun e5 =>
 some ((1 : Int32), e5)) (fun e6 =>
 some e6)) b4)
set_option maxRecDepth 100000 in
set_option maxHeartbeats 4000000 in
theorem k_X1_bearsTilt {l : Launch} {X : ax_X} {Q : Option Value → ax_H → Prop} (g : Nat) (x1 : Int32) (x2 : Int64) (x4 : Int32) (s : sx_M) (gb : ax_H) (hg : ax_G g) {p : Int32 × sx_M} (hf : f_X1_bearsTilt g x1 x2 x4 s = some p) (hq : Q (some (.int p.1)) (hp p.2 gb)) : AM l X yX1_bearsTilt cX1_bearsTilt 8 (some .boolean) 2 0 0 [.ref g, .int x1, .long x2, .int x4] (hp s gb) Q := by
  refine aw_met (own := RX1) (nm := "bearsTilt") (L := [some (.ref g), some (.int x1), some (.long x2), none, some (.int x4), none, none, none]) (by decide +kernel) rfl rfl (And.intro rfl (And.intro rfl (And.intro rfl (And.intro rfl trivial)))) (Nat.le_of_ble_eq_true rfl) ?_
  unfold f_X1_bearsTilt at hf
  refine aw_iconst (v := 0) dX1_bearsTilt_0 (by decide) ?_
  refine aw_istore (L' := [some (.ref g), some (.int x1), some (.long x2), none, some (.int x4), some (.int (0 : Int32)), none, none]) dX1_bearsTilt_1 (by decide) rfl ?_
  obtain ⟨b4, hb4, hf⟩ := ax_bind hf
  refine wh_go ((0 : Int32), s) (fun a3 : Int32 × sx_M => AW l X RX1 "bearsTilt" cX1_bearsTilt 8 (some .boolean) (ax_rm 2 0 0) (ax_MQ X Q 0 0) 0 0 3 [some (.ref g), some (.int x1), some (.long x2), none, some (.int x4), some (.int a3.1), none, none] [] (hp a3.2 gb)) (Sum.elim (fun e : sx_M => AW l X RX1 "bearsTilt" cX1_bearsTilt 8 (some .boolean) (ax_rm 2 0 0) (ax_MQ X Q 0 0) 0 0 52 [none, none, none, none, none, none, none, none] [] (hp e gb)) (fun v : Int32 × sx_M => Q (some (.int v.1)) (hp v.2 gb))) hb4 ?_ ?_
  · intro a3 r hf hK
    unfold f_X1_bearsTilt_L3 at hf
    refine aw_iload dX1_bearsTilt_3 rfl ?_
    refine aw_aload_n dX1_bearsTilt_5 rfl rfl ?_
    refine aw_iload dX1_bearsTilt_6 rfl ?_
    obtain ⟨p1, hp1, hf⟩ := ax_bind hf
    refine aw_cVi (As := [.int x4]) (st := [.int a3.1]) dX1_bearsTilt_8 cl_X1_44 iv_X1_across (k_X1_across (Q := (fun v h' => v = some (.int p1.1) ∧ h' = hp p1.2 gb)) g x4 a3.2 gb hg hp1 ⟨rfl, rfl⟩) (ci := 1) rfl (hp_get hg.1) rfl rfl rfl (Nat.le_of_ble_eq_true rfl) rfl (by decide) (by decide) ?_
    refine aw_icmp_ge (tgt := 52) dX1_bearsTilt_11 (by decide) (fun hc3 => ?_) (fun hc3 => ?_)
    · have hf := ax_pos hc3 hf
      refine aw_less (L' := [none, none, none, none, none, none, none, none]) trivial ?_
      cases hf
      exact hK
    · have hf := ax_neg hc3 hf
      refine aw_aload_n dX1_bearsTilt_14 rfl rfl ?_
      refine aw_iload_n dX1_bearsTilt_15 rfl rfl ?_
      refine aw_iload dX1_bearsTilt_16 rfl ?_
      refine aw_iload dX1_bearsTilt_18 rfl ?_
      obtain ⟨p2, hp2, hf⟩ := ax_bind hf
      refine aw_cVl (As := [.int x1, .int x4, .int a3.1]) (st := []) dX1_bearsTilt_20 cl_X1_47 iv_X1_inLine (k_X1_inLine (Q := (fun v h' => v = some (.long p2.1) ∧ h' = hp p2.2 gb)) g x1 x4 a3.1 p1.2 gb hg hp2 ⟨rfl, rfl⟩) (ci := 1) rfl (hp_get hg.1) rfl rfl rfl (Nat.le_of_ble_eq_true rfl) rfl (by decide) (by decide) ?_
      refine aw_lstore (L' := [some (.ref g), some (.int x1), some (.long x2), none, some (.int x4), some (.int a3.1), some (.long p2.1), none]) dX1_bearsTilt_23 (by decide) rfl ?_
      refine aw_lload dX1_bearsTilt_25 rfl ?_
      refine aw_ldc2 dX1_bearsTilt_27 kc_X1_30 ?_
      refine aw_lcmp_eq (tgt := 46) dX1_bearsTilt_30 dX1_bearsTilt_31 (by decide) (fun hc2 => ?_) (fun hc2 => ?_)
      · have hf := ax_pos hc2 hf
        refine aw_iinc (v := (a3.1 + (1 : Int32))) (L' := [some (.ref g), some (.int x1), some (.long x2), none, some (.int x4), some (.int (a3.1 + (1 : Int32))), some (.long p2.1), none]) dX1_bearsTilt_46 rfl rfl (by decide) rfl ?_
        refine aw_goto (tgt := 3) dX1_bearsTilt_49 (by decide) ?_
        refine aw_less (L' := [some (.ref g), some (.int x1), some (.long x2), none, some (.int x4), some (.int (a3.1 + (1 : Int32))), none, none]) (And.intro rfl (And.intro rfl (And.intro rfl (And.intro rfl (And.intro rfl trivial))))) ?_
        cases hf
        exact hK
      · have hf := ax_neg hc2 hf
        refine aw_lload dX1_bearsTilt_34 rfl ?_
        refine aw_lload_n dX1_bearsTilt_36 rfl rfl ?_
        refine aw_ladd dX1_bearsTilt_37 ?_
        obtain ⟨p3, hp3, hf⟩ := ax_bind hf
        refine aw_cSi (As := [.long (p2.1 + x2)]) (st := []) dX1_bearsTilt_38 cl_X1_57 st_X11_isCost (k_X11_isCost (Q := (fun v h' => v = some (.int p3.1) ∧ h' = hp p3.2 gb)) (p2.1 + x2) p2.2 gb hp3 ⟨rfl, rfl⟩) rfl rfl (Nat.le_of_ble_eq_true rfl) rfl (by decide) (by decide) ?_
        refine aw_if_ne (tgt := 46) dX1_bearsTilt_41 (by decide) (fun hc1 => ?_) (fun hc1 => ?_)
        · have hf := ax_neg hc1 hf
          refine aw_iinc (v := (a3.1 + (1 : Int32))) (L' := [some (.ref g), some (.int x1), some (.long x2), none, some (.int x4), some (.int (a3.1 + (1 : Int32))), some (.long p2.1), none]) dX1_bearsTilt_46 rfl rfl (by decide) rfl ?_
          refine aw_goto (tgt := 3) dX1_bearsTilt_49 (by decide) ?_
          refine aw_less (L' := [some (.ref g), some (.int x1), some (.long x2), none, some (.int x4), some (.int (a3.1 + (1 : Int32))), none, none]) (And.intro rfl (And.intro rfl (And.intro rfl (And.intro rfl (And.intro rfl trivial))))) ?_
          cases hf
          exact hK
        · have hf := ax_pos hc1 hf
          refine aw_iconst (v := 0) dX1_bearsTilt_44 (by decide) ?_
          cases hf
          exact aw_zret dX1_bearsTilt_45 (by decide) hK (Nat.le_refl _) (Nat.le_refl _)
  · rcases b4 with e5 | e6
    · refine aw_iconst (v := 1) dX1_bearsTilt_52 (by decide) ?_
      cases hf
      exact aw_zret dX1_bearsTilt_53 (by decide) hq (Nat.le_refl _) (Nat.le_refl _)
    · cases hf
      exact hq
noncomputable def f_X1_tilt_L3_J57 (g : Nat) (z1 : Int32) (z2 : Int64) (z4 : Int32) (y5_57 : Int32) (y6_57 : Int64) (t1_57 : Int32) (t2_57 : Int32) (s_57 : sx_M) : Option ((Int32 × sx_M) ⊕ (sx_M)) :=
  (f_X1_put g t1_57 t2_57 (y6_57 + z2) s_57).bind (fun p1 =>
 some (.inl ((y5_57 + (1 : Int32)), p1)))
noncomputable def f_X1_tilt_L3_J46 (g : Nat) (z1 : Int32) (z2 : Int64) (z4 : Int32) (y5_46 : Int32) (y6_46 : Int64) (t1_46 : Int32) (s_46 : sx_M) : Option ((Int32 × sx_M) ⊕ (sx_M)) :=
  (if z4 = 0 then
 f_X1_tilt_L3_J57 g z1 z2 z4 y5_46 y6_46 t1_46 y5_46 s_46
else
 f_X1_tilt_L3_J57 g z1 z2 z4 y5_46 y6_46 t1_46 z1 s_46)
noncomputable def f_X1_tilt_L3 (g : Nat) (z1 : Int32) (z2 : Int64) (z4 : Int32) (a3 : Int32 × sx_M) : Option ((Int32 × sx_M) ⊕ (sx_M)) :=
  (f_X1_across g z4 a3.2).bind (fun p2 =>
 (if p2.1 ≤ a3.1 then
 some (.inr p2.2)
else
 (f_X1_inLine g z1 z4 a3.1 p2.2).bind (fun p3 =>
 (if p3.1 = (9223372036854775807 : Int64) then
 some (.inl ((a3.1 + (1 : Int32)), p3.2))
else
 (if z4 = 0 then
 f_X1_tilt_L3_J46 g z1 z2 z4 a3.1 p3.1 z1 p3.2
else
 f_X1_tilt_L3_J46 g z1 z2 z4 a3.1 p3.1 a3.1 p3.2)))))
noncomputable def f_X1_tilt (g : Nat) (x1 : Int32) (x2 : Int64) (x4 : Int32) (s : sx_M) : Option sx_M :=
  (whT (f_X1_tilt_L3 g x1 x2 x4) ((0 : Int32), s)).bind (fun b4 =>
 some b4)
set_option maxRecDepth 100000 in
set_option maxHeartbeats 4000000 in
theorem k_X1_tilt {l : Launch} {X : ax_X} {Q : Option Value → ax_H → Prop} (g : Nat) (x1 : Int32) (x2 : Int64) (x4 : Int32) (s : sx_M) (gb : ax_H) (hg : ax_G g) {p : sx_M} (hf : f_X1_tilt g x1 x2 x4 s = some p) (hq : Q (none) (hp p gb)) : AM l X yX1_tilt cX1_tilt 8 none 2 0 0 [.ref g, .int x1, .long x2, .int x4] (hp s gb) Q := by
  refine aw_met (own := RX1) (nm := "tilt") (L := [some (.ref g), some (.int x1), some (.long x2), none, some (.int x4), none, none, none]) (by decide +kernel) rfl rfl (And.intro rfl (And.intro rfl (And.intro rfl (And.intro rfl trivial)))) (Nat.le_of_ble_eq_true rfl) ?_
  unfold f_X1_tilt at hf
  refine aw_iconst (v := 0) dX1_tilt_0 (by decide) ?_
  refine aw_istore (L' := [some (.ref g), some (.int x1), some (.long x2), none, some (.int x4), some (.int (0 : Int32)), none, none]) dX1_tilt_1 (by decide) rfl ?_
  obtain ⟨b4, hb4, hf⟩ := ax_bind hf
  refine wh_go ((0 : Int32), s) (fun a3 : Int32 × sx_M => AW l X RX1 "tilt" cX1_tilt 8 none (ax_rm 2 0 0) (ax_MQ X Q 0 0) 0 0 3 [some (.ref g), some (.int x1), some (.long x2), none, some (.int x4), some (.int a3.1), none, none] [] (hp a3.2 gb)) (fun e : sx_M => AW l X RX1 "tilt" cX1_tilt 8 none (ax_rm 2 0 0) (ax_MQ X Q 0 0) 0 0 70 [none, none, none, none, none, none, none, none] [] (hp e gb)) hb4 ?_ ?_
  · intro a3 r hf hK
    unfold f_X1_tilt_L3 at hf
    have J57 : ∀ (y5_57 : Int32) (y6_57 : Int64) (t1_57 : Int32) (t2_57 : Int32) (s_57 : sx_M), f_X1_tilt_L3_J57 g x1 x2 x4 y5_57 y6_57 t1_57 t2_57 s_57 = some r → AW l X RX1 "tilt" cX1_tilt 8 none (ax_rm 2 0 0) (ax_MQ X Q 0 0) 0 0 57 [some (.ref g), some (.int x1), some (.long x2), none, some (.int x4), some (.int y5_57), some (.long y6_57), none] [.int t2_57, .int t1_57, .ref g] (hp s_57 gb) := by
      intro y5_57 y6_57 t1_57 t2_57 s_57 hf
      unfold f_X1_tilt_L3_J57 at hf
      refine aw_lload dX1_tilt_57 rfl ?_
      refine aw_lload_n dX1_tilt_59 rfl rfl ?_
      refine aw_ladd dX1_tilt_60 ?_
      obtain ⟨p1, hp1, hf⟩ := ax_bind hf
      refine aw_cVv (As := [.int t1_57, .int t2_57, .long (y6_57 + x2)]) (st := []) dX1_tilt_61 cl_X1_61 iv_X1_put (k_X1_put (Q := (fun v h' => v = none ∧ h' = hp p1 gb)) g t1_57 t2_57 (y6_57 + x2) s_57 gb hg hp1 ⟨rfl, rfl⟩) (ci := 1) rfl (hp_get hg.1) rfl rfl rfl (Nat.le_of_ble_eq_true rfl) rfl (by decide) (by decide) ?_
      refine aw_iinc (v := (y5_57 + (1 : Int32))) (L' := [some (.ref g), some (.int x1), some (.long x2), none, some (.int x4), some (.int (y5_57 + (1 : Int32))), some (.long y6_57), none]) dX1_tilt_64 rfl rfl (by decide) rfl ?_
      refine aw_goto (tgt := 3) dX1_tilt_67 (by decide) ?_
      refine aw_less (L' := [some (.ref g), some (.int x1), some (.long x2), none, some (.int x4), some (.int (y5_57 + (1 : Int32))), none, none]) (And.intro rfl (And.intro rfl (And.intro rfl (And.intro rfl (And.intro rfl trivial))))) ?_
      cases hf
      exact hK
    have J46 : ∀ (y5_46 : Int32) (y6_46 : Int64) (t1_46 : Int32) (s_46 : sx_M), f_X1_tilt_L3_J46 g x1 x2 x4 y5_46 y6_46 t1_46 s_46 = some r → AW l X RX1 "tilt" cX1_tilt 8 none (ax_rm 2 0 0) (ax_MQ X Q 0 0) 0 0 46 [some (.ref g), some (.int x1), some (.long x2), none, some (.int x4), some (.int y5_46), some (.long y6_46), none] [.int t1_46, .ref g] (hp s_46 gb) := by
      intro y5_46 y6_46 t1_46 s_46 hf
      unfold f_X1_tilt_L3_J46 at hf
      refine aw_iload dX1_tilt_46 rfl ?_
      refine aw_if_ne (tgt := 56) dX1_tilt_48 (by decide) (fun hc1 => ?_) (fun hc1 => ?_)
      · have hf := ax_neg hc1 hf
        refine aw_iload_n dX1_tilt_56 rfl rfl ?_
        exact J57 y5_46 y6_46 t1_46 x1 s_46 hf
      · have hf := ax_pos hc1 hf
        refine aw_iload dX1_tilt_51 rfl ?_
        refine aw_goto (tgt := 57) dX1_tilt_53 (by decide) ?_
        exact J57 y5_46 y6_46 t1_46 y5_46 s_46 hf
    refine aw_iload dX1_tilt_3 rfl ?_
    refine aw_aload_n dX1_tilt_5 rfl rfl ?_
    refine aw_iload dX1_tilt_6 rfl ?_
    obtain ⟨p2, hp2, hf⟩ := ax_bind hf
    refine aw_cVi (As := [.int x4]) (st := [.int a3.1]) dX1_tilt_8 cl_X1_44 iv_X1_across (k_X1_across (Q := (fun v h' => v = some (.int p2.1) ∧ h' = hp p2.2 gb)) g x4 a3.2 gb hg hp2 ⟨rfl, rfl⟩) (ci := 1) rfl (hp_get hg.1) rfl rfl rfl (Nat.le_of_ble_eq_true rfl) rfl (by decide) (by decide) ?_
    refine aw_icmp_ge (tgt := 70) dX1_tilt_11 (by decide) (fun hc4 => ?_) (fun hc4 => ?_)
    · have hf := ax_pos hc4 hf
      refine aw_less (L' := [none, none, none, none, none, none, none, none]) trivial ?_
      cases hf
      exact hK
    · have hf := ax_neg hc4 hf
      refine aw_aload_n dX1_tilt_14 rfl rfl ?_
      refine aw_iload_n dX1_tilt_15 rfl rfl ?_
      refine aw_iload dX1_tilt_16 rfl ?_
      refine aw_iload dX1_tilt_18 rfl ?_
      obtain ⟨p3, hp3, hf⟩ := ax_bind hf
      refine aw_cVl (As := [.int x1, .int x4, .int a3.1]) (st := []) dX1_tilt_20 cl_X1_47 iv_X1_inLine (k_X1_inLine (Q := (fun v h' => v = some (.long p3.1) ∧ h' = hp p3.2 gb)) g x1 x4 a3.1 p2.2 gb hg hp3 ⟨rfl, rfl⟩) (ci := 1) rfl (hp_get hg.1) rfl rfl rfl (Nat.le_of_ble_eq_true rfl) rfl (by decide) (by decide) ?_
      refine aw_lstore (L' := [some (.ref g), some (.int x1), some (.long x2), none, some (.int x4), some (.int a3.1), some (.long p3.1), none]) dX1_tilt_23 (by decide) rfl ?_
      refine aw_lload dX1_tilt_25 rfl ?_
      refine aw_ldc2 dX1_tilt_27 kc_X1_30 ?_
      refine aw_lcmp_eq (tgt := 64) dX1_tilt_30 dX1_tilt_31 (by decide) (fun hc3 => ?_) (fun hc3 => ?_)
      · have hf := ax_pos hc3 hf
        refine aw_iinc (v := (a3.1 + (1 : Int32))) (L' := [some (.ref g), some (.int x1), some (.long x2), none, some (.int x4), some (.int (a3.1 + (1 : Int32))), some (.long p3.1), none]) dX1_tilt_64 rfl rfl (by decide) rfl ?_
        refine aw_goto (tgt := 3) dX1_tilt_67 (by decide) ?_
        refine aw_less (L' := [some (.ref g), some (.int x1), some (.long x2), none, some (.int x4), some (.int (a3.1 + (1 : Int32))), none, none]) (And.intro rfl (And.intro rfl (And.intro rfl (And.intro rfl (And.intro rfl trivial))))) ?_
        cases hf
        exact hK
      · have hf := ax_neg hc3 hf
        refine aw_aload_n dX1_tilt_34 rfl rfl ?_
        refine aw_iload dX1_tilt_35 rfl ?_
        refine aw_if_ne (tgt := 44) dX1_tilt_37 (by decide) (fun hc2 => ?_) (fun hc2 => ?_)
        · have hf := ax_neg hc2 hf
          refine aw_iload dX1_tilt_44 rfl ?_
          exact J46 a3.1 p3.1 a3.1 p3.2 hf
        · have hf := ax_pos hc2 hf
          refine aw_iload_n dX1_tilt_40 rfl rfl ?_
          refine aw_goto (tgt := 46) dX1_tilt_41 (by decide) ?_
          exact J46 a3.1 p3.1 x1 p3.2 hf
  · cases hf
    exact aw_vret dX1_tilt_70 hq (Nat.le_refl _) (Nat.le_refl _)
noncomputable def f_X1_addWorker_L21 (g : Nat) (z1 : Int64) (a21 : Int32 × sx_M) : Option ((Int32 × sx_M) ⊕ (sx_M)) :=
  (if (rI a21.2 g 2) ≤ a21.1 then
 some (.inr a21.2)
else
 (f_X1_put g ((rI a21.2 g 1) - (1 : Int32)) a21.1 z1 a21.2).bind (fun p1 =>
 some (.inl ((a21.1 + (1 : Int32)), p1))))
noncomputable def f_X1_addWorker (g : Nat) (x1 : Int64) (s : sx_M) : Option sx_M :=
  (if (7 : Int32) ≤ (rI s g 1) then
 some s
else
 (whT (f_X1_addWorker_L21 g x1) ((0 : Int32), (wI s g 1 ((rI s g 1) + (1 : Int32))))).bind (fun b2 =>
 some b2))
set_option maxRecDepth 100000 in
set_option maxHeartbeats 4000000 in
theorem k_X1_addWorker {l : Launch} {X : ax_X} {Q : Option Value → ax_H → Prop} (g : Nat) (x1 : Int64) (s : sx_M) (gb : ax_H) (hg : ax_G g) {p : sx_M} (hf : f_X1_addWorker g x1 s = some p) (hq : Q (none) (hp p gb)) : AM l X yX1_addWorker cX1_addWorker 4 none 2 0 0 [.ref g, .long x1] (hp s gb) Q := by
  refine aw_met (own := RX1) (nm := "addWorker") (L := [some (.ref g), some (.long x1), none, none]) (by decide +kernel) rfl rfl (And.intro rfl (And.intro rfl trivial)) (Nat.le_of_ble_eq_true rfl) ?_
  unfold f_X1_addWorker at hf
  refine aw_aload_n dX1_addWorker_0 rfl rfl ?_
  refine aw_gI dX1_addWorker_1 fl_X1_15 hg.1 rfl ?_
  refine aw_bipush (v := 7) dX1_addWorker_4 (by decide) ?_
  refine aw_icmp_ge (tgt := 47) dX1_addWorker_6 (by decide) (fun hc2 => ?_) (fun hc2 => ?_)
  · have hf := ax_pos hc2 hf
    cases hf
    exact aw_vret dX1_addWorker_47 hq (Nat.le_refl _) (Nat.le_refl _)
  · have hf := ax_neg hc2 hf
    refine aw_aload_n dX1_addWorker_9 rfl rfl ?_
    refine aw_dup dX1_addWorker_10 rfl ?_
    refine aw_gI dX1_addWorker_11 fl_X1_15 hg.1 rfl ?_
    refine aw_iconst (v := 1) dX1_addWorker_14 (by decide) ?_
    refine aw_iadd dX1_addWorker_15 ?_
    refine aw_pI dX1_addWorker_16 fp_X1_15 hg.1 rfl rfl rfl ?_
    refine aw_iconst (v := 0) dX1_addWorker_19 (by decide) ?_
    refine aw_istore_n (L' := [some (.ref g), some (.long x1), none, some (.int (0 : Int32))]) dX1_addWorker_20 rfl (by decide) rfl ?_
    obtain ⟨b2, hb2, hf⟩ := ax_bind hf
    refine wh_go ((0 : Int32), (wI s g 1 ((rI s g 1) + (1 : Int32)))) (fun a21 : Int32 × sx_M => AW l X RX1 "addWorker" cX1_addWorker 4 none (ax_rm 2 0 0) (ax_MQ X Q 0 0) 0 0 21 [some (.ref g), some (.long x1), none, some (.int a21.1)] [] (hp a21.2 gb)) (fun e : sx_M => AW l X RX1 "addWorker" cX1_addWorker 4 none (ax_rm 2 0 0) (ax_MQ X Q 0 0) 0 0 47 [none, none, none, none] [] (hp e gb)) hb2 ?_ ?_
    · intro a21 r hf hK
      unfold f_X1_addWorker_L21 at hf
      refine aw_iload_n dX1_addWorker_21 rfl rfl ?_
      refine aw_aload_n dX1_addWorker_22 rfl rfl ?_
      refine aw_gI dX1_addWorker_23 fl_X1_19 hg.1 rfl ?_
      refine aw_icmp_ge (tgt := 47) dX1_addWorker_26 (by decide) (fun hc1 => ?_) (fun hc1 => ?_)
      · have hf := ax_pos hc1 hf
        refine aw_less (L' := [none, none, none, none]) trivial ?_
        cases hf
        exact hK
      · have hf := ax_neg hc1 hf
        refine aw_aload_n dX1_addWorker_29 rfl rfl ?_
        refine aw_aload_n dX1_addWorker_30 rfl rfl ?_
        refine aw_gI dX1_addWorker_31 fl_X1_15 hg.1 rfl ?_
        refine aw_iconst (v := 1) dX1_addWorker_34 (by decide) ?_
        refine aw_isub dX1_addWorker_35 ?_
        refine aw_iload_n dX1_addWorker_36 rfl rfl ?_
        refine aw_lload_n dX1_addWorker_37 rfl rfl ?_
        obtain ⟨p1, hp1, hf⟩ := ax_bind hf
        refine aw_cVv (As := [.int ((rI a21.2 g 1) - (1 : Int32)), .int a21.1, .long x1]) (st := []) dX1_addWorker_38 cl_X1_61 iv_X1_put (k_X1_put (Q := (fun v h' => v = none ∧ h' = hp p1 gb)) g ((rI a21.2 g 1) - (1 : Int32)) a21.1 x1 a21.2 gb hg hp1 ⟨rfl, rfl⟩) (ci := 1) rfl (hp_get hg.1) rfl rfl rfl (Nat.le_of_ble_eq_true rfl) rfl (by decide) (by decide) ?_
        refine aw_iinc (v := (a21.1 + (1 : Int32))) (L' := [some (.ref g), some (.long x1), none, some (.int (a21.1 + (1 : Int32)))]) dX1_addWorker_41 rfl rfl (by decide) rfl ?_
        refine aw_goto (tgt := 21) dX1_addWorker_44 (by decide) ?_
        cases hf
        exact hK
    · cases hf
      exact aw_vret dX1_addWorker_47 hq (Nat.le_refl _) (Nat.le_refl _)
noncomputable def f_X1_addJob_L21 (g : Nat) (z1 : Int64) (a21 : Int32 × sx_M) : Option ((Int32 × sx_M) ⊕ (sx_M)) :=
  (if (rI a21.2 g 1) ≤ a21.1 then
 some (.inr a21.2)
else
 (f_X1_put g a21.1 ((rI a21.2 g 2) - (1 : Int32)) z1 a21.2).bind (fun p1 =>
 some (.inl ((a21.1 + (1 : Int32)), p1))))
noncomputable def f_X1_addJob (g : Nat) (x1 : Int64) (s : sx_M) : Option sx_M :=
  (if (8 : Int32) ≤ (rI s g 2) then
 some s
else
 (whT (f_X1_addJob_L21 g x1) ((0 : Int32), (wI s g 2 ((rI s g 2) + (1 : Int32))))).bind (fun b2 =>
 some b2))
set_option maxRecDepth 100000 in
set_option maxHeartbeats 4000000 in
theorem k_X1_addJob {l : Launch} {X : ax_X} {Q : Option Value → ax_H → Prop} (g : Nat) (x1 : Int64) (s : sx_M) (gb : ax_H) (hg : ax_G g) {p : sx_M} (hf : f_X1_addJob g x1 s = some p) (hq : Q (none) (hp p gb)) : AM l X yX1_addJob cX1_addJob 4 none 2 0 0 [.ref g, .long x1] (hp s gb) Q := by
  refine aw_met (own := RX1) (nm := "addJob") (L := [some (.ref g), some (.long x1), none, none]) (by decide +kernel) rfl rfl (And.intro rfl (And.intro rfl trivial)) (Nat.le_of_ble_eq_true rfl) ?_
  unfold f_X1_addJob at hf
  refine aw_aload_n dX1_addJob_0 rfl rfl ?_
  refine aw_gI dX1_addJob_1 fl_X1_19 hg.1 rfl ?_
  refine aw_bipush (v := 8) dX1_addJob_4 (by decide) ?_
  refine aw_icmp_ge (tgt := 47) dX1_addJob_6 (by decide) (fun hc2 => ?_) (fun hc2 => ?_)
  · have hf := ax_pos hc2 hf
    cases hf
    exact aw_vret dX1_addJob_47 hq (Nat.le_refl _) (Nat.le_refl _)
  · have hf := ax_neg hc2 hf
    refine aw_aload_n dX1_addJob_9 rfl rfl ?_
    refine aw_dup dX1_addJob_10 rfl ?_
    refine aw_gI dX1_addJob_11 fl_X1_19 hg.1 rfl ?_
    refine aw_iconst (v := 1) dX1_addJob_14 (by decide) ?_
    refine aw_iadd dX1_addJob_15 ?_
    refine aw_pI dX1_addJob_16 fp_X1_19 hg.1 rfl rfl rfl ?_
    refine aw_iconst (v := 0) dX1_addJob_19 (by decide) ?_
    refine aw_istore_n (L' := [some (.ref g), some (.long x1), none, some (.int (0 : Int32))]) dX1_addJob_20 rfl (by decide) rfl ?_
    obtain ⟨b2, hb2, hf⟩ := ax_bind hf
    refine wh_go ((0 : Int32), (wI s g 2 ((rI s g 2) + (1 : Int32)))) (fun a21 : Int32 × sx_M => AW l X RX1 "addJob" cX1_addJob 4 none (ax_rm 2 0 0) (ax_MQ X Q 0 0) 0 0 21 [some (.ref g), some (.long x1), none, some (.int a21.1)] [] (hp a21.2 gb)) (fun e : sx_M => AW l X RX1 "addJob" cX1_addJob 4 none (ax_rm 2 0 0) (ax_MQ X Q 0 0) 0 0 47 [none, none, none, none] [] (hp e gb)) hb2 ?_ ?_
    · intro a21 r hf hK
      unfold f_X1_addJob_L21 at hf
      refine aw_iload_n dX1_addJob_21 rfl rfl ?_
      refine aw_aload_n dX1_addJob_22 rfl rfl ?_
      refine aw_gI dX1_addJob_23 fl_X1_15 hg.1 rfl ?_
      refine aw_icmp_ge (tgt := 47) dX1_addJob_26 (by decide) (fun hc1 => ?_) (fun hc1 => ?_)
      · have hf := ax_pos hc1 hf
        refine aw_less (L' := [none, none, none, none]) trivial ?_
        cases hf
        exact hK
      · have hf := ax_neg hc1 hf
        refine aw_aload_n dX1_addJob_29 rfl rfl ?_
        refine aw_iload_n dX1_addJob_30 rfl rfl ?_
        refine aw_aload_n dX1_addJob_31 rfl rfl ?_
        refine aw_gI dX1_addJob_32 fl_X1_19 hg.1 rfl ?_
        refine aw_iconst (v := 1) dX1_addJob_35 (by decide) ?_
        refine aw_isub dX1_addJob_36 ?_
        refine aw_lload_n dX1_addJob_37 rfl rfl ?_
        obtain ⟨p1, hp1, hf⟩ := ax_bind hf
        refine aw_cVv (As := [.int a21.1, .int ((rI a21.2 g 2) - (1 : Int32)), .long x1]) (st := []) dX1_addJob_38 cl_X1_61 iv_X1_put (k_X1_put (Q := (fun v h' => v = none ∧ h' = hp p1 gb)) g a21.1 ((rI a21.2 g 2) - (1 : Int32)) x1 a21.2 gb hg hp1 ⟨rfl, rfl⟩) (ci := 1) rfl (hp_get hg.1) rfl rfl rfl (Nat.le_of_ble_eq_true rfl) rfl (by decide) (by decide) ?_
        refine aw_iinc (v := (a21.1 + (1 : Int32))) (L' := [some (.ref g), some (.long x1), none, some (.int (a21.1 + (1 : Int32)))]) dX1_addJob_41 rfl rfl (by decide) rfl ?_
        refine aw_goto (tgt := 21) dX1_addJob_44 (by decide) ?_
        cases hf
        exact hK
    · cases hf
      exact aw_vret dX1_addJob_47 hq (Nat.le_refl _) (Nat.le_refl _)
noncomputable def f_X1_dropWorker_L23 (g : Nat) (z2 : Int32) (a23 : Int32 × sx_M) : Option ((Int32 × sx_M) ⊕ (sx_M)) :=
  (if (rI a23.2 g 2) ≤ a23.1 then
 some (.inr a23.2)
else
 (f_X1_at g (z2 + (1 : Int32)) a23.1 a23.2).bind (fun p2 =>
 (f_X1_put g z2 a23.1 p2.1 p2.2).bind (fun p3 =>
 some (.inl ((a23.1 + (1 : Int32)), p3)))))
noncomputable def f_X1_dropWorker_L11 (g : Nat) (a11 : Int32 × sx_M) : Option ((Int32 × sx_M) ⊕ (sx_M)) :=
  (if ((rI a11.2 g 1) - (1 : Int32)) ≤ a11.1 then
 some (.inr a11.2)
else
 (whT (f_X1_dropWorker_L23 g a11.1) ((0 : Int32), a11.2)).bind (fun b4 =>
 some (.inl ((a11.1 + (1 : Int32)), b4))))
noncomputable def f_X1_dropWorker (g : Nat) (x1 : Int32) (s : sx_M) : Option sx_M :=
  (f_X1_hasWorker g x1 s).bind (fun p1 =>
 (if p1.1 = 0 then
 some p1.2
else
 (whT (f_X1_dropWorker_L11 g) (x1, p1.2)).bind (fun b5 =>
 some (wI b5 g 1 ((rI b5 g 1) - (1 : Int32))))))
set_option maxRecDepth 100000 in
set_option maxHeartbeats 4000000 in
theorem k_X1_dropWorker {l : Launch} {X : ax_X} {Q : Option Value → ax_H → Prop} (g : Nat) (x1 : Int32) (s : sx_M) (gb : ax_H) (hg : ax_G g) {p : sx_M} (hf : f_X1_dropWorker g x1 s = some p) (hq : Q (none) (hp p gb)) : AM l X yX1_dropWorker cX1_dropWorker 4 none 2 0 0 [.ref g, .int x1] (hp s gb) Q := by
  refine aw_met (own := RX1) (nm := "dropWorker") (L := [some (.ref g), some (.int x1), none, none]) (by decide +kernel) rfl rfl (And.intro rfl (And.intro rfl trivial)) (Nat.le_of_ble_eq_true rfl) ?_
  unfold f_X1_dropWorker at hf
  refine aw_aload_n dX1_dropWorker_0 rfl rfl ?_
  refine aw_iload_n dX1_dropWorker_1 rfl rfl ?_
  obtain ⟨p1, hp1, hf⟩ := ax_bind hf
  refine aw_cVi (As := [.int x1]) (st := []) dX1_dropWorker_2 cl_X1_65 iv_X1_hasWorker (k_X1_hasWorker (Q := (fun v h' => v = some (.int p1.1) ∧ h' = hp p1.2 gb)) g x1 s gb hg hp1 ⟨rfl, rfl⟩) (ci := 1) rfl (hp_get hg.1) rfl rfl rfl (Nat.le_of_ble_eq_true rfl) rfl (by decide) (by decide) ?_
  refine aw_if_ne (tgt := 9) dX1_dropWorker_5 (by decide) (fun hc3 => ?_) (fun hc3 => ?_)
  · have hf := ax_neg hc3 hf
    refine aw_iload_n dX1_dropWorker_9 rfl rfl ?_
    refine aw_istore_n (L' := [some (.ref g), some (.int x1), some (.int x1), none]) dX1_dropWorker_10 rfl (by decide) rfl ?_
    refine aw_less (L' := [some (.ref g), none, some (.int x1), none]) (And.intro rfl (And.intro rfl trivial)) ?_
    obtain ⟨b5, hb5, hf⟩ := ax_bind hf
    refine wh_go (x1, p1.2) (fun a11 : Int32 × sx_M => AW l X RX1 "dropWorker" cX1_dropWorker 4 none (ax_rm 2 0 0) (ax_MQ X Q 0 0) 0 0 11 [some (.ref g), none, some (.int a11.1), none] [] (hp a11.2 gb)) (fun e : sx_M => AW l X RX1 "dropWorker" cX1_dropWorker 4 none (ax_rm 2 0 0) (ax_MQ X Q 0 0) 0 0 57 [some (.ref g), none, none, none] [] (hp e gb)) hb5 ?_ ?_
    · intro a11 r hf hK
      unfold f_X1_dropWorker_L11 at hf
      refine aw_iload_n dX1_dropWorker_11 rfl rfl ?_
      refine aw_aload_n dX1_dropWorker_12 rfl rfl ?_
      refine aw_gI dX1_dropWorker_13 fl_X1_15 hg.1 rfl ?_
      refine aw_iconst (v := 1) dX1_dropWorker_16 (by decide) ?_
      refine aw_isub dX1_dropWorker_17 ?_
      refine aw_icmp_ge (tgt := 57) dX1_dropWorker_18 (by decide) (fun hc2 => ?_) (fun hc2 => ?_)
      · have hf := ax_pos hc2 hf
        refine aw_less (L' := [some (.ref g), none, none, none]) (And.intro rfl trivial) ?_
        cases hf
        exact hK
      · have hf := ax_neg hc2 hf
        refine aw_iconst (v := 0) dX1_dropWorker_21 (by decide) ?_
        refine aw_istore_n (L' := [some (.ref g), none, some (.int a11.1), some (.int (0 : Int32))]) dX1_dropWorker_22 rfl (by decide) rfl ?_
        obtain ⟨b4, hb4, hf⟩ := ax_bind hf
        refine wh_go ((0 : Int32), a11.2) (fun a23 : Int32 × sx_M => AW l X RX1 "dropWorker" cX1_dropWorker 4 none (ax_rm 2 0 0) (ax_MQ X Q 0 0) 0 0 23 [some (.ref g), none, some (.int a11.1), some (.int a23.1)] [] (hp a23.2 gb)) (fun e : sx_M => AW l X RX1 "dropWorker" cX1_dropWorker 4 none (ax_rm 2 0 0) (ax_MQ X Q 0 0) 0 0 51 [some (.ref g), none, some (.int a11.1), none] [] (hp e gb)) hb4 ?_ ?_
        · intro a23 r hf hK
          unfold f_X1_dropWorker_L23 at hf
          refine aw_iload_n dX1_dropWorker_23 rfl rfl ?_
          refine aw_aload_n dX1_dropWorker_24 rfl rfl ?_
          refine aw_gI dX1_dropWorker_25 fl_X1_19 hg.1 rfl ?_
          refine aw_icmp_ge (tgt := 51) dX1_dropWorker_28 (by decide) (fun hc1 => ?_) (fun hc1 => ?_)
          · have hf := ax_pos hc1 hf
            refine aw_less (L' := [some (.ref g), none, some (.int a11.1), none]) (And.intro rfl (And.intro rfl trivial)) ?_
            cases hf
            exact hK
          · have hf := ax_neg hc1 hf
            refine aw_aload_n dX1_dropWorker_31 rfl rfl ?_
            refine aw_iload_n dX1_dropWorker_32 rfl rfl ?_
            refine aw_iload_n dX1_dropWorker_33 rfl rfl ?_
            refine aw_aload_n dX1_dropWorker_34 rfl rfl ?_
            refine aw_iload_n dX1_dropWorker_35 rfl rfl ?_
            refine aw_iconst (v := 1) dX1_dropWorker_36 (by decide) ?_
            refine aw_iadd dX1_dropWorker_37 ?_
            refine aw_iload_n dX1_dropWorker_38 rfl rfl ?_
            obtain ⟨p2, hp2, hf⟩ := ax_bind hf
            refine aw_cVl (As := [.int (a11.1 + (1 : Int32)), .int a23.1]) (st := [.int a23.1, .int a11.1, .ref g]) dX1_dropWorker_39 cl_X1_36 iv_X1_at (k_X1_at (Q := (fun v h' => v = some (.long p2.1) ∧ h' = hp p2.2 gb)) g (a11.1 + (1 : Int32)) a23.1 a23.2 gb hg hp2 ⟨rfl, rfl⟩) (ci := 1) rfl (hp_get hg.1) rfl rfl rfl (Nat.le_of_ble_eq_true rfl) rfl (by decide) (by decide) ?_
            obtain ⟨p3, hp3, hf⟩ := ax_bind hf
            refine aw_cVv (As := [.int a11.1, .int a23.1, .long p2.1]) (st := []) dX1_dropWorker_42 cl_X1_61 iv_X1_put (k_X1_put (Q := (fun v h' => v = none ∧ h' = hp p3 gb)) g a11.1 a23.1 p2.1 p2.2 gb hg hp3 ⟨rfl, rfl⟩) (ci := 1) rfl (hp_get hg.1) rfl rfl rfl (Nat.le_of_ble_eq_true rfl) rfl (by decide) (by decide) ?_
            refine aw_iinc (v := (a23.1 + (1 : Int32))) (L' := [some (.ref g), none, some (.int a11.1), some (.int (a23.1 + (1 : Int32)))]) dX1_dropWorker_45 rfl rfl (by decide) rfl ?_
            refine aw_goto (tgt := 23) dX1_dropWorker_48 (by decide) ?_
            cases hf
            exact hK
        · refine aw_iinc (v := (a11.1 + (1 : Int32))) (L' := [some (.ref g), none, some (.int (a11.1 + (1 : Int32))), none]) dX1_dropWorker_51 rfl rfl (by decide) rfl ?_
          refine aw_goto (tgt := 11) dX1_dropWorker_54 (by decide) ?_
          cases hf
          exact hK
    · refine aw_aload_n dX1_dropWorker_57 rfl rfl ?_
      refine aw_dup dX1_dropWorker_58 rfl ?_
      refine aw_gI dX1_dropWorker_59 fl_X1_15 hg.1 rfl ?_
      refine aw_iconst (v := 1) dX1_dropWorker_62 (by decide) ?_
      refine aw_isub dX1_dropWorker_63 ?_
      refine aw_pI dX1_dropWorker_64 fp_X1_15 hg.1 rfl rfl rfl ?_
      cases hf
      exact aw_vret dX1_dropWorker_67 hq (Nat.le_refl _) (Nat.le_refl _)
  · have hf := ax_pos hc3 hf
    cases hf
    exact aw_vret dX1_dropWorker_8 hq (Nat.le_refl _) (Nat.le_refl _)
noncomputable def f_X1_dropJob_L21 (g : Nat) (z1 : Int32) (z1 : Int32) (z2 : Int32) (a21 : Int32 × sx_M) : Option ((Int32 × sx_M) ⊕ (sx_M)) :=
  (if ((rI a21.2 g 2) - (1 : Int32)) ≤ a21.1 then
 some (.inr a21.2)
else
 (f_X1_at g z2 (a21.1 + (1 : Int32)) a21.2).bind (fun p2 =>
 (f_X1_put g z2 a21.1 p2.1 p2.2).bind (fun p3 =>
 some (.inl ((a21.1 + (1 : Int32)), p3)))))
noncomputable def f_X1_dropJob_L11 (g : Nat) (z1 : Int32) (a11 : Int32 × sx_M) : Option ((Int32 × sx_M) ⊕ (sx_M)) :=
  (if (rI a11.2 g 1) ≤ a11.1 then
 some (.inr a11.2)
else
 (whT (f_X1_dropJob_L21 g z1 z1 a11.1) (z1, a11.2)).bind (fun b4 =>
 some (.inl ((a11.1 + (1 : Int32)), b4))))
noncomputable def f_X1_dropJob (g : Nat) (x1 : Int32) (s : sx_M) : Option sx_M :=
  (f_X1_hasJob g x1 s).bind (fun p1 =>
 (if p1.1 = 0 then
 some p1.2
else
 (whT (f_X1_dropJob_L11 g x1) ((0 : Int32), p1.2)).bind (fun b5 =>
 some (wI b5 g 2 ((rI b5 g 2) - (1 : Int32))))))
set_option maxRecDepth 100000 in
set_option maxHeartbeats 4000000 in
theorem k_X1_dropJob {l : Launch} {X : ax_X} {Q : Option Value → ax_H → Prop} (g : Nat) (x1 : Int32) (s : sx_M) (gb : ax_H) (hg : ax_G g) {p : sx_M} (hf : f_X1_dropJob g x1 s = some p) (hq : Q (none) (hp p gb)) : AM l X yX1_dropJob cX1_dropJob 4 none 2 0 0 [.ref g, .int x1] (hp s gb) Q := by
  refine aw_met (own := RX1) (nm := "dropJob") (L := [some (.ref g), some (.int x1), none, none]) (by decide +kernel) rfl rfl (And.intro rfl (And.intro rfl trivial)) (Nat.le_of_ble_eq_true rfl) ?_
  unfold f_X1_dropJob at hf
  refine aw_aload_n dX1_dropJob_0 rfl rfl ?_
  refine aw_iload_n dX1_dropJob_1 rfl rfl ?_
  obtain ⟨p1, hp1, hf⟩ := ax_bind hf
  refine aw_cVi (As := [.int x1]) (st := []) dX1_dropJob_2 cl_X1_68 iv_X1_hasJob (k_X1_hasJob (Q := (fun v h' => v = some (.int p1.1) ∧ h' = hp p1.2 gb)) g x1 s gb hg hp1 ⟨rfl, rfl⟩) (ci := 1) rfl (hp_get hg.1) rfl rfl rfl (Nat.le_of_ble_eq_true rfl) rfl (by decide) (by decide) ?_
  refine aw_if_ne (tgt := 9) dX1_dropJob_5 (by decide) (fun hc3 => ?_) (fun hc3 => ?_)
  · have hf := ax_neg hc3 hf
    refine aw_iconst (v := 0) dX1_dropJob_9 (by decide) ?_
    refine aw_istore_n (L' := [some (.ref g), some (.int x1), some (.int (0 : Int32)), none]) dX1_dropJob_10 rfl (by decide) rfl ?_
    obtain ⟨b5, hb5, hf⟩ := ax_bind hf
    refine wh_go ((0 : Int32), p1.2) (fun a11 : Int32 × sx_M => AW l X RX1 "dropJob" cX1_dropJob 4 none (ax_rm 2 0 0) (ax_MQ X Q 0 0) 0 0 11 [some (.ref g), some (.int x1), some (.int a11.1), none] [] (hp a11.2 gb)) (fun e : sx_M => AW l X RX1 "dropJob" cX1_dropJob 4 none (ax_rm 2 0 0) (ax_MQ X Q 0 0) 0 0 57 [some (.ref g), none, none, none] [] (hp e gb)) hb5 ?_ ?_
    · intro a11 r hf hK
      unfold f_X1_dropJob_L11 at hf
      refine aw_iload_n dX1_dropJob_11 rfl rfl ?_
      refine aw_aload_n dX1_dropJob_12 rfl rfl ?_
      refine aw_gI dX1_dropJob_13 fl_X1_15 hg.1 rfl ?_
      refine aw_icmp_ge (tgt := 57) dX1_dropJob_16 (by decide) (fun hc2 => ?_) (fun hc2 => ?_)
      · have hf := ax_pos hc2 hf
        refine aw_less (L' := [some (.ref g), none, none, none]) (And.intro rfl trivial) ?_
        cases hf
        exact hK
      · have hf := ax_neg hc2 hf
        refine aw_iload_n dX1_dropJob_19 rfl rfl ?_
        refine aw_istore_n (L' := [some (.ref g), some (.int x1), some (.int a11.1), some (.int x1)]) dX1_dropJob_20 rfl (by decide) rfl ?_
        obtain ⟨b4, hb4, hf⟩ := ax_bind hf
        refine wh_go (x1, a11.2) (fun a21 : Int32 × sx_M => AW l X RX1 "dropJob" cX1_dropJob 4 none (ax_rm 2 0 0) (ax_MQ X Q 0 0) 0 0 21 [some (.ref g), some (.int x1), some (.int a11.1), some (.int a21.1)] [] (hp a21.2 gb)) (fun e : sx_M => AW l X RX1 "dropJob" cX1_dropJob 4 none (ax_rm 2 0 0) (ax_MQ X Q 0 0) 0 0 51 [some (.ref g), some (.int x1), some (.int a11.1), none] [] (hp e gb)) hb4 ?_ ?_
        · intro a21 r hf hK
          unfold f_X1_dropJob_L21 at hf
          refine aw_iload_n dX1_dropJob_21 rfl rfl ?_
          refine aw_aload_n dX1_dropJob_22 rfl rfl ?_
          refine aw_gI dX1_dropJob_23 fl_X1_19 hg.1 rfl ?_
          refine aw_iconst (v := 1) dX1_dropJob_26 (by decide) ?_
          refine aw_isub dX1_dropJob_27 ?_
          refine aw_icmp_ge (tgt := 51) dX1_dropJob_28 (by decide) (fun hc1 => ?_) (fun hc1 => ?_)
          · have hf := ax_pos hc1 hf
            refine aw_less (L' := [some (.ref g), some (.int x1), some (.int a11.1), none]) (And.intro rfl (And.intro rfl (And.intro rfl trivial))) ?_
            cases hf
            exact hK
          · have hf := ax_neg hc1 hf
            refine aw_aload_n dX1_dropJob_31 rfl rfl ?_
            refine aw_iload_n dX1_dropJob_32 rfl rfl ?_
            refine aw_iload_n dX1_dropJob_33 rfl rfl ?_
            refine aw_aload_n dX1_dropJob_34 rfl rfl ?_
            refine aw_iload_n dX1_dropJob_35 rfl rfl ?_
            refine aw_iload_n dX1_dropJob_36 rfl rfl ?_
            refine aw_iconst (v := 1) dX1_dropJob_37 (by decide) ?_
            refine aw_iadd dX1_dropJob_38 ?_
            obtain ⟨p2, hp2, hf⟩ := ax_bind hf
            refine aw_cVl (As := [.int a11.1, .int (a21.1 + (1 : Int32))]) (st := [.int a21.1, .int a11.1, .ref g]) dX1_dropJob_39 cl_X1_36 iv_X1_at (k_X1_at (Q := (fun v h' => v = some (.long p2.1) ∧ h' = hp p2.2 gb)) g a11.1 (a21.1 + (1 : Int32)) a21.2 gb hg hp2 ⟨rfl, rfl⟩) (ci := 1) rfl (hp_get hg.1) rfl rfl rfl (Nat.le_of_ble_eq_true rfl) rfl (by decide) (by decide) ?_
            obtain ⟨p3, hp3, hf⟩ := ax_bind hf
            refine aw_cVv (As := [.int a11.1, .int a21.1, .long p2.1]) (st := []) dX1_dropJob_42 cl_X1_61 iv_X1_put (k_X1_put (Q := (fun v h' => v = none ∧ h' = hp p3 gb)) g a11.1 a21.1 p2.1 p2.2 gb hg hp3 ⟨rfl, rfl⟩) (ci := 1) rfl (hp_get hg.1) rfl rfl rfl (Nat.le_of_ble_eq_true rfl) rfl (by decide) (by decide) ?_
            refine aw_iinc (v := (a21.1 + (1 : Int32))) (L' := [some (.ref g), some (.int x1), some (.int a11.1), some (.int (a21.1 + (1 : Int32)))]) dX1_dropJob_45 rfl rfl (by decide) rfl ?_
            refine aw_goto (tgt := 21) dX1_dropJob_48 (by decide) ?_
            cases hf
            exact hK
        · refine aw_iinc (v := (a11.1 + (1 : Int32))) (L' := [some (.ref g), some (.int x1), some (.int (a11.1 + (1 : Int32))), none]) dX1_dropJob_51 rfl rfl (by decide) rfl ?_
          refine aw_goto (tgt := 11) dX1_dropJob_54 (by decide) ?_
          cases hf
          exact hK
    · refine aw_aload_n dX1_dropJob_57 rfl rfl ?_
      refine aw_dup dX1_dropJob_58 rfl ?_
      refine aw_gI dX1_dropJob_59 fl_X1_19 hg.1 rfl ?_
      refine aw_iconst (v := 1) dX1_dropJob_62 (by decide) ?_
      refine aw_isub dX1_dropJob_63 ?_
      refine aw_pI dX1_dropJob_64 fp_X1_19 hg.1 rfl rfl rfl ?_
      cases hf
      exact aw_vret dX1_dropJob_67 hq (Nat.le_refl _) (Nat.le_refl _)
  · have hf := ax_pos hc3 hf
    cases hf
    exact aw_vret dX1_dropJob_8 hq (Nat.le_refl _) (Nat.le_refl _)
noncomputable def f_X1_barJob_L2 (g : Nat) (z1 : Int32) (a2 : Int32 × sx_M) : Option ((Int32 × sx_M) ⊕ (sx_M)) :=
  (if (rI a2.2 g 1) ≤ a2.1 then
 some (.inr a2.2)
else
 (f_X1_put g a2.1 z1 (9223372036854775807 : Int64) a2.2).bind (fun p1 =>
 some (.inl ((a2.1 + (1 : Int32)), p1))))
noncomputable def f_X1_barJob (g : Nat) (x1 : Int32) (s : sx_M) : Option sx_M :=
  (whT (f_X1_barJob_L2 g x1) ((0 : Int32), s)).bind (fun b2 =>
 some b2)
set_option maxRecDepth 100000 in
set_option maxHeartbeats 4000000 in
theorem k_X1_barJob {l : Launch} {X : ax_X} {Q : Option Value → ax_H → Prop} (g : Nat) (x1 : Int32) (s : sx_M) (gb : ax_H) (hg : ax_G g) {p : sx_M} (hf : f_X1_barJob g x1 s = some p) (hq : Q (none) (hp p gb)) : AM l X yX1_barJob cX1_barJob 3 none 2 0 0 [.ref g, .int x1] (hp s gb) Q := by
  refine aw_met (own := RX1) (nm := "barJob") (L := [some (.ref g), some (.int x1), none]) (by decide +kernel) rfl rfl (And.intro rfl (And.intro rfl trivial)) (Nat.le_of_ble_eq_true rfl) ?_
  unfold f_X1_barJob at hf
  refine aw_iconst (v := 0) dX1_barJob_0 (by decide) ?_
  refine aw_istore_n (L' := [some (.ref g), some (.int x1), some (.int (0 : Int32))]) dX1_barJob_1 rfl (by decide) rfl ?_
  obtain ⟨b2, hb2, hf⟩ := ax_bind hf
  refine wh_go ((0 : Int32), s) (fun a2 : Int32 × sx_M => AW l X RX1 "barJob" cX1_barJob 3 none (ax_rm 2 0 0) (ax_MQ X Q 0 0) 0 0 2 [some (.ref g), some (.int x1), some (.int a2.1)] [] (hp a2.2 gb)) (fun e : sx_M => AW l X RX1 "barJob" cX1_barJob 3 none (ax_rm 2 0 0) (ax_MQ X Q 0 0) 0 0 25 [none, none, none] [] (hp e gb)) hb2 ?_ ?_
  · intro a2 r hf hK
    unfold f_X1_barJob_L2 at hf
    refine aw_iload_n dX1_barJob_2 rfl rfl ?_
    refine aw_aload_n dX1_barJob_3 rfl rfl ?_
    refine aw_gI dX1_barJob_4 fl_X1_15 hg.1 rfl ?_
    refine aw_icmp_ge (tgt := 25) dX1_barJob_7 (by decide) (fun hc1 => ?_) (fun hc1 => ?_)
    · have hf := ax_pos hc1 hf
      refine aw_less (L' := [none, none, none]) trivial ?_
      cases hf
      exact hK
    · have hf := ax_neg hc1 hf
      refine aw_aload_n dX1_barJob_10 rfl rfl ?_
      refine aw_iload_n dX1_barJob_11 rfl rfl ?_
      refine aw_iload_n dX1_barJob_12 rfl rfl ?_
      refine aw_ldc2 dX1_barJob_13 kc_X1_30 ?_
      obtain ⟨p1, hp1, hf⟩ := ax_bind hf
      refine aw_cVv (As := [.int a2.1, .int x1, .long (9223372036854775807 : Int64)]) (st := []) dX1_barJob_16 cl_X1_61 iv_X1_put (k_X1_put (Q := (fun v h' => v = none ∧ h' = hp p1 gb)) g a2.1 x1 (9223372036854775807 : Int64) a2.2 gb hg hp1 ⟨rfl, rfl⟩) (ci := 1) rfl (hp_get hg.1) rfl rfl rfl (Nat.le_of_ble_eq_true rfl) rfl (by decide) (by decide) ?_
      refine aw_iinc (v := (a2.1 + (1 : Int32))) (L' := [some (.ref g), some (.int x1), some (.int (a2.1 + (1 : Int32)))]) dX1_barJob_19 rfl rfl (by decide) rfl ?_
      refine aw_goto (tgt := 2) dX1_barJob_22 (by decide) ?_
      cases hf
      exact hK
  · cases hf
    exact aw_vret dX1_barJob_25 hq (Nat.le_refl _) (Nat.le_refl _)
noncomputable def f_X1_sameCosts_L2 (g : Nat) (z1 : Int32) (z2 : Int32) (a2 : Int32 × sx_M) : Option ((Int32 × sx_M) ⊕ ((sx_M) ⊕ (Int32 × sx_M))) :=
  (if (rI a2.2 g 2) ≤ a2.1 then
 some (.inr (.inl a2.2))
else
 (f_X1_at g z1 a2.1 a2.2).bind (fun p1 =>
 (f_X1_at g z2 a2.1 p1.2).bind (fun p2 =>
 (if p1.1 = p2.1 then
 some (.inl ((a2.1 + (1 : Int32)), p2.2))
else
 some (.inr (.inr (((0 : Int32), p2.2))))))))
noncomputable def f_X1_sameCosts (g : Nat) (x1 : Int32) (x2 : Int32) (s : sx_M) : Option (Int32 × sx_M) :=
  (whT (f_X1_sameCosts_L2 g x1 x2) ((0 : Int32), s)).bind (fun b3 => (Sum.elim (fun e4 =>
 some ((1 : Int32), e4)) (fun e5 =>
 some e5)) b3)
set_option maxRecDepth 100000 in
set_option maxHeartbeats 4000000 in
theorem k_X1_sameCosts {l : Launch} {X : ax_X} {Q : Option Value → ax_H → Prop} (g : Nat) (x1 : Int32) (x2 : Int32) (s : sx_M) (gb : ax_H) (hg : ax_G g) {p : Int32 × sx_M} (hf : f_X1_sameCosts g x1 x2 s = some p) (hq : Q (some (.int p.1)) (hp p.2 gb)) : AM l X yX1_sameCosts cX1_sameCosts 4 (some .boolean) 1 0 0 [.ref g, .int x1, .int x2] (hp s gb) Q := by
  refine aw_met (own := RX1) (nm := "sameCosts") (L := [some (.ref g), some (.int x1), some (.int x2), none]) (by decide +kernel) rfl rfl (And.intro rfl (And.intro rfl (And.intro rfl trivial))) (Nat.le_of_ble_eq_true rfl) ?_
  unfold f_X1_sameCosts at hf
  refine aw_iconst (v := 0) dX1_sameCosts_0 (by decide) ?_
  refine aw_istore_n (L' := [some (.ref g), some (.int x1), some (.int x2), some (.int (0 : Int32))]) dX1_sameCosts_1 rfl (by decide) rfl ?_
  obtain ⟨b3, hb3, hf⟩ := ax_bind hf
  refine wh_go ((0 : Int32), s) (fun a2 : Int32 × sx_M => AW l X RX1 "sameCosts" cX1_sameCosts 4 (some .boolean) (ax_rm 1 0 0) (ax_MQ X Q 0 0) 0 0 2 [some (.ref g), some (.int x1), some (.int x2), some (.int a2.1)] [] (hp a2.2 gb)) (Sum.elim (fun e : sx_M => AW l X RX1 "sameCosts" cX1_sameCosts 4 (some .boolean) (ax_rm 1 0 0) (ax_MQ X Q 0 0) 0 0 34 [none, none, none, none] [] (hp e gb)) (fun v : Int32 × sx_M => Q (some (.int v.1)) (hp v.2 gb))) hb3 ?_ ?_
  · intro a2 r hf hK
    unfold f_X1_sameCosts_L2 at hf
    refine aw_iload_n dX1_sameCosts_2 rfl rfl ?_
    refine aw_aload_n dX1_sameCosts_3 rfl rfl ?_
    refine aw_gI dX1_sameCosts_4 fl_X1_19 hg.1 rfl ?_
    refine aw_icmp_ge (tgt := 34) dX1_sameCosts_7 (by decide) (fun hc2 => ?_) (fun hc2 => ?_)
    · have hf := ax_pos hc2 hf
      refine aw_less (L' := [none, none, none, none]) trivial ?_
      cases hf
      exact hK
    · have hf := ax_neg hc2 hf
      refine aw_aload_n dX1_sameCosts_10 rfl rfl ?_
      refine aw_iload_n dX1_sameCosts_11 rfl rfl ?_
      refine aw_iload_n dX1_sameCosts_12 rfl rfl ?_
      obtain ⟨p1, hp1, hf⟩ := ax_bind hf
      refine aw_cVl (As := [.int x1, .int a2.1]) (st := []) dX1_sameCosts_13 cl_X1_36 iv_X1_at (k_X1_at (Q := (fun v h' => v = some (.long p1.1) ∧ h' = hp p1.2 gb)) g x1 a2.1 a2.2 gb hg hp1 ⟨rfl, rfl⟩) (ci := 1) rfl (hp_get hg.1) rfl rfl rfl (Nat.le_of_ble_eq_true rfl) rfl (by decide) (by decide) ?_
      refine aw_aload_n dX1_sameCosts_16 rfl rfl ?_
      refine aw_iload_n dX1_sameCosts_17 rfl rfl ?_
      refine aw_iload_n dX1_sameCosts_18 rfl rfl ?_
      obtain ⟨p2, hp2, hf⟩ := ax_bind hf
      refine aw_cVl (As := [.int x2, .int a2.1]) (st := [.long p1.1]) dX1_sameCosts_19 cl_X1_36 iv_X1_at (k_X1_at (Q := (fun v h' => v = some (.long p2.1) ∧ h' = hp p2.2 gb)) g x2 a2.1 p1.2 gb hg hp2 ⟨rfl, rfl⟩) (ci := 1) rfl (hp_get hg.1) rfl rfl rfl (Nat.le_of_ble_eq_true rfl) rfl (by decide) (by decide) ?_
      refine aw_lcmp_eq (tgt := 28) dX1_sameCosts_22 dX1_sameCosts_23 (by decide) (fun hc1 => ?_) (fun hc1 => ?_)
      · have hf := ax_pos hc1 hf
        refine aw_iinc (v := (a2.1 + (1 : Int32))) (L' := [some (.ref g), some (.int x1), some (.int x2), some (.int (a2.1 + (1 : Int32)))]) dX1_sameCosts_28 rfl rfl (by decide) rfl ?_
        refine aw_goto (tgt := 2) dX1_sameCosts_31 (by decide) ?_
        cases hf
        exact hK
      · have hf := ax_neg hc1 hf
        refine aw_iconst (v := 0) dX1_sameCosts_26 (by decide) ?_
        cases hf
        exact aw_zret dX1_sameCosts_27 (by decide) hK (Nat.le_refl _) (Nat.le_refl _)
  · rcases b3 with e4 | e5
    · refine aw_iconst (v := 1) dX1_sameCosts_34 (by decide) ?_
      cases hf
      exact aw_zret dX1_sameCosts_35 (by decide) hq (Nat.le_refl _) (Nat.le_refl _)
    · cases hf
      exact hq
noncomputable def f_X1_swap_L2 (g : Nat) (z1 : Int32) (z2 : Int32) (a2 : Int32 × sx_M) : Option ((Int32 × sx_M) ⊕ (sx_M)) :=
  (if (rI a2.2 g 2) ≤ a2.1 then
 some (.inr a2.2)
else
 (f_X1_at g z1 a2.1 a2.2).bind (fun p1 =>
 (f_X1_at g z2 a2.1 p1.2).bind (fun p2 =>
 (f_X1_put g z1 a2.1 p2.1 p2.2).bind (fun p3 =>
 (f_X1_put g z2 a2.1 p1.1 p3).bind (fun p4 =>
 some (.inl ((a2.1 + (1 : Int32)), p4)))))))
noncomputable def f_X1_swap (g : Nat) (x1 : Int32) (x2 : Int32) (s : sx_M) : Option sx_M :=
  (whT (f_X1_swap_L2 g x1 x2) ((0 : Int32), s)).bind (fun b5 =>
 some b5)
set_option maxRecDepth 100000 in
set_option maxHeartbeats 4000000 in
theorem k_X1_swap {l : Launch} {X : ax_X} {Q : Option Value → ax_H → Prop} (g : Nat) (x1 : Int32) (x2 : Int32) (s : sx_M) (gb : ax_H) (hg : ax_G g) {p : sx_M} (hf : f_X1_swap g x1 x2 s = some p) (hq : Q (none) (hp p gb)) : AM l X yX1_swap cX1_swap 6 none 2 0 0 [.ref g, .int x1, .int x2] (hp s gb) Q := by
  refine aw_met (own := RX1) (nm := "swap") (L := [some (.ref g), some (.int x1), some (.int x2), none, none, none]) (by decide +kernel) rfl rfl (And.intro rfl (And.intro rfl (And.intro rfl trivial))) (Nat.le_of_ble_eq_true rfl) ?_
  unfold f_X1_swap at hf
  refine aw_iconst (v := 0) dX1_swap_0 (by decide) ?_
  refine aw_istore_n (L' := [some (.ref g), some (.int x1), some (.int x2), some (.int (0 : Int32)), none, none]) dX1_swap_1 rfl (by decide) rfl ?_
  obtain ⟨b5, hb5, hf⟩ := ax_bind hf
  refine wh_go ((0 : Int32), s) (fun a2 : Int32 × sx_M => AW l X RX1 "swap" cX1_swap 6 none (ax_rm 2 0 0) (ax_MQ X Q 0 0) 0 0 2 [some (.ref g), some (.int x1), some (.int x2), some (.int a2.1), none, none] [] (hp a2.2 gb)) (fun e : sx_M => AW l X RX1 "swap" cX1_swap 6 none (ax_rm 2 0 0) (ax_MQ X Q 0 0) 0 0 44 [none, none, none, none, none, none] [] (hp e gb)) hb5 ?_ ?_
  · intro a2 r hf hK
    unfold f_X1_swap_L2 at hf
    refine aw_iload_n dX1_swap_2 rfl rfl ?_
    refine aw_aload_n dX1_swap_3 rfl rfl ?_
    refine aw_gI dX1_swap_4 fl_X1_19 hg.1 rfl ?_
    refine aw_icmp_ge (tgt := 44) dX1_swap_7 (by decide) (fun hc1 => ?_) (fun hc1 => ?_)
    · have hf := ax_pos hc1 hf
      refine aw_less (L' := [none, none, none, none, none, none]) trivial ?_
      cases hf
      exact hK
    · have hf := ax_neg hc1 hf
      refine aw_aload_n dX1_swap_10 rfl rfl ?_
      refine aw_iload_n dX1_swap_11 rfl rfl ?_
      refine aw_iload_n dX1_swap_12 rfl rfl ?_
      obtain ⟨p1, hp1, hf⟩ := ax_bind hf
      refine aw_cVl (As := [.int x1, .int a2.1]) (st := []) dX1_swap_13 cl_X1_36 iv_X1_at (k_X1_at (Q := (fun v h' => v = some (.long p1.1) ∧ h' = hp p1.2 gb)) g x1 a2.1 a2.2 gb hg hp1 ⟨rfl, rfl⟩) (ci := 1) rfl (hp_get hg.1) rfl rfl rfl (Nat.le_of_ble_eq_true rfl) rfl (by decide) (by decide) ?_
      refine aw_lstore (L' := [some (.ref g), some (.int x1), some (.int x2), some (.int a2.1), some (.long p1.1), none]) dX1_swap_16 (by decide) rfl ?_
      refine aw_aload_n dX1_swap_18 rfl rfl ?_
      refine aw_iload_n dX1_swap_19 rfl rfl ?_
      refine aw_iload_n dX1_swap_20 rfl rfl ?_
      refine aw_aload_n dX1_swap_21 rfl rfl ?_
      refine aw_iload_n dX1_swap_22 rfl rfl ?_
      refine aw_iload_n dX1_swap_23 rfl rfl ?_
      obtain ⟨p2, hp2, hf⟩ := ax_bind hf
      refine aw_cVl (As := [.int x2, .int a2.1]) (st := [.int a2.1, .int x1, .ref g]) dX1_swap_24 cl_X1_36 iv_X1_at (k_X1_at (Q := (fun v h' => v = some (.long p2.1) ∧ h' = hp p2.2 gb)) g x2 a2.1 p1.2 gb hg hp2 ⟨rfl, rfl⟩) (ci := 1) rfl (hp_get hg.1) rfl rfl rfl (Nat.le_of_ble_eq_true rfl) rfl (by decide) (by decide) ?_
      obtain ⟨p3, hp3, hf⟩ := ax_bind hf
      refine aw_cVv (As := [.int x1, .int a2.1, .long p2.1]) (st := []) dX1_swap_27 cl_X1_61 iv_X1_put (k_X1_put (Q := (fun v h' => v = none ∧ h' = hp p3 gb)) g x1 a2.1 p2.1 p2.2 gb hg hp3 ⟨rfl, rfl⟩) (ci := 1) rfl (hp_get hg.1) rfl rfl rfl (Nat.le_of_ble_eq_true rfl) rfl (by decide) (by decide) ?_
      refine aw_aload_n dX1_swap_30 rfl rfl ?_
      refine aw_iload_n dX1_swap_31 rfl rfl ?_
      refine aw_iload_n dX1_swap_32 rfl rfl ?_
      refine aw_lload dX1_swap_33 rfl ?_
      obtain ⟨p4, hp4, hf⟩ := ax_bind hf
      refine aw_cVv (As := [.int x2, .int a2.1, .long p1.1]) (st := []) dX1_swap_35 cl_X1_61 iv_X1_put (k_X1_put (Q := (fun v h' => v = none ∧ h' = hp p4 gb)) g x2 a2.1 p1.1 p3 gb hg hp4 ⟨rfl, rfl⟩) (ci := 1) rfl (hp_get hg.1) rfl rfl rfl (Nat.le_of_ble_eq_true rfl) rfl (by decide) (by decide) ?_
      refine aw_iinc (v := (a2.1 + (1 : Int32))) (L' := [some (.ref g), some (.int x1), some (.int x2), some (.int (a2.1 + (1 : Int32))), some (.long p1.1), none]) dX1_swap_38 rfl rfl (by decide) rfl ?_
      refine aw_goto (tgt := 2) dX1_swap_41 (by decide) ?_
      refine aw_less (L' := [some (.ref g), some (.int x1), some (.int x2), some (.int (a2.1 + (1 : Int32))), none, none]) (And.intro rfl (And.intro rfl (And.intro rfl (And.intro rfl trivial)))) ?_
      cases hf
      exact hK
  · cases hf
    exact aw_vret dX1_swap_44 hq (Nat.le_refl _) (Nat.le_refl _)
noncomputable def f_X1_jobsOpenTo_L15 (g : Nat) (z1 : Int32) (z1 : Int32) (z3 : Int32) (a15 : Int32 × Int32 × sx_M) : Option ((Int32 × Int32 × sx_M) ⊕ (Int32 × sx_M)) :=
  (if (rI a15.2.2 g 2) ≤ a15.2.1 then
 some (.inr (a15.1, a15.2.2))
else
 (if ((z1 >>> (z3 &&& 31)) &&& (1 : Int32)) = (1 : Int32) then
 (f_X1_at g z3 a15.2.1 a15.2.2).bind (fun p1 =>
 (if p1.1 = (9223372036854775807 : Int64) then
 some (.inl (a15.1, (a15.2.1 + (1 : Int32)), p1.2))
else
 some (.inl ((a15.1 ||| ((1 : Int32) <<< (a15.2.1 &&& 31))), (a15.2.1 + (1 : Int32)), p1.2))))
else
 some (.inl (a15.1, (a15.2.1 + (1 : Int32)), a15.2.2))))
noncomputable def f_X1_jobsOpenTo_L4 (g : Nat) (z1 : Int32) (a4 : Int32 × Int32 × sx_M) : Option ((Int32 × Int32 × sx_M) ⊕ (Int32 × sx_M)) :=
  (if (rI a4.2.2 g 1) ≤ a4.2.1 then
 some (.inr (a4.1, a4.2.2))
else
 (whT (f_X1_jobsOpenTo_L15 g z1 z1 a4.2.1) (a4.1, (0 : Int32), a4.2.2)).bind (fun b2 =>
 some (.inl (b2.1, (a4.2.1 + (1 : Int32)), b2.2))))
noncomputable def f_X1_jobsOpenTo (g : Nat) (x1 : Int32) (s : sx_M) : Option (Int32 × sx_M) :=
  (whT (f_X1_jobsOpenTo_L4 g x1) ((0 : Int32), (0 : Int32), s)).bind (fun b3 =>
 some (b3.1, b3.2))
set_option maxRecDepth 100000 in
set_option maxHeartbeats 4000000 in
theorem k_X1_jobsOpenTo {l : Launch} {X : ax_X} {Q : Option Value → ax_H → Prop} (g : Nat) (x1 : Int32) (s : sx_M) (gb : ax_H) (hg : ax_G g) {p : Int32 × sx_M} (hf : f_X1_jobsOpenTo g x1 s = some p) (hq : Q (some (.int p.1)) (hp p.2 gb)) : AM l X yX1_jobsOpenTo cX1_jobsOpenTo 5 (some .int) 1 0 0 [.ref g, .int x1] (hp s gb) Q := by
  refine aw_met (own := RX1) (nm := "jobsOpenTo") (L := [some (.ref g), some (.int x1), none, none, none]) (by decide +kernel) rfl rfl (And.intro rfl (And.intro rfl trivial)) (Nat.le_of_ble_eq_true rfl) ?_
  unfold f_X1_jobsOpenTo at hf
  refine aw_iconst (v := 0) dX1_jobsOpenTo_0 (by decide) ?_
  refine aw_istore_n (L' := [some (.ref g), some (.int x1), some (.int (0 : Int32)), none, none]) dX1_jobsOpenTo_1 rfl (by decide) rfl ?_
  refine aw_iconst (v := 0) dX1_jobsOpenTo_2 (by decide) ?_
  refine aw_istore_n (L' := [some (.ref g), some (.int x1), some (.int (0 : Int32)), some (.int (0 : Int32)), none]) dX1_jobsOpenTo_3 rfl (by decide) rfl ?_
  obtain ⟨b3, hb3, hf⟩ := ax_bind hf
  refine wh_go ((0 : Int32), (0 : Int32), s) (fun a4 : Int32 × Int32 × sx_M => AW l X RX1 "jobsOpenTo" cX1_jobsOpenTo 5 (some .int) (ax_rm 1 0 0) (ax_MQ X Q 0 0) 0 0 4 [some (.ref g), some (.int x1), some (.int a4.1), some (.int a4.2.1), none] [] (hp a4.2.2 gb)) (fun e : Int32 × sx_M => AW l X RX1 "jobsOpenTo" cX1_jobsOpenTo 5 (some .int) (ax_rm 1 0 0) (ax_MQ X Q 0 0) 0 0 66 [none, none, some (.int e.1), none, none] [] (hp e.2 gb)) hb3 ?_ ?_
  · intro a4 r hf hK
    unfold f_X1_jobsOpenTo_L4 at hf
    refine aw_iload_n dX1_jobsOpenTo_4 rfl rfl ?_
    refine aw_aload_n dX1_jobsOpenTo_5 rfl rfl ?_
    refine aw_gI dX1_jobsOpenTo_6 fl_X1_15 hg.1 rfl ?_
    refine aw_icmp_ge (tgt := 66) dX1_jobsOpenTo_9 (by decide) (fun hc4 => ?_) (fun hc4 => ?_)
    · have hf := ax_pos hc4 hf
      refine aw_less (L' := [none, none, some (.int a4.1), none, none]) (And.intro rfl trivial) ?_
      cases hf
      exact hK
    · have hf := ax_neg hc4 hf
      refine aw_iconst (v := 0) dX1_jobsOpenTo_12 (by decide) ?_
      refine aw_istore (L' := [some (.ref g), some (.int x1), some (.int a4.1), some (.int a4.2.1), some (.int (0 : Int32))]) dX1_jobsOpenTo_13 (by decide) rfl ?_
      obtain ⟨b2, hb2, hf⟩ := ax_bind hf
      refine wh_go (a4.1, (0 : Int32), a4.2.2) (fun a15 : Int32 × Int32 × sx_M => AW l X RX1 "jobsOpenTo" cX1_jobsOpenTo 5 (some .int) (ax_rm 1 0 0) (ax_MQ X Q 0 0) 0 0 15 [some (.ref g), some (.int x1), some (.int a15.1), some (.int a4.2.1), some (.int a15.2.1)] [] (hp a15.2.2 gb)) (fun e : Int32 × sx_M => AW l X RX1 "jobsOpenTo" cX1_jobsOpenTo 5 (some .int) (ax_rm 1 0 0) (ax_MQ X Q 0 0) 0 0 60 [some (.ref g), some (.int x1), some (.int e.1), some (.int a4.2.1), none] [] (hp e.2 gb)) hb2 ?_ ?_
      · intro a15 r hf hK
        unfold f_X1_jobsOpenTo_L15 at hf
        refine aw_iload dX1_jobsOpenTo_15 rfl ?_
        refine aw_aload_n dX1_jobsOpenTo_17 rfl rfl ?_
        refine aw_gI dX1_jobsOpenTo_18 fl_X1_19 hg.1 rfl ?_
        refine aw_icmp_ge (tgt := 60) dX1_jobsOpenTo_21 (by decide) (fun hc3 => ?_) (fun hc3 => ?_)
        · have hf := ax_pos hc3 hf
          refine aw_less (L' := [some (.ref g), some (.int x1), some (.int a15.1), some (.int a4.2.1), none]) (And.intro rfl (And.intro rfl (And.intro rfl (And.intro rfl trivial)))) ?_
          cases hf
          exact hK
        · have hf := ax_neg hc3 hf
          refine aw_iload_n dX1_jobsOpenTo_24 rfl rfl ?_
          refine aw_iload_n dX1_jobsOpenTo_25 rfl rfl ?_
          refine aw_ishr dX1_jobsOpenTo_26 ?_
          refine aw_iconst (v := 1) dX1_jobsOpenTo_27 (by decide) ?_
          refine aw_iand dX1_jobsOpenTo_28 ?_
          refine aw_iconst (v := 1) dX1_jobsOpenTo_29 (by decide) ?_
          refine aw_icmp_ne (tgt := 54) dX1_jobsOpenTo_30 (by decide) (fun hc2 => ?_) (fun hc2 => ?_)
          · have hf := ax_neg hc2 hf
            refine aw_iinc (v := (a15.2.1 + (1 : Int32))) (L' := [some (.ref g), some (.int x1), some (.int a15.1), some (.int a4.2.1), some (.int (a15.2.1 + (1 : Int32)))]) dX1_jobsOpenTo_54 rfl rfl (by decide) rfl ?_
            refine aw_goto (tgt := 15) dX1_jobsOpenTo_57 (by decide) ?_
            cases hf
            exact hK
          · have hf := ax_pos hc2 hf
            refine aw_aload_n dX1_jobsOpenTo_33 rfl rfl ?_
            refine aw_iload_n dX1_jobsOpenTo_34 rfl rfl ?_
            refine aw_iload dX1_jobsOpenTo_35 rfl ?_
            obtain ⟨p1, hp1, hf⟩ := ax_bind hf
            refine aw_cVl (As := [.int a4.2.1, .int a15.2.1]) (st := []) dX1_jobsOpenTo_37 cl_X1_36 iv_X1_at (k_X1_at (Q := (fun v h' => v = some (.long p1.1) ∧ h' = hp p1.2 gb)) g a4.2.1 a15.2.1 a15.2.2 gb hg hp1 ⟨rfl, rfl⟩) (ci := 1) rfl (hp_get hg.1) rfl rfl rfl (Nat.le_of_ble_eq_true rfl) rfl (by decide) (by decide) ?_
            refine aw_ldc2 dX1_jobsOpenTo_40 kc_X1_30 ?_
            refine aw_lcmp_eq (tgt := 54) dX1_jobsOpenTo_43 dX1_jobsOpenTo_44 (by decide) (fun hc1 => ?_) (fun hc1 => ?_)
            · have hf := ax_pos hc1 hf
              refine aw_iinc (v := (a15.2.1 + (1 : Int32))) (L' := [some (.ref g), some (.int x1), some (.int a15.1), some (.int a4.2.1), some (.int (a15.2.1 + (1 : Int32)))]) dX1_jobsOpenTo_54 rfl rfl (by decide) rfl ?_
              refine aw_goto (tgt := 15) dX1_jobsOpenTo_57 (by decide) ?_
              cases hf
              exact hK
            · have hf := ax_neg hc1 hf
              refine aw_iload_n dX1_jobsOpenTo_47 rfl rfl ?_
              refine aw_iconst (v := 1) dX1_jobsOpenTo_48 (by decide) ?_
              refine aw_iload dX1_jobsOpenTo_49 rfl ?_
              refine aw_ishl dX1_jobsOpenTo_51 ?_
              refine aw_ior dX1_jobsOpenTo_52 ?_
              refine aw_istore_n (L' := [some (.ref g), some (.int x1), some (.int (a15.1 ||| ((1 : Int32) <<< (a15.2.1 &&& 31)))), some (.int a4.2.1), some (.int a15.2.1)]) dX1_jobsOpenTo_53 rfl (by decide) rfl ?_
              refine aw_iinc (v := (a15.2.1 + (1 : Int32))) (L' := [some (.ref g), some (.int x1), some (.int (a15.1 ||| ((1 : Int32) <<< (a15.2.1 &&& 31)))), some (.int a4.2.1), some (.int (a15.2.1 + (1 : Int32)))]) dX1_jobsOpenTo_54 rfl rfl (by decide) rfl ?_
              refine aw_goto (tgt := 15) dX1_jobsOpenTo_57 (by decide) ?_
              cases hf
              exact hK
      · refine aw_iinc (v := (a4.2.1 + (1 : Int32))) (L' := [some (.ref g), some (.int x1), some (.int b2.1), some (.int (a4.2.1 + (1 : Int32))), none]) dX1_jobsOpenTo_60 rfl rfl (by decide) rfl ?_
        refine aw_goto (tgt := 4) dX1_jobsOpenTo_63 (by decide) ?_
        cases hf
        exact hK
  · refine aw_iload_n dX1_jobsOpenTo_66 rfl rfl ?_
    cases hf
    exact aw_iret dX1_jobsOpenTo_67 hq (Nat.le_refl _) (Nat.le_refl _)
noncomputable def f_X1_lessRow (g : Nat) (x1 : Int32) (x2 : Int32) (s : sx_M) : Option (Int64 × sx_M) :=
  (f_X1_at g x1 x2 s).bind (fun p1 =>
 (if p1.1 = (9223372036854775807 : Int64) then
 some ((9223372036854775807 : Int64), p1.2)
else
 (f_X1_leastOf g x1 (0 : Int32) p1.2).bind (fun p2 =>
 some ((p1.1 - p2.1), p2.2))))
set_option maxRecDepth 100000 in
set_option maxHeartbeats 4000000 in
theorem k_X1_lessRow {l : Launch} {X : ax_X} {Q : Option Value → ax_H → Prop} (g : Nat) (x1 : Int32) (x2 : Int32) (s : sx_M) (gb : ax_H) (hg : ax_G g) {p : Int64 × sx_M} (hf : f_X1_lessRow g x1 x2 s = some p) (hq : Q (some (.long p.1)) (hp p.2 gb)) : AM l X yX1_lessRow cX1_lessRow 5 (some .long) 3 0 0 [.ref g, .int x1, .int x2] (hp s gb) Q := by
  refine aw_met (own := RX1) (nm := "lessRow") (L := [some (.ref g), some (.int x1), some (.int x2), none, none]) (by decide +kernel) rfl rfl (And.intro rfl (And.intro rfl (And.intro rfl trivial))) (Nat.le_of_ble_eq_true rfl) ?_
  unfold f_X1_lessRow at hf
  refine aw_aload_n dX1_lessRow_0 rfl rfl ?_
  refine aw_iload_n dX1_lessRow_1 rfl rfl ?_
  refine aw_iload_n dX1_lessRow_2 rfl rfl ?_
  obtain ⟨p1, hp1, hf⟩ := ax_bind hf
  refine aw_cVl (As := [.int x1, .int x2]) (st := []) dX1_lessRow_3 cl_X1_36 iv_X1_at (k_X1_at (Q := (fun v h' => v = some (.long p1.1) ∧ h' = hp p1.2 gb)) g x1 x2 s gb hg hp1 ⟨rfl, rfl⟩) (ci := 1) rfl (hp_get hg.1) rfl rfl rfl (Nat.le_of_ble_eq_true rfl) rfl (by decide) (by decide) ?_
  refine aw_lstore_n (L' := [some (.ref g), some (.int x1), some (.int x2), some (.long p1.1), none]) dX1_lessRow_6 rfl (by decide) rfl ?_
  refine aw_lload_n dX1_lessRow_7 rfl rfl ?_
  refine aw_ldc2 dX1_lessRow_8 kc_X1_30 ?_
  refine aw_lcmp_ne (tgt := 21) dX1_lessRow_11 dX1_lessRow_12 (by decide) (fun hc1 => ?_) (fun hc1 => ?_)
  · have hf := ax_neg hc1 hf
    refine aw_lload_n dX1_lessRow_21 rfl rfl ?_
    refine aw_aload_n dX1_lessRow_22 rfl rfl ?_
    refine aw_iload_n dX1_lessRow_23 rfl rfl ?_
    refine aw_iconst (v := 0) dX1_lessRow_24 (by decide) ?_
    obtain ⟨p2, hp2, hf⟩ := ax_bind hf
    refine aw_cVl (As := [.int x1, .int (0 : Int32)]) (st := [.long p1.1]) dX1_lessRow_25 cl_X1_74 iv_X1_leastOf (k_X1_leastOf (Q := (fun v h' => v = some (.long p2.1) ∧ h' = hp p2.2 gb)) g x1 (0 : Int32) p1.2 gb hg hp2 ⟨rfl, rfl⟩) (ci := 1) rfl (hp_get hg.1) rfl rfl rfl (Nat.le_of_ble_eq_true rfl) rfl (by decide) (by decide) ?_
    refine aw_lsub dX1_lessRow_28 ?_
    cases hf
    exact aw_lret dX1_lessRow_29 hq (Nat.le_refl _) (Nat.le_refl _)
  · have hf := ax_pos hc1 hf
    refine aw_ldc2 dX1_lessRow_15 kc_X1_30 ?_
    refine aw_goto (tgt := 29) dX1_lessRow_18 (by decide) ?_
    cases hf
    exact aw_lret dX1_lessRow_29 hq (Nat.le_refl _) (Nat.le_refl _)
noncomputable def f_X1_reducedAt_L25 (g : Nat) (z2 : Int32) (z3 : Int64) (a25 : Int64 × Int32 × sx_M) : Option ((Int64 × Int32 × sx_M) ⊕ (Int64 × sx_M)) :=
  (if (rI a25.2.2 g 1) ≤ a25.2.1 then
 some (.inr (a25.1, a25.2.2))
else
 (f_X1_lessRow g a25.2.1 z2 a25.2.2).bind (fun p2 =>
 (f_J9_min_f86c9 a25.1 p2.1 p2.2).bind (fun p3 =>
 some (.inl (p3.1, (a25.2.1 + (1 : Int32)), p3.2)))))
noncomputable def f_X1_reducedAt (g : Nat) (x1 : Int32) (x2 : Int32) (s : sx_M) : Option (Int64 × sx_M) :=
  (f_X1_lessRow g x1 x2 s).bind (fun p1 =>
 (if p1.1 = (9223372036854775807 : Int64) then
 some ((9223372036854775807 : Int64), p1.2)
else
 (whT (f_X1_reducedAt_L25 g x2 p1.1) (p1.1, (0 : Int32), p1.2)).bind (fun b4 =>
 some ((p1.1 - b4.1), b4.2))))
set_option maxRecDepth 100000 in
set_option maxHeartbeats 4000000 in
theorem k_X1_reducedAt {l : Launch} {X : ax_X} {Q : Option Value → ax_H → Prop} (g : Nat) (x1 : Int32) (x2 : Int32) (s : sx_M) (gb : ax_H) (hg : ax_G g) {p : Int64 × sx_M} (hf : f_X1_reducedAt g x1 x2 s = some p) (hq : Q (some (.long p.1)) (hp p.2 gb)) : AM l X yX1_reducedAt cX1_reducedAt 8 (some .long) 4 0 0 [.ref g, .int x1, .int x2] (hp s gb) Q := by
  refine aw_met (own := RX1) (nm := "reducedAt") (L := [some (.ref g), some (.int x1), some (.int x2), none, none, none, none, none]) (by decide +kernel) rfl rfl (And.intro rfl (And.intro rfl (And.intro rfl trivial))) (Nat.le_of_ble_eq_true rfl) ?_
  unfold f_X1_reducedAt at hf
  refine aw_aload_n dX1_reducedAt_0 rfl rfl ?_
  refine aw_iload_n dX1_reducedAt_1 rfl rfl ?_
  refine aw_iload_n dX1_reducedAt_2 rfl rfl ?_
  obtain ⟨p1, hp1, hf⟩ := ax_bind hf
  refine aw_cVl (As := [.int x1, .int x2]) (st := []) dX1_reducedAt_3 cl_X1_71 iv_X1_lessRow (k_X1_lessRow (Q := (fun v h' => v = some (.long p1.1) ∧ h' = hp p1.2 gb)) g x1 x2 s gb hg hp1 ⟨rfl, rfl⟩) (ci := 1) rfl (hp_get hg.1) rfl rfl rfl (Nat.le_of_ble_eq_true rfl) rfl (by decide) (by decide) ?_
  refine aw_lstore_n (L' := [some (.ref g), some (.int x1), some (.int x2), some (.long p1.1), none, none, none, none]) dX1_reducedAt_6 rfl (by decide) rfl ?_
  refine aw_lload_n dX1_reducedAt_7 rfl rfl ?_
  refine aw_ldc2 dX1_reducedAt_8 kc_X1_30 ?_
  refine aw_lcmp_ne (tgt := 19) dX1_reducedAt_11 dX1_reducedAt_12 (by decide) (fun hc2 => ?_) (fun hc2 => ?_)
  · have hf := ax_neg hc2 hf
    refine aw_lload_n dX1_reducedAt_19 rfl rfl ?_
    refine aw_lstore (L' := [some (.ref g), some (.int x1), some (.int x2), some (.long p1.1), none, some (.long p1.1), none, none]) dX1_reducedAt_20 (by decide) rfl ?_
    refine aw_iconst (v := 0) dX1_reducedAt_22 (by decide) ?_
    refine aw_istore (L' := [some (.ref g), some (.int x1), some (.int x2), some (.long p1.1), none, some (.long p1.1), none, some (.int (0 : Int32))]) dX1_reducedAt_23 (by decide) rfl ?_
    refine aw_less (L' := [some (.ref g), none, some (.int x2), some (.long p1.1), none, some (.long p1.1), none, some (.int (0 : Int32))]) (And.intro rfl (And.intro rfl (And.intro rfl (And.intro rfl (And.intro rfl trivial))))) ?_
    obtain ⟨b4, hb4, hf⟩ := ax_bind hf
    refine wh_go (p1.1, (0 : Int32), p1.2) (fun a25 : Int64 × Int32 × sx_M => AW l X RX1 "reducedAt" cX1_reducedAt 8 (some .long) (ax_rm 4 0 0) (ax_MQ X Q 0 0) 0 0 25 [some (.ref g), none, some (.int x2), some (.long p1.1), none, some (.long a25.1), none, some (.int a25.2.1)] [] (hp a25.2.2 gb)) (fun e : Int64 × sx_M => AW l X RX1 "reducedAt" cX1_reducedAt 8 (some .long) (ax_rm 4 0 0) (ax_MQ X Q 0 0) 0 0 54 [none, none, none, some (.long p1.1), none, some (.long e.1), none, none] [] (hp e.2 gb)) hb4 ?_ ?_
    · intro a25 r hf hK
      unfold f_X1_reducedAt_L25 at hf
      refine aw_iload dX1_reducedAt_25 rfl ?_
      refine aw_aload_n dX1_reducedAt_27 rfl rfl ?_
      refine aw_gI dX1_reducedAt_28 fl_X1_15 hg.1 rfl ?_
      refine aw_icmp_ge (tgt := 54) dX1_reducedAt_31 (by decide) (fun hc1 => ?_) (fun hc1 => ?_)
      · have hf := ax_pos hc1 hf
        refine aw_less (L' := [none, none, none, some (.long p1.1), none, some (.long a25.1), none, none]) (And.intro rfl (And.intro rfl trivial)) ?_
        cases hf
        exact hK
      · have hf := ax_neg hc1 hf
        refine aw_lload dX1_reducedAt_34 rfl ?_
        refine aw_aload_n dX1_reducedAt_36 rfl rfl ?_
        refine aw_iload dX1_reducedAt_37 rfl ?_
        refine aw_iload_n dX1_reducedAt_39 rfl rfl ?_
        obtain ⟨p2, hp2, hf⟩ := ax_bind hf
        refine aw_cVl (As := [.int a25.2.1, .int x2]) (st := [.long a25.1]) dX1_reducedAt_40 cl_X1_71 iv_X1_lessRow (k_X1_lessRow (Q := (fun v h' => v = some (.long p2.1) ∧ h' = hp p2.2 gb)) g a25.2.1 x2 a25.2.2 gb hg hp2 ⟨rfl, rfl⟩) (ci := 1) rfl (hp_get hg.1) rfl rfl rfl (Nat.le_of_ble_eq_true rfl) rfl (by decide) (by decide) ?_
        obtain ⟨p3, hp3, hf⟩ := ax_bind hf
        refine aw_cSl (As := [.long a25.1, .long p2.1]) (st := []) dX1_reducedAt_43 cl_X1_51 st_J9_min_f86c9 (k_J9_min_f86c9 (Q := (fun v h' => v = some (.long p3.1) ∧ h' = hp p3.2 gb)) a25.1 p2.1 p2.2 gb hp3 ⟨rfl, rfl⟩) rfl rfl (Nat.le_of_ble_eq_true rfl) rfl (by decide) (by decide) ?_
        refine aw_lstore (L' := [some (.ref g), none, some (.int x2), some (.long p1.1), none, some (.long p3.1), none, some (.int a25.2.1)]) dX1_reducedAt_46 (by decide) rfl ?_
        refine aw_iinc (v := (a25.2.1 + (1 : Int32))) (L' := [some (.ref g), none, some (.int x2), some (.long p1.1), none, some (.long p3.1), none, some (.int (a25.2.1 + (1 : Int32)))]) dX1_reducedAt_48 rfl rfl (by decide) rfl ?_
        refine aw_goto (tgt := 25) dX1_reducedAt_51 (by decide) ?_
        cases hf
        exact hK
    · refine aw_lload_n dX1_reducedAt_54 rfl rfl ?_
      refine aw_lload dX1_reducedAt_55 rfl ?_
      refine aw_lsub dX1_reducedAt_57 ?_
      cases hf
      exact aw_lret dX1_reducedAt_58 hq (Nat.le_refl _) (Nat.le_refl _)
  · have hf := ax_pos hc2 hf
    refine aw_ldc2 dX1_reducedAt_15 kc_X1_30 ?_
    cases hf
    exact aw_lret dX1_reducedAt_18 hq (Nat.le_refl _) (Nat.le_refl _)
noncomputable def f_X1_sumOf_L5 (g : Nat) (ra : Nat) (a5 : Int64 × Int32 × sx_M) : Option ((Int64 × Int32 × sx_M) ⊕ (Int64 × sx_M)) :=
  (if (rI a5.2.2 g 1) ≤ a5.2.1 then
 some (.inr (a5.1, a5.2.2))
else
 (if (7 : Int32) ≤ a5.2.1 then
 some (.inr (a5.1, a5.2.2))
else
 (if ¬ (a5.2.1 < 0 ∨ 7 ≤ (a5.2.1).toNatClampNeg) then
 (f_X1_at g a5.2.1 (rA a5.2.2 ra (a5.2.1).toNatClampNeg) a5.2.2).bind (fun p1 =>
 some (.inl ((a5.1 + p1.1), (a5.2.1 + (1 : Int32)), p1.2)))
else none)))
noncomputable def f_X1_sumOf (g : Nat) (ra : Nat) (s : sx_M) : Option (Int64 × sx_M) :=
  (whT (f_X1_sumOf_L5 g ra) ((0 : Int64), (0 : Int32), s)).bind (fun b2 =>
 some (b2.1, b2.2))
set_option maxRecDepth 100000 in
set_option maxHeartbeats 4000000 in
theorem k_X1_sumOf {l : Launch} {X : ax_X} {Q : Option Value → ax_H → Prop} (g : Nat) (ra : Nat) (s : sx_M) (gb : ax_H) (hg : ax_G g) (hra : sx_sh[ra]? = some (.inl (.int, 7))) {p : Int64 × sx_M} (hf : f_X1_sumOf g ra s = some p) (hq : Q (some (.long p.1)) (hp p.2 gb)) : AM l X yX1_sumOf cX1_sumOf 5 (some .long) 1 0 0 [.ref g, .ref ra] (hp s gb) Q := by
  refine aw_met (own := RX1) (nm := "sumOf") (L := [some (.ref g), some (.ref ra), none, none, none]) (by decide +kernel) rfl rfl (And.intro rfl (And.intro rfl trivial)) (Nat.le_of_ble_eq_true rfl) ?_
  unfold f_X1_sumOf at hf
  refine aw_lconst (v := 0) dX1_sumOf_0 (by decide) ?_
  refine aw_lstore_n (L' := [some (.ref g), some (.ref ra), some (.long (0 : Int64)), none, none]) dX1_sumOf_1 rfl (by decide) rfl ?_
  refine aw_iconst (v := 0) dX1_sumOf_2 (by decide) ?_
  refine aw_istore (L' := [some (.ref g), some (.ref ra), some (.long (0 : Int64)), none, some (.int (0 : Int32))]) dX1_sumOf_3 (by decide) rfl ?_
  obtain ⟨b2, hb2, hf⟩ := ax_bind hf
  refine wh_go ((0 : Int64), (0 : Int32), s) (fun a5 : Int64 × Int32 × sx_M => AW l X RX1 "sumOf" cX1_sumOf 5 (some .long) (ax_rm 1 0 0) (ax_MQ X Q 0 0) 0 0 5 [some (.ref g), some (.ref ra), some (.long a5.1), none, some (.int a5.2.1)] [] (hp a5.2.2 gb)) (fun e : Int64 × sx_M => AW l X RX1 "sumOf" cX1_sumOf 5 (some .long) (ax_rm 1 0 0) (ax_MQ X Q 0 0) 0 0 40 [none, none, some (.long e.1), none, none] [] (hp e.2 gb)) hb2 ?_ ?_
  · intro a5 r hf hK
    unfold f_X1_sumOf_L5 at hf
    refine aw_iload dX1_sumOf_5 rfl ?_
    refine aw_aload_n dX1_sumOf_7 rfl rfl ?_
    refine aw_gI dX1_sumOf_8 fl_X1_15 hg.1 rfl ?_
    refine aw_icmp_ge (tgt := 40) dX1_sumOf_11 (by decide) (fun hc3 => ?_) (fun hc3 => ?_)
    · have hf := ax_pos hc3 hf
      refine aw_less (L' := [none, none, some (.long a5.1), none, none]) (And.intro rfl trivial) ?_
      cases hf
      exact hK
    · have hf := ax_neg hc3 hf
      refine aw_iload dX1_sumOf_14 rfl ?_
      refine aw_aload_n dX1_sumOf_16 rfl rfl ?_
      refine aw_al dX1_sumOf_17 hra (by decide) rfl ?_
      refine aw_icmp_ge (tgt := 40) dX1_sumOf_18 (by decide) (fun hc2 => ?_) (fun hc2 => ?_)
      · have hf := ax_pos hc2 hf
        refine aw_less (L' := [none, none, some (.long a5.1), none, none]) (And.intro rfl trivial) ?_
        cases hf
        exact hK
      · have hf := ax_neg hc2 hf
        refine aw_lload_n dX1_sumOf_21 rfl rfl ?_
        refine aw_aload_n dX1_sumOf_22 rfl rfl ?_
        refine aw_iload dX1_sumOf_23 rfl ?_
        refine aw_aload_n dX1_sumOf_25 rfl rfl ?_
        refine aw_iload dX1_sumOf_26 rfl ?_
        obtain ⟨hc1, hf⟩ := ax_ite hf
        refine aw_lA dX1_sumOf_28 hra hc1 ?_
        obtain ⟨p1, hp1, hf⟩ := ax_bind hf
        refine aw_cVl (As := [.int a5.2.1, .int (rA a5.2.2 ra (a5.2.1).toNatClampNeg)]) (st := [.long a5.1]) dX1_sumOf_29 cl_X1_36 iv_X1_at (k_X1_at (Q := (fun v h' => v = some (.long p1.1) ∧ h' = hp p1.2 gb)) g a5.2.1 (rA a5.2.2 ra (a5.2.1).toNatClampNeg) a5.2.2 gb hg hp1 ⟨rfl, rfl⟩) (ci := 1) rfl (hp_get hg.1) rfl rfl rfl (Nat.le_of_ble_eq_true rfl) rfl (by decide) (by decide) ?_
        refine aw_ladd dX1_sumOf_32 ?_
        refine aw_lstore_n (L' := [some (.ref g), some (.ref ra), some (.long (a5.1 + p1.1)), none, some (.int a5.2.1)]) dX1_sumOf_33 rfl (by decide) rfl ?_
        refine aw_iinc (v := (a5.2.1 + (1 : Int32))) (L' := [some (.ref g), some (.ref ra), some (.long (a5.1 + p1.1)), none, some (.int (a5.2.1 + (1 : Int32)))]) dX1_sumOf_34 rfl rfl (by decide) rfl ?_
        refine aw_goto (tgt := 5) dX1_sumOf_37 (by decide) ?_
        cases hf
        exact hK
  · refine aw_lload_n dX1_sumOf_40 rfl rfl ?_
    cases hf
    exact aw_lret dX1_sumOf_41 hq (Nat.le_refl _) (Nat.le_refl _)
noncomputable def f_X1_greatestOf_L7 (g : Nat) (ra : Nat) (a7 : Int64 × Int32 × sx_M) : Option ((Int64 × Int32 × sx_M) ⊕ (Int64 × sx_M)) :=
  (if (rI a7.2.2 g 1) ≤ a7.2.1 then
 some (.inr (a7.1, a7.2.2))
else
 (if (7 : Int32) ≤ a7.2.1 then
 some (.inr (a7.1, a7.2.2))
else
 (if ¬ (a7.2.1 < 0 ∨ 7 ≤ (a7.2.1).toNatClampNeg) then
 (f_X1_at g a7.2.1 (rA a7.2.2 ra (a7.2.1).toNatClampNeg) a7.2.2).bind (fun p1 =>
 (f_J9_max_f86c9 a7.1 p1.1 p1.2).bind (fun p2 =>
 some (.inl (p2.1, (a7.2.1 + (1 : Int32)), p2.2))))
else none)))
noncomputable def f_X1_greatestOf (g : Nat) (ra : Nat) (s : sx_M) : Option (Int64 × sx_M) :=
  (whT (f_X1_greatestOf_L7 g ra) ((-9223372036854775808 : Int64), (0 : Int32), s)).bind (fun b3 =>
 some (b3.1, b3.2))
set_option maxRecDepth 100000 in
set_option maxHeartbeats 4000000 in
theorem k_X1_greatestOf {l : Launch} {X : ax_X} {Q : Option Value → ax_H → Prop} (g : Nat) (ra : Nat) (s : sx_M) (gb : ax_H) (hg : ax_G g) (hra : sx_sh[ra]? = some (.inl (.int, 7))) {p : Int64 × sx_M} (hf : f_X1_greatestOf g ra s = some p) (hq : Q (some (.long p.1)) (hp p.2 gb)) : AM l X yX1_greatestOf cX1_greatestOf 5 (some .long) 1 0 0 [.ref g, .ref ra] (hp s gb) Q := by
  refine aw_met (own := RX1) (nm := "greatestOf") (L := [some (.ref g), some (.ref ra), none, none, none]) (by decide +kernel) rfl rfl (And.intro rfl (And.intro rfl trivial)) (Nat.le_of_ble_eq_true rfl) ?_
  unfold f_X1_greatestOf at hf
  refine aw_ldc2 dX1_greatestOf_0 kc_X1_77 ?_
  refine aw_lstore_n (L' := [some (.ref g), some (.ref ra), some (.long (-9223372036854775808 : Int64)), none, none]) dX1_greatestOf_3 rfl (by decide) rfl ?_
  refine aw_iconst (v := 0) dX1_greatestOf_4 (by decide) ?_
  refine aw_istore (L' := [some (.ref g), some (.ref ra), some (.long (-9223372036854775808 : Int64)), none, some (.int (0 : Int32))]) dX1_greatestOf_5 (by decide) rfl ?_
  obtain ⟨b3, hb3, hf⟩ := ax_bind hf
  refine wh_go ((-9223372036854775808 : Int64), (0 : Int32), s) (fun a7 : Int64 × Int32 × sx_M => AW l X RX1 "greatestOf" cX1_greatestOf 5 (some .long) (ax_rm 1 0 0) (ax_MQ X Q 0 0) 0 0 7 [some (.ref g), some (.ref ra), some (.long a7.1), none, some (.int a7.2.1)] [] (hp a7.2.2 gb)) (fun e : Int64 × sx_M => AW l X RX1 "greatestOf" cX1_greatestOf 5 (some .long) (ax_rm 1 0 0) (ax_MQ X Q 0 0) 0 0 44 [none, none, some (.long e.1), none, none] [] (hp e.2 gb)) hb3 ?_ ?_
  · intro a7 r hf hK
    unfold f_X1_greatestOf_L7 at hf
    refine aw_iload dX1_greatestOf_7 rfl ?_
    refine aw_aload_n dX1_greatestOf_9 rfl rfl ?_
    refine aw_gI dX1_greatestOf_10 fl_X1_15 hg.1 rfl ?_
    refine aw_icmp_ge (tgt := 44) dX1_greatestOf_13 (by decide) (fun hc3 => ?_) (fun hc3 => ?_)
    · have hf := ax_pos hc3 hf
      refine aw_less (L' := [none, none, some (.long a7.1), none, none]) (And.intro rfl trivial) ?_
      cases hf
      exact hK
    · have hf := ax_neg hc3 hf
      refine aw_iload dX1_greatestOf_16 rfl ?_
      refine aw_aload_n dX1_greatestOf_18 rfl rfl ?_
      refine aw_al dX1_greatestOf_19 hra (by decide) rfl ?_
      refine aw_icmp_ge (tgt := 44) dX1_greatestOf_20 (by decide) (fun hc2 => ?_) (fun hc2 => ?_)
      · have hf := ax_pos hc2 hf
        refine aw_less (L' := [none, none, some (.long a7.1), none, none]) (And.intro rfl trivial) ?_
        cases hf
        exact hK
      · have hf := ax_neg hc2 hf
        refine aw_lload_n dX1_greatestOf_23 rfl rfl ?_
        refine aw_aload_n dX1_greatestOf_24 rfl rfl ?_
        refine aw_iload dX1_greatestOf_25 rfl ?_
        refine aw_aload_n dX1_greatestOf_27 rfl rfl ?_
        refine aw_iload dX1_greatestOf_28 rfl ?_
        obtain ⟨hc1, hf⟩ := ax_ite hf
        refine aw_lA dX1_greatestOf_30 hra hc1 ?_
        obtain ⟨p1, hp1, hf⟩ := ax_bind hf
        refine aw_cVl (As := [.int a7.2.1, .int (rA a7.2.2 ra (a7.2.1).toNatClampNeg)]) (st := [.long a7.1]) dX1_greatestOf_31 cl_X1_36 iv_X1_at (k_X1_at (Q := (fun v h' => v = some (.long p1.1) ∧ h' = hp p1.2 gb)) g a7.2.1 (rA a7.2.2 ra (a7.2.1).toNatClampNeg) a7.2.2 gb hg hp1 ⟨rfl, rfl⟩) (ci := 1) rfl (hp_get hg.1) rfl rfl rfl (Nat.le_of_ble_eq_true rfl) rfl (by decide) (by decide) ?_
        obtain ⟨p2, hp2, hf⟩ := ax_bind hf
        refine aw_cSl (As := [.long a7.1, .long p1.1]) (st := []) dX1_greatestOf_34 cl_X1_79 st_J9_max_f86c9 (k_J9_max_f86c9 (Q := (fun v h' => v = some (.long p2.1) ∧ h' = hp p2.2 gb)) a7.1 p1.1 p1.2 gb hp2 ⟨rfl, rfl⟩) rfl rfl (Nat.le_of_ble_eq_true rfl) rfl (by decide) (by decide) ?_
        refine aw_lstore_n (L' := [some (.ref g), some (.ref ra), some (.long p2.1), none, some (.int a7.2.1)]) dX1_greatestOf_37 rfl (by decide) rfl ?_
        refine aw_iinc (v := (a7.2.1 + (1 : Int32))) (L' := [some (.ref g), some (.ref ra), some (.long p2.1), none, some (.int (a7.2.1 + (1 : Int32)))]) dX1_greatestOf_38 rfl rfl (by decide) rfl ?_
        refine aw_goto (tgt := 7) dX1_greatestOf_41 (by decide) ?_
        cases hf
        exact hK
  · refine aw_lload_n dX1_greatestOf_44 rfl rfl ?_
    cases hf
    exact aw_lret dX1_greatestOf_45 hq (Nat.le_refl _) (Nat.le_refl _)
noncomputable def f_X1_smallestOf_L7 (g : Nat) (ra : Nat) (a7 : Int64 × Int32 × sx_M) : Option ((Int64 × Int32 × sx_M) ⊕ (Int64 × sx_M)) :=
  (if (rI a7.2.2 g 1) ≤ a7.2.1 then
 some (.inr (a7.1, a7.2.2))
else
 (if (7 : Int32) ≤ a7.2.1 then
 some (.inr (a7.1, a7.2.2))
else
 (if ¬ (a7.2.1 < 0 ∨ 7 ≤ (a7.2.1).toNatClampNeg) then
 (f_X1_at g a7.2.1 (rA a7.2.2 ra (a7.2.1).toNatClampNeg) a7.2.2).bind (fun p1 =>
 (f_J9_min_f86c9 a7.1 p1.1 p1.2).bind (fun p2 =>
 some (.inl (p2.1, (a7.2.1 + (1 : Int32)), p2.2))))
else none)))
noncomputable def f_X1_smallestOf (g : Nat) (ra : Nat) (s : sx_M) : Option (Int64 × sx_M) :=
  (whT (f_X1_smallestOf_L7 g ra) ((9223372036854775807 : Int64), (0 : Int32), s)).bind (fun b3 =>
 some (b3.1, b3.2))
set_option maxRecDepth 100000 in
set_option maxHeartbeats 4000000 in
theorem k_X1_smallestOf {l : Launch} {X : ax_X} {Q : Option Value → ax_H → Prop} (g : Nat) (ra : Nat) (s : sx_M) (gb : ax_H) (hg : ax_G g) (hra : sx_sh[ra]? = some (.inl (.int, 7))) {p : Int64 × sx_M} (hf : f_X1_smallestOf g ra s = some p) (hq : Q (some (.long p.1)) (hp p.2 gb)) : AM l X yX1_smallestOf cX1_smallestOf 5 (some .long) 1 0 0 [.ref g, .ref ra] (hp s gb) Q := by
  refine aw_met (own := RX1) (nm := "smallestOf") (L := [some (.ref g), some (.ref ra), none, none, none]) (by decide +kernel) rfl rfl (And.intro rfl (And.intro rfl trivial)) (Nat.le_of_ble_eq_true rfl) ?_
  unfold f_X1_smallestOf at hf
  refine aw_ldc2 dX1_smallestOf_0 kc_X1_30 ?_
  refine aw_lstore_n (L' := [some (.ref g), some (.ref ra), some (.long (9223372036854775807 : Int64)), none, none]) dX1_smallestOf_3 rfl (by decide) rfl ?_
  refine aw_iconst (v := 0) dX1_smallestOf_4 (by decide) ?_
  refine aw_istore (L' := [some (.ref g), some (.ref ra), some (.long (9223372036854775807 : Int64)), none, some (.int (0 : Int32))]) dX1_smallestOf_5 (by decide) rfl ?_
  obtain ⟨b3, hb3, hf⟩ := ax_bind hf
  refine wh_go ((9223372036854775807 : Int64), (0 : Int32), s) (fun a7 : Int64 × Int32 × sx_M => AW l X RX1 "smallestOf" cX1_smallestOf 5 (some .long) (ax_rm 1 0 0) (ax_MQ X Q 0 0) 0 0 7 [some (.ref g), some (.ref ra), some (.long a7.1), none, some (.int a7.2.1)] [] (hp a7.2.2 gb)) (fun e : Int64 × sx_M => AW l X RX1 "smallestOf" cX1_smallestOf 5 (some .long) (ax_rm 1 0 0) (ax_MQ X Q 0 0) 0 0 44 [none, none, some (.long e.1), none, none] [] (hp e.2 gb)) hb3 ?_ ?_
  · intro a7 r hf hK
    unfold f_X1_smallestOf_L7 at hf
    refine aw_iload dX1_smallestOf_7 rfl ?_
    refine aw_aload_n dX1_smallestOf_9 rfl rfl ?_
    refine aw_gI dX1_smallestOf_10 fl_X1_15 hg.1 rfl ?_
    refine aw_icmp_ge (tgt := 44) dX1_smallestOf_13 (by decide) (fun hc3 => ?_) (fun hc3 => ?_)
    · have hf := ax_pos hc3 hf
      refine aw_less (L' := [none, none, some (.long a7.1), none, none]) (And.intro rfl trivial) ?_
      cases hf
      exact hK
    · have hf := ax_neg hc3 hf
      refine aw_iload dX1_smallestOf_16 rfl ?_
      refine aw_aload_n dX1_smallestOf_18 rfl rfl ?_
      refine aw_al dX1_smallestOf_19 hra (by decide) rfl ?_
      refine aw_icmp_ge (tgt := 44) dX1_smallestOf_20 (by decide) (fun hc2 => ?_) (fun hc2 => ?_)
      · have hf := ax_pos hc2 hf
        refine aw_less (L' := [none, none, some (.long a7.1), none, none]) (And.intro rfl trivial) ?_
        cases hf
        exact hK
      · have hf := ax_neg hc2 hf
        refine aw_lload_n dX1_smallestOf_23 rfl rfl ?_
        refine aw_aload_n dX1_smallestOf_24 rfl rfl ?_
        refine aw_iload dX1_smallestOf_25 rfl ?_
        refine aw_aload_n dX1_smallestOf_27 rfl rfl ?_
        refine aw_iload dX1_smallestOf_28 rfl ?_
        obtain ⟨hc1, hf⟩ := ax_ite hf
        refine aw_lA dX1_smallestOf_30 hra hc1 ?_
        obtain ⟨p1, hp1, hf⟩ := ax_bind hf
        refine aw_cVl (As := [.int a7.2.1, .int (rA a7.2.2 ra (a7.2.1).toNatClampNeg)]) (st := [.long a7.1]) dX1_smallestOf_31 cl_X1_36 iv_X1_at (k_X1_at (Q := (fun v h' => v = some (.long p1.1) ∧ h' = hp p1.2 gb)) g a7.2.1 (rA a7.2.2 ra (a7.2.1).toNatClampNeg) a7.2.2 gb hg hp1 ⟨rfl, rfl⟩) (ci := 1) rfl (hp_get hg.1) rfl rfl rfl (Nat.le_of_ble_eq_true rfl) rfl (by decide) (by decide) ?_
        obtain ⟨p2, hp2, hf⟩ := ax_bind hf
        refine aw_cSl (As := [.long a7.1, .long p1.1]) (st := []) dX1_smallestOf_34 cl_X1_51 st_J9_min_f86c9 (k_J9_min_f86c9 (Q := (fun v h' => v = some (.long p2.1) ∧ h' = hp p2.2 gb)) a7.1 p1.1 p1.2 gb hp2 ⟨rfl, rfl⟩) rfl rfl (Nat.le_of_ble_eq_true rfl) rfl (by decide) (by decide) ?_
        refine aw_lstore_n (L' := [some (.ref g), some (.ref ra), some (.long p2.1), none, some (.int a7.2.1)]) dX1_smallestOf_37 rfl (by decide) rfl ?_
        refine aw_iinc (v := (a7.2.1 + (1 : Int32))) (L' := [some (.ref g), some (.ref ra), some (.long p2.1), none, some (.int (a7.2.1 + (1 : Int32)))]) dX1_smallestOf_38 rfl rfl (by decide) rfl ?_
        refine aw_goto (tgt := 7) dX1_smallestOf_41 (by decide) ?_
        cases hf
        exact hK
  · refine aw_lload_n dX1_smallestOf_44 rfl rfl ?_
    cases hf
    exact aw_lret dX1_smallestOf_45 hq (Nat.le_refl _) (Nat.le_refl _)
noncomputable def f_X1_decode_L28 (g : Nat) (ra : Nat) (a28 : Int32 × Int32 × Int32 × sx_M) : Option ((Int32 × Int32 × Int32 × sx_M) ⊕ ((Int32 × sx_M) ⊕ (Int32 × sx_M))) :=
  (if a28.2.2.1 < 0 then
 some (.inr (.inl (a28.1, a28.2.2.2)))
else
 (f_X1_at g a28.2.2.1 (a28.1 &&& (7 : Int32)) a28.2.2.2).bind (fun p1 =>
 (if p1.1 = (9223372036854775807 : Int64) then
 some (.inr (.inr (((0 : Int32), p1.2))))
else
 (if ((a28.2.1 >>> ((a28.1 &&& (7 : Int32)) &&& 31)) &&& (1 : Int32)) = (1 : Int32) then
 some (.inr (.inr (((0 : Int32), p1.2))))
else
 (if ¬ (a28.2.2.1 < 0 ∨ 7 ≤ (a28.2.2.1).toNatClampNeg) then
 some (.inl ((a28.1 >>> ((3 : Int32) &&& 31)), (a28.2.1 ||| ((1 : Int32) <<< ((a28.1 &&& (7 : Int32)) &&& 31))), (a28.2.2.1 + (-1 : Int32)), (wA p1.2 ra (a28.2.2.1).toNatClampNeg (a28.1 &&& (7 : Int32)))))
else none)))))
noncomputable def f_X1_decode (g : Nat) (ra : Nat) (x1 : Int32) (s : sx_M) : Option (Int32 × sx_M) :=
  (if x1 < 0 then
 some ((0 : Int32), s)
else
 (if (rI s g 1) ≤ (7 : Int32) then
 (whT (f_X1_decode_L28 g ra) (x1, (0 : Int32), ((rI s g 1) - (1 : Int32)), s)).bind (fun b2 => (Sum.elim (fun e3 =>
 (if e3.1 = 0 then
 some ((1 : Int32), e3.2)
else
 some ((0 : Int32), e3.2))) (fun e4 =>
 some e4)) b2)
else
 some ((0 : Int32), s)))
set_option maxRecDepth 100000 in
set_option maxHeartbeats 4000000 in
theorem k_X1_decode {l : Launch} {X : ax_X} {Q : Option Value → ax_H → Prop} (g : Nat) (ra : Nat) (x1 : Int32) (s : sx_M) (gb : ax_H) (hg : ax_G g) (hra : sx_sh[ra]? = some (.inl (.int, 7))) {p : Int32 × sx_M} (hf : f_X1_decode g ra x1 s = some p) (hq : Q (some (.int p.1)) (hp p.2 gb)) : AM l X yX1_decode cX1_decode 7 (some .boolean) 1 0 0 [.ref g, .int x1, .ref ra] (hp s gb) Q := by
  refine aw_met (own := RX1) (nm := "decode") (L := [some (.ref g), some (.int x1), some (.ref ra), none, none, none, none]) (by decide +kernel) rfl rfl (And.intro rfl (And.intro rfl (And.intro rfl trivial))) (Nat.le_of_ble_eq_true rfl) ?_
  unfold f_X1_decode at hf
  refine aw_iload_n dX1_decode_0 rfl rfl ?_
  refine aw_if_lt (tgt := 13) dX1_decode_1 (by decide) (fun hc7 => ?_) (fun hc7 => ?_)
  · have hf := ax_pos hc7 hf
    refine aw_iconst (v := 0) dX1_decode_13 (by decide) ?_
    cases hf
    exact aw_zret dX1_decode_14 (by decide) hq (Nat.le_refl _) (Nat.le_refl _)
  · have hf := ax_neg hc7 hf
    refine aw_aload_n dX1_decode_4 rfl rfl ?_
    refine aw_al dX1_decode_5 hra (by decide) rfl ?_
    refine aw_aload_n dX1_decode_6 rfl rfl ?_
    refine aw_gI dX1_decode_7 fl_X1_15 hg.1 rfl ?_
    refine aw_icmp_ge (tgt := 15) dX1_decode_10 (by decide) (fun hc6 => ?_) (fun hc6 => ?_)
    · have hf := ax_pos hc6 hf
      refine aw_iload_n dX1_decode_15 rfl rfl ?_
      refine aw_istore_n (L' := [some (.ref g), some (.int x1), some (.ref ra), some (.int x1), none, none, none]) dX1_decode_16 rfl (by decide) rfl ?_
      refine aw_iconst (v := 0) dX1_decode_17 (by decide) ?_
      refine aw_istore (L' := [some (.ref g), some (.int x1), some (.ref ra), some (.int x1), some (.int (0 : Int32)), none, none]) dX1_decode_18 (by decide) rfl ?_
      refine aw_aload_n dX1_decode_20 rfl rfl ?_
      refine aw_gI dX1_decode_21 fl_X1_15 hg.1 rfl ?_
      refine aw_iconst (v := 1) dX1_decode_24 (by decide) ?_
      refine aw_isub dX1_decode_25 ?_
      refine aw_istore (L' := [some (.ref g), some (.int x1), some (.ref ra), some (.int x1), some (.int (0 : Int32)), some (.int ((rI s g 1) - (1 : Int32))), none]) dX1_decode_26 (by decide) rfl ?_
      refine aw_less (L' := [some (.ref g), none, some (.ref ra), some (.int x1), some (.int (0 : Int32)), some (.int ((rI s g 1) - (1 : Int32))), none]) (And.intro rfl (And.intro rfl (And.intro rfl (And.intro rfl (And.intro rfl trivial))))) ?_
      obtain ⟨b2, hb2, hf⟩ := ax_bind hf
      refine wh_go (x1, (0 : Int32), ((rI s g 1) - (1 : Int32)), s) (fun a28 : Int32 × Int32 × Int32 × sx_M => AW l X RX1 "decode" cX1_decode 7 (some .boolean) (ax_rm 1 0 0) (ax_MQ X Q 0 0) 0 0 28 [some (.ref g), none, some (.ref ra), some (.int a28.1), some (.int a28.2.1), some (.int a28.2.2.1), none] [] (hp a28.2.2.2 gb)) (Sum.elim (fun e : Int32 × sx_M => AW l X RX1 "decode" cX1_decode 7 (some .boolean) (ax_rm 1 0 0) (ax_MQ X Q 0 0) 0 0 92 [none, none, none, some (.int e.1), none, none, none] [] (hp e.2 gb)) (fun v : Int32 × sx_M => Q (some (.int v.1)) (hp v.2 gb))) hb2 ?_ ?_
      · intro a28 r hf hK
        unfold f_X1_decode_L28 at hf
        refine aw_iload dX1_decode_28 rfl ?_
        refine aw_if_lt (tgt := 92) dX1_decode_30 (by decide) (fun hc4 => ?_) (fun hc4 => ?_)
        · have hf := ax_pos hc4 hf
          refine aw_less (L' := [none, none, none, some (.int a28.1), none, none, none]) (And.intro rfl trivial) ?_
          cases hf
          exact hK
        · have hf := ax_neg hc4 hf
          refine aw_iload_n dX1_decode_33 rfl rfl ?_
          refine aw_bipush (v := 7) dX1_decode_34 (by decide) ?_
          refine aw_iand dX1_decode_36 ?_
          refine aw_istore (L' := [some (.ref g), none, some (.ref ra), some (.int a28.1), some (.int a28.2.1), some (.int a28.2.2.1), some (.int (a28.1 &&& (7 : Int32)))]) dX1_decode_37 (by decide) rfl ?_
          refine aw_aload_n dX1_decode_39 rfl rfl ?_
          refine aw_iload dX1_decode_40 rfl ?_
          refine aw_iload dX1_decode_42 rfl ?_
          obtain ⟨p1, hp1, hf⟩ := ax_bind hf
          refine aw_cVl (As := [.int a28.2.2.1, .int (a28.1 &&& (7 : Int32))]) (st := []) dX1_decode_44 cl_X1_36 iv_X1_at (k_X1_at (Q := (fun v h' => v = some (.long p1.1) ∧ h' = hp p1.2 gb)) g a28.2.2.1 (a28.1 &&& (7 : Int32)) a28.2.2.2 gb hg hp1 ⟨rfl, rfl⟩) (ci := 1) rfl (hp_get hg.1) rfl rfl rfl (Nat.le_of_ble_eq_true rfl) rfl (by decide) (by decide) ?_
          refine aw_ldc2 dX1_decode_47 kc_X1_30 ?_
          refine aw_lcmp_eq (tgt := 65) dX1_decode_50 dX1_decode_51 (by decide) (fun hc3 => ?_) (fun hc3 => ?_)
          · have hf := ax_pos hc3 hf
            refine aw_iconst (v := 0) dX1_decode_65 (by decide) ?_
            cases hf
            exact aw_zret dX1_decode_66 (by decide) hK (Nat.le_refl _) (Nat.le_refl _)
          · have hf := ax_neg hc3 hf
            refine aw_iload dX1_decode_54 rfl ?_
            refine aw_iload dX1_decode_56 rfl ?_
            refine aw_ishr dX1_decode_58 ?_
            refine aw_iconst (v := 1) dX1_decode_59 (by decide) ?_
            refine aw_iand dX1_decode_60 ?_
            refine aw_iconst (v := 1) dX1_decode_61 (by decide) ?_
            refine aw_icmp_ne (tgt := 67) dX1_decode_62 (by decide) (fun hc2 => ?_) (fun hc2 => ?_)
            · have hf := ax_neg hc2 hf
              refine aw_aload_n dX1_decode_67 rfl rfl ?_
              refine aw_iload dX1_decode_68 rfl ?_
              refine aw_iload dX1_decode_70 rfl ?_
              obtain ⟨hc1, hf⟩ := ax_ite hf
              refine aw_sA dX1_decode_72 hra hc1 ?_
              refine aw_iload dX1_decode_73 rfl ?_
              refine aw_iconst (v := 1) dX1_decode_75 (by decide) ?_
              refine aw_iload dX1_decode_76 rfl ?_
              refine aw_ishl dX1_decode_78 ?_
              refine aw_ior dX1_decode_79 ?_
              refine aw_istore (L' := [some (.ref g), none, some (.ref ra), some (.int a28.1), some (.int (a28.2.1 ||| ((1 : Int32) <<< ((a28.1 &&& (7 : Int32)) &&& 31)))), some (.int a28.2.2.1), some (.int (a28.1 &&& (7 : Int32)))]) dX1_decode_80 (by decide) rfl ?_
              refine aw_iload_n dX1_decode_82 rfl rfl ?_
              refine aw_iconst (v := 3) dX1_decode_83 (by decide) ?_
              refine aw_ishr dX1_decode_84 ?_
              refine aw_istore_n (L' := [some (.ref g), none, some (.ref ra), some (.int (a28.1 >>> ((3 : Int32) &&& 31))), some (.int (a28.2.1 ||| ((1 : Int32) <<< ((a28.1 &&& (7 : Int32)) &&& 31)))), some (.int a28.2.2.1), some (.int (a28.1 &&& (7 : Int32)))]) dX1_decode_85 rfl (by decide) rfl ?_
              refine aw_iinc (v := (a28.2.2.1 + (-1 : Int32))) (L' := [some (.ref g), none, some (.ref ra), some (.int (a28.1 >>> ((3 : Int32) &&& 31))), some (.int (a28.2.1 ||| ((1 : Int32) <<< ((a28.1 &&& (7 : Int32)) &&& 31)))), some (.int (a28.2.2.1 + (-1 : Int32))), some (.int (a28.1 &&& (7 : Int32)))]) dX1_decode_86 rfl rfl (by decide) rfl ?_
              refine aw_goto (tgt := 28) dX1_decode_89 (by decide) ?_
              refine aw_less (L' := [some (.ref g), none, some (.ref ra), some (.int (a28.1 >>> ((3 : Int32) &&& 31))), some (.int (a28.2.1 ||| ((1 : Int32) <<< ((a28.1 &&& (7 : Int32)) &&& 31)))), some (.int (a28.2.2.1 + (-1 : Int32))), none]) (And.intro rfl (And.intro rfl (And.intro rfl (And.intro rfl (And.intro rfl trivial))))) ?_
              cases hf
              exact hK
            · have hf := ax_pos hc2 hf
              refine aw_iconst (v := 0) dX1_decode_65 (by decide) ?_
              cases hf
              exact aw_zret dX1_decode_66 (by decide) hK (Nat.le_refl _) (Nat.le_refl _)
      · rcases b2 with e3 | e4
        · refine aw_iload_n dX1_decode_92 rfl rfl ?_
          refine aw_if_ne (tgt := 100) dX1_decode_93 (by decide) (fun hc5 => ?_) (fun hc5 => ?_)
          · have hf := ax_neg hc5 hf
            refine aw_iconst (v := 0) dX1_decode_100 (by decide) ?_
            cases hf
            exact aw_zret dX1_decode_101 (by decide) hq (Nat.le_refl _) (Nat.le_refl _)
          · have hf := ax_pos hc5 hf
            refine aw_iconst (v := 1) dX1_decode_96 (by decide) ?_
            refine aw_goto (tgt := 101) dX1_decode_97 (by decide) ?_
            cases hf
            exact aw_zret dX1_decode_101 (by decide) hq (Nat.le_refl _) (Nat.le_refl _)
        · cases hf
          exact hq
    · have hf := ax_neg hc6 hf
      refine aw_iconst (v := 0) dX1_decode_13 (by decide) ?_
      cases hf
      exact aw_zret dX1_decode_14 (by decide) hq (Nat.le_refl _) (Nat.le_refl _)
