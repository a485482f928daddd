noncomputable def f_X4_forget (s : sx_M) : Option sx_M :=
  some (wI s 9 4 (0 : Int32))
set_option maxRecDepth 100000 in
set_option maxHeartbeats 4000000 in
theorem k_X4_forget {l : Launch} {X : ax_X} {Q : Option Value → ax_H → Prop} (s : sx_M) (gb : ax_H) {p : sx_M} (hf : f_X4_forget s = some p) (hq : Q (none) (hp p gb)) : AM l X yX4_forget cX4_forget 1 none 0 0 0 [.ref 9] (hp s gb) Q := by
  refine aw_met (own := RX4) (nm := "forget") (L := [some (.ref 9)]) (by decide +kernel) rfl rfl (And.intro rfl trivial) (Nat.le_of_ble_eq_true rfl) ?_
  unfold f_X4_forget at hf
  refine aw_aload_n dX4_forget_0 rfl rfl ?_
  refine aw_iconst (v := 0) dX4_forget_1 (by decide) ?_
  refine aw_pI dX4_forget_2 fp_X4_30 sh_9 rfl (by decide) (by decide) ?_
  cases hf
  exact aw_vret dX4_forget_5 hq (Nat.le_refl _) (Nat.le_refl _)
noncomputable def f_X4_addToPart_L31 (a31 : sx_M) : Option ((sx_M) ⊕ (sx_M)) :=
  (if (rI a31 9 11) ≤ 0 then
 some (.inr a31)
else
 (if ¬ ((rI a31 9 11) < 0 ∨ 64 ≤ ((rI a31 9 11)).toNatClampNeg) then
 (if ((rI a31 9 12) - (rA a31 12 ((rI a31 9 11)).toNatClampNeg)) ≤ (rI a31 9 10) then
 some (.inr a31)
else
 (if ¬ ((rI a31 9 11) < 0 ∨ 64 ≤ ((rI a31 9 11)).toNatClampNeg) then
 some (.inl (wI (wI a31 9 12 ((rI a31 9 12) - (rA a31 12 ((rI a31 9 11)).toNatClampNeg))) 9 11 ((rI (wI a31 9 12 ((rI a31 9 12) - (rA a31 12 ((rI a31 9 11)).toNatClampNeg))) 9 11) - (1 : Int32))))
else none))
else none))
noncomputable def f_X4_addToPart (x1 : Int32) (x2 : Int32) (s : sx_M) : Option sx_M :=
  (if x1 < 0 then
 some s
else
 (if x1 < (64 : Int32) then
 (if ¬ (x1 < 0 ∨ 64 ≤ (x1).toNatClampNeg) then
 (if ¬ (x1 < 0 ∨ 64 ≤ (x1).toNatClampNeg) then
 (whT (f_X4_addToPart_L31) (wI (wA s 12 (x1).toNatClampNeg ((rA s 12 (x1).toNatClampNeg) + x2)) 9 12 ((rI (wA s 12 (x1).toNatClampNeg ((rA s 12 (x1).toNatClampNeg) + x2)) 9 12) + x2))).bind (fun b1 =>
 some b1)
else none)
else none)
else
 some s))
set_option maxRecDepth 100000 in
set_option maxHeartbeats 4000000 in
theorem k_X4_addToPart {l : Launch} {X : ax_X} {Q : Option Value → ax_H → Prop} (x1 : Int32) (x2 : Int32) (s : sx_M) (gb : ax_H) {p : sx_M} (hf : f_X4_addToPart x1 x2 s = some p) (hq : Q (none) (hp p gb)) : AM l X yX4_addToPart cX4_addToPart 3 none 0 0 0 [.ref 9, .int x1, .int x2] (hp s gb) Q := by
  refine aw_met (own := RX4) (nm := "addToPart") (L := [some (.ref 9), some (.int x1), some (.int x2)]) (by decide +kernel) rfl rfl (And.intro rfl (And.intro rfl (And.intro rfl trivial))) (Nat.le_of_ble_eq_true rfl) ?_
  unfold f_X4_addToPart at hf
  refine aw_iload_n dX4_addToPart_0 rfl rfl ?_
  refine aw_if_lt (tgt := 10) dX4_addToPart_1 (by decide) (fun hc8 => ?_) (fun hc8 => ?_)
  · have hf := ax_pos hc8 hf
    cases hf
    exact aw_vret dX4_addToPart_10 hq (Nat.le_refl _) (Nat.le_refl _)
  · have hf := ax_neg hc8 hf
    refine aw_iload_n dX4_addToPart_4 rfl rfl ?_
    refine aw_bipush (v := 64) dX4_addToPart_5 (by decide) ?_
    refine aw_icmp_lt (tgt := 11) dX4_addToPart_7 (by decide) (fun hc7 => ?_) (fun hc7 => ?_)
    · have hf := ax_pos hc7 hf
      refine aw_aload_n dX4_addToPart_11 rfl rfl ?_
      refine aw_gR dX4_addToPart_12 fl_X4_19 sh_9 rfl ?_
      refine aw_iload_n dX4_addToPart_15 rfl rfl ?_
      refine aw_dup2_11 dX4_addToPart_16 rfl rfl ?_
      obtain ⟨hc1, hf⟩ := ax_ite hf
      refine aw_lA dX4_addToPart_17 sh_12 hc1 ?_
      refine aw_iload_n dX4_addToPart_18 rfl rfl ?_
      refine aw_iadd dX4_addToPart_19 ?_
      obtain ⟨hc2, hf⟩ := ax_ite hf
      refine aw_sA dX4_addToPart_20 sh_12 hc2 ?_
      refine aw_aload_n dX4_addToPart_21 rfl rfl ?_
      refine aw_dup dX4_addToPart_22 rfl ?_
      refine aw_gI dX4_addToPart_23 fl_X4_89 sh_9 rfl ?_
      refine aw_iload_n dX4_addToPart_26 rfl rfl ?_
      refine aw_iadd dX4_addToPart_27 ?_
      refine aw_pI dX4_addToPart_28 fp_X4_89 sh_9 rfl rfl rfl ?_
      refine aw_less (L' := [some (.ref 9), none, none]) (And.intro rfl trivial) ?_
      obtain ⟨b1, hb1, hf⟩ := ax_bind hf
      refine wh_go (wI (wA s 12 (x1).toNatClampNeg ((rA s 12 (x1).toNatClampNeg) + x2)) 9 12 ((rI (wA s 12 (x1).toNatClampNeg ((rA s 12 (x1).toNatClampNeg) + x2)) 9 12) + x2)) (fun a31 : sx_M => AW l X RX4 "addToPart" cX4_addToPart 3 none (ax_rm 0 0 0) (ax_MQ X Q 0 0) 0 0 31 [some (.ref 9), none, none] [] (hp a31 gb)) (fun e : sx_M => AW l X RX4 "addToPart" cX4_addToPart 3 none (ax_rm 0 0 0) (ax_MQ X Q 0 0) 0 0 90 [none, none, none] [] (hp e gb)) hb1 ?_ ?_
      · intro a31 r hf hK
        unfold f_X4_addToPart_L31 at hf
        refine aw_aload_n dX4_addToPart_31 rfl rfl ?_
        refine aw_gI dX4_addToPart_32 fl_X4_86 sh_9 rfl ?_
        refine aw_if_le (tgt := 90) dX4_addToPart_35 (by decide) (fun hc6 => ?_) (fun hc6 => ?_)
        · have hf := ax_pos hc6 hf
          refine aw_less (L' := [none, none, none]) trivial ?_
          cases hf
          exact hK
        · have hf := ax_neg hc6 hf
          refine aw_aload_n dX4_addToPart_38 rfl rfl ?_
          refine aw_gI dX4_addToPart_39 fl_X4_89 sh_9 rfl ?_
          refine aw_aload_n dX4_addToPart_42 rfl rfl ?_
          refine aw_gR dX4_addToPart_43 fl_X4_19 sh_9 rfl ?_
          refine aw_aload_n dX4_addToPart_46 rfl rfl ?_
          refine aw_gI dX4_addToPart_47 fl_X4_86 sh_9 rfl ?_
          obtain ⟨hc3, hf⟩ := ax_ite hf
          refine aw_lA dX4_addToPart_50 sh_12 hc3 ?_
          refine aw_isub dX4_addToPart_51 ?_
          refine aw_aload_n dX4_addToPart_52 rfl rfl ?_
          refine aw_gI dX4_addToPart_53 fl_X4_68 sh_9 rfl ?_
          refine aw_icmp_le (tgt := 90) dX4_addToPart_56 (by decide) (fun hc5 => ?_) (fun hc5 => ?_)
          · have hf := ax_pos hc5 hf
            refine aw_less (L' := [none, none, none]) trivial ?_
            cases hf
            exact hK
          · have hf := ax_neg hc5 hf
            refine aw_aload_n dX4_addToPart_59 rfl rfl ?_
            refine aw_dup dX4_addToPart_60 rfl ?_
            refine aw_gI dX4_addToPart_61 fl_X4_89 sh_9 rfl ?_
            refine aw_aload_n dX4_addToPart_64 rfl rfl ?_
            refine aw_gR dX4_addToPart_65 fl_X4_19 sh_9 rfl ?_
            refine aw_aload_n dX4_addToPart_68 rfl rfl ?_
            refine aw_gI dX4_addToPart_69 fl_X4_86 sh_9 rfl ?_
            obtain ⟨hc4, hf⟩ := ax_ite hf
            refine aw_lA dX4_addToPart_72 sh_12 hc4 ?_
            refine aw_isub dX4_addToPart_73 ?_
            refine aw_pI dX4_addToPart_74 fp_X4_89 sh_9 rfl rfl rfl ?_
            refine aw_aload_n dX4_addToPart_77 rfl rfl ?_
            refine aw_dup dX4_addToPart_78 rfl ?_
            refine aw_gI dX4_addToPart_79 fl_X4_86 sh_9 rfl ?_
            refine aw_iconst (v := 1) dX4_addToPart_82 (by decide) ?_
            refine aw_isub dX4_addToPart_83 ?_
            refine aw_pI dX4_addToPart_84 fp_X4_86 sh_9 rfl rfl rfl ?_
            refine aw_goto (tgt := 31) dX4_addToPart_87 (by decide) ?_
            cases hf
            exact hK
      · cases hf
        exact aw_vret dX4_addToPart_90 hq (Nat.le_refl _) (Nat.le_refl _)
    · have hf := ax_neg hc7 hf
      cases hf
      exact aw_vret dX4_addToPart_10 hq (Nat.le_refl _) (Nat.le_refl _)
noncomputable def f_X4_add_L17 (z1 : Int32) (z2 : Int64) (a17 : Int32 × sx_M) : Option ((Int32 × sx_M) ⊕ (Int32 × sx_M)) :=
  (if a17.1 ≤ 0 then
 some (.inr (a17.1, a17.2))
else
 (if ¬ ((a17.1 - (1 : Int32)) < 0 ∨ 200 ≤ ((a17.1 - (1 : Int32))).toNatClampNeg) then
 (if (rB a17.2 11 ((a17.1 - (1 : Int32))).toNatClampNeg) ≤ z2 then
 some (.inr (a17.1, a17.2))
else
 (if ¬ ((a17.1 - (1 : Int32)) < 0 ∨ 200 ≤ ((a17.1 - (1 : Int32))).toNatClampNeg) then
 (if ¬ (a17.1 < 0 ∨ 200 ≤ (a17.1).toNatClampNeg) then
 (if ¬ ((a17.1 - (1 : Int32)) < 0 ∨ 200 ≤ ((a17.1 - (1 : Int32))).toNatClampNeg) then
 (if ¬ (a17.1 < 0 ∨ 200 ≤ (a17.1).toNatClampNeg) then
 some (.inl ((a17.1 + (-1 : Int32)), (wA (wB a17.2 11 (a17.1).toNatClampNeg (rB a17.2 11 ((a17.1 - (1 : Int32))).toNatClampNeg)) 10 (a17.1).toNatClampNeg (rA (wB a17.2 11 (a17.1).toNatClampNeg (rB a17.2 11 ((a17.1 - (1 : Int32))).toNatClampNeg)) 10 ((a17.1 - (1 : Int32))).toNatClampNeg))))
else none)
else none)
else none)
else none))
else none))
noncomputable def f_X4_add (x1 : Int32) (x2 : Int64) (s : sx_M) : Option sx_M :=
  (if (rI s 9 5) < (200 : Int32) then
 (whT (f_X4_add_L17 x1 x2) ((rI s 9 5), s)).bind (fun b1 =>
 (if ¬ (b1.1 < 0 ∨ 200 ≤ (b1.1).toNatClampNeg) then
 (if ¬ (b1.1 < 0 ∨ 200 ≤ (b1.1).toNatClampNeg) then
 (if x2 = (rJ (wI (wA (wB b1.2 11 (b1.1).toNatClampNeg x2) 10 (b1.1).toNatClampNeg x1) 9 5 ((rI (wA (wB b1.2 11 (b1.1).toNatClampNeg x2) 10 (b1.1).toNatClampNeg x1) 9 5) + (1 : Int32))) 9 6) then
 some (wI (wI (wA (wB b1.2 11 (b1.1).toNatClampNeg x2) 10 (b1.1).toNatClampNeg x1) 9 5 ((rI (wA (wB b1.2 11 (b1.1).toNatClampNeg x2) 10 (b1.1).toNatClampNeg x1) 9 5) + (1 : Int32))) 9 7 ((rI (wI (wA (wB b1.2 11 (b1.1).toNatClampNeg x2) 10 (b1.1).toNatClampNeg x1) 9 5 ((rI (wA (wB b1.2 11 (b1.1).toNatClampNeg x2) 10 (b1.1).toNatClampNeg x1) 9 5) + (1 : Int32))) 9 7) - (1 : Int32)))
else
 some (wI (wA (wB b1.2 11 (b1.1).toNatClampNeg x2) 10 (b1.1).toNatClampNeg x1) 9 5 ((rI (wA (wB b1.2 11 (b1.1).toNatClampNeg x2) 10 (b1.1).toNatClampNeg x1) 9 5) + (1 : Int32))))
else none)
else none))
else
 some s)
set_option maxRecDepth 100000 in
set_option maxHeartbeats 4000000 in
theorem k_X4_add {l : Launch} {X : ax_X} {Q : Option Value → ax_H → Prop} (x1 : Int32) (x2 : Int64) (s : sx_M) (gb : ax_H) {p : sx_M} (hf : f_X4_add x1 x2 s = some p) (hq : Q (none) (hp p gb)) : AM l X yX4_add cX4_add 5 none 0 0 0 [.ref 9, .int x1, .long x2] (hp s gb) Q := by
  refine aw_met (own := RX4) (nm := "add") (L := [some (.ref 9), some (.int x1), some (.long x2), none, none]) (by decide +kernel) rfl rfl (And.intro rfl (And.intro rfl (And.intro rfl trivial))) (Nat.le_of_ble_eq_true rfl) ?_
  unfold f_X4_add at hf
  refine aw_aload_n dX4_add_0 rfl rfl ?_
  refine aw_gI dX4_add_1 fl_X4_43 sh_9 rfl ?_
  refine aw_sipush (v := 200) dX4_add_4 (by decide) ?_
  refine aw_icmp_lt (tgt := 11) dX4_add_7 (by decide) (fun hc11 => ?_) (fun hc11 => ?_)
  · have hf := ax_pos hc11 hf
    refine aw_aload_n dX4_add_11 rfl rfl ?_
    refine aw_gI dX4_add_12 fl_X4_43 sh_9 rfl ?_
    refine aw_istore (L' := [some (.ref 9), some (.int x1), some (.long x2), none, some (.int (rI s 9 5))]) dX4_add_15 (by decide) rfl ?_
    obtain ⟨b1, hb1, hf⟩ := ax_bind hf
    refine wh_go ((rI s 9 5), s) (fun a17 : Int32 × sx_M => AW l X RX4 "add" cX4_add 5 none (ax_rm 0 0 0) (ax_MQ X Q 0 0) 0 0 17 [some (.ref 9), some (.int x1), some (.long x2), none, some (.int a17.1)] [] (hp a17.2 gb)) (fun e : Int32 × sx_M => AW l X RX4 "add" cX4_add 5 none (ax_rm 0 0 0) (ax_MQ X Q 0 0) 0 0 74 [some (.ref 9), some (.int x1), some (.long x2), none, some (.int e.1)] [] (hp e.2 gb)) hb1 ?_ ?_
    · intro a17 r hf hK
      unfold f_X4_add_L17 at hf
      refine aw_iload dX4_add_17 rfl ?_
      refine aw_if_le (tgt := 74) dX4_add_19 (by decide) (fun hc7 => ?_) (fun hc7 => ?_)
      · have hf := ax_pos hc7 hf
        cases hf
        exact hK
      · have hf := ax_neg hc7 hf
        refine aw_aload_n dX4_add_22 rfl rfl ?_
        refine aw_gR dX4_add_23 fl_X4_15 sh_9 rfl ?_
        refine aw_iload dX4_add_26 rfl ?_
        refine aw_iconst (v := 1) dX4_add_28 (by decide) ?_
        refine aw_isub dX4_add_29 ?_
        obtain ⟨hc1, hf⟩ := ax_ite hf
        refine aw_lB dX4_add_30 sh_11 hc1 ?_
        refine aw_lload_n dX4_add_31 rfl rfl ?_
        refine aw_lcmp_le (tgt := 74) dX4_add_32 dX4_add_33 (by decide) (fun hc6 => ?_) (fun hc6 => ?_)
        · have hf := ax_pos hc6 hf
          cases hf
          exact hK
        · have hf := ax_neg hc6 hf
          refine aw_aload_n dX4_add_36 rfl rfl ?_
          refine aw_gR dX4_add_37 fl_X4_15 sh_9 rfl ?_
          refine aw_iload dX4_add_40 rfl ?_
          refine aw_aload_n dX4_add_42 rfl rfl ?_
          refine aw_gR dX4_add_43 fl_X4_15 sh_9 rfl ?_
          refine aw_iload dX4_add_46 rfl ?_
          refine aw_iconst (v := 1) dX4_add_48 (by decide) ?_
          refine aw_isub dX4_add_49 ?_
          obtain ⟨hc2, hf⟩ := ax_ite hf
          refine aw_lB dX4_add_50 sh_11 hc2 ?_
          obtain ⟨hc3, hf⟩ := ax_ite hf
          refine aw_sB dX4_add_51 sh_11 hc3 ?_
          refine aw_aload_n dX4_add_52 rfl rfl ?_
          refine aw_gR dX4_add_53 fl_X4_9 sh_9 rfl ?_
          refine aw_iload dX4_add_56 rfl ?_
          refine aw_aload_n dX4_add_58 rfl rfl ?_
          refine aw_gR dX4_add_59 fl_X4_9 sh_9 rfl ?_
          refine aw_iload dX4_add_62 rfl ?_
          refine aw_iconst (v := 1) dX4_add_64 (by decide) ?_
          refine aw_isub dX4_add_65 ?_
          obtain ⟨hc4, hf⟩ := ax_ite hf
          refine aw_lA dX4_add_66 sh_10 hc4 ?_
          obtain ⟨hc5, hf⟩ := ax_ite hf
          refine aw_sA dX4_add_67 sh_10 hc5 ?_
          refine aw_iinc (v := (a17.1 + (-1 : Int32))) (L' := [some (.ref 9), some (.int x1), some (.long x2), none, some (.int (a17.1 + (-1 : Int32)))]) dX4_add_68 rfl rfl (by decide) rfl ?_
          refine aw_goto (tgt := 17) dX4_add_71 (by decide) ?_
          cases hf
          exact hK
    · refine aw_aload_n dX4_add_74 rfl rfl ?_
      refine aw_gR dX4_add_75 fl_X4_15 sh_9 rfl ?_
      refine aw_iload dX4_add_78 rfl ?_
      refine aw_lload_n dX4_add_80 rfl rfl ?_
      obtain ⟨hc8, hf⟩ := ax_ite hf
      refine aw_sB dX4_add_81 sh_11 hc8 ?_
      refine aw_aload_n dX4_add_82 rfl rfl ?_
      refine aw_gR dX4_add_83 fl_X4_9 sh_9 rfl ?_
      refine aw_iload dX4_add_86 rfl ?_
      refine aw_iload_n dX4_add_88 rfl rfl ?_
      obtain ⟨hc9, hf⟩ := ax_ite hf
      refine aw_sA dX4_add_89 sh_10 hc9 ?_
      refine aw_aload_n dX4_add_90 rfl rfl ?_
      refine aw_dup dX4_add_91 rfl ?_
      refine aw_gI dX4_add_92 fl_X4_43 sh_9 rfl ?_
      refine aw_iconst (v := 1) dX4_add_95 (by decide) ?_
      refine aw_iadd dX4_add_96 ?_
      refine aw_pI dX4_add_97 fp_X4_43 sh_9 rfl rfl rfl ?_
      refine aw_lload_n dX4_add_100 rfl rfl ?_
      refine aw_aload_n dX4_add_101 rfl rfl ?_
      refine aw_gJ dX4_add_102 fl_X4_123 sh_9 rfl ?_
      refine aw_lcmp_ne (tgt := 119) dX4_add_105 dX4_add_106 (by decide) (fun hc10 => ?_) (fun hc10 => ?_)
      · have hf := ax_neg hc10 hf
        cases hf
        exact aw_vret dX4_add_119 hq (Nat.le_refl _) (Nat.le_refl _)
      · have hf := ax_pos hc10 hf
        refine aw_aload_n dX4_add_109 rfl rfl ?_
        refine aw_dup dX4_add_110 rfl ?_
        refine aw_gI dX4_add_111 fl_X4_130 sh_9 rfl ?_
        refine aw_iconst (v := 1) dX4_add_114 (by decide) ?_
        refine aw_isub dX4_add_115 ?_
        refine aw_pI dX4_add_116 fp_X4_130 sh_9 rfl rfl rfl ?_
        cases hf
        exact aw_vret dX4_add_119 hq (Nat.le_refl _) (Nat.le_refl _)
  · have hf := ax_neg hc11 hf
    cases hf
    exact aw_vret dX4_add_10 hq (Nat.le_refl _) (Nat.le_refl _)
noncomputable def f_X4_belongs (x1 : Int64) (s : sx_M) : Option (Int32 × sx_M) :=
  (if x1 < (rJ s 9 6) then
 some ((1 : Int32), s)
else
 (if x1 = (rJ s 9 6) then
 (if (rI s 9 7) ≤ 0 then
 some ((0 : Int32), s)
else
 some ((1 : Int32), s))
else
 some ((0 : Int32), s)))
set_option maxRecDepth 100000 in
set_option maxHeartbeats 4000000 in
theorem k_X4_belongs {l : Launch} {X : ax_X} {Q : Option Value → ax_H → Prop} (x1 : Int64) (s : sx_M) (gb : ax_H) {p : Int32 × sx_M} (hf : f_X4_belongs x1 s = some p) (hq : Q (some (.int p.1)) (hp p.2 gb)) : AM l X yX4_belongs cX4_belongs 3 (some .boolean) 0 0 0 [.ref 9, .long x1] (hp s gb) Q := by
  refine aw_met (own := RX4) (nm := "belongs") (L := [some (.ref 9), some (.long x1), none]) (by decide +kernel) rfl rfl (And.intro rfl (And.intro rfl trivial)) (Nat.le_of_ble_eq_true rfl) ?_
  unfold f_X4_belongs at hf
  refine aw_lload_n dX4_belongs_0 rfl rfl ?_
  refine aw_aload_n dX4_belongs_1 rfl rfl ?_
  refine aw_gJ dX4_belongs_2 fl_X4_123 sh_9 rfl ?_
  refine aw_lcmp_lt (tgt := 25) dX4_belongs_5 dX4_belongs_6 (by decide) (fun hc3 => ?_) (fun hc3 => ?_)
  · have hf := ax_pos hc3 hf
    refine aw_iconst (v := 1) dX4_belongs_25 (by decide) ?_
    refine aw_goto (tgt := 30) dX4_belongs_26 (by decide) ?_
    cases hf
    exact aw_zret dX4_belongs_30 (by decide) hq (Nat.le_refl _) (Nat.le_refl _)
  · have hf := ax_neg hc3 hf
    refine aw_lload_n dX4_belongs_9 rfl rfl ?_
    refine aw_aload_n dX4_belongs_10 rfl rfl ?_
    refine aw_gJ dX4_belongs_11 fl_X4_123 sh_9 rfl ?_
    refine aw_lcmp_ne (tgt := 29) dX4_belongs_14 dX4_belongs_15 (by decide) (fun hc2 => ?_) (fun hc2 => ?_)
    · have hf := ax_neg hc2 hf
      refine aw_iconst (v := 0) dX4_belongs_29 (by decide) ?_
      cases hf
      exact aw_zret dX4_belongs_30 (by decide) hq (Nat.le_refl _) (Nat.le_refl _)
    · have hf := ax_pos hc2 hf
      refine aw_aload_n dX4_belongs_18 rfl rfl ?_
      refine aw_gI dX4_belongs_19 fl_X4_130 sh_9 rfl ?_
      refine aw_if_le (tgt := 29) dX4_belongs_22 (by decide) (fun hc1 => ?_) (fun hc1 => ?_)
      · have hf := ax_pos hc1 hf
        refine aw_iconst (v := 0) dX4_belongs_29 (by decide) ?_
        cases hf
        exact aw_zret dX4_belongs_30 (by decide) hq (Nat.le_refl _) (Nat.le_refl _)
      · have hf := ax_neg hc1 hf
        refine aw_iconst (v := 1) dX4_belongs_25 (by decide) ?_
        refine aw_goto (tgt := 30) dX4_belongs_26 (by decide) ?_
        cases hf
        exact aw_zret dX4_belongs_30 (by decide) hq (Nat.le_refl _) (Nat.le_refl _)
