noncomputable def f_X6_spells_L20 (z1 : UInt32) (a20 : Int32 × sx_M) : Option ((Int32 × sx_M) ⊕ ((sx_M) ⊕ (Int32 × sx_M))) :=
  (if sx_isS z1 then
 (if (sx_len_s z1) ≤ a20.1 then
 some (.inr (.inl a20.2))
else
 (f_X9_at ((rI a20.2 19 3) + a20.1) a20.2).bind (fun p1 =>
 (if sx_isS z1 then
 (if ¬ (a20.1 < 0 ∨ sx_len_s z1 ≤ a20.1) then
 (if p1.1 = (sx_chr z1 a20.1) then
 some (.inl ((a20.1 + (1 : Int32)), p1.2))
else
 some (.inr (.inr (((0 : Int32), p1.2)))))
else none)
else none)))
else none)
noncomputable def f_X6_spells (x1 : UInt32) (s : sx_M) : Option (Int32 × sx_M) :=
  (if sx_isS x1 then
 (if ((rI s 19 4) - (rI s 19 3)) = (sx_len_s x1) then
 (whT (f_X6_spells_L20 x1) ((0 : Int32), s)).bind (fun b2 => (Sum.elim (fun e3 =>
 some ((1 : Int32), e3)) (fun e4 =>
 some e4)) b2)
else
 some ((0 : Int32), s))
else none)
set_option maxRecDepth 100000 in
set_option maxHeartbeats 4000000 in
theorem k_X6_spells {l : Launch} {X : ax_X} {Q : Option Value → ax_H → Prop} (x1 : UInt32) (s : sx_M) (gb : ax_H) {p : Int32 × sx_M} (hf : f_X6_spells x1 s = some p) (hq : Q (some (.int p.1)) (hp p.2 gb)) : AM l X yX6_spells cX6_spells 3 (some .boolean) 4 0 0 [.ref 19, .float x1] (hp s gb) Q := by
  refine aw_met (own := RX6) (nm := "spells") (L := [some (.ref 19), some (.float x1), none]) (by decide +kernel) rfl rfl (And.intro rfl (And.intro rfl trivial)) (Nat.le_of_ble_eq_true rfl) ?_
  unfold f_X6_spells at hf
  refine aw_aload_n dX6_spells_0 rfl rfl ?_
  refine aw_gI dX6_spells_1 fl_X6_31 sh_19 rfl ?_
  refine aw_aload_n dX6_spells_4 rfl rfl ?_
  refine aw_gI dX6_spells_5 fl_X6_49 sh_19 rfl ?_
  refine aw_isub dX6_spells_8 ?_
  refine aw_aload_nX dX6_spells_9 rfl rfl ?_
  obtain ⟨hc1, hf⟩ := ax_ite hf
  refine aw_slen (st := [.int ((rI s 19 4) - (rI s 19 3))]) dX6_spells_10 cl_X6_118 hc1 (Nat.le_of_ble_eq_true rfl) rfl (by decide) ?_
  refine aw_icmp_eq (tgt := 18) dX6_spells_13 (by decide) (fun hc7 => ?_) (fun hc7 => ?_)
  · have hf := ax_pos hc7 hf
    refine aw_iconst (v := 0) dX6_spells_18 (by decide) ?_
    refine aw_istore_n (L' := [some (.ref 19), some (.float x1), some (.int (0 : Int32))]) dX6_spells_19 rfl (by decide) rfl ?_
    obtain ⟨b2, hb2, hf⟩ := ax_bind hf
    refine wh_go ((0 : Int32), s) (fun a20 : Int32 × sx_M => AW l X RX6 "spells" cX6_spells 3 (some .boolean) (ax_rm 4 0 0) (ax_MQ X Q 0 0) 0 0 20 [some (.ref 19), some (.float x1), some (.int a20.1)] [] (hp a20.2 gb)) (Sum.elim (fun e : sx_M => AW l X RX6 "spells" cX6_spells 3 (some .boolean) (ax_rm 4 0 0) (ax_MQ X Q 0 0) 0 0 57 [none, none, none] [] (hp e gb)) (fun v : Int32 × sx_M => Q (some (.int v.1)) (hp v.2 gb))) hb2 ?_ ?_
    · intro a20 r hf hK
      unfold f_X6_spells_L20 at hf
      refine aw_iload_n dX6_spells_20 rfl rfl ?_
      refine aw_aload_nX dX6_spells_21 rfl rfl ?_
      obtain ⟨hc2, hf⟩ := ax_ite hf
      refine aw_slen (st := [.int a20.1]) dX6_spells_22 cl_X6_118 hc2 (Nat.le_of_ble_eq_true rfl) rfl (by decide) ?_
      refine aw_icmp_ge (tgt := 57) dX6_spells_25 (by decide) (fun hc6 => ?_) (fun hc6 => ?_)
      · have hf := ax_pos hc6 hf
        refine aw_less (L' := [none, none, none]) trivial ?_
        cases hf
        exact hK
      · have hf := ax_neg hc6 hf
        refine aw_aload_n dX6_spells_28 rfl rfl ?_
        refine aw_gR dX6_spells_29 fl_X6_15 sh_19 rfl ?_
        refine aw_aload_n dX6_spells_32 rfl rfl ?_
        refine aw_gI dX6_spells_33 fl_X6_49 sh_19 rfl ?_
        refine aw_iload_n dX6_spells_36 rfl rfl ?_
        refine aw_iadd dX6_spells_37 ?_
        obtain ⟨p1, hp1, hf⟩ := ax_bind hf
        refine aw_cVi (As := [.int ((rI a20.2 19 3) + a20.1)]) (st := []) dX6_spells_38 cl_X6_81 iv_X9_at (k_X9_at (Q := (fun v h' => v = some (.int p1.1) ∧ h' = hp p1.2 gb)) ((rI a20.2 19 3) + a20.1) a20.2 gb hp1 ⟨rfl, rfl⟩) (ci := 9) rfl (hp_get sh_1) rfl rfl rfl (Nat.le_of_ble_eq_true rfl) rfl (by decide) (by decide) ?_
        refine aw_aload_nX dX6_spells_41 rfl rfl ?_
        refine aw_iload_n dX6_spells_42 rfl rfl ?_
        obtain ⟨hc3, hf⟩ := ax_ite hf
        obtain ⟨hc4, hf⟩ := ax_ite hf
        refine aw_schar (st := [.int p1.1]) dX6_spells_43 cl_X6_123 hc3 hc4 (Nat.le_of_ble_eq_true rfl) rfl (by decide) ?_
        refine aw_icmp_eq (tgt := 51) dX6_spells_46 (by decide) (fun hc5 => ?_) (fun hc5 => ?_)
        · have hf := ax_pos hc5 hf
          refine aw_iinc (v := (a20.1 + (1 : Int32))) (L' := [some (.ref 19), some (.float x1), some (.int (a20.1 + (1 : Int32)))]) dX6_spells_51 rfl rfl (by decide) rfl ?_
          refine aw_goto (tgt := 20) dX6_spells_54 (by decide) ?_
          cases hf
          exact hK
        · have hf := ax_neg hc5 hf
          refine aw_iconst (v := 0) dX6_spells_49 (by decide) ?_
          cases hf
          exact aw_zret dX6_spells_50 (by decide) hK (Nat.le_refl _) (Nat.le_refl _)
    · rcases b2 with e3 | e4
      · refine aw_iconst (v := 1) dX6_spells_57 (by decide) ?_
        cases hf
        exact aw_zret dX6_spells_58 (by decide) hq (Nat.le_refl _) (Nat.le_refl _)
      · cases hf
        exact hq
  · have hf := ax_neg hc7 hf
    refine aw_iconst (v := 0) dX6_spells_16 (by decide) ?_
    cases hf
    exact aw_zret dX6_spells_17 (by decide) hq (Nat.le_refl _) (Nat.le_refl _)
noncomputable def f_X6_step_L8 (a8 : sx_M) : Option ((sx_M) ⊕ (sx_M)) :=
  (if (rI a8 1 1) ≤ (rI a8 19 3) then
 some (.inr a8)
else
 (f_X9_at (rI a8 19 3) a8).bind (fun p1 =>
 (f_X6_isBlank p1.1 p1.2).bind (fun p2 =>
 (if p2.1 = 0 then
 some (.inr p2.2)
else
 some (.inl (wI p2.2 19 3 ((rI p2.2 19 3) + (1 : Int32))))))))
noncomputable def f_X6_step (s : sx_M) : Option sx_M :=
  (whT (f_X6_step_L8) (wI s 19 3 (rI s 19 4))).bind (fun b3 =>
 (f_X9_at (rI b3 19 3) b3).bind (fun p4 =>
 (f_X6_isDigit p4.1 (wI p4.2 19 4 ((rI p4.2 19 3) + (1 : Int32)))).bind (fun p5 =>
 (if p5.1 = 0 then
 (f_X6_isLetter p4.1 p5.2).bind (fun p6 =>
 (if p6.1 = 0 then
 (f_X6_kindOfSign p4.1 p6.2).bind (fun p7 =>
 some (wI p7.2 19 2 p7.1))
else
 (f_X6_stepOverWord p6.2).bind (fun p8 =>
 (f_X6_spells (1 : UInt32) p8).bind (fun p9 =>
 (if p9.1 = 0 then
 (f_X6_spells (2 : UInt32) p9.2).bind (fun p10 =>
 (if p10.1 = 0 then
 (f_X6_spells (3 : UInt32) p10.2).bind (fun p11 =>
 (if p11.1 = 0 then
 some (wI p11.2 19 2 (1 : Int32))
else
 some (wI p11.2 19 2 (5 : Int32))))
else
 some (wI p10.2 19 2 (4 : Int32))))
else
 some (wI p9.2 19 2 (3 : Int32)))))))
else
 (f_X6_stepOverNumber (wI p5.2 19 2 (2 : Int32))).bind (fun p12 =>
 some p12)))))
set_option maxRecDepth 100000 in
set_option maxHeartbeats 4000000 in
theorem k_X6_step {l : Launch} {X : ax_X} {Q : Option Value → ax_H → Prop} (s : sx_M) (gb : ax_H) {p : sx_M} (hf : f_X6_step s = some p) (hq : Q (none) (hp p gb)) : AM l X yX6_step cX6_step 2 none 5 0 0 [.ref 19] (hp s gb) Q := by
  refine aw_met (own := RX6) (nm := "step") (L := [some (.ref 19), none]) (by decide +kernel) rfl rfl (And.intro rfl trivial) (Nat.le_of_ble_eq_true rfl) ?_
  unfold f_X6_step at hf
  refine aw_aload_n dX6_step_0 rfl rfl ?_
  refine aw_aload_n dX6_step_1 rfl rfl ?_
  refine aw_gI dX6_step_2 fl_X6_31 sh_19 rfl ?_
  refine aw_pI dX6_step_5 fp_X6_49 sh_19 rfl rfl rfl ?_
  obtain ⟨b3, hb3, hf⟩ := ax_bind hf
  refine wh_go (wI s 19 3 (rI s 19 4)) (fun a8 : sx_M => AW l X RX6 "step" cX6_step 2 none (ax_rm 5 0 0) (ax_MQ X Q 0 0) 0 0 8 [some (.ref 19), none] [] (hp a8 gb)) (fun e : sx_M => AW l X RX6 "step" cX6_step 2 none (ax_rm 5 0 0) (ax_MQ X Q 0 0) 0 0 52 [some (.ref 19), none] [] (hp e gb)) hb3 ?_ ?_
  · intro a8 r hf hK
    unfold f_X6_step_L8 at hf
    refine aw_aload_n dX6_step_8 rfl rfl ?_
    refine aw_gI dX6_step_9 fl_X6_49 sh_19 rfl ?_
    refine aw_aload_n dX6_step_12 rfl rfl ?_
    refine aw_gR dX6_step_13 fl_X6_15 sh_19 rfl ?_
    refine aw_gI dX6_step_16 fl_X6_78 sh_1 rfl ?_
    refine aw_icmp_ge (tgt := 52) dX6_step_19 (by decide) (fun hc2 => ?_) (fun hc2 => ?_)
    · have hf := ax_pos hc2 hf
      cases hf
      exact hK
    · have hf := ax_neg hc2 hf
      refine aw_aload_n dX6_step_22 rfl rfl ?_
      refine aw_gR dX6_step_23 fl_X6_15 sh_19 rfl ?_
      refine aw_aload_n dX6_step_26 rfl rfl ?_
      refine aw_gI dX6_step_27 fl_X6_49 sh_19 rfl ?_
      obtain ⟨p1, hp1, hf⟩ := ax_bind hf
      refine aw_cVi (As := [.int (rI a8 19 3)]) (st := []) dX6_step_30 cl_X6_81 iv_X9_at (k_X9_at (Q := (fun v h' => v = some (.int p1.1) ∧ h' = hp p1.2 gb)) (rI a8 19 3) a8 gb hp1 ⟨rfl, rfl⟩) (ci := 9) rfl (hp_get sh_1) rfl rfl rfl (Nat.le_of_ble_eq_true rfl) rfl (by decide) (by decide) ?_
      obtain ⟨p2, hp2, hf⟩ := ax_bind hf
      refine aw_cSi (As := [.int p1.1]) (st := []) dX6_step_33 cl_X6_85 st_X6_isBlank (k_X6_isBlank (Q := (fun v h' => v = some (.int p2.1) ∧ h' = hp p2.2 gb)) p1.1 p1.2 gb hp2 ⟨rfl, rfl⟩) rfl rfl (Nat.le_of_ble_eq_true rfl) rfl (by decide) (by decide) ?_
      refine aw_if_eq (tgt := 52) dX6_step_36 (by decide) (fun hc1 => ?_) (fun hc1 => ?_)
      · have hf := ax_pos hc1 hf
        cases hf
        exact hK
      · have hf := ax_neg hc1 hf
        refine aw_aload_n dX6_step_39 rfl rfl ?_
        refine aw_dup dX6_step_40 rfl ?_
        refine aw_gI dX6_step_41 fl_X6_49 sh_19 rfl ?_
        refine aw_iconst (v := 1) dX6_step_44 (by decide) ?_
        refine aw_iadd dX6_step_45 ?_
        refine aw_pI dX6_step_46 fp_X6_49 sh_19 rfl rfl rfl ?_
        refine aw_goto (tgt := 8) dX6_step_49 (by decide) ?_
        cases hf
        exact hK
  · refine aw_aload_n dX6_step_52 rfl rfl ?_
    refine aw_gR dX6_step_53 fl_X6_15 sh_19 rfl ?_
    refine aw_aload_n dX6_step_56 rfl rfl ?_
    refine aw_gI dX6_step_57 fl_X6_49 sh_19 rfl ?_
    obtain ⟨p4, hp4, hf⟩ := ax_bind hf
    refine aw_cVi (As := [.int (rI b3 19 3)]) (st := []) dX6_step_60 cl_X6_81 iv_X9_at (k_X9_at (Q := (fun v h' => v = some (.int p4.1) ∧ h' = hp p4.2 gb)) (rI b3 19 3) b3 gb hp4 ⟨rfl, rfl⟩) (ci := 9) rfl (hp_get sh_1) rfl rfl rfl (Nat.le_of_ble_eq_true rfl) rfl (by decide) (by decide) ?_
    refine aw_istore_n (L' := [some (.ref 19), some (.int p4.1)]) dX6_step_63 rfl (by decide) rfl ?_
    refine aw_aload_n dX6_step_64 rfl rfl ?_
    refine aw_aload_n dX6_step_65 rfl rfl ?_
    refine aw_gI dX6_step_66 fl_X6_49 sh_19 rfl ?_
    refine aw_iconst (v := 1) dX6_step_69 (by decide) ?_
    refine aw_iadd dX6_step_70 ?_
    refine aw_pI dX6_step_71 fp_X6_31 sh_19 rfl rfl rfl ?_
    refine aw_iload_n dX6_step_74 rfl rfl ?_
    obtain ⟨p5, hp5, hf⟩ := ax_bind hf
    refine aw_cSi (As := [.int p4.1]) (st := []) dX6_step_75 cl_X6_88 st_X6_isDigit (k_X6_isDigit (Q := (fun v h' => v = some (.int p5.1) ∧ h' = hp p5.2 gb)) p4.1 (wI p4.2 19 4 ((rI p4.2 19 3) + (1 : Int32))) gb hp5 ⟨rfl, rfl⟩) rfl rfl (Nat.le_of_ble_eq_true rfl) rfl (by decide) (by decide) ?_
    refine aw_if_eq (tgt := 93) dX6_step_78 (by decide) (fun hc7 => ?_) (fun hc7 => ?_)
    · have hf := ax_pos hc7 hf
      refine aw_iload_n dX6_step_93 rfl rfl ?_
      obtain ⟨p6, hp6, hf⟩ := ax_bind hf
      refine aw_cSi (As := [.int p4.1]) (st := []) dX6_step_94 cl_X6_94 st_X6_isLetter (k_X6_isLetter (Q := (fun v h' => v = some (.int p6.1) ∧ h' = hp p6.2 gb)) p4.1 p5.2 gb hp6 ⟨rfl, rfl⟩) rfl rfl (Nat.le_of_ble_eq_true rfl) rfl (by decide) (by decide) ?_
      refine aw_if_eq (tgt := 151) dX6_step_97 (by decide) (fun hc6 => ?_) (fun hc6 => ?_)
      · have hf := ax_pos hc6 hf
        refine aw_aload_n dX6_step_151 rfl rfl ?_
        refine aw_iload_n dX6_step_152 rfl rfl ?_
        obtain ⟨p7, hp7, hf⟩ := ax_bind hf
        refine aw_cSi (As := [.int p4.1]) (st := [.ref 19]) dX6_step_153 cl_X6_109 st_X6_kindOfSign (k_X6_kindOfSign (Q := (fun v h' => v = some (.int p7.1) ∧ h' = hp p7.2 gb)) p4.1 p6.2 gb hp7 ⟨rfl, rfl⟩) rfl rfl (Nat.le_of_ble_eq_true rfl) rfl (by decide) (by decide) ?_
        refine aw_pI dX6_step_156 fp_X6_37 sh_19 rfl rfl rfl ?_
        cases hf
        exact aw_vret dX6_step_159 hq (Nat.le_refl _) (Nat.le_refl _)
      · have hf := ax_neg hc6 hf
        refine aw_aload_n dX6_step_100 rfl rfl ?_
        obtain ⟨p8, hp8, hf⟩ := ax_bind hf
        refine aw_cVv (As := []) (st := []) dX6_step_101 cl_X6_97 iv_X6_stepOverWord (k_X6_stepOverWord (Q := (fun v h' => v = none ∧ h' = hp p8 gb)) p6.2 gb hp8 ⟨rfl, rfl⟩) (ci := 6) rfl (hp_get sh_19) rfl rfl rfl (Nat.le_of_ble_eq_true rfl) rfl (by decide) (by decide) ?_
        refine aw_aload_n dX6_step_104 rfl rfl ?_
        refine aw_aload_n dX6_step_105 rfl rfl ?_
        refine aw_ldcS 1 dX6_step_106 sr_X6_100 (by decide) ?_
        obtain ⟨p9, hp9, hf⟩ := ax_bind hf
        refine aw_cVi (As := [.float (1 : UInt32)]) (st := [.ref 19]) dX6_step_108 cl_X6_101 iv_X6_spells (k_X6_spells (Q := (fun v h' => v = some (.int p9.1) ∧ h' = hp p9.2 gb)) (1 : UInt32) p8 gb hp9 ⟨rfl, rfl⟩) (ci := 6) rfl (hp_get sh_19) rfl rfl rfl (Nat.le_of_ble_eq_true rfl) rfl (by decide) (by decide) ?_
        refine aw_if_eq (tgt := 118) dX6_step_111 (by decide) (fun hc5 => ?_) (fun hc5 => ?_)
        · have hf := ax_pos hc5 hf
          refine aw_aload_n dX6_step_118 rfl rfl ?_
          refine aw_ldcS 2 dX6_step_119 sr_X6_105 (by decide) ?_
          obtain ⟨p10, hp10, hf⟩ := ax_bind hf
          refine aw_cVi (As := [.float (2 : UInt32)]) (st := [.ref 19]) dX6_step_121 cl_X6_101 iv_X6_spells (k_X6_spells (Q := (fun v h' => v = some (.int p10.1) ∧ h' = hp p10.2 gb)) (2 : UInt32) p9.2 gb hp10 ⟨rfl, rfl⟩) (ci := 6) rfl (hp_get sh_19) rfl rfl rfl (Nat.le_of_ble_eq_true rfl) rfl (by decide) (by decide) ?_
          refine aw_if_eq (tgt := 131) dX6_step_124 (by decide) (fun hc4 => ?_) (fun hc4 => ?_)
          · have hf := ax_pos hc4 hf
            refine aw_aload_n dX6_step_131 rfl rfl ?_
            refine aw_ldcS 3 dX6_step_132 sr_X6_107 (by decide) ?_
            obtain ⟨p11, hp11, hf⟩ := ax_bind hf
            refine aw_cVi (As := [.float (3 : UInt32)]) (st := [.ref 19]) dX6_step_134 cl_X6_101 iv_X6_spells (k_X6_spells (Q := (fun v h' => v = some (.int p11.1) ∧ h' = hp p11.2 gb)) (3 : UInt32) p10.2 gb hp11 ⟨rfl, rfl⟩) (ci := 6) rfl (hp_get sh_19) rfl rfl rfl (Nat.le_of_ble_eq_true rfl) rfl (by decide) (by decide) ?_
            refine aw_if_eq (tgt := 144) dX6_step_137 (by decide) (fun hc3 => ?_) (fun hc3 => ?_)
            · have hf := ax_pos hc3 hf
              refine aw_iconst (v := 1) dX6_step_144 (by decide) ?_
              refine aw_pI dX6_step_145 fp_X6_37 sh_19 rfl rfl rfl ?_
              refine aw_goto (tgt := 159) dX6_step_148 (by decide) ?_
              cases hf
              exact aw_vret dX6_step_159 hq (Nat.le_refl _) (Nat.le_refl _)
            · have hf := ax_neg hc3 hf
              refine aw_iconst (v := 5) dX6_step_140 (by decide) ?_
              refine aw_goto (tgt := 145) dX6_step_141 (by decide) ?_
              refine aw_pI dX6_step_145 fp_X6_37 sh_19 rfl rfl rfl ?_
              refine aw_goto (tgt := 159) dX6_step_148 (by decide) ?_
              cases hf
              exact aw_vret dX6_step_159 hq (Nat.le_refl _) (Nat.le_refl _)
          · have hf := ax_neg hc4 hf
            refine aw_iconst (v := 4) dX6_step_127 (by decide) ?_
            refine aw_goto (tgt := 145) dX6_step_128 (by decide) ?_
            refine aw_pI dX6_step_145 fp_X6_37 sh_19 rfl rfl rfl ?_
            refine aw_goto (tgt := 159) dX6_step_148 (by decide) ?_
            cases hf
            exact aw_vret dX6_step_159 hq (Nat.le_refl _) (Nat.le_refl _)
        · have hf := ax_neg hc5 hf
          refine aw_iconst (v := 3) dX6_step_114 (by decide) ?_
          refine aw_goto (tgt := 145) dX6_step_115 (by decide) ?_
          refine aw_pI dX6_step_145 fp_X6_37 sh_19 rfl rfl rfl ?_
          refine aw_goto (tgt := 159) dX6_step_148 (by decide) ?_
          cases hf
          exact aw_vret dX6_step_159 hq (Nat.le_refl _) (Nat.le_refl _)
    · have hf := ax_neg hc7 hf
      refine aw_aload_n dX6_step_81 rfl rfl ?_
      refine aw_iconst (v := 2) dX6_step_82 (by decide) ?_
      refine aw_pI dX6_step_83 fp_X6_37 sh_19 rfl rfl rfl ?_
      refine aw_aload_n dX6_step_86 rfl rfl ?_
      obtain ⟨p12, hp12, hf⟩ := ax_bind hf
      refine aw_cVv (As := []) (st := []) dX6_step_87 cl_X6_91 iv_X6_stepOverNumber (k_X6_stepOverNumber (Q := (fun v h' => v = none ∧ h' = hp p12 gb)) (wI p5.2 19 2 (2 : Int32)) gb hp12 ⟨rfl, rfl⟩) (ci := 6) rfl (hp_get sh_19) rfl rfl rfl (Nat.le_of_ble_eq_true rfl) rfl (by decide) (by decide) ?_
      refine aw_goto (tgt := 159) dX6_step_90 (by decide) ?_
      cases hf
      exact aw_vret dX6_step_159 hq (Nat.le_refl _) (Nat.le_refl _)
noncomputable def f_X6_readJobs_J49 (s_49 : sx_M) : Option (Int32 × sx_M) :=
  (f_X6_fail (2 : Int32) s_49).bind (fun p1 =>
 (if (p1.1 = 0 ∨ p1.1 = 1) then
 some (p1.1, p1.2)
else none))
noncomputable def f_X6_readJobs (s : sx_M) : Option (Int32 × sx_M) :=
  (if (rI s 19 2) = (3 : Int32) then
 (f_X6_step s).bind (fun p2 =>
 (if (rI p2 19 2) = (2 : Int32) then
 (if (rI p2 19 5) < (1 : Int32) then
 f_X6_readJobs_J49 p2
else
 (if (rI p2 19 5) ≤ (8 : Int32) then
 (f_X6_step (wI p2 13 2 (rI p2 19 5))).bind (fun p3 =>
 (if (rI p3 19 2) = (6 : Int32) then
 (f_X6_step p3).bind (fun p4 =>
 some ((1 : Int32), p4))
else
 (f_X6_fail (1 : Int32) p3).bind (fun p5 =>
 (if (p5.1 = 0 ∨ p5.1 = 1) then
 some (p5.1, p5.2)
else none))))
else
 f_X6_readJobs_J49 p2))
else
 (f_X6_fail (1 : Int32) p2).bind (fun p6 =>
 (if (p6.1 = 0 ∨ p6.1 = 1) then
 some (p6.1, p6.2)
else none))))
else
 (f_X6_fail (1 : Int32) s).bind (fun p7 =>
 (if (p7.1 = 0 ∨ p7.1 = 1) then
 some (p7.1, p7.2)
else none)))
set_option maxRecDepth 100000 in
set_option maxHeartbeats 4000000 in
theorem k_X6_readJobs {l : Launch} {X : ax_X} {Q : Option Value → ax_H → Prop} (s : sx_M) (gb : ax_H) {p : Int32 × sx_M} (hf : f_X6_readJobs s = some p) (hq : Q (some (.int p.1)) (hp p.2 gb)) : AM l X yX6_readJobs cX6_readJobs 1 (some .boolean) 6 0 0 [.ref 19] (hp s gb) Q := by
  refine aw_met (own := RX6) (nm := "readJobs") (L := [some (.ref 19)]) (by decide +kernel) rfl rfl (And.intro rfl trivial) (Nat.le_of_ble_eq_true rfl) ?_
  unfold f_X6_readJobs at hf
  have J49 : ∀ (s_49 : sx_M), f_X6_readJobs_J49 s_49 = some p → AW l X RX6 "readJobs" cX6_readJobs 1 (some .boolean) (ax_rm 6 0 0) (ax_MQ X Q 0 0) 0 0 49 [some (.ref 19)] [] (hp s_49 gb) := by
    intro s_49 hf
    unfold f_X6_readJobs_J49 at hf
    refine aw_aload_n dX6_readJobs_49 rfl rfl ?_
    refine aw_iconst (v := 2) dX6_readJobs_50 (by decide) ?_
    obtain ⟨p1, hp1, hf⟩ := ax_bind hf
    refine aw_cVi (As := [.int (2 : Int32)]) (st := []) dX6_readJobs_51 cl_X6_52 iv_X6_fail (k_X6_fail (Q := (fun v h' => v = some (.int p1.1) ∧ h' = hp p1.2 gb)) (2 : Int32) s_49 gb hp1 ⟨rfl, rfl⟩) (ci := 6) rfl (hp_get sh_19) rfl rfl rfl (Nat.le_of_ble_eq_true rfl) rfl (by decide) (by decide) ?_
    obtain ⟨hc1, hf⟩ := ax_ite hf
    cases hf
    exact aw_zret dX6_readJobs_54 (ax_nb hc1) hq (Nat.le_refl _) (Nat.le_refl _)
  refine aw_aload_n dX6_readJobs_0 rfl rfl ?_
  refine aw_gI dX6_readJobs_1 fl_X6_37 sh_19 rfl ?_
  refine aw_iconst (v := 3) dX6_readJobs_4 (by decide) ?_
  refine aw_icmp_eq (tgt := 14) dX6_readJobs_5 (by decide) (fun hc9 => ?_) (fun hc9 => ?_)
  · have hf := ax_pos hc9 hf
    refine aw_aload_n dX6_readJobs_14 rfl rfl ?_
    obtain ⟨p2, hp2, hf⟩ := ax_bind hf
    refine aw_cVv (As := []) (st := []) dX6_readJobs_15 cl_X6_34 iv_X6_step (k_X6_step (Q := (fun v h' => v = none ∧ h' = hp p2 gb)) s gb hp2 ⟨rfl, rfl⟩) (ci := 6) rfl (hp_get sh_19) rfl rfl rfl (Nat.le_of_ble_eq_true rfl) rfl (by decide) (by decide) ?_
    refine aw_aload_n dX6_readJobs_18 rfl rfl ?_
    refine aw_gI dX6_readJobs_19 fl_X6_37 sh_19 rfl ?_
    refine aw_iconst (v := 2) dX6_readJobs_22 (by decide) ?_
    refine aw_icmp_eq (tgt := 32) dX6_readJobs_23 (by decide) (fun hc7 => ?_) (fun hc7 => ?_)
    · have hf := ax_pos hc7 hf
      refine aw_aload_n dX6_readJobs_32 rfl rfl ?_
      refine aw_gI dX6_readJobs_33 fl_X6_56 sh_19 rfl ?_
      refine aw_iconst (v := 1) dX6_readJobs_36 (by decide) ?_
      refine aw_icmp_lt (tgt := 49) dX6_readJobs_37 (by decide) (fun hc5 => ?_) (fun hc5 => ?_)
      · have hf := ax_pos hc5 hf
        exact J49 p2 hf
      · have hf := ax_neg hc5 hf
        refine aw_aload_n dX6_readJobs_40 rfl rfl ?_
        refine aw_gI dX6_readJobs_41 fl_X6_56 sh_19 rfl ?_
        refine aw_bipush (v := 8) dX6_readJobs_44 (by decide) ?_
        refine aw_icmp_le (tgt := 55) dX6_readJobs_46 (by decide) (fun hc4 => ?_) (fun hc4 => ?_)
        · have hf := ax_pos hc4 hf
          refine aw_aload_n dX6_readJobs_55 rfl rfl ?_
          refine aw_gR dX6_readJobs_56 fl_X6_19 sh_19 rfl ?_
          refine aw_aload_n dX6_readJobs_59 rfl rfl ?_
          refine aw_gI dX6_readJobs_60 fl_X6_56 sh_19 rfl ?_
          refine aw_pI dX6_readJobs_63 fp_X6_59 sh_13 rfl rfl rfl ?_
          refine aw_aload_n dX6_readJobs_66 rfl rfl ?_
          obtain ⟨p3, hp3, hf⟩ := ax_bind hf
          refine aw_cVv (As := []) (st := []) dX6_readJobs_67 cl_X6_34 iv_X6_step (k_X6_step (Q := (fun v h' => v = none ∧ h' = hp p3 gb)) (wI p2 13 2 (rI p2 19 5)) gb hp3 ⟨rfl, rfl⟩) (ci := 6) rfl (hp_get sh_19) rfl rfl rfl (Nat.le_of_ble_eq_true rfl) rfl (by decide) (by decide) ?_
          refine aw_aload_n dX6_readJobs_70 rfl rfl ?_
          refine aw_gI dX6_readJobs_71 fl_X6_37 sh_19 rfl ?_
          refine aw_bipush (v := 6) dX6_readJobs_74 (by decide) ?_
          refine aw_icmp_eq (tgt := 85) dX6_readJobs_76 (by decide) (fun hc3 => ?_) (fun hc3 => ?_)
          · have hf := ax_pos hc3 hf
            refine aw_aload_n dX6_readJobs_85 rfl rfl ?_
            obtain ⟨p4, hp4, hf⟩ := ax_bind hf
            refine aw_cVv (As := []) (st := []) dX6_readJobs_86 cl_X6_34 iv_X6_step (k_X6_step (Q := (fun v h' => v = none ∧ h' = hp p4 gb)) p3 gb hp4 ⟨rfl, rfl⟩) (ci := 6) rfl (hp_get sh_19) rfl rfl rfl (Nat.le_of_ble_eq_true rfl) rfl (by decide) (by decide) ?_
            refine aw_iconst (v := 1) dX6_readJobs_89 (by decide) ?_
            cases hf
            exact aw_zret dX6_readJobs_90 (by decide) hq (Nat.le_refl _) (Nat.le_refl _)
          · have hf := ax_neg hc3 hf
            refine aw_aload_n dX6_readJobs_79 rfl rfl ?_
            refine aw_iconst (v := 1) dX6_readJobs_80 (by decide) ?_
            obtain ⟨p5, hp5, hf⟩ := ax_bind hf
            refine aw_cVi (As := [.int (1 : Int32)]) (st := []) dX6_readJobs_81 cl_X6_52 iv_X6_fail (k_X6_fail (Q := (fun v h' => v = some (.int p5.1) ∧ h' = hp p5.2 gb)) (1 : Int32) p3 gb hp5 ⟨rfl, rfl⟩) (ci := 6) rfl (hp_get sh_19) rfl rfl rfl (Nat.le_of_ble_eq_true rfl) rfl (by decide) (by decide) ?_
            obtain ⟨hc2, hf⟩ := ax_ite hf
            cases hf
            exact aw_zret dX6_readJobs_84 (ax_nb hc2) hq (Nat.le_refl _) (Nat.le_refl _)
        · have hf := ax_neg hc4 hf
          exact J49 p2 hf
    · have hf := ax_neg hc7 hf
      refine aw_aload_n dX6_readJobs_26 rfl rfl ?_
      refine aw_iconst (v := 1) dX6_readJobs_27 (by decide) ?_
      obtain ⟨p6, hp6, hf⟩ := ax_bind hf
      refine aw_cVi (As := [.int (1 : Int32)]) (st := []) dX6_readJobs_28 cl_X6_52 iv_X6_fail (k_X6_fail (Q := (fun v h' => v = some (.int p6.1) ∧ h' = hp p6.2 gb)) (1 : Int32) p2 gb hp6 ⟨rfl, rfl⟩) (ci := 6) rfl (hp_get sh_19) rfl rfl rfl (Nat.le_of_ble_eq_true rfl) rfl (by decide) (by decide) ?_
      obtain ⟨hc6, hf⟩ := ax_ite hf
      cases hf
      exact aw_zret dX6_readJobs_31 (ax_nb hc6) hq (Nat.le_refl _) (Nat.le_refl _)
  · have hf := ax_neg hc9 hf
    refine aw_aload_n dX6_readJobs_8 rfl rfl ?_
    refine aw_iconst (v := 1) dX6_readJobs_9 (by decide) ?_
    obtain ⟨p7, hp7, hf⟩ := ax_bind hf
    refine aw_cVi (As := [.int (1 : Int32)]) (st := []) dX6_readJobs_10 cl_X6_52 iv_X6_fail (k_X6_fail (Q := (fun v h' => v = some (.int p7.1) ∧ h' = hp p7.2 gb)) (1 : Int32) s gb hp7 ⟨rfl, rfl⟩) (ci := 6) rfl (hp_get sh_19) rfl rfl rfl (Nat.le_of_ble_eq_true rfl) rfl (by decide) (by decide) ?_
    obtain ⟨hc8, hf⟩ := ax_ite hf
    cases hf
    exact aw_zret dX6_readJobs_13 (ax_nb hc8) hq (Nat.le_refl _) (Nat.le_refl _)
noncomputable def f_X6_readCost_J142 (y1_142 : Int32) (y2_142 : Int64) (s_142 : sx_M) : Option (Int32 × sx_M) :=
  (f_X1_put 13 ((rI s_142 13 1) - (1 : Int32)) y1_142 y2_142 s_142).bind (fun p1 =>
 (f_X6_step p1).bind (fun p2 =>
 some ((1 : Int32), p2)))
noncomputable def f_X6_readCost_J91 (y1_91 : Int32) (t0_91 : Int64) (s_91 : sx_M) : Option (Int32 × sx_M) :=
  (if (rI s_91 19 2) = (8 : Int32) then
 (f_X6_step s_91).bind (fun p3 =>
 (if (rI p3 19 2) = (2 : Int32) then
 (if (rI p3 19 5) ≤ (9999 : Int32) then
 f_X6_readCost_J142 y1_91 (((-(rI p3 19 5))).toInt64) p3
else
 (f_X6_fail (2 : Int32) p3).bind (fun p4 =>
 (if (p4.1 = 0 ∨ p4.1 = 1) then
 some (p4.1, p4.2)
else none)))
else
 (f_X6_fail (1 : Int32) p3).bind (fun p5 =>
 (if (p5.1 = 0 ∨ p5.1 = 1) then
 some (p5.1, p5.2)
else none))))
else
 f_X6_readCost_J142 y1_91 t0_91 s_91)
noncomputable def f_X6_readCost_J55 (y1_55 : Int32) (s_55 : sx_M) : Option (Int32 × sx_M) :=
  (if y1_55 < (rI s_55 13 2) then
 (if (rI s_55 19 2) = (2 : Int32) then
 f_X6_readCost_J91 y1_55 (((rI s_55 19 5)).toInt64) s_55
else
 f_X6_readCost_J91 y1_55 (9223372036854775807 : Int64) s_55)
else
 (f_X6_fail (3 : Int32) s_55).bind (fun p6 =>
 (if (p6.1 = 0 ∨ p6.1 = 1) then
 some (p6.1, p6.2)
else none)))
noncomputable def f_X6_readCost_J31 (y1_31 : Int32) (s_31 : sx_M) : Option (Int32 × sx_M) :=
  (if (rI s_31 19 2) = (2 : Int32) then
 (if (rI s_31 19 5) ≤ (9999 : Int32) then
 f_X6_readCost_J55 y1_31 s_31
else
 (f_X6_fail (2 : Int32) s_31).bind (fun p7 =>
 (if (p7.1 = 0 ∨ p7.1 = 1) then
 some (p7.1, p7.2)
else none)))
else
 f_X6_readCost_J55 y1_31 s_31)
noncomputable def f_X6_readCost (x1 : Int32) (s : sx_M) : Option (Int32 × sx_M) :=
  (if (rI s 19 2) = (5 : Int32) then
 f_X6_readCost_J31 x1 s
else
 (if (rI s 19 2) = (8 : Int32) then
 f_X6_readCost_J31 x1 s
else
 (if (rI s 19 2) = (2 : Int32) then
 f_X6_readCost_J31 x1 s
else
 (f_X6_fail (1 : Int32) s).bind (fun p8 =>
 (if (p8.1 = 0 ∨ p8.1 = 1) then
 some (p8.1, p8.2)
else none)))))
set_option maxRecDepth 100000 in
set_option maxHeartbeats 4000000 in
theorem k_X6_readCost {l : Launch} {X : ax_X} {Q : Option Value → ax_H → Prop} (x1 : Int32) (s : sx_M) (gb : ax_H) {p : Int32 × sx_M} (hf : f_X6_readCost x1 s = some p) (hq : Q (some (.int p.1)) (hp p.2 gb)) : AM l X yX6_readCost cX6_readCost 4 (some .boolean) 6 0 0 [.ref 19, .int x1] (hp s gb) Q := by
  refine aw_met (own := RX6) (nm := "readCost") (L := [some (.ref 19), some (.int x1), none, none]) (by decide +kernel) rfl rfl (And.intro rfl (And.intro rfl trivial)) (Nat.le_of_ble_eq_true rfl) ?_
  unfold f_X6_readCost at hf
  have J142 : ∀ (y1_142 : Int32) (y2_142 : Int64) (s_142 : sx_M), f_X6_readCost_J142 y1_142 y2_142 s_142 = some p → AW l X RX6 "readCost" cX6_readCost 4 (some .boolean) (ax_rm 6 0 0) (ax_MQ X Q 0 0) 0 0 142 [some (.ref 19), some (.int y1_142), some (.long y2_142), none] [] (hp s_142 gb) := by
    intro y1_142 y2_142 s_142 hf
    unfold f_X6_readCost_J142 at hf
    refine aw_aload_n dX6_readCost_142 rfl rfl ?_
    refine aw_gR dX6_readCost_143 fl_X6_19 sh_19 rfl ?_
    refine aw_aload_n dX6_readCost_146 rfl rfl ?_
    refine aw_gR dX6_readCost_147 fl_X6_19 sh_19 rfl ?_
    refine aw_gI dX6_readCost_150 fl_X6_62 sh_13 rfl ?_
    refine aw_iconst (v := 1) dX6_readCost_153 (by decide) ?_
    refine aw_isub dX6_readCost_154 ?_
    refine aw_iload_n dX6_readCost_155 rfl rfl ?_
    refine aw_lload_n dX6_readCost_156 rfl rfl ?_
    obtain ⟨p1, hp1, hf⟩ := ax_bind hf
    refine aw_cVv (As := [.int ((rI s_142 13 1) - (1 : Int32)), .int y1_142, .long y2_142]) (st := []) dX6_readCost_157 cl_X6_74 iv_X1_put (k_X1_put (Q := (fun v h' => v = none ∧ h' = hp p1 gb)) 13 ((rI s_142 13 1) - (1 : Int32)) y1_142 y2_142 s_142 gb ax_G13 hp1 ⟨rfl, rfl⟩) (ci := 1) rfl (hp_get sh_13) rfl rfl rfl (Nat.le_of_ble_eq_true rfl) rfl (by decide) (by decide) ?_
    refine aw_aload_n dX6_readCost_160 rfl rfl ?_
    obtain ⟨p2, hp2, hf⟩ := ax_bind hf
    refine aw_cVv (As := []) (st := []) dX6_readCost_161 cl_X6_34 iv_X6_step (k_X6_step (Q := (fun v h' => v = none ∧ h' = hp p2 gb)) p1 gb hp2 ⟨rfl, rfl⟩) (ci := 6) rfl (hp_get sh_19) rfl rfl rfl (Nat.le_of_ble_eq_true rfl) rfl (by decide) (by decide) ?_
    refine aw_iconst (v := 1) dX6_readCost_164 (by decide) ?_
    cases hf
    exact aw_zret dX6_readCost_165 (by decide) hq (Nat.le_refl _) (Nat.le_refl _)
  have J91 : ∀ (y1_91 : Int32) (t0_91 : Int64) (s_91 : sx_M), f_X6_readCost_J91 y1_91 t0_91 s_91 = some p → AW l X RX6 "readCost" cX6_readCost 4 (some .boolean) (ax_rm 6 0 0) (ax_MQ X Q 0 0) 0 0 91 [some (.ref 19), some (.int y1_91), none, none] [.long t0_91] (hp s_91 gb) := by
    intro y1_91 t0_91 s_91 hf
    unfold f_X6_readCost_J91 at hf
    refine aw_lstore_n (L' := [some (.ref 19), some (.int y1_91), some (.long t0_91), none]) dX6_readCost_91 rfl (by decide) rfl ?_
    refine aw_aload_n dX6_readCost_92 rfl rfl ?_
    refine aw_gI dX6_readCost_93 fl_X6_37 sh_19 rfl ?_
    refine aw_bipush (v := 8) dX6_readCost_96 (by decide) ?_
    refine aw_icmp_ne (tgt := 142) dX6_readCost_98 (by decide) (fun hc5 => ?_) (fun hc5 => ?_)
    · have hf := ax_neg hc5 hf
      exact J142 y1_91 t0_91 s_91 hf
    · have hf := ax_pos hc5 hf
      refine aw_aload_n dX6_readCost_101 rfl rfl ?_
      obtain ⟨p3, hp3, hf⟩ := ax_bind hf
      refine aw_cVv (As := []) (st := []) dX6_readCost_102 cl_X6_34 iv_X6_step (k_X6_step (Q := (fun v h' => v = none ∧ h' = hp p3 gb)) s_91 gb hp3 ⟨rfl, rfl⟩) (ci := 6) rfl (hp_get sh_19) rfl rfl rfl (Nat.le_of_ble_eq_true rfl) rfl (by decide) (by decide) ?_
      refine aw_aload_n dX6_readCost_105 rfl rfl ?_
      refine aw_gI dX6_readCost_106 fl_X6_37 sh_19 rfl ?_
      refine aw_iconst (v := 2) dX6_readCost_109 (by decide) ?_
      refine aw_icmp_eq (tgt := 119) dX6_readCost_110 (by decide) (fun hc4 => ?_) (fun hc4 => ?_)
      · have hf := ax_pos hc4 hf
        refine aw_aload_n dX6_readCost_119 rfl rfl ?_
        refine aw_gI dX6_readCost_120 fl_X6_56 sh_19 rfl ?_
        refine aw_sipush (v := 9999) dX6_readCost_123 (by decide) ?_
        refine aw_icmp_le (tgt := 135) dX6_readCost_126 (by decide) (fun hc2 => ?_) (fun hc2 => ?_)
        · have hf := ax_pos hc2 hf
          refine aw_aload_n dX6_readCost_135 rfl rfl ?_
          refine aw_gI dX6_readCost_136 fl_X6_56 sh_19 rfl ?_
          refine aw_ineg dX6_readCost_139 ?_
          refine aw_i2l dX6_readCost_140 ?_
          refine aw_lstore_n (L' := [some (.ref 19), some (.int y1_91), some (.long (((-(rI p3 19 5))).toInt64)), none]) dX6_readCost_141 rfl (by decide) rfl ?_
          exact J142 y1_91 (((-(rI p3 19 5))).toInt64) p3 hf
        · have hf := ax_neg hc2 hf
          refine aw_aload_n dX6_readCost_129 rfl rfl ?_
          refine aw_iconst (v := 2) dX6_readCost_130 (by decide) ?_
          obtain ⟨p4, hp4, hf⟩ := ax_bind hf
          refine aw_cVi (As := [.int (2 : Int32)]) (st := []) dX6_readCost_131 cl_X6_52 iv_X6_fail (k_X6_fail (Q := (fun v h' => v = some (.int p4.1) ∧ h' = hp p4.2 gb)) (2 : Int32) p3 gb hp4 ⟨rfl, rfl⟩) (ci := 6) rfl (hp_get sh_19) rfl rfl rfl (Nat.le_of_ble_eq_true rfl) rfl (by decide) (by decide) ?_
          obtain ⟨hc1, hf⟩ := ax_ite hf
          cases hf
          exact aw_zret dX6_readCost_134 (ax_nb hc1) hq (Nat.le_refl _) (Nat.le_refl _)
      · have hf := ax_neg hc4 hf
        refine aw_aload_n dX6_readCost_113 rfl rfl ?_
        refine aw_iconst (v := 1) dX6_readCost_114 (by decide) ?_
        obtain ⟨p5, hp5, hf⟩ := ax_bind hf
        refine aw_cVi (As := [.int (1 : Int32)]) (st := []) dX6_readCost_115 cl_X6_52 iv_X6_fail (k_X6_fail (Q := (fun v h' => v = some (.int p5.1) ∧ h' = hp p5.2 gb)) (1 : Int32) p3 gb hp5 ⟨rfl, rfl⟩) (ci := 6) rfl (hp_get sh_19) rfl rfl rfl (Nat.le_of_ble_eq_true rfl) rfl (by decide) (by decide) ?_
        obtain ⟨hc3, hf⟩ := ax_ite hf
        cases hf
        exact aw_zret dX6_readCost_118 (ax_nb hc3) hq (Nat.le_refl _) (Nat.le_refl _)
  have J55 : ∀ (y1_55 : Int32) (s_55 : sx_M), f_X6_readCost_J55 y1_55 s_55 = some p → AW l X RX6 "readCost" cX6_readCost 4 (some .boolean) (ax_rm 6 0 0) (ax_MQ X Q 0 0) 0 0 55 [some (.ref 19), some (.int y1_55), none, none] [] (hp s_55 gb) := by
    intro y1_55 s_55 hf
    unfold f_X6_readCost_J55 at hf
    refine aw_iload_n dX6_readCost_55 rfl rfl ?_
    refine aw_aload_n dX6_readCost_56 rfl rfl ?_
    refine aw_gR dX6_readCost_57 fl_X6_19 sh_19 rfl ?_
    refine aw_gI dX6_readCost_60 fl_X6_59 sh_13 rfl ?_
    refine aw_icmp_lt (tgt := 72) dX6_readCost_63 (by decide) (fun hc8 => ?_) (fun hc8 => ?_)
    · have hf := ax_pos hc8 hf
      refine aw_aload_n dX6_readCost_72 rfl rfl ?_
      refine aw_gI dX6_readCost_73 fl_X6_37 sh_19 rfl ?_
      refine aw_iconst (v := 2) dX6_readCost_76 (by decide) ?_
      refine aw_icmp_ne (tgt := 88) dX6_readCost_77 (by decide) (fun hc6 => ?_) (fun hc6 => ?_)
      · have hf := ax_neg hc6 hf
        refine aw_ldc2 dX6_readCost_88 kc_X6_65 ?_
        exact J91 y1_55 (9223372036854775807 : Int64) s_55 hf
      · have hf := ax_pos hc6 hf
        refine aw_aload_n dX6_readCost_80 rfl rfl ?_
        refine aw_gI dX6_readCost_81 fl_X6_56 sh_19 rfl ?_
        refine aw_i2l dX6_readCost_84 ?_
        refine aw_goto (tgt := 91) dX6_readCost_85 (by decide) ?_
        exact J91 y1_55 (((rI s_55 19 5)).toInt64) s_55 hf
    · have hf := ax_neg hc8 hf
      refine aw_aload_n dX6_readCost_66 rfl rfl ?_
      refine aw_iconst (v := 3) dX6_readCost_67 (by decide) ?_
      obtain ⟨p6, hp6, hf⟩ := ax_bind hf
      refine aw_cVi (As := [.int (3 : Int32)]) (st := []) dX6_readCost_68 cl_X6_52 iv_X6_fail (k_X6_fail (Q := (fun v h' => v = some (.int p6.1) ∧ h' = hp p6.2 gb)) (3 : Int32) s_55 gb hp6 ⟨rfl, rfl⟩) (ci := 6) rfl (hp_get sh_19) rfl rfl rfl (Nat.le_of_ble_eq_true rfl) rfl (by decide) (by decide) ?_
      obtain ⟨hc7, hf⟩ := ax_ite hf
      cases hf
      exact aw_zret dX6_readCost_71 (ax_nb hc7) hq (Nat.le_refl _) (Nat.le_refl _)
  have J31 : ∀ (y1_31 : Int32) (s_31 : sx_M), f_X6_readCost_J31 y1_31 s_31 = some p → AW l X RX6 "readCost" cX6_readCost 4 (some .boolean) (ax_rm 6 0 0) (ax_MQ X Q 0 0) 0 0 31 [some (.ref 19), some (.int y1_31), none, none] [] (hp s_31 gb) := by
    intro y1_31 s_31 hf
    unfold f_X6_readCost_J31 at hf
    refine aw_aload_n dX6_readCost_31 rfl rfl ?_
    refine aw_gI dX6_readCost_32 fl_X6_37 sh_19 rfl ?_
    refine aw_iconst (v := 2) dX6_readCost_35 (by decide) ?_
    refine aw_icmp_ne (tgt := 55) dX6_readCost_36 (by decide) (fun hc11 => ?_) (fun hc11 => ?_)
    · have hf := ax_neg hc11 hf
      exact J55 y1_31 s_31 hf
    · have hf := ax_pos hc11 hf
      refine aw_aload_n dX6_readCost_39 rfl rfl ?_
      refine aw_gI dX6_readCost_40 fl_X6_56 sh_19 rfl ?_
      refine aw_sipush (v := 9999) dX6_readCost_43 (by decide) ?_
      refine aw_icmp_le (tgt := 55) dX6_readCost_46 (by decide) (fun hc10 => ?_) (fun hc10 => ?_)
      · have hf := ax_pos hc10 hf
        exact J55 y1_31 s_31 hf
      · have hf := ax_neg hc10 hf
        refine aw_aload_n dX6_readCost_49 rfl rfl ?_
        refine aw_iconst (v := 2) dX6_readCost_50 (by decide) ?_
        obtain ⟨p7, hp7, hf⟩ := ax_bind hf
        refine aw_cVi (As := [.int (2 : Int32)]) (st := []) dX6_readCost_51 cl_X6_52 iv_X6_fail (k_X6_fail (Q := (fun v h' => v = some (.int p7.1) ∧ h' = hp p7.2 gb)) (2 : Int32) s_31 gb hp7 ⟨rfl, rfl⟩) (ci := 6) rfl (hp_get sh_19) rfl rfl rfl (Nat.le_of_ble_eq_true rfl) rfl (by decide) (by decide) ?_
        obtain ⟨hc9, hf⟩ := ax_ite hf
        cases hf
        exact aw_zret dX6_readCost_54 (ax_nb hc9) hq (Nat.le_refl _) (Nat.le_refl _)
  refine aw_aload_n dX6_readCost_0 rfl rfl ?_
  refine aw_gI dX6_readCost_1 fl_X6_37 sh_19 rfl ?_
  refine aw_iconst (v := 5) dX6_readCost_4 (by decide) ?_
  refine aw_icmp_eq (tgt := 31) dX6_readCost_5 (by decide) (fun hc15 => ?_) (fun hc15 => ?_)
  · have hf := ax_pos hc15 hf
    exact J31 x1 s hf
  · have hf := ax_neg hc15 hf
    refine aw_aload_n dX6_readCost_8 rfl rfl ?_
    refine aw_gI dX6_readCost_9 fl_X6_37 sh_19 rfl ?_
    refine aw_bipush (v := 8) dX6_readCost_12 (by decide) ?_
    refine aw_icmp_eq (tgt := 31) dX6_readCost_14 (by decide) (fun hc14 => ?_) (fun hc14 => ?_)
    · have hf := ax_pos hc14 hf
      exact J31 x1 s hf
    · have hf := ax_neg hc14 hf
      refine aw_aload_n dX6_readCost_17 rfl rfl ?_
      refine aw_gI dX6_readCost_18 fl_X6_37 sh_19 rfl ?_
      refine aw_iconst (v := 2) dX6_readCost_21 (by decide) ?_
      refine aw_icmp_eq (tgt := 31) dX6_readCost_22 (by decide) (fun hc13 => ?_) (fun hc13 => ?_)
      · have hf := ax_pos hc13 hf
        exact J31 x1 s hf
      · have hf := ax_neg hc13 hf
        refine aw_aload_n dX6_readCost_25 rfl rfl ?_
        refine aw_iconst (v := 1) dX6_readCost_26 (by decide) ?_
        obtain ⟨p8, hp8, hf⟩ := ax_bind hf
        refine aw_cVi (As := [.int (1 : Int32)]) (st := []) dX6_readCost_27 cl_X6_52 iv_X6_fail (k_X6_fail (Q := (fun v h' => v = some (.int p8.1) ∧ h' = hp p8.2 gb)) (1 : Int32) s gb hp8 ⟨rfl, rfl⟩) (ci := 6) rfl (hp_get sh_19) rfl rfl rfl (Nat.le_of_ble_eq_true rfl) rfl (by decide) (by decide) ?_
        obtain ⟨hc12, hf⟩ := ax_ite hf
        cases hf
        exact aw_zret dX6_readCost_30 (ax_nb hc12) hq (Nat.le_refl _) (Nat.le_refl _)
noncomputable def f_X6_readWorker_L44 (a44 : Int32 × sx_M) : Option ((Int32 × sx_M) ⊕ ((Int32 × sx_M) ⊕ (Int32 × sx_M))) :=
  (f_X6_step a44.2).bind (fun p2 =>
 (f_X6_readCost a44.1 p2).bind (fun p3 =>
 (if p3.1 = 0 then
 some (.inr (.inr (((0 : Int32), p3.2))))
else
 (if (rI p3.2 19 2) = (7 : Int32) then
 (if (a44.1 + (1 : Int32)) ≤ (8 : Int32) then
 some (.inl ((a44.1 + (1 : Int32)), p3.2))
else
 some (.inr (.inl ((a44.1 + (1 : Int32)), p3.2))))
else
 some (.inr (.inl ((a44.1 + (1 : Int32)), p3.2)))))))
noncomputable def f_X6_readWorker (s : sx_M) : Option (Int32 × sx_M) :=
  (if (rI s 19 2) = (4 : Int32) then
 (if (rI s 13 1) < (7 : Int32) then
 (f_X1_addWorker 13 (9223372036854775807 : Int64) s).bind (fun p1 =>
 (whT (f_X6_readWorker_L44) ((0 : Int32), p1)).bind (fun b4 => (Sum.elim (fun e5 =>
 (if (rI e5.2 19 2) = (6 : Int32) then
 (if (rI e5.2 13 2) ≤ e5.1 then
 (f_X6_step e5.2).bind (fun p6 =>
 some ((1 : Int32), p6))
else
 (f_X6_fail (4 : Int32) e5.2).bind (fun p7 =>
 (if (p7.1 = 0 ∨ p7.1 = 1) then
 some (p7.1, p7.2)
else none)))
else
 (f_X6_fail (1 : Int32) e5.2).bind (fun p8 =>
 (if (p8.1 = 0 ∨ p8.1 = 1) then
 some (p8.1, p8.2)
else none)))) (fun e9 =>
 some e9)) b4))
else
 (f_X6_fail (3 : Int32) s).bind (fun p10 =>
 (if (p10.1 = 0 ∨ p10.1 = 1) then
 some (p10.1, p10.2)
else none)))
else
 (f_X6_fail (1 : Int32) s).bind (fun p11 =>
 (if (p11.1 = 0 ∨ p11.1 = 1) then
 some (p11.1, p11.2)
else none)))
set_option maxRecDepth 100000 in
set_option maxHeartbeats 4000000 in
theorem k_X6_readWorker {l : Launch} {X : ax_X} {Q : Option Value → ax_H → Prop} (s : sx_M) (gb : ax_H) {p : Int32 × sx_M} (hf : f_X6_readWorker s = some p) (hq : Q (some (.int p.1)) (hp p.2 gb)) : AM l X yX6_readWorker cX6_readWorker 2 (some .boolean) 7 0 0 [.ref 19] (hp s gb) Q := by
  refine aw_met (own := RX6) (nm := "readWorker") (L := [some (.ref 19), none]) (by decide +kernel) rfl rfl (And.intro rfl trivial) (Nat.le_of_ble_eq_true rfl) ?_
  unfold f_X6_readWorker at hf
  refine aw_aload_n dX6_readWorker_0 rfl rfl ?_
  refine aw_gI dX6_readWorker_1 fl_X6_37 sh_19 rfl ?_
  refine aw_iconst (v := 4) dX6_readWorker_4 (by decide) ?_
  refine aw_icmp_eq (tgt := 14) dX6_readWorker_5 (by decide) (fun hc11 => ?_) (fun hc11 => ?_)
  · have hf := ax_pos hc11 hf
    refine aw_aload_n dX6_readWorker_14 rfl rfl ?_
    refine aw_gR dX6_readWorker_15 fl_X6_19 sh_19 rfl ?_
    refine aw_gI dX6_readWorker_18 fl_X6_62 sh_13 rfl ?_
    refine aw_bipush (v := 7) dX6_readWorker_21 (by decide) ?_
    refine aw_icmp_lt (tgt := 32) dX6_readWorker_23 (by decide) (fun hc9 => ?_) (fun hc9 => ?_)
    · have hf := ax_pos hc9 hf
      refine aw_aload_n dX6_readWorker_32 rfl rfl ?_
      refine aw_gR dX6_readWorker_33 fl_X6_19 sh_19 rfl ?_
      refine aw_ldc2 dX6_readWorker_36 kc_X6_65 ?_
      obtain ⟨p1, hp1, hf⟩ := ax_bind hf
      refine aw_cVv (As := [.long (9223372036854775807 : Int64)]) (st := []) dX6_readWorker_39 cl_X6_67 iv_X1_addWorker (k_X1_addWorker (Q := (fun v h' => v = none ∧ h' = hp p1 gb)) 13 (9223372036854775807 : Int64) s gb ax_G13 hp1 ⟨rfl, rfl⟩) (ci := 1) rfl (hp_get sh_13) rfl rfl rfl (Nat.le_of_ble_eq_true rfl) rfl (by decide) (by decide) ?_
      refine aw_iconst (v := 0) dX6_readWorker_42 (by decide) ?_
      refine aw_istore_n (L' := [some (.ref 19), some (.int (0 : Int32))]) dX6_readWorker_43 rfl (by decide) rfl ?_
      obtain ⟨b4, hb4, hf⟩ := ax_bind hf
      refine wh_go ((0 : Int32), p1) (fun a44 : Int32 × sx_M => AW l X RX6 "readWorker" cX6_readWorker 2 (some .boolean) (ax_rm 7 0 0) (ax_MQ X Q 0 0) 0 0 44 [some (.ref 19), some (.int a44.1)] [] (hp a44.2 gb)) (Sum.elim (fun e : Int32 × sx_M => AW l X RX6 "readWorker" cX6_readWorker 2 (some .boolean) (ax_rm 7 0 0) (ax_MQ X Q 0 0) 0 0 76 [some (.ref 19), some (.int e.1)] [] (hp e.2 gb)) (fun v : Int32 × sx_M => Q (some (.int v.1)) (hp v.2 gb))) hb4 ?_ ?_
      · intro a44 r hf hK
        unfold f_X6_readWorker_L44 at hf
        refine aw_aload_n dX6_readWorker_44 rfl rfl ?_
        obtain ⟨p2, hp2, hf⟩ := ax_bind hf
        refine aw_cVv (As := []) (st := []) dX6_readWorker_45 cl_X6_34 iv_X6_step (k_X6_step (Q := (fun v h' => v = none ∧ h' = hp p2 gb)) a44.2 gb hp2 ⟨rfl, rfl⟩) (ci := 6) rfl (hp_get sh_19) rfl rfl rfl (Nat.le_of_ble_eq_true rfl) rfl (by decide) (by decide) ?_
        refine aw_aload_n dX6_readWorker_48 rfl rfl ?_
        refine aw_iload_n dX6_readWorker_49 rfl rfl ?_
        obtain ⟨p3, hp3, hf⟩ := ax_bind hf
        refine aw_cVi (As := [.int a44.1]) (st := []) dX6_readWorker_50 cl_X6_71 iv_X6_readCost (k_X6_readCost (Q := (fun v h' => v = some (.int p3.1) ∧ h' = hp p3.2 gb)) a44.1 p2 gb hp3 ⟨rfl, rfl⟩) (ci := 6) rfl (hp_get sh_19) rfl rfl rfl (Nat.le_of_ble_eq_true rfl) rfl (by decide) (by decide) ?_
        refine aw_if_ne (tgt := 58) dX6_readWorker_53 (by decide) (fun hc3 => ?_) (fun hc3 => ?_)
        · have hf := ax_neg hc3 hf
          refine aw_iinc (v := (a44.1 + (1 : Int32))) (L' := [some (.ref 19), some (.int (a44.1 + (1 : Int32)))]) dX6_readWorker_58 rfl rfl (by decide) rfl ?_
          refine aw_aload_n dX6_readWorker_61 rfl rfl ?_
          refine aw_gI dX6_readWorker_62 fl_X6_37 sh_19 rfl ?_
          refine aw_bipush (v := 7) dX6_readWorker_65 (by decide) ?_
          refine aw_icmp_ne (tgt := 76) dX6_readWorker_67 (by decide) (fun hc2 => ?_) (fun hc2 => ?_)
          · have hf := ax_neg hc2 hf
            cases hf
            exact hK
          · have hf := ax_pos hc2 hf
            refine aw_iload_n dX6_readWorker_70 rfl rfl ?_
            refine aw_bipush (v := 8) dX6_readWorker_71 (by decide) ?_
            refine aw_icmp_le (tgt := 44) dX6_readWorker_73 (by decide) (fun hc1 => ?_) (fun hc1 => ?_)
            · have hf := ax_pos hc1 hf
              cases hf
              exact hK
            · have hf := ax_neg hc1 hf
              cases hf
              exact hK
        · have hf := ax_pos hc3 hf
          refine aw_iconst (v := 0) dX6_readWorker_56 (by decide) ?_
          cases hf
          exact aw_zret dX6_readWorker_57 (by decide) hK (Nat.le_refl _) (Nat.le_refl _)
      · rcases b4 with e5 | e9
        · refine aw_aload_n dX6_readWorker_76 rfl rfl ?_
          refine aw_gI dX6_readWorker_77 fl_X6_37 sh_19 rfl ?_
          refine aw_bipush (v := 6) dX6_readWorker_80 (by decide) ?_
          refine aw_icmp_eq (tgt := 91) dX6_readWorker_82 (by decide) (fun hc7 => ?_) (fun hc7 => ?_)
          · have hf := ax_pos hc7 hf
            refine aw_iload_n dX6_readWorker_91 rfl rfl ?_
            refine aw_aload_n dX6_readWorker_92 rfl rfl ?_
            refine aw_gR dX6_readWorker_93 fl_X6_19 sh_19 rfl ?_
            refine aw_gI dX6_readWorker_96 fl_X6_59 sh_13 rfl ?_
            refine aw_icmp_ge (tgt := 108) dX6_readWorker_99 (by decide) (fun hc5 => ?_) (fun hc5 => ?_)
            · have hf := ax_pos hc5 hf
              refine aw_aload_n dX6_readWorker_108 rfl rfl ?_
              obtain ⟨p6, hp6, hf⟩ := ax_bind hf
              refine aw_cVv (As := []) (st := []) dX6_readWorker_109 cl_X6_34 iv_X6_step (k_X6_step (Q := (fun v h' => v = none ∧ h' = hp p6 gb)) e5.2 gb hp6 ⟨rfl, rfl⟩) (ci := 6) rfl (hp_get sh_19) rfl rfl rfl (Nat.le_of_ble_eq_true rfl) rfl (by decide) (by decide) ?_
              refine aw_iconst (v := 1) dX6_readWorker_112 (by decide) ?_
              cases hf
              exact aw_zret dX6_readWorker_113 (by decide) hq (Nat.le_refl _) (Nat.le_refl _)
            · have hf := ax_neg hc5 hf
              refine aw_aload_n dX6_readWorker_102 rfl rfl ?_
              refine aw_iconst (v := 4) dX6_readWorker_103 (by decide) ?_
              obtain ⟨p7, hp7, hf⟩ := ax_bind hf
              refine aw_cVi (As := [.int (4 : Int32)]) (st := []) dX6_readWorker_104 cl_X6_52 iv_X6_fail (k_X6_fail (Q := (fun v h' => v = some (.int p7.1) ∧ h' = hp p7.2 gb)) (4 : Int32) e5.2 gb hp7 ⟨rfl, rfl⟩) (ci := 6) rfl (hp_get sh_19) rfl rfl rfl (Nat.le_of_ble_eq_true rfl) rfl (by decide) (by decide) ?_
              obtain ⟨hc4, hf⟩ := ax_ite hf
              cases hf
              exact aw_zret dX6_readWorker_107 (ax_nb hc4) hq (Nat.le_refl _) (Nat.le_refl _)
          · have hf := ax_neg hc7 hf
            refine aw_aload_n dX6_readWorker_85 rfl rfl ?_
            refine aw_iconst (v := 1) dX6_readWorker_86 (by decide) ?_
            obtain ⟨p8, hp8, hf⟩ := ax_bind hf
            refine aw_cVi (As := [.int (1 : Int32)]) (st := []) dX6_readWorker_87 cl_X6_52 iv_X6_fail (k_X6_fail (Q := (fun v h' => v = some (.int p8.1) ∧ h' = hp p8.2 gb)) (1 : Int32) e5.2 gb hp8 ⟨rfl, rfl⟩) (ci := 6) rfl (hp_get sh_19) rfl rfl rfl (Nat.le_of_ble_eq_true rfl) rfl (by decide) (by decide) ?_
            obtain ⟨hc6, hf⟩ := ax_ite hf
            cases hf
            exact aw_zret dX6_readWorker_90 (ax_nb hc6) hq (Nat.le_refl _) (Nat.le_refl _)
        · cases hf
          exact hq
    · have hf := ax_neg hc9 hf
      refine aw_aload_n dX6_readWorker_26 rfl rfl ?_
      refine aw_iconst (v := 3) dX6_readWorker_27 (by decide) ?_
      obtain ⟨p10, hp10, hf⟩ := ax_bind hf
      refine aw_cVi (As := [.int (3 : Int32)]) (st := []) dX6_readWorker_28 cl_X6_52 iv_X6_fail (k_X6_fail (Q := (fun v h' => v = some (.int p10.1) ∧ h' = hp p10.2 gb)) (3 : Int32) s gb hp10 ⟨rfl, rfl⟩) (ci := 6) rfl (hp_get sh_19) rfl rfl rfl (Nat.le_of_ble_eq_true rfl) rfl (by decide) (by decide) ?_
      obtain ⟨hc8, hf⟩ := ax_ite hf
      cases hf
      exact aw_zret dX6_readWorker_31 (ax_nb hc8) hq (Nat.le_refl _) (Nat.le_refl _)
  · have hf := ax_neg hc11 hf
    refine aw_aload_n dX6_readWorker_8 rfl rfl ?_
    refine aw_iconst (v := 1) dX6_readWorker_9 (by decide) ?_
    obtain ⟨p11, hp11, hf⟩ := ax_bind hf
    refine aw_cVi (As := [.int (1 : Int32)]) (st := []) dX6_readWorker_10 cl_X6_52 iv_X6_fail (k_X6_fail (Q := (fun v h' => v = some (.int p11.1) ∧ h' = hp p11.2 gb)) (1 : Int32) s gb hp11 ⟨rfl, rfl⟩) (ci := 6) rfl (hp_get sh_19) rfl rfl rfl (Nat.le_of_ble_eq_true rfl) rfl (by decide) (by decide) ?_
    obtain ⟨hc10, hf⟩ := ax_ite hf
    cases hf
    exact aw_zret dX6_readWorker_13 (ax_nb hc10) hq (Nat.le_refl _) (Nat.le_refl _)
noncomputable def f_X6_read_L42 (a42 : Int32 × Int32 × sx_M) : Option ((Int32 × Int32 × sx_M) ⊕ (Int32 × sx_M)) :=
  (if a42.1 = 0 then
 some (.inr (a42.1, a42.2.2))
else
 (if (rI a42.2.2 19 2) = 0 then
 some (.inr (a42.1, a42.2.2))
else
 (if (600 : Int32) ≤ a42.2.1 then
 some (.inr (a42.1, a42.2.2))
else
 (f_X6_readWorker a42.2.2).bind (fun p4 =>
 some (.inl (p4.1, (a42.2.1 + (1 : Int32)), p4.2))))))
noncomputable def f_X6_read (s : sx_M) : Option (Int32 × sx_M) :=
  (f_X1_clear 13 s).bind (fun p1 =>
 (f_X6_step (wI (wI (wI p1 19 6 (0 : Int32)) 19 7 (-1 : Int32)) 19 4 (0 : Int32))).bind (fun p2 =>
 (if (rI p2 19 2) = 0 then
 some ((1 : Int32), p2)
else
 (f_X6_readJobs p2).bind (fun p3 =>
 (whT (f_X6_read_L42) (p3.1, (0 : Int32), p3.2)).bind (fun b5 =>
 (if (b5.1 = 0 ∨ b5.1 = 1) then
 some (b5.1, b5.2)
else none))))))
set_option maxRecDepth 100000 in
set_option maxHeartbeats 4000000 in
theorem k_X6_read {l : Launch} {X : ax_X} {Q : Option Value → ax_H → Prop} (s : sx_M) (gb : ax_H) {p : Int32 × sx_M} (hf : f_X6_read s = some p) (hq : Q (some (.int p.1)) (hp p.2 gb)) : AM l X yX6_read cX6_read 3 (some .boolean) 8 0 0 [.ref 19] (hp s gb) Q := by
  refine aw_met (own := RX6) (nm := "read") (L := [some (.ref 19), none, none]) (by decide +kernel) rfl rfl (And.intro rfl trivial) (Nat.le_of_ble_eq_true rfl) ?_
  unfold f_X6_read at hf
  refine aw_aload_n dX6_read_0 rfl rfl ?_
  refine aw_gR dX6_read_1 fl_X6_19 sh_19 rfl ?_
  obtain ⟨p1, hp1, hf⟩ := ax_bind hf
  refine aw_cVv (As := []) (st := []) dX6_read_4 cl_X6_23 iv_X1_clear (k_X1_clear (Q := (fun v h' => v = none ∧ h' = hp p1 gb)) 13 s gb ax_G13 hp1 ⟨rfl, rfl⟩) (ci := 1) rfl (hp_get sh_13) rfl rfl rfl (Nat.le_of_ble_eq_true rfl) rfl (by decide) (by decide) ?_
  refine aw_aload_n dX6_read_7 rfl rfl ?_
  refine aw_iconst (v := 0) dX6_read_8 (by decide) ?_
  refine aw_pI dX6_read_9 fp_X6_28 sh_19 rfl rfl rfl ?_
  refine aw_aload_n dX6_read_12 rfl rfl ?_
  refine aw_iconst (v := -1) dX6_read_13 (by decide) ?_
  refine aw_pI dX6_read_14 fp_X6_9 sh_19 rfl rfl rfl ?_
  refine aw_aload_n dX6_read_17 rfl rfl ?_
  refine aw_iconst (v := 0) dX6_read_18 (by decide) ?_
  refine aw_pI dX6_read_19 fp_X6_31 sh_19 rfl rfl rfl ?_
  refine aw_aload_n dX6_read_22 rfl rfl ?_
  obtain ⟨p2, hp2, hf⟩ := ax_bind hf
  refine aw_cVv (As := []) (st := []) dX6_read_23 cl_X6_34 iv_X6_step (k_X6_step (Q := (fun v h' => v = none ∧ h' = hp p2 gb)) (wI (wI (wI p1 19 6 (0 : Int32)) 19 7 (-1 : Int32)) 19 4 (0 : Int32)) gb hp2 ⟨rfl, rfl⟩) (ci := 6) rfl (hp_get sh_19) rfl rfl rfl (Nat.le_of_ble_eq_true rfl) rfl (by decide) (by decide) ?_
  refine aw_aload_n dX6_read_26 rfl rfl ?_
  refine aw_gI dX6_read_27 fl_X6_37 sh_19 rfl ?_
  refine aw_if_ne (tgt := 35) dX6_read_30 (by decide) (fun hc5 => ?_) (fun hc5 => ?_)
  · have hf := ax_neg hc5 hf
    refine aw_aload_n dX6_read_35 rfl rfl ?_
    obtain ⟨p3, hp3, hf⟩ := ax_bind hf
    refine aw_cVi (As := []) (st := []) dX6_read_36 cl_X6_40 iv_X6_readJobs (k_X6_readJobs (Q := (fun v h' => v = some (.int p3.1) ∧ h' = hp p3.2 gb)) p2 gb hp3 ⟨rfl, rfl⟩) (ci := 6) rfl (hp_get sh_19) rfl rfl rfl (Nat.le_of_ble_eq_true rfl) rfl (by decide) (by decide) ?_
    refine aw_istore_n (L' := [some (.ref 19), some (.int p3.1), none]) dX6_read_39 rfl (by decide) rfl ?_
    refine aw_iconst (v := 0) dX6_read_40 (by decide) ?_
    refine aw_istore_n (L' := [some (.ref 19), some (.int p3.1), some (.int (0 : Int32))]) dX6_read_41 rfl (by decide) rfl ?_
    obtain ⟨b5, hb5, hf⟩ := ax_bind hf
    refine wh_go (p3.1, (0 : Int32), p3.2) (fun a42 : Int32 × Int32 × sx_M => AW l X RX6 "read" cX6_read 3 (some .boolean) (ax_rm 8 0 0) (ax_MQ X Q 0 0) 0 0 42 [some (.ref 19), some (.int a42.1), some (.int a42.2.1)] [] (hp a42.2.2 gb)) (fun e : Int32 × sx_M => AW l X RX6 "read" cX6_read 3 (some .boolean) (ax_rm 8 0 0) (ax_MQ X Q 0 0) 0 0 71 [none, some (.int e.1), none] [] (hp e.2 gb)) hb5 ?_ ?_
    · intro a42 r hf hK
      unfold f_X6_read_L42 at hf
      refine aw_iload_n dX6_read_42 rfl rfl ?_
      refine aw_if_eq (tgt := 71) dX6_read_43 (by decide) (fun hc3 => ?_) (fun hc3 => ?_)
      · have hf := ax_pos hc3 hf
        refine aw_less (L' := [none, some (.int a42.1), none]) (And.intro rfl trivial) ?_
        cases hf
        exact hK
      · have hf := ax_neg hc3 hf
        refine aw_aload_n dX6_read_46 rfl rfl ?_
        refine aw_gI dX6_read_47 fl_X6_37 sh_19 rfl ?_
        refine aw_if_eq (tgt := 71) dX6_read_50 (by decide) (fun hc2 => ?_) (fun hc2 => ?_)
        · have hf := ax_pos hc2 hf
          refine aw_less (L' := [none, some (.int a42.1), none]) (And.intro rfl trivial) ?_
          cases hf
          exact hK
        · have hf := ax_neg hc2 hf
          refine aw_iload_n dX6_read_53 rfl rfl ?_
          refine aw_sipush (v := 600) dX6_read_54 (by decide) ?_
          refine aw_icmp_ge (tgt := 71) dX6_read_57 (by decide) (fun hc1 => ?_) (fun hc1 => ?_)
          · have hf := ax_pos hc1 hf
            refine aw_less (L' := [none, some (.int a42.1), none]) (And.intro rfl trivial) ?_
            cases hf
            exact hK
          · have hf := ax_neg hc1 hf
            refine aw_aload_n dX6_read_60 rfl rfl ?_
            obtain ⟨p4, hp4, hf⟩ := ax_bind hf
            refine aw_cVi (As := []) (st := []) dX6_read_61 cl_X6_46 iv_X6_readWorker (k_X6_readWorker (Q := (fun v h' => v = some (.int p4.1) ∧ h' = hp p4.2 gb)) a42.2.2 gb hp4 ⟨rfl, rfl⟩) (ci := 6) rfl (hp_get sh_19) rfl rfl rfl (Nat.le_of_ble_eq_true rfl) rfl (by decide) (by decide) ?_
            refine aw_istore_n (L' := [some (.ref 19), some (.int p4.1), some (.int a42.2.1)]) dX6_read_64 rfl (by decide) rfl ?_
            refine aw_iinc (v := (a42.2.1 + (1 : Int32))) (L' := [some (.ref 19), some (.int p4.1), some (.int (a42.2.1 + (1 : Int32)))]) dX6_read_65 rfl rfl (by decide) rfl ?_
            refine aw_goto (tgt := 42) dX6_read_68 (by decide) ?_
            cases hf
            exact hK
    · refine aw_iload_n dX6_read_71 rfl rfl ?_
      obtain ⟨hc4, hf⟩ := ax_ite hf
      cases hf
      exact aw_zret dX6_read_72 (ax_nb hc4) hq (Nat.le_refl _) (Nat.le_refl _)
  · have hf := ax_pos hc5 hf
    refine aw_iconst (v := 1) dX6_read_33 (by decide) ?_
    cases hf
    exact aw_zret dX6_read_34 (by decide) hq (Nat.le_refl _) (Nat.le_refl _)
