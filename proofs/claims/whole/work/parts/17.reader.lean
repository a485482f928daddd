noncomputable def f_X6_isBlank (x0 : Int32) (s : sx_M) : Option (Int32 × sx_M) :=
  (if x0 = (32 : Int32) then
 some ((1 : Int32), s)
else
 (if x0 = (10 : Int32) then
 some ((1 : Int32), s)
else
 some ((0 : Int32), s)))
set_option maxRecDepth 100000 in
set_option maxHeartbeats 4000000 in
theorem k_X6_isBlank {l : Launch} {X : ax_X} {Q : Option Value → ax_H → Prop} (x0 : Int32) (s : sx_M) (gb : ax_H) {p : Int32 × sx_M} (hf : f_X6_isBlank x0 s = some p) (hq : Q (some (.int p.1)) (hp p.2 gb)) : AM l X yX6_isBlank cX6_isBlank 1 (some .boolean) 0 0 0 [.int x0] (hp s gb) Q := by
  refine aw_met (own := RX6) (nm := "isBlank") (L := [some (.int x0)]) (by decide +kernel) rfl rfl (And.intro rfl trivial) (Nat.le_of_ble_eq_true rfl) ?_
  unfold f_X6_isBlank at hf
  refine aw_iload_n dX6_isBlank_0 rfl rfl ?_
  refine aw_bipush (v := 32) dX6_isBlank_1 (by decide) ?_
  refine aw_icmp_eq (tgt := 12) dX6_isBlank_3 (by decide) (fun hc2 => ?_) (fun hc2 => ?_)
  · have hf := ax_pos hc2 hf
    refine aw_iconst (v := 1) dX6_isBlank_12 (by decide) ?_
    refine aw_goto (tgt := 17) dX6_isBlank_13 (by decide) ?_
    cases hf
    exact aw_zret dX6_isBlank_17 (by decide) hq (Nat.le_refl _) (Nat.le_refl _)
  · have hf := ax_neg hc2 hf
    refine aw_iload_n dX6_isBlank_6 rfl rfl ?_
    refine aw_bipush (v := 10) dX6_isBlank_7 (by decide) ?_
    refine aw_icmp_ne (tgt := 16) dX6_isBlank_9 (by decide) (fun hc1 => ?_) (fun hc1 => ?_)
    · have hf := ax_neg hc1 hf
      refine aw_iconst (v := 0) dX6_isBlank_16 (by decide) ?_
      cases hf
      exact aw_zret dX6_isBlank_17 (by decide) hq (Nat.le_refl _) (Nat.le_refl _)
    · have hf := ax_pos hc1 hf
      refine aw_iconst (v := 1) dX6_isBlank_12 (by decide) ?_
      refine aw_goto (tgt := 17) dX6_isBlank_13 (by decide) ?_
      cases hf
      exact aw_zret dX6_isBlank_17 (by decide) hq (Nat.le_refl _) (Nat.le_refl _)
noncomputable def f_X6_isDigit (x0 : Int32) (s : sx_M) : Option (Int32 × sx_M) :=
  (if x0 < (48 : Int32) then
 some ((0 : Int32), s)
else
 (if (57 : Int32) < x0 then
 some ((0 : Int32), s)
else
 some ((1 : Int32), s)))
set_option maxRecDepth 100000 in
set_option maxHeartbeats 4000000 in
theorem k_X6_isDigit {l : Launch} {X : ax_X} {Q : Option Value → ax_H → Prop} (x0 : Int32) (s : sx_M) (gb : ax_H) {p : Int32 × sx_M} (hf : f_X6_isDigit x0 s = some p) (hq : Q (some (.int p.1)) (hp p.2 gb)) : AM l X yX6_isDigit cX6_isDigit 1 (some .boolean) 0 0 0 [.int x0] (hp s gb) Q := by
  refine aw_met (own := RX6) (nm := "isDigit") (L := [some (.int x0)]) (by decide +kernel) rfl rfl (And.intro rfl trivial) (Nat.le_of_ble_eq_true rfl) ?_
  unfold f_X6_isDigit at hf
  refine aw_iload_n dX6_isDigit_0 rfl rfl ?_
  refine aw_bipush (v := 48) dX6_isDigit_1 (by decide) ?_
  refine aw_icmp_lt (tgt := 16) dX6_isDigit_3 (by decide) (fun hc2 => ?_) (fun hc2 => ?_)
  · have hf := ax_pos hc2 hf
    refine aw_iconst (v := 0) dX6_isDigit_16 (by decide) ?_
    cases hf
    exact aw_zret dX6_isDigit_17 (by decide) hq (Nat.le_refl _) (Nat.le_refl _)
  · have hf := ax_neg hc2 hf
    refine aw_iload_n dX6_isDigit_6 rfl rfl ?_
    refine aw_bipush (v := 57) dX6_isDigit_7 (by decide) ?_
    refine aw_icmp_gt (tgt := 16) dX6_isDigit_9 (by decide) (fun hc1 => ?_) (fun hc1 => ?_)
    · have hf := ax_pos hc1 hf
      refine aw_iconst (v := 0) dX6_isDigit_16 (by decide) ?_
      cases hf
      exact aw_zret dX6_isDigit_17 (by decide) hq (Nat.le_refl _) (Nat.le_refl _)
    · have hf := ax_neg hc1 hf
      refine aw_iconst (v := 1) dX6_isDigit_12 (by decide) ?_
      refine aw_goto (tgt := 17) dX6_isDigit_13 (by decide) ?_
      cases hf
      exact aw_zret dX6_isDigit_17 (by decide) hq (Nat.le_refl _) (Nat.le_refl _)
noncomputable def f_X6_stepOverNumber_L13 (a13 : sx_M) : Option ((sx_M) ⊕ (sx_M)) :=
  (if (rI a13 1 1) ≤ (rI a13 19 4) then
 some (.inr a13)
else
 (f_X9_at (rI a13 19 4) a13).bind (fun p1 =>
 (f_X6_isDigit p1.1 p1.2).bind (fun p2 =>
 (if p2.1 = 0 then
 some (.inr p2.2)
else
 (f_X9_at (rI p2.2 19 4) p2.2).bind (fun p3 =>
 (f_J9_min_7cf53 ((((rI p2.2 19 5) * (10 : Int32)) + p3.1) - (48 : Int32)) (10000 : Int32) p3.2).bind (fun p4 =>
 some (.inl (wI (wI p4.2 19 5 p4.1) 19 4 ((rI (wI p4.2 19 5 p4.1) 19 4) + (1 : Int32))))))))))
noncomputable def f_X6_stepOverNumber (s : sx_M) : Option sx_M :=
  (whT (f_X6_stepOverNumber_L13) (wI (wI s 19 5 (0 : Int32)) 19 4 (rI (wI s 19 5 (0 : Int32)) 19 3))).bind (fun b5 =>
 some b5)
set_option maxRecDepth 100000 in
set_option maxHeartbeats 4000000 in
theorem k_X6_stepOverNumber {l : Launch} {X : ax_X} {Q : Option Value → ax_H → Prop} (s : sx_M) (gb : ax_H) {p : sx_M} (hf : f_X6_stepOverNumber s = some p) (hq : Q (none) (hp p gb)) : AM l X yX6_stepOverNumber cX6_stepOverNumber 1 none 1 0 0 [.ref 19] (hp s gb) Q := by
  refine aw_met (own := RX6) (nm := "stepOverNumber") (L := [some (.ref 19)]) (by decide +kernel) rfl rfl (And.intro rfl trivial) (Nat.le_of_ble_eq_true rfl) ?_
  unfold f_X6_stepOverNumber at hf
  refine aw_aload_n dX6_stepOverNumber_0 rfl rfl ?_
  refine aw_iconst (v := 0) dX6_stepOverNumber_1 (by decide) ?_
  refine aw_pI dX6_stepOverNumber_2 fp_X6_56 sh_19 rfl rfl rfl ?_
  refine aw_aload_n dX6_stepOverNumber_5 rfl rfl ?_
  refine aw_aload_n dX6_stepOverNumber_6 rfl rfl ?_
  refine aw_gI dX6_stepOverNumber_7 fl_X6_49 sh_19 rfl ?_
  refine aw_pI dX6_stepOverNumber_10 fp_X6_31 sh_19 rfl rfl rfl ?_
  obtain ⟨b5, hb5, hf⟩ := ax_bind hf
  refine wh_go (wI (wI s 19 5 (0 : Int32)) 19 4 (rI (wI s 19 5 (0 : Int32)) 19 3)) (fun a13 : sx_M => AW l X RX6 "stepOverNumber" cX6_stepOverNumber 1 none (ax_rm 1 0 0) (ax_MQ X Q 0 0) 0 0 13 [some (.ref 19)] [] (hp a13 gb)) (fun e : sx_M => AW l X RX6 "stepOverNumber" cX6_stepOverNumber 1 none (ax_rm 1 0 0) (ax_MQ X Q 0 0) 0 0 89 [none] [] (hp e gb)) hb5 ?_ ?_
  · intro a13 r hf hK
    unfold f_X6_stepOverNumber_L13 at hf
    refine aw_aload_n dX6_stepOverNumber_13 rfl rfl ?_
    refine aw_gI dX6_stepOverNumber_14 fl_X6_31 sh_19 rfl ?_
    refine aw_aload_n dX6_stepOverNumber_17 rfl rfl ?_
    refine aw_gR dX6_stepOverNumber_18 fl_X6_15 sh_19 rfl ?_
    refine aw_gI dX6_stepOverNumber_21 fl_X6_78 sh_1 rfl ?_
    refine aw_icmp_ge (tgt := 89) dX6_stepOverNumber_24 (by decide) (fun hc2 => ?_) (fun hc2 => ?_)
    · have hf := ax_pos hc2 hf
      refine aw_less (L' := [none]) trivial ?_
      cases hf
      exact hK
    · have hf := ax_neg hc2 hf
      refine aw_aload_n dX6_stepOverNumber_27 rfl rfl ?_
      refine aw_gR dX6_stepOverNumber_28 fl_X6_15 sh_19 rfl ?_
      refine aw_aload_n dX6_stepOverNumber_31 rfl rfl ?_
      refine aw_gI dX6_stepOverNumber_32 fl_X6_31 sh_19 rfl ?_
      obtain ⟨p1, hp1, hf⟩ := ax_bind hf
      refine aw_cVi (As := [.int (rI a13 19 4)]) (st := []) dX6_stepOverNumber_35 cl_X6_81 iv_X9_at (k_X9_at (Q := (fun v h' => v = some (.int p1.1) ∧ h' = hp p1.2 gb)) (rI a13 19 4) a13 gb hp1 ⟨rfl, rfl⟩) (ci := 9) rfl (hp_get sh_1) rfl rfl rfl (Nat.le_of_ble_eq_true rfl) rfl (by decide) (by decide) ?_
      obtain ⟨p2, hp2, hf⟩ := ax_bind hf
      refine aw_cSi (As := [.int p1.1]) (st := []) dX6_stepOverNumber_38 cl_X6_88 st_X6_isDigit (k_X6_isDigit (Q := (fun v h' => v = some (.int p2.1) ∧ h' = hp p2.2 gb)) p1.1 p1.2 gb hp2 ⟨rfl, rfl⟩) rfl rfl (Nat.le_of_ble_eq_true rfl) rfl (by decide) (by decide) ?_
      refine aw_if_eq (tgt := 89) dX6_stepOverNumber_41 (by decide) (fun hc1 => ?_) (fun hc1 => ?_)
      · have hf := ax_pos hc1 hf
        refine aw_less (L' := [none]) trivial ?_
        cases hf
        exact hK
      · have hf := ax_neg hc1 hf
        refine aw_aload_n dX6_stepOverNumber_44 rfl rfl ?_
        refine aw_aload_n dX6_stepOverNumber_45 rfl rfl ?_
        refine aw_gI dX6_stepOverNumber_46 fl_X6_56 sh_19 rfl ?_
        refine aw_bipush (v := 10) dX6_stepOverNumber_49 (by decide) ?_
        refine aw_imul dX6_stepOverNumber_51 ?_
        refine aw_aload_n dX6_stepOverNumber_52 rfl rfl ?_
        refine aw_gR dX6_stepOverNumber_53 fl_X6_15 sh_19 rfl ?_
        refine aw_aload_n dX6_stepOverNumber_56 rfl rfl ?_
        refine aw_gI dX6_stepOverNumber_57 fl_X6_31 sh_19 rfl ?_
        obtain ⟨p3, hp3, hf⟩ := ax_bind hf
        refine aw_cVi (As := [.int (rI p2.2 19 4)]) (st := [.int ((rI p2.2 19 5) * (10 : Int32)), .ref 19]) dX6_stepOverNumber_60 cl_X6_81 iv_X9_at (k_X9_at (Q := (fun v h' => v = some (.int p3.1) ∧ h' = hp p3.2 gb)) (rI p2.2 19 4) p2.2 gb hp3 ⟨rfl, rfl⟩) (ci := 9) rfl (hp_get sh_1) rfl rfl rfl (Nat.le_of_ble_eq_true rfl) rfl (by decide) (by decide) ?_
        refine aw_iadd dX6_stepOverNumber_63 ?_
        refine aw_bipush (v := 48) dX6_stepOverNumber_64 (by decide) ?_
        refine aw_isub dX6_stepOverNumber_66 ?_
        refine aw_sipush (v := 10000) dX6_stepOverNumber_67 (by decide) ?_
        obtain ⟨p4, hp4, hf⟩ := ax_bind hf
        refine aw_cSi (As := [.int ((((rI p2.2 19 5) * (10 : Int32)) + p3.1) - (48 : Int32)), .int (10000 : Int32)]) (st := [.ref 19]) dX6_stepOverNumber_70 cl_X6_112 st_J9_min_7cf53 (k_J9_min_7cf53 (Q := (fun v h' => v = some (.int p4.1) ∧ h' = hp p4.2 gb)) ((((rI p2.2 19 5) * (10 : Int32)) + p3.1) - (48 : Int32)) (10000 : Int32) p3.2 gb hp4 ⟨rfl, rfl⟩) rfl rfl (Nat.le_of_ble_eq_true rfl) rfl (by decide) (by decide) ?_
        refine aw_pI dX6_stepOverNumber_73 fp_X6_56 sh_19 rfl rfl rfl ?_
        refine aw_aload_n dX6_stepOverNumber_76 rfl rfl ?_
        refine aw_dup dX6_stepOverNumber_77 rfl ?_
        refine aw_gI dX6_stepOverNumber_78 fl_X6_31 sh_19 rfl ?_
        refine aw_iconst (v := 1) dX6_stepOverNumber_81 (by decide) ?_
        refine aw_iadd dX6_stepOverNumber_82 ?_
        refine aw_pI dX6_stepOverNumber_83 fp_X6_31 sh_19 rfl rfl rfl ?_
        refine aw_goto (tgt := 13) dX6_stepOverNumber_86 (by decide) ?_
        cases hf
        exact hK
  · cases hf
    exact aw_vret dX6_stepOverNumber_89 hq (Nat.le_refl _) (Nat.le_refl _)
noncomputable def f_X6_isLetter (x0 : Int32) (s : sx_M) : Option (Int32 × sx_M) :=
  (if x0 < (97 : Int32) then
 some ((0 : Int32), s)
else
 (if (122 : Int32) < x0 then
 some ((0 : Int32), s)
else
 some ((1 : Int32), s)))
set_option maxRecDepth 100000 in
set_option maxHeartbeats 4000000 in
theorem k_X6_isLetter {l : Launch} {X : ax_X} {Q : Option Value → ax_H → Prop} (x0 : Int32) (s : sx_M) (gb : ax_H) {p : Int32 × sx_M} (hf : f_X6_isLetter x0 s = some p) (hq : Q (some (.int p.1)) (hp p.2 gb)) : AM l X yX6_isLetter cX6_isLetter 1 (some .boolean) 0 0 0 [.int x0] (hp s gb) Q := by
  refine aw_met (own := RX6) (nm := "isLetter") (L := [some (.int x0)]) (by decide +kernel) rfl rfl (And.intro rfl trivial) (Nat.le_of_ble_eq_true rfl) ?_
  unfold f_X6_isLetter at hf
  refine aw_iload_n dX6_isLetter_0 rfl rfl ?_
  refine aw_bipush (v := 97) dX6_isLetter_1 (by decide) ?_
  refine aw_icmp_lt (tgt := 16) dX6_isLetter_3 (by decide) (fun hc2 => ?_) (fun hc2 => ?_)
  · have hf := ax_pos hc2 hf
    refine aw_iconst (v := 0) dX6_isLetter_16 (by decide) ?_
    cases hf
    exact aw_zret dX6_isLetter_17 (by decide) hq (Nat.le_refl _) (Nat.le_refl _)
  · have hf := ax_neg hc2 hf
    refine aw_iload_n dX6_isLetter_6 rfl rfl ?_
    refine aw_bipush (v := 122) dX6_isLetter_7 (by decide) ?_
    refine aw_icmp_gt (tgt := 16) dX6_isLetter_9 (by decide) (fun hc1 => ?_) (fun hc1 => ?_)
    · have hf := ax_pos hc1 hf
      refine aw_iconst (v := 0) dX6_isLetter_16 (by decide) ?_
      cases hf
      exact aw_zret dX6_isLetter_17 (by decide) hq (Nat.le_refl _) (Nat.le_refl _)
    · have hf := ax_neg hc1 hf
      refine aw_iconst (v := 1) dX6_isLetter_12 (by decide) ?_
      refine aw_goto (tgt := 17) dX6_isLetter_13 (by decide) ?_
      cases hf
      exact aw_zret dX6_isLetter_17 (by decide) hq (Nat.le_refl _) (Nat.le_refl _)
noncomputable def f_X6_stepOverWord_L0 (a0 : sx_M) : Option ((sx_M) ⊕ (sx_M)) :=
  (if (rI a0 1 1) ≤ (rI a0 19 4) then
 some (.inr a0)
else
 (f_X9_at (rI a0 19 4) a0).bind (fun p1 =>
 (f_X6_isLetter p1.1 p1.2).bind (fun p2 =>
 (if p2.1 = 0 then
 some (.inr p2.2)
else
 some (.inl (wI p2.2 19 4 ((rI p2.2 19 4) + (1 : Int32))))))))
noncomputable def f_X6_stepOverWord (s : sx_M) : Option sx_M :=
  (whT (f_X6_stepOverWord_L0) s).bind (fun b3 =>
 some b3)
set_option maxRecDepth 100000 in
set_option maxHeartbeats 4000000 in
theorem k_X6_stepOverWord {l : Launch} {X : ax_X} {Q : Option Value → ax_H → Prop} (s : sx_M) (gb : ax_H) {p : sx_M} (hf : f_X6_stepOverWord s = some p) (hq : Q (none) (hp p gb)) : AM l X yX6_stepOverWord cX6_stepOverWord 1 none 1 0 0 [.ref 19] (hp s gb) Q := by
  refine aw_met (own := RX6) (nm := "stepOverWord") (L := [some (.ref 19)]) (by decide +kernel) rfl rfl (And.intro rfl trivial) (Nat.le_of_ble_eq_true rfl) ?_
  unfold f_X6_stepOverWord at hf
  obtain ⟨b3, hb3, hf⟩ := ax_bind hf
  refine wh_go s (fun a0 : sx_M => AW l X RX6 "stepOverWord" cX6_stepOverWord 1 none (ax_rm 1 0 0) (ax_MQ X Q 0 0) 0 0 0 [some (.ref 19)] [] (hp a0 gb)) (fun e : sx_M => AW l X RX6 "stepOverWord" cX6_stepOverWord 1 none (ax_rm 1 0 0) (ax_MQ X Q 0 0) 0 0 44 [none] [] (hp e gb)) hb3 ?_ ?_
  · intro a0 r hf hK
    unfold f_X6_stepOverWord_L0 at hf
    refine aw_aload_n dX6_stepOverWord_0 rfl rfl ?_
    refine aw_gI dX6_stepOverWord_1 fl_X6_31 sh_19 rfl ?_
    refine aw_aload_n dX6_stepOverWord_4 rfl rfl ?_
    refine aw_gR dX6_stepOverWord_5 fl_X6_15 sh_19 rfl ?_
    refine aw_gI dX6_stepOverWord_8 fl_X6_78 sh_1 rfl ?_
    refine aw_icmp_ge (tgt := 44) dX6_stepOverWord_11 (by decide) (fun hc2 => ?_) (fun hc2 => ?_)
    · have hf := ax_pos hc2 hf
      refine aw_less (L' := [none]) trivial ?_
      cases hf
      exact hK
    · have hf := ax_neg hc2 hf
      refine aw_aload_n dX6_stepOverWord_14 rfl rfl ?_
      refine aw_gR dX6_stepOverWord_15 fl_X6_15 sh_19 rfl ?_
      refine aw_aload_n dX6_stepOverWord_18 rfl rfl ?_
      refine aw_gI dX6_stepOverWord_19 fl_X6_31 sh_19 rfl ?_
      obtain ⟨p1, hp1, hf⟩ := ax_bind hf
      refine aw_cVi (As := [.int (rI a0 19 4)]) (st := []) dX6_stepOverWord_22 cl_X6_81 iv_X9_at (k_X9_at (Q := (fun v h' => v = some (.int p1.1) ∧ h' = hp p1.2 gb)) (rI a0 19 4) a0 gb hp1 ⟨rfl, rfl⟩) (ci := 9) rfl (hp_get sh_1) rfl rfl rfl (Nat.le_of_ble_eq_true rfl) rfl (by decide) (by decide) ?_
      obtain ⟨p2, hp2, hf⟩ := ax_bind hf
      refine aw_cSi (As := [.int p1.1]) (st := []) dX6_stepOverWord_25 cl_X6_94 st_X6_isLetter (k_X6_isLetter (Q := (fun v h' => v = some (.int p2.1) ∧ h' = hp p2.2 gb)) p1.1 p1.2 gb hp2 ⟨rfl, rfl⟩) rfl rfl (Nat.le_of_ble_eq_true rfl) rfl (by decide) (by decide) ?_
      refine aw_if_eq (tgt := 44) dX6_stepOverWord_28 (by decide) (fun hc1 => ?_) (fun hc1 => ?_)
      · have hf := ax_pos hc1 hf
        refine aw_less (L' := [none]) trivial ?_
        cases hf
        exact hK
      · have hf := ax_neg hc1 hf
        refine aw_aload_n dX6_stepOverWord_31 rfl rfl ?_
        refine aw_dup dX6_stepOverWord_32 rfl ?_
        refine aw_gI dX6_stepOverWord_33 fl_X6_31 sh_19 rfl ?_
        refine aw_iconst (v := 1) dX6_stepOverWord_36 (by decide) ?_
        refine aw_iadd dX6_stepOverWord_37 ?_
        refine aw_pI dX6_stepOverWord_38 fp_X6_31 sh_19 rfl rfl rfl ?_
        refine aw_goto (tgt := 0) dX6_stepOverWord_41 (by decide) ?_
        cases hf
        exact hK
  · cases hf
    exact aw_vret dX6_stepOverWord_44 hq (Nat.le_refl _) (Nat.le_refl _)
noncomputable def f_X6_kindOfSign (x0 : Int32) (s : sx_M) : Option (Int32 × sx_M) :=
  (if x0 = (-1 : Int32) then
 some ((0 : Int32), s)
else
 (if x0 = (44 : Int32) then
 some ((7 : Int32), s)
else
 (if x0 = (45 : Int32) then
 some ((8 : Int32), s)
else
 (if x0 = (59 : Int32) then
 some ((6 : Int32), s)
else
 some ((1 : Int32), s)))))
set_option maxRecDepth 100000 in
set_option maxHeartbeats 4000000 in
theorem k_X6_kindOfSign {l : Launch} {X : ax_X} {Q : Option Value → ax_H → Prop} (x0 : Int32) (s : sx_M) (gb : ax_H) {p : Int32 × sx_M} (hf : f_X6_kindOfSign x0 s = some p) (hq : Q (some (.int p.1)) (hp p.2 gb)) : AM l X yX6_kindOfSign cX6_kindOfSign 1 (some .int) 0 0 0 [.int x0] (hp s gb) Q := by
  refine aw_met (own := RX6) (nm := "kindOfSign") (L := [some (.int x0)]) (by decide +kernel) rfl rfl (And.intro rfl trivial) (Nat.le_of_ble_eq_true rfl) ?_
  unfold f_X6_kindOfSign at hf
  refine aw_iload_n dX6_kindOfSign_0 rfl rfl ?_
  by_cases hc1 : x0 = (-1 : Int32)
  · have hf := ax_pos hc1 hf
    refine aw_lookup (tgt := 44) dX6_kindOfSign_1 (by decide) (by rw [hc1]) (by decide) ?_
    refine aw_iconst (v := 0) dX6_kindOfSign_44 (by decide) ?_
    cases hf
    exact aw_iret dX6_kindOfSign_45 hq (Nat.le_refl _) (Nat.le_refl _)
  have hf := ax_neg hc1 hf
  by_cases hc2 : x0 = (44 : Int32)
  · have hf := ax_pos hc2 hf
    refine aw_lookup (tgt := 49) dX6_kindOfSign_1 (by decide) (by rw [hc2]) (by decide) ?_
    refine aw_bipush (v := 7) dX6_kindOfSign_49 (by decide) ?_
    cases hf
    exact aw_iret dX6_kindOfSign_51 hq (Nat.le_refl _) (Nat.le_refl _)
  have hf := ax_neg hc2 hf
  by_cases hc3 : x0 = (45 : Int32)
  · have hf := ax_pos hc3 hf
    refine aw_lookup (tgt := 52) dX6_kindOfSign_1 (by decide) (by rw [hc3]) (by decide) ?_
    refine aw_bipush (v := 8) dX6_kindOfSign_52 (by decide) ?_
    cases hf
    exact aw_iret dX6_kindOfSign_54 hq (Nat.le_refl _) (Nat.le_refl _)
  have hf := ax_neg hc3 hf
  by_cases hc4 : x0 = (59 : Int32)
  · have hf := ax_pos hc4 hf
    refine aw_lookup (tgt := 46) dX6_kindOfSign_1 (by decide) (by rw [hc4]) (by decide) ?_
    refine aw_bipush (v := 6) dX6_kindOfSign_46 (by decide) ?_
    cases hf
    exact aw_iret dX6_kindOfSign_48 hq (Nat.le_refl _) (Nat.le_refl _)
  have hf := ax_neg hc4 hf
  refine aw_lookup (tgt := 55) (off := 54) dX6_kindOfSign_1 (by decide) (ax_lk4 hc1 hc2 hc3 hc4) (by decide) ?_
  refine aw_iconst (v := 1) dX6_kindOfSign_55 (by decide) ?_
  cases hf
  exact aw_iret dX6_kindOfSign_56 hq (Nat.le_refl _) (Nat.le_refl _)
noncomputable def f_X6_fail (x1 : Int32) (s : sx_M) : Option (Int32 × sx_M) :=
  some ((0 : Int32), (wI (wI s 19 6 x1) 19 7 (rI (wI s 19 6 x1) 19 3)))
set_option maxRecDepth 100000 in
set_option maxHeartbeats 4000000 in
theorem k_X6_fail {l : Launch} {X : ax_X} {Q : Option Value → ax_H → Prop} (x1 : Int32) (s : sx_M) (gb : ax_H) {p : Int32 × sx_M} (hf : f_X6_fail x1 s = some p) (hq : Q (some (.int p.1)) (hp p.2 gb)) : AM l X yX6_fail cX6_fail 2 (some .boolean) 0 0 0 [.ref 19, .int x1] (hp s gb) Q := by
  refine aw_met (own := RX6) (nm := "fail") (L := [some (.ref 19), some (.int x1)]) (by decide +kernel) rfl rfl (And.intro rfl (And.intro rfl trivial)) (Nat.le_of_ble_eq_true rfl) ?_
  unfold f_X6_fail at hf
  refine aw_aload_n dX6_fail_0 rfl rfl ?_
  refine aw_iload_n dX6_fail_1 rfl rfl ?_
  refine aw_pI dX6_fail_2 fp_X6_28 sh_19 rfl rfl rfl ?_
  refine aw_aload_n dX6_fail_5 rfl rfl ?_
  refine aw_aload_n dX6_fail_6 rfl rfl ?_
  refine aw_gI dX6_fail_7 fl_X6_49 sh_19 rfl ?_
  refine aw_pI dX6_fail_10 fp_X6_9 sh_19 rfl rfl rfl ?_
  refine aw_iconst (v := 0) dX6_fail_13 (by decide) ?_
  cases hf
  exact aw_zret dX6_fail_14 (by decide) hq (Nat.le_refl _) (Nat.le_refl _)
