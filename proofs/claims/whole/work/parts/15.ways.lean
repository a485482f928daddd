noncomputable def f_X10_holder_L2 (ra : Nat) (z1 : Int32) (z2 : Int32) (a2 : Int32 × sx_M) : Option ((Int32 × sx_M) ⊕ ((sx_M) ⊕ (Int32 × sx_M))) :=
  (if z2 ≤ a2.1 then
 some (.inr (.inl a2.2))
else
 (if (7 : Int32) ≤ a2.1 then
 some (.inr (.inl a2.2))
else
 (if ¬ (a2.1 < 0 ∨ 7 ≤ (a2.1).toNatClampNeg) then
 (if (rA a2.2 ra (a2.1).toNatClampNeg) = z1 then
 some (.inr (.inr ((a2.1, a2.2))))
else
 some (.inl ((a2.1 + (1 : Int32)), a2.2)))
else none)))
noncomputable def f_X10_holder (ra : Nat) (x1 : Int32) (x2 : Int32) (s : sx_M) : Option (Int32 × sx_M) :=
  (whT (f_X10_holder_L2 ra x1 x2) ((0 : Int32), s)).bind (fun b1 => (Sum.elim (fun e2 =>
 some ((-1 : Int32), e2)) (fun e3 =>
 some e3)) b1)
set_option maxRecDepth 100000 in
set_option maxHeartbeats 4000000 in
theorem k_X10_holder {l : Launch} {X : ax_X} {Q : Option Value → ax_H → Prop} (ra : Nat) (x1 : Int32) (x2 : Int32) (s : sx_M) (gb : ax_H) (hra : sx_sh[ra]? = some (.inl (.int, 7))) {p : Int32 × sx_M} (hf : f_X10_holder ra x1 x2 s = some p) (hq : Q (some (.int p.1)) (hp p.2 gb)) : AM l X yX10_holder cX10_holder 4 (some .int) 0 0 0 [.ref ra, .int x1, .int x2] (hp s gb) Q := by
  refine aw_met (own := RX10) (nm := "holder") (L := [some (.ref ra), some (.int x1), some (.int x2), none]) (by decide +kernel) rfl rfl (And.intro rfl (And.intro rfl (And.intro rfl trivial))) (Nat.le_of_ble_eq_true rfl) ?_
  unfold f_X10_holder at hf
  refine aw_iconst (v := 0) dX10_holder_0 (by decide) ?_
  refine aw_istore_n (L' := [some (.ref ra), some (.int x1), some (.int x2), some (.int (0 : Int32))]) dX10_holder_1 rfl (by decide) rfl ?_
  obtain ⟨b1, hb1, hf⟩ := ax_bind hf
  refine wh_go ((0 : Int32), s) (fun a2 : Int32 × sx_M => AW l X RX10 "holder" cX10_holder 4 (some .int) (ax_rm 0 0 0) (ax_MQ X Q 0 0) 0 0 2 [some (.ref ra), some (.int x1), some (.int x2), some (.int a2.1)] [] (hp a2.2 gb)) (Sum.elim (fun e : sx_M => AW l X RX10 "holder" cX10_holder 4 (some .int) (ax_rm 0 0 0) (ax_MQ X Q 0 0) 0 0 28 [none, none, none, none] [] (hp e gb)) (fun v : Int32 × sx_M => Q (some (.int v.1)) (hp v.2 gb))) hb1 ?_ ?_
  · intro a2 r hf hK
    unfold f_X10_holder_L2 at hf
    refine aw_iload_n dX10_holder_2 rfl rfl ?_
    refine aw_iload_n dX10_holder_3 rfl rfl ?_
    refine aw_icmp_ge (tgt := 28) dX10_holder_4 (by decide) (fun hc4 => ?_) (fun hc4 => ?_)
    · have hf := ax_pos hc4 hf
      refine aw_less (L' := [none, none, none, none]) trivial ?_
      cases hf
      exact hK
    · have hf := ax_neg hc4 hf
      refine aw_iload_n dX10_holder_7 rfl rfl ?_
      refine aw_aload_n dX10_holder_8 rfl rfl ?_
      refine aw_al dX10_holder_9 hra (by decide) rfl ?_
      refine aw_icmp_ge (tgt := 28) dX10_holder_10 (by decide) (fun hc3 => ?_) (fun hc3 => ?_)
      · have hf := ax_pos hc3 hf
        refine aw_less (L' := [none, none, none, none]) trivial ?_
        cases hf
        exact hK
      · have hf := ax_neg hc3 hf
        refine aw_aload_n dX10_holder_13 rfl rfl ?_
        refine aw_iload_n dX10_holder_14 rfl rfl ?_
        obtain ⟨hc1, hf⟩ := ax_ite hf
        refine aw_lA dX10_holder_15 hra hc1 ?_
        refine aw_iload_n dX10_holder_16 rfl rfl ?_
        refine aw_icmp_ne (tgt := 22) dX10_holder_17 (by decide) (fun hc2 => ?_) (fun hc2 => ?_)
        · have hf := ax_neg hc2 hf
          refine aw_iinc (v := (a2.1 + (1 : Int32))) (L' := [some (.ref ra), some (.int x1), some (.int x2), some (.int (a2.1 + (1 : Int32)))]) dX10_holder_22 rfl rfl (by decide) rfl ?_
          refine aw_goto (tgt := 2) dX10_holder_25 (by decide) ?_
          cases hf
          exact hK
        · have hf := ax_pos hc2 hf
          refine aw_iload_n dX10_holder_20 rfl rfl ?_
          cases hf
          exact aw_iret dX10_holder_21 hK (Nat.le_refl _) (Nat.le_refl _)
  · rcases b1 with e2 | e3
    · refine aw_iconst (v := -1) dX10_holder_28 (by decide) ?_
      cases hf
      exact aw_iret dX10_holder_29 hq (Nat.le_refl _) (Nat.le_refl _)
    · cases hf
      exact hq
noncomputable def f_X10_follow_L6 (ra : Nat) (rb : Nat) (z4 : Int32) (a6 : Int32 × Int32 × sx_M) : Option ((Int32 × Int32 × sx_M) ⊕ (Int32 × sx_M)) :=
  (if a6.2.1 = (-1 : Int32) then
 some (.inr (a6.1, a6.2.2))
else
 (if (((rI a6.2.2 55 4) >>> (a6.2.1 &&& 31)) &&& (1 : Int32)) = 0 then
 (if z4 ≤ a6.1 then
 some (.inr (a6.1, a6.2.2))
else
 (if ¬ (a6.2.1 < 0 ∨ 7 ≤ (a6.2.1).toNatClampNeg) then
 (f_X10_holder ra (rA (wI a6.2.2 55 4 ((rI a6.2.2 55 4) ||| ((1 : Int32) <<< (a6.2.1 &&& 31)))) rb (a6.2.1).toNatClampNeg) z4 (wI a6.2.2 55 4 ((rI a6.2.2 55 4) ||| ((1 : Int32) <<< (a6.2.1 &&& 31))))).bind (fun p1 =>
 some (.inl ((a6.1 + (1 : Int32)), p1.1, p1.2)))
else none))
else
 some (.inr (a6.1, a6.2.2))))
noncomputable def f_X10_follow (ra : Nat) (rb : Nat) (x1 : Int32) (x4 : Int32) (s : sx_M) : Option (Int32 × sx_M) :=
  (whT (f_X10_follow_L6 ra rb x4) ((0 : Int32), x1, s)).bind (fun b2 =>
 (f_J9_max_7cf53 (rI b2.2 55 2) b2.1 b2.2).bind (fun p3 =>
 some (b2.1, (wI p3.2 55 2 p3.1))))
set_option maxRecDepth 100000 in
set_option maxHeartbeats 4000000 in
theorem k_X10_follow {l : Launch} {X : ax_X} {Q : Option Value → ax_H → Prop} (ra : Nat) (rb : Nat) (x1 : Int32) (x4 : Int32) (s : sx_M) (gb : ax_H) (hra : sx_sh[ra]? = some (.inl (.int, 7))) (hrb : sx_sh[rb]? = some (.inl (.int, 7))) {p : Int32 × sx_M} (hf : f_X10_follow ra rb x1 x4 s = some p) (hq : Q (some (.int p.1)) (hp p.2 gb)) : AM l X yX10_follow cX10_follow 7 (some .int) 1 0 0 [.ref 55, .int x1, .ref ra, .ref rb, .int x4] (hp s gb) Q := by
  refine aw_met (own := RX10) (nm := "follow") (L := [some (.ref 55), some (.int x1), some (.ref ra), some (.ref rb), some (.int x4), none, none]) (by decide +kernel) rfl rfl (And.intro rfl (And.intro rfl (And.intro rfl (And.intro rfl (And.intro rfl trivial))))) (Nat.le_of_ble_eq_true rfl) ?_
  unfold f_X10_follow at hf
  refine aw_iconst (v := 0) dX10_follow_0 (by decide) ?_
  refine aw_istore (L' := [some (.ref 55), some (.int x1), some (.ref ra), some (.ref rb), some (.int x4), some (.int (0 : Int32)), none]) dX10_follow_1 (by decide) rfl ?_
  refine aw_iload_n dX10_follow_3 rfl rfl ?_
  refine aw_istore (L' := [some (.ref 55), some (.int x1), some (.ref ra), some (.ref rb), some (.int x4), some (.int (0 : Int32)), some (.int x1)]) dX10_follow_4 (by decide) rfl ?_
  refine aw_less (L' := [some (.ref 55), none, some (.ref ra), some (.ref rb), some (.int x4), some (.int (0 : Int32)), some (.int x1)]) (And.intro rfl (And.intro rfl (And.intro rfl (And.intro rfl (And.intro rfl (And.intro rfl trivial)))))) ?_
  obtain ⟨b2, hb2, hf⟩ := ax_bind hf
  refine wh_go ((0 : Int32), x1, s) (fun a6 : Int32 × Int32 × sx_M => AW l X RX10 "follow" cX10_follow 7 (some .int) (ax_rm 1 0 0) (ax_MQ X Q 0 0) 0 0 6 [some (.ref 55), none, some (.ref ra), some (.ref rb), some (.int x4), some (.int a6.1), some (.int a6.2.1)] [] (hp a6.2.2 gb)) (fun e : Int32 × sx_M => AW l X RX10 "follow" cX10_follow 7 (some .int) (ax_rm 1 0 0) (ax_MQ X Q 0 0) 0 0 62 [some (.ref 55), none, none, none, none, some (.int e.1), none] [] (hp e.2 gb)) hb2 ?_ ?_
  · intro a6 r hf hK
    unfold f_X10_follow_L6 at hf
    refine aw_iload dX10_follow_6 rfl ?_
    refine aw_iconst (v := -1) dX10_follow_8 (by decide) ?_
    refine aw_icmp_eq (tgt := 62) dX10_follow_9 (by decide) (fun hc4 => ?_) (fun hc4 => ?_)
    · have hf := ax_pos hc4 hf
      refine aw_less (L' := [some (.ref 55), none, none, none, none, some (.int a6.1), none]) (And.intro rfl (And.intro rfl trivial)) ?_
      cases hf
      exact hK
    · have hf := ax_neg hc4 hf
      refine aw_aload_n dX10_follow_12 rfl rfl ?_
      refine aw_gI dX10_follow_13 fl_X10_24 sh_55 rfl ?_
      refine aw_iload dX10_follow_16 rfl ?_
      refine aw_ishr dX10_follow_18 ?_
      refine aw_iconst (v := 1) dX10_follow_19 (by decide) ?_
      refine aw_iand dX10_follow_20 ?_
      refine aw_if_ne (tgt := 62) dX10_follow_21 (by decide) (fun hc3 => ?_) (fun hc3 => ?_)
      · have hf := ax_neg hc3 hf
        refine aw_less (L' := [some (.ref 55), none, none, none, none, some (.int a6.1), none]) (And.intro rfl (And.intro rfl trivial)) ?_
        cases hf
        exact hK
      · have hf := ax_pos hc3 hf
        refine aw_iload dX10_follow_24 rfl ?_
        refine aw_iload dX10_follow_26 rfl ?_
        refine aw_icmp_ge (tgt := 62) dX10_follow_28 (by decide) (fun hc2 => ?_) (fun hc2 => ?_)
        · have hf := ax_pos hc2 hf
          refine aw_less (L' := [some (.ref 55), none, none, none, none, some (.int a6.1), none]) (And.intro rfl (And.intro rfl trivial)) ?_
          cases hf
          exact hK
        · have hf := ax_neg hc2 hf
          refine aw_aload_n dX10_follow_31 rfl rfl ?_
          refine aw_dup dX10_follow_32 rfl ?_
          refine aw_gI dX10_follow_33 fl_X10_24 sh_55 rfl ?_
          refine aw_iconst (v := 1) dX10_follow_36 (by decide) ?_
          refine aw_iload dX10_follow_37 rfl ?_
          refine aw_ishl dX10_follow_39 ?_
          refine aw_ior dX10_follow_40 ?_
          refine aw_pI dX10_follow_41 fp_X10_24 sh_55 rfl rfl rfl ?_
          refine aw_iinc (v := (a6.1 + (1 : Int32))) (L' := [some (.ref 55), none, some (.ref ra), some (.ref rb), some (.int x4), some (.int (a6.1 + (1 : Int32))), some (.int a6.2.1)]) dX10_follow_44 rfl rfl (by decide) rfl ?_
          refine aw_aload_n dX10_follow_47 rfl rfl ?_
          refine aw_aload_n dX10_follow_48 rfl rfl ?_
          refine aw_iload dX10_follow_49 rfl ?_
          obtain ⟨hc1, hf⟩ := ax_ite hf
          refine aw_lA dX10_follow_51 hrb hc1 ?_
          refine aw_iload dX10_follow_52 rfl ?_
          obtain ⟨p1, hp1, hf⟩ := ax_bind hf
          refine aw_cSi (As := [.ref ra, .int (rA (wI a6.2.2 55 4 ((rI a6.2.2 55 4) ||| ((1 : Int32) <<< (a6.2.1 &&& 31)))) rb (a6.2.1).toNatClampNeg), .int x4]) (st := []) dX10_follow_54 cl_X10_33 st_X10_holder (k_X10_holder (Q := (fun v h' => v = some (.int p1.1) ∧ h' = hp p1.2 gb)) ra (rA (wI a6.2.2 55 4 ((rI a6.2.2 55 4) ||| ((1 : Int32) <<< (a6.2.1 &&& 31)))) rb (a6.2.1).toNatClampNeg) x4 (wI a6.2.2 55 4 ((rI a6.2.2 55 4) ||| ((1 : Int32) <<< (a6.2.1 &&& 31)))) gb hra hp1 ⟨rfl, rfl⟩) rfl rfl (Nat.le_of_ble_eq_true rfl) rfl (by decide) (by decide) ?_
          refine aw_istore (L' := [some (.ref 55), none, some (.ref ra), some (.ref rb), some (.int x4), some (.int (a6.1 + (1 : Int32))), some (.int p1.1)]) dX10_follow_57 (by decide) rfl ?_
          refine aw_goto (tgt := 6) dX10_follow_59 (by decide) ?_
          cases hf
          exact hK
  · refine aw_aload_n dX10_follow_62 rfl rfl ?_
    refine aw_aload_n dX10_follow_63 rfl rfl ?_
    refine aw_gI dX10_follow_64 fl_X10_18 sh_55 rfl ?_
    refine aw_iload dX10_follow_67 rfl ?_
    obtain ⟨p3, hp3, hf⟩ := ax_bind hf
    refine aw_cSi (As := [.int (rI b2.2 55 2), .int b2.1]) (st := [.ref 55]) dX10_follow_69 cl_X10_41 st_J9_max_7cf53 (k_J9_max_7cf53 (Q := (fun v h' => v = some (.int p3.1) ∧ h' = hp p3.2 gb)) (rI b2.2 55 2) b2.1 b2.2 gb hp3 ⟨rfl, rfl⟩) rfl rfl (Nat.le_of_ble_eq_true rfl) rfl (by decide) (by decide) ?_
    refine aw_pI dX10_follow_72 fp_X10_18 sh_55 rfl rfl rfl ?_
    refine aw_iload dX10_follow_75 rfl ?_
    cases hf
    exact aw_iret dX10_follow_77 hq (Nat.le_refl _) (Nat.le_refl _)
noncomputable def f_X10_trace_L41 (ra : Nat) (rb : Nat) (z4 : Int32) (a41 : Int32 × sx_M) : Option ((Int32 × sx_M) ⊕ (sx_M)) :=
  (if z4 ≤ a41.1 then
 some (.inr a41.2)
else
 (if ¬ (a41.1 < 0 ∨ 7 ≤ (a41.1).toNatClampNeg) then
 (if ¬ (a41.1 < 0 ∨ 7 ≤ (a41.1).toNatClampNeg) then
 (if (rA a41.2 ra (a41.1).toNatClampNeg) = (rA a41.2 rb (a41.1).toNatClampNeg) then
 some (.inl ((a41.1 + (1 : Int32)), a41.2))
else
 (if ¬ (a41.1 < 0 ∨ 7 ≤ (a41.1).toNatClampNeg) then
 (f_X10_holder rb (rA a41.2 ra (a41.1).toNatClampNeg) z4 a41.2).bind (fun p3 =>
 (if p3.1 = (-1 : Int32) then
 (f_X10_follow ra rb a41.1 z4 p3.2).bind (fun p4 =>
 some (.inl ((a41.1 + (1 : Int32)), (wI (wI p4.2 55 1 ((rI p4.2 55 1) + (1 : Int32))) 55 3 ((rI (wI p4.2 55 1 ((rI p4.2 55 1) + (1 : Int32))) 55 3) + p4.1)))))
else
 some (.inl ((a41.1 + (1 : Int32)), p3.2))))
else none))
else none)
else none))
noncomputable def f_X10_trace_L115 (ra : Nat) (rb : Nat) (z4 : Int32) (a115 : Int32 × sx_M) : Option ((Int32 × sx_M) ⊕ (sx_M)) :=
  (if z4 ≤ a115.1 then
 some (.inr a115.2)
else
 (if ¬ (a115.1 < 0 ∨ 7 ≤ (a115.1).toNatClampNeg) then
 (if ¬ (a115.1 < 0 ∨ 7 ≤ (a115.1).toNatClampNeg) then
 (if (rA a115.2 ra (a115.1).toNatClampNeg) = (rA a115.2 rb (a115.1).toNatClampNeg) then
 some (.inl ((a115.1 + (1 : Int32)), a115.2))
else
 (if (((rI a115.2 55 4) >>> (a115.1 &&& 31)) &&& (1 : Int32)) = 0 then
 (f_X10_follow ra rb a115.1 z4 a115.2).bind (fun p6 =>
 some (.inl ((a115.1 + (1 : Int32)), (wI (wI p6.2 55 0 ((rI p6.2 55 0) + (1 : Int32))) 55 3 ((rI (wI p6.2 55 0 ((rI p6.2 55 0) + (1 : Int32))) 55 3) + (p6.1 - (1 : Int32)))))))
else
 some (.inl ((a115.1 + (1 : Int32)), a115.2))))
else none)
else none))
noncomputable def f_X10_trace (ra : Nat) (rb : Nat) (x3 : Int32) (s : sx_M) : Option sx_M :=
  (f_J9_min_7cf53 (7 : Int32) (7 : Int32) (wI (wI (wI (wI (wI s 55 0 (0 : Int32)) 55 1 (0 : Int32)) 55 2 (0 : Int32)) 55 3 (0 : Int32)) 55 4 (0 : Int32))).bind (fun p1 =>
 (f_J9_min_7cf53 x3 p1.1 p1.2).bind (fun p2 =>
 (whT (f_X10_trace_L41 ra rb p2.1) ((0 : Int32), p2.2)).bind (fun b5 =>
 (whT (f_X10_trace_L115 ra rb p2.1) ((0 : Int32), b5)).bind (fun b7 =>
 some b7))))
set_option maxRecDepth 100000 in
set_option maxHeartbeats 4000000 in
theorem k_X10_trace {l : Launch} {X : ax_X} {Q : Option Value → ax_H → Prop} (ra : Nat) (rb : Nat) (x3 : Int32) (s : sx_M) (gb : ax_H) (hra : sx_sh[ra]? = some (.inl (.int, 7))) (hrb : sx_sh[rb]? = some (.inl (.int, 7))) {p : sx_M} (hf : f_X10_trace ra rb x3 s = some p) (hq : Q (none) (hp p gb)) : AM l X yX10_trace cX10_trace 7 none 2 0 0 [.ref 55, .ref ra, .ref rb, .int x3] (hp s gb) Q := by
  refine aw_met (own := RX10) (nm := "trace") (L := [some (.ref 55), some (.ref ra), some (.ref rb), some (.int x3), none, none, none]) (by decide +kernel) rfl rfl (And.intro rfl (And.intro rfl (And.intro rfl (And.intro rfl trivial)))) (Nat.le_of_ble_eq_true rfl) ?_
  unfold f_X10_trace at hf
  refine aw_aload_n dX10_trace_0 rfl rfl ?_
  refine aw_iconst (v := 0) dX10_trace_1 (by decide) ?_
  refine aw_pI dX10_trace_2 fp_X10_9 sh_55 rfl rfl rfl ?_
  refine aw_aload_n dX10_trace_5 rfl rfl ?_
  refine aw_iconst (v := 0) dX10_trace_6 (by decide) ?_
  refine aw_pI dX10_trace_7 fp_X10_15 sh_55 rfl rfl rfl ?_
  refine aw_aload_n dX10_trace_10 rfl rfl ?_
  refine aw_iconst (v := 0) dX10_trace_11 (by decide) ?_
  refine aw_pI dX10_trace_12 fp_X10_18 sh_55 rfl rfl rfl ?_
  refine aw_aload_n dX10_trace_15 rfl rfl ?_
  refine aw_iconst (v := 0) dX10_trace_16 (by decide) ?_
  refine aw_pI dX10_trace_17 fp_X10_21 sh_55 rfl rfl rfl ?_
  refine aw_aload_n dX10_trace_20 rfl rfl ?_
  refine aw_iconst (v := 0) dX10_trace_21 (by decide) ?_
  refine aw_pI dX10_trace_22 fp_X10_24 sh_55 rfl rfl rfl ?_
  refine aw_iload_n dX10_trace_25 rfl rfl ?_
  refine aw_aload_n dX10_trace_26 rfl rfl ?_
  refine aw_al dX10_trace_27 hra (by decide) rfl ?_
  refine aw_aload_n dX10_trace_28 rfl rfl ?_
  refine aw_al dX10_trace_29 hrb (by decide) rfl ?_
  obtain ⟨p1, hp1, hf⟩ := ax_bind hf
  refine aw_cSi (As := [.int (7 : Int32), .int (7 : Int32)]) (st := [.int x3]) dX10_trace_30 cl_X10_27 st_J9_min_7cf53 (k_J9_min_7cf53 (Q := (fun v h' => v = some (.int p1.1) ∧ h' = hp p1.2 gb)) (7 : Int32) (7 : Int32) (wI (wI (wI (wI (wI s 55 0 (0 : Int32)) 55 1 (0 : Int32)) 55 2 (0 : Int32)) 55 3 (0 : Int32)) 55 4 (0 : Int32)) gb hp1 ⟨rfl, rfl⟩) rfl rfl (Nat.le_of_ble_eq_true rfl) rfl (by decide) (by decide) ?_
  obtain ⟨p2, hp2, hf⟩ := ax_bind hf
  refine aw_cSi (As := [.int x3, .int p1.1]) (st := []) dX10_trace_33 cl_X10_27 st_J9_min_7cf53 (k_J9_min_7cf53 (Q := (fun v h' => v = some (.int p2.1) ∧ h' = hp p2.2 gb)) x3 p1.1 p1.2 gb hp2 ⟨rfl, rfl⟩) rfl rfl (Nat.le_of_ble_eq_true rfl) rfl (by decide) (by decide) ?_
  refine aw_istore (L' := [some (.ref 55), some (.ref ra), some (.ref rb), some (.int x3), some (.int p2.1), none, none]) dX10_trace_36 (by decide) rfl ?_
  refine aw_iconst (v := 0) dX10_trace_38 (by decide) ?_
  refine aw_istore (L' := [some (.ref 55), some (.ref ra), some (.ref rb), some (.int x3), some (.int p2.1), some (.int (0 : Int32)), none]) dX10_trace_39 (by decide) rfl ?_
  refine aw_less (L' := [some (.ref 55), some (.ref ra), some (.ref rb), none, some (.int p2.1), some (.int (0 : Int32)), none]) (And.intro rfl (And.intro rfl (And.intro rfl (And.intro rfl (And.intro rfl trivial))))) ?_
  obtain ⟨b5, hb5, hf⟩ := ax_bind hf
  refine wh_go ((0 : Int32), p2.2) (fun a41 : Int32 × sx_M => AW l X RX10 "trace" cX10_trace 7 none (ax_rm 2 0 0) (ax_MQ X Q 0 0) 0 0 41 [some (.ref 55), some (.ref ra), some (.ref rb), none, some (.int p2.1), some (.int a41.1), none] [] (hp a41.2 gb)) (fun e : sx_M => AW l X RX10 "trace" cX10_trace 7 none (ax_rm 2 0 0) (ax_MQ X Q 0 0) 0 0 112 [some (.ref 55), some (.ref ra), some (.ref rb), none, some (.int p2.1), none, none] [] (hp e gb)) hb5 ?_ ?_
  · intro a41 r hf hK
    unfold f_X10_trace_L41 at hf
    refine aw_iload dX10_trace_41 rfl ?_
    refine aw_iload dX10_trace_43 rfl ?_
    refine aw_icmp_ge (tgt := 112) dX10_trace_45 (by decide) (fun hc6 => ?_) (fun hc6 => ?_)
    · have hf := ax_pos hc6 hf
      refine aw_less (L' := [some (.ref 55), some (.ref ra), some (.ref rb), none, some (.int p2.1), none, none]) (And.intro rfl (And.intro rfl (And.intro rfl (And.intro rfl trivial)))) ?_
      cases hf
      exact hK
    · have hf := ax_neg hc6 hf
      refine aw_aload_n dX10_trace_48 rfl rfl ?_
      refine aw_iload dX10_trace_49 rfl ?_
      obtain ⟨hc1, hf⟩ := ax_ite hf
      refine aw_lA dX10_trace_51 hra hc1 ?_
      refine aw_aload_n dX10_trace_52 rfl rfl ?_
      refine aw_iload dX10_trace_53 rfl ?_
      obtain ⟨hc2, hf⟩ := ax_ite hf
      refine aw_lA dX10_trace_55 hrb hc2 ?_
      refine aw_icmp_eq (tgt := 106) dX10_trace_56 (by decide) (fun hc5 => ?_) (fun hc5 => ?_)
      · have hf := ax_pos hc5 hf
        refine aw_iinc (v := (a41.1 + (1 : Int32))) (L' := [some (.ref 55), some (.ref ra), some (.ref rb), none, some (.int p2.1), some (.int (a41.1 + (1 : Int32))), none]) dX10_trace_106 rfl rfl (by decide) rfl ?_
        refine aw_goto (tgt := 41) dX10_trace_109 (by decide) ?_
        cases hf
        exact hK
      · have hf := ax_neg hc5 hf
        refine aw_aload_n dX10_trace_59 rfl rfl ?_
        refine aw_aload_n dX10_trace_60 rfl rfl ?_
        refine aw_iload dX10_trace_61 rfl ?_
        obtain ⟨hc3, hf⟩ := ax_ite hf
        refine aw_lA dX10_trace_63 hra hc3 ?_
        refine aw_iload dX10_trace_64 rfl ?_
        obtain ⟨p3, hp3, hf⟩ := ax_bind hf
        refine aw_cSi (As := [.ref rb, .int (rA a41.2 ra (a41.1).toNatClampNeg), .int p2.1]) (st := []) dX10_trace_66 cl_X10_33 st_X10_holder (k_X10_holder (Q := (fun v h' => v = some (.int p3.1) ∧ h' = hp p3.2 gb)) rb (rA a41.2 ra (a41.1).toNatClampNeg) p2.1 a41.2 gb hrb hp3 ⟨rfl, rfl⟩) rfl rfl (Nat.le_of_ble_eq_true rfl) rfl (by decide) (by decide) ?_
        refine aw_iconst (v := -1) dX10_trace_69 (by decide) ?_
        refine aw_icmp_ne (tgt := 106) dX10_trace_70 (by decide) (fun hc4 => ?_) (fun hc4 => ?_)
        · have hf := ax_neg hc4 hf
          refine aw_iinc (v := (a41.1 + (1 : Int32))) (L' := [some (.ref 55), some (.ref ra), some (.ref rb), none, some (.int p2.1), some (.int (a41.1 + (1 : Int32))), none]) dX10_trace_106 rfl rfl (by decide) rfl ?_
          refine aw_goto (tgt := 41) dX10_trace_109 (by decide) ?_
          cases hf
          exact hK
        · have hf := ax_pos hc4 hf
          refine aw_aload_n dX10_trace_73 rfl rfl ?_
          refine aw_iload dX10_trace_74 rfl ?_
          refine aw_aload_n dX10_trace_76 rfl rfl ?_
          refine aw_aload_n dX10_trace_77 rfl rfl ?_
          refine aw_iload dX10_trace_78 rfl ?_
          obtain ⟨p4, hp4, hf⟩ := ax_bind hf
          refine aw_cVi (As := [.int a41.1, .ref ra, .ref rb, .int p2.1]) (st := []) dX10_trace_80 cl_X10_37 iv_X10_follow (k_X10_follow (Q := (fun v h' => v = some (.int p4.1) ∧ h' = hp p4.2 gb)) ra rb a41.1 p2.1 p3.2 gb hra hrb hp4 ⟨rfl, rfl⟩) (ci := 10) rfl (hp_get sh_55) rfl rfl rfl (Nat.le_of_ble_eq_true rfl) rfl (by decide) (by decide) ?_
          refine aw_istore (L' := [some (.ref 55), some (.ref ra), some (.ref rb), none, some (.int p2.1), some (.int a41.1), some (.int p4.1)]) dX10_trace_83 (by decide) rfl ?_
          refine aw_aload_n dX10_trace_85 rfl rfl ?_
          refine aw_dup dX10_trace_86 rfl ?_
          refine aw_gI dX10_trace_87 fl_X10_15 sh_55 rfl ?_
          refine aw_iconst (v := 1) dX10_trace_90 (by decide) ?_
          refine aw_iadd dX10_trace_91 ?_
          refine aw_pI dX10_trace_92 fp_X10_15 sh_55 rfl rfl rfl ?_
          refine aw_aload_n dX10_trace_95 rfl rfl ?_
          refine aw_dup dX10_trace_96 rfl ?_
          refine aw_gI dX10_trace_97 fl_X10_21 sh_55 rfl ?_
          refine aw_iload dX10_trace_100 rfl ?_
          refine aw_iadd dX10_trace_102 ?_
          refine aw_pI dX10_trace_103 fp_X10_21 sh_55 rfl rfl rfl ?_
          refine aw_iinc (v := (a41.1 + (1 : Int32))) (L' := [some (.ref 55), some (.ref ra), some (.ref rb), none, some (.int p2.1), some (.int (a41.1 + (1 : Int32))), some (.int p4.1)]) dX10_trace_106 rfl rfl (by decide) rfl ?_
          refine aw_goto (tgt := 41) dX10_trace_109 (by decide) ?_
          refine aw_less (L' := [some (.ref 55), some (.ref ra), some (.ref rb), none, some (.int p2.1), some (.int (a41.1 + (1 : Int32))), none]) (And.intro rfl (And.intro rfl (And.intro rfl (And.intro rfl (And.intro rfl trivial))))) ?_
          cases hf
          exact hK
  · refine aw_iconst (v := 0) dX10_trace_112 (by decide) ?_
    refine aw_istore (L' := [some (.ref 55), some (.ref ra), some (.ref rb), none, some (.int p2.1), some (.int (0 : Int32)), none]) dX10_trace_113 (by decide) rfl ?_
    obtain ⟨b7, hb7, hf⟩ := ax_bind hf
    refine wh_go ((0 : Int32), b5) (fun a115 : Int32 × sx_M => AW l X RX10 "trace" cX10_trace 7 none (ax_rm 2 0 0) (ax_MQ X Q 0 0) 0 0 115 [some (.ref 55), some (.ref ra), some (.ref rb), none, some (.int p2.1), some (.int a115.1), none] [] (hp a115.2 gb)) (fun e : sx_M => AW l X RX10 "trace" cX10_trace 7 none (ax_rm 2 0 0) (ax_MQ X Q 0 0) 0 0 186 [none, none, none, none, none, none, none] [] (hp e gb)) hb7 ?_ ?_
    · intro a115 r hf hK
      unfold f_X10_trace_L115 at hf
      refine aw_iload dX10_trace_115 rfl ?_
      refine aw_iload dX10_trace_117 rfl ?_
      refine aw_icmp_ge (tgt := 186) dX10_trace_119 (by decide) (fun hc11 => ?_) (fun hc11 => ?_)
      · have hf := ax_pos hc11 hf
        refine aw_less (L' := [none, none, none, none, none, none, none]) trivial ?_
        cases hf
        exact hK
      · have hf := ax_neg hc11 hf
        refine aw_aload_n dX10_trace_122 rfl rfl ?_
        refine aw_iload dX10_trace_123 rfl ?_
        obtain ⟨hc7, hf⟩ := ax_ite hf
        refine aw_lA dX10_trace_125 hra hc7 ?_
        refine aw_aload_n dX10_trace_126 rfl rfl ?_
        refine aw_iload dX10_trace_127 rfl ?_
        obtain ⟨hc8, hf⟩ := ax_ite hf
        refine aw_lA dX10_trace_129 hrb hc8 ?_
        refine aw_icmp_eq (tgt := 180) dX10_trace_130 (by decide) (fun hc10 => ?_) (fun hc10 => ?_)
        · have hf := ax_pos hc10 hf
          refine aw_iinc (v := (a115.1 + (1 : Int32))) (L' := [some (.ref 55), some (.ref ra), some (.ref rb), none, some (.int p2.1), some (.int (a115.1 + (1 : Int32))), none]) dX10_trace_180 rfl rfl (by decide) rfl ?_
          refine aw_goto (tgt := 115) dX10_trace_183 (by decide) ?_
          cases hf
          exact hK
        · have hf := ax_neg hc10 hf
          refine aw_aload_n dX10_trace_133 rfl rfl ?_
          refine aw_gI dX10_trace_134 fl_X10_24 sh_55 rfl ?_
          refine aw_iload dX10_trace_137 rfl ?_
          refine aw_ishr dX10_trace_139 ?_
          refine aw_iconst (v := 1) dX10_trace_140 (by decide) ?_
          refine aw_iand dX10_trace_141 ?_
          refine aw_if_ne (tgt := 180) dX10_trace_142 (by decide) (fun hc9 => ?_) (fun hc9 => ?_)
          · have hf := ax_neg hc9 hf
            refine aw_iinc (v := (a115.1 + (1 : Int32))) (L' := [some (.ref 55), some (.ref ra), some (.ref rb), none, some (.int p2.1), some (.int (a115.1 + (1 : Int32))), none]) dX10_trace_180 rfl rfl (by decide) rfl ?_
            refine aw_goto (tgt := 115) dX10_trace_183 (by decide) ?_
            cases hf
            exact hK
          · have hf := ax_pos hc9 hf
            refine aw_aload_n dX10_trace_145 rfl rfl ?_
            refine aw_iload dX10_trace_146 rfl ?_
            refine aw_aload_n dX10_trace_148 rfl rfl ?_
            refine aw_aload_n dX10_trace_149 rfl rfl ?_
            refine aw_iload dX10_trace_150 rfl ?_
            obtain ⟨p6, hp6, hf⟩ := ax_bind hf
            refine aw_cVi (As := [.int a115.1, .ref ra, .ref rb, .int p2.1]) (st := []) dX10_trace_152 cl_X10_37 iv_X10_follow (k_X10_follow (Q := (fun v h' => v = some (.int p6.1) ∧ h' = hp p6.2 gb)) ra rb a115.1 p2.1 a115.2 gb hra hrb hp6 ⟨rfl, rfl⟩) (ci := 10) rfl (hp_get sh_55) rfl rfl rfl (Nat.le_of_ble_eq_true rfl) rfl (by decide) (by decide) ?_
            refine aw_istore (L' := [some (.ref 55), some (.ref ra), some (.ref rb), none, some (.int p2.1), some (.int a115.1), some (.int p6.1)]) dX10_trace_155 (by decide) rfl ?_
            refine aw_aload_n dX10_trace_157 rfl rfl ?_
            refine aw_dup dX10_trace_158 rfl ?_
            refine aw_gI dX10_trace_159 fl_X10_9 sh_55 rfl ?_
            refine aw_iconst (v := 1) dX10_trace_162 (by decide) ?_
            refine aw_iadd dX10_trace_163 ?_
            refine aw_pI dX10_trace_164 fp_X10_9 sh_55 rfl rfl rfl ?_
            refine aw_aload_n dX10_trace_167 rfl rfl ?_
            refine aw_dup dX10_trace_168 rfl ?_
            refine aw_gI dX10_trace_169 fl_X10_21 sh_55 rfl ?_
            refine aw_iload dX10_trace_172 rfl ?_
            refine aw_iconst (v := 1) dX10_trace_174 (by decide) ?_
            refine aw_isub dX10_trace_175 ?_
            refine aw_iadd dX10_trace_176 ?_
            refine aw_pI dX10_trace_177 fp_X10_21 sh_55 rfl rfl rfl ?_
            refine aw_iinc (v := (a115.1 + (1 : Int32))) (L' := [some (.ref 55), some (.ref ra), some (.ref rb), none, some (.int p2.1), some (.int (a115.1 + (1 : Int32))), some (.int p6.1)]) dX10_trace_180 rfl rfl (by decide) rfl ?_
            refine aw_goto (tgt := 115) dX10_trace_183 (by decide) ?_
            refine aw_less (L' := [some (.ref 55), some (.ref ra), some (.ref rb), none, some (.int p2.1), some (.int (a115.1 + (1 : Int32))), none]) (And.intro rfl (And.intro rfl (And.intro rfl (And.intro rfl (And.intro rfl trivial))))) ?_
            cases hf
            exact hK
    · cases hf
      exact aw_vret dX10_trace_186 hq (Nat.le_refl _) (Nat.le_refl _)
