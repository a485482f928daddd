noncomputable def f_X0_seat (x1 : Int32) (x2 : Int32) (s : sx_M) : Option sx_M :=
  (f_X1_has 3 x1 x2 s).bind (fun p1 =>
 (if p1.1 = 0 then
 some p1.2
else
 (if ¬ (x1 < 0 ∨ 7 ≤ (x1).toNatClampNeg) then
 (if ¬ (x2 < 0 ∨ 8 ≤ (x2).toNatClampNeg) then
 some (wA (wA p1.2 47 (x1).toNatClampNeg x2) 48 (x2).toNatClampNeg x1)
else none)
else none)))
set_option maxRecDepth 100000 in
set_option maxHeartbeats 4000000 in
theorem k_X0_seat {l : Launch} {X : ax_X} {Q : Option Value → ax_H → Prop} (x1 : Int32) (x2 : Int32) (s : sx_M) (gb : ax_H) {p : sx_M} (hf : f_X0_seat x1 x2 s = some p) (hq : Q (none) (hp p gb)) : AM l X yX0_seat cX0_seat 3 none 1 0 0 [.ref 46, .int x1, .int x2] (hp s gb) Q := by
  refine aw_met (own := RX0) (nm := "seat") (L := [some (.ref 46), some (.int x1), some (.int x2)]) (by decide +kernel) rfl rfl (And.intro rfl (And.intro rfl (And.intro rfl trivial))) (Nat.le_of_ble_eq_true rfl) ?_
  unfold f_X0_seat at hf
  refine aw_aload_n dX0_seat_0 rfl rfl ?_
  refine aw_gR dX0_seat_1 fl_X0_18 sh_46 rfl ?_
  refine aw_iload_n dX0_seat_4 rfl rfl ?_
  refine aw_iload_n dX0_seat_5 rfl rfl ?_
  obtain ⟨p1, hp1, hf⟩ := ax_bind hf
  refine aw_cVi (As := [.int x1, .int x2]) (st := []) dX0_seat_6 cl_X0_52 iv_X1_has (k_X1_has (Q := (fun v h' => v = some (.int p1.1) ∧ h' = hp p1.2 gb)) 3 x1 x2 s gb ax_G3 hp1 ⟨rfl, rfl⟩) (ci := 1) rfl (hp_get sh_3) rfl rfl rfl (Nat.le_of_ble_eq_true rfl) rfl (by decide) (by decide) ?_
  refine aw_if_eq (tgt := 26) dX0_seat_9 (by decide) (fun hc3 => ?_) (fun hc3 => ?_)
  · have hf := ax_pos hc3 hf
    cases hf
    exact aw_vret dX0_seat_26 hq (Nat.le_refl _) (Nat.le_refl _)
  · have hf := ax_neg hc3 hf
    refine aw_aload_n dX0_seat_12 rfl rfl ?_
    refine aw_gR dX0_seat_13 fl_X0_9 sh_46 rfl ?_
    refine aw_iload_n dX0_seat_16 rfl rfl ?_
    refine aw_iload_n dX0_seat_17 rfl rfl ?_
    obtain ⟨hc1, hf⟩ := ax_ite hf
    refine aw_sA dX0_seat_18 sh_47 hc1 ?_
    refine aw_aload_n dX0_seat_19 rfl rfl ?_
    refine aw_gR dX0_seat_20 fl_X0_15 sh_46 rfl ?_
    refine aw_iload_n dX0_seat_23 rfl rfl ?_
    refine aw_iload_n dX0_seat_24 rfl rfl ?_
    obtain ⟨hc2, hf⟩ := ax_ite hf
    refine aw_sA dX0_seat_25 sh_48 hc2 ?_
    cases hf
    exact aw_vret dX0_seat_26 hq (Nat.le_refl _) (Nat.le_refl _)
noncomputable def f_X0_takeLeast_L27_J66 (z5 : Int32) (y1_66 : Int64) (y3_66 : Int32) (y4_66 : Int32) (y6_66 : Int32) (t0_66 : Int32) (s_66 : sx_M) : Option ((Int64 × Int32 × Int32 × Int32 × sx_M) ⊕ (Int64 × Int32 × Int32 × sx_M)) :=
  (if t0_66 = 0 then
 some (.inl (y1_66, y3_66, y4_66, (y6_66 + (1 : Int32)), s_66))
else
 (f_X1_at 3 z5 y6_66 s_66).bind (fun p1 =>
 (if y1_66 ≤ p1.1 then
 some (.inl (y1_66, y3_66, y4_66, (y6_66 + (1 : Int32)), p1.2))
else
 (f_X1_at 3 z5 y6_66 p1.2).bind (fun p2 =>
 some (.inl (p2.1, z5, y6_66, (y6_66 + (1 : Int32)), p2.2))))))
noncomputable def f_X0_takeLeast_L27 (z5 : Int32) (a27 : Int64 × Int32 × Int32 × Int32 × sx_M) : Option ((Int64 × Int32 × Int32 × Int32 × sx_M) ⊕ (Int64 × Int32 × Int32 × sx_M)) :=
  (if (rI a27.2.2.2.2 3 2) ≤ a27.2.2.2.1 then
 some (.inr (a27.1, a27.2.1, a27.2.2.1, a27.2.2.2.2))
else
 (if ¬ (z5 < 0 ∨ 7 ≤ (z5).toNatClampNeg) then
 (if (rA a27.2.2.2.2 47 (z5).toNatClampNeg) = (-1 : Int32) then
 (if ¬ (a27.2.2.2.1 < 0 ∨ 8 ≤ (a27.2.2.2.1).toNatClampNeg) then
 (if (rA a27.2.2.2.2 48 (a27.2.2.2.1).toNatClampNeg) = (-1 : Int32) then
 f_X0_takeLeast_L27_J66 z5 a27.1 a27.2.1 a27.2.2.1 a27.2.2.2.1 (1 : Int32) a27.2.2.2.2
else
 f_X0_takeLeast_L27_J66 z5 a27.1 a27.2.1 a27.2.2.1 a27.2.2.2.1 (0 : Int32) a27.2.2.2.2)
else none)
else
 f_X0_takeLeast_L27_J66 z5 a27.1 a27.2.1 a27.2.2.1 a27.2.2.2.1 (0 : Int32) a27.2.2.2.2)
else none))
noncomputable def f_X0_takeLeast_L12 (a12 : Int64 × Int32 × Int32 × Int32 × sx_M) : Option ((Int64 × Int32 × Int32 × Int32 × sx_M) ⊕ (Int64 × Int32 × Int32 × sx_M)) :=
  (if (rI a12.2.2.2.2 3 1) ≤ a12.2.2.2.1 then
 some (.inr (a12.1, a12.2.1, a12.2.2.1, a12.2.2.2.2))
else
 (whT (f_X0_takeLeast_L27 a12.2.2.2.1) (a12.1, a12.2.1, a12.2.2.1, (0 : Int32), a12.2.2.2.2)).bind (fun b3 =>
 some (.inl (b3.1, b3.2.1, b3.2.2.1, (a12.2.2.2.1 + (1 : Int32)), b3.2.2.2))))
noncomputable def f_X0_takeLeast (s : sx_M) : Option (Int32 × sx_M) :=
  (whT (f_X0_takeLeast_L12) ((9223372036854775807 : Int64), (0 : Int32), (0 : Int32), (0 : Int32), s)).bind (fun b4 =>
 (if b4.1 = (9223372036854775807 : Int64) then
 some ((0 : Int32), b4.2.2.2)
else
 (f_X0_seat b4.2.1 b4.2.2.1 b4.2.2.2).bind (fun p5 =>
 some ((1 : Int32), (wJ p5 46 3 ((rJ p5 46 3) + b4.1))))))
set_option maxRecDepth 100000 in
set_option maxHeartbeats 4000000 in
theorem k_X0_takeLeast {l : Launch} {X : ax_X} {Q : Option Value → ax_H → Prop} (s : sx_M) (gb : ax_H) {p : Int32 × sx_M} (hf : f_X0_takeLeast s = some p) (hq : Q (some (.int p.1)) (hp p.2 gb)) : AM l X yX0_takeLeast cX0_takeLeast 8 (some .boolean) 2 0 0 [.ref 46] (hp s gb) Q := by
  refine aw_met (own := RX0) (nm := "takeLeast") (L := [some (.ref 46), none, none, none, none, none, none, none]) (by decide +kernel) rfl rfl (And.intro rfl trivial) (Nat.le_of_ble_eq_true rfl) ?_
  unfold f_X0_takeLeast at hf
  refine aw_ldc2 dX0_takeLeast_0 kc_X0_39 ?_
  refine aw_lstore_n (L' := [some (.ref 46), some (.long (9223372036854775807 : Int64)), none, none, none, none, none, none]) dX0_takeLeast_3 rfl (by decide) rfl ?_
  refine aw_iconst (v := 0) dX0_takeLeast_4 (by decide) ?_
  refine aw_istore_n (L' := [some (.ref 46), some (.long (9223372036854775807 : Int64)), none, some (.int (0 : Int32)), none, none, none, none]) dX0_takeLeast_5 rfl (by decide) rfl ?_
  refine aw_iconst (v := 0) dX0_takeLeast_6 (by decide) ?_
  refine aw_istore (L' := [some (.ref 46), some (.long (9223372036854775807 : Int64)), none, some (.int (0 : Int32)), some (.int (0 : Int32)), none, none, none]) dX0_takeLeast_7 (by decide) rfl ?_
  refine aw_iconst (v := 0) dX0_takeLeast_9 (by decide) ?_
  refine aw_istore (L' := [some (.ref 46), some (.long (9223372036854775807 : Int64)), none, some (.int (0 : Int32)), some (.int (0 : Int32)), some (.int (0 : Int32)), none, none]) dX0_takeLeast_10 (by decide) rfl ?_
  obtain ⟨b4, hb4, hf⟩ := ax_bind hf
  refine wh_go ((9223372036854775807 : Int64), (0 : Int32), (0 : Int32), (0 : Int32), s) (fun a12 : Int64 × Int32 × Int32 × Int32 × sx_M => AW l X RX0 "takeLeast" cX0_takeLeast 8 (some .boolean) (ax_rm 2 0 0) (ax_MQ X Q 0 0) 0 0 12 [some (.ref 46), some (.long a12.1), none, some (.int a12.2.1), some (.int a12.2.2.1), some (.int a12.2.2.2.1), none, none] [] (hp a12.2.2.2.2 gb)) (fun e : Int64 × Int32 × Int32 × sx_M => AW l X RX0 "takeLeast" cX0_takeLeast 8 (some .boolean) (ax_rm 2 0 0) (ax_MQ X Q 0 0) 0 0 120 [some (.ref 46), some (.long e.1), none, some (.int e.2.1), some (.int e.2.2.1), none, none, none] [] (hp e.2.2.2 gb)) hb4 ?_ ?_
  · intro a12 r hf hK
    unfold f_X0_takeLeast_L12 at hf
    refine aw_iload dX0_takeLeast_12 rfl ?_
    refine aw_aload_n dX0_takeLeast_14 rfl rfl ?_
    refine aw_gR dX0_takeLeast_15 fl_X0_18 sh_46 rfl ?_
    refine aw_gI dX0_takeLeast_18 fl_X0_30 sh_3 rfl ?_
    refine aw_icmp_ge (tgt := 120) dX0_takeLeast_21 (by decide) (fun hc8 => ?_) (fun hc8 => ?_)
    · have hf := ax_pos hc8 hf
      refine aw_less (L' := [some (.ref 46), some (.long a12.1), none, some (.int a12.2.1), some (.int a12.2.2.1), none, none, none]) (And.intro rfl (And.intro rfl (And.intro rfl (And.intro rfl trivial)))) ?_
      cases hf
      exact hK
    · have hf := ax_neg hc8 hf
      refine aw_iconst (v := 0) dX0_takeLeast_24 (by decide) ?_
      refine aw_istore (L' := [some (.ref 46), some (.long a12.1), none, some (.int a12.2.1), some (.int a12.2.2.1), some (.int a12.2.2.2.1), some (.int (0 : Int32)), none]) dX0_takeLeast_25 (by decide) rfl ?_
      obtain ⟨b3, hb3, hf⟩ := ax_bind hf
      refine wh_go (a12.1, a12.2.1, a12.2.2.1, (0 : Int32), a12.2.2.2.2) (fun a27 : Int64 × Int32 × Int32 × Int32 × sx_M => AW l X RX0 "takeLeast" cX0_takeLeast 8 (some .boolean) (ax_rm 2 0 0) (ax_MQ X Q 0 0) 0 0 27 [some (.ref 46), some (.long a27.1), none, some (.int a27.2.1), some (.int a27.2.2.1), some (.int a12.2.2.2.1), some (.int a27.2.2.2.1), none] [] (hp a27.2.2.2.2 gb)) (fun e : Int64 × Int32 × Int32 × sx_M => AW l X RX0 "takeLeast" cX0_takeLeast 8 (some .boolean) (ax_rm 2 0 0) (ax_MQ X Q 0 0) 0 0 114 [some (.ref 46), some (.long e.1), none, some (.int e.2.1), some (.int e.2.2.1), some (.int a12.2.2.2.1), none, none] [] (hp e.2.2.2 gb)) hb3 ?_ ?_
      · intro a27 r hf hK
        unfold f_X0_takeLeast_L27 at hf
        have J66 : ∀ (y1_66 : Int64) (y3_66 : Int32) (y4_66 : Int32) (y6_66 : Int32) (t0_66 : Int32) (s_66 : sx_M), f_X0_takeLeast_L27_J66 a12.2.2.2.1 y1_66 y3_66 y4_66 y6_66 t0_66 s_66 = some r → AW l X RX0 "takeLeast" cX0_takeLeast 8 (some .boolean) (ax_rm 2 0 0) (ax_MQ X Q 0 0) 0 0 66 [some (.ref 46), some (.long y1_66), none, some (.int y3_66), some (.int y4_66), some (.int a12.2.2.2.1), some (.int y6_66), none] [.int t0_66] (hp s_66 gb) := by
          intro y1_66 y3_66 y4_66 y6_66 t0_66 s_66 hf
          unfold f_X0_takeLeast_L27_J66 at hf
          refine aw_istore (L' := [some (.ref 46), some (.long y1_66), none, some (.int y3_66), some (.int y4_66), some (.int a12.2.2.2.1), some (.int y6_66), some (.int t0_66)]) dX0_takeLeast_66 (by decide) rfl ?_
          refine aw_iload dX0_takeLeast_68 rfl ?_
          refine aw_if_eq (tgt := 108) dX0_takeLeast_70 (by decide) (fun hc2 => ?_) (fun hc2 => ?_)
          · have hf := ax_pos hc2 hf
            refine aw_iinc (v := (y6_66 + (1 : Int32))) (L' := [some (.ref 46), some (.long y1_66), none, some (.int y3_66), some (.int y4_66), some (.int a12.2.2.2.1), some (.int (y6_66 + (1 : Int32))), some (.int t0_66)]) dX0_takeLeast_108 rfl rfl (by decide) rfl ?_
            refine aw_goto (tgt := 27) dX0_takeLeast_111 (by decide) ?_
            refine aw_less (L' := [some (.ref 46), some (.long y1_66), none, some (.int y3_66), some (.int y4_66), some (.int a12.2.2.2.1), some (.int (y6_66 + (1 : Int32))), none]) (And.intro rfl (And.intro rfl (And.intro rfl (And.intro rfl (And.intro rfl (And.intro rfl trivial)))))) ?_
            cases hf
            exact hK
          · have hf := ax_neg hc2 hf
            refine aw_aload_n dX0_takeLeast_73 rfl rfl ?_
            refine aw_gR dX0_takeLeast_74 fl_X0_18 sh_46 rfl ?_
            refine aw_iload dX0_takeLeast_77 rfl ?_
            refine aw_iload dX0_takeLeast_79 rfl ?_
            obtain ⟨p1, hp1, hf⟩ := ax_bind hf
            refine aw_cVl (As := [.int a12.2.2.2.1, .int y6_66]) (st := []) dX0_takeLeast_81 cl_X0_44 iv_X1_at (k_X1_at (Q := (fun v h' => v = some (.long p1.1) ∧ h' = hp p1.2 gb)) 3 a12.2.2.2.1 y6_66 s_66 gb ax_G3 hp1 ⟨rfl, rfl⟩) (ci := 1) rfl (hp_get sh_3) rfl rfl rfl (Nat.le_of_ble_eq_true rfl) rfl (by decide) (by decide) ?_
            refine aw_lload_n dX0_takeLeast_84 rfl rfl ?_
            refine aw_lcmp_ge (tgt := 108) dX0_takeLeast_85 dX0_takeLeast_86 (by decide) (fun hc1 => ?_) (fun hc1 => ?_)
            · have hf := ax_pos hc1 hf
              refine aw_iinc (v := (y6_66 + (1 : Int32))) (L' := [some (.ref 46), some (.long y1_66), none, some (.int y3_66), some (.int y4_66), some (.int a12.2.2.2.1), some (.int (y6_66 + (1 : Int32))), some (.int t0_66)]) dX0_takeLeast_108 rfl rfl (by decide) rfl ?_
              refine aw_goto (tgt := 27) dX0_takeLeast_111 (by decide) ?_
              refine aw_less (L' := [some (.ref 46), some (.long y1_66), none, some (.int y3_66), some (.int y4_66), some (.int a12.2.2.2.1), some (.int (y6_66 + (1 : Int32))), none]) (And.intro rfl (And.intro rfl (And.intro rfl (And.intro rfl (And.intro rfl (And.intro rfl trivial)))))) ?_
              cases hf
              exact hK
            · have hf := ax_neg hc1 hf
              refine aw_aload_n dX0_takeLeast_89 rfl rfl ?_
              refine aw_gR dX0_takeLeast_90 fl_X0_18 sh_46 rfl ?_
              refine aw_iload dX0_takeLeast_93 rfl ?_
              refine aw_iload dX0_takeLeast_95 rfl ?_
              obtain ⟨p2, hp2, hf⟩ := ax_bind hf
              refine aw_cVl (As := [.int a12.2.2.2.1, .int y6_66]) (st := []) dX0_takeLeast_97 cl_X0_44 iv_X1_at (k_X1_at (Q := (fun v h' => v = some (.long p2.1) ∧ h' = hp p2.2 gb)) 3 a12.2.2.2.1 y6_66 p1.2 gb ax_G3 hp2 ⟨rfl, rfl⟩) (ci := 1) rfl (hp_get sh_3) rfl rfl rfl (Nat.le_of_ble_eq_true rfl) rfl (by decide) (by decide) ?_
              refine aw_lstore_n (L' := [some (.ref 46), some (.long p2.1), none, some (.int y3_66), some (.int y4_66), some (.int a12.2.2.2.1), some (.int y6_66), some (.int t0_66)]) dX0_takeLeast_100 rfl (by decide) rfl ?_
              refine aw_iload dX0_takeLeast_101 rfl ?_
              refine aw_istore_n (L' := [some (.ref 46), some (.long p2.1), none, some (.int a12.2.2.2.1), some (.int y4_66), some (.int a12.2.2.2.1), some (.int y6_66), some (.int t0_66)]) dX0_takeLeast_103 rfl (by decide) rfl ?_
              refine aw_iload dX0_takeLeast_104 rfl ?_
              refine aw_istore (L' := [some (.ref 46), some (.long p2.1), none, some (.int a12.2.2.2.1), some (.int y6_66), some (.int a12.2.2.2.1), some (.int y6_66), some (.int t0_66)]) dX0_takeLeast_106 (by decide) rfl ?_
              refine aw_iinc (v := (y6_66 + (1 : Int32))) (L' := [some (.ref 46), some (.long p2.1), none, some (.int a12.2.2.2.1), some (.int y6_66), some (.int a12.2.2.2.1), some (.int (y6_66 + (1 : Int32))), some (.int t0_66)]) dX0_takeLeast_108 rfl rfl (by decide) rfl ?_
              refine aw_goto (tgt := 27) dX0_takeLeast_111 (by decide) ?_
              refine aw_less (L' := [some (.ref 46), some (.long p2.1), none, some (.int a12.2.2.2.1), some (.int y6_66), some (.int a12.2.2.2.1), some (.int (y6_66 + (1 : Int32))), none]) (And.intro rfl (And.intro rfl (And.intro rfl (And.intro rfl (And.intro rfl (And.intro rfl trivial)))))) ?_
              cases hf
              exact hK
        refine aw_iload dX0_takeLeast_27 rfl ?_
        refine aw_aload_n dX0_takeLeast_29 rfl rfl ?_
        refine aw_gR dX0_takeLeast_30 fl_X0_18 sh_46 rfl ?_
        refine aw_gI dX0_takeLeast_33 fl_X0_41 sh_3 rfl ?_
        refine aw_icmp_ge (tgt := 114) dX0_takeLeast_36 (by decide) (fun hc7 => ?_) (fun hc7 => ?_)
        · have hf := ax_pos hc7 hf
          refine aw_less (L' := [some (.ref 46), some (.long a27.1), none, some (.int a27.2.1), some (.int a27.2.2.1), some (.int a12.2.2.2.1), none, none]) (And.intro rfl (And.intro rfl (And.intro rfl (And.intro rfl (And.intro rfl trivial))))) ?_
          cases hf
          exact hK
        · have hf := ax_neg hc7 hf
          refine aw_aload_n dX0_takeLeast_39 rfl rfl ?_
          refine aw_gR dX0_takeLeast_40 fl_X0_9 sh_46 rfl ?_
          refine aw_iload dX0_takeLeast_43 rfl ?_
          obtain ⟨hc3, hf⟩ := ax_ite hf
          refine aw_lA dX0_takeLeast_45 sh_47 hc3 ?_
          refine aw_iconst (v := -1) dX0_takeLeast_46 (by decide) ?_
          refine aw_icmp_ne (tgt := 65) dX0_takeLeast_47 (by decide) (fun hc6 => ?_) (fun hc6 => ?_)
          · have hf := ax_neg hc6 hf
            refine aw_iconst (v := 0) dX0_takeLeast_65 (by decide) ?_
            exact J66 a27.1 a27.2.1 a27.2.2.1 a27.2.2.2.1 (0 : Int32) a27.2.2.2.2 hf
          · have hf := ax_pos hc6 hf
            refine aw_aload_n dX0_takeLeast_50 rfl rfl ?_
            refine aw_gR dX0_takeLeast_51 fl_X0_15 sh_46 rfl ?_
            refine aw_iload dX0_takeLeast_54 rfl ?_
            obtain ⟨hc4, hf⟩ := ax_ite hf
            refine aw_lA dX0_takeLeast_56 sh_48 hc4 ?_
            refine aw_iconst (v := -1) dX0_takeLeast_57 (by decide) ?_
            refine aw_icmp_ne (tgt := 65) dX0_takeLeast_58 (by decide) (fun hc5 => ?_) (fun hc5 => ?_)
            · have hf := ax_neg hc5 hf
              refine aw_iconst (v := 0) dX0_takeLeast_65 (by decide) ?_
              exact J66 a27.1 a27.2.1 a27.2.2.1 a27.2.2.2.1 (0 : Int32) a27.2.2.2.2 hf
            · have hf := ax_pos hc5 hf
              refine aw_iconst (v := 1) dX0_takeLeast_61 (by decide) ?_
              refine aw_goto (tgt := 66) dX0_takeLeast_62 (by decide) ?_
              exact J66 a27.1 a27.2.1 a27.2.2.1 a27.2.2.2.1 (1 : Int32) a27.2.2.2.2 hf
      · refine aw_iinc (v := (a12.2.2.2.1 + (1 : Int32))) (L' := [some (.ref 46), some (.long b3.1), none, some (.int b3.2.1), some (.int b3.2.2.1), some (.int (a12.2.2.2.1 + (1 : Int32))), none, none]) dX0_takeLeast_114 rfl rfl (by decide) rfl ?_
        refine aw_goto (tgt := 12) dX0_takeLeast_117 (by decide) ?_
        cases hf
        exact hK
  · refine aw_lload_n dX0_takeLeast_120 rfl rfl ?_
    refine aw_ldc2 dX0_takeLeast_121 kc_X0_39 ?_
    refine aw_lcmp_ne (tgt := 130) dX0_takeLeast_124 dX0_takeLeast_125 (by decide) (fun hc9 => ?_) (fun hc9 => ?_)
    · have hf := ax_neg hc9 hf
      refine aw_aload_n dX0_takeLeast_130 rfl rfl ?_
      refine aw_iload_n dX0_takeLeast_131 rfl rfl ?_
      refine aw_iload dX0_takeLeast_132 rfl ?_
      obtain ⟨p5, hp5, hf⟩ := ax_bind hf
      refine aw_cVv (As := [.int b4.2.1, .int b4.2.2.1]) (st := []) dX0_takeLeast_134 cl_X0_48 iv_X0_seat (k_X0_seat (Q := (fun v h' => v = none ∧ h' = hp p5 gb)) b4.2.1 b4.2.2.1 b4.2.2.2 gb hp5 ⟨rfl, rfl⟩) (ci := 0) rfl (hp_get sh_46) rfl rfl rfl (Nat.le_of_ble_eq_true rfl) rfl (by decide) (by decide) ?_
      refine aw_aload_n dX0_takeLeast_137 rfl rfl ?_
      refine aw_dup dX0_takeLeast_138 rfl ?_
      refine aw_gJ dX0_takeLeast_139 fl_X0_22 sh_46 rfl ?_
      refine aw_lload_n dX0_takeLeast_142 rfl rfl ?_
      refine aw_ladd dX0_takeLeast_143 ?_
      refine aw_pJ dX0_takeLeast_144 fp_X0_22 sh_46 rfl ?_
      refine aw_iconst (v := 1) dX0_takeLeast_147 (by decide) ?_
      cases hf
      exact aw_zret dX0_takeLeast_148 (by decide) hq (Nat.le_refl _) (Nat.le_refl _)
    · have hf := ax_pos hc9 hf
      refine aw_iconst (v := 0) dX0_takeLeast_128 (by decide) ?_
      cases hf
      exact aw_zret dX0_takeLeast_129 (by decide) hq (Nat.le_refl _) (Nat.le_refl _)
noncomputable def f_X0_take_L2 (a2 : Int32 × sx_M) : Option ((Int32 × sx_M) ⊕ (sx_M)) :=
  (if (7 : Int32) ≤ a2.1 then
 some (.inr a2.2)
else
 (if ¬ (a2.1 < 0 ∨ 7 ≤ (a2.1).toNatClampNeg) then
 some (.inl ((a2.1 + (1 : Int32)), (wA a2.2 47 (a2.1).toNatClampNeg (-1 : Int32))))
else none))
noncomputable def f_X0_take_L23 (a23 : Int32 × sx_M) : Option ((Int32 × sx_M) ⊕ (sx_M)) :=
  (if (8 : Int32) ≤ a23.1 then
 some (.inr a23.2)
else
 (if ¬ (a23.1 < 0 ∨ 8 ≤ (a23.1).toNatClampNeg) then
 some (.inl ((a23.1 + (1 : Int32)), (wA a23.2 48 (a23.1).toNatClampNeg (-1 : Int32))))
else none))
noncomputable def f_X0_take_L52 (a52 : sx_M) : Option ((sx_M) ⊕ (sx_M)) :=
  (if (rI a52 3 1) ≤ (rI a52 46 4) then
 some (.inr a52)
else
 (f_X0_takeLeast a52).bind (fun p3 =>
 (if p3.1 = 0 then
 some (.inr p3.2)
else
 some (.inl (wI p3.2 46 4 ((rI p3.2 46 4) + (1 : Int32)))))))
noncomputable def f_X0_take (s : sx_M) : Option sx_M :=
  (whT (f_X0_take_L2) ((0 : Int32), s)).bind (fun b1 =>
 (whT (f_X0_take_L23) ((0 : Int32), b1)).bind (fun b2 =>
 (whT (f_X0_take_L52) (wI (wJ b2 46 3 (0 : Int64)) 46 4 (0 : Int32))).bind (fun b4 =>
 some b4)))
set_option maxRecDepth 100000 in
set_option maxHeartbeats 4000000 in
theorem k_X0_take {l : Launch} {X : ax_X} {Q : Option Value → ax_H → Prop} (s : sx_M) (gb : ax_H) {p : sx_M} (hf : f_X0_take s = some p) (hq : Q (none) (hp p gb)) : AM l X yX0_take cX0_take 2 none 3 0 0 [.ref 46] (hp s gb) Q := by
  refine aw_met (own := RX0) (nm := "take") (L := [some (.ref 46), none]) (by decide +kernel) rfl rfl (And.intro rfl trivial) (Nat.le_of_ble_eq_true rfl) ?_
  unfold f_X0_take at hf
  refine aw_iconst (v := 0) dX0_take_0 (by decide) ?_
  refine aw_istore_n (L' := [some (.ref 46), some (.int (0 : Int32))]) dX0_take_1 rfl (by decide) rfl ?_
  obtain ⟨b1, hb1, hf⟩ := ax_bind hf
  refine wh_go ((0 : Int32), s) (fun a2 : Int32 × sx_M => AW l X RX0 "take" cX0_take 2 none (ax_rm 3 0 0) (ax_MQ X Q 0 0) 0 0 2 [some (.ref 46), some (.int a2.1)] [] (hp a2.2 gb)) (fun e : sx_M => AW l X RX0 "take" cX0_take 2 none (ax_rm 3 0 0) (ax_MQ X Q 0 0) 0 0 21 [some (.ref 46), none] [] (hp e gb)) hb1 ?_ ?_
  · intro a2 r hf hK
    unfold f_X0_take_L2 at hf
    refine aw_iload_n dX0_take_2 rfl rfl ?_
    refine aw_bipush (v := 7) dX0_take_3 (by decide) ?_
    refine aw_icmp_ge (tgt := 21) dX0_take_5 (by decide) (fun hc2 => ?_) (fun hc2 => ?_)
    · have hf := ax_pos hc2 hf
      refine aw_less (L' := [some (.ref 46), none]) (And.intro rfl trivial) ?_
      cases hf
      exact hK
    · have hf := ax_neg hc2 hf
      refine aw_aload_n dX0_take_8 rfl rfl ?_
      refine aw_gR dX0_take_9 fl_X0_9 sh_46 rfl ?_
      refine aw_iload_n dX0_take_12 rfl rfl ?_
      refine aw_iconst (v := -1) dX0_take_13 (by decide) ?_
      obtain ⟨hc1, hf⟩ := ax_ite hf
      refine aw_sA dX0_take_14 sh_47 hc1 ?_
      refine aw_iinc (v := (a2.1 + (1 : Int32))) (L' := [some (.ref 46), some (.int (a2.1 + (1 : Int32)))]) dX0_take_15 rfl rfl (by decide) rfl ?_
      refine aw_goto (tgt := 2) dX0_take_18 (by decide) ?_
      cases hf
      exact hK
  · refine aw_iconst (v := 0) dX0_take_21 (by decide) ?_
    refine aw_istore_n (L' := [some (.ref 46), some (.int (0 : Int32))]) dX0_take_22 rfl (by decide) rfl ?_
    obtain ⟨b2, hb2, hf⟩ := ax_bind hf
    refine wh_go ((0 : Int32), b1) (fun a23 : Int32 × sx_M => AW l X RX0 "take" cX0_take 2 none (ax_rm 3 0 0) (ax_MQ X Q 0 0) 0 0 23 [some (.ref 46), some (.int a23.1)] [] (hp a23.2 gb)) (fun e : sx_M => AW l X RX0 "take" cX0_take 2 none (ax_rm 3 0 0) (ax_MQ X Q 0 0) 0 0 42 [some (.ref 46), none] [] (hp e gb)) hb2 ?_ ?_
    · intro a23 r hf hK
      unfold f_X0_take_L23 at hf
      refine aw_iload_n dX0_take_23 rfl rfl ?_
      refine aw_bipush (v := 8) dX0_take_24 (by decide) ?_
      refine aw_icmp_ge (tgt := 42) dX0_take_26 (by decide) (fun hc4 => ?_) (fun hc4 => ?_)
      · have hf := ax_pos hc4 hf
        refine aw_less (L' := [some (.ref 46), none]) (And.intro rfl trivial) ?_
        cases hf
        exact hK
      · have hf := ax_neg hc4 hf
        refine aw_aload_n dX0_take_29 rfl rfl ?_
        refine aw_gR dX0_take_30 fl_X0_15 sh_46 rfl ?_
        refine aw_iload_n dX0_take_33 rfl rfl ?_
        refine aw_iconst (v := -1) dX0_take_34 (by decide) ?_
        obtain ⟨hc3, hf⟩ := ax_ite hf
        refine aw_sA dX0_take_35 sh_48 hc3 ?_
        refine aw_iinc (v := (a23.1 + (1 : Int32))) (L' := [some (.ref 46), some (.int (a23.1 + (1 : Int32)))]) dX0_take_36 rfl rfl (by decide) rfl ?_
        refine aw_goto (tgt := 23) dX0_take_39 (by decide) ?_
        cases hf
        exact hK
    · refine aw_aload_n dX0_take_42 rfl rfl ?_
      refine aw_lconst (v := 0) dX0_take_43 (by decide) ?_
      refine aw_pJ dX0_take_44 fp_X0_22 sh_46 rfl ?_
      refine aw_aload_n dX0_take_47 rfl rfl ?_
      refine aw_iconst (v := 0) dX0_take_48 (by decide) ?_
      refine aw_pI dX0_take_49 fp_X0_26 sh_46 rfl rfl rfl ?_
      obtain ⟨b4, hb4, hf⟩ := ax_bind hf
      refine wh_go (wI (wJ b2 46 3 (0 : Int64)) 46 4 (0 : Int32)) (fun a52 : sx_M => AW l X RX0 "take" cX0_take 2 none (ax_rm 3 0 0) (ax_MQ X Q 0 0) 0 0 52 [some (.ref 46), none] [] (hp a52 gb)) (fun e : sx_M => AW l X RX0 "take" cX0_take 2 none (ax_rm 3 0 0) (ax_MQ X Q 0 0) 0 0 86 [none, none] [] (hp e gb)) hb4 ?_ ?_
      · intro a52 r hf hK
        unfold f_X0_take_L52 at hf
        refine aw_aload_n dX0_take_52 rfl rfl ?_
        refine aw_gI dX0_take_53 fl_X0_26 sh_46 rfl ?_
        refine aw_aload_n dX0_take_56 rfl rfl ?_
        refine aw_gR dX0_take_57 fl_X0_18 sh_46 rfl ?_
        refine aw_gI dX0_take_60 fl_X0_30 sh_3 rfl ?_
        refine aw_icmp_ge (tgt := 86) dX0_take_63 (by decide) (fun hc6 => ?_) (fun hc6 => ?_)
        · have hf := ax_pos hc6 hf
          refine aw_less (L' := [none, none]) trivial ?_
          cases hf
          exact hK
        · have hf := ax_neg hc6 hf
          refine aw_aload_n dX0_take_66 rfl rfl ?_
          obtain ⟨p3, hp3, hf⟩ := ax_bind hf
          refine aw_cVi (As := []) (st := []) dX0_take_67 cl_X0_35 iv_X0_takeLeast (k_X0_takeLeast (Q := (fun v h' => v = some (.int p3.1) ∧ h' = hp p3.2 gb)) a52 gb hp3 ⟨rfl, rfl⟩) (ci := 0) rfl (hp_get sh_46) rfl rfl rfl (Nat.le_of_ble_eq_true rfl) rfl (by decide) (by decide) ?_
          refine aw_if_eq (tgt := 86) dX0_take_70 (by decide) (fun hc5 => ?_) (fun hc5 => ?_)
          · have hf := ax_pos hc5 hf
            refine aw_less (L' := [none, none]) trivial ?_
            cases hf
            exact hK
          · have hf := ax_neg hc5 hf
            refine aw_aload_n dX0_take_73 rfl rfl ?_
            refine aw_dup dX0_take_74 rfl ?_
            refine aw_gI dX0_take_75 fl_X0_26 sh_46 rfl ?_
            refine aw_iconst (v := 1) dX0_take_78 (by decide) ?_
            refine aw_iadd dX0_take_79 ?_
            refine aw_pI dX0_take_80 fp_X0_26 sh_46 rfl rfl rfl ?_
            refine aw_goto (tgt := 52) dX0_take_83 (by decide) ?_
            cases hf
            exact hK
      · cases hf
        exact aw_vret dX0_take_86 hq (Nat.le_refl _) (Nat.le_refl _)
noncomputable def f_X0_goingGain (x1 : Int32) (x2 : Int32) (s : sx_M) : Option (Int64 × sx_M) :=
  (f_X1_at 3 x1 x2 s).bind (fun p1 =>
 (if p1.1 = (9223372036854775807 : Int64) then
 some ((-9223372036854775808 : Int64), p1.2)
else
 (if ¬ (x1 < 0 ∨ 7 ≤ (x1).toNatClampNeg) then
 (f_X1_at 3 x1 (rA p1.2 47 (x1).toNatClampNeg) p1.2).bind (fun p2 =>
 some ((p2.1 - p1.1), p2.2))
else none)))
set_option maxRecDepth 100000 in
set_option maxHeartbeats 4000000 in
theorem k_X0_goingGain {l : Launch} {X : ax_X} {Q : Option Value → ax_H → Prop} (x1 : Int32) (x2 : Int32) (s : sx_M) (gb : ax_H) {p : Int64 × sx_M} (hf : f_X0_goingGain x1 x2 s = some p) (hq : Q (some (.long p.1)) (hp p.2 gb)) : AM l X yX0_goingGain cX0_goingGain 5 (some .long) 1 0 0 [.ref 46, .int x1, .int x2] (hp s gb) Q := by
  refine aw_met (own := RX0) (nm := "goingGain") (L := [some (.ref 46), some (.int x1), some (.int x2), none, none]) (by decide +kernel) rfl rfl (And.intro rfl (And.intro rfl (And.intro rfl trivial))) (Nat.le_of_ble_eq_true rfl) ?_
  unfold f_X0_goingGain at hf
  refine aw_aload_n dX0_goingGain_0 rfl rfl ?_
  refine aw_gR dX0_goingGain_1 fl_X0_18 sh_46 rfl ?_
  refine aw_iload_n dX0_goingGain_4 rfl rfl ?_
  refine aw_iload_n dX0_goingGain_5 rfl rfl ?_
  obtain ⟨p1, hp1, hf⟩ := ax_bind hf
  refine aw_cVl (As := [.int x1, .int x2]) (st := []) dX0_goingGain_6 cl_X0_44 iv_X1_at (k_X1_at (Q := (fun v h' => v = some (.long p1.1) ∧ h' = hp p1.2 gb)) 3 x1 x2 s gb ax_G3 hp1 ⟨rfl, rfl⟩) (ci := 1) rfl (hp_get sh_3) rfl rfl rfl (Nat.le_of_ble_eq_true rfl) rfl (by decide) (by decide) ?_
  refine aw_lstore_n (L' := [some (.ref 46), some (.int x1), some (.int x2), some (.long p1.1), none]) dX0_goingGain_9 rfl (by decide) rfl ?_
  refine aw_lload_n dX0_goingGain_10 rfl rfl ?_
  refine aw_ldc2 dX0_goingGain_11 kc_X0_39 ?_
  refine aw_lcmp_ne (tgt := 24) dX0_goingGain_14 dX0_goingGain_15 (by decide) (fun hc2 => ?_) (fun hc2 => ?_)
  · have hf := ax_neg hc2 hf
    refine aw_aload_n dX0_goingGain_24 rfl rfl ?_
    refine aw_gR dX0_goingGain_25 fl_X0_18 sh_46 rfl ?_
    refine aw_iload_n dX0_goingGain_28 rfl rfl ?_
    refine aw_aload_n dX0_goingGain_29 rfl rfl ?_
    refine aw_gR dX0_goingGain_30 fl_X0_9 sh_46 rfl ?_
    refine aw_iload_n dX0_goingGain_33 rfl rfl ?_
    obtain ⟨hc1, hf⟩ := ax_ite hf
    refine aw_lA dX0_goingGain_34 sh_47 hc1 ?_
    obtain ⟨p2, hp2, hf⟩ := ax_bind hf
    refine aw_cVl (As := [.int x1, .int (rA p1.2 47 (x1).toNatClampNeg)]) (st := []) dX0_goingGain_35 cl_X0_44 iv_X1_at (k_X1_at (Q := (fun v h' => v = some (.long p2.1) ∧ h' = hp p2.2 gb)) 3 x1 (rA p1.2 47 (x1).toNatClampNeg) p1.2 gb ax_G3 hp2 ⟨rfl, rfl⟩) (ci := 1) rfl (hp_get sh_3) rfl rfl rfl (Nat.le_of_ble_eq_true rfl) rfl (by decide) (by decide) ?_
    refine aw_lload_n dX0_goingGain_38 rfl rfl ?_
    refine aw_lsub dX0_goingGain_39 ?_
    cases hf
    exact aw_lret dX0_goingGain_40 hq (Nat.le_refl _) (Nat.le_refl _)
  · have hf := ax_pos hc2 hf
    refine aw_ldc2 dX0_goingGain_18 kc_X0_79 ?_
    refine aw_goto (tgt := 40) dX0_goingGain_21 (by decide) ?_
    cases hf
    exact aw_lret dX0_goingGain_40 hq (Nat.le_refl _) (Nat.le_refl _)
noncomputable def f_X0_weigh (x1 : Int32) (x2 : Int32) (x3 : Int64) (s : sx_M) : Option sx_M :=
  (if x3 ≤ (rJ s 46 6) then
 some s
else
 some (wI (wI (wJ s 46 6 x3) 46 7 x1) 46 8 x2))
set_option maxRecDepth 100000 in
set_option maxHeartbeats 4000000 in
theorem k_X0_weigh {l : Launch} {X : ax_X} {Q : Option Value → ax_H → Prop} (x1 : Int32) (x2 : Int32) (x3 : Int64) (s : sx_M) (gb : ax_H) {p : sx_M} (hf : f_X0_weigh x1 x2 x3 s = some p) (hq : Q (none) (hp p gb)) : AM l X yX0_weigh cX0_weigh 5 none 0 0 0 [.ref 46, .int x1, .int x2, .long x3] (hp s gb) Q := by
  refine aw_met (own := RX0) (nm := "weigh") (L := [some (.ref 46), some (.int x1), some (.int x2), some (.long x3), none]) (by decide +kernel) rfl rfl (And.intro rfl (And.intro rfl (And.intro rfl (And.intro rfl trivial)))) (Nat.le_of_ble_eq_true rfl) ?_
  unfold f_X0_weigh at hf
  refine aw_lload_n dX0_weigh_0 rfl rfl ?_
  refine aw_aload_n dX0_weigh_1 rfl rfl ?_
  refine aw_gJ dX0_weigh_2 fl_X0_66 sh_46 rfl ?_
  refine aw_lcmp_le (tgt := 24) dX0_weigh_5 dX0_weigh_6 (by decide) (fun hc1 => ?_) (fun hc1 => ?_)
  · have hf := ax_pos hc1 hf
    cases hf
    exact aw_vret dX0_weigh_24 hq (Nat.le_refl _) (Nat.le_refl _)
  · have hf := ax_neg hc1 hf
    refine aw_aload_n dX0_weigh_9 rfl rfl ?_
    refine aw_lload_n dX0_weigh_10 rfl rfl ?_
    refine aw_pJ dX0_weigh_11 fp_X0_66 sh_46 rfl ?_
    refine aw_aload_n dX0_weigh_14 rfl rfl ?_
    refine aw_iload_n dX0_weigh_15 rfl rfl ?_
    refine aw_pI dX0_weigh_16 fp_X0_81 sh_46 rfl rfl rfl ?_
    refine aw_aload_n dX0_weigh_19 rfl rfl ?_
    refine aw_iload_n dX0_weigh_20 rfl rfl ?_
    refine aw_pI dX0_weigh_21 fp_X0_84 sh_46 rfl rfl rfl ?_
    cases hf
    exact aw_vret dX0_weigh_24 hq (Nat.le_refl _) (Nat.le_refl _)
noncomputable def f_X0_changingGain (x1 : Int32) (x2 : Int32) (s : sx_M) : Option (Int64 × sx_M) :=
  (if ¬ (x2 < 0 ∨ 7 ≤ (x2).toNatClampNeg) then
 (f_X0_goingGain x1 (rA s 47 (x2).toNatClampNeg) s).bind (fun p1 =>
 (if ¬ (x1 < 0 ∨ 7 ≤ (x1).toNatClampNeg) then
 (f_X0_goingGain x2 (rA p1.2 47 (x1).toNatClampNeg) p1.2).bind (fun p2 =>
 (if p1.1 = (-9223372036854775808 : Int64) then
 some ((-9223372036854775808 : Int64), p2.2)
else
 (if p2.1 = (-9223372036854775808 : Int64) then
 some ((-9223372036854775808 : Int64), p2.2)
else
 some ((p1.1 + p2.1), p2.2))))
else none))
else none)
set_option maxRecDepth 100000 in
set_option maxHeartbeats 4000000 in
theorem k_X0_changingGain {l : Launch} {X : ax_X} {Q : Option Value → ax_H → Prop} (x1 : Int32) (x2 : Int32) (s : sx_M) (gb : ax_H) {p : Int64 × sx_M} (hf : f_X0_changingGain x1 x2 s = some p) (hq : Q (some (.long p.1)) (hp p.2 gb)) : AM l X yX0_changingGain cX0_changingGain 7 (some .long) 2 0 0 [.ref 46, .int x1, .int x2] (hp s gb) Q := by
  refine aw_met (own := RX0) (nm := "changingGain") (L := [some (.ref 46), some (.int x1), some (.int x2), none, none, none, none]) (by decide +kernel) rfl rfl (And.intro rfl (And.intro rfl (And.intro rfl trivial))) (Nat.le_of_ble_eq_true rfl) ?_
  unfold f_X0_changingGain at hf
  refine aw_aload_n dX0_changingGain_0 rfl rfl ?_
  refine aw_iload_n dX0_changingGain_1 rfl rfl ?_
  refine aw_aload_n dX0_changingGain_2 rfl rfl ?_
  refine aw_gR dX0_changingGain_3 fl_X0_9 sh_46 rfl ?_
  refine aw_iload_n dX0_changingGain_6 rfl rfl ?_
  obtain ⟨hc1, hf⟩ := ax_ite hf
  refine aw_lA dX0_changingGain_7 sh_47 hc1 ?_
  obtain ⟨p1, hp1, hf⟩ := ax_bind hf
  refine aw_cVl (As := [.int x1, .int (rA s 47 (x2).toNatClampNeg)]) (st := []) dX0_changingGain_8 cl_X0_69 iv_X0_goingGain (k_X0_goingGain (Q := (fun v h' => v = some (.long p1.1) ∧ h' = hp p1.2 gb)) x1 (rA s 47 (x2).toNatClampNeg) s gb hp1 ⟨rfl, rfl⟩) (ci := 0) rfl (hp_get sh_46) rfl rfl rfl (Nat.le_of_ble_eq_true rfl) rfl (by decide) (by decide) ?_
  refine aw_lstore_n (L' := [some (.ref 46), some (.int x1), some (.int x2), some (.long p1.1), none, none, none]) dX0_changingGain_11 rfl (by decide) rfl ?_
  refine aw_aload_n dX0_changingGain_12 rfl rfl ?_
  refine aw_iload_n dX0_changingGain_13 rfl rfl ?_
  refine aw_aload_n dX0_changingGain_14 rfl rfl ?_
  refine aw_gR dX0_changingGain_15 fl_X0_9 sh_46 rfl ?_
  refine aw_iload_n dX0_changingGain_18 rfl rfl ?_
  obtain ⟨hc2, hf⟩ := ax_ite hf
  refine aw_lA dX0_changingGain_19 sh_47 hc2 ?_
  obtain ⟨p2, hp2, hf⟩ := ax_bind hf
  refine aw_cVl (As := [.int x2, .int (rA p1.2 47 (x1).toNatClampNeg)]) (st := []) dX0_changingGain_20 cl_X0_69 iv_X0_goingGain (k_X0_goingGain (Q := (fun v h' => v = some (.long p2.1) ∧ h' = hp p2.2 gb)) x2 (rA p1.2 47 (x1).toNatClampNeg) p1.2 gb hp2 ⟨rfl, rfl⟩) (ci := 0) rfl (hp_get sh_46) rfl rfl rfl (Nat.le_of_ble_eq_true rfl) rfl (by decide) (by decide) ?_
  refine aw_lstore (L' := [some (.ref 46), some (.int x1), some (.int x2), some (.long p1.1), none, some (.long p2.1), none]) dX0_changingGain_23 (by decide) rfl ?_
  refine aw_lload_n dX0_changingGain_25 rfl rfl ?_
  refine aw_ldc2 dX0_changingGain_26 kc_X0_79 ?_
  refine aw_lcmp_eq (tgt := 42) dX0_changingGain_29 dX0_changingGain_30 (by decide) (fun hc4 => ?_) (fun hc4 => ?_)
  · have hf := ax_pos hc4 hf
    refine aw_ldc2 dX0_changingGain_42 kc_X0_79 ?_
    refine aw_goto (tgt := 52) dX0_changingGain_45 (by decide) ?_
    cases hf
    exact aw_lret dX0_changingGain_52 hq (Nat.le_refl _) (Nat.le_refl _)
  · have hf := ax_neg hc4 hf
    refine aw_lload dX0_changingGain_33 rfl ?_
    refine aw_ldc2 dX0_changingGain_35 kc_X0_79 ?_
    refine aw_lcmp_ne (tgt := 48) dX0_changingGain_38 dX0_changingGain_39 (by decide) (fun hc3 => ?_) (fun hc3 => ?_)
    · have hf := ax_neg hc3 hf
      refine aw_lload_n dX0_changingGain_48 rfl rfl ?_
      refine aw_lload dX0_changingGain_49 rfl ?_
      refine aw_ladd dX0_changingGain_51 ?_
      cases hf
      exact aw_lret dX0_changingGain_52 hq (Nat.le_refl _) (Nat.le_refl _)
    · have hf := ax_pos hc3 hf
      refine aw_ldc2 dX0_changingGain_42 kc_X0_79 ?_
      refine aw_goto (tgt := 52) dX0_changingGain_45 (by decide) ?_
      cases hf
      exact aw_lret dX0_changingGain_52 hq (Nat.le_refl _) (Nat.le_refl _)
noncomputable def f_X0_findStep_L20 (z1 : Int32) (a20 : Int32 × sx_M) : Option ((Int32 × sx_M) ⊕ (sx_M)) :=
  (if (rI a20.2 3 2) ≤ a20.1 then
 some (.inr a20.2)
else
 (if ¬ (a20.1 < 0 ∨ 8 ≤ (a20.1).toNatClampNeg) then
 (if (rA a20.2 48 (a20.1).toNatClampNeg) = (-1 : Int32) then
 (f_X0_goingGain z1 a20.1 a20.2).bind (fun p1 =>
 (f_X0_weigh z1 a20.1 p1.1 p1.2).bind (fun p2 =>
 some (.inl ((a20.1 + (1 : Int32)), p2))))
else
 some (.inl ((a20.1 + (1 : Int32)), a20.2)))
else none))
noncomputable def f_X0_findStep_L7 (a7 : Int32 × sx_M) : Option ((Int32 × sx_M) ⊕ (sx_M)) :=
  (if (rI a7.2 3 1) ≤ a7.1 then
 some (.inr a7.2)
else
 (whT (f_X0_findStep_L20 a7.1) ((0 : Int32), a7.2)).bind (fun b3 =>
 some (.inl ((a7.1 + (1 : Int32)), b3))))
noncomputable def f_X0_findStep_L82 (z1 : Int32) (a82 : Int32 × sx_M) : Option ((Int32 × sx_M) ⊕ (sx_M)) :=
  (if (rI a82.2 3 1) ≤ a82.1 then
 some (.inr a82.2)
else
 (if ¬ (a82.1 < 0 ∨ 7 ≤ (a82.1).toNatClampNeg) then
 (f_X0_changingGain z1 a82.1 a82.2).bind (fun p5 =>
 (f_X0_weigh z1 (rA a82.2 47 (a82.1).toNatClampNeg) p5.1 p5.2).bind (fun p6 =>
 some (.inl ((a82.1 + (1 : Int32)), p6))))
else none))
noncomputable def f_X0_findStep_L67 (a67 : Int32 × sx_M) : Option ((Int32 × sx_M) ⊕ (sx_M)) :=
  (if (rI a67.2 3 1) ≤ a67.1 then
 some (.inr a67.2)
else
 (whT (f_X0_findStep_L82 a67.1) ((a67.1 + (1 : Int32)), a67.2)).bind (fun b7 =>
 some (.inl ((a67.1 + (1 : Int32)), b7))))
noncomputable def f_X0_findStep (s : sx_M) : Option (Int32 × sx_M) :=
  (whT (f_X0_findStep_L7) ((0 : Int32), (wJ s 46 6 (0 : Int64)))).bind (fun b4 =>
 (whT (f_X0_findStep_L67) ((0 : Int32), b4)).bind (fun b8 =>
 (if (rJ b8 46 6) ≤ (0 : Int64) then
 some ((0 : Int32), b8)
else
 some ((1 : Int32), b8))))
set_option maxRecDepth 100000 in
set_option maxHeartbeats 4000000 in
theorem k_X0_findStep {l : Launch} {X : ax_X} {Q : Option Value → ax_H → Prop} (s : sx_M) (gb : ax_H) {p : Int32 × sx_M} (hf : f_X0_findStep s = some p) (hq : Q (some (.int p.1)) (hp p.2 gb)) : AM l X yX0_findStep cX0_findStep 3 (some .boolean) 3 0 0 [.ref 46] (hp s gb) Q := by
  refine aw_met (own := RX0) (nm := "findStep") (L := [some (.ref 46), none, none]) (by decide +kernel) rfl rfl (And.intro rfl trivial) (Nat.le_of_ble_eq_true rfl) ?_
  unfold f_X0_findStep at hf
  refine aw_aload_n dX0_findStep_0 rfl rfl ?_
  refine aw_lconst (v := 0) dX0_findStep_1 (by decide) ?_
  refine aw_pJ dX0_findStep_2 fp_X0_66 sh_46 rfl ?_
  refine aw_iconst (v := 0) dX0_findStep_5 (by decide) ?_
  refine aw_istore_n (L' := [some (.ref 46), some (.int (0 : Int32)), none]) dX0_findStep_6 rfl (by decide) rfl ?_
  obtain ⟨b4, hb4, hf⟩ := ax_bind hf
  refine wh_go ((0 : Int32), (wJ s 46 6 (0 : Int64))) (fun a7 : Int32 × sx_M => AW l X RX0 "findStep" cX0_findStep 3 (some .boolean) (ax_rm 3 0 0) (ax_MQ X Q 0 0) 0 0 7 [some (.ref 46), some (.int a7.1), none] [] (hp a7.2 gb)) (fun e : sx_M => AW l X RX0 "findStep" cX0_findStep 3 (some .boolean) (ax_rm 3 0 0) (ax_MQ X Q 0 0) 0 0 65 [some (.ref 46), none, none] [] (hp e gb)) hb4 ?_ ?_
  · intro a7 r hf hK
    unfold f_X0_findStep_L7 at hf
    refine aw_iload_n dX0_findStep_7 rfl rfl ?_
    refine aw_aload_n dX0_findStep_8 rfl rfl ?_
    refine aw_gR dX0_findStep_9 fl_X0_18 sh_46 rfl ?_
    refine aw_gI dX0_findStep_12 fl_X0_30 sh_3 rfl ?_
    refine aw_icmp_ge (tgt := 65) dX0_findStep_15 (by decide) (fun hc4 => ?_) (fun hc4 => ?_)
    · have hf := ax_pos hc4 hf
      refine aw_less (L' := [some (.ref 46), none, none]) (And.intro rfl trivial) ?_
      cases hf
      exact hK
    · have hf := ax_neg hc4 hf
      refine aw_iconst (v := 0) dX0_findStep_18 (by decide) ?_
      refine aw_istore_n (L' := [some (.ref 46), some (.int a7.1), some (.int (0 : Int32))]) dX0_findStep_19 rfl (by decide) rfl ?_
      obtain ⟨b3, hb3, hf⟩ := ax_bind hf
      refine wh_go ((0 : Int32), a7.2) (fun a20 : Int32 × sx_M => AW l X RX0 "findStep" cX0_findStep 3 (some .boolean) (ax_rm 3 0 0) (ax_MQ X Q 0 0) 0 0 20 [some (.ref 46), some (.int a7.1), some (.int a20.1)] [] (hp a20.2 gb)) (fun e : sx_M => AW l X RX0 "findStep" cX0_findStep 3 (some .boolean) (ax_rm 3 0 0) (ax_MQ X Q 0 0) 0 0 59 [some (.ref 46), some (.int a7.1), none] [] (hp e gb)) hb3 ?_ ?_
      · intro a20 r hf hK
        unfold f_X0_findStep_L20 at hf
        refine aw_iload_n dX0_findStep_20 rfl rfl ?_
        refine aw_aload_n dX0_findStep_21 rfl rfl ?_
        refine aw_gR dX0_findStep_22 fl_X0_18 sh_46 rfl ?_
        refine aw_gI dX0_findStep_25 fl_X0_41 sh_3 rfl ?_
        refine aw_icmp_ge (tgt := 59) dX0_findStep_28 (by decide) (fun hc3 => ?_) (fun hc3 => ?_)
        · have hf := ax_pos hc3 hf
          refine aw_less (L' := [some (.ref 46), some (.int a7.1), none]) (And.intro rfl (And.intro rfl trivial)) ?_
          cases hf
          exact hK
        · have hf := ax_neg hc3 hf
          refine aw_aload_n dX0_findStep_31 rfl rfl ?_
          refine aw_gR dX0_findStep_32 fl_X0_15 sh_46 rfl ?_
          refine aw_iload_n dX0_findStep_35 rfl rfl ?_
          obtain ⟨hc1, hf⟩ := ax_ite hf
          refine aw_lA dX0_findStep_36 sh_48 hc1 ?_
          refine aw_iconst (v := -1) dX0_findStep_37 (by decide) ?_
          refine aw_icmp_ne (tgt := 53) dX0_findStep_38 (by decide) (fun hc2 => ?_) (fun hc2 => ?_)
          · have hf := ax_neg hc2 hf
            refine aw_iinc (v := (a20.1 + (1 : Int32))) (L' := [some (.ref 46), some (.int a7.1), some (.int (a20.1 + (1 : Int32)))]) dX0_findStep_53 rfl rfl (by decide) rfl ?_
            refine aw_goto (tgt := 20) dX0_findStep_56 (by decide) ?_
            cases hf
            exact hK
          · have hf := ax_pos hc2 hf
            refine aw_aload_n dX0_findStep_41 rfl rfl ?_
            refine aw_iload_n dX0_findStep_42 rfl rfl ?_
            refine aw_iload_n dX0_findStep_43 rfl rfl ?_
            refine aw_aload_n dX0_findStep_44 rfl rfl ?_
            refine aw_iload_n dX0_findStep_45 rfl rfl ?_
            refine aw_iload_n dX0_findStep_46 rfl rfl ?_
            obtain ⟨p1, hp1, hf⟩ := ax_bind hf
            refine aw_cVl (As := [.int a7.1, .int a20.1]) (st := [.int a20.1, .int a7.1, .ref 46]) dX0_findStep_47 cl_X0_69 iv_X0_goingGain (k_X0_goingGain (Q := (fun v h' => v = some (.long p1.1) ∧ h' = hp p1.2 gb)) a7.1 a20.1 a20.2 gb hp1 ⟨rfl, rfl⟩) (ci := 0) rfl (hp_get sh_46) rfl rfl rfl (Nat.le_of_ble_eq_true rfl) rfl (by decide) (by decide) ?_
            obtain ⟨p2, hp2, hf⟩ := ax_bind hf
            refine aw_cVv (As := [.int a7.1, .int a20.1, .long p1.1]) (st := []) dX0_findStep_50 cl_X0_72 iv_X0_weigh (k_X0_weigh (Q := (fun v h' => v = none ∧ h' = hp p2 gb)) a7.1 a20.1 p1.1 p1.2 gb hp2 ⟨rfl, rfl⟩) (ci := 0) rfl (hp_get sh_46) rfl rfl rfl (Nat.le_of_ble_eq_true rfl) rfl (by decide) (by decide) ?_
            refine aw_iinc (v := (a20.1 + (1 : Int32))) (L' := [some (.ref 46), some (.int a7.1), some (.int (a20.1 + (1 : Int32)))]) dX0_findStep_53 rfl rfl (by decide) rfl ?_
            refine aw_goto (tgt := 20) dX0_findStep_56 (by decide) ?_
            cases hf
            exact hK
      · refine aw_iinc (v := (a7.1 + (1 : Int32))) (L' := [some (.ref 46), some (.int (a7.1 + (1 : Int32))), none]) dX0_findStep_59 rfl rfl (by decide) rfl ?_
        refine aw_goto (tgt := 7) dX0_findStep_62 (by decide) ?_
        cases hf
        exact hK
  · refine aw_iconst (v := 0) dX0_findStep_65 (by decide) ?_
    refine aw_istore_n (L' := [some (.ref 46), some (.int (0 : Int32)), none]) dX0_findStep_66 rfl (by decide) rfl ?_
    obtain ⟨b8, hb8, hf⟩ := ax_bind hf
    refine wh_go ((0 : Int32), b4) (fun a67 : Int32 × sx_M => AW l X RX0 "findStep" cX0_findStep 3 (some .boolean) (ax_rm 3 0 0) (ax_MQ X Q 0 0) 0 0 67 [some (.ref 46), some (.int a67.1), none] [] (hp a67.2 gb)) (fun e : sx_M => AW l X RX0 "findStep" cX0_findStep 3 (some .boolean) (ax_rm 3 0 0) (ax_MQ X Q 0 0) 0 0 122 [some (.ref 46), none, none] [] (hp e gb)) hb8 ?_ ?_
    · intro a67 r hf hK
      unfold f_X0_findStep_L67 at hf
      refine aw_iload_n dX0_findStep_67 rfl rfl ?_
      refine aw_aload_n dX0_findStep_68 rfl rfl ?_
      refine aw_gR dX0_findStep_69 fl_X0_18 sh_46 rfl ?_
      refine aw_gI dX0_findStep_72 fl_X0_30 sh_3 rfl ?_
      refine aw_icmp_ge (tgt := 122) dX0_findStep_75 (by decide) (fun hc7 => ?_) (fun hc7 => ?_)
      · have hf := ax_pos hc7 hf
        refine aw_less (L' := [some (.ref 46), none, none]) (And.intro rfl trivial) ?_
        cases hf
        exact hK
      · have hf := ax_neg hc7 hf
        refine aw_iload_n dX0_findStep_78 rfl rfl ?_
        refine aw_iconst (v := 1) dX0_findStep_79 (by decide) ?_
        refine aw_iadd dX0_findStep_80 ?_
        refine aw_istore_n (L' := [some (.ref 46), some (.int a67.1), some (.int (a67.1 + (1 : Int32)))]) dX0_findStep_81 rfl (by decide) rfl ?_
        obtain ⟨b7, hb7, hf⟩ := ax_bind hf
        refine wh_go ((a67.1 + (1 : Int32)), a67.2) (fun a82 : Int32 × sx_M => AW l X RX0 "findStep" cX0_findStep 3 (some .boolean) (ax_rm 3 0 0) (ax_MQ X Q 0 0) 0 0 82 [some (.ref 46), some (.int a67.1), some (.int a82.1)] [] (hp a82.2 gb)) (fun e : sx_M => AW l X RX0 "findStep" cX0_findStep 3 (some .boolean) (ax_rm 3 0 0) (ax_MQ X Q 0 0) 0 0 116 [some (.ref 46), some (.int a67.1), none] [] (hp e gb)) hb7 ?_ ?_
        · intro a82 r hf hK
          unfold f_X0_findStep_L82 at hf
          refine aw_iload_n dX0_findStep_82 rfl rfl ?_
          refine aw_aload_n dX0_findStep_83 rfl rfl ?_
          refine aw_gR dX0_findStep_84 fl_X0_18 sh_46 rfl ?_
          refine aw_gI dX0_findStep_87 fl_X0_30 sh_3 rfl ?_
          refine aw_icmp_ge (tgt := 116) dX0_findStep_90 (by decide) (fun hc6 => ?_) (fun hc6 => ?_)
          · have hf := ax_pos hc6 hf
            refine aw_less (L' := [some (.ref 46), some (.int a67.1), none]) (And.intro rfl (And.intro rfl trivial)) ?_
            cases hf
            exact hK
          · have hf := ax_neg hc6 hf
            refine aw_aload_n dX0_findStep_93 rfl rfl ?_
            refine aw_iload_n dX0_findStep_94 rfl rfl ?_
            refine aw_aload_n dX0_findStep_95 rfl rfl ?_
            refine aw_gR dX0_findStep_96 fl_X0_9 sh_46 rfl ?_
            refine aw_iload_n dX0_findStep_99 rfl rfl ?_
            obtain ⟨hc5, hf⟩ := ax_ite hf
            refine aw_lA dX0_findStep_100 sh_47 hc5 ?_
            refine aw_aload_n dX0_findStep_101 rfl rfl ?_
            refine aw_iload_n dX0_findStep_102 rfl rfl ?_
            refine aw_iload_n dX0_findStep_103 rfl rfl ?_
            obtain ⟨p5, hp5, hf⟩ := ax_bind hf
            refine aw_cVl (As := [.int a67.1, .int a82.1]) (st := [.int (rA a82.2 47 (a82.1).toNatClampNeg), .int a67.1, .ref 46]) dX0_findStep_104 cl_X0_76 iv_X0_changingGain (k_X0_changingGain (Q := (fun v h' => v = some (.long p5.1) ∧ h' = hp p5.2 gb)) a67.1 a82.1 a82.2 gb hp5 ⟨rfl, rfl⟩) (ci := 0) rfl (hp_get sh_46) rfl rfl rfl (Nat.le_of_ble_eq_true rfl) rfl (by decide) (by decide) ?_
            obtain ⟨p6, hp6, hf⟩ := ax_bind hf
            refine aw_cVv (As := [.int a67.1, .int (rA a82.2 47 (a82.1).toNatClampNeg), .long p5.1]) (st := []) dX0_findStep_107 cl_X0_72 iv_X0_weigh (k_X0_weigh (Q := (fun v h' => v = none ∧ h' = hp p6 gb)) a67.1 (rA a82.2 47 (a82.1).toNatClampNeg) p5.1 p5.2 gb hp6 ⟨rfl, rfl⟩) (ci := 0) rfl (hp_get sh_46) rfl rfl rfl (Nat.le_of_ble_eq_true rfl) rfl (by decide) (by decide) ?_
            refine aw_iinc (v := (a82.1 + (1 : Int32))) (L' := [some (.ref 46), some (.int a67.1), some (.int (a82.1 + (1 : Int32)))]) dX0_findStep_110 rfl rfl (by decide) rfl ?_
            refine aw_goto (tgt := 82) dX0_findStep_113 (by decide) ?_
            cases hf
            exact hK
        · refine aw_iinc (v := (a67.1 + (1 : Int32))) (L' := [some (.ref 46), some (.int (a67.1 + (1 : Int32))), none]) dX0_findStep_116 rfl rfl (by decide) rfl ?_
          refine aw_goto (tgt := 67) dX0_findStep_119 (by decide) ?_
          cases hf
          exact hK
    · refine aw_aload_n dX0_findStep_122 rfl rfl ?_
      refine aw_gJ dX0_findStep_123 fl_X0_66 sh_46 rfl ?_
      refine aw_lconst (v := 0) dX0_findStep_126 (by decide) ?_
      refine aw_lcmp_le (tgt := 135) dX0_findStep_127 dX0_findStep_128 (by decide) (fun hc8 => ?_) (fun hc8 => ?_)
      · have hf := ax_pos hc8 hf
        refine aw_iconst (v := 0) dX0_findStep_135 (by decide) ?_
        cases hf
        exact aw_zret dX0_findStep_136 (by decide) hq (Nat.le_refl _) (Nat.le_refl _)
      · have hf := ax_neg hc8 hf
        refine aw_iconst (v := 1) dX0_findStep_131 (by decide) ?_
        refine aw_goto (tgt := 136) dX0_findStep_132 (by decide) ?_
        cases hf
        exact aw_zret dX0_findStep_136 (by decide) hq (Nat.le_refl _) (Nat.le_refl _)
noncomputable def f_X0_doStep_J58 (s_58 : sx_M) : Option sx_M :=
  some (wJ s_58 46 3 ((rJ s_58 46 3) - (rJ s_58 46 6)))
noncomputable def f_X0_doStep (s : sx_M) : Option sx_M :=
  (if ¬ ((rI s 46 7) < 0 ∨ 7 ≤ ((rI s 46 7)).toNatClampNeg) then
 (if ¬ ((rI s 46 8) < 0 ∨ 8 ≤ ((rI s 46 8)).toNatClampNeg) then
 (f_X0_seat (rI s 46 7) (rI s 46 8) s).bind (fun p1 =>
 (if (rA s 48 ((rI s 46 8)).toNatClampNeg) = (-1 : Int32) then
 (if (rA s 47 ((rI s 46 7)).toNatClampNeg) = (-1 : Int32) then
 f_X0_doStep_J58 p1
else
 (if ¬ ((rA s 47 ((rI s 46 7)).toNatClampNeg) < 0 ∨ 8 ≤ ((rA s 47 ((rI s 46 7)).toNatClampNeg)).toNatClampNeg) then
 f_X0_doStep_J58 (wA p1 48 ((rA s 47 ((rI s 46 7)).toNatClampNeg)).toNatClampNeg (-1 : Int32))
else none))
else
 (f_X0_seat (rA s 48 ((rI s 46 8)).toNatClampNeg) (rA s 47 ((rI s 46 7)).toNatClampNeg) p1).bind (fun p2 =>
 f_X0_doStep_J58 p2)))
else none)
else none)
set_option maxRecDepth 100000 in
set_option maxHeartbeats 4000000 in
theorem k_X0_doStep {l : Launch} {X : ax_X} {Q : Option Value → ax_H → Prop} (s : sx_M) (gb : ax_H) {p : sx_M} (hf : f_X0_doStep s = some p) (hq : Q (none) (hp p gb)) : AM l X yX0_doStep cX0_doStep 3 none 2 0 0 [.ref 46] (hp s gb) Q := by
  refine aw_met (own := RX0) (nm := "doStep") (L := [some (.ref 46), none, none]) (by decide +kernel) rfl rfl (And.intro rfl trivial) (Nat.le_of_ble_eq_true rfl) ?_
  unfold f_X0_doStep at hf
  have J58 : ∀ (s_58 : sx_M), f_X0_doStep_J58 s_58 = some p → AW l X RX0 "doStep" cX0_doStep 3 none (ax_rm 2 0 0) (ax_MQ X Q 0 0) 0 0 58 [some (.ref 46), none, none] [] (hp s_58 gb) := by
    intro s_58 hf
    unfold f_X0_doStep_J58 at hf
    refine aw_aload_n dX0_doStep_58 rfl rfl ?_
    refine aw_dup dX0_doStep_59 rfl ?_
    refine aw_gJ dX0_doStep_60 fl_X0_22 sh_46 rfl ?_
    refine aw_aload_n dX0_doStep_63 rfl rfl ?_
    refine aw_gJ dX0_doStep_64 fl_X0_66 sh_46 rfl ?_
    refine aw_lsub dX0_doStep_67 ?_
    refine aw_pJ dX0_doStep_68 fp_X0_22 sh_46 rfl ?_
    cases hf
    exact aw_vret dX0_doStep_71 hq (Nat.le_refl _) (Nat.le_refl _)
  refine aw_aload_n dX0_doStep_0 rfl rfl ?_
  refine aw_gR dX0_doStep_1 fl_X0_9 sh_46 rfl ?_
  refine aw_aload_n dX0_doStep_4 rfl rfl ?_
  refine aw_gI dX0_doStep_5 fl_X0_81 sh_46 rfl ?_
  obtain ⟨hc1, hf⟩ := ax_ite hf
  refine aw_lA dX0_doStep_8 sh_47 hc1 ?_
  refine aw_istore_n (L' := [some (.ref 46), some (.int (rA s 47 ((rI s 46 7)).toNatClampNeg)), none]) dX0_doStep_9 rfl (by decide) rfl ?_
  refine aw_aload_n dX0_doStep_10 rfl rfl ?_
  refine aw_gR dX0_doStep_11 fl_X0_15 sh_46 rfl ?_
  refine aw_aload_n dX0_doStep_14 rfl rfl ?_
  refine aw_gI dX0_doStep_15 fl_X0_84 sh_46 rfl ?_
  obtain ⟨hc2, hf⟩ := ax_ite hf
  refine aw_lA dX0_doStep_18 sh_48 hc2 ?_
  refine aw_istore_n (L' := [some (.ref 46), some (.int (rA s 47 ((rI s 46 7)).toNatClampNeg)), some (.int (rA s 48 ((rI s 46 8)).toNatClampNeg))]) dX0_doStep_19 rfl (by decide) rfl ?_
  refine aw_aload_n dX0_doStep_20 rfl rfl ?_
  refine aw_aload_n dX0_doStep_21 rfl rfl ?_
  refine aw_gI dX0_doStep_22 fl_X0_81 sh_46 rfl ?_
  refine aw_aload_n dX0_doStep_25 rfl rfl ?_
  refine aw_gI dX0_doStep_26 fl_X0_84 sh_46 rfl ?_
  obtain ⟨p1, hp1, hf⟩ := ax_bind hf
  refine aw_cVv (As := [.int (rI s 46 7), .int (rI s 46 8)]) (st := []) dX0_doStep_29 cl_X0_48 iv_X0_seat (k_X0_seat (Q := (fun v h' => v = none ∧ h' = hp p1 gb)) (rI s 46 7) (rI s 46 8) s gb hp1 ⟨rfl, rfl⟩) (ci := 0) rfl (hp_get sh_46) rfl rfl rfl (Nat.le_of_ble_eq_true rfl) rfl (by decide) (by decide) ?_
  refine aw_iload_n dX0_doStep_32 rfl rfl ?_
  refine aw_iconst (v := -1) dX0_doStep_33 (by decide) ?_
  refine aw_icmp_eq (tgt := 46) dX0_doStep_34 (by decide) (fun hc5 => ?_) (fun hc5 => ?_)
  · have hf := ax_pos hc5 hf
    refine aw_iload_n dX0_doStep_46 rfl rfl ?_
    refine aw_iconst (v := -1) dX0_doStep_47 (by decide) ?_
    refine aw_icmp_eq (tgt := 58) dX0_doStep_48 (by decide) (fun hc4 => ?_) (fun hc4 => ?_)
    · have hf := ax_pos hc4 hf
      refine aw_less (L' := [some (.ref 46), none, none]) (And.intro rfl trivial) ?_
      exact J58 p1 hf
    · have hf := ax_neg hc4 hf
      refine aw_aload_n dX0_doStep_51 rfl rfl ?_
      refine aw_gR dX0_doStep_52 fl_X0_15 sh_46 rfl ?_
      refine aw_iload_n dX0_doStep_55 rfl rfl ?_
      refine aw_iconst (v := -1) dX0_doStep_56 (by decide) ?_
      obtain ⟨hc3, hf⟩ := ax_ite hf
      refine aw_sA dX0_doStep_57 sh_48 hc3 ?_
      refine aw_less (L' := [some (.ref 46), none, none]) (And.intro rfl trivial) ?_
      exact J58 (wA p1 48 ((rA s 47 ((rI s 46 7)).toNatClampNeg)).toNatClampNeg (-1 : Int32)) hf
  · have hf := ax_neg hc5 hf
    refine aw_aload_n dX0_doStep_37 rfl rfl ?_
    refine aw_iload_n dX0_doStep_38 rfl rfl ?_
    refine aw_iload_n dX0_doStep_39 rfl rfl ?_
    obtain ⟨p2, hp2, hf⟩ := ax_bind hf
    refine aw_cVv (As := [.int (rA s 48 ((rI s 46 8)).toNatClampNeg), .int (rA s 47 ((rI s 46 7)).toNatClampNeg)]) (st := []) dX0_doStep_40 cl_X0_48 iv_X0_seat (k_X0_seat (Q := (fun v h' => v = none ∧ h' = hp p2 gb)) (rA s 48 ((rI s 46 8)).toNatClampNeg) (rA s 47 ((rI s 46 7)).toNatClampNeg) p1 gb hp2 ⟨rfl, rfl⟩) (ci := 0) rfl (hp_get sh_46) rfl rfl rfl (Nat.le_of_ble_eq_true rfl) rfl (by decide) (by decide) ?_
    refine aw_goto (tgt := 58) dX0_doStep_43 (by decide) ?_
    refine aw_less (L' := [some (.ref 46), none, none]) (And.intro rfl trivial) ?_
    exact J58 p2 hf
noncomputable def f_X0_mend_L5 (a5 : sx_M) : Option ((sx_M) ⊕ (sx_M)) :=
  (if (rI a5 46 4) = (rI a5 3 1) then
 (if (139986 : Int32) ≤ (rI a5 46 5) then
 some (.inr a5)
else
 (f_X0_findStep a5).bind (fun p1 =>
 (if p1.1 = 0 then
 some (.inr p1.2)
else
 (f_X0_doStep p1.2).bind (fun p2 =>
 some (.inl (wI p2 46 5 ((rI p2 46 5) + (1 : Int32))))))))
else
 some (.inr a5))
noncomputable def f_X0_mend (s : sx_M) : Option sx_M :=
  (whT (f_X0_mend_L5) (wI s 46 5 (0 : Int32))).bind (fun b3 =>
 some b3)
set_option maxRecDepth 100000 in
set_option maxHeartbeats 4000000 in
theorem k_X0_mend {l : Launch} {X : ax_X} {Q : Option Value → ax_H → Prop} (s : sx_M) (gb : ax_H) {p : sx_M} (hf : f_X0_mend s = some p) (hq : Q (none) (hp p gb)) : AM l X yX0_mend cX0_mend 1 none 4 0 0 [.ref 46] (hp s gb) Q := by
  refine aw_met (own := RX0) (nm := "mend") (L := [some (.ref 46)]) (by decide +kernel) rfl rfl (And.intro rfl trivial) (Nat.le_of_ble_eq_true rfl) ?_
  unfold f_X0_mend at hf
  refine aw_aload_n dX0_mend_0 rfl rfl ?_
  refine aw_iconst (v := 0) dX0_mend_1 (by decide) ?_
  refine aw_pI dX0_mend_2 fp_X0_56 sh_46 rfl rfl rfl ?_
  obtain ⟨b3, hb3, hf⟩ := ax_bind hf
  refine wh_go (wI s 46 5 (0 : Int32)) (fun a5 : sx_M => AW l X RX0 "mend" cX0_mend 1 none (ax_rm 4 0 0) (ax_MQ X Q 0 0) 0 0 5 [some (.ref 46)] [] (hp a5 gb)) (fun e : sx_M => AW l X RX0 "mend" cX0_mend 1 none (ax_rm 4 0 0) (ax_MQ X Q 0 0) 0 0 52 [none] [] (hp e gb)) hb3 ?_ ?_
  · intro a5 r hf hK
    unfold f_X0_mend_L5 at hf
    refine aw_aload_n dX0_mend_5 rfl rfl ?_
    refine aw_gI dX0_mend_6 fl_X0_26 sh_46 rfl ?_
    refine aw_aload_n dX0_mend_9 rfl rfl ?_
    refine aw_gR dX0_mend_10 fl_X0_18 sh_46 rfl ?_
    refine aw_gI dX0_mend_13 fl_X0_30 sh_3 rfl ?_
    refine aw_icmp_ne (tgt := 52) dX0_mend_16 (by decide) (fun hc3 => ?_) (fun hc3 => ?_)
    · have hf := ax_neg hc3 hf
      refine aw_less (L' := [none]) trivial ?_
      cases hf
      exact hK
    · have hf := ax_pos hc3 hf
      refine aw_aload_n dX0_mend_19 rfl rfl ?_
      refine aw_gI dX0_mend_20 fl_X0_56 sh_46 rfl ?_
      refine aw_ldc dX0_mend_23 kc_X0_59 ?_
      refine aw_icmp_ge (tgt := 52) dX0_mend_25 (by decide) (fun hc2 => ?_) (fun hc2 => ?_)
      · have hf := ax_pos hc2 hf
        refine aw_less (L' := [none]) trivial ?_
        cases hf
        exact hK
      · have hf := ax_neg hc2 hf
        refine aw_aload_n dX0_mend_28 rfl rfl ?_
        obtain ⟨p1, hp1, hf⟩ := ax_bind hf
        refine aw_cVi (As := []) (st := []) dX0_mend_29 cl_X0_60 iv_X0_findStep (k_X0_findStep (Q := (fun v h' => v = some (.int p1.1) ∧ h' = hp p1.2 gb)) a5 gb hp1 ⟨rfl, rfl⟩) (ci := 0) rfl (hp_get sh_46) rfl rfl rfl (Nat.le_of_ble_eq_true rfl) rfl (by decide) (by decide) ?_
        refine aw_if_eq (tgt := 52) dX0_mend_32 (by decide) (fun hc1 => ?_) (fun hc1 => ?_)
        · have hf := ax_pos hc1 hf
          refine aw_less (L' := [none]) trivial ?_
          cases hf
          exact hK
        · have hf := ax_neg hc1 hf
          refine aw_aload_n dX0_mend_35 rfl rfl ?_
          obtain ⟨p2, hp2, hf⟩ := ax_bind hf
          refine aw_cVv (As := []) (st := []) dX0_mend_36 cl_X0_63 iv_X0_doStep (k_X0_doStep (Q := (fun v h' => v = none ∧ h' = hp p2 gb)) p1.2 gb hp2 ⟨rfl, rfl⟩) (ci := 0) rfl (hp_get sh_46) rfl rfl rfl (Nat.le_of_ble_eq_true rfl) rfl (by decide) (by decide) ?_
          refine aw_aload_n dX0_mend_39 rfl rfl ?_
          refine aw_dup dX0_mend_40 rfl ?_
          refine aw_gI dX0_mend_41 fl_X0_56 sh_46 rfl ?_
          refine aw_iconst (v := 1) dX0_mend_44 (by decide) ?_
          refine aw_iadd dX0_mend_45 ?_
          refine aw_pI dX0_mend_46 fp_X0_56 sh_46 rfl rfl rfl ?_
          refine aw_goto (tgt := 5) dX0_mend_49 (by decide) ?_
          cases hf
          exact hK
  · cases hf
    exact aw_vret dX0_mend_52 hq (Nat.le_refl _) (Nat.le_refl _)
noncomputable def f_X2_clear (s : sx_M) : Option sx_M :=
  some (wI s 20 2 (0 : Int32))
set_option maxRecDepth 100000 in
set_option maxHeartbeats 4000000 in
theorem k_X2_clear {l : Launch} {X : ax_X} {Q : Option Value → ax_H → Prop} (s : sx_M) (gb : ax_H) {p : sx_M} (hf : f_X2_clear s = some p) (hq : Q (none) (hp p gb)) : AM l X yX2_clear cX2_clear 1 none 0 0 0 [.ref 20] (hp s gb) Q := by
  refine aw_met (own := RX2) (nm := "clear") (L := [some (.ref 20)]) (by decide +kernel) rfl rfl (And.intro rfl trivial) (Nat.le_of_ble_eq_true rfl) ?_
  unfold f_X2_clear at hf
  refine aw_aload_n dX2_clear_0 rfl rfl ?_
  refine aw_iconst (v := 0) dX2_clear_1 (by decide) ?_
  refine aw_pI dX2_clear_2 fp_X2_16 sh_20 rfl rfl rfl ?_
  cases hf
  exact aw_vret dX2_clear_5 hq (Nat.le_refl _) (Nat.le_refl _)
noncomputable def f_X2_keep_J32 (s_32 : sx_M) : Option sx_M :=
  (if ¬ ((((rI s_32 20 1) + (rI s_32 20 2)) - ((rI s_32 20 1) + (rI s_32 20 2)) / (10 : Int32) * (10 : Int32)) < 0 ∨ 10 ≤ ((((rI s_32 20 1) + (rI s_32 20 2)) - ((rI s_32 20 1) + (rI s_32 20 2)) / (10 : Int32) * (10 : Int32))).toNatClampNeg) then
 (f_X1_copy (22 + 2 * ((((rI s_32 20 1) + (rI s_32 20 2)) - ((rI s_32 20 1) + (rI s_32 20 2)) / (10 : Int32) * (10 : Int32))).toNatClampNeg) 3 s_32).bind (fun p1 =>
 some (wI p1 20 2 ((rI p1 20 2) + (1 : Int32))))
else none)
noncomputable def f_X2_keep (s : sx_M) : Option sx_M :=
  (if (rI s 20 2) = (10 : Int32) then
 f_X2_keep_J32 (wI (wI s 20 1 (((rI s 20 1) + (1 : Int32)) - ((rI s 20 1) + (1 : Int32)) / (10 : Int32) * (10 : Int32))) 20 2 ((rI (wI s 20 1 (((rI s 20 1) + (1 : Int32)) - ((rI s 20 1) + (1 : Int32)) / (10 : Int32) * (10 : Int32))) 20 2) - (1 : Int32)))
else
 f_X2_keep_J32 s)
set_option maxRecDepth 100000 in
set_option maxHeartbeats 4000000 in
theorem k_X2_keep {l : Launch} {X : ax_X} {Q : Option Value → ax_H → Prop} (s : sx_M) (gb : ax_H) {p : sx_M} (hf : f_X2_keep s = some p) (hq : Q (none) (hp p gb)) : AM l X yX2_keep cX2_keep 2 none 1 0 0 [.ref 20, .ref 3] (hp s gb) Q := by
  refine aw_met (own := RX2) (nm := "keep") (L := [some (.ref 20), some (.ref 3)]) (by decide +kernel) rfl rfl (And.intro rfl (And.intro rfl trivial)) (Nat.le_of_ble_eq_true rfl) ?_
  unfold f_X2_keep at hf
  have J32 : ∀ (s_32 : sx_M), f_X2_keep_J32 s_32 = some p → AW l X RX2 "keep" cX2_keep 2 none (ax_rm 1 0 0) (ax_MQ X Q 0 0) 0 0 32 [some (.ref 20), some (.ref 3)] [] (hp s_32 gb) := by
    intro s_32 hf
    unfold f_X2_keep_J32 at hf
    refine aw_aload_n dX2_keep_32 rfl rfl ?_
    refine aw_gR dX2_keep_33 fl_X2_11 sh_20 rfl ?_
    refine aw_aload_n dX2_keep_36 rfl rfl ?_
    refine aw_gI dX2_keep_37 fl_X2_20 sh_20 rfl ?_
    refine aw_aload_n dX2_keep_40 rfl rfl ?_
    refine aw_gI dX2_keep_41 fl_X2_16 sh_20 rfl ?_
    refine aw_iadd dX2_keep_44 ?_
    refine aw_bipush (v := 10) dX2_keep_45 (by decide) ?_
    refine aw_irem dX2_keep_47 (by decide) ?_
    obtain ⟨hc1, hf⟩ := ax_ite hf
    refine aw_lG dX2_keep_48 sh_21 hc1 ?_
    refine aw_aload_n dX2_keep_49 rfl rfl ?_
    obtain ⟨p1, hp1, hf⟩ := ax_bind hf
    refine aw_cVv (As := [.ref 3]) (st := []) dX2_keep_50 cl_X2_23 iv_X1_copy (k_X1_copy (Q := (fun v h' => v = none ∧ h' = hp p1 gb)) (22 + 2 * ((((rI s_32 20 1) + (rI s_32 20 2)) - ((rI s_32 20 1) + (rI s_32 20 2)) / (10 : Int32) * (10 : Int32))).toNatClampNeg) 3 s_32 gb (ax_Gk _ (Nat.not_le.mp (fun q => hc1 (Or.inr q)))) ax_G3 hp1 ⟨rfl, rfl⟩) (ci := 1) rfl (hp_get ((ax_Gk _ (Nat.not_le.mp (fun q => hc1 (Or.inr q)))).1)) rfl rfl rfl (Nat.le_of_ble_eq_true rfl) rfl (by decide) (by decide) ?_
    refine aw_aload_n dX2_keep_53 rfl rfl ?_
    refine aw_dup dX2_keep_54 rfl ?_
    refine aw_gI dX2_keep_55 fl_X2_16 sh_20 rfl ?_
    refine aw_iconst (v := 1) dX2_keep_58 (by decide) ?_
    refine aw_iadd dX2_keep_59 ?_
    refine aw_pI dX2_keep_60 fp_X2_16 sh_20 rfl rfl rfl ?_
    cases hf
    exact aw_vret dX2_keep_63 hq (Nat.le_refl _) (Nat.le_refl _)
  refine aw_aload_n dX2_keep_0 rfl rfl ?_
  refine aw_gI dX2_keep_1 fl_X2_16 sh_20 rfl ?_
  refine aw_bipush (v := 10) dX2_keep_4 (by decide) ?_
  refine aw_icmp_ne (tgt := 32) dX2_keep_6 (by decide) (fun hc2 => ?_) (fun hc2 => ?_)
  · have hf := ax_neg hc2 hf
    exact J32 s hf
  · have hf := ax_pos hc2 hf
    refine aw_aload_n dX2_keep_9 rfl rfl ?_
    refine aw_aload_n dX2_keep_10 rfl rfl ?_
    refine aw_gI dX2_keep_11 fl_X2_20 sh_20 rfl ?_
    refine aw_iconst (v := 1) dX2_keep_14 (by decide) ?_
    refine aw_iadd dX2_keep_15 ?_
    refine aw_bipush (v := 10) dX2_keep_16 (by decide) ?_
    refine aw_irem dX2_keep_18 (by decide) ?_
    refine aw_pI dX2_keep_19 fp_X2_20 sh_20 rfl rfl rfl ?_
    refine aw_aload_n dX2_keep_22 rfl rfl ?_
    refine aw_dup dX2_keep_23 rfl ?_
    refine aw_gI dX2_keep_24 fl_X2_16 sh_20 rfl ?_
    refine aw_iconst (v := 1) dX2_keep_27 (by decide) ?_
    refine aw_isub dX2_keep_28 ?_
    refine aw_pI dX2_keep_29 fp_X2_16 sh_20 rfl rfl rfl ?_
    exact J32 (wI (wI s 20 1 (((rI s 20 1) + (1 : Int32)) - ((rI s 20 1) + (1 : Int32)) / (10 : Int32) * (10 : Int32))) 20 2 ((rI (wI s 20 1 (((rI s 20 1) + (1 : Int32)) - ((rI s 20 1) + (1 : Int32)) / (10 : Int32) * (10 : Int32))) 20 2) - (1 : Int32))) hf
noncomputable def f_X2_restore (s : sx_M) : Option (Int32 × sx_M) :=
  (if (rI s 20 2) = 0 then
 some ((0 : Int32), s)
else
 (if ¬ ((((rI (wI s 20 2 ((rI s 20 2) - (1 : Int32))) 20 1) + (rI (wI s 20 2 ((rI s 20 2) - (1 : Int32))) 20 2)) - ((rI (wI s 20 2 ((rI s 20 2) - (1 : Int32))) 20 1) + (rI (wI s 20 2 ((rI s 20 2) - (1 : Int32))) 20 2)) / (10 : Int32) * (10 : Int32)) < 0 ∨ 10 ≤ ((((rI (wI s 20 2 ((rI s 20 2) - (1 : Int32))) 20 1) + (rI (wI s 20 2 ((rI s 20 2) - (1 : Int32))) 20 2)) - ((rI (wI s 20 2 ((rI s 20 2) - (1 : Int32))) 20 1) + (rI (wI s 20 2 ((rI s 20 2) - (1 : Int32))) 20 2)) / (10 : Int32) * (10 : Int32))).toNatClampNeg) then
 (f_X1_copy 3 (22 + 2 * ((((rI (wI s 20 2 ((rI s 20 2) - (1 : Int32))) 20 1) + (rI (wI s 20 2 ((rI s 20 2) - (1 : Int32))) 20 2)) - ((rI (wI s 20 2 ((rI s 20 2) - (1 : Int32))) 20 1) + (rI (wI s 20 2 ((rI s 20 2) - (1 : Int32))) 20 2)) / (10 : Int32) * (10 : Int32))).toNatClampNeg) (wI s 20 2 ((rI s 20 2) - (1 : Int32)))).bind (fun p1 =>
 some ((1 : Int32), p1))
else none))
set_option maxRecDepth 100000 in
set_option maxHeartbeats 4000000 in
theorem k_X2_restore {l : Launch} {X : ax_X} {Q : Option Value → ax_H → Prop} (s : sx_M) (gb : ax_H) {p : Int32 × sx_M} (hf : f_X2_restore s = some p) (hq : Q (some (.int p.1)) (hp p.2 gb)) : AM l X yX2_restore cX2_restore 2 (some .boolean) 1 0 0 [.ref 20, .ref 3] (hp s gb) Q := by
  refine aw_met (own := RX2) (nm := "restore") (L := [some (.ref 20), some (.ref 3)]) (by decide +kernel) rfl rfl (And.intro rfl (And.intro rfl trivial)) (Nat.le_of_ble_eq_true rfl) ?_
  unfold f_X2_restore at hf
  refine aw_aload_n dX2_restore_0 rfl rfl ?_
  refine aw_gI dX2_restore_1 fl_X2_16 sh_20 rfl ?_
  refine aw_if_ne (tgt := 9) dX2_restore_4 (by decide) (fun hc2 => ?_) (fun hc2 => ?_)
  · have hf := ax_neg hc2 hf
    refine aw_aload_n dX2_restore_9 rfl rfl ?_
    refine aw_dup dX2_restore_10 rfl ?_
    refine aw_gI dX2_restore_11 fl_X2_16 sh_20 rfl ?_
    refine aw_iconst (v := 1) dX2_restore_14 (by decide) ?_
    refine aw_isub dX2_restore_15 ?_
    refine aw_pI dX2_restore_16 fp_X2_16 sh_20 rfl rfl rfl ?_
    refine aw_aload_n dX2_restore_19 rfl rfl ?_
    refine aw_aload_n dX2_restore_20 rfl rfl ?_
    refine aw_gR dX2_restore_21 fl_X2_11 sh_20 rfl ?_
    refine aw_aload_n dX2_restore_24 rfl rfl ?_
    refine aw_gI dX2_restore_25 fl_X2_20 sh_20 rfl ?_
    refine aw_aload_n dX2_restore_28 rfl rfl ?_
    refine aw_gI dX2_restore_29 fl_X2_16 sh_20 rfl ?_
    refine aw_iadd dX2_restore_32 ?_
    refine aw_bipush (v := 10) dX2_restore_33 (by decide) ?_
    refine aw_irem dX2_restore_35 (by decide) ?_
    obtain ⟨hc1, hf⟩ := ax_ite hf
    refine aw_lG dX2_restore_36 sh_21 hc1 ?_
    obtain ⟨p1, hp1, hf⟩ := ax_bind hf
    refine aw_cVv (As := [.ref (22 + 2 * ((((rI (wI s 20 2 ((rI s 20 2) - (1 : Int32))) 20 1) + (rI (wI s 20 2 ((rI s 20 2) - (1 : Int32))) 20 2)) - ((rI (wI s 20 2 ((rI s 20 2) - (1 : Int32))) 20 1) + (rI (wI s 20 2 ((rI s 20 2) - (1 : Int32))) 20 2)) / (10 : Int32) * (10 : Int32))).toNatClampNeg)]) (st := []) dX2_restore_37 cl_X2_23 iv_X1_copy (k_X1_copy (Q := (fun v h' => v = none ∧ h' = hp p1 gb)) 3 (22 + 2 * ((((rI (wI s 20 2 ((rI s 20 2) - (1 : Int32))) 20 1) + (rI (wI s 20 2 ((rI s 20 2) - (1 : Int32))) 20 2)) - ((rI (wI s 20 2 ((rI s 20 2) - (1 : Int32))) 20 1) + (rI (wI s 20 2 ((rI s 20 2) - (1 : Int32))) 20 2)) / (10 : Int32) * (10 : Int32))).toNatClampNeg) (wI s 20 2 ((rI s 20 2) - (1 : Int32))) gb ax_G3 (ax_Gk _ (Nat.not_le.mp (fun q => hc1 (Or.inr q)))) hp1 ⟨rfl, rfl⟩) (ci := 1) rfl (hp_get sh_3) rfl rfl rfl (Nat.le_of_ble_eq_true rfl) rfl (by decide) (by decide) ?_
    refine aw_iconst (v := 1) dX2_restore_40 (by decide) ?_
    cases hf
    exact aw_zret dX2_restore_41 (by decide) hq (Nat.le_refl _) (Nat.le_refl _)
  · have hf := ax_pos hc2 hf
    refine aw_iconst (v := 0) dX2_restore_7 (by decide) ?_
    cases hf
    exact aw_zret dX2_restore_8 (by decide) hq (Nat.le_refl _) (Nat.le_refl _)
noncomputable def f_X3_shift (x1 : Int32) (x2 : Int32) (s : sx_M) : Option (Int64 × sx_M) :=
  (f_X1_at 3 x1 x2 s).bind (fun p1 =>
 (if p1.1 = (9223372036854775807 : Int64) then
 some ((9223372036854775807 : Int64), p1.2)
else
 (if ¬ (x1 < 0 ∨ 7 ≤ (x1).toNatClampNeg) then
 (f_X1_at 3 x1 (rA p1.2 54 (x1).toNatClampNeg) p1.2).bind (fun p2 =>
 some ((p1.1 - p2.1), p2.2))
else none)))
set_option maxRecDepth 100000 in
set_option maxHeartbeats 4000000 in
theorem k_X3_shift {l : Launch} {X : ax_X} {Q : Option Value → ax_H → Prop} (x1 : Int32) (x2 : Int32) (s : sx_M) (gb : ax_H) {p : Int64 × sx_M} (hf : f_X3_shift x1 x2 s = some p) (hq : Q (some (.long p.1)) (hp p.2 gb)) : AM l X yX3_shift cX3_shift 5 (some .long) 1 0 0 [.ref 53, .int x1, .int x2] (hp s gb) Q := by
  refine aw_met (own := RX3) (nm := "shift") (L := [some (.ref 53), some (.int x1), some (.int x2), none, none]) (by decide +kernel) rfl rfl (And.intro rfl (And.intro rfl (And.intro rfl trivial))) (Nat.le_of_ble_eq_true rfl) ?_
  unfold f_X3_shift at hf
  refine aw_aload_n dX3_shift_0 rfl rfl ?_
  refine aw_gR dX3_shift_1 fl_X3_15 sh_53 rfl ?_
  refine aw_iload_n dX3_shift_4 rfl rfl ?_
  refine aw_iload_n dX3_shift_5 rfl rfl ?_
  obtain ⟨p1, hp1, hf⟩ := ax_bind hf
  refine aw_cVl (As := [.int x1, .int x2]) (st := []) dX3_shift_6 cl_X3_54 iv_X1_at (k_X1_at (Q := (fun v h' => v = some (.long p1.1) ∧ h' = hp p1.2 gb)) 3 x1 x2 s gb ax_G3 hp1 ⟨rfl, rfl⟩) (ci := 1) rfl (hp_get sh_3) rfl rfl rfl (Nat.le_of_ble_eq_true rfl) rfl (by decide) (by decide) ?_
  refine aw_lstore_n (L' := [some (.ref 53), some (.int x1), some (.int x2), some (.long p1.1), none]) dX3_shift_9 rfl (by decide) rfl ?_
  refine aw_lload_n dX3_shift_10 rfl rfl ?_
  refine aw_ldc2 dX3_shift_11 kc_X3_52 ?_
  refine aw_lcmp_ne (tgt := 24) dX3_shift_14 dX3_shift_15 (by decide) (fun hc2 => ?_) (fun hc2 => ?_)
  · have hf := ax_neg hc2 hf
    refine aw_lload_n dX3_shift_24 rfl rfl ?_
    refine aw_aload_n dX3_shift_25 rfl rfl ?_
    refine aw_gR dX3_shift_26 fl_X3_15 sh_53 rfl ?_
    refine aw_iload_n dX3_shift_29 rfl rfl ?_
    refine aw_aload_n dX3_shift_30 rfl rfl ?_
    refine aw_gR dX3_shift_31 fl_X3_9 sh_53 rfl ?_
    refine aw_iload_n dX3_shift_34 rfl rfl ?_
    obtain ⟨hc1, hf⟩ := ax_ite hf
    refine aw_lA dX3_shift_35 sh_54 hc1 ?_
    obtain ⟨p2, hp2, hf⟩ := ax_bind hf
    refine aw_cVl (As := [.int x1, .int (rA p1.2 54 (x1).toNatClampNeg)]) (st := [.long p1.1]) dX3_shift_36 cl_X3_54 iv_X1_at (k_X1_at (Q := (fun v h' => v = some (.long p2.1) ∧ h' = hp p2.2 gb)) 3 x1 (rA p1.2 54 (x1).toNatClampNeg) p1.2 gb ax_G3 hp2 ⟨rfl, rfl⟩) (ci := 1) rfl (hp_get sh_3) rfl rfl rfl (Nat.le_of_ble_eq_true rfl) rfl (by decide) (by decide) ?_
    refine aw_lsub dX3_shift_39 ?_
    cases hf
    exact aw_lret dX3_shift_40 hq (Nat.le_refl _) (Nat.le_refl _)
  · have hf := ax_pos hc2 hf
    refine aw_ldc2 dX3_shift_18 kc_X3_52 ?_
    refine aw_goto (tgt := 40) dX3_shift_21 (by decide) ?_
    cases hf
    exact aw_lret dX3_shift_40 hq (Nat.le_refl _) (Nat.le_refl _)
noncomputable def f_X3_comesBefore (x0 : Int32) (x1 : Int32) (s : sx_M) : Option (Int32 × sx_M) :=
  (f_J6_bitCount_0f7a4 x0 s).bind (fun p1 =>
 (f_J6_bitCount_0f7a4 x1 p1.2).bind (fun p2 =>
 (if p1.1 < p2.1 then
 some ((1 : Int32), p2.2)
else
 (if p1.1 = p2.1 then
 (if x1 ≤ x0 then
 some ((0 : Int32), p2.2)
else
 some ((1 : Int32), p2.2))
else
 some ((0 : Int32), p2.2)))))
set_option maxRecDepth 100000 in
set_option maxHeartbeats 4000000 in
theorem k_X3_comesBefore {l : Launch} {X : ax_X} {Q : Option Value → ax_H → Prop} (x0 : Int32) (x1 : Int32) (s : sx_M) (gb : ax_H) {p : Int32 × sx_M} (hf : f_X3_comesBefore x0 x1 s = some p) (hq : Q (some (.int p.1)) (hp p.2 gb)) : AM l X yX3_comesBefore cX3_comesBefore 4 (some .boolean) 1 0 0 [.int x0, .int x1] (hp s gb) Q := by
  refine aw_met (own := RX3) (nm := "comesBefore") (L := [some (.int x0), some (.int x1), none, none]) (by decide +kernel) rfl rfl (And.intro rfl (And.intro rfl trivial)) (Nat.le_of_ble_eq_true rfl) ?_
  unfold f_X3_comesBefore at hf
  refine aw_iload_n dX3_comesBefore_0 rfl rfl ?_
  obtain ⟨p1, hp1, hf⟩ := ax_bind hf
  refine aw_cSi (As := [.int x0]) (st := []) dX3_comesBefore_1 cl_X3_35 st_J6_bitCount_0f7a4 (k_J6_bitCount_0f7a4 (Q := (fun v h' => v = some (.int p1.1) ∧ h' = hp p1.2 gb)) x0 s gb hp1 ⟨rfl, rfl⟩) rfl rfl (Nat.le_of_ble_eq_true rfl) rfl (by decide) (by decide) ?_
  refine aw_istore_n (L' := [some (.int x0), some (.int x1), some (.int p1.1), none]) dX3_comesBefore_4 rfl (by decide) rfl ?_
  refine aw_iload_n dX3_comesBefore_5 rfl rfl ?_
  obtain ⟨p2, hp2, hf⟩ := ax_bind hf
  refine aw_cSi (As := [.int x1]) (st := []) dX3_comesBefore_6 cl_X3_35 st_J6_bitCount_0f7a4 (k_J6_bitCount_0f7a4 (Q := (fun v h' => v = some (.int p2.1) ∧ h' = hp p2.2 gb)) x1 p1.2 gb hp2 ⟨rfl, rfl⟩) rfl rfl (Nat.le_of_ble_eq_true rfl) rfl (by decide) (by decide) ?_
  refine aw_istore_n (L' := [some (.int x0), some (.int x1), some (.int p1.1), some (.int p2.1)]) dX3_comesBefore_9 rfl (by decide) rfl ?_
  refine aw_iload_n dX3_comesBefore_10 rfl rfl ?_
  refine aw_iload_n dX3_comesBefore_11 rfl rfl ?_
  refine aw_icmp_lt (tgt := 25) dX3_comesBefore_12 (by decide) (fun hc3 => ?_) (fun hc3 => ?_)
  · have hf := ax_pos hc3 hf
    refine aw_iconst (v := 1) dX3_comesBefore_25 (by decide) ?_
    refine aw_goto (tgt := 30) dX3_comesBefore_26 (by decide) ?_
    cases hf
    exact aw_zret dX3_comesBefore_30 (by decide) hq (Nat.le_refl _) (Nat.le_refl _)
  · have hf := ax_neg hc3 hf
    refine aw_iload_n dX3_comesBefore_15 rfl rfl ?_
    refine aw_iload_n dX3_comesBefore_16 rfl rfl ?_
    refine aw_icmp_ne (tgt := 29) dX3_comesBefore_17 (by decide) (fun hc2 => ?_) (fun hc2 => ?_)
    · have hf := ax_neg hc2 hf
      refine aw_iconst (v := 0) dX3_comesBefore_29 (by decide) ?_
      cases hf
      exact aw_zret dX3_comesBefore_30 (by decide) hq (Nat.le_refl _) (Nat.le_refl _)
    · have hf := ax_pos hc2 hf
      refine aw_iload_n dX3_comesBefore_20 rfl rfl ?_
      refine aw_iload_n dX3_comesBefore_21 rfl rfl ?_
      refine aw_icmp_ge (tgt := 29) dX3_comesBefore_22 (by decide) (fun hc1 => ?_) (fun hc1 => ?_)
      · have hf := ax_pos hc1 hf
        refine aw_iconst (v := 0) dX3_comesBefore_29 (by decide) ?_
        cases hf
        exact aw_zret dX3_comesBefore_30 (by decide) hq (Nat.le_refl _) (Nat.le_refl _)
      · have hf := ax_neg hc1 hf
        refine aw_iconst (v := 1) dX3_comesBefore_25 (by decide) ?_
        refine aw_goto (tgt := 30) dX3_comesBefore_26 (by decide) ?_
        cases hf
        exact aw_zret dX3_comesBefore_30 (by decide) hq (Nat.le_refl _) (Nat.le_refl _)
noncomputable def f_X3_offer_J54 (y1_54 : Int32) (y6_54 : Int64) (s_54 : sx_M) : Option sx_M :=
  some (wI (wJ s_54 53 3 y6_54) 53 4 y1_54)
noncomputable def f_X3_offer (x1 : Int32) (x2 : Int64) (x4 : Int64) (s : sx_M) : Option sx_M :=
  (if x4 = (9223372036854775807 : Int64) then
 some s
else
 (if (rI s 53 4) = 0 then
 f_X3_offer_J54 x1 (x2 + x4) s
else
 (if (x2 + x4) < (rJ s 53 3) then
 f_X3_offer_J54 x1 (x2 + x4) s
else
 (if (x2 + x4) = (rJ s 53 3) then
 (f_X3_comesBefore x1 (rI s 53 4) s).bind (fun p1 =>
 (if p1.1 = 0 then
 some p1.2
else
 f_X3_offer_J54 x1 (x2 + x4) p1.2))
else
 some s))))
set_option maxRecDepth 100000 in
set_option maxHeartbeats 4000000 in
theorem k_X3_offer {l : Launch} {X : ax_X} {Q : Option Value → ax_H → Prop} (x1 : Int32) (x2 : Int64) (x4 : Int64) (s : sx_M) (gb : ax_H) {p : sx_M} (hf : f_X3_offer x1 x2 x4 s = some p) (hq : Q (none) (hp p gb)) : AM l X yX3_offer cX3_offer 8 none 2 0 0 [.ref 53, .int x1, .long x2, .long x4] (hp s gb) Q := by
  refine aw_met (own := RX3) (nm := "offer") (L := [some (.ref 53), some (.int x1), some (.long x2), none, some (.long x4), none, none, none]) (by decide +kernel) rfl rfl (And.intro rfl (And.intro rfl (And.intro rfl (And.intro rfl trivial)))) (Nat.le_of_ble_eq_true rfl) ?_
  unfold f_X3_offer at hf
  have J54 : ∀ (y1_54 : Int32) (y6_54 : Int64) (s_54 : sx_M), f_X3_offer_J54 y1_54 y6_54 s_54 = some p → AW l X RX3 "offer" cX3_offer 8 none (ax_rm 2 0 0) (ax_MQ X Q 0 0) 0 0 54 [some (.ref 53), some (.int y1_54), none, none, none, none, some (.long y6_54), none] [] (hp s_54 gb) := by
    intro y1_54 y6_54 s_54 hf
    unfold f_X3_offer_J54 at hf
    refine aw_aload_n dX3_offer_54 rfl rfl ?_
    refine aw_lload dX3_offer_55 rfl ?_
    refine aw_pJ dX3_offer_57 fp_X3_57 sh_53 rfl ?_
    refine aw_aload_n dX3_offer_60 rfl rfl ?_
    refine aw_iload_n dX3_offer_61 rfl rfl ?_
    refine aw_pI dX3_offer_62 fp_X3_19 sh_53 rfl rfl rfl ?_
    cases hf
    exact aw_vret dX3_offer_65 hq (Nat.le_refl _) (Nat.le_refl _)
  refine aw_lload dX3_offer_0 rfl ?_
  refine aw_ldc2 dX3_offer_2 kc_X3_52 ?_
  refine aw_lcmp_ne (tgt := 10) dX3_offer_5 dX3_offer_6 (by decide) (fun hc5 => ?_) (fun hc5 => ?_)
  · have hf := ax_neg hc5 hf
    refine aw_lload_n dX3_offer_10 rfl rfl ?_
    refine aw_lload dX3_offer_11 rfl ?_
    refine aw_ladd dX3_offer_13 ?_
    refine aw_lstore (L' := [some (.ref 53), some (.int x1), some (.long x2), none, some (.long x4), none, some (.long (x2 + x4)), none]) dX3_offer_14 (by decide) rfl ?_
    refine aw_aload_n dX3_offer_16 rfl rfl ?_
    refine aw_gI dX3_offer_17 fl_X3_19 sh_53 rfl ?_
    refine aw_if_eq (tgt := 54) dX3_offer_20 (by decide) (fun hc4 => ?_) (fun hc4 => ?_)
    · have hf := ax_pos hc4 hf
      refine aw_less (L' := [some (.ref 53), some (.int x1), none, none, none, none, some (.long (x2 + x4)), none]) (And.intro rfl (And.intro rfl (And.intro rfl trivial))) ?_
      exact J54 x1 (x2 + x4) s hf
    · have hf := ax_neg hc4 hf
      refine aw_lload dX3_offer_23 rfl ?_
      refine aw_aload_n dX3_offer_25 rfl rfl ?_
      refine aw_gJ dX3_offer_26 fl_X3_57 sh_53 rfl ?_
      refine aw_lcmp_lt (tgt := 54) dX3_offer_29 dX3_offer_30 (by decide) (fun hc3 => ?_) (fun hc3 => ?_)
      · have hf := ax_pos hc3 hf
        refine aw_less (L' := [some (.ref 53), some (.int x1), none, none, none, none, some (.long (x2 + x4)), none]) (And.intro rfl (And.intro rfl (And.intro rfl trivial))) ?_
        exact J54 x1 (x2 + x4) s hf
      · have hf := ax_neg hc3 hf
        refine aw_lload dX3_offer_33 rfl ?_
        refine aw_aload_n dX3_offer_35 rfl rfl ?_
        refine aw_gJ dX3_offer_36 fl_X3_57 sh_53 rfl ?_
        refine aw_lcmp_ne (tgt := 65) dX3_offer_39 dX3_offer_40 (by decide) (fun hc2 => ?_) (fun hc2 => ?_)
        · have hf := ax_neg hc2 hf
          cases hf
          exact aw_vret dX3_offer_65 hq (Nat.le_refl _) (Nat.le_refl _)
        · have hf := ax_pos hc2 hf
          refine aw_iload_n dX3_offer_43 rfl rfl ?_
          refine aw_aload_n dX3_offer_44 rfl rfl ?_
          refine aw_gI dX3_offer_45 fl_X3_19 sh_53 rfl ?_
          obtain ⟨p1, hp1, hf⟩ := ax_bind hf
          refine aw_cSi (As := [.int x1, .int (rI s 53 4)]) (st := []) dX3_offer_48 cl_X3_61 st_X3_comesBefore (k_X3_comesBefore (Q := (fun v h' => v = some (.int p1.1) ∧ h' = hp p1.2 gb)) x1 (rI s 53 4) s gb hp1 ⟨rfl, rfl⟩) rfl rfl (Nat.le_of_ble_eq_true rfl) rfl (by decide) (by decide) ?_
          refine aw_if_eq (tgt := 65) dX3_offer_51 (by decide) (fun hc1 => ?_) (fun hc1 => ?_)
          · have hf := ax_pos hc1 hf
            cases hf
            exact aw_vret dX3_offer_65 hq (Nat.le_refl _) (Nat.le_refl _)
          · have hf := ax_neg hc1 hf
            refine aw_less (L' := [some (.ref 53), some (.int x1), none, none, none, none, some (.long (x2 + x4)), none]) (And.intro rfl (And.intro rfl (And.intro rfl trivial))) ?_
            exact J54 x1 (x2 + x4) p1.2 hf
  · have hf := ax_pos hc5 hf
    cases hf
    exact aw_vret dX3_offer_9 hq (Nat.le_refl _) (Nat.le_refl _)
noncomputable def f_X3_extend_L41 (rec : Int32 → Int32 → Int32 → Int64 → sx_M → Option sx_M) (z1 : Int32) (z2 : Int32) (z3 : Int32) (z4 : Int64) (a41 : Int32 × sx_M) : Option ((Int32 × sx_M) ⊕ (sx_M)) :=
  (if (rI a41.2 3 2) ≤ a41.1 then
 some (.inr a41.2)
else
 (if (((rI a41.2 53 2) >>> (a41.1 &&& 31)) &&& (1 : Int32)) = 0 then
 (f_X3_shift z2 a41.1 a41.2).bind (fun p1 =>
 (f_X3_offer z3 z4 p1.1 p1.2).bind (fun p2 =>
 some (.inl ((a41.1 + (1 : Int32)), p2))))
else
 some (.inl ((a41.1 + (1 : Int32)), a41.2))))
noncomputable def f_X3_extend_L88 (rec : Int32 → Int32 → Int32 → Int64 → sx_M → Option sx_M) (z1 : Int32) (z2 : Int32) (z3 : Int32) (z4 : Int64) (a88 : Int32 × sx_M) : Option ((Int32 × sx_M) ⊕ (sx_M)) :=
  (if (rI a88.2 3 1) ≤ a88.1 then
 some (.inr a88.2)
else
 (if ((z3 >>> (a88.1 &&& 31)) &&& (1 : Int32)) = 0 then
 (if ¬ (a88.1 < 0 ∨ 7 ≤ (a88.1).toNatClampNeg) then
 (f_X3_shift z2 (rA a88.2 54 (a88.1).toNatClampNeg) a88.2).bind (fun p4 =>
 (if p4.1 = (9223372036854775807 : Int64) then
 some (.inl ((a88.1 + (1 : Int32)), p4.2))
else
 (rec z1 a88.1 (z3 ||| ((1 : Int32) <<< (a88.1 &&& 31))) (z4 + p4.1) p4.2).bind (fun p5 =>
 some (.inl ((a88.1 + (1 : Int32)), p5)))))
else none)
else
 some (.inl ((a88.1 + (1 : Int32)), a88.2))))
noncomputable def f_X3_extend_J38 (rec : Int32 → Int32 → Int32 → Int64 → sx_M → Option sx_M) (y1_38 : Int32) (y2_38 : Int32) (y3_38 : Int32) (y4_38 : Int64) (s_38 : sx_M) : Option sx_M :=
  (whT (f_X3_extend_L41 rec y1_38 y2_38 y3_38 y4_38) ((0 : Int32), s_38)).bind (fun b3 =>
 (whT (f_X3_extend_L88 rec y1_38 y2_38 y3_38 y4_38) ((0 : Int32), b3)).bind (fun b6 =>
 some b6))
noncomputable def fb_X3_extend (rec : Int32 → Int32 → Int32 → Int64 → sx_M → Option sx_M) (x1 : Int32) (x2 : Int32) (x3 : Int32) (x4 : Int64) (s : sx_M) : Option sx_M :=
  (f_J6_bitCount_0f7a4 x3 s).bind (fun p7 =>
 (if p7.1 ≤ (rI p7.2 3 1) then
 (if x1 = x2 then
 f_X3_extend_J38 rec x1 x2 x3 x4 p7.2
else
 (if ¬ (x1 < 0 ∨ 7 ≤ (x1).toNatClampNeg) then
 (f_X3_shift x2 (rA p7.2 54 (x1).toNatClampNeg) p7.2).bind (fun p8 =>
 (f_X3_offer x3 x4 p8.1 p8.2).bind (fun p9 =>
 f_X3_extend_J38 rec x1 x2 x3 x4 p9))
else none))
else
 some p7.2))
noncomputable def fr_X3_extend : Nat → Int32 → Int32 → Int32 → Int64 → sx_M → Option sx_M
  | 0 => fun _ _ _ _ _ => none
  | n + 1 => fun x1 x2 x3 x4 s => fb_X3_extend (fr_X3_extend n) x1 x2 x3 x4 s
noncomputable def f_X3_extend (x1 : Int32) (x2 : Int32) (x3 : Int32) (x4 : Int64) (s : sx_M) : Option sx_M := fr_X3_extend 9 x1 x2 x3 x4 s
set_option maxRecDepth 100000 in
set_option maxHeartbeats 4000000 in
theorem kr_X3_extend {l : Launch} {X : ax_X} : ∀ (n : Nat) {Q : Option Value → ax_H → Prop} (x1 : Int32) (x2 : Int32) (x3 : Int32) (x4 : Int64) (s : sx_M) (gb : ax_H) {p : sx_M}, fr_X3_extend n x1 x2 x3 x4 s = some p → Q (none) (hp p gb) → AM l X yX3_extend cX3_extend 9 none (n + 2) 0 0 [.ref 53, .int x1, .int x2, .int x3, .long x4] (hp s gb) Q := by
  intro n
  induction n with
  | zero => intro Q x1 x2 x3 x4 s gb p hf hq; cases hf
  | succ n ih =>
    intro Q x1 x2 x3 x4 s gb p hf hq
    have hf : fb_X3_extend (fr_X3_extend n) x1 x2 x3 x4 s = some p := hf
    refine aw_met (own := RX3) (nm := "extend") (L := [some (.ref 53), some (.int x1), some (.int x2), some (.int x3), some (.long x4), none, none, none, none]) (by decide +kernel) rfl rfl (And.intro rfl (And.intro rfl (And.intro rfl (And.intro rfl (And.intro rfl trivial))))) (Nat.le_of_ble_eq_true rfl) ?_
    unfold fb_X3_extend at hf
    have J38 : ∀ (y1_38 : Int32) (y2_38 : Int32) (y3_38 : Int32) (y4_38 : Int64) (s_38 : sx_M), f_X3_extend_J38 (fr_X3_extend n) y1_38 y2_38 y3_38 y4_38 s_38 = some p → AW l X RX3 "extend" cX3_extend 9 none (ax_rm (n + 1 + 2) 0 0) (ax_MQ X Q 0 0) 0 0 38 [some (.ref 53), some (.int y1_38), some (.int y2_38), some (.int y3_38), some (.long y4_38), none, none, none, none] [] (hp s_38 gb) := by
      intro y1_38 y2_38 y3_38 y4_38 s_38 hf
      unfold f_X3_extend_J38 at hf
      refine aw_iconst (v := 0) dX3_extend_38 (by decide) ?_
      refine aw_istore (L' := [some (.ref 53), some (.int y1_38), some (.int y2_38), some (.int y3_38), some (.long y4_38), none, some (.int (0 : Int32)), none, none]) dX3_extend_39 (by decide) rfl ?_
      obtain ⟨b3, hb3, hf⟩ := ax_bind hf
      refine wh_go ((0 : Int32), s_38) (fun a41 : Int32 × sx_M => AW l X RX3 "extend" cX3_extend 9 none (ax_rm (n + 1 + 2) 0 0) (ax_MQ X Q 0 0) 0 0 41 [some (.ref 53), some (.int y1_38), some (.int y2_38), some (.int y3_38), some (.long y4_38), none, some (.int a41.1), none, none] [] (hp a41.2 gb)) (fun e : sx_M => AW l X RX3 "extend" cX3_extend 9 none (ax_rm (n + 1 + 2) 0 0) (ax_MQ X Q 0 0) 0 0 85 [some (.ref 53), some (.int y1_38), some (.int y2_38), some (.int y3_38), some (.long y4_38), none, none, none, none] [] (hp e gb)) hb3 ?_ ?_
      · intro a41 r hf hK
        unfold f_X3_extend_L41 at hf
        refine aw_iload dX3_extend_41 rfl ?_
        refine aw_aload_n dX3_extend_43 rfl rfl ?_
        refine aw_gR dX3_extend_44 fl_X3_15 sh_53 rfl ?_
        refine aw_gI dX3_extend_47 fl_X3_49 sh_3 rfl ?_
        refine aw_icmp_ge (tgt := 85) dX3_extend_50 (by decide) (fun hc2 => ?_) (fun hc2 => ?_)
        · have hf := ax_pos hc2 hf
          refine aw_less (L' := [some (.ref 53), some (.int y1_38), some (.int y2_38), some (.int y3_38), some (.long y4_38), none, none, none, none]) (And.intro rfl (And.intro rfl (And.intro rfl (And.intro rfl (And.intro rfl trivial))))) ?_
          cases hf
          exact hK
        · have hf := ax_neg hc2 hf
          refine aw_aload_n dX3_extend_53 rfl rfl ?_
          refine aw_gI dX3_extend_54 fl_X3_23 sh_53 rfl ?_
          refine aw_iload dX3_extend_57 rfl ?_
          refine aw_ishr dX3_extend_59 ?_
          refine aw_iconst (v := 1) dX3_extend_60 (by decide) ?_
          refine aw_iand dX3_extend_61 ?_
          refine aw_if_ne (tgt := 79) dX3_extend_62 (by decide) (fun hc1 => ?_) (fun hc1 => ?_)
          · have hf := ax_neg hc1 hf
            refine aw_iinc (v := (a41.1 + (1 : Int32))) (L' := [some (.ref 53), some (.int y1_38), some (.int y2_38), some (.int y3_38), some (.long y4_38), none, some (.int (a41.1 + (1 : Int32))), none, none]) dX3_extend_79 rfl rfl (by decide) rfl ?_
            refine aw_goto (tgt := 41) dX3_extend_82 (by decide) ?_
            cases hf
            exact hK
          · have hf := ax_pos hc1 hf
            refine aw_aload_n dX3_extend_65 rfl rfl ?_
            refine aw_iload_n dX3_extend_66 rfl rfl ?_
            refine aw_lload dX3_extend_67 rfl ?_
            refine aw_aload_n dX3_extend_69 rfl rfl ?_
            refine aw_iload_n dX3_extend_70 rfl rfl ?_
            refine aw_iload dX3_extend_71 rfl ?_
            obtain ⟨p1, hp1, hf⟩ := ax_bind hf
            refine aw_cVl (As := [.int y2_38, .int a41.1]) (st := [.long y4_38, .int y3_38, .ref 53]) dX3_extend_73 cl_X3_41 iv_X3_shift (k_X3_shift (Q := (fun v h' => v = some (.long p1.1) ∧ h' = hp p1.2 gb)) y2_38 a41.1 a41.2 gb hp1 ⟨rfl, rfl⟩) (ci := 3) rfl (hp_get sh_53) rfl rfl rfl (Nat.le_of_ble_eq_true rfl) rfl (by omega) (by decide) ?_
            obtain ⟨p2, hp2, hf⟩ := ax_bind hf
            refine aw_cVv (As := [.int y3_38, .long y4_38, .long p1.1]) (st := []) dX3_extend_76 cl_X3_45 iv_X3_offer (k_X3_offer (Q := (fun v h' => v = none ∧ h' = hp p2 gb)) y3_38 y4_38 p1.1 p1.2 gb hp2 ⟨rfl, rfl⟩) (ci := 3) rfl (hp_get sh_53) rfl rfl rfl (Nat.le_of_ble_eq_true rfl) rfl (by omega) (by decide) ?_
            refine aw_iinc (v := (a41.1 + (1 : Int32))) (L' := [some (.ref 53), some (.int y1_38), some (.int y2_38), some (.int y3_38), some (.long y4_38), none, some (.int (a41.1 + (1 : Int32))), none, none]) dX3_extend_79 rfl rfl (by decide) rfl ?_
            refine aw_goto (tgt := 41) dX3_extend_82 (by decide) ?_
            cases hf
            exact hK
      · refine aw_iconst (v := 0) dX3_extend_85 (by decide) ?_
        refine aw_istore (L' := [some (.ref 53), some (.int y1_38), some (.int y2_38), some (.int y3_38), some (.long y4_38), none, some (.int (0 : Int32)), none, none]) dX3_extend_86 (by decide) rfl ?_
        obtain ⟨b6, hb6, hf⟩ := ax_bind hf
        refine wh_go ((0 : Int32), b3) (fun a88 : Int32 × sx_M => AW l X RX3 "extend" cX3_extend 9 none (ax_rm (n + 1 + 2) 0 0) (ax_MQ X Q 0 0) 0 0 88 [some (.ref 53), some (.int y1_38), some (.int y2_38), some (.int y3_38), some (.long y4_38), none, some (.int a88.1), none, none] [] (hp a88.2 gb)) (fun e : sx_M => AW l X RX3 "extend" cX3_extend 9 none (ax_rm (n + 1 + 2) 0 0) (ax_MQ X Q 0 0) 0 0 156 [none, none, none, none, none, none, none, none, none] [] (hp e gb)) hb6 ?_ ?_
        · intro a88 r hf hK
          unfold f_X3_extend_L88 at hf
          refine aw_iload dX3_extend_88 rfl ?_
          refine aw_aload_n dX3_extend_90 rfl rfl ?_
          refine aw_gR dX3_extend_91 fl_X3_15 sh_53 rfl ?_
          refine aw_gI dX3_extend_94 fl_X3_26 sh_3 rfl ?_
          refine aw_icmp_ge (tgt := 156) dX3_extend_97 (by decide) (fun hc6 => ?_) (fun hc6 => ?_)
          · have hf := ax_pos hc6 hf
            refine aw_less (L' := [none, none, none, none, none, none, none, none, none]) trivial ?_
            cases hf
            exact hK
          · have hf := ax_neg hc6 hf
            refine aw_iload_n dX3_extend_100 rfl rfl ?_
            refine aw_iload dX3_extend_101 rfl ?_
            refine aw_ishr dX3_extend_103 ?_
            refine aw_iconst (v := 1) dX3_extend_104 (by decide) ?_
            refine aw_iand dX3_extend_105 ?_
            refine aw_if_ne (tgt := 150) dX3_extend_106 (by decide) (fun hc5 => ?_) (fun hc5 => ?_)
            · have hf := ax_neg hc5 hf
              refine aw_iinc (v := (a88.1 + (1 : Int32))) (L' := [some (.ref 53), some (.int y1_38), some (.int y2_38), some (.int y3_38), some (.long y4_38), none, some (.int (a88.1 + (1 : Int32))), none, none]) dX3_extend_150 rfl rfl (by decide) rfl ?_
              refine aw_goto (tgt := 88) dX3_extend_153 (by decide) ?_
              cases hf
              exact hK
            · have hf := ax_pos hc5 hf
              refine aw_aload_n dX3_extend_109 rfl rfl ?_
              refine aw_iload_n dX3_extend_110 rfl rfl ?_
              refine aw_aload_n dX3_extend_111 rfl rfl ?_
              refine aw_gR dX3_extend_112 fl_X3_9 sh_53 rfl ?_
              refine aw_iload dX3_extend_115 rfl ?_
              obtain ⟨hc3, hf⟩ := ax_ite hf
              refine aw_lA dX3_extend_117 sh_54 hc3 ?_
              obtain ⟨p4, hp4, hf⟩ := ax_bind hf
              refine aw_cVl (As := [.int y2_38, .int (rA a88.2 54 (a88.1).toNatClampNeg)]) (st := []) dX3_extend_118 cl_X3_41 iv_X3_shift (k_X3_shift (Q := (fun v h' => v = some (.long p4.1) ∧ h' = hp p4.2 gb)) y2_38 (rA a88.2 54 (a88.1).toNatClampNeg) a88.2 gb hp4 ⟨rfl, rfl⟩) (ci := 3) rfl (hp_get sh_53) rfl rfl rfl (Nat.le_of_ble_eq_true rfl) rfl (by omega) (by decide) ?_
              refine aw_lstore (L' := [some (.ref 53), some (.int y1_38), some (.int y2_38), some (.int y3_38), some (.long y4_38), none, some (.int a88.1), some (.long p4.1), none]) dX3_extend_121 (by decide) rfl ?_
              refine aw_lload dX3_extend_123 rfl ?_
              refine aw_ldc2 dX3_extend_125 kc_X3_52 ?_
              refine aw_lcmp_eq (tgt := 150) dX3_extend_128 dX3_extend_129 (by decide) (fun hc4 => ?_) (fun hc4 => ?_)
              · have hf := ax_pos hc4 hf
                refine aw_iinc (v := (a88.1 + (1 : Int32))) (L' := [some (.ref 53), some (.int y1_38), some (.int y2_38), some (.int y3_38), some (.long y4_38), none, some (.int (a88.1 + (1 : Int32))), some (.long p4.1), none]) dX3_extend_150 rfl rfl (by decide) rfl ?_
                refine aw_goto (tgt := 88) dX3_extend_153 (by decide) ?_
                refine aw_less (L' := [some (.ref 53), some (.int y1_38), some (.int y2_38), some (.int y3_38), some (.long y4_38), none, some (.int (a88.1 + (1 : Int32))), none, none]) (And.intro rfl (And.intro rfl (And.intro rfl (And.intro rfl (And.intro rfl (And.intro rfl trivial)))))) ?_
                cases hf
                exact hK
              · have hf := ax_neg hc4 hf
                refine aw_aload_n dX3_extend_132 rfl rfl ?_
                refine aw_iload_n dX3_extend_133 rfl rfl ?_
                refine aw_iload dX3_extend_134 rfl ?_
                refine aw_iload_n dX3_extend_136 rfl rfl ?_
                refine aw_iconst (v := 1) dX3_extend_137 (by decide) ?_
                refine aw_iload dX3_extend_138 rfl ?_
                refine aw_ishl dX3_extend_140 ?_
                refine aw_ior dX3_extend_141 ?_
                refine aw_lload dX3_extend_142 rfl ?_
                refine aw_lload dX3_extend_144 rfl ?_
                refine aw_ladd dX3_extend_146 ?_
                obtain ⟨p5, hp5, hf⟩ := ax_bind hf
                refine aw_cSv (As := [.ref 53, .int y1_38, .int a88.1, .int (y3_38 ||| ((1 : Int32) <<< (a88.1 &&& 31))), .long (y4_38 + p4.1)]) (st := []) dX3_extend_147 cl_X3_31 st_X3_extend (ih (Q := (fun v h' => v = none ∧ h' = hp p5 gb)) y1_38 a88.1 (y3_38 ||| ((1 : Int32) <<< (a88.1 &&& 31))) (y4_38 + p4.1) p4.2 gb hp5 ⟨rfl, rfl⟩) rfl rfl (Nat.le_of_ble_eq_true rfl) rfl (by omega) (by decide) ?_
                refine aw_iinc (v := (a88.1 + (1 : Int32))) (L' := [some (.ref 53), some (.int y1_38), some (.int y2_38), some (.int y3_38), some (.long y4_38), none, some (.int (a88.1 + (1 : Int32))), some (.long p4.1), none]) dX3_extend_150 rfl rfl (by decide) rfl ?_
                refine aw_goto (tgt := 88) dX3_extend_153 (by decide) ?_
                refine aw_less (L' := [some (.ref 53), some (.int y1_38), some (.int y2_38), some (.int y3_38), some (.long y4_38), none, some (.int (a88.1 + (1 : Int32))), none, none]) (And.intro rfl (And.intro rfl (And.intro rfl (And.intro rfl (And.intro rfl (And.intro rfl trivial)))))) ?_
                cases hf
                exact hK
        · cases hf
          exact aw_vret dX3_extend_156 hq (Nat.le_refl _) (Nat.le_refl _)
    refine aw_iload_n dX3_extend_0 rfl rfl ?_
    obtain ⟨p7, hp7, hf⟩ := ax_bind hf
    refine aw_cSi (As := [.int x3]) (st := []) dX3_extend_1 cl_X3_35 st_J6_bitCount_0f7a4 (k_J6_bitCount_0f7a4 (Q := (fun v h' => v = some (.int p7.1) ∧ h' = hp p7.2 gb)) x3 s gb hp7 ⟨rfl, rfl⟩) rfl rfl (Nat.le_of_ble_eq_true rfl) rfl (by omega) (by decide) ?_
    refine aw_aload_n dX3_extend_4 rfl rfl ?_
    refine aw_gR dX3_extend_5 fl_X3_15 sh_53 rfl ?_
    refine aw_gI dX3_extend_8 fl_X3_26 sh_3 rfl ?_
    refine aw_icmp_le (tgt := 15) dX3_extend_11 (by decide) (fun hc9 => ?_) (fun hc9 => ?_)
    · have hf := ax_pos hc9 hf
      refine aw_iload_n dX3_extend_15 rfl rfl ?_
      refine aw_iload_n dX3_extend_16 rfl rfl ?_
      refine aw_icmp_eq (tgt := 38) dX3_extend_17 (by decide) (fun hc8 => ?_) (fun hc8 => ?_)
      · have hf := ax_pos hc8 hf
        exact J38 x1 x2 x3 x4 p7.2 hf
      · have hf := ax_neg hc8 hf
        refine aw_aload_n dX3_extend_20 rfl rfl ?_
        refine aw_iload_n dX3_extend_21 rfl rfl ?_
        refine aw_lload dX3_extend_22 rfl ?_
        refine aw_aload_n dX3_extend_24 rfl rfl ?_
        refine aw_iload_n dX3_extend_25 rfl rfl ?_
        refine aw_aload_n dX3_extend_26 rfl rfl ?_
        refine aw_gR dX3_extend_27 fl_X3_9 sh_53 rfl ?_
        refine aw_iload_n dX3_extend_30 rfl rfl ?_
        obtain ⟨hc7, hf⟩ := ax_ite hf
        refine aw_lA dX3_extend_31 sh_54 hc7 ?_
        obtain ⟨p8, hp8, hf⟩ := ax_bind hf
        refine aw_cVl (As := [.int x2, .int (rA p7.2 54 (x1).toNatClampNeg)]) (st := [.long x4, .int x3, .ref 53]) dX3_extend_32 cl_X3_41 iv_X3_shift (k_X3_shift (Q := (fun v h' => v = some (.long p8.1) ∧ h' = hp p8.2 gb)) x2 (rA p7.2 54 (x1).toNatClampNeg) p7.2 gb hp8 ⟨rfl, rfl⟩) (ci := 3) rfl (hp_get sh_53) rfl rfl rfl (Nat.le_of_ble_eq_true rfl) rfl (by omega) (by decide) ?_
        obtain ⟨p9, hp9, hf⟩ := ax_bind hf
        refine aw_cVv (As := [.int x3, .long x4, .long p8.1]) (st := []) dX3_extend_35 cl_X3_45 iv_X3_offer (k_X3_offer (Q := (fun v h' => v = none ∧ h' = hp p9 gb)) x3 x4 p8.1 p8.2 gb hp9 ⟨rfl, rfl⟩) (ci := 3) rfl (hp_get sh_53) rfl rfl rfl (Nat.le_of_ble_eq_true rfl) rfl (by omega) (by decide) ?_
        exact J38 x1 x2 x3 x4 p9 hf
    · have hf := ax_neg hc9 hf
      cases hf
      exact aw_vret dX3_extend_14 hq (Nat.le_refl _) (Nat.le_refl _)
theorem k_X3_extend {l : Launch} {X : ax_X} {Q : Option Value → ax_H → Prop} (x1 : Int32) (x2 : Int32) (x3 : Int32) (x4 : Int64) (s : sx_M) (gb : ax_H) {p : sx_M} (hf : f_X3_extend x1 x2 x3 x4 s = some p) (hq : Q (none) (hp p gb)) : AM l X yX3_extend cX3_extend 9 none (11) 0 0 [.ref 53, .int x1, .int x2, .int x3, .long x4] (hp s gb) Q := kr_X3_extend 9 x1 x2 x3 x4 s gb hf hq
noncomputable def f_X3_search_L12 (ra : Nat) (a12 : Int32 × sx_M) : Option ((Int32 × sx_M) ⊕ (sx_M)) :=
  (if (rI a12.2 3 1) ≤ a12.1 then
 some (.inr a12.2)
else
 (if (7 : Int32) ≤ a12.1 then
 some (.inr a12.2)
else
 (if ¬ (a12.1 < 0 ∨ 7 ≤ (a12.1).toNatClampNeg) then
 (if ¬ (a12.1 < 0 ∨ 7 ≤ (a12.1).toNatClampNeg) then
 (if ¬ (a12.1 < 0 ∨ 7 ≤ (a12.1).toNatClampNeg) then
 some (.inl ((a12.1 + (1 : Int32)), (wI (wA a12.2 54 (a12.1).toNatClampNeg (rA a12.2 ra (a12.1).toNatClampNeg)) 53 2 ((rI (wA a12.2 54 (a12.1).toNatClampNeg (rA a12.2 ra (a12.1).toNatClampNeg)) 53 2) ||| ((1 : Int32) <<< ((rA (wA a12.2 54 (a12.1).toNatClampNeg (rA a12.2 ra (a12.1).toNatClampNeg)) ra (a12.1).toNatClampNeg) &&& 31))))))
else none)
else none)
else none)))
noncomputable def f_X3_search_L60 (ra : Nat) (a60 : Int32 × sx_M) : Option ((Int32 × sx_M) ⊕ (sx_M)) :=
  (if (rI a60.2 3 1) ≤ a60.1 then
 some (.inr a60.2)
else
 (f_X3_extend a60.1 a60.1 ((1 : Int32) <<< (a60.1 &&& 31)) (0 : Int64) a60.2).bind (fun p2 =>
 some (.inl ((a60.1 + (1 : Int32)), p2))))
noncomputable def f_X3_search (ra : Nat) (s : sx_M) : Option (Int32 × sx_M) :=
  (whT (f_X3_search_L12 ra) ((0 : Int32), (wI (wI s 53 4 (0 : Int32)) 53 2 (0 : Int32)))).bind (fun b1 =>
 (whT (f_X3_search_L60 ra) ((0 : Int32), b1)).bind (fun b3 =>
 (if (rI b3 53 4) = 0 then
 some ((0 : Int32), b3)
else
 some ((1 : Int32), b3))))
set_option maxRecDepth 100000 in
set_option maxHeartbeats 4000000 in
theorem k_X3_search {l : Launch} {X : ax_X} {Q : Option Value → ax_H → Prop} (ra : Nat) (s : sx_M) (gb : ax_H) (hra : sx_sh[ra]? = some (.inl (.int, 7))) {p : Int32 × sx_M} (hf : f_X3_search ra s = some p) (hq : Q (some (.int p.1)) (hp p.2 gb)) : AM l X yX3_search cX3_search 3 (some .boolean) 12 0 0 [.ref 53, .ref ra] (hp s gb) Q := by
  refine aw_met (own := RX3) (nm := "search") (L := [some (.ref 53), some (.ref ra), none]) (by decide +kernel) rfl rfl (And.intro rfl (And.intro rfl trivial)) (Nat.le_of_ble_eq_true rfl) ?_
  unfold f_X3_search at hf
  refine aw_aload_n dX3_search_0 rfl rfl ?_
  refine aw_iconst (v := 0) dX3_search_1 (by decide) ?_
  refine aw_pI dX3_search_2 fp_X3_19 sh_53 rfl rfl rfl ?_
  refine aw_aload_n dX3_search_5 rfl rfl ?_
  refine aw_iconst (v := 0) dX3_search_6 (by decide) ?_
  refine aw_pI dX3_search_7 fp_X3_23 sh_53 rfl rfl rfl ?_
  refine aw_iconst (v := 0) dX3_search_10 (by decide) ?_
  refine aw_istore_n (L' := [some (.ref 53), some (.ref ra), some (.int (0 : Int32))]) dX3_search_11 rfl (by decide) rfl ?_
  obtain ⟨b1, hb1, hf⟩ := ax_bind hf
  refine wh_go ((0 : Int32), (wI (wI s 53 4 (0 : Int32)) 53 2 (0 : Int32))) (fun a12 : Int32 × sx_M => AW l X RX3 "search" cX3_search 3 (some .boolean) (ax_rm 12 0 0) (ax_MQ X Q 0 0) 0 0 12 [some (.ref 53), some (.ref ra), some (.int a12.1)] [] (hp a12.2 gb)) (fun e : sx_M => AW l X RX3 "search" cX3_search 3 (some .boolean) (ax_rm 12 0 0) (ax_MQ X Q 0 0) 0 0 58 [some (.ref 53), none, none] [] (hp e gb)) hb1 ?_ ?_
  · intro a12 r hf hK
    unfold f_X3_search_L12 at hf
    refine aw_iload_n dX3_search_12 rfl rfl ?_
    refine aw_aload_n dX3_search_13 rfl rfl ?_
    refine aw_gR dX3_search_14 fl_X3_15 sh_53 rfl ?_
    refine aw_gI dX3_search_17 fl_X3_26 sh_3 rfl ?_
    refine aw_icmp_ge (tgt := 58) dX3_search_20 (by decide) (fun hc5 => ?_) (fun hc5 => ?_)
    · have hf := ax_pos hc5 hf
      refine aw_less (L' := [some (.ref 53), none, none]) (And.intro rfl trivial) ?_
      cases hf
      exact hK
    · have hf := ax_neg hc5 hf
      refine aw_iload_n dX3_search_23 rfl rfl ?_
      refine aw_aload_n dX3_search_24 rfl rfl ?_
      refine aw_al dX3_search_25 hra (by decide) rfl ?_
      refine aw_icmp_ge (tgt := 58) dX3_search_26 (by decide) (fun hc4 => ?_) (fun hc4 => ?_)
      · have hf := ax_pos hc4 hf
        refine aw_less (L' := [some (.ref 53), none, none]) (And.intro rfl trivial) ?_
        cases hf
        exact hK
      · have hf := ax_neg hc4 hf
        refine aw_aload_n dX3_search_29 rfl rfl ?_
        refine aw_gR dX3_search_30 fl_X3_9 sh_53 rfl ?_
        refine aw_iload_n dX3_search_33 rfl rfl ?_
        refine aw_aload_n dX3_search_34 rfl rfl ?_
        refine aw_iload_n dX3_search_35 rfl rfl ?_
        obtain ⟨hc1, hf⟩ := ax_ite hf
        refine aw_lA dX3_search_36 hra hc1 ?_
        obtain ⟨hc2, hf⟩ := ax_ite hf
        refine aw_sA dX3_search_37 sh_54 hc2 ?_
        refine aw_aload_n dX3_search_38 rfl rfl ?_
        refine aw_dup dX3_search_39 rfl ?_
        refine aw_gI dX3_search_40 fl_X3_23 sh_53 rfl ?_
        refine aw_iconst (v := 1) dX3_search_43 (by decide) ?_
        refine aw_aload_n dX3_search_44 rfl rfl ?_
        refine aw_iload_n dX3_search_45 rfl rfl ?_
        obtain ⟨hc3, hf⟩ := ax_ite hf
        refine aw_lA dX3_search_46 hra hc3 ?_
        refine aw_ishl dX3_search_47 ?_
        refine aw_ior dX3_search_48 ?_
        refine aw_pI dX3_search_49 fp_X3_23 sh_53 rfl rfl rfl ?_
        refine aw_iinc (v := (a12.1 + (1 : Int32))) (L' := [some (.ref 53), some (.ref ra), some (.int (a12.1 + (1 : Int32)))]) dX3_search_52 rfl rfl (by decide) rfl ?_
        refine aw_goto (tgt := 12) dX3_search_55 (by decide) ?_
        cases hf
        exact hK
  · refine aw_iconst (v := 0) dX3_search_58 (by decide) ?_
    refine aw_istore_n (L' := [some (.ref 53), none, some (.int (0 : Int32))]) dX3_search_59 rfl (by decide) rfl ?_
    obtain ⟨b3, hb3, hf⟩ := ax_bind hf
    refine wh_go ((0 : Int32), b1) (fun a60 : Int32 × sx_M => AW l X RX3 "search" cX3_search 3 (some .boolean) (ax_rm 12 0 0) (ax_MQ X Q 0 0) 0 0 60 [some (.ref 53), none, some (.int a60.1)] [] (hp a60.2 gb)) (fun e : sx_M => AW l X RX3 "search" cX3_search 3 (some .boolean) (ax_rm 12 0 0) (ax_MQ X Q 0 0) 0 0 87 [some (.ref 53), none, none] [] (hp e gb)) hb3 ?_ ?_
    · intro a60 r hf hK
      unfold f_X3_search_L60 at hf
      refine aw_iload_n dX3_search_60 rfl rfl ?_
      refine aw_aload_n dX3_search_61 rfl rfl ?_
      refine aw_gR dX3_search_62 fl_X3_15 sh_53 rfl ?_
      refine aw_gI dX3_search_65 fl_X3_26 sh_3 rfl ?_
      refine aw_icmp_ge (tgt := 87) dX3_search_68 (by decide) (fun hc6 => ?_) (fun hc6 => ?_)
      · have hf := ax_pos hc6 hf
        refine aw_less (L' := [some (.ref 53), none, none]) (And.intro rfl trivial) ?_
        cases hf
        exact hK
      · have hf := ax_neg hc6 hf
        refine aw_aload_n dX3_search_71 rfl rfl ?_
        refine aw_iload_n dX3_search_72 rfl rfl ?_
        refine aw_iload_n dX3_search_73 rfl rfl ?_
        refine aw_iconst (v := 1) dX3_search_74 (by decide) ?_
        refine aw_iload_n dX3_search_75 rfl rfl ?_
        refine aw_ishl dX3_search_76 ?_
        refine aw_lconst (v := 0) dX3_search_77 (by decide) ?_
        obtain ⟨p2, hp2, hf⟩ := ax_bind hf
        refine aw_cSv (As := [.ref 53, .int a60.1, .int a60.1, .int ((1 : Int32) <<< (a60.1 &&& 31)), .long (0 : Int64)]) (st := []) dX3_search_78 cl_X3_31 st_X3_extend (k_X3_extend (Q := (fun v h' => v = none ∧ h' = hp p2 gb)) a60.1 a60.1 ((1 : Int32) <<< (a60.1 &&& 31)) (0 : Int64) a60.2 gb hp2 ⟨rfl, rfl⟩) rfl rfl (Nat.le_of_ble_eq_true rfl) rfl (by decide) (by decide) ?_
        refine aw_iinc (v := (a60.1 + (1 : Int32))) (L' := [some (.ref 53), none, some (.int (a60.1 + (1 : Int32)))]) dX3_search_81 rfl rfl (by decide) rfl ?_
        refine aw_goto (tgt := 60) dX3_search_84 (by decide) ?_
        cases hf
        exact hK
    · refine aw_aload_n dX3_search_87 rfl rfl ?_
      refine aw_gI dX3_search_88 fl_X3_19 sh_53 rfl ?_
      refine aw_if_eq (tgt := 98) dX3_search_91 (by decide) (fun hc7 => ?_) (fun hc7 => ?_)
      · have hf := ax_pos hc7 hf
        refine aw_iconst (v := 0) dX3_search_98 (by decide) ?_
        cases hf
        exact aw_zret dX3_search_99 (by decide) hq (Nat.le_refl _) (Nat.le_refl _)
      · have hf := ax_neg hc7 hf
        refine aw_iconst (v := 1) dX3_search_94 (by decide) ?_
        refine aw_goto (tgt := 99) dX3_search_95 (by decide) ?_
        cases hf
        exact aw_zret dX3_search_99 (by decide) hq (Nat.le_refl _) (Nat.le_refl _)
noncomputable def f_X7_lowestTop_L50 (z1 : Int64) (z1 : Int64) (z3 : Int32) (z4 : Int32) (a50 : Int32 × sx_M) : Option ((Int32 × sx_M) ⊕ (sx_M)) :=
  (if (rI a50.2 3 1) ≤ z4 then
 some (.inr a50.2)
else
 (if (rI a50.2 3 2) ≤ a50.1 then
 some (.inr a50.2)
else
 (f_X1_at 3 z4 a50.1 a50.2).bind (fun p1 =>
 (if ((z3 >>> (a50.1 &&& 31)) &&& (1 : Int32)) = 0 then
 (if p1.1 < z1 then
 some (.inl ((a50.1 + (1 : Int32)), p1.2))
else
 (if ¬ (z3 < 0 ∨ 256 ≤ (z3).toNatClampNeg) then
 (if ¬ ((z3 ||| ((1 : Int32) <<< (a50.1 &&& 31))) < 0 ∨ 256 ≤ ((z3 ||| ((1 : Int32) <<< (a50.1 &&& 31)))).toNatClampNeg) then
 (f_J9_max_f86c9 p1.1 (rB p1.2 43 ((z3 ||| ((1 : Int32) <<< (a50.1 &&& 31)))).toNatClampNeg) p1.2).bind (fun p2 =>
 (f_J9_min_f86c9 (rB p1.2 43 (z3).toNatClampNeg) p2.1 p2.2).bind (fun p3 =>
 (if ¬ (z3 < 0 ∨ 256 ≤ (z3).toNatClampNeg) then
 some (.inl ((a50.1 + (1 : Int32)), (wB p3.2 43 (z3).toNatClampNeg p3.1)))
else none)))
else none)
else none))
else
 some (.inl ((a50.1 + (1 : Int32)), p1.2))))))
noncomputable def f_X7_lowestTop_L12_J46 (z1 : Int64) (y3_46 : Int32) (y4_46 : Int32) (t1_46 : Int32) (t2_46 : Int64) (s_46 : sx_M) : Option ((Int32 × sx_M) ⊕ (sx_M)) :=
  (if ¬ (t1_46 < 0 ∨ 256 ≤ (t1_46).toNatClampNeg) then
 (whT (f_X7_lowestTop_L50 z1 z1 y3_46 y4_46) ((0 : Int32), (wB s_46 43 (t1_46).toNatClampNeg t2_46))).bind (fun b4 =>
 some (.inl ((y3_46 + (-1 : Int32)), b4)))
else none)
noncomputable def f_X7_lowestTop_L12 (z1 : Int64) (a12 : Int32 × sx_M) : Option ((Int32 × sx_M) ⊕ (sx_M)) :=
  (if a12.1 < 0 then
 some (.inr a12.2)
else
 (f_J6_bitCount_0f7a4 a12.1 a12.2).bind (fun p5 =>
 (if p5.1 < (rI p5.2 3 1) then
 f_X7_lowestTop_L12_J46 z1 a12.1 p5.1 a12.1 (9223372036854775807 : Int64) p5.2
else
 f_X7_lowestTop_L12_J46 z1 a12.1 p5.1 a12.1 z1 p5.2)))
noncomputable def f_X7_lowestTop (x1 : Int64) (s : sx_M) : Option (Int64 × sx_M) :=
  (whT (f_X7_lowestTop_L12 x1) ((((1 : Int32) <<< ((rI s 3 2) &&& 31)) - (1 : Int32)), s)).bind (fun b6 =>
 some ((rB b6 43 ((0 : Int32)).toNatClampNeg), b6))
set_option maxRecDepth 100000 in
set_option maxHeartbeats 4000000 in
theorem k_X7_lowestTop {l : Launch} {X : ax_X} {Q : Option Value → ax_H → Prop} (x1 : Int64) (s : sx_M) (gb : ax_H) {p : Int64 × sx_M} (hf : f_X7_lowestTop x1 s = some p) (hq : Q (some (.long p.1)) (hp p.2 gb)) : AM l X yX7_lowestTop cX7_lowestTop 8 (some .long) 1 0 0 [.ref 42, .long x1] (hp s gb) Q := by
  refine aw_met (own := RX7) (nm := "lowestTop") (L := [some (.ref 42), some (.long x1), none, none, none, none, none, none]) (by decide +kernel) rfl rfl (And.intro rfl (And.intro rfl trivial)) (Nat.le_of_ble_eq_true rfl) ?_
  unfold f_X7_lowestTop at hf
  refine aw_iconst (v := 1) dX7_lowestTop_0 (by decide) ?_
  refine aw_aload_n dX7_lowestTop_1 rfl rfl ?_
  refine aw_gR dX7_lowestTop_2 fl_X7_22 sh_42 rfl ?_
  refine aw_gI dX7_lowestTop_5 fl_X7_88 sh_3 rfl ?_
  refine aw_ishl dX7_lowestTop_8 ?_
  refine aw_iconst (v := 1) dX7_lowestTop_9 (by decide) ?_
  refine aw_isub dX7_lowestTop_10 ?_
  refine aw_istore_n (L' := [some (.ref 42), some (.long x1), none, some (.int (((1 : Int32) <<< ((rI s 3 2) &&& 31)) - (1 : Int32))), none, none, none, none]) dX7_lowestTop_11 rfl (by decide) rfl ?_
  obtain ⟨b6, hb6, hf⟩ := ax_bind hf
  refine wh_go ((((1 : Int32) <<< ((rI s 3 2) &&& 31)) - (1 : Int32)), s) (fun a12 : Int32 × sx_M => AW l X RX7 "lowestTop" cX7_lowestTop 8 (some .long) (ax_rm 1 0 0) (ax_MQ X Q 0 0) 0 0 12 [some (.ref 42), some (.long x1), none, some (.int a12.1), none, none, none, none] [] (hp a12.2 gb)) (fun e : sx_M => AW l X RX7 "lowestTop" cX7_lowestTop 8 (some .long) (ax_rm 1 0 0) (ax_MQ X Q 0 0) 0 0 146 [some (.ref 42), none, none, none, none, none, none, none] [] (hp e gb)) hb6 ?_ ?_
  · intro a12 r hf hK
    unfold f_X7_lowestTop_L12 at hf
    have J46 : ∀ (y3_46 : Int32) (y4_46 : Int32) (t1_46 : Int32) (t2_46 : Int64) (s_46 : sx_M), f_X7_lowestTop_L12_J46 x1 y3_46 y4_46 t1_46 t2_46 s_46 = some r → AW l X RX7 "lowestTop" cX7_lowestTop 8 (some .long) (ax_rm 1 0 0) (ax_MQ X Q 0 0) 0 0 46 [some (.ref 42), some (.long x1), none, some (.int y3_46), some (.int y4_46), none, none, none] [.long t2_46, .int t1_46, .ref 43] (hp s_46 gb) := by
      intro y3_46 y4_46 t1_46 t2_46 s_46 hf
      unfold f_X7_lowestTop_L12_J46 at hf
      obtain ⟨hc1, hf⟩ := ax_ite hf
      refine aw_sB dX7_lowestTop_46 sh_43 hc1 ?_
      refine aw_iconst (v := 0) dX7_lowestTop_47 (by decide) ?_
      refine aw_istore (L' := [some (.ref 42), some (.long x1), none, some (.int y3_46), some (.int y4_46), some (.int (0 : Int32)), none, none]) dX7_lowestTop_48 (by decide) rfl ?_
      obtain ⟨b4, hb4, hf⟩ := ax_bind hf
      refine wh_go ((0 : Int32), (wB s_46 43 (t1_46).toNatClampNeg t2_46)) (fun a50 : Int32 × sx_M => AW l X RX7 "lowestTop" cX7_lowestTop 8 (some .long) (ax_rm 1 0 0) (ax_MQ X Q 0 0) 0 0 50 [some (.ref 42), some (.long x1), none, some (.int y3_46), some (.int y4_46), some (.int a50.1), none, none] [] (hp a50.2 gb)) (fun e : sx_M => AW l X RX7 "lowestTop" cX7_lowestTop 8 (some .long) (ax_rm 1 0 0) (ax_MQ X Q 0 0) 0 0 140 [some (.ref 42), some (.long x1), none, some (.int y3_46), none, none, none, none] [] (hp e gb)) hb4 ?_ ?_
      · intro a50 r hf hK
        unfold f_X7_lowestTop_L50 at hf
        refine aw_iload dX7_lowestTop_50 rfl ?_
        refine aw_aload_n dX7_lowestTop_52 rfl rfl ?_
        refine aw_gR dX7_lowestTop_53 fl_X7_22 sh_42 rfl ?_
        refine aw_gI dX7_lowestTop_56 fl_X7_49 sh_3 rfl ?_
        refine aw_icmp_ge (tgt := 140) dX7_lowestTop_59 (by decide) (fun hc8 => ?_) (fun hc8 => ?_)
        · have hf := ax_pos hc8 hf
          refine aw_less (L' := [some (.ref 42), some (.long x1), none, some (.int y3_46), none, none, none, none]) (And.intro rfl (And.intro rfl (And.intro rfl trivial))) ?_
          cases hf
          exact hK
        · have hf := ax_neg hc8 hf
          refine aw_iload dX7_lowestTop_62 rfl ?_
          refine aw_aload_n dX7_lowestTop_64 rfl rfl ?_
          refine aw_gR dX7_lowestTop_65 fl_X7_22 sh_42 rfl ?_
          refine aw_gI dX7_lowestTop_68 fl_X7_88 sh_3 rfl ?_
          refine aw_icmp_ge (tgt := 140) dX7_lowestTop_71 (by decide) (fun hc7 => ?_) (fun hc7 => ?_)
          · have hf := ax_pos hc7 hf
            refine aw_less (L' := [some (.ref 42), some (.long x1), none, some (.int y3_46), none, none, none, none]) (And.intro rfl (And.intro rfl (And.intro rfl trivial))) ?_
            cases hf
            exact hK
          · have hf := ax_neg hc7 hf
            refine aw_aload_n dX7_lowestTop_74 rfl rfl ?_
            refine aw_gR dX7_lowestTop_75 fl_X7_22 sh_42 rfl ?_
            refine aw_iload dX7_lowestTop_78 rfl ?_
            refine aw_iload dX7_lowestTop_80 rfl ?_
            obtain ⟨p1, hp1, hf⟩ := ax_bind hf
            refine aw_cVl (As := [.int y4_46, .int a50.1]) (st := []) dX7_lowestTop_82 cl_X7_84 iv_X1_at (k_X1_at (Q := (fun v h' => v = some (.long p1.1) ∧ h' = hp p1.2 gb)) 3 y4_46 a50.1 a50.2 gb ax_G3 hp1 ⟨rfl, rfl⟩) (ci := 1) rfl (hp_get sh_3) rfl rfl rfl (Nat.le_of_ble_eq_true rfl) rfl (by decide) (by decide) ?_
            refine aw_lstore (L' := [some (.ref 42), some (.long x1), none, some (.int y3_46), some (.int y4_46), some (.int a50.1), some (.long p1.1), none]) dX7_lowestTop_85 (by decide) rfl ?_
            refine aw_iload_n dX7_lowestTop_87 rfl rfl ?_
            refine aw_iload dX7_lowestTop_88 rfl ?_
            refine aw_ishr dX7_lowestTop_90 ?_
            refine aw_iconst (v := 1) dX7_lowestTop_91 (by decide) ?_
            refine aw_iand dX7_lowestTop_92 ?_
            refine aw_if_ne (tgt := 134) dX7_lowestTop_93 (by decide) (fun hc6 => ?_) (fun hc6 => ?_)
            · have hf := ax_neg hc6 hf
              refine aw_iinc (v := (a50.1 + (1 : Int32))) (L' := [some (.ref 42), some (.long x1), none, some (.int y3_46), some (.int y4_46), some (.int (a50.1 + (1 : Int32))), some (.long p1.1), none]) dX7_lowestTop_134 rfl rfl (by decide) rfl ?_
              refine aw_goto (tgt := 50) dX7_lowestTop_137 (by decide) ?_
              refine aw_less (L' := [some (.ref 42), some (.long x1), none, some (.int y3_46), some (.int y4_46), some (.int (a50.1 + (1 : Int32))), none, none]) (And.intro rfl (And.intro rfl (And.intro rfl (And.intro rfl (And.intro rfl trivial))))) ?_
              cases hf
              exact hK
            · have hf := ax_pos hc6 hf
              refine aw_lload dX7_lowestTop_96 rfl ?_
              refine aw_lload_n dX7_lowestTop_98 rfl rfl ?_
              refine aw_lcmp_lt (tgt := 134) dX7_lowestTop_99 dX7_lowestTop_100 (by decide) (fun hc5 => ?_) (fun hc5 => ?_)
              · have hf := ax_pos hc5 hf
                refine aw_iinc (v := (a50.1 + (1 : Int32))) (L' := [some (.ref 42), some (.long x1), none, some (.int y3_46), some (.int y4_46), some (.int (a50.1 + (1 : Int32))), some (.long p1.1), none]) dX7_lowestTop_134 rfl rfl (by decide) rfl ?_
                refine aw_goto (tgt := 50) dX7_lowestTop_137 (by decide) ?_
                refine aw_less (L' := [some (.ref 42), some (.long x1), none, some (.int y3_46), some (.int y4_46), some (.int (a50.1 + (1 : Int32))), none, none]) (And.intro rfl (And.intro rfl (And.intro rfl (And.intro rfl (And.intro rfl trivial))))) ?_
                cases hf
                exact hK
              · have hf := ax_neg hc5 hf
                refine aw_aload_n dX7_lowestTop_103 rfl rfl ?_
                refine aw_gR dX7_lowestTop_104 fl_X7_9 sh_42 rfl ?_
                refine aw_iload_n dX7_lowestTop_107 rfl rfl ?_
                refine aw_aload_n dX7_lowestTop_108 rfl rfl ?_
                refine aw_gR dX7_lowestTop_109 fl_X7_9 sh_42 rfl ?_
                refine aw_iload_n dX7_lowestTop_112 rfl rfl ?_
                obtain ⟨hc2, hf⟩ := ax_ite hf
                refine aw_lB dX7_lowestTop_113 sh_43 hc2 ?_
                refine aw_lload dX7_lowestTop_114 rfl ?_
                refine aw_aload_n dX7_lowestTop_116 rfl rfl ?_
                refine aw_gR dX7_lowestTop_117 fl_X7_9 sh_42 rfl ?_
                refine aw_iload_n dX7_lowestTop_120 rfl rfl ?_
                refine aw_iconst (v := 1) dX7_lowestTop_121 (by decide) ?_
                refine aw_iload dX7_lowestTop_122 rfl ?_
                refine aw_ishl dX7_lowestTop_124 ?_
                refine aw_ior dX7_lowestTop_125 ?_
                obtain ⟨hc3, hf⟩ := ax_ite hf
                refine aw_lB dX7_lowestTop_126 sh_43 hc3 ?_
                obtain ⟨p2, hp2, hf⟩ := ax_bind hf
                refine aw_cSl (As := [.long p1.1, .long (rB p1.2 43 ((y3_46 ||| ((1 : Int32) <<< (a50.1 &&& 31)))).toNatClampNeg)]) (st := [.long (rB p1.2 43 (y3_46).toNatClampNeg), .int y3_46, .ref 43]) dX7_lowestTop_127 cl_X7_119 st_J9_max_f86c9 (k_J9_max_f86c9 (Q := (fun v h' => v = some (.long p2.1) ∧ h' = hp p2.2 gb)) p1.1 (rB p1.2 43 ((y3_46 ||| ((1 : Int32) <<< (a50.1 &&& 31)))).toNatClampNeg) p1.2 gb hp2 ⟨rfl, rfl⟩) rfl rfl (Nat.le_of_ble_eq_true rfl) rfl (by decide) (by decide) ?_
                obtain ⟨p3, hp3, hf⟩ := ax_bind hf
                refine aw_cSl (As := [.long (rB p1.2 43 (y3_46).toNatClampNeg), .long p2.1]) (st := [.int y3_46, .ref 43]) dX7_lowestTop_130 cl_X7_125 st_J9_min_f86c9 (k_J9_min_f86c9 (Q := (fun v h' => v = some (.long p3.1) ∧ h' = hp p3.2 gb)) (rB p1.2 43 (y3_46).toNatClampNeg) p2.1 p2.2 gb hp3 ⟨rfl, rfl⟩) rfl rfl (Nat.le_of_ble_eq_true rfl) rfl (by decide) (by decide) ?_
                obtain ⟨hc4, hf⟩ := ax_ite hf
                refine aw_sB dX7_lowestTop_133 sh_43 hc4 ?_
                refine aw_iinc (v := (a50.1 + (1 : Int32))) (L' := [some (.ref 42), some (.long x1), none, some (.int y3_46), some (.int y4_46), some (.int (a50.1 + (1 : Int32))), some (.long p1.1), none]) dX7_lowestTop_134 rfl rfl (by decide) rfl ?_
                refine aw_goto (tgt := 50) dX7_lowestTop_137 (by decide) ?_
                refine aw_less (L' := [some (.ref 42), some (.long x1), none, some (.int y3_46), some (.int y4_46), some (.int (a50.1 + (1 : Int32))), none, none]) (And.intro rfl (And.intro rfl (And.intro rfl (And.intro rfl (And.intro rfl trivial))))) ?_
                cases hf
                exact hK
      · refine aw_iinc (v := (y3_46 + (-1 : Int32))) (L' := [some (.ref 42), some (.long x1), none, some (.int (y3_46 + (-1 : Int32))), none, none, none, none]) dX7_lowestTop_140 rfl rfl (by decide) rfl ?_
        refine aw_goto (tgt := 12) dX7_lowestTop_143 (by decide) ?_
        cases hf
        exact hK
    refine aw_iload_n dX7_lowestTop_12 rfl rfl ?_
    refine aw_if_lt (tgt := 146) dX7_lowestTop_13 (by decide) (fun hc10 => ?_) (fun hc10 => ?_)
    · have hf := ax_pos hc10 hf
      refine aw_less (L' := [some (.ref 42), none, none, none, none, none, none, none]) (And.intro rfl trivial) ?_
      cases hf
      exact hK
    · have hf := ax_neg hc10 hf
      refine aw_iload_n dX7_lowestTop_16 rfl rfl ?_
      obtain ⟨p5, hp5, hf⟩ := ax_bind hf
      refine aw_cSi (As := [.int a12.1]) (st := []) dX7_lowestTop_17 cl_X7_113 st_J6_bitCount_0f7a4 (k_J6_bitCount_0f7a4 (Q := (fun v h' => v = some (.int p5.1) ∧ h' = hp p5.2 gb)) a12.1 a12.2 gb hp5 ⟨rfl, rfl⟩) rfl rfl (Nat.le_of_ble_eq_true rfl) rfl (by decide) (by decide) ?_
      refine aw_istore (L' := [some (.ref 42), some (.long x1), none, some (.int a12.1), some (.int p5.1), none, none, none]) dX7_lowestTop_20 (by decide) rfl ?_
      refine aw_aload_n dX7_lowestTop_22 rfl rfl ?_
      refine aw_gR dX7_lowestTop_23 fl_X7_9 sh_42 rfl ?_
      refine aw_iload_n dX7_lowestTop_26 rfl rfl ?_
      refine aw_iload dX7_lowestTop_27 rfl ?_
      refine aw_aload_n dX7_lowestTop_29 rfl rfl ?_
      refine aw_gR dX7_lowestTop_30 fl_X7_22 sh_42 rfl ?_
      refine aw_gI dX7_lowestTop_33 fl_X7_49 sh_3 rfl ?_
      refine aw_icmp_lt (tgt := 43) dX7_lowestTop_36 (by decide) (fun hc9 => ?_) (fun hc9 => ?_)
      · have hf := ax_pos hc9 hf
        refine aw_ldc2 dX7_lowestTop_43 kc_X7_91 ?_
        exact J46 a12.1 p5.1 a12.1 (9223372036854775807 : Int64) p5.2 hf
      · have hf := ax_neg hc9 hf
        refine aw_lload_n dX7_lowestTop_39 rfl rfl ?_
        refine aw_goto (tgt := 46) dX7_lowestTop_40 (by decide) ?_
        exact J46 a12.1 p5.1 a12.1 x1 p5.2 hf
  · refine aw_aload_n dX7_lowestTop_146 rfl rfl ?_
    refine aw_gR dX7_lowestTop_147 fl_X7_9 sh_42 rfl ?_
    refine aw_iconst (v := 0) dX7_lowestTop_150 (by decide) ?_
    refine aw_lB dX7_lowestTop_151 sh_43 (by decide) ?_
    cases hf
    exact aw_lret dX7_lowestTop_152 hq (Nat.le_refl _) (Nat.le_refl _)
noncomputable def f_X7_supposeWithin_L29_J68 (z1 : Int64) (z3 : Int64) (z1 : Int64) (z3 : Int64) (z5 : Int32) (y6_68 : Int32) (s_68 : sx_M) : Option ((Int32 × sx_M) ⊕ (sx_M)) :=
  (f_X1_put 13 z5 y6_68 (9223372036854775807 : Int64) s_68).bind (fun p2 =>
 some (.inl ((y6_68 + (1 : Int32)), p2)))
noncomputable def f_X7_supposeWithin_L29 (z1 : Int64) (z3 : Int64) (z1 : Int64) (z3 : Int64) (z5 : Int32) (a29 : Int32 × sx_M) : Option ((Int32 × sx_M) ⊕ (sx_M)) :=
  (if (rI a29.2 3 2) ≤ a29.1 then
 some (.inr a29.2)
else
 (f_X1_at 3 z5 a29.1 a29.2).bind (fun p3 =>
 (if p3.1 < z1 then
 f_X7_supposeWithin_L29_J68 z1 z3 z1 z3 z5 a29.1 p3.2
else
 (if p3.1 ≤ z3 then
 some (.inl ((a29.1 + (1 : Int32)), p3.2))
else
 f_X7_supposeWithin_L29_J68 z1 z3 z1 z3 z5 a29.1 p3.2))))
noncomputable def f_X7_supposeWithin_L14 (z1 : Int64) (z3 : Int64) (a14 : Int32 × sx_M) : Option ((Int32 × sx_M) ⊕ (sx_M)) :=
  (if (rI a14.2 3 1) ≤ a14.1 then
 some (.inr a14.2)
else
 (whT (f_X7_supposeWithin_L29 z1 z3 z1 z3 a14.1) ((0 : Int32), a14.2)).bind (fun b4 =>
 some (.inl ((a14.1 + (1 : Int32)), b4))))
noncomputable def f_X7_supposeWithin (x1 : Int64) (x3 : Int64) (s : sx_M) : Option sx_M :=
  (f_X1_copy 13 3 s).bind (fun p1 =>
 (whT (f_X7_supposeWithin_L14 x1 x3) ((0 : Int32), p1)).bind (fun b5 =>
 some b5))
set_option maxRecDepth 100000 in
set_option maxHeartbeats 4000000 in
theorem k_X7_supposeWithin {l : Launch} {X : ax_X} {Q : Option Value → ax_H → Prop} (x1 : Int64) (x3 : Int64) (s : sx_M) (gb : ax_H) {p : sx_M} (hf : f_X7_supposeWithin x1 x3 s = some p) (hq : Q (none) (hp p gb)) : AM l X yX7_supposeWithin cX7_supposeWithin 9 none 2 0 0 [.ref 42, .long x1, .long x3] (hp s gb) Q := by
  refine aw_met (own := RX7) (nm := "supposeWithin") (L := [some (.ref 42), some (.long x1), none, some (.long x3), none, none, none, none, none]) (by decide +kernel) rfl rfl (And.intro rfl (And.intro rfl (And.intro rfl trivial))) (Nat.le_of_ble_eq_true rfl) ?_
  unfold f_X7_supposeWithin at hf
  refine aw_aload_n dX7_supposeWithin_0 rfl rfl ?_
  refine aw_gR dX7_supposeWithin_1 fl_X7_26 sh_42 rfl ?_
  refine aw_aload_n dX7_supposeWithin_4 rfl rfl ?_
  refine aw_gR dX7_supposeWithin_5 fl_X7_22 sh_42 rfl ?_
  obtain ⟨p1, hp1, hf⟩ := ax_bind hf
  refine aw_cVv (As := [.ref 3]) (st := []) dX7_supposeWithin_8 cl_X7_33 iv_X1_copy (k_X1_copy (Q := (fun v h' => v = none ∧ h' = hp p1 gb)) 13 3 s gb ax_G13 ax_G3 hp1 ⟨rfl, rfl⟩) (ci := 1) rfl (hp_get sh_13) rfl rfl rfl (Nat.le_of_ble_eq_true rfl) rfl (by decide) (by decide) ?_
  refine aw_iconst (v := 0) dX7_supposeWithin_11 (by decide) ?_
  refine aw_istore (L' := [some (.ref 42), some (.long x1), none, some (.long x3), none, some (.int (0 : Int32)), none, none, none]) dX7_supposeWithin_12 (by decide) rfl ?_
  obtain ⟨b5, hb5, hf⟩ := ax_bind hf
  refine wh_go ((0 : Int32), p1) (fun a14 : Int32 × sx_M => AW l X RX7 "supposeWithin" cX7_supposeWithin 9 none (ax_rm 2 0 0) (ax_MQ X Q 0 0) 0 0 14 [some (.ref 42), some (.long x1), none, some (.long x3), none, some (.int a14.1), none, none, none] [] (hp a14.2 gb)) (fun e : sx_M => AW l X RX7 "supposeWithin" cX7_supposeWithin 9 none (ax_rm 2 0 0) (ax_MQ X Q 0 0) 0 0 94 [none, none, none, none, none, none, none, none, none] [] (hp e gb)) hb5 ?_ ?_
  · intro a14 r hf hK
    unfold f_X7_supposeWithin_L14 at hf
    refine aw_iload dX7_supposeWithin_14 rfl ?_
    refine aw_aload_n dX7_supposeWithin_16 rfl rfl ?_
    refine aw_gR dX7_supposeWithin_17 fl_X7_22 sh_42 rfl ?_
    refine aw_gI dX7_supposeWithin_20 fl_X7_49 sh_3 rfl ?_
    refine aw_icmp_ge (tgt := 94) dX7_supposeWithin_23 (by decide) (fun hc4 => ?_) (fun hc4 => ?_)
    · have hf := ax_pos hc4 hf
      refine aw_less (L' := [none, none, none, none, none, none, none, none, none]) trivial ?_
      cases hf
      exact hK
    · have hf := ax_neg hc4 hf
      refine aw_iconst (v := 0) dX7_supposeWithin_26 (by decide) ?_
      refine aw_istore (L' := [some (.ref 42), some (.long x1), none, some (.long x3), none, some (.int a14.1), some (.int (0 : Int32)), none, none]) dX7_supposeWithin_27 (by decide) rfl ?_
      obtain ⟨b4, hb4, hf⟩ := ax_bind hf
      refine wh_go ((0 : Int32), a14.2) (fun a29 : Int32 × sx_M => AW l X RX7 "supposeWithin" cX7_supposeWithin 9 none (ax_rm 2 0 0) (ax_MQ X Q 0 0) 0 0 29 [some (.ref 42), some (.long x1), none, some (.long x3), none, some (.int a14.1), some (.int a29.1), none, none] [] (hp a29.2 gb)) (fun e : sx_M => AW l X RX7 "supposeWithin" cX7_supposeWithin 9 none (ax_rm 2 0 0) (ax_MQ X Q 0 0) 0 0 88 [some (.ref 42), some (.long x1), none, some (.long x3), none, some (.int a14.1), none, none, none] [] (hp e gb)) hb4 ?_ ?_
      · intro a29 r hf hK
        unfold f_X7_supposeWithin_L29 at hf
        have J68 : ∀ (y6_68 : Int32) (s_68 : sx_M), f_X7_supposeWithin_L29_J68 x1 x3 x1 x3 a14.1 y6_68 s_68 = some r → AW l X RX7 "supposeWithin" cX7_supposeWithin 9 none (ax_rm 2 0 0) (ax_MQ X Q 0 0) 0 0 68 [some (.ref 42), some (.long x1), none, some (.long x3), none, some (.int a14.1), some (.int y6_68), none, none] [] (hp s_68 gb) := by
          intro y6_68 s_68 hf
          unfold f_X7_supposeWithin_L29_J68 at hf
          refine aw_aload_n dX7_supposeWithin_68 rfl rfl ?_
          refine aw_gR dX7_supposeWithin_69 fl_X7_26 sh_42 rfl ?_
          refine aw_iload dX7_supposeWithin_72 rfl ?_
          refine aw_iload dX7_supposeWithin_74 rfl ?_
          refine aw_ldc2 dX7_supposeWithin_76 kc_X7_91 ?_
          obtain ⟨p2, hp2, hf⟩ := ax_bind hf
          refine aw_cVv (As := [.int a14.1, .int y6_68, .long (9223372036854775807 : Int64)]) (st := []) dX7_supposeWithin_79 cl_X7_93 iv_X1_put (k_X1_put (Q := (fun v h' => v = none ∧ h' = hp p2 gb)) 13 a14.1 y6_68 (9223372036854775807 : Int64) s_68 gb ax_G13 hp2 ⟨rfl, rfl⟩) (ci := 1) rfl (hp_get sh_13) rfl rfl rfl (Nat.le_of_ble_eq_true rfl) rfl (by decide) (by decide) ?_
          refine aw_iinc (v := (y6_68 + (1 : Int32))) (L' := [some (.ref 42), some (.long x1), none, some (.long x3), none, some (.int a14.1), some (.int (y6_68 + (1 : Int32))), none, none]) dX7_supposeWithin_82 rfl rfl (by decide) rfl ?_
          refine aw_goto (tgt := 29) dX7_supposeWithin_85 (by decide) ?_
          cases hf
          exact hK
        refine aw_iload dX7_supposeWithin_29 rfl ?_
        refine aw_aload_n dX7_supposeWithin_31 rfl rfl ?_
        refine aw_gR dX7_supposeWithin_32 fl_X7_22 sh_42 rfl ?_
        refine aw_gI dX7_supposeWithin_35 fl_X7_88 sh_3 rfl ?_
        refine aw_icmp_ge (tgt := 88) dX7_supposeWithin_38 (by decide) (fun hc3 => ?_) (fun hc3 => ?_)
        · have hf := ax_pos hc3 hf
          refine aw_less (L' := [some (.ref 42), some (.long x1), none, some (.long x3), none, some (.int a14.1), none, none, none]) (And.intro rfl (And.intro rfl (And.intro rfl (And.intro rfl trivial)))) ?_
          cases hf
          exact hK
        · have hf := ax_neg hc3 hf
          refine aw_aload_n dX7_supposeWithin_41 rfl rfl ?_
          refine aw_gR dX7_supposeWithin_42 fl_X7_22 sh_42 rfl ?_
          refine aw_iload dX7_supposeWithin_45 rfl ?_
          refine aw_iload dX7_supposeWithin_47 rfl ?_
          obtain ⟨p3, hp3, hf⟩ := ax_bind hf
          refine aw_cVl (As := [.int a14.1, .int a29.1]) (st := []) dX7_supposeWithin_49 cl_X7_84 iv_X1_at (k_X1_at (Q := (fun v h' => v = some (.long p3.1) ∧ h' = hp p3.2 gb)) 3 a14.1 a29.1 a29.2 gb ax_G3 hp3 ⟨rfl, rfl⟩) (ci := 1) rfl (hp_get sh_3) rfl rfl rfl (Nat.le_of_ble_eq_true rfl) rfl (by decide) (by decide) ?_
          refine aw_lstore (L' := [some (.ref 42), some (.long x1), none, some (.long x3), none, some (.int a14.1), some (.int a29.1), some (.long p3.1), none]) dX7_supposeWithin_52 (by decide) rfl ?_
          refine aw_lload dX7_supposeWithin_54 rfl ?_
          refine aw_lload_n dX7_supposeWithin_56 rfl rfl ?_
          refine aw_lcmp_lt (tgt := 68) dX7_supposeWithin_57 dX7_supposeWithin_58 (by decide) (fun hc2 => ?_) (fun hc2 => ?_)
          · have hf := ax_pos hc2 hf
            refine aw_less (L' := [some (.ref 42), some (.long x1), none, some (.long x3), none, some (.int a14.1), some (.int a29.1), none, none]) (And.intro rfl (And.intro rfl (And.intro rfl (And.intro rfl (And.intro rfl trivial))))) ?_
            exact J68 a29.1 p3.2 hf
          · have hf := ax_neg hc2 hf
            refine aw_lload dX7_supposeWithin_61 rfl ?_
            refine aw_lload_n dX7_supposeWithin_63 rfl rfl ?_
            refine aw_lcmp_le (tgt := 82) dX7_supposeWithin_64 dX7_supposeWithin_65 (by decide) (fun hc1 => ?_) (fun hc1 => ?_)
            · have hf := ax_pos hc1 hf
              refine aw_iinc (v := (a29.1 + (1 : Int32))) (L' := [some (.ref 42), some (.long x1), none, some (.long x3), none, some (.int a14.1), some (.int (a29.1 + (1 : Int32))), some (.long p3.1), none]) dX7_supposeWithin_82 rfl rfl (by decide) rfl ?_
              refine aw_goto (tgt := 29) dX7_supposeWithin_85 (by decide) ?_
              refine aw_less (L' := [some (.ref 42), some (.long x1), none, some (.long x3), none, some (.int a14.1), some (.int (a29.1 + (1 : Int32))), none, none]) (And.intro rfl (And.intro rfl (And.intro rfl (And.intro rfl (And.intro rfl trivial))))) ?_
              cases hf
              exact hK
            · have hf := ax_neg hc1 hf
              refine aw_less (L' := [some (.ref 42), some (.long x1), none, some (.long x3), none, some (.int a14.1), some (.int a29.1), none, none]) (And.intro rfl (And.intro rfl (And.intro rfl (And.intro rfl (And.intro rfl trivial))))) ?_
              exact J68 a29.1 p3.2 hf
      · refine aw_iinc (v := (a14.1 + (1 : Int32))) (L' := [some (.ref 42), some (.long x1), none, some (.long x3), none, some (.int (a14.1 + (1 : Int32))), none, none, none]) dX7_supposeWithin_88 rfl rfl (by decide) rfl ?_
        refine aw_goto (tgt := 14) dX7_supposeWithin_91 (by decide) ?_
        cases hf
        exact hK
  · cases hf
    exact aw_vret dX7_supposeWithin_94 hq (Nat.le_refl _) (Nat.le_refl _)
noncomputable def f_X7_triedComesFirst_L2 (a2 : Int32 × sx_M) : Option ((Int32 × sx_M) ⊕ ((sx_M) ⊕ (Int32 × sx_M))) :=
  (if (rI a2.2 3 1) ≤ a2.1 then
 some (.inr (.inl a2.2))
else
 (if ¬ (a2.1 < 0 ∨ 7 ≤ (a2.1).toNatClampNeg) then
 (if ¬ (a2.1 < 0 ∨ 7 ≤ (a2.1).toNatClampNeg) then
 (if (rA a2.2 45 (a2.1).toNatClampNeg) = (rA a2.2 44 (a2.1).toNatClampNeg) then
 some (.inl ((a2.1 + (1 : Int32)), a2.2))
else
 (if ¬ (a2.1 < 0 ∨ 7 ≤ (a2.1).toNatClampNeg) then
 (if ¬ (a2.1 < 0 ∨ 7 ≤ (a2.1).toNatClampNeg) then
 (if (rA a2.2 44 (a2.1).toNatClampNeg) ≤ (rA a2.2 45 (a2.1).toNatClampNeg) then
 some (.inr (.inr (((0 : Int32), a2.2))))
else
 some (.inr (.inr (((1 : Int32), a2.2)))))
else none)
else none))
else none)
else none))
noncomputable def f_X7_triedComesFirst (s : sx_M) : Option (Int32 × sx_M) :=
  (whT (f_X7_triedComesFirst_L2) ((0 : Int32), s)).bind (fun b1 => (Sum.elim (fun e2 =>
 some ((0 : Int32), e2)) (fun e3 =>
 some e3)) b1)
set_option maxRecDepth 100000 in
set_option maxHeartbeats 4000000 in
theorem k_X7_triedComesFirst {l : Launch} {X : ax_X} {Q : Option Value → ax_H → Prop} (s : sx_M) (gb : ax_H) {p : Int32 × sx_M} (hf : f_X7_triedComesFirst s = some p) (hq : Q (some (.int p.1)) (hp p.2 gb)) : AM l X yX7_triedComesFirst cX7_triedComesFirst 2 (some .boolean) 0 0 0 [.ref 42] (hp s gb) Q := by
  refine aw_met (own := RX7) (nm := "triedComesFirst") (L := [some (.ref 42), none]) (by decide +kernel) rfl rfl (And.intro rfl trivial) (Nat.le_of_ble_eq_true rfl) ?_
  unfold f_X7_triedComesFirst at hf
  refine aw_iconst (v := 0) dX7_triedComesFirst_0 (by decide) ?_
  refine aw_istore_n (L' := [some (.ref 42), some (.int (0 : Int32))]) dX7_triedComesFirst_1 rfl (by decide) rfl ?_
  obtain ⟨b1, hb1, hf⟩ := ax_bind hf
  refine wh_go ((0 : Int32), s) (fun a2 : Int32 × sx_M => AW l X RX7 "triedComesFirst" cX7_triedComesFirst 2 (some .boolean) (ax_rm 0 0 0) (ax_MQ X Q 0 0) 0 0 2 [some (.ref 42), some (.int a2.1)] [] (hp a2.2 gb)) (Sum.elim (fun e : sx_M => AW l X RX7 "triedComesFirst" cX7_triedComesFirst 2 (some .boolean) (ax_rm 0 0 0) (ax_MQ X Q 0 0) 0 0 55 [none, none] [] (hp e gb)) (fun v : Int32 × sx_M => Q (some (.int v.1)) (hp v.2 gb))) hb1 ?_ ?_
  · intro a2 r hf hK
    unfold f_X7_triedComesFirst_L2 at hf
    refine aw_iload_n dX7_triedComesFirst_2 rfl rfl ?_
    refine aw_aload_n dX7_triedComesFirst_3 rfl rfl ?_
    refine aw_gR dX7_triedComesFirst_4 fl_X7_22 sh_42 rfl ?_
    refine aw_gI dX7_triedComesFirst_7 fl_X7_49 sh_3 rfl ?_
    refine aw_icmp_ge (tgt := 55) dX7_triedComesFirst_10 (by decide) (fun hc7 => ?_) (fun hc7 => ?_)
    · have hf := ax_pos hc7 hf
      refine aw_less (L' := [none, none]) trivial ?_
      cases hf
      exact hK
    · have hf := ax_neg hc7 hf
      refine aw_aload_n dX7_triedComesFirst_13 rfl rfl ?_
      refine aw_gR dX7_triedComesFirst_14 fl_X7_19 sh_42 rfl ?_
      refine aw_iload_n dX7_triedComesFirst_17 rfl rfl ?_
      obtain ⟨hc1, hf⟩ := ax_ite hf
      refine aw_lA dX7_triedComesFirst_18 sh_45 hc1 ?_
      refine aw_aload_n dX7_triedComesFirst_19 rfl rfl ?_
      refine aw_gR dX7_triedComesFirst_20 fl_X7_15 sh_42 rfl ?_
      refine aw_iload_n dX7_triedComesFirst_23 rfl rfl ?_
      obtain ⟨hc2, hf⟩ := ax_ite hf
      refine aw_lA dX7_triedComesFirst_24 sh_44 hc2 ?_
      refine aw_icmp_eq (tgt := 49) dX7_triedComesFirst_25 (by decide) (fun hc6 => ?_) (fun hc6 => ?_)
      · have hf := ax_pos hc6 hf
        refine aw_iinc (v := (a2.1 + (1 : Int32))) (L' := [some (.ref 42), some (.int (a2.1 + (1 : Int32)))]) dX7_triedComesFirst_49 rfl rfl (by decide) rfl ?_
        refine aw_goto (tgt := 2) dX7_triedComesFirst_52 (by decide) ?_
        cases hf
        exact hK
      · have hf := ax_neg hc6 hf
        refine aw_aload_n dX7_triedComesFirst_28 rfl rfl ?_
        refine aw_gR dX7_triedComesFirst_29 fl_X7_19 sh_42 rfl ?_
        refine aw_iload_n dX7_triedComesFirst_32 rfl rfl ?_
        obtain ⟨hc3, hf⟩ := ax_ite hf
        refine aw_lA dX7_triedComesFirst_33 sh_45 hc3 ?_
        refine aw_aload_n dX7_triedComesFirst_34 rfl rfl ?_
        refine aw_gR dX7_triedComesFirst_35 fl_X7_15 sh_42 rfl ?_
        refine aw_iload_n dX7_triedComesFirst_38 rfl rfl ?_
        obtain ⟨hc4, hf⟩ := ax_ite hf
        refine aw_lA dX7_triedComesFirst_39 sh_44 hc4 ?_
        refine aw_icmp_ge (tgt := 47) dX7_triedComesFirst_40 (by decide) (fun hc5 => ?_) (fun hc5 => ?_)
        · have hf := ax_pos hc5 hf
          refine aw_iconst (v := 0) dX7_triedComesFirst_47 (by decide) ?_
          cases hf
          exact aw_zret dX7_triedComesFirst_48 (by decide) hK (Nat.le_refl _) (Nat.le_refl _)
        · have hf := ax_neg hc5 hf
          refine aw_iconst (v := 1) dX7_triedComesFirst_43 (by decide) ?_
          refine aw_goto (tgt := 48) dX7_triedComesFirst_44 (by decide) ?_
          cases hf
          exact aw_zret dX7_triedComesFirst_48 (by decide) hK (Nat.le_refl _) (Nat.le_refl _)
  · rcases b1 with e2 | e3
    · refine aw_iconst (v := 0) dX7_triedComesFirst_55 (by decide) ?_
      cases hf
      exact aw_zret dX7_triedComesFirst_56 (by decide) hq (Nat.le_refl _) (Nat.le_refl _)
    · cases hf
      exact hq
noncomputable def f_X7_tryBottom_L121 (a121 : Int32 × sx_M) : Option ((Int32 × sx_M) ⊕ (sx_M)) :=
  (if (rI a121.2 3 1) ≤ a121.1 then
 some (.inr a121.2)
else
 (if ¬ (a121.1 < 0 ∨ 7 ≤ (a121.1).toNatClampNeg) then
 (if ¬ (a121.1 < 0 ∨ 7 ≤ (a121.1).toNatClampNeg) then
 some (.inl ((a121.1 + (1 : Int32)), (wA a121.2 44 (a121.1).toNatClampNeg (rA a121.2 45 (a121.1).toNatClampNeg))))
else none)
else none))
noncomputable def f_X7_tryBottom_J105 (y1_105 : Int64) (y3_105 : Int64) (y5_105 : Int64) (s_105 : sx_M) : Option sx_M :=
  (whT (f_X7_tryBottom_L121) ((0 : Int32), (wJ (wJ s_105 42 6 (y3_105 - y1_105)) 42 7 y5_105))).bind (fun b1 =>
 some b1)
noncomputable def f_X7_tryBottom (x1 : Int64) (s : sx_M) : Option sx_M :=
  (f_X7_lowestTop x1 s).bind (fun p2 =>
 (if p2.1 = (9223372036854775807 : Int64) then
 some p2.2
else
 (if (p2.1 - x1) ≤ (rJ p2.2 42 6) then
 (f_X7_supposeWithin x1 p2.1 p2.2).bind (fun p3 =>
 (f_X5_refresh 13 p3).bind (fun p4 =>
 (f_X5_findFirst 13 45 p4).bind (fun p5 =>
 (if p5.1 = 0 then
 some p5.2
else
 (f_X1_sumOf 3 45 p5.2).bind (fun p6 =>
 (if (p2.1 - x1) < (rJ p6.2 42 6) then
 f_X7_tryBottom_J105 x1 p2.1 p6.1 p6.2
else
 (if p6.1 < (rJ p6.2 42 7) then
 f_X7_tryBottom_J105 x1 p2.1 p6.1 p6.2
else
 (if p6.1 = (rJ p6.2 42 7) then
 (f_X7_triedComesFirst p6.2).bind (fun p7 =>
 (if p7.1 = 0 then
 some p7.2
else
 f_X7_tryBottom_J105 x1 p2.1 p6.1 p7.2))
else
 some p6.2))))))))
else
 some p2.2)))
set_option maxRecDepth 100000 in
set_option maxHeartbeats 4000000 in
theorem k_X7_tryBottom {l : Launch} {X : ax_X} {Q : Option Value → ax_H → Prop} (x1 : Int64) (s : sx_M) (gb : ax_H) {p : sx_M} (hf : f_X7_tryBottom x1 s = some p) (hq : Q (none) (hp p gb)) : AM l X yX7_tryBottom cX7_tryBottom 8 none 3 0 0 [.ref 42, .long x1] (hp s gb) Q := by
  refine aw_met (own := RX7) (nm := "tryBottom") (L := [some (.ref 42), some (.long x1), none, none, none, none, none, none]) (by decide +kernel) rfl rfl (And.intro rfl (And.intro rfl trivial)) (Nat.le_of_ble_eq_true rfl) ?_
  unfold f_X7_tryBottom at hf
  have J105 : ∀ (y1_105 : Int64) (y3_105 : Int64) (y5_105 : Int64) (s_105 : sx_M), f_X7_tryBottom_J105 y1_105 y3_105 y5_105 s_105 = some p → AW l X RX7 "tryBottom" cX7_tryBottom 8 none (ax_rm 3 0 0) (ax_MQ X Q 0 0) 0 0 105 [some (.ref 42), some (.long y1_105), none, some (.long y3_105), none, some (.long y5_105), none, none] [] (hp s_105 gb) := by
    intro y1_105 y3_105 y5_105 s_105 hf
    unfold f_X7_tryBottom_J105 at hf
    refine aw_aload_n dX7_tryBottom_105 rfl rfl ?_
    refine aw_lload_n dX7_tryBottom_106 rfl rfl ?_
    refine aw_lload_n dX7_tryBottom_107 rfl rfl ?_
    refine aw_lsub dX7_tryBottom_108 ?_
    refine aw_pJ dX7_tryBottom_109 fp_X7_99 sh_42 rfl ?_
    refine aw_aload_n dX7_tryBottom_112 rfl rfl ?_
    refine aw_lload dX7_tryBottom_113 rfl ?_
    refine aw_pJ dX7_tryBottom_115 fp_X7_103 sh_42 rfl ?_
    refine aw_iconst (v := 0) dX7_tryBottom_118 (by decide) ?_
    refine aw_istore (L' := [some (.ref 42), some (.long y1_105), none, some (.long y3_105), none, some (.long y5_105), none, some (.int (0 : Int32))]) dX7_tryBottom_119 (by decide) rfl ?_
    refine aw_less (L' := [some (.ref 42), none, none, none, none, none, none, some (.int (0 : Int32))]) (And.intro rfl (And.intro rfl trivial)) ?_
    obtain ⟨b1, hb1, hf⟩ := ax_bind hf
    refine wh_go ((0 : Int32), (wJ (wJ s_105 42 6 (y3_105 - y1_105)) 42 7 y5_105)) (fun a121 : Int32 × sx_M => AW l X RX7 "tryBottom" cX7_tryBottom 8 none (ax_rm 3 0 0) (ax_MQ X Q 0 0) 0 0 121 [some (.ref 42), none, none, none, none, none, none, some (.int a121.1)] [] (hp a121.2 gb)) (fun e : sx_M => AW l X RX7 "tryBottom" cX7_tryBottom 8 none (ax_rm 3 0 0) (ax_MQ X Q 0 0) 0 0 153 [none, none, none, none, none, none, none, none] [] (hp e gb)) hb1 ?_ ?_
    · intro a121 r hf hK
      unfold f_X7_tryBottom_L121 at hf
      refine aw_iload dX7_tryBottom_121 rfl ?_
      refine aw_aload_n dX7_tryBottom_123 rfl rfl ?_
      refine aw_gR dX7_tryBottom_124 fl_X7_22 sh_42 rfl ?_
      refine aw_gI dX7_tryBottom_127 fl_X7_49 sh_3 rfl ?_
      refine aw_icmp_ge (tgt := 153) dX7_tryBottom_130 (by decide) (fun hc3 => ?_) (fun hc3 => ?_)
      · have hf := ax_pos hc3 hf
        refine aw_less (L' := [none, none, none, none, none, none, none, none]) trivial ?_
        cases hf
        exact hK
      · have hf := ax_neg hc3 hf
        refine aw_aload_n dX7_tryBottom_133 rfl rfl ?_
        refine aw_gR dX7_tryBottom_134 fl_X7_15 sh_42 rfl ?_
        refine aw_iload dX7_tryBottom_137 rfl ?_
        refine aw_aload_n dX7_tryBottom_139 rfl rfl ?_
        refine aw_gR dX7_tryBottom_140 fl_X7_19 sh_42 rfl ?_
        refine aw_iload dX7_tryBottom_143 rfl ?_
        obtain ⟨hc1, hf⟩ := ax_ite hf
        refine aw_lA dX7_tryBottom_145 sh_45 hc1 ?_
        obtain ⟨hc2, hf⟩ := ax_ite hf
        refine aw_sA dX7_tryBottom_146 sh_44 hc2 ?_
        refine aw_iinc (v := (a121.1 + (1 : Int32))) (L' := [some (.ref 42), none, none, none, none, none, none, some (.int (a121.1 + (1 : Int32)))]) dX7_tryBottom_147 rfl rfl (by decide) rfl ?_
        refine aw_goto (tgt := 121) dX7_tryBottom_150 (by decide) ?_
        cases hf
        exact hK
    · cases hf
      exact aw_vret dX7_tryBottom_153 hq (Nat.le_refl _) (Nat.le_refl _)
  refine aw_aload_n dX7_tryBottom_0 rfl rfl ?_
  refine aw_lload_n dX7_tryBottom_1 rfl rfl ?_
  obtain ⟨p2, hp2, hf⟩ := ax_bind hf
  refine aw_cVl (As := [.long x1]) (st := []) dX7_tryBottom_2 cl_X7_41 iv_X7_lowestTop (k_X7_lowestTop (Q := (fun v h' => v = some (.long p2.1) ∧ h' = hp p2.2 gb)) x1 s gb hp2 ⟨rfl, rfl⟩) (ci := 7) rfl (hp_get sh_42) rfl rfl rfl (Nat.le_of_ble_eq_true rfl) rfl (by decide) (by decide) ?_
  refine aw_lstore_n (L' := [some (.ref 42), some (.long x1), none, some (.long p2.1), none, none, none, none]) dX7_tryBottom_5 rfl (by decide) rfl ?_
  refine aw_lload_n dX7_tryBottom_6 rfl rfl ?_
  refine aw_ldc2 dX7_tryBottom_7 kc_X7_91 ?_
  refine aw_lcmp_eq (tgt := 25) dX7_tryBottom_10 dX7_tryBottom_11 (by decide) (fun hc10 => ?_) (fun hc10 => ?_)
  · have hf := ax_pos hc10 hf
    cases hf
    exact aw_vret dX7_tryBottom_25 hq (Nat.le_refl _) (Nat.le_refl _)
  · have hf := ax_neg hc10 hf
    refine aw_lload_n dX7_tryBottom_14 rfl rfl ?_
    refine aw_lload_n dX7_tryBottom_15 rfl rfl ?_
    refine aw_lsub dX7_tryBottom_16 ?_
    refine aw_aload_n dX7_tryBottom_17 rfl rfl ?_
    refine aw_gJ dX7_tryBottom_18 fl_X7_99 sh_42 rfl ?_
    refine aw_lcmp_le (tgt := 26) dX7_tryBottom_21 dX7_tryBottom_22 (by decide) (fun hc9 => ?_) (fun hc9 => ?_)
    · have hf := ax_pos hc9 hf
      refine aw_aload_n dX7_tryBottom_26 rfl rfl ?_
      refine aw_lload_n dX7_tryBottom_27 rfl rfl ?_
      refine aw_lload_n dX7_tryBottom_28 rfl rfl ?_
      obtain ⟨p3, hp3, hf⟩ := ax_bind hf
      refine aw_cVv (As := [.long x1, .long p2.1]) (st := []) dX7_tryBottom_29 cl_X7_45 iv_X7_supposeWithin (k_X7_supposeWithin (Q := (fun v h' => v = none ∧ h' = hp p3 gb)) x1 p2.1 p2.2 gb hp3 ⟨rfl, rfl⟩) (ci := 7) rfl (hp_get sh_42) rfl rfl rfl (Nat.le_of_ble_eq_true rfl) rfl (by decide) (by decide) ?_
      refine aw_aload_n dX7_tryBottom_32 rfl rfl ?_
      refine aw_gR dX7_tryBottom_33 fl_X7_29 sh_42 rfl ?_
      obtain ⟨p4, hp4, hf⟩ := ax_bind hf
      refine aw_cVv (As := []) (st := []) dX7_tryBottom_36 cl_X7_61 iv_X5_refresh (k_X5_refresh (Q := (fun v h' => v = none ∧ h' = hp p4 gb)) 13 p3 gb ax_RK13 hp4 ⟨rfl, rfl⟩) (ci := 5) rfl (hp_get sh_15) rfl rfl rfl (Nat.le_of_ble_eq_true rfl) rfl (by decide) (by decide) ?_
      refine aw_aload_n dX7_tryBottom_39 rfl rfl ?_
      refine aw_gR dX7_tryBottom_40 fl_X7_29 sh_42 rfl ?_
      refine aw_aload_n dX7_tryBottom_43 rfl rfl ?_
      refine aw_gR dX7_tryBottom_44 fl_X7_19 sh_42 rfl ?_
      obtain ⟨p5, hp5, hf⟩ := ax_bind hf
      refine aw_cVi (As := [.ref 45]) (st := []) dX7_tryBottom_47 cl_X7_66 iv_X5_findFirst (k_X5_findFirst (Q := (fun v h' => v = some (.int p5.1) ∧ h' = hp p5.2 gb)) 13 45 p4 gb ax_RK13 sh_45 hp5 ⟨rfl, rfl⟩) (ci := 5) rfl (hp_get sh_15) rfl rfl rfl (Nat.le_of_ble_eq_true rfl) rfl (by decide) (by decide) ?_
      refine aw_if_ne (tgt := 54) dX7_tryBottom_50 (by decide) (fun hc8 => ?_) (fun hc8 => ?_)
      · have hf := ax_neg hc8 hf
        refine aw_aload_n dX7_tryBottom_54 rfl rfl ?_
        refine aw_gR dX7_tryBottom_55 fl_X7_22 sh_42 rfl ?_
        refine aw_aload_n dX7_tryBottom_58 rfl rfl ?_
        refine aw_gR dX7_tryBottom_59 fl_X7_19 sh_42 rfl ?_
        obtain ⟨p6, hp6, hf⟩ := ax_bind hf
        refine aw_cVl (As := [.ref 45]) (st := []) dX7_tryBottom_62 cl_X7_70 iv_X1_sumOf (k_X1_sumOf (Q := (fun v h' => v = some (.long p6.1) ∧ h' = hp p6.2 gb)) 3 45 p5.2 gb ax_G3 sh_45 hp6 ⟨rfl, rfl⟩) (ci := 1) rfl (hp_get sh_3) rfl rfl rfl (Nat.le_of_ble_eq_true rfl) rfl (by decide) (by decide) ?_
        refine aw_lstore (L' := [some (.ref 42), some (.long x1), none, some (.long p2.1), none, some (.long p6.1), none, none]) dX7_tryBottom_65 (by decide) rfl ?_
        refine aw_lload_n dX7_tryBottom_67 rfl rfl ?_
        refine aw_lload_n dX7_tryBottom_68 rfl rfl ?_
        refine aw_lsub dX7_tryBottom_69 ?_
        refine aw_aload_n dX7_tryBottom_70 rfl rfl ?_
        refine aw_gJ dX7_tryBottom_71 fl_X7_99 sh_42 rfl ?_
        refine aw_lcmp_lt (tgt := 105) dX7_tryBottom_74 dX7_tryBottom_75 (by decide) (fun hc7 => ?_) (fun hc7 => ?_)
        · have hf := ax_pos hc7 hf
          exact J105 x1 p2.1 p6.1 p6.2 hf
        · have hf := ax_neg hc7 hf
          refine aw_lload dX7_tryBottom_78 rfl ?_
          refine aw_aload_n dX7_tryBottom_80 rfl rfl ?_
          refine aw_gJ dX7_tryBottom_81 fl_X7_103 sh_42 rfl ?_
          refine aw_lcmp_lt (tgt := 105) dX7_tryBottom_84 dX7_tryBottom_85 (by decide) (fun hc6 => ?_) (fun hc6 => ?_)
          · have hf := ax_pos hc6 hf
            exact J105 x1 p2.1 p6.1 p6.2 hf
          · have hf := ax_neg hc6 hf
            refine aw_lload dX7_tryBottom_88 rfl ?_
            refine aw_aload_n dX7_tryBottom_90 rfl rfl ?_
            refine aw_gJ dX7_tryBottom_91 fl_X7_103 sh_42 rfl ?_
            refine aw_lcmp_ne (tgt := 153) dX7_tryBottom_94 dX7_tryBottom_95 (by decide) (fun hc5 => ?_) (fun hc5 => ?_)
            · have hf := ax_neg hc5 hf
              cases hf
              exact aw_vret dX7_tryBottom_153 hq (Nat.le_refl _) (Nat.le_refl _)
            · have hf := ax_pos hc5 hf
              refine aw_aload_n dX7_tryBottom_98 rfl rfl ?_
              obtain ⟨p7, hp7, hf⟩ := ax_bind hf
              refine aw_cVi (As := []) (st := []) dX7_tryBottom_99 cl_X7_110 iv_X7_triedComesFirst (k_X7_triedComesFirst (Q := (fun v h' => v = some (.int p7.1) ∧ h' = hp p7.2 gb)) p6.2 gb hp7 ⟨rfl, rfl⟩) (ci := 7) rfl (hp_get sh_42) rfl rfl rfl (Nat.le_of_ble_eq_true rfl) rfl (by decide) (by decide) ?_
              refine aw_if_eq (tgt := 153) dX7_tryBottom_102 (by decide) (fun hc4 => ?_) (fun hc4 => ?_)
              · have hf := ax_pos hc4 hf
                cases hf
                exact aw_vret dX7_tryBottom_153 hq (Nat.le_refl _) (Nat.le_refl _)
              · have hf := ax_neg hc4 hf
                exact J105 x1 p2.1 p6.1 p7.2 hf
      · have hf := ax_pos hc8 hf
        cases hf
        exact aw_vret dX7_tryBottom_53 hq (Nat.le_refl _) (Nat.le_refl _)
    · have hf := ax_neg hc9 hf
      cases hf
      exact aw_vret dX7_tryBottom_25 hq (Nat.le_refl _) (Nat.le_refl _)
noncomputable def f_X7_chooseEven_L29 (z1 : Int32) (a29 : Int32 × sx_M) : Option ((Int32 × sx_M) ⊕ (sx_M)) :=
  (if (rI a29.2 3 2) ≤ a29.1 then
 some (.inr a29.2)
else
 (f_X1_at 3 z1 a29.1 a29.2).bind (fun p1 =>
 (if p1.1 = (9223372036854775807 : Int64) then
 some (.inl ((a29.1 + (1 : Int32)), p1.2))
else
 (f_X1_at 3 z1 a29.1 p1.2).bind (fun p2 =>
 (f_X7_tryBottom p2.1 p2.2).bind (fun p3 =>
 some (.inl ((a29.1 + (1 : Int32)), p3)))))))
noncomputable def f_X7_chooseEven_L16 (a16 : Int32 × sx_M) : Option ((Int32 × sx_M) ⊕ (sx_M)) :=
  (if (rI a16.2 3 1) ≤ a16.1 then
 some (.inr a16.2)
else
 (whT (f_X7_chooseEven_L29 a16.1) ((0 : Int32), a16.2)).bind (fun b4 =>
 some (.inl ((a16.1 + (1 : Int32)), b4))))
noncomputable def f_X7_chooseEven (s : sx_M) : Option (Int32 × sx_M) :=
  (whT (f_X7_chooseEven_L16) ((0 : Int32), (wJ (wJ s 42 6 (9223372036854775807 : Int64)) 42 7 (9223372036854775807 : Int64)))).bind (fun b5 =>
 (if (rJ b5 42 6) = (9223372036854775807 : Int64) then
 some ((0 : Int32), b5)
else
 some ((1 : Int32), b5)))
set_option maxRecDepth 100000 in
set_option maxHeartbeats 4000000 in
theorem k_X7_chooseEven {l : Launch} {X : ax_X} {Q : Option Value → ax_H → Prop} (s : sx_M) (gb : ax_H) {p : Int32 × sx_M} (hf : f_X7_chooseEven s = some p) (hq : Q (some (.int p.1)) (hp p.2 gb)) : AM l X yX7_chooseEven cX7_chooseEven 3 (some .boolean) 4 0 0 [.ref 42] (hp s gb) Q := by
  refine aw_met (own := RX7) (nm := "chooseEven") (L := [some (.ref 42), none, none]) (by decide +kernel) rfl rfl (And.intro rfl trivial) (Nat.le_of_ble_eq_true rfl) ?_
  unfold f_X7_chooseEven at hf
  refine aw_aload_n dX7_chooseEven_0 rfl rfl ?_
  refine aw_ldc2 dX7_chooseEven_1 kc_X7_91 ?_
  refine aw_pJ dX7_chooseEven_4 fp_X7_99 sh_42 rfl ?_
  refine aw_aload_n dX7_chooseEven_7 rfl rfl ?_
  refine aw_ldc2 dX7_chooseEven_8 kc_X7_91 ?_
  refine aw_pJ dX7_chooseEven_11 fp_X7_103 sh_42 rfl ?_
  refine aw_iconst (v := 0) dX7_chooseEven_14 (by decide) ?_
  refine aw_istore_n (L' := [some (.ref 42), some (.int (0 : Int32)), none]) dX7_chooseEven_15 rfl (by decide) rfl ?_
  obtain ⟨b5, hb5, hf⟩ := ax_bind hf
  refine wh_go ((0 : Int32), (wJ (wJ s 42 6 (9223372036854775807 : Int64)) 42 7 (9223372036854775807 : Int64))) (fun a16 : Int32 × sx_M => AW l X RX7 "chooseEven" cX7_chooseEven 3 (some .boolean) (ax_rm 4 0 0) (ax_MQ X Q 0 0) 0 0 16 [some (.ref 42), some (.int a16.1), none] [] (hp a16.2 gb)) (fun e : sx_M => AW l X RX7 "chooseEven" cX7_chooseEven 3 (some .boolean) (ax_rm 4 0 0) (ax_MQ X Q 0 0) 0 0 81 [some (.ref 42), none, none] [] (hp e gb)) hb5 ?_ ?_
  · intro a16 r hf hK
    unfold f_X7_chooseEven_L16 at hf
    refine aw_iload_n dX7_chooseEven_16 rfl rfl ?_
    refine aw_aload_n dX7_chooseEven_17 rfl rfl ?_
    refine aw_gR dX7_chooseEven_18 fl_X7_22 sh_42 rfl ?_
    refine aw_gI dX7_chooseEven_21 fl_X7_49 sh_3 rfl ?_
    refine aw_icmp_ge (tgt := 81) dX7_chooseEven_24 (by decide) (fun hc3 => ?_) (fun hc3 => ?_)
    · have hf := ax_pos hc3 hf
      refine aw_less (L' := [some (.ref 42), none, none]) (And.intro rfl trivial) ?_
      cases hf
      exact hK
    · have hf := ax_neg hc3 hf
      refine aw_iconst (v := 0) dX7_chooseEven_27 (by decide) ?_
      refine aw_istore_n (L' := [some (.ref 42), some (.int a16.1), some (.int (0 : Int32))]) dX7_chooseEven_28 rfl (by decide) rfl ?_
      obtain ⟨b4, hb4, hf⟩ := ax_bind hf
      refine wh_go ((0 : Int32), a16.2) (fun a29 : Int32 × sx_M => AW l X RX7 "chooseEven" cX7_chooseEven 3 (some .boolean) (ax_rm 4 0 0) (ax_MQ X Q 0 0) 0 0 29 [some (.ref 42), some (.int a16.1), some (.int a29.1)] [] (hp a29.2 gb)) (fun e : sx_M => AW l X RX7 "chooseEven" cX7_chooseEven 3 (some .boolean) (ax_rm 4 0 0) (ax_MQ X Q 0 0) 0 0 75 [some (.ref 42), some (.int a16.1), none] [] (hp e gb)) hb4 ?_ ?_
      · intro a29 r hf hK
        unfold f_X7_chooseEven_L29 at hf
        refine aw_iload_n dX7_chooseEven_29 rfl rfl ?_
        refine aw_aload_n dX7_chooseEven_30 rfl rfl ?_
        refine aw_gR dX7_chooseEven_31 fl_X7_22 sh_42 rfl ?_
        refine aw_gI dX7_chooseEven_34 fl_X7_88 sh_3 rfl ?_
        refine aw_icmp_ge (tgt := 75) dX7_chooseEven_37 (by decide) (fun hc2 => ?_) (fun hc2 => ?_)
        · have hf := ax_pos hc2 hf
          refine aw_less (L' := [some (.ref 42), some (.int a16.1), none]) (And.intro rfl (And.intro rfl trivial)) ?_
          cases hf
          exact hK
        · have hf := ax_neg hc2 hf
          refine aw_aload_n dX7_chooseEven_40 rfl rfl ?_
          refine aw_gR dX7_chooseEven_41 fl_X7_22 sh_42 rfl ?_
          refine aw_iload_n dX7_chooseEven_44 rfl rfl ?_
          refine aw_iload_n dX7_chooseEven_45 rfl rfl ?_
          obtain ⟨p1, hp1, hf⟩ := ax_bind hf
          refine aw_cVl (As := [.int a16.1, .int a29.1]) (st := []) dX7_chooseEven_46 cl_X7_84 iv_X1_at (k_X1_at (Q := (fun v h' => v = some (.long p1.1) ∧ h' = hp p1.2 gb)) 3 a16.1 a29.1 a29.2 gb ax_G3 hp1 ⟨rfl, rfl⟩) (ci := 1) rfl (hp_get sh_3) rfl rfl rfl (Nat.le_of_ble_eq_true rfl) rfl (by decide) (by decide) ?_
          refine aw_ldc2 dX7_chooseEven_49 kc_X7_91 ?_
          refine aw_lcmp_eq (tgt := 69) dX7_chooseEven_52 dX7_chooseEven_53 (by decide) (fun hc1 => ?_) (fun hc1 => ?_)
          · have hf := ax_pos hc1 hf
            refine aw_iinc (v := (a29.1 + (1 : Int32))) (L' := [some (.ref 42), some (.int a16.1), some (.int (a29.1 + (1 : Int32)))]) dX7_chooseEven_69 rfl rfl (by decide) rfl ?_
            refine aw_goto (tgt := 29) dX7_chooseEven_72 (by decide) ?_
            cases hf
            exact hK
          · have hf := ax_neg hc1 hf
            refine aw_aload_n dX7_chooseEven_56 rfl rfl ?_
            refine aw_aload_n dX7_chooseEven_57 rfl rfl ?_
            refine aw_gR dX7_chooseEven_58 fl_X7_22 sh_42 rfl ?_
            refine aw_iload_n dX7_chooseEven_61 rfl rfl ?_
            refine aw_iload_n dX7_chooseEven_62 rfl rfl ?_
            obtain ⟨p2, hp2, hf⟩ := ax_bind hf
            refine aw_cVl (As := [.int a16.1, .int a29.1]) (st := [.ref 42]) dX7_chooseEven_63 cl_X7_84 iv_X1_at (k_X1_at (Q := (fun v h' => v = some (.long p2.1) ∧ h' = hp p2.2 gb)) 3 a16.1 a29.1 p1.2 gb ax_G3 hp2 ⟨rfl, rfl⟩) (ci := 1) rfl (hp_get sh_3) rfl rfl rfl (Nat.le_of_ble_eq_true rfl) rfl (by decide) (by decide) ?_
            obtain ⟨p3, hp3, hf⟩ := ax_bind hf
            refine aw_cVv (As := [.long p2.1]) (st := []) dX7_chooseEven_66 cl_X7_106 iv_X7_tryBottom (k_X7_tryBottom (Q := (fun v h' => v = none ∧ h' = hp p3 gb)) p2.1 p2.2 gb hp3 ⟨rfl, rfl⟩) (ci := 7) rfl (hp_get sh_42) rfl rfl rfl (Nat.le_of_ble_eq_true rfl) rfl (by decide) (by decide) ?_
            refine aw_iinc (v := (a29.1 + (1 : Int32))) (L' := [some (.ref 42), some (.int a16.1), some (.int (a29.1 + (1 : Int32)))]) dX7_chooseEven_69 rfl rfl (by decide) rfl ?_
            refine aw_goto (tgt := 29) dX7_chooseEven_72 (by decide) ?_
            cases hf
            exact hK
      · refine aw_iinc (v := (a16.1 + (1 : Int32))) (L' := [some (.ref 42), some (.int (a16.1 + (1 : Int32))), none]) dX7_chooseEven_75 rfl rfl (by decide) rfl ?_
        refine aw_goto (tgt := 16) dX7_chooseEven_78 (by decide) ?_
        cases hf
        exact hK
  · refine aw_aload_n dX7_chooseEven_81 rfl rfl ?_
    refine aw_gJ dX7_chooseEven_82 fl_X7_99 sh_42 rfl ?_
    refine aw_ldc2 dX7_chooseEven_85 kc_X7_91 ?_
    refine aw_lcmp_eq (tgt := 96) dX7_chooseEven_88 dX7_chooseEven_89 (by decide) (fun hc4 => ?_) (fun hc4 => ?_)
    · have hf := ax_pos hc4 hf
      refine aw_iconst (v := 0) dX7_chooseEven_96 (by decide) ?_
      cases hf
      exact aw_zret dX7_chooseEven_97 (by decide) hq (Nat.le_refl _) (Nat.le_refl _)
    · have hf := ax_neg hc4 hf
      refine aw_iconst (v := 1) dX7_chooseEven_92 (by decide) ?_
      refine aw_goto (tgt := 97) dX7_chooseEven_93 (by decide) ?_
      cases hf
      exact aw_zret dX7_chooseEven_97 (by decide) hq (Nat.le_refl _) (Nat.le_refl _)
noncomputable def f_X7_supposeWeighted_L26 (z1 : Int32) (z1 : Int32) (z2 : Int32) (a26 : Int32 × sx_M) : Option ((Int32 × sx_M) ⊕ (sx_M)) :=
  (if (rI a26.2 3 2) ≤ a26.1 then
 some (.inr a26.2)
else
 (f_X1_at 3 z2 a26.1 a26.2).bind (fun p2 =>
 (if p2.1 = (9223372036854775807 : Int64) then
 some (.inl ((a26.1 + (1 : Int32)), p2.2))
else
 (if p2.1 ≤ (z1).toInt64 then
 some (.inl ((a26.1 + (1 : Int32)), p2.2))
else
 (f_X1_put 13 z2 a26.1 (p2.1 + (1000000 : Int64)) p2.2).bind (fun p3 =>
 some (.inl ((a26.1 + (1 : Int32)), p3)))))))
noncomputable def f_X7_supposeWeighted_L13 (z1 : Int32) (a13 : Int32 × sx_M) : Option ((Int32 × sx_M) ⊕ (sx_M)) :=
  (if (rI a13.2 3 1) ≤ a13.1 then
 some (.inr a13.2)
else
 (whT (f_X7_supposeWeighted_L26 z1 z1 a13.1) ((0 : Int32), a13.2)).bind (fun b4 =>
 some (.inl ((a13.1 + (1 : Int32)), b4))))
noncomputable def f_X7_supposeWeighted (x1 : Int32) (s : sx_M) : Option sx_M :=
  (f_X1_copy 13 3 s).bind (fun p1 =>
 (whT (f_X7_supposeWeighted_L13 x1) ((0 : Int32), p1)).bind (fun b5 =>
 some b5))
set_option maxRecDepth 100000 in
set_option maxHeartbeats 4000000 in
theorem k_X7_supposeWeighted {l : Launch} {X : ax_X} {Q : Option Value → ax_H → Prop} (x1 : Int32) (s : sx_M) (gb : ax_H) {p : sx_M} (hf : f_X7_supposeWeighted x1 s = some p) (hq : Q (none) (hp p gb)) : AM l X yX7_supposeWeighted cX7_supposeWeighted 6 none 2 0 0 [.ref 42, .int x1] (hp s gb) Q := by
  refine aw_met (own := RX7) (nm := "supposeWeighted") (L := [some (.ref 42), some (.int x1), none, none, none, none]) (by decide +kernel) rfl rfl (And.intro rfl (And.intro rfl trivial)) (Nat.le_of_ble_eq_true rfl) ?_
  unfold f_X7_supposeWeighted at hf
  refine aw_aload_n dX7_supposeWeighted_0 rfl rfl ?_
  refine aw_gR dX7_supposeWeighted_1 fl_X7_26 sh_42 rfl ?_
  refine aw_aload_n dX7_supposeWeighted_4 rfl rfl ?_
  refine aw_gR dX7_supposeWeighted_5 fl_X7_22 sh_42 rfl ?_
  obtain ⟨p1, hp1, hf⟩ := ax_bind hf
  refine aw_cVv (As := [.ref 3]) (st := []) dX7_supposeWeighted_8 cl_X7_33 iv_X1_copy (k_X1_copy (Q := (fun v h' => v = none ∧ h' = hp p1 gb)) 13 3 s gb ax_G13 ax_G3 hp1 ⟨rfl, rfl⟩) (ci := 1) rfl (hp_get sh_13) rfl rfl rfl (Nat.le_of_ble_eq_true rfl) rfl (by decide) (by decide) ?_
  refine aw_iconst (v := 0) dX7_supposeWeighted_11 (by decide) ?_
  refine aw_istore_n (L' := [some (.ref 42), some (.int x1), some (.int (0 : Int32)), none, none, none]) dX7_supposeWeighted_12 rfl (by decide) rfl ?_
  obtain ⟨b5, hb5, hf⟩ := ax_bind hf
  refine wh_go ((0 : Int32), p1) (fun a13 : Int32 × sx_M => AW l X RX7 "supposeWeighted" cX7_supposeWeighted 6 none (ax_rm 2 0 0) (ax_MQ X Q 0 0) 0 0 13 [some (.ref 42), some (.int x1), some (.int a13.1), none, none, none] [] (hp a13.2 gb)) (fun e : sx_M => AW l X RX7 "supposeWeighted" cX7_supposeWeighted 6 none (ax_rm 2 0 0) (ax_MQ X Q 0 0) 0 0 92 [none, none, none, none, none, none] [] (hp e gb)) hb5 ?_ ?_
  · intro a13 r hf hK
    unfold f_X7_supposeWeighted_L13 at hf
    refine aw_iload_n dX7_supposeWeighted_13 rfl rfl ?_
    refine aw_aload_n dX7_supposeWeighted_14 rfl rfl ?_
    refine aw_gR dX7_supposeWeighted_15 fl_X7_22 sh_42 rfl ?_
    refine aw_gI dX7_supposeWeighted_18 fl_X7_49 sh_3 rfl ?_
    refine aw_icmp_ge (tgt := 92) dX7_supposeWeighted_21 (by decide) (fun hc4 => ?_) (fun hc4 => ?_)
    · have hf := ax_pos hc4 hf
      refine aw_less (L' := [none, none, none, none, none, none]) trivial ?_
      cases hf
      exact hK
    · have hf := ax_neg hc4 hf
      refine aw_iconst (v := 0) dX7_supposeWeighted_24 (by decide) ?_
      refine aw_istore_n (L' := [some (.ref 42), some (.int x1), some (.int a13.1), some (.int (0 : Int32)), none, none]) dX7_supposeWeighted_25 rfl (by decide) rfl ?_
      obtain ⟨b4, hb4, hf⟩ := ax_bind hf
      refine wh_go ((0 : Int32), a13.2) (fun a26 : Int32 × sx_M => AW l X RX7 "supposeWeighted" cX7_supposeWeighted 6 none (ax_rm 2 0 0) (ax_MQ X Q 0 0) 0 0 26 [some (.ref 42), some (.int x1), some (.int a13.1), some (.int a26.1), none, none] [] (hp a26.2 gb)) (fun e : sx_M => AW l X RX7 "supposeWeighted" cX7_supposeWeighted 6 none (ax_rm 2 0 0) (ax_MQ X Q 0 0) 0 0 86 [some (.ref 42), some (.int x1), some (.int a13.1), none, none, none] [] (hp e gb)) hb4 ?_ ?_
      · intro a26 r hf hK
        unfold f_X7_supposeWeighted_L26 at hf
        refine aw_iload_n dX7_supposeWeighted_26 rfl rfl ?_
        refine aw_aload_n dX7_supposeWeighted_27 rfl rfl ?_
        refine aw_gR dX7_supposeWeighted_28 fl_X7_22 sh_42 rfl ?_
        refine aw_gI dX7_supposeWeighted_31 fl_X7_88 sh_3 rfl ?_
        refine aw_icmp_ge (tgt := 86) dX7_supposeWeighted_34 (by decide) (fun hc3 => ?_) (fun hc3 => ?_)
        · have hf := ax_pos hc3 hf
          refine aw_less (L' := [some (.ref 42), some (.int x1), some (.int a13.1), none, none, none]) (And.intro rfl (And.intro rfl (And.intro rfl trivial))) ?_
          cases hf
          exact hK
        · have hf := ax_neg hc3 hf
          refine aw_aload_n dX7_supposeWeighted_37 rfl rfl ?_
          refine aw_gR dX7_supposeWeighted_38 fl_X7_22 sh_42 rfl ?_
          refine aw_iload_n dX7_supposeWeighted_41 rfl rfl ?_
          refine aw_iload_n dX7_supposeWeighted_42 rfl rfl ?_
          obtain ⟨p2, hp2, hf⟩ := ax_bind hf
          refine aw_cVl (As := [.int a13.1, .int a26.1]) (st := []) dX7_supposeWeighted_43 cl_X7_84 iv_X1_at (k_X1_at (Q := (fun v h' => v = some (.long p2.1) ∧ h' = hp p2.2 gb)) 3 a13.1 a26.1 a26.2 gb ax_G3 hp2 ⟨rfl, rfl⟩) (ci := 1) rfl (hp_get sh_3) rfl rfl rfl (Nat.le_of_ble_eq_true rfl) rfl (by decide) (by decide) ?_
          refine aw_lstore (L' := [some (.ref 42), some (.int x1), some (.int a13.1), some (.int a26.1), some (.long p2.1), none]) dX7_supposeWeighted_46 (by decide) rfl ?_
          refine aw_lload dX7_supposeWeighted_48 rfl ?_
          refine aw_ldc2 dX7_supposeWeighted_50 kc_X7_91 ?_
          refine aw_lcmp_eq (tgt := 80) dX7_supposeWeighted_53 dX7_supposeWeighted_54 (by decide) (fun hc2 => ?_) (fun hc2 => ?_)
          · have hf := ax_pos hc2 hf
            refine aw_iinc (v := (a26.1 + (1 : Int32))) (L' := [some (.ref 42), some (.int x1), some (.int a13.1), some (.int (a26.1 + (1 : Int32))), some (.long p2.1), none]) dX7_supposeWeighted_80 rfl rfl (by decide) rfl ?_
            refine aw_goto (tgt := 26) dX7_supposeWeighted_83 (by decide) ?_
            refine aw_less (L' := [some (.ref 42), some (.int x1), some (.int a13.1), some (.int (a26.1 + (1 : Int32))), none, none]) (And.intro rfl (And.intro rfl (And.intro rfl (And.intro rfl trivial)))) ?_
            cases hf
            exact hK
          · have hf := ax_neg hc2 hf
            refine aw_lload dX7_supposeWeighted_57 rfl ?_
            refine aw_iload_n dX7_supposeWeighted_59 rfl rfl ?_
            refine aw_i2l dX7_supposeWeighted_60 ?_
            refine aw_lcmp_le (tgt := 80) dX7_supposeWeighted_61 dX7_supposeWeighted_62 (by decide) (fun hc1 => ?_) (fun hc1 => ?_)
            · have hf := ax_pos hc1 hf
              refine aw_iinc (v := (a26.1 + (1 : Int32))) (L' := [some (.ref 42), some (.int x1), some (.int a13.1), some (.int (a26.1 + (1 : Int32))), some (.long p2.1), none]) dX7_supposeWeighted_80 rfl rfl (by decide) rfl ?_
              refine aw_goto (tgt := 26) dX7_supposeWeighted_83 (by decide) ?_
              refine aw_less (L' := [some (.ref 42), some (.int x1), some (.int a13.1), some (.int (a26.1 + (1 : Int32))), none, none]) (And.intro rfl (And.intro rfl (And.intro rfl (And.intro rfl trivial)))) ?_
              cases hf
              exact hK
            · have hf := ax_neg hc1 hf
              refine aw_aload_n dX7_supposeWeighted_65 rfl rfl ?_
              refine aw_gR dX7_supposeWeighted_66 fl_X7_26 sh_42 rfl ?_
              refine aw_iload_n dX7_supposeWeighted_69 rfl rfl ?_
              refine aw_iload_n dX7_supposeWeighted_70 rfl rfl ?_
              refine aw_lload dX7_supposeWeighted_71 rfl ?_
              refine aw_ldc2 dX7_supposeWeighted_73 kc_X7_97 ?_
              refine aw_ladd dX7_supposeWeighted_76 ?_
              obtain ⟨p3, hp3, hf⟩ := ax_bind hf
              refine aw_cVv (As := [.int a13.1, .int a26.1, .long (p2.1 + (1000000 : Int64))]) (st := []) dX7_supposeWeighted_77 cl_X7_93 iv_X1_put (k_X1_put (Q := (fun v h' => v = none ∧ h' = hp p3 gb)) 13 a13.1 a26.1 (p2.1 + (1000000 : Int64)) p2.2 gb ax_G13 hp3 ⟨rfl, rfl⟩) (ci := 1) rfl (hp_get sh_13) rfl rfl rfl (Nat.le_of_ble_eq_true rfl) rfl (by decide) (by decide) ?_
              refine aw_iinc (v := (a26.1 + (1 : Int32))) (L' := [some (.ref 42), some (.int x1), some (.int a13.1), some (.int (a26.1 + (1 : Int32))), some (.long p2.1), none]) dX7_supposeWeighted_80 rfl rfl (by decide) rfl ?_
              refine aw_goto (tgt := 26) dX7_supposeWeighted_83 (by decide) ?_
              refine aw_less (L' := [some (.ref 42), some (.int x1), some (.int a13.1), some (.int (a26.1 + (1 : Int32))), none, none]) (And.intro rfl (And.intro rfl (And.intro rfl (And.intro rfl trivial)))) ?_
              cases hf
              exact hK
      · refine aw_iinc (v := (a13.1 + (1 : Int32))) (L' := [some (.ref 42), some (.int x1), some (.int (a13.1 + (1 : Int32))), none, none, none]) dX7_supposeWeighted_86 rfl rfl (by decide) rfl ?_
        refine aw_goto (tgt := 13) dX7_supposeWeighted_89 (by decide) ?_
        cases hf
        exact hK
  · cases hf
    exact aw_vret dX7_supposeWeighted_92 hq (Nat.le_refl _) (Nat.le_refl _)
noncomputable def f_X7_choose_J87 (s_87 : sx_M) : Option (Int32 × sx_M) :=
  (f_X5_refresh 13 s_87).bind (fun p1 =>
 (f_X5_findFirst 13 44 p1).bind (fun p2 =>
 (if (p2.1 = 0 ∨ p2.1 = 1) then
 some (p2.1, p2.2)
else none)))
noncomputable def f_X7_choose (x1 : Int32) (x2 : Int32) (s : sx_M) : Option (Int32 × sx_M) :=
  (if x1 = (0 : Int32) then
 (f_X1_copy 13 3 s).bind (fun p3 =>
 f_X7_choose_J87 p3)
else
 (if x1 = (1 : Int32) then
 (f_X7_lowestTop (-9999 : Int64) s).bind (fun p4 =>
 (f_X7_supposeWithin (-9999 : Int64) p4.1 p4.2).bind (fun p5 =>
 f_X7_choose_J87 p5))
else
 (if x1 = (2 : Int32) then
 (if (rI s 3 1) = 0 then
 some ((1 : Int32), s)
else
 (f_X7_chooseEven s).bind (fun p6 =>
 (if p6.1 = 0 then
 some ((0 : Int32), p6.2)
else
 some ((1 : Int32), p6.2))))
else
 (f_X7_supposeWeighted x2 s).bind (fun p7 =>
 f_X7_choose_J87 p7))))
set_option maxRecDepth 100000 in
set_option maxHeartbeats 4000000 in
theorem k_X7_choose {l : Launch} {X : ax_X} {Q : Option Value → ax_H → Prop} (x1 : Int32) (x2 : Int32) (s : sx_M) (gb : ax_H) {p : Int32 × sx_M} (hf : f_X7_choose x1 x2 s = some p) (hq : Q (some (.int p.1)) (hp p.2 gb)) : AM l X yX7_choose cX7_choose 3 (some .boolean) 5 0 0 [.ref 42, .int x1, .int x2] (hp s gb) Q := by
  refine aw_met (own := RX7) (nm := "choose") (L := [some (.ref 42), some (.int x1), some (.int x2)]) (by decide +kernel) rfl rfl (And.intro rfl (And.intro rfl (And.intro rfl trivial))) (Nat.le_of_ble_eq_true rfl) ?_
  unfold f_X7_choose at hf
  have J87 : ∀ (s_87 : sx_M), f_X7_choose_J87 s_87 = some p → AW l X RX7 "choose" cX7_choose 3 (some .boolean) (ax_rm 5 0 0) (ax_MQ X Q 0 0) 0 0 87 [some (.ref 42), none, none] [] (hp s_87 gb) := by
    intro s_87 hf
    unfold f_X7_choose_J87 at hf
    refine aw_aload_n dX7_choose_87 rfl rfl ?_
    refine aw_gR dX7_choose_88 fl_X7_29 sh_42 rfl ?_
    obtain ⟨p1, hp1, hf⟩ := ax_bind hf
    refine aw_cVv (As := []) (st := []) dX7_choose_91 cl_X7_61 iv_X5_refresh (k_X5_refresh (Q := (fun v h' => v = none ∧ h' = hp p1 gb)) 13 s_87 gb ax_RK13 hp1 ⟨rfl, rfl⟩) (ci := 5) rfl (hp_get sh_15) rfl rfl rfl (Nat.le_of_ble_eq_true rfl) rfl (by decide) (by decide) ?_
    refine aw_aload_n dX7_choose_94 rfl rfl ?_
    refine aw_gR dX7_choose_95 fl_X7_29 sh_42 rfl ?_
    refine aw_aload_n dX7_choose_98 rfl rfl ?_
    refine aw_gR dX7_choose_99 fl_X7_15 sh_42 rfl ?_
    obtain ⟨p2, hp2, hf⟩ := ax_bind hf
    refine aw_cVi (As := [.ref 44]) (st := []) dX7_choose_102 cl_X7_66 iv_X5_findFirst (k_X5_findFirst (Q := (fun v h' => v = some (.int p2.1) ∧ h' = hp p2.2 gb)) 13 44 p1 gb ax_RK13 sh_44 hp2 ⟨rfl, rfl⟩) (ci := 5) rfl (hp_get sh_15) rfl rfl rfl (Nat.le_of_ble_eq_true rfl) rfl (by decide) (by decide) ?_
    obtain ⟨hc1, hf⟩ := ax_ite hf
    cases hf
    exact aw_zret dX7_choose_105 (ax_nb hc1) hq (Nat.le_refl _) (Nat.le_refl _)
  refine aw_iload_n dX7_choose_0 rfl rfl ?_
  by_cases hc2 : x1 = (0 : Int32)
  · have hf := ax_pos hc2 hf
    refine aw_tableAt (tgt := 28) 0 dX7_choose_1 hc2 (by decide) rfl (by decide) ?_
    refine aw_aload_n dX7_choose_28 rfl rfl ?_
    refine aw_gR dX7_choose_29 fl_X7_26 sh_42 rfl ?_
    refine aw_aload_n dX7_choose_32 rfl rfl ?_
    refine aw_gR dX7_choose_33 fl_X7_22 sh_42 rfl ?_
    obtain ⟨p3, hp3, hf⟩ := ax_bind hf
    refine aw_cVv (As := [.ref 3]) (st := []) dX7_choose_36 cl_X7_33 iv_X1_copy (k_X1_copy (Q := (fun v h' => v = none ∧ h' = hp p3 gb)) 13 3 s gb ax_G13 ax_G3 hp3 ⟨rfl, rfl⟩) (ci := 1) rfl (hp_get sh_13) rfl rfl rfl (Nat.le_of_ble_eq_true rfl) rfl (by decide) (by decide) ?_
    refine aw_goto (tgt := 87) dX7_choose_39 (by decide) ?_
    refine aw_less (L' := [some (.ref 42), none, none]) (And.intro rfl trivial) ?_
    exact J87 p3 hf
  have hf := ax_neg hc2 hf
  by_cases hc3 : x1 = (1 : Int32)
  · have hf := ax_pos hc3 hf
    refine aw_tableAt (tgt := 42) 1 dX7_choose_1 hc3 (by decide) rfl (by decide) ?_
    refine aw_aload_n dX7_choose_42 rfl rfl ?_
    refine aw_ldc2 dX7_choose_43 kc_X7_39 ?_
    refine aw_aload_n dX7_choose_46 rfl rfl ?_
    refine aw_ldc2 dX7_choose_47 kc_X7_39 ?_
    obtain ⟨p4, hp4, hf⟩ := ax_bind hf
    refine aw_cVl (As := [.long (-9999 : Int64)]) (st := [.long (-9999 : Int64), .ref 42]) dX7_choose_50 cl_X7_41 iv_X7_lowestTop (k_X7_lowestTop (Q := (fun v h' => v = some (.long p4.1) ∧ h' = hp p4.2 gb)) (-9999 : Int64) s gb hp4 ⟨rfl, rfl⟩) (ci := 7) rfl (hp_get sh_42) rfl rfl rfl (Nat.le_of_ble_eq_true rfl) rfl (by decide) (by decide) ?_
    obtain ⟨p5, hp5, hf⟩ := ax_bind hf
    refine aw_cVv (As := [.long (-9999 : Int64), .long p4.1]) (st := []) dX7_choose_53 cl_X7_45 iv_X7_supposeWithin (k_X7_supposeWithin (Q := (fun v h' => v = none ∧ h' = hp p5 gb)) (-9999 : Int64) p4.1 p4.2 gb hp5 ⟨rfl, rfl⟩) (ci := 7) rfl (hp_get sh_42) rfl rfl rfl (Nat.le_of_ble_eq_true rfl) rfl (by decide) (by decide) ?_
    refine aw_goto (tgt := 87) dX7_choose_56 (by decide) ?_
    refine aw_less (L' := [some (.ref 42), none, none]) (And.intro rfl trivial) ?_
    exact J87 p5 hf
  have hf := ax_neg hc3 hf
  by_cases hc6 : x1 = (2 : Int32)
  · have hf := ax_pos hc6 hf
    refine aw_tableAt (tgt := 59) 2 dX7_choose_1 hc6 (by decide) rfl (by decide) ?_
    refine aw_aload_n dX7_choose_59 rfl rfl ?_
    refine aw_gR dX7_choose_60 fl_X7_22 sh_42 rfl ?_
    refine aw_gI dX7_choose_63 fl_X7_49 sh_3 rfl ?_
    refine aw_if_eq (tgt := 76) dX7_choose_66 (by decide) (fun hc5 => ?_) (fun hc5 => ?_)
    · have hf := ax_pos hc5 hf
      refine aw_iconst (v := 1) dX7_choose_76 (by decide) ?_
      refine aw_goto (tgt := 81) dX7_choose_77 (by decide) ?_
      cases hf
      exact aw_zret dX7_choose_81 (by decide) hq (Nat.le_refl _) (Nat.le_refl _)
    · have hf := ax_neg hc5 hf
      refine aw_aload_n dX7_choose_69 rfl rfl ?_
      obtain ⟨p6, hp6, hf⟩ := ax_bind hf
      refine aw_cVi (As := []) (st := []) dX7_choose_70 cl_X7_53 iv_X7_chooseEven (k_X7_chooseEven (Q := (fun v h' => v = some (.int p6.1) ∧ h' = hp p6.2 gb)) s gb hp6 ⟨rfl, rfl⟩) (ci := 7) rfl (hp_get sh_42) rfl rfl rfl (Nat.le_of_ble_eq_true rfl) rfl (by decide) (by decide) ?_
      refine aw_if_eq (tgt := 80) dX7_choose_73 (by decide) (fun hc4 => ?_) (fun hc4 => ?_)
      · have hf := ax_pos hc4 hf
        refine aw_iconst (v := 0) dX7_choose_80 (by decide) ?_
        cases hf
        exact aw_zret dX7_choose_81 (by decide) hq (Nat.le_refl _) (Nat.le_refl _)
      · have hf := ax_neg hc4 hf
        refine aw_iconst (v := 1) dX7_choose_76 (by decide) ?_
        refine aw_goto (tgt := 81) dX7_choose_77 (by decide) ?_
        cases hf
        exact aw_zret dX7_choose_81 (by decide) hq (Nat.le_refl _) (Nat.le_refl _)
  have hf := ax_neg hc6 hf
  refine aw_tableOut (tgt := 82) dX7_choose_1 (ax_sw 2 (fun i hi => ?_)) (by decide) ?_
  · rcases (show i = 0 ∨ i = 1 ∨ i = 2 by omega) with rfl | rfl | rfl <;> assumption
  · refine aw_aload_n dX7_choose_82 rfl rfl ?_
    refine aw_iload_n dX7_choose_83 rfl rfl ?_
    obtain ⟨p7, hp7, hf⟩ := ax_bind hf
    refine aw_cVv (As := [.int x2]) (st := []) dX7_choose_84 cl_X7_57 iv_X7_supposeWeighted (k_X7_supposeWeighted (Q := (fun v h' => v = none ∧ h' = hp p7 gb)) x2 s gb hp7 ⟨rfl, rfl⟩) (ci := 7) rfl (hp_get sh_42) rfl rfl rfl (Nat.le_of_ble_eq_true rfl) rfl (by decide) (by decide) ?_
    refine aw_less (L' := [some (.ref 42), none, none]) (And.intro rfl trivial) ?_
    exact J87 p7 hf
noncomputable def f_X7_howManyAbove_L4 (z1 : Int32) (a4 : Int32 × Int32 × sx_M) : Option ((Int32 × Int32 × sx_M) ⊕ (Int32 × sx_M)) :=
  (if (rI a4.2.2 3 1) ≤ a4.2.1 then
 some (.inr (a4.1, a4.2.2))
else
 (if ¬ (a4.2.1 < 0 ∨ 7 ≤ (a4.2.1).toNatClampNeg) then
 (f_X1_at 3 a4.2.1 (rA a4.2.2 44 (a4.2.1).toNatClampNeg) a4.2.2).bind (fun p1 =>
 (if p1.1 ≤ (z1).toInt64 then
 some (.inl (a4.1, (a4.2.1 + (1 : Int32)), p1.2))
else
 some (.inl ((a4.1 + (1 : Int32)), (a4.2.1 + (1 : Int32)), p1.2))))
else none))
noncomputable def f_X7_howManyAbove (x1 : Int32) (s : sx_M) : Option (Int64 × sx_M) :=
  (whT (f_X7_howManyAbove_L4 x1) ((0 : Int32), (0 : Int32), s)).bind (fun b2 =>
 some ((b2.1).toInt64, b2.2))
set_option maxRecDepth 100000 in
set_option maxHeartbeats 4000000 in
theorem k_X7_howManyAbove {l : Launch} {X : ax_X} {Q : Option Value → ax_H → Prop} (x1 : Int32) (s : sx_M) (gb : ax_H) {p : Int64 × sx_M} (hf : f_X7_howManyAbove x1 s = some p) (hq : Q (some (.long p.1)) (hp p.2 gb)) : AM l X yX7_howManyAbove cX7_howManyAbove 4 (some .long) 1 0 0 [.ref 42, .int x1] (hp s gb) Q := by
  refine aw_met (own := RX7) (nm := "howManyAbove") (L := [some (.ref 42), some (.int x1), none, none]) (by decide +kernel) rfl rfl (And.intro rfl (And.intro rfl trivial)) (Nat.le_of_ble_eq_true rfl) ?_
  unfold f_X7_howManyAbove at hf
  refine aw_iconst (v := 0) dX7_howManyAbove_0 (by decide) ?_
  refine aw_istore_n (L' := [some (.ref 42), some (.int x1), some (.int (0 : Int32)), none]) dX7_howManyAbove_1 rfl (by decide) rfl ?_
  refine aw_iconst (v := 0) dX7_howManyAbove_2 (by decide) ?_
  refine aw_istore_n (L' := [some (.ref 42), some (.int x1), some (.int (0 : Int32)), some (.int (0 : Int32))]) dX7_howManyAbove_3 rfl (by decide) rfl ?_
  obtain ⟨b2, hb2, hf⟩ := ax_bind hf
  refine wh_go ((0 : Int32), (0 : Int32), s) (fun a4 : Int32 × Int32 × sx_M => AW l X RX7 "howManyAbove" cX7_howManyAbove 4 (some .long) (ax_rm 1 0 0) (ax_MQ X Q 0 0) 0 0 4 [some (.ref 42), some (.int x1), some (.int a4.1), some (.int a4.2.1)] [] (hp a4.2.2 gb)) (fun e : Int32 × sx_M => AW l X RX7 "howManyAbove" cX7_howManyAbove 4 (some .long) (ax_rm 1 0 0) (ax_MQ X Q 0 0) 0 0 44 [none, none, some (.int e.1), none] [] (hp e.2 gb)) hb2 ?_ ?_
  · intro a4 r hf hK
    unfold f_X7_howManyAbove_L4 at hf
    refine aw_iload_n dX7_howManyAbove_4 rfl rfl ?_
    refine aw_aload_n dX7_howManyAbove_5 rfl rfl ?_
    refine aw_gR dX7_howManyAbove_6 fl_X7_22 sh_42 rfl ?_
    refine aw_gI dX7_howManyAbove_9 fl_X7_49 sh_3 rfl ?_
    refine aw_icmp_ge (tgt := 44) dX7_howManyAbove_12 (by decide) (fun hc3 => ?_) (fun hc3 => ?_)
    · have hf := ax_pos hc3 hf
      refine aw_less (L' := [none, none, some (.int a4.1), none]) (And.intro rfl trivial) ?_
      cases hf
      exact hK
    · have hf := ax_neg hc3 hf
      refine aw_aload_n dX7_howManyAbove_15 rfl rfl ?_
      refine aw_gR dX7_howManyAbove_16 fl_X7_22 sh_42 rfl ?_
      refine aw_iload_n dX7_howManyAbove_19 rfl rfl ?_
      refine aw_aload_n dX7_howManyAbove_20 rfl rfl ?_
      refine aw_gR dX7_howManyAbove_21 fl_X7_15 sh_42 rfl ?_
      refine aw_iload_n dX7_howManyAbove_24 rfl rfl ?_
      obtain ⟨hc1, hf⟩ := ax_ite hf
      refine aw_lA dX7_howManyAbove_25 sh_44 hc1 ?_
      obtain ⟨p1, hp1, hf⟩ := ax_bind hf
      refine aw_cVl (As := [.int a4.2.1, .int (rA a4.2.2 44 (a4.2.1).toNatClampNeg)]) (st := []) dX7_howManyAbove_26 cl_X7_84 iv_X1_at (k_X1_at (Q := (fun v h' => v = some (.long p1.1) ∧ h' = hp p1.2 gb)) 3 a4.2.1 (rA a4.2.2 44 (a4.2.1).toNatClampNeg) a4.2.2 gb ax_G3 hp1 ⟨rfl, rfl⟩) (ci := 1) rfl (hp_get sh_3) rfl rfl rfl (Nat.le_of_ble_eq_true rfl) rfl (by decide) (by decide) ?_
      refine aw_iload_n dX7_howManyAbove_29 rfl rfl ?_
      refine aw_i2l dX7_howManyAbove_30 ?_
      refine aw_lcmp_le (tgt := 38) dX7_howManyAbove_31 dX7_howManyAbove_32 (by decide) (fun hc2 => ?_) (fun hc2 => ?_)
      · have hf := ax_pos hc2 hf
        refine aw_iinc (v := (a4.2.1 + (1 : Int32))) (L' := [some (.ref 42), some (.int x1), some (.int a4.1), some (.int (a4.2.1 + (1 : Int32)))]) dX7_howManyAbove_38 rfl rfl (by decide) rfl ?_
        refine aw_goto (tgt := 4) dX7_howManyAbove_41 (by decide) ?_
        cases hf
        exact hK
      · have hf := ax_neg hc2 hf
        refine aw_iinc (v := (a4.1 + (1 : Int32))) (L' := [some (.ref 42), some (.int x1), some (.int (a4.1 + (1 : Int32))), some (.int a4.2.1)]) dX7_howManyAbove_35 rfl rfl (by decide) rfl ?_
        refine aw_iinc (v := (a4.2.1 + (1 : Int32))) (L' := [some (.ref 42), some (.int x1), some (.int (a4.1 + (1 : Int32))), some (.int (a4.2.1 + (1 : Int32)))]) dX7_howManyAbove_38 rfl rfl (by decide) rfl ?_
        refine aw_goto (tgt := 4) dX7_howManyAbove_41 (by decide) ?_
        cases hf
        exact hK
  · refine aw_iload_n dX7_howManyAbove_44 rfl rfl ?_
    refine aw_i2l dX7_howManyAbove_45 ?_
    cases hf
    exact aw_lret dX7_howManyAbove_46 hq (Nat.le_refl _) (Nat.le_refl _)
noncomputable def f_X7_measure (x1 : Int32) (x2 : Int32) (s : sx_M) : Option (Int64 × sx_M) :=
  (if (rI s 3 1) = 0 then
 some ((0 : Int64), s)
else
 (if x1 = (0 : Int32) then
 (f_X1_sumOf 3 44 s).bind (fun p1 =>
 some (p1.1, p1.2))
else
 (if x1 = (1 : Int32) then
 (f_X1_greatestOf 3 44 s).bind (fun p2 =>
 some (p2.1, p2.2))
else
 (if x1 = (2 : Int32) then
 (f_X1_greatestOf 3 44 s).bind (fun p3 =>
 (f_X1_smallestOf 3 44 p3.2).bind (fun p4 =>
 some ((p3.1 - p4.1), p4.2)))
else
 (f_X7_howManyAbove x2 s).bind (fun p5 =>
 some (p5.1, p5.2))))))
set_option maxRecDepth 100000 in
set_option maxHeartbeats 4000000 in
theorem k_X7_measure {l : Launch} {X : ax_X} {Q : Option Value → ax_H → Prop} (x1 : Int32) (x2 : Int32) (s : sx_M) (gb : ax_H) {p : Int64 × sx_M} (hf : f_X7_measure x1 x2 s = some p) (hq : Q (some (.long p.1)) (hp p.2 gb)) : AM l X yX7_measure cX7_measure 3 (some .long) 2 0 0 [.ref 42, .int x1, .int x2] (hp s gb) Q := by
  refine aw_met (own := RX7) (nm := "measure") (L := [some (.ref 42), some (.int x1), some (.int x2)]) (by decide +kernel) rfl rfl (And.intro rfl (And.intro rfl (And.intro rfl trivial))) (Nat.le_of_ble_eq_true rfl) ?_
  unfold f_X7_measure at hf
  refine aw_aload_n dX7_measure_0 rfl rfl ?_
  refine aw_gR dX7_measure_1 fl_X7_22 sh_42 rfl ?_
  refine aw_gI dX7_measure_4 fl_X7_49 sh_3 rfl ?_
  refine aw_if_ne (tgt := 12) dX7_measure_7 (by decide) (fun hc4 => ?_) (fun hc4 => ?_)
  · have hf := ax_neg hc4 hf
    refine aw_iload_n dX7_measure_12 rfl rfl ?_
    by_cases hc1 : x1 = (0 : Int32)
    · have hf := ax_pos hc1 hf
      refine aw_tableAt (tgt := 40) 0 dX7_measure_13 hc1 (by decide) rfl (by decide) ?_
      refine aw_aload_n dX7_measure_40 rfl rfl ?_
      refine aw_gR dX7_measure_41 fl_X7_22 sh_42 rfl ?_
      refine aw_aload_n dX7_measure_44 rfl rfl ?_
      refine aw_gR dX7_measure_45 fl_X7_15 sh_42 rfl ?_
      obtain ⟨p1, hp1, hf⟩ := ax_bind hf
      refine aw_cVl (As := [.ref 44]) (st := []) dX7_measure_48 cl_X7_70 iv_X1_sumOf (k_X1_sumOf (Q := (fun v h' => v = some (.long p1.1) ∧ h' = hp p1.2 gb)) 3 44 s gb ax_G3 sh_44 hp1 ⟨rfl, rfl⟩) (ci := 1) rfl (hp_get sh_3) rfl rfl rfl (Nat.le_of_ble_eq_true rfl) rfl (by decide) (by decide) ?_
      cases hf
      exact aw_lret dX7_measure_51 hq (Nat.le_refl _) (Nat.le_refl _)
    have hf := ax_neg hc1 hf
    by_cases hc2 : x1 = (1 : Int32)
    · have hf := ax_pos hc2 hf
      refine aw_tableAt (tgt := 52) 1 dX7_measure_13 hc2 (by decide) rfl (by decide) ?_
      refine aw_aload_n dX7_measure_52 rfl rfl ?_
      refine aw_gR dX7_measure_53 fl_X7_22 sh_42 rfl ?_
      refine aw_aload_n dX7_measure_56 rfl rfl ?_
      refine aw_gR dX7_measure_57 fl_X7_15 sh_42 rfl ?_
      obtain ⟨p2, hp2, hf⟩ := ax_bind hf
      refine aw_cVl (As := [.ref 44]) (st := []) dX7_measure_60 cl_X7_74 iv_X1_greatestOf (k_X1_greatestOf (Q := (fun v h' => v = some (.long p2.1) ∧ h' = hp p2.2 gb)) 3 44 s gb ax_G3 sh_44 hp2 ⟨rfl, rfl⟩) (ci := 1) rfl (hp_get sh_3) rfl rfl rfl (Nat.le_of_ble_eq_true rfl) rfl (by decide) (by decide) ?_
      cases hf
      exact aw_lret dX7_measure_63 hq (Nat.le_refl _) (Nat.le_refl _)
    have hf := ax_neg hc2 hf
    by_cases hc3 : x1 = (2 : Int32)
    · have hf := ax_pos hc3 hf
      refine aw_tableAt (tgt := 64) 2 dX7_measure_13 hc3 (by decide) rfl (by decide) ?_
      refine aw_aload_n dX7_measure_64 rfl rfl ?_
      refine aw_gR dX7_measure_65 fl_X7_22 sh_42 rfl ?_
      refine aw_aload_n dX7_measure_68 rfl rfl ?_
      refine aw_gR dX7_measure_69 fl_X7_15 sh_42 rfl ?_
      obtain ⟨p3, hp3, hf⟩ := ax_bind hf
      refine aw_cVl (As := [.ref 44]) (st := []) dX7_measure_72 cl_X7_74 iv_X1_greatestOf (k_X1_greatestOf (Q := (fun v h' => v = some (.long p3.1) ∧ h' = hp p3.2 gb)) 3 44 s gb ax_G3 sh_44 hp3 ⟨rfl, rfl⟩) (ci := 1) rfl (hp_get sh_3) rfl rfl rfl (Nat.le_of_ble_eq_true rfl) rfl (by decide) (by decide) ?_
      refine aw_aload_n dX7_measure_75 rfl rfl ?_
      refine aw_gR dX7_measure_76 fl_X7_22 sh_42 rfl ?_
      refine aw_aload_n dX7_measure_79 rfl rfl ?_
      refine aw_gR dX7_measure_80 fl_X7_15 sh_42 rfl ?_
      obtain ⟨p4, hp4, hf⟩ := ax_bind hf
      refine aw_cVl (As := [.ref 44]) (st := [.long p3.1]) dX7_measure_83 cl_X7_77 iv_X1_smallestOf (k_X1_smallestOf (Q := (fun v h' => v = some (.long p4.1) ∧ h' = hp p4.2 gb)) 3 44 p3.2 gb ax_G3 sh_44 hp4 ⟨rfl, rfl⟩) (ci := 1) rfl (hp_get sh_3) rfl rfl rfl (Nat.le_of_ble_eq_true rfl) rfl (by decide) (by decide) ?_
      refine aw_lsub dX7_measure_86 ?_
      cases hf
      exact aw_lret dX7_measure_87 hq (Nat.le_refl _) (Nat.le_refl _)
    have hf := ax_neg hc3 hf
    refine aw_tableOut (tgt := 88) dX7_measure_13 (ax_sw 2 (fun i hi => ?_)) (by decide) ?_
    · rcases (show i = 0 ∨ i = 1 ∨ i = 2 by omega) with rfl | rfl | rfl <;> assumption
    · refine aw_aload_n dX7_measure_88 rfl rfl ?_
      refine aw_iload_n dX7_measure_89 rfl rfl ?_
      obtain ⟨p5, hp5, hf⟩ := ax_bind hf
      refine aw_cVl (As := [.int x2]) (st := []) dX7_measure_90 cl_X7_80 iv_X7_howManyAbove (k_X7_howManyAbove (Q := (fun v h' => v = some (.long p5.1) ∧ h' = hp p5.2 gb)) x2 s gb hp5 ⟨rfl, rfl⟩) (ci := 7) rfl (hp_get sh_42) rfl rfl rfl (Nat.le_of_ble_eq_true rfl) rfl (by decide) (by decide) ?_
      cases hf
      exact aw_lret dX7_measure_93 hq (Nat.le_refl _) (Nat.le_refl _)
  · have hf := ax_pos hc4 hf
    refine aw_lconst (v := 0) dX7_measure_10 (by decide) ?_
    cases hf
    exact aw_lret dX7_measure_11 hq (Nat.le_refl _) (Nat.le_refl _)
noncomputable def f_X8_open_L18 (a18 : Int32 × sx_M) : Option ((Int32 × sx_M) ⊕ (sx_M)) :=
  (if (8 : Int32) ≤ a18.1 then
 some (.inr a18.2)
else
 (if ¬ (a18.1 < 0 ∨ 8 ≤ (a18.1).toNatClampNeg) then
 some (.inl ((a18.1 + (1 : Int32)), (wB a18.2 50 (a18.1).toNatClampNeg (0 : Int64))))
else none))
noncomputable def f_X8_open_L39 (a39 : Int32 × sx_M) : Option ((Int32 × sx_M) ⊕ (sx_M)) :=
  (if (7 : Int32) ≤ a39.1 then
 some (.inr a39.2)
else
 (if ¬ (a39.1 < 0 ∨ 7 ≤ (a39.1).toNatClampNeg) then
 (if ¬ (a39.1 < 0 ∨ 7 ≤ (a39.1).toNatClampNeg) then
 some (.inl ((a39.1 + (1 : Int32)), (wA (wA a39.2 51 (a39.1).toNatClampNeg (-1 : Int32)) 52 (a39.1).toNatClampNeg a39.1)))
else none)
else none))
noncomputable def f_X8_open (s : sx_M) : Option sx_M :=
  (whT (f_X8_open_L18) ((0 : Int32), (wI (wI s 49 5 (0 : Int32)) 49 4 (rI (wI s 49 5 (0 : Int32)) 3 1)))).bind (fun b1 =>
 (whT (f_X8_open_L39) ((0 : Int32), b1)).bind (fun b2 =>
 some b2))
set_option maxRecDepth 100000 in
set_option maxHeartbeats 4000000 in
theorem k_X8_open {l : Launch} {X : ax_X} {Q : Option Value → ax_H → Prop} (s : sx_M) (gb : ax_H) {p : sx_M} (hf : f_X8_open s = some p) (hq : Q (none) (hp p gb)) : AM l X yX8_open cX8_open 2 none 0 0 0 [.ref 49] (hp s gb) Q := by
  refine aw_met (own := RX8) (nm := "open") (L := [some (.ref 49), none]) (by decide +kernel) rfl rfl (And.intro rfl trivial) (Nat.le_of_ble_eq_true rfl) ?_
  unfold f_X8_open at hf
  refine aw_aload_n dX8_open_0 rfl rfl ?_
  refine aw_iconst (v := 0) dX8_open_1 (by decide) ?_
  refine aw_pI dX8_open_2 fp_X8_29 sh_49 rfl rfl rfl ?_
  refine aw_aload_n dX8_open_5 rfl rfl ?_
  refine aw_aload_n dX8_open_6 rfl rfl ?_
  refine aw_gR dX8_open_7 fl_X8_22 sh_49 rfl ?_
  refine aw_gI dX8_open_10 fl_X8_40 sh_3 rfl ?_
  refine aw_pI dX8_open_13 fp_X8_33 sh_49 rfl rfl rfl ?_
  refine aw_iconst (v := 0) dX8_open_16 (by decide) ?_
  refine aw_istore_n (L' := [some (.ref 49), some (.int (0 : Int32))]) dX8_open_17 rfl (by decide) rfl ?_
  obtain ⟨b1, hb1, hf⟩ := ax_bind hf
  refine wh_go ((0 : Int32), (wI (wI s 49 5 (0 : Int32)) 49 4 (rI (wI s 49 5 (0 : Int32)) 3 1))) (fun a18 : Int32 × sx_M => AW l X RX8 "open" cX8_open 2 none (ax_rm 0 0 0) (ax_MQ X Q 0 0) 0 0 18 [some (.ref 49), some (.int a18.1)] [] (hp a18.2 gb)) (fun e : sx_M => AW l X RX8 "open" cX8_open 2 none (ax_rm 0 0 0) (ax_MQ X Q 0 0) 0 0 37 [some (.ref 49), none] [] (hp e gb)) hb1 ?_ ?_
  · intro a18 r hf hK
    unfold f_X8_open_L18 at hf
    refine aw_iload_n dX8_open_18 rfl rfl ?_
    refine aw_bipush (v := 8) dX8_open_19 (by decide) ?_
    refine aw_icmp_ge (tgt := 37) dX8_open_21 (by decide) (fun hc2 => ?_) (fun hc2 => ?_)
    · have hf := ax_pos hc2 hf
      refine aw_less (L' := [some (.ref 49), none]) (And.intro rfl trivial) ?_
      cases hf
      exact hK
    · have hf := ax_neg hc2 hf
      refine aw_aload_n dX8_open_24 rfl rfl ?_
      refine aw_gR dX8_open_25 fl_X8_9 sh_49 rfl ?_
      refine aw_iload_n dX8_open_28 rfl rfl ?_
      refine aw_lconst (v := 0) dX8_open_29 (by decide) ?_
      obtain ⟨hc1, hf⟩ := ax_ite hf
      refine aw_sB dX8_open_30 sh_50 hc1 ?_
      refine aw_iinc (v := (a18.1 + (1 : Int32))) (L' := [some (.ref 49), some (.int (a18.1 + (1 : Int32)))]) dX8_open_31 rfl rfl (by decide) rfl ?_
      refine aw_goto (tgt := 18) dX8_open_34 (by decide) ?_
      cases hf
      exact hK
  · refine aw_iconst (v := 0) dX8_open_37 (by decide) ?_
    refine aw_istore_n (L' := [some (.ref 49), some (.int (0 : Int32))]) dX8_open_38 rfl (by decide) rfl ?_
    obtain ⟨b2, hb2, hf⟩ := ax_bind hf
    refine wh_go ((0 : Int32), b1) (fun a39 : Int32 × sx_M => AW l X RX8 "open" cX8_open 2 none (ax_rm 0 0 0) (ax_MQ X Q 0 0) 0 0 39 [some (.ref 49), some (.int a39.1)] [] (hp a39.2 gb)) (fun e : sx_M => AW l X RX8 "open" cX8_open 2 none (ax_rm 0 0 0) (ax_MQ X Q 0 0) 0 0 65 [none, none] [] (hp e gb)) hb2 ?_ ?_
    · intro a39 r hf hK
      unfold f_X8_open_L39 at hf
      refine aw_iload_n dX8_open_39 rfl rfl ?_
      refine aw_bipush (v := 7) dX8_open_40 (by decide) ?_
      refine aw_icmp_ge (tgt := 65) dX8_open_42 (by decide) (fun hc5 => ?_) (fun hc5 => ?_)
      · have hf := ax_pos hc5 hf
        refine aw_less (L' := [none, none]) trivial ?_
        cases hf
        exact hK
      · have hf := ax_neg hc5 hf
        refine aw_aload_n dX8_open_45 rfl rfl ?_
        refine aw_gR dX8_open_46 fl_X8_15 sh_49 rfl ?_
        refine aw_iload_n dX8_open_49 rfl rfl ?_
        refine aw_iconst (v := -1) dX8_open_50 (by decide) ?_
        obtain ⟨hc3, hf⟩ := ax_ite hf
        refine aw_sA dX8_open_51 sh_51 hc3 ?_
        refine aw_aload_n dX8_open_52 rfl rfl ?_
        refine aw_gR dX8_open_53 fl_X8_19 sh_49 rfl ?_
        refine aw_iload_n dX8_open_56 rfl rfl ?_
        refine aw_iload_n dX8_open_57 rfl rfl ?_
        obtain ⟨hc4, hf⟩ := ax_ite hf
        refine aw_sA dX8_open_58 sh_52 hc4 ?_
        refine aw_iinc (v := (a39.1 + (1 : Int32))) (L' := [some (.ref 49), some (.int (a39.1 + (1 : Int32)))]) dX8_open_59 rfl rfl (by decide) rfl ?_
        refine aw_goto (tgt := 39) dX8_open_62 (by decide) ?_
        cases hf
        exact hK
    · cases hf
      exact aw_vret dX8_open_65 hq (Nat.le_refl _) (Nat.le_refl _)
noncomputable def f_X8_net (x1 : Int32) (x2 : Int32) (s : sx_M) : Option (Int64 × sx_M) :=
  (f_X1_at 3 x1 x2 s).bind (fun p1 =>
 (if ¬ (x2 < 0 ∨ 8 ≤ (x2).toNatClampNeg) then
 some ((p1.1 + (rB p1.2 50 (x2).toNatClampNeg)), p1.2)
else none))
set_option maxRecDepth 100000 in
set_option maxHeartbeats 4000000 in
theorem k_X8_net {l : Launch} {X : ax_X} {Q : Option Value → ax_H → Prop} (x1 : Int32) (x2 : Int32) (s : sx_M) (gb : ax_H) {p : Int64 × sx_M} (hf : f_X8_net x1 x2 s = some p) (hq : Q (some (.long p.1)) (hp p.2 gb)) : AM l X yX8_net cX8_net 3 (some .long) 1 0 0 [.ref 49, .int x1, .int x2] (hp s gb) Q := by
  refine aw_met (own := RX8) (nm := "net") (L := [some (.ref 49), some (.int x1), some (.int x2)]) (by decide +kernel) rfl rfl (And.intro rfl (And.intro rfl (And.intro rfl trivial))) (Nat.le_of_ble_eq_true rfl) ?_
  unfold f_X8_net at hf
  refine aw_aload_n dX8_net_0 rfl rfl ?_
  refine aw_gR dX8_net_1 fl_X8_22 sh_49 rfl ?_
  refine aw_iload_n dX8_net_4 rfl rfl ?_
  refine aw_iload_n dX8_net_5 rfl rfl ?_
  obtain ⟨p1, hp1, hf⟩ := ax_bind hf
  refine aw_cVl (As := [.int x1, .int x2]) (st := []) dX8_net_6 cl_X8_62 iv_X1_at (k_X1_at (Q := (fun v h' => v = some (.long p1.1) ∧ h' = hp p1.2 gb)) 3 x1 x2 s gb ax_G3 hp1 ⟨rfl, rfl⟩) (ci := 1) rfl (hp_get sh_3) rfl rfl rfl (Nat.le_of_ble_eq_true rfl) rfl (by decide) (by decide) ?_
  refine aw_aload_n dX8_net_9 rfl rfl ?_
  refine aw_gR dX8_net_10 fl_X8_9 sh_49 rfl ?_
  refine aw_iload_n dX8_net_13 rfl rfl ?_
  obtain ⟨hc1, hf⟩ := ax_ite hf
  refine aw_lB dX8_net_14 sh_50 hc1 ?_
  refine aw_ladd dX8_net_15 ?_
  cases hf
  exact aw_lret dX8_net_16 hq (Nat.le_refl _) (Nat.le_refl _)
noncomputable def f_X8_leastNet_L5_J74 (z1 : Int32) (z2 : Int32) (y4_74 : Int32) (s_74 : sx_M) : Option ((Int32 × Int32 × sx_M) ⊕ (Int32 × sx_M)) :=
  some (.inl (y4_74, (y4_74 + (1 : Int32)), s_74))
noncomputable def f_X8_leastNet_L5_J45 (z1 : Int32) (z2 : Int32) (y3_45 : Int32) (y4_45 : Int32) (t0_45 : Int32) (s_45 : sx_M) : Option ((Int32 × Int32 × sx_M) ⊕ (Int32 × sx_M)) :=
  (if t0_45 = 0 then
 some (.inl (y3_45, (y4_45 + (1 : Int32)), s_45))
else
 (if y3_45 = (-1 : Int32) then
 f_X8_leastNet_L5_J74 z1 z2 y4_45 s_45
else
 (f_X8_net z1 y4_45 s_45).bind (fun p1 =>
 (f_X8_net z1 y3_45 p1.2).bind (fun p2 =>
 (if p2.1 ≤ p1.1 then
 some (.inl (y3_45, (y4_45 + (1 : Int32)), p2.2))
else
 f_X8_leastNet_L5_J74 z1 z2 y4_45 p2.2)))))
noncomputable def f_X8_leastNet_L5 (z1 : Int32) (z2 : Int32) (a5 : Int32 × Int32 × sx_M) : Option ((Int32 × Int32 × sx_M) ⊕ (Int32 × sx_M)) :=
  (if (rI a5.2.2 3 2) ≤ a5.2.1 then
 some (.inr (a5.1, a5.2.2))
else
 (if a5.2.1 = z2 then
 f_X8_leastNet_L5_J45 z1 z2 a5.1 a5.2.1 (0 : Int32) a5.2.2
else
 (f_X1_at 3 z1 a5.2.1 a5.2.2).bind (fun p3 =>
 (if p3.1 = (9223372036854775807 : Int64) then
 f_X8_leastNet_L5_J45 z1 z2 a5.1 a5.2.1 (0 : Int32) p3.2
else
 f_X8_leastNet_L5_J45 z1 z2 a5.1 a5.2.1 (1 : Int32) p3.2))))
noncomputable def f_X8_leastNet (x1 : Int32) (x2 : Int32) (s : sx_M) : Option (Int32 × sx_M) :=
  (whT (f_X8_leastNet_L5 x1 x2) ((-1 : Int32), (0 : Int32), s)).bind (fun b4 =>
 some (b4.1, b4.2))
set_option maxRecDepth 100000 in
set_option maxHeartbeats 4000000 in
theorem k_X8_leastNet {l : Launch} {X : ax_X} {Q : Option Value → ax_H → Prop} (x1 : Int32) (x2 : Int32) (s : sx_M) (gb : ax_H) {p : Int32 × sx_M} (hf : f_X8_leastNet x1 x2 s = some p) (hq : Q (some (.int p.1)) (hp p.2 gb)) : AM l X yX8_leastNet cX8_leastNet 6 (some .int) 2 0 0 [.ref 49, .int x1, .int x2] (hp s gb) Q := by
  refine aw_met (own := RX8) (nm := "leastNet") (L := [some (.ref 49), some (.int x1), some (.int x2), none, none, none]) (by decide +kernel) rfl rfl (And.intro rfl (And.intro rfl (And.intro rfl trivial))) (Nat.le_of_ble_eq_true rfl) ?_
  unfold f_X8_leastNet at hf
  refine aw_iconst (v := -1) dX8_leastNet_0 (by decide) ?_
  refine aw_istore_n (L' := [some (.ref 49), some (.int x1), some (.int x2), some (.int (-1 : Int32)), none, none]) dX8_leastNet_1 rfl (by decide) rfl ?_
  refine aw_iconst (v := 0) dX8_leastNet_2 (by decide) ?_
  refine aw_istore (L' := [some (.ref 49), some (.int x1), some (.int x2), some (.int (-1 : Int32)), some (.int (0 : Int32)), none]) dX8_leastNet_3 (by decide) rfl ?_
  obtain ⟨b4, hb4, hf⟩ := ax_bind hf
  refine wh_go ((-1 : Int32), (0 : Int32), s) (fun a5 : Int32 × Int32 × sx_M => AW l X RX8 "leastNet" cX8_leastNet 6 (some .int) (ax_rm 2 0 0) (ax_MQ X Q 0 0) 0 0 5 [some (.ref 49), some (.int x1), some (.int x2), some (.int a5.1), some (.int a5.2.1), none] [] (hp a5.2.2 gb)) (fun e : Int32 × sx_M => AW l X RX8 "leastNet" cX8_leastNet 6 (some .int) (ax_rm 2 0 0) (ax_MQ X Q 0 0) 0 0 83 [none, none, none, some (.int e.1), none, none] [] (hp e.2 gb)) hb4 ?_ ?_
  · intro a5 r hf hK
    unfold f_X8_leastNet_L5 at hf
    have J74 : ∀ (y4_74 : Int32) (s_74 : sx_M), f_X8_leastNet_L5_J74 x1 x2 y4_74 s_74 = some r → AW l X RX8 "leastNet" cX8_leastNet 6 (some .int) (ax_rm 2 0 0) (ax_MQ X Q 0 0) 0 0 74 [some (.ref 49), some (.int x1), some (.int x2), none, some (.int y4_74), none] [] (hp s_74 gb) := by
      intro y4_74 s_74 hf
      unfold f_X8_leastNet_L5_J74 at hf
      refine aw_iload dX8_leastNet_74 rfl ?_
      refine aw_istore_n (L' := [some (.ref 49), some (.int x1), some (.int x2), some (.int y4_74), some (.int y4_74), none]) dX8_leastNet_76 rfl (by decide) rfl ?_
      refine aw_iinc (v := (y4_74 + (1 : Int32))) (L' := [some (.ref 49), some (.int x1), some (.int x2), some (.int y4_74), some (.int (y4_74 + (1 : Int32))), none]) dX8_leastNet_77 rfl rfl (by decide) rfl ?_
      refine aw_goto (tgt := 5) dX8_leastNet_80 (by decide) ?_
      cases hf
      exact hK
    have J45 : ∀ (y3_45 : Int32) (y4_45 : Int32) (t0_45 : Int32) (s_45 : sx_M), f_X8_leastNet_L5_J45 x1 x2 y3_45 y4_45 t0_45 s_45 = some r → AW l X RX8 "leastNet" cX8_leastNet 6 (some .int) (ax_rm 2 0 0) (ax_MQ X Q 0 0) 0 0 45 [some (.ref 49), some (.int x1), some (.int x2), some (.int y3_45), some (.int y4_45), none] [.int t0_45] (hp s_45 gb) := by
      intro y3_45 y4_45 t0_45 s_45 hf
      unfold f_X8_leastNet_L5_J45 at hf
      refine aw_istore (L' := [some (.ref 49), some (.int x1), some (.int x2), some (.int y3_45), some (.int y4_45), some (.int t0_45)]) dX8_leastNet_45 (by decide) rfl ?_
      refine aw_iload dX8_leastNet_47 rfl ?_
      refine aw_if_eq (tgt := 77) dX8_leastNet_49 (by decide) (fun hc3 => ?_) (fun hc3 => ?_)
      · have hf := ax_pos hc3 hf
        refine aw_iinc (v := (y4_45 + (1 : Int32))) (L' := [some (.ref 49), some (.int x1), some (.int x2), some (.int y3_45), some (.int (y4_45 + (1 : Int32))), some (.int t0_45)]) dX8_leastNet_77 rfl rfl (by decide) rfl ?_
        refine aw_goto (tgt := 5) dX8_leastNet_80 (by decide) ?_
        refine aw_less (L' := [some (.ref 49), some (.int x1), some (.int x2), some (.int y3_45), some (.int (y4_45 + (1 : Int32))), none]) (And.intro rfl (And.intro rfl (And.intro rfl (And.intro rfl (And.intro rfl trivial))))) ?_
        cases hf
        exact hK
      · have hf := ax_neg hc3 hf
        refine aw_iload_n dX8_leastNet_52 rfl rfl ?_
        refine aw_iconst (v := -1) dX8_leastNet_53 (by decide) ?_
        refine aw_icmp_eq (tgt := 74) dX8_leastNet_54 (by decide) (fun hc2 => ?_) (fun hc2 => ?_)
        · have hf := ax_pos hc2 hf
          refine aw_less (L' := [some (.ref 49), some (.int x1), some (.int x2), none, some (.int y4_45), none]) (And.intro rfl (And.intro rfl (And.intro rfl (And.intro rfl trivial)))) ?_
          exact J74 y4_45 s_45 hf
        · have hf := ax_neg hc2 hf
          refine aw_aload_n dX8_leastNet_57 rfl rfl ?_
          refine aw_iload_n dX8_leastNet_58 rfl rfl ?_
          refine aw_iload dX8_leastNet_59 rfl ?_
          obtain ⟨p1, hp1, hf⟩ := ax_bind hf
          refine aw_cVl (As := [.int x1, .int y4_45]) (st := []) dX8_leastNet_61 cl_X8_51 iv_X8_net (k_X8_net (Q := (fun v h' => v = some (.long p1.1) ∧ h' = hp p1.2 gb)) x1 y4_45 s_45 gb hp1 ⟨rfl, rfl⟩) (ci := 8) rfl (hp_get sh_49) rfl rfl rfl (Nat.le_of_ble_eq_true rfl) rfl (by decide) (by decide) ?_
          refine aw_aload_n dX8_leastNet_64 rfl rfl ?_
          refine aw_iload_n dX8_leastNet_65 rfl rfl ?_
          refine aw_iload_n dX8_leastNet_66 rfl rfl ?_
          obtain ⟨p2, hp2, hf⟩ := ax_bind hf
          refine aw_cVl (As := [.int x1, .int y3_45]) (st := [.long p1.1]) dX8_leastNet_67 cl_X8_51 iv_X8_net (k_X8_net (Q := (fun v h' => v = some (.long p2.1) ∧ h' = hp p2.2 gb)) x1 y3_45 p1.2 gb hp2 ⟨rfl, rfl⟩) (ci := 8) rfl (hp_get sh_49) rfl rfl rfl (Nat.le_of_ble_eq_true rfl) rfl (by decide) (by decide) ?_
          refine aw_lcmp_ge (tgt := 77) dX8_leastNet_70 dX8_leastNet_71 (by decide) (fun hc1 => ?_) (fun hc1 => ?_)
          · have hf := ax_pos hc1 hf
            refine aw_iinc (v := (y4_45 + (1 : Int32))) (L' := [some (.ref 49), some (.int x1), some (.int x2), some (.int y3_45), some (.int (y4_45 + (1 : Int32))), some (.int t0_45)]) dX8_leastNet_77 rfl rfl (by decide) rfl ?_
            refine aw_goto (tgt := 5) dX8_leastNet_80 (by decide) ?_
            refine aw_less (L' := [some (.ref 49), some (.int x1), some (.int x2), some (.int y3_45), some (.int (y4_45 + (1 : Int32))), none]) (And.intro rfl (And.intro rfl (And.intro rfl (And.intro rfl (And.intro rfl trivial))))) ?_
            cases hf
            exact hK
          · have hf := ax_neg hc1 hf
            refine aw_less (L' := [some (.ref 49), some (.int x1), some (.int x2), none, some (.int y4_45), none]) (And.intro rfl (And.intro rfl (And.intro rfl (And.intro rfl trivial)))) ?_
            exact J74 y4_45 p2.2 hf
    refine aw_iload dX8_leastNet_5 rfl ?_
    refine aw_aload_n dX8_leastNet_7 rfl rfl ?_
    refine aw_gR dX8_leastNet_8 fl_X8_22 sh_49 rfl ?_
    refine aw_gI dX8_leastNet_11 fl_X8_65 sh_3 rfl ?_
    refine aw_icmp_ge (tgt := 83) dX8_leastNet_14 (by decide) (fun hc6 => ?_) (fun hc6 => ?_)
    · have hf := ax_pos hc6 hf
      refine aw_less (L' := [none, none, none, some (.int a5.1), none, none]) (And.intro rfl trivial) ?_
      cases hf
      exact hK
    · have hf := ax_neg hc6 hf
      refine aw_iload dX8_leastNet_17 rfl ?_
      refine aw_iload_n dX8_leastNet_19 rfl rfl ?_
      refine aw_icmp_eq (tgt := 44) dX8_leastNet_20 (by decide) (fun hc5 => ?_) (fun hc5 => ?_)
      · have hf := ax_pos hc5 hf
        refine aw_iconst (v := 0) dX8_leastNet_44 (by decide) ?_
        exact J45 a5.1 a5.2.1 (0 : Int32) a5.2.2 hf
      · have hf := ax_neg hc5 hf
        refine aw_aload_n dX8_leastNet_23 rfl rfl ?_
        refine aw_gR dX8_leastNet_24 fl_X8_22 sh_49 rfl ?_
        refine aw_iload_n dX8_leastNet_27 rfl rfl ?_
        refine aw_iload dX8_leastNet_28 rfl ?_
        obtain ⟨p3, hp3, hf⟩ := ax_bind hf
        refine aw_cVl (As := [.int x1, .int a5.2.1]) (st := []) dX8_leastNet_30 cl_X8_62 iv_X1_at (k_X1_at (Q := (fun v h' => v = some (.long p3.1) ∧ h' = hp p3.2 gb)) 3 x1 a5.2.1 a5.2.2 gb ax_G3 hp3 ⟨rfl, rfl⟩) (ci := 1) rfl (hp_get sh_3) rfl rfl rfl (Nat.le_of_ble_eq_true rfl) rfl (by decide) (by decide) ?_
        refine aw_ldc2 dX8_leastNet_33 kc_X8_68 ?_
        refine aw_lcmp_eq (tgt := 44) dX8_leastNet_36 dX8_leastNet_37 (by decide) (fun hc4 => ?_) (fun hc4 => ?_)
        · have hf := ax_pos hc4 hf
          refine aw_iconst (v := 0) dX8_leastNet_44 (by decide) ?_
          exact J45 a5.1 a5.2.1 (0 : Int32) p3.2 hf
        · have hf := ax_neg hc4 hf
          refine aw_iconst (v := 1) dX8_leastNet_40 (by decide) ?_
          refine aw_goto (tgt := 45) dX8_leastNet_41 (by decide) ?_
          exact J45 a5.1 a5.2.1 (1 : Int32) p3.2 hf
  · refine aw_iload_n dX8_leastNet_83 rfl rfl ?_
    cases hf
    exact aw_iret dX8_leastNet_84 hq (Nat.le_refl _) (Nat.le_refl _)
noncomputable def f_X8_leaveQueue_L2 (a2 : Int32 × sx_M) : Option ((Int32 × sx_M) ⊕ (sx_M)) :=
  (if (rI a2.2 49 4) ≤ a2.1 then
 some (.inr a2.2)
else
 (if ¬ (a2.1 < 0 ∨ 7 ≤ (a2.1).toNatClampNeg) then
 (if ¬ ((a2.1 - (1 : Int32)) < 0 ∨ 7 ≤ ((a2.1 - (1 : Int32))).toNatClampNeg) then
 some (.inl ((a2.1 + (1 : Int32)), (wA a2.2 52 ((a2.1 - (1 : Int32))).toNatClampNeg (rA a2.2 52 (a2.1).toNatClampNeg))))
else none)
else none))
noncomputable def f_X8_leaveQueue (s : sx_M) : Option sx_M :=
  (whT (f_X8_leaveQueue_L2) ((1 : Int32), s)).bind (fun b1 =>
 some (wI b1 49 4 ((rI b1 49 4) - (1 : Int32))))
set_option maxRecDepth 100000 in
set_option maxHeartbeats 4000000 in
theorem k_X8_leaveQueue {l : Launch} {X : ax_X} {Q : Option Value → ax_H → Prop} (s : sx_M) (gb : ax_H) {p : sx_M} (hf : f_X8_leaveQueue s = some p) (hq : Q (none) (hp p gb)) : AM l X yX8_leaveQueue cX8_leaveQueue 2 none 0 0 0 [.ref 49] (hp s gb) Q := by
  refine aw_met (own := RX8) (nm := "leaveQueue") (L := [some (.ref 49), none]) (by decide +kernel) rfl rfl (And.intro rfl trivial) (Nat.le_of_ble_eq_true rfl) ?_
  unfold f_X8_leaveQueue at hf
  refine aw_iconst (v := 1) dX8_leaveQueue_0 (by decide) ?_
  refine aw_istore_n (L' := [some (.ref 49), some (.int (1 : Int32))]) dX8_leaveQueue_1 rfl (by decide) rfl ?_
  obtain ⟨b1, hb1, hf⟩ := ax_bind hf
  refine wh_go ((1 : Int32), s) (fun a2 : Int32 × sx_M => AW l X RX8 "leaveQueue" cX8_leaveQueue 2 none (ax_rm 0 0 0) (ax_MQ X Q 0 0) 0 0 2 [some (.ref 49), some (.int a2.1)] [] (hp a2.2 gb)) (fun e : sx_M => AW l X RX8 "leaveQueue" cX8_leaveQueue 2 none (ax_rm 0 0 0) (ax_MQ X Q 0 0) 0 0 30 [some (.ref 49), none] [] (hp e gb)) hb1 ?_ ?_
  · intro a2 r hf hK
    unfold f_X8_leaveQueue_L2 at hf
    refine aw_iload_n dX8_leaveQueue_2 rfl rfl ?_
    refine aw_aload_n dX8_leaveQueue_3 rfl rfl ?_
    refine aw_gI dX8_leaveQueue_4 fl_X8_33 sh_49 rfl ?_
    refine aw_icmp_ge (tgt := 30) dX8_leaveQueue_7 (by decide) (fun hc3 => ?_) (fun hc3 => ?_)
    · have hf := ax_pos hc3 hf
      refine aw_less (L' := [some (.ref 49), none]) (And.intro rfl trivial) ?_
      cases hf
      exact hK
    · have hf := ax_neg hc3 hf
      refine aw_aload_n dX8_leaveQueue_10 rfl rfl ?_
      refine aw_gR dX8_leaveQueue_11 fl_X8_19 sh_49 rfl ?_
      refine aw_iload_n dX8_leaveQueue_14 rfl rfl ?_
      refine aw_iconst (v := 1) dX8_leaveQueue_15 (by decide) ?_
      refine aw_isub dX8_leaveQueue_16 ?_
      refine aw_aload_n dX8_leaveQueue_17 rfl rfl ?_
      refine aw_gR dX8_leaveQueue_18 fl_X8_19 sh_49 rfl ?_
      refine aw_iload_n dX8_leaveQueue_21 rfl rfl ?_
      obtain ⟨hc1, hf⟩ := ax_ite hf
      refine aw_lA dX8_leaveQueue_22 sh_52 hc1 ?_
      obtain ⟨hc2, hf⟩ := ax_ite hf
      refine aw_sA dX8_leaveQueue_23 sh_52 hc2 ?_
      refine aw_iinc (v := (a2.1 + (1 : Int32))) (L' := [some (.ref 49), some (.int (a2.1 + (1 : Int32)))]) dX8_leaveQueue_24 rfl rfl (by decide) rfl ?_
      refine aw_goto (tgt := 2) dX8_leaveQueue_27 (by decide) ?_
      cases hf
      exact hK
  · refine aw_aload_n dX8_leaveQueue_30 rfl rfl ?_
    refine aw_dup dX8_leaveQueue_31 rfl ?_
    refine aw_gI dX8_leaveQueue_32 fl_X8_33 sh_49 rfl ?_
    refine aw_iconst (v := 1) dX8_leaveQueue_35 (by decide) ?_
    refine aw_isub dX8_leaveQueue_36 ?_
    refine aw_pI dX8_leaveQueue_37 fp_X8_33 sh_49 rfl rfl rfl ?_
    cases hf
    exact aw_vret dX8_leaveQueue_40 hq (Nat.le_refl _) (Nat.le_refl _)
noncomputable def f_X8_ousted_L2 (z1 : Int32) (a2 : Int32 × sx_M) : Option ((Int32 × sx_M) ⊕ (sx_M)) :=
  (if (rI a2.2 3 1) ≤ a2.1 then
 some (.inr a2.2)
else
 (if ¬ (a2.1 < 0 ∨ 7 ≤ (a2.1).toNatClampNeg) then
 (if (rA a2.2 51 (a2.1).toNatClampNeg) = z1 then
 (if (7 : Int32) ≤ (rI a2.2 49 4) then
 some (.inl ((a2.1 + (1 : Int32)), a2.2))
else
 (if ¬ (a2.1 < 0 ∨ 7 ≤ (a2.1).toNatClampNeg) then
 (if ¬ ((rI (wA a2.2 51 (a2.1).toNatClampNeg (-1 : Int32)) 49 4) < 0 ∨ 7 ≤ ((rI (wA a2.2 51 (a2.1).toNatClampNeg (-1 : Int32)) 49 4)).toNatClampNeg) then
 some (.inl ((a2.1 + (1 : Int32)), (wI (wA (wA a2.2 51 (a2.1).toNatClampNeg (-1 : Int32)) 52 ((rI (wA a2.2 51 (a2.1).toNatClampNeg (-1 : Int32)) 49 4)).toNatClampNeg a2.1) 49 4 ((rI (wA (wA a2.2 51 (a2.1).toNatClampNeg (-1 : Int32)) 52 ((rI (wA a2.2 51 (a2.1).toNatClampNeg (-1 : Int32)) 49 4)).toNatClampNeg a2.1) 49 4) + (1 : Int32)))))
else none)
else none))
else
 some (.inl ((a2.1 + (1 : Int32)), a2.2)))
else none))
noncomputable def f_X8_ousted (x1 : Int32) (s : sx_M) : Option sx_M :=
  (whT (f_X8_ousted_L2 x1) ((0 : Int32), s)).bind (fun b1 =>
 some b1)
set_option maxRecDepth 100000 in
set_option maxHeartbeats 4000000 in
theorem k_X8_ousted {l : Launch} {X : ax_X} {Q : Option Value → ax_H → Prop} (x1 : Int32) (s : sx_M) (gb : ax_H) {p : sx_M} (hf : f_X8_ousted x1 s = some p) (hq : Q (none) (hp p gb)) : AM l X yX8_ousted cX8_ousted 3 none 0 0 0 [.ref 49, .int x1] (hp s gb) Q := by
  refine aw_met (own := RX8) (nm := "ousted") (L := [some (.ref 49), some (.int x1), none]) (by decide +kernel) rfl rfl (And.intro rfl (And.intro rfl trivial)) (Nat.le_of_ble_eq_true rfl) ?_
  unfold f_X8_ousted at hf
  refine aw_iconst (v := 0) dX8_ousted_0 (by decide) ?_
  refine aw_istore_n (L' := [some (.ref 49), some (.int x1), some (.int (0 : Int32))]) dX8_ousted_1 rfl (by decide) rfl ?_
  obtain ⟨b1, hb1, hf⟩ := ax_bind hf
  refine wh_go ((0 : Int32), s) (fun a2 : Int32 × sx_M => AW l X RX8 "ousted" cX8_ousted 3 none (ax_rm 0 0 0) (ax_MQ X Q 0 0) 0 0 2 [some (.ref 49), some (.int x1), some (.int a2.1)] [] (hp a2.2 gb)) (fun e : sx_M => AW l X RX8 "ousted" cX8_ousted 3 none (ax_rm 0 0 0) (ax_MQ X Q 0 0) 0 0 65 [none, none, none] [] (hp e gb)) hb1 ?_ ?_
  · intro a2 r hf hK
    unfold f_X8_ousted_L2 at hf
    refine aw_iload_n dX8_ousted_2 rfl rfl ?_
    refine aw_aload_n dX8_ousted_3 rfl rfl ?_
    refine aw_gR dX8_ousted_4 fl_X8_22 sh_49 rfl ?_
    refine aw_gI dX8_ousted_7 fl_X8_40 sh_3 rfl ?_
    refine aw_icmp_ge (tgt := 65) dX8_ousted_10 (by decide) (fun hc6 => ?_) (fun hc6 => ?_)
    · have hf := ax_pos hc6 hf
      refine aw_less (L' := [none, none, none]) trivial ?_
      cases hf
      exact hK
    · have hf := ax_neg hc6 hf
      refine aw_aload_n dX8_ousted_13 rfl rfl ?_
      refine aw_gR dX8_ousted_14 fl_X8_15 sh_49 rfl ?_
      refine aw_iload_n dX8_ousted_17 rfl rfl ?_
      obtain ⟨hc1, hf⟩ := ax_ite hf
      refine aw_lA dX8_ousted_18 sh_51 hc1 ?_
      refine aw_iload_n dX8_ousted_19 rfl rfl ?_
      refine aw_icmp_ne (tgt := 59) dX8_ousted_20 (by decide) (fun hc5 => ?_) (fun hc5 => ?_)
      · have hf := ax_neg hc5 hf
        refine aw_iinc (v := (a2.1 + (1 : Int32))) (L' := [some (.ref 49), some (.int x1), some (.int (a2.1 + (1 : Int32)))]) dX8_ousted_59 rfl rfl (by decide) rfl ?_
        refine aw_goto (tgt := 2) dX8_ousted_62 (by decide) ?_
        cases hf
        exact hK
      · have hf := ax_pos hc5 hf
        refine aw_aload_n dX8_ousted_23 rfl rfl ?_
        refine aw_gI dX8_ousted_24 fl_X8_33 sh_49 rfl ?_
        refine aw_bipush (v := 7) dX8_ousted_27 (by decide) ?_
        refine aw_icmp_ge (tgt := 59) dX8_ousted_29 (by decide) (fun hc4 => ?_) (fun hc4 => ?_)
        · have hf := ax_pos hc4 hf
          refine aw_iinc (v := (a2.1 + (1 : Int32))) (L' := [some (.ref 49), some (.int x1), some (.int (a2.1 + (1 : Int32)))]) dX8_ousted_59 rfl rfl (by decide) rfl ?_
          refine aw_goto (tgt := 2) dX8_ousted_62 (by decide) ?_
          cases hf
          exact hK
        · have hf := ax_neg hc4 hf
          refine aw_aload_n dX8_ousted_32 rfl rfl ?_
          refine aw_gR dX8_ousted_33 fl_X8_15 sh_49 rfl ?_
          refine aw_iload_n dX8_ousted_36 rfl rfl ?_
          refine aw_iconst (v := -1) dX8_ousted_37 (by decide) ?_
          obtain ⟨hc2, hf⟩ := ax_ite hf
          refine aw_sA dX8_ousted_38 sh_51 hc2 ?_
          refine aw_aload_n dX8_ousted_39 rfl rfl ?_
          refine aw_gR dX8_ousted_40 fl_X8_19 sh_49 rfl ?_
          refine aw_aload_n dX8_ousted_43 rfl rfl ?_
          refine aw_gI dX8_ousted_44 fl_X8_33 sh_49 rfl ?_
          refine aw_iload_n dX8_ousted_47 rfl rfl ?_
          obtain ⟨hc3, hf⟩ := ax_ite hf
          refine aw_sA dX8_ousted_48 sh_52 hc3 ?_
          refine aw_aload_n dX8_ousted_49 rfl rfl ?_
          refine aw_dup dX8_ousted_50 rfl ?_
          refine aw_gI dX8_ousted_51 fl_X8_33 sh_49 rfl ?_
          refine aw_iconst (v := 1) dX8_ousted_54 (by decide) ?_
          refine aw_iadd dX8_ousted_55 ?_
          refine aw_pI dX8_ousted_56 fp_X8_33 sh_49 rfl rfl rfl ?_
          refine aw_iinc (v := (a2.1 + (1 : Int32))) (L' := [some (.ref 49), some (.int x1), some (.int (a2.1 + (1 : Int32)))]) dX8_ousted_59 rfl rfl (by decide) rfl ?_
          refine aw_goto (tgt := 2) dX8_ousted_62 (by decide) ?_
          cases hf
          exact hK
  · cases hf
    exact aw_vret dX8_ousted_65 hq (Nat.le_refl _) (Nat.le_refl _)
noncomputable def f_X8_bid_J48 (y1_48 : Int32) (y2_48 : Int32) (y3_48 : Int32) (t0_48 : Int64) (s_48 : sx_M) : Option (Int32 × sx_M) :=
  (if ¬ (y3_48 < 0 ∨ 8 ≤ (y3_48).toNatClampNeg) then
 (if ¬ (y3_48 < 0 ∨ 8 ≤ (y3_48).toNatClampNeg) then
 (f_X8_leaveQueue (wB s_48 50 (y3_48).toNatClampNeg ((rB s_48 50 (y3_48).toNatClampNeg) + (t0_48 + (y2_48).toInt64)))).bind (fun p1 =>
 (f_X8_ousted y3_48 p1).bind (fun p2 =>
 (if ¬ (y1_48 < 0 ∨ 7 ≤ (y1_48).toNatClampNeg) then
 some ((1 : Int32), (wA p2 51 (y1_48).toNatClampNeg y3_48))
else none)))
else none)
else none)
noncomputable def f_X8_bid (x1 : Int32) (x2 : Int32) (s : sx_M) : Option (Int32 × sx_M) :=
  (f_X8_leastNet x1 (-1 : Int32) s).bind (fun p3 =>
 (if p3.1 = (-1 : Int32) then
 some ((0 : Int32), p3.2)
else
 (f_X8_leastNet x1 p3.1 p3.2).bind (fun p4 =>
 (if p4.1 = (-1 : Int32) then
 f_X8_bid_J48 x1 x2 p3.1 (1000 : Int64) p4.2
else
 (f_X8_net x1 p4.1 p4.2).bind (fun p5 =>
 (f_X8_net x1 p3.1 p5.2).bind (fun p6 =>
 f_X8_bid_J48 x1 x2 p3.1 (p5.1 - p6.1) p6.2))))))
set_option maxRecDepth 100000 in
set_option maxHeartbeats 4000000 in
theorem k_X8_bid {l : Launch} {X : ax_X} {Q : Option Value → ax_H → Prop} (x1 : Int32) (x2 : Int32) (s : sx_M) (gb : ax_H) {p : Int32 × sx_M} (hf : f_X8_bid x1 x2 s = some p) (hq : Q (some (.int p.1)) (hp p.2 gb)) : AM l X yX8_bid cX8_bid 7 (some .boolean) 3 0 0 [.ref 49, .int x1, .int x2] (hp s gb) Q := by
  refine aw_met (own := RX8) (nm := "bid") (L := [some (.ref 49), some (.int x1), some (.int x2), none, none, none, none]) (by decide +kernel) rfl rfl (And.intro rfl (And.intro rfl (And.intro rfl trivial))) (Nat.le_of_ble_eq_true rfl) ?_
  unfold f_X8_bid at hf
  have J48 : ∀ (y1_48 : Int32) (y2_48 : Int32) (y3_48 : Int32) (t0_48 : Int64) (s_48 : sx_M), f_X8_bid_J48 y1_48 y2_48 y3_48 t0_48 s_48 = some p → AW l X RX8 "bid" cX8_bid 7 (some .boolean) (ax_rm 3 0 0) (ax_MQ X Q 0 0) 0 0 48 [some (.ref 49), some (.int y1_48), some (.int y2_48), some (.int y3_48), none, none, none] [.long t0_48] (hp s_48 gb) := by
    intro y1_48 y2_48 y3_48 t0_48 s_48 hf
    unfold f_X8_bid_J48 at hf
    refine aw_lstore (L' := [some (.ref 49), some (.int y1_48), some (.int y2_48), some (.int y3_48), none, some (.long t0_48), none]) dX8_bid_48 (by decide) rfl ?_
    refine aw_aload_n dX8_bid_50 rfl rfl ?_
    refine aw_gR dX8_bid_51 fl_X8_9 sh_49 rfl ?_
    refine aw_iload_n dX8_bid_54 rfl rfl ?_
    refine aw_dup2_11 dX8_bid_55 rfl rfl ?_
    obtain ⟨hc1, hf⟩ := ax_ite hf
    refine aw_lB dX8_bid_56 sh_50 hc1 ?_
    refine aw_lload dX8_bid_57 rfl ?_
    refine aw_iload_n dX8_bid_59 rfl rfl ?_
    refine aw_i2l dX8_bid_60 ?_
    refine aw_ladd dX8_bid_61 ?_
    refine aw_ladd dX8_bid_62 ?_
    obtain ⟨hc2, hf⟩ := ax_ite hf
    refine aw_sB dX8_bid_63 sh_50 hc2 ?_
    refine aw_aload_n dX8_bid_64 rfl rfl ?_
    obtain ⟨p1, hp1, hf⟩ := ax_bind hf
    refine aw_cVv (As := []) (st := []) dX8_bid_65 cl_X8_55 iv_X8_leaveQueue (k_X8_leaveQueue (Q := (fun v h' => v = none ∧ h' = hp p1 gb)) (wB s_48 50 (y3_48).toNatClampNeg ((rB s_48 50 (y3_48).toNatClampNeg) + (t0_48 + (y2_48).toInt64))) gb hp1 ⟨rfl, rfl⟩) (ci := 8) rfl (hp_get sh_49) rfl rfl rfl (Nat.le_of_ble_eq_true rfl) rfl (by decide) (by decide) ?_
    refine aw_aload_n dX8_bid_68 rfl rfl ?_
    refine aw_iload_n dX8_bid_69 rfl rfl ?_
    obtain ⟨p2, hp2, hf⟩ := ax_bind hf
    refine aw_cVv (As := [.int y3_48]) (st := []) dX8_bid_70 cl_X8_58 iv_X8_ousted (k_X8_ousted (Q := (fun v h' => v = none ∧ h' = hp p2 gb)) y3_48 p1 gb hp2 ⟨rfl, rfl⟩) (ci := 8) rfl (hp_get sh_49) rfl rfl rfl (Nat.le_of_ble_eq_true rfl) rfl (by decide) (by decide) ?_
    refine aw_aload_n dX8_bid_73 rfl rfl ?_
    refine aw_gR dX8_bid_74 fl_X8_15 sh_49 rfl ?_
    refine aw_iload_n dX8_bid_77 rfl rfl ?_
    refine aw_iload_n dX8_bid_78 rfl rfl ?_
    obtain ⟨hc3, hf⟩ := ax_ite hf
    refine aw_sA dX8_bid_79 sh_51 hc3 ?_
    refine aw_iconst (v := 1) dX8_bid_80 (by decide) ?_
    cases hf
    exact aw_zret dX8_bid_81 (by decide) hq (Nat.le_refl _) (Nat.le_refl _)
  refine aw_aload_n dX8_bid_0 rfl rfl ?_
  refine aw_iload_n dX8_bid_1 rfl rfl ?_
  refine aw_iconst (v := -1) dX8_bid_2 (by decide) ?_
  obtain ⟨p3, hp3, hf⟩ := ax_bind hf
  refine aw_cVi (As := [.int x1, .int (-1 : Int32)]) (st := []) dX8_bid_3 cl_X8_45 iv_X8_leastNet (k_X8_leastNet (Q := (fun v h' => v = some (.int p3.1) ∧ h' = hp p3.2 gb)) x1 (-1 : Int32) s gb hp3 ⟨rfl, rfl⟩) (ci := 8) rfl (hp_get sh_49) rfl rfl rfl (Nat.le_of_ble_eq_true rfl) rfl (by decide) (by decide) ?_
  refine aw_istore_n (L' := [some (.ref 49), some (.int x1), some (.int x2), some (.int p3.1), none, none, none]) dX8_bid_6 rfl (by decide) rfl ?_
  refine aw_iload_n dX8_bid_7 rfl rfl ?_
  refine aw_iconst (v := -1) dX8_bid_8 (by decide) ?_
  refine aw_icmp_ne (tgt := 14) dX8_bid_9 (by decide) (fun hc5 => ?_) (fun hc5 => ?_)
  · have hf := ax_neg hc5 hf
    refine aw_aload_n dX8_bid_14 rfl rfl ?_
    refine aw_iload_n dX8_bid_15 rfl rfl ?_
    refine aw_iload_n dX8_bid_16 rfl rfl ?_
    obtain ⟨p4, hp4, hf⟩ := ax_bind hf
    refine aw_cVi (As := [.int x1, .int p3.1]) (st := []) dX8_bid_17 cl_X8_45 iv_X8_leastNet (k_X8_leastNet (Q := (fun v h' => v = some (.int p4.1) ∧ h' = hp p4.2 gb)) x1 p3.1 p3.2 gb hp4 ⟨rfl, rfl⟩) (ci := 8) rfl (hp_get sh_49) rfl rfl rfl (Nat.le_of_ble_eq_true rfl) rfl (by decide) (by decide) ?_
    refine aw_istore (L' := [some (.ref 49), some (.int x1), some (.int x2), some (.int p3.1), some (.int p4.1), none, none]) dX8_bid_20 (by decide) rfl ?_
    refine aw_iload dX8_bid_22 rfl ?_
    refine aw_iconst (v := -1) dX8_bid_24 (by decide) ?_
    refine aw_icmp_ne (tgt := 34) dX8_bid_25 (by decide) (fun hc4 => ?_) (fun hc4 => ?_)
    · have hf := ax_neg hc4 hf
      refine aw_aload_n dX8_bid_34 rfl rfl ?_
      refine aw_iload_n dX8_bid_35 rfl rfl ?_
      refine aw_iload dX8_bid_36 rfl ?_
      obtain ⟨p5, hp5, hf⟩ := ax_bind hf
      refine aw_cVl (As := [.int x1, .int p4.1]) (st := []) dX8_bid_38 cl_X8_51 iv_X8_net (k_X8_net (Q := (fun v h' => v = some (.long p5.1) ∧ h' = hp p5.2 gb)) x1 p4.1 p4.2 gb hp5 ⟨rfl, rfl⟩) (ci := 8) rfl (hp_get sh_49) rfl rfl rfl (Nat.le_of_ble_eq_true rfl) rfl (by decide) (by decide) ?_
      refine aw_aload_n dX8_bid_41 rfl rfl ?_
      refine aw_iload_n dX8_bid_42 rfl rfl ?_
      refine aw_iload_n dX8_bid_43 rfl rfl ?_
      obtain ⟨p6, hp6, hf⟩ := ax_bind hf
      refine aw_cVl (As := [.int x1, .int p3.1]) (st := [.long p5.1]) dX8_bid_44 cl_X8_51 iv_X8_net (k_X8_net (Q := (fun v h' => v = some (.long p6.1) ∧ h' = hp p6.2 gb)) x1 p3.1 p5.2 gb hp6 ⟨rfl, rfl⟩) (ci := 8) rfl (hp_get sh_49) rfl rfl rfl (Nat.le_of_ble_eq_true rfl) rfl (by decide) (by decide) ?_
      refine aw_lsub dX8_bid_47 ?_
      refine aw_less (L' := [some (.ref 49), some (.int x1), some (.int x2), some (.int p3.1), none, none, none]) (And.intro rfl (And.intro rfl (And.intro rfl (And.intro rfl trivial)))) ?_
      exact J48 x1 x2 p3.1 (p5.1 - p6.1) p6.2 hf
    · have hf := ax_pos hc4 hf
      refine aw_ldc2 dX8_bid_28 kc_X8_49 ?_
      refine aw_goto (tgt := 48) dX8_bid_31 (by decide) ?_
      refine aw_less (L' := [some (.ref 49), some (.int x1), some (.int x2), some (.int p3.1), none, none, none]) (And.intro rfl (And.intro rfl (And.intro rfl (And.intro rfl trivial)))) ?_
      exact J48 x1 x2 p3.1 (1000 : Int64) p4.2 hf
  · have hf := ax_pos hc5 hf
    refine aw_iconst (v := 0) dX8_bid_12 (by decide) ?_
    cases hf
    exact aw_zret dX8_bid_13 (by decide) hq (Nat.le_refl _) (Nat.le_refl _)
noncomputable def f_X8_hold_L4 (z1 : Int32) (a4 : sx_M) : Option ((sx_M) ⊕ (sx_M)) :=
  (if (500 : Int32) ≤ (rI a4 49 5) then
 some (.inr a4)
else
 (if (rI a4 49 4) ≤ 0 then
 some (.inr a4)
else
 (f_X8_bid (rA a4 52 ((0 : Int32)).toNatClampNeg) z1 a4).bind (fun p2 =>
 (if p2.1 = 0 then
 some (.inr p2.2)
else
 some (.inl (wI p2.2 49 5 ((rI p2.2 49 5) + (1 : Int32))))))))
noncomputable def f_X8_hold (x1 : Int32) (s : sx_M) : Option sx_M :=
  (f_X8_open s).bind (fun p1 =>
 (whT (f_X8_hold_L4 x1) p1).bind (fun b3 =>
 some b3))
set_option maxRecDepth 100000 in
set_option maxHeartbeats 4000000 in
theorem k_X8_hold {l : Launch} {X : ax_X} {Q : Option Value → ax_H → Prop} (x1 : Int32) (s : sx_M) (gb : ax_H) {p : sx_M} (hf : f_X8_hold x1 s = some p) (hq : Q (none) (hp p gb)) : AM l X yX8_hold cX8_hold 2 none 4 0 0 [.ref 49, .int x1] (hp s gb) Q := by
  refine aw_met (own := RX8) (nm := "hold") (L := [some (.ref 49), some (.int x1)]) (by decide +kernel) rfl rfl (And.intro rfl (And.intro rfl trivial)) (Nat.le_of_ble_eq_true rfl) ?_
  unfold f_X8_hold at hf
  refine aw_aload_n dX8_hold_0 rfl rfl ?_
  obtain ⟨p1, hp1, hf⟩ := ax_bind hf
  refine aw_cVv (As := []) (st := []) dX8_hold_1 cl_X8_26 iv_X8_open (k_X8_open (Q := (fun v h' => v = none ∧ h' = hp p1 gb)) s gb hp1 ⟨rfl, rfl⟩) (ci := 8) rfl (hp_get sh_49) rfl rfl rfl (Nat.le_of_ble_eq_true rfl) rfl (by decide) (by decide) ?_
  obtain ⟨b3, hb3, hf⟩ := ax_bind hf
  refine wh_go p1 (fun a4 : sx_M => AW l X RX8 "hold" cX8_hold 2 none (ax_rm 4 0 0) (ax_MQ X Q 0 0) 0 0 4 [some (.ref 49), some (.int x1)] [] (hp a4 gb)) (fun e : sx_M => AW l X RX8 "hold" cX8_hold 2 none (ax_rm 4 0 0) (ax_MQ X Q 0 0) 0 0 48 [none, none] [] (hp e gb)) hb3 ?_ ?_
  · intro a4 r hf hK
    unfold f_X8_hold_L4 at hf
    refine aw_aload_n dX8_hold_4 rfl rfl ?_
    refine aw_gI dX8_hold_5 fl_X8_29 sh_49 rfl ?_
    refine aw_sipush (v := 500) dX8_hold_8 (by decide) ?_
    refine aw_icmp_ge (tgt := 48) dX8_hold_11 (by decide) (fun hc3 => ?_) (fun hc3 => ?_)
    · have hf := ax_pos hc3 hf
      refine aw_less (L' := [none, none]) trivial ?_
      cases hf
      exact hK
    · have hf := ax_neg hc3 hf
      refine aw_aload_n dX8_hold_14 rfl rfl ?_
      refine aw_gI dX8_hold_15 fl_X8_33 sh_49 rfl ?_
      refine aw_if_le (tgt := 48) dX8_hold_18 (by decide) (fun hc2 => ?_) (fun hc2 => ?_)
      · have hf := ax_pos hc2 hf
        refine aw_less (L' := [none, none]) trivial ?_
        cases hf
        exact hK
      · have hf := ax_neg hc2 hf
        refine aw_aload_n dX8_hold_21 rfl rfl ?_
        refine aw_aload_n dX8_hold_22 rfl rfl ?_
        refine aw_gR dX8_hold_23 fl_X8_19 sh_49 rfl ?_
        refine aw_iconst (v := 0) dX8_hold_26 (by decide) ?_
        refine aw_lA dX8_hold_27 sh_52 (by decide) ?_
        refine aw_iload_n dX8_hold_28 rfl rfl ?_
        obtain ⟨p2, hp2, hf⟩ := ax_bind hf
        refine aw_cVi (As := [.int (rA a4 52 ((0 : Int32)).toNatClampNeg), .int x1]) (st := []) dX8_hold_29 cl_X8_36 iv_X8_bid (k_X8_bid (Q := (fun v h' => v = some (.int p2.1) ∧ h' = hp p2.2 gb)) (rA a4 52 ((0 : Int32)).toNatClampNeg) x1 a4 gb hp2 ⟨rfl, rfl⟩) (ci := 8) rfl (hp_get sh_49) rfl rfl rfl (Nat.le_of_ble_eq_true rfl) rfl (by decide) (by decide) ?_
        refine aw_if_eq (tgt := 48) dX8_hold_32 (by decide) (fun hc1 => ?_) (fun hc1 => ?_)
        · have hf := ax_pos hc1 hf
          refine aw_less (L' := [none, none]) trivial ?_
          cases hf
          exact hK
        · have hf := ax_neg hc1 hf
          refine aw_aload_n dX8_hold_35 rfl rfl ?_
          refine aw_dup dX8_hold_36 rfl ?_
          refine aw_gI dX8_hold_37 fl_X8_29 sh_49 rfl ?_
          refine aw_iconst (v := 1) dX8_hold_40 (by decide) ?_
          refine aw_iadd dX8_hold_41 ?_
          refine aw_pI dX8_hold_42 fp_X8_29 sh_49 rfl rfl rfl ?_
          refine aw_goto (tgt := 4) dX8_hold_45 (by decide) ?_
          cases hf
          exact hK
  · cases hf
    exact aw_vret dX8_hold_48 hq (Nat.le_refl _) (Nat.le_refl _)
noncomputable def f_X8_total_L4 (a4 : Int64 × Int32 × sx_M) : Option ((Int64 × Int32 × sx_M) ⊕ (Int64 × sx_M)) :=
  (if (rI a4.2.2 3 1) ≤ a4.2.1 then
 some (.inr (a4.1, a4.2.2))
else
 (if ¬ (a4.2.1 < 0 ∨ 7 ≤ (a4.2.1).toNatClampNeg) then
 (if (rA a4.2.2 51 (a4.2.1).toNatClampNeg) = (-1 : Int32) then
 some (.inl (a4.1, (a4.2.1 + (1 : Int32)), a4.2.2))
else
 (if ¬ (a4.2.1 < 0 ∨ 7 ≤ (a4.2.1).toNatClampNeg) then
 (f_X1_at 3 a4.2.1 (rA a4.2.2 51 (a4.2.1).toNatClampNeg) a4.2.2).bind (fun p1 =>
 some (.inl ((a4.1 + p1.1), (a4.2.1 + (1 : Int32)), p1.2)))
else none))
else none))
noncomputable def f_X8_total (s : sx_M) : Option (Int64 × sx_M) :=
  (whT (f_X8_total_L4) ((0 : Int64), (0 : Int32), s)).bind (fun b2 =>
 some (b2.1, b2.2))
set_option maxRecDepth 100000 in
set_option maxHeartbeats 4000000 in
theorem k_X8_total {l : Launch} {X : ax_X} {Q : Option Value → ax_H → Prop} (s : sx_M) (gb : ax_H) {p : Int64 × sx_M} (hf : f_X8_total s = some p) (hq : Q (some (.long p.1)) (hp p.2 gb)) : AM l X yX8_total cX8_total 4 (some .long) 1 0 0 [.ref 49] (hp s gb) Q := by
  refine aw_met (own := RX8) (nm := "total") (L := [some (.ref 49), none, none, none]) (by decide +kernel) rfl rfl (And.intro rfl trivial) (Nat.le_of_ble_eq_true rfl) ?_
  unfold f_X8_total at hf
  refine aw_lconst (v := 0) dX8_total_0 (by decide) ?_
  refine aw_lstore_n (L' := [some (.ref 49), some (.long (0 : Int64)), none, none]) dX8_total_1 rfl (by decide) rfl ?_
  refine aw_iconst (v := 0) dX8_total_2 (by decide) ?_
  refine aw_istore_n (L' := [some (.ref 49), some (.long (0 : Int64)), none, some (.int (0 : Int32))]) dX8_total_3 rfl (by decide) rfl ?_
  obtain ⟨b2, hb2, hf⟩ := ax_bind hf
  refine wh_go ((0 : Int64), (0 : Int32), s) (fun a4 : Int64 × Int32 × sx_M => AW l X RX8 "total" cX8_total 4 (some .long) (ax_rm 1 0 0) (ax_MQ X Q 0 0) 0 0 4 [some (.ref 49), some (.long a4.1), none, some (.int a4.2.1)] [] (hp a4.2.2 gb)) (fun e : Int64 × sx_M => AW l X RX8 "total" cX8_total 4 (some .long) (ax_rm 1 0 0) (ax_MQ X Q 0 0) 0 0 48 [none, some (.long e.1), none, none] [] (hp e.2 gb)) hb2 ?_ ?_
  · intro a4 r hf hK
    unfold f_X8_total_L4 at hf
    refine aw_iload_n dX8_total_4 rfl rfl ?_
    refine aw_aload_n dX8_total_5 rfl rfl ?_
    refine aw_gR dX8_total_6 fl_X8_22 sh_49 rfl ?_
    refine aw_gI dX8_total_9 fl_X8_40 sh_3 rfl ?_
    refine aw_icmp_ge (tgt := 48) dX8_total_12 (by decide) (fun hc4 => ?_) (fun hc4 => ?_)
    · have hf := ax_pos hc4 hf
      refine aw_less (L' := [none, some (.long a4.1), none, none]) (And.intro rfl trivial) ?_
      cases hf
      exact hK
    · have hf := ax_neg hc4 hf
      refine aw_aload_n dX8_total_15 rfl rfl ?_
      refine aw_gR dX8_total_16 fl_X8_15 sh_49 rfl ?_
      refine aw_iload_n dX8_total_19 rfl rfl ?_
      obtain ⟨hc1, hf⟩ := ax_ite hf
      refine aw_lA dX8_total_20 sh_51 hc1 ?_
      refine aw_iconst (v := -1) dX8_total_21 (by decide) ?_
      refine aw_icmp_eq (tgt := 42) dX8_total_22 (by decide) (fun hc3 => ?_) (fun hc3 => ?_)
      · have hf := ax_pos hc3 hf
        refine aw_iinc (v := (a4.2.1 + (1 : Int32))) (L' := [some (.ref 49), some (.long a4.1), none, some (.int (a4.2.1 + (1 : Int32)))]) dX8_total_42 rfl rfl (by decide) rfl ?_
        refine aw_goto (tgt := 4) dX8_total_45 (by decide) ?_
        cases hf
        exact hK
      · have hf := ax_neg hc3 hf
        refine aw_lload_n dX8_total_25 rfl rfl ?_
        refine aw_aload_n dX8_total_26 rfl rfl ?_
        refine aw_gR dX8_total_27 fl_X8_22 sh_49 rfl ?_
        refine aw_iload_n dX8_total_30 rfl rfl ?_
        refine aw_aload_n dX8_total_31 rfl rfl ?_
        refine aw_gR dX8_total_32 fl_X8_15 sh_49 rfl ?_
        refine aw_iload_n dX8_total_35 rfl rfl ?_
        obtain ⟨hc2, hf⟩ := ax_ite hf
        refine aw_lA dX8_total_36 sh_51 hc2 ?_
        obtain ⟨p1, hp1, hf⟩ := ax_bind hf
        refine aw_cVl (As := [.int a4.2.1, .int (rA a4.2.2 51 (a4.2.1).toNatClampNeg)]) (st := [.long a4.1]) dX8_total_37 cl_X8_62 iv_X1_at (k_X1_at (Q := (fun v h' => v = some (.long p1.1) ∧ h' = hp p1.2 gb)) 3 a4.2.1 (rA a4.2.2 51 (a4.2.1).toNatClampNeg) a4.2.2 gb ax_G3 hp1 ⟨rfl, rfl⟩) (ci := 1) rfl (hp_get sh_3) rfl rfl rfl (Nat.le_of_ble_eq_true rfl) rfl (by decide) (by decide) ?_
        refine aw_ladd dX8_total_40 ?_
        refine aw_lstore_n (L' := [some (.ref 49), some (.long (a4.1 + p1.1)), none, some (.int a4.2.1)]) dX8_total_41 rfl (by decide) rfl ?_
        refine aw_iinc (v := (a4.2.1 + (1 : Int32))) (L' := [some (.ref 49), some (.long (a4.1 + p1.1)), none, some (.int (a4.2.1 + (1 : Int32)))]) dX8_total_42 rfl rfl (by decide) rfl ?_
        refine aw_goto (tgt := 4) dX8_total_45 (by decide) ?_
        cases hf
        exact hK
  · refine aw_lload_n dX8_total_48 rfl rfl ?_
    cases hf
    exact aw_lret dX8_total_49 hq (Nat.le_refl _) (Nat.le_refl _)
