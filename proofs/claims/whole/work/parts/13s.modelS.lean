noncomputable def f_X12_isWord_L32 (z1 : UInt32) (a32 : Int32 × Int32 × sx_M) : Option ((Int32 × Int32 × sx_M) ⊕ (Int32 × sx_M)) :=
  (if sx_isS z1 then
 (if (sx_len_s z1) ≤ a32.2.1 then
 some (.inr (a32.1, a32.2.2))
else
 (if a32.1 = 0 then
 some (.inr (a32.1, a32.2.2))
else
 (if ¬ (((rI a32.2.2 58 9) + a32.2.1) < 0 ∨ 600 ≤ (((rI a32.2.2 58 9) + a32.2.1)).toNatClampNeg) then
 (if sx_isS z1 then
 (if ¬ (a32.2.1 < 0 ∨ sx_len_s z1 ≤ a32.2.1) then
 (if (rA a32.2.2 61 (((rI a32.2.2 58 9) + a32.2.1)).toNatClampNeg) = (sx_chr z1 a32.2.1) then
 some (.inl ((1 : Int32), (a32.2.1 + (1 : Int32)), a32.2.2))
else
 some (.inl ((0 : Int32), (a32.2.1 + (1 : Int32)), a32.2.2)))
else none)
else none)
else none)))
else none)
noncomputable def f_X12_isWord_J29 (y1_29 : UInt32) (t0_29 : Int32) (s_29 : sx_M) : Option (Int32 × sx_M) :=
  (whT (f_X12_isWord_L32 y1_29) (t0_29, (0 : Int32), s_29)).bind (fun b1 =>
 (if (b1.1 = 0 ∨ b1.1 = 1) then
 some (b1.1, b1.2)
else none))
noncomputable def f_X12_isWord (x1 : UInt32) (s : sx_M) : Option (Int32 × sx_M) :=
  (if (rI s 58 10) = (1 : Int32) then
 (if sx_isS x1 then
 (if ((rI s 58 8) - (rI s 58 9)) = (sx_len_s x1) then
 f_X12_isWord_J29 x1 (1 : Int32) s
else
 f_X12_isWord_J29 x1 (0 : Int32) s)
else none)
else
 f_X12_isWord_J29 x1 (0 : Int32) s)
set_option maxRecDepth 100000 in
set_option maxHeartbeats 4000000 in
theorem k_X12_isWord {l : Launch} {X : ax_X} {Q : Option Value → ax_H → Prop} (x1 : UInt32) (s : sx_M) (gb : ax_H) {p : Int32 × sx_M} (hf : f_X12_isWord x1 s = some p) (hq : Q (some (.int p.1)) (hp p.2 gb)) : AM l X yX12_isWord cX12_isWord 4 (some .boolean) 4 0 0 [.ref 58, .float x1] (hp s gb) Q := by
  refine aw_met (own := RX12) (nm := "isWord") (L := [some (.ref 58), some (.float x1), none, none]) (by decide +kernel) rfl rfl (And.intro rfl (And.intro rfl trivial)) (Nat.le_of_ble_eq_true rfl) ?_
  unfold f_X12_isWord at hf
  have J29 : ∀ (y1_29 : UInt32) (t0_29 : Int32) (s_29 : sx_M), f_X12_isWord_J29 y1_29 t0_29 s_29 = some p → AW l X RX12 "isWord" cX12_isWord 4 (some .boolean) (ax_rm 4 0 0) (ax_MQ X Q 0 0) 0 0 29 [some (.ref 58), some (.float y1_29), none, none] [.int t0_29] (hp s_29 gb) := by
    intro y1_29 t0_29 s_29 hf
    unfold f_X12_isWord_J29 at hf
    refine aw_istore_n (L' := [some (.ref 58), some (.float y1_29), some (.int t0_29), none]) dX12_isWord_29 rfl (by decide) rfl ?_
    refine aw_iconst (v := 0) dX12_isWord_30 (by decide) ?_
    refine aw_istore_n (L' := [some (.ref 58), some (.float y1_29), some (.int t0_29), some (.int (0 : Int32))]) dX12_isWord_31 rfl (by decide) rfl ?_
    obtain ⟨b1, hb1, hf⟩ := ax_bind hf
    refine wh_go (t0_29, (0 : Int32), s_29) (fun a32 : Int32 × Int32 × sx_M => AW l X RX12 "isWord" cX12_isWord 4 (some .boolean) (ax_rm 4 0 0) (ax_MQ X Q 0 0) 0 0 32 [some (.ref 58), some (.float y1_29), some (.int a32.1), some (.int a32.2.1)] [] (hp a32.2.2 gb)) (fun e : Int32 × sx_M => AW l X RX12 "isWord" cX12_isWord 4 (some .boolean) (ax_rm 4 0 0) (ax_MQ X Q 0 0) 0 0 75 [none, none, some (.int e.1), none] [] (hp e.2 gb)) hb1 ?_ ?_
    · intro a32 r hf hK
      unfold f_X12_isWord_L32 at hf
      refine aw_iload_n dX12_isWord_32 rfl rfl ?_
      refine aw_aload_nX dX12_isWord_33 rfl rfl ?_
      obtain ⟨hc1, hf⟩ := ax_ite hf
      refine aw_slen (st := [.int a32.2.1]) dX12_isWord_34 cl_X12_109 hc1 (Nat.le_of_ble_eq_true rfl) rfl (by decide) ?_
      refine aw_icmp_ge (tgt := 75) dX12_isWord_37 (by decide) (fun hc7 => ?_) (fun hc7 => ?_)
      · have hf := ax_pos hc7 hf
        refine aw_less (L' := [none, none, some (.int a32.1), none]) (And.intro rfl trivial) ?_
        cases hf
        exact hK
      · have hf := ax_neg hc7 hf
        refine aw_iload_n dX12_isWord_40 rfl rfl ?_
        refine aw_if_eq (tgt := 75) dX12_isWord_41 (by decide) (fun hc6 => ?_) (fun hc6 => ?_)
        · have hf := ax_pos hc6 hf
          refine aw_less (L' := [none, none, some (.int a32.1), none]) (And.intro rfl trivial) ?_
          cases hf
          exact hK
        · have hf := ax_neg hc6 hf
          refine aw_aload_n dX12_isWord_44 rfl rfl ?_
          refine aw_gR dX12_isWord_45 fl_X12_20 sh_58 rfl ?_
          refine aw_aload_n dX12_isWord_48 rfl rfl ?_
          refine aw_gI dX12_isWord_49 fl_X12_85 sh_58 rfl ?_
          refine aw_iload_n dX12_isWord_52 rfl rfl ?_
          refine aw_iadd dX12_isWord_53 ?_
          obtain ⟨hc2, hf⟩ := ax_ite hf
          refine aw_lA dX12_isWord_54 sh_61 hc2 ?_
          refine aw_aload_nX dX12_isWord_55 rfl rfl ?_
          refine aw_iload_n dX12_isWord_56 rfl rfl ?_
          obtain ⟨hc3, hf⟩ := ax_ite hf
          obtain ⟨hc4, hf⟩ := ax_ite hf
          refine aw_schar (st := [.int (rA a32.2.2 61 (((rI a32.2.2 58 9) + a32.2.1)).toNatClampNeg)]) dX12_isWord_57 cl_X12_114 hc3 hc4 (Nat.le_of_ble_eq_true rfl) rfl (by decide) ?_
          refine aw_icmp_ne (tgt := 67) dX12_isWord_60 (by decide) (fun hc5 => ?_) (fun hc5 => ?_)
          · have hf := ax_neg hc5 hf
            refine aw_iconst (v := 0) dX12_isWord_67 (by decide) ?_
            refine aw_istore_n (L' := [some (.ref 58), some (.float y1_29), some (.int (0 : Int32)), some (.int a32.2.1)]) dX12_isWord_68 rfl (by decide) rfl ?_
            refine aw_iinc (v := (a32.2.1 + (1 : Int32))) (L' := [some (.ref 58), some (.float y1_29), some (.int (0 : Int32)), some (.int (a32.2.1 + (1 : Int32)))]) dX12_isWord_69 rfl rfl (by decide) rfl ?_
            refine aw_goto (tgt := 32) dX12_isWord_72 (by decide) ?_
            cases hf
            exact hK
          · have hf := ax_pos hc5 hf
            refine aw_iconst (v := 1) dX12_isWord_63 (by decide) ?_
            refine aw_goto (tgt := 68) dX12_isWord_64 (by decide) ?_
            refine aw_istore_n (L' := [some (.ref 58), some (.float y1_29), some (.int (1 : Int32)), some (.int a32.2.1)]) dX12_isWord_68 rfl (by decide) rfl ?_
            refine aw_iinc (v := (a32.2.1 + (1 : Int32))) (L' := [some (.ref 58), some (.float y1_29), some (.int (1 : Int32)), some (.int (a32.2.1 + (1 : Int32)))]) dX12_isWord_69 rfl rfl (by decide) rfl ?_
            refine aw_goto (tgt := 32) dX12_isWord_72 (by decide) ?_
            cases hf
            exact hK
    · refine aw_iload_n dX12_isWord_75 rfl rfl ?_
      obtain ⟨hc8, hf⟩ := ax_ite hf
      cases hf
      exact aw_zret dX12_isWord_76 (ax_nb hc8) hq (Nat.le_refl _) (Nat.le_refl _)
  refine aw_aload_n dX12_isWord_0 rfl rfl ?_
  refine aw_gI dX12_isWord_1 fl_X12_91 sh_58 rfl ?_
  refine aw_iconst (v := 1) dX12_isWord_4 (by decide) ?_
  refine aw_icmp_ne (tgt := 28) dX12_isWord_5 (by decide) (fun hc11 => ?_) (fun hc11 => ?_)
  · have hf := ax_neg hc11 hf
    refine aw_iconst (v := 0) dX12_isWord_28 (by decide) ?_
    exact J29 x1 (0 : Int32) s hf
  · have hf := ax_pos hc11 hf
    refine aw_aload_n dX12_isWord_8 rfl rfl ?_
    refine aw_gI dX12_isWord_9 fl_X12_78 sh_58 rfl ?_
    refine aw_aload_n dX12_isWord_12 rfl rfl ?_
    refine aw_gI dX12_isWord_13 fl_X12_85 sh_58 rfl ?_
    refine aw_isub dX12_isWord_16 ?_
    refine aw_aload_nX dX12_isWord_17 rfl rfl ?_
    obtain ⟨hc9, hf⟩ := ax_ite hf
    refine aw_slen (st := [.int ((rI s 58 8) - (rI s 58 9))]) dX12_isWord_18 cl_X12_109 hc9 (Nat.le_of_ble_eq_true rfl) rfl (by decide) ?_
    refine aw_icmp_ne (tgt := 28) dX12_isWord_21 (by decide) (fun hc10 => ?_) (fun hc10 => ?_)
    · have hf := ax_neg hc10 hf
      refine aw_iconst (v := 0) dX12_isWord_28 (by decide) ?_
      exact J29 x1 (0 : Int32) s hf
    · have hf := ax_pos hc10 hf
      refine aw_iconst (v := 1) dX12_isWord_24 (by decide) ?_
      refine aw_goto (tgt := 29) dX12_isWord_25 (by decide) ?_
      exact J29 x1 (1 : Int32) s hf
noncomputable def f_X12_readsCost_J128 (y3_128 : Int32) (y4_128 : Int32) (s_128 : sx_M) : Option sx_M :=
  (f_X12_number (0 : Int32) (9999 : Int32) s_128).bind (fun p1 =>
 (if y3_128 = 0 then
 (if ¬ (y4_128 < 0 ∨ 58 ≤ (y4_128).toNatClampNeg) then
 some (wA p1.2 62 (y4_128).toNatClampNeg p1.1)
else none)
else
 (if ¬ (y4_128 < 0 ∨ 58 ≤ (y4_128).toNatClampNeg) then
 some (wA p1.2 62 (y4_128).toNatClampNeg (-p1.1))
else none)))
noncomputable def f_X12_readsCost_J82 (y1_82 : Int32) (y2_82 : Int32) (y3_82 : Int32) (s_82 : sx_M) : Option sx_M :=
  (if (rI s_82 58 12) = 0 then
 (f_X12_placeOf (rA s_82 62 ((0 : Int32)).toNatClampNeg) y1_82 s_82).bind (fun p2 =>
 (if y2_82 = 0 then
 (if y3_82 = 0 then
 f_X12_readsCost_J128 y3_82 p2.1 p2.2
else
 (f_X12_next p2.2).bind (fun p3 =>
 f_X12_readsCost_J128 y3_82 p2.1 p3))
else
 (if ¬ (p2.1 < 0 ∨ 58 ≤ (p2.1).toNatClampNeg) then
 (f_X12_next (wA p2.2 62 (p2.1).toNatClampNeg (2147483647 : Int32))).bind (fun p4 =>
 some p4)
else none)))
else
 some s_82)
noncomputable def f_X12_readsCost_J79 (y1_79 : Int32) (y2_79 : Int32) (y3_79 : Int32) (t1_79 : Int32) (s_79 : sx_M) : Option sx_M :=
  (f_X12_faults t1_79 s_79).bind (fun p5 =>
 f_X12_readsCost_J82 y1_79 y2_79 y3_79 p5)
noncomputable def f_X12_readsCost_J45 (y1_45 : Int32) (y2_45 : Int32) (y3_45 : Int32) (s_45 : sx_M) : Option sx_M :=
  (if y1_45 = (rA s_45 62 ((1 : Int32)).toNatClampNeg) then
 (if (rI s_45 58 10) = (2 : Int32) then
 (if (rI s_45 58 11) ≤ (9999 : Int32) then
 f_X12_readsCost_J79 y1_45 y2_45 y3_45 (3 : Int32) s_45
else
 f_X12_readsCost_J79 y1_45 y2_45 y3_45 (2 : Int32) s_45)
else
 f_X12_readsCost_J79 y1_45 y2_45 y3_45 (3 : Int32) s_45)
else
 f_X12_readsCost_J82 y1_45 y2_45 y3_45 s_45)
noncomputable def f_X12_readsCost_J20 (y1_20 : Int32) (y2_20 : Int32) (t0_20 : Int32) (s_20 : sx_M) : Option sx_M :=
  (if y2_20 = 0 then
 (if t0_20 = 0 then
 (if (rI s_20 58 10) = (2 : Int32) then
 f_X12_readsCost_J45 y1_20 y2_20 t0_20 s_20
else
 (f_X12_faults (1 : Int32) s_20).bind (fun p6 =>
 f_X12_readsCost_J82 y1_20 y2_20 t0_20 p6))
else
 f_X12_readsCost_J45 y1_20 y2_20 t0_20 s_20)
else
 f_X12_readsCost_J45 y1_20 y2_20 t0_20 s_20)
noncomputable def f_X12_readsCost (x1 : Int32) (s : sx_M) : Option sx_M :=
  (f_X12_isWord (3 : UInt32) s).bind (fun p7 =>
 (if (rI p7.2 58 10) = (5 : Int32) then
 f_X12_readsCost_J20 x1 p7.1 (1 : Int32) p7.2
else
 f_X12_readsCost_J20 x1 p7.1 (0 : Int32) p7.2))
set_option maxRecDepth 100000 in
set_option maxHeartbeats 4000000 in
theorem k_X12_readsCost {l : Launch} {X : ax_X} {Q : Option Value → ax_H → Prop} (x1 : Int32) (s : sx_M) (gb : ax_H) {p : sx_M} (hf : f_X12_readsCost x1 s = some p) (hq : Q (none) (hp p gb)) : AM l X yX12_readsCost cX12_readsCost 6 none 5 0 0 [.ref 58, .int x1] (hp s gb) Q := by
  refine aw_met (own := RX12) (nm := "readsCost") (L := [some (.ref 58), some (.int x1), none, none, none, none]) (by decide +kernel) rfl rfl (And.intro rfl (And.intro rfl trivial)) (Nat.le_of_ble_eq_true rfl) ?_
  unfold f_X12_readsCost at hf
  have J128 : ∀ (y3_128 : Int32) (y4_128 : Int32) (s_128 : sx_M), f_X12_readsCost_J128 y3_128 y4_128 s_128 = some p → AW l X RX12 "readsCost" cX12_readsCost 6 none (ax_rm 5 0 0) (ax_MQ X Q 0 0) 0 0 128 [some (.ref 58), none, none, some (.int y3_128), some (.int y4_128), none] [] (hp s_128 gb) := by
    intro y3_128 y4_128 s_128 hf
    unfold f_X12_readsCost_J128 at hf
    refine aw_aload_n dX12_readsCost_128 rfl rfl ?_
    refine aw_iconst (v := 0) dX12_readsCost_129 (by decide) ?_
    refine aw_sipush (v := 9999) dX12_readsCost_130 (by decide) ?_
    obtain ⟨p1, hp1, hf⟩ := ax_bind hf
    refine aw_cVi (As := [.int (0 : Int32), .int (9999 : Int32)]) (st := []) dX12_readsCost_133 cl_X12_132 iv_X12_number (k_X12_number (Q := (fun v h' => v = some (.int p1.1) ∧ h' = hp p1.2 gb)) (0 : Int32) (9999 : Int32) s_128 gb hp1 ⟨rfl, rfl⟩) (ci := 12) rfl (hp_get sh_58) rfl rfl rfl (Nat.le_of_ble_eq_true rfl) rfl (by decide) (by decide) ?_
    refine aw_istore (L' := [some (.ref 58), none, none, some (.int y3_128), some (.int y4_128), some (.int p1.1)]) dX12_readsCost_136 (by decide) rfl ?_
    refine aw_aload_n dX12_readsCost_138 rfl rfl ?_
    refine aw_gR dX12_readsCost_139 fl_X12_27 sh_58 rfl ?_
    refine aw_iload dX12_readsCost_142 rfl ?_
    refine aw_iload_n dX12_readsCost_144 rfl rfl ?_
    refine aw_if_eq (tgt := 154) dX12_readsCost_145 (by decide) (fun hc3 => ?_) (fun hc3 => ?_)
    · have hf := ax_pos hc3 hf
      refine aw_iload dX12_readsCost_154 rfl ?_
      obtain ⟨hc1, hf⟩ := ax_ite hf
      refine aw_sA dX12_readsCost_156 sh_62 hc1 ?_
      cases hf
      exact aw_vret dX12_readsCost_157 hq (Nat.le_refl _) (Nat.le_refl _)
    · have hf := ax_neg hc3 hf
      refine aw_iload dX12_readsCost_148 rfl ?_
      refine aw_ineg dX12_readsCost_150 ?_
      refine aw_goto (tgt := 156) dX12_readsCost_151 (by decide) ?_
      obtain ⟨hc2, hf⟩ := ax_ite hf
      refine aw_sA dX12_readsCost_156 sh_62 hc2 ?_
      cases hf
      exact aw_vret dX12_readsCost_157 hq (Nat.le_refl _) (Nat.le_refl _)
  have J82 : ∀ (y1_82 : Int32) (y2_82 : Int32) (y3_82 : Int32) (s_82 : sx_M), f_X12_readsCost_J82 y1_82 y2_82 y3_82 s_82 = some p → AW l X RX12 "readsCost" cX12_readsCost 6 none (ax_rm 5 0 0) (ax_MQ X Q 0 0) 0 0 82 [some (.ref 58), some (.int y1_82), some (.int y2_82), some (.int y3_82), none, none] [] (hp s_82 gb) := by
    intro y1_82 y2_82 y3_82 s_82 hf
    unfold f_X12_readsCost_J82 at hf
    refine aw_aload_n dX12_readsCost_82 rfl rfl ?_
    refine aw_gI dX12_readsCost_83 fl_X12_99 sh_58 rfl ?_
    refine aw_if_eq (tgt := 90) dX12_readsCost_86 (by decide) (fun hc7 => ?_) (fun hc7 => ?_)
    · have hf := ax_pos hc7 hf
      refine aw_aload_n dX12_readsCost_90 rfl rfl ?_
      refine aw_gR dX12_readsCost_91 fl_X12_27 sh_58 rfl ?_
      refine aw_iconst (v := 0) dX12_readsCost_94 (by decide) ?_
      refine aw_lA dX12_readsCost_95 sh_62 (by decide) ?_
      refine aw_iload_n dX12_readsCost_96 rfl rfl ?_
      obtain ⟨p2, hp2, hf⟩ := ax_bind hf
      refine aw_cSi (As := [.int (rA s_82 62 ((0 : Int32)).toNatClampNeg), .int y1_82]) (st := []) dX12_readsCost_97 cl_X12_56 st_X12_placeOf (k_X12_placeOf (Q := (fun v h' => v = some (.int p2.1) ∧ h' = hp p2.2 gb)) (rA s_82 62 ((0 : Int32)).toNatClampNeg) y1_82 s_82 gb hp2 ⟨rfl, rfl⟩) rfl rfl (Nat.le_of_ble_eq_true rfl) rfl (by decide) (by decide) ?_
      refine aw_istore (L' := [some (.ref 58), some (.int y1_82), some (.int y2_82), some (.int y3_82), some (.int p2.1), none]) dX12_readsCost_100 (by decide) rfl ?_
      refine aw_iload_n dX12_readsCost_102 rfl rfl ?_
      refine aw_if_eq (tgt := 120) dX12_readsCost_103 (by decide) (fun hc6 => ?_) (fun hc6 => ?_)
      · have hf := ax_pos hc6 hf
        refine aw_iload_n dX12_readsCost_120 rfl rfl ?_
        refine aw_if_eq (tgt := 128) dX12_readsCost_121 (by decide) (fun hc4 => ?_) (fun hc4 => ?_)
        · have hf := ax_pos hc4 hf
          refine aw_less (L' := [some (.ref 58), none, none, some (.int y3_82), some (.int p2.1), none]) (And.intro rfl (And.intro rfl (And.intro rfl trivial))) ?_
          exact J128 y3_82 p2.1 p2.2 hf
        · have hf := ax_neg hc4 hf
          refine aw_aload_n dX12_readsCost_124 rfl rfl ?_
          obtain ⟨p3, hp3, hf⟩ := ax_bind hf
          refine aw_cVv (As := []) (st := []) dX12_readsCost_125 cl_X12_106 iv_X12_next (k_X12_next (Q := (fun v h' => v = none ∧ h' = hp p3 gb)) p2.2 gb hp3 ⟨rfl, rfl⟩) (ci := 12) rfl (hp_get sh_58) rfl rfl rfl (Nat.le_of_ble_eq_true rfl) rfl (by decide) (by decide) ?_
          refine aw_less (L' := [some (.ref 58), none, none, some (.int y3_82), some (.int p2.1), none]) (And.intro rfl (And.intro rfl (And.intro rfl trivial))) ?_
          exact J128 y3_82 p2.1 p3 hf
      · have hf := ax_neg hc6 hf
        refine aw_aload_n dX12_readsCost_106 rfl rfl ?_
        refine aw_gR dX12_readsCost_107 fl_X12_27 sh_58 rfl ?_
        refine aw_iload dX12_readsCost_110 rfl ?_
        refine aw_ldc dX12_readsCost_112 kc_X12_131 ?_
        obtain ⟨hc5, hf⟩ := ax_ite hf
        refine aw_sA dX12_readsCost_114 sh_62 hc5 ?_
        refine aw_aload_n dX12_readsCost_115 rfl rfl ?_
        obtain ⟨p4, hp4, hf⟩ := ax_bind hf
        refine aw_cVv (As := []) (st := []) dX12_readsCost_116 cl_X12_106 iv_X12_next (k_X12_next (Q := (fun v h' => v = none ∧ h' = hp p4 gb)) (wA p2.2 62 (p2.1).toNatClampNeg (2147483647 : Int32)) gb hp4 ⟨rfl, rfl⟩) (ci := 12) rfl (hp_get sh_58) rfl rfl rfl (Nat.le_of_ble_eq_true rfl) rfl (by decide) (by decide) ?_
        cases hf
        exact aw_vret dX12_readsCost_119 hq (Nat.le_refl _) (Nat.le_refl _)
    · have hf := ax_neg hc7 hf
      cases hf
      exact aw_vret dX12_readsCost_89 hq (Nat.le_refl _) (Nat.le_refl _)
  have J79 : ∀ (y1_79 : Int32) (y2_79 : Int32) (y3_79 : Int32) (t1_79 : Int32) (s_79 : sx_M), f_X12_readsCost_J79 y1_79 y2_79 y3_79 t1_79 s_79 = some p → AW l X RX12 "readsCost" cX12_readsCost 6 none (ax_rm 5 0 0) (ax_MQ X Q 0 0) 0 0 79 [some (.ref 58), some (.int y1_79), some (.int y2_79), some (.int y3_79), none, none] [.int t1_79, .ref 58] (hp s_79 gb) := by
    intro y1_79 y2_79 y3_79 t1_79 s_79 hf
    unfold f_X12_readsCost_J79 at hf
    obtain ⟨p5, hp5, hf⟩ := ax_bind hf
    refine aw_cVv (As := [.int t1_79]) (st := []) dX12_readsCost_79 cl_X12_118 iv_X12_faults (k_X12_faults (Q := (fun v h' => v = none ∧ h' = hp p5 gb)) t1_79 s_79 gb hp5 ⟨rfl, rfl⟩) (ci := 12) rfl (hp_get sh_58) rfl rfl rfl (Nat.le_of_ble_eq_true rfl) rfl (by decide) (by decide) ?_
    exact J82 y1_79 y2_79 y3_79 p5 hf
  have J45 : ∀ (y1_45 : Int32) (y2_45 : Int32) (y3_45 : Int32) (s_45 : sx_M), f_X12_readsCost_J45 y1_45 y2_45 y3_45 s_45 = some p → AW l X RX12 "readsCost" cX12_readsCost 6 none (ax_rm 5 0 0) (ax_MQ X Q 0 0) 0 0 45 [some (.ref 58), some (.int y1_45), some (.int y2_45), some (.int y3_45), none, none] [] (hp s_45 gb) := by
    intro y1_45 y2_45 y3_45 s_45 hf
    unfold f_X12_readsCost_J45 at hf
    refine aw_iload_n dX12_readsCost_45 rfl rfl ?_
    refine aw_aload_n dX12_readsCost_46 rfl rfl ?_
    refine aw_gR dX12_readsCost_47 fl_X12_27 sh_58 rfl ?_
    refine aw_iconst (v := 1) dX12_readsCost_50 (by decide) ?_
    refine aw_lA dX12_readsCost_51 sh_62 (by decide) ?_
    refine aw_icmp_ne (tgt := 82) dX12_readsCost_52 (by decide) (fun hc10 => ?_) (fun hc10 => ?_)
    · have hf := ax_neg hc10 hf
      exact J82 y1_45 y2_45 y3_45 s_45 hf
    · have hf := ax_pos hc10 hf
      refine aw_aload_n dX12_readsCost_55 rfl rfl ?_
      refine aw_aload_n dX12_readsCost_56 rfl rfl ?_
      refine aw_gI dX12_readsCost_57 fl_X12_91 sh_58 rfl ?_
      refine aw_iconst (v := 2) dX12_readsCost_60 (by decide) ?_
      refine aw_icmp_ne (tgt := 78) dX12_readsCost_61 (by decide) (fun hc9 => ?_) (fun hc9 => ?_)
      · have hf := ax_neg hc9 hf
        refine aw_iconst (v := 3) dX12_readsCost_78 (by decide) ?_
        exact J79 y1_45 y2_45 y3_45 (3 : Int32) s_45 hf
      · have hf := ax_pos hc9 hf
        refine aw_aload_n dX12_readsCost_64 rfl rfl ?_
        refine aw_gI dX12_readsCost_65 fl_X12_88 sh_58 rfl ?_
        refine aw_sipush (v := 9999) dX12_readsCost_68 (by decide) ?_
        refine aw_icmp_le (tgt := 78) dX12_readsCost_71 (by decide) (fun hc8 => ?_) (fun hc8 => ?_)
        · have hf := ax_pos hc8 hf
          refine aw_iconst (v := 3) dX12_readsCost_78 (by decide) ?_
          exact J79 y1_45 y2_45 y3_45 (3 : Int32) s_45 hf
        · have hf := ax_neg hc8 hf
          refine aw_iconst (v := 2) dX12_readsCost_74 (by decide) ?_
          refine aw_goto (tgt := 79) dX12_readsCost_75 (by decide) ?_
          exact J79 y1_45 y2_45 y3_45 (2 : Int32) s_45 hf
  have J20 : ∀ (y1_20 : Int32) (y2_20 : Int32) (t0_20 : Int32) (s_20 : sx_M), f_X12_readsCost_J20 y1_20 y2_20 t0_20 s_20 = some p → AW l X RX12 "readsCost" cX12_readsCost 6 none (ax_rm 5 0 0) (ax_MQ X Q 0 0) 0 0 20 [some (.ref 58), some (.int y1_20), some (.int y2_20), none, none, none] [.int t0_20] (hp s_20 gb) := by
    intro y1_20 y2_20 t0_20 s_20 hf
    unfold f_X12_readsCost_J20 at hf
    refine aw_istore_n (L' := [some (.ref 58), some (.int y1_20), some (.int y2_20), some (.int t0_20), none, none]) dX12_readsCost_20 rfl (by decide) rfl ?_
    refine aw_iload_n dX12_readsCost_21 rfl rfl ?_
    refine aw_if_ne (tgt := 45) dX12_readsCost_22 (by decide) (fun hc13 => ?_) (fun hc13 => ?_)
    · have hf := ax_neg hc13 hf
      exact J45 y1_20 y2_20 t0_20 s_20 hf
    · have hf := ax_pos hc13 hf
      refine aw_iload_n dX12_readsCost_25 rfl rfl ?_
      refine aw_if_ne (tgt := 45) dX12_readsCost_26 (by decide) (fun hc12 => ?_) (fun hc12 => ?_)
      · have hf := ax_neg hc12 hf
        exact J45 y1_20 y2_20 t0_20 s_20 hf
      · have hf := ax_pos hc12 hf
        refine aw_aload_n dX12_readsCost_29 rfl rfl ?_
        refine aw_gI dX12_readsCost_30 fl_X12_91 sh_58 rfl ?_
        refine aw_iconst (v := 2) dX12_readsCost_33 (by decide) ?_
        refine aw_icmp_eq (tgt := 45) dX12_readsCost_34 (by decide) (fun hc11 => ?_) (fun hc11 => ?_)
        · have hf := ax_pos hc11 hf
          exact J45 y1_20 y2_20 t0_20 s_20 hf
        · have hf := ax_neg hc11 hf
          refine aw_aload_n dX12_readsCost_37 rfl rfl ?_
          refine aw_iconst (v := 1) dX12_readsCost_38 (by decide) ?_
          obtain ⟨p6, hp6, hf⟩ := ax_bind hf
          refine aw_cVv (As := [.int (1 : Int32)]) (st := []) dX12_readsCost_39 cl_X12_118 iv_X12_faults (k_X12_faults (Q := (fun v h' => v = none ∧ h' = hp p6 gb)) (1 : Int32) s_20 gb hp6 ⟨rfl, rfl⟩) (ci := 12) rfl (hp_get sh_58) rfl rfl rfl (Nat.le_of_ble_eq_true rfl) rfl (by decide) (by decide) ?_
          refine aw_goto (tgt := 82) dX12_readsCost_42 (by decide) ?_
          exact J82 y1_20 y2_20 t0_20 p6 hf
  refine aw_aload_n dX12_readsCost_0 rfl rfl ?_
  refine aw_ldcS 3 dX12_readsCost_1 sr_X12_125 (by decide) ?_
  obtain ⟨p7, hp7, hf⟩ := ax_bind hf
  refine aw_cVi (As := [.float (3 : UInt32)]) (st := []) dX12_readsCost_3 cl_X12_127 iv_X12_isWord (k_X12_isWord (Q := (fun v h' => v = some (.int p7.1) ∧ h' = hp p7.2 gb)) (3 : UInt32) s gb hp7 ⟨rfl, rfl⟩) (ci := 12) rfl (hp_get sh_58) rfl rfl rfl (Nat.le_of_ble_eq_true rfl) rfl (by decide) (by decide) ?_
  refine aw_istore_n (L' := [some (.ref 58), some (.int x1), some (.int p7.1), none, none, none]) dX12_readsCost_6 rfl (by decide) rfl ?_
  refine aw_aload_n dX12_readsCost_7 rfl rfl ?_
  refine aw_gI dX12_readsCost_8 fl_X12_91 sh_58 rfl ?_
  refine aw_iconst (v := 5) dX12_readsCost_11 (by decide) ?_
  refine aw_icmp_ne (tgt := 19) dX12_readsCost_12 (by decide) (fun hc14 => ?_) (fun hc14 => ?_)
  · have hf := ax_neg hc14 hf
    refine aw_iconst (v := 0) dX12_readsCost_19 (by decide) ?_
    exact J20 x1 p7.1 (0 : Int32) p7.2 hf
  · have hf := ax_pos hc14 hf
    refine aw_iconst (v := 1) dX12_readsCost_15 (by decide) ?_
    refine aw_goto (tgt := 20) dX12_readsCost_16 (by decide) ?_
    exact J20 x1 p7.1 (1 : Int32) p7.2 hf
noncomputable def f_X12_readsWorker_J134 (s_134 : sx_M) : Option sx_M :=
  (f_X12_passes s_134).bind (fun p1 =>
 some (wA p1 62 ((0 : Int32)).toNatClampNeg ((rA p1 62 ((0 : Int32)).toNatClampNeg) + (1 : Int32))))
noncomputable def f_X12_readsWorker_J112 (y1_112 : Int32) (s_112 : sx_M) : Option sx_M :=
  (if (rI s_112 58 12) = 0 then
 (if (rA s_112 62 ((1 : Int32)).toNatClampNeg) ≤ y1_112 then
 f_X12_readsWorker_J134 s_112
else
 (f_X12_faults (4 : Int32) s_112).bind (fun p2 =>
 f_X12_readsWorker_J134 p2))
else
 f_X12_readsWorker_J134 s_112)
noncomputable def f_X12_readsWorker_L41_J80 (y1_80 : Int32) (t0_80 : Int32) (s_80 : sx_M) : Option ((Int32 × Int32 × sx_M) ⊕ (Int32 × sx_M)) :=
  (if t0_80 = 0 then
 some (.inl (y1_80, t0_80, s_80))
else
 (f_X12_next s_80).bind (fun p4 =>
 some (.inl (y1_80, t0_80, p4))))
noncomputable def f_X12_readsWorker_L41 (a41 : Int32 × Int32 × sx_M) : Option ((Int32 × Int32 × sx_M) ⊕ (Int32 × sx_M)) :=
  (if a41.2.1 = 0 then
 some (.inr (a41.1, a41.2.2))
else
 (if (rI a41.2.2 58 12) = 0 then
 (f_X12_readsCost a41.1 a41.2.2).bind (fun p5 =>
 (if (rI p5 58 12) = 0 then
 (if (rI p5 58 10) = (4 : Int32) then
 f_X12_readsWorker_L41_J80 (a41.1 + (1 : Int32)) (1 : Int32) p5
else
 f_X12_readsWorker_L41_J80 (a41.1 + (1 : Int32)) (0 : Int32) p5)
else
 f_X12_readsWorker_L41_J80 (a41.1 + (1 : Int32)) (0 : Int32) p5))
else
 some (.inr (a41.1, a41.2.2))))
noncomputable def f_X12_readsWorker_J33 (s_33 : sx_M) : Option sx_M :=
  (f_X12_passes s_33).bind (fun p3 =>
 (whT (f_X12_readsWorker_L41) ((0 : Int32), (1 : Int32), p3)).bind (fun b6 =>
 (if (rI b6.2 58 12) = 0 then
 (if (rI b6.2 58 10) = (3 : Int32) then
 f_X12_readsWorker_J112 b6.1 b6.2
else
 (f_X12_faults (1 : Int32) b6.2).bind (fun p7 =>
 f_X12_readsWorker_J112 b6.1 p7))
else
 f_X12_readsWorker_J112 b6.1 b6.2)))
noncomputable def f_X12_readsWorker (s : sx_M) : Option sx_M :=
  (f_X12_isWord (2 : UInt32) s).bind (fun p8 =>
 (if p8.1 = 0 then
 (f_X12_faults (1 : Int32) p8.2).bind (fun p10 =>
 f_X12_readsWorker_J33 p10)
else
 (if (rA p8.2 62 ((0 : Int32)).toNatClampNeg) = (7 : Int32) then
 (f_X12_faults (3 : Int32) p8.2).bind (fun p9 =>
 f_X12_readsWorker_J33 p9)
else
 f_X12_readsWorker_J33 p8.2)))
set_option maxRecDepth 100000 in
set_option maxHeartbeats 4000000 in
theorem k_X12_readsWorker {l : Launch} {X : ax_X} {Q : Option Value → ax_H → Prop} (s : sx_M) (gb : ax_H) {p : sx_M} (hf : f_X12_readsWorker s = some p) (hq : Q (none) (hp p gb)) : AM l X yX12_readsWorker cX12_readsWorker 3 none 6 0 0 [.ref 58] (hp s gb) Q := by
  refine aw_met (own := RX12) (nm := "readsWorker") (L := [some (.ref 58), none, none]) (by decide +kernel) rfl rfl (And.intro rfl trivial) (Nat.le_of_ble_eq_true rfl) ?_
  unfold f_X12_readsWorker at hf
  have J134 : ∀ (s_134 : sx_M), f_X12_readsWorker_J134 s_134 = some p → AW l X RX12 "readsWorker" cX12_readsWorker 3 none (ax_rm 6 0 0) (ax_MQ X Q 0 0) 0 0 134 [some (.ref 58), none, none] [] (hp s_134 gb) := by
    intro s_134 hf
    unfold f_X12_readsWorker_J134 at hf
    refine aw_aload_n dX12_readsWorker_134 rfl rfl ?_
    obtain ⟨p1, hp1, hf⟩ := ax_bind hf
    refine aw_cVv (As := []) (st := []) dX12_readsWorker_135 cl_X12_122 iv_X12_passes (k_X12_passes (Q := (fun v h' => v = none ∧ h' = hp p1 gb)) s_134 gb hp1 ⟨rfl, rfl⟩) (ci := 12) rfl (hp_get sh_58) rfl rfl rfl (Nat.le_of_ble_eq_true rfl) rfl (by decide) (by decide) ?_
    refine aw_aload_n dX12_readsWorker_138 rfl rfl ?_
    refine aw_gR dX12_readsWorker_139 fl_X12_27 sh_58 rfl ?_
    refine aw_iconst (v := 0) dX12_readsWorker_142 (by decide) ?_
    refine aw_dup2_11 dX12_readsWorker_143 rfl rfl ?_
    refine aw_lA dX12_readsWorker_144 sh_62 (by decide) ?_
    refine aw_iconst (v := 1) dX12_readsWorker_145 (by decide) ?_
    refine aw_iadd dX12_readsWorker_146 ?_
    refine aw_sA dX12_readsWorker_147 sh_62 (by decide) ?_
    cases hf
    exact aw_vret dX12_readsWorker_148 hq (Nat.le_refl _) (Nat.le_refl _)
  have J112 : ∀ (y1_112 : Int32) (s_112 : sx_M), f_X12_readsWorker_J112 y1_112 s_112 = some p → AW l X RX12 "readsWorker" cX12_readsWorker 3 none (ax_rm 6 0 0) (ax_MQ X Q 0 0) 0 0 112 [some (.ref 58), some (.int y1_112), none] [] (hp s_112 gb) := by
    intro y1_112 s_112 hf
    unfold f_X12_readsWorker_J112 at hf
    refine aw_aload_n dX12_readsWorker_112 rfl rfl ?_
    refine aw_gI dX12_readsWorker_113 fl_X12_99 sh_58 rfl ?_
    refine aw_if_ne (tgt := 134) dX12_readsWorker_116 (by decide) (fun hc2 => ?_) (fun hc2 => ?_)
    · have hf := ax_neg hc2 hf
      refine aw_less (L' := [some (.ref 58), none, none]) (And.intro rfl trivial) ?_
      exact J134 s_112 hf
    · have hf := ax_pos hc2 hf
      refine aw_iload_n dX12_readsWorker_119 rfl rfl ?_
      refine aw_aload_n dX12_readsWorker_120 rfl rfl ?_
      refine aw_gR dX12_readsWorker_121 fl_X12_27 sh_58 rfl ?_
      refine aw_iconst (v := 1) dX12_readsWorker_124 (by decide) ?_
      refine aw_lA dX12_readsWorker_125 sh_62 (by decide) ?_
      refine aw_icmp_ge (tgt := 134) dX12_readsWorker_126 (by decide) (fun hc1 => ?_) (fun hc1 => ?_)
      · have hf := ax_pos hc1 hf
        refine aw_less (L' := [some (.ref 58), none, none]) (And.intro rfl trivial) ?_
        exact J134 s_112 hf
      · have hf := ax_neg hc1 hf
        refine aw_aload_n dX12_readsWorker_129 rfl rfl ?_
        refine aw_iconst (v := 4) dX12_readsWorker_130 (by decide) ?_
        obtain ⟨p2, hp2, hf⟩ := ax_bind hf
        refine aw_cVv (As := [.int (4 : Int32)]) (st := []) dX12_readsWorker_131 cl_X12_118 iv_X12_faults (k_X12_faults (Q := (fun v h' => v = none ∧ h' = hp p2 gb)) (4 : Int32) s_112 gb hp2 ⟨rfl, rfl⟩) (ci := 12) rfl (hp_get sh_58) rfl rfl rfl (Nat.le_of_ble_eq_true rfl) rfl (by decide) (by decide) ?_
        refine aw_less (L' := [some (.ref 58), none, none]) (And.intro rfl trivial) ?_
        exact J134 p2 hf
  have J33 : ∀ (s_33 : sx_M), f_X12_readsWorker_J33 s_33 = some p → AW l X RX12 "readsWorker" cX12_readsWorker 3 none (ax_rm 6 0 0) (ax_MQ X Q 0 0) 0 0 33 [some (.ref 58), none, none] [] (hp s_33 gb) := by
    intro s_33 hf
    unfold f_X12_readsWorker_J33 at hf
    refine aw_aload_n dX12_readsWorker_33 rfl rfl ?_
    obtain ⟨p3, hp3, hf⟩ := ax_bind hf
    refine aw_cVv (As := []) (st := []) dX12_readsWorker_34 cl_X12_122 iv_X12_passes (k_X12_passes (Q := (fun v h' => v = none ∧ h' = hp p3 gb)) s_33 gb hp3 ⟨rfl, rfl⟩) (ci := 12) rfl (hp_get sh_58) rfl rfl rfl (Nat.le_of_ble_eq_true rfl) rfl (by decide) (by decide) ?_
    refine aw_iconst (v := 0) dX12_readsWorker_37 (by decide) ?_
    refine aw_istore_n (L' := [some (.ref 58), some (.int (0 : Int32)), none]) dX12_readsWorker_38 rfl (by decide) rfl ?_
    refine aw_iconst (v := 1) dX12_readsWorker_39 (by decide) ?_
    refine aw_istore_n (L' := [some (.ref 58), some (.int (0 : Int32)), some (.int (1 : Int32))]) dX12_readsWorker_40 rfl (by decide) rfl ?_
    obtain ⟨b6, hb6, hf⟩ := ax_bind hf
    refine wh_go ((0 : Int32), (1 : Int32), p3) (fun a41 : Int32 × Int32 × sx_M => AW l X RX12 "readsWorker" cX12_readsWorker 3 none (ax_rm 6 0 0) (ax_MQ X Q 0 0) 0 0 41 [some (.ref 58), some (.int a41.1), some (.int a41.2.1)] [] (hp a41.2.2 gb)) (fun e : Int32 × sx_M => AW l X RX12 "readsWorker" cX12_readsWorker 3 none (ax_rm 6 0 0) (ax_MQ X Q 0 0) 0 0 92 [some (.ref 58), some (.int e.1), none] [] (hp e.2 gb)) hb6 ?_ ?_
    · intro a41 r hf hK
      unfold f_X12_readsWorker_L41 at hf
      have J80 : ∀ (y1_80 : Int32) (t0_80 : Int32) (s_80 : sx_M), f_X12_readsWorker_L41_J80 y1_80 t0_80 s_80 = some r → AW l X RX12 "readsWorker" cX12_readsWorker 3 none (ax_rm 6 0 0) (ax_MQ X Q 0 0) 0 0 80 [some (.ref 58), some (.int y1_80), none] [.int t0_80] (hp s_80 gb) := by
        intro y1_80 t0_80 s_80 hf
        unfold f_X12_readsWorker_L41_J80 at hf
        refine aw_istore_n (L' := [some (.ref 58), some (.int y1_80), some (.int t0_80)]) dX12_readsWorker_80 rfl (by decide) rfl ?_
        refine aw_iload_n dX12_readsWorker_81 rfl rfl ?_
        refine aw_if_eq (tgt := 41) dX12_readsWorker_82 (by decide) (fun hc3 => ?_) (fun hc3 => ?_)
        · have hf := ax_pos hc3 hf
          cases hf
          exact hK
        · have hf := ax_neg hc3 hf
          refine aw_aload_n dX12_readsWorker_85 rfl rfl ?_
          obtain ⟨p4, hp4, hf⟩ := ax_bind hf
          refine aw_cVv (As := []) (st := []) dX12_readsWorker_86 cl_X12_106 iv_X12_next (k_X12_next (Q := (fun v h' => v = none ∧ h' = hp p4 gb)) s_80 gb hp4 ⟨rfl, rfl⟩) (ci := 12) rfl (hp_get sh_58) rfl rfl rfl (Nat.le_of_ble_eq_true rfl) rfl (by decide) (by decide) ?_
          refine aw_goto (tgt := 41) dX12_readsWorker_89 (by decide) ?_
          cases hf
          exact hK
      refine aw_iload_n dX12_readsWorker_41 rfl rfl ?_
      refine aw_if_eq (tgt := 92) dX12_readsWorker_42 (by decide) (fun hc7 => ?_) (fun hc7 => ?_)
      · have hf := ax_pos hc7 hf
        refine aw_less (L' := [some (.ref 58), some (.int a41.1), none]) (And.intro rfl (And.intro rfl trivial)) ?_
        cases hf
        exact hK
      · have hf := ax_neg hc7 hf
        refine aw_aload_n dX12_readsWorker_45 rfl rfl ?_
        refine aw_gI dX12_readsWorker_46 fl_X12_99 sh_58 rfl ?_
        refine aw_if_ne (tgt := 92) dX12_readsWorker_49 (by decide) (fun hc6 => ?_) (fun hc6 => ?_)
        · have hf := ax_neg hc6 hf
          refine aw_less (L' := [some (.ref 58), some (.int a41.1), none]) (And.intro rfl (And.intro rfl trivial)) ?_
          cases hf
          exact hK
        · have hf := ax_pos hc6 hf
          refine aw_aload_n dX12_readsWorker_52 rfl rfl ?_
          refine aw_iload_n dX12_readsWorker_53 rfl rfl ?_
          obtain ⟨p5, hp5, hf⟩ := ax_bind hf
          refine aw_cVv (As := [.int a41.1]) (st := []) dX12_readsWorker_54 cl_X12_137 iv_X12_readsCost (k_X12_readsCost (Q := (fun v h' => v = none ∧ h' = hp p5 gb)) a41.1 a41.2.2 gb hp5 ⟨rfl, rfl⟩) (ci := 12) rfl (hp_get sh_58) rfl rfl rfl (Nat.le_of_ble_eq_true rfl) rfl (by decide) (by decide) ?_
          refine aw_iinc (v := (a41.1 + (1 : Int32))) (L' := [some (.ref 58), some (.int (a41.1 + (1 : Int32))), some (.int a41.2.1)]) dX12_readsWorker_57 rfl rfl (by decide) rfl ?_
          refine aw_aload_n dX12_readsWorker_60 rfl rfl ?_
          refine aw_gI dX12_readsWorker_61 fl_X12_99 sh_58 rfl ?_
          refine aw_if_ne (tgt := 79) dX12_readsWorker_64 (by decide) (fun hc5 => ?_) (fun hc5 => ?_)
          · have hf := ax_neg hc5 hf
            refine aw_iconst (v := 0) dX12_readsWorker_79 (by decide) ?_
            refine aw_less (L' := [some (.ref 58), some (.int (a41.1 + (1 : Int32))), none]) (And.intro rfl (And.intro rfl trivial)) ?_
            exact J80 (a41.1 + (1 : Int32)) (0 : Int32) p5 hf
          · have hf := ax_pos hc5 hf
            refine aw_aload_n dX12_readsWorker_67 rfl rfl ?_
            refine aw_gI dX12_readsWorker_68 fl_X12_91 sh_58 rfl ?_
            refine aw_iconst (v := 4) dX12_readsWorker_71 (by decide) ?_
            refine aw_icmp_ne (tgt := 79) dX12_readsWorker_72 (by decide) (fun hc4 => ?_) (fun hc4 => ?_)
            · have hf := ax_neg hc4 hf
              refine aw_iconst (v := 0) dX12_readsWorker_79 (by decide) ?_
              refine aw_less (L' := [some (.ref 58), some (.int (a41.1 + (1 : Int32))), none]) (And.intro rfl (And.intro rfl trivial)) ?_
              exact J80 (a41.1 + (1 : Int32)) (0 : Int32) p5 hf
            · have hf := ax_pos hc4 hf
              refine aw_iconst (v := 1) dX12_readsWorker_75 (by decide) ?_
              refine aw_goto (tgt := 80) dX12_readsWorker_76 (by decide) ?_
              refine aw_less (L' := [some (.ref 58), some (.int (a41.1 + (1 : Int32))), none]) (And.intro rfl (And.intro rfl trivial)) ?_
              exact J80 (a41.1 + (1 : Int32)) (1 : Int32) p5 hf
    · refine aw_aload_n dX12_readsWorker_92 rfl rfl ?_
      refine aw_gI dX12_readsWorker_93 fl_X12_99 sh_58 rfl ?_
      refine aw_if_ne (tgt := 112) dX12_readsWorker_96 (by decide) (fun hc9 => ?_) (fun hc9 => ?_)
      · have hf := ax_neg hc9 hf
        exact J112 b6.1 b6.2 hf
      · have hf := ax_pos hc9 hf
        refine aw_aload_n dX12_readsWorker_99 rfl rfl ?_
        refine aw_gI dX12_readsWorker_100 fl_X12_91 sh_58 rfl ?_
        refine aw_iconst (v := 3) dX12_readsWorker_103 (by decide) ?_
        refine aw_icmp_eq (tgt := 112) dX12_readsWorker_104 (by decide) (fun hc8 => ?_) (fun hc8 => ?_)
        · have hf := ax_pos hc8 hf
          exact J112 b6.1 b6.2 hf
        · have hf := ax_neg hc8 hf
          refine aw_aload_n dX12_readsWorker_107 rfl rfl ?_
          refine aw_iconst (v := 1) dX12_readsWorker_108 (by decide) ?_
          obtain ⟨p7, hp7, hf⟩ := ax_bind hf
          refine aw_cVv (As := [.int (1 : Int32)]) (st := []) dX12_readsWorker_109 cl_X12_118 iv_X12_faults (k_X12_faults (Q := (fun v h' => v = none ∧ h' = hp p7 gb)) (1 : Int32) b6.2 gb hp7 ⟨rfl, rfl⟩) (ci := 12) rfl (hp_get sh_58) rfl rfl rfl (Nat.le_of_ble_eq_true rfl) rfl (by decide) (by decide) ?_
          exact J112 b6.1 p7 hf
  refine aw_aload_n dX12_readsWorker_0 rfl rfl ?_
  refine aw_ldcS 2 dX12_readsWorker_1 sr_X12_135 (by decide) ?_
  obtain ⟨p8, hp8, hf⟩ := ax_bind hf
  refine aw_cVi (As := [.float (2 : UInt32)]) (st := []) dX12_readsWorker_3 cl_X12_127 iv_X12_isWord (k_X12_isWord (Q := (fun v h' => v = some (.int p8.1) ∧ h' = hp p8.2 gb)) (2 : UInt32) s gb hp8 ⟨rfl, rfl⟩) (ci := 12) rfl (hp_get sh_58) rfl rfl rfl (Nat.le_of_ble_eq_true rfl) rfl (by decide) (by decide) ?_
  refine aw_if_ne (tgt := 17) dX12_readsWorker_6 (by decide) (fun hc11 => ?_) (fun hc11 => ?_)
  · have hf := ax_neg hc11 hf
    refine aw_aload_n dX12_readsWorker_17 rfl rfl ?_
    refine aw_gR dX12_readsWorker_18 fl_X12_27 sh_58 rfl ?_
    refine aw_iconst (v := 0) dX12_readsWorker_21 (by decide) ?_
    refine aw_lA dX12_readsWorker_22 sh_62 (by decide) ?_
    refine aw_bipush (v := 7) dX12_readsWorker_23 (by decide) ?_
    refine aw_icmp_ne (tgt := 33) dX12_readsWorker_25 (by decide) (fun hc10 => ?_) (fun hc10 => ?_)
    · have hf := ax_neg hc10 hf
      exact J33 p8.2 hf
    · have hf := ax_pos hc10 hf
      refine aw_aload_n dX12_readsWorker_28 rfl rfl ?_
      refine aw_iconst (v := 3) dX12_readsWorker_29 (by decide) ?_
      obtain ⟨p9, hp9, hf⟩ := ax_bind hf
      refine aw_cVv (As := [.int (3 : Int32)]) (st := []) dX12_readsWorker_30 cl_X12_118 iv_X12_faults (k_X12_faults (Q := (fun v h' => v = none ∧ h' = hp p9 gb)) (3 : Int32) p8.2 gb hp9 ⟨rfl, rfl⟩) (ci := 12) rfl (hp_get sh_58) rfl rfl rfl (Nat.le_of_ble_eq_true rfl) rfl (by decide) (by decide) ?_
      exact J33 p9 hf
  · have hf := ax_pos hc11 hf
    refine aw_aload_n dX12_readsWorker_9 rfl rfl ?_
    refine aw_iconst (v := 1) dX12_readsWorker_10 (by decide) ?_
    obtain ⟨p10, hp10, hf⟩ := ax_bind hf
    refine aw_cVv (As := [.int (1 : Int32)]) (st := []) dX12_readsWorker_11 cl_X12_118 iv_X12_faults (k_X12_faults (Q := (fun v h' => v = none ∧ h' = hp p10 gb)) (1 : Int32) p8.2 gb hp10 ⟨rfl, rfl⟩) (ci := 12) rfl (hp_get sh_58) rfl rfl rfl (Nat.le_of_ble_eq_true rfl) rfl (by decide) (by decide) ?_
    refine aw_goto (tgt := 33) dX12_readsWorker_14 (by decide) ?_
    exact J33 p10 hf
noncomputable def f_X12_readsJobs_J51 (s_51 : sx_M) : Option sx_M :=
  (f_X12_passes s_51).bind (fun p1 =>
 some p1)
noncomputable def f_X12_readsJobs_J14 (s_14 : sx_M) : Option sx_M :=
  (f_X12_passes s_14).bind (fun p2 =>
 (f_X12_number (1 : Int32) (8 : Int32) p2).bind (fun p3 =>
 (if (rI (wA p3.2 62 ((1 : Int32)).toNatClampNeg p3.1) 58 12) = 0 then
 (if (rI (wA p3.2 62 ((1 : Int32)).toNatClampNeg p3.1) 58 10) = (3 : Int32) then
 f_X12_readsJobs_J51 (wA p3.2 62 ((1 : Int32)).toNatClampNeg p3.1)
else
 (f_X12_faults (1 : Int32) (wA p3.2 62 ((1 : Int32)).toNatClampNeg p3.1)).bind (fun p4 =>
 f_X12_readsJobs_J51 p4))
else
 f_X12_readsJobs_J51 (wA p3.2 62 ((1 : Int32)).toNatClampNeg p3.1))))
noncomputable def f_X12_readsJobs (s : sx_M) : Option sx_M :=
  (f_X12_isWord (1 : UInt32) s).bind (fun p5 =>
 (if p5.1 = 0 then
 (f_X12_faults (1 : Int32) p5.2).bind (fun p6 =>
 f_X12_readsJobs_J14 p6)
else
 f_X12_readsJobs_J14 p5.2))
set_option maxRecDepth 100000 in
set_option maxHeartbeats 4000000 in
theorem k_X12_readsJobs {l : Launch} {X : ax_X} {Q : Option Value → ax_H → Prop} (s : sx_M) (gb : ax_H) {p : sx_M} (hf : f_X12_readsJobs s = some p) (hq : Q (none) (hp p gb)) : AM l X yX12_readsJobs cX12_readsJobs 1 none 5 0 0 [.ref 58] (hp s gb) Q := by
  refine aw_met (own := RX12) (nm := "readsJobs") (L := [some (.ref 58)]) (by decide +kernel) rfl rfl (And.intro rfl trivial) (Nat.le_of_ble_eq_true rfl) ?_
  unfold f_X12_readsJobs at hf
  have J51 : ∀ (s_51 : sx_M), f_X12_readsJobs_J51 s_51 = some p → AW l X RX12 "readsJobs" cX12_readsJobs 1 none (ax_rm 5 0 0) (ax_MQ X Q 0 0) 0 0 51 [some (.ref 58)] [] (hp s_51 gb) := by
    intro s_51 hf
    unfold f_X12_readsJobs_J51 at hf
    refine aw_aload_n dX12_readsJobs_51 rfl rfl ?_
    obtain ⟨p1, hp1, hf⟩ := ax_bind hf
    refine aw_cVv (As := []) (st := []) dX12_readsJobs_52 cl_X12_122 iv_X12_passes (k_X12_passes (Q := (fun v h' => v = none ∧ h' = hp p1 gb)) s_51 gb hp1 ⟨rfl, rfl⟩) (ci := 12) rfl (hp_get sh_58) rfl rfl rfl (Nat.le_of_ble_eq_true rfl) rfl (by decide) (by decide) ?_
    cases hf
    exact aw_vret dX12_readsJobs_55 hq (Nat.le_refl _) (Nat.le_refl _)
  have J14 : ∀ (s_14 : sx_M), f_X12_readsJobs_J14 s_14 = some p → AW l X RX12 "readsJobs" cX12_readsJobs 1 none (ax_rm 5 0 0) (ax_MQ X Q 0 0) 0 0 14 [some (.ref 58)] [] (hp s_14 gb) := by
    intro s_14 hf
    unfold f_X12_readsJobs_J14 at hf
    refine aw_aload_n dX12_readsJobs_14 rfl rfl ?_
    obtain ⟨p2, hp2, hf⟩ := ax_bind hf
    refine aw_cVv (As := []) (st := []) dX12_readsJobs_15 cl_X12_122 iv_X12_passes (k_X12_passes (Q := (fun v h' => v = none ∧ h' = hp p2 gb)) s_14 gb hp2 ⟨rfl, rfl⟩) (ci := 12) rfl (hp_get sh_58) rfl rfl rfl (Nat.le_of_ble_eq_true rfl) rfl (by decide) (by decide) ?_
    refine aw_aload_n dX12_readsJobs_18 rfl rfl ?_
    refine aw_gR dX12_readsJobs_19 fl_X12_27 sh_58 rfl ?_
    refine aw_iconst (v := 1) dX12_readsJobs_22 (by decide) ?_
    refine aw_aload_n dX12_readsJobs_23 rfl rfl ?_
    refine aw_iconst (v := 1) dX12_readsJobs_24 (by decide) ?_
    refine aw_bipush (v := 8) dX12_readsJobs_25 (by decide) ?_
    obtain ⟨p3, hp3, hf⟩ := ax_bind hf
    refine aw_cVi (As := [.int (1 : Int32), .int (8 : Int32)]) (st := [.int (1 : Int32), .ref 62]) dX12_readsJobs_27 cl_X12_132 iv_X12_number (k_X12_number (Q := (fun v h' => v = some (.int p3.1) ∧ h' = hp p3.2 gb)) (1 : Int32) (8 : Int32) p2 gb hp3 ⟨rfl, rfl⟩) (ci := 12) rfl (hp_get sh_58) rfl rfl rfl (Nat.le_of_ble_eq_true rfl) rfl (by decide) (by decide) ?_
    refine aw_sA dX12_readsJobs_30 sh_62 (by decide) ?_
    refine aw_aload_n dX12_readsJobs_31 rfl rfl ?_
    refine aw_gI dX12_readsJobs_32 fl_X12_99 sh_58 rfl ?_
    refine aw_if_ne (tgt := 51) dX12_readsJobs_35 (by decide) (fun hc2 => ?_) (fun hc2 => ?_)
    · have hf := ax_neg hc2 hf
      exact J51 (wA p3.2 62 ((1 : Int32)).toNatClampNeg p3.1) hf
    · have hf := ax_pos hc2 hf
      refine aw_aload_n dX12_readsJobs_38 rfl rfl ?_
      refine aw_gI dX12_readsJobs_39 fl_X12_91 sh_58 rfl ?_
      refine aw_iconst (v := 3) dX12_readsJobs_42 (by decide) ?_
      refine aw_icmp_eq (tgt := 51) dX12_readsJobs_43 (by decide) (fun hc1 => ?_) (fun hc1 => ?_)
      · have hf := ax_pos hc1 hf
        exact J51 (wA p3.2 62 ((1 : Int32)).toNatClampNeg p3.1) hf
      · have hf := ax_neg hc1 hf
        refine aw_aload_n dX12_readsJobs_46 rfl rfl ?_
        refine aw_iconst (v := 1) dX12_readsJobs_47 (by decide) ?_
        obtain ⟨p4, hp4, hf⟩ := ax_bind hf
        refine aw_cVv (As := [.int (1 : Int32)]) (st := []) dX12_readsJobs_48 cl_X12_118 iv_X12_faults (k_X12_faults (Q := (fun v h' => v = none ∧ h' = hp p4 gb)) (1 : Int32) (wA p3.2 62 ((1 : Int32)).toNatClampNeg p3.1) gb hp4 ⟨rfl, rfl⟩) (ci := 12) rfl (hp_get sh_58) rfl rfl rfl (Nat.le_of_ble_eq_true rfl) rfl (by decide) (by decide) ?_
        exact J51 p4 hf
  refine aw_aload_n dX12_readsJobs_0 rfl rfl ?_
  refine aw_ldcS 1 dX12_readsJobs_1 sr_X12_140 (by decide) ?_
  obtain ⟨p5, hp5, hf⟩ := ax_bind hf
  refine aw_cVi (As := [.float (1 : UInt32)]) (st := []) dX12_readsJobs_3 cl_X12_127 iv_X12_isWord (k_X12_isWord (Q := (fun v h' => v = some (.int p5.1) ∧ h' = hp p5.2 gb)) (1 : UInt32) s gb hp5 ⟨rfl, rfl⟩) (ci := 12) rfl (hp_get sh_58) rfl rfl rfl (Nat.le_of_ble_eq_true rfl) rfl (by decide) (by decide) ?_
  refine aw_if_ne (tgt := 14) dX12_readsJobs_6 (by decide) (fun hc3 => ?_) (fun hc3 => ?_)
  · have hf := ax_neg hc3 hf
    exact J14 p5.2 hf
  · have hf := ax_pos hc3 hf
    refine aw_aload_n dX12_readsJobs_9 rfl rfl ?_
    refine aw_iconst (v := 1) dX12_readsJobs_10 (by decide) ?_
    obtain ⟨p6, hp6, hf⟩ := ax_bind hf
    refine aw_cVv (As := [.int (1 : Int32)]) (st := []) dX12_readsJobs_11 cl_X12_118 iv_X12_faults (k_X12_faults (Q := (fun v h' => v = none ∧ h' = hp p6 gb)) (1 : Int32) p5.2 gb hp6 ⟨rfl, rfl⟩) (ci := 12) rfl (hp_get sh_58) rfl rfl rfl (Nat.le_of_ble_eq_true rfl) rfl (by decide) (by decide) ?_
    exact J14 p6 hf
noncomputable def f_X12_table_L56 (a56 : sx_M) : Option ((sx_M) ⊕ (sx_M)) :=
  (if (rI a56 58 12) = 0 then
 (if (rI a56 58 10) = 0 then
 some (.inr a56)
else
 (f_X12_readsWorker a56).bind (fun p1 =>
 some (.inl p1)))
else
 some (.inr a56))
noncomputable def f_X12_table_L94 (a94 : Int32 × sx_M) : Option ((Int32 × sx_M) ⊕ (sx_M)) :=
  (if (58 : Int32) ≤ a94.1 then
 some (.inr a94.2)
else
 (if ¬ (a94.1 < 0 ∨ 58 ≤ (a94.1).toNatClampNeg) then
 (if ¬ (a94.1 < 0 ∨ 58 ≤ (a94.1).toNatClampNeg) then
 some (.inl ((a94.1 + (1 : Int32)), (wA a94.2 59 (a94.1).toNatClampNeg (rA a94.2 62 (a94.1).toNatClampNeg))))
else none)
else none))
noncomputable def f_X12_table_J56 (s_56 : sx_M) : Option (Int32 × sx_M) :=
  (whT (f_X12_table_L56) s_56).bind (fun b2 =>
 (if (rI (wI b2 58 4 (0 : Int32)) 58 12) = 0 then
 (whT (f_X12_table_L94) ((0 : Int32), (wI b2 58 4 (0 : Int32)))).bind (fun b3 =>
 (f_X12_workers (wI b3 58 2 (0 : Int32))).bind (fun p4 =>
 some (p4.1, p4.2)))
else
 some ((-4 : Int32), (wI b2 58 4 (0 : Int32)))))
noncomputable def f_X12_table_L2 (a2 : Int32 × sx_M) : Option ((Int32 × sx_M) ⊕ (sx_M)) :=
  (if (58 : Int32) ≤ a2.1 then
 some (.inr a2.2)
else
 (if ¬ (a2.1 < 0 ∨ 58 ≤ (a2.1).toNatClampNeg) then
 some (.inl ((a2.1 + (1 : Int32)), (wA a2.2 62 (a2.1).toNatClampNeg (0 : Int32))))
else none))
noncomputable def f_X12_table (s : sx_M) : Option (Int32 × sx_M) :=
  (whT (f_X12_table_L2) ((0 : Int32), s)).bind (fun b5 =>
 (f_X12_next (wI (wI (wI (wI b5 58 8 (0 : Int32)) 58 12 (0 : Int32)) 58 5 (0 : Int32)) 58 6 (-1 : Int32))).bind (fun p6 =>
 (if (rI p6 58 10) = 0 then
 f_X12_table_J56 p6
else
 (f_X12_readsJobs p6).bind (fun p7 =>
 f_X12_table_J56 p7))))
set_option maxRecDepth 100000 in
set_option maxHeartbeats 4000000 in
theorem k_X12_table {l : Launch} {X : ax_X} {Q : Option Value → ax_H → Prop} (s : sx_M) (gb : ax_H) {p : Int32 × sx_M} (hf : f_X12_table s = some p) (hq : Q (some (.int p.1)) (hp p.2 gb)) : AM l X yX12_table cX12_table 2 (some .int) 7 0 0 [.ref 58] (hp s gb) Q := by
  refine aw_met (own := RX12) (nm := "table") (L := [some (.ref 58), none]) (by decide +kernel) rfl rfl (And.intro rfl trivial) (Nat.le_of_ble_eq_true rfl) ?_
  unfold f_X12_table at hf
  have J56 : ∀ (s_56 : sx_M), f_X12_table_J56 s_56 = some p → AW l X RX12 "table" cX12_table 2 (some .int) (ax_rm 7 0 0) (ax_MQ X Q 0 0) 0 0 56 [some (.ref 58), none] [] (hp s_56 gb) := by
    intro s_56 hf
    unfold f_X12_table_J56 at hf
    obtain ⟨b2, hb2, hf⟩ := ax_bind hf
    refine wh_go s_56 (fun a56 : sx_M => AW l X RX12 "table" cX12_table 2 (some .int) (ax_rm 7 0 0) (ax_MQ X Q 0 0) 0 0 56 [some (.ref 58), none] [] (hp a56 gb)) (fun e : sx_M => AW l X RX12 "table" cX12_table 2 (some .int) (ax_rm 7 0 0) (ax_MQ X Q 0 0) 0 0 77 [some (.ref 58), none] [] (hp e gb)) hb2 ?_ ?_
    · intro a56 r hf hK
      unfold f_X12_table_L56 at hf
      refine aw_aload_n dX12_table_56 rfl rfl ?_
      refine aw_gI dX12_table_57 fl_X12_99 sh_58 rfl ?_
      refine aw_if_ne (tgt := 77) dX12_table_60 (by decide) (fun hc2 => ?_) (fun hc2 => ?_)
      · have hf := ax_neg hc2 hf
        cases hf
        exact hK
      · have hf := ax_pos hc2 hf
        refine aw_aload_n dX12_table_63 rfl rfl ?_
        refine aw_gI dX12_table_64 fl_X12_91 sh_58 rfl ?_
        refine aw_if_eq (tgt := 77) dX12_table_67 (by decide) (fun hc1 => ?_) (fun hc1 => ?_)
        · have hf := ax_pos hc1 hf
          cases hf
          exact hK
        · have hf := ax_neg hc1 hf
          refine aw_aload_n dX12_table_70 rfl rfl ?_
          obtain ⟨p1, hp1, hf⟩ := ax_bind hf
          refine aw_cVv (As := []) (st := []) dX12_table_71 cl_X12_144 iv_X12_readsWorker (k_X12_readsWorker (Q := (fun v h' => v = none ∧ h' = hp p1 gb)) a56 gb hp1 ⟨rfl, rfl⟩) (ci := 12) rfl (hp_get sh_58) rfl rfl rfl (Nat.le_of_ble_eq_true rfl) rfl (by decide) (by decide) ?_
          refine aw_goto (tgt := 56) dX12_table_74 (by decide) ?_
          cases hf
          exact hK
    · refine aw_aload_n dX12_table_77 rfl rfl ?_
      refine aw_iconst (v := 0) dX12_table_78 (by decide) ?_
      refine aw_pI dX12_table_79 fp_X12_75 sh_58 rfl rfl rfl ?_
      refine aw_aload_n dX12_table_82 rfl rfl ?_
      refine aw_gI dX12_table_83 fl_X12_99 sh_58 rfl ?_
      refine aw_if_eq (tgt := 92) dX12_table_86 (by decide) (fun hc6 => ?_) (fun hc6 => ?_)
      · have hf := ax_pos hc6 hf
        refine aw_iconst (v := 0) dX12_table_92 (by decide) ?_
        refine aw_istore_n (L' := [some (.ref 58), some (.int (0 : Int32))]) dX12_table_93 rfl (by decide) rfl ?_
        obtain ⟨b3, hb3, hf⟩ := ax_bind hf
        refine wh_go ((0 : Int32), (wI b2 58 4 (0 : Int32))) (fun a94 : Int32 × sx_M => AW l X RX12 "table" cX12_table 2 (some .int) (ax_rm 7 0 0) (ax_MQ X Q 0 0) 0 0 94 [some (.ref 58), some (.int a94.1)] [] (hp a94.2 gb)) (fun e : sx_M => AW l X RX12 "table" cX12_table 2 (some .int) (ax_rm 7 0 0) (ax_MQ X Q 0 0) 0 0 118 [some (.ref 58), none] [] (hp e gb)) hb3 ?_ ?_
        · intro a94 r hf hK
          unfold f_X12_table_L94 at hf
          refine aw_iload_n dX12_table_94 rfl rfl ?_
          refine aw_bipush (v := 58) dX12_table_95 (by decide) ?_
          refine aw_icmp_ge (tgt := 118) dX12_table_97 (by decide) (fun hc5 => ?_) (fun hc5 => ?_)
          · have hf := ax_pos hc5 hf
            refine aw_less (L' := [some (.ref 58), none]) (And.intro rfl trivial) ?_
            cases hf
            exact hK
          · have hf := ax_neg hc5 hf
            refine aw_aload_n dX12_table_100 rfl rfl ?_
            refine aw_gR dX12_table_101 fl_X12_11 sh_58 rfl ?_
            refine aw_iload_n dX12_table_104 rfl rfl ?_
            refine aw_aload_n dX12_table_105 rfl rfl ?_
            refine aw_gR dX12_table_106 fl_X12_27 sh_58 rfl ?_
            refine aw_iload_n dX12_table_109 rfl rfl ?_
            obtain ⟨hc3, hf⟩ := ax_ite hf
            refine aw_lA dX12_table_110 sh_62 hc3 ?_
            obtain ⟨hc4, hf⟩ := ax_ite hf
            refine aw_sA dX12_table_111 sh_59 hc4 ?_
            refine aw_iinc (v := (a94.1 + (1 : Int32))) (L' := [some (.ref 58), some (.int (a94.1 + (1 : Int32)))]) dX12_table_112 rfl rfl (by decide) rfl ?_
            refine aw_goto (tgt := 94) dX12_table_115 (by decide) ?_
            cases hf
            exact hK
        · refine aw_aload_n dX12_table_118 rfl rfl ?_
          refine aw_iconst (v := 0) dX12_table_119 (by decide) ?_
          refine aw_pI dX12_table_120 fp_X12_147 sh_58 rfl rfl rfl ?_
          refine aw_aload_n dX12_table_123 rfl rfl ?_
          obtain ⟨p4, hp4, hf⟩ := ax_bind hf
          refine aw_cVi (As := []) (st := []) dX12_table_124 cl_X12_60 iv_X12_workers (k_X12_workers (Q := (fun v h' => v = some (.int p4.1) ∧ h' = hp p4.2 gb)) (wI b3 58 2 (0 : Int32)) gb hp4 ⟨rfl, rfl⟩) (ci := 12) rfl (hp_get sh_58) rfl rfl rfl (Nat.le_of_ble_eq_true rfl) rfl (by decide) (by decide) ?_
          cases hf
          exact aw_iret dX12_table_127 hq (Nat.le_refl _) (Nat.le_refl _)
      · have hf := ax_neg hc6 hf
        refine aw_bipush (v := -4) dX12_table_89 (by decide) ?_
        cases hf
        exact aw_iret dX12_table_91 hq (Nat.le_refl _) (Nat.le_refl _)
  refine aw_iconst (v := 0) dX12_table_0 (by decide) ?_
  refine aw_istore_n (L' := [some (.ref 58), some (.int (0 : Int32))]) dX12_table_1 rfl (by decide) rfl ?_
  obtain ⟨b5, hb5, hf⟩ := ax_bind hf
  refine wh_go ((0 : Int32), s) (fun a2 : Int32 × sx_M => AW l X RX12 "table" cX12_table 2 (some .int) (ax_rm 7 0 0) (ax_MQ X Q 0 0) 0 0 2 [some (.ref 58), some (.int a2.1)] [] (hp a2.2 gb)) (fun e : sx_M => AW l X RX12 "table" cX12_table 2 (some .int) (ax_rm 7 0 0) (ax_MQ X Q 0 0) 0 0 21 [some (.ref 58), none] [] (hp e gb)) hb5 ?_ ?_
  · intro a2 r hf hK
    unfold f_X12_table_L2 at hf
    refine aw_iload_n dX12_table_2 rfl rfl ?_
    refine aw_bipush (v := 58) dX12_table_3 (by decide) ?_
    refine aw_icmp_ge (tgt := 21) dX12_table_5 (by decide) (fun hc8 => ?_) (fun hc8 => ?_)
    · have hf := ax_pos hc8 hf
      refine aw_less (L' := [some (.ref 58), none]) (And.intro rfl trivial) ?_
      cases hf
      exact hK
    · have hf := ax_neg hc8 hf
      refine aw_aload_n dX12_table_8 rfl rfl ?_
      refine aw_gR dX12_table_9 fl_X12_27 sh_58 rfl ?_
      refine aw_iload_n dX12_table_12 rfl rfl ?_
      refine aw_iconst (v := 0) dX12_table_13 (by decide) ?_
      obtain ⟨hc7, hf⟩ := ax_ite hf
      refine aw_sA dX12_table_14 sh_62 hc7 ?_
      refine aw_iinc (v := (a2.1 + (1 : Int32))) (L' := [some (.ref 58), some (.int (a2.1 + (1 : Int32)))]) dX12_table_15 rfl rfl (by decide) rfl ?_
      refine aw_goto (tgt := 2) dX12_table_18 (by decide) ?_
      cases hf
      exact hK
  · refine aw_aload_n dX12_table_21 rfl rfl ?_
    refine aw_iconst (v := 0) dX12_table_22 (by decide) ?_
    refine aw_pI dX12_table_23 fp_X12_78 sh_58 rfl rfl rfl ?_
    refine aw_aload_n dX12_table_26 rfl rfl ?_
    refine aw_iconst (v := 0) dX12_table_27 (by decide) ?_
    refine aw_pI dX12_table_28 fp_X12_99 sh_58 rfl (by decide) (by decide) ?_
    refine aw_aload_n dX12_table_31 rfl rfl ?_
    refine aw_iconst (v := 0) dX12_table_32 (by decide) ?_
    refine aw_pI dX12_table_33 fp_X12_103 sh_58 rfl rfl rfl ?_
    refine aw_aload_n dX12_table_36 rfl rfl ?_
    refine aw_iconst (v := -1) dX12_table_37 (by decide) ?_
    refine aw_pI dX12_table_38 fp_X12_23 sh_58 rfl rfl rfl ?_
    refine aw_aload_n dX12_table_41 rfl rfl ?_
    obtain ⟨p6, hp6, hf⟩ := ax_bind hf
    refine aw_cVv (As := []) (st := []) dX12_table_42 cl_X12_106 iv_X12_next (k_X12_next (Q := (fun v h' => v = none ∧ h' = hp p6 gb)) (wI (wI (wI (wI b5 58 8 (0 : Int32)) 58 12 (0 : Int32)) 58 5 (0 : Int32)) 58 6 (-1 : Int32)) gb hp6 ⟨rfl, rfl⟩) (ci := 12) rfl (hp_get sh_58) rfl rfl rfl (Nat.le_of_ble_eq_true rfl) rfl (by decide) (by decide) ?_
    refine aw_aload_n dX12_table_45 rfl rfl ?_
    refine aw_gI dX12_table_46 fl_X12_91 sh_58 rfl ?_
    refine aw_if_eq (tgt := 56) dX12_table_49 (by decide) (fun hc9 => ?_) (fun hc9 => ?_)
    · have hf := ax_pos hc9 hf
      exact J56 p6 hf
    · have hf := ax_neg hc9 hf
      refine aw_aload_n dX12_table_52 rfl rfl ?_
      obtain ⟨p7, hp7, hf⟩ := ax_bind hf
      refine aw_cVv (As := []) (st := []) dX12_table_53 cl_X12_141 iv_X12_readsJobs (k_X12_readsJobs (Q := (fun v h' => v = none ∧ h' = hp p7 gb)) p6 gb hp7 ⟨rfl, rfl⟩) (ci := 12) rfl (hp_get sh_58) rfl rfl rfl (Nat.le_of_ble_eq_true rfl) rfl (by decide) (by decide) ?_
      exact J56 p7 hf
