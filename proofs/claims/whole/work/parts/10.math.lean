noncomputable def f_X11_isKind (x0 : Int32) (s : sx_M) : Option (Int32 × sx_M) :=
  (if x0 = 0 then
 some ((1 : Int32), s)
else
 (if x0 = (1 : Int32) then
 some ((1 : Int32), s)
else
 some ((0 : Int32), s)))
set_option maxRecDepth 100000 in
set_option maxHeartbeats 4000000 in
theorem k_X11_isKind {l : Launch} {X : ax_X} {Q : Option Value → ax_H → Prop} (x0 : Int32) (s : sx_M) (gb : ax_H) {p : Int32 × sx_M} (hf : f_X11_isKind x0 s = some p) (hq : Q (some (.int p.1)) (hp p.2 gb)) : AM l X yX11_isKind cX11_isKind 1 (some .boolean) 0 0 0 [.int x0] (hp s gb) Q := by
  refine aw_met (own := RX11) (nm := "isKind") (L := [some (.int x0)]) (by decide +kernel) rfl rfl (And.intro rfl trivial) (Nat.le_of_ble_eq_true rfl) ?_
  unfold f_X11_isKind at hf
  refine aw_iload_n dX11_isKind_0 rfl rfl ?_
  refine aw_if_eq (tgt := 9) dX11_isKind_1 (by decide) (fun hc2 => ?_) (fun hc2 => ?_)
  · have hf := ax_pos hc2 hf
    refine aw_iconst (v := 1) dX11_isKind_9 (by decide) ?_
    refine aw_goto (tgt := 14) dX11_isKind_10 (by decide) ?_
    cases hf
    exact aw_zret dX11_isKind_14 (by decide) hq (Nat.le_refl _) (Nat.le_refl _)
  · have hf := ax_neg hc2 hf
    refine aw_iload_n dX11_isKind_4 rfl rfl ?_
    refine aw_iconst (v := 1) dX11_isKind_5 (by decide) ?_
    refine aw_icmp_ne (tgt := 13) dX11_isKind_6 (by decide) (fun hc1 => ?_) (fun hc1 => ?_)
    · have hf := ax_neg hc1 hf
      refine aw_iconst (v := 0) dX11_isKind_13 (by decide) ?_
      cases hf
      exact aw_zret dX11_isKind_14 (by decide) hq (Nat.le_refl _) (Nat.le_refl _)
    · have hf := ax_pos hc1 hf
      refine aw_iconst (v := 1) dX11_isKind_9 (by decide) ?_
      refine aw_goto (tgt := 14) dX11_isKind_10 (by decide) ?_
      cases hf
      exact aw_zret dX11_isKind_14 (by decide) hq (Nat.le_refl _) (Nat.le_refl _)
noncomputable def f_J9_min_f86c9 (x0 : Int64) (x2 : Int64) (s : sx_M) : Option (Int64 × sx_M) :=
  (if x2 < x0 then
 some (x2, s)
else
 some (x0, s))
set_option maxRecDepth 100000 in
set_option maxHeartbeats 4000000 in
theorem k_J9_min_f86c9 {l : Launch} {X : ax_X} {Q : Option Value → ax_H → Prop} (x0 : Int64) (x2 : Int64) (s : sx_M) (gb : ax_H) {p : Int64 × sx_M} (hf : f_J9_min_f86c9 x0 x2 s = some p) (hq : Q (some (.long p.1)) (hp p.2 gb)) : AM l X yJ9_min_f86c9 cJ9_min_f86c9 4 (some .long) 0 0 0 [.long x0, .long x2] (hp s gb) Q := by
  refine aw_metF (own := RJ9) (nm := "min") (L := [some (.long x0), none, some (.long x2), none]) (by decide +kernel) rfl rfl (And.intro rfl (And.intro rfl trivial)) (Nat.le_of_ble_eq_true rfl) ?_
  unfold f_J9_min_f86c9 at hf
  refine aw_lload_n dJ9_min_f86c9_0 rfl rfl ?_
  refine aw_lload_n dJ9_min_f86c9_1 rfl rfl ?_
  refine aw_lcmp_gt (tgt := 10) dJ9_min_f86c9_2 dJ9_min_f86c9_3 (by decide) (fun hc1 => ?_) (fun hc1 => ?_)
  · have hf := ax_pos hc1 hf
    refine aw_lload_n dJ9_min_f86c9_10 rfl rfl ?_
    cases hf
    exact aw_lret dJ9_min_f86c9_11 hq (Nat.le_refl _) (Nat.le_refl _)
  · have hf := ax_neg hc1 hf
    refine aw_lload_n dJ9_min_f86c9_6 rfl rfl ?_
    refine aw_goto (tgt := 11) dJ9_min_f86c9_7 (by decide) ?_
    cases hf
    exact aw_lret dJ9_min_f86c9_11 hq (Nat.le_refl _) (Nat.le_refl _)
noncomputable def f_X11_isCost (x0 : Int64) (s : sx_M) : Option (Int32 × sx_M) :=
  (if x0 < (-9999 : Int64) then
 some ((0 : Int32), s)
else
 (if (9999 : Int64) < x0 then
 some ((0 : Int32), s)
else
 some ((1 : Int32), s)))
set_option maxRecDepth 100000 in
set_option maxHeartbeats 4000000 in
theorem k_X11_isCost {l : Launch} {X : ax_X} {Q : Option Value → ax_H → Prop} (x0 : Int64) (s : sx_M) (gb : ax_H) {p : Int32 × sx_M} (hf : f_X11_isCost x0 s = some p) (hq : Q (some (.int p.1)) (hp p.2 gb)) : AM l X yX11_isCost cX11_isCost 2 (some .boolean) 0 0 0 [.long x0] (hp s gb) Q := by
  refine aw_met (own := RX11) (nm := "isCost") (L := [some (.long x0), none]) (by decide +kernel) rfl rfl (And.intro rfl trivial) (Nat.le_of_ble_eq_true rfl) ?_
  unfold f_X11_isCost at hf
  refine aw_lload_n dX11_isCost_0 rfl rfl ?_
  refine aw_ldc2 dX11_isCost_1 kc_X11_394 ?_
  refine aw_lcmp_lt (tgt := 20) dX11_isCost_4 dX11_isCost_5 (by decide) (fun hc2 => ?_) (fun hc2 => ?_)
  · have hf := ax_pos hc2 hf
    refine aw_iconst (v := 0) dX11_isCost_20 (by decide) ?_
    cases hf
    exact aw_zret dX11_isCost_21 (by decide) hq (Nat.le_refl _) (Nat.le_refl _)
  · have hf := ax_neg hc2 hf
    refine aw_lload_n dX11_isCost_8 rfl rfl ?_
    refine aw_ldc2 dX11_isCost_9 kc_X11_396 ?_
    refine aw_lcmp_gt (tgt := 20) dX11_isCost_12 dX11_isCost_13 (by decide) (fun hc1 => ?_) (fun hc1 => ?_)
    · have hf := ax_pos hc1 hf
      refine aw_iconst (v := 0) dX11_isCost_20 (by decide) ?_
      cases hf
      exact aw_zret dX11_isCost_21 (by decide) hq (Nat.le_refl _) (Nat.le_refl _)
    · have hf := ax_neg hc1 hf
      refine aw_iconst (v := 1) dX11_isCost_16 (by decide) ?_
      refine aw_goto (tgt := 21) dX11_isCost_17 (by decide) ?_
      cases hf
      exact aw_zret dX11_isCost_21 (by decide) hq (Nat.le_refl _) (Nat.le_refl _)
noncomputable def f_J9_max_f86c9 (x0 : Int64) (x2 : Int64) (s : sx_M) : Option (Int64 × sx_M) :=
  (if x0 < x2 then
 some (x2, s)
else
 some (x0, s))
set_option maxRecDepth 100000 in
set_option maxHeartbeats 4000000 in
theorem k_J9_max_f86c9 {l : Launch} {X : ax_X} {Q : Option Value → ax_H → Prop} (x0 : Int64) (x2 : Int64) (s : sx_M) (gb : ax_H) {p : Int64 × sx_M} (hf : f_J9_max_f86c9 x0 x2 s = some p) (hq : Q (some (.long p.1)) (hp p.2 gb)) : AM l X yJ9_max_f86c9 cJ9_max_f86c9 4 (some .long) 0 0 0 [.long x0, .long x2] (hp s gb) Q := by
  refine aw_metF (own := RJ9) (nm := "max") (L := [some (.long x0), none, some (.long x2), none]) (by decide +kernel) rfl rfl (And.intro rfl (And.intro rfl trivial)) (Nat.le_of_ble_eq_true rfl) ?_
  unfold f_J9_max_f86c9 at hf
  refine aw_lload_n dJ9_max_f86c9_0 rfl rfl ?_
  refine aw_lload_n dJ9_max_f86c9_1 rfl rfl ?_
  refine aw_lcmp_lt (tgt := 10) dJ9_max_f86c9_2 dJ9_max_f86c9_3 (by decide) (fun hc1 => ?_) (fun hc1 => ?_)
  · have hf := ax_pos hc1 hf
    refine aw_lload_n dJ9_max_f86c9_10 rfl rfl ?_
    cases hf
    exact aw_lret dJ9_max_f86c9_11 hq (Nat.le_refl _) (Nat.le_refl _)
  · have hf := ax_neg hc1 hf
    refine aw_lload_n dJ9_max_f86c9_6 rfl rfl ?_
    refine aw_goto (tgt := 11) dJ9_max_f86c9_7 (by decide) ?_
    cases hf
    exact aw_lret dJ9_max_f86c9_11 hq (Nat.le_refl _) (Nat.le_refl _)
noncomputable def f_J6_bitCount_0f7a4 (x0 : Int32) (s : sx_M) : Option (Int32 × sx_M) :=
  some (((((((((x0 - (((x0).toUInt32 >>> (((1 : Int32)).toUInt32 &&& Int32.toUInt32 31)).toInt32 &&& (1431655765 : Int32))) &&& (858993459 : Int32)) + ((((x0 - (((x0).toUInt32 >>> (((1 : Int32)).toUInt32 &&& Int32.toUInt32 31)).toInt32 &&& (1431655765 : Int32)))).toUInt32 >>> (((2 : Int32)).toUInt32 &&& Int32.toUInt32 31)).toInt32 &&& (858993459 : Int32))) + (((((x0 - (((x0).toUInt32 >>> (((1 : Int32)).toUInt32 &&& Int32.toUInt32 31)).toInt32 &&& (1431655765 : Int32))) &&& (858993459 : Int32)) + ((((x0 - (((x0).toUInt32 >>> (((1 : Int32)).toUInt32 &&& Int32.toUInt32 31)).toInt32 &&& (1431655765 : Int32)))).toUInt32 >>> (((2 : Int32)).toUInt32 &&& Int32.toUInt32 31)).toInt32 &&& (858993459 : Int32)))).toUInt32 >>> (((4 : Int32)).toUInt32 &&& Int32.toUInt32 31)).toInt32) &&& (252645135 : Int32)) + (((((((x0 - (((x0).toUInt32 >>> (((1 : Int32)).toUInt32 &&& Int32.toUInt32 31)).toInt32 &&& (1431655765 : Int32))) &&& (858993459 : Int32)) + ((((x0 - (((x0).toUInt32 >>> (((1 : Int32)).toUInt32 &&& Int32.toUInt32 31)).toInt32 &&& (1431655765 : Int32)))).toUInt32 >>> (((2 : Int32)).toUInt32 &&& Int32.toUInt32 31)).toInt32 &&& (858993459 : Int32))) + (((((x0 - (((x0).toUInt32 >>> (((1 : Int32)).toUInt32 &&& Int32.toUInt32 31)).toInt32 &&& (1431655765 : Int32))) &&& (858993459 : Int32)) + ((((x0 - (((x0).toUInt32 >>> (((1 : Int32)).toUInt32 &&& Int32.toUInt32 31)).toInt32 &&& (1431655765 : Int32)))).toUInt32 >>> (((2 : Int32)).toUInt32 &&& Int32.toUInt32 31)).toInt32 &&& (858993459 : Int32)))).toUInt32 >>> (((4 : Int32)).toUInt32 &&& Int32.toUInt32 31)).toInt32) &&& (252645135 : Int32))).toUInt32 >>> (((8 : Int32)).toUInt32 &&& Int32.toUInt32 31)).toInt32) + ((((((((x0 - (((x0).toUInt32 >>> (((1 : Int32)).toUInt32 &&& Int32.toUInt32 31)).toInt32 &&& (1431655765 : Int32))) &&& (858993459 : Int32)) + ((((x0 - (((x0).toUInt32 >>> (((1 : Int32)).toUInt32 &&& Int32.toUInt32 31)).toInt32 &&& (1431655765 : Int32)))).toUInt32 >>> (((2 : Int32)).toUInt32 &&& Int32.toUInt32 31)).toInt32 &&& (858993459 : Int32))) + (((((x0 - (((x0).toUInt32 >>> (((1 : Int32)).toUInt32 &&& Int32.toUInt32 31)).toInt32 &&& (1431655765 : Int32))) &&& (858993459 : Int32)) + ((((x0 - (((x0).toUInt32 >>> (((1 : Int32)).toUInt32 &&& Int32.toUInt32 31)).toInt32 &&& (1431655765 : Int32)))).toUInt32 >>> (((2 : Int32)).toUInt32 &&& Int32.toUInt32 31)).toInt32 &&& (858993459 : Int32)))).toUInt32 >>> (((4 : Int32)).toUInt32 &&& Int32.toUInt32 31)).toInt32) &&& (252645135 : Int32)) + (((((((x0 - (((x0).toUInt32 >>> (((1 : Int32)).toUInt32 &&& Int32.toUInt32 31)).toInt32 &&& (1431655765 : Int32))) &&& (858993459 : Int32)) + ((((x0 - (((x0).toUInt32 >>> (((1 : Int32)).toUInt32 &&& Int32.toUInt32 31)).toInt32 &&& (1431655765 : Int32)))).toUInt32 >>> (((2 : Int32)).toUInt32 &&& Int32.toUInt32 31)).toInt32 &&& (858993459 : Int32))) + (((((x0 - (((x0).toUInt32 >>> (((1 : Int32)).toUInt32 &&& Int32.toUInt32 31)).toInt32 &&& (1431655765 : Int32))) &&& (858993459 : Int32)) + ((((x0 - (((x0).toUInt32 >>> (((1 : Int32)).toUInt32 &&& Int32.toUInt32 31)).toInt32 &&& (1431655765 : Int32)))).toUInt32 >>> (((2 : Int32)).toUInt32 &&& Int32.toUInt32 31)).toInt32 &&& (858993459 : Int32)))).toUInt32 >>> (((4 : Int32)).toUInt32 &&& Int32.toUInt32 31)).toInt32) &&& (252645135 : Int32))).toUInt32 >>> (((8 : Int32)).toUInt32 &&& Int32.toUInt32 31)).toInt32)).toUInt32 >>> (((16 : Int32)).toUInt32 &&& Int32.toUInt32 31)).toInt32) &&& (63 : Int32)), s)
set_option maxRecDepth 100000 in
set_option maxHeartbeats 4000000 in
theorem k_J6_bitCount_0f7a4 {l : Launch} {X : ax_X} {Q : Option Value → ax_H → Prop} (x0 : Int32) (s : sx_M) (gb : ax_H) {p : Int32 × sx_M} (hf : f_J6_bitCount_0f7a4 x0 s = some p) (hq : Q (some (.int p.1)) (hp p.2 gb)) : AM l X yJ6_bitCount_0f7a4 cJ6_bitCount_0f7a4 1 (some .int) 0 0 0 [.int x0] (hp s gb) Q := by
  refine aw_metF (own := RJ6) (nm := "bitCount") (L := [some (.int x0)]) (by decide +kernel) rfl rfl (And.intro rfl trivial) (Nat.le_of_ble_eq_true rfl) ?_
  unfold f_J6_bitCount_0f7a4 at hf
  refine aw_iload_n dJ6_bitCount_0f7a4_0 rfl rfl ?_
  refine aw_iload_n dJ6_bitCount_0f7a4_1 rfl rfl ?_
  refine aw_iconst (v := 1) dJ6_bitCount_0f7a4_2 (by decide) ?_
  refine aw_iushr dJ6_bitCount_0f7a4_3 ?_
  refine aw_ldcw dJ6_bitCount_0f7a4_4 kc_J6_265 ?_
  refine aw_iand dJ6_bitCount_0f7a4_7 ?_
  refine aw_isub dJ6_bitCount_0f7a4_8 ?_
  refine aw_istore_n (L' := [some (.int (x0 - (((x0).toUInt32 >>> (((1 : Int32)).toUInt32 &&& Int32.toUInt32 31)).toInt32 &&& (1431655765 : Int32))))]) dJ6_bitCount_0f7a4_9 rfl (by decide) rfl ?_
  refine aw_iload_n dJ6_bitCount_0f7a4_10 rfl rfl ?_
  refine aw_ldcw dJ6_bitCount_0f7a4_11 kc_J6_266 ?_
  refine aw_iand dJ6_bitCount_0f7a4_14 ?_
  refine aw_iload_n dJ6_bitCount_0f7a4_15 rfl rfl ?_
  refine aw_iconst (v := 2) dJ6_bitCount_0f7a4_16 (by decide) ?_
  refine aw_iushr dJ6_bitCount_0f7a4_17 ?_
  refine aw_ldcw dJ6_bitCount_0f7a4_18 kc_J6_266 ?_
  refine aw_iand dJ6_bitCount_0f7a4_21 ?_
  refine aw_iadd dJ6_bitCount_0f7a4_22 ?_
  refine aw_istore_n (L' := [some (.int (((x0 - (((x0).toUInt32 >>> (((1 : Int32)).toUInt32 &&& Int32.toUInt32 31)).toInt32 &&& (1431655765 : Int32))) &&& (858993459 : Int32)) + ((((x0 - (((x0).toUInt32 >>> (((1 : Int32)).toUInt32 &&& Int32.toUInt32 31)).toInt32 &&& (1431655765 : Int32)))).toUInt32 >>> (((2 : Int32)).toUInt32 &&& Int32.toUInt32 31)).toInt32 &&& (858993459 : Int32))))]) dJ6_bitCount_0f7a4_23 rfl (by decide) rfl ?_
  refine aw_iload_n dJ6_bitCount_0f7a4_24 rfl rfl ?_
  refine aw_iload_n dJ6_bitCount_0f7a4_25 rfl rfl ?_
  refine aw_iconst (v := 4) dJ6_bitCount_0f7a4_26 (by decide) ?_
  refine aw_iushr dJ6_bitCount_0f7a4_27 ?_
  refine aw_iadd dJ6_bitCount_0f7a4_28 ?_
  refine aw_ldcw dJ6_bitCount_0f7a4_29 kc_J6_267 ?_
  refine aw_iand dJ6_bitCount_0f7a4_32 ?_
  refine aw_istore_n (L' := [some (.int (((((x0 - (((x0).toUInt32 >>> (((1 : Int32)).toUInt32 &&& Int32.toUInt32 31)).toInt32 &&& (1431655765 : Int32))) &&& (858993459 : Int32)) + ((((x0 - (((x0).toUInt32 >>> (((1 : Int32)).toUInt32 &&& Int32.toUInt32 31)).toInt32 &&& (1431655765 : Int32)))).toUInt32 >>> (((2 : Int32)).toUInt32 &&& Int32.toUInt32 31)).toInt32 &&& (858993459 : Int32))) + (((((x0 - (((x0).toUInt32 >>> (((1 : Int32)).toUInt32 &&& Int32.toUInt32 31)).toInt32 &&& (1431655765 : Int32))) &&& (858993459 : Int32)) + ((((x0 - (((x0).toUInt32 >>> (((1 : Int32)).toUInt32 &&& Int32.toUInt32 31)).toInt32 &&& (1431655765 : Int32)))).toUInt32 >>> (((2 : Int32)).toUInt32 &&& Int32.toUInt32 31)).toInt32 &&& (858993459 : Int32)))).toUInt32 >>> (((4 : Int32)).toUInt32 &&& Int32.toUInt32 31)).toInt32) &&& (252645135 : Int32)))]) dJ6_bitCount_0f7a4_33 rfl (by decide) rfl ?_
  refine aw_iload_n dJ6_bitCount_0f7a4_34 rfl rfl ?_
  refine aw_iload_n dJ6_bitCount_0f7a4_35 rfl rfl ?_
  refine aw_bipush (v := 8) dJ6_bitCount_0f7a4_36 (by decide) ?_
  refine aw_iushr dJ6_bitCount_0f7a4_38 ?_
  refine aw_iadd dJ6_bitCount_0f7a4_39 ?_
  refine aw_istore_n (L' := [some (.int ((((((x0 - (((x0).toUInt32 >>> (((1 : Int32)).toUInt32 &&& Int32.toUInt32 31)).toInt32 &&& (1431655765 : Int32))) &&& (858993459 : Int32)) + ((((x0 - (((x0).toUInt32 >>> (((1 : Int32)).toUInt32 &&& Int32.toUInt32 31)).toInt32 &&& (1431655765 : Int32)))).toUInt32 >>> (((2 : Int32)).toUInt32 &&& Int32.toUInt32 31)).toInt32 &&& (858993459 : Int32))) + (((((x0 - (((x0).toUInt32 >>> (((1 : Int32)).toUInt32 &&& Int32.toUInt32 31)).toInt32 &&& (1431655765 : Int32))) &&& (858993459 : Int32)) + ((((x0 - (((x0).toUInt32 >>> (((1 : Int32)).toUInt32 &&& Int32.toUInt32 31)).toInt32 &&& (1431655765 : Int32)))).toUInt32 >>> (((2 : Int32)).toUInt32 &&& Int32.toUInt32 31)).toInt32 &&& (858993459 : Int32)))).toUInt32 >>> (((4 : Int32)).toUInt32 &&& Int32.toUInt32 31)).toInt32) &&& (252645135 : Int32)) + (((((((x0 - (((x0).toUInt32 >>> (((1 : Int32)).toUInt32 &&& Int32.toUInt32 31)).toInt32 &&& (1431655765 : Int32))) &&& (858993459 : Int32)) + ((((x0 - (((x0).toUInt32 >>> (((1 : Int32)).toUInt32 &&& Int32.toUInt32 31)).toInt32 &&& (1431655765 : Int32)))).toUInt32 >>> (((2 : Int32)).toUInt32 &&& Int32.toUInt32 31)).toInt32 &&& (858993459 : Int32))) + (((((x0 - (((x0).toUInt32 >>> (((1 : Int32)).toUInt32 &&& Int32.toUInt32 31)).toInt32 &&& (1431655765 : Int32))) &&& (858993459 : Int32)) + ((((x0 - (((x0).toUInt32 >>> (((1 : Int32)).toUInt32 &&& Int32.toUInt32 31)).toInt32 &&& (1431655765 : Int32)))).toUInt32 >>> (((2 : Int32)).toUInt32 &&& Int32.toUInt32 31)).toInt32 &&& (858993459 : Int32)))).toUInt32 >>> (((4 : Int32)).toUInt32 &&& Int32.toUInt32 31)).toInt32) &&& (252645135 : Int32))).toUInt32 >>> (((8 : Int32)).toUInt32 &&& Int32.toUInt32 31)).toInt32))]) dJ6_bitCount_0f7a4_40 rfl (by decide) rfl ?_
  refine aw_iload_n dJ6_bitCount_0f7a4_41 rfl rfl ?_
  refine aw_iload_n dJ6_bitCount_0f7a4_42 rfl rfl ?_
  refine aw_bipush (v := 16) dJ6_bitCount_0f7a4_43 (by decide) ?_
  refine aw_iushr dJ6_bitCount_0f7a4_45 ?_
  refine aw_iadd dJ6_bitCount_0f7a4_46 ?_
  refine aw_istore_n (L' := [some (.int (((((((x0 - (((x0).toUInt32 >>> (((1 : Int32)).toUInt32 &&& Int32.toUInt32 31)).toInt32 &&& (1431655765 : Int32))) &&& (858993459 : Int32)) + ((((x0 - (((x0).toUInt32 >>> (((1 : Int32)).toUInt32 &&& Int32.toUInt32 31)).toInt32 &&& (1431655765 : Int32)))).toUInt32 >>> (((2 : Int32)).toUInt32 &&& Int32.toUInt32 31)).toInt32 &&& (858993459 : Int32))) + (((((x0 - (((x0).toUInt32 >>> (((1 : Int32)).toUInt32 &&& Int32.toUInt32 31)).toInt32 &&& (1431655765 : Int32))) &&& (858993459 : Int32)) + ((((x0 - (((x0).toUInt32 >>> (((1 : Int32)).toUInt32 &&& Int32.toUInt32 31)).toInt32 &&& (1431655765 : Int32)))).toUInt32 >>> (((2 : Int32)).toUInt32 &&& Int32.toUInt32 31)).toInt32 &&& (858993459 : Int32)))).toUInt32 >>> (((4 : Int32)).toUInt32 &&& Int32.toUInt32 31)).toInt32) &&& (252645135 : Int32)) + (((((((x0 - (((x0).toUInt32 >>> (((1 : Int32)).toUInt32 &&& Int32.toUInt32 31)).toInt32 &&& (1431655765 : Int32))) &&& (858993459 : Int32)) + ((((x0 - (((x0).toUInt32 >>> (((1 : Int32)).toUInt32 &&& Int32.toUInt32 31)).toInt32 &&& (1431655765 : Int32)))).toUInt32 >>> (((2 : Int32)).toUInt32 &&& Int32.toUInt32 31)).toInt32 &&& (858993459 : Int32))) + (((((x0 - (((x0).toUInt32 >>> (((1 : Int32)).toUInt32 &&& Int32.toUInt32 31)).toInt32 &&& (1431655765 : Int32))) &&& (858993459 : Int32)) + ((((x0 - (((x0).toUInt32 >>> (((1 : Int32)).toUInt32 &&& Int32.toUInt32 31)).toInt32 &&& (1431655765 : Int32)))).toUInt32 >>> (((2 : Int32)).toUInt32 &&& Int32.toUInt32 31)).toInt32 &&& (858993459 : Int32)))).toUInt32 >>> (((4 : Int32)).toUInt32 &&& Int32.toUInt32 31)).toInt32) &&& (252645135 : Int32))).toUInt32 >>> (((8 : Int32)).toUInt32 &&& Int32.toUInt32 31)).toInt32) + ((((((((x0 - (((x0).toUInt32 >>> (((1 : Int32)).toUInt32 &&& Int32.toUInt32 31)).toInt32 &&& (1431655765 : Int32))) &&& (858993459 : Int32)) + ((((x0 - (((x0).toUInt32 >>> (((1 : Int32)).toUInt32 &&& Int32.toUInt32 31)).toInt32 &&& (1431655765 : Int32)))).toUInt32 >>> (((2 : Int32)).toUInt32 &&& Int32.toUInt32 31)).toInt32 &&& (858993459 : Int32))) + (((((x0 - (((x0).toUInt32 >>> (((1 : Int32)).toUInt32 &&& Int32.toUInt32 31)).toInt32 &&& (1431655765 : Int32))) &&& (858993459 : Int32)) + ((((x0 - (((x0).toUInt32 >>> (((1 : Int32)).toUInt32 &&& Int32.toUInt32 31)).toInt32 &&& (1431655765 : Int32)))).toUInt32 >>> (((2 : Int32)).toUInt32 &&& Int32.toUInt32 31)).toInt32 &&& (858993459 : Int32)))).toUInt32 >>> (((4 : Int32)).toUInt32 &&& Int32.toUInt32 31)).toInt32) &&& (252645135 : Int32)) + (((((((x0 - (((x0).toUInt32 >>> (((1 : Int32)).toUInt32 &&& Int32.toUInt32 31)).toInt32 &&& (1431655765 : Int32))) &&& (858993459 : Int32)) + ((((x0 - (((x0).toUInt32 >>> (((1 : Int32)).toUInt32 &&& Int32.toUInt32 31)).toInt32 &&& (1431655765 : Int32)))).toUInt32 >>> (((2 : Int32)).toUInt32 &&& Int32.toUInt32 31)).toInt32 &&& (858993459 : Int32))) + (((((x0 - (((x0).toUInt32 >>> (((1 : Int32)).toUInt32 &&& Int32.toUInt32 31)).toInt32 &&& (1431655765 : Int32))) &&& (858993459 : Int32)) + ((((x0 - (((x0).toUInt32 >>> (((1 : Int32)).toUInt32 &&& Int32.toUInt32 31)).toInt32 &&& (1431655765 : Int32)))).toUInt32 >>> (((2 : Int32)).toUInt32 &&& Int32.toUInt32 31)).toInt32 &&& (858993459 : Int32)))).toUInt32 >>> (((4 : Int32)).toUInt32 &&& Int32.toUInt32 31)).toInt32) &&& (252645135 : Int32))).toUInt32 >>> (((8 : Int32)).toUInt32 &&& Int32.toUInt32 31)).toInt32)).toUInt32 >>> (((16 : Int32)).toUInt32 &&& Int32.toUInt32 31)).toInt32))]) dJ6_bitCount_0f7a4_47 rfl (by decide) rfl ?_
  refine aw_iload_n dJ6_bitCount_0f7a4_48 rfl rfl ?_
  refine aw_bipush (v := 63) dJ6_bitCount_0f7a4_49 (by decide) ?_
  refine aw_iand dJ6_bitCount_0f7a4_51 ?_
  cases hf
  exact aw_iret dJ6_bitCount_0f7a4_52 hq (Nat.le_refl _) (Nat.le_refl _)
noncomputable def f_J9_min_7cf53 (x0 : Int32) (x1 : Int32) (s : sx_M) : Option (Int32 × sx_M) :=
  (if x1 < x0 then
 some (x1, s)
else
 some (x0, s))
set_option maxRecDepth 100000 in
set_option maxHeartbeats 4000000 in
theorem k_J9_min_7cf53 {l : Launch} {X : ax_X} {Q : Option Value → ax_H → Prop} (x0 : Int32) (x1 : Int32) (s : sx_M) (gb : ax_H) {p : Int32 × sx_M} (hf : f_J9_min_7cf53 x0 x1 s = some p) (hq : Q (some (.int p.1)) (hp p.2 gb)) : AM l X yJ9_min_7cf53 cJ9_min_7cf53 2 (some .int) 0 0 0 [.int x0, .int x1] (hp s gb) Q := by
  refine aw_metF (own := RJ9) (nm := "min") (L := [some (.int x0), some (.int x1)]) (by decide +kernel) rfl rfl (And.intro rfl (And.intro rfl trivial)) (Nat.le_of_ble_eq_true rfl) ?_
  unfold f_J9_min_7cf53 at hf
  refine aw_iload_n dJ9_min_7cf53_0 rfl rfl ?_
  refine aw_iload_n dJ9_min_7cf53_1 rfl rfl ?_
  refine aw_icmp_gt (tgt := 9) dJ9_min_7cf53_2 (by decide) (fun hc1 => ?_) (fun hc1 => ?_)
  · have hf := ax_pos hc1 hf
    refine aw_iload_n dJ9_min_7cf53_9 rfl rfl ?_
    cases hf
    exact aw_iret dJ9_min_7cf53_10 hq (Nat.le_refl _) (Nat.le_refl _)
  · have hf := ax_neg hc1 hf
    refine aw_iload_n dJ9_min_7cf53_5 rfl rfl ?_
    refine aw_goto (tgt := 10) dJ9_min_7cf53_6 (by decide) ?_
    cases hf
    exact aw_iret dJ9_min_7cf53_10 hq (Nat.le_refl _) (Nat.le_refl _)
noncomputable def f_J9_max_7cf53 (x0 : Int32) (x1 : Int32) (s : sx_M) : Option (Int32 × sx_M) :=
  (if x0 < x1 then
 some (x1, s)
else
 some (x0, s))
set_option maxRecDepth 100000 in
set_option maxHeartbeats 4000000 in
theorem k_J9_max_7cf53 {l : Launch} {X : ax_X} {Q : Option Value → ax_H → Prop} (x0 : Int32) (x1 : Int32) (s : sx_M) (gb : ax_H) {p : Int32 × sx_M} (hf : f_J9_max_7cf53 x0 x1 s = some p) (hq : Q (some (.int p.1)) (hp p.2 gb)) : AM l X yJ9_max_7cf53 cJ9_max_7cf53 2 (some .int) 0 0 0 [.int x0, .int x1] (hp s gb) Q := by
  refine aw_metF (own := RJ9) (nm := "max") (L := [some (.int x0), some (.int x1)]) (by decide +kernel) rfl rfl (And.intro rfl (And.intro rfl trivial)) (Nat.le_of_ble_eq_true rfl) ?_
  unfold f_J9_max_7cf53 at hf
  refine aw_iload_n dJ9_max_7cf53_0 rfl rfl ?_
  refine aw_iload_n dJ9_max_7cf53_1 rfl rfl ?_
  refine aw_icmp_lt (tgt := 9) dJ9_max_7cf53_2 (by decide) (fun hc1 => ?_) (fun hc1 => ?_)
  · have hf := ax_pos hc1 hf
    refine aw_iload_n dJ9_max_7cf53_9 rfl rfl ?_
    cases hf
    exact aw_iret dJ9_max_7cf53_10 hq (Nat.le_refl _) (Nat.le_refl _)
  · have hf := ax_neg hc1 hf
    refine aw_iload_n dJ9_max_7cf53_5 rfl rfl ?_
    refine aw_goto (tgt := 10) dJ9_max_7cf53_6 (by decide) ?_
    cases hf
    exact aw_iret dJ9_max_7cf53_10 hq (Nat.le_refl _) (Nat.le_refl _)
noncomputable def f_X11_isRank (x0 : Int32) (s : sx_M) : Option (Int32 × sx_M) :=
  (if x0 < 0 then
 some ((0 : Int32), s)
else
 (if (200 : Int32) ≤ x0 then
 some ((0 : Int32), s)
else
 some ((1 : Int32), s)))
set_option maxRecDepth 100000 in
set_option maxHeartbeats 4000000 in
theorem k_X11_isRank {l : Launch} {X : ax_X} {Q : Option Value → ax_H → Prop} (x0 : Int32) (s : sx_M) (gb : ax_H) {p : Int32 × sx_M} (hf : f_X11_isRank x0 s = some p) (hq : Q (some (.int p.1)) (hp p.2 gb)) : AM l X yX11_isRank cX11_isRank 1 (some .boolean) 0 0 0 [.int x0] (hp s gb) Q := by
  refine aw_met (own := RX11) (nm := "isRank") (L := [some (.int x0)]) (by decide +kernel) rfl rfl (And.intro rfl trivial) (Nat.le_of_ble_eq_true rfl) ?_
  unfold f_X11_isRank at hf
  refine aw_iload_n dX11_isRank_0 rfl rfl ?_
  refine aw_if_lt (tgt := 15) dX11_isRank_1 (by decide) (fun hc2 => ?_) (fun hc2 => ?_)
  · have hf := ax_pos hc2 hf
    refine aw_iconst (v := 0) dX11_isRank_15 (by decide) ?_
    cases hf
    exact aw_zret dX11_isRank_16 (by decide) hq (Nat.le_refl _) (Nat.le_refl _)
  · have hf := ax_neg hc2 hf
    refine aw_iload_n dX11_isRank_4 rfl rfl ?_
    refine aw_sipush (v := 200) dX11_isRank_5 (by decide) ?_
    refine aw_icmp_ge (tgt := 15) dX11_isRank_8 (by decide) (fun hc1 => ?_) (fun hc1 => ?_)
    · have hf := ax_pos hc1 hf
      refine aw_iconst (v := 0) dX11_isRank_15 (by decide) ?_
      cases hf
      exact aw_zret dX11_isRank_16 (by decide) hq (Nat.le_refl _) (Nat.le_refl _)
    · have hf := ax_neg hc1 hf
      refine aw_iconst (v := 1) dX11_isRank_11 (by decide) ?_
      refine aw_goto (tgt := 16) dX11_isRank_12 (by decide) ?_
      cases hf
      exact aw_zret dX11_isRank_16 (by decide) hq (Nat.le_refl _) (Nat.le_refl _)
noncomputable def f_X11_difference (x0 : Int64) (x2 : Int64) (s : sx_M) : Option (Int64 × sx_M) :=
  (if x0 = (-9223372036854775808 : Int64) then
 some ((-9223372036854775808 : Int64), s)
else
 (if x2 = (-9223372036854775808 : Int64) then
 some ((-9223372036854775808 : Int64), s)
else
 some ((x0 - x2), s)))
set_option maxRecDepth 100000 in
set_option maxHeartbeats 4000000 in
theorem k_X11_difference {l : Launch} {X : ax_X} {Q : Option Value → ax_H → Prop} (x0 : Int64) (x2 : Int64) (s : sx_M) (gb : ax_H) {p : Int64 × sx_M} (hf : f_X11_difference x0 x2 s = some p) (hq : Q (some (.long p.1)) (hp p.2 gb)) : AM l X yX11_difference cX11_difference 4 (some .long) 0 0 0 [.long x0, .long x2] (hp s gb) Q := by
  refine aw_met (own := RX11) (nm := "difference") (L := [some (.long x0), none, some (.long x2), none]) (by decide +kernel) rfl rfl (And.intro rfl (And.intro rfl trivial)) (Nat.le_of_ble_eq_true rfl) ?_
  unfold f_X11_difference at hf
  refine aw_lload_n dX11_difference_0 rfl rfl ?_
  refine aw_ldc2 dX11_difference_1 kc_X11_170 ?_
  refine aw_lcmp_eq (tgt := 16) dX11_difference_4 dX11_difference_5 (by decide) (fun hc2 => ?_) (fun hc2 => ?_)
  · have hf := ax_pos hc2 hf
    refine aw_ldc2 dX11_difference_16 kc_X11_170 ?_
    refine aw_goto (tgt := 25) dX11_difference_19 (by decide) ?_
    cases hf
    exact aw_lret dX11_difference_25 hq (Nat.le_refl _) (Nat.le_refl _)
  · have hf := ax_neg hc2 hf
    refine aw_lload_n dX11_difference_8 rfl rfl ?_
    refine aw_ldc2 dX11_difference_9 kc_X11_170 ?_
    refine aw_lcmp_ne (tgt := 22) dX11_difference_12 dX11_difference_13 (by decide) (fun hc1 => ?_) (fun hc1 => ?_)
    · have hf := ax_neg hc1 hf
      refine aw_lload_n dX11_difference_22 rfl rfl ?_
      refine aw_lload_n dX11_difference_23 rfl rfl ?_
      refine aw_lsub dX11_difference_24 ?_
      cases hf
      exact aw_lret dX11_difference_25 hq (Nat.le_refl _) (Nat.le_refl _)
    · have hf := ax_pos hc1 hf
      refine aw_ldc2 dX11_difference_16 kc_X11_170 ?_
      refine aw_goto (tgt := 25) dX11_difference_19 (by decide) ?_
      cases hf
      exact aw_lret dX11_difference_25 hq (Nat.le_refl _) (Nat.le_refl _)
noncomputable def f_X11_isRule (x0 : Int32) (s : sx_M) : Option (Int32 × sx_M) :=
  (if x0 < 0 then
 some ((0 : Int32), s)
else
 (if (3 : Int32) < x0 then
 some ((0 : Int32), s)
else
 some ((1 : Int32), s)))
set_option maxRecDepth 100000 in
set_option maxHeartbeats 4000000 in
theorem k_X11_isRule {l : Launch} {X : ax_X} {Q : Option Value → ax_H → Prop} (x0 : Int32) (s : sx_M) (gb : ax_H) {p : Int32 × sx_M} (hf : f_X11_isRule x0 s = some p) (hq : Q (some (.int p.1)) (hp p.2 gb)) : AM l X yX11_isRule cX11_isRule 1 (some .boolean) 0 0 0 [.int x0] (hp s gb) Q := by
  refine aw_met (own := RX11) (nm := "isRule") (L := [some (.int x0)]) (by decide +kernel) rfl rfl (And.intro rfl trivial) (Nat.le_of_ble_eq_true rfl) ?_
  unfold f_X11_isRule at hf
  refine aw_iload_n dX11_isRule_0 rfl rfl ?_
  refine aw_if_lt (tgt := 13) dX11_isRule_1 (by decide) (fun hc2 => ?_) (fun hc2 => ?_)
  · have hf := ax_pos hc2 hf
    refine aw_iconst (v := 0) dX11_isRule_13 (by decide) ?_
    cases hf
    exact aw_zret dX11_isRule_14 (by decide) hq (Nat.le_refl _) (Nat.le_refl _)
  · have hf := ax_neg hc2 hf
    refine aw_iload_n dX11_isRule_4 rfl rfl ?_
    refine aw_iconst (v := 3) dX11_isRule_5 (by decide) ?_
    refine aw_icmp_gt (tgt := 13) dX11_isRule_6 (by decide) (fun hc1 => ?_) (fun hc1 => ?_)
    · have hf := ax_pos hc1 hf
      refine aw_iconst (v := 0) dX11_isRule_13 (by decide) ?_
      cases hf
      exact aw_zret dX11_isRule_14 (by decide) hq (Nat.le_refl _) (Nat.le_refl _)
    · have hf := ax_neg hc1 hf
      refine aw_iconst (v := 1) dX11_isRule_9 (by decide) ?_
      refine aw_goto (tgt := 14) dX11_isRule_10 (by decide) ?_
      cases hf
      exact aw_zret dX11_isRule_14 (by decide) hq (Nat.le_refl _) (Nat.le_refl _)
noncomputable def f_X11_isStep (x0 : Int32) (s : sx_M) : Option (Int32 × sx_M) :=
  (if x0 < (1 : Int32) then
 some ((0 : Int32), s)
else
 (if (99 : Int32) < x0 then
 some ((0 : Int32), s)
else
 some ((1 : Int32), s)))
set_option maxRecDepth 100000 in
set_option maxHeartbeats 4000000 in
theorem k_X11_isStep {l : Launch} {X : ax_X} {Q : Option Value → ax_H → Prop} (x0 : Int32) (s : sx_M) (gb : ax_H) {p : Int32 × sx_M} (hf : f_X11_isStep x0 s = some p) (hq : Q (some (.int p.1)) (hp p.2 gb)) : AM l X yX11_isStep cX11_isStep 1 (some .boolean) 0 0 0 [.int x0] (hp s gb) Q := by
  refine aw_met (own := RX11) (nm := "isStep") (L := [some (.int x0)]) (by decide +kernel) rfl rfl (And.intro rfl trivial) (Nat.le_of_ble_eq_true rfl) ?_
  unfold f_X11_isStep at hf
  refine aw_iload_n dX11_isStep_0 rfl rfl ?_
  refine aw_iconst (v := 1) dX11_isStep_1 (by decide) ?_
  refine aw_icmp_lt (tgt := 15) dX11_isStep_2 (by decide) (fun hc2 => ?_) (fun hc2 => ?_)
  · have hf := ax_pos hc2 hf
    refine aw_iconst (v := 0) dX11_isStep_15 (by decide) ?_
    cases hf
    exact aw_zret dX11_isStep_16 (by decide) hq (Nat.le_refl _) (Nat.le_refl _)
  · have hf := ax_neg hc2 hf
    refine aw_iload_n dX11_isStep_5 rfl rfl ?_
    refine aw_bipush (v := 99) dX11_isStep_6 (by decide) ?_
    refine aw_icmp_gt (tgt := 15) dX11_isStep_8 (by decide) (fun hc1 => ?_) (fun hc1 => ?_)
    · have hf := ax_pos hc1 hf
      refine aw_iconst (v := 0) dX11_isStep_15 (by decide) ?_
      cases hf
      exact aw_zret dX11_isStep_16 (by decide) hq (Nat.le_refl _) (Nat.le_refl _)
    · have hf := ax_neg hc1 hf
      refine aw_iconst (v := 1) dX11_isStep_11 (by decide) ?_
      refine aw_goto (tgt := 16) dX11_isStep_12 (by decide) ?_
      cases hf
      exact aw_zret dX11_isStep_16 (by decide) hq (Nat.le_refl _) (Nat.le_refl _)
noncomputable def f_J9_floorDiv_7cf53 (x0 : Int32) (x1 : Int32) (s : sx_M) : Option (Int32 × sx_M) :=
  (if ¬ x1 = 0 then
 (if 0 ≤ (x0 ^^^ x1) then
 some ((x0 / x1), s)
else
 (if ((x0 / x1) * x1) = x0 then
 some ((x0 / x1), s)
else
 some (((x0 / x1) - (1 : Int32)), s)))
else none)
set_option maxRecDepth 100000 in
set_option maxHeartbeats 4000000 in
theorem k_J9_floorDiv_7cf53 {l : Launch} {X : ax_X} {Q : Option Value → ax_H → Prop} (x0 : Int32) (x1 : Int32) (s : sx_M) (gb : ax_H) {p : Int32 × sx_M} (hf : f_J9_floorDiv_7cf53 x0 x1 s = some p) (hq : Q (some (.int p.1)) (hp p.2 gb)) : AM l X yJ9_floorDiv_7cf53 cJ9_floorDiv_7cf53 3 (some .int) 0 0 0 [.int x0, .int x1] (hp s gb) Q := by
  refine aw_metF (own := RJ9) (nm := "floorDiv") (L := [some (.int x0), some (.int x1), none]) (by decide +kernel) rfl rfl (And.intro rfl (And.intro rfl trivial)) (Nat.le_of_ble_eq_true rfl) ?_
  unfold f_J9_floorDiv_7cf53 at hf
  refine aw_iload_n dJ9_floorDiv_7cf53_0 rfl rfl ?_
  refine aw_iload_n dJ9_floorDiv_7cf53_1 rfl rfl ?_
  obtain ⟨hc1, hf⟩ := ax_ite hf
  refine aw_idiv dJ9_floorDiv_7cf53_2 hc1 ?_
  refine aw_istore_n (L' := [some (.int x0), some (.int x1), some (.int (x0 / x1))]) dJ9_floorDiv_7cf53_3 rfl (by decide) rfl ?_
  refine aw_iload_n dJ9_floorDiv_7cf53_4 rfl rfl ?_
  refine aw_iload_n dJ9_floorDiv_7cf53_5 rfl rfl ?_
  refine aw_ixor dJ9_floorDiv_7cf53_6 ?_
  refine aw_if_ge (tgt := 21) dJ9_floorDiv_7cf53_7 (by decide) (fun hc3 => ?_) (fun hc3 => ?_)
  · have hf := ax_pos hc3 hf
    refine aw_iload_n dJ9_floorDiv_7cf53_21 rfl rfl ?_
    cases hf
    exact aw_iret dJ9_floorDiv_7cf53_22 hq (Nat.le_refl _) (Nat.le_refl _)
  · have hf := ax_neg hc3 hf
    refine aw_iload_n dJ9_floorDiv_7cf53_10 rfl rfl ?_
    refine aw_iload_n dJ9_floorDiv_7cf53_11 rfl rfl ?_
    refine aw_imul dJ9_floorDiv_7cf53_12 ?_
    refine aw_iload_n dJ9_floorDiv_7cf53_13 rfl rfl ?_
    refine aw_icmp_eq (tgt := 21) dJ9_floorDiv_7cf53_14 (by decide) (fun hc2 => ?_) (fun hc2 => ?_)
    · have hf := ax_pos hc2 hf
      refine aw_iload_n dJ9_floorDiv_7cf53_21 rfl rfl ?_
      cases hf
      exact aw_iret dJ9_floorDiv_7cf53_22 hq (Nat.le_refl _) (Nat.le_refl _)
    · have hf := ax_neg hc2 hf
      refine aw_iload_n dJ9_floorDiv_7cf53_17 rfl rfl ?_
      refine aw_iconst (v := 1) dJ9_floorDiv_7cf53_18 (by decide) ?_
      refine aw_isub dJ9_floorDiv_7cf53_19 ?_
      cases hf
      exact aw_iret dJ9_floorDiv_7cf53_20 hq (Nat.le_refl _) (Nat.le_refl _)
