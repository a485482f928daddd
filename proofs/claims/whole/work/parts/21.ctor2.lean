def hx_R : ax_H := [.inr (11, [.ref 1, .ref 3, .ref 5, .ref 9, .ref 13, .ref 15, .ref 19, .ref 20, .ref 42, .ref 46, .ref 49, .ref 53, .ref 55, .ref 56, .ref 57]), .inr (9, [.ref 2, .int 0]), .inl (.byte, 600, .inl (fun _ => 0)), .inr (1, [.ref 4, .int 0, .int 0]), .inl (.long, 56, .inr (.inl (fun _ => 0))), .inr (5, [.ref 3, .ref 6, .ref 7, .ref 8]), .inl (.int, 256, .inl (fun _ => 0)), .inl (.long, 256, .inr (.inl (fun _ => 0))), .inl (.long, 256, .inr (.inl (fun _ => 0))), .inr (4, [.ref 3, .ref 5, .ref 10, .ref 11, .int 0, .int 0, .long 0, .int 0, .ref 12, .int 0, .int 0, .int 0, .int 0]), .inl (.int, 200, .inl (fun _ => 0)), .inl (.long, 200, .inr (.inl (fun _ => 0))), .inl (.int, 64, .inl (fun _ => 0)), .inr (1, [.ref 14, .int 0, .int 0]), .inl (.long, 56, .inr (.inl (fun _ => 0))), .inr (5, [.ref 13, .ref 16, .ref 17, .ref 18]), .inl (.int, 256, .inl (fun _ => 0)), .inl (.long, 256, .inr (.inl (fun _ => 0))), .inl (.long, 256, .inr (.inl (fun _ => 0))), .inr (6, [.ref 1, .ref 13, .int 0, .int 0, .int 0, .int 0, .int 0, .int (-1)]), .inr (2, [.ref 21, .int 0, .int 0]), .inl (.object "NextBest$Grid", 10, .inr (.inr (.inr (.inr (va_up (va_up (va_up (va_up (va_up (va_up (va_up (va_up (va_up (va_up (fun _ => none) 0 (some 22)) 1 (some 24)) 2 (some 26)) 3 (some 28)) 4 (some 30)) 5 (some 32)) 6 (some 34)) 7 (some 36)) 8 (some 38)) 9 (some 40)))))), .inr (1, [.ref 23, .int 0, .int 0]), .inl (.long, 56, .inr (.inl (fun _ => 0))), .inr (1, [.ref 25, .int 0, .int 0]), .inl (.long, 56, .inr (.inl (fun _ => 0))), .inr (1, [.ref 27, .int 0, .int 0]), .inl (.long, 56, .inr (.inl (fun _ => 0))), .inr (1, [.ref 29, .int 0, .int 0]), .inl (.long, 56, .inr (.inl (fun _ => 0))), .inr (1, [.ref 31, .int 0, .int 0]), .inl (.long, 56, .inr (.inl (fun _ => 0))), .inr (1, [.ref 33, .int 0, .int 0]), .inl (.long, 56, .inr (.inl (fun _ => 0))), .inr (1, [.ref 35, .int 0, .int 0]), .inl (.long, 56, .inr (.inl (fun _ => 0))), .inr (1, [.ref 37, .int 0, .int 0]), .inl (.long, 56, .inr (.inl (fun _ => 0))), .inr (1, [.ref 39, .int 0, .int 0]), .inl (.long, 56, .inr (.inl (fun _ => 0))), .inr (1, [.ref 41, .int 0, .int 0]), .inl (.long, 56, .inr (.inl (fun _ => 0))), .inr (7, [.ref 3, .ref 13, .ref 15, .ref 43, .ref 44, .ref 45, .long 0, .long 0]), .inl (.long, 256, .inr (.inl (fun _ => 0))), .inl (.int, 7, .inl (fun _ => 0)), .inl (.int, 7, .inl (fun _ => 0)), .inr (0, [.ref 3, .ref 47, .ref 48, .long 0, .int 0, .int 0, .long 0, .int 0, .int 0]), .inl (.int, 7, .inl (fun _ => 0)), .inl (.int, 8, .inl (fun _ => 0)), .inr (8, [.ref 3, .ref 50, .ref 51, .ref 52, .int 0, .int 0]), .inl (.long, 8, .inr (.inl (fun _ => 0))), .inl (.int, 7, .inl (fun _ => 0)), .inl (.int, 7, .inl (fun _ => 0)), .inr (3, [.ref 3, .ref 54, .int 0, .long 0, .int 0]), .inl (.int, 7, .inl (fun _ => 0)), .inr (10, [.int 0, .int 0, .int 0, .int 0, .int 0]), .inl (.int, 7, .inl (fun _ => 0)), .inl (.int, 7, .inl (fun _ => 0))]
def hx_F : ax_H := [.inr (11, [.ref 1, .ref 3, .ref 5, .ref 9, .ref 13, .ref 15, .ref 19, .ref 20, .ref 42, .ref 46, .ref 49, .ref 53, .ref 55, .ref 56, .ref 57]), .inr (9, [.ref 2, .int 0]), .inl (.byte, 600, .inl (fun _ => 0)), .inr (1, [.ref 4, .int 0, .int 0]), .inl (.long, 56, .inr (.inl (fun _ => 0))), .inr (5, [.ref 3, .ref 6, .ref 7, .ref 8]), .inl (.int, 256, .inl (upd (fun _ => 0) 0 1)), .inl (.long, 256, .inr (.inl (vp_updL (fun _ => 0) 0 0))), .inl (.long, 256, .inr (.inl (vp_updL (fun _ => 0) 0 0))), .inr (4, [.ref 3, .ref 5, .ref 10, .ref 11, .int 0, .int 0, .long 0, .int 0, .ref 12, .int 0, .int 0, .int 0, .int 0]), .inl (.int, 200, .inl (fun _ => 0)), .inl (.long, 200, .inr (.inl (fun _ => 0))), .inl (.int, 64, .inl (fun _ => 0)), .inr (1, [.ref 14, .int 0, .int 0]), .inl (.long, 56, .inr (.inl (fun _ => 0))), .inr (5, [.ref 13, .ref 16, .ref 17, .ref 18]), .inl (.int, 256, .inl (fun _ => 0)), .inl (.long, 256, .inr (.inl (fun _ => 0))), .inl (.long, 256, .inr (.inl (fun _ => 0))), .inr (6, [.ref 1, .ref 13, .int 0, .int 0, .int 0, .int 0, .int 0, .int (-1)]), .inr (2, [.ref 21, .int 0, .int 0]), .inl (.object "NextBest$Grid", 10, .inr (.inr (.inr (.inr (va_up (va_up (va_up (va_up (va_up (va_up (va_up (va_up (va_up (va_up (fun _ => none) 0 (some 22)) 1 (some 24)) 2 (some 26)) 3 (some 28)) 4 (some 30)) 5 (some 32)) 6 (some 34)) 7 (some 36)) 8 (some 38)) 9 (some 40)))))), .inr (1, [.ref 23, .int 0, .int 0]), .inl (.long, 56, .inr (.inl (fun _ => 0))), .inr (1, [.ref 25, .int 0, .int 0]), .inl (.long, 56, .inr (.inl (fun _ => 0))), .inr (1, [.ref 27, .int 0, .int 0]), .inl (.long, 56, .inr (.inl (fun _ => 0))), .inr (1, [.ref 29, .int 0, .int 0]), .inl (.long, 56, .inr (.inl (fun _ => 0))), .inr (1, [.ref 31, .int 0, .int 0]), .inl (.long, 56, .inr (.inl (fun _ => 0))), .inr (1, [.ref 33, .int 0, .int 0]), .inl (.long, 56, .inr (.inl (fun _ => 0))), .inr (1, [.ref 35, .int 0, .int 0]), .inl (.long, 56, .inr (.inl (fun _ => 0))), .inr (1, [.ref 37, .int 0, .int 0]), .inl (.long, 56, .inr (.inl (fun _ => 0))), .inr (1, [.ref 39, .int 0, .int 0]), .inl (.long, 56, .inr (.inl (fun _ => 0))), .inr (1, [.ref 41, .int 0, .int 0]), .inl (.long, 56, .inr (.inl (fun _ => 0))), .inr (7, [.ref 3, .ref 13, .ref 15, .ref 43, .ref 44, .ref 45, .long 0, .long 0]), .inl (.long, 256, .inr (.inl (fun _ => 0))), .inl (.int, 7, .inl (fun _ => 0)), .inl (.int, 7, .inl (fun _ => 0)), .inr (0, [.ref 3, .ref 47, .ref 48, .long 0, .int 0, .int 0, .long 0, .int 0, .int 0]), .inl (.int, 7, .inl (fun _ => 0)), .inl (.int, 8, .inl (fun _ => 0)), .inr (8, [.ref 3, .ref 50, .ref 51, .ref 52, .int 0, .int 0]), .inl (.long, 8, .inr (.inl (fun _ => 0))), .inl (.int, 7, .inl (fun _ => 0)), .inl (.int, 7, .inl (fun _ => 0)), .inr (3, [.ref 3, .ref 54, .int 0, .long 0, .int 0]), .inl (.int, 7, .inl (fun _ => 0)), .inr (10, [.int 0, .int 0, .int 0, .int 0, .int 0]), .inl (.int, 7, .inl (fun _ => 0)), .inl (.int, 7, .inl (fun _ => 0))]
theorem aw_toi {l : Launch} {X : ax_X} {own nm : String} {cc : ByteArray} {nL : Nat} {ret : Option FieldType} {R : Room} {QF : List Frame → Array Value → State → State → Prop} {cells slots pc : Nat} {L : List (Option Value)} {st : List Value} {h : ax_H} {x y : Int32} (e : x = y) (K : AW l X own nm cc nL ret R QF cells slots pc L (.int y :: st) h) : AW l X own nm cc nL ret R QF cells slots pc L (.int x :: st) h := e ▸ K
set_option maxRecDepth 100000 in
set_option maxHeartbeats 4000000 in
theorem kc_bits {l : Launch} {X : ax_X} {h : ax_H} {Q : Option Value → ax_H → Prop} (hq : Q (some (.int 0)) h) : AM l X yJ6_bitCount_0f7a4 cJ6_bitCount_0f7a4 1 (some .int) 0 0 0 [.int 0] h Q := by
  refine aw_metF (own := RJ6) (nm := "bitCount") (L := [some (.int 0)]) (by decide +kernel) rfl rfl (And.intro rfl trivial) (Nat.le_of_ble_eq_true rfl) ?_
  refine aw_iload_n dJ6_bitCount_0f7a4_0 rfl rfl ?_
  refine aw_iload_n dJ6_bitCount_0f7a4_1 rfl rfl ?_
  refine aw_iconst (v := 1) dJ6_bitCount_0f7a4_2 (by decide) ?_
  refine aw_iushr dJ6_bitCount_0f7a4_3 ?_
  refine aw_toi (y := 0) (by decide) ?_
  refine aw_ldcw dJ6_bitCount_0f7a4_4 kc_J6_265 ?_
  refine aw_iand dJ6_bitCount_0f7a4_7 ?_
  refine aw_toi (y := 0) (by decide) ?_
  refine aw_isub dJ6_bitCount_0f7a4_8 ?_
  refine aw_toi (y := 0) (by decide) ?_
  refine aw_istore_n (L' := [some (.int (0))]) dJ6_bitCount_0f7a4_9 rfl (by decide) rfl ?_
  refine aw_iload_n dJ6_bitCount_0f7a4_10 rfl rfl ?_
  refine aw_ldcw dJ6_bitCount_0f7a4_11 kc_J6_266 ?_
  refine aw_iand dJ6_bitCount_0f7a4_14 ?_
  refine aw_toi (y := 0) (by decide) ?_
  refine aw_iload_n dJ6_bitCount_0f7a4_15 rfl rfl ?_
  refine aw_iconst (v := 2) dJ6_bitCount_0f7a4_16 (by decide) ?_
  refine aw_iushr dJ6_bitCount_0f7a4_17 ?_
  refine aw_toi (y := 0) (by decide) ?_
  refine aw_ldcw dJ6_bitCount_0f7a4_18 kc_J6_266 ?_
  refine aw_iand dJ6_bitCount_0f7a4_21 ?_
  refine aw_toi (y := 0) (by decide) ?_
  refine aw_iadd dJ6_bitCount_0f7a4_22 ?_
  refine aw_toi (y := 0) (by decide) ?_
  refine aw_istore_n (L' := [some (.int (0))]) dJ6_bitCount_0f7a4_23 rfl (by decide) rfl ?_
  refine aw_iload_n dJ6_bitCount_0f7a4_24 rfl rfl ?_
  refine aw_iload_n dJ6_bitCount_0f7a4_25 rfl rfl ?_
  refine aw_iconst (v := 4) dJ6_bitCount_0f7a4_26 (by decide) ?_
  refine aw_iushr dJ6_bitCount_0f7a4_27 ?_
  refine aw_toi (y := 0) (by decide) ?_
  refine aw_iadd dJ6_bitCount_0f7a4_28 ?_
  refine aw_toi (y := 0) (by decide) ?_
  refine aw_ldcw dJ6_bitCount_0f7a4_29 kc_J6_267 ?_
  refine aw_iand dJ6_bitCount_0f7a4_32 ?_
  refine aw_toi (y := 0) (by decide) ?_
  refine aw_istore_n (L' := [some (.int (0))]) dJ6_bitCount_0f7a4_33 rfl (by decide) rfl ?_
  refine aw_iload_n dJ6_bitCount_0f7a4_34 rfl rfl ?_
  refine aw_iload_n dJ6_bitCount_0f7a4_35 rfl rfl ?_
  refine aw_bipush (v := 8) dJ6_bitCount_0f7a4_36 (by decide) ?_
  refine aw_iushr dJ6_bitCount_0f7a4_38 ?_
  refine aw_toi (y := 0) (by decide) ?_
  refine aw_iadd dJ6_bitCount_0f7a4_39 ?_
  refine aw_toi (y := 0) (by decide) ?_
  refine aw_istore_n (L' := [some (.int (0))]) dJ6_bitCount_0f7a4_40 rfl (by decide) rfl ?_
  refine aw_iload_n dJ6_bitCount_0f7a4_41 rfl rfl ?_
  refine aw_iload_n dJ6_bitCount_0f7a4_42 rfl rfl ?_
  refine aw_bipush (v := 16) dJ6_bitCount_0f7a4_43 (by decide) ?_
  refine aw_iushr dJ6_bitCount_0f7a4_45 ?_
  refine aw_toi (y := 0) (by decide) ?_
  refine aw_iadd dJ6_bitCount_0f7a4_46 ?_
  refine aw_toi (y := 0) (by decide) ?_
  refine aw_istore_n (L' := [some (.int (0))]) dJ6_bitCount_0f7a4_47 rfl (by decide) rfl ?_
  refine aw_iload_n dJ6_bitCount_0f7a4_48 rfl rfl ?_
  refine aw_bipush (v := 63) dJ6_bitCount_0f7a4_49 (by decide) ?_
  refine aw_iand dJ6_bitCount_0f7a4_51 ?_
  refine aw_toi (y := 0) (by decide) ?_
  exact aw_iret dJ6_bitCount_0f7a4_52 hq (Nat.le_refl _) (Nat.le_refl _)
set_option maxRecDepth 100000 in
set_option maxHeartbeats 4000000 in
theorem kc_settle {l : Launch} {X : ax_X} {Q : Option Value → ax_H → Prop} (hq : Q none hx_F) : AM l X yX5_settle cX5_settle 13 none 1 0 0 [.ref 5, .int 0, .int 0] hx_R Q := by
  refine aw_met (own := RX5) (nm := "settle") (L := [some (.ref 5), some (.int (0)), some (.int (0)), none, none, none, none, none, none, none, none, none, none]) (by decide +kernel) rfl rfl (And.intro rfl (And.intro rfl (And.intro rfl trivial))) (Nat.le_of_ble_eq_true rfl) ?_
  refine aw_iload_n dX5_settle_0 rfl rfl ?_
  refine aw_aload_n dX5_settle_1 rfl rfl ?_
  refine aw_get dX5_settle_2 fl_X5_22 rfl rfl ?_
  refine aw_get dX5_settle_5 fl_X5_42 rfl rfl ?_
  refine aw_icmp_lt (tgt := 15) dX5_settle_8 (by decide) (fun hc => absurd hc (by decide)) (fun _ => ?_)
  refine aw_iconst (v := 1) dX5_settle_11 (by decide) ?_
  refine aw_goto (tgt := 16) dX5_settle_12 (by decide) ?_
  refine aw_istore_n (L' := [some (.ref 5), some (.int (0)), some (.int (0)), some (.int (1)), none, none, none, none, none, none, none, none, none]) dX5_settle_16 rfl (by decide) rfl ?_
  refine aw_iload_n dX5_settle_17 rfl rfl ?_
  refine aw_aload_n dX5_settle_18 rfl rfl ?_
  refine aw_get dX5_settle_19 fl_X5_22 rfl rfl ?_
  refine aw_get dX5_settle_22 fl_X5_42 rfl rfl ?_
  refine aw_icmp_ne (tgt := 32) dX5_settle_25 (by decide) (fun hc => absurd hc (by decide)) (fun _ => ?_)
  refine aw_iconst (v := 1) dX5_settle_28 (by decide) ?_
  refine aw_goto (tgt := 33) dX5_settle_29 (by decide) ?_
  refine aw_istore (L' := [some (.ref 5), some (.int (0)), some (.int (0)), some (.int (1)), some (.int (1)), none, none, none, none, none, none, none, none]) dX5_settle_33 (by decide) rfl ?_
  refine aw_iload_n dX5_settle_35 rfl rfl ?_
  refine aw_if_eq (tgt := 43) dX5_settle_36 (by decide) (fun hc => absurd hc (by decide)) (fun _ => ?_)
  refine aw_lconst (v := 0) dX5_settle_39 (by decide) ?_
  refine aw_goto (tgt := 46) dX5_settle_40 (by decide) ?_
  refine aw_lstore (L' := [some (.ref 5), some (.int (0)), some (.int (0)), some (.int (1)), some (.int (1)), some (.long (0)), none, none, none, none, none, none, none]) dX5_settle_46 (by decide) rfl ?_
  refine aw_iload_n dX5_settle_48 rfl rfl ?_
  refine aw_if_eq (tgt := 56) dX5_settle_49 (by decide) (fun hc => absurd hc (by decide)) (fun _ => ?_)
  refine aw_lconst (v := 0) dX5_settle_52 (by decide) ?_
  refine aw_goto (tgt := 59) dX5_settle_53 (by decide) ?_
  refine aw_lstore (L' := [some (.ref 5), some (.int (0)), some (.int (0)), some (.int (1)), some (.int (1)), some (.long (0)), none, some (.long (0)), none, none, none, none, none]) dX5_settle_59 (by decide) rfl ?_
  refine aw_iconst (v := 0) dX5_settle_61 (by decide) ?_
  refine aw_istore (L' := [some (.ref 5), some (.int (0)), some (.int (0)), some (.int (1)), some (.int (1)), some (.long (0)), none, some (.long (0)), none, some (.int (0)), none, none, none]) dX5_settle_62 (by decide) rfl ?_
  refine aw_iload_n dX5_settle_64 rfl rfl ?_
  refine aw_if_ne (tgt := 177) dX5_settle_65 (by decide) (fun _ => ?_) (fun hc => absurd hc (by decide))
  refine aw_aload_n dX5_settle_177 rfl rfl ?_
  refine aw_get dX5_settle_178 fl_X5_9 rfl rfl ?_
  refine aw_iload_n dX5_settle_181 rfl rfl ?_
  refine aw_iload dX5_settle_182 rfl ?_
  refine aw_iast dX5_settle_184 rfl (by unfold vp_in; decide) ?_
  refine aw_aload_n dX5_settle_185 rfl rfl ?_
  refine aw_get dX5_settle_186 fl_X5_15 rfl rfl ?_
  refine aw_iload_n dX5_settle_189 rfl rfl ?_
  refine aw_lload dX5_settle_190 rfl ?_
  refine aw_last dX5_settle_192 rfl (by unfold vp_in; decide) ?_
  refine aw_aload_n dX5_settle_193 rfl rfl ?_
  refine aw_get dX5_settle_194 fl_X5_19 rfl rfl ?_
  refine aw_iload_n dX5_settle_197 rfl rfl ?_
  refine aw_lload dX5_settle_198 rfl ?_
  refine aw_last dX5_settle_200 rfl (by unfold vp_in; decide) ?_
  exact aw_vret dX5_settle_201 hq (Nat.le_of_ble_eq_true rfl) (Nat.le_of_ble_eq_true rfl)
set_option maxRecDepth 100000 in
set_option maxHeartbeats 4000000 in
theorem kc_refresh {l : Launch} {X : ax_X} {Q : Option Value → ax_H → Prop} (hq : Q none hx_F) : AM l X yX5_refresh cX5_refresh 2 none 2 0 0 [.ref 5] hx_R Q := by
  refine aw_met (own := RX5) (nm := "refresh") (L := [some (.ref 5), none]) (by decide +kernel) rfl rfl (And.intro rfl trivial) (Nat.le_of_ble_eq_true rfl) ?_
  refine aw_iconst (v := 1) dX5_refresh_0 (by decide) ?_
  refine aw_aload_n dX5_refresh_1 rfl rfl ?_
  refine aw_get dX5_refresh_2 fl_X5_22 rfl rfl ?_
  refine aw_get dX5_refresh_5 fl_X5_26 rfl rfl ?_
  refine aw_ishl dX5_refresh_8 ?_
  refine aw_toi (y := 1) (by decide) ?_
  refine aw_iconst (v := 1) dX5_refresh_9 (by decide) ?_
  refine aw_isub dX5_refresh_10 ?_
  refine aw_toi (y := 0) (by decide) ?_
  refine aw_istore_n (L' := [some (.ref 5), some (.int (0))]) dX5_refresh_11 rfl (by decide) rfl ?_
  refine aw_iload_n dX5_refresh_12 rfl rfl ?_
  refine aw_if_lt (tgt := 31) dX5_refresh_13 (by decide) (fun hc => absurd hc (by decide)) (fun _ => ?_)
  refine aw_aload_n dX5_refresh_16 rfl rfl ?_
  refine aw_iload_n dX5_refresh_17 rfl rfl ?_
  refine aw_iload_n dX5_refresh_18 rfl rfl ?_
  refine aw_cSi (As := [.int 0]) (st := [.int (0), .ref 5]) (r := 0) (h1 := hx_R) dX5_refresh_19 cl_X5_32 st_J6_bitCount_0f7a4 (kc_bits ⟨rfl, rfl⟩) rfl rfl (Nat.le_of_ble_eq_true rfl) rfl (by decide) (by decide) ?_
  refine aw_cVv (b := 5) (As := [.int 0, .int 0]) (st := []) (h1 := hx_F) dX5_refresh_22 cl_X5_38 iv_X5_settle (kc_settle ⟨rfl, rfl⟩) (ci := 5) rfl rfl rfl rfl rfl (Nat.le_of_ble_eq_true rfl) rfl (by decide) (by decide) ?_
  refine aw_iinc (v := -1) (L' := [some (.ref 5), some (.int (-1))]) dX5_refresh_25 rfl (by decide) (by decide) rfl ?_
  refine aw_goto (tgt := 12) dX5_refresh_28 (by decide) ?_
  refine aw_iload_n dX5_refresh_12 rfl rfl ?_
  refine aw_if_lt (tgt := 31) dX5_refresh_13 (by decide) (fun _ => ?_) (fun hc => absurd hc (by decide))
  exact aw_vret dX5_refresh_31 hq (Nat.le_of_ble_eq_true rfl) (Nat.le_of_ble_eq_true rfl)
