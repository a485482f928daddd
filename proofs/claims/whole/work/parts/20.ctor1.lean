theorem ax_gl {h t : ax_H} {k : Nat} {c : ax_E} (hc : h[k]? = some c) : (h ++ t)[k]? = some c := by rw [List.getElem?_append_left (List.getElem?_eq_some_iff.mp hc).1]; exact hc
theorem ax_gs {h : ax_H} {k : Nat} {c c' : ax_E} (hc : h[k]? = some c) : (h.set k c')[k]? = some c' := List.getElem?_set_self (List.getElem?_eq_some_iff.mp hc).1
theorem ax_gn {h : ax_H} {k j : Nat} {c c' : ax_E} (hc : h[j]? = some c) (hn : k ≠ j) : (h.set k c')[j]? = some c := by rw [List.getElem?_set_ne hn]; exact hc
theorem aw_nk_int {l : Launch} {X : ax_X} {own nm : String} {cc : ByteArray} {nL : Nat} {ret : Option FieldType} {R : Room} {QF : List Frame → Array Value → State → State → Prop} {cells slots pc : Nat} {L : List (Option Value)} {st : List Value} {h : ax_H} {n : Int32} {N D mcR msR : Nat} (k : Nat) (hk : h.length = k) (hd : decode cc pc = .ok (.newarray .int, 2)) (hn : ¬ n < 0) (hN : n.toNatClampNeg = N) (hb : N ≤ 65536) (hR : R = ax_rm D mcR msR) (hmc : cells + 1 ≤ mcR) (hms : slots + N ≤ msR) (K : AW l X own nm cc nL ret R QF (cells + 1) (slots + N) (pc + 2) L (.ref k :: st) (h ++ [.inl (.int, N, .inl (fun _ => 0))])) : AW l X own nm cc nL ret R QF cells slots pc L (.int n :: st) h := by
  subst hk
  exact aw_new_int hd hn hN hb hR hmc hms K
theorem aw_nk_byte {l : Launch} {X : ax_X} {own nm : String} {cc : ByteArray} {nL : Nat} {ret : Option FieldType} {R : Room} {QF : List Frame → Array Value → State → State → Prop} {cells slots pc : Nat} {L : List (Option Value)} {st : List Value} {h : ax_H} {n : Int32} {N D mcR msR : Nat} (k : Nat) (hk : h.length = k) (hd : decode cc pc = .ok (.newarray .byte, 2)) (hn : ¬ n < 0) (hN : n.toNatClampNeg = N) (hb : N ≤ 65536) (hR : R = ax_rm D mcR msR) (hmc : cells + 1 ≤ mcR) (hms : slots + N ≤ msR) (K : AW l X own nm cc nL ret R QF (cells + 1) (slots + N) (pc + 2) L (.ref k :: st) (h ++ [.inl (.byte, N, .inl (fun _ => 0))])) : AW l X own nm cc nL ret R QF cells slots pc L (.int n :: st) h := by
  subst hk
  exact aw_new_byte hd hn hN hb hR hmc hms K
theorem aw_nk_long {l : Launch} {X : ax_X} {own nm : String} {cc : ByteArray} {nL : Nat} {ret : Option FieldType} {R : Room} {QF : List Frame → Array Value → State → State → Prop} {cells slots pc : Nat} {L : List (Option Value)} {st : List Value} {h : ax_H} {n : Int32} {N D mcR msR : Nat} (k : Nat) (hk : h.length = k) (hd : decode cc pc = .ok (.newarray .long, 2)) (hn : ¬ n < 0) (hN : n.toNatClampNeg = N) (hb : N ≤ 65536) (hR : R = ax_rm D mcR msR) (hmc : cells + 1 ≤ mcR) (hms : slots + N ≤ msR) (K : AW l X own nm cc nL ret R QF (cells + 1) (slots + N) (pc + 2) L (.ref k :: st) (h ++ [.inl (.long, N, .inr (.inl (fun _ => 0)))])) : AW l X own nm cc nL ret R QF cells slots pc L (.int n :: st) h := by
  subst hk
  exact aw_new_long hd hn hN hb hR hmc hms K
set_option maxRecDepth 100000 in
set_option maxHeartbeats 4000000 in
theorem k_X9_init {l : Launch} {X : ax_X} {Q : Option Value → ax_H → Prop} (k0 n0 : Nat) (h : ax_H) (hn : h.length = n0) (hc : h[k0]? = some (.inr (9, [.null, .int 0]))) (hq : Q none ((h ++ ([.inl (.byte, 600, .inl (fun _ => 0))] : ax_H)).set k0 (.inr (9, (([.null, .int 0] : List Value).set 0 (Value.ref n0)))))) : AM l X yX9_init cX9_init 1 none 1 1 600 [.ref k0] h Q := by
  refine aw_met (own := RX9) (nm := "<init>") (L := [some (.ref k0)]) (by decide +kernel) rfl rfl (And.intro rfl trivial) (Nat.le_of_ble_eq_true rfl) ?_
  refine aw_aload_n dX9_init_0 rfl rfl ?_
  refine aw_oinit dX9_init_1 xm_X9_3 rfl (by decide) (Nat.le_of_ble_eq_true rfl) ?_
  refine aw_aload_n dX9_init_4 rfl rfl ?_
  refine aw_sipush (v := 600) dX9_init_5 (by decide) ?_
  refine aw_nk_byte n0 hn (N := 600) dX9_init_8 (by decide +kernel) (by decide +kernel) (Nat.le_of_ble_eq_true rfl) rfl (Nat.le_of_ble_eq_true rfl) (Nat.le_of_ble_eq_true rfl) ?_
  refine aw_put true dX9_init_10 fp_X9_11 (fun _ => rfl) (ax_gl hc) (Nat.le_of_ble_eq_true rfl) rfl rfl ?_
  exact aw_vret dX9_init_13 hq (Nat.le_refl _) (Nat.le_refl _)
set_option maxRecDepth 100000 in
set_option maxHeartbeats 4000000 in
theorem k_X1_init {l : Launch} {X : ax_X} {Q : Option Value → ax_H → Prop} (k0 n0 : Nat) (h : ax_H) (hn : h.length = n0) (hc : h[k0]? = some (.inr (1, [.null, .int 0, .int 0]))) (hq : Q none ((h ++ ([.inl (.long, 56, .inr (.inl (fun _ => 0)))] : ax_H)).set k0 (.inr (1, (([.null, .int 0, .int 0] : List Value).set 0 (Value.ref n0)))))) : AM l X yX1_init cX1_init 1 none 1 1 56 [.ref k0] h Q := by
  refine aw_met (own := RX1) (nm := "<init>") (L := [some (.ref k0)]) (by decide +kernel) rfl rfl (And.intro rfl trivial) (Nat.le_of_ble_eq_true rfl) ?_
  refine aw_aload_n dX1_init_0 rfl rfl ?_
  refine aw_oinit dX1_init_1 xm_X1_3 rfl (by decide) (Nat.le_of_ble_eq_true rfl) ?_
  refine aw_aload_n dX1_init_4 rfl rfl ?_
  refine aw_bipush (v := 56) dX1_init_5 (by decide) ?_
  refine aw_nk_long n0 hn (N := 56) dX1_init_7 (by decide +kernel) (by decide +kernel) (Nat.le_of_ble_eq_true rfl) rfl (Nat.le_of_ble_eq_true rfl) (Nat.le_of_ble_eq_true rfl) ?_
  refine aw_put true dX1_init_9 fp_X1_9 (fun _ => rfl) (ax_gl hc) (Nat.le_of_ble_eq_true rfl) rfl rfl ?_
  exact aw_vret dX1_init_12 hq (Nat.le_refl _) (Nat.le_refl _)
set_option maxRecDepth 100000 in
set_option maxHeartbeats 4000000 in
theorem k_X5_init {l : Launch} {X : ax_X} {Q : Option Value → ax_H → Prop} (k0 r1 n0 : Nat) (h : ax_H) (hn : h.length = n0) (hc : h[k0]? = some (.inr (5, [.null, .null, .null, .null]))) (hq : Q none (((((((h ++ ([.inl (.int, 256, .inl (fun _ => 0))] : ax_H)).set k0 (.inr (5, (([.null, .null, .null, .null] : List Value).set 1 (Value.ref n0))))) ++ ([.inl (.long, 256, .inr (.inl (fun _ => 0)))] : ax_H)).set k0 (.inr (5, ((([.null, .null, .null, .null] : List Value).set 1 (Value.ref n0)).set 2 (Value.ref (n0 + 1)))))) ++ ([.inl (.long, 256, .inr (.inl (fun _ => 0)))] : ax_H)).set k0 (.inr (5, (((([.null, .null, .null, .null] : List Value).set 1 (Value.ref n0)).set 2 (Value.ref (n0 + 1))).set 3 (Value.ref (n0 + 2)))))).set k0 (.inr (5, ((((([.null, .null, .null, .null] : List Value).set 1 (Value.ref n0)).set 2 (Value.ref (n0 + 1))).set 3 (Value.ref (n0 + 2))).set 0 (Value.ref r1)))))) : AM l X yX5_init cX5_init 2 none 1 3 768 [.ref k0, .ref r1] h Q := by
  refine aw_met (own := RX5) (nm := "<init>") (L := [some (.ref k0), some (.ref r1)]) (by decide +kernel) rfl rfl (And.intro rfl (And.intro rfl trivial)) (Nat.le_of_ble_eq_true rfl) ?_
  refine aw_aload_n dX5_init_0 rfl rfl ?_
  refine aw_oinit dX5_init_1 xm_X5_3 rfl (by decide) (Nat.le_of_ble_eq_true rfl) ?_
  refine aw_aload_n dX5_init_4 rfl rfl ?_
  refine aw_sipush (v := 256) dX5_init_5 (by decide) ?_
  refine aw_nk_int n0 hn (N := 256) dX5_init_8 (by decide +kernel) (by decide +kernel) (Nat.le_of_ble_eq_true rfl) rfl (Nat.le_of_ble_eq_true rfl) (Nat.le_of_ble_eq_true rfl) ?_
  refine aw_put true dX5_init_10 fp_X5_9 (fun _ => rfl) (ax_gl hc) (Nat.le_of_ble_eq_true rfl) rfl rfl ?_
  refine aw_aload_n dX5_init_13 rfl rfl ?_
  refine aw_sipush (v := 256) dX5_init_14 (by decide) ?_
  refine aw_nk_long (n0 + 1) (by simp [hn]) (N := 256) dX5_init_17 (by decide +kernel) (by decide +kernel) (Nat.le_of_ble_eq_true rfl) rfl (Nat.le_of_ble_eq_true rfl) (Nat.le_of_ble_eq_true rfl) ?_
  refine aw_put true dX5_init_19 fp_X5_15 (fun _ => rfl) (ax_gl (ax_gs (ax_gl hc))) (Nat.le_of_ble_eq_true rfl) rfl rfl ?_
  refine aw_aload_n dX5_init_22 rfl rfl ?_
  refine aw_sipush (v := 256) dX5_init_23 (by decide) ?_
  refine aw_nk_long (n0 + 2) (by simp [hn]) (N := 256) dX5_init_26 (by decide +kernel) (by decide +kernel) (Nat.le_of_ble_eq_true rfl) rfl (Nat.le_of_ble_eq_true rfl) (Nat.le_of_ble_eq_true rfl) ?_
  refine aw_put true dX5_init_28 fp_X5_19 (fun _ => rfl) (ax_gl (ax_gs (ax_gl (ax_gs (ax_gl hc))))) (Nat.le_of_ble_eq_true rfl) rfl rfl ?_
  refine aw_aload_n dX5_init_31 rfl rfl ?_
  refine aw_aload_n dX5_init_32 rfl rfl ?_
  refine aw_put true dX5_init_33 fp_X5_22 (fun _ => rfl) (ax_gs (ax_gl (ax_gs (ax_gl (ax_gs (ax_gl hc)))))) (Nat.le_of_ble_eq_true rfl) rfl rfl ?_
  exact aw_vret dX5_init_36 hq (Nat.le_refl _) (Nat.le_refl _)
set_option maxRecDepth 100000 in
set_option maxHeartbeats 4000000 in
theorem k_X4_init {l : Launch} {X : ax_X} {Q : Option Value → ax_H → Prop} (k0 r1 r2 n0 : Nat) (h : ax_H) (hn : h.length = n0) (hc : h[k0]? = some (.inr (4, [.null, .null, .null, .null, .int 0, .int 0, .long 0, .int 0, .null, .int 0, .int 0, .int 0, .int 0]))) (hq : Q none ((((((((h ++ ([.inl (.int, 200, .inl (fun _ => 0))] : ax_H)).set k0 (.inr (4, (([.null, .null, .null, .null, .int 0, .int 0, .long 0, .int 0, .null, .int 0, .int 0, .int 0, .int 0] : List Value).set 2 (Value.ref n0))))) ++ ([.inl (.long, 200, .inr (.inl (fun _ => 0)))] : ax_H)).set k0 (.inr (4, ((([.null, .null, .null, .null, .int 0, .int 0, .long 0, .int 0, .null, .int 0, .int 0, .int 0, .int 0] : List Value).set 2 (Value.ref n0)).set 3 (Value.ref (n0 + 1)))))) ++ ([.inl (.int, 64, .inl (fun _ => 0))] : ax_H)).set k0 (.inr (4, (((([.null, .null, .null, .null, .int 0, .int 0, .long 0, .int 0, .null, .int 0, .int 0, .int 0, .int 0] : List Value).set 2 (Value.ref n0)).set 3 (Value.ref (n0 + 1))).set 8 (Value.ref (n0 + 2)))))).set k0 (.inr (4, ((((([.null, .null, .null, .null, .int 0, .int 0, .long 0, .int 0, .null, .int 0, .int 0, .int 0, .int 0] : List Value).set 2 (Value.ref n0)).set 3 (Value.ref (n0 + 1))).set 8 (Value.ref (n0 + 2))).set 0 (Value.ref r1))))).set k0 (.inr (4, (((((([.null, .null, .null, .null, .int 0, .int 0, .long 0, .int 0, .null, .int 0, .int 0, .int 0, .int 0] : List Value).set 2 (Value.ref n0)).set 3 (Value.ref (n0 + 1))).set 8 (Value.ref (n0 + 2))).set 0 (Value.ref r1)).set 1 (Value.ref r2)))))) : AM l X yX4_init cX4_init 3 none 1 3 464 [.ref k0, .ref r1, .ref r2] h Q := by
  refine aw_met (own := RX4) (nm := "<init>") (L := [some (.ref k0), some (.ref r1), some (.ref r2)]) (by decide +kernel) rfl rfl (And.intro rfl (And.intro rfl (And.intro rfl trivial))) (Nat.le_of_ble_eq_true rfl) ?_
  refine aw_aload_n dX4_init_0 rfl rfl ?_
  refine aw_oinit dX4_init_1 xm_X4_3 rfl (by decide) (Nat.le_of_ble_eq_true rfl) ?_
  refine aw_aload_n dX4_init_4 rfl rfl ?_
  refine aw_sipush (v := 200) dX4_init_5 (by decide) ?_
  refine aw_nk_int n0 hn (N := 200) dX4_init_8 (by decide +kernel) (by decide +kernel) (Nat.le_of_ble_eq_true rfl) rfl (Nat.le_of_ble_eq_true rfl) (Nat.le_of_ble_eq_true rfl) ?_
  refine aw_put true dX4_init_10 fp_X4_9 (fun _ => rfl) (ax_gl hc) (Nat.le_of_ble_eq_true rfl) rfl rfl ?_
  refine aw_aload_n dX4_init_13 rfl rfl ?_
  refine aw_sipush (v := 200) dX4_init_14 (by decide) ?_
  refine aw_nk_long (n0 + 1) (by simp [hn]) (N := 200) dX4_init_17 (by decide +kernel) (by decide +kernel) (Nat.le_of_ble_eq_true rfl) rfl (Nat.le_of_ble_eq_true rfl) (Nat.le_of_ble_eq_true rfl) ?_
  refine aw_put true dX4_init_19 fp_X4_15 (fun _ => rfl) (ax_gl (ax_gs (ax_gl hc))) (Nat.le_of_ble_eq_true rfl) rfl rfl ?_
  refine aw_aload_n dX4_init_22 rfl rfl ?_
  refine aw_bipush (v := 64) dX4_init_23 (by decide) ?_
  refine aw_nk_int (n0 + 2) (by simp [hn]) (N := 64) dX4_init_25 (by decide +kernel) (by decide +kernel) (Nat.le_of_ble_eq_true rfl) rfl (Nat.le_of_ble_eq_true rfl) (Nat.le_of_ble_eq_true rfl) ?_
  refine aw_put true dX4_init_27 fp_X4_19 (fun _ => rfl) (ax_gl (ax_gs (ax_gl (ax_gs (ax_gl hc))))) (Nat.le_of_ble_eq_true rfl) rfl rfl ?_
  refine aw_aload_n dX4_init_30 rfl rfl ?_
  refine aw_aload_n dX4_init_31 rfl rfl ?_
  refine aw_put true dX4_init_32 fp_X4_22 (fun _ => rfl) (ax_gs (ax_gl (ax_gs (ax_gl (ax_gs (ax_gl hc)))))) (Nat.le_of_ble_eq_true rfl) rfl rfl ?_
  refine aw_aload_n dX4_init_35 rfl rfl ?_
  refine aw_aload_n dX4_init_36 rfl rfl ?_
  refine aw_put true dX4_init_37 fp_X4_26 (fun _ => rfl) (ax_gs (ax_gs (ax_gl (ax_gs (ax_gl (ax_gs (ax_gl hc))))))) (Nat.le_of_ble_eq_true rfl) rfl rfl ?_
  exact aw_vret dX4_init_40 hq (Nat.le_refl _) (Nat.le_refl _)
set_option maxRecDepth 100000 in
set_option maxHeartbeats 4000000 in
theorem k_X6_init {l : Launch} {X : ax_X} {Q : Option Value → ax_H → Prop} (k0 r1 r2 n0 : Nat) (h : ax_H) (hn : h.length = n0) (hc : h[k0]? = some (.inr (6, [.null, .null, .int 0, .int 0, .int 0, .int 0, .int 0, .int 0]))) (hq : Q none (((h.set k0 (.inr (6, (([.null, .null, .int 0, .int 0, .int 0, .int 0, .int 0, .int 0] : List Value).set 7 (Value.int (-1)))))).set k0 (.inr (6, ((([.null, .null, .int 0, .int 0, .int 0, .int 0, .int 0, .int 0] : List Value).set 7 (Value.int (-1))).set 0 (Value.ref r1))))).set k0 (.inr (6, (((([.null, .null, .int 0, .int 0, .int 0, .int 0, .int 0, .int 0] : List Value).set 7 (Value.int (-1))).set 0 (Value.ref r1)).set 1 (Value.ref r2)))))) : AM l X yX6_init cX6_init 3 none 1 0 0 [.ref k0, .ref r1, .ref r2] h Q := by
  refine aw_met (own := RX6) (nm := "<init>") (L := [some (.ref k0), some (.ref r1), some (.ref r2)]) (by decide +kernel) rfl rfl (And.intro rfl (And.intro rfl (And.intro rfl trivial))) (Nat.le_of_ble_eq_true rfl) ?_
  refine aw_aload_n dX6_init_0 rfl rfl ?_
  refine aw_oinit dX6_init_1 xm_X6_3 rfl (by decide) (Nat.le_of_ble_eq_true rfl) ?_
  refine aw_aload_n dX6_init_4 rfl rfl ?_
  refine aw_iconst (v := -1) dX6_init_5 (by decide) ?_
  refine aw_put false dX6_init_6 fp_X6_9 (fun h => by cases h) hc (Nat.le_of_ble_eq_true rfl) rfl rfl ?_
  refine aw_aload_n dX6_init_9 rfl rfl ?_
  refine aw_aload_n dX6_init_10 rfl rfl ?_
  refine aw_put true dX6_init_11 fp_X6_15 (fun _ => rfl) (ax_gs hc) (Nat.le_of_ble_eq_true rfl) rfl rfl ?_
  refine aw_aload_n dX6_init_14 rfl rfl ?_
  refine aw_aload_n dX6_init_15 rfl rfl ?_
  refine aw_put true dX6_init_16 fp_X6_19 (fun _ => rfl) (ax_gs (ax_gs hc)) (Nat.le_of_ble_eq_true rfl) rfl rfl ?_
  exact aw_vret dX6_init_19 hq (Nat.le_refl _) (Nat.le_refl _)
set_option maxRecDepth 100000 in
set_option maxHeartbeats 4000000 in
theorem k_X7_init {l : Launch} {X : ax_X} {Q : Option Value → ax_H → Prop} (k0 r1 r2 r3 n0 : Nat) (h : ax_H) (hn : h.length = n0) (hc : h[k0]? = some (.inr (7, [.null, .null, .null, .null, .null, .null, .long 0, .long 0]))) (hq : Q none (((((((((h ++ ([.inl (.long, 256, .inr (.inl (fun _ => 0)))] : ax_H)).set k0 (.inr (7, (([.null, .null, .null, .null, .null, .null, .long 0, .long 0] : List Value).set 3 (Value.ref n0))))) ++ ([.inl (.int, 7, .inl (fun _ => 0))] : ax_H)).set k0 (.inr (7, ((([.null, .null, .null, .null, .null, .null, .long 0, .long 0] : List Value).set 3 (Value.ref n0)).set 4 (Value.ref (n0 + 1)))))) ++ ([.inl (.int, 7, .inl (fun _ => 0))] : ax_H)).set k0 (.inr (7, (((([.null, .null, .null, .null, .null, .null, .long 0, .long 0] : List Value).set 3 (Value.ref n0)).set 4 (Value.ref (n0 + 1))).set 5 (Value.ref (n0 + 2)))))).set k0 (.inr (7, ((((([.null, .null, .null, .null, .null, .null, .long 0, .long 0] : List Value).set 3 (Value.ref n0)).set 4 (Value.ref (n0 + 1))).set 5 (Value.ref (n0 + 2))).set 0 (Value.ref r1))))).set k0 (.inr (7, (((((([.null, .null, .null, .null, .null, .null, .long 0, .long 0] : List Value).set 3 (Value.ref n0)).set 4 (Value.ref (n0 + 1))).set 5 (Value.ref (n0 + 2))).set 0 (Value.ref r1)).set 1 (Value.ref r2))))).set k0 (.inr (7, ((((((([.null, .null, .null, .null, .null, .null, .long 0, .long 0] : List Value).set 3 (Value.ref n0)).set 4 (Value.ref (n0 + 1))).set 5 (Value.ref (n0 + 2))).set 0 (Value.ref r1)).set 1 (Value.ref r2)).set 2 (Value.ref r3)))))) : AM l X yX7_init cX7_init 4 none 1 3 270 [.ref k0, .ref r1, .ref r2, .ref r3] h Q := by
  refine aw_met (own := RX7) (nm := "<init>") (L := [some (.ref k0), some (.ref r1), some (.ref r2), some (.ref r3)]) (by decide +kernel) rfl rfl (And.intro rfl (And.intro rfl (And.intro rfl (And.intro rfl trivial)))) (Nat.le_of_ble_eq_true rfl) ?_
  refine aw_aload_n dX7_init_0 rfl rfl ?_
  refine aw_oinit dX7_init_1 xm_X7_3 rfl (by decide) (Nat.le_of_ble_eq_true rfl) ?_
  refine aw_aload_n dX7_init_4 rfl rfl ?_
  refine aw_sipush (v := 256) dX7_init_5 (by decide) ?_
  refine aw_nk_long n0 hn (N := 256) dX7_init_8 (by decide +kernel) (by decide +kernel) (Nat.le_of_ble_eq_true rfl) rfl (Nat.le_of_ble_eq_true rfl) (Nat.le_of_ble_eq_true rfl) ?_
  refine aw_put true dX7_init_10 fp_X7_9 (fun _ => rfl) (ax_gl hc) (Nat.le_of_ble_eq_true rfl) rfl rfl ?_
  refine aw_aload_n dX7_init_13 rfl rfl ?_
  refine aw_bipush (v := 7) dX7_init_14 (by decide) ?_
  refine aw_nk_int (n0 + 1) (by simp [hn]) (N := 7) dX7_init_16 (by decide +kernel) (by decide +kernel) (Nat.le_of_ble_eq_true rfl) rfl (Nat.le_of_ble_eq_true rfl) (Nat.le_of_ble_eq_true rfl) ?_
  refine aw_put true dX7_init_18 fp_X7_15 (fun _ => rfl) (ax_gl (ax_gs (ax_gl hc))) (Nat.le_of_ble_eq_true rfl) rfl rfl ?_
  refine aw_aload_n dX7_init_21 rfl rfl ?_
  refine aw_bipush (v := 7) dX7_init_22 (by decide) ?_
  refine aw_nk_int (n0 + 2) (by simp [hn]) (N := 7) dX7_init_24 (by decide +kernel) (by decide +kernel) (Nat.le_of_ble_eq_true rfl) rfl (Nat.le_of_ble_eq_true rfl) (Nat.le_of_ble_eq_true rfl) ?_
  refine aw_put true dX7_init_26 fp_X7_19 (fun _ => rfl) (ax_gl (ax_gs (ax_gl (ax_gs (ax_gl hc))))) (Nat.le_of_ble_eq_true rfl) rfl rfl ?_
  refine aw_aload_n dX7_init_29 rfl rfl ?_
  refine aw_aload_n dX7_init_30 rfl rfl ?_
  refine aw_put true dX7_init_31 fp_X7_22 (fun _ => rfl) (ax_gs (ax_gl (ax_gs (ax_gl (ax_gs (ax_gl hc)))))) (Nat.le_of_ble_eq_true rfl) rfl rfl ?_
  refine aw_aload_n dX7_init_34 rfl rfl ?_
  refine aw_aload_n dX7_init_35 rfl rfl ?_
  refine aw_put true dX7_init_36 fp_X7_26 (fun _ => rfl) (ax_gs (ax_gs (ax_gl (ax_gs (ax_gl (ax_gs (ax_gl hc))))))) (Nat.le_of_ble_eq_true rfl) rfl rfl ?_
  refine aw_aload_n dX7_init_39 rfl rfl ?_
  refine aw_aload_n dX7_init_40 rfl rfl ?_
  refine aw_put true dX7_init_41 fp_X7_29 (fun _ => rfl) (ax_gs (ax_gs (ax_gs (ax_gl (ax_gs (ax_gl (ax_gs (ax_gl hc)))))))) (Nat.le_of_ble_eq_true rfl) rfl rfl ?_
  exact aw_vret dX7_init_44 hq (Nat.le_refl _) (Nat.le_refl _)
set_option maxRecDepth 100000 in
set_option maxHeartbeats 4000000 in
theorem k_X0_init {l : Launch} {X : ax_X} {Q : Option Value → ax_H → Prop} (k0 r1 n0 : Nat) (h : ax_H) (hn : h.length = n0) (hc : h[k0]? = some (.inr (0, [.null, .null, .null, .long 0, .int 0, .int 0, .long 0, .int 0, .int 0]))) (hq : Q none (((((h ++ ([.inl (.int, 7, .inl (fun _ => 0))] : ax_H)).set k0 (.inr (0, (([.null, .null, .null, .long 0, .int 0, .int 0, .long 0, .int 0, .int 0] : List Value).set 1 (Value.ref n0))))) ++ ([.inl (.int, 8, .inl (fun _ => 0))] : ax_H)).set k0 (.inr (0, ((([.null, .null, .null, .long 0, .int 0, .int 0, .long 0, .int 0, .int 0] : List Value).set 1 (Value.ref n0)).set 2 (Value.ref (n0 + 1)))))).set k0 (.inr (0, (((([.null, .null, .null, .long 0, .int 0, .int 0, .long 0, .int 0, .int 0] : List Value).set 1 (Value.ref n0)).set 2 (Value.ref (n0 + 1))).set 0 (Value.ref r1)))))) : AM l X yX0_init cX0_init 2 none 1 2 15 [.ref k0, .ref r1] h Q := by
  refine aw_met (own := RX0) (nm := "<init>") (L := [some (.ref k0), some (.ref r1)]) (by decide +kernel) rfl rfl (And.intro rfl (And.intro rfl trivial)) (Nat.le_of_ble_eq_true rfl) ?_
  refine aw_aload_n dX0_init_0 rfl rfl ?_
  refine aw_oinit dX0_init_1 xm_X0_3 rfl (by decide) (Nat.le_of_ble_eq_true rfl) ?_
  refine aw_aload_n dX0_init_4 rfl rfl ?_
  refine aw_bipush (v := 7) dX0_init_5 (by decide) ?_
  refine aw_nk_int n0 hn (N := 7) dX0_init_7 (by decide +kernel) (by decide +kernel) (Nat.le_of_ble_eq_true rfl) rfl (Nat.le_of_ble_eq_true rfl) (Nat.le_of_ble_eq_true rfl) ?_
  refine aw_put true dX0_init_9 fp_X0_9 (fun _ => rfl) (ax_gl hc) (Nat.le_of_ble_eq_true rfl) rfl rfl ?_
  refine aw_aload_n dX0_init_12 rfl rfl ?_
  refine aw_bipush (v := 8) dX0_init_13 (by decide) ?_
  refine aw_nk_int (n0 + 1) (by simp [hn]) (N := 8) dX0_init_15 (by decide +kernel) (by decide +kernel) (Nat.le_of_ble_eq_true rfl) rfl (Nat.le_of_ble_eq_true rfl) (Nat.le_of_ble_eq_true rfl) ?_
  refine aw_put true dX0_init_17 fp_X0_15 (fun _ => rfl) (ax_gl (ax_gs (ax_gl hc))) (Nat.le_of_ble_eq_true rfl) rfl rfl ?_
  refine aw_aload_n dX0_init_20 rfl rfl ?_
  refine aw_aload_n dX0_init_21 rfl rfl ?_
  refine aw_put true dX0_init_22 fp_X0_18 (fun _ => rfl) (ax_gs (ax_gl (ax_gs (ax_gl hc)))) (Nat.le_of_ble_eq_true rfl) rfl rfl ?_
  exact aw_vret dX0_init_25 hq (Nat.le_refl _) (Nat.le_refl _)
set_option maxRecDepth 100000 in
set_option maxHeartbeats 4000000 in
theorem k_X8_init {l : Launch} {X : ax_X} {Q : Option Value → ax_H → Prop} (k0 r1 n0 : Nat) (h : ax_H) (hn : h.length = n0) (hc : h[k0]? = some (.inr (8, [.null, .null, .null, .null, .int 0, .int 0]))) (hq : Q none (((((((h ++ ([.inl (.long, 8, .inr (.inl (fun _ => 0)))] : ax_H)).set k0 (.inr (8, (([.null, .null, .null, .null, .int 0, .int 0] : List Value).set 1 (Value.ref n0))))) ++ ([.inl (.int, 7, .inl (fun _ => 0))] : ax_H)).set k0 (.inr (8, ((([.null, .null, .null, .null, .int 0, .int 0] : List Value).set 1 (Value.ref n0)).set 2 (Value.ref (n0 + 1)))))) ++ ([.inl (.int, 7, .inl (fun _ => 0))] : ax_H)).set k0 (.inr (8, (((([.null, .null, .null, .null, .int 0, .int 0] : List Value).set 1 (Value.ref n0)).set 2 (Value.ref (n0 + 1))).set 3 (Value.ref (n0 + 2)))))).set k0 (.inr (8, ((((([.null, .null, .null, .null, .int 0, .int 0] : List Value).set 1 (Value.ref n0)).set 2 (Value.ref (n0 + 1))).set 3 (Value.ref (n0 + 2))).set 0 (Value.ref r1)))))) : AM l X yX8_init cX8_init 2 none 1 3 22 [.ref k0, .ref r1] h Q := by
  refine aw_met (own := RX8) (nm := "<init>") (L := [some (.ref k0), some (.ref r1)]) (by decide +kernel) rfl rfl (And.intro rfl (And.intro rfl trivial)) (Nat.le_of_ble_eq_true rfl) ?_
  refine aw_aload_n dX8_init_0 rfl rfl ?_
  refine aw_oinit dX8_init_1 xm_X8_3 rfl (by decide) (Nat.le_of_ble_eq_true rfl) ?_
  refine aw_aload_n dX8_init_4 rfl rfl ?_
  refine aw_bipush (v := 8) dX8_init_5 (by decide) ?_
  refine aw_nk_long n0 hn (N := 8) dX8_init_7 (by decide +kernel) (by decide +kernel) (Nat.le_of_ble_eq_true rfl) rfl (Nat.le_of_ble_eq_true rfl) (Nat.le_of_ble_eq_true rfl) ?_
  refine aw_put true dX8_init_9 fp_X8_9 (fun _ => rfl) (ax_gl hc) (Nat.le_of_ble_eq_true rfl) rfl rfl ?_
  refine aw_aload_n dX8_init_12 rfl rfl ?_
  refine aw_bipush (v := 7) dX8_init_13 (by decide) ?_
  refine aw_nk_int (n0 + 1) (by simp [hn]) (N := 7) dX8_init_15 (by decide +kernel) (by decide +kernel) (Nat.le_of_ble_eq_true rfl) rfl (Nat.le_of_ble_eq_true rfl) (Nat.le_of_ble_eq_true rfl) ?_
  refine aw_put true dX8_init_17 fp_X8_15 (fun _ => rfl) (ax_gl (ax_gs (ax_gl hc))) (Nat.le_of_ble_eq_true rfl) rfl rfl ?_
  refine aw_aload_n dX8_init_20 rfl rfl ?_
  refine aw_bipush (v := 7) dX8_init_21 (by decide) ?_
  refine aw_nk_int (n0 + 2) (by simp [hn]) (N := 7) dX8_init_23 (by decide +kernel) (by decide +kernel) (Nat.le_of_ble_eq_true rfl) rfl (Nat.le_of_ble_eq_true rfl) (Nat.le_of_ble_eq_true rfl) ?_
  refine aw_put true dX8_init_25 fp_X8_19 (fun _ => rfl) (ax_gl (ax_gs (ax_gl (ax_gs (ax_gl hc))))) (Nat.le_of_ble_eq_true rfl) rfl rfl ?_
  refine aw_aload_n dX8_init_28 rfl rfl ?_
  refine aw_aload_n dX8_init_29 rfl rfl ?_
  refine aw_put true dX8_init_30 fp_X8_22 (fun _ => rfl) (ax_gs (ax_gl (ax_gs (ax_gl (ax_gs (ax_gl hc)))))) (Nat.le_of_ble_eq_true rfl) rfl rfl ?_
  exact aw_vret dX8_init_33 hq (Nat.le_refl _) (Nat.le_refl _)
set_option maxRecDepth 100000 in
set_option maxHeartbeats 4000000 in
theorem k_X3_init {l : Launch} {X : ax_X} {Q : Option Value → ax_H → Prop} (k0 r1 n0 : Nat) (h : ax_H) (hn : h.length = n0) (hc : h[k0]? = some (.inr (3, [.null, .null, .int 0, .long 0, .int 0]))) (hq : Q none (((h ++ ([.inl (.int, 7, .inl (fun _ => 0))] : ax_H)).set k0 (.inr (3, (([.null, .null, .int 0, .long 0, .int 0] : List Value).set 1 (Value.ref n0))))).set k0 (.inr (3, ((([.null, .null, .int 0, .long 0, .int 0] : List Value).set 1 (Value.ref n0)).set 0 (Value.ref r1)))))) : AM l X yX3_init cX3_init 2 none 1 1 7 [.ref k0, .ref r1] h Q := by
  refine aw_met (own := RX3) (nm := "<init>") (L := [some (.ref k0), some (.ref r1)]) (by decide +kernel) rfl rfl (And.intro rfl (And.intro rfl trivial)) (Nat.le_of_ble_eq_true rfl) ?_
  refine aw_aload_n dX3_init_0 rfl rfl ?_
  refine aw_oinit dX3_init_1 xm_X3_3 rfl (by decide) (Nat.le_of_ble_eq_true rfl) ?_
  refine aw_aload_n dX3_init_4 rfl rfl ?_
  refine aw_bipush (v := 7) dX3_init_5 (by decide) ?_
  refine aw_nk_int n0 hn (N := 7) dX3_init_7 (by decide +kernel) (by decide +kernel) (Nat.le_of_ble_eq_true rfl) rfl (Nat.le_of_ble_eq_true rfl) (Nat.le_of_ble_eq_true rfl) ?_
  refine aw_put true dX3_init_9 fp_X3_9 (fun _ => rfl) (ax_gl hc) (Nat.le_of_ble_eq_true rfl) rfl rfl ?_
  refine aw_aload_n dX3_init_12 rfl rfl ?_
  refine aw_aload_n dX3_init_13 rfl rfl ?_
  refine aw_put true dX3_init_14 fp_X3_15 (fun _ => rfl) (ax_gs (ax_gl hc)) (Nat.le_of_ble_eq_true rfl) rfl rfl ?_
  exact aw_vret dX3_init_17 hq (Nat.le_refl _) (Nat.le_refl _)
set_option maxRecDepth 100000 in
set_option maxHeartbeats 4000000 in
theorem k_X10_init {l : Launch} {X : ax_X} {Q : Option Value → ax_H → Prop} (k0 n0 : Nat) (h : ax_H) (hn : h.length = n0) (hc : h[k0]? = some (.inr (10, [.int 0, .int 0, .int 0, .int 0, .int 0]))) (hq : Q none h) : AM l X yX10_init cX10_init 1 none 1 0 0 [.ref k0] h Q := by
  refine aw_met (own := RX10) (nm := "<init>") (L := [some (.ref k0)]) (by decide +kernel) rfl rfl (And.intro rfl trivial) (Nat.le_of_ble_eq_true rfl) ?_
  refine aw_aload_n dX10_init_0 rfl rfl ?_
  refine aw_oinit dX10_init_1 xm_X10_3 rfl (by decide) (Nat.le_of_ble_eq_true rfl) ?_
  exact aw_vret dX10_init_4 hq (Nat.le_refl _) (Nat.le_refl _)
set_option maxRecDepth 100000 in
set_option maxHeartbeats 4000000 in
theorem k_X12_init {l : Launch} {X : ax_X} {Q : Option Value → ax_H → Prop} (k0 n0 : Nat) (h : ax_H) (hn : h.length = n0) (hc : h[k0]? = some (.inr (12, [.null, .null, .int 0, .null, .int 0, .int 0, .int 0, .null, .int 0, .int 0, .int 0, .int 0, .int 0, .null, .null, .int 0, .null, .null, .int 0, .null, .int 0, .int 0, .int 0, .int 0, .null, .null, .int 0, .int 0, .int 0, .int 0, .int 0, .int 0, .null]))) (hq : Q none (((((((((((((((((((((((((h ++ ([.inl (.int, 58, .inl (fun _ => 0))] : ax_H)).set k0 (.inr (12, (([.null, .null, .int 0, .null, .int 0, .int 0, .int 0, .null, .int 0, .int 0, .int 0, .int 0, .int 0, .null, .null, .int 0, .null, .null, .int 0, .null, .int 0, .int 0, .int 0, .int 0, .null, .null, .int 0, .int 0, .int 0, .int 0, .int 0, .int 0, .null] : List Value).set 0 (Value.ref n0))))) ++ ([.inl (.int, 580, .inl (fun _ => 0))] : ax_H)).set k0 (.inr (12, ((([.null, .null, .int 0, .null, .int 0, .int 0, .int 0, .null, .int 0, .int 0, .int 0, .int 0, .int 0, .null, .null, .int 0, .null, .null, .int 0, .null, .int 0, .int 0, .int 0, .int 0, .null, .null, .int 0, .int 0, .int 0, .int 0, .int 0, .int 0, .null] : List Value).set 0 (Value.ref n0)).set 1 (Value.ref (n0 + 1)))))) ++ ([.inl (.int, 600, .inl (fun _ => 0))] : ax_H)).set k0 (.inr (12, (((([.null, .null, .int 0, .null, .int 0, .int 0, .int 0, .null, .int 0, .int 0, .int 0, .int 0, .int 0, .null, .null, .int 0, .null, .null, .int 0, .null, .int 0, .int 0, .int 0, .int 0, .null, .null, .int 0, .int 0, .int 0, .int 0, .int 0, .int 0, .null] : List Value).set 0 (Value.ref n0)).set 1 (Value.ref (n0 + 1))).set 3 (Value.ref (n0 + 2)))))).set k0 (.inr (12, ((((([.null, .null, .int 0, .null, .int 0, .int 0, .int 0, .null, .int 0, .int 0, .int 0, .int 0, .int 0, .null, .null, .int 0, .null, .null, .int 0, .null, .int 0, .int 0, .int 0, .int 0, .null, .null, .int 0, .int 0, .int 0, .int 0, .int 0, .int 0, .null] : List Value).set 0 (Value.ref n0)).set 1 (Value.ref (n0 + 1))).set 3 (Value.ref (n0 + 2))).set 6 (Value.int (-1)))))) ++ ([.inl (.int, 58, .inl (fun _ => 0))] : ax_H)).set k0 (.inr (12, (((((([.null, .null, .int 0, .null, .int 0, .int 0, .int 0, .null, .int 0, .int 0, .int 0, .int 0, .int 0, .null, .null, .int 0, .null, .null, .int 0, .null, .int 0, .int 0, .int 0, .int 0, .null, .null, .int 0, .int 0, .int 0, .int 0, .int 0, .int 0, .null] : List Value).set 0 (Value.ref n0)).set 1 (Value.ref (n0 + 1))).set 3 (Value.ref (n0 + 2))).set 6 (Value.int (-1))).set 7 (Value.ref (n0 + 3)))))) ++ ([.inl (.int, 40320, .inl (fun _ => 0))] : ax_H)).set k0 (.inr (12, ((((((([.null, .null, .int 0, .null, .int 0, .int 0, .int 0, .null, .int 0, .int 0, .int 0, .int 0, .int 0, .null, .null, .int 0, .null, .null, .int 0, .null, .int 0, .int 0, .int 0, .int 0, .null, .null, .int 0, .int 0, .int 0, .int 0, .int 0, .int 0, .null] : List Value).set 0 (Value.ref n0)).set 1 (Value.ref (n0 + 1))).set 3 (Value.ref (n0 + 2))).set 6 (Value.int (-1))).set 7 (Value.ref (n0 + 3))).set 13 (Value.ref (n0 + 4)))))) ++ ([.inl (.int, 40320, .inl (fun _ => 0))] : ax_H)).set k0 (.inr (12, (((((((([.null, .null, .int 0, .null, .int 0, .int 0, .int 0, .null, .int 0, .int 0, .int 0, .int 0, .int 0, .null, .null, .int 0, .null, .null, .int 0, .null, .int 0, .int 0, .int 0, .int 0, .null, .null, .int 0, .int 0, .int 0, .int 0, .int 0, .int 0, .null] : List Value).set 0 (Value.ref n0)).set 1 (Value.ref (n0 + 1))).set 3 (Value.ref (n0 + 2))).set 6 (Value.int (-1))).set 7 (Value.ref (n0 + 3))).set 13 (Value.ref (n0 + 4))).set 14 (Value.ref (n0 + 5)))))) ++ ([.inl (.int, 7, .inl (fun _ => 0))] : ax_H)).set k0 (.inr (12, ((((((((([.null, .null, .int 0, .null, .int 0, .int 0, .int 0, .null, .int 0, .int 0, .int 0, .int 0, .int 0, .null, .null, .int 0, .null, .null, .int 0, .null, .int 0, .int 0, .int 0, .int 0, .null, .null, .int 0, .int 0, .int 0, .int 0, .int 0, .int 0, .null] : List Value).set 0 (Value.ref n0)).set 1 (Value.ref (n0 + 1))).set 3 (Value.ref (n0 + 2))).set 6 (Value.int (-1))).set 7 (Value.ref (n0 + 3))).set 13 (Value.ref (n0 + 4))).set 14 (Value.ref (n0 + 5))).set 16 (Value.ref (n0 + 6)))))) ++ ([.inl (.int, 200, .inl (fun _ => 0))] : ax_H)).set k0 (.inr (12, (((((((((([.null, .null, .int 0, .null, .int 0, .int 0, .int 0, .null, .int 0, .int 0, .int 0, .int 0, .int 0, .null, .null, .int 0, .null, .null, .int 0, .null, .int 0, .int 0, .int 0, .int 0, .null, .null, .int 0, .int 0, .int 0, .int 0, .int 0, .int 0, .null] : List Value).set 0 (Value.ref n0)).set 1 (Value.ref (n0 + 1))).set 3 (Value.ref (n0 + 2))).set 6 (Value.int (-1))).set 7 (Value.ref (n0 + 3))).set 13 (Value.ref (n0 + 4))).set 14 (Value.ref (n0 + 5))).set 16 (Value.ref (n0 + 6))).set 17 (Value.ref (n0 + 7)))))) ++ ([.inl (.int, 7, .inl (fun _ => 0))] : ax_H)).set k0 (.inr (12, ((((((((((([.null, .null, .int 0, .null, .int 0, .int 0, .int 0, .null, .int 0, .int 0, .int 0, .int 0, .int 0, .null, .null, .int 0, .null, .null, .int 0, .null, .int 0, .int 0, .int 0, .int 0, .null, .null, .int 0, .int 0, .int 0, .int 0, .int 0, .int 0, .null] : List Value).set 0 (Value.ref n0)).set 1 (Value.ref (n0 + 1))).set 3 (Value.ref (n0 + 2))).set 6 (Value.int (-1))).set 7 (Value.ref (n0 + 3))).set 13 (Value.ref (n0 + 4))).set 14 (Value.ref (n0 + 5))).set 16 (Value.ref (n0 + 6))).set 17 (Value.ref (n0 + 7))).set 19 (Value.ref (n0 + 8)))))) ++ ([.inl (.long, 8, .inr (.inl (fun _ => 0)))] : ax_H)).set k0 (.inr (12, (((((((((((([.null, .null, .int 0, .null, .int 0, .int 0, .int 0, .null, .int 0, .int 0, .int 0, .int 0, .int 0, .null, .null, .int 0, .null, .null, .int 0, .null, .int 0, .int 0, .int 0, .int 0, .null, .null, .int 0, .int 0, .int 0, .int 0, .int 0, .int 0, .null] : List Value).set 0 (Value.ref n0)).set 1 (Value.ref (n0 + 1))).set 3 (Value.ref (n0 + 2))).set 6 (Value.int (-1))).set 7 (Value.ref (n0 + 3))).set 13 (Value.ref (n0 + 4))).set 14 (Value.ref (n0 + 5))).set 16 (Value.ref (n0 + 6))).set 17 (Value.ref (n0 + 7))).set 19 (Value.ref (n0 + 8))).set 24 (Value.ref (n0 + 9)))))) ++ ([.inl (.int, 600, .inl (fun _ => 0))] : ax_H)).set k0 (.inr (12, ((((((((((((([.null, .null, .int 0, .null, .int 0, .int 0, .int 0, .null, .int 0, .int 0, .int 0, .int 0, .int 0, .null, .null, .int 0, .null, .null, .int 0, .null, .int 0, .int 0, .int 0, .int 0, .null, .null, .int 0, .int 0, .int 0, .int 0, .int 0, .int 0, .null] : List Value).set 0 (Value.ref n0)).set 1 (Value.ref (n0 + 1))).set 3 (Value.ref (n0 + 2))).set 6 (Value.int (-1))).set 7 (Value.ref (n0 + 3))).set 13 (Value.ref (n0 + 4))).set 14 (Value.ref (n0 + 5))).set 16 (Value.ref (n0 + 6))).set 17 (Value.ref (n0 + 7))).set 19 (Value.ref (n0 + 8))).set 24 (Value.ref (n0 + 9))).set 25 (Value.ref (n0 + 10)))))) ++ ([.inl (.int, 58, .inl (fun _ => 0))] : ax_H)).set k0 (.inr (12, (((((((((((((([.null, .null, .int 0, .null, .int 0, .int 0, .int 0, .null, .int 0, .int 0, .int 0, .int 0, .int 0, .null, .null, .int 0, .null, .null, .int 0, .null, .int 0, .int 0, .int 0, .int 0, .null, .null, .int 0, .int 0, .int 0, .int 0, .int 0, .int 0, .null] : List Value).set 0 (Value.ref n0)).set 1 (Value.ref (n0 + 1))).set 3 (Value.ref (n0 + 2))).set 6 (Value.int (-1))).set 7 (Value.ref (n0 + 3))).set 13 (Value.ref (n0 + 4))).set 14 (Value.ref (n0 + 5))).set 16 (Value.ref (n0 + 6))).set 17 (Value.ref (n0 + 7))).set 19 (Value.ref (n0 + 8))).set 24 (Value.ref (n0 + 9))).set 25 (Value.ref (n0 + 10))).set 32 (Value.ref (n0 + 11))))))) : AM l X yX12_init cX12_init 1 none 1 12 82816 [.ref k0] h Q := by
  refine aw_met (own := RX12) (nm := "<init>") (L := [some (.ref k0)]) (by decide +kernel) rfl rfl (And.intro rfl trivial) (Nat.le_of_ble_eq_true rfl) ?_
  refine aw_aload_n dX12_init_0 rfl rfl ?_
  refine aw_oinit dX12_init_1 xm_X12_5 rfl (by decide) (Nat.le_of_ble_eq_true rfl) ?_
  refine aw_aload_n dX12_init_4 rfl rfl ?_
  refine aw_bipush (v := 58) dX12_init_5 (by decide) ?_
  refine aw_nk_int n0 hn (N := 58) dX12_init_7 (by decide +kernel) (by decide +kernel) (Nat.le_of_ble_eq_true rfl) rfl (Nat.le_of_ble_eq_true rfl) (Nat.le_of_ble_eq_true rfl) ?_
  refine aw_put true dX12_init_9 fp_X12_11 (fun _ => rfl) (ax_gl hc) (Nat.le_of_ble_eq_true rfl) rfl rfl ?_
  refine aw_aload_n dX12_init_12 rfl rfl ?_
  refine aw_sipush (v := 580) dX12_init_13 (by decide) ?_
  refine aw_nk_int (n0 + 1) (by simp [hn]) (N := 580) dX12_init_16 (by decide +kernel) (by decide +kernel) (Nat.le_of_ble_eq_true rfl) rfl (Nat.le_of_ble_eq_true rfl) (Nat.le_of_ble_eq_true rfl) ?_
  refine aw_put true dX12_init_18 fp_X12_17 (fun _ => rfl) (ax_gl (ax_gs (ax_gl hc))) (Nat.le_of_ble_eq_true rfl) rfl rfl ?_
  refine aw_aload_n dX12_init_21 rfl rfl ?_
  refine aw_sipush (v := 600) dX12_init_22 (by decide) ?_
  refine aw_nk_int (n0 + 2) (by simp [hn]) (N := 600) dX12_init_25 (by decide +kernel) (by decide +kernel) (Nat.le_of_ble_eq_true rfl) rfl (Nat.le_of_ble_eq_true rfl) (Nat.le_of_ble_eq_true rfl) ?_
  refine aw_put true dX12_init_27 fp_X12_20 (fun _ => rfl) (ax_gl (ax_gs (ax_gl (ax_gs (ax_gl hc))))) (Nat.le_of_ble_eq_true rfl) rfl rfl ?_
  refine aw_aload_n dX12_init_30 rfl rfl ?_
  refine aw_iconst (v := -1) dX12_init_31 (by decide) ?_
  refine aw_put false dX12_init_32 fp_X12_23 (fun h => by cases h) (ax_gs (ax_gl (ax_gs (ax_gl (ax_gs (ax_gl hc)))))) (Nat.le_of_ble_eq_true rfl) rfl rfl ?_
  refine aw_aload_n dX12_init_35 rfl rfl ?_
  refine aw_bipush (v := 58) dX12_init_36 (by decide) ?_
  refine aw_nk_int (n0 + 3) (by simp [hn]) (N := 58) dX12_init_38 (by decide +kernel) (by decide +kernel) (Nat.le_of_ble_eq_true rfl) rfl (Nat.le_of_ble_eq_true rfl) (Nat.le_of_ble_eq_true rfl) ?_
  refine aw_put true dX12_init_40 fp_X12_27 (fun _ => rfl) (ax_gl (ax_gs (ax_gs (ax_gl (ax_gs (ax_gl (ax_gs (ax_gl hc)))))))) (Nat.le_of_ble_eq_true rfl) rfl rfl ?_
  refine aw_aload_n dX12_init_43 rfl rfl ?_
  refine aw_ldc dX12_init_44 kc_X12_30 ?_
  refine aw_nk_int (n0 + 4) (by simp [hn]) (N := 40320) dX12_init_46 (by decide +kernel) (by decide +kernel) (Nat.le_of_ble_eq_true rfl) rfl (Nat.le_of_ble_eq_true rfl) (Nat.le_of_ble_eq_true rfl) ?_
  refine aw_put true dX12_init_48 fp_X12_31 (fun _ => rfl) (ax_gl (ax_gs (ax_gl (ax_gs (ax_gs (ax_gl (ax_gs (ax_gl (ax_gs (ax_gl hc)))))))))) (Nat.le_of_ble_eq_true rfl) rfl rfl ?_
  refine aw_aload_n dX12_init_51 rfl rfl ?_
  refine aw_ldc dX12_init_52 kc_X12_30 ?_
  refine aw_nk_int (n0 + 5) (by simp [hn]) (N := 40320) dX12_init_54 (by decide +kernel) (by decide +kernel) (Nat.le_of_ble_eq_true rfl) rfl (Nat.le_of_ble_eq_true rfl) (Nat.le_of_ble_eq_true rfl) ?_
  refine aw_put true dX12_init_56 fp_X12_34 (fun _ => rfl) (ax_gl (ax_gs (ax_gl (ax_gs (ax_gl (ax_gs (ax_gs (ax_gl (ax_gs (ax_gl (ax_gs (ax_gl hc)))))))))))) (Nat.le_of_ble_eq_true rfl) rfl rfl ?_
  refine aw_aload_n dX12_init_59 rfl rfl ?_
  refine aw_bipush (v := 7) dX12_init_60 (by decide) ?_
  refine aw_nk_int (n0 + 6) (by simp [hn]) (N := 7) dX12_init_62 (by decide +kernel) (by decide +kernel) (Nat.le_of_ble_eq_true rfl) rfl (Nat.le_of_ble_eq_true rfl) (Nat.le_of_ble_eq_true rfl) ?_
  refine aw_put true dX12_init_64 fp_X12_37 (fun _ => rfl) (ax_gl (ax_gs (ax_gl (ax_gs (ax_gl (ax_gs (ax_gl (ax_gs (ax_gs (ax_gl (ax_gs (ax_gl (ax_gs (ax_gl hc)))))))))))))) (Nat.le_of_ble_eq_true rfl) rfl rfl ?_
  refine aw_aload_n dX12_init_67 rfl rfl ?_
  refine aw_sipush (v := 200) dX12_init_68 (by decide) ?_
  refine aw_nk_int (n0 + 7) (by simp [hn]) (N := 200) dX12_init_71 (by decide +kernel) (by decide +kernel) (Nat.le_of_ble_eq_true rfl) rfl (Nat.le_of_ble_eq_true rfl) (Nat.le_of_ble_eq_true rfl) ?_
  refine aw_put true dX12_init_73 fp_X12_40 (fun _ => rfl) (ax_gl (ax_gs (ax_gl (ax_gs (ax_gl (ax_gs (ax_gl (ax_gs (ax_gl (ax_gs (ax_gs (ax_gl (ax_gs (ax_gl (ax_gs (ax_gl hc)))))))))))))))) (Nat.le_of_ble_eq_true rfl) rfl rfl ?_
  refine aw_aload_n dX12_init_76 rfl rfl ?_
  refine aw_bipush (v := 7) dX12_init_77 (by decide) ?_
  refine aw_nk_int (n0 + 8) (by simp [hn]) (N := 7) dX12_init_79 (by decide +kernel) (by decide +kernel) (Nat.le_of_ble_eq_true rfl) rfl (Nat.le_of_ble_eq_true rfl) (Nat.le_of_ble_eq_true rfl) ?_
  refine aw_put true dX12_init_81 fp_X12_43 (fun _ => rfl) (ax_gl (ax_gs (ax_gl (ax_gs (ax_gl (ax_gs (ax_gl (ax_gs (ax_gl (ax_gs (ax_gl (ax_gs (ax_gs (ax_gl (ax_gs (ax_gl (ax_gs (ax_gl hc)))))))))))))))))) (Nat.le_of_ble_eq_true rfl) rfl rfl ?_
  refine aw_aload_n dX12_init_84 rfl rfl ?_
  refine aw_bipush (v := 8) dX12_init_85 (by decide) ?_
  refine aw_nk_long (n0 + 9) (by simp [hn]) (N := 8) dX12_init_87 (by decide +kernel) (by decide +kernel) (Nat.le_of_ble_eq_true rfl) rfl (Nat.le_of_ble_eq_true rfl) (Nat.le_of_ble_eq_true rfl) ?_
  refine aw_put true dX12_init_89 fp_X12_46 (fun _ => rfl) (ax_gl (ax_gs (ax_gl (ax_gs (ax_gl (ax_gs (ax_gl (ax_gs (ax_gl (ax_gs (ax_gl (ax_gs (ax_gl (ax_gs (ax_gs (ax_gl (ax_gs (ax_gl (ax_gs (ax_gl hc)))))))))))))))))))) (Nat.le_of_ble_eq_true rfl) rfl rfl ?_
  refine aw_aload_n dX12_init_92 rfl rfl ?_
  refine aw_sipush (v := 600) dX12_init_93 (by decide) ?_
  refine aw_nk_int (n0 + 10) (by simp [hn]) (N := 600) dX12_init_96 (by decide +kernel) (by decide +kernel) (Nat.le_of_ble_eq_true rfl) rfl (Nat.le_of_ble_eq_true rfl) (Nat.le_of_ble_eq_true rfl) ?_
  refine aw_put true dX12_init_98 fp_X12_50 (fun _ => rfl) (ax_gl (ax_gs (ax_gl (ax_gs (ax_gl (ax_gs (ax_gl (ax_gs (ax_gl (ax_gs (ax_gl (ax_gs (ax_gl (ax_gs (ax_gl (ax_gs (ax_gs (ax_gl (ax_gs (ax_gl (ax_gs (ax_gl hc)))))))))))))))))))))) (Nat.le_of_ble_eq_true rfl) rfl rfl ?_
  refine aw_aload_n dX12_init_101 rfl rfl ?_
  refine aw_bipush (v := 58) dX12_init_102 (by decide) ?_
  refine aw_nk_int (n0 + 11) (by simp [hn]) (N := 58) dX12_init_104 (by decide +kernel) (by decide +kernel) (Nat.le_of_ble_eq_true rfl) rfl (Nat.le_of_ble_eq_true rfl) (Nat.le_of_ble_eq_true rfl) ?_
  refine aw_put true dX12_init_106 fp_X12_53 (fun _ => rfl) (ax_gl (ax_gs (ax_gl (ax_gs (ax_gl (ax_gs (ax_gl (ax_gs (ax_gl (ax_gs (ax_gl (ax_gs (ax_gl (ax_gs (ax_gl (ax_gs (ax_gl (ax_gs (ax_gs (ax_gl (ax_gs (ax_gl (ax_gs (ax_gl hc)))))))))))))))))))))))) (Nat.le_of_ble_eq_true rfl) rfl rfl ?_
  exact aw_vret dX12_init_109 hq (Nat.le_refl _) (Nat.le_refl _)
