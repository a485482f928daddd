/-- the cell that is made last -/
theorem hp_last (s : sx_M) (gb : ax_H) (c : ax_E) : (hp s (gb ++ [c]))[71 + gb.length]? = some c := by
  unfold hp
  rw [← List.append_assoc, List.getElem?_append_right (by simp [sx_len])]
  simp [sx_len]
theorem hp_last_set (s : sx_M) (gb : ax_H) (c c' : ax_E) : (hp s (gb ++ [c])).set (71 + gb.length) c' = hp s (gb ++ [c']) := by
  unfold hp
  rw [← List.append_assoc, ← List.append_assoc, List.set_append_right _ _ (by simp [sx_len])]
  simp [sx_len]
theorem aw_iastJ {l : Launch} {X : ax_X} {own nm : String} {cc : ByteArray} {nL : Nat} {ret : Option FieldType} {R : Room} {QF : List Frame → Array Value → State → State → Prop} {cells slots pc : Nat} {L : List (Option Value)} {st : List Value} {h : ax_H} {k0 n : Nat} {f : Nat → Int32} {i : Int32} {x : Int32} (j : Nat) (hj : i.toNatClampNeg = j) (hd : decode cc pc = .ok (.iastore, 1)) (hc : h[k0]? = some (.inl (.int, n, .inl f))) (hi : vp_in i n) {h' : ax_H} (hh : h.set k0 (.inl (.int, n, .inl (upd f j x))) = h') (K : AW l X own nm cc nL ret R QF cells slots (pc + 1) L st h') : AW l X own nm cc nL ret R QF cells slots pc L (.int x :: .int i :: .ref k0 :: st) h := by
  subst hj
  subst hh
  exact aw_iast hd hc hi K
noncomputable def f_X12_feed_L42 (x1 x2 x3 x4 x5 : Int32) (a42 : Int32 × sx_M) : Option ((Int32 × sx_M) ⊕ sx_M) :=
  (if (20 : Int32) ≤ a42.1 then some (.inr a42.2)
   else (if ¬ ((a42.1 / (4 : Int32)) < 0 ∨ 5 ≤ (a42.1 / (4 : Int32)).toNatClampNeg) then
     (if ¬ (((rI a42.2 58 4) + a42.1) < 0 ∨ 600 ≤ ((rI a42.2 58 4) + a42.1).toNatClampNeg) then
       some (.inl ((a42.1 + (1 : Int32)), (wA a42.2 61 ((rI a42.2 58 4) + a42.1).toNatClampNeg ((((upd (upd (upd (upd (upd (fun _ => 0) 0 x1) 1 x2) 2 x3) 3 x4) 4 x5) (a42.1 / (4 : Int32)).toNatClampNeg).toUInt32 >>> (((24 : Int32) - ((8 : Int32) * (a42.1 - a42.1 / (4 : Int32) * (4 : Int32)))).toUInt32 &&& Int32.toUInt32 31)).toInt32 &&& (255 : Int32)))))
      else none)
    else none))
noncomputable def f_X12_feed (x1 x2 x3 x4 x5 : Int32) (s : sx_M) : Option (Int32 × sx_M) :=
  (if (rI s 58 4) ≤ (580 : Int32) then
    (whT (f_X12_feed_L42 x1 x2 x3 x4 x5) ((0 : Int32), s)).bind (fun e => some ((rI (wI e 58 4 ((rI e 58 4) + (20 : Int32))) 58 4), (wI e 58 4 ((rI e 58 4) + (20 : Int32)))))
   else some ((-1 : Int32), s))
set_option maxRecDepth 100000 in
set_option maxHeartbeats 400000 in
theorem k_X12_feed {l : Launch} {X : ax_X} {Q : Option Value → ax_H → Prop} (x1 x2 x3 x4 x5 : Int32) (s : sx_M) (gb : ax_H) {p : Int32 × sx_M} (hf : f_X12_feed x1 x2 x3 x4 x5 s = some p) (hq : ∀ gb, Q (some (.int p.1)) (hp p.2 gb)) : AM l X yX12_feed cX12_feed 8 (some .int) 0 1 5 [.ref 58, .int x1, .int x2, .int x3, .int x4, .int x5] (hp s gb) Q := by
  refine aw_met (own := RX12) (nm := "feed") (L := [some (.ref 58), some (.int x1), some (.int x2), some (.int x3), some (.int x4), some (.int x5), none, none]) (by decide +kernel) rfl rfl (And.intro rfl (And.intro rfl (And.intro rfl (And.intro rfl (And.intro rfl (And.intro rfl trivial)))))) (Nat.le_of_ble_eq_true rfl) ?_
  unfold f_X12_feed at hf
  refine aw_aload_n dX12_feed_0 rfl rfl ?_
  refine aw_gI dX12_feed_1 fl_X12_75 sh_58 rfl ?_
  refine aw_sipush (v := 580) dX12_feed_4 (by decide) ?_
  refine aw_icmp_le (tgt := 12) dX12_feed_7 (by decide) (fun hc => ?_) (fun hc => ?_)
  · have hf := ax_pos hc hf
    refine aw_iconst (v := 5) dX12_feed_12 (by decide) ?_
    refine aw_nk_int (71 + gb.length) (hp_len s gb) (N := 5) dX12_feed_13 (by decide) (by decide) (by decide) rfl (Nat.le_of_ble_eq_true rfl) (Nat.le_of_ble_eq_true rfl) ?_
    have e0 : ∀ c : ax_E, hp s gb ++ [c] = hp s (gb ++ [c]) := fun c => by unfold hp; rw [List.append_assoc]
    rw [e0]
    refine aw_dup dX12_feed_15 rfl ?_
    refine aw_iconst (v := 0) dX12_feed_16 (by decide) ?_
    refine aw_iload_n dX12_feed_17 rfl rfl ?_
    refine aw_iastJ (n := 5) (f := (fun _ => 0)) 0 (by decide) dX12_feed_18 (hp_last s gb _) (by unfold vp_in; decide) (hp_last_set s gb _ _) ?_
    refine aw_dup dX12_feed_19 rfl ?_
    refine aw_iconst (v := 1) dX12_feed_20 (by decide) ?_
    refine aw_iload_n dX12_feed_21 rfl rfl ?_
    refine aw_iastJ (n := 5) (f := (upd (fun _ => 0) 0 x1)) 1 (by decide) dX12_feed_22 (hp_last s gb _) (by unfold vp_in; decide) (hp_last_set s gb _ _) ?_
    refine aw_dup dX12_feed_23 rfl ?_
    refine aw_iconst (v := 2) dX12_feed_24 (by decide) ?_
    refine aw_iload_n dX12_feed_25 rfl rfl ?_
    refine aw_iastJ (n := 5) (f := (upd (upd (fun _ => 0) 0 x1) 1 x2)) 2 (by decide) dX12_feed_26 (hp_last s gb _) (by unfold vp_in; decide) (hp_last_set s gb _ _) ?_
    refine aw_dup dX12_feed_27 rfl ?_
    refine aw_iconst (v := 3) dX12_feed_28 (by decide) ?_
    refine aw_iload dX12_feed_29 rfl ?_
    refine aw_iastJ (n := 5) (f := (upd (upd (upd (fun _ => 0) 0 x1) 1 x2) 2 x3)) 3 (by decide) dX12_feed_31 (hp_last s gb _) (by unfold vp_in; decide) (hp_last_set s gb _ _) ?_
    refine aw_dup dX12_feed_32 rfl ?_
    refine aw_iconst (v := 4) dX12_feed_33 (by decide) ?_
    refine aw_iload dX12_feed_34 rfl ?_
    refine aw_iastJ (n := 5) (f := (upd (upd (upd (upd (fun _ => 0) 0 x1) 1 x2) 2 x3) 3 x4)) 4 (by decide) dX12_feed_36 (hp_last s gb _) (by unfold vp_in; decide) (hp_last_set s gb _ _) ?_
    refine aw_astore (L' := [some (.ref 58), some (.int x1), some (.int x2), some (.int x3), some (.int x4), some (.int x5), some (.ref (71 + gb.length)), none]) dX12_feed_37 (by decide) rfl ?_
    refine aw_iconst (v := 0) dX12_feed_39 (by decide) ?_
    refine aw_istore (L' := [some (.ref 58), some (.int x1), some (.int x2), some (.int x3), some (.int x4), some (.int x5), some (.ref (71 + gb.length)), some (.int 0)]) dX12_feed_40 (by decide) rfl ?_
    refine aw_less (L' := [some (.ref 58), none, none, none, none, none, some (.ref (71 + gb.length)), some (.int 0)]) (And.intro rfl (And.intro rfl (And.intro rfl trivial))) ?_
    refine (?_ : AW _ _ _ _ _ _ _ _ _ _ _ 42 _ _ _)
    obtain ⟨e1, hw, hf⟩ := ax_bind hf
    have hgo := wh_go ((0 : Int32), s) (fun a42 : Int32 × sx_M => AW l X RX12 "feed" cX12_feed 8 (some .int) (ax_rm 0 1 5) (ax_MQ X Q 1 5) (0 + 1) (0 + 5) 42 [some (.ref 58), none, none, none, none, none, some (.ref (71 + gb.length)), some (.int a42.1)] [] (hp a42.2 (gb ++ [.inl (.int, 5, .inl (upd (upd (upd (upd (upd (fun _ => 0) 0 x1) 1 x2) 2 x3) 3 x4) 4 x5))]))) (fun e : sx_M => AW l X RX12 "feed" cX12_feed 8 (some .int) (ax_rm 0 1 5) (ax_MQ X Q 1 5) (0 + 1) (0 + 5) 89 [some (.ref 58), none, none, none, none, none, none, none] [] (hp e (gb ++ [.inl (.int, 5, .inl (upd (upd (upd (upd (upd (fun _ => 0) 0 x1) 1 x2) 2 x3) 3 x4) 4 x5))]))) hw
    refine hgo ?_ ?_
    · intro a42 r hf hK
      unfold f_X12_feed_L42 at hf
      refine aw_iload dX12_feed_42 rfl ?_
      refine aw_bipush (v := 20) dX12_feed_44 (by decide) ?_
      refine aw_icmp_ge (tgt := 89) dX12_feed_46 (by decide) (fun hc1 => ?_) (fun hc1 => ?_)
      · have hf := ax_pos hc1 hf
        refine aw_less (L' := [some (.ref 58), none, none, none, none, none, none, none]) (And.intro rfl trivial) ?_
        cases hf
        exact hK
      · have hf := ax_neg hc1 hf
        refine aw_aload_n dX12_feed_49 rfl rfl ?_
        refine aw_gR dX12_feed_50 fl_X12_20 sh_58 rfl ?_
        refine aw_aload_n dX12_feed_53 rfl rfl ?_
        refine aw_gI dX12_feed_54 fl_X12_75 sh_58 rfl ?_
        refine aw_iload dX12_feed_57 rfl ?_
        refine aw_iadd dX12_feed_59 ?_
        refine aw_aload dX12_feed_60 rfl ?_
        refine aw_iload dX12_feed_62 rfl ?_
        refine aw_iconst (v := 4) dX12_feed_64 (by decide) ?_
        refine aw_idiv dX12_feed_65 (by decide) ?_
        obtain ⟨hc2, hf⟩ := ax_ite hf
        refine aw_iald (n := 5) (f := (upd (upd (upd (upd (upd (fun _ => 0) 0 x1) 1 x2) 2 x3) 3 x4) 4 x5)) dX12_feed_66 (hp_last _ gb _) hc2 ?_
        refine aw_bipush (v := 24) dX12_feed_67 (by decide) ?_
        refine aw_bipush (v := 8) dX12_feed_69 (by decide) ?_
        refine aw_iload dX12_feed_71 rfl ?_
        refine aw_iconst (v := 4) dX12_feed_73 (by decide) ?_
        refine aw_irem dX12_feed_74 (by decide) ?_
        refine aw_imul dX12_feed_75 ?_
        refine aw_isub dX12_feed_76 ?_
        refine aw_iushr dX12_feed_77 ?_
        refine aw_sipush (v := 255) dX12_feed_78 (by decide) ?_
        refine aw_iand dX12_feed_81 ?_
        obtain ⟨hc3, hf⟩ := ax_ite hf
        refine aw_sA dX12_feed_82 sh_61 hc3 ?_
        refine aw_iinc (v := (a42.1 + (1 : Int32))) (L' := [some (.ref 58), none, none, none, none, none, some (.ref (71 + gb.length)), some (.int (a42.1 + (1 : Int32)))]) dX12_feed_83 rfl rfl (by decide) rfl ?_
        refine aw_goto (tgt := 42) dX12_feed_86 (by decide) ?_
        cases hf
        exact hK
    · refine aw_aload_n dX12_feed_89 rfl rfl ?_
      refine aw_dup dX12_feed_90 rfl ?_
      refine aw_gI dX12_feed_91 fl_X12_75 sh_58 rfl ?_
      refine aw_bipush (v := 20) dX12_feed_94 (by decide) ?_
      refine aw_iadd dX12_feed_96 ?_
      refine aw_pI dX12_feed_97 fp_X12_75 sh_58 rfl rfl rfl ?_
      refine aw_aload_n dX12_feed_100 rfl rfl ?_
      refine aw_gI dX12_feed_101 fl_X12_75 sh_58 rfl ?_
      cases hf
      exact aw_iret dX12_feed_104 (hq _) (Nat.le_refl _) (Nat.le_refl _)
  · have hf := ax_neg hc hf
    refine aw_iconst (v := -1) dX12_feed_10 (by decide) ?_
    cases hf
    exact aw_iret dX12_feed_11 (hq _) (Nat.le_of_ble_eq_true rfl) (Nat.le_of_ble_eq_true rfl)
