noncomputable def f_X4_forget (s : sx_M) : Option sx_M :=
  some (wI s 9 4 (0 : Int32))
set_option maxRecDepth 100000 in
set_option maxHeartbeats 4000000 in
theorem k_X4_forget {l : Launch} {X : ax_X} {Q : Option Value → ax_H → Prop} (s : sx_M) (gb : ax_H) {p : sx_M} (hf : f_X4_forget s = some p) (hq : Q (none) (hp p gb)) : AM l X yX4_forget cX4_forget 1 none 0 0 0 [.ref 9] (hp s gb) Q := by
  refine aw_met (own := RX4) (nm := "forget") (L := [some (.ref 9)]) (by decide +kernel) rfl rfl (And.intro rfl trivial) (Nat.le_of_ble_eq_true rfl) ?_
  unfold f_X4_forget at hf
  refine aw_aload_n dX4_forget_0 rfl rfl ?_
  refine aw_iconst (v := 0) dX4_forget_1 (by decide) ?_
  refine aw_pI dX4_forget_2 fp_X4_30 sh_9 rfl (by decide) (by decide) ?_
  cases hf
  exact aw_vret dX4_forget_5 hq (Nat.le_refl _) (Nat.le_refl _)
noncomputable def f_X4_addToPart_L31 (a31 : sx_M) : Option ((sx_M) ⊕ (sx_M)) :=
  (if (rI a31 9 11) ≤ 0 then
 some (.inr a31)
else
 (if ¬ ((rI a31 9 11) < 0 ∨ 64 ≤ ((rI a31 9 11)).toNatClampNeg) then
 (if ((rI a31 9 12) - (rA a31 12 ((rI a31 9 11)).toNatClampNeg)) ≤ (rI a31 9 10) then
 some (.inr a31)
else
 (if ¬ ((rI a31 9 11) < 0 ∨ 64 ≤ ((rI a31 9 11)).toNatClampNeg) then
 some (.inl (wI (wI a31 9 12 ((rI a31 9 12) - (rA a31 12 ((rI a31 9 11)).toNatClampNeg))) 9 11 ((rI (wI a31 9 12 ((rI a31 9 12) - (rA a31 12 ((rI a31 9 11)).toNatClampNeg))) 9 11) - (1 : Int32))))
else none))
else none))
noncomputable def f_X4_addToPart (x1 : Int32) (x2 : Int32) (s : sx_M) : Option sx_M :=
  (if x1 < 0 then
 some s
else
 (if x1 < (64 : Int32) then
 (if ¬ (x1 < 0 ∨ 64 ≤ (x1).toNatClampNeg) then
 (if ¬ (x1 < 0 ∨ 64 ≤ (x1).toNatClampNeg) then
 (whT (f_X4_addToPart_L31) (wI (wA s 12 (x1).toNatClampNeg ((rA s 12 (x1).toNatClampNeg) + x2)) 9 12 ((rI (wA s 12 (x1).toNatClampNeg ((rA s 12 (x1).toNatClampNeg) + x2)) 9 12) + x2))).bind (fun b1 =>
 some b1)
else none)
else none)
else
 some s))
set_option maxRecDepth 100000 in
set_option maxHeartbeats 4000000 in
theorem k_X4_addToPart {l : Launch} {X : ax_X} {Q : Option Value → ax_H → Prop} (x1 : Int32) (x2 : Int32) (s : sx_M) (gb : ax_H) {p : sx_M} (hf : f_X4_addToPart x1 x2 s = some p) (hq : Q (none) (hp p gb)) : AM l X yX4_addToPart cX4_addToPart 3 none 0 0 0 [.ref 9, .int x1, .int x2] (hp s gb) Q := by
  refine aw_met (own := RX4) (nm := "addToPart") (L := [some (.ref 9), some (.int x1), some (.int x2)]) (by decide +kernel) rfl rfl (And.intro rfl (And.intro rfl (And.intro rfl trivial))) (Nat.le_of_ble_eq_true rfl) ?_
  unfold f_X4_addToPart at hf
  refine aw_iload_n dX4_addToPart_0 rfl rfl ?_
  refine aw_if_lt (tgt := 10) dX4_addToPart_1 (by decide) (fun hc8 => ?_) (fun hc8 => ?_)
  · have hf := ax_pos hc8 hf
    cases hf
    exact aw_vret dX4_addToPart_10 hq (Nat.le_refl _) (Nat.le_refl _)
  · have hf := ax_neg hc8 hf
    refine aw_iload_n dX4_addToPart_4 rfl rfl ?_
    refine aw_bipush (v := 64) dX4_addToPart_5 (by decide) ?_
    refine aw_icmp_lt (tgt := 11) dX4_addToPart_7 (by decide) (fun hc7 => ?_) (fun hc7 => ?_)
    · have hf := ax_pos hc7 hf
      refine aw_aload_n dX4_addToPart_11 rfl rfl ?_
      refine aw_gR dX4_addToPart_12 fl_X4_19 sh_9 rfl ?_
      refine aw_iload_n dX4_addToPart_15 rfl rfl ?_
      refine aw_dup2_11 dX4_addToPart_16 rfl rfl ?_
      obtain ⟨hc1, hf⟩ := ax_ite hf
      refine aw_lA dX4_addToPart_17 sh_12 hc1 ?_
      refine aw_iload_n dX4_addToPart_18 rfl rfl ?_
      refine aw_iadd dX4_addToPart_19 ?_
      obtain ⟨hc2, hf⟩ := ax_ite hf
      refine aw_sA dX4_addToPart_20 sh_12 hc2 ?_
      refine aw_aload_n dX4_addToPart_21 rfl rfl ?_
      refine aw_dup dX4_addToPart_22 rfl ?_
      refine aw_gI dX4_addToPart_23 fl_X4_89 sh_9 rfl ?_
      refine aw_iload_n dX4_addToPart_26 rfl rfl ?_
      refine aw_iadd dX4_addToPart_27 ?_
      refine aw_pI dX4_addToPart_28 fp_X4_89 sh_9 rfl rfl rfl ?_
      refine aw_less (L' := [some (.ref 9), none, none]) (And.intro rfl trivial) ?_
      obtain ⟨b1, hb1, hf⟩ := ax_bind hf
      refine wh_go (wI (wA s 12 (x1).toNatClampNeg ((rA s 12 (x1).toNatClampNeg) + x2)) 9 12 ((rI (wA s 12 (x1).toNatClampNeg ((rA s 12 (x1).toNatClampNeg) + x2)) 9 12) + x2)) (fun a31 : sx_M => AW l X RX4 "addToPart" cX4_addToPart 3 none (ax_rm 0 0 0) (ax_MQ X Q 0 0) 0 0 31 [some (.ref 9), none, none] [] (hp a31 gb)) (fun e : sx_M => AW l X RX4 "addToPart" cX4_addToPart 3 none (ax_rm 0 0 0) (ax_MQ X Q 0 0) 0 0 90 [none, none, none] [] (hp e gb)) hb1 ?_ ?_
      · intro a31 r hf hK
        unfold f_X4_addToPart_L31 at hf
        refine aw_aload_n dX4_addToPart_31 rfl rfl ?_
        refine aw_gI dX4_addToPart_32 fl_X4_86 sh_9 rfl ?_
        refine aw_if_le (tgt := 90) dX4_addToPart_35 (by decide) (fun hc6 => ?_) (fun hc6 => ?_)
        · have hf := ax_pos hc6 hf
          refine aw_less (L' := [none, none, none]) trivial ?_
          cases hf
          exact hK
        · have hf := ax_neg hc6 hf
          refine aw_aload_n dX4_addToPart_38 rfl rfl ?_
          refine aw_gI dX4_addToPart_39 fl_X4_89 sh_9 rfl ?_
          refine aw_aload_n dX4_addToPart_42 rfl rfl ?_
          refine aw_gR dX4_addToPart_43 fl_X4_19 sh_9 rfl ?_
          refine aw_aload_n dX4_addToPart_46 rfl rfl ?_
          refine aw_gI dX4_addToPart_47 fl_X4_86 sh_9 rfl ?_
          obtain ⟨hc3, hf⟩ := ax_ite hf
          refine aw_lA dX4_addToPart_50 sh_12 hc3 ?_
          refine aw_isub dX4_addToPart_51 ?_
          refine aw_aload_n dX4_addToPart_52 rfl rfl ?_
          refine aw_gI dX4_addToPart_53 fl_X4_68 sh_9 rfl ?_
          refine aw_icmp_le (tgt := 90) dX4_addToPart_56 (by decide) (fun hc5 => ?_) (fun hc5 => ?_)
          · have hf := ax_pos hc5 hf
            refine aw_less (L' := [none, none, none]) trivial ?_
            cases hf
            exact hK
          · have hf := ax_neg hc5 hf
            refine aw_aload_n dX4_addToPart_59 rfl rfl ?_
            refine aw_dup dX4_addToPart_60 rfl ?_
            refine aw_gI dX4_addToPart_61 fl_X4_89 sh_9 rfl ?_
            refine aw_aload_n dX4_addToPart_64 rfl rfl ?_
            refine aw_gR dX4_addToPart_65 fl_X4_19 sh_9 rfl ?_
            refine aw_aload_n dX4_addToPart_68 rfl rfl ?_
            refine aw_gI dX4_addToPart_69 fl_X4_86 sh_9 rfl ?_
            obtain ⟨hc4, hf⟩ := ax_ite hf
            refine aw_lA dX4_addToPart_72 sh_12 hc4 ?_
            refine aw_isub dX4_addToPart_73 ?_
            refine aw_pI dX4_addToPart_74 fp_X4_89 sh_9 rfl rfl rfl ?_
            refine aw_aload_n dX4_addToPart_77 rfl rfl ?_
            refine aw_dup dX4_addToPart_78 rfl ?_
            refine aw_gI dX4_addToPart_79 fl_X4_86 sh_9 rfl ?_
            refine aw_iconst (v := 1) dX4_addToPart_82 (by decide) ?_
            refine aw_isub dX4_addToPart_83 ?_
            refine aw_pI dX4_addToPart_84 fp_X4_86 sh_9 rfl rfl rfl ?_
            refine aw_goto (tgt := 31) dX4_addToPart_87 (by decide) ?_
            cases hf
            exact hK
      · cases hf
        exact aw_vret dX4_addToPart_90 hq (Nat.le_refl _) (Nat.le_refl _)
    · have hf := ax_neg hc7 hf
      cases hf
      exact aw_vret dX4_addToPart_10 hq (Nat.le_refl _) (Nat.le_refl _)
noncomputable def f_X4_spread_L9_J185 (rec : Int32 → Int32 → Int64 → sx_M → Option sx_M) (z1 : Int32) (z2 : Int32) (z3 : Int64) (y6_185 : Int32) (y7_185 : Int32) (y8_185 : Int64) (s_185 : sx_M) : Option ((Int32 × sx_M) ⊕ (sx_M)) :=
  (rec y7_185 (z2 + (1 : Int32)) (z3 + y8_185) s_185).bind (fun p1 =>
 some (.inl ((y6_185 + (1 : Int32)), p1)))
noncomputable def f_X4_spread_L9 (rec : Int32 → Int32 → Int64 → sx_M → Option sx_M) (z1 : Int32) (z2 : Int32) (z3 : Int64) (a9 : Int32 × sx_M) : Option ((Int32 × sx_M) ⊕ (sx_M)) :=
  (if (rI a9.2 3 1) ≤ z2 then
 some (.inr a9.2)
else
 (if (rI a9.2 3 2) ≤ a9.1 then
 some (.inr a9.2)
else
 (f_X1_at 3 z2 a9.1 a9.2).bind (fun p2 =>
 (if (z1 ||| ((1 : Int32) <<< (a9.1 &&& 31))) = z1 then
 some (.inl ((a9.1 + (1 : Int32)), p2.2))
else
 (if p2.1 = (9223372036854775807 : Int64) then
 some (.inl ((a9.1 + (1 : Int32)), p2.2))
else
 (if ¬ ((z1 ||| ((1 : Int32) <<< (a9.1 &&& 31))) < 0 ∨ 256 ≤ ((z1 ||| ((1 : Int32) <<< (a9.1 &&& 31)))).toNatClampNeg) then
 (if (rA p2.2 6 ((z1 ||| ((1 : Int32) <<< (a9.1 &&& 31)))).toNatClampNeg) = 0 then
 some (.inl ((a9.1 + (1 : Int32)), p2.2))
else
 (if ¬ ((z1 ||| ((1 : Int32) <<< (a9.1 &&& 31))) < 0 ∨ 256 ≤ ((z1 ||| ((1 : Int32) <<< (a9.1 &&& 31)))).toNatClampNeg) then
 (if ¬ ((z1 ||| ((1 : Int32) <<< (a9.1 &&& 31))) < 0 ∨ 256 ≤ ((z1 ||| ((1 : Int32) <<< (a9.1 &&& 31)))).toNatClampNeg) then
 (if ((z3 + p2.1) + (rB p2.2 8 ((z1 ||| ((1 : Int32) <<< (a9.1 &&& 31)))).toNatClampNeg)) < (0 : Int64) then
 some (.inl ((a9.1 + (1 : Int32)), p2.2))
else
 (if (((z3 + p2.1) + (rB p2.2 7 ((z1 ||| ((1 : Int32) <<< (a9.1 &&& 31)))).toNatClampNeg)) >>> (((rI p2.2 9 9)).toInt64 &&& 63)) ≤ ((rI p2.2 9 11)).toInt64 then
 (if ((z3 + p2.1) + (rB p2.2 7 ((z1 ||| ((1 : Int32) <<< (a9.1 &&& 31)))).toNatClampNeg)) < (0 : Int64) then
 f_X4_spread_L9_J185 rec z1 z2 z3 a9.1 (z1 ||| ((1 : Int32) <<< (a9.1 &&& 31))) p2.1 p2.2
else
 (if (((z3 + p2.1) + (rB p2.2 7 ((z1 ||| ((1 : Int32) <<< (a9.1 &&& 31)))).toNatClampNeg)) >>> (((rI p2.2 9 9)).toInt64 &&& 63)) = (((z3 + p2.1) + (rB p2.2 8 ((z1 ||| ((1 : Int32) <<< (a9.1 &&& 31)))).toNatClampNeg)) >>> (((rI p2.2 9 9)).toInt64 &&& 63)) then
 (if ¬ ((z1 ||| ((1 : Int32) <<< (a9.1 &&& 31))) < 0 ∨ 256 ≤ ((z1 ||| ((1 : Int32) <<< (a9.1 &&& 31)))).toNatClampNeg) then
 (f_X4_addToPart (((((z3 + p2.1) + (rB p2.2 7 ((z1 ||| ((1 : Int32) <<< (a9.1 &&& 31)))).toNatClampNeg)) >>> (((rI p2.2 9 9)).toInt64 &&& 63))).toInt32) (rA p2.2 6 ((z1 ||| ((1 : Int32) <<< (a9.1 &&& 31)))).toNatClampNeg) p2.2).bind (fun p3 =>
 some (.inl ((a9.1 + (1 : Int32)), p3)))
else none)
else
 f_X4_spread_L9_J185 rec z1 z2 z3 a9.1 (z1 ||| ((1 : Int32) <<< (a9.1 &&& 31))) p2.1 p2.2))
else
 some (.inl ((a9.1 + (1 : Int32)), p2.2))))
else none)
else none))
else none))))))
noncomputable def fb_X4_spread (rec : Int32 → Int32 → Int64 → sx_M → Option sx_M) (x1 : Int32) (x2 : Int32) (x3 : Int64) (s : sx_M) : Option sx_M :=
  (whT (f_X4_spread_L9 rec x1 x2 x3) ((0 : Int32), s)).bind (fun b4 =>
 some b4)
noncomputable def fr_X4_spread : Nat → Int32 → Int32 → Int64 → sx_M → Option sx_M
  | 0 => fun _ _ _ _ => none
  | n + 1 => fun x1 x2 x3 s => fb_X4_spread (fr_X4_spread n) x1 x2 x3 s
noncomputable def f_X4_spread (x1 : Int32) (x2 : Int32) (x3 : Int64) (s : sx_M) : Option sx_M := fr_X4_spread 9 x1 x2 x3 s
set_option maxRecDepth 100000 in
set_option maxHeartbeats 4000000 in
theorem kr_X4_spread {l : Launch} {X : ax_X} : ∀ (n : Nat) {Q : Option Value → ax_H → Prop} (x1 : Int32) (x2 : Int32) (x3 : Int64) (s : sx_M) (gb : ax_H) {p : sx_M}, fr_X4_spread n x1 x2 x3 s = some p → Q (none) (hp p gb) → AM l X yX4_spread cX4_spread 14 none (n + 0) 0 0 [.ref 9, .int x1, .int x2, .long x3] (hp s gb) Q := by
  intro n
  induction n with
  | zero => intro Q x1 x2 x3 s gb p hf hq; cases hf
  | succ n ih =>
    intro Q x1 x2 x3 s gb p hf hq
    have hf : fb_X4_spread (fr_X4_spread n) x1 x2 x3 s = some p := hf
    refine aw_met (own := RX4) (nm := "spread") (L := [some (.ref 9), some (.int x1), some (.int x2), some (.long x3), none, none, none, none, none, none, none, none, none, none]) (by decide +kernel) rfl rfl (And.intro rfl (And.intro rfl (And.intro rfl (And.intro rfl trivial)))) (Nat.le_of_ble_eq_true rfl) ?_
    unfold fb_X4_spread at hf
    refine aw_aload_n dX4_spread_0 rfl rfl ?_
    refine aw_gR dX4_spread_1 fl_X4_26 sh_9 rfl ?_
    refine aw_astore (L' := [some (.ref 9), some (.int x1), some (.int x2), some (.long x3), none, some (.ref 5), none, none, none, none, none, none, none, none]) dX4_spread_4 (by decide) rfl ?_
    refine aw_iconst (v := 0) dX4_spread_6 (by decide) ?_
    refine aw_istore (L' := [some (.ref 9), some (.int x1), some (.int x2), some (.long x3), none, some (.ref 5), some (.int (0 : Int32)), none, none, none, none, none, none, none]) dX4_spread_7 (by decide) rfl ?_
    obtain ⟨b4, hb4, hf⟩ := ax_bind hf
    refine wh_go ((0 : Int32), s) (fun a9 : Int32 × sx_M => AW l X RX4 "spread" cX4_spread 14 none (ax_rm (n + 1 + 0) 0 0) (ax_MQ X Q 0 0) 0 0 9 [some (.ref 9), some (.int x1), some (.int x2), some (.long x3), none, some (.ref 5), some (.int a9.1), none, none, none, none, none, none, none] [] (hp a9.2 gb)) (fun e : sx_M => AW l X RX4 "spread" cX4_spread 14 none (ax_rm (n + 1 + 0) 0 0) (ax_MQ X Q 0 0) 0 0 204 [none, none, none, none, none, none, none, none, none, none, none, none, none, none] [] (hp e gb)) hb4 ?_ ?_
    · intro a9 r hf hK
      unfold f_X4_spread_L9 at hf
      have J185 : ∀ (y6_185 : Int32) (y7_185 : Int32) (y8_185 : Int64) (s_185 : sx_M), f_X4_spread_L9_J185 (fr_X4_spread n) x1 x2 x3 y6_185 y7_185 y8_185 s_185 = some r → AW l X RX4 "spread" cX4_spread 14 none (ax_rm (n + 1 + 0) 0 0) (ax_MQ X Q 0 0) 0 0 185 [some (.ref 9), some (.int x1), some (.int x2), some (.long x3), none, some (.ref 5), some (.int y6_185), some (.int y7_185), some (.long y8_185), none, none, none, none, none] [] (hp s_185 gb) := by
        intro y6_185 y7_185 y8_185 s_185 hf
        unfold f_X4_spread_L9_J185 at hf
        refine aw_aload_n dX4_spread_185 rfl rfl ?_
        refine aw_iload dX4_spread_186 rfl ?_
        refine aw_iload_n dX4_spread_188 rfl rfl ?_
        refine aw_iconst (v := 1) dX4_spread_189 (by decide) ?_
        refine aw_iadd dX4_spread_190 ?_
        refine aw_lload_n dX4_spread_191 rfl rfl ?_
        refine aw_lload dX4_spread_192 rfl ?_
        refine aw_ladd dX4_spread_194 ?_
        obtain ⟨p1, hp1, hf⟩ := ax_bind hf
        refine aw_cSv (As := [.ref 9, .int y7_185, .int (x2 + (1 : Int32)), .long (x3 + y8_185)]) (st := []) dX4_spread_195 cl_X4_92 st_X4_spread (ih (Q := (fun v h' => v = none ∧ h' = hp p1 gb)) y7_185 (x2 + (1 : Int32)) (x3 + y8_185) s_185 gb hp1 ⟨rfl, rfl⟩) rfl rfl (Nat.le_of_ble_eq_true rfl) rfl (by omega) (by decide) ?_
        refine aw_iinc (v := (y6_185 + (1 : Int32))) (L' := [some (.ref 9), some (.int x1), some (.int x2), some (.long x3), none, some (.ref 5), some (.int (y6_185 + (1 : Int32))), some (.int y7_185), some (.long y8_185), none, none, none, none, none]) dX4_spread_198 rfl rfl (by decide) rfl ?_
        refine aw_goto (tgt := 9) dX4_spread_201 (by decide) ?_
        refine aw_less (L' := [some (.ref 9), some (.int x1), some (.int x2), some (.long x3), none, some (.ref 5), some (.int (y6_185 + (1 : Int32))), none, none, none, none, none, none, none]) (And.intro rfl (And.intro rfl (And.intro rfl (And.intro rfl (And.intro rfl (And.intro rfl trivial)))))) ?_
        cases hf
        exact hK
      refine aw_iload_n dX4_spread_9 rfl rfl ?_
      refine aw_aload_n dX4_spread_10 rfl rfl ?_
      refine aw_gR dX4_spread_11 fl_X4_22 sh_9 rfl ?_
      refine aw_gI dX4_spread_14 fl_X4_59 sh_3 rfl ?_
      refine aw_icmp_ge (tgt := 204) dX4_spread_17 (by decide) (fun hc13 => ?_) (fun hc13 => ?_)
      · have hf := ax_pos hc13 hf
        refine aw_less (L' := [none, none, none, none, none, none, none, none, none, none, none, none, none, none]) trivial ?_
        cases hf
        exact hK
      · have hf := ax_neg hc13 hf
        refine aw_iload dX4_spread_20 rfl ?_
        refine aw_aload_n dX4_spread_22 rfl rfl ?_
        refine aw_gR dX4_spread_23 fl_X4_22 sh_9 rfl ?_
        refine aw_gI dX4_spread_26 fl_X4_96 sh_3 rfl ?_
        refine aw_icmp_ge (tgt := 204) dX4_spread_29 (by decide) (fun hc12 => ?_) (fun hc12 => ?_)
        · have hf := ax_pos hc12 hf
          refine aw_less (L' := [none, none, none, none, none, none, none, none, none, none, none, none, none, none]) trivial ?_
          cases hf
          exact hK
        · have hf := ax_neg hc12 hf
          refine aw_iload_n dX4_spread_32 rfl rfl ?_
          refine aw_iconst (v := 1) dX4_spread_33 (by decide) ?_
          refine aw_iload dX4_spread_34 rfl ?_
          refine aw_ishl dX4_spread_36 ?_
          refine aw_ior dX4_spread_37 ?_
          refine aw_istore (L' := [some (.ref 9), some (.int x1), some (.int x2), some (.long x3), none, some (.ref 5), some (.int a9.1), some (.int (x1 ||| ((1 : Int32) <<< (a9.1 &&& 31)))), none, none, none, none, none, none]) dX4_spread_38 (by decide) rfl ?_
          refine aw_aload_n dX4_spread_40 rfl rfl ?_
          refine aw_gR dX4_spread_41 fl_X4_22 sh_9 rfl ?_
          refine aw_iload_n dX4_spread_44 rfl rfl ?_
          refine aw_iload dX4_spread_45 rfl ?_
          obtain ⟨p2, hp2, hf⟩ := ax_bind hf
          refine aw_cVl (As := [.int x2, .int a9.1]) (st := []) dX4_spread_47 cl_X4_99 iv_X1_at (k_X1_at (Q := (fun v h' => v = some (.long p2.1) ∧ h' = hp p2.2 gb)) 3 x2 a9.1 a9.2 gb ax_G3 hp2 ⟨rfl, rfl⟩) (ci := 1) rfl (hp_get sh_3) rfl rfl rfl (Nat.le_of_ble_eq_true rfl) rfl (by omega) (by decide) ?_
          refine aw_lstore (L' := [some (.ref 9), some (.int x1), some (.int x2), some (.long x3), none, some (.ref 5), some (.int a9.1), some (.int (x1 ||| ((1 : Int32) <<< (a9.1 &&& 31)))), some (.long p2.1), none, none, none, none, none]) dX4_spread_50 (by decide) rfl ?_
          refine aw_iload dX4_spread_52 rfl ?_
          refine aw_iload_n dX4_spread_54 rfl rfl ?_
          refine aw_icmp_eq (tgt := 198) dX4_spread_55 (by decide) (fun hc11 => ?_) (fun hc11 => ?_)
          · have hf := ax_pos hc11 hf
            refine aw_iinc (v := (a9.1 + (1 : Int32))) (L' := [some (.ref 9), some (.int x1), some (.int x2), some (.long x3), none, some (.ref 5), some (.int (a9.1 + (1 : Int32))), some (.int (x1 ||| ((1 : Int32) <<< (a9.1 &&& 31)))), some (.long p2.1), none, none, none, none, none]) dX4_spread_198 rfl rfl (by decide) rfl ?_
            refine aw_goto (tgt := 9) dX4_spread_201 (by decide) ?_
            refine aw_less (L' := [some (.ref 9), some (.int x1), some (.int x2), some (.long x3), none, some (.ref 5), some (.int (a9.1 + (1 : Int32))), none, none, none, none, none, none, none]) (And.intro rfl (And.intro rfl (And.intro rfl (And.intro rfl (And.intro rfl (And.intro rfl trivial)))))) ?_
            cases hf
            exact hK
          · have hf := ax_neg hc11 hf
            refine aw_lload dX4_spread_58 rfl ?_
            refine aw_ldc2 dX4_spread_60 kc_X4_103 ?_
            refine aw_lcmp_eq (tgt := 198) dX4_spread_63 dX4_spread_64 (by decide) (fun hc10 => ?_) (fun hc10 => ?_)
            · have hf := ax_pos hc10 hf
              refine aw_iinc (v := (a9.1 + (1 : Int32))) (L' := [some (.ref 9), some (.int x1), some (.int x2), some (.long x3), none, some (.ref 5), some (.int (a9.1 + (1 : Int32))), some (.int (x1 ||| ((1 : Int32) <<< (a9.1 &&& 31)))), some (.long p2.1), none, none, none, none, none]) dX4_spread_198 rfl rfl (by decide) rfl ?_
              refine aw_goto (tgt := 9) dX4_spread_201 (by decide) ?_
              refine aw_less (L' := [some (.ref 9), some (.int x1), some (.int x2), some (.long x3), none, some (.ref 5), some (.int (a9.1 + (1 : Int32))), none, none, none, none, none, none, none]) (And.intro rfl (And.intro rfl (And.intro rfl (And.intro rfl (And.intro rfl (And.intro rfl trivial)))))) ?_
              cases hf
              exact hK
            · have hf := ax_neg hc10 hf
              refine aw_aload dX4_spread_67 rfl ?_
              refine aw_gR dX4_spread_69 fl_X4_105 sh_5 rfl ?_
              refine aw_iload dX4_spread_72 rfl ?_
              obtain ⟨hc1, hf⟩ := ax_ite hf
              refine aw_lA dX4_spread_74 sh_6 hc1 ?_
              refine aw_if_ne (tgt := 81) dX4_spread_75 (by decide) (fun hc9 => ?_) (fun hc9 => ?_)
              · have hf := ax_neg hc9 hf
                refine aw_lload_n dX4_spread_81 rfl rfl ?_
                refine aw_lload dX4_spread_82 rfl ?_
                refine aw_ladd dX4_spread_84 ?_
                refine aw_aload dX4_spread_85 rfl ?_
                refine aw_gR dX4_spread_87 fl_X4_62 sh_5 rfl ?_
                refine aw_iload dX4_spread_90 rfl ?_
                obtain ⟨hc2, hf⟩ := ax_ite hf
                refine aw_lB dX4_spread_92 sh_7 hc2 ?_
                refine aw_ladd dX4_spread_93 ?_
                refine aw_lstore (L' := [some (.ref 9), some (.int x1), some (.int x2), some (.long x3), none, some (.ref 5), some (.int a9.1), some (.int (x1 ||| ((1 : Int32) <<< (a9.1 &&& 31)))), some (.long p2.1), none, some (.long ((x3 + p2.1) + (rB p2.2 7 ((x1 ||| ((1 : Int32) <<< (a9.1 &&& 31)))).toNatClampNeg))), none, none, none]) dX4_spread_94 (by decide) rfl ?_
                refine aw_lload_n dX4_spread_96 rfl rfl ?_
                refine aw_lload dX4_spread_97 rfl ?_
                refine aw_ladd dX4_spread_99 ?_
                refine aw_aload dX4_spread_100 rfl ?_
                refine aw_gR dX4_spread_102 fl_X4_65 sh_5 rfl ?_
                refine aw_iload dX4_spread_105 rfl ?_
                obtain ⟨hc3, hf⟩ := ax_ite hf
                refine aw_lB dX4_spread_107 sh_8 hc3 ?_
                refine aw_ladd dX4_spread_108 ?_
                refine aw_lstore (L' := [some (.ref 9), some (.int x1), some (.int x2), some (.long x3), none, some (.ref 5), some (.int a9.1), some (.int (x1 ||| ((1 : Int32) <<< (a9.1 &&& 31)))), some (.long p2.1), none, some (.long ((x3 + p2.1) + (rB p2.2 7 ((x1 ||| ((1 : Int32) <<< (a9.1 &&& 31)))).toNatClampNeg))), none, some (.long ((x3 + p2.1) + (rB p2.2 8 ((x1 ||| ((1 : Int32) <<< (a9.1 &&& 31)))).toNatClampNeg))), none]) dX4_spread_109 (by decide) rfl ?_
                refine aw_lload dX4_spread_111 rfl ?_
                refine aw_lconst (v := 0) dX4_spread_113 (by decide) ?_
                refine aw_lcmp_lt (tgt := 198) dX4_spread_114 dX4_spread_115 (by decide) (fun hc8 => ?_) (fun hc8 => ?_)
                · have hf := ax_pos hc8 hf
                  refine aw_iinc (v := (a9.1 + (1 : Int32))) (L' := [some (.ref 9), some (.int x1), some (.int x2), some (.long x3), none, some (.ref 5), some (.int (a9.1 + (1 : Int32))), some (.int (x1 ||| ((1 : Int32) <<< (a9.1 &&& 31)))), some (.long p2.1), none, some (.long ((x3 + p2.1) + (rB p2.2 7 ((x1 ||| ((1 : Int32) <<< (a9.1 &&& 31)))).toNatClampNeg))), none, some (.long ((x3 + p2.1) + (rB p2.2 8 ((x1 ||| ((1 : Int32) <<< (a9.1 &&& 31)))).toNatClampNeg))), none]) dX4_spread_198 rfl rfl (by decide) rfl ?_
                  refine aw_goto (tgt := 9) dX4_spread_201 (by decide) ?_
                  refine aw_less (L' := [some (.ref 9), some (.int x1), some (.int x2), some (.long x3), none, some (.ref 5), some (.int (a9.1 + (1 : Int32))), none, none, none, none, none, none, none]) (And.intro rfl (And.intro rfl (And.intro rfl (And.intro rfl (And.intro rfl (And.intro rfl trivial)))))) ?_
                  cases hf
                  exact hK
                · have hf := ax_neg hc8 hf
                  refine aw_lload dX4_spread_118 rfl ?_
                  refine aw_aload_n dX4_spread_120 rfl rfl ?_
                  refine aw_gI dX4_spread_121 fl_X4_71 sh_9 rfl ?_
                  refine aw_lshr dX4_spread_124 ?_
                  refine aw_aload_n dX4_spread_125 rfl rfl ?_
                  refine aw_gI dX4_spread_126 fl_X4_86 sh_9 rfl ?_
                  refine aw_i2l dX4_spread_129 ?_
                  refine aw_lcmp_le (tgt := 137) dX4_spread_130 dX4_spread_131 (by decide) (fun hc7 => ?_) (fun hc7 => ?_)
                  · have hf := ax_pos hc7 hf
                    refine aw_lload dX4_spread_137 rfl ?_
                    refine aw_lconst (v := 0) dX4_spread_139 (by decide) ?_
                    refine aw_lcmp_lt (tgt := 185) dX4_spread_140 dX4_spread_141 (by decide) (fun hc6 => ?_) (fun hc6 => ?_)
                    · have hf := ax_pos hc6 hf
                      refine aw_less (L' := [some (.ref 9), some (.int x1), some (.int x2), some (.long x3), none, some (.ref 5), some (.int a9.1), some (.int (x1 ||| ((1 : Int32) <<< (a9.1 &&& 31)))), some (.long p2.1), none, none, none, none, none]) (And.intro rfl (And.intro rfl (And.intro rfl (And.intro rfl (And.intro rfl (And.intro rfl (And.intro rfl (And.intro rfl trivial)))))))) ?_
                      exact J185 a9.1 (x1 ||| ((1 : Int32) <<< (a9.1 &&& 31))) p2.1 p2.2 hf
                    · have hf := ax_neg hc6 hf
                      refine aw_lload dX4_spread_144 rfl ?_
                      refine aw_aload_n dX4_spread_146 rfl rfl ?_
                      refine aw_gI dX4_spread_147 fl_X4_71 sh_9 rfl ?_
                      refine aw_lshr dX4_spread_150 ?_
                      refine aw_lload dX4_spread_151 rfl ?_
                      refine aw_aload_n dX4_spread_153 rfl rfl ?_
                      refine aw_gI dX4_spread_154 fl_X4_71 sh_9 rfl ?_
                      refine aw_lshr dX4_spread_157 ?_
                      refine aw_lcmp_ne (tgt := 185) dX4_spread_158 dX4_spread_159 (by decide) (fun hc5 => ?_) (fun hc5 => ?_)
                      · have hf := ax_neg hc5 hf
                        refine aw_less (L' := [some (.ref 9), some (.int x1), some (.int x2), some (.long x3), none, some (.ref 5), some (.int a9.1), some (.int (x1 ||| ((1 : Int32) <<< (a9.1 &&& 31)))), some (.long p2.1), none, none, none, none, none]) (And.intro rfl (And.intro rfl (And.intro rfl (And.intro rfl (And.intro rfl (And.intro rfl (And.intro rfl (And.intro rfl trivial)))))))) ?_
                        exact J185 a9.1 (x1 ||| ((1 : Int32) <<< (a9.1 &&& 31))) p2.1 p2.2 hf
                      · have hf := ax_pos hc5 hf
                        refine aw_aload_n dX4_spread_162 rfl rfl ?_
                        refine aw_lload dX4_spread_163 rfl ?_
                        refine aw_aload_n dX4_spread_165 rfl rfl ?_
                        refine aw_gI dX4_spread_166 fl_X4_71 sh_9 rfl ?_
                        refine aw_lshr dX4_spread_169 ?_
                        refine aw_l2i dX4_spread_170 ?_
                        refine aw_aload dX4_spread_171 rfl ?_
                        refine aw_gR dX4_spread_173 fl_X4_105 sh_5 rfl ?_
                        refine aw_iload dX4_spread_176 rfl ?_
                        obtain ⟨hc4, hf⟩ := ax_ite hf
                        refine aw_lA dX4_spread_178 sh_6 hc4 ?_
                        obtain ⟨p3, hp3, hf⟩ := ax_bind hf
                        refine aw_cVv (As := [.int (((((x3 + p2.1) + (rB p2.2 7 ((x1 ||| ((1 : Int32) <<< (a9.1 &&& 31)))).toNatClampNeg)) >>> (((rI p2.2 9 9)).toInt64 &&& 63))).toInt32), .int (rA p2.2 6 ((x1 ||| ((1 : Int32) <<< (a9.1 &&& 31)))).toNatClampNeg)]) (st := []) dX4_spread_179 cl_X4_108 iv_X4_addToPart (k_X4_addToPart (Q := (fun v h' => v = none ∧ h' = hp p3 gb)) (((((x3 + p2.1) + (rB p2.2 7 ((x1 ||| ((1 : Int32) <<< (a9.1 &&& 31)))).toNatClampNeg)) >>> (((rI p2.2 9 9)).toInt64 &&& 63))).toInt32) (rA p2.2 6 ((x1 ||| ((1 : Int32) <<< (a9.1 &&& 31)))).toNatClampNeg) p2.2 gb hp3 ⟨rfl, rfl⟩) (ci := 4) rfl (hp_get sh_9) rfl rfl rfl (Nat.le_of_ble_eq_true rfl) rfl (by omega) (by decide) ?_
                        refine aw_goto (tgt := 198) dX4_spread_182 (by decide) ?_
                        refine aw_iinc (v := (a9.1 + (1 : Int32))) (L' := [some (.ref 9), some (.int x1), some (.int x2), some (.long x3), none, some (.ref 5), some (.int (a9.1 + (1 : Int32))), some (.int (x1 ||| ((1 : Int32) <<< (a9.1 &&& 31)))), some (.long p2.1), none, some (.long ((x3 + p2.1) + (rB p2.2 7 ((x1 ||| ((1 : Int32) <<< (a9.1 &&& 31)))).toNatClampNeg))), none, some (.long ((x3 + p2.1) + (rB p2.2 8 ((x1 ||| ((1 : Int32) <<< (a9.1 &&& 31)))).toNatClampNeg))), none]) dX4_spread_198 rfl rfl (by decide) rfl ?_
                        refine aw_goto (tgt := 9) dX4_spread_201 (by decide) ?_
                        refine aw_less (L' := [some (.ref 9), some (.int x1), some (.int x2), some (.long x3), none, some (.ref 5), some (.int (a9.1 + (1 : Int32))), none, none, none, none, none, none, none]) (And.intro rfl (And.intro rfl (And.intro rfl (And.intro rfl (And.intro rfl (And.intro rfl trivial)))))) ?_
                        cases hf
                        exact hK
                  · have hf := ax_neg hc7 hf
                    refine aw_goto (tgt := 198) dX4_spread_134 (by decide) ?_
                    refine aw_iinc (v := (a9.1 + (1 : Int32))) (L' := [some (.ref 9), some (.int x1), some (.int x2), some (.long x3), none, some (.ref 5), some (.int (a9.1 + (1 : Int32))), some (.int (x1 ||| ((1 : Int32) <<< (a9.1 &&& 31)))), some (.long p2.1), none, some (.long ((x3 + p2.1) + (rB p2.2 7 ((x1 ||| ((1 : Int32) <<< (a9.1 &&& 31)))).toNatClampNeg))), none, some (.long ((x3 + p2.1) + (rB p2.2 8 ((x1 ||| ((1 : Int32) <<< (a9.1 &&& 31)))).toNatClampNeg))), none]) dX4_spread_198 rfl rfl (by decide) rfl ?_
                    refine aw_goto (tgt := 9) dX4_spread_201 (by decide) ?_
                    refine aw_less (L' := [some (.ref 9), some (.int x1), some (.int x2), some (.long x3), none, some (.ref 5), some (.int (a9.1 + (1 : Int32))), none, none, none, none, none, none, none]) (And.intro rfl (And.intro rfl (And.intro rfl (And.intro rfl (And.intro rfl (And.intro rfl trivial)))))) ?_
                    cases hf
                    exact hK
              · have hf := ax_pos hc9 hf
                refine aw_goto (tgt := 198) dX4_spread_78 (by decide) ?_
                refine aw_iinc (v := (a9.1 + (1 : Int32))) (L' := [some (.ref 9), some (.int x1), some (.int x2), some (.long x3), none, some (.ref 5), some (.int (a9.1 + (1 : Int32))), some (.int (x1 ||| ((1 : Int32) <<< (a9.1 &&& 31)))), some (.long p2.1), none, none, none, none, none]) dX4_spread_198 rfl rfl (by decide) rfl ?_
                refine aw_goto (tgt := 9) dX4_spread_201 (by decide) ?_
                refine aw_less (L' := [some (.ref 9), some (.int x1), some (.int x2), some (.long x3), none, some (.ref 5), some (.int (a9.1 + (1 : Int32))), none, none, none, none, none, none, none]) (And.intro rfl (And.intro rfl (And.intro rfl (And.intro rfl (And.intro rfl (And.intro rfl trivial)))))) ?_
                cases hf
                exact hK
    · cases hf
      exact aw_vret dX4_spread_204 hq (Nat.le_refl _) (Nat.le_refl _)
theorem k_X4_spread {l : Launch} {X : ax_X} {Q : Option Value → ax_H → Prop} (x1 : Int32) (x2 : Int32) (x3 : Int64) (s : sx_M) (gb : ax_H) {p : sx_M} (hf : f_X4_spread x1 x2 x3 s = some p) (hq : Q (none) (hp p gb)) : AM l X yX4_spread cX4_spread 14 none (9) 0 0 [.ref 9, .int x1, .int x2, .long x3] (hp s gb) Q := kr_X4_spread 9 x1 x2 x3 s gb hf hq
noncomputable def f_X4_partOfSkipped_L2 (z1 : Int64) (a2 : Int32 × sx_M) : Option ((Int32 × sx_M) ⊕ (sx_M)) :=
  (if (64 : Int32) ≤ a2.1 then
 some (.inr a2.2)
else
 (if ¬ (a2.1 < 0 ∨ 64 ≤ (a2.1).toNatClampNeg) then
 some (.inl ((a2.1 + (1 : Int32)), (wA a2.2 12 (a2.1).toNatClampNeg (0 : Int32))))
else none))
noncomputable def f_X4_partOfSkipped_L42 (a42 : Int32 × sx_M) : Option ((Int32 × sx_M) ⊕ (Int32 × sx_M)) :=
  (if (63 : Int32) ≤ a42.1 then
 some (.inr (a42.1, a42.2))
else
 (if ¬ (a42.1 < 0 ∨ 64 ≤ (a42.1).toNatClampNeg) then
 (if (rI a42.2 9 10) < (rA a42.2 12 (a42.1).toNatClampNeg) then
 some (.inr (a42.1, a42.2))
else
 (if ¬ (a42.1 < 0 ∨ 64 ≤ (a42.1).toNatClampNeg) then
 some (.inl ((a42.1 + (1 : Int32)), (wI a42.2 9 10 ((rI a42.2 9 10) - (rA a42.2 12 (a42.1).toNatClampNeg)))))
else none))
else none))
noncomputable def f_X4_partOfSkipped (x1 : Int64) (s : sx_M) : Option (Int32 × sx_M) :=
  (whT (f_X4_partOfSkipped_L2 x1) ((0 : Int32), s)).bind (fun b1 =>
 (f_X4_spread (0 : Int32) (0 : Int32) (-x1) (wI (wI b1 9 11 (63 : Int32)) 9 12 (0 : Int32))).bind (fun p2 =>
 (whT (f_X4_partOfSkipped_L42) ((0 : Int32), p2)).bind (fun b3 =>
 some (b3.1, b3.2))))
set_option maxRecDepth 100000 in
set_option maxHeartbeats 4000000 in
theorem k_X4_partOfSkipped {l : Launch} {X : ax_X} {Q : Option Value → ax_H → Prop} (x1 : Int64) (s : sx_M) (gb : ax_H) {p : Int32 × sx_M} (hf : f_X4_partOfSkipped x1 s = some p) (hq : Q (some (.int p.1)) (hp p.2 gb)) : AM l X yX4_partOfSkipped cX4_partOfSkipped 4 (some .int) 10 0 0 [.ref 9, .long x1] (hp s gb) Q := by
  refine aw_met (own := RX4) (nm := "partOfSkipped") (L := [some (.ref 9), some (.long x1), none, none]) (by decide +kernel) rfl rfl (And.intro rfl (And.intro rfl trivial)) (Nat.le_of_ble_eq_true rfl) ?_
  unfold f_X4_partOfSkipped at hf
  refine aw_iconst (v := 0) dX4_partOfSkipped_0 (by decide) ?_
  refine aw_istore_n (L' := [some (.ref 9), some (.long x1), none, some (.int (0 : Int32))]) dX4_partOfSkipped_1 rfl (by decide) rfl ?_
  obtain ⟨b1, hb1, hf⟩ := ax_bind hf
  refine wh_go ((0 : Int32), s) (fun a2 : Int32 × sx_M => AW l X RX4 "partOfSkipped" cX4_partOfSkipped 4 (some .int) (ax_rm 10 0 0) (ax_MQ X Q 0 0) 0 0 2 [some (.ref 9), some (.long x1), none, some (.int a2.1)] [] (hp a2.2 gb)) (fun e : sx_M => AW l X RX4 "partOfSkipped" cX4_partOfSkipped 4 (some .int) (ax_rm 10 0 0) (ax_MQ X Q 0 0) 0 0 21 [some (.ref 9), some (.long x1), none, none] [] (hp e gb)) hb1 ?_ ?_
  · intro a2 r hf hK
    unfold f_X4_partOfSkipped_L2 at hf
    refine aw_iload_n dX4_partOfSkipped_2 rfl rfl ?_
    refine aw_bipush (v := 64) dX4_partOfSkipped_3 (by decide) ?_
    refine aw_icmp_ge (tgt := 21) dX4_partOfSkipped_5 (by decide) (fun hc2 => ?_) (fun hc2 => ?_)
    · have hf := ax_pos hc2 hf
      refine aw_less (L' := [some (.ref 9), some (.long x1), none, none]) (And.intro rfl (And.intro rfl trivial)) ?_
      cases hf
      exact hK
    · have hf := ax_neg hc2 hf
      refine aw_aload_n dX4_partOfSkipped_8 rfl rfl ?_
      refine aw_gR dX4_partOfSkipped_9 fl_X4_19 sh_9 rfl ?_
      refine aw_iload_n dX4_partOfSkipped_12 rfl rfl ?_
      refine aw_iconst (v := 0) dX4_partOfSkipped_13 (by decide) ?_
      obtain ⟨hc1, hf⟩ := ax_ite hf
      refine aw_sA dX4_partOfSkipped_14 sh_12 hc1 ?_
      refine aw_iinc (v := (a2.1 + (1 : Int32))) (L' := [some (.ref 9), some (.long x1), none, some (.int (a2.1 + (1 : Int32)))]) dX4_partOfSkipped_15 rfl rfl (by decide) rfl ?_
      refine aw_goto (tgt := 2) dX4_partOfSkipped_18 (by decide) ?_
      cases hf
      exact hK
  · refine aw_aload_n dX4_partOfSkipped_21 rfl rfl ?_
    refine aw_bipush (v := 63) dX4_partOfSkipped_22 (by decide) ?_
    refine aw_pI dX4_partOfSkipped_24 fp_X4_86 sh_9 rfl rfl rfl ?_
    refine aw_aload_n dX4_partOfSkipped_27 rfl rfl ?_
    refine aw_iconst (v := 0) dX4_partOfSkipped_28 (by decide) ?_
    refine aw_pI dX4_partOfSkipped_29 fp_X4_89 sh_9 rfl rfl rfl ?_
    refine aw_aload_n dX4_partOfSkipped_32 rfl rfl ?_
    refine aw_iconst (v := 0) dX4_partOfSkipped_33 (by decide) ?_
    refine aw_iconst (v := 0) dX4_partOfSkipped_34 (by decide) ?_
    refine aw_lload_n dX4_partOfSkipped_35 rfl rfl ?_
    refine aw_lneg dX4_partOfSkipped_36 ?_
    obtain ⟨p2, hp2, hf⟩ := ax_bind hf
    refine aw_cSv (As := [.ref 9, .int (0 : Int32), .int (0 : Int32), .long (-x1)]) (st := []) dX4_partOfSkipped_37 cl_X4_92 st_X4_spread (k_X4_spread (Q := (fun v h' => v = none ∧ h' = hp p2 gb)) (0 : Int32) (0 : Int32) (-x1) (wI (wI b1 9 11 (63 : Int32)) 9 12 (0 : Int32)) gb hp2 ⟨rfl, rfl⟩) rfl rfl (Nat.le_of_ble_eq_true rfl) rfl (by decide) (by decide) ?_
    refine aw_iconst (v := 0) dX4_partOfSkipped_40 (by decide) ?_
    refine aw_istore_n (L' := [some (.ref 9), some (.long x1), none, some (.int (0 : Int32))]) dX4_partOfSkipped_41 rfl (by decide) rfl ?_
    refine aw_less (L' := [some (.ref 9), none, none, some (.int (0 : Int32))]) (And.intro rfl (And.intro rfl trivial)) ?_
    obtain ⟨b3, hb3, hf⟩ := ax_bind hf
    refine wh_go ((0 : Int32), p2) (fun a42 : Int32 × sx_M => AW l X RX4 "partOfSkipped" cX4_partOfSkipped 4 (some .int) (ax_rm 10 0 0) (ax_MQ X Q 0 0) 0 0 42 [some (.ref 9), none, none, some (.int a42.1)] [] (hp a42.2 gb)) (fun e : Int32 × sx_M => AW l X RX4 "partOfSkipped" cX4_partOfSkipped 4 (some .int) (ax_rm 10 0 0) (ax_MQ X Q 0 0) 0 0 82 [none, none, none, some (.int e.1)] [] (hp e.2 gb)) hb3 ?_ ?_
    · intro a42 r hf hK
      unfold f_X4_partOfSkipped_L42 at hf
      refine aw_iload_n dX4_partOfSkipped_42 rfl rfl ?_
      refine aw_bipush (v := 63) dX4_partOfSkipped_43 (by decide) ?_
      refine aw_icmp_ge (tgt := 82) dX4_partOfSkipped_45 (by decide) (fun hc6 => ?_) (fun hc6 => ?_)
      · have hf := ax_pos hc6 hf
        refine aw_less (L' := [none, none, none, some (.int a42.1)]) (And.intro rfl trivial) ?_
        cases hf
        exact hK
      · have hf := ax_neg hc6 hf
        refine aw_aload_n dX4_partOfSkipped_48 rfl rfl ?_
        refine aw_gI dX4_partOfSkipped_49 fl_X4_68 sh_9 rfl ?_
        refine aw_aload_n dX4_partOfSkipped_52 rfl rfl ?_
        refine aw_gR dX4_partOfSkipped_53 fl_X4_19 sh_9 rfl ?_
        refine aw_iload_n dX4_partOfSkipped_56 rfl rfl ?_
        obtain ⟨hc3, hf⟩ := ax_ite hf
        refine aw_lA dX4_partOfSkipped_57 sh_12 hc3 ?_
        refine aw_icmp_lt (tgt := 82) dX4_partOfSkipped_58 (by decide) (fun hc5 => ?_) (fun hc5 => ?_)
        · have hf := ax_pos hc5 hf
          refine aw_less (L' := [none, none, none, some (.int a42.1)]) (And.intro rfl trivial) ?_
          cases hf
          exact hK
        · have hf := ax_neg hc5 hf
          refine aw_aload_n dX4_partOfSkipped_61 rfl rfl ?_
          refine aw_dup dX4_partOfSkipped_62 rfl ?_
          refine aw_gI dX4_partOfSkipped_63 fl_X4_68 sh_9 rfl ?_
          refine aw_aload_n dX4_partOfSkipped_66 rfl rfl ?_
          refine aw_gR dX4_partOfSkipped_67 fl_X4_19 sh_9 rfl ?_
          refine aw_iload_n dX4_partOfSkipped_70 rfl rfl ?_
          obtain ⟨hc4, hf⟩ := ax_ite hf
          refine aw_lA dX4_partOfSkipped_71 sh_12 hc4 ?_
          refine aw_isub dX4_partOfSkipped_72 ?_
          refine aw_pI dX4_partOfSkipped_73 fp_X4_68 sh_9 rfl rfl rfl ?_
          refine aw_iinc (v := (a42.1 + (1 : Int32))) (L' := [some (.ref 9), none, none, some (.int (a42.1 + (1 : Int32)))]) dX4_partOfSkipped_76 rfl rfl (by decide) rfl ?_
          refine aw_goto (tgt := 42) dX4_partOfSkipped_79 (by decide) ?_
          cases hf
          exact hK
    · refine aw_iload_n dX4_partOfSkipped_82 rfl rfl ?_
      cases hf
      exact aw_iret dX4_partOfSkipped_83 hq (Nat.le_refl _) (Nat.le_refl _)
noncomputable def f_X4_sumAt_L33 (z2 : Int64) (z4 : Int64) (a33 : sx_M) : Option ((sx_M) ⊕ (sx_M)) :=
  (if (12 : Int32) ≤ (rI a33 9 9) then
 some (.inr a33)
else
 (if (z4 >>> (((rI a33 9 9)).toInt64 &&& 63)) < (64 : Int64) then
 some (.inr a33)
else
 some (.inl (wI a33 9 9 ((rI a33 9 9) + (1 : Int32))))))
noncomputable def f_X4_sumAt_L72 (a72 : Int64 × Int64 × Int32 × sx_M) : Option ((Int64 × Int64 × Int32 × sx_M) ⊕ (Int64 × sx_M)) :=
  (if (3 : Int32) ≤ a72.2.2.1 then
 some (.inr (a72.1, a72.2.2.2))
else
 (if a72.2.1 ≤ (0 : Int64) then
 some (.inr (a72.1, a72.2.2.2))
else
 (f_X4_partOfSkipped a72.1 a72.2.2.2).bind (fun p2 =>
 (f_J9_max_7cf53 (0 : Int32) ((rI p2.2 9 9) - (6 : Int32)) p2.2).bind (fun p3 =>
 some (.inl ((a72.1 + ((p2.1).toInt64 <<< (((rI p2.2 9 9)).toInt64 &&& 63))), ((((1 : Int32) <<< ((rI p2.2 9 9) &&& 31)) - (1 : Int32))).toInt64, (a72.2.2.1 + (1 : Int32)), (wI p3.2 9 9 p3.1)))))))
noncomputable def f_X4_sumAt (x1 : Int32) (s : sx_M) : Option (Int64 × sx_M) :=
  (whT (f_X4_sumAt_L33 (rB s 7 ((0 : Int32)).toNatClampNeg) ((rB s 8 ((0 : Int32)).toNatClampNeg) - (rB s 7 ((0 : Int32)).toNatClampNeg))) (wI (wI s 9 10 x1) 9 9 (0 : Int32))).bind (fun b1 =>
 (whT (f_X4_sumAt_L72) ((rB s 7 ((0 : Int32)).toNatClampNeg), ((rB s 8 ((0 : Int32)).toNatClampNeg) - (rB s 7 ((0 : Int32)).toNatClampNeg)), (0 : Int32), b1)).bind (fun b4 =>
 some (b4.1, b4.2)))
set_option maxRecDepth 100000 in
set_option maxHeartbeats 4000000 in
theorem k_X4_sumAt {l : Launch} {X : ax_X} {Q : Option Value → ax_H → Prop} (x1 : Int32) (s : sx_M) (gb : ax_H) {p : Int64 × sx_M} (hf : f_X4_sumAt x1 s = some p) (hq : Q (some (.long p.1)) (hp p.2 gb)) : AM l X yX4_sumAt cX4_sumAt 7 (some .long) 11 0 0 [.ref 9, .int x1] (hp s gb) Q := by
  refine aw_met (own := RX4) (nm := "sumAt") (L := [some (.ref 9), some (.int x1), none, none, none, none, none]) (by decide +kernel) rfl rfl (And.intro rfl (And.intro rfl trivial)) (Nat.le_of_ble_eq_true rfl) ?_
  unfold f_X4_sumAt at hf
  refine aw_aload_n dX4_sumAt_0 rfl rfl ?_
  refine aw_gR dX4_sumAt_1 fl_X4_26 sh_9 rfl ?_
  refine aw_gR dX4_sumAt_4 fl_X4_62 sh_5 rfl ?_
  refine aw_iconst (v := 0) dX4_sumAt_7 (by decide) ?_
  refine aw_lB dX4_sumAt_8 sh_7 (by decide) ?_
  refine aw_lstore_n (L' := [some (.ref 9), some (.int x1), some (.long (rB s 7 ((0 : Int32)).toNatClampNeg)), none, none, none, none]) dX4_sumAt_9 rfl (by decide) rfl ?_
  refine aw_aload_n dX4_sumAt_10 rfl rfl ?_
  refine aw_gR dX4_sumAt_11 fl_X4_26 sh_9 rfl ?_
  refine aw_gR dX4_sumAt_14 fl_X4_65 sh_5 rfl ?_
  refine aw_iconst (v := 0) dX4_sumAt_17 (by decide) ?_
  refine aw_lB dX4_sumAt_18 sh_8 (by decide) ?_
  refine aw_lload_n dX4_sumAt_19 rfl rfl ?_
  refine aw_lsub dX4_sumAt_20 ?_
  refine aw_lstore (L' := [some (.ref 9), some (.int x1), some (.long (rB s 7 ((0 : Int32)).toNatClampNeg)), none, some (.long ((rB s 8 ((0 : Int32)).toNatClampNeg) - (rB s 7 ((0 : Int32)).toNatClampNeg))), none, none]) dX4_sumAt_21 (by decide) rfl ?_
  refine aw_aload_n dX4_sumAt_23 rfl rfl ?_
  refine aw_iload_n dX4_sumAt_24 rfl rfl ?_
  refine aw_pI dX4_sumAt_25 fp_X4_68 sh_9 rfl rfl rfl ?_
  refine aw_aload_n dX4_sumAt_28 rfl rfl ?_
  refine aw_iconst (v := 0) dX4_sumAt_29 (by decide) ?_
  refine aw_pI dX4_sumAt_30 fp_X4_71 sh_9 rfl rfl rfl ?_
  refine aw_less (L' := [some (.ref 9), none, some (.long (rB s 7 ((0 : Int32)).toNatClampNeg)), none, some (.long ((rB s 8 ((0 : Int32)).toNatClampNeg) - (rB s 7 ((0 : Int32)).toNatClampNeg))), none, none]) (And.intro rfl (And.intro rfl (And.intro rfl trivial))) ?_
  obtain ⟨b1, hb1, hf⟩ := ax_bind hf
  refine wh_go (wI (wI s 9 10 x1) 9 9 (0 : Int32)) (fun a33 : sx_M => AW l X RX4 "sumAt" cX4_sumAt 7 (some .long) (ax_rm 11 0 0) (ax_MQ X Q 0 0) 0 0 33 [some (.ref 9), none, some (.long (rB s 7 ((0 : Int32)).toNatClampNeg)), none, some (.long ((rB s 8 ((0 : Int32)).toNatClampNeg) - (rB s 7 ((0 : Int32)).toNatClampNeg))), none, none] [] (hp a33 gb)) (fun e : sx_M => AW l X RX4 "sumAt" cX4_sumAt 7 (some .long) (ax_rm 11 0 0) (ax_MQ X Q 0 0) 0 0 69 [some (.ref 9), none, some (.long (rB s 7 ((0 : Int32)).toNatClampNeg)), none, some (.long ((rB s 8 ((0 : Int32)).toNatClampNeg) - (rB s 7 ((0 : Int32)).toNatClampNeg))), none, none] [] (hp e gb)) hb1 ?_ ?_
  · intro a33 r hf hK
    unfold f_X4_sumAt_L33 at hf
    refine aw_aload_n dX4_sumAt_33 rfl rfl ?_
    refine aw_gI dX4_sumAt_34 fl_X4_71 sh_9 rfl ?_
    refine aw_bipush (v := 12) dX4_sumAt_37 (by decide) ?_
    refine aw_icmp_ge (tgt := 69) dX4_sumAt_39 (by decide) (fun hc2 => ?_) (fun hc2 => ?_)
    · have hf := ax_pos hc2 hf
      cases hf
      exact hK
    · have hf := ax_neg hc2 hf
      refine aw_lload dX4_sumAt_42 rfl ?_
      refine aw_aload_n dX4_sumAt_44 rfl rfl ?_
      refine aw_gI dX4_sumAt_45 fl_X4_71 sh_9 rfl ?_
      refine aw_lshr dX4_sumAt_48 ?_
      refine aw_ldc2 dX4_sumAt_49 kc_X4_74 ?_
      refine aw_lcmp_lt (tgt := 69) dX4_sumAt_52 dX4_sumAt_53 (by decide) (fun hc1 => ?_) (fun hc1 => ?_)
      · have hf := ax_pos hc1 hf
        cases hf
        exact hK
      · have hf := ax_neg hc1 hf
        refine aw_aload_n dX4_sumAt_56 rfl rfl ?_
        refine aw_dup dX4_sumAt_57 rfl ?_
        refine aw_gI dX4_sumAt_58 fl_X4_71 sh_9 rfl ?_
        refine aw_iconst (v := 1) dX4_sumAt_61 (by decide) ?_
        refine aw_iadd dX4_sumAt_62 ?_
        refine aw_pI dX4_sumAt_63 fp_X4_71 sh_9 rfl rfl rfl ?_
        refine aw_goto (tgt := 33) dX4_sumAt_66 (by decide) ?_
        cases hf
        exact hK
  · refine aw_iconst (v := 0) dX4_sumAt_69 (by decide) ?_
    refine aw_istore (L' := [some (.ref 9), none, some (.long (rB s 7 ((0 : Int32)).toNatClampNeg)), none, some (.long ((rB s 8 ((0 : Int32)).toNatClampNeg) - (rB s 7 ((0 : Int32)).toNatClampNeg))), none, some (.int (0 : Int32))]) dX4_sumAt_70 (by decide) rfl ?_
    obtain ⟨b4, hb4, hf⟩ := ax_bind hf
    refine wh_go ((rB s 7 ((0 : Int32)).toNatClampNeg), ((rB s 8 ((0 : Int32)).toNatClampNeg) - (rB s 7 ((0 : Int32)).toNatClampNeg)), (0 : Int32), b1) (fun a72 : Int64 × Int64 × Int32 × sx_M => AW l X RX4 "sumAt" cX4_sumAt 7 (some .long) (ax_rm 11 0 0) (ax_MQ X Q 0 0) 0 0 72 [some (.ref 9), none, some (.long a72.1), none, some (.long a72.2.1), none, some (.int a72.2.2.1)] [] (hp a72.2.2.2 gb)) (fun e : Int64 × sx_M => AW l X RX4 "sumAt" cX4_sumAt 7 (some .long) (ax_rm 11 0 0) (ax_MQ X Q 0 0) 0 0 131 [none, none, some (.long e.1), none, none, none, none] [] (hp e.2 gb)) hb4 ?_ ?_
    · intro a72 r hf hK
      unfold f_X4_sumAt_L72 at hf
      refine aw_iload dX4_sumAt_72 rfl ?_
      refine aw_iconst (v := 3) dX4_sumAt_74 (by decide) ?_
      refine aw_icmp_ge (tgt := 131) dX4_sumAt_75 (by decide) (fun hc4 => ?_) (fun hc4 => ?_)
      · have hf := ax_pos hc4 hf
        refine aw_less (L' := [none, none, some (.long a72.1), none, none, none, none]) (And.intro rfl trivial) ?_
        cases hf
        exact hK
      · have hf := ax_neg hc4 hf
        refine aw_lload dX4_sumAt_78 rfl ?_
        refine aw_lconst (v := 0) dX4_sumAt_80 (by decide) ?_
        refine aw_lcmp_le (tgt := 131) dX4_sumAt_81 dX4_sumAt_82 (by decide) (fun hc3 => ?_) (fun hc3 => ?_)
        · have hf := ax_pos hc3 hf
          refine aw_less (L' := [none, none, some (.long a72.1), none, none, none, none]) (And.intro rfl trivial) ?_
          cases hf
          exact hK
        · have hf := ax_neg hc3 hf
          refine aw_lload_n dX4_sumAt_85 rfl rfl ?_
          refine aw_aload_n dX4_sumAt_86 rfl rfl ?_
          refine aw_lload_n dX4_sumAt_87 rfl rfl ?_
          obtain ⟨p2, hp2, hf⟩ := ax_bind hf
          refine aw_cVi (As := [.long a72.1]) (st := [.long a72.1]) dX4_sumAt_88 cl_X4_76 iv_X4_partOfSkipped (k_X4_partOfSkipped (Q := (fun v h' => v = some (.int p2.1) ∧ h' = hp p2.2 gb)) a72.1 a72.2.2.2 gb hp2 ⟨rfl, rfl⟩) (ci := 4) rfl (hp_get sh_9) rfl rfl rfl (Nat.le_of_ble_eq_true rfl) rfl (by decide) (by decide) ?_
          refine aw_i2l dX4_sumAt_91 ?_
          refine aw_aload_n dX4_sumAt_92 rfl rfl ?_
          refine aw_gI dX4_sumAt_93 fl_X4_71 sh_9 rfl ?_
          refine aw_lshl dX4_sumAt_96 ?_
          refine aw_ladd dX4_sumAt_97 ?_
          refine aw_lstore_n (L' := [some (.ref 9), none, some (.long (a72.1 + ((p2.1).toInt64 <<< (((rI p2.2 9 9)).toInt64 &&& 63)))), none, some (.long a72.2.1), none, some (.int a72.2.2.1)]) dX4_sumAt_98 rfl (by decide) rfl ?_
          refine aw_iconst (v := 1) dX4_sumAt_99 (by decide) ?_
          refine aw_aload_n dX4_sumAt_100 rfl rfl ?_
          refine aw_gI dX4_sumAt_101 fl_X4_71 sh_9 rfl ?_
          refine aw_ishl dX4_sumAt_104 ?_
          refine aw_iconst (v := 1) dX4_sumAt_105 (by decide) ?_
          refine aw_isub dX4_sumAt_106 ?_
          refine aw_i2l dX4_sumAt_107 ?_
          refine aw_lstore (L' := [some (.ref 9), none, some (.long (a72.1 + ((p2.1).toInt64 <<< (((rI p2.2 9 9)).toInt64 &&& 63)))), none, some (.long (((((1 : Int32) <<< ((rI p2.2 9 9) &&& 31)) - (1 : Int32))).toInt64)), none, some (.int a72.2.2.1)]) dX4_sumAt_108 (by decide) rfl ?_
          refine aw_aload_n dX4_sumAt_110 rfl rfl ?_
          refine aw_iconst (v := 0) dX4_sumAt_111 (by decide) ?_
          refine aw_aload_n dX4_sumAt_112 rfl rfl ?_
          refine aw_gI dX4_sumAt_113 fl_X4_71 sh_9 rfl ?_
          refine aw_bipush (v := 6) dX4_sumAt_116 (by decide) ?_
          refine aw_isub dX4_sumAt_118 ?_
          obtain ⟨p3, hp3, hf⟩ := ax_bind hf
          refine aw_cSi (As := [.int (0 : Int32), .int ((rI p2.2 9 9) - (6 : Int32))]) (st := [.ref 9]) dX4_sumAt_119 cl_X4_80 st_J9_max_7cf53 (k_J9_max_7cf53 (Q := (fun v h' => v = some (.int p3.1) ∧ h' = hp p3.2 gb)) (0 : Int32) ((rI p2.2 9 9) - (6 : Int32)) p2.2 gb hp3 ⟨rfl, rfl⟩) rfl rfl (Nat.le_of_ble_eq_true rfl) rfl (by decide) (by decide) ?_
          refine aw_pI dX4_sumAt_122 fp_X4_71 sh_9 rfl rfl rfl ?_
          refine aw_iinc (v := (a72.2.2.1 + (1 : Int32))) (L' := [some (.ref 9), none, some (.long (a72.1 + ((p2.1).toInt64 <<< (((rI p2.2 9 9)).toInt64 &&& 63)))), none, some (.long (((((1 : Int32) <<< ((rI p2.2 9 9) &&& 31)) - (1 : Int32))).toInt64)), none, some (.int (a72.2.2.1 + (1 : Int32)))]) dX4_sumAt_125 rfl rfl (by decide) rfl ?_
          refine aw_goto (tgt := 72) dX4_sumAt_128 (by decide) ?_
          cases hf
          exact hK
    · refine aw_lload_n dX4_sumAt_131 rfl rfl ?_
      cases hf
      exact aw_lret dX4_sumAt_132 hq (Nat.le_refl _) (Nat.le_refl _)
noncomputable def f_X4_add_L17 (z1 : Int32) (z2 : Int64) (a17 : Int32 × sx_M) : Option ((Int32 × sx_M) ⊕ (Int32 × sx_M)) :=
  (if a17.1 ≤ 0 then
 some (.inr (a17.1, a17.2))
else
 (if ¬ ((a17.1 - (1 : Int32)) < 0 ∨ 200 ≤ ((a17.1 - (1 : Int32))).toNatClampNeg) then
 (if (rB a17.2 11 ((a17.1 - (1 : Int32))).toNatClampNeg) ≤ z2 then
 some (.inr (a17.1, a17.2))
else
 (if ¬ ((a17.1 - (1 : Int32)) < 0 ∨ 200 ≤ ((a17.1 - (1 : Int32))).toNatClampNeg) then
 (if ¬ (a17.1 < 0 ∨ 200 ≤ (a17.1).toNatClampNeg) then
 (if ¬ ((a17.1 - (1 : Int32)) < 0 ∨ 200 ≤ ((a17.1 - (1 : Int32))).toNatClampNeg) then
 (if ¬ (a17.1 < 0 ∨ 200 ≤ (a17.1).toNatClampNeg) then
 some (.inl ((a17.1 + (-1 : Int32)), (wA (wB a17.2 11 (a17.1).toNatClampNeg (rB a17.2 11 ((a17.1 - (1 : Int32))).toNatClampNeg)) 10 (a17.1).toNatClampNeg (rA (wB a17.2 11 (a17.1).toNatClampNeg (rB a17.2 11 ((a17.1 - (1 : Int32))).toNatClampNeg)) 10 ((a17.1 - (1 : Int32))).toNatClampNeg))))
else none)
else none)
else none)
else none))
else none))
noncomputable def f_X4_add (x1 : Int32) (x2 : Int64) (s : sx_M) : Option sx_M :=
  (if (rI s 9 5) < (200 : Int32) then
 (whT (f_X4_add_L17 x1 x2) ((rI s 9 5), s)).bind (fun b1 =>
 (if ¬ (b1.1 < 0 ∨ 200 ≤ (b1.1).toNatClampNeg) then
 (if ¬ (b1.1 < 0 ∨ 200 ≤ (b1.1).toNatClampNeg) then
 (if x2 = (rJ (wI (wA (wB b1.2 11 (b1.1).toNatClampNeg x2) 10 (b1.1).toNatClampNeg x1) 9 5 ((rI (wA (wB b1.2 11 (b1.1).toNatClampNeg x2) 10 (b1.1).toNatClampNeg x1) 9 5) + (1 : Int32))) 9 6) then
 some (wI (wI (wA (wB b1.2 11 (b1.1).toNatClampNeg x2) 10 (b1.1).toNatClampNeg x1) 9 5 ((rI (wA (wB b1.2 11 (b1.1).toNatClampNeg x2) 10 (b1.1).toNatClampNeg x1) 9 5) + (1 : Int32))) 9 7 ((rI (wI (wA (wB b1.2 11 (b1.1).toNatClampNeg x2) 10 (b1.1).toNatClampNeg x1) 9 5 ((rI (wA (wB b1.2 11 (b1.1).toNatClampNeg x2) 10 (b1.1).toNatClampNeg x1) 9 5) + (1 : Int32))) 9 7) - (1 : Int32)))
else
 some (wI (wA (wB b1.2 11 (b1.1).toNatClampNeg x2) 10 (b1.1).toNatClampNeg x1) 9 5 ((rI (wA (wB b1.2 11 (b1.1).toNatClampNeg x2) 10 (b1.1).toNatClampNeg x1) 9 5) + (1 : Int32))))
else none)
else none))
else
 some s)
set_option maxRecDepth 100000 in
set_option maxHeartbeats 4000000 in
theorem k_X4_add {l : Launch} {X : ax_X} {Q : Option Value → ax_H → Prop} (x1 : Int32) (x2 : Int64) (s : sx_M) (gb : ax_H) {p : sx_M} (hf : f_X4_add x1 x2 s = some p) (hq : Q (none) (hp p gb)) : AM l X yX4_add cX4_add 5 none 0 0 0 [.ref 9, .int x1, .long x2] (hp s gb) Q := by
  refine aw_met (own := RX4) (nm := "add") (L := [some (.ref 9), some (.int x1), some (.long x2), none, none]) (by decide +kernel) rfl rfl (And.intro rfl (And.intro rfl (And.intro rfl trivial))) (Nat.le_of_ble_eq_true rfl) ?_
  unfold f_X4_add at hf
  refine aw_aload_n dX4_add_0 rfl rfl ?_
  refine aw_gI dX4_add_1 fl_X4_43 sh_9 rfl ?_
  refine aw_sipush (v := 200) dX4_add_4 (by decide) ?_
  refine aw_icmp_lt (tgt := 11) dX4_add_7 (by decide) (fun hc11 => ?_) (fun hc11 => ?_)
  · have hf := ax_pos hc11 hf
    refine aw_aload_n dX4_add_11 rfl rfl ?_
    refine aw_gI dX4_add_12 fl_X4_43 sh_9 rfl ?_
    refine aw_istore (L' := [some (.ref 9), some (.int x1), some (.long x2), none, some (.int (rI s 9 5))]) dX4_add_15 (by decide) rfl ?_
    obtain ⟨b1, hb1, hf⟩ := ax_bind hf
    refine wh_go ((rI s 9 5), s) (fun a17 : Int32 × sx_M => AW l X RX4 "add" cX4_add 5 none (ax_rm 0 0 0) (ax_MQ X Q 0 0) 0 0 17 [some (.ref 9), some (.int x1), some (.long x2), none, some (.int a17.1)] [] (hp a17.2 gb)) (fun e : Int32 × sx_M => AW l X RX4 "add" cX4_add 5 none (ax_rm 0 0 0) (ax_MQ X Q 0 0) 0 0 74 [some (.ref 9), some (.int x1), some (.long x2), none, some (.int e.1)] [] (hp e.2 gb)) hb1 ?_ ?_
    · intro a17 r hf hK
      unfold f_X4_add_L17 at hf
      refine aw_iload dX4_add_17 rfl ?_
      refine aw_if_le (tgt := 74) dX4_add_19 (by decide) (fun hc7 => ?_) (fun hc7 => ?_)
      · have hf := ax_pos hc7 hf
        cases hf
        exact hK
      · have hf := ax_neg hc7 hf
        refine aw_aload_n dX4_add_22 rfl rfl ?_
        refine aw_gR dX4_add_23 fl_X4_15 sh_9 rfl ?_
        refine aw_iload dX4_add_26 rfl ?_
        refine aw_iconst (v := 1) dX4_add_28 (by decide) ?_
        refine aw_isub dX4_add_29 ?_
        obtain ⟨hc1, hf⟩ := ax_ite hf
        refine aw_lB dX4_add_30 sh_11 hc1 ?_
        refine aw_lload_n dX4_add_31 rfl rfl ?_
        refine aw_lcmp_le (tgt := 74) dX4_add_32 dX4_add_33 (by decide) (fun hc6 => ?_) (fun hc6 => ?_)
        · have hf := ax_pos hc6 hf
          cases hf
          exact hK
        · have hf := ax_neg hc6 hf
          refine aw_aload_n dX4_add_36 rfl rfl ?_
          refine aw_gR dX4_add_37 fl_X4_15 sh_9 rfl ?_
          refine aw_iload dX4_add_40 rfl ?_
          refine aw_aload_n dX4_add_42 rfl rfl ?_
          refine aw_gR dX4_add_43 fl_X4_15 sh_9 rfl ?_
          refine aw_iload dX4_add_46 rfl ?_
          refine aw_iconst (v := 1) dX4_add_48 (by decide) ?_
          refine aw_isub dX4_add_49 ?_
          obtain ⟨hc2, hf⟩ := ax_ite hf
          refine aw_lB dX4_add_50 sh_11 hc2 ?_
          obtain ⟨hc3, hf⟩ := ax_ite hf
          refine aw_sB dX4_add_51 sh_11 hc3 ?_
          refine aw_aload_n dX4_add_52 rfl rfl ?_
          refine aw_gR dX4_add_53 fl_X4_9 sh_9 rfl ?_
          refine aw_iload dX4_add_56 rfl ?_
          refine aw_aload_n dX4_add_58 rfl rfl ?_
          refine aw_gR dX4_add_59 fl_X4_9 sh_9 rfl ?_
          refine aw_iload dX4_add_62 rfl ?_
          refine aw_iconst (v := 1) dX4_add_64 (by decide) ?_
          refine aw_isub dX4_add_65 ?_
          obtain ⟨hc4, hf⟩ := ax_ite hf
          refine aw_lA dX4_add_66 sh_10 hc4 ?_
          obtain ⟨hc5, hf⟩ := ax_ite hf
          refine aw_sA dX4_add_67 sh_10 hc5 ?_
          refine aw_iinc (v := (a17.1 + (-1 : Int32))) (L' := [some (.ref 9), some (.int x1), some (.long x2), none, some (.int (a17.1 + (-1 : Int32)))]) dX4_add_68 rfl rfl (by decide) rfl ?_
          refine aw_goto (tgt := 17) dX4_add_71 (by decide) ?_
          cases hf
          exact hK
    · refine aw_aload_n dX4_add_74 rfl rfl ?_
      refine aw_gR dX4_add_75 fl_X4_15 sh_9 rfl ?_
      refine aw_iload dX4_add_78 rfl ?_
      refine aw_lload_n dX4_add_80 rfl rfl ?_
      obtain ⟨hc8, hf⟩ := ax_ite hf
      refine aw_sB dX4_add_81 sh_11 hc8 ?_
      refine aw_aload_n dX4_add_82 rfl rfl ?_
      refine aw_gR dX4_add_83 fl_X4_9 sh_9 rfl ?_
      refine aw_iload dX4_add_86 rfl ?_
      refine aw_iload_n dX4_add_88 rfl rfl ?_
      obtain ⟨hc9, hf⟩ := ax_ite hf
      refine aw_sA dX4_add_89 sh_10 hc9 ?_
      refine aw_aload_n dX4_add_90 rfl rfl ?_
      refine aw_dup dX4_add_91 rfl ?_
      refine aw_gI dX4_add_92 fl_X4_43 sh_9 rfl ?_
      refine aw_iconst (v := 1) dX4_add_95 (by decide) ?_
      refine aw_iadd dX4_add_96 ?_
      refine aw_pI dX4_add_97 fp_X4_43 sh_9 rfl rfl rfl ?_
      refine aw_lload_n dX4_add_100 rfl rfl ?_
      refine aw_aload_n dX4_add_101 rfl rfl ?_
      refine aw_gJ dX4_add_102 fl_X4_123 sh_9 rfl ?_
      refine aw_lcmp_ne (tgt := 119) dX4_add_105 dX4_add_106 (by decide) (fun hc10 => ?_) (fun hc10 => ?_)
      · have hf := ax_neg hc10 hf
        cases hf
        exact aw_vret dX4_add_119 hq (Nat.le_refl _) (Nat.le_refl _)
      · have hf := ax_pos hc10 hf
        refine aw_aload_n dX4_add_109 rfl rfl ?_
        refine aw_dup dX4_add_110 rfl ?_
        refine aw_gI dX4_add_111 fl_X4_130 sh_9 rfl ?_
        refine aw_iconst (v := 1) dX4_add_114 (by decide) ?_
        refine aw_isub dX4_add_115 ?_
        refine aw_pI dX4_add_116 fp_X4_130 sh_9 rfl rfl rfl ?_
        cases hf
        exact aw_vret dX4_add_119 hq (Nat.le_refl _) (Nat.le_refl _)
  · have hf := ax_neg hc11 hf
    cases hf
    exact aw_vret dX4_add_10 hq (Nat.le_refl _) (Nat.le_refl _)
noncomputable def f_X4_belongs (x1 : Int64) (s : sx_M) : Option (Int32 × sx_M) :=
  (if x1 < (rJ s 9 6) then
 some ((1 : Int32), s)
else
 (if x1 = (rJ s 9 6) then
 (if (rI s 9 7) ≤ 0 then
 some ((0 : Int32), s)
else
 some ((1 : Int32), s))
else
 some ((0 : Int32), s)))
set_option maxRecDepth 100000 in
set_option maxHeartbeats 4000000 in
theorem k_X4_belongs {l : Launch} {X : ax_X} {Q : Option Value → ax_H → Prop} (x1 : Int64) (s : sx_M) (gb : ax_H) {p : Int32 × sx_M} (hf : f_X4_belongs x1 s = some p) (hq : Q (some (.int p.1)) (hp p.2 gb)) : AM l X yX4_belongs cX4_belongs 3 (some .boolean) 0 0 0 [.ref 9, .long x1] (hp s gb) Q := by
  refine aw_met (own := RX4) (nm := "belongs") (L := [some (.ref 9), some (.long x1), none]) (by decide +kernel) rfl rfl (And.intro rfl (And.intro rfl trivial)) (Nat.le_of_ble_eq_true rfl) ?_
  unfold f_X4_belongs at hf
  refine aw_lload_n dX4_belongs_0 rfl rfl ?_
  refine aw_aload_n dX4_belongs_1 rfl rfl ?_
  refine aw_gJ dX4_belongs_2 fl_X4_123 sh_9 rfl ?_
  refine aw_lcmp_lt (tgt := 25) dX4_belongs_5 dX4_belongs_6 (by decide) (fun hc3 => ?_) (fun hc3 => ?_)
  · have hf := ax_pos hc3 hf
    refine aw_iconst (v := 1) dX4_belongs_25 (by decide) ?_
    refine aw_goto (tgt := 30) dX4_belongs_26 (by decide) ?_
    cases hf
    exact aw_zret dX4_belongs_30 (by decide) hq (Nat.le_refl _) (Nat.le_refl _)
  · have hf := ax_neg hc3 hf
    refine aw_lload_n dX4_belongs_9 rfl rfl ?_
    refine aw_aload_n dX4_belongs_10 rfl rfl ?_
    refine aw_gJ dX4_belongs_11 fl_X4_123 sh_9 rfl ?_
    refine aw_lcmp_ne (tgt := 29) dX4_belongs_14 dX4_belongs_15 (by decide) (fun hc2 => ?_) (fun hc2 => ?_)
    · have hf := ax_neg hc2 hf
      refine aw_iconst (v := 0) dX4_belongs_29 (by decide) ?_
      cases hf
      exact aw_zret dX4_belongs_30 (by decide) hq (Nat.le_refl _) (Nat.le_refl _)
    · have hf := ax_pos hc2 hf
      refine aw_aload_n dX4_belongs_18 rfl rfl ?_
      refine aw_gI dX4_belongs_19 fl_X4_130 sh_9 rfl ?_
      refine aw_if_le (tgt := 29) dX4_belongs_22 (by decide) (fun hc1 => ?_) (fun hc1 => ?_)
      · have hf := ax_pos hc1 hf
        refine aw_iconst (v := 0) dX4_belongs_29 (by decide) ?_
        cases hf
        exact aw_zret dX4_belongs_30 (by decide) hq (Nat.le_refl _) (Nat.le_refl _)
      · have hf := ax_neg hc1 hf
        refine aw_iconst (v := 1) dX4_belongs_25 (by decide) ?_
        refine aw_goto (tgt := 30) dX4_belongs_26 (by decide) ?_
        cases hf
        exact aw_zret dX4_belongs_30 (by decide) hq (Nat.le_refl _) (Nat.le_refl _)
noncomputable def f_X4_collect_L22 (rec : Int32 → Int32 → Int64 → Int32 → sx_M → Option sx_M) (z1 : Int32) (z2 : Int32) (z3 : Int64) (z5 : Int32) (a22 : Int32 × sx_M) : Option ((Int32 × sx_M) ⊕ (sx_M)) :=
  (if (rI a22.2 3 2) ≤ a22.1 then
 some (.inr a22.2)
else
 (f_X1_at 3 z2 a22.1 a22.2).bind (fun p1 =>
 (if (z1 ||| ((1 : Int32) <<< (a22.1 &&& 31))) = z1 then
 some (.inl ((a22.1 + (1 : Int32)), p1.2))
else
 (if p1.1 = (9223372036854775807 : Int64) then
 some (.inl ((a22.1 + (1 : Int32)), p1.2))
else
 (if ¬ ((z1 ||| ((1 : Int32) <<< (a22.1 &&& 31))) < 0 ∨ 256 ≤ ((z1 ||| ((1 : Int32) <<< (a22.1 &&& 31)))).toNatClampNeg) then
 (if (rA p1.2 6 ((z1 ||| ((1 : Int32) <<< (a22.1 &&& 31)))).toNatClampNeg) ≤ 0 then
 some (.inl ((a22.1 + (1 : Int32)), p1.2))
else
 (if ¬ ((z1 ||| ((1 : Int32) <<< (a22.1 &&& 31))) < 0 ∨ 256 ≤ ((z1 ||| ((1 : Int32) <<< (a22.1 &&& 31)))).toNatClampNeg) then
 (f_X4_belongs ((z3 + p1.1) + (rB p1.2 7 ((z1 ||| ((1 : Int32) <<< (a22.1 &&& 31)))).toNatClampNeg)) p1.2).bind (fun p2 =>
 (if p2.1 = 0 then
 some (.inl ((a22.1 + (1 : Int32)), p2.2))
else
 (rec (z1 ||| ((1 : Int32) <<< (a22.1 &&& 31))) (z2 + (1 : Int32)) (z3 + p1.1) ((z5 * (8 : Int32)) + a22.1) p2.2).bind (fun p3 =>
 some (.inl ((a22.1 + (1 : Int32)), p3)))))
else none))
else none)))))
noncomputable def fb_X4_collect (rec : Int32 → Int32 → Int64 → Int32 → sx_M → Option sx_M) (x1 : Int32) (x2 : Int32) (x3 : Int64) (x5 : Int32) (s : sx_M) : Option sx_M :=
  (if x2 < (rI s 3 1) then
 (whT (f_X4_collect_L22 rec x1 x2 x3 x5) ((0 : Int32), s)).bind (fun b4 =>
 some b4)
else
 (f_X4_add x5 x3 s).bind (fun p5 =>
 some p5))
noncomputable def fr_X4_collect : Nat → Int32 → Int32 → Int64 → Int32 → sx_M → Option sx_M
  | 0 => fun _ _ _ _ _ => none
  | n + 1 => fun x1 x2 x3 x5 s => fb_X4_collect (fr_X4_collect n) x1 x2 x3 x5 s
noncomputable def f_X4_collect (x1 : Int32) (x2 : Int32) (x3 : Int64) (x5 : Int32) (s : sx_M) : Option sx_M := fr_X4_collect 9 x1 x2 x3 x5 s
set_option maxRecDepth 100000 in
set_option maxHeartbeats 4000000 in
theorem kr_X4_collect {l : Launch} {X : ax_X} : ∀ (n : Nat) {Q : Option Value → ax_H → Prop} (x1 : Int32) (x2 : Int32) (x3 : Int64) (x5 : Int32) (s : sx_M) (gb : ax_H) {p : sx_M}, fr_X4_collect n x1 x2 x3 x5 s = some p → Q (none) (hp p gb) → AM l X yX4_collect cX4_collect 12 none (n + 0) 0 0 [.ref 9, .int x1, .int x2, .long x3, .int x5] (hp s gb) Q := by
  intro n
  induction n with
  | zero => intro Q x1 x2 x3 x5 s gb p hf hq; cases hf
  | succ n ih =>
    intro Q x1 x2 x3 x5 s gb p hf hq
    have hf : fb_X4_collect (fr_X4_collect n) x1 x2 x3 x5 s = some p := hf
    refine aw_met (own := RX4) (nm := "collect") (L := [some (.ref 9), some (.int x1), some (.int x2), some (.long x3), none, some (.int x5), none, none, none, none, none, none]) (by decide +kernel) rfl rfl (And.intro rfl (And.intro rfl (And.intro rfl (And.intro rfl (And.intro rfl trivial))))) (Nat.le_of_ble_eq_true rfl) ?_
    unfold fb_X4_collect at hf
    refine aw_iload_n dX4_collect_0 rfl rfl ?_
    refine aw_aload_n dX4_collect_1 rfl rfl ?_
    refine aw_gR dX4_collect_2 fl_X4_22 sh_9 rfl ?_
    refine aw_gI dX4_collect_5 fl_X4_59 sh_3 rfl ?_
    refine aw_icmp_lt (tgt := 19) dX4_collect_8 (by decide) (fun hc8 => ?_) (fun hc8 => ?_)
    · have hf := ax_pos hc8 hf
      refine aw_iconst (v := 0) dX4_collect_19 (by decide) ?_
      refine aw_istore (L' := [some (.ref 9), some (.int x1), some (.int x2), some (.long x3), none, some (.int x5), some (.int (0 : Int32)), none, none, none, none, none]) dX4_collect_20 (by decide) rfl ?_
      obtain ⟨b4, hb4, hf⟩ := ax_bind hf
      refine wh_go ((0 : Int32), s) (fun a22 : Int32 × sx_M => AW l X RX4 "collect" cX4_collect 12 none (ax_rm (n + 1 + 0) 0 0) (ax_MQ X Q 0 0) 0 0 22 [some (.ref 9), some (.int x1), some (.int x2), some (.long x3), none, some (.int x5), some (.int a22.1), none, none, none, none, none] [] (hp a22.2 gb)) (fun e : sx_M => AW l X RX4 "collect" cX4_collect 12 none (ax_rm (n + 1 + 0) 0 0) (ax_MQ X Q 0 0) 0 0 133 [none, none, none, none, none, none, none, none, none, none, none, none] [] (hp e gb)) hb4 ?_ ?_
      · intro a22 r hf hK
        unfold f_X4_collect_L22 at hf
        refine aw_iload dX4_collect_22 rfl ?_
        refine aw_aload_n dX4_collect_24 rfl rfl ?_
        refine aw_gR dX4_collect_25 fl_X4_22 sh_9 rfl ?_
        refine aw_gI dX4_collect_28 fl_X4_96 sh_3 rfl ?_
        refine aw_icmp_ge (tgt := 133) dX4_collect_31 (by decide) (fun hc7 => ?_) (fun hc7 => ?_)
        · have hf := ax_pos hc7 hf
          refine aw_less (L' := [none, none, none, none, none, none, none, none, none, none, none, none]) trivial ?_
          cases hf
          exact hK
        · have hf := ax_neg hc7 hf
          refine aw_iload_n dX4_collect_34 rfl rfl ?_
          refine aw_iconst (v := 1) dX4_collect_35 (by decide) ?_
          refine aw_iload dX4_collect_36 rfl ?_
          refine aw_ishl dX4_collect_38 ?_
          refine aw_ior dX4_collect_39 ?_
          refine aw_istore (L' := [some (.ref 9), some (.int x1), some (.int x2), some (.long x3), none, some (.int x5), some (.int a22.1), some (.int (x1 ||| ((1 : Int32) <<< (a22.1 &&& 31)))), none, none, none, none]) dX4_collect_40 (by decide) rfl ?_
          refine aw_aload_n dX4_collect_42 rfl rfl ?_
          refine aw_gR dX4_collect_43 fl_X4_22 sh_9 rfl ?_
          refine aw_iload_n dX4_collect_46 rfl rfl ?_
          refine aw_iload dX4_collect_47 rfl ?_
          obtain ⟨p1, hp1, hf⟩ := ax_bind hf
          refine aw_cVl (As := [.int x2, .int a22.1]) (st := []) dX4_collect_49 cl_X4_99 iv_X1_at (k_X1_at (Q := (fun v h' => v = some (.long p1.1) ∧ h' = hp p1.2 gb)) 3 x2 a22.1 a22.2 gb ax_G3 hp1 ⟨rfl, rfl⟩) (ci := 1) rfl (hp_get sh_3) rfl rfl rfl (Nat.le_of_ble_eq_true rfl) rfl (by omega) (by decide) ?_
          refine aw_lstore (L' := [some (.ref 9), some (.int x1), some (.int x2), some (.long x3), none, some (.int x5), some (.int a22.1), some (.int (x1 ||| ((1 : Int32) <<< (a22.1 &&& 31)))), some (.long p1.1), none, none, none]) dX4_collect_52 (by decide) rfl ?_
          refine aw_iload dX4_collect_54 rfl ?_
          refine aw_iload_n dX4_collect_56 rfl rfl ?_
          refine aw_icmp_eq (tgt := 127) dX4_collect_57 (by decide) (fun hc6 => ?_) (fun hc6 => ?_)
          · have hf := ax_pos hc6 hf
            refine aw_iinc (v := (a22.1 + (1 : Int32))) (L' := [some (.ref 9), some (.int x1), some (.int x2), some (.long x3), none, some (.int x5), some (.int (a22.1 + (1 : Int32))), some (.int (x1 ||| ((1 : Int32) <<< (a22.1 &&& 31)))), some (.long p1.1), none, none, none]) dX4_collect_127 rfl rfl (by decide) rfl ?_
            refine aw_goto (tgt := 22) dX4_collect_130 (by decide) ?_
            refine aw_less (L' := [some (.ref 9), some (.int x1), some (.int x2), some (.long x3), none, some (.int x5), some (.int (a22.1 + (1 : Int32))), none, none, none, none, none]) (And.intro rfl (And.intro rfl (And.intro rfl (And.intro rfl (And.intro rfl (And.intro rfl trivial)))))) ?_
            cases hf
            exact hK
          · have hf := ax_neg hc6 hf
            refine aw_lload dX4_collect_60 rfl ?_
            refine aw_ldc2 dX4_collect_62 kc_X4_103 ?_
            refine aw_lcmp_eq (tgt := 127) dX4_collect_65 dX4_collect_66 (by decide) (fun hc5 => ?_) (fun hc5 => ?_)
            · have hf := ax_pos hc5 hf
              refine aw_iinc (v := (a22.1 + (1 : Int32))) (L' := [some (.ref 9), some (.int x1), some (.int x2), some (.long x3), none, some (.int x5), some (.int (a22.1 + (1 : Int32))), some (.int (x1 ||| ((1 : Int32) <<< (a22.1 &&& 31)))), some (.long p1.1), none, none, none]) dX4_collect_127 rfl rfl (by decide) rfl ?_
              refine aw_goto (tgt := 22) dX4_collect_130 (by decide) ?_
              refine aw_less (L' := [some (.ref 9), some (.int x1), some (.int x2), some (.long x3), none, some (.int x5), some (.int (a22.1 + (1 : Int32))), none, none, none, none, none]) (And.intro rfl (And.intro rfl (And.intro rfl (And.intro rfl (And.intro rfl (And.intro rfl trivial)))))) ?_
              cases hf
              exact hK
            · have hf := ax_neg hc5 hf
              refine aw_aload_n dX4_collect_69 rfl rfl ?_
              refine aw_gR dX4_collect_70 fl_X4_26 sh_9 rfl ?_
              refine aw_gR dX4_collect_73 fl_X4_105 sh_5 rfl ?_
              refine aw_iload dX4_collect_76 rfl ?_
              obtain ⟨hc1, hf⟩ := ax_ite hf
              refine aw_lA dX4_collect_78 sh_6 hc1 ?_
              refine aw_if_le (tgt := 127) dX4_collect_79 (by decide) (fun hc4 => ?_) (fun hc4 => ?_)
              · have hf := ax_pos hc4 hf
                refine aw_iinc (v := (a22.1 + (1 : Int32))) (L' := [some (.ref 9), some (.int x1), some (.int x2), some (.long x3), none, some (.int x5), some (.int (a22.1 + (1 : Int32))), some (.int (x1 ||| ((1 : Int32) <<< (a22.1 &&& 31)))), some (.long p1.1), none, none, none]) dX4_collect_127 rfl rfl (by decide) rfl ?_
                refine aw_goto (tgt := 22) dX4_collect_130 (by decide) ?_
                refine aw_less (L' := [some (.ref 9), some (.int x1), some (.int x2), some (.long x3), none, some (.int x5), some (.int (a22.1 + (1 : Int32))), none, none, none, none, none]) (And.intro rfl (And.intro rfl (And.intro rfl (And.intro rfl (And.intro rfl (And.intro rfl trivial)))))) ?_
                cases hf
                exact hK
              · have hf := ax_neg hc4 hf
                refine aw_lload_n dX4_collect_82 rfl rfl ?_
                refine aw_lload dX4_collect_83 rfl ?_
                refine aw_ladd dX4_collect_85 ?_
                refine aw_lstore (L' := [some (.ref 9), some (.int x1), some (.int x2), some (.long x3), none, some (.int x5), some (.int a22.1), some (.int (x1 ||| ((1 : Int32) <<< (a22.1 &&& 31)))), some (.long p1.1), none, some (.long (x3 + p1.1)), none]) dX4_collect_86 (by decide) rfl ?_
                refine aw_aload_n dX4_collect_88 rfl rfl ?_
                refine aw_lload dX4_collect_89 rfl ?_
                refine aw_aload_n dX4_collect_91 rfl rfl ?_
                refine aw_gR dX4_collect_92 fl_X4_26 sh_9 rfl ?_
                refine aw_gR dX4_collect_95 fl_X4_62 sh_5 rfl ?_
                refine aw_iload dX4_collect_98 rfl ?_
                obtain ⟨hc2, hf⟩ := ax_ite hf
                refine aw_lB dX4_collect_100 sh_7 hc2 ?_
                refine aw_ladd dX4_collect_101 ?_
                obtain ⟨p2, hp2, hf⟩ := ax_bind hf
                refine aw_cVi (As := [.long ((x3 + p1.1) + (rB p1.2 7 ((x1 ||| ((1 : Int32) <<< (a22.1 &&& 31)))).toNatClampNeg))]) (st := []) dX4_collect_102 cl_X4_141 iv_X4_belongs (k_X4_belongs (Q := (fun v h' => v = some (.int p2.1) ∧ h' = hp p2.2 gb)) ((x3 + p1.1) + (rB p1.2 7 ((x1 ||| ((1 : Int32) <<< (a22.1 &&& 31)))).toNatClampNeg)) p1.2 gb hp2 ⟨rfl, rfl⟩) (ci := 4) rfl (hp_get sh_9) rfl rfl rfl (Nat.le_of_ble_eq_true rfl) rfl (by omega) (by decide) ?_
                refine aw_if_eq (tgt := 127) dX4_collect_105 (by decide) (fun hc3 => ?_) (fun hc3 => ?_)
                · have hf := ax_pos hc3 hf
                  refine aw_iinc (v := (a22.1 + (1 : Int32))) (L' := [some (.ref 9), some (.int x1), some (.int x2), some (.long x3), none, some (.int x5), some (.int (a22.1 + (1 : Int32))), some (.int (x1 ||| ((1 : Int32) <<< (a22.1 &&& 31)))), some (.long p1.1), none, some (.long (x3 + p1.1)), none]) dX4_collect_127 rfl rfl (by decide) rfl ?_
                  refine aw_goto (tgt := 22) dX4_collect_130 (by decide) ?_
                  refine aw_less (L' := [some (.ref 9), some (.int x1), some (.int x2), some (.long x3), none, some (.int x5), some (.int (a22.1 + (1 : Int32))), none, none, none, none, none]) (And.intro rfl (And.intro rfl (And.intro rfl (And.intro rfl (And.intro rfl (And.intro rfl trivial)))))) ?_
                  cases hf
                  exact hK
                · have hf := ax_neg hc3 hf
                  refine aw_aload_n dX4_collect_108 rfl rfl ?_
                  refine aw_iload dX4_collect_109 rfl ?_
                  refine aw_iload_n dX4_collect_111 rfl rfl ?_
                  refine aw_iconst (v := 1) dX4_collect_112 (by decide) ?_
                  refine aw_iadd dX4_collect_113 ?_
                  refine aw_lload dX4_collect_114 rfl ?_
                  refine aw_iload dX4_collect_116 rfl ?_
                  refine aw_bipush (v := 8) dX4_collect_118 (by decide) ?_
                  refine aw_imul dX4_collect_120 ?_
                  refine aw_iload dX4_collect_121 rfl ?_
                  refine aw_iadd dX4_collect_123 ?_
                  obtain ⟨p3, hp3, hf⟩ := ax_bind hf
                  refine aw_cSv (As := [.ref 9, .int (x1 ||| ((1 : Int32) <<< (a22.1 &&& 31))), .int (x2 + (1 : Int32)), .long (x3 + p1.1), .int ((x5 * (8 : Int32)) + a22.1)]) (st := []) dX4_collect_124 cl_X4_133 st_X4_collect (ih (Q := (fun v h' => v = none ∧ h' = hp p3 gb)) (x1 ||| ((1 : Int32) <<< (a22.1 &&& 31))) (x2 + (1 : Int32)) (x3 + p1.1) ((x5 * (8 : Int32)) + a22.1) p2.2 gb hp3 ⟨rfl, rfl⟩) rfl rfl (Nat.le_of_ble_eq_true rfl) rfl (by omega) (by decide) ?_
                  refine aw_iinc (v := (a22.1 + (1 : Int32))) (L' := [some (.ref 9), some (.int x1), some (.int x2), some (.long x3), none, some (.int x5), some (.int (a22.1 + (1 : Int32))), some (.int (x1 ||| ((1 : Int32) <<< (a22.1 &&& 31)))), some (.long p1.1), none, some (.long (x3 + p1.1)), none]) dX4_collect_127 rfl rfl (by decide) rfl ?_
                  refine aw_goto (tgt := 22) dX4_collect_130 (by decide) ?_
                  refine aw_less (L' := [some (.ref 9), some (.int x1), some (.int x2), some (.long x3), none, some (.int x5), some (.int (a22.1 + (1 : Int32))), none, none, none, none, none]) (And.intro rfl (And.intro rfl (And.intro rfl (And.intro rfl (And.intro rfl (And.intro rfl trivial)))))) ?_
                  cases hf
                  exact hK
      · cases hf
        exact aw_vret dX4_collect_133 hq (Nat.le_refl _) (Nat.le_refl _)
    · have hf := ax_neg hc8 hf
      refine aw_aload_n dX4_collect_11 rfl rfl ?_
      refine aw_iload dX4_collect_12 rfl ?_
      refine aw_lload_n dX4_collect_14 rfl rfl ?_
      obtain ⟨p5, hp5, hf⟩ := ax_bind hf
      refine aw_cVv (As := [.int x5, .long x3]) (st := []) dX4_collect_15 cl_X4_137 iv_X4_add (k_X4_add (Q := (fun v h' => v = none ∧ h' = hp p5 gb)) x5 x3 s gb hp5 ⟨rfl, rfl⟩) (ci := 4) rfl (hp_get sh_9) rfl rfl rfl (Nat.le_of_ble_eq_true rfl) rfl (by omega) (by decide) ?_
      cases hf
      exact aw_vret dX4_collect_18 hq (Nat.le_refl _) (Nat.le_refl _)
theorem k_X4_collect {l : Launch} {X : ax_X} {Q : Option Value → ax_H → Prop} (x1 : Int32) (x2 : Int32) (x3 : Int64) (x5 : Int32) (s : sx_M) (gb : ax_H) {p : sx_M} (hf : f_X4_collect x1 x2 x3 x5 s = some p) (hq : Q (none) (hp p gb)) : AM l X yX4_collect cX4_collect 12 none (9) 0 0 [.ref 9, .int x1, .int x2, .long x3, .int x5] (hp s gb) Q := kr_X4_collect 9 x1 x2 x3 x5 s gb hf hq
noncomputable def f_X4_list (s : sx_M) : Option sx_M :=
  (if (rI s 9 4) = 0 then
 (f_X5_all 3 (wI (wI s 9 4 (1 : Int32)) 9 5 (0 : Int32))).bind (fun p1 =>
 (f_J9_min_7cf53 (200 : Int32) p1.1 p1.2).bind (fun p2 =>
 (if p2.1 ≤ 0 then
 some p2.2
else
 (f_X4_sumAt (p2.1 - (1 : Int32)) p2.2).bind (fun p3 =>
 (f_X5_upTo 3 ((rJ (wJ p3.2 9 6 p3.1) 9 6) - (1 : Int64)) (wJ p3.2 9 6 p3.1)).bind (fun p4 =>
 (f_X4_collect (0 : Int32) (0 : Int32) (0 : Int64) (0 : Int32) (wI p4.2 9 7 (p2.1 - p4.1))).bind (fun p5 =>
 some p5))))))
else
 some s)
set_option maxRecDepth 100000 in
set_option maxHeartbeats 4000000 in
theorem k_X4_list {l : Launch} {X : ax_X} {Q : Option Value → ax_H → Prop} (s : sx_M) (gb : ax_H) {p : sx_M} (hf : f_X4_list s = some p) (hq : Q (none) (hp p gb)) : AM l X yX4_list cX4_list 2 none 12 0 0 [.ref 9] (hp s gb) Q := by
  refine aw_met (own := RX4) (nm := "list") (L := [some (.ref 9), none]) (by decide +kernel) rfl rfl (And.intro rfl trivial) (Nat.le_of_ble_eq_true rfl) ?_
  unfold f_X4_list at hf
  refine aw_aload_n dX4_list_0 rfl rfl ?_
  refine aw_gI dX4_list_1 fl_X4_30 sh_9 rfl ?_
  refine aw_if_eq (tgt := 8) dX4_list_4 (by decide) (fun hc2 => ?_) (fun hc2 => ?_)
  · have hf := ax_pos hc2 hf
    refine aw_aload_n dX4_list_8 rfl rfl ?_
    refine aw_iconst (v := 1) dX4_list_9 (by decide) ?_
    refine aw_pI dX4_list_10 fp_X4_30 sh_9 rfl (by decide) (by decide) ?_
    refine aw_aload_n dX4_list_13 rfl rfl ?_
    refine aw_iconst (v := 0) dX4_list_14 (by decide) ?_
    refine aw_pI dX4_list_15 fp_X4_43 sh_9 rfl rfl rfl ?_
    refine aw_sipush (v := 200) dX4_list_18 (by decide) ?_
    refine aw_aload_n dX4_list_21 rfl rfl ?_
    refine aw_gR dX4_list_22 fl_X4_26 sh_9 rfl ?_
    obtain ⟨p1, hp1, hf⟩ := ax_bind hf
    refine aw_cVi (As := []) (st := [.int (200 : Int32)]) dX4_list_25 cl_X4_112 iv_X5_all (k_X5_all (Q := (fun v h' => v = some (.int p1.1) ∧ h' = hp p1.2 gb)) 3 (wI (wI s 9 4 (1 : Int32)) 9 5 (0 : Int32)) gb ax_RK3 hp1 ⟨rfl, rfl⟩) (ci := 5) rfl (hp_get sh_5) rfl rfl rfl (Nat.le_of_ble_eq_true rfl) rfl (by decide) (by decide) ?_
    obtain ⟨p2, hp2, hf⟩ := ax_bind hf
    refine aw_cSi (As := [.int (200 : Int32), .int p1.1]) (st := []) dX4_list_28 cl_X4_116 st_J9_min_7cf53 (k_J9_min_7cf53 (Q := (fun v h' => v = some (.int p2.1) ∧ h' = hp p2.2 gb)) (200 : Int32) p1.1 p1.2 gb hp2 ⟨rfl, rfl⟩) rfl rfl (Nat.le_of_ble_eq_true rfl) rfl (by decide) (by decide) ?_
    refine aw_istore_n (L' := [some (.ref 9), some (.int p2.1)]) dX4_list_31 rfl (by decide) rfl ?_
    refine aw_iload_n dX4_list_32 rfl rfl ?_
    refine aw_if_le (tgt := 74) dX4_list_33 (by decide) (fun hc1 => ?_) (fun hc1 => ?_)
    · have hf := ax_pos hc1 hf
      cases hf
      exact aw_vret dX4_list_74 hq (Nat.le_refl _) (Nat.le_refl _)
    · have hf := ax_neg hc1 hf
      refine aw_aload_n dX4_list_36 rfl rfl ?_
      refine aw_aload_n dX4_list_37 rfl rfl ?_
      refine aw_iload_n dX4_list_38 rfl rfl ?_
      refine aw_iconst (v := 1) dX4_list_39 (by decide) ?_
      refine aw_isub dX4_list_40 ?_
      obtain ⟨p3, hp3, hf⟩ := ax_bind hf
      refine aw_cVl (As := [.int (p2.1 - (1 : Int32))]) (st := [.ref 9]) dX4_list_41 cl_X4_119 iv_X4_sumAt (k_X4_sumAt (Q := (fun v h' => v = some (.long p3.1) ∧ h' = hp p3.2 gb)) (p2.1 - (1 : Int32)) p2.2 gb hp3 ⟨rfl, rfl⟩) (ci := 4) rfl (hp_get sh_9) rfl rfl rfl (Nat.le_of_ble_eq_true rfl) rfl (by decide) (by decide) ?_
      refine aw_pJ dX4_list_44 fp_X4_123 sh_9 rfl ?_
      refine aw_aload_n dX4_list_47 rfl rfl ?_
      refine aw_iload_n dX4_list_48 rfl rfl ?_
      refine aw_aload_n dX4_list_49 rfl rfl ?_
      refine aw_gR dX4_list_50 fl_X4_26 sh_9 rfl ?_
      refine aw_aload_n dX4_list_53 rfl rfl ?_
      refine aw_gJ dX4_list_54 fl_X4_123 sh_9 rfl ?_
      refine aw_lconst (v := 1) dX4_list_57 (by decide) ?_
      refine aw_lsub dX4_list_58 ?_
      obtain ⟨p4, hp4, hf⟩ := ax_bind hf
      refine aw_cVi (As := [.long ((rJ (wJ p3.2 9 6 p3.1) 9 6) - (1 : Int64))]) (st := [.int p2.1, .ref 9]) dX4_list_59 cl_X4_127 iv_X5_upTo (k_X5_upTo (Q := (fun v h' => v = some (.int p4.1) ∧ h' = hp p4.2 gb)) 3 ((rJ (wJ p3.2 9 6 p3.1) 9 6) - (1 : Int64)) (wJ p3.2 9 6 p3.1) gb ax_RK3 hp4 ⟨rfl, rfl⟩) (ci := 5) rfl (hp_get sh_5) rfl rfl rfl (Nat.le_of_ble_eq_true rfl) rfl (by decide) (by decide) ?_
      refine aw_isub dX4_list_62 ?_
      refine aw_pI dX4_list_63 fp_X4_130 sh_9 rfl rfl rfl ?_
      refine aw_aload_n dX4_list_66 rfl rfl ?_
      refine aw_iconst (v := 0) dX4_list_67 (by decide) ?_
      refine aw_iconst (v := 0) dX4_list_68 (by decide) ?_
      refine aw_lconst (v := 0) dX4_list_69 (by decide) ?_
      refine aw_iconst (v := 0) dX4_list_70 (by decide) ?_
      obtain ⟨p5, hp5, hf⟩ := ax_bind hf
      refine aw_cSv (As := [.ref 9, .int (0 : Int32), .int (0 : Int32), .long (0 : Int64), .int (0 : Int32)]) (st := []) dX4_list_71 cl_X4_133 st_X4_collect (k_X4_collect (Q := (fun v h' => v = none ∧ h' = hp p5 gb)) (0 : Int32) (0 : Int32) (0 : Int64) (0 : Int32) (wI p4.2 9 7 (p2.1 - p4.1)) gb hp5 ⟨rfl, rfl⟩) rfl rfl (Nat.le_of_ble_eq_true rfl) rfl (by decide) (by decide) ?_
      cases hf
      exact aw_vret dX4_list_74 hq (Nat.le_refl _) (Nat.le_refl _)
  · have hf := ax_neg hc2 hf
    cases hf
    exact aw_vret dX4_list_7 hq (Nat.le_refl _) (Nat.le_refl _)
noncomputable def f_X4_sumOf (x1 : Int32) (s : sx_M) : Option (Int64 × sx_M) :=
  (if x1 = 0 then
 (f_X5_leastSum 3 s).bind (fun p2 =>
 some (p2.1, p2.2))
else
 (f_X4_list s).bind (fun p1 =>
 (if x1 ≤ 0 then
 some ((-9223372036854775808 : Int64), p1)
else
 (if (rI p1 9 5) ≤ x1 then
 some ((-9223372036854775808 : Int64), p1)
else
 (if ¬ (x1 < 0 ∨ 200 ≤ (x1).toNatClampNeg) then
 some ((rB p1 11 (x1).toNatClampNeg), p1)
else none)))))
set_option maxRecDepth 100000 in
set_option maxHeartbeats 4000000 in
theorem k_X4_sumOf {l : Launch} {X : ax_X} {Q : Option Value → ax_H → Prop} (x1 : Int32) (s : sx_M) (gb : ax_H) {p : Int64 × sx_M} (hf : f_X4_sumOf x1 s = some p) (hq : Q (some (.long p.1)) (hp p.2 gb)) : AM l X yX4_sumOf cX4_sumOf 2 (some .long) 13 0 0 [.ref 9, .int x1] (hp s gb) Q := by
  refine aw_met (own := RX4) (nm := "sumOf") (L := [some (.ref 9), some (.int x1)]) (by decide +kernel) rfl rfl (And.intro rfl (And.intro rfl trivial)) (Nat.le_of_ble_eq_true rfl) ?_
  unfold f_X4_sumOf at hf
  refine aw_iload_n dX4_sumOf_0 rfl rfl ?_
  refine aw_if_ne (tgt := 12) dX4_sumOf_1 (by decide) (fun hc4 => ?_) (fun hc4 => ?_)
  · have hf := ax_neg hc4 hf
    refine aw_aload_n dX4_sumOf_12 rfl rfl ?_
    obtain ⟨p1, hp1, hf⟩ := ax_bind hf
    refine aw_cVv (As := []) (st := []) dX4_sumOf_13 cl_X4_40 iv_X4_list (k_X4_list (Q := (fun v h' => v = none ∧ h' = hp p1 gb)) s gb hp1 ⟨rfl, rfl⟩) (ci := 4) rfl (hp_get sh_9) rfl rfl rfl (Nat.le_of_ble_eq_true rfl) rfl (by decide) (by decide) ?_
    refine aw_iload_n dX4_sumOf_16 rfl rfl ?_
    refine aw_if_le (tgt := 37) dX4_sumOf_17 (by decide) (fun hc3 => ?_) (fun hc3 => ?_)
    · have hf := ax_pos hc3 hf
      refine aw_ldc2 dX4_sumOf_37 kc_X4_47 ?_
      cases hf
      exact aw_lret dX4_sumOf_40 hq (Nat.le_refl _) (Nat.le_refl _)
    · have hf := ax_neg hc3 hf
      refine aw_iload_n dX4_sumOf_20 rfl rfl ?_
      refine aw_aload_n dX4_sumOf_21 rfl rfl ?_
      refine aw_gI dX4_sumOf_22 fl_X4_43 sh_9 rfl ?_
      refine aw_icmp_ge (tgt := 37) dX4_sumOf_25 (by decide) (fun hc2 => ?_) (fun hc2 => ?_)
      · have hf := ax_pos hc2 hf
        refine aw_ldc2 dX4_sumOf_37 kc_X4_47 ?_
        cases hf
        exact aw_lret dX4_sumOf_40 hq (Nat.le_refl _) (Nat.le_refl _)
      · have hf := ax_neg hc2 hf
        refine aw_aload_n dX4_sumOf_28 rfl rfl ?_
        refine aw_gR dX4_sumOf_29 fl_X4_15 sh_9 rfl ?_
        refine aw_iload_n dX4_sumOf_32 rfl rfl ?_
        obtain ⟨hc1, hf⟩ := ax_ite hf
        refine aw_lB dX4_sumOf_33 sh_11 hc1 ?_
        refine aw_goto (tgt := 40) dX4_sumOf_34 (by decide) ?_
        cases hf
        exact aw_lret dX4_sumOf_40 hq (Nat.le_refl _) (Nat.le_refl _)
  · have hf := ax_pos hc4 hf
    refine aw_aload_n dX4_sumOf_4 rfl rfl ?_
    refine aw_gR dX4_sumOf_5 fl_X4_26 sh_9 rfl ?_
    obtain ⟨p2, hp2, hf⟩ := ax_bind hf
    refine aw_cVl (As := []) (st := []) dX4_sumOf_8 cl_X4_34 iv_X5_leastSum (k_X5_leastSum (Q := (fun v h' => v = some (.long p2.1) ∧ h' = hp p2.2 gb)) 3 s gb ax_RK3 hp2 ⟨rfl, rfl⟩) (ci := 5) rfl (hp_get sh_5) rfl rfl rfl (Nat.le_of_ble_eq_true rfl) rfl (by decide) (by decide) ?_
    cases hf
    exact aw_lret dX4_sumOf_11 hq (Nat.le_refl _) (Nat.le_refl _)
noncomputable def f_X4_lay (ra : Nat) (x1 : Int32) (s : sx_M) : Option (Int32 × sx_M) :=
  (if x1 = 0 then
 (f_X5_findFirst 3 ra s).bind (fun p3 =>
 (if (p3.1 = 0 ∨ p3.1 = 1) then
 some (p3.1, p3.2)
else none))
else
 (f_X4_list s).bind (fun p1 =>
 (if x1 ≤ 0 then
 some ((0 : Int32), p1)
else
 (if (rI p1 9 5) ≤ x1 then
 some ((0 : Int32), p1)
else
 (if ¬ (x1 < 0 ∨ 200 ≤ (x1).toNatClampNeg) then
 (f_X1_decode 3 ra (rA p1 10 (x1).toNatClampNeg) p1).bind (fun p2 =>
 (if p2.1 = 0 then
 some ((0 : Int32), p2.2)
else
 some ((1 : Int32), p2.2)))
else none)))))
set_option maxRecDepth 100000 in
set_option maxHeartbeats 4000000 in
theorem k_X4_lay {l : Launch} {X : ax_X} {Q : Option Value → ax_H → Prop} (ra : Nat) (x1 : Int32) (s : sx_M) (gb : ax_H) (hra : sx_sh[ra]? = some (.inl (.int, 7))) {p : Int32 × sx_M} (hf : f_X4_lay ra x1 s = some p) (hq : Q (some (.int p.1)) (hp p.2 gb)) : AM l X yX4_lay cX4_lay 3 (some .boolean) 13 0 0 [.ref 9, .int x1, .ref ra] (hp s gb) Q := by
  refine aw_met (own := RX4) (nm := "lay") (L := [some (.ref 9), some (.int x1), some (.ref ra)]) (by decide +kernel) rfl rfl (And.intro rfl (And.intro rfl (And.intro rfl trivial))) (Nat.le_of_ble_eq_true rfl) ?_
  unfold f_X4_lay at hf
  refine aw_iload_n dX4_lay_0 rfl rfl ?_
  refine aw_if_ne (tgt := 13) dX4_lay_1 (by decide) (fun hc6 => ?_) (fun hc6 => ?_)
  · have hf := ax_neg hc6 hf
    refine aw_aload_n dX4_lay_13 rfl rfl ?_
    obtain ⟨p1, hp1, hf⟩ := ax_bind hf
    refine aw_cVv (As := []) (st := []) dX4_lay_14 cl_X4_40 iv_X4_list (k_X4_list (Q := (fun v h' => v = none ∧ h' = hp p1 gb)) s gb hp1 ⟨rfl, rfl⟩) (ci := 4) rfl (hp_get sh_9) rfl rfl rfl (Nat.le_of_ble_eq_true rfl) rfl (by decide) (by decide) ?_
    refine aw_iload_n dX4_lay_17 rfl rfl ?_
    refine aw_if_le (tgt := 50) dX4_lay_18 (by decide) (fun hc4 => ?_) (fun hc4 => ?_)
    · have hf := ax_pos hc4 hf
      refine aw_iconst (v := 0) dX4_lay_50 (by decide) ?_
      cases hf
      exact aw_zret dX4_lay_51 (by decide) hq (Nat.le_refl _) (Nat.le_refl _)
    · have hf := ax_neg hc4 hf
      refine aw_iload_n dX4_lay_21 rfl rfl ?_
      refine aw_aload_n dX4_lay_22 rfl rfl ?_
      refine aw_gI dX4_lay_23 fl_X4_43 sh_9 rfl ?_
      refine aw_icmp_ge (tgt := 50) dX4_lay_26 (by decide) (fun hc3 => ?_) (fun hc3 => ?_)
      · have hf := ax_pos hc3 hf
        refine aw_iconst (v := 0) dX4_lay_50 (by decide) ?_
        cases hf
        exact aw_zret dX4_lay_51 (by decide) hq (Nat.le_refl _) (Nat.le_refl _)
      · have hf := ax_neg hc3 hf
        refine aw_aload_n dX4_lay_29 rfl rfl ?_
        refine aw_gR dX4_lay_30 fl_X4_22 sh_9 rfl ?_
        refine aw_aload_n dX4_lay_33 rfl rfl ?_
        refine aw_gR dX4_lay_34 fl_X4_9 sh_9 rfl ?_
        refine aw_iload_n dX4_lay_37 rfl rfl ?_
        obtain ⟨hc1, hf⟩ := ax_ite hf
        refine aw_lA dX4_lay_38 sh_10 hc1 ?_
        refine aw_aload_n dX4_lay_39 rfl rfl ?_
        obtain ⟨p2, hp2, hf⟩ := ax_bind hf
        refine aw_cVi (As := [.int (rA p1 10 (x1).toNatClampNeg), .ref ra]) (st := []) dX4_lay_40 cl_X4_53 iv_X1_decode (k_X1_decode (Q := (fun v h' => v = some (.int p2.1) ∧ h' = hp p2.2 gb)) 3 ra (rA p1 10 (x1).toNatClampNeg) p1 gb ax_G3 hra hp2 ⟨rfl, rfl⟩) (ci := 1) rfl (hp_get sh_3) rfl rfl rfl (Nat.le_of_ble_eq_true rfl) rfl (by decide) (by decide) ?_
        refine aw_if_eq (tgt := 50) dX4_lay_43 (by decide) (fun hc2 => ?_) (fun hc2 => ?_)
        · have hf := ax_pos hc2 hf
          refine aw_iconst (v := 0) dX4_lay_50 (by decide) ?_
          cases hf
          exact aw_zret dX4_lay_51 (by decide) hq (Nat.le_refl _) (Nat.le_refl _)
        · have hf := ax_neg hc2 hf
          refine aw_iconst (v := 1) dX4_lay_46 (by decide) ?_
          refine aw_goto (tgt := 51) dX4_lay_47 (by decide) ?_
          cases hf
          exact aw_zret dX4_lay_51 (by decide) hq (Nat.le_refl _) (Nat.le_refl _)
  · have hf := ax_pos hc6 hf
    refine aw_aload_n dX4_lay_4 rfl rfl ?_
    refine aw_gR dX4_lay_5 fl_X4_26 sh_9 rfl ?_
    refine aw_aload_n dX4_lay_8 rfl rfl ?_
    obtain ⟨p3, hp3, hf⟩ := ax_bind hf
    refine aw_cVi (As := [.ref ra]) (st := []) dX4_lay_9 cl_X4_49 iv_X5_findFirst (k_X5_findFirst (Q := (fun v h' => v = some (.int p3.1) ∧ h' = hp p3.2 gb)) 3 ra s gb ax_RK3 hra hp3 ⟨rfl, rfl⟩) (ci := 5) rfl (hp_get sh_5) rfl rfl rfl (Nat.le_of_ble_eq_true rfl) rfl (by decide) (by decide) ?_
    obtain ⟨hc5, hf⟩ := ax_ite hf
    cases hf
    exact aw_zret dX4_lay_12 (ax_nb hc5) hq (Nat.le_refl _) (Nat.le_refl _)
noncomputable def f_X4_with_L25 (z2 : Int32) (z3 : Int32) (z4 : Int32) (a25 : Int32 × Int32 × sx_M) : Option ((Int32 × Int32 × sx_M) ⊕ (Int32 × sx_M)) :=
  (if z3 ≤ a25.2.1 then
 some (.inr (a25.1, a25.2.2))
else
 (if (rI a25.2.2 9 5) ≤ a25.2.1 then
 some (.inr (a25.1, a25.2.2))
else
 (if ¬ (a25.2.1 < 0 ∨ 200 ≤ (a25.2.1).toNatClampNeg) then
 (if (((rA a25.2.2 10 (a25.2.1).toNatClampNeg) >>> (z4 &&& 31)) &&& (7 : Int32)) = z2 then
 some (.inl ((a25.1 + (1 : Int32)), (a25.2.1 + (1 : Int32)), a25.2.2))
else
 some (.inl (a25.1, (a25.2.1 + (1 : Int32)), a25.2.2)))
else none)))
noncomputable def f_X4_with (x1 : Int32) (x2 : Int32) (x3 : Int32) (s : sx_M) : Option (Int32 × sx_M) :=
  (f_X4_list s).bind (fun p1 =>
 (whT (f_X4_with_L25 x2 x3 ((3 : Int32) * (((rI p1 3 1) - (1 : Int32)) - x1))) ((0 : Int32), (0 : Int32), p1)).bind (fun b2 =>
 some (b2.1, b2.2)))
set_option maxRecDepth 100000 in
set_option maxHeartbeats 4000000 in
theorem k_X4_with {l : Launch} {X : ax_X} {Q : Option Value → ax_H → Prop} (x1 : Int32) (x2 : Int32) (x3 : Int32) (s : sx_M) (gb : ax_H) {p : Int32 × sx_M} (hf : f_X4_with x1 x2 x3 s = some p) (hq : Q (some (.int p.1)) (hp p.2 gb)) : AM l X yX4_with cX4_with 7 (some .int) 13 0 0 [.ref 9, .int x1, .int x2, .int x3] (hp s gb) Q := by
  refine aw_met (own := RX4) (nm := "with") (L := [some (.ref 9), some (.int x1), some (.int x2), some (.int x3), none, none, none]) (by decide +kernel) rfl rfl (And.intro rfl (And.intro rfl (And.intro rfl (And.intro rfl trivial)))) (Nat.le_of_ble_eq_true rfl) ?_
  unfold f_X4_with at hf
  refine aw_aload_n dX4_with_0 rfl rfl ?_
  obtain ⟨p1, hp1, hf⟩ := ax_bind hf
  refine aw_cVv (As := []) (st := []) dX4_with_1 cl_X4_40 iv_X4_list (k_X4_list (Q := (fun v h' => v = none ∧ h' = hp p1 gb)) s gb hp1 ⟨rfl, rfl⟩) (ci := 4) rfl (hp_get sh_9) rfl rfl rfl (Nat.le_of_ble_eq_true rfl) rfl (by decide) (by decide) ?_
  refine aw_iconst (v := 3) dX4_with_4 (by decide) ?_
  refine aw_aload_n dX4_with_5 rfl rfl ?_
  refine aw_gR dX4_with_6 fl_X4_22 sh_9 rfl ?_
  refine aw_gI dX4_with_9 fl_X4_59 sh_3 rfl ?_
  refine aw_iconst (v := 1) dX4_with_12 (by decide) ?_
  refine aw_isub dX4_with_13 ?_
  refine aw_iload_n dX4_with_14 rfl rfl ?_
  refine aw_isub dX4_with_15 ?_
  refine aw_imul dX4_with_16 ?_
  refine aw_istore (L' := [some (.ref 9), some (.int x1), some (.int x2), some (.int x3), some (.int ((3 : Int32) * (((rI p1 3 1) - (1 : Int32)) - x1))), none, none]) dX4_with_17 (by decide) rfl ?_
  refine aw_iconst (v := 0) dX4_with_19 (by decide) ?_
  refine aw_istore (L' := [some (.ref 9), some (.int x1), some (.int x2), some (.int x3), some (.int ((3 : Int32) * (((rI p1 3 1) - (1 : Int32)) - x1))), some (.int (0 : Int32)), none]) dX4_with_20 (by decide) rfl ?_
  refine aw_iconst (v := 0) dX4_with_22 (by decide) ?_
  refine aw_istore (L' := [some (.ref 9), some (.int x1), some (.int x2), some (.int x3), some (.int ((3 : Int32) * (((rI p1 3 1) - (1 : Int32)) - x1))), some (.int (0 : Int32)), some (.int (0 : Int32))]) dX4_with_23 (by decide) rfl ?_
  refine aw_less (L' := [some (.ref 9), none, some (.int x2), some (.int x3), some (.int ((3 : Int32) * (((rI p1 3 1) - (1 : Int32)) - x1))), some (.int (0 : Int32)), some (.int (0 : Int32))]) (And.intro rfl (And.intro rfl (And.intro rfl (And.intro rfl (And.intro rfl (And.intro rfl trivial)))))) ?_
  obtain ⟨b2, hb2, hf⟩ := ax_bind hf
  refine wh_go ((0 : Int32), (0 : Int32), p1) (fun a25 : Int32 × Int32 × sx_M => AW l X RX4 "with" cX4_with 7 (some .int) (ax_rm 13 0 0) (ax_MQ X Q 0 0) 0 0 25 [some (.ref 9), none, some (.int x2), some (.int x3), some (.int ((3 : Int32) * (((rI p1 3 1) - (1 : Int32)) - x1))), some (.int a25.1), some (.int a25.2.1)] [] (hp a25.2.2 gb)) (fun e : Int32 × sx_M => AW l X RX4 "with" cX4_with 7 (some .int) (ax_rm 13 0 0) (ax_MQ X Q 0 0) 0 0 66 [none, none, none, none, none, some (.int e.1), none] [] (hp e.2 gb)) hb2 ?_ ?_
  · intro a25 r hf hK
    unfold f_X4_with_L25 at hf
    refine aw_iload dX4_with_25 rfl ?_
    refine aw_iload_n dX4_with_27 rfl rfl ?_
    refine aw_icmp_ge (tgt := 66) dX4_with_28 (by decide) (fun hc4 => ?_) (fun hc4 => ?_)
    · have hf := ax_pos hc4 hf
      refine aw_less (L' := [none, none, none, none, none, some (.int a25.1), none]) (And.intro rfl trivial) ?_
      cases hf
      exact hK
    · have hf := ax_neg hc4 hf
      refine aw_iload dX4_with_31 rfl ?_
      refine aw_aload_n dX4_with_33 rfl rfl ?_
      refine aw_gI dX4_with_34 fl_X4_43 sh_9 rfl ?_
      refine aw_icmp_ge (tgt := 66) dX4_with_37 (by decide) (fun hc3 => ?_) (fun hc3 => ?_)
      · have hf := ax_pos hc3 hf
        refine aw_less (L' := [none, none, none, none, none, some (.int a25.1), none]) (And.intro rfl trivial) ?_
        cases hf
        exact hK
      · have hf := ax_neg hc3 hf
        refine aw_aload_n dX4_with_40 rfl rfl ?_
        refine aw_gR dX4_with_41 fl_X4_9 sh_9 rfl ?_
        refine aw_iload dX4_with_44 rfl ?_
        obtain ⟨hc1, hf⟩ := ax_ite hf
        refine aw_lA dX4_with_46 sh_10 hc1 ?_
        refine aw_iload dX4_with_47 rfl ?_
        refine aw_ishr dX4_with_49 ?_
        refine aw_bipush (v := 7) dX4_with_50 (by decide) ?_
        refine aw_iand dX4_with_52 ?_
        refine aw_iload_n dX4_with_53 rfl rfl ?_
        refine aw_icmp_ne (tgt := 60) dX4_with_54 (by decide) (fun hc2 => ?_) (fun hc2 => ?_)
        · have hf := ax_neg hc2 hf
          refine aw_iinc (v := (a25.2.1 + (1 : Int32))) (L' := [some (.ref 9), none, some (.int x2), some (.int x3), some (.int ((3 : Int32) * (((rI p1 3 1) - (1 : Int32)) - x1))), some (.int a25.1), some (.int (a25.2.1 + (1 : Int32)))]) dX4_with_60 rfl rfl (by decide) rfl ?_
          refine aw_goto (tgt := 25) dX4_with_63 (by decide) ?_
          cases hf
          exact hK
        · have hf := ax_pos hc2 hf
          refine aw_iinc (v := (a25.1 + (1 : Int32))) (L' := [some (.ref 9), none, some (.int x2), some (.int x3), some (.int ((3 : Int32) * (((rI p1 3 1) - (1 : Int32)) - x1))), some (.int (a25.1 + (1 : Int32))), some (.int a25.2.1)]) dX4_with_57 rfl rfl (by decide) rfl ?_
          refine aw_iinc (v := (a25.2.1 + (1 : Int32))) (L' := [some (.ref 9), none, some (.int x2), some (.int x3), some (.int ((3 : Int32) * (((rI p1 3 1) - (1 : Int32)) - x1))), some (.int (a25.1 + (1 : Int32))), some (.int (a25.2.1 + (1 : Int32)))]) dX4_with_60 rfl rfl (by decide) rfl ?_
          refine aw_goto (tgt := 25) dX4_with_63 (by decide) ?_
          cases hf
          exact hK
  · refine aw_iload dX4_with_66 rfl ?_
    cases hf
    exact aw_iret dX4_with_68 hq (Nat.le_refl _) (Nat.le_refl _)
