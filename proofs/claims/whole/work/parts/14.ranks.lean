noncomputable def f_X5_leastSum (g : Nat) (s : sx_M) : Option (Int64 × sx_M) :=
  (if (rA s (g + 3) ((0 : Int32)).toNatClampNeg) = 0 then
 some ((-9223372036854775808 : Int64), s)
else
 some ((rB s (g + 4) ((0 : Int32)).toNatClampNeg), s))
set_option maxRecDepth 100000 in
set_option maxHeartbeats 4000000 in
theorem k_X5_leastSum {l : Launch} {X : ax_X} {Q : Option Value → ax_H → Prop} (g : Nat) (s : sx_M) (gb : ax_H) (hr : ax_RK g) {p : Int64 × sx_M} (hf : f_X5_leastSum g s = some p) (hq : Q (some (.long p.1)) (hp p.2 gb)) : AM l X yX5_leastSum cX5_leastSum 1 (some .long) 0 0 0 [.ref (g + 2)] (hp s gb) Q := by
  refine aw_met (own := RX5) (nm := "leastSum") (L := [some (.ref (g + 2))]) (by decide +kernel) rfl rfl (And.intro rfl trivial) (Nat.le_of_ble_eq_true rfl) ?_
  unfold f_X5_leastSum at hf
  refine aw_aload_n dX5_leastSum_0 rfl rfl ?_
  refine aw_gR dX5_leastSum_1 fl_X5_9 hr.2.1 rfl ?_
  refine aw_iconst (v := 0) dX5_leastSum_4 (by decide) ?_
  refine aw_lA dX5_leastSum_5 hr.2.2.1 (by decide) ?_
  refine aw_if_ne (tgt := 15) dX5_leastSum_6 (by decide) (fun hc1 => ?_) (fun hc1 => ?_)
  · have hf := ax_neg hc1 hf
    refine aw_aload_n dX5_leastSum_15 rfl rfl ?_
    refine aw_gR dX5_leastSum_16 fl_X5_15 hr.2.1 rfl ?_
    refine aw_iconst (v := 0) dX5_leastSum_19 (by decide) ?_
    refine aw_lB dX5_leastSum_20 hr.2.2.2.1 (by decide) ?_
    cases hf
    exact aw_lret dX5_leastSum_21 hq (Nat.le_refl _) (Nat.le_refl _)
  · have hf := ax_pos hc1 hf
    refine aw_ldc2 dX5_leastSum_9 kc_X5_47 ?_
    refine aw_goto (tgt := 21) dX5_leastSum_12 (by decide) ?_
    cases hf
    exact aw_lret dX5_leastSum_21 hq (Nat.le_refl _) (Nat.le_refl _)
noncomputable def f_X5_all (g : Nat) (s : sx_M) : Option (Int32 × sx_M) :=
  some ((rA s (g + 3) ((0 : Int32)).toNatClampNeg), s)
set_option maxRecDepth 100000 in
set_option maxHeartbeats 4000000 in
theorem k_X5_all {l : Launch} {X : ax_X} {Q : Option Value → ax_H → Prop} (g : Nat) (s : sx_M) (gb : ax_H) (hr : ax_RK g) {p : Int32 × sx_M} (hf : f_X5_all g s = some p) (hq : Q (some (.int p.1)) (hp p.2 gb)) : AM l X yX5_all cX5_all 1 (some .int) 0 0 0 [.ref (g + 2)] (hp s gb) Q := by
  refine aw_met (own := RX5) (nm := "all") (L := [some (.ref (g + 2))]) (by decide +kernel) rfl rfl (And.intro rfl trivial) (Nat.le_of_ble_eq_true rfl) ?_
  unfold f_X5_all at hf
  refine aw_aload_n dX5_all_0 rfl rfl ?_
  refine aw_gR dX5_all_1 fl_X5_9 hr.2.1 rfl ?_
  refine aw_iconst (v := 0) dX5_all_4 (by decide) ?_
  refine aw_lA dX5_all_5 hr.2.2.1 (by decide) ?_
  cases hf
  exact aw_iret dX5_all_6 hq (Nat.le_refl _) (Nat.le_refl _)
noncomputable def f_X5_search_L6_J131 (g : Nat) (rec : Int32 → Int32 → Int64 → Int64 → sx_M → Option (Int32 × sx_M)) (z1 : Int32) (z2 : Int32) (z3 : Int64) (z5 : Int64) (y7_131 : Int32) (y8_131 : Int32) (y9_131 : Int32) (y12_131 : Int64) (y14_131 : Int64) (s_131 : sx_M) : Option ((Int32 × Int32 × sx_M) ⊕ (Int32 × sx_M)) :=
  (if ¬ (y9_131 < 0 ∨ 256 ≤ (y9_131).toNatClampNeg) then
 (if y14_131 < (rB s_131 (g + 4) (y9_131).toNatClampNeg) then
 some (.inl (y7_131, (y8_131 + (1 : Int32)), s_131))
else
 (if ¬ (y9_131 < 0 ∨ 256 ≤ (y9_131).toNatClampNeg) then
 (if (rB s_131 (g + 5) (y9_131).toNatClampNeg) < y12_131 then
 some (.inl (y7_131, (y8_131 + (1 : Int32)), s_131))
else
 (rec y9_131 (z2 + (1 : Int32)) y12_131 y14_131 s_131).bind (fun p1 =>
 some (.inl ((y7_131 + p1.1), (y8_131 + (1 : Int32)), p1.2))))
else none))
else none)
noncomputable def f_X5_search_L6 (g : Nat) (rec : Int32 → Int32 → Int64 → Int64 → sx_M → Option (Int32 × sx_M)) (z1 : Int32) (z2 : Int32) (z3 : Int64) (z5 : Int64) (a6 : Int32 × Int32 × sx_M) : Option ((Int32 × Int32 × sx_M) ⊕ (Int32 × sx_M)) :=
  (if (rI a6.2.2 g 1) ≤ z2 then
 some (.inr (a6.1, a6.2.2))
else
 (if (rI a6.2.2 g 2) ≤ a6.2.1 then
 some (.inr (a6.1, a6.2.2))
else
 (f_X1_at g z2 a6.2.1 a6.2.2).bind (fun p2 =>
 (if (z1 ||| ((1 : Int32) <<< (a6.2.1 &&& 31))) = z1 then
 some (.inl (a6.1, (a6.2.1 + (1 : Int32)), p2.2))
else
 (if p2.1 = (9223372036854775807 : Int64) then
 some (.inl (a6.1, (a6.2.1 + (1 : Int32)), p2.2))
else
 (if ¬ ((z1 ||| ((1 : Int32) <<< (a6.2.1 &&& 31))) < 0 ∨ 256 ≤ ((z1 ||| ((1 : Int32) <<< (a6.2.1 &&& 31)))).toNatClampNeg) then
 (if (rA p2.2 (g + 3) ((z1 ||| ((1 : Int32) <<< (a6.2.1 &&& 31)))).toNatClampNeg) = 0 then
 some (.inl (a6.1, (a6.2.1 + (1 : Int32)), p2.2))
else
 (if ¬ ((z1 ||| ((1 : Int32) <<< (a6.2.1 &&& 31))) < 0 ∨ 256 ≤ ((z1 ||| ((1 : Int32) <<< (a6.2.1 &&& 31)))).toNatClampNeg) then
 (if (rB p2.2 (g + 4) ((z1 ||| ((1 : Int32) <<< (a6.2.1 &&& 31)))).toNatClampNeg) < (z3 - p2.1) then
 f_X5_search_L6_J131 g rec z1 z2 z3 z5 a6.1 a6.2.1 (z1 ||| ((1 : Int32) <<< (a6.2.1 &&& 31))) (z3 - p2.1) (z5 - p2.1) p2.2
else
 (if ¬ ((z1 ||| ((1 : Int32) <<< (a6.2.1 &&& 31))) < 0 ∨ 256 ≤ ((z1 ||| ((1 : Int32) <<< (a6.2.1 &&& 31)))).toNatClampNeg) then
 (if (z5 - p2.1) < (rB p2.2 (g + 5) ((z1 ||| ((1 : Int32) <<< (a6.2.1 &&& 31)))).toNatClampNeg) then
 f_X5_search_L6_J131 g rec z1 z2 z3 z5 a6.1 a6.2.1 (z1 ||| ((1 : Int32) <<< (a6.2.1 &&& 31))) (z3 - p2.1) (z5 - p2.1) p2.2
else
 (if ¬ ((z1 ||| ((1 : Int32) <<< (a6.2.1 &&& 31))) < 0 ∨ 256 ≤ ((z1 ||| ((1 : Int32) <<< (a6.2.1 &&& 31)))).toNatClampNeg) then
 some (.inl ((a6.1 + (rA p2.2 (g + 3) ((z1 ||| ((1 : Int32) <<< (a6.2.1 &&& 31)))).toNatClampNeg)), (a6.2.1 + (1 : Int32)), p2.2))
else none))
else none))
else none))
else none))))))
noncomputable def fb_X5_search (g : Nat) (rec : Int32 → Int32 → Int64 → Int64 → sx_M → Option (Int32 × sx_M)) (x1 : Int32) (x2 : Int32) (x3 : Int64) (x5 : Int64) (s : sx_M) : Option (Int32 × sx_M) :=
  (whT (f_X5_search_L6 g rec x1 x2 x3 x5) ((0 : Int32), (0 : Int32), s)).bind (fun b3 =>
 some (b3.1, b3.2))
noncomputable def fr_X5_search (g : Nat) : Nat → Int32 → Int32 → Int64 → Int64 → sx_M → Option (Int32 × sx_M)
  | 0 => fun _ _ _ _ _ => none
  | n + 1 => fun x1 x2 x3 x5 s => fb_X5_search g (fr_X5_search g n) x1 x2 x3 x5 s
noncomputable def f_X5_search (g : Nat) (x1 : Int32) (x2 : Int32) (x3 : Int64) (x5 : Int64) (s : sx_M) : Option (Int32 × sx_M) := fr_X5_search g 9 x1 x2 x3 x5 s
set_option maxRecDepth 100000 in
set_option maxHeartbeats 4000000 in
theorem kr_X5_search {l : Launch} {X : ax_X} (g : Nat) (hr : ax_RK g) : ∀ (n : Nat) {Q : Option Value → ax_H → Prop} (x1 : Int32) (x2 : Int32) (x3 : Int64) (x5 : Int64) (s : sx_M) (gb : ax_H) {p : Int32 × sx_M}, fr_X5_search g n x1 x2 x3 x5 s = some p → Q (some (.int p.1)) (hp p.2 gb) → AM l X yX5_search cX5_search 16 (some .int) (n + 0) 0 0 [.ref (g + 2), .int x1, .int x2, .long x3, .long x5] (hp s gb) Q := by
  intro n
  induction n with
  | zero => intro Q x1 x2 x3 x5 s gb p hf hq; cases hf
  | succ n ih =>
    intro Q x1 x2 x3 x5 s gb p hf hq
    have hf : fb_X5_search g (fr_X5_search g n) x1 x2 x3 x5 s = some p := hf
    refine aw_met (own := RX5) (nm := "search") (L := [some (.ref (g + 2)), some (.int x1), some (.int x2), some (.long x3), none, some (.long x5), none, none, none, none, none, none, none, none, none, none]) (by decide +kernel) rfl rfl (And.intro rfl (And.intro rfl (And.intro rfl (And.intro rfl (And.intro rfl trivial))))) (Nat.le_of_ble_eq_true rfl) ?_
    unfold fb_X5_search at hf
    refine aw_iconst (v := 0) dX5_search_0 (by decide) ?_
    refine aw_istore (L' := [some (.ref (g + 2)), some (.int x1), some (.int x2), some (.long x3), none, some (.long x5), none, some (.int (0 : Int32)), none, none, none, none, none, none, none, none]) dX5_search_1 (by decide) rfl ?_
    refine aw_iconst (v := 0) dX5_search_3 (by decide) ?_
    refine aw_istore (L' := [some (.ref (g + 2)), some (.int x1), some (.int x2), some (.long x3), none, some (.long x5), none, some (.int (0 : Int32)), some (.int (0 : Int32)), none, none, none, none, none, none, none]) dX5_search_4 (by decide) rfl ?_
    obtain ⟨b3, hb3, hf⟩ := ax_bind hf
    refine wh_go ((0 : Int32), (0 : Int32), s) (fun a6 : Int32 × Int32 × sx_M => AW l X RX5 "search" cX5_search 16 (some .int) (ax_rm (n + 1 + 0) 0 0) (ax_MQ X Q 0 0) 0 0 6 [some (.ref (g + 2)), some (.int x1), some (.int x2), some (.long x3), none, some (.long x5), none, some (.int a6.1), some (.int a6.2.1), none, none, none, none, none, none, none] [] (hp a6.2.2 gb)) (fun e : Int32 × sx_M => AW l X RX5 "search" cX5_search 16 (some .int) (ax_rm (n + 1 + 0) 0 0) (ax_MQ X Q 0 0) 0 0 181 [none, none, none, none, none, none, none, some (.int e.1), none, none, none, none, none, none, none, none] [] (hp e.2 gb)) hb3 ?_ ?_
    · intro a6 r hf hK
      unfold f_X5_search_L6 at hf
      have J131 : ∀ (y7_131 : Int32) (y8_131 : Int32) (y9_131 : Int32) (y12_131 : Int64) (y14_131 : Int64) (s_131 : sx_M), f_X5_search_L6_J131 g (fr_X5_search g n) x1 x2 x3 x5 y7_131 y8_131 y9_131 y12_131 y14_131 s_131 = some r → AW l X RX5 "search" cX5_search 16 (some .int) (ax_rm (n + 1 + 0) 0 0) (ax_MQ X Q 0 0) 0 0 131 [some (.ref (g + 2)), some (.int x1), some (.int x2), some (.long x3), none, some (.long x5), none, some (.int y7_131), some (.int y8_131), some (.int y9_131), none, none, some (.long y12_131), none, some (.long y14_131), none] [] (hp s_131 gb) := by
        intro y7_131 y8_131 y9_131 y12_131 y14_131 s_131 hf
        unfold f_X5_search_L6_J131 at hf
        refine aw_aload_n dX5_search_131 rfl rfl ?_
        refine aw_gR dX5_search_132 fl_X5_15 hr.2.1 rfl ?_
        refine aw_iload dX5_search_135 rfl ?_
        obtain ⟨hc1, hf⟩ := ax_ite hf
        refine aw_lB dX5_search_137 hr.2.2.2.1 hc1 ?_
        refine aw_lload dX5_search_138 rfl ?_
        refine aw_lcmp_gt (tgt := 175) dX5_search_140 dX5_search_141 (by decide) (fun hc4 => ?_) (fun hc4 => ?_)
        · have hf := ax_pos hc4 hf
          refine aw_iinc (v := (y8_131 + (1 : Int32))) (L' := [some (.ref (g + 2)), some (.int x1), some (.int x2), some (.long x3), none, some (.long x5), none, some (.int y7_131), some (.int (y8_131 + (1 : Int32))), some (.int y9_131), none, none, some (.long y12_131), none, some (.long y14_131), none]) dX5_search_175 rfl rfl (by decide) rfl ?_
          refine aw_goto (tgt := 6) dX5_search_178 (by decide) ?_
          refine aw_less (L' := [some (.ref (g + 2)), some (.int x1), some (.int x2), some (.long x3), none, some (.long x5), none, some (.int y7_131), some (.int (y8_131 + (1 : Int32))), none, none, none, none, none, none, none]) (And.intro rfl (And.intro rfl (And.intro rfl (And.intro rfl (And.intro rfl (And.intro rfl (And.intro rfl trivial))))))) ?_
          cases hf
          exact hK
        · have hf := ax_neg hc4 hf
          refine aw_aload_n dX5_search_144 rfl rfl ?_
          refine aw_gR dX5_search_145 fl_X5_19 hr.2.1 rfl ?_
          refine aw_iload dX5_search_148 rfl ?_
          obtain ⟨hc2, hf⟩ := ax_ite hf
          refine aw_lB dX5_search_150 hr.2.2.2.2 hc2 ?_
          refine aw_lload dX5_search_151 rfl ?_
          refine aw_lcmp_lt (tgt := 175) dX5_search_153 dX5_search_154 (by decide) (fun hc3 => ?_) (fun hc3 => ?_)
          · have hf := ax_pos hc3 hf
            refine aw_iinc (v := (y8_131 + (1 : Int32))) (L' := [some (.ref (g + 2)), some (.int x1), some (.int x2), some (.long x3), none, some (.long x5), none, some (.int y7_131), some (.int (y8_131 + (1 : Int32))), some (.int y9_131), none, none, some (.long y12_131), none, some (.long y14_131), none]) dX5_search_175 rfl rfl (by decide) rfl ?_
            refine aw_goto (tgt := 6) dX5_search_178 (by decide) ?_
            refine aw_less (L' := [some (.ref (g + 2)), some (.int x1), some (.int x2), some (.long x3), none, some (.long x5), none, some (.int y7_131), some (.int (y8_131 + (1 : Int32))), none, none, none, none, none, none, none]) (And.intro rfl (And.intro rfl (And.intro rfl (And.intro rfl (And.intro rfl (And.intro rfl (And.intro rfl trivial))))))) ?_
            cases hf
            exact hK
          · have hf := ax_neg hc3 hf
            refine aw_iload dX5_search_157 rfl ?_
            refine aw_aload_n dX5_search_159 rfl rfl ?_
            refine aw_iload dX5_search_160 rfl ?_
            refine aw_iload_n dX5_search_162 rfl rfl ?_
            refine aw_iconst (v := 1) dX5_search_163 (by decide) ?_
            refine aw_iadd dX5_search_164 ?_
            refine aw_lload dX5_search_165 rfl ?_
            refine aw_lload dX5_search_167 rfl ?_
            obtain ⟨p1, hp1, hf⟩ := ax_bind hf
            refine aw_cSi (As := [.ref (g + 2), .int y9_131, .int (x2 + (1 : Int32)), .long y12_131, .long y14_131]) (st := [.int y7_131]) dX5_search_169 cl_X5_68 st_X5_search (ih (Q := (fun v h' => v = some (.int p1.1) ∧ h' = hp p1.2 gb)) y9_131 (x2 + (1 : Int32)) y12_131 y14_131 s_131 gb hp1 ⟨rfl, rfl⟩) rfl rfl (Nat.le_of_ble_eq_true rfl) rfl (by omega) (by decide) ?_
            refine aw_iadd dX5_search_172 ?_
            refine aw_istore (L' := [some (.ref (g + 2)), some (.int x1), some (.int x2), some (.long x3), none, some (.long x5), none, some (.int (y7_131 + p1.1)), some (.int y8_131), some (.int y9_131), none, none, some (.long y12_131), none, some (.long y14_131), none]) dX5_search_173 (by decide) rfl ?_
            refine aw_iinc (v := (y8_131 + (1 : Int32))) (L' := [some (.ref (g + 2)), some (.int x1), some (.int x2), some (.long x3), none, some (.long x5), none, some (.int (y7_131 + p1.1)), some (.int (y8_131 + (1 : Int32))), some (.int y9_131), none, none, some (.long y12_131), none, some (.long y14_131), none]) dX5_search_175 rfl rfl (by decide) rfl ?_
            refine aw_goto (tgt := 6) dX5_search_178 (by decide) ?_
            refine aw_less (L' := [some (.ref (g + 2)), some (.int x1), some (.int x2), some (.long x3), none, some (.long x5), none, some (.int (y7_131 + p1.1)), some (.int (y8_131 + (1 : Int32))), none, none, none, none, none, none, none]) (And.intro rfl (And.intro rfl (And.intro rfl (And.intro rfl (And.intro rfl (And.intro rfl (And.intro rfl trivial))))))) ?_
            cases hf
            exact hK
      refine aw_iload_n dX5_search_6 rfl rfl ?_
      refine aw_aload_n dX5_search_7 rfl rfl ?_
      refine aw_gR dX5_search_8 fl_X5_22 hr.2.1 rfl ?_
      refine aw_gI dX5_search_11 fl_X5_42 hr.1.1 rfl ?_
      refine aw_icmp_ge (tgt := 181) dX5_search_14 (by decide) (fun hc15 => ?_) (fun hc15 => ?_)
      · have hf := ax_pos hc15 hf
        refine aw_less (L' := [none, none, none, none, none, none, none, some (.int a6.1), none, none, none, none, none, none, none, none]) (And.intro rfl trivial) ?_
        cases hf
        exact hK
      · have hf := ax_neg hc15 hf
        refine aw_iload dX5_search_17 rfl ?_
        refine aw_aload_n dX5_search_19 rfl rfl ?_
        refine aw_gR dX5_search_20 fl_X5_22 hr.2.1 rfl ?_
        refine aw_gI dX5_search_23 fl_X5_26 hr.1.1 rfl ?_
        refine aw_icmp_ge (tgt := 181) dX5_search_26 (by decide) (fun hc14 => ?_) (fun hc14 => ?_)
        · have hf := ax_pos hc14 hf
          refine aw_less (L' := [none, none, none, none, none, none, none, some (.int a6.1), none, none, none, none, none, none, none, none]) (And.intro rfl trivial) ?_
          cases hf
          exact hK
        · have hf := ax_neg hc14 hf
          refine aw_iload_n dX5_search_29 rfl rfl ?_
          refine aw_iconst (v := 1) dX5_search_30 (by decide) ?_
          refine aw_iload dX5_search_31 rfl ?_
          refine aw_ishl dX5_search_33 ?_
          refine aw_ior dX5_search_34 ?_
          refine aw_istore (L' := [some (.ref (g + 2)), some (.int x1), some (.int x2), some (.long x3), none, some (.long x5), none, some (.int a6.1), some (.int a6.2.1), some (.int (x1 ||| ((1 : Int32) <<< (a6.2.1 &&& 31)))), none, none, none, none, none, none]) dX5_search_35 (by decide) rfl ?_
          refine aw_aload_n dX5_search_37 rfl rfl ?_
          refine aw_gR dX5_search_38 fl_X5_22 hr.2.1 rfl ?_
          refine aw_iload_n dX5_search_41 rfl rfl ?_
          refine aw_iload dX5_search_42 rfl ?_
          obtain ⟨p2, hp2, hf⟩ := ax_bind hf
          refine aw_cVl (As := [.int x2, .int a6.2.1]) (st := []) dX5_search_44 cl_X5_49 iv_X1_at (k_X1_at (Q := (fun v h' => v = some (.long p2.1) ∧ h' = hp p2.2 gb)) g x2 a6.2.1 a6.2.2 gb hr.1 hp2 ⟨rfl, rfl⟩) (ci := 1) rfl (hp_get hr.1.1) rfl rfl rfl (Nat.le_of_ble_eq_true rfl) rfl (by omega) (by decide) ?_
          refine aw_lstore (L' := [some (.ref (g + 2)), some (.int x1), some (.int x2), some (.long x3), none, some (.long x5), none, some (.int a6.1), some (.int a6.2.1), some (.int (x1 ||| ((1 : Int32) <<< (a6.2.1 &&& 31)))), some (.long p2.1), none, none, none, none, none]) dX5_search_47 (by decide) rfl ?_
          refine aw_iload dX5_search_49 rfl ?_
          refine aw_iload_n dX5_search_51 rfl rfl ?_
          refine aw_icmp_eq (tgt := 175) dX5_search_52 (by decide) (fun hc13 => ?_) (fun hc13 => ?_)
          · have hf := ax_pos hc13 hf
            refine aw_iinc (v := (a6.2.1 + (1 : Int32))) (L' := [some (.ref (g + 2)), some (.int x1), some (.int x2), some (.long x3), none, some (.long x5), none, some (.int a6.1), some (.int (a6.2.1 + (1 : Int32))), some (.int (x1 ||| ((1 : Int32) <<< (a6.2.1 &&& 31)))), some (.long p2.1), none, none, none, none, none]) dX5_search_175 rfl rfl (by decide) rfl ?_
            refine aw_goto (tgt := 6) dX5_search_178 (by decide) ?_
            refine aw_less (L' := [some (.ref (g + 2)), some (.int x1), some (.int x2), some (.long x3), none, some (.long x5), none, some (.int a6.1), some (.int (a6.2.1 + (1 : Int32))), none, none, none, none, none, none, none]) (And.intro rfl (And.intro rfl (And.intro rfl (And.intro rfl (And.intro rfl (And.intro rfl (And.intro rfl trivial))))))) ?_
            cases hf
            exact hK
          · have hf := ax_neg hc13 hf
            refine aw_lload dX5_search_55 rfl ?_
            refine aw_ldc2 dX5_search_57 kc_X5_45 ?_
            refine aw_lcmp_eq (tgt := 175) dX5_search_60 dX5_search_61 (by decide) (fun hc12 => ?_) (fun hc12 => ?_)
            · have hf := ax_pos hc12 hf
              refine aw_iinc (v := (a6.2.1 + (1 : Int32))) (L' := [some (.ref (g + 2)), some (.int x1), some (.int x2), some (.long x3), none, some (.long x5), none, some (.int a6.1), some (.int (a6.2.1 + (1 : Int32))), some (.int (x1 ||| ((1 : Int32) <<< (a6.2.1 &&& 31)))), some (.long p2.1), none, none, none, none, none]) dX5_search_175 rfl rfl (by decide) rfl ?_
              refine aw_goto (tgt := 6) dX5_search_178 (by decide) ?_
              refine aw_less (L' := [some (.ref (g + 2)), some (.int x1), some (.int x2), some (.long x3), none, some (.long x5), none, some (.int a6.1), some (.int (a6.2.1 + (1 : Int32))), none, none, none, none, none, none, none]) (And.intro rfl (And.intro rfl (And.intro rfl (And.intro rfl (And.intro rfl (And.intro rfl (And.intro rfl trivial))))))) ?_
              cases hf
              exact hK
            · have hf := ax_neg hc12 hf
              refine aw_aload_n dX5_search_64 rfl rfl ?_
              refine aw_gR dX5_search_65 fl_X5_9 hr.2.1 rfl ?_
              refine aw_iload dX5_search_68 rfl ?_
              obtain ⟨hc5, hf⟩ := ax_ite hf
              refine aw_lA dX5_search_70 hr.2.2.1 hc5 ?_
              refine aw_if_ne (tgt := 77) dX5_search_71 (by decide) (fun hc11 => ?_) (fun hc11 => ?_)
              · have hf := ax_neg hc11 hf
                refine aw_lload_n dX5_search_77 rfl rfl ?_
                refine aw_lload dX5_search_78 rfl ?_
                refine aw_lsub dX5_search_80 ?_
                refine aw_lstore (L' := [some (.ref (g + 2)), some (.int x1), some (.int x2), some (.long x3), none, some (.long x5), none, some (.int a6.1), some (.int a6.2.1), some (.int (x1 ||| ((1 : Int32) <<< (a6.2.1 &&& 31)))), some (.long p2.1), none, some (.long (x3 - p2.1)), none, none, none]) dX5_search_81 (by decide) rfl ?_
                refine aw_lload dX5_search_83 rfl ?_
                refine aw_lload dX5_search_85 rfl ?_
                refine aw_lsub dX5_search_87 ?_
                refine aw_lstore (L' := [some (.ref (g + 2)), some (.int x1), some (.int x2), some (.long x3), none, some (.long x5), none, some (.int a6.1), some (.int a6.2.1), some (.int (x1 ||| ((1 : Int32) <<< (a6.2.1 &&& 31)))), some (.long p2.1), none, some (.long (x3 - p2.1)), none, some (.long (x5 - p2.1)), none]) dX5_search_88 (by decide) rfl ?_
                refine aw_aload_n dX5_search_90 rfl rfl ?_
                refine aw_gR dX5_search_91 fl_X5_15 hr.2.1 rfl ?_
                refine aw_iload dX5_search_94 rfl ?_
                obtain ⟨hc6, hf⟩ := ax_ite hf
                refine aw_lB dX5_search_96 hr.2.2.2.1 hc6 ?_
                refine aw_lload dX5_search_97 rfl ?_
                refine aw_lcmp_lt (tgt := 131) dX5_search_99 dX5_search_100 (by decide) (fun hc10 => ?_) (fun hc10 => ?_)
                · have hf := ax_pos hc10 hf
                  refine aw_less (L' := [some (.ref (g + 2)), some (.int x1), some (.int x2), some (.long x3), none, some (.long x5), none, some (.int a6.1), some (.int a6.2.1), some (.int (x1 ||| ((1 : Int32) <<< (a6.2.1 &&& 31)))), none, none, some (.long (x3 - p2.1)), none, some (.long (x5 - p2.1)), none]) (And.intro rfl (And.intro rfl (And.intro rfl (And.intro rfl (And.intro rfl (And.intro rfl (And.intro rfl (And.intro rfl (And.intro rfl (And.intro rfl trivial)))))))))) ?_
                  exact J131 a6.1 a6.2.1 (x1 ||| ((1 : Int32) <<< (a6.2.1 &&& 31))) (x3 - p2.1) (x5 - p2.1) p2.2 hf
                · have hf := ax_neg hc10 hf
                  refine aw_aload_n dX5_search_103 rfl rfl ?_
                  refine aw_gR dX5_search_104 fl_X5_19 hr.2.1 rfl ?_
                  refine aw_iload dX5_search_107 rfl ?_
                  obtain ⟨hc7, hf⟩ := ax_ite hf
                  refine aw_lB dX5_search_109 hr.2.2.2.2 hc7 ?_
                  refine aw_lload dX5_search_110 rfl ?_
                  refine aw_lcmp_gt (tgt := 131) dX5_search_112 dX5_search_113 (by decide) (fun hc9 => ?_) (fun hc9 => ?_)
                  · have hf := ax_pos hc9 hf
                    refine aw_less (L' := [some (.ref (g + 2)), some (.int x1), some (.int x2), some (.long x3), none, some (.long x5), none, some (.int a6.1), some (.int a6.2.1), some (.int (x1 ||| ((1 : Int32) <<< (a6.2.1 &&& 31)))), none, none, some (.long (x3 - p2.1)), none, some (.long (x5 - p2.1)), none]) (And.intro rfl (And.intro rfl (And.intro rfl (And.intro rfl (And.intro rfl (And.intro rfl (And.intro rfl (And.intro rfl (And.intro rfl (And.intro rfl trivial)))))))))) ?_
                    exact J131 a6.1 a6.2.1 (x1 ||| ((1 : Int32) <<< (a6.2.1 &&& 31))) (x3 - p2.1) (x5 - p2.1) p2.2 hf
                  · have hf := ax_neg hc9 hf
                    refine aw_iload dX5_search_116 rfl ?_
                    refine aw_aload_n dX5_search_118 rfl rfl ?_
                    refine aw_gR dX5_search_119 fl_X5_9 hr.2.1 rfl ?_
                    refine aw_iload dX5_search_122 rfl ?_
                    obtain ⟨hc8, hf⟩ := ax_ite hf
                    refine aw_lA dX5_search_124 hr.2.2.1 hc8 ?_
                    refine aw_iadd dX5_search_125 ?_
                    refine aw_istore (L' := [some (.ref (g + 2)), some (.int x1), some (.int x2), some (.long x3), none, some (.long x5), none, some (.int (a6.1 + (rA p2.2 (g + 3) ((x1 ||| ((1 : Int32) <<< (a6.2.1 &&& 31)))).toNatClampNeg))), some (.int a6.2.1), some (.int (x1 ||| ((1 : Int32) <<< (a6.2.1 &&& 31)))), some (.long p2.1), none, some (.long (x3 - p2.1)), none, some (.long (x5 - p2.1)), none]) dX5_search_126 (by decide) rfl ?_
                    refine aw_goto (tgt := 175) dX5_search_128 (by decide) ?_
                    refine aw_iinc (v := (a6.2.1 + (1 : Int32))) (L' := [some (.ref (g + 2)), some (.int x1), some (.int x2), some (.long x3), none, some (.long x5), none, some (.int (a6.1 + (rA p2.2 (g + 3) ((x1 ||| ((1 : Int32) <<< (a6.2.1 &&& 31)))).toNatClampNeg))), some (.int (a6.2.1 + (1 : Int32))), some (.int (x1 ||| ((1 : Int32) <<< (a6.2.1 &&& 31)))), some (.long p2.1), none, some (.long (x3 - p2.1)), none, some (.long (x5 - p2.1)), none]) dX5_search_175 rfl rfl (by decide) rfl ?_
                    refine aw_goto (tgt := 6) dX5_search_178 (by decide) ?_
                    refine aw_less (L' := [some (.ref (g + 2)), some (.int x1), some (.int x2), some (.long x3), none, some (.long x5), none, some (.int (a6.1 + (rA p2.2 (g + 3) ((x1 ||| ((1 : Int32) <<< (a6.2.1 &&& 31)))).toNatClampNeg))), some (.int (a6.2.1 + (1 : Int32))), none, none, none, none, none, none, none]) (And.intro rfl (And.intro rfl (And.intro rfl (And.intro rfl (And.intro rfl (And.intro rfl (And.intro rfl trivial))))))) ?_
                    cases hf
                    exact hK
              · have hf := ax_pos hc11 hf
                refine aw_goto (tgt := 175) dX5_search_74 (by decide) ?_
                refine aw_iinc (v := (a6.2.1 + (1 : Int32))) (L' := [some (.ref (g + 2)), some (.int x1), some (.int x2), some (.long x3), none, some (.long x5), none, some (.int a6.1), some (.int (a6.2.1 + (1 : Int32))), some (.int (x1 ||| ((1 : Int32) <<< (a6.2.1 &&& 31)))), some (.long p2.1), none, none, none, none, none]) dX5_search_175 rfl rfl (by decide) rfl ?_
                refine aw_goto (tgt := 6) dX5_search_178 (by decide) ?_
                refine aw_less (L' := [some (.ref (g + 2)), some (.int x1), some (.int x2), some (.long x3), none, some (.long x5), none, some (.int a6.1), some (.int (a6.2.1 + (1 : Int32))), none, none, none, none, none, none, none]) (And.intro rfl (And.intro rfl (And.intro rfl (And.intro rfl (And.intro rfl (And.intro rfl (And.intro rfl trivial))))))) ?_
                cases hf
                exact hK
    · refine aw_iload dX5_search_181 rfl ?_
      cases hf
      exact aw_iret dX5_search_183 hq (Nat.le_refl _) (Nat.le_refl _)
theorem k_X5_search {l : Launch} {X : ax_X} {Q : Option Value → ax_H → Prop} (g : Nat) (x1 : Int32) (x2 : Int32) (x3 : Int64) (x5 : Int64) (s : sx_M) (gb : ax_H) (hr : ax_RK g) {p : Int32 × sx_M} (hf : f_X5_search g x1 x2 x3 x5 s = some p) (hq : Q (some (.int p.1)) (hp p.2 gb)) : AM l X yX5_search cX5_search 16 (some .int) (9) 0 0 [.ref (g + 2), .int x1, .int x2, .long x3, .long x5] (hp s gb) Q := kr_X5_search g hr 9 x1 x2 x3 x5 s gb hf hq
noncomputable def f_X5_between_J75 (g : Nat) (y1_75 : Int32) (y2_75 : Int32) (y3_75 : Int64) (y5_75 : Int64) (s_75 : sx_M) : Option (Int32 × sx_M) :=
  (f_X5_search g y1_75 y2_75 y3_75 y5_75 s_75).bind (fun p1 =>
 some (p1.1, p1.2))
noncomputable def f_X5_between (g : Nat) (x1 : Int32) (x2 : Int32) (x3 : Int64) (x5 : Int64) (s : sx_M) : Option (Int32 × sx_M) :=
  (if x1 < 0 then
 some ((0 : Int32), s)
else
 (if (256 : Int32) ≤ x1 then
 some ((0 : Int32), s)
else
 (if ¬ (x1 < 0 ∨ 256 ≤ (x1).toNatClampNeg) then
 (if (rA s (g + 3) (x1).toNatClampNeg) = 0 then
 some ((0 : Int32), s)
else
 (if ¬ (x1 < 0 ∨ 256 ≤ (x1).toNatClampNeg) then
 (if x5 < (rB s (g + 4) (x1).toNatClampNeg) then
 some ((0 : Int32), s)
else
 (if ¬ (x1 < 0 ∨ 256 ≤ (x1).toNatClampNeg) then
 (if x3 ≤ (rB s (g + 5) (x1).toNatClampNeg) then
 (if ¬ (x1 < 0 ∨ 256 ≤ (x1).toNatClampNeg) then
 (if (rB s (g + 4) (x1).toNatClampNeg) < x3 then
 f_X5_between_J75 g x1 x2 x3 x5 s
else
 (if ¬ (x1 < 0 ∨ 256 ≤ (x1).toNatClampNeg) then
 (if x5 < (rB s (g + 5) (x1).toNatClampNeg) then
 f_X5_between_J75 g x1 x2 x3 x5 s
else
 (if ¬ (x1 < 0 ∨ 256 ≤ (x1).toNatClampNeg) then
 some ((rA s (g + 3) (x1).toNatClampNeg), s)
else none))
else none))
else none)
else
 some ((0 : Int32), s))
else none))
else none))
else none)))
set_option maxRecDepth 100000 in
set_option maxHeartbeats 4000000 in
theorem k_X5_between {l : Launch} {X : ax_X} {Q : Option Value → ax_H → Prop} (g : Nat) (x1 : Int32) (x2 : Int32) (x3 : Int64) (x5 : Int64) (s : sx_M) (gb : ax_H) (hr : ax_RK g) {p : Int32 × sx_M} (hf : f_X5_between g x1 x2 x3 x5 s = some p) (hq : Q (some (.int p.1)) (hp p.2 gb)) : AM l X yX5_between cX5_between 7 (some .int) 10 0 0 [.ref (g + 2), .int x1, .int x2, .long x3, .long x5] (hp s gb) Q := by
  refine aw_met (own := RX5) (nm := "between") (L := [some (.ref (g + 2)), some (.int x1), some (.int x2), some (.long x3), none, some (.long x5), none]) (by decide +kernel) rfl rfl (And.intro rfl (And.intro rfl (And.intro rfl (And.intro rfl (And.intro rfl trivial))))) (Nat.le_of_ble_eq_true rfl) ?_
  unfold f_X5_between at hf
  have J75 : ∀ (y1_75 : Int32) (y2_75 : Int32) (y3_75 : Int64) (y5_75 : Int64) (s_75 : sx_M), f_X5_between_J75 g y1_75 y2_75 y3_75 y5_75 s_75 = some p → AW l X RX5 "between" cX5_between 7 (some .int) (ax_rm 10 0 0) (ax_MQ X Q 0 0) 0 0 75 [some (.ref (g + 2)), some (.int y1_75), some (.int y2_75), some (.long y3_75), none, some (.long y5_75), none] [] (hp s_75 gb) := by
    intro y1_75 y2_75 y3_75 y5_75 s_75 hf
    unfold f_X5_between_J75 at hf
    refine aw_aload_n dX5_between_75 rfl rfl ?_
    refine aw_iload_n dX5_between_76 rfl rfl ?_
    refine aw_iload_n dX5_between_77 rfl rfl ?_
    refine aw_lload_n dX5_between_78 rfl rfl ?_
    refine aw_lload dX5_between_79 rfl ?_
    obtain ⟨p1, hp1, hf⟩ := ax_bind hf
    refine aw_cSi (As := [.ref (g + 2), .int y1_75, .int y2_75, .long y3_75, .long y5_75]) (st := []) dX5_between_81 cl_X5_68 st_X5_search (k_X5_search (Q := (fun v h' => v = some (.int p1.1) ∧ h' = hp p1.2 gb)) g y1_75 y2_75 y3_75 y5_75 s_75 gb hr hp1 ⟨rfl, rfl⟩) rfl rfl (Nat.le_of_ble_eq_true rfl) rfl (by decide) (by decide) ?_
    cases hf
    exact aw_iret dX5_between_84 hq (Nat.le_refl _) (Nat.le_refl _)
  refine aw_iload_n dX5_between_0 rfl rfl ?_
  refine aw_if_lt (tgt := 43) dX5_between_1 (by decide) (fun hc13 => ?_) (fun hc13 => ?_)
  · have hf := ax_pos hc13 hf
    refine aw_iconst (v := 0) dX5_between_43 (by decide) ?_
    cases hf
    exact aw_iret dX5_between_44 hq (Nat.le_refl _) (Nat.le_refl _)
  · have hf := ax_neg hc13 hf
    refine aw_iload_n dX5_between_4 rfl rfl ?_
    refine aw_sipush (v := 256) dX5_between_5 (by decide) ?_
    refine aw_icmp_ge (tgt := 43) dX5_between_8 (by decide) (fun hc12 => ?_) (fun hc12 => ?_)
    · have hf := ax_pos hc12 hf
      refine aw_iconst (v := 0) dX5_between_43 (by decide) ?_
      cases hf
      exact aw_iret dX5_between_44 hq (Nat.le_refl _) (Nat.le_refl _)
    · have hf := ax_neg hc12 hf
      refine aw_aload_n dX5_between_11 rfl rfl ?_
      refine aw_gR dX5_between_12 fl_X5_9 hr.2.1 rfl ?_
      refine aw_iload_n dX5_between_15 rfl rfl ?_
      obtain ⟨hc1, hf⟩ := ax_ite hf
      refine aw_lA dX5_between_16 hr.2.2.1 hc1 ?_
      refine aw_if_eq (tgt := 43) dX5_between_17 (by decide) (fun hc11 => ?_) (fun hc11 => ?_)
      · have hf := ax_pos hc11 hf
        refine aw_iconst (v := 0) dX5_between_43 (by decide) ?_
        cases hf
        exact aw_iret dX5_between_44 hq (Nat.le_refl _) (Nat.le_refl _)
      · have hf := ax_neg hc11 hf
        refine aw_aload_n dX5_between_20 rfl rfl ?_
        refine aw_gR dX5_between_21 fl_X5_15 hr.2.1 rfl ?_
        refine aw_iload_n dX5_between_24 rfl rfl ?_
        obtain ⟨hc2, hf⟩ := ax_ite hf
        refine aw_lB dX5_between_25 hr.2.2.2.1 hc2 ?_
        refine aw_lload dX5_between_26 rfl ?_
        refine aw_lcmp_gt (tgt := 43) dX5_between_28 dX5_between_29 (by decide) (fun hc10 => ?_) (fun hc10 => ?_)
        · have hf := ax_pos hc10 hf
          refine aw_iconst (v := 0) dX5_between_43 (by decide) ?_
          cases hf
          exact aw_iret dX5_between_44 hq (Nat.le_refl _) (Nat.le_refl _)
        · have hf := ax_neg hc10 hf
          refine aw_aload_n dX5_between_32 rfl rfl ?_
          refine aw_gR dX5_between_33 fl_X5_19 hr.2.1 rfl ?_
          refine aw_iload_n dX5_between_36 rfl rfl ?_
          obtain ⟨hc3, hf⟩ := ax_ite hf
          refine aw_lB dX5_between_37 hr.2.2.2.2 hc3 ?_
          refine aw_lload_n dX5_between_38 rfl rfl ?_
          refine aw_lcmp_ge (tgt := 45) dX5_between_39 dX5_between_40 (by decide) (fun hc9 => ?_) (fun hc9 => ?_)
          · have hf := ax_pos hc9 hf
            refine aw_aload_n dX5_between_45 rfl rfl ?_
            refine aw_gR dX5_between_46 fl_X5_15 hr.2.1 rfl ?_
            refine aw_iload_n dX5_between_49 rfl rfl ?_
            obtain ⟨hc4, hf⟩ := ax_ite hf
            refine aw_lB dX5_between_50 hr.2.2.2.1 hc4 ?_
            refine aw_lload_n dX5_between_51 rfl rfl ?_
            refine aw_lcmp_lt (tgt := 75) dX5_between_52 dX5_between_53 (by decide) (fun hc8 => ?_) (fun hc8 => ?_)
            · have hf := ax_pos hc8 hf
              exact J75 x1 x2 x3 x5 s hf
            · have hf := ax_neg hc8 hf
              refine aw_aload_n dX5_between_56 rfl rfl ?_
              refine aw_gR dX5_between_57 fl_X5_19 hr.2.1 rfl ?_
              refine aw_iload_n dX5_between_60 rfl rfl ?_
              obtain ⟨hc5, hf⟩ := ax_ite hf
              refine aw_lB dX5_between_61 hr.2.2.2.2 hc5 ?_
              refine aw_lload dX5_between_62 rfl ?_
              refine aw_lcmp_gt (tgt := 75) dX5_between_64 dX5_between_65 (by decide) (fun hc7 => ?_) (fun hc7 => ?_)
              · have hf := ax_pos hc7 hf
                exact J75 x1 x2 x3 x5 s hf
              · have hf := ax_neg hc7 hf
                refine aw_aload_n dX5_between_68 rfl rfl ?_
                refine aw_gR dX5_between_69 fl_X5_9 hr.2.1 rfl ?_
                refine aw_iload_n dX5_between_72 rfl rfl ?_
                obtain ⟨hc6, hf⟩ := ax_ite hf
                refine aw_lA dX5_between_73 hr.2.2.1 hc6 ?_
                cases hf
                exact aw_iret dX5_between_74 hq (Nat.le_refl _) (Nat.le_refl _)
          · have hf := ax_neg hc9 hf
            refine aw_iconst (v := 0) dX5_between_43 (by decide) ?_
            cases hf
            exact aw_iret dX5_between_44 hq (Nat.le_refl _) (Nat.le_refl _)
noncomputable def f_X5_upTo (g : Nat) (x1 : Int64) (s : sx_M) : Option (Int32 × sx_M) :=
  (f_X5_between g (0 : Int32) (0 : Int32) (-1000000000 : Int64) x1 s).bind (fun p1 =>
 some (p1.1, p1.2))
set_option maxRecDepth 100000 in
set_option maxHeartbeats 4000000 in
theorem k_X5_upTo {l : Launch} {X : ax_X} {Q : Option Value → ax_H → Prop} (g : Nat) (x1 : Int64) (s : sx_M) (gb : ax_H) (hr : ax_RK g) {p : Int32 × sx_M} (hf : f_X5_upTo g x1 s = some p) (hq : Q (some (.int p.1)) (hp p.2 gb)) : AM l X yX5_upTo cX5_upTo 3 (some .int) 11 0 0 [.ref (g + 2), .long x1] (hp s gb) Q := by
  refine aw_met (own := RX5) (nm := "upTo") (L := [some (.ref (g + 2)), some (.long x1), none]) (by decide +kernel) rfl rfl (And.intro rfl (And.intro rfl trivial)) (Nat.le_of_ble_eq_true rfl) ?_
  unfold f_X5_upTo at hf
  refine aw_aload_n dX5_upTo_0 rfl rfl ?_
  refine aw_iconst (v := 0) dX5_upTo_1 (by decide) ?_
  refine aw_iconst (v := 0) dX5_upTo_2 (by decide) ?_
  refine aw_ldc2 dX5_upTo_3 kc_X5_62 ?_
  refine aw_lload_n dX5_upTo_6 rfl rfl ?_
  obtain ⟨p1, hp1, hf⟩ := ax_bind hf
  refine aw_cVi (As := [.int (0 : Int32), .int (0 : Int32), .long (-1000000000 : Int64), .long x1]) (st := []) dX5_upTo_7 cl_X5_64 iv_X5_between (k_X5_between (Q := (fun v h' => v = some (.int p1.1) ∧ h' = hp p1.2 gb)) g (0 : Int32) (0 : Int32) (-1000000000 : Int64) x1 s gb hr hp1 ⟨rfl, rfl⟩) (ci := 5) rfl (hp_get hr.2.1) rfl rfl rfl (Nat.le_of_ble_eq_true rfl) rfl (by decide) (by decide) ?_
  cases hf
  exact aw_iret dX5_upTo_10 hq (Nat.le_refl _) (Nat.le_refl _)
noncomputable def f_X5_leastGoingOn_L2 (g : Nat) (z1 : Int32) (z2 : Int32) (a2 : Int32 × sx_M) : Option ((Int32 × sx_M) ⊕ ((sx_M) ⊕ (Int32 × sx_M))) :=
  (if (rI a2.2 g 2) ≤ a2.1 then
 some (.inr (.inl a2.2))
else
 (f_X1_at g z2 a2.1 a2.2).bind (fun p1 =>
 (if (z1 ||| ((1 : Int32) <<< (a2.1 &&& 31))) = z1 then
 some (.inl ((a2.1 + (1 : Int32)), p1.2))
else
 (if p1.1 = (9223372036854775807 : Int64) then
 some (.inl ((a2.1 + (1 : Int32)), p1.2))
else
 (if ¬ ((z1 ||| ((1 : Int32) <<< (a2.1 &&& 31))) < 0 ∨ 256 ≤ ((z1 ||| ((1 : Int32) <<< (a2.1 &&& 31)))).toNatClampNeg) then
 (if (rA p1.2 (g + 3) ((z1 ||| ((1 : Int32) <<< (a2.1 &&& 31)))).toNatClampNeg) ≤ 0 then
 some (.inl ((a2.1 + (1 : Int32)), p1.2))
else
 (if ¬ ((z1 ||| ((1 : Int32) <<< (a2.1 &&& 31))) < 0 ∨ 256 ≤ ((z1 ||| ((1 : Int32) <<< (a2.1 &&& 31)))).toNatClampNeg) then
 (if ¬ (z1 < 0 ∨ 256 ≤ (z1).toNatClampNeg) then
 (if (p1.1 + (rB p1.2 (g + 4) ((z1 ||| ((1 : Int32) <<< (a2.1 &&& 31)))).toNatClampNeg)) = (rB p1.2 (g + 4) (z1).toNatClampNeg) then
 some (.inr (.inr ((a2.1, p1.2))))
else
 some (.inl ((a2.1 + (1 : Int32)), p1.2)))
else none)
else none))
else none)))))
noncomputable def f_X5_leastGoingOn (g : Nat) (x1 : Int32) (x2 : Int32) (s : sx_M) : Option (Int32 × sx_M) :=
  (whT (f_X5_leastGoingOn_L2 g x1 x2) ((0 : Int32), s)).bind (fun b2 => (Sum.elim (fun e3 =>
 some ((0 : Int32), e3)) (fun e4 =>
 some e4)) b2)
set_option maxRecDepth 100000 in
set_option maxHeartbeats 4000000 in
theorem k_X5_leastGoingOn {l : Launch} {X : ax_X} {Q : Option Value → ax_H → Prop} (g : Nat) (x1 : Int32) (x2 : Int32) (s : sx_M) (gb : ax_H) (hr : ax_RK g) {p : Int32 × sx_M} (hf : f_X5_leastGoingOn g x1 x2 s = some p) (hq : Q (some (.int p.1)) (hp p.2 gb)) : AM l X yX5_leastGoingOn cX5_leastGoingOn 7 (some .int) 1 0 0 [.ref (g + 2), .int x1, .int x2] (hp s gb) Q := by
  refine aw_met (own := RX5) (nm := "leastGoingOn") (L := [some (.ref (g + 2)), some (.int x1), some (.int x2), none, none, none, none]) (by decide +kernel) rfl rfl (And.intro rfl (And.intro rfl (And.intro rfl trivial))) (Nat.le_of_ble_eq_true rfl) ?_
  unfold f_X5_leastGoingOn at hf
  refine aw_iconst (v := 0) dX5_leastGoingOn_0 (by decide) ?_
  refine aw_istore_n (L' := [some (.ref (g + 2)), some (.int x1), some (.int x2), some (.int (0 : Int32)), none, none, none]) dX5_leastGoingOn_1 rfl (by decide) rfl ?_
  obtain ⟨b2, hb2, hf⟩ := ax_bind hf
  refine wh_go ((0 : Int32), s) (fun a2 : Int32 × sx_M => AW l X RX5 "leastGoingOn" cX5_leastGoingOn 7 (some .int) (ax_rm 1 0 0) (ax_MQ X Q 0 0) 0 0 2 [some (.ref (g + 2)), some (.int x1), some (.int x2), some (.int a2.1), none, none, none] [] (hp a2.2 gb)) (Sum.elim (fun e : sx_M => AW l X RX5 "leastGoingOn" cX5_leastGoingOn 7 (some .int) (ax_rm 1 0 0) (ax_MQ X Q 0 0) 0 0 84 [none, none, none, none, none, none, none] [] (hp e gb)) (fun v : Int32 × sx_M => Q (some (.int v.1)) (hp v.2 gb))) hb2 ?_ ?_
  · intro a2 r hf hK
    unfold f_X5_leastGoingOn_L2 at hf
    refine aw_iload_n dX5_leastGoingOn_2 rfl rfl ?_
    refine aw_aload_n dX5_leastGoingOn_3 rfl rfl ?_
    refine aw_gR dX5_leastGoingOn_4 fl_X5_22 hr.2.1 rfl ?_
    refine aw_gI dX5_leastGoingOn_7 fl_X5_26 hr.1.1 rfl ?_
    refine aw_icmp_ge (tgt := 84) dX5_leastGoingOn_10 (by decide) (fun hc8 => ?_) (fun hc8 => ?_)
    · have hf := ax_pos hc8 hf
      refine aw_less (L' := [none, none, none, none, none, none, none]) trivial ?_
      cases hf
      exact hK
    · have hf := ax_neg hc8 hf
      refine aw_iload_n dX5_leastGoingOn_13 rfl rfl ?_
      refine aw_iconst (v := 1) dX5_leastGoingOn_14 (by decide) ?_
      refine aw_iload_n dX5_leastGoingOn_15 rfl rfl ?_
      refine aw_ishl dX5_leastGoingOn_16 ?_
      refine aw_ior dX5_leastGoingOn_17 ?_
      refine aw_istore (L' := [some (.ref (g + 2)), some (.int x1), some (.int x2), some (.int a2.1), some (.int (x1 ||| ((1 : Int32) <<< (a2.1 &&& 31)))), none, none]) dX5_leastGoingOn_18 (by decide) rfl ?_
      refine aw_aload_n dX5_leastGoingOn_20 rfl rfl ?_
      refine aw_gR dX5_leastGoingOn_21 fl_X5_22 hr.2.1 rfl ?_
      refine aw_iload_n dX5_leastGoingOn_24 rfl rfl ?_
      refine aw_iload_n dX5_leastGoingOn_25 rfl rfl ?_
      obtain ⟨p1, hp1, hf⟩ := ax_bind hf
      refine aw_cVl (As := [.int x2, .int a2.1]) (st := []) dX5_leastGoingOn_26 cl_X5_49 iv_X1_at (k_X1_at (Q := (fun v h' => v = some (.long p1.1) ∧ h' = hp p1.2 gb)) g x2 a2.1 a2.2 gb hr.1 hp1 ⟨rfl, rfl⟩) (ci := 1) rfl (hp_get hr.1.1) rfl rfl rfl (Nat.le_of_ble_eq_true rfl) rfl (by decide) (by decide) ?_
      refine aw_lstore (L' := [some (.ref (g + 2)), some (.int x1), some (.int x2), some (.int a2.1), some (.int (x1 ||| ((1 : Int32) <<< (a2.1 &&& 31)))), some (.long p1.1), none]) dX5_leastGoingOn_29 (by decide) rfl ?_
      refine aw_iload dX5_leastGoingOn_31 rfl ?_
      refine aw_iload_n dX5_leastGoingOn_33 rfl rfl ?_
      refine aw_icmp_eq (tgt := 78) dX5_leastGoingOn_34 (by decide) (fun hc7 => ?_) (fun hc7 => ?_)
      · have hf := ax_pos hc7 hf
        refine aw_iinc (v := (a2.1 + (1 : Int32))) (L' := [some (.ref (g + 2)), some (.int x1), some (.int x2), some (.int (a2.1 + (1 : Int32))), some (.int (x1 ||| ((1 : Int32) <<< (a2.1 &&& 31)))), some (.long p1.1), none]) dX5_leastGoingOn_78 rfl rfl (by decide) rfl ?_
        refine aw_goto (tgt := 2) dX5_leastGoingOn_81 (by decide) ?_
        refine aw_less (L' := [some (.ref (g + 2)), some (.int x1), some (.int x2), some (.int (a2.1 + (1 : Int32))), none, none, none]) (And.intro rfl (And.intro rfl (And.intro rfl (And.intro rfl trivial)))) ?_
        cases hf
        exact hK
      · have hf := ax_neg hc7 hf
        refine aw_lload dX5_leastGoingOn_37 rfl ?_
        refine aw_ldc2 dX5_leastGoingOn_39 kc_X5_45 ?_
        refine aw_lcmp_eq (tgt := 78) dX5_leastGoingOn_42 dX5_leastGoingOn_43 (by decide) (fun hc6 => ?_) (fun hc6 => ?_)
        · have hf := ax_pos hc6 hf
          refine aw_iinc (v := (a2.1 + (1 : Int32))) (L' := [some (.ref (g + 2)), some (.int x1), some (.int x2), some (.int (a2.1 + (1 : Int32))), some (.int (x1 ||| ((1 : Int32) <<< (a2.1 &&& 31)))), some (.long p1.1), none]) dX5_leastGoingOn_78 rfl rfl (by decide) rfl ?_
          refine aw_goto (tgt := 2) dX5_leastGoingOn_81 (by decide) ?_
          refine aw_less (L' := [some (.ref (g + 2)), some (.int x1), some (.int x2), some (.int (a2.1 + (1 : Int32))), none, none, none]) (And.intro rfl (And.intro rfl (And.intro rfl (And.intro rfl trivial)))) ?_
          cases hf
          exact hK
        · have hf := ax_neg hc6 hf
          refine aw_aload_n dX5_leastGoingOn_46 rfl rfl ?_
          refine aw_gR dX5_leastGoingOn_47 fl_X5_9 hr.2.1 rfl ?_
          refine aw_iload dX5_leastGoingOn_50 rfl ?_
          obtain ⟨hc1, hf⟩ := ax_ite hf
          refine aw_lA dX5_leastGoingOn_52 hr.2.2.1 hc1 ?_
          refine aw_if_le (tgt := 78) dX5_leastGoingOn_53 (by decide) (fun hc5 => ?_) (fun hc5 => ?_)
          · have hf := ax_pos hc5 hf
            refine aw_iinc (v := (a2.1 + (1 : Int32))) (L' := [some (.ref (g + 2)), some (.int x1), some (.int x2), some (.int (a2.1 + (1 : Int32))), some (.int (x1 ||| ((1 : Int32) <<< (a2.1 &&& 31)))), some (.long p1.1), none]) dX5_leastGoingOn_78 rfl rfl (by decide) rfl ?_
            refine aw_goto (tgt := 2) dX5_leastGoingOn_81 (by decide) ?_
            refine aw_less (L' := [some (.ref (g + 2)), some (.int x1), some (.int x2), some (.int (a2.1 + (1 : Int32))), none, none, none]) (And.intro rfl (And.intro rfl (And.intro rfl (And.intro rfl trivial)))) ?_
            cases hf
            exact hK
          · have hf := ax_neg hc5 hf
            refine aw_lload dX5_leastGoingOn_56 rfl ?_
            refine aw_aload_n dX5_leastGoingOn_58 rfl rfl ?_
            refine aw_gR dX5_leastGoingOn_59 fl_X5_15 hr.2.1 rfl ?_
            refine aw_iload dX5_leastGoingOn_62 rfl ?_
            obtain ⟨hc2, hf⟩ := ax_ite hf
            refine aw_lB dX5_leastGoingOn_64 hr.2.2.2.1 hc2 ?_
            refine aw_ladd dX5_leastGoingOn_65 ?_
            refine aw_aload_n dX5_leastGoingOn_66 rfl rfl ?_
            refine aw_gR dX5_leastGoingOn_67 fl_X5_15 hr.2.1 rfl ?_
            refine aw_iload_n dX5_leastGoingOn_70 rfl rfl ?_
            obtain ⟨hc3, hf⟩ := ax_ite hf
            refine aw_lB dX5_leastGoingOn_71 hr.2.2.2.1 hc3 ?_
            refine aw_lcmp_ne (tgt := 78) dX5_leastGoingOn_72 dX5_leastGoingOn_73 (by decide) (fun hc4 => ?_) (fun hc4 => ?_)
            · have hf := ax_neg hc4 hf
              refine aw_iinc (v := (a2.1 + (1 : Int32))) (L' := [some (.ref (g + 2)), some (.int x1), some (.int x2), some (.int (a2.1 + (1 : Int32))), some (.int (x1 ||| ((1 : Int32) <<< (a2.1 &&& 31)))), some (.long p1.1), none]) dX5_leastGoingOn_78 rfl rfl (by decide) rfl ?_
              refine aw_goto (tgt := 2) dX5_leastGoingOn_81 (by decide) ?_
              refine aw_less (L' := [some (.ref (g + 2)), some (.int x1), some (.int x2), some (.int (a2.1 + (1 : Int32))), none, none, none]) (And.intro rfl (And.intro rfl (And.intro rfl (And.intro rfl trivial)))) ?_
              cases hf
              exact hK
            · have hf := ax_pos hc4 hf
              refine aw_iload_n dX5_leastGoingOn_76 rfl rfl ?_
              cases hf
              exact aw_iret dX5_leastGoingOn_77 hK (Nat.le_refl _) (Nat.le_refl _)
  · rcases b2 with e3 | e4
    · refine aw_iconst (v := 0) dX5_leastGoingOn_84 (by decide) ?_
      cases hf
      exact aw_iret dX5_leastGoingOn_85 hq (Nat.le_refl _) (Nat.le_refl _)
    · cases hf
      exact hq
noncomputable def f_X5_findFirst_L27 (g : Nat) (ra : Nat) (a27 : Int32 × Int32 × sx_M) : Option ((Int32 × Int32 × sx_M) ⊕ (sx_M)) :=
  (if (rI a27.2.2 g 1) ≤ a27.2.1 then
 some (.inr a27.2.2)
else
 (f_X5_leastGoingOn g a27.1 a27.2.1 a27.2.2).bind (fun p1 =>
 (if ¬ (a27.2.1 < 0 ∨ 7 ≤ (a27.2.1).toNatClampNeg) then
 (if ¬ (a27.2.1 < 0 ∨ 7 ≤ (a27.2.1).toNatClampNeg) then
 some (.inl ((a27.1 ||| ((1 : Int32) <<< ((rA (wA p1.2 ra (a27.2.1).toNatClampNeg p1.1) ra (a27.2.1).toNatClampNeg) &&& 31))), (a27.2.1 + (1 : Int32)), (wA p1.2 ra (a27.2.1).toNatClampNeg p1.1)))
else none)
else none)))
noncomputable def f_X5_findFirst (g : Nat) (ra : Nat) (s : sx_M) : Option (Int32 × sx_M) :=
  (if (rA s (g + 3) ((0 : Int32)).toNatClampNeg) = 0 then
 some ((0 : Int32), s)
else
 (if (rI s g 1) ≤ (7 : Int32) then
 (whT (f_X5_findFirst_L27 g ra) ((0 : Int32), (0 : Int32), s)).bind (fun b2 =>
 some ((1 : Int32), b2))
else
 some ((0 : Int32), s)))
set_option maxRecDepth 100000 in
set_option maxHeartbeats 4000000 in
theorem k_X5_findFirst {l : Launch} {X : ax_X} {Q : Option Value → ax_H → Prop} (g : Nat) (ra : Nat) (s : sx_M) (gb : ax_H) (hr : ax_RK g) (hra : sx_sh[ra]? = some (.inl (.int, 7))) {p : Int32 × sx_M} (hf : f_X5_findFirst g ra s = some p) (hq : Q (some (.int p.1)) (hp p.2 gb)) : AM l X yX5_findFirst cX5_findFirst 4 (some .boolean) 2 0 0 [.ref (g + 2), .ref ra] (hp s gb) Q := by
  refine aw_met (own := RX5) (nm := "findFirst") (L := [some (.ref (g + 2)), some (.ref ra), none, none]) (by decide +kernel) rfl rfl (And.intro rfl (And.intro rfl trivial)) (Nat.le_of_ble_eq_true rfl) ?_
  unfold f_X5_findFirst at hf
  refine aw_aload_n dX5_findFirst_0 rfl rfl ?_
  refine aw_gR dX5_findFirst_1 fl_X5_9 hr.2.1 rfl ?_
  refine aw_iconst (v := 0) dX5_findFirst_4 (by decide) ?_
  refine aw_lA dX5_findFirst_5 hr.2.2.1 (by decide) ?_
  refine aw_if_eq (tgt := 21) dX5_findFirst_6 (by decide) (fun hc5 => ?_) (fun hc5 => ?_)
  · have hf := ax_pos hc5 hf
    refine aw_iconst (v := 0) dX5_findFirst_21 (by decide) ?_
    cases hf
    exact aw_zret dX5_findFirst_22 (by decide) hq (Nat.le_refl _) (Nat.le_refl _)
  · have hf := ax_neg hc5 hf
    refine aw_aload_n dX5_findFirst_9 rfl rfl ?_
    refine aw_al dX5_findFirst_10 hra (by decide) rfl ?_
    refine aw_aload_n dX5_findFirst_11 rfl rfl ?_
    refine aw_gR dX5_findFirst_12 fl_X5_22 hr.2.1 rfl ?_
    refine aw_gI dX5_findFirst_15 fl_X5_42 hr.1.1 rfl ?_
    refine aw_icmp_ge (tgt := 23) dX5_findFirst_18 (by decide) (fun hc4 => ?_) (fun hc4 => ?_)
    · have hf := ax_pos hc4 hf
      refine aw_iconst (v := 0) dX5_findFirst_23 (by decide) ?_
      refine aw_istore_n (L' := [some (.ref (g + 2)), some (.ref ra), some (.int (0 : Int32)), none]) dX5_findFirst_24 rfl (by decide) rfl ?_
      refine aw_iconst (v := 0) dX5_findFirst_25 (by decide) ?_
      refine aw_istore_n (L' := [some (.ref (g + 2)), some (.ref ra), some (.int (0 : Int32)), some (.int (0 : Int32))]) dX5_findFirst_26 rfl (by decide) rfl ?_
      obtain ⟨b2, hb2, hf⟩ := ax_bind hf
      refine wh_go ((0 : Int32), (0 : Int32), s) (fun a27 : Int32 × Int32 × sx_M => AW l X RX5 "findFirst" cX5_findFirst 4 (some .boolean) (ax_rm 2 0 0) (ax_MQ X Q 0 0) 0 0 27 [some (.ref (g + 2)), some (.ref ra), some (.int a27.1), some (.int a27.2.1)] [] (hp a27.2.2 gb)) (fun e : sx_M => AW l X RX5 "findFirst" cX5_findFirst 4 (some .boolean) (ax_rm 2 0 0) (ax_MQ X Q 0 0) 0 0 61 [none, none, none, none] [] (hp e gb)) hb2 ?_ ?_
      · intro a27 r hf hK
        unfold f_X5_findFirst_L27 at hf
        refine aw_iload_n dX5_findFirst_27 rfl rfl ?_
        refine aw_aload_n dX5_findFirst_28 rfl rfl ?_
        refine aw_gR dX5_findFirst_29 fl_X5_22 hr.2.1 rfl ?_
        refine aw_gI dX5_findFirst_32 fl_X5_42 hr.1.1 rfl ?_
        refine aw_icmp_ge (tgt := 61) dX5_findFirst_35 (by decide) (fun hc3 => ?_) (fun hc3 => ?_)
        · have hf := ax_pos hc3 hf
          refine aw_less (L' := [none, none, none, none]) trivial ?_
          cases hf
          exact hK
        · have hf := ax_neg hc3 hf
          refine aw_aload_n dX5_findFirst_38 rfl rfl ?_
          refine aw_iload_n dX5_findFirst_39 rfl rfl ?_
          refine aw_aload_n dX5_findFirst_40 rfl rfl ?_
          refine aw_iload_n dX5_findFirst_41 rfl rfl ?_
          refine aw_iload_n dX5_findFirst_42 rfl rfl ?_
          obtain ⟨p1, hp1, hf⟩ := ax_bind hf
          refine aw_cVi (As := [.int a27.1, .int a27.2.1]) (st := [.int a27.2.1, .ref ra]) dX5_findFirst_43 cl_X5_80 iv_X5_leastGoingOn (k_X5_leastGoingOn (Q := (fun v h' => v = some (.int p1.1) ∧ h' = hp p1.2 gb)) g a27.1 a27.2.1 a27.2.2 gb hr hp1 ⟨rfl, rfl⟩) (ci := 5) rfl (hp_get hr.2.1) rfl rfl rfl (Nat.le_of_ble_eq_true rfl) rfl (by decide) (by decide) ?_
          obtain ⟨hc1, hf⟩ := ax_ite hf
          refine aw_sA dX5_findFirst_46 hra hc1 ?_
          refine aw_iload_n dX5_findFirst_47 rfl rfl ?_
          refine aw_iconst (v := 1) dX5_findFirst_48 (by decide) ?_
          refine aw_aload_n dX5_findFirst_49 rfl rfl ?_
          refine aw_iload_n dX5_findFirst_50 rfl rfl ?_
          obtain ⟨hc2, hf⟩ := ax_ite hf
          refine aw_lA dX5_findFirst_51 hra hc2 ?_
          refine aw_ishl dX5_findFirst_52 ?_
          refine aw_ior dX5_findFirst_53 ?_
          refine aw_istore_n (L' := [some (.ref (g + 2)), some (.ref ra), some (.int (a27.1 ||| ((1 : Int32) <<< ((rA (wA p1.2 ra (a27.2.1).toNatClampNeg p1.1) ra (a27.2.1).toNatClampNeg) &&& 31)))), some (.int a27.2.1)]) dX5_findFirst_54 rfl (by decide) rfl ?_
          refine aw_iinc (v := (a27.2.1 + (1 : Int32))) (L' := [some (.ref (g + 2)), some (.ref ra), some (.int (a27.1 ||| ((1 : Int32) <<< ((rA (wA p1.2 ra (a27.2.1).toNatClampNeg p1.1) ra (a27.2.1).toNatClampNeg) &&& 31)))), some (.int (a27.2.1 + (1 : Int32)))]) dX5_findFirst_55 rfl rfl (by decide) rfl ?_
          refine aw_goto (tgt := 27) dX5_findFirst_58 (by decide) ?_
          cases hf
          exact hK
      · refine aw_iconst (v := 1) dX5_findFirst_61 (by decide) ?_
        cases hf
        exact aw_zret dX5_findFirst_62 (by decide) hq (Nat.le_refl _) (Nat.le_refl _)
    · have hf := ax_neg hc4 hf
      refine aw_iconst (v := 0) dX5_findFirst_21 (by decide) ?_
      cases hf
      exact aw_zret dX5_findFirst_22 (by decide) hq (Nat.le_refl _) (Nat.le_refl _)
noncomputable def f_X5_settle_L64 (g : Nat) (z1 : Int32) (z2 : Int32) (z3 : Int32) (a64 : Int32 × Int64 × Int64 × Int32 × sx_M) : Option ((Int32 × Int64 × Int64 × Int32 × sx_M) ⊕ (Int32 × Int64 × Int64 × sx_M)) :=
  (if z3 = 0 then
 (if (rI a64.2.2.2.2 g 2) ≤ a64.2.2.2.1 then
 some (.inr (a64.1, a64.2.1, a64.2.2.1, a64.2.2.2.2))
else
 (f_X1_at g z2 a64.2.2.2.1 a64.2.2.2.2).bind (fun p1 =>
 (if (z1 ||| ((1 : Int32) <<< (a64.2.2.2.1 &&& 31))) = z1 then
 some (.inl (a64.1, a64.2.1, a64.2.2.1, (a64.2.2.2.1 + (1 : Int32)), p1.2))
else
 (if p1.1 = (9223372036854775807 : Int64) then
 some (.inl (a64.1, a64.2.1, a64.2.2.1, (a64.2.2.2.1 + (1 : Int32)), p1.2))
else
 (if ¬ ((z1 ||| ((1 : Int32) <<< (a64.2.2.2.1 &&& 31))) < 0 ∨ 256 ≤ ((z1 ||| ((1 : Int32) <<< (a64.2.2.2.1 &&& 31)))).toNatClampNeg) then
 (if (rA p1.2 (g + 3) ((z1 ||| ((1 : Int32) <<< (a64.2.2.2.1 &&& 31)))).toNatClampNeg) ≤ 0 then
 some (.inl (a64.1, a64.2.1, a64.2.2.1, (a64.2.2.2.1 + (1 : Int32)), p1.2))
else
 (if ¬ ((z1 ||| ((1 : Int32) <<< (a64.2.2.2.1 &&& 31))) < 0 ∨ 256 ≤ ((z1 ||| ((1 : Int32) <<< (a64.2.2.2.1 &&& 31)))).toNatClampNeg) then
 (if ¬ ((z1 ||| ((1 : Int32) <<< (a64.2.2.2.1 &&& 31))) < 0 ∨ 256 ≤ ((z1 ||| ((1 : Int32) <<< (a64.2.2.2.1 &&& 31)))).toNatClampNeg) then
 (f_J9_min_f86c9 a64.2.1 (p1.1 + (rB p1.2 (g + 4) ((z1 ||| ((1 : Int32) <<< (a64.2.2.2.1 &&& 31)))).toNatClampNeg)) p1.2).bind (fun p2 =>
 (if ¬ ((z1 ||| ((1 : Int32) <<< (a64.2.2.2.1 &&& 31))) < 0 ∨ 256 ≤ ((z1 ||| ((1 : Int32) <<< (a64.2.2.2.1 &&& 31)))).toNatClampNeg) then
 (f_J9_max_f86c9 a64.2.2.1 (p1.1 + (rB p2.2 (g + 5) ((z1 ||| ((1 : Int32) <<< (a64.2.2.2.1 &&& 31)))).toNatClampNeg)) p2.2).bind (fun p3 =>
 some (.inl ((a64.1 + (rA p1.2 (g + 3) ((z1 ||| ((1 : Int32) <<< (a64.2.2.2.1 &&& 31)))).toNatClampNeg)), p2.1, p3.1, (a64.2.2.2.1 + (1 : Int32)), p3.2)))
else none))
else none)
else none))
else none)))))
else
 some (.inr (a64.1, a64.2.1, a64.2.2.1, a64.2.2.2.2)))
noncomputable def f_X5_settle_J59 (g : Nat) (y1_59 : Int32) (y2_59 : Int32) (y3_59 : Int32) (y4_59 : Int32) (y5_59 : Int64) (t0_59 : Int64) (s_59 : sx_M) : Option sx_M :=
  (whT (f_X5_settle_L64 g y1_59 y2_59 y3_59) (y4_59, y5_59, t0_59, (0 : Int32), s_59)).bind (fun b4 =>
 (if ¬ (y1_59 < 0 ∨ 256 ≤ (y1_59).toNatClampNeg) then
 (if ¬ (y1_59 < 0 ∨ 256 ≤ (y1_59).toNatClampNeg) then
 (if ¬ (y1_59 < 0 ∨ 256 ≤ (y1_59).toNatClampNeg) then
 some (wB (wB (wA b4.2.2.2 (g + 3) (y1_59).toNatClampNeg b4.1) (g + 4) (y1_59).toNatClampNeg b4.2.1) (g + 5) (y1_59).toNatClampNeg b4.2.2.1)
else none)
else none)
else none))
noncomputable def f_X5_settle_J46 (g : Nat) (y1_46 : Int32) (y2_46 : Int32) (y3_46 : Int32) (y4_46 : Int32) (t0_46 : Int64) (s_46 : sx_M) : Option sx_M :=
  (if y3_46 = 0 then
 f_X5_settle_J59 g y1_46 y2_46 y3_46 y4_46 t0_46 (-9223372036854775808 : Int64) s_46
else
 f_X5_settle_J59 g y1_46 y2_46 y3_46 y4_46 t0_46 (0 : Int64) s_46)
noncomputable def f_X5_settle_J33 (g : Nat) (y1_33 : Int32) (y2_33 : Int32) (y3_33 : Int32) (t0_33 : Int32) (s_33 : sx_M) : Option sx_M :=
  (if y3_33 = 0 then
 f_X5_settle_J46 g y1_33 y2_33 y3_33 t0_33 (9223372036854775807 : Int64) s_33
else
 f_X5_settle_J46 g y1_33 y2_33 y3_33 t0_33 (0 : Int64) s_33)
noncomputable def f_X5_settle_J16 (g : Nat) (y1_16 : Int32) (y2_16 : Int32) (t0_16 : Int32) (s_16 : sx_M) : Option sx_M :=
  (if y2_16 = (rI s_16 g 1) then
 f_X5_settle_J33 g y1_16 y2_16 t0_16 (1 : Int32) s_16
else
 f_X5_settle_J33 g y1_16 y2_16 t0_16 (0 : Int32) s_16)
noncomputable def f_X5_settle (g : Nat) (x1 : Int32) (x2 : Int32) (s : sx_M) : Option sx_M :=
  (if x2 < (rI s g 1) then
 f_X5_settle_J16 g x1 x2 (0 : Int32) s
else
 f_X5_settle_J16 g x1 x2 (1 : Int32) s)
set_option maxRecDepth 100000 in
set_option maxHeartbeats 4000000 in
theorem k_X5_settle {l : Launch} {X : ax_X} {Q : Option Value → ax_H → Prop} (g : Nat) (x1 : Int32) (x2 : Int32) (s : sx_M) (gb : ax_H) (hr : ax_RK g) {p : sx_M} (hf : f_X5_settle g x1 x2 s = some p) (hq : Q (none) (hp p gb)) : AM l X yX5_settle cX5_settle 13 none 1 0 0 [.ref (g + 2), .int x1, .int x2] (hp s gb) Q := by
  refine aw_met (own := RX5) (nm := "settle") (L := [some (.ref (g + 2)), some (.int x1), some (.int x2), none, none, none, none, none, none, none, none, none, none]) (by decide +kernel) rfl rfl (And.intro rfl (And.intro rfl (And.intro rfl trivial))) (Nat.le_of_ble_eq_true rfl) ?_
  unfold f_X5_settle at hf
  have J59 : ∀ (y1_59 : Int32) (y2_59 : Int32) (y3_59 : Int32) (y4_59 : Int32) (y5_59 : Int64) (t0_59 : Int64) (s_59 : sx_M), f_X5_settle_J59 g y1_59 y2_59 y3_59 y4_59 y5_59 t0_59 s_59 = some p → AW l X RX5 "settle" cX5_settle 13 none (ax_rm 1 0 0) (ax_MQ X Q 0 0) 0 0 59 [some (.ref (g + 2)), some (.int y1_59), some (.int y2_59), some (.int y3_59), some (.int y4_59), some (.long y5_59), none, none, none, none, none, none, none] [.long t0_59] (hp s_59 gb) := by
    intro y1_59 y2_59 y3_59 y4_59 y5_59 t0_59 s_59 hf
    unfold f_X5_settle_J59 at hf
    refine aw_lstore (L' := [some (.ref (g + 2)), some (.int y1_59), some (.int y2_59), some (.int y3_59), some (.int y4_59), some (.long y5_59), none, some (.long t0_59), none, none, none, none, none]) dX5_settle_59 (by decide) rfl ?_
    refine aw_iconst (v := 0) dX5_settle_61 (by decide) ?_
    refine aw_istore (L' := [some (.ref (g + 2)), some (.int y1_59), some (.int y2_59), some (.int y3_59), some (.int y4_59), some (.long y5_59), none, some (.long t0_59), none, some (.int (0 : Int32)), none, none, none]) dX5_settle_62 (by decide) rfl ?_
    obtain ⟨b4, hb4, hf⟩ := ax_bind hf
    refine wh_go (y4_59, y5_59, t0_59, (0 : Int32), s_59) (fun a64 : Int32 × Int64 × Int64 × Int32 × sx_M => AW l X RX5 "settle" cX5_settle 13 none (ax_rm 1 0 0) (ax_MQ X Q 0 0) 0 0 64 [some (.ref (g + 2)), some (.int y1_59), some (.int y2_59), some (.int y3_59), some (.int a64.1), some (.long a64.2.1), none, some (.long a64.2.2.1), none, some (.int a64.2.2.2.1), none, none, none] [] (hp a64.2.2.2.2 gb)) (fun e : Int32 × Int64 × Int64 × sx_M => AW l X RX5 "settle" cX5_settle 13 none (ax_rm 1 0 0) (ax_MQ X Q 0 0) 0 0 177 [some (.ref (g + 2)), some (.int y1_59), none, none, some (.int e.1), some (.long e.2.1), none, some (.long e.2.2.1), none, none, none, none, none] [] (hp e.2.2.2 gb)) hb4 ?_ ?_
    · intro a64 r hf hK
      unfold f_X5_settle_L64 at hf
      refine aw_iload_n dX5_settle_64 rfl rfl ?_
      refine aw_if_ne (tgt := 177) dX5_settle_65 (by decide) (fun hc9 => ?_) (fun hc9 => ?_)
      · have hf := ax_neg hc9 hf
        refine aw_less (L' := [some (.ref (g + 2)), some (.int y1_59), none, none, some (.int a64.1), some (.long a64.2.1), none, some (.long a64.2.2.1), none, none, none, none, none]) (And.intro rfl (And.intro rfl (And.intro rfl (And.intro rfl (And.intro rfl trivial))))) ?_
        cases hf
        exact hK
      · have hf := ax_pos hc9 hf
        refine aw_iload dX5_settle_68 rfl ?_
        refine aw_aload_n dX5_settle_70 rfl rfl ?_
        refine aw_gR dX5_settle_71 fl_X5_22 hr.2.1 rfl ?_
        refine aw_gI dX5_settle_74 fl_X5_26 hr.1.1 rfl ?_
        refine aw_icmp_ge (tgt := 177) dX5_settle_77 (by decide) (fun hc8 => ?_) (fun hc8 => ?_)
        · have hf := ax_pos hc8 hf
          refine aw_less (L' := [some (.ref (g + 2)), some (.int y1_59), none, none, some (.int a64.1), some (.long a64.2.1), none, some (.long a64.2.2.1), none, none, none, none, none]) (And.intro rfl (And.intro rfl (And.intro rfl (And.intro rfl (And.intro rfl trivial))))) ?_
          cases hf
          exact hK
        · have hf := ax_neg hc8 hf
          refine aw_iload_n dX5_settle_80 rfl rfl ?_
          refine aw_iconst (v := 1) dX5_settle_81 (by decide) ?_
          refine aw_iload dX5_settle_82 rfl ?_
          refine aw_ishl dX5_settle_84 ?_
          refine aw_ior dX5_settle_85 ?_
          refine aw_istore (L' := [some (.ref (g + 2)), some (.int y1_59), some (.int y2_59), some (.int y3_59), some (.int a64.1), some (.long a64.2.1), none, some (.long a64.2.2.1), none, some (.int a64.2.2.2.1), some (.int (y1_59 ||| ((1 : Int32) <<< (a64.2.2.2.1 &&& 31)))), none, none]) dX5_settle_86 (by decide) rfl ?_
          refine aw_aload_n dX5_settle_88 rfl rfl ?_
          refine aw_gR dX5_settle_89 fl_X5_22 hr.2.1 rfl ?_
          refine aw_iload_n dX5_settle_92 rfl rfl ?_
          refine aw_iload dX5_settle_93 rfl ?_
          obtain ⟨p1, hp1, hf⟩ := ax_bind hf
          refine aw_cVl (As := [.int y2_59, .int a64.2.2.2.1]) (st := []) dX5_settle_95 cl_X5_49 iv_X1_at (k_X1_at (Q := (fun v h' => v = some (.long p1.1) ∧ h' = hp p1.2 gb)) g y2_59 a64.2.2.2.1 a64.2.2.2.2 gb hr.1 hp1 ⟨rfl, rfl⟩) (ci := 1) rfl (hp_get hr.1.1) rfl rfl rfl (Nat.le_of_ble_eq_true rfl) rfl (by decide) (by decide) ?_
          refine aw_lstore (L' := [some (.ref (g + 2)), some (.int y1_59), some (.int y2_59), some (.int y3_59), some (.int a64.1), some (.long a64.2.1), none, some (.long a64.2.2.1), none, some (.int a64.2.2.2.1), some (.int (y1_59 ||| ((1 : Int32) <<< (a64.2.2.2.1 &&& 31)))), some (.long p1.1), none]) dX5_settle_98 (by decide) rfl ?_
          refine aw_iload dX5_settle_100 rfl ?_
          refine aw_iload_n dX5_settle_102 rfl rfl ?_
          refine aw_icmp_eq (tgt := 171) dX5_settle_103 (by decide) (fun hc7 => ?_) (fun hc7 => ?_)
          · have hf := ax_pos hc7 hf
            refine aw_iinc (v := (a64.2.2.2.1 + (1 : Int32))) (L' := [some (.ref (g + 2)), some (.int y1_59), some (.int y2_59), some (.int y3_59), some (.int a64.1), some (.long a64.2.1), none, some (.long a64.2.2.1), none, some (.int (a64.2.2.2.1 + (1 : Int32))), some (.int (y1_59 ||| ((1 : Int32) <<< (a64.2.2.2.1 &&& 31)))), some (.long p1.1), none]) dX5_settle_171 rfl rfl (by decide) rfl ?_
            refine aw_goto (tgt := 64) dX5_settle_174 (by decide) ?_
            refine aw_less (L' := [some (.ref (g + 2)), some (.int y1_59), some (.int y2_59), some (.int y3_59), some (.int a64.1), some (.long a64.2.1), none, some (.long a64.2.2.1), none, some (.int (a64.2.2.2.1 + (1 : Int32))), none, none, none]) (And.intro rfl (And.intro rfl (And.intro rfl (And.intro rfl (And.intro rfl (And.intro rfl (And.intro rfl (And.intro rfl trivial)))))))) ?_
            cases hf
            exact hK
          · have hf := ax_neg hc7 hf
            refine aw_lload dX5_settle_106 rfl ?_
            refine aw_ldc2 dX5_settle_108 kc_X5_45 ?_
            refine aw_lcmp_eq (tgt := 171) dX5_settle_111 dX5_settle_112 (by decide) (fun hc6 => ?_) (fun hc6 => ?_)
            · have hf := ax_pos hc6 hf
              refine aw_iinc (v := (a64.2.2.2.1 + (1 : Int32))) (L' := [some (.ref (g + 2)), some (.int y1_59), some (.int y2_59), some (.int y3_59), some (.int a64.1), some (.long a64.2.1), none, some (.long a64.2.2.1), none, some (.int (a64.2.2.2.1 + (1 : Int32))), some (.int (y1_59 ||| ((1 : Int32) <<< (a64.2.2.2.1 &&& 31)))), some (.long p1.1), none]) dX5_settle_171 rfl rfl (by decide) rfl ?_
              refine aw_goto (tgt := 64) dX5_settle_174 (by decide) ?_
              refine aw_less (L' := [some (.ref (g + 2)), some (.int y1_59), some (.int y2_59), some (.int y3_59), some (.int a64.1), some (.long a64.2.1), none, some (.long a64.2.2.1), none, some (.int (a64.2.2.2.1 + (1 : Int32))), none, none, none]) (And.intro rfl (And.intro rfl (And.intro rfl (And.intro rfl (And.intro rfl (And.intro rfl (And.intro rfl (And.intro rfl trivial)))))))) ?_
              cases hf
              exact hK
            · have hf := ax_neg hc6 hf
              refine aw_aload_n dX5_settle_115 rfl rfl ?_
              refine aw_gR dX5_settle_116 fl_X5_9 hr.2.1 rfl ?_
              refine aw_iload dX5_settle_119 rfl ?_
              obtain ⟨hc1, hf⟩ := ax_ite hf
              refine aw_lA dX5_settle_121 hr.2.2.1 hc1 ?_
              refine aw_if_le (tgt := 171) dX5_settle_122 (by decide) (fun hc5 => ?_) (fun hc5 => ?_)
              · have hf := ax_pos hc5 hf
                refine aw_iinc (v := (a64.2.2.2.1 + (1 : Int32))) (L' := [some (.ref (g + 2)), some (.int y1_59), some (.int y2_59), some (.int y3_59), some (.int a64.1), some (.long a64.2.1), none, some (.long a64.2.2.1), none, some (.int (a64.2.2.2.1 + (1 : Int32))), some (.int (y1_59 ||| ((1 : Int32) <<< (a64.2.2.2.1 &&& 31)))), some (.long p1.1), none]) dX5_settle_171 rfl rfl (by decide) rfl ?_
                refine aw_goto (tgt := 64) dX5_settle_174 (by decide) ?_
                refine aw_less (L' := [some (.ref (g + 2)), some (.int y1_59), some (.int y2_59), some (.int y3_59), some (.int a64.1), some (.long a64.2.1), none, some (.long a64.2.2.1), none, some (.int (a64.2.2.2.1 + (1 : Int32))), none, none, none]) (And.intro rfl (And.intro rfl (And.intro rfl (And.intro rfl (And.intro rfl (And.intro rfl (And.intro rfl (And.intro rfl trivial)))))))) ?_
                cases hf
                exact hK
              · have hf := ax_neg hc5 hf
                refine aw_iload dX5_settle_125 rfl ?_
                refine aw_aload_n dX5_settle_127 rfl rfl ?_
                refine aw_gR dX5_settle_128 fl_X5_9 hr.2.1 rfl ?_
                refine aw_iload dX5_settle_131 rfl ?_
                obtain ⟨hc2, hf⟩ := ax_ite hf
                refine aw_lA dX5_settle_133 hr.2.2.1 hc2 ?_
                refine aw_iadd dX5_settle_134 ?_
                refine aw_istore (L' := [some (.ref (g + 2)), some (.int y1_59), some (.int y2_59), some (.int y3_59), some (.int (a64.1 + (rA p1.2 (g + 3) ((y1_59 ||| ((1 : Int32) <<< (a64.2.2.2.1 &&& 31)))).toNatClampNeg))), some (.long a64.2.1), none, some (.long a64.2.2.1), none, some (.int a64.2.2.2.1), some (.int (y1_59 ||| ((1 : Int32) <<< (a64.2.2.2.1 &&& 31)))), some (.long p1.1), none]) dX5_settle_135 (by decide) rfl ?_
                refine aw_lload dX5_settle_137 rfl ?_
                refine aw_lload dX5_settle_139 rfl ?_
                refine aw_aload_n dX5_settle_141 rfl rfl ?_
                refine aw_gR dX5_settle_142 fl_X5_15 hr.2.1 rfl ?_
                refine aw_iload dX5_settle_145 rfl ?_
                obtain ⟨hc3, hf⟩ := ax_ite hf
                refine aw_lB dX5_settle_147 hr.2.2.2.1 hc3 ?_
                refine aw_ladd dX5_settle_148 ?_
                obtain ⟨p2, hp2, hf⟩ := ax_bind hf
                refine aw_cSl (As := [.long a64.2.1, .long (p1.1 + (rB p1.2 (g + 4) ((y1_59 ||| ((1 : Int32) <<< (a64.2.2.2.1 &&& 31)))).toNatClampNeg))]) (st := []) dX5_settle_149 cl_X5_53 st_J9_min_f86c9 (k_J9_min_f86c9 (Q := (fun v h' => v = some (.long p2.1) ∧ h' = hp p2.2 gb)) a64.2.1 (p1.1 + (rB p1.2 (g + 4) ((y1_59 ||| ((1 : Int32) <<< (a64.2.2.2.1 &&& 31)))).toNatClampNeg)) p1.2 gb hp2 ⟨rfl, rfl⟩) rfl rfl (Nat.le_of_ble_eq_true rfl) rfl (by decide) (by decide) ?_
                refine aw_lstore (L' := [some (.ref (g + 2)), some (.int y1_59), some (.int y2_59), some (.int y3_59), some (.int (a64.1 + (rA p1.2 (g + 3) ((y1_59 ||| ((1 : Int32) <<< (a64.2.2.2.1 &&& 31)))).toNatClampNeg))), some (.long p2.1), none, some (.long a64.2.2.1), none, some (.int a64.2.2.2.1), some (.int (y1_59 ||| ((1 : Int32) <<< (a64.2.2.2.1 &&& 31)))), some (.long p1.1), none]) dX5_settle_152 (by decide) rfl ?_
                refine aw_lload dX5_settle_154 rfl ?_
                refine aw_lload dX5_settle_156 rfl ?_
                refine aw_aload_n dX5_settle_158 rfl rfl ?_
                refine aw_gR dX5_settle_159 fl_X5_19 hr.2.1 rfl ?_
                refine aw_iload dX5_settle_162 rfl ?_
                obtain ⟨hc4, hf⟩ := ax_ite hf
                refine aw_lB dX5_settle_164 hr.2.2.2.2 hc4 ?_
                refine aw_ladd dX5_settle_165 ?_
                obtain ⟨p3, hp3, hf⟩ := ax_bind hf
                refine aw_cSl (As := [.long a64.2.2.1, .long (p1.1 + (rB p2.2 (g + 5) ((y1_59 ||| ((1 : Int32) <<< (a64.2.2.2.1 &&& 31)))).toNatClampNeg))]) (st := []) dX5_settle_166 cl_X5_59 st_J9_max_f86c9 (k_J9_max_f86c9 (Q := (fun v h' => v = some (.long p3.1) ∧ h' = hp p3.2 gb)) a64.2.2.1 (p1.1 + (rB p2.2 (g + 5) ((y1_59 ||| ((1 : Int32) <<< (a64.2.2.2.1 &&& 31)))).toNatClampNeg)) p2.2 gb hp3 ⟨rfl, rfl⟩) rfl rfl (Nat.le_of_ble_eq_true rfl) rfl (by decide) (by decide) ?_
                refine aw_lstore (L' := [some (.ref (g + 2)), some (.int y1_59), some (.int y2_59), some (.int y3_59), some (.int (a64.1 + (rA p1.2 (g + 3) ((y1_59 ||| ((1 : Int32) <<< (a64.2.2.2.1 &&& 31)))).toNatClampNeg))), some (.long p2.1), none, some (.long p3.1), none, some (.int a64.2.2.2.1), some (.int (y1_59 ||| ((1 : Int32) <<< (a64.2.2.2.1 &&& 31)))), some (.long p1.1), none]) dX5_settle_169 (by decide) rfl ?_
                refine aw_iinc (v := (a64.2.2.2.1 + (1 : Int32))) (L' := [some (.ref (g + 2)), some (.int y1_59), some (.int y2_59), some (.int y3_59), some (.int (a64.1 + (rA p1.2 (g + 3) ((y1_59 ||| ((1 : Int32) <<< (a64.2.2.2.1 &&& 31)))).toNatClampNeg))), some (.long p2.1), none, some (.long p3.1), none, some (.int (a64.2.2.2.1 + (1 : Int32))), some (.int (y1_59 ||| ((1 : Int32) <<< (a64.2.2.2.1 &&& 31)))), some (.long p1.1), none]) dX5_settle_171 rfl rfl (by decide) rfl ?_
                refine aw_goto (tgt := 64) dX5_settle_174 (by decide) ?_
                refine aw_less (L' := [some (.ref (g + 2)), some (.int y1_59), some (.int y2_59), some (.int y3_59), some (.int (a64.1 + (rA p1.2 (g + 3) ((y1_59 ||| ((1 : Int32) <<< (a64.2.2.2.1 &&& 31)))).toNatClampNeg))), some (.long p2.1), none, some (.long p3.1), none, some (.int (a64.2.2.2.1 + (1 : Int32))), none, none, none]) (And.intro rfl (And.intro rfl (And.intro rfl (And.intro rfl (And.intro rfl (And.intro rfl (And.intro rfl (And.intro rfl trivial)))))))) ?_
                cases hf
                exact hK
    · refine aw_aload_n dX5_settle_177 rfl rfl ?_
      refine aw_gR dX5_settle_178 fl_X5_9 hr.2.1 rfl ?_
      refine aw_iload_n dX5_settle_181 rfl rfl ?_
      refine aw_iload dX5_settle_182 rfl ?_
      obtain ⟨hc10, hf⟩ := ax_ite hf
      refine aw_sA dX5_settle_184 hr.2.2.1 hc10 ?_
      refine aw_aload_n dX5_settle_185 rfl rfl ?_
      refine aw_gR dX5_settle_186 fl_X5_15 hr.2.1 rfl ?_
      refine aw_iload_n dX5_settle_189 rfl rfl ?_
      refine aw_lload dX5_settle_190 rfl ?_
      obtain ⟨hc11, hf⟩ := ax_ite hf
      refine aw_sB dX5_settle_192 hr.2.2.2.1 hc11 ?_
      refine aw_aload_n dX5_settle_193 rfl rfl ?_
      refine aw_gR dX5_settle_194 fl_X5_19 hr.2.1 rfl ?_
      refine aw_iload_n dX5_settle_197 rfl rfl ?_
      refine aw_lload dX5_settle_198 rfl ?_
      obtain ⟨hc12, hf⟩ := ax_ite hf
      refine aw_sB dX5_settle_200 hr.2.2.2.2 hc12 ?_
      cases hf
      exact aw_vret dX5_settle_201 hq (Nat.le_refl _) (Nat.le_refl _)
  have J46 : ∀ (y1_46 : Int32) (y2_46 : Int32) (y3_46 : Int32) (y4_46 : Int32) (t0_46 : Int64) (s_46 : sx_M), f_X5_settle_J46 g y1_46 y2_46 y3_46 y4_46 t0_46 s_46 = some p → AW l X RX5 "settle" cX5_settle 13 none (ax_rm 1 0 0) (ax_MQ X Q 0 0) 0 0 46 [some (.ref (g + 2)), some (.int y1_46), some (.int y2_46), some (.int y3_46), some (.int y4_46), none, none, none, none, none, none, none, none] [.long t0_46] (hp s_46 gb) := by
    intro y1_46 y2_46 y3_46 y4_46 t0_46 s_46 hf
    unfold f_X5_settle_J46 at hf
    refine aw_lstore (L' := [some (.ref (g + 2)), some (.int y1_46), some (.int y2_46), some (.int y3_46), some (.int y4_46), some (.long t0_46), none, none, none, none, none, none, none]) dX5_settle_46 (by decide) rfl ?_
    refine aw_iload_n dX5_settle_48 rfl rfl ?_
    refine aw_if_eq (tgt := 56) dX5_settle_49 (by decide) (fun hc13 => ?_) (fun hc13 => ?_)
    · have hf := ax_pos hc13 hf
      refine aw_ldc2 dX5_settle_56 kc_X5_47 ?_
      exact J59 y1_46 y2_46 y3_46 y4_46 t0_46 (-9223372036854775808 : Int64) s_46 hf
    · have hf := ax_neg hc13 hf
      refine aw_lconst (v := 0) dX5_settle_52 (by decide) ?_
      refine aw_goto (tgt := 59) dX5_settle_53 (by decide) ?_
      exact J59 y1_46 y2_46 y3_46 y4_46 t0_46 (0 : Int64) s_46 hf
  have J33 : ∀ (y1_33 : Int32) (y2_33 : Int32) (y3_33 : Int32) (t0_33 : Int32) (s_33 : sx_M), f_X5_settle_J33 g y1_33 y2_33 y3_33 t0_33 s_33 = some p → AW l X RX5 "settle" cX5_settle 13 none (ax_rm 1 0 0) (ax_MQ X Q 0 0) 0 0 33 [some (.ref (g + 2)), some (.int y1_33), some (.int y2_33), some (.int y3_33), none, none, none, none, none, none, none, none, none] [.int t0_33] (hp s_33 gb) := by
    intro y1_33 y2_33 y3_33 t0_33 s_33 hf
    unfold f_X5_settle_J33 at hf
    refine aw_istore (L' := [some (.ref (g + 2)), some (.int y1_33), some (.int y2_33), some (.int y3_33), some (.int t0_33), none, none, none, none, none, none, none, none]) dX5_settle_33 (by decide) rfl ?_
    refine aw_iload_n dX5_settle_35 rfl rfl ?_
    refine aw_if_eq (tgt := 43) dX5_settle_36 (by decide) (fun hc14 => ?_) (fun hc14 => ?_)
    · have hf := ax_pos hc14 hf
      refine aw_ldc2 dX5_settle_43 kc_X5_45 ?_
      exact J46 y1_33 y2_33 y3_33 t0_33 (9223372036854775807 : Int64) s_33 hf
    · have hf := ax_neg hc14 hf
      refine aw_lconst (v := 0) dX5_settle_39 (by decide) ?_
      refine aw_goto (tgt := 46) dX5_settle_40 (by decide) ?_
      exact J46 y1_33 y2_33 y3_33 t0_33 (0 : Int64) s_33 hf
  have J16 : ∀ (y1_16 : Int32) (y2_16 : Int32) (t0_16 : Int32) (s_16 : sx_M), f_X5_settle_J16 g y1_16 y2_16 t0_16 s_16 = some p → AW l X RX5 "settle" cX5_settle 13 none (ax_rm 1 0 0) (ax_MQ X Q 0 0) 0 0 16 [some (.ref (g + 2)), some (.int y1_16), some (.int y2_16), none, none, none, none, none, none, none, none, none, none] [.int t0_16] (hp s_16 gb) := by
    intro y1_16 y2_16 t0_16 s_16 hf
    unfold f_X5_settle_J16 at hf
    refine aw_istore_n (L' := [some (.ref (g + 2)), some (.int y1_16), some (.int y2_16), some (.int t0_16), none, none, none, none, none, none, none, none, none]) dX5_settle_16 rfl (by decide) rfl ?_
    refine aw_iload_n dX5_settle_17 rfl rfl ?_
    refine aw_aload_n dX5_settle_18 rfl rfl ?_
    refine aw_gR dX5_settle_19 fl_X5_22 hr.2.1 rfl ?_
    refine aw_gI dX5_settle_22 fl_X5_42 hr.1.1 rfl ?_
    refine aw_icmp_ne (tgt := 32) dX5_settle_25 (by decide) (fun hc15 => ?_) (fun hc15 => ?_)
    · have hf := ax_neg hc15 hf
      refine aw_iconst (v := 0) dX5_settle_32 (by decide) ?_
      exact J33 y1_16 y2_16 t0_16 (0 : Int32) s_16 hf
    · have hf := ax_pos hc15 hf
      refine aw_iconst (v := 1) dX5_settle_28 (by decide) ?_
      refine aw_goto (tgt := 33) dX5_settle_29 (by decide) ?_
      exact J33 y1_16 y2_16 t0_16 (1 : Int32) s_16 hf
  refine aw_iload_n dX5_settle_0 rfl rfl ?_
  refine aw_aload_n dX5_settle_1 rfl rfl ?_
  refine aw_gR dX5_settle_2 fl_X5_22 hr.2.1 rfl ?_
  refine aw_gI dX5_settle_5 fl_X5_42 hr.1.1 rfl ?_
  refine aw_icmp_lt (tgt := 15) dX5_settle_8 (by decide) (fun hc16 => ?_) (fun hc16 => ?_)
  · have hf := ax_pos hc16 hf
    refine aw_iconst (v := 0) dX5_settle_15 (by decide) ?_
    exact J16 x1 x2 (0 : Int32) s hf
  · have hf := ax_neg hc16 hf
    refine aw_iconst (v := 1) dX5_settle_11 (by decide) ?_
    refine aw_goto (tgt := 16) dX5_settle_12 (by decide) ?_
    exact J16 x1 x2 (1 : Int32) s hf
noncomputable def f_X5_refresh_L12 (g : Nat) (a12 : Int32 × sx_M) : Option ((Int32 × sx_M) ⊕ (sx_M)) :=
  (if a12.1 < 0 then
 some (.inr a12.2)
else
 (f_J6_bitCount_0f7a4 a12.1 a12.2).bind (fun p1 =>
 (f_X5_settle g a12.1 p1.1 p1.2).bind (fun p2 =>
 some (.inl ((a12.1 + (-1 : Int32)), p2)))))
noncomputable def f_X5_refresh (g : Nat) (s : sx_M) : Option sx_M :=
  (whT (f_X5_refresh_L12 g) ((((1 : Int32) <<< ((rI s g 2) &&& 31)) - (1 : Int32)), s)).bind (fun b3 =>
 some b3)
set_option maxRecDepth 100000 in
set_option maxHeartbeats 4000000 in
theorem k_X5_refresh {l : Launch} {X : ax_X} {Q : Option Value → ax_H → Prop} (g : Nat) (s : sx_M) (gb : ax_H) (hr : ax_RK g) {p : sx_M} (hf : f_X5_refresh g s = some p) (hq : Q (none) (hp p gb)) : AM l X yX5_refresh cX5_refresh 2 none 2 0 0 [.ref (g + 2)] (hp s gb) Q := by
  refine aw_met (own := RX5) (nm := "refresh") (L := [some (.ref (g + 2)), none]) (by decide +kernel) rfl rfl (And.intro rfl trivial) (Nat.le_of_ble_eq_true rfl) ?_
  unfold f_X5_refresh at hf
  refine aw_iconst (v := 1) dX5_refresh_0 (by decide) ?_
  refine aw_aload_n dX5_refresh_1 rfl rfl ?_
  refine aw_gR dX5_refresh_2 fl_X5_22 hr.2.1 rfl ?_
  refine aw_gI dX5_refresh_5 fl_X5_26 hr.1.1 rfl ?_
  refine aw_ishl dX5_refresh_8 ?_
  refine aw_iconst (v := 1) dX5_refresh_9 (by decide) ?_
  refine aw_isub dX5_refresh_10 ?_
  refine aw_istore_n (L' := [some (.ref (g + 2)), some (.int (((1 : Int32) <<< ((rI s g 2) &&& 31)) - (1 : Int32)))]) dX5_refresh_11 rfl (by decide) rfl ?_
  obtain ⟨b3, hb3, hf⟩ := ax_bind hf
  refine wh_go ((((1 : Int32) <<< ((rI s g 2) &&& 31)) - (1 : Int32)), s) (fun a12 : Int32 × sx_M => AW l X RX5 "refresh" cX5_refresh 2 none (ax_rm 2 0 0) (ax_MQ X Q 0 0) 0 0 12 [some (.ref (g + 2)), some (.int a12.1)] [] (hp a12.2 gb)) (fun e : sx_M => AW l X RX5 "refresh" cX5_refresh 2 none (ax_rm 2 0 0) (ax_MQ X Q 0 0) 0 0 31 [none, none] [] (hp e gb)) hb3 ?_ ?_
  · intro a12 r hf hK
    unfold f_X5_refresh_L12 at hf
    refine aw_iload_n dX5_refresh_12 rfl rfl ?_
    refine aw_if_lt (tgt := 31) dX5_refresh_13 (by decide) (fun hc1 => ?_) (fun hc1 => ?_)
    · have hf := ax_pos hc1 hf
      refine aw_less (L' := [none, none]) trivial ?_
      cases hf
      exact hK
    · have hf := ax_neg hc1 hf
      refine aw_aload_n dX5_refresh_16 rfl rfl ?_
      refine aw_iload_n dX5_refresh_17 rfl rfl ?_
      refine aw_iload_n dX5_refresh_18 rfl rfl ?_
      obtain ⟨p1, hp1, hf⟩ := ax_bind hf
      refine aw_cSi (As := [.int a12.1]) (st := [.int a12.1, .ref (g + 2)]) dX5_refresh_19 cl_X5_32 st_J6_bitCount_0f7a4 (k_J6_bitCount_0f7a4 (Q := (fun v h' => v = some (.int p1.1) ∧ h' = hp p1.2 gb)) a12.1 a12.2 gb hp1 ⟨rfl, rfl⟩) rfl rfl (Nat.le_of_ble_eq_true rfl) rfl (by decide) (by decide) ?_
      obtain ⟨p2, hp2, hf⟩ := ax_bind hf
      refine aw_cVv (As := [.int a12.1, .int p1.1]) (st := []) dX5_refresh_22 cl_X5_38 iv_X5_settle (k_X5_settle (Q := (fun v h' => v = none ∧ h' = hp p2 gb)) g a12.1 p1.1 p1.2 gb hr hp2 ⟨rfl, rfl⟩) (ci := 5) rfl (hp_get hr.2.1) rfl rfl rfl (Nat.le_of_ble_eq_true rfl) rfl (by decide) (by decide) ?_
      refine aw_iinc (v := (a12.1 + (-1 : Int32))) (L' := [some (.ref (g + 2)), some (.int (a12.1 + (-1 : Int32)))]) dX5_refresh_25 rfl rfl (by decide) rfl ?_
      refine aw_goto (tgt := 12) dX5_refresh_28 (by decide) ?_
      cases hf
      exact hK
  · cases hf
    exact aw_vret dX5_refresh_31 hq (Nat.le_refl _) (Nat.le_refl _)
noncomputable def f_X5_alike (g : Nat) (x1 : Int64) (s : sx_M) : Option (Int32 × sx_M) :=
  (f_X5_between g (0 : Int32) (0 : Int32) x1 x1 s).bind (fun p1 =>
 some (p1.1, p1.2))
set_option maxRecDepth 100000 in
set_option maxHeartbeats 4000000 in
theorem k_X5_alike {l : Launch} {X : ax_X} {Q : Option Value → ax_H → Prop} (g : Nat) (x1 : Int64) (s : sx_M) (gb : ax_H) (hr : ax_RK g) {p : Int32 × sx_M} (hf : f_X5_alike g x1 s = some p) (hq : Q (some (.int p.1)) (hp p.2 gb)) : AM l X yX5_alike cX5_alike 3 (some .int) 11 0 0 [.ref (g + 2), .long x1] (hp s gb) Q := by
  refine aw_met (own := RX5) (nm := "alike") (L := [some (.ref (g + 2)), some (.long x1), none]) (by decide +kernel) rfl rfl (And.intro rfl (And.intro rfl trivial)) (Nat.le_of_ble_eq_true rfl) ?_
  unfold f_X5_alike at hf
  refine aw_aload_n dX5_alike_0 rfl rfl ?_
  refine aw_iconst (v := 0) dX5_alike_1 (by decide) ?_
  refine aw_iconst (v := 0) dX5_alike_2 (by decide) ?_
  refine aw_lload_n dX5_alike_3 rfl rfl ?_
  refine aw_lload_n dX5_alike_4 rfl rfl ?_
  obtain ⟨p1, hp1, hf⟩ := ax_bind hf
  refine aw_cVi (As := [.int (0 : Int32), .int (0 : Int32), .long x1, .long x1]) (st := []) dX5_alike_5 cl_X5_64 iv_X5_between (k_X5_between (Q := (fun v h' => v = some (.int p1.1) ∧ h' = hp p1.2 gb)) g (0 : Int32) (0 : Int32) x1 x1 s gb hr hp1 ⟨rfl, rfl⟩) (ci := 5) rfl (hp_get hr.2.1) rfl rfl rfl (Nat.le_of_ble_eq_true rfl) rfl (by decide) (by decide) ?_
  cases hf
  exact aw_iret dX5_alike_8 hq (Nat.le_refl _) (Nat.le_refl _)
noncomputable def f_X5_before_L46 (g : Nat) (ra : Nat) (z2 : Int64) (z5 : Int32) (z6 : Int32) (a46 : Int32 × Int32 × sx_M) : Option ((Int32 × Int32 × sx_M) ⊕ (Int32 × sx_M)) :=
  (if ¬ (z6 < 0 ∨ 7 ≤ (z6).toNatClampNeg) then
 (if (rA a46.2.2 ra (z6).toNatClampNeg) ≤ a46.2.1 then
 some (.inr (a46.1, a46.2.2))
else
 (f_X1_at g z6 a46.2.1 a46.2.2).bind (fun p3 =>
 (if p3.1 = (9223372036854775807 : Int64) then
 some (.inl (a46.1, (a46.2.1 + (1 : Int32)), p3.2))
else
 (if ((z5 >>> (a46.2.1 &&& 31)) &&& (1 : Int32)) = 0 then
 (f_X5_between g (z5 ||| ((1 : Int32) <<< (a46.2.1 &&& 31))) (z6 + (1 : Int32)) (z2 - p3.1) (z2 - p3.1) p3.2).bind (fun p4 =>
 some (.inl ((a46.1 + p4.1), (a46.2.1 + (1 : Int32)), p4.2)))
else
 some (.inl (a46.1, (a46.2.1 + (1 : Int32)), p3.2))))))
else none)
noncomputable def f_X5_before_L24 (g : Nat) (ra : Nat) (a24 : Int64 × Int32 × Int32 × Int32 × sx_M) : Option ((Int64 × Int32 × Int32 × Int32 × sx_M) ⊕ (Int32 × sx_M)) :=
  (if (rI a24.2.2.2.2 g 1) ≤ a24.2.2.2.1 then
 some (.inr (a24.2.1, a24.2.2.2.2))
else
 (if (7 : Int32) ≤ a24.2.2.2.1 then
 some (.inr (a24.2.1, a24.2.2.2.2))
else
 (whT (f_X5_before_L46 g ra a24.1 a24.2.2.1 a24.2.2.2.1) (a24.2.1, (0 : Int32), a24.2.2.2.2)).bind (fun b5 =>
 (if ¬ (a24.2.2.2.1 < 0 ∨ 7 ≤ (a24.2.2.2.1).toNatClampNeg) then
 (if ¬ (a24.2.2.2.1 < 0 ∨ 7 ≤ (a24.2.2.2.1).toNatClampNeg) then
 (f_X1_at g a24.2.2.2.1 (rA b5.2 ra (a24.2.2.2.1).toNatClampNeg) b5.2).bind (fun p6 =>
 some (.inl ((a24.1 - p6.1), b5.1, (a24.2.2.1 ||| ((1 : Int32) <<< ((rA b5.2 ra (a24.2.2.2.1).toNatClampNeg) &&& 31))), (a24.2.2.2.1 + (1 : Int32)), p6.2)))
else none)
else none))))
noncomputable def f_X5_before (g : Nat) (ra : Nat) (s : sx_M) : Option (Int32 × sx_M) :=
  (f_X1_sumOf g ra s).bind (fun p1 =>
 (f_X5_upTo g (p1.1 - (1 : Int64)) p1.2).bind (fun p2 =>
 (whT (f_X5_before_L24 g ra) (p1.1, p2.1, (0 : Int32), (0 : Int32), p2.2)).bind (fun b7 =>
 some (b7.1, b7.2))))
set_option maxRecDepth 100000 in
set_option maxHeartbeats 4000000 in
theorem k_X5_before {l : Launch} {X : ax_X} {Q : Option Value → ax_H → Prop} (g : Nat) (ra : Nat) (s : sx_M) (gb : ax_H) (hr : ax_RK g) (hra : sx_sh[ra]? = some (.inl (.int, 7))) {p : Int32 × sx_M} (hf : f_X5_before g ra s = some p) (hq : Q (some (.int p.1)) (hp p.2 gb)) : AM l X yX5_before cX5_before 10 (some .int) 12 0 0 [.ref (g + 2), .ref ra] (hp s gb) Q := by
  refine aw_met (own := RX5) (nm := "before") (L := [some (.ref (g + 2)), some (.ref ra), none, none, none, none, none, none, none, none]) (by decide +kernel) rfl rfl (And.intro rfl (And.intro rfl trivial)) (Nat.le_of_ble_eq_true rfl) ?_
  unfold f_X5_before at hf
  refine aw_aload_n dX5_before_0 rfl rfl ?_
  refine aw_gR dX5_before_1 fl_X5_22 hr.2.1 rfl ?_
  refine aw_aload_n dX5_before_4 rfl rfl ?_
  obtain ⟨p1, hp1, hf⟩ := ax_bind hf
  refine aw_cVl (As := [.ref ra]) (st := []) dX5_before_5 cl_X5_72 iv_X1_sumOf (k_X1_sumOf (Q := (fun v h' => v = some (.long p1.1) ∧ h' = hp p1.2 gb)) g ra s gb hr.1 hra hp1 ⟨rfl, rfl⟩) (ci := 1) rfl (hp_get hr.1.1) rfl rfl rfl (Nat.le_of_ble_eq_true rfl) rfl (by decide) (by decide) ?_
  refine aw_lstore_n (L' := [some (.ref (g + 2)), some (.ref ra), some (.long p1.1), none, none, none, none, none, none, none]) dX5_before_8 rfl (by decide) rfl ?_
  refine aw_aload_n dX5_before_9 rfl rfl ?_
  refine aw_lload_n dX5_before_10 rfl rfl ?_
  refine aw_lconst (v := 1) dX5_before_11 (by decide) ?_
  refine aw_lsub dX5_before_12 ?_
  obtain ⟨p2, hp2, hf⟩ := ax_bind hf
  refine aw_cVi (As := [.long (p1.1 - (1 : Int64))]) (st := []) dX5_before_13 cl_X5_76 iv_X5_upTo (k_X5_upTo (Q := (fun v h' => v = some (.int p2.1) ∧ h' = hp p2.2 gb)) g (p1.1 - (1 : Int64)) p1.2 gb hr hp2 ⟨rfl, rfl⟩) (ci := 5) rfl (hp_get hr.2.1) rfl rfl rfl (Nat.le_of_ble_eq_true rfl) rfl (by decide) (by decide) ?_
  refine aw_istore (L' := [some (.ref (g + 2)), some (.ref ra), some (.long p1.1), none, some (.int p2.1), none, none, none, none, none]) dX5_before_16 (by decide) rfl ?_
  refine aw_iconst (v := 0) dX5_before_18 (by decide) ?_
  refine aw_istore (L' := [some (.ref (g + 2)), some (.ref ra), some (.long p1.1), none, some (.int p2.1), some (.int (0 : Int32)), none, none, none, none]) dX5_before_19 (by decide) rfl ?_
  refine aw_iconst (v := 0) dX5_before_21 (by decide) ?_
  refine aw_istore (L' := [some (.ref (g + 2)), some (.ref ra), some (.long p1.1), none, some (.int p2.1), some (.int (0 : Int32)), some (.int (0 : Int32)), none, none, none]) dX5_before_22 (by decide) rfl ?_
  obtain ⟨b7, hb7, hf⟩ := ax_bind hf
  refine wh_go (p1.1, p2.1, (0 : Int32), (0 : Int32), p2.2) (fun a24 : Int64 × Int32 × Int32 × Int32 × sx_M => AW l X RX5 "before" cX5_before 10 (some .int) (ax_rm 12 0 0) (ax_MQ X Q 0 0) 0 0 24 [some (.ref (g + 2)), some (.ref ra), some (.long a24.1), none, some (.int a24.2.1), some (.int a24.2.2.1), some (.int a24.2.2.2.1), none, none, none] [] (hp a24.2.2.2.2 gb)) (fun e : Int32 × sx_M => AW l X RX5 "before" cX5_before 10 (some .int) (ax_rm 12 0 0) (ax_MQ X Q 0 0) 0 0 154 [none, none, none, none, some (.int e.1), none, none, none, none, none] [] (hp e.2 gb)) hb7 ?_ ?_
  · intro a24 r hf hK
    unfold f_X5_before_L24 at hf
    refine aw_iload dX5_before_24 rfl ?_
    refine aw_aload_n dX5_before_26 rfl rfl ?_
    refine aw_gR dX5_before_27 fl_X5_22 hr.2.1 rfl ?_
    refine aw_gI dX5_before_30 fl_X5_42 hr.1.1 rfl ?_
    refine aw_icmp_ge (tgt := 154) dX5_before_33 (by decide) (fun hc8 => ?_) (fun hc8 => ?_)
    · have hf := ax_pos hc8 hf
      refine aw_less (L' := [none, none, none, none, some (.int a24.2.1), none, none, none, none, none]) (And.intro rfl trivial) ?_
      cases hf
      exact hK
    · have hf := ax_neg hc8 hf
      refine aw_iload dX5_before_36 rfl ?_
      refine aw_aload_n dX5_before_38 rfl rfl ?_
      refine aw_al dX5_before_39 hra (by decide) rfl ?_
      refine aw_icmp_ge (tgt := 154) dX5_before_40 (by decide) (fun hc7 => ?_) (fun hc7 => ?_)
      · have hf := ax_pos hc7 hf
        refine aw_less (L' := [none, none, none, none, some (.int a24.2.1), none, none, none, none, none]) (And.intro rfl trivial) ?_
        cases hf
        exact hK
      · have hf := ax_neg hc7 hf
        refine aw_iconst (v := 0) dX5_before_43 (by decide) ?_
        refine aw_istore (L' := [some (.ref (g + 2)), some (.ref ra), some (.long a24.1), none, some (.int a24.2.1), some (.int a24.2.2.1), some (.int a24.2.2.2.1), some (.int (0 : Int32)), none, none]) dX5_before_44 (by decide) rfl ?_
        obtain ⟨b5, hb5, hf⟩ := ax_bind hf
        refine wh_go (a24.2.1, (0 : Int32), a24.2.2.2.2) (fun a46 : Int32 × Int32 × sx_M => AW l X RX5 "before" cX5_before 10 (some .int) (ax_rm 12 0 0) (ax_MQ X Q 0 0) 0 0 46 [some (.ref (g + 2)), some (.ref ra), some (.long a24.1), none, some (.int a46.1), some (.int a24.2.2.1), some (.int a24.2.2.2.1), some (.int a46.2.1), none, none] [] (hp a46.2.2 gb)) (fun e : Int32 × sx_M => AW l X RX5 "before" cX5_before 10 (some .int) (ax_rm 12 0 0) (ax_MQ X Q 0 0) 0 0 121 [some (.ref (g + 2)), some (.ref ra), some (.long a24.1), none, some (.int e.1), some (.int a24.2.2.1), some (.int a24.2.2.2.1), none, none, none] [] (hp e.2 gb)) hb5 ?_ ?_
        · intro a46 r hf hK
          unfold f_X5_before_L46 at hf
          refine aw_iload dX5_before_46 rfl ?_
          refine aw_aload_n dX5_before_48 rfl rfl ?_
          refine aw_iload dX5_before_49 rfl ?_
          obtain ⟨hc1, hf⟩ := ax_ite hf
          refine aw_lA dX5_before_51 hra hc1 ?_
          refine aw_icmp_ge (tgt := 121) dX5_before_52 (by decide) (fun hc4 => ?_) (fun hc4 => ?_)
          · have hf := ax_pos hc4 hf
            refine aw_less (L' := [some (.ref (g + 2)), some (.ref ra), some (.long a24.1), none, some (.int a46.1), some (.int a24.2.2.1), some (.int a24.2.2.2.1), none, none, none]) (And.intro rfl (And.intro rfl (And.intro rfl (And.intro rfl (And.intro rfl (And.intro rfl trivial)))))) ?_
            cases hf
            exact hK
          · have hf := ax_neg hc4 hf
            refine aw_aload_n dX5_before_55 rfl rfl ?_
            refine aw_gR dX5_before_56 fl_X5_22 hr.2.1 rfl ?_
            refine aw_iload dX5_before_59 rfl ?_
            refine aw_iload dX5_before_61 rfl ?_
            obtain ⟨p3, hp3, hf⟩ := ax_bind hf
            refine aw_cVl (As := [.int a24.2.2.2.1, .int a46.2.1]) (st := []) dX5_before_63 cl_X5_49 iv_X1_at (k_X1_at (Q := (fun v h' => v = some (.long p3.1) ∧ h' = hp p3.2 gb)) g a24.2.2.2.1 a46.2.1 a46.2.2 gb hr.1 hp3 ⟨rfl, rfl⟩) (ci := 1) rfl (hp_get hr.1.1) rfl rfl rfl (Nat.le_of_ble_eq_true rfl) rfl (by decide) (by decide) ?_
            refine aw_lstore (L' := [some (.ref (g + 2)), some (.ref ra), some (.long a24.1), none, some (.int a46.1), some (.int a24.2.2.1), some (.int a24.2.2.2.1), some (.int a46.2.1), some (.long p3.1), none]) dX5_before_66 (by decide) rfl ?_
            refine aw_lload dX5_before_68 rfl ?_
            refine aw_ldc2 dX5_before_70 kc_X5_45 ?_
            refine aw_lcmp_eq (tgt := 115) dX5_before_73 dX5_before_74 (by decide) (fun hc3 => ?_) (fun hc3 => ?_)
            · have hf := ax_pos hc3 hf
              refine aw_iinc (v := (a46.2.1 + (1 : Int32))) (L' := [some (.ref (g + 2)), some (.ref ra), some (.long a24.1), none, some (.int a46.1), some (.int a24.2.2.1), some (.int a24.2.2.2.1), some (.int (a46.2.1 + (1 : Int32))), some (.long p3.1), none]) dX5_before_115 rfl rfl (by decide) rfl ?_
              refine aw_goto (tgt := 46) dX5_before_118 (by decide) ?_
              refine aw_less (L' := [some (.ref (g + 2)), some (.ref ra), some (.long a24.1), none, some (.int a46.1), some (.int a24.2.2.1), some (.int a24.2.2.2.1), some (.int (a46.2.1 + (1 : Int32))), none, none]) (And.intro rfl (And.intro rfl (And.intro rfl (And.intro rfl (And.intro rfl (And.intro rfl (And.intro rfl trivial))))))) ?_
              cases hf
              exact hK
            · have hf := ax_neg hc3 hf
              refine aw_iload dX5_before_77 rfl ?_
              refine aw_iload dX5_before_79 rfl ?_
              refine aw_ishr dX5_before_81 ?_
              refine aw_iconst (v := 1) dX5_before_82 (by decide) ?_
              refine aw_iand dX5_before_83 ?_
              refine aw_if_ne (tgt := 115) dX5_before_84 (by decide) (fun hc2 => ?_) (fun hc2 => ?_)
              · have hf := ax_neg hc2 hf
                refine aw_iinc (v := (a46.2.1 + (1 : Int32))) (L' := [some (.ref (g + 2)), some (.ref ra), some (.long a24.1), none, some (.int a46.1), some (.int a24.2.2.1), some (.int a24.2.2.2.1), some (.int (a46.2.1 + (1 : Int32))), some (.long p3.1), none]) dX5_before_115 rfl rfl (by decide) rfl ?_
                refine aw_goto (tgt := 46) dX5_before_118 (by decide) ?_
                refine aw_less (L' := [some (.ref (g + 2)), some (.ref ra), some (.long a24.1), none, some (.int a46.1), some (.int a24.2.2.1), some (.int a24.2.2.2.1), some (.int (a46.2.1 + (1 : Int32))), none, none]) (And.intro rfl (And.intro rfl (And.intro rfl (And.intro rfl (And.intro rfl (And.intro rfl (And.intro rfl trivial))))))) ?_
                cases hf
                exact hK
              · have hf := ax_pos hc2 hf
                refine aw_iload dX5_before_87 rfl ?_
                refine aw_aload_n dX5_before_89 rfl rfl ?_
                refine aw_iload dX5_before_90 rfl ?_
                refine aw_iconst (v := 1) dX5_before_92 (by decide) ?_
                refine aw_iload dX5_before_93 rfl ?_
                refine aw_ishl dX5_before_95 ?_
                refine aw_ior dX5_before_96 ?_
                refine aw_iload dX5_before_97 rfl ?_
                refine aw_iconst (v := 1) dX5_before_99 (by decide) ?_
                refine aw_iadd dX5_before_100 ?_
                refine aw_lload_n dX5_before_101 rfl rfl ?_
                refine aw_lload dX5_before_102 rfl ?_
                refine aw_lsub dX5_before_104 ?_
                refine aw_lload_n dX5_before_105 rfl rfl ?_
                refine aw_lload dX5_before_106 rfl ?_
                refine aw_lsub dX5_before_108 ?_
                obtain ⟨p4, hp4, hf⟩ := ax_bind hf
                refine aw_cVi (As := [.int (a24.2.2.1 ||| ((1 : Int32) <<< (a46.2.1 &&& 31))), .int (a24.2.2.2.1 + (1 : Int32)), .long (a24.1 - p3.1), .long (a24.1 - p3.1)]) (st := [.int a46.1]) dX5_before_109 cl_X5_64 iv_X5_between (k_X5_between (Q := (fun v h' => v = some (.int p4.1) ∧ h' = hp p4.2 gb)) g (a24.2.2.1 ||| ((1 : Int32) <<< (a46.2.1 &&& 31))) (a24.2.2.2.1 + (1 : Int32)) (a24.1 - p3.1) (a24.1 - p3.1) p3.2 gb hr hp4 ⟨rfl, rfl⟩) (ci := 5) rfl (hp_get hr.2.1) rfl rfl rfl (Nat.le_of_ble_eq_true rfl) rfl (by decide) (by decide) ?_
                refine aw_iadd dX5_before_112 ?_
                refine aw_istore (L' := [some (.ref (g + 2)), some (.ref ra), some (.long a24.1), none, some (.int (a46.1 + p4.1)), some (.int a24.2.2.1), some (.int a24.2.2.2.1), some (.int a46.2.1), some (.long p3.1), none]) dX5_before_113 (by decide) rfl ?_
                refine aw_iinc (v := (a46.2.1 + (1 : Int32))) (L' := [some (.ref (g + 2)), some (.ref ra), some (.long a24.1), none, some (.int (a46.1 + p4.1)), some (.int a24.2.2.1), some (.int a24.2.2.2.1), some (.int (a46.2.1 + (1 : Int32))), some (.long p3.1), none]) dX5_before_115 rfl rfl (by decide) rfl ?_
                refine aw_goto (tgt := 46) dX5_before_118 (by decide) ?_
                refine aw_less (L' := [some (.ref (g + 2)), some (.ref ra), some (.long a24.1), none, some (.int (a46.1 + p4.1)), some (.int a24.2.2.1), some (.int a24.2.2.2.1), some (.int (a46.2.1 + (1 : Int32))), none, none]) (And.intro rfl (And.intro rfl (And.intro rfl (And.intro rfl (And.intro rfl (And.intro rfl (And.intro rfl trivial))))))) ?_
                cases hf
                exact hK
        · refine aw_iload dX5_before_121 rfl ?_
          refine aw_iconst (v := 1) dX5_before_123 (by decide) ?_
          refine aw_aload_n dX5_before_124 rfl rfl ?_
          refine aw_iload dX5_before_125 rfl ?_
          obtain ⟨hc5, hf⟩ := ax_ite hf
          refine aw_lA dX5_before_127 hra hc5 ?_
          refine aw_ishl dX5_before_128 ?_
          refine aw_ior dX5_before_129 ?_
          refine aw_istore (L' := [some (.ref (g + 2)), some (.ref ra), some (.long a24.1), none, some (.int b5.1), some (.int (a24.2.2.1 ||| ((1 : Int32) <<< ((rA b5.2 ra (a24.2.2.2.1).toNatClampNeg) &&& 31)))), some (.int a24.2.2.2.1), none, none, none]) dX5_before_130 (by decide) rfl ?_
          refine aw_lload_n dX5_before_132 rfl rfl ?_
          refine aw_aload_n dX5_before_133 rfl rfl ?_
          refine aw_gR dX5_before_134 fl_X5_22 hr.2.1 rfl ?_
          refine aw_iload dX5_before_137 rfl ?_
          refine aw_aload_n dX5_before_139 rfl rfl ?_
          refine aw_iload dX5_before_140 rfl ?_
          obtain ⟨hc6, hf⟩ := ax_ite hf
          refine aw_lA dX5_before_142 hra hc6 ?_
          obtain ⟨p6, hp6, hf⟩ := ax_bind hf
          refine aw_cVl (As := [.int a24.2.2.2.1, .int (rA b5.2 ra (a24.2.2.2.1).toNatClampNeg)]) (st := [.long a24.1]) dX5_before_143 cl_X5_49 iv_X1_at (k_X1_at (Q := (fun v h' => v = some (.long p6.1) ∧ h' = hp p6.2 gb)) g a24.2.2.2.1 (rA b5.2 ra (a24.2.2.2.1).toNatClampNeg) b5.2 gb hr.1 hp6 ⟨rfl, rfl⟩) (ci := 1) rfl (hp_get hr.1.1) rfl rfl rfl (Nat.le_of_ble_eq_true rfl) rfl (by decide) (by decide) ?_
          refine aw_lsub dX5_before_146 ?_
          refine aw_lstore_n (L' := [some (.ref (g + 2)), some (.ref ra), some (.long (a24.1 - p6.1)), none, some (.int b5.1), some (.int (a24.2.2.1 ||| ((1 : Int32) <<< ((rA b5.2 ra (a24.2.2.2.1).toNatClampNeg) &&& 31)))), some (.int a24.2.2.2.1), none, none, none]) dX5_before_147 rfl (by decide) rfl ?_
          refine aw_iinc (v := (a24.2.2.2.1 + (1 : Int32))) (L' := [some (.ref (g + 2)), some (.ref ra), some (.long (a24.1 - p6.1)), none, some (.int b5.1), some (.int (a24.2.2.1 ||| ((1 : Int32) <<< ((rA b5.2 ra (a24.2.2.2.1).toNatClampNeg) &&& 31)))), some (.int (a24.2.2.2.1 + (1 : Int32))), none, none, none]) dX5_before_148 rfl rfl (by decide) rfl ?_
          refine aw_goto (tgt := 24) dX5_before_151 (by decide) ?_
          cases hf
          exact hK
  · refine aw_iload dX5_before_154 rfl ?_
    cases hf
    exact aw_iret dX5_before_156 hq (Nat.le_refl _) (Nat.le_refl _)
