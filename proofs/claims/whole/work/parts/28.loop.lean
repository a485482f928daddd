def st_all (Rel : sx_M → Prop) : Prop := st_ok_0 Rel ∧ st_ok_1 Rel ∧ st_ok_2 Rel ∧ st_ok_3 Rel ∧ st_ok_4 Rel ∧ st_ok_5 Rel ∧ st_ok_6 Rel ∧ st_ok_7 Rel ∧ st_ok_8 Rel ∧ st_ok_9 Rel ∧ st_ok_10 Rel ∧ st_ok_11 Rel ∧ st_ok_12 Rel ∧ st_ok_13 Rel ∧ st_ok_14 Rel ∧ st_ok_15 Rel ∧ st_ok_16 Rel ∧ st_ok_17 Rel ∧ st_ok_18 Rel ∧ st_ok_19 Rel ∧ st_ok_20 Rel ∧ st_ok_21 Rel ∧ st_ok_22 Rel ∧ st_ok_23 Rel ∧ st_ok_24 Rel ∧ st_ok_25 Rel ∧ st_ok_26 Rel ∧ st_ok_27 Rel ∧ st_ok_28 Rel ∧ st_ok_29 Rel ∧ st_ok_30 Rel ∧ st_ok_31 Rel ∧ st_ok_32 Rel ∧ st_ok_33 Rel ∧ st_ok_34 Rel ∧ st_ok_35 Rel ∧ st_ok_36 Rel ∧ st_ok_37 Rel ∧ st_ok_38 Rel ∧ st_ok_39 Rel ∧ st_ok_40 Rel ∧ st_ok_41 Rel ∧ st_ok_42 Rel ∧ st_ok_43 Rel ∧ st_ok_44 Rel ∧ st_ok_45 Rel
set_option maxRecDepth 100000 in
set_option maxHeartbeats 1000000 in
theorem lq_loop {l : Launch} {X : ax_X} {nm : String} {Rel : sx_M → Prop} (hall : st_all Rel) (hX : X.2.2.2.2.1 ≤ 3072) : ∀ (n t : Nat) (s : sx_M) (gb : ax_H), 513 ≤ t + n → t ≤ 512 → Rel s → LW l X nm (100 + t) (90000 + 5 * t) 18 [some (.float 0), some (.ref 0), some (.ref 58), some (.int (nI (6 * t)))] [] (hp s gb) := by
  intro n
  induction n with
  | zero => intro t s gb h1 h2; omega
  | succ n ih =>
    intro t s gb h1 h2 hs
    refine aw_iload_n dL_law_18 rfl rfl ?_
    refine aw_aload_nX dL_law_19 rfl rfl ?_
    refine aw_scl dL_law_20 ?_
    refine aw_bipush (v := 6) dL_law_21 (by decide) ?_
    refine aw_isub dL_law_23 ?_
    refine aw_icmp_gt (tgt := 1675) dL_law_24 (by decide) (fun hc => ?_) (fun hc => ?_)
    · refine aw_iconst (v := 1) dL_law_1675 (by decide) ?_
      exact lq_end dL_law_1676 (by omega) (by omega)
    have ht : 6 * t + 6 ≤ X.2.2.2.2.1 := by
      have e6 : (6 : Int32) = nI 6 := by decide
      rw [e6, Int32.lt_iff_toInt_lt, pk_sub_toInt (by omega) (by omega), nI_toInt (by omega)] at hc
      omega
    have K : ∀ (s : sx_M) (gb : ax_H), Rel s → LW l X nm (100 + t + 1) (90000 + 5 * t + 5) 1669 [some (.float 0), some (.ref 0), some (.ref 58), some (.int (nI (6 * t)))] [] (hp s gb) := by
      intro s gb hs
      refine aw_iinc (v := nI (6 * (t + 1))) (L' := [some (.float 0), some (.ref 0), some (.ref 58), some (.int (nI (6 * (t + 1))))]) dL_law_1669 rfl (nI_add (6 * t) 6) (by decide) rfl ?_
      refine aw_goto (tgt := 18) dL_law_1672 (by decide) ?_
      exact aw_widen (k := 100 + (t + 1)) (n := 90000 + 5 * (t + 1)) (by omega) (by omega) (ih (t + 1) s gb (by omega) (by omega) hs)
    refine aw_aload_nX dL_law_27 rfl rfl ?_
    refine aw_iload_n dL_law_28 rfl rfl ?_
    refine aw_sc (6 * t) rfl (by omega) (by omega) dL_law_29 ?_
    refine aw_bipush (v := 63) dL_law_30 (by decide) ?_
    refine aw_iand dL_law_32 ?_
    obtain ⟨k, hk, ek⟩ := pk_andE (X.2.2.2.2.2 (6 * t)) (m := 63) 6 (by decide)
    refine aw_toi ek ?_
    rcases (show k = 0 ∨ k = 1 ∨ k = 2 ∨ k = 3 ∨ k = 4 ∨ k = 5 ∨ k = 6 ∨ k = 7 ∨ k = 8 ∨ k = 9 ∨ k = 10 ∨ k = 11 ∨ k = 12 ∨ k = 13 ∨ k = 14 ∨ k = 15 ∨ k = 16 ∨ k = 17 ∨ k = 18 ∨ k = 19 ∨ k = 20 ∨ k = 21 ∨ k = 22 ∨ k = 23 ∨ k = 24 ∨ k = 25 ∨ k = 26 ∨ k = 27 ∨ k = 28 ∨ k = 29 ∨ k = 30 ∨ k = 31 ∨ k = 32 ∨ k = 33 ∨ k = 34 ∨ k = 35 ∨ k = 36 ∨ k = 37 ∨ k = 38 ∨ k = 39 ∨ k = 40 ∨ k = 41 ∨ k = 42 ∨ k = 43 ∨ k = 44 ∨ k = 45 ∨ 46 ≤ k by omega) with rfl | rfl | rfl | rfl | rfl | rfl | rfl | rfl | rfl | rfl | rfl | rfl | rfl | rfl | rfl | rfl | rfl | rfl | rfl | rfl | rfl | rfl | rfl | rfl | rfl | rfl | rfl | rfl | rfl | rfl | rfl | rfl | rfl | rfl | rfl | rfl | rfl | rfl | rfl | rfl | rfl | rfl | rfl | rfl | rfl | rfl | hk46
    · exact aw_tableAt (tgt := 232) 0 dL_law_33 rfl (by decide) rfl (by decide) (lq_0 hall.1 hX t ht s gb hs K)
    · exact aw_tableAt (tgt := 295) 1 dL_law_33 rfl (by decide) rfl (by decide) (lq_1 hall.2.1 hX t ht s gb hs K)
    · exact aw_tableAt (tgt := 318) 2 dL_law_33 rfl (by decide) rfl (by decide) (lq_2 hall.2.2.1 hX t ht s gb hs K)
    · exact aw_tableAt (tgt := 331) 3 dL_law_33 rfl (by decide) rfl (by decide) (lq_3 hall.2.2.2.1 hX t ht s gb hs K)
    · exact aw_tableAt (tgt := 354) 4 dL_law_33 rfl (by decide) rfl (by decide) (lq_4 hall.2.2.2.2.1 hX t ht s gb hs K)
    · exact aw_tableAt (tgt := 377) 5 dL_law_33 rfl (by decide) rfl (by decide) (lq_5 hall.2.2.2.2.2.1 hX t ht s gb hs K)
    · exact aw_tableAt (tgt := 411) 6 dL_law_33 rfl (by decide) rfl (by decide) (lq_6 hall.2.2.2.2.2.2.1 hX t ht s gb hs K)
    · exact aw_tableAt (tgt := 435) 7 dL_law_33 rfl (by decide) rfl (by decide) (lq_7 hall.2.2.2.2.2.2.2.1 hX t ht s gb hs K)
    · exact aw_tableAt (tgt := 468) 8 dL_law_33 rfl (by decide) rfl (by decide) (lq_8 hall.2.2.2.2.2.2.2.2.1 hX t ht s gb hs K)
    · exact aw_tableAt (tgt := 491) 9 dL_law_33 rfl (by decide) rfl (by decide) (lq_9 hall.2.2.2.2.2.2.2.2.2.1 hX t ht s gb hs K)
    · exact aw_tableAt (tgt := 544) 10 dL_law_33 rfl (by decide) rfl (by decide) (lq_10 hall.2.2.2.2.2.2.2.2.2.2.1 hX t ht s gb hs K)
    · exact aw_tableAt (tgt := 567) 11 dL_law_33 rfl (by decide) rfl (by decide) (lq_11 hall.2.2.2.2.2.2.2.2.2.2.2.1 hX t ht s gb hs K)
    · exact aw_tableAt (tgt := 601) 12 dL_law_33 rfl (by decide) rfl (by decide) (lq_12 hall.2.2.2.2.2.2.2.2.2.2.2.2.1 hX t ht s gb hs K)
    · exact aw_tableAt (tgt := 635) 13 dL_law_33 rfl (by decide) rfl (by decide) (lq_13 hall.2.2.2.2.2.2.2.2.2.2.2.2.2.1 hX t ht s gb hs K)
    · exact aw_tableAt (tgt := 679) 14 dL_law_33 rfl (by decide) rfl (by decide) (lq_14 hall.2.2.2.2.2.2.2.2.2.2.2.2.2.2.1 hX t ht s gb hs K)
    · exact aw_tableAt (tgt := 723) 15 dL_law_33 rfl (by decide) rfl (by decide) (lq_15 hall.2.2.2.2.2.2.2.2.2.2.2.2.2.2.2.1 hX t ht s gb hs K)
    · exact aw_tableAt (tgt := 746) 16 dL_law_33 rfl (by decide) rfl (by decide) (lq_16 hall.2.2.2.2.2.2.2.2.2.2.2.2.2.2.2.2.1 hX t ht s gb hs K)
    · exact aw_tableAt (tgt := 770) 17 dL_law_33 rfl (by decide) rfl (by decide) (lq_17 hall.2.2.2.2.2.2.2.2.2.2.2.2.2.2.2.2.2.1 hX t ht s gb hs K)
    · exact aw_tableAt (tgt := 794) 18 dL_law_33 rfl (by decide) rfl (by decide) (lq_18 hall.2.2.2.2.2.2.2.2.2.2.2.2.2.2.2.2.2.2.1 hX t ht s gb hs K)
    · exact aw_tableAt (tgt := 838) 19 dL_law_33 rfl (by decide) rfl (by decide) (lq_19 hall.2.2.2.2.2.2.2.2.2.2.2.2.2.2.2.2.2.2.2.1 hX t ht s gb hs K)
    · exact aw_tableAt (tgt := 881) 20 dL_law_33 rfl (by decide) rfl (by decide) (lq_20 hall.2.2.2.2.2.2.2.2.2.2.2.2.2.2.2.2.2.2.2.2.1 hX t ht s gb hs K)
    · exact aw_tableAt (tgt := 905) 21 dL_law_33 rfl (by decide) rfl (by decide) (lq_21 hall.2.2.2.2.2.2.2.2.2.2.2.2.2.2.2.2.2.2.2.2.2.1 hX t ht s gb hs K)
    · exact aw_tableAt (tgt := 928) 22 dL_law_33 rfl (by decide) rfl (by decide) (lq_22 hall.2.2.2.2.2.2.2.2.2.2.2.2.2.2.2.2.2.2.2.2.2.2.1 hX t ht s gb hs K)
    · exact aw_tableAt (tgt := 952) 23 dL_law_33 rfl (by decide) rfl (by decide) (lq_23 hall.2.2.2.2.2.2.2.2.2.2.2.2.2.2.2.2.2.2.2.2.2.2.2.1 hX t ht s gb hs K)
    · exact aw_tableAt (tgt := 986) 24 dL_law_33 rfl (by decide) rfl (by decide) (lq_24 hall.2.2.2.2.2.2.2.2.2.2.2.2.2.2.2.2.2.2.2.2.2.2.2.2.1 hX t ht s gb hs K)
    · exact aw_tableAt (tgt := 1019) 25 dL_law_33 rfl (by decide) rfl (by decide) (lq_25 hall.2.2.2.2.2.2.2.2.2.2.2.2.2.2.2.2.2.2.2.2.2.2.2.2.2.1 hX t ht s gb hs K)
    · exact aw_tableAt (tgt := 1052) 26 dL_law_33 rfl (by decide) rfl (by decide) (lq_26 hall.2.2.2.2.2.2.2.2.2.2.2.2.2.2.2.2.2.2.2.2.2.2.2.2.2.2.1 hX t ht s gb hs K)
    · exact aw_tableAt (tgt := 1105) 27 dL_law_33 rfl (by decide) rfl (by decide) (lq_27 hall.2.2.2.2.2.2.2.2.2.2.2.2.2.2.2.2.2.2.2.2.2.2.2.2.2.2.2.1 hX t ht s gb hs K)
    · exact aw_tableAt (tgt := 1139) 28 dL_law_33 rfl (by decide) rfl (by decide) (lq_28 hall.2.2.2.2.2.2.2.2.2.2.2.2.2.2.2.2.2.2.2.2.2.2.2.2.2.2.2.2.1 hX t ht s gb hs K)
    · exact aw_tableAt (tgt := 1163) 29 dL_law_33 rfl (by decide) rfl (by decide) (lq_29 hall.2.2.2.2.2.2.2.2.2.2.2.2.2.2.2.2.2.2.2.2.2.2.2.2.2.2.2.2.2.1 hX t ht s gb hs K)
    · exact aw_tableAt (tgt := 1187) 30 dL_law_33 rfl (by decide) rfl (by decide) (lq_30 hall.2.2.2.2.2.2.2.2.2.2.2.2.2.2.2.2.2.2.2.2.2.2.2.2.2.2.2.2.2.2.1 hX t ht s gb hs K)
    · exact aw_tableAt (tgt := 1220) 31 dL_law_33 rfl (by decide) rfl (by decide) (lq_31 hall.2.2.2.2.2.2.2.2.2.2.2.2.2.2.2.2.2.2.2.2.2.2.2.2.2.2.2.2.2.2.2.1 hX t ht s gb hs K)
    · exact aw_tableAt (tgt := 1263) 32 dL_law_33 rfl (by decide) rfl (by decide) (lq_32 hall.2.2.2.2.2.2.2.2.2.2.2.2.2.2.2.2.2.2.2.2.2.2.2.2.2.2.2.2.2.2.2.2.1 hX t ht s gb hs K)
    · exact aw_tableAt (tgt := 1306) 33 dL_law_33 rfl (by decide) rfl (by decide) (lq_33 hall.2.2.2.2.2.2.2.2.2.2.2.2.2.2.2.2.2.2.2.2.2.2.2.2.2.2.2.2.2.2.2.2.2.1 hX t ht s gb hs K)
    · exact aw_tableAt (tgt := 1330) 34 dL_law_33 rfl (by decide) rfl (by decide) (lq_34 hall.2.2.2.2.2.2.2.2.2.2.2.2.2.2.2.2.2.2.2.2.2.2.2.2.2.2.2.2.2.2.2.2.2.2.1 hX t ht s gb hs K)
    · exact aw_tableAt (tgt := 1343) 35 dL_law_33 rfl (by decide) rfl (by decide) (lq_35 hall.2.2.2.2.2.2.2.2.2.2.2.2.2.2.2.2.2.2.2.2.2.2.2.2.2.2.2.2.2.2.2.2.2.2.2.1 hX t ht s gb hs K)
    · exact aw_tableAt (tgt := 1377) 36 dL_law_33 rfl (by decide) rfl (by decide) (lq_36 hall.2.2.2.2.2.2.2.2.2.2.2.2.2.2.2.2.2.2.2.2.2.2.2.2.2.2.2.2.2.2.2.2.2.2.2.2.1 hX t ht s gb hs K)
    · exact aw_tableAt (tgt := 1391) 37 dL_law_33 rfl (by decide) rfl (by decide) (lq_37 hall.2.2.2.2.2.2.2.2.2.2.2.2.2.2.2.2.2.2.2.2.2.2.2.2.2.2.2.2.2.2.2.2.2.2.2.2.2.1 hX t ht s gb hs K)
    · exact aw_tableAt (tgt := 1425) 38 dL_law_33 rfl (by decide) rfl (by decide) (lq_38 hall.2.2.2.2.2.2.2.2.2.2.2.2.2.2.2.2.2.2.2.2.2.2.2.2.2.2.2.2.2.2.2.2.2.2.2.2.2.2.1 hX t ht s gb hs K)
    · exact aw_tableAt (tgt := 1438) 39 dL_law_33 rfl (by decide) rfl (by decide) (lq_39 hall.2.2.2.2.2.2.2.2.2.2.2.2.2.2.2.2.2.2.2.2.2.2.2.2.2.2.2.2.2.2.2.2.2.2.2.2.2.2.2.1 hX t ht s gb hs K)
    · exact aw_tableAt (tgt := 1481) 40 dL_law_33 rfl (by decide) rfl (by decide) (lq_40 hall.2.2.2.2.2.2.2.2.2.2.2.2.2.2.2.2.2.2.2.2.2.2.2.2.2.2.2.2.2.2.2.2.2.2.2.2.2.2.2.2.1 hX t ht s gb hs K)
    · exact aw_tableAt (tgt := 1514) 41 dL_law_33 rfl (by decide) rfl (by decide) (lq_41 hall.2.2.2.2.2.2.2.2.2.2.2.2.2.2.2.2.2.2.2.2.2.2.2.2.2.2.2.2.2.2.2.2.2.2.2.2.2.2.2.2.2.1 hX t ht s gb hs K)
    · exact aw_tableAt (tgt := 1557) 42 dL_law_33 rfl (by decide) rfl (by decide) (lq_42 hall.2.2.2.2.2.2.2.2.2.2.2.2.2.2.2.2.2.2.2.2.2.2.2.2.2.2.2.2.2.2.2.2.2.2.2.2.2.2.2.2.2.2.1 hX t ht s gb hs K)
    · exact aw_tableAt (tgt := 1590) 43 dL_law_33 rfl (by decide) rfl (by decide) (lq_43 hall.2.2.2.2.2.2.2.2.2.2.2.2.2.2.2.2.2.2.2.2.2.2.2.2.2.2.2.2.2.2.2.2.2.2.2.2.2.2.2.2.2.2.2.1 hX t ht s gb hs K)
    · exact aw_tableAt (tgt := 1623) 44 dL_law_33 rfl (by decide) rfl (by decide) (lq_44 hall.2.2.2.2.2.2.2.2.2.2.2.2.2.2.2.2.2.2.2.2.2.2.2.2.2.2.2.2.2.2.2.2.2.2.2.2.2.2.2.2.2.2.2.2.1 hX t ht s gb hs K)
    · exact aw_tableAt (tgt := 1656) 45 dL_law_33 rfl (by decide) rfl (by decide) (lq_45 hall.2.2.2.2.2.2.2.2.2.2.2.2.2.2.2.2.2.2.2.2.2.2.2.2.2.2.2.2.2.2.2.2.2.2.2.2.2.2.2.2.2.2.2.2.2 hX t ht s gb hs K)
    · refine aw_tableOut (tgt := 1669) dL_law_33 (Or.inr ?_) (by decide) (aw_widen (k := 100 + t + 1) (n := 90000 + 5 * t + 5) (by omega) (by omega) (K s gb hs))
      rw [nI_toInt (by omega)]
      omega
