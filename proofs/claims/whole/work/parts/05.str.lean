theorem xl_compact : Cond.fieldLink RJ0 38 "java/lang/String" "COMPACT_STRINGS" "Z" ∈ ax_gw := ax_t3 (List.mem_of_getElem? (i := 14) rfl) rfl
theorem xl_fmt : Cond.fieldLink RJ0 1053 "jdk/internal/util/Preconditions" "SIOOBE_FORMATTER" "Ljava/util/function/BiFunction;" ∈ ax_gw := ax_t3 (List.mem_of_getElem? (i := 30) rfl) rfl
theorem xl_value : Cond.fieldLink RJ0 9 "java/lang/String" "value" "[B" ∈ ax_gw := ax_t8 (List.mem_of_getElem? (i := 2) rfl) rfl
theorem xl_coder : Cond.fieldLink RJ0 15 "java/lang/String" "coder" "B" ∈ ax_gw := ax_t8 (List.mem_of_getElem? (i := 3) rfl) rfl
abbrev sx_isS (x : UInt32) : Prop := x = 1 ∨ x = 2 ∨ x = 3
def sx_len_s (x : UInt32) : Int32 := if x = 1 then 4 else if x = 2 then 6 else 1
def sx_byt (x : UInt32) : List Int32 := if x = 1 then [106, 111, 98, 115] else if x = 2 then [119, 111, 114, 107, 101, 114] else [120]
def sx_chr (x : UInt32) (i : Int32) : Int32 := (sx_byt x).getD i.toNatClampNeg 0
/-- the number of a String's bytes -/
def sx_by (x : UInt32) : UInt32 := x + 16
theorem sx_adK {X : ax_X} {s : State} (hK : ax_K X s) {x : UInt32} (hx : sx_isS x) : ∃ j : Nat, j < 3 ∧ 1 + j = x.toNat ∧ 17 + j = (sx_by x).toNat ∧ [4, 6, 1].getD j 0 = (sx_len_s x).toNatClampNeg ∧ Int32.ofNat ([4, 6, 1].getD j 0) = sx_len_s x ∧ ([[106, 111, 98, 115], [119, 111, 114, 107, 101, 114], [120]] : List (List Int32)).getD j [] = sx_byt x ∧ [4, 6, 1].getD j 0 ≤ 6 := by
  rcases hx with rfl | rfl | rfl
  · exact ⟨0, by decide, by decide, by decide, by decide, by decide, by decide, by decide⟩
  · exact ⟨1, by decide, by decide, by decide, by decide, by decide, by decide, by decide⟩
  · exact ⟨2, by decide, by decide, by decide, by decide, by decide, by decide, by decide⟩
section AXS
variable {l : Launch} {X : ax_X} {own nm : String} {cc : ByteArray} {nL : Nat} {ret : Option FieldType} {R : Room} {QF : List Frame → Array Value → State → State → Prop} {cells slots pc : Nat} {L : List (Option Value)} {st : List Value} {h : ax_H}
theorem aw_ldcS {index : Nat} {tx : String} {n : Nat} (i : UInt32) (hd : decode cc pc = .ok (.ldc index, 2)) (hm : (own, index, tx, n) ∈ ax_strs) (hn : i.toNat = n) (K : AW l X own nm cc nL ret R QF cells slots (pc + 2) L (.float i :: st) h) : AW l X own nm cc nL ret R QF cells slots pc L st h := by
  intro p e s m args below meth c H locs ls hA hH hS hL
  subst hn
  exact va_ldcS hA.1 hA.2.1 hA.2.2.2.2.2.1 (hA.2.2.2.2.2.2.2.1.2.2.2.2.2.2.1 _ hm) hd (K p e s m args below meth c H locs ls hA hH hS hL)
theorem aw_xval {x : UInt32} (hx : sx_isS x) (hd : decode cc pc = .ok (.getfield 9, 3)) (ho : own = RJ0) (K : AW l X own nm cc nL ret R QF cells slots (pc + 3) L (.float (sx_by x) :: st) h) : AW l X own nm cc nL ret R QF cells slots pc L (.float x :: st) h := by
  subst ho
  intro p e s m args below meth c H locs ls hA hH hS hL
  obtain ⟨j, hj, e1, e2, -⟩ := sx_adK hA.2.2.2.2.2.2.2.1 hx
  have hE := ((hA.2.2.2.2.2.2.2.1.2.2.2.2.2.1).1 j hj).2.2.1
  have hE : va_OF "java/lang/String" "value" "[B" (.ref (X.2.2.2.1 (17 + j))) (X.2.2.2.1 (1 + j)) (fun q => X.1 ≤ q) s s.heap := hE
  rw [e1, e2] at hE
  exact vk_getf hA.1 hA.2.1 hE hS hA.2.2.2.2.2.1 (hA.2.2.2.2.2.2.1 _ xl_value) (fun _ q => q) hd (K p e s m args below meth c H locs ls hA hH hS hL)
theorem aw_xcod {x : UInt32} (hx : sx_isS x) (hd : decode cc pc = .ok (.getfield 15, 3)) (ho : own = RJ0) (K : AW l X own nm cc nL ret R QF cells slots (pc + 3) L (.int 0 :: st) h) : AW l X own nm cc nL ret R QF cells slots pc L (.float x :: st) h := by
  subst ho
  intro p e s m args below meth c H locs ls hA hH hS hL
  obtain ⟨j, hj, e1, e2, -⟩ := sx_adK hA.2.2.2.2.2.2.2.1 hx
  have hE := ((hA.2.2.2.2.2.2.2.1.2.2.2.2.2.1).1 j hj).2.1
  have hE : va_OF "java/lang/String" "coder" "B" (.int 0) (X.2.2.2.1 (1 + j)) (fun q => X.1 ≤ q) s s.heap := hE
  rw [e1] at hE
  exact vk_getf hA.1 hA.2.1 hE hS hA.2.2.2.2.2.1 (hA.2.2.2.2.2.2.1 _ xl_coder) (fun _ q => q) hd (K p e s m args below meth c H locs ls hA hH hS hL)
theorem aw_xlen {x : UInt32} (hx : sx_isS x) (hd : decode cc pc = .ok (.arraylength, 1)) (K : AW l X own nm cc nL ret R QF cells slots (pc + 1) L (.int (sx_len_s x) :: st) h) : AW l X own nm cc nL ret R QF cells slots pc L (.float (sx_by x) :: st) h := by
  intro p e s m args below meth c H locs ls hA hH hS hL
  obtain ⟨j, hj, e1, e2, e3, e4, e5, -⟩ := sx_adK hA.2.2.2.2.2.2.2.1 hx
  have hE := ((hA.2.2.2.2.2.2.2.1.2.2.2.2.2.1).1 j hj).2.2.2
  have hE : va_T .byte (X.2.2.2.1 (17 + j)) ([4, 6, 1].getD j 0) (fun k => .int ((([[106, 111, 98, 115], [119, 111, 114, 107, 101, 114], [120]] : List (List Int32)).getD j []).getD k 0)) (fun q => X.1 ≤ q) s s.heap := hE
  rw [e2] at hE
  exact va_tlen hA.1 hA.2.1 hE hS e4 hd (K p e s m args below meth c H locs ls hA hH hS hL)
theorem aw_xbyt {x : UInt32} (hx : sx_isS x) {i : Int32} (hi : ¬ (i < 0 ∨ sx_len_s x ≤ i)) (hd : decode cc pc = .ok (.baload, 1)) (K : AW l X own nm cc nL ret R QF cells slots (pc + 1) L (.int (sx_chr x i) :: st) h) : AW l X own nm cc nL ret R QF cells slots pc L (.int i :: .float (sx_by x) :: st) h := by
  intro p e s m args below meth c H locs ls hA hH hS hL
  obtain ⟨j, hj, e1, e2, e3, e4, e5, e6⟩ := sx_adK hA.2.2.2.2.2.2.2.1 hx
  have hE := ((hA.2.2.2.2.2.2.2.1.2.2.2.2.2.1).1 j hj).2.2.2
  have hE : va_T .byte (X.2.2.2.1 (17 + j)) ([4, 6, 1].getD j 0) (fun k => .int ((([[106, 111, 98, 115], [119, 111, 114, 107, 101, 114], [120]] : List (List Int32)).getD j []).getD k 0)) (fun q => X.1 ≤ q) s s.heap := hE
  rw [e2, e5] at hE
  refine va_tb hA.1 hA.2.1 hE hS ?_ rfl hd (K p e s m args below meth c H locs ls hA hH hS hL)
  rw [vp_in_iff]
  have h1 : ¬ i < 0 := fun q => hi (Or.inl q)
  have h2 : ¬ sx_len_s x ≤ i := fun q => hi (Or.inr q)
  rw [← e4] at h2
  have e7 : (Int32.ofNat ([4, 6, 1].getD j 0)).toInt = ([4, 6, 1].getD j 0 : Nat) := nI_toInt (by omega)
  rw [Int32.le_iff_toInt_le, e7] at h2
  rw [Int32.lt_iff_toInt_lt, Int32.toInt_zero] at h1
  omega
theorem aw_xcmp (hd : decode cc pc = .ok (.getstatic 38, 3)) (ho : own = RJ0) (K : AW l X own nm cc nL ret R QF cells slots (pc + 3) L (.int 1 :: st) h) : AW l X own nm cc nL ret R QF cells slots pc L st h := by
  subst ho
  intro p e s m args below meth c H locs ls hA hH hS hL
  exact va_gets hA.1 hA.2.1 hA.2.2.2.2.2.2.2.1.2.2.2.1 hS hA.2.2.2.2.2.1 (hA.2.2.2.2.2.2.1 _ xl_compact) (fun _ q => q) hd (K p e s m args below meth c H locs ls hA hH hS hL)
theorem aw_nret {x : Int32} {ty : FieldType} {mc ms : Nat} {Q : Option Value → ax_H → Prop} (hd : decode cc pc = .ok (.ireturn, 1)) (hz : narrow ty (.int x) = .int x) (hq : Q (some (.int x)) h) (h1 : cells ≤ mc) (h2 : slots ≤ ms) : AW l X own nm cc nL (some ty) R (ax_MQ X Q mc ms) cells slots pc L [.int x] h := by
  intro p e s m args below meth c H locs ls hA hH hS hL
  refine W.widen h1 h2 ?_
  exact W.zret (v := x) hA.1 hA.2.1 hA.2.2.2.1 hz (fun t ht hW => ⟨⟨some (.int x), h, rfl, hq, by rw [ht]; exact hH⟩, hS.F ht⟩) hS.2.2 hd hA.2.2.2.2.1
theorem aw_callX {index n : Nat} {x : UInt32} (hx : sx_isS x) {y : MethodName} {bytes : ByteArray} {maxL : Nat} {rt : Option FieldType} {d D mcR msR : Nat} {As : List Value} {r : Int32} {st0 : List Value}
    (hd : decode cc pc = .ok (.invokevirtual index, 3)) (hcl : ax_cl own index y bytes maxL rt n) (hvw : Cond.instanceMethod y ∈ ax_gw ∧ Cond.selects RJ0 y y ∈ ax_gw) (hM : AM l X y bytes maxL rt d 0 0 (.float x :: As) h (fun v h' => v = some (.int r) ∧ h' = h)) (hn : As.length = n) (hst : st0 = As.reverse ++ .float x :: st) (hw : (st.map fun v => v.category).sum ≤ 8) (hR : R = ax_rm D mcR msR) (hD : d + 1 ≤ D) (hm : maxL ≤ 45) (K : AW l X own nm cc nL ret R QF cells slots (pc + 3) L (.int r :: st) h) (hmc : cells ≤ mcR := by exact Nat.le_refl _) (hms : slots ≤ msR := by exact Nat.le_refl _) : AW l X own nm cc nL ret R QF cells slots pc L st0 h := by
  intro p e s m args below meth c H locs ls hA hH hS hL
  subst hR
  have hts := hA.2.2.2.2.2.2.1
  obtain ⟨j, hj, e1, -⟩ := sx_adK hA.2.2.2.2.2.2.2.1 hx
  have hrc := vk_recv hA.2.2.2.2.2.2.2.1.2.2.2.2.2.1 hj hS
  have hrc : ∃ cell : Cell, H[X.2.2.2.1 (1 + j)]? = some cell ∧ cell.vm.isStatics = false ∧ s.vm.findClass RJ0 = some cell.cls := hrc
  rw [e1] at hrc
  have hp : PreV s H RJ0 (X.2.2.2.1 x.toNat) (va_Pc ((Value.float x :: As).map (ax_v X)) (fun U => ax_hp X h U.heap ∧ ax_K X U)) (As.map (ax_v X)) := ⟨ax_blind, hrc, fun U hU hW => ⟨rfl, by rw [hU]; exact hH, hA.2.2.2.2.2.2.2.1.moved hW (fun a h1 h2 => by rw [hU]; exact hS.2.1 a h1 h2)⟩⟩
  have hR1 : (ax_rm d 0 0).frames + 1 ≤ (ax_rm D mcR msR).frames ∧ 8 + (maxL + 11) + (ax_rm d 0 0).locals ≤ (ax_rm D mcR msR).locals := ⟨hD, by show 8 + (maxL + 11) + 64 * d ≤ 64 * D; omega⟩
  have hcat : ((st.map (ax_v X)).map fun v => v.category).sum ≤ 8 := by
    rw [List.map_map]
    have e5 : (fun v => Value.category v) ∘ ax_v X = fun v => v.category := by funext v; exact ax_cat X v
    rw [e5]; exact hw
  have hst' : st0.map (ax_v X) = (As.map (ax_v X)).reverse ++ .ref (X.2.2.2.1 x.toNat) :: st.map (ax_v X) := by rw [hst]; simp [ax_v]
  obtain ⟨⟨c1, c2, c3, c4, c5⟩, hlk | ⟨host, hlk⟩⟩ := hcl
  · have hrun := va_runV (g := F0 m pc ls (st0.map (ax_v X))) (rest := st.map (ax_v X)) (cells := cells) (slots := slots) (locs := locs) (e := e) (below := below) (meth := meth) (nL := nL) (Ts := ax_gw) ⟨hA.1, hA.2.1, hA.2.2.1, hA.2.2.2.2.2.1, hts⟩ hM ⟨callB_of n hts (ax_gIn c1) rfl rfl rfl (hts _ c2) (hts _ hlk) ⟨c3, c4, c5⟩ hR1, hts _ hvw.1, hts _ hvw.2⟩ hp rfl (by rw [List.length_map]; exact hn) hL.1 hst' (lv_room (m := m) (pc := pc) (ls := ls) (rest := st0.map (ax_v X)) hcat) hd ⟨hmc, hms⟩
    refine ax_after hrun hS hA hL ?_
    rintro _ _ ⟨rfl, rfl⟩
    exact K
  · have hrun := va_runVN (g := F0 m pc ls (st0.map (ax_v X))) (rest := st.map (ax_v X)) (cells := cells) (slots := slots) (locs := locs) (e := e) (below := below) (meth := meth) (nL := nL) (Ts := ax_gw) ⟨hA.1, hA.2.1, hA.2.2.1, hA.2.2.2.2.2.1, hts⟩ hM ⟨va_cnB n hts (ax_gIn c1) rfl rfl rfl (hA.2.2.2.2.2.2.2.1.2.2.1 _ hlk) (hts _ c2) ⟨c3, c4, c5⟩ hR1, hts _ hvw.1, hts _ hvw.2⟩ hp rfl (by rw [List.length_map]; exact hn) hL.1 hst' (lv_room (m := m) (pc := pc) (ls := ls) (rest := st0.map (ax_v X)) hcat) hd ⟨hmc, hms⟩
    refine ax_after hrun hS hA hL ?_
    rintro _ _ ⟨rfl, rfl⟩
    exact K
end AXS
section AXT
variable {l : Launch} {X : ax_X} {h : ax_H} {Q : Option Value → ax_H → Prop}
set_option maxRecDepth 100000 in
theorem ks_coder (x : UInt32) (hx : sx_isS x) (hq : Q (some (.int 0)) h) : AM l X yJ0_coder_7d493 cJ0_coder_7d493 1 (some .byte) 0 0 0 [.float x] h Q := by
  refine aw_metF (own := RJ0) (nm := "coder") (L := [some (.float x)]) (by decide +kernel) rfl rfl (And.intro rfl trivial) (Nat.le_of_ble_eq_true rfl) ?_
  refine aw_xcmp dJ0_coder_7d493_0 rfl ?_
  refine aw_if_eq (tgt := 13) dJ0_coder_7d493_3 (by decide) (fun hc => absurd hc (by decide)) (fun _ => ?_)
  refine aw_aload_nX dJ0_coder_7d493_6 rfl rfl ?_
  refine aw_xcod hx dJ0_coder_7d493_7 rfl ?_
  refine aw_goto (tgt := 14) dJ0_coder_7d493_10 (by decide) ?_
  exact aw_nret dJ0_coder_7d493_14 (by decide) hq (Nat.le_refl _) (Nat.le_refl _)
set_option maxRecDepth 100000 in
theorem ks_length (x : UInt32) (hx : sx_isS x) (hq : Q (some (.int (sx_len_s x))) h) : AM l X yJ0_length_8abf5 cJ0_length_8abf5 1 (some .int) 1 0 0 [.float x] h Q := by
  refine aw_metF (own := RJ0) (nm := "length") (L := [some (.float x)]) (by decide +kernel) rfl rfl (And.intro rfl trivial) (Nat.le_of_ble_eq_true rfl) ?_
  refine aw_aload_nX dJ0_length_8abf5_0 rfl rfl ?_
  refine aw_xval hx dJ0_length_8abf5_1 rfl ?_
  refine aw_xlen hx dJ0_length_8abf5_4 ?_
  refine aw_aload_nX dJ0_length_8abf5_5 rfl rfl ?_
  refine aw_callX hx (As := []) (st := [.int (sx_len_s x)]) dJ0_length_8abf5_6 cl_J0_335 iv_J0_coder_7d493 (ks_coder x hx ⟨rfl, rfl⟩) rfl rfl (Nat.le_of_ble_eq_true rfl) rfl (by decide) (by decide) ?_
  refine aw_ishr dJ0_length_8abf5_9 ?_
  rw [show sx_len_s x >>> ((0 : Int32) &&& 31) = sx_len_s x from sb_shr0 _]
  exact aw_iret dJ0_length_8abf5_10 hq (Nat.le_refl _) (Nat.le_refl _)
set_option maxRecDepth 100000 in
theorem ks_latin (x : UInt32) (hx : sx_isS x) (hq : Q (some (.int 1)) h) : AM l X yJ0_isLatin1_aae02 cJ0_isLatin1_aae02 1 (some .boolean) 0 0 0 [.float x] h Q := by
  refine aw_metF (own := RJ0) (nm := "isLatin1") (L := [some (.float x)]) (by decide +kernel) rfl rfl (And.intro rfl trivial) (Nat.le_of_ble_eq_true rfl) ?_
  refine aw_xcmp dJ0_isLatin1_aae02_0 rfl ?_
  refine aw_if_eq (tgt := 17) dJ0_isLatin1_aae02_3 (by decide) (fun hc => absurd hc (by decide)) (fun _ => ?_)
  refine aw_aload_nX dJ0_isLatin1_aae02_6 rfl rfl ?_
  refine aw_xcod hx dJ0_isLatin1_aae02_7 rfl ?_
  refine aw_if_ne (tgt := 17) dJ0_isLatin1_aae02_10 (by decide) (fun hc => absurd rfl hc) (fun _ => ?_)
  refine aw_iconst (v := 1) dJ0_isLatin1_aae02_13 (by decide) ?_
  refine aw_goto (tgt := 18) dJ0_isLatin1_aae02_14 (by decide) ?_
  exact aw_nret dJ0_isLatin1_aae02_18 (by decide) hq (Nat.le_refl _) (Nat.le_refl _)
set_option maxRecDepth 100000 in
theorem ks_check3 (x0 x1 : Int32) (v : Value) (hv : v.category = 1) (h0 : ¬ x0 < 0) (h1 : x0 < x1) (hq : Q (some (.int x0)) h) : AM l X yJ3_checkIndex_8e157 cJ3_checkIndex_8e157 3 (some .int) 0 0 0 [.int x0, .int x1, v] h Q := by
  refine aw_metF (own := RJ3) (nm := "checkIndex") (L := [some (.int x0), some (.int x1), none]) (by decide +kernel) rfl rfl ?_ ?_ ?_
  · cases v <;> first | exact And.intro rfl (And.intro rfl trivial) | cases hv
  · cases v <;> first | exact Nat.le_of_ble_eq_true rfl | cases hv
  refine aw_iload_n dJ3_checkIndex_8e157_0 rfl rfl ?_
  refine aw_if_lt (tgt := 9) dJ3_checkIndex_8e157_1 (by decide) (fun hc => absurd hc h0) (fun _ => ?_)
  refine aw_iload_n dJ3_checkIndex_8e157_4 rfl rfl ?_
  refine aw_iload_n dJ3_checkIndex_8e157_5 rfl rfl ?_
  refine aw_icmp_lt (tgt := 16) dJ3_checkIndex_8e157_6 (by decide) (fun _ => ?_) (fun hc => absurd h1 hc)
  refine aw_iload_n dJ3_checkIndex_8e157_16 rfl rfl ?_
  exact aw_iret dJ3_checkIndex_8e157_17 hq (Nat.le_refl _) (Nat.le_refl _)
theorem aw_xfmt {own nm : String} {cc : ByteArray} {nL : Nat} {ret : Option FieldType} {R : Room} {QF : List Frame → Array Value → State → State → Prop} {cells slots pc : Nat} {L : List (Option Value)} {st : List Value} (hd : decode cc pc = .ok (.getstatic 1053, 3)) (ho : own = RJ0) (K : ∀ v : Value, v.category = 1 → AW l X own nm cc nL ret R QF cells slots (pc + 3) L (v :: st) h) : AW l X own nm cc nL ret R QF cells slots pc L st h := by
  subst ho
  intro p e s m args below meth c H locs ls hA hH hS hL
  rcases hA.2.2.2.2.2.2.2.1.2.2.2.2.1 with hz | hz
  · exact va_gets hA.1 hA.2.1 hz hS hA.2.2.2.2.2.1 (hA.2.2.2.2.2.2.1 _ xl_fmt) (fun _ q => q) hd (K .null rfl p e s m args below meth c H locs ls hA hH hS hL)
  · exact va_gets hA.1 hA.2.1 hz hS hA.2.2.2.2.2.1 (hA.2.2.2.2.2.2.1 _ xl_fmt) (fun _ q => q) hd (K (.float 32) rfl p e s m args below meth c H locs ls hA hH hS hL)
set_option maxRecDepth 100000 in
theorem ks_check0 (x0 x1 : Int32) (h0 : ¬ x0 < 0) (h1 : x0 < x1) (hq : Q none h) : AM l X yJ0_checkIndex_df160 cJ0_checkIndex_df160 2 none 1 0 0 [.int x0, .int x1] h Q := by
  refine aw_metF (own := RJ0) (nm := "checkIndex") (L := [some (.int x0), some (.int x1)]) (by decide +kernel) rfl rfl (And.intro rfl (And.intro rfl trivial)) (Nat.le_of_ble_eq_true rfl) ?_
  refine aw_iload_n dJ0_checkIndex_df160_0 rfl rfl ?_
  refine aw_iload_n dJ0_checkIndex_df160_1 rfl rfl ?_
  refine aw_xfmt dJ0_checkIndex_df160_2 rfl (fun v hv => ?_)
  refine aw_cSi (As := [.int x0, .int x1, v]) (st := []) (h1 := h) dJ0_checkIndex_df160_5 cl_J0_1059 st_J3_checkIndex_8e157 (ks_check3 x0 x1 v hv h0 h1 ⟨rfl, rfl⟩) rfl rfl (Nat.le_of_ble_eq_true rfl) rfl (by decide) (by decide) ?_
  refine aw_pop dJ0_checkIndex_df160_8 rfl ?_
  exact aw_vret dJ0_checkIndex_df160_9 hq (Nat.le_refl _) (Nat.le_refl _)
theorem sx_chr_ok {x : UInt32} (hx : sx_isS x) {i : Int32} (hi : ¬ (i < 0 ∨ sx_len_s x ≤ i)) : ((sx_chr x i &&& 255).toUInt32 % 65536).toInt32 = sx_chr x i ∧ narrow .char (.int (sx_chr x i)) = .int (sx_chr x i) := by
  have h1 : ¬ i < 0 := fun q => hi (Or.inl q)
  have h2 : ¬ sx_len_s x ≤ i := fun q => hi (Or.inr q)
  have key : ∀ (n : Nat) (b : List Int32), (∀ c ∈ b, ((c &&& 255).toUInt32 % 65536).toInt32 = c ∧ narrow .char (.int c) = .int c) → n < b.length → ((b.getD n 0 &&& 255).toUInt32 % 65536).toInt32 = b.getD n 0 ∧ narrow .char (.int (b.getD n 0)) = .int (b.getD n 0) := by
    intro n b hb hn
    refine hb _ ?_
    rw [List.getD_eq_getElem?_getD, List.getElem?_eq_getElem hn]
    exact List.getElem_mem hn
  unfold sx_chr
  refine key _ _ ?_ ?_
  · rcases hx with rfl | rfl | rfl <;> decide
  · obtain ⟨n, hn, rfl⟩ := nI_of h1
    rw [nI_clamp hn]
    rcases hx with rfl | rfl | rfl
    · exact Nat.lt_of_not_le (fun q => h2 (nI_le (a := 4) (b := n) q hn))
    · exact Nat.lt_of_not_le (fun q => h2 (nI_le (a := 6) (b := n) q hn))
    · exact Nat.lt_of_not_le (fun q => h2 (nI_le (a := 1) (b := n) q hn))
set_option maxRecDepth 100000 in
theorem ks_chr1 (x : UInt32) (hx : sx_isS x) (i : Int32) (hi : ¬ (i < 0 ∨ sx_len_s x ≤ i)) (hq : Q (some (.int (sx_chr x i))) h) : AM l X yJ1_charAt_3b067 cJ1_charAt_3b067 2 (some .char) 2 0 0 [.float (sx_by x), .int i] h Q := by
  refine aw_metF (own := RJ1) (nm := "charAt") (L := [some (.float (sx_by x)), some (.int i)]) (by decide +kernel) rfl rfl (And.intro rfl (And.intro rfl trivial)) (Nat.le_of_ble_eq_true rfl) ?_
  refine aw_iload_n dJ1_charAt_3b067_0 rfl rfl ?_
  refine aw_aload_nX dJ1_charAt_3b067_1 rfl rfl ?_
  refine aw_xlen hx dJ1_charAt_3b067_2 ?_
  refine aw_cSv (As := [.int i, .int (sx_len_s x)]) (st := []) (h1 := h) dJ1_charAt_3b067_3 cl_J1_9 st_J0_checkIndex_df160 (ks_check0 i (sx_len_s x) (fun q => hi (Or.inl q)) (Int32.not_le.mp (fun q => hi (Or.inr q))) ⟨rfl, rfl⟩) rfl rfl (Nat.le_of_ble_eq_true rfl) rfl (by decide) (by decide) ?_
  refine aw_aload_nX dJ1_charAt_3b067_6 rfl rfl ?_
  refine aw_iload_n dJ1_charAt_3b067_7 rfl rfl ?_
  refine aw_xbyt hx hi dJ1_charAt_3b067_8 ?_
  refine aw_sipush (v := 255) dJ1_charAt_3b067_9 (by decide) ?_
  refine aw_iand dJ1_charAt_3b067_12 ?_
  refine aw_i2c dJ1_charAt_3b067_13 ?_
  rw [(sx_chr_ok hx hi).1]
  exact aw_nret dJ1_charAt_3b067_14 (sx_chr_ok hx hi).2 hq (Nat.le_refl _) (Nat.le_refl _)
set_option maxRecDepth 100000 in
theorem ks_chr (x : UInt32) (hx : sx_isS x) (i : Int32) (hi : ¬ (i < 0 ∨ sx_len_s x ≤ i)) (hq : Q (some (.int (sx_chr x i))) h) : AM l X yJ0_charAt_5068e cJ0_charAt_5068e 2 (some .char) 3 0 0 [.float x, .int i] h Q := by
  refine aw_metF (own := RJ0) (nm := "charAt") (L := [some (.float x), some (.int i)]) (by decide +kernel) rfl rfl (And.intro rfl (And.intro rfl trivial)) (Nat.le_of_ble_eq_true rfl) ?_
  refine aw_aload_nX dJ0_charAt_5068e_0 rfl rfl ?_
  refine aw_callX hx (As := []) (st := []) dJ0_charAt_5068e_1 cl_J0_492 iv_J0_isLatin1_aae02 (ks_latin x hx ⟨rfl, rfl⟩) rfl rfl (Nat.le_of_ble_eq_true rfl) rfl (by decide) (by decide) ?_
  refine aw_if_eq (tgt := 16) dJ0_charAt_5068e_4 (by decide) (fun hc => absurd hc (by decide)) (fun _ => ?_)
  refine aw_aload_nX dJ0_charAt_5068e_7 rfl rfl ?_
  refine aw_xval hx dJ0_charAt_5068e_8 rfl ?_
  refine aw_iload_n dJ0_charAt_5068e_11 rfl rfl ?_
  refine aw_cSi (As := [.float (sx_by x), .int i]) (st := []) (h1 := h) dJ0_charAt_5068e_12 cl_J0_495 st_J1_charAt_3b067 (ks_chr1 x hx i hi ⟨rfl, rfl⟩) rfl rfl (Nat.le_of_ble_eq_true rfl) rfl (by decide) (by decide) ?_
  exact aw_nret dJ0_charAt_5068e_15 (sx_chr_ok hx hi).2 hq (Nat.le_refl _) (Nat.le_refl _)
end AXT
section AXU
variable {l : Launch} {X : ax_X} {own nm : String} {cc : ByteArray} {nL : Nat} {ret : Option FieldType} {R : Room} {QF : List Frame → Array Value → State → State → Prop} {cells slots pc : Nat} {L : List (Option Value)} {st : List Value} {h : ax_H}
theorem aw_slen {index : Nat} {x : UInt32} {D mcR msR : Nat} (hd : decode cc pc = .ok (.invokevirtual index, 3)) (hcl : ax_cl own index yJ0_length_8abf5 cJ0_length_8abf5 1 (some .int) 0) (hx : sx_isS x) (hw : (st.map fun v => v.category).sum ≤ 8) (hR : R = ax_rm D mcR msR) (hD : 2 ≤ D) (K : AW l X own nm cc nL ret R QF cells slots (pc + 3) L (.int (sx_len_s x) :: st) h) (hmc : cells ≤ mcR := by exact Nat.le_refl _) (hms : slots ≤ msR := by exact Nat.le_refl _) : AW l X own nm cc nL ret R QF cells slots pc L (.float x :: st) h :=
  aw_callX hx (As := []) hd hcl iv_J0_length_8abf5 (ks_length x hx ⟨rfl, rfl⟩) rfl rfl hw hR hD (by decide) K hmc hms
theorem aw_schar {index : Nat} {x : UInt32} {i : Int32} {D mcR msR : Nat} (hd : decode cc pc = .ok (.invokevirtual index, 3)) (hcl : ax_cl own index yJ0_charAt_5068e cJ0_charAt_5068e 2 (some .char) 1) (hx : sx_isS x) (hi : ¬ (i < 0 ∨ sx_len_s x ≤ i)) (hw : (st.map fun v => v.category).sum ≤ 8) (hR : R = ax_rm D mcR msR) (hD : 4 ≤ D) (K : AW l X own nm cc nL ret R QF cells slots (pc + 3) L (.int (sx_chr x i) :: st) h) (hmc : cells ≤ mcR := by exact Nat.le_refl _) (hms : slots ≤ msR := by exact Nat.le_refl _) : AW l X own nm cc nL ret R QF cells slots pc L (.int i :: .float x :: st) h :=
  aw_callX hx (As := [.int i]) hd hcl iv_J0_charAt_5068e (ks_chr x hx i hi ⟨rfl, rfl⟩) rfl rfl hw hR hD (by decide) K hmc hms
end AXU
