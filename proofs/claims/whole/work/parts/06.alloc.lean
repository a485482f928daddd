theorem xn_X11 : Cond.initialized RX11 ∈ ax_gw := ax_t1 (List.mem_of_getElem? (i := 1) rfl) rfl
theorem xn_X9 : Cond.initialized RX9 ∈ ax_gw := ax_t1 (List.mem_of_getElem? (i := 2) rfl) rfl
theorem xn_X1 : Cond.initialized RX1 ∈ ax_gw := ax_t1 (List.mem_of_getElem? (i := 3) rfl) rfl
theorem xn_X5 : Cond.initialized RX5 ∈ ax_gw := ax_t1 (List.mem_of_getElem? (i := 4) rfl) rfl
theorem xn_X4 : Cond.initialized RX4 ∈ ax_gw := ax_t1 (List.mem_of_getElem? (i := 5) rfl) rfl
theorem xn_X6 : Cond.initialized RX6 ∈ ax_gw := ax_t1 (List.mem_of_getElem? (i := 6) rfl) rfl
theorem xn_X2 : Cond.initialized RX2 ∈ ax_gw := ax_t1 (List.mem_of_getElem? (i := 7) rfl) rfl
theorem xn_X7 : Cond.initialized RX7 ∈ ax_gw := ax_t1 (List.mem_of_getElem? (i := 8) rfl) rfl
theorem xn_X0 : Cond.initialized RX0 ∈ ax_gw := ax_t1 (List.mem_of_getElem? (i := 9) rfl) rfl
theorem xn_X8 : Cond.initialized RX8 ∈ ax_gw := ax_t1 (List.mem_of_getElem? (i := 10) rfl) rfl
theorem xn_X3 : Cond.initialized RX3 ∈ ax_gw := ax_t1 (List.mem_of_getElem? (i := 11) rfl) rfl
theorem xn_X10 : Cond.initialized RX10 ∈ ax_gw := ax_t1 (List.mem_of_getElem? (i := 12) rfl) rfl
theorem xn_X12 : Cond.initialized RX12 ∈ ax_gw := ax_t1 (List.mem_of_getElem? (i := 15) rfl) rfl
theorem xc_L_7 : Cond.classLink RL 7 "NextBest" ∈ ax_gw := ax_t1 (List.mem_of_getElem? (i := 20) rfl) rfl
theorem xi_X11 : Cond.instantiable RX11 15 ∈ ax_gw := ax_t1 (List.mem_of_getElem? (i := 21) rfl) rfl
theorem xm_X11_5 : Cond.methodLink RX11 5 objectInit ∈ ax_gw := ax_t1 (List.mem_of_getElem? (i := 25) rfl) rfl
theorem xm_i : Cond.instanceMethod objectInit ∈ ax_gw := ax_t1 (List.mem_of_getElem? (i := 26) rfl) rfl
theorem xm_c : Cond.code objectInit ⟨#[0xb1]⟩ 1 none ∈ ax_gw := ax_t1 (List.mem_of_getElem? (i := 27) rfl) rfl
theorem xc_X11_11 : Cond.classLink RX11 11 "NextBest$Tape" ∈ ax_gw := ax_t1 (List.mem_of_getElem? (i := 28) rfl) rfl
theorem xi_X9 : Cond.instantiable RX9 2 ∈ ax_gw := ax_t1 (List.mem_of_getElem? (i := 29) rfl) rfl
theorem xm_X9_3 : Cond.methodLink RX9 3 objectInit ∈ ax_gw := ax_t1 (List.mem_of_getElem? (i := 33) rfl) rfl
theorem xa_byte : Cond.arrayClass .byte ∈ ax_gw := ax_t1 (List.mem_of_getElem? (i := 43) rfl) rfl
theorem xc_X11_18 : Cond.classLink RX11 18 "NextBest$Grid" ∈ ax_gw := ax_t1 (List.mem_of_getElem? (i := 44) rfl) rfl
theorem xi_X1 : Cond.instantiable RX1 3 ∈ ax_gw := ax_t1 (List.mem_of_getElem? (i := 45) rfl) rfl
theorem xm_X1_3 : Cond.methodLink RX1 3 objectInit ∈ ax_gw := ax_t1 (List.mem_of_getElem? (i := 49) rfl) rfl
theorem xa_long : Cond.arrayClass .long ∈ ax_gw := ax_t1 (List.mem_of_getElem? (i := 76) rfl) rfl
theorem xc_X11_25 : Cond.classLink RX11 25 "NextBest$Ranks" ∈ ax_gw := ax_t1 (List.mem_of_getElem? (i := 77) rfl) rfl
theorem xi_X5 : Cond.instantiable RX5 4 ∈ ax_gw := ax_t1 (List.mem_of_getElem? (i := 78) rfl) rfl
theorem xm_X5_3 : Cond.methodLink RX5 3 objectInit ∈ ax_gw := ax_t1 (List.mem_of_getElem? (i := 82) rfl) rfl
theorem xa_int : Cond.arrayClass .int ∈ ax_gw := ax_t1 (List.mem_of_getElem? (i := 99) rfl) rfl
theorem xc_X11_34 : Cond.classLink RX11 34 "NextBest$Order" ∈ ax_gw := ax_t1 (List.mem_of_getElem? (i := 100) rfl) rfl
theorem xi_X4 : Cond.instantiable RX4 13 ∈ ax_gw := ax_t1 (List.mem_of_getElem? (i := 101) rfl) rfl
theorem xm_X4_3 : Cond.methodLink RX4 3 objectInit ∈ ax_gw := ax_t1 (List.mem_of_getElem? (i := 105) rfl) rfl
theorem xc_X11_49 : Cond.classLink RX11 49 "NextBest$Reader" ∈ ax_gw := ax_t1 (List.mem_of_getElem? (i := 146) rfl) rfl
theorem xi_X6 : Cond.instantiable RX6 8 ∈ ax_gw := ax_t1 (List.mem_of_getElem? (i := 147) rfl) rfl
theorem xm_X6_3 : Cond.methodLink RX6 3 objectInit ∈ ax_gw := ax_t1 (List.mem_of_getElem? (i := 151) rfl) rfl
theorem xc_X11_58 : Cond.classLink RX11 58 "NextBest$History" ∈ ax_gw := ax_t1 (List.mem_of_getElem? (i := 179) rfl) rfl
theorem xi_X2 : Cond.instantiable RX2 3 ∈ ax_gw := ax_t1 (List.mem_of_getElem? (i := 180) rfl) rfl
theorem xm_X2_1 : Cond.methodLink RX2 1 objectInit ∈ ax_gw := ax_t1 (List.mem_of_getElem? (i := 184) rfl) rfl
theorem xc_X2_9 : Cond.classLink RX2 9 "NextBest$Grid" ∈ ax_gw := ax_t1 (List.mem_of_getElem? (i := 185) rfl) rfl
theorem xc_X11_65 : Cond.classLink RX11 65 "NextBest$Rules" ∈ ax_gw := ax_t1 (List.mem_of_getElem? (i := 199) rfl) rfl
theorem xi_X7 : Cond.instantiable RX7 8 ∈ ax_gw := ax_t1 (List.mem_of_getElem? (i := 200) rfl) rfl
theorem xm_X7_3 : Cond.methodLink RX7 3 objectInit ∈ ax_gw := ax_t1 (List.mem_of_getElem? (i := 204) rfl) rfl
theorem xc_X11_74 : Cond.classLink RX11 74 "NextBest$Greed" ∈ ax_gw := ax_t1 (List.mem_of_getElem? (i := 231) rfl) rfl
theorem xi_X0 : Cond.instantiable RX0 9 ∈ ax_gw := ax_t1 (List.mem_of_getElem? (i := 232) rfl) rfl
theorem xm_X0_3 : Cond.methodLink RX0 3 objectInit ∈ ax_gw := ax_t1 (List.mem_of_getElem? (i := 236) rfl) rfl
theorem xc_X11_81 : Cond.classLink RX11 81 "NextBest$Sale" ∈ ax_gw := ax_t2 (List.mem_of_getElem? (i := 29) rfl) rfl
theorem xi_X8 : Cond.instantiable RX8 6 ∈ ax_gw := ax_t2 (List.mem_of_getElem? (i := 30) rfl) rfl
theorem xm_X8_3 : Cond.methodLink RX8 3 objectInit ∈ ax_gw := ax_t2 (List.mem_of_getElem? (i := 34) rfl) rfl
theorem xc_X11_88 : Cond.classLink RX11 88 "NextBest$Moves" ∈ ax_gw := ax_t2 (List.mem_of_getElem? (i := 58) rfl) rfl
theorem xi_X3 : Cond.instantiable RX3 5 ∈ ax_gw := ax_t2 (List.mem_of_getElem? (i := 59) rfl) rfl
theorem xm_X3_3 : Cond.methodLink RX3 3 objectInit ∈ ax_gw := ax_t2 (List.mem_of_getElem? (i := 63) rfl) rfl
theorem xc_X11_95 : Cond.classLink RX11 95 "NextBest$Ways" ∈ ax_gw := ax_t2 (List.mem_of_getElem? (i := 82) rfl) rfl
theorem xi_X10 : Cond.instantiable RX10 5 ∈ ax_gw := ax_t2 (List.mem_of_getElem? (i := 83) rfl) rfl
theorem xm_X10_3 : Cond.methodLink RX10 3 objectInit ∈ ax_gw := ax_t2 (List.mem_of_getElem? (i := 87) rfl) rfl
theorem xc_L_10 : Cond.classLink RL 10 "NextBestModel" ∈ ax_gw := ax_t5 (List.mem_of_getElem? (i := 209) rfl) rfl
theorem xi_X12 : Cond.instantiable RX12 33 ∈ ax_gw := ax_t5 (List.mem_of_getElem? (i := 210) rfl) rfl
theorem xm_X12_5 : Cond.methodLink RX12 5 objectInit ∈ ax_gw := ax_t5 (List.mem_of_getElem? (i := 214) rfl) rfl
section AXN
variable {l : Launch} {X : ax_X} {own nm : String} {cc : ByteArray} {nL : Nat} {ret : Option FieldType} {R : Room} {QF : List Frame → Array Value → State → State → Prop} {cells slots pc : Nat} {L : List (Option Value)} {st : List Value} {h : ax_H}
theorem ax_hp_push {H H1 : Heap} {c1 : ax_E} (hH : ax_hp X h H) (he : va_at X.2.1 vwCl (X.1 + h.length, ax_ce X c1) H1) (z : H1.size = H.size + 1) (oq : ∀ q : Nat, q < H.size → H1[q]? = H[q]?) : ax_hp X (h ++ [c1]) H1 := by
  refine ⟨?_, by rw [z, hH.2, List.length_append]; simp; omega⟩
  rw [ax_ws_push]
  refine (hH.1.kept (fun k q hk => oq q.1 ((hH.1 k q hk).lt))).app (fun k x hx => ?_)
  have hz : k < 1 := (List.getElem?_eq_some_iff.mp hx).1
  rw [show k = 0 by omega] at hx
  cases hx
  exact he
theorem ax_S_push {H0 H H1 : Heap} {locs : List Loc} {A : Nat → Prop} (hS : va_S A H0 H locs) (z : H1.size = H.size + 1) (oq : ∀ q : Nat, q < H.size → H1[q]? = H[q]?) : va_S A H0 H1 locs :=
  ⟨by have := hS.1; omega, fun q h1 h2 => (oq q (Nat.lt_of_lt_of_le h1 hS.1)).trans (hS.2.1 q h1 h2), hS.2.2⟩
theorem aw_new_int {n : Int32} {N D mcR msR : Nat} (hd : decode cc pc = .ok (.newarray .int, 2)) (hn : ¬ n < 0) (hN : n.toNatClampNeg = N) (hb : N ≤ 65536) (hR : R = ax_rm D mcR msR) (hmc : cells + 1 ≤ mcR) (hms : slots + N ≤ msR) (K : AW l X own nm cc nL ret R QF (cells + 1) (slots + N) (pc + 2) L (.ref h.length :: st) (h ++ [.inl (.int, N, .inl (fun _ => 0))])) : AW l X own nm cc nL ret R QF cells slots pc L (.int n :: st) h := by
  intro p e s m args below meth c H locs ls hA hH hS hL
  subst hR
  refine va_newaK (atype := .int) hA.1 hA.2.1 (hA.2.2.2.2.2.2.1 _ xa_int) rfl hd rfl hn hN (Nat.le_trans (Nat.mul_le_mul hb (show componentBytes (newarray.typeOf .int) ≤ 8 by decide)) (Nat.le_of_ble_eq_true rfl)) hmc hms rfl fun H1 cA e1 z1 o1 hAr hNm => ?_
  have hcA : cA = X.2.2.1 .int := Option.some.inj (hNm.symm.trans ((hA.2.2.2.2.2.2.2.1.2.1 .int (by decide)).2))
  subst hcA
  have k1 := K p e s m args below meth c H1 locs ls hA (ax_hp_push hH (by rw [← hH.2]; exact e1) z1 o1) (ax_S_push hS z1 o1) hL
  rw [hH.2]
  exact k1
theorem aw_new_byte {n : Int32} {N D mcR msR : Nat} (hd : decode cc pc = .ok (.newarray .byte, 2)) (hn : ¬ n < 0) (hN : n.toNatClampNeg = N) (hb : N ≤ 65536) (hR : R = ax_rm D mcR msR) (hmc : cells + 1 ≤ mcR) (hms : slots + N ≤ msR) (K : AW l X own nm cc nL ret R QF (cells + 1) (slots + N) (pc + 2) L (.ref h.length :: st) (h ++ [.inl (.byte, N, .inl (fun _ => 0))])) : AW l X own nm cc nL ret R QF cells slots pc L (.int n :: st) h := by
  intro p e s m args below meth c H locs ls hA hH hS hL
  subst hR
  refine va_newaK (atype := .byte) hA.1 hA.2.1 (hA.2.2.2.2.2.2.1 _ xa_byte) rfl hd rfl hn hN (Nat.le_trans (Nat.mul_le_mul hb (show componentBytes (newarray.typeOf .byte) ≤ 8 by decide)) (Nat.le_of_ble_eq_true rfl)) hmc hms rfl fun H1 cA e1 z1 o1 hAr hNm => ?_
  have hcA : cA = X.2.2.1 .byte := Option.some.inj (hNm.symm.trans ((hA.2.2.2.2.2.2.2.1.2.1 .byte (by decide)).2))
  subst hcA
  have k1 := K p e s m args below meth c H1 locs ls hA (ax_hp_push hH (by rw [← hH.2]; exact e1) z1 o1) (ax_S_push hS z1 o1) hL
  rw [hH.2]
  exact k1
theorem aw_new_long {n : Int32} {N D mcR msR : Nat} (hd : decode cc pc = .ok (.newarray .long, 2)) (hn : ¬ n < 0) (hN : n.toNatClampNeg = N) (hb : N ≤ 65536) (hR : R = ax_rm D mcR msR) (hmc : cells + 1 ≤ mcR) (hms : slots + N ≤ msR) (K : AW l X own nm cc nL ret R QF (cells + 1) (slots + N) (pc + 2) L (.ref h.length :: st) (h ++ [.inl (.long, N, .inr (.inl (fun _ => 0)))])) : AW l X own nm cc nL ret R QF cells slots pc L (.int n :: st) h := by
  intro p e s m args below meth c H locs ls hA hH hS hL
  subst hR
  refine va_newaK (atype := .long) hA.1 hA.2.1 (hA.2.2.2.2.2.2.1 _ xa_long) rfl hd rfl hn hN (Nat.le_trans (Nat.mul_le_mul hb (show componentBytes (newarray.typeOf .long) ≤ 8 by decide)) (Nat.le_of_ble_eq_true rfl)) hmc hms rfl fun H1 cA e1 z1 o1 hAr hNm => ?_
  have hcA : cA = X.2.2.1 .long := Option.some.inj (hNm.symm.trans ((hA.2.2.2.2.2.2.2.1.2.1 .long (by decide)).2))
  subst hcA
  have k1 := K p e s m args below meth c H1 locs ls hA (ax_hp_push hH (by rw [← hH.2]; exact e1) z1 o1) (ax_S_push hS z1 o1) hL
  rw [hH.2]
  exact k1
theorem aw_newo {index ci N D mcR msR : Nat} {C : String} {T : u_T} {fs : List Value} (ty : Nat → FieldType) (hty : ∀ k, k < N → parseFieldDescriptor (T k).2.2.1 = some (ty k)) (hd : decode cc pc = .ok (.new index, 3)) (hcl : Cond.classLink own index C ∈ ax_gw) (hin : Cond.instantiable C N ∈ ax_gw) (hini : Cond.initialized C ∈ ax_gw) (huw : ∀ w ∈ u_ws C T N, w ∈ ax_gw) (hc : vwCl[ci]? = some (C, T, N)) (hfs : ∀ j, j < N → defaultValue (ty j) = vp_V (fs.map (ax_v X)) j) (hR : R = ax_rm D mcR msR) (hmc : cells + 1 ≤ mcR) (hms : slots + N ≤ msR) (K : AW l X own nm cc nL ret R QF (cells + 1) (slots + N) (pc + 3) L (.ref h.length :: st) (h ++ [.inr (ci, fs)])) : AW l X own nm cc nL ret R QF cells slots pc L st h := by
  intro p e s m args below meth c H locs ls hA hH hS hL
  subst hR
  have hts := hA.2.2.2.2.2.2.1
  have hKn := hA.2.2.2.2.2.2.2.1.1.1 ci _ hc
  refine W.newcK hA.1 hA.2.1 hA.2.2.2.2.2.1 (hts _ hcl) (hts _ hin) (hts _ hini) rfl hd hmc hms hKn.2.1 rfl fun H1 kC hkC e1 z1 o1 => ?_
  have k1 := K p e s m args below meth c H1 locs ls hA (ax_hp_push (c1 := .inr (ci, fs)) hH (by rw [← hH.2]; exact ⟨_, hc, (u_born ty hts huw hKn hkC e1 hty).to hfs⟩) z1 o1) (ax_S_push hS z1 o1) hL
  rw [hH.2]
  exact k1
theorem aw_anew {index N D mcR msR : Nat} {n : Int32} (hd : decode cc pc = .ok (.anewarray index, 3)) (hcl : Cond.classLink own index "NextBest$Grid" ∈ ax_gw) (hn : ¬ n < 0) (hN : n.toNatClampNeg = N) (hb : N ≤ 65536) (hR : R = ax_rm D mcR msR) (hmc : cells + 1 ≤ mcR) (hms : slots + N ≤ msR) (K : AW l X own nm cc nL ret R QF (cells + 1) (slots + N) (pc + 3) L (.ref h.length :: st) (h ++ [.inl (.object "NextBest$Grid", N, .inr (.inr (.inr (.inr (fun _ => none)))))])) : AW l X own nm cc nL ret R QF cells slots pc L (.int n :: st) h := by
  intro p e s m args below meth c H locs ls hA hH hS hL
  subst hR
  subst hN
  have hts := hA.2.2.2.2.2.2.1
  refine W.anew hA.1 hA.2.1 hA.2.2.2.2.2.1 (hts _ hcl) (va_AO.use hA.2.2.2.2.2.2.2.1.2.2.2.2.2.2.2.2) rfl hd rfl hn (by omega) hmc hms fun cA kA comp f1 f2 f3 f4 => ?_
  obtain ⟨kA', comp', r1, r2, r3, r4⟩ := (hA.2.2.2.2.2.2.2.1.2.1 (.object "NextBest$Grid") (by decide)).2
  have hcA : cA = X.2.2.1 (.object "NextBest$Grid") := by
    first
      | exact Option.some.inj (f1.symm.trans r4)
      | exact Option.some.inj (f2.symm.trans r4)
      | exact Option.some.inj (f4.symm.trans r4)
  subst hcA
  have z1 : (H.push ({ cls := X.2.2.1 (.object "NextBest$Grid"), slots := Array.replicate n.toNatClampNeg .null, vm := .none } : Cell)).size = H.size + 1 := Array.size_push _
  have o1 : ∀ q : Nat, q < H.size → (H.push ({ cls := X.2.2.1 (.object "NextBest$Grid"), slots := Array.replicate n.toNatClampNeg .null, vm := .none } : Cell))[q]? = H[q]? := fun q hq => by rw [Array.getElem?_push, if_neg (Nat.ne_of_lt hq)]
  have e1 : (H.push ({ cls := X.2.2.1 (.object "NextBest$Grid"), slots := Array.replicate n.toNatClampNeg .null, vm := .none } : Cell))[H.size]? = some (arrV (X.2.2.1 (.object "NextBest$Grid")) n.toNatClampNeg (fun _ => .null)) := by rw [Array.getElem?_push_size, ← arrV_new]
  have k1 := K p e s m args below meth c _ locs ls hA (ax_hp_push (c1 := .inl (.object "NextBest$Grid", n.toNatClampNeg, .inr (.inr (.inr (.inr (fun _ => none)))))) hH (by rw [← hH.2]; exact e1) z1 o1) (ax_S_push hS z1 o1) hL
  rw [hH.2]
  exact k1
theorem aw_aast {k0 n r ci : Nat} {T : u_T} {N : Nat} {f : Nat → Option Nat} {i : Int32} {vs : List Value} (hd : decode cc pc = .ok (.aastore, 1)) (hc : h[k0]? = some (.inl (.object "NextBest$Grid", n, .inr (.inr (.inr (.inr f)))))) (hv : h[r]? = some (.inr (ci, vs))) (hci : vwCl[ci]? = some ("NextBest$Grid", T, N)) (hi : vp_in i n) (K : AW l X own nm cc nL ret R QF cells slots (pc + 1) L st (h.set k0 (.inl (.object "NextBest$Grid", n, .inr (.inr (.inr (.inr (va_up f i.toNatClampNeg (some r))))))))) : AW l X own nm cc nL ret R QF cells slots pc L (.ref r :: .int i :: .ref k0 :: st) h := by
  intro p e s m args below meth c H locs ls hA hH hS hL
  have hA3 := hA.2.2.2.2.2.2.2.1.arr (ty := .object "NextBest$Grid") (by decide)
  have hlt : i.toNatClampNeg < n := Nat.not_le.mp fun q => hi (Or.inr q)
  have h0 : ¬ i < 0 := fun q => hi (Or.inl q)
  obtain ⟨r', hr', cellV, g1, g2, g3, -⟩ := hH.1 r _ (ax_ws_at hv)
  have hcls := (hA3.1 ci _ hci).2
  obtain ⟨kA, comp, k1, k2, k3, -⟩ := (hA3.2 0 _ rfl).2
  have hcomp : comp = X.2.1.1 ci := Option.some.inj (k3.symm.trans hcls.1)
  subst hcomp
  obtain ⟨kC, hkC, -⟩ := hcls.2
  refine W.aast hA.1 hA.2.1 (hH.1 k0 _ (ax_ws_at hc)) (fun q h => by cases h) (fun h => by cases h) k1 k2 rfl hkC ⟨h0, by show _ < (arrV _ _ _).slots.size; rw [arrV_size]; exact hlt⟩ g1 (fun q h => by rw [g3] at h; cases h) (by rw [g2]; exact hkC) (by rw [g2]; exact va_assign hcls) rfl rfl hd fun H1 e1 z oq => ?_
  refine K p e s m args below meth c H1 _ ls hA (ax_hp_set (c1 := .inl (.object "NextBest$Grid", n, .inr (.inr (.inr (.inr (va_up f i.toNatClampNeg (some r))))))) hH hc ?_ z oq) (hS.put z oq (Nat.le_add_right _ _)) hL
  show H1[X.1 + k0]? = some (vp_cell (X.2.2.1 (.object "NextBest$Grid")) (n, .inr (.inr (.inr (.inr (fun j => (va_up f i.toNatClampNeg (some r) j).map (fun k => X.1 + k)))))))
  rw [e1, vp_cell_q]
  show some ((arrV (X.2.2.1 (.object "NextBest$Grid")) n (fun j => va_rf ((f j).map (fun k => X.1 + k)))).setSlot _ _) = _
  rw [arrV_store]
  congr 2
  funext q
  by_cases hq : q = i.toNatClampNeg
  · subst hq
    simp [updV, va_up, va_rf]
  · simp [updV, va_up, hq]
theorem aw_oinit {idx k0 D mcR msR : Nat} (hd : decode cc pc = .ok (.invokespecial idx, 3)) (hlk : Cond.methodLink own idx objectInit ∈ ax_gw) (hR : R = ax_rm D mcR msR) (hD : 1 ≤ D) (hw : (st.map fun v => v.category).sum ≤ 8) (K : AW l X own nm cc nL ret R QF cells slots (pc + 3) L st h) : AW l X own nm cc nL ret R QF cells slots pc L (.ref k0 :: st) h := by
  intro p e s m args below meth c H locs ls hA hH hS hL
  subst hR
  have hts := hA.2.2.2.2.2.2.1
  have hcat : ((st.map (ax_v X)).map fun v => v.category).sum ≤ 8 := by
    rw [List.map_map]
    have e5 : (fun v => Value.category v) ∘ ax_v X = fun v => v.category := by funext v; exact ax_cat X v
    rw [e5]; exact hw
  refine W.objInit hA.1 hA.2.1 hA.2.2.2.2.2.1 (hts _ hlk) (hts _ xm_i) (hts _ xm_c) rfl (by rw [hA.2.2.1]; exact hL.1) rfl hd hD ?_ (K p e s m args below meth c H locs ls hA hH hS hL)
  have h8 := lv_room (m := m) (pc := pc) (ls := ls) (rest := (Value.ref k0 :: st).map (ax_v X)) hcat
  show _ + 12 ≤ 64 * D
  have h9 : 2 * (F0 m pc ls ((Value.ref k0 :: st).map (ax_v X))).monitorRoom + ((st.map (ax_v X)).map fun v => v.category).sum ≤ 8 := h8
  omega
theorem aw_cIv {index n b : Nat} {y : MethodName} {bytes : ByteArray} {maxL : Nat} {d mc ms D mcR msR : Nat} {As : List Value} {h1 : ax_H} {st0 : List Value}
    (hd : decode cc pc = .ok (.invokespecial index, 3)) (hcl : ax_cl own index y bytes maxL none n) (hvw : y.name = "<init>" ∧ Cond.instanceMethod y ∈ ax_gw) (hM : AM l X y bytes maxL none d mc ms (.ref b :: As) h (fun v h' => v = none ∧ h' = h1)) (hn : As.length = n) (hst : st0 = As.reverse ++ .ref b :: st) (hw : (st.map fun v => v.category).sum ≤ 8) (hR : R = ax_rm D mcR msR) (hD : d + 1 ≤ D) (hm : maxL ≤ 45) (hmc : cells + mc ≤ mcR) (hms : slots + ms ≤ msR)
    (K : AW l X own nm cc nL ret R QF (cells + mc) (slots + ms) (pc + 3) L st h1) : AW l X own nm cc nL ret R QF cells slots pc L st0 h := by
  refine aw_callI hd hcl hvw hM hn hst hw hR hD hm hmc hms ?_
  rintro _ _ ⟨rfl, rfl⟩
  exact K
end AXN
