def R_law : String := "NextBestLaw"
def lw_P (b : Addr) (xs : List Int32) (args : Array Value) (s : State) : Prop := args = #[.ref b] ∧ s.IntsAt b xs ∧ xs.length ≤ 3072 ∧ (Jvm.Cond.and given_1 narrow_1).before args s = true
def lw_Q (_ : Array Value) (s : State) (o : Outcome) (t : State) : Prop := o = .returned (some (.int 1)) ∧ Framed s o t [] 600000 7302250
def lw_Z (below : List Frame) (a : Array Value) (s : State) : State → Prop := fun t => ∃ o, t.status = .running ∧ Ended t below o ∧ lw_Q a s o t
section AXG
variable {l : Launch} {X : ax_X} {own nm : String} {cc : ByteArray} {nL : Nat} {ret : Option FieldType} {R : Room} {QF : List Frame → Array Value → State → State → Prop} {cells slots pc : Nat} {L : List (Option Value)} {st : List Value} {h : ax_H}
theorem aw_genV {index n b ci : Nat} {C : String} {T : u_T} {N : Nat} {y : MethodName} {bytes : ByteArray} {maxL : Nat} {rt : Option FieldType} {d mc ms : Nat} {As : List Value} {fs : List Value} {Q : Option Value → ax_H → Prop} {st0 : List Value}
    (hd : decode cc pc = .ok (.invokevirtual index, 3)) (hcl : ax_cl own index y bytes maxL rt n) (hvw : Cond.instanceMethod y ∈ ax_gw ∧ Cond.selects C y y ∈ ax_gw) (hM : AM l X y bytes maxL rt d mc ms (.ref b :: As) h Q) (hci : vwCl[ci]? = some (C, T, N)) (hb : h[b]? = some (.inr (ci, fs))) (hyC : y.cls = C) (hn : As.length = n) (hst : st0 = As.reverse ++ .ref b :: st) (hw : (st.map fun v => v.category).sum ≤ 8) (hR1 : (ax_rm d mc ms).frames + 1 ≤ R.frames ∧ 8 + (maxL + 11) + (ax_rm d mc ms).locals ≤ R.locals) (hmc : cells + mc ≤ R.cells) (hms : slots + ms ≤ R.slots)
    (K : ∀ (r : Option Value) (h' : ax_H), Q r h' → AW l X own nm cc nL ret R QF (cells + mc) (slots + ms) (pc + 3) L (r.toList ++ st) h') : AW l X own nm cc nL ret R QF cells slots pc L st0 h := by
  intro p e s m args below meth c H locs ls hA hH hS hL
  have hts := hA.2.2.2.2.2.2.1
  have hp : PreV s H C (X.1 + b) (va_Pc ((Value.ref b :: As).map (ax_v X)) (fun U => ax_hp X h U.heap ∧ ax_K X U)) (As.map (ax_v X)) := ⟨ax_blind, va_recv hA.2.2.2.2.2.2.2.1.1 hH.1 hci (ax_ws_at hb), fun U hU hW => ⟨rfl, by rw [hU]; exact hH, hA.2.2.2.2.2.2.2.1.moved hW (fun a h1 h2 => by rw [hU]; exact hS.2.1 a h1 h2)⟩⟩
  have hcat : ((st.map (ax_v X)).map fun v => v.category).sum ≤ 8 := by
    rw [List.map_map]
    have e5 : (fun v => Value.category v) ∘ ax_v X = fun v => v.category := by funext v; exact ax_cat X v
    rw [e5]; exact hw
  have hst' : st0.map (ax_v X) = (As.map (ax_v X)).reverse ++ .ref (X.1 + b) :: st.map (ax_v X) := by rw [hst]; simp [ax_v]
  obtain ⟨⟨c1, c2, c3, c4, c5⟩, hlk | ⟨host, hlk⟩⟩ := hcl
  · have hrun := va_runV (g := F0 m pc ls (st0.map (ax_v X))) (rest := st.map (ax_v X)) (cells := cells) (slots := slots) (locs := locs) (e := e) (below := below) (meth := meth) (nL := nL) (Ts := ax_gw) ⟨hA.1, hA.2.1, hA.2.2.1, hA.2.2.2.2.2.1, hts⟩ hM ⟨callB_of n hts (ax_gIn c1) rfl rfl rfl (hts _ c2) (hts _ hlk) ⟨c3, c4, c5⟩ hR1, hts _ hvw.1, hts _ hvw.2⟩ hp rfl (by rw [List.length_map]; exact hn) hL.1 hst' (lv_room (m := m) (pc := pc) (ls := ls) (rest := st0.map (ax_v X)) hcat) hd ⟨hmc, hms⟩
    exact ax_after hrun hS hA hL K
  · have hrun := va_runVN (g := F0 m pc ls (st0.map (ax_v X))) (rest := st.map (ax_v X)) (cells := cells) (slots := slots) (locs := locs) (e := e) (below := below) (meth := meth) (nL := nL) (Ts := ax_gw) ⟨hA.1, hA.2.1, hA.2.2.1, hA.2.2.2.2.2.1, hts⟩ hM ⟨va_cnB n hts (ax_gIn c1) rfl rfl rfl (hA.2.2.2.2.2.2.2.1.2.2.1 _ hlk) (hts _ c2) ⟨c3, c4, c5⟩ hR1, hts _ hvw.1, hts _ hvw.2⟩ hp rfl (by rw [List.length_map]; exact hn) hL.1 hst' (lv_room (m := m) (pc := pc) (ls := ls) (rest := st0.map (ax_v X)) hcat) hd ⟨hmc, hms⟩
    exact ax_after hrun hS hA hL K
theorem aw_genI {index n b : Nat} {y : MethodName} {bytes : ByteArray} {maxL : Nat} {d mc ms : Nat} {As : List Value} {Q : Option Value → ax_H → Prop} {st0 : List Value}
    (hd : decode cc pc = .ok (.invokespecial index, 3)) (hcl : ax_cl own index y bytes maxL none n) (hvw : y.name = "<init>" ∧ Cond.instanceMethod y ∈ ax_gw) (hM : AM l X y bytes maxL none d mc ms (.ref b :: As) h Q) (hn : As.length = n) (hst : st0 = As.reverse ++ .ref b :: st) (hw : (st.map fun v => v.category).sum ≤ 8) (hR1 : (ax_rm d mc ms).frames + 1 ≤ R.frames ∧ 8 + (maxL + 11) + (ax_rm d mc ms).locals ≤ R.locals) (hmc : cells + mc ≤ R.cells) (hms : slots + ms ≤ R.slots)
    (K : ∀ (r : Option Value) (h' : ax_H), Q r h' → AW l X own nm cc nL ret R QF (cells + mc) (slots + ms) (pc + 3) L (r.toList ++ st) h') : AW l X own nm cc nL ret R QF cells slots pc L st0 h := by
  intro p e s m args below meth c H locs ls hA hH hS hL
  have hts := hA.2.2.2.2.2.2.1
  have hp : PreS s H (va_Pc ((Value.ref b :: As).map (ax_v X)) (fun U => ax_hp X h U.heap ∧ ax_K X U)) (.ref (X.1 + b) :: As.map (ax_v X)) := ⟨ax_blind, fun U hU hW => ⟨rfl, by rw [hU]; exact hH, hA.2.2.2.2.2.2.2.1.moved hW (fun a h1 h2 => by rw [hU]; exact hS.2.1 a h1 h2)⟩⟩
  have hcat : ((st.map (ax_v X)).map fun v => v.category).sum ≤ 8 := by
    rw [List.map_map]
    have e5 : (fun v => Value.category v) ∘ ax_v X = fun v => v.category := by funext v; exact ax_cat X v
    rw [e5]; exact hw
  have hst' : st0.map (ax_v X) = (As.map (ax_v X)).reverse ++ .ref (X.1 + b) :: st.map (ax_v X) := by rw [hst]; simp [ax_v]
  obtain ⟨⟨c1, c2, c3, c4, c5⟩, hlk | ⟨host, hlk⟩⟩ := hcl
  · have hrun := va_runI (g := F0 m pc ls (st0.map (ax_v X))) (rest := st.map (ax_v X)) (cells := cells) (slots := slots) (locs := locs) (e := e) (below := below) (meth := meth) (nL := nL) (Ts := ax_gw) ⟨hA.1, hA.2.1, hA.2.2.1, hA.2.2.2.2.2.1, hts⟩ hM ⟨callB_of n hts (ax_gIn c1) rfl rfl rfl (hts _ c2) (hts _ hlk) ⟨c3, c4, c5⟩ hR1, hvw.1, hts _ hvw.2⟩ hp rfl (by rw [List.length_map]; exact hn) hL.1 hst' (lv_room (m := m) (pc := pc) (ls := ls) (rest := st0.map (ax_v X)) hcat) hd ⟨hmc, hms⟩
    exact ax_after hrun hS hA hL K
  · have hrun := va_runIN (g := F0 m pc ls (st0.map (ax_v X))) (rest := st.map (ax_v X)) (cells := cells) (slots := slots) (locs := locs) (e := e) (below := below) (meth := meth) (nL := nL) (Ts := ax_gw) ⟨hA.1, hA.2.1, hA.2.2.1, hA.2.2.2.2.2.1, hts⟩ hM ⟨va_cnB n hts (ax_gIn c1) rfl rfl rfl (hA.2.2.2.2.2.2.2.1.2.2.1 _ hlk) (hts _ c2) ⟨c3, c4, c5⟩ hR1, hvw.1, hts _ hvw.2⟩ hp rfl (by rw [List.length_map]; exact hn) hL.1 hst' (lv_room (m := m) (pc := pc) (ls := ls) (rest := st0.map (ax_v X)) hcat) hd ⟨hmc, hms⟩
    exact ax_after hrun hS hA hL K
theorem aw_gnew {index ci N : Nat} {C : String} {T : u_T} {fs : List Value} (ty : Nat → FieldType) (hty : ∀ k, k < N → parseFieldDescriptor (T k).2.2.1 = some (ty k)) (hd : decode cc pc = .ok (.new index, 3)) (hcl : Cond.classLink own index C ∈ ax_gw) (hin : Cond.instantiable C N ∈ ax_gw) (hini : Cond.initialized C ∈ ax_gw) (huw : ∀ w ∈ u_ws C T N, w ∈ ax_gw) (hc : vwCl[ci]? = some (C, T, N)) (hfs : ∀ j, j < N → defaultValue (ty j) = vp_V (fs.map (ax_v X)) j) (hmc : cells + 1 ≤ R.cells) (hms : slots + N ≤ R.slots) (K : AW l X own nm cc nL ret R QF (cells + 1) (slots + N) (pc + 3) L (.ref h.length :: st) (h ++ [.inr (ci, fs)])) : AW l X own nm cc nL ret R QF cells slots pc L st h := by
  intro p e s m args below meth c H locs ls hA hH hS hL
  have hts := hA.2.2.2.2.2.2.1
  have hKn := hA.2.2.2.2.2.2.2.1.1.1 ci _ hc
  refine W.newcK hA.1 hA.2.1 hA.2.2.2.2.2.1 (hts _ hcl) (hts _ hin) (hts _ hini) rfl hd hmc hms hKn.2.1 rfl fun H1 kC hkC e1 z1 o1 => ?_
  have k1 := K p e s m args below meth c H1 locs ls hA (ax_hp_push (c1 := .inr (ci, fs)) hH (by rw [← hH.2]; exact ⟨_, hc, (u_born ty hts huw hKn hkC e1 hty).to hfs⟩) z1 o1) (ax_S_push hS z1 o1) hL
  rw [hH.2]
  exact k1
theorem aw_gVi {index n b ci : Nat} {C : String} {T : u_T} {N : Nat} {y : MethodName} {bytes : ByteArray} {maxL : Nat} {rt : Option FieldType} {d : Nat} {As : List Value} {fs : List Value} {r : Int32} {h1 : ax_H} {st0 : List Value}
    (hd : decode cc pc = .ok (.invokevirtual index, 3)) (hcl : ax_cl own index y bytes maxL rt n) (hvw : Cond.instanceMethod y ∈ ax_gw ∧ Cond.selects C y y ∈ ax_gw) (hM : AM l X y bytes maxL rt d 0 0 (.ref b :: As) h (fun v h' => v = some (.int r) ∧ h' = h1)) (hci : vwCl[ci]? = some (C, T, N)) (hb : h[b]? = some (.inr (ci, fs))) (hyC : y.cls = C) (hn : As.length = n) (hst : st0 = As.reverse ++ .ref b :: st) (hw : (st.map fun v => v.category).sum ≤ 8) (hR1 : (ax_rm d 0 0).frames + 1 ≤ R.frames ∧ 8 + (maxL + 11) + (ax_rm d 0 0).locals ≤ R.locals) (hmc : cells ≤ R.cells) (hms : slots ≤ R.slots) (K : AW l X own nm cc nL ret R QF cells slots (pc + 3) L (.int r :: st) h1) : AW l X own nm cc nL ret R QF cells slots pc L st0 h := by
  refine aw_genV hd hcl hvw hM hci hb hyC hn hst hw hR1 hmc hms ?_
  rintro _ _ ⟨rfl, rfl⟩
  exact K
theorem aw_gVl {index n b ci : Nat} {C : String} {T : u_T} {N : Nat} {y : MethodName} {bytes : ByteArray} {maxL : Nat} {rt : Option FieldType} {d : Nat} {As : List Value} {fs : List Value} {r : Int64} {h1 : ax_H} {st0 : List Value}
    (hd : decode cc pc = .ok (.invokevirtual index, 3)) (hcl : ax_cl own index y bytes maxL rt n) (hvw : Cond.instanceMethod y ∈ ax_gw ∧ Cond.selects C y y ∈ ax_gw) (hM : AM l X y bytes maxL rt d 0 0 (.ref b :: As) h (fun v h' => v = some (.long r) ∧ h' = h1)) (hci : vwCl[ci]? = some (C, T, N)) (hb : h[b]? = some (.inr (ci, fs))) (hyC : y.cls = C) (hn : As.length = n) (hst : st0 = As.reverse ++ .ref b :: st) (hw : (st.map fun v => v.category).sum ≤ 8) (hR1 : (ax_rm d 0 0).frames + 1 ≤ R.frames ∧ 8 + (maxL + 11) + (ax_rm d 0 0).locals ≤ R.locals) (hmc : cells ≤ R.cells) (hms : slots ≤ R.slots) (K : AW l X own nm cc nL ret R QF cells slots (pc + 3) L (.long r :: st) h1) : AW l X own nm cc nL ret R QF cells slots pc L st0 h := by
  refine aw_genV hd hcl hvw hM hci hb hyC hn hst hw hR1 hmc hms ?_
  rintro _ _ ⟨rfl, rfl⟩
  exact K
theorem aw_gVf {index n b ci : Nat} {C : String} {T : u_T} {N : Nat} {y : MethodName} {bytes : ByteArray} {maxL : Nat} {rt : Option FieldType} {d mc ms : Nat} {As : List Value} {fs : List Value} {r : Int32} {h1 : ax_H → ax_H} {st0 : List Value}
    (hd : decode cc pc = .ok (.invokevirtual index, 3)) (hcl : ax_cl own index y bytes maxL rt n) (hvw : Cond.instanceMethod y ∈ ax_gw ∧ Cond.selects C y y ∈ ax_gw) (hM : AM l X y bytes maxL rt d mc ms (.ref b :: As) h (fun v h' => v = some (.int r) ∧ ∃ gb', h' = h1 gb')) (hci : vwCl[ci]? = some (C, T, N)) (hb : h[b]? = some (.inr (ci, fs))) (hyC : y.cls = C) (hn : As.length = n) (hst : st0 = As.reverse ++ .ref b :: st) (hw : (st.map fun v => v.category).sum ≤ 8) (hR1 : (ax_rm d mc ms).frames + 1 ≤ R.frames ∧ 8 + (maxL + 11) + (ax_rm d mc ms).locals ≤ R.locals) (hmc : cells + mc ≤ R.cells) (hms : slots + ms ≤ R.slots) (K : ∀ gb', AW l X own nm cc nL ret R QF (cells + mc) (slots + ms) (pc + 3) L (.int r :: st) (h1 gb')) : AW l X own nm cc nL ret R QF cells slots pc L st0 h := by
  refine aw_genV hd hcl hvw hM hci hb hyC hn hst hw hR1 hmc hms ?_
  rintro _ _ ⟨rfl, gb', rfl⟩
  exact K gb'
theorem aw_widen {k n : Nat} (h1 : cells ≤ k) (h2 : slots ≤ n) (K : AW l X own nm cc nL ret R QF k n pc L st h) : AW l X own nm cc nL ret R QF cells slots pc L st h := by
  intro p e s m args below meth c H locs ls hA hH hS hL
  exact W.widen h1 h2 (K p e s m args below meth c H locs ls hA hH hS hL)
theorem aw_heq {h' : ax_H} (e0 : ∀ H, ax_hp X h H → ax_hp X h' H) (K : AW l X own nm cc nL ret R QF cells slots pc L st h') : AW l X own nm cc nL ret R QF cells slots pc L st h := by
  intro p e s m args below meth c H locs ls hA hH hS hL
  exact K p e s m args below meth c H locs ls hA (e0 H hH) hS hL
theorem aw_scl (hd : decode cc pc = .ok (.arraylength, 1)) (K : AW l X own nm cc nL ret R QF cells slots (pc + 1) L (.int (nI X.2.2.2.2.1) :: st) h) : AW l X own nm cc nL ret R QF cells slots pc L (.float 0 :: st) h := by
  intro p e s m args below meth c H locs ls hA hH hS hL
  exact va_tlen hA.1 hA.2.1 hA.2.2.2.2.2.2.2.1.2.2.2.2.2.2.2.1 hS rfl hd (K p e s m args below meth c H locs ls hA hH hS hL)
theorem aw_sc {i : Int32} (j : Nat) (hj : i = nI j) (hlt : j < X.2.2.2.2.1) (h31 : X.2.2.2.2.1 < 2 ^ 31) (hd : decode cc pc = .ok (.iaload, 1)) (K : AW l X own nm cc nL ret R QF cells slots (pc + 1) L (.int (X.2.2.2.2.2 j) :: st) h) : AW l X own nm cc nL ret R QF cells slots pc L (.int i :: .float 0 :: st) h := by
  subst hj
  intro p e s m args below meth c H locs ls hA hH hS hL
  exact va_ti hA.1 hA.2.1 hA.2.2.2.2.2.2.2.1.2.2.2.2.2.2.2.1 hS (vp_in_nI hlt h31) (by rw [nI_clamp (Nat.lt_trans hlt h31)]; rfl) hd (K p e s m args below meth c H locs ls hA hH hS hL)
end AXG
/-- the law's judgement -/
def lq_Q (X : ax_X) : List Frame → Array Value → State → State → Prop := fun below args s t => s.heap.size ≤ X.1 → lw_Z below args s t
abbrev LW (l : Launch) (X : ax_X) (nm : String) (cells slots pc : Nat) (L : List (Option Value)) (st : List Value) (h : ax_H) : Prop := AW l X RL nm code 4 ret room_1 (lq_Q X) cells slots pc L st h
theorem lq_ret {p : Program} {l : Launch} {e : Env} {s : State} {m : MethodId} {args : Array Value} {below : List Frame} {meth : Method} {c : Code} (hx : p.tables.exec = Jvm.exec) (hb : c.code = code) (hr : meth.sig.returnType = ret) (hlocks : meth.locks = false) {pc : Nat} {H : Heap} {ls : Array Slot} (hdg : decode code pc = .ok (.ireturn, 1)) : W p l e room_1 s m args below meth c H [] 600000 7302250 (lw_Z below args s) (F0 m pc ls [.int 1]) := by
  intro T hT X
  obtain ⟨fs, hret, hrun, hended, hW, hframe⟩ := X.leave (v := some (.int 1)) (hlocks := hlocks) (fun h => by rw [hr] at h; cases h)
  have hmeth' : T.vm.method? m = some meth := X.method'
  refine ⟨T.setFrames fs, ?_, .returned (some (.int 1)), hrun, hended, rfl, ⟨_, rfl⟩, hW, hframe⟩
  jvm_step X.here [X.here.top, hx, hb, hdg, hmeth', hr, ret, narrow_b1]
  (try refine ⟨rfl, ?_⟩); (try refine ⟨rfl, ?_⟩)
  first | (intro acts; rw [hret _ acts rfl rfl rfl]) | rw [hret _ _ rfl rfl rfl]
  exact Steps.refl _
theorem lq_end {l : Launch} {X : ax_X} {nm : String} {cells slots pc : Nat} {L : List (Option Value)} {h : ax_H} (hd : decode code pc = .ok (.ireturn, 1)) (h1 : cells ≤ 600000) (h2 : slots ≤ 7302250) : LW l X nm cells slots pc L [.int 1] h := by
  intro p e s m args below meth c H locs ls hA hH hS hL
  by_cases hs : s.heap.size ≤ X.1
  · refine va_forget (fun q hq => Nat.le_trans hs (hS.2.2 q hq)) ?_
    refine W.widen h1 h2 ?_
    have k := lq_ret (l := l) (e := e) (s := s) (m := m) (args := args) (below := below) (H := H) (ls := ls) hA.1 hA.2.1 hA.2.2.2.1 hA.2.2.2.2.1 hd
    intro T hT Xs
    obtain ⟨t, a, b⟩ := k T hT Xs
    exact ⟨t, a, fun _ => b⟩
  · intro T hT Xs
    exact ⟨_, Steps.refl _, fun q => absurd q hs⟩
