theorem aw_gnk {l : Launch} {X : ax_X} {own nm : String} {cc : ByteArray} {nL : Nat} {ret : Option FieldType} {R : Room} {QF : List Frame → Array Value → State → State → Prop} {cells slots pc : Nat} {L : List (Option Value)} {st : List Value} {h : ax_H} {index ci N : Nat} {C : String} {T : u_T} {fs : List Value} (k : Nat) (hk : h.length = k) {h1 : ax_H} (hh : h ++ [.inr (ci, fs)] = h1) (ty : Nat → FieldType) (hty : ∀ k, k < N → parseFieldDescriptor (T k).2.2.1 = some (ty k)) (hd : decode cc pc = .ok (.new index, 3)) (hcl : Cond.classLink own index C ∈ ax_gw) (hin : Cond.instantiable C N ∈ ax_gw) (hini : Cond.initialized C ∈ ax_gw) (huw : ∀ w ∈ u_ws C T N, w ∈ ax_gw) (hc : vwCl[ci]? = some (C, T, N)) (hfs : ∀ j, j < N → defaultValue (ty j) = vp_V (fs.map (ax_v X)) j) (hmc : cells + 1 ≤ R.cells) (hms : slots + N ≤ R.slots) (K : AW l X own nm cc nL ret R QF (cells + 1) (slots + N) (pc + 3) L (.ref k :: st) h1) : AW l X own nm cc nL ret R QF cells slots pc L st h := by
  subst hk
  subst hh
  exact aw_gnew ty hty hd hcl hin hini huw hc hfs hmc hms K
theorem aw_gIv {l : Launch} {X : ax_X} {own nm : String} {cc : ByteArray} {nL : Nat} {ret : Option FieldType} {R : Room} {QF : List Frame → Array Value → State → State → Prop} {cells slots pc : Nat} {L : List (Option Value)} {st : List Value} {h : ax_H} {index n b : Nat} {y : MethodName} {bytes : ByteArray} {maxL : Nat} {d mc ms : Nat} {As : List Value} {h1 : ax_H} {st0 : List Value}
    (hd : decode cc pc = .ok (.invokespecial index, 3)) (hcl : ax_cl own index y bytes maxL none n) (hvw : y.name = "<init>" ∧ Cond.instanceMethod y ∈ ax_gw) (hM : AM l X y bytes maxL none d mc ms (.ref b :: As) h (fun v h' => v = none ∧ h' = h1)) (hn : As.length = n) (hst : st0 = As.reverse ++ .ref b :: st) (hw : (st.map fun v => v.category).sum ≤ 8) (hR1 : (ax_rm d mc ms).frames + 1 ≤ R.frames ∧ 8 + (maxL + 11) + (ax_rm d mc ms).locals ≤ R.locals) (hmc : cells + mc ≤ R.cells) (hms : slots + ms ≤ R.slots)
    (K : AW l X own nm cc nL ret R QF (cells + mc) (slots + ms) (pc + 3) L st h1) : AW l X own nm cc nL ret R QF cells slots pc L st0 h := by
  refine aw_genI hd hcl hvw hM hn hst hw hR1 hmc hms ?_
  rintro _ _ ⟨rfl, rfl⟩
  exact K
set_option maxRecDepth 100000 in
set_option maxHeartbeats 1000000 in
/-- the law from its entry, over the empty heap -/
theorem lq_entry {l : Launch} {X : ax_X} {nm : String} {Rel : sx_M → Prop} (h0 : Rel sx_0) (hall : st_all Rel) (hX : X.2.2.2.2.1 ≤ 3072) : LW l X nm 0 0 0 [some (.float 0), none, none, none] [] [] := by
  refine aw_gnk 0 rfl (h1 := [.inr (11, [.null, .null, .null, .null, .null, .null, .null, .null, .null, .null, .null, .null, .null, .null, .null])]) (fs := [.null, .null, .null, .null, .null, .null, .null, .null, .null, .null, .null, .null, .null, .null, .null]) rfl tyX11 tyX11_ok dL_law_0 xc_L_7 xi_X11 xn_X11 uw_11 (ci := 11) rfl (fun j hj => by rcases (show j = 0 ∨ j = 1 ∨ j = 2 ∨ j = 3 ∨ j = 4 ∨ j = 5 ∨ j = 6 ∨ j = 7 ∨ j = 8 ∨ j = 9 ∨ j = 10 ∨ j = 11 ∨ j = 12 ∨ j = 13 ∨ j = 14 by omega) with rfl | rfl | rfl | rfl | rfl | rfl | rfl | rfl | rfl | rfl | rfl | rfl | rfl | rfl | rfl <;> rfl) (Nat.le_of_ble_eq_true rfl) (Nat.le_of_ble_eq_true rfl) ?_
  refine aw_dup dL_law_3 rfl ?_
  refine aw_gIv (b := 0) (As := []) (st := [.ref 0]) (h1 := hx_F) (mc := 57) (ms := 3713) (d := 3) dL_law_4 cl_L_9 ii_X11_init (k_X11_init ⟨rfl, rfl⟩) rfl rfl (Nat.le_of_ble_eq_true rfl) ⟨Nat.le_of_ble_eq_true rfl, Nat.le_of_ble_eq_true rfl⟩ (Nat.le_of_ble_eq_true rfl) (Nat.le_of_ble_eq_true rfl) ?_
  refine aw_astore_n (L' := [some (.float 0), some (.ref 0), none, none]) dL_law_7 rfl (by decide) rfl ?_
  refine aw_gnk 58 rfl (h1 := hx_F ++ [.inr (12, [.null, .null, .int 0, .null, .int 0, .int 0, .int 0, .null, .int 0, .int 0, .int 0, .int 0, .int 0, .null, .null, .int 0, .null, .null, .int 0, .null, .int 0, .int 0, .int 0, .int 0, .null, .null, .int 0, .int 0, .int 0, .int 0, .int 0, .int 0, .null])]) (fs := [.null, .null, .int 0, .null, .int 0, .int 0, .int 0, .null, .int 0, .int 0, .int 0, .int 0, .int 0, .null, .null, .int 0, .null, .null, .int 0, .null, .int 0, .int 0, .int 0, .int 0, .null, .null, .int 0, .int 0, .int 0, .int 0, .int 0, .int 0, .null]) rfl tyX12 tyX12_ok dL_law_8 xc_L_10 xi_X12 xn_X12 uw_12 (ci := 12) rfl (fun j hj => by rcases (show j = 0 ∨ j = 1 ∨ j = 2 ∨ j = 3 ∨ j = 4 ∨ j = 5 ∨ j = 6 ∨ j = 7 ∨ j = 8 ∨ j = 9 ∨ j = 10 ∨ j = 11 ∨ j = 12 ∨ j = 13 ∨ j = 14 ∨ j = 15 ∨ j = 16 ∨ j = 17 ∨ j = 18 ∨ j = 19 ∨ j = 20 ∨ j = 21 ∨ j = 22 ∨ j = 23 ∨ j = 24 ∨ j = 25 ∨ j = 26 ∨ j = 27 ∨ j = 28 ∨ j = 29 ∨ j = 30 ∨ j = 31 ∨ j = 32 by omega) with rfl | rfl | rfl | rfl | rfl | rfl | rfl | rfl | rfl | rfl | rfl | rfl | rfl | rfl | rfl | rfl | rfl | rfl | rfl | rfl | rfl | rfl | rfl | rfl | rfl | rfl | rfl | rfl | rfl | rfl | rfl | rfl | rfl <;> rfl) (Nat.le_of_ble_eq_true rfl) (Nat.le_of_ble_eq_true rfl) ?_
  refine aw_dup dL_law_11 rfl ?_
  refine aw_gIv (b := 58) (As := []) (st := [.ref 58]) (h1 := hx_M) (mc := 12) (ms := 82816) (d := 1) dL_law_12 cl_L_12 ii_X12_init (k_X12_init 58 59 _ rfl rfl ⟨rfl, rfl⟩) rfl rfl (Nat.le_of_ble_eq_true rfl) ⟨Nat.le_of_ble_eq_true rfl, Nat.le_of_ble_eq_true rfl⟩ (Nat.le_of_ble_eq_true rfl) (Nat.le_of_ble_eq_true rfl) ?_
  refine aw_astore_n (L' := [some (.float 0), some (.ref 0), some (.ref 58), none]) dL_law_15 rfl (by decide) rfl ?_
  refine aw_iconst (v := 0) dL_law_16 (by decide) ?_
  refine aw_istore_n (L' := [some (.float 0), some (.ref 0), some (.ref 58), some (.int 0)]) dL_law_17 rfl (by decide) rfl ?_
  refine aw_heq hx_Mq ?_
  refine aw_widen (k := 100 + 0) (n := 90000 + 5 * 0) (Nat.le_of_ble_eq_true rfl) (Nat.le_of_ble_eq_true rfl) ?_
  exact lq_loop hall hX 513 0 sx_0 [] (by omega) (by omega) h0
/-- whole_start, open in the 46 steps -/
theorem whole_open {p : Program} {e : Env} {s : State} {m : MethodId} {below : List Frame} {meth : Method} {c : Code} (l : Launch) {b L : Nat} {xs : Nat → Int32} (hL : L ≤ 3072) (C0 : lw_At p s m meth c b L xs) {Rel : sx_M → Prop} (h0 : Rel sx_0) (hall : st_all Rel) : W p l e room_1 s m #[Value.ref b] below meth c s.heap [] 0 0 (lw_Z below #[Value.ref b] s) (entryFrame m ([Value.ref b] : List Value).toArray 4) := by
  obtain ⟨X, e1, e2, e3, hK⟩ := ax_start C0
  obtain ⟨hx, hb, hr, hml, hown, hts, -, hbl, hlocks, -⟩ := C0
  have k := lq_entry (l := l) (X := X) (nm := meth.name) h0 hall (by rw [e3]; exact hL)
  have hl := lv_entry ([.ref b]) (n := 4) (Nat.le_of_ble_eq_true rfl)
  rw [lg_entry_eq]
  have k2 := k p e s m #[Value.ref b] below meth c s.heap [] _ ⟨hx, hb, hml, hr, hlocks, hown, fun w hw => hts w (List.mem_filter.mp hw).1, hK, rfl, by rw [e1]; exact Nat.le_refl _⟩ ⟨fun k q hq => by simp [ax_ws] at hq, by rw [e1]; rfl⟩ va_S.rf ⟨hl.1, hl.2.1, fun i v hi => ?_⟩
  · intro T hT Xs
    obtain ⟨t, a, b⟩ := k2 T hT Xs
    exact ⟨t, a, b (by rw [e1]; exact Nat.le_refl _)⟩
  · match i, hi with
    | 0, hi =>
      cases hi
      have := hl.2.2 (0, .ref b) List.mem_cons_self
      show _ = some (Slot.val (.ref (X.2.2.2.1 0)))
      rw [e2]
      exact this
    | 1, hi => cases hi
    | 2, hi => cases hi
    | 3, hi => cases hi
    | i + 4, hi => simp at hi
