theorem ax_nb {v : Int32} (h : v = 0 ∨ v = 1) : narrow .boolean (.int v) = .int v := by rcases h with rfl | rfl <;> decide
theorem ax_fb {v : Int32} (h : v = 0 ∨ v = 1) : fits .boolean (.int v) = true := by rcases h with rfl | rfl <;> decide
theorem ax_sw {x : Int32} (n : Nat) (h : ∀ i : Nat, i ≤ n → ¬ x = Int32.ofNat i) (hn : n < 1000 := by omega) : x.toInt < 0 ∨ (n : Int) < x.toInt := by
  by_cases h0 : x.toInt < 0
  · exact Or.inl h0
  · refine Or.inr (Int.not_le.mp fun h1 => ?_)
    refine h x.toInt.toNat (by omega) ?_
    apply Int32.toInt_inj.mp
    have e : (Int32.ofNat x.toInt.toNat).toInt = (x.toInt.toNat : Int) := nI_toInt (n := x.toInt.toNat) (by omega)
    rw [e]
    omega
theorem ax_lk4 {x : Int32} (h1 : ¬ x = (-1 : Int32)) (h2 : ¬ x = (44 : Int32)) (h3 : ¬ x = (45 : Int32)) (h4 : ¬ x = (59 : Int32)) : Op.lookupswitch.offset (#[(-1, 43), (44, 48), (45, 51), (59, 45)] : Array (Int × Int)).toList 54 x.toInt = 54 := by
  have e : ∀ y : Int32, ¬ x = y → ¬ x.toInt = y.toInt := fun y hy q => hy (Int32.toInt_inj.mp q)
  have a1 := e _ h1
  have a2 := e _ h2
  have a3 := e _ h3
  have a4 := e _ h4
  have b1 : (-1 : Int32).toInt = -1 := by decide
  have b2 : (44 : Int32).toInt = 44 := by decide
  have b3 : (45 : Int32).toInt = 45 := by decide
  have b4 : (59 : Int32).toInt = 59 := by decide
  rw [b1] at a1
  rw [b2] at a2
  rw [b3] at a3
  rw [b4] at a4
  generalize x.toInt = z at a1 a2 a3 a4
  simp [Op.lookupswitch.offset, Ne.symm a1, Ne.symm a2, Ne.symm a3, Ne.symm a4, a1, a2, a3, a4]
section AXC
variable {l : Launch} {X : ax_X} {own nm : String} {cc : ByteArray} {nL : Nat} {ret : Option FieldType} {R : Room} {QF : List Frame → Array Value → State → State → Prop} {cells slots pc : Nat} {L : List (Option Value)} {st : List Value} {h : ax_H}
theorem aw_tableAt {dflt hi : Int} {offs : Array Int} {len : Nat} {x : Int32} {off : Int} {tgt : Nat} (i : Nat) (hd : decode cc pc = .ok (.tableswitch dflt 0 hi offs, len)) (hx : x = Int32.ofNat i) (hi : ((i : Int) ≤ hi ∧ i < 1000)) (ho : offs[i]? = some off) (ht : (pc : Int) + off = (tgt : Int)) (k : AW l X own nm cc nL ret R QF cells slots tgt L st h) : AW l X own nm cc nL ret R QF cells slots pc L (.int x :: st) h := by
  have e : x.toInt = (i : Int) := by rw [hx]; exact nI_toInt (n := i) (by omega)
  exact aw_tableIn hd (by omega) (by omega) (by rw [e]; simpa using ho) ht k
theorem aw_cVi {index n b ci : Nat} {C : String} {T : u_T} {N : Nat} {y : MethodName} {bytes : ByteArray} {maxL : Nat} {rt : Option FieldType} {d D mcR msR : Nat} {As : List Value} {fs : List Value} {r : Int32} {h1 : ax_H} {st0 : List Value}
    (hd : decode cc pc = .ok (.invokevirtual index, 3)) (hcl : ax_cl own index y bytes maxL rt n) (hvw : Cond.instanceMethod y ∈ ax_gw ∧ Cond.selects C y y ∈ ax_gw) (hM : AM l X y bytes maxL rt d 0 0 (.ref b :: As) h (fun v h' => v = some (.int r) ∧ h' = h1)) (hci : vwCl[ci]? = some (C, T, N)) (hb : h[b]? = some (.inr (ci, fs))) (hyC : y.cls = C) (hn : As.length = n) (hst : st0 = As.reverse ++ .ref b :: st) (hw : (st.map fun v => v.category).sum ≤ 8) (hR : R = ax_rm D mcR msR) (hD : d + 1 ≤ D) (hm : maxL ≤ 45) (K : AW l X own nm cc nL ret R QF cells slots (pc + 3) L (.int r :: st) h1) (hmc : cells ≤ mcR := by exact Nat.le_refl _) (hms : slots ≤ msR := by exact Nat.le_refl _) : AW l X own nm cc nL ret R QF cells slots pc L st0 h := by
  refine aw_callV hd hcl hvw hM hci hb hyC hn hst hw hR hD hm hmc hms ?_
  rintro _ _ ⟨rfl, rfl⟩
  exact K
theorem aw_cVl {index n b ci : Nat} {C : String} {T : u_T} {N : Nat} {y : MethodName} {bytes : ByteArray} {maxL : Nat} {rt : Option FieldType} {d D mcR msR : Nat} {As : List Value} {fs : List Value} {r : Int64} {h1 : ax_H} {st0 : List Value}
    (hd : decode cc pc = .ok (.invokevirtual index, 3)) (hcl : ax_cl own index y bytes maxL rt n) (hvw : Cond.instanceMethod y ∈ ax_gw ∧ Cond.selects C y y ∈ ax_gw) (hM : AM l X y bytes maxL rt d 0 0 (.ref b :: As) h (fun v h' => v = some (.long r) ∧ h' = h1)) (hci : vwCl[ci]? = some (C, T, N)) (hb : h[b]? = some (.inr (ci, fs))) (hyC : y.cls = C) (hn : As.length = n) (hst : st0 = As.reverse ++ .ref b :: st) (hw : (st.map fun v => v.category).sum ≤ 8) (hR : R = ax_rm D mcR msR) (hD : d + 1 ≤ D) (hm : maxL ≤ 45) (K : AW l X own nm cc nL ret R QF cells slots (pc + 3) L (.long r :: st) h1) (hmc : cells ≤ mcR := by exact Nat.le_refl _) (hms : slots ≤ msR := by exact Nat.le_refl _) : AW l X own nm cc nL ret R QF cells slots pc L st0 h := by
  refine aw_callV hd hcl hvw hM hci hb hyC hn hst hw hR hD hm hmc hms ?_
  rintro _ _ ⟨rfl, rfl⟩
  exact K
theorem aw_cVv {index n b ci : Nat} {C : String} {T : u_T} {N : Nat} {y : MethodName} {bytes : ByteArray} {maxL : Nat} {rt : Option FieldType} {d D mcR msR : Nat} {As : List Value} {fs : List Value} {h1 : ax_H} {st0 : List Value}
    (hd : decode cc pc = .ok (.invokevirtual index, 3)) (hcl : ax_cl own index y bytes maxL rt n) (hvw : Cond.instanceMethod y ∈ ax_gw ∧ Cond.selects C y y ∈ ax_gw) (hM : AM l X y bytes maxL rt d 0 0 (.ref b :: As) h (fun v h' => v = none ∧ h' = h1)) (hci : vwCl[ci]? = some (C, T, N)) (hb : h[b]? = some (.inr (ci, fs))) (hyC : y.cls = C) (hn : As.length = n) (hst : st0 = As.reverse ++ .ref b :: st) (hw : (st.map fun v => v.category).sum ≤ 8) (hR : R = ax_rm D mcR msR) (hD : d + 1 ≤ D) (hm : maxL ≤ 45) (K : AW l X own nm cc nL ret R QF cells slots (pc + 3) L st h1) (hmc : cells ≤ mcR := by exact Nat.le_refl _) (hms : slots ≤ msR := by exact Nat.le_refl _) : AW l X own nm cc nL ret R QF cells slots pc L st0 h := by
  refine aw_callV hd hcl hvw hM hci hb hyC hn hst hw hR hD hm hmc hms ?_
  rintro _ _ ⟨rfl, rfl⟩
  exact K
theorem aw_cSi {index n : Nat} {y : MethodName} {bytes : ByteArray} {maxL : Nat} {rt : Option FieldType} {d D mcR msR : Nat} {As : List Value} {r : Int32} {h1 : ax_H} {st0 : List Value}
    (hd : decode cc pc = .ok (.invokestatic index, 3)) (hcl : ax_cl own index y bytes maxL rt n) (hvw : Cond.static y ∈ ax_gw) (hM : AM l X y bytes maxL rt d 0 0 As h (fun v h' => v = some (.int r) ∧ h' = h1)) (hn : As.length = n) (hst : st0 = As.reverse ++ st) (hw : (st.map fun v => v.category).sum ≤ 8) (hR : R = ax_rm D mcR msR) (hD : d + 1 ≤ D) (hm : maxL ≤ 45) (K : AW l X own nm cc nL ret R QF cells slots (pc + 3) L (.int r :: st) h1) (hmc : cells ≤ mcR := by exact Nat.le_refl _) (hms : slots ≤ msR := by exact Nat.le_refl _) : AW l X own nm cc nL ret R QF cells slots pc L st0 h := by
  refine aw_callS hd hcl hvw hM hn hst hw hR hD hm hmc hms ?_
  rintro _ _ ⟨rfl, rfl⟩
  exact K
theorem aw_cSl {index n : Nat} {y : MethodName} {bytes : ByteArray} {maxL : Nat} {rt : Option FieldType} {d D mcR msR : Nat} {As : List Value} {r : Int64} {h1 : ax_H} {st0 : List Value}
    (hd : decode cc pc = .ok (.invokestatic index, 3)) (hcl : ax_cl own index y bytes maxL rt n) (hvw : Cond.static y ∈ ax_gw) (hM : AM l X y bytes maxL rt d 0 0 As h (fun v h' => v = some (.long r) ∧ h' = h1)) (hn : As.length = n) (hst : st0 = As.reverse ++ st) (hw : (st.map fun v => v.category).sum ≤ 8) (hR : R = ax_rm D mcR msR) (hD : d + 1 ≤ D) (hm : maxL ≤ 45) (K : AW l X own nm cc nL ret R QF cells slots (pc + 3) L (.long r :: st) h1) (hmc : cells ≤ mcR := by exact Nat.le_refl _) (hms : slots ≤ msR := by exact Nat.le_refl _) : AW l X own nm cc nL ret R QF cells slots pc L st0 h := by
  refine aw_callS hd hcl hvw hM hn hst hw hR hD hm hmc hms ?_
  rintro _ _ ⟨rfl, rfl⟩
  exact K
theorem aw_cSv {index n : Nat} {y : MethodName} {bytes : ByteArray} {maxL : Nat} {rt : Option FieldType} {d D mcR msR : Nat} {As : List Value} {h1 : ax_H} {st0 : List Value}
    (hd : decode cc pc = .ok (.invokestatic index, 3)) (hcl : ax_cl own index y bytes maxL rt n) (hvw : Cond.static y ∈ ax_gw) (hM : AM l X y bytes maxL rt d 0 0 As h (fun v h' => v = none ∧ h' = h1)) (hn : As.length = n) (hst : st0 = As.reverse ++ st) (hw : (st.map fun v => v.category).sum ≤ 8) (hR : R = ax_rm D mcR msR) (hD : d + 1 ≤ D) (hm : maxL ≤ 45) (K : AW l X own nm cc nL ret R QF cells slots (pc + 3) L st h1) (hmc : cells ≤ mcR := by exact Nat.le_refl _) (hms : slots ≤ msR := by exact Nat.le_refl _) : AW l X own nm cc nL ret R QF cells slots pc L st0 h := by
  refine aw_callS hd hcl hvw hM hn hst hw hR hD hm hmc hms ?_
  rintro _ _ ⟨rfl, rfl⟩
  exact K
end AXC
theorem wh_go {α β : Type} {f : α → Option (α ⊕ β)} (a : α) (P : α → Prop) (K : β → Prop) {b : β} (h : whT f a = some b) (H : ∀ (a : α) (r : α ⊕ β), f a = some r → Sum.elim P K r → P a) (hb : K b) : P a := wh_walk H h hb
/-- as aw_met, for a method of a class of which other methods are native -/
theorem aw_metF {l : Launch} {X : ax_X} {own nm : String} {cc : ByteArray} {nL : Nat} {mc ms : Nat} {L : List (Option Value)} {h : ax_H} {Q : Option Value → ax_H → Prop} {y : MethodName} {ret : Option FieldType} {d : Nat} {av : List Value} (hy : plainFor y = true) (hown : y.cls = own) (hnm : y.name = nm) (hL : ax_sub L (ax_in av)) (hlen : (lg_sl (av.map (ax_v X))).length ≤ nL)
    (K : AW l X own nm cc nL ret (ax_rm d mc ms) (ax_MQ X Q mc ms) 0 0 0 L [] h) : AM l X y cc nL ret d mc ms av h Q := by
  unfold AM Met
  refine MetFree.of_bodySF (code := cc) (maxLocals := nL) (ret := ret) hy ?_ ?_
  · intro args s m hp hn
    obtain ⟨meth, c, h1, h2, h3, h4, h5, h6, -, -⟩ := Cond.code_spec hn (atoms_spec (ws := Cond.code y cc nL ret :: ax_gw) hp _ List.mem_cons_self)
    exact ⟨meth, c, h1, h2, h3, h4, h5, h6⟩
  · intro p e s m args below meth c s₁ B hml hv _
    obtain ⟨rfl, hH, hK⟩ := hv
    have hts := atoms_spec (ws := Cond.code y cc nL ret :: ax_gw) B.pre
    have hfc : s.vm.findClass y.cls = some m.cls := findClass_of_methodNamed B.named
    have hin : meth.name = y.name := (name_of_methodNamed B.named B.method).1
    have hl := lv_entry (av.map (ax_v X)) (n := nL) hlen
    have hh0 : s₁.heap = s.heap := by rw [B.state]; rfl
    have K1 := K p e s m ((av.map (ax_v X)).toArray) below meth c s.heap [] _ ⟨B.exec, B.bytes, hml, B.returns, B.notSynchronized, by rw [← hown]; exact hfc, fun w hw => hts w (List.mem_cons_of_mem _ hw), hK, by rw [hin]; exact hnm, by rw [hH.2]; exact Nat.le_add_right _ _⟩ hH va_S.rf ⟨hl.1, hl.2.1, fun i v hi => by
      have hi' := ax_sub_get L (ax_in av) i v hL hi
      have hm := ax_in_get X av 0 i v hi'
      rw [Nat.zero_add] at hm
      exact hl.2.2 (i, ax_v X v) hm⟩
    have K2 : W p l e (headSpec (Cond.code y cc nL ret :: ax_gw) (ax_rm d mc ms)).room s m (av.map (ax_v X)).toArray below meth c s.heap [] 0 0 (MQ below (ax_Q X Q) (av.map (ax_v X)).toArray s mc ms (fun q => X.1 ≤ q)) (entryFrame m (av.map (ax_v X)).toArray nL) := by
      rw [lg_entry_eq]
      exact K1
    obtain ⟨t, a1, o, b1, b2, b3⟩ := K2 s₁ hh0 (Stand.of_body B)
    exact ⟨t, o, a1, b1, b2, ⟨b3.1, b3.2⟩⟩
