theorem ax_nb {v : Int32} (h : v = 0 ∨ v = 1) : narrow .boolean (.int v) = .int v := by rcases h with rfl | rfl <;> decide
theorem ax_fb {v : Int32} (h : v = 0 ∨ v = 1) : fits .boolean (.int v) = true := by rcases h with rfl | rfl <;> decide
theorem ax_sw {x : Int32} (n : Nat) (h : ∀ i : Nat, i ≤ n → ¬ x = Int32.ofNat i) (hn : n < 1000 := by omega) : x.toInt < 0 ∨ (n : Int) < x.toInt := by
  by_cases h0 : x.toInt < 0
  · exact Or.inl h0
  · refine Or.inr (Int.not_le.mp fun h1 => ?_)
    refine h x.toInt.toNat (by omega) ?_
    apply Int32.toInt_inj.mp
    have e : (Int32.ofNat x.toInt.toNat).toInt = (x.toInt.toNat : Int) := nI_toInt (n := x.toInt.toNat) (by omega)
    rw [e]
    omega
theorem ax_lk4 {x : Int32} (h1 : ¬ x = (-1 : Int32)) (h2 : ¬ x = (44 : Int32)) (h3 : ¬ x = (45 : Int32)) (h4 : ¬ x = (59 : Int32)) : Op.lookupswitch.offset (#[(-1, 43), (44, 48), (45, 51), (59, 45)] : Array (Int × Int)).toList 54 x.toInt = 54 := by
  have e : ∀ y : Int32, ¬ x = y → ¬ x.toInt = y.toInt := fun y hy q => hy (Int32.toInt_inj.mp q)
  have a1 := e _ h1
  have a2 := e _ h2
  have a3 := e _ h3
  have a4 := e _ h4
  have b1 : (-1 : Int32).toInt = -1 := by decide
  have b2 : (44 : Int32).toInt = 44 := by decide
  have b3 : (45 : Int32).toInt = 45 := by decide
  have b4 : (59 : Int32).toInt = 59 := by decide
  rw [b1] at a1
  rw [b2] at a2
  rw [b3] at a3
  rw [b4] at a4
  generalize x.toInt = z at a1 a2 a3 a4
  simp [Op.lookupswitch.offset, Ne.symm a1, Ne.symm a2, Ne.symm a3, Ne.symm a4, a1, a2, a3, a4]
section AXC
variable {l : Launch} {X : ax_X} {own nm : String} {cc : ByteArray} {nL : Nat} {ret : Option FieldType} {R : Room} {QF : List Frame → Array Value → State → State → Prop} {cells slots pc : Nat} {L : List (Option Value)} {st : List Value} {h : ax_H}
theorem aw_tableAt {dflt hi : Int} {offs : Array Int} {len : Nat} {x : Int32} {off : Int} {tgt : Nat} (i : Nat) (hd : decode cc pc = .ok (.tableswitch dflt 0 hi offs, len)) (hx : x = Int32.ofNat i) (hi : ((i : Int) ≤ hi ∧ i < 1000)) (ho : offs[i]? = some off) (ht : (pc : Int) + off = (tgt : Int)) (k : AW l X own nm cc nL ret R QF cells slots tgt L st h) : AW l X own nm cc nL ret R QF cells slots pc L (.int x :: st) h := by
  have e : x.toInt = (i : Int) := by rw [hx]; exact nI_toInt (n := i) (by omega)
  exact aw_tableIn hd (by omega) (by omega) (by rw [e]; simpa using ho) ht k
theorem aw_cVi {index n b ci : Nat} {C : String} {T : u_T} {N : Nat} {y : MethodName} {bytes : ByteArray} {maxL : Nat} {rt : Option FieldType} {d D mcR msR : Nat} {As : List Value} {fs : List Value} {r : Int32} {h1 : ax_H} {st0 : List Value}
    (hd : decode cc pc = .ok (.invokevirtual index, 3)) (hcl : ax_cl own index y bytes maxL rt n) (hvw : Cond.instanceMethod y ∈ ax_gw ∧ Cond.selects C y y ∈ ax_gw) (hM : AM l X y bytes maxL rt d 0 0 (.ref b :: As) h (fun v h' => v = some (.int r) ∧ h' = h1)) (hci : vwCl[ci]? = some (C, T, N)) (hb : h[b]? = some (.inr (ci, fs))) (hyC : y.cls = C) (hn : As.length = n) (hst : st0 = As.reverse ++ .ref b :: st) (hw : (st.map fun v => v.category).sum ≤ 8) (hR : R = ax_rm D mcR msR) (hD : d + 1 ≤ D) (hm : maxL ≤ 45) (K : AW l X own nm cc nL ret R QF cells slots (pc + 3) L (.int r :: st) h1) (hmc : cells ≤ mcR := by exact Nat.le_refl _) (hms : slots ≤ msR := by exact Nat.le_refl _) : AW l X own nm cc nL ret R QF cells slots pc L st0 h := by
  refine aw_callV hd hcl hvw hM hci hb hyC hn hst hw hR hD hm hmc hms ?_
  rintro _ _ ⟨rfl, rfl⟩
  exact K
theorem aw_cVl {index n b ci : Nat} {C : String} {T : u_T} {N : Nat} {y : MethodName} {bytes : ByteArray} {maxL : Nat} {rt : Option FieldType} {d D mcR msR : Nat} {As : List Value} {fs : List Value} {r : Int64} {h1 : ax_H} {st0 : List Value}
    (hd : decode cc pc = .ok (.invokevirtual index, 3)) (hcl : ax_cl own index y bytes maxL rt n) (hvw : Cond.instanceMethod y ∈ ax_gw ∧ Cond.selects C y y ∈ ax_gw) (hM : AM l X y bytes maxL rt d 0 0 (.ref b :: As) h (fun v h' => v = some (.long r) ∧ h' = h1)) (hci : vwCl[ci]? = some (C, T, N)) (hb : h[b]? = some (.inr (ci, fs))) (hyC : y.cls = C) (hn : As.length = n) (hst : st0 = As.reverse ++ .ref b :: st) (hw : (st.map fun v => v.category).sum ≤ 8) (hR : R = ax_rm D mcR msR) (hD : d + 1 ≤ D) (hm : maxL ≤ 45) (K : AW l X own nm cc nL ret R QF cells slots (pc + 3) L (.long r :: st) h1) (hmc : cells ≤ mcR := by exact Nat.le_refl _) (hms : slots ≤ msR := by exact Nat.le_refl _) : AW l X own nm cc nL ret R QF cells slots pc L st0 h := by
  refine aw_callV hd hcl hvw hM hci hb hyC hn hst hw hR hD hm hmc hms ?_
  rintro _ _ ⟨rfl, rfl⟩
  exact K
theorem aw_cVv {index n b ci : Nat} {C : String} {T : u_T} {N : Nat} {y : MethodName} {bytes : ByteArray} {maxL : Nat} {rt : Option FieldType} {d D mcR msR : Nat} {As : List Value} {fs : List Value} {h1 : ax_H} {st0 : List Value}
    (hd : decode cc pc = .ok (.invokevirtual index, 3)) (hcl : ax_cl own index y bytes maxL rt n) (hvw : Cond.instanceMethod y ∈ ax_gw ∧ Cond.selects C y y ∈ ax_gw) (hM : AM l X y bytes maxL rt d 0 0 (.ref b :: As) h (fun v h' => v = none ∧ h' = h1)) (hci : vwCl[ci]? = some (C, T, N)) (hb : h[b]? = some (.inr (ci, fs))) (hyC : y.cls = C) (hn : As.length = n) (hst : st0 = As.reverse ++ .ref b :: st) (hw : (st.map fun v => v.category).sum ≤ 8) (hR : R = ax_rm D mcR msR) (hD : d + 1 ≤ D) (hm : maxL ≤ 45) (K : AW l X own nm cc nL ret R QF cells slots (pc + 3) L st h1) (hmc : cells ≤ mcR := by exact Nat.le_refl _) (hms : slots ≤ msR := by exact Nat.le_refl _) : AW l X own nm cc nL ret R QF cells slots pc L st0 h := by
  refine aw_callV hd hcl hvw hM hci hb hyC hn hst hw hR hD hm hmc hms ?_
  rintro _ _ ⟨rfl, rfl⟩
  exact K
theorem aw_cSi {index n : Nat} {y : MethodName} {bytes : ByteArray} {maxL : Nat} {rt : Option FieldType} {d D mcR msR : Nat} {As : List Value} {r : Int32} {h1 : ax_H} {st0 : List Value}
    (hd : decode cc pc = .ok (.invokestatic index, 3)) (hcl : ax_cl own index y bytes maxL rt n) (hvw : Cond.static y ∈ ax_gw) (hM : AM l X y bytes maxL rt d 0 0 As h (fun v h' => v = some (.int r) ∧ h' = h1)) (hn : As.length = n) (hst : st0 = As.reverse ++ st) (hw : (st.map fun v => v.category).sum ≤ 8) (hR : R = ax_rm D mcR msR) (hD : d + 1 ≤ D) (hm : maxL ≤ 45) (K : AW l X own nm cc nL ret R QF cells slots (pc + 3) L (.int r :: st) h1) (hmc : cells ≤ mcR := by exact Nat.le_refl _) (hms : slots ≤ msR := by exact Nat.le_refl _) : AW l X own nm cc nL ret R QF cells slots pc L st0 h := by
  refine aw_callS hd hcl hvw hM hn hst hw hR hD hm hmc hms ?_
  rintro _ _ ⟨rfl, rfl⟩
  exact K
theorem aw_cSl {index n : Nat} {y : MethodName} {bytes : ByteArray} {maxL : Nat} {rt : Option FieldType} {d D mcR msR : Nat} {As : List Value} {r : Int64} {h1 : ax_H} {st0 : List Value}
    (hd : decode cc pc = .ok (.invokestatic index, 3)) (hcl : ax_cl own index y bytes maxL rt n) (hvw : Cond.static y ∈ ax_gw) (hM : AM l X y bytes maxL rt d 0 0 As h (fun v h' => v = some (.long r) ∧ h' = h1)) (hn : As.length = n) (hst : st0 = As.reverse ++ st) (hw : (st.map fun v => v.category).sum ≤ 8) (hR : R = ax_rm D mcR msR) (hD : d + 1 ≤ D) (hm : maxL ≤ 45) (K : AW l X own nm cc nL ret R QF cells slots (pc + 3) L (.long r :: st) h1) (hmc : cells ≤ mcR := by exact Nat.le_refl _) (hms : slots ≤ msR := by exact Nat.le_refl _) : AW l X own nm cc nL ret R QF cells slots pc L st0 h := by
  refine aw_callS hd hcl hvw hM hn hst hw hR hD hm hmc hms ?_
  rintro _ _ ⟨rfl, rfl⟩
  exact K
theorem aw_cSv {index n : Nat} {y : MethodName} {bytes : ByteArray} {maxL : Nat} {rt : Option FieldType} {d D mcR msR : Nat} {As : List Value} {h1 : ax_H} {st0 : List Value}
    (hd : decode cc pc = .ok (.invokestatic index, 3)) (hcl : ax_cl own index y bytes maxL rt n) (hvw : Cond.static y ∈ ax_gw) (hM : AM l X y bytes maxL rt d 0 0 As h (fun v h' => v = none ∧ h' = h1)) (hn : As.length = n) (hst : st0 = As.reverse ++ st) (hw : (st.map fun v => v.category).sum ≤ 8) (hR : R = ax_rm D mcR msR) (hD : d + 1 ≤ D) (hm : maxL ≤ 45) (K : AW l X own nm cc nL ret R QF cells slots (pc + 3) L st h1) (hmc : cells ≤ mcR := by exact Nat.le_refl _) (hms : slots ≤ msR := by exact Nat.le_refl _) : AW l X own nm cc nL ret R QF cells slots pc L st0 h := by
  refine aw_callS hd hcl hvw hM hn hst hw hR hD hm hmc hms ?_
  rintro _ _ ⟨rfl, rfl⟩
  exact K
end AXC
