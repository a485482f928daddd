section AXR
variable {l : Launch} {X : ax_X} {own nm : String} {cc : ByteArray} {nL : Nat} {ret : Option FieldType} {R : Room} {QF : List Frame → Array Value → State → State → Prop} {cells slots pc : Nat} {L : List (Option Value)} {st : List Value} {h : ax_H}
theorem aw_iconst {n : Int} {v : Int32} (hd : decode cc pc = .ok (.iconst n, 1)) (hv : Int32.ofInt n = v) (k : AW l X own nm cc nL ret R QF cells slots (pc + 1) L (.int v :: st) h) : AW l X own nm cc nL ret R QF cells slots pc L (st) h := by
  intro p e s m args below meth c H locs ls hA hH hS hL
  exact lv_iconst hA.1 hA.2.1 hd hv (k p e s m args below meth c H locs ls hA hH hS hL)
theorem aw_bipush {n : Int} {v : Int32} (hd : decode cc pc = .ok (.bipush n, 2)) (hv : (Int8.ofInt n).toInt32 = v) (k : AW l X own nm cc nL ret R QF cells slots (pc + 2) L (.int v :: st) h) : AW l X own nm cc nL ret R QF cells slots pc L (st) h := by
  intro p e s m args below meth c H locs ls hA hH hS hL
  exact lv_bipush hA.1 hA.2.1 hd hv (k p e s m args below meth c H locs ls hA hH hS hL)
theorem aw_sipush {n : Int} {v : Int32} (hd : decode cc pc = .ok (.sipush n, 3)) (hv : (Int16.ofInt n).toInt32 = v) (k : AW l X own nm cc nL ret R QF cells slots (pc + 3) L (.int v :: st) h) : AW l X own nm cc nL ret R QF cells slots pc L (st) h := by
  intro p e s m args below meth c H locs ls hA hH hS hL
  exact lv_sipush hA.1 hA.2.1 hd hv (k p e s m args below meth c H locs ls hA hH hS hL)
theorem aw_lconst {n : Fin 2} {v : Int64} (hd : decode cc pc = .ok (.lconst n, 1)) (hv : Int64.ofNat (n : Nat) = v) (k : AW l X own nm cc nL ret R QF cells slots (pc + 1) L (.long v :: st) h) : AW l X own nm cc nL ret R QF cells slots pc L (st) h := by
  intro p e s m args below meth c H locs ls hA hH hS hL
  exact lv_lconst hA.1 hA.2.1 hd hv (k p e s m args below meth c H locs ls hA hH hS hL)
theorem aw_iload_n {k0 : Fin 4} {i : Nat} {x : Int32} (hd : decode cc pc = .ok (.iload_n k0, 1)) (hi : (k0 : Nat) = i) (hl : L[i]? = some (some (.int x))) (k : AW l X own nm cc nL ret R QF cells slots (pc + 1) L (.int x :: st) h) : AW l X own nm cc nL ret R QF cells slots pc L (st) h := by
  intro p e s m args below meth c H locs ls hA hH hS hL
  exact lv_iload_n hA.1 hA.2.1 hd hi (hL.2.2 _ _ hl) (k p e s m args below meth c H locs ls hA hH hS hL)
theorem aw_iload {i : Nat} {x : Int32} (hd : decode cc pc = .ok (.iload i, 2)) (hl : L[i]? = some (some (.int x))) (k : AW l X own nm cc nL ret R QF cells slots (pc + 2) L (.int x :: st) h) : AW l X own nm cc nL ret R QF cells slots pc L (st) h := by
  intro p e s m args below meth c H locs ls hA hH hS hL
  exact lv_iload hA.1 hA.2.1 hd (hL.2.2 _ _ hl) (k p e s m args below meth c H locs ls hA hH hS hL)
theorem aw_lload_n {k0 : Fin 4} {i : Nat} {x : Int64} (hd : decode cc pc = .ok (.lload_n k0, 1)) (hi : (k0 : Nat) = i) (hl : L[i]? = some (some (.long x))) (k : AW l X own nm cc nL ret R QF cells slots (pc + 1) L (.long x :: st) h) : AW l X own nm cc nL ret R QF cells slots pc L (st) h := by
  intro p e s m args below meth c H locs ls hA hH hS hL
  exact lv_lload_n hA.1 hA.2.1 hd hi (hL.2.2 _ _ hl) (k p e s m args below meth c H locs ls hA hH hS hL)
theorem aw_lload {i : Nat} {x : Int64} (hd : decode cc pc = .ok (.lload i, 2)) (hl : L[i]? = some (some (.long x))) (k : AW l X own nm cc nL ret R QF cells slots (pc + 2) L (.long x :: st) h) : AW l X own nm cc nL ret R QF cells slots pc L (st) h := by
  intro p e s m args below meth c H locs ls hA hH hS hL
  exact lv_lload hA.1 hA.2.1 hd (hL.2.2 _ _ hl) (k p e s m args below meth c H locs ls hA hH hS hL)
theorem aw_aload_n {k0 : Fin 4} {i : Nat} {x : Nat} (hd : decode cc pc = .ok (.aload_n k0, 1)) (hi : (k0 : Nat) = i) (hl : L[i]? = some (some (.ref x))) (k : AW l X own nm cc nL ret R QF cells slots (pc + 1) L (.ref x :: st) h) : AW l X own nm cc nL ret R QF cells slots pc L (st) h := by
  intro p e s m args below meth c H locs ls hA hH hS hL
  exact lv_aload_n hA.1 hA.2.1 hd hi (hL.2.2 _ _ hl) (k p e s m args below meth c H locs ls hA hH hS hL)
theorem aw_aload {i : Nat} {x : Nat} (hd : decode cc pc = .ok (.aload i, 2)) (hl : L[i]? = some (some (.ref x))) (k : AW l X own nm cc nL ret R QF cells slots (pc + 2) L (.ref x :: st) h) : AW l X own nm cc nL ret R QF cells slots pc L (st) h := by
  intro p e s m args below meth c H locs ls hA hH hS hL
  exact lv_aload hA.1 hA.2.1 hd (hL.2.2 _ _ hl) (k p e s m args below meth c H locs ls hA hH hS hL)
theorem aw_aload_nX {k0 : Fin 4} {i : Nat} {x : UInt32} (hd : decode cc pc = .ok (.aload_n k0, 1)) (hi : (k0 : Nat) = i) (hl : L[i]? = some (some (.float x))) (k : AW l X own nm cc nL ret R QF cells slots (pc + 1) L (.float x :: st) h) : AW l X own nm cc nL ret R QF cells slots pc L (st) h := by
  intro p e s m args below meth c H locs ls hA hH hS hL
  exact lv_aload_n hA.1 hA.2.1 hd hi (hL.2.2 _ _ hl) (k p e s m args below meth c H locs ls hA hH hS hL)
theorem aw_aloadX {i : Nat} {x : UInt32} (hd : decode cc pc = .ok (.aload i, 2)) (hl : L[i]? = some (some (.float x))) (k : AW l X own nm cc nL ret R QF cells slots (pc + 2) L (.float x :: st) h) : AW l X own nm cc nL ret R QF cells slots pc L (st) h := by
  intro p e s m args below meth c H locs ls hA hH hS hL
  exact lv_aload hA.1 hA.2.1 hd (hL.2.2 _ _ hl) (k p e s m args below meth c H locs ls hA hH hS hL)
theorem aw_istore_n {k0 : Fin 4} {i : Nat} {x : Int32} {L' : List (Option Value)} (hd : decode cc pc = .ok (.istore_n k0, 1)) (hi : (k0 : Nat) = i) (hn : i < nL) (hl : ax_st1 L i (.int x) = L') (k : AW l X own nm cc nL ret R QF cells slots (pc + 1) L' st h) : AW l X own nm cc nL ret R QF cells slots pc L (.int x :: st) h := by
  subst hl
  intro p e s m args below meth c H locs ls hA hH hS hL
  exact lv_istore_n hA.1 hA.2.1 hd hi (ax_lvl_has hL) hn rfl (fun ls' h' => k p e s m args below meth c H locs ls' hA hH hS (ax_ls_st1 (v := .int x) h'))
theorem aw_istore {i : Nat} {x : Int32} {L' : List (Option Value)} (hd : decode cc pc = .ok (.istore i, 2)) (hn : i < nL) (hl : ax_st1 L i (.int x) = L') (k : AW l X own nm cc nL ret R QF cells slots (pc + 2) L' st h) : AW l X own nm cc nL ret R QF cells slots pc L (.int x :: st) h := by
  subst hl
  intro p e s m args below meth c H locs ls hA hH hS hL
  exact lv_istore hA.1 hA.2.1 hd (ax_lvl_has hL) hn rfl (fun ls' h' => k p e s m args below meth c H locs ls' hA hH hS (ax_ls_st1 (v := .int x) h'))
theorem aw_lstore_n {k0 : Fin 4} {i : Nat} {x : Int64} {L' : List (Option Value)} (hd : decode cc pc = .ok (.lstore_n k0, 1)) (hi : (k0 : Nat) = i) (hn : i + 1 < nL) (hl : ax_st2 L i (.long x) = L') (k : AW l X own nm cc nL ret R QF cells slots (pc + 1) L' st h) : AW l X own nm cc nL ret R QF cells slots pc L (.long x :: st) h := by
  subst hl
  intro p e s m args below meth c H locs ls hA hH hS hL
  exact lv_lstore_n hA.1 hA.2.1 hd hi (ax_lvl_has hL) hn rfl (fun ls' h' => k p e s m args below meth c H locs ls' hA hH hS (ax_ls_st2 (v := .long x) h'))
theorem aw_lstore {i : Nat} {x : Int64} {L' : List (Option Value)} (hd : decode cc pc = .ok (.lstore i, 2)) (hn : i + 1 < nL) (hl : ax_st2 L i (.long x) = L') (k : AW l X own nm cc nL ret R QF cells slots (pc + 2) L' st h) : AW l X own nm cc nL ret R QF cells slots pc L (.long x :: st) h := by
  subst hl
  intro p e s m args below meth c H locs ls hA hH hS hL
  exact lv_lstore hA.1 hA.2.1 hd (ax_lvl_has hL) hn rfl (fun ls' h' => k p e s m args below meth c H locs ls' hA hH hS (ax_ls_st2 (v := .long x) h'))
theorem aw_astore_n {k0 : Fin 4} {i : Nat} {x : Nat} {L' : List (Option Value)} (hd : decode cc pc = .ok (.astore_n k0, 1)) (hi : (k0 : Nat) = i) (hn : i < nL) (hl : ax_st1 L i (.ref x) = L') (k : AW l X own nm cc nL ret R QF cells slots (pc + 1) L' st h) : AW l X own nm cc nL ret R QF cells slots pc L (.ref x :: st) h := by
  subst hl
  intro p e s m args below meth c H locs ls hA hH hS hL
  exact lv_astore_n hA.1 hA.2.1 hd hi (ax_lvl_has hL) hn rfl (fun ls' h' => k p e s m args below meth c H locs ls' hA hH hS (ax_ls_st1 (v := .ref x) h'))
theorem aw_astore {i : Nat} {x : Nat} {L' : List (Option Value)} (hd : decode cc pc = .ok (.astore i, 2)) (hn : i < nL) (hl : ax_st1 L i (.ref x) = L') (k : AW l X own nm cc nL ret R QF cells slots (pc + 2) L' st h) : AW l X own nm cc nL ret R QF cells slots pc L (.ref x :: st) h := by
  subst hl
  intro p e s m args below meth c H locs ls hA hH hS hL
  exact lv_astore hA.1 hA.2.1 hd (ax_lvl_has hL) hn rfl (fun ls' h' => k p e s m args below meth c H locs ls' hA hH hS (ax_ls_st1 (v := .ref x) h'))
theorem aw_iinc {i : Nat} {n : Int} {x v : Int32} {L' : List (Option Value)} (hd : decode cc pc = .ok (.iinc i n, 3)) (hg : L[i]? = some (some (.int x))) (hv : x + Int32.ofInt n = v) (hn : i < nL) (hl : ax_st1 L i (.int v) = L') (k : AW l X own nm cc nL ret R QF cells slots (pc + 3) L' st h) : AW l X own nm cc nL ret R QF cells slots pc L st h := by
  subst hl
  intro p e s m args below meth c H locs ls hA hH hS hL
  obtain ⟨kk, -, hkk⟩ : ∃ kk, True ∧ (ax_lvl X L)[kk]? = some (i, Value.int x) := by
    obtain ⟨kk, hk⟩ := List.getElem?_of_mem (ax_lvl_in (X := X) hg)
    exact ⟨kk, trivial, hk⟩
  exact lv_iinc hA.1 hA.2.1 hd (ax_lvl_has hL) hkk hv hn rfl (fun ls' h' => k p e s m args below meth c H locs ls' hA hH hS (ax_ls_st1 (v := .int v) h'))
theorem aw_iadd {x y : Int32} (hd : decode cc pc = .ok (.iadd, 1)) (k : AW l X own nm cc nL ret R QF cells slots (pc + 1) L (.int (x + y) :: st) h) : AW l X own nm cc nL ret R QF cells slots pc L (.int y :: .int x :: st) h := by
  intro p e s m args below meth c H locs ls hA hH hS hL
  exact lv_iadd hA.1 hA.2.1 hd (k p e s m args below meth c H locs ls hA hH hS hL)
theorem aw_isub {x y : Int32} (hd : decode cc pc = .ok (.isub, 1)) (k : AW l X own nm cc nL ret R QF cells slots (pc + 1) L (.int (x - y) :: st) h) : AW l X own nm cc nL ret R QF cells slots pc L (.int y :: .int x :: st) h := by
  intro p e s m args below meth c H locs ls hA hH hS hL
  exact lv_isub hA.1 hA.2.1 hd (k p e s m args below meth c H locs ls hA hH hS hL)
theorem aw_imul {x y : Int32} (hd : decode cc pc = .ok (.imul, 1)) (k : AW l X own nm cc nL ret R QF cells slots (pc + 1) L (.int (x * y) :: st) h) : AW l X own nm cc nL ret R QF cells slots pc L (.int y :: .int x :: st) h := by
  intro p e s m args below meth c H locs ls hA hH hS hL
  exact lv_imul hA.1 hA.2.1 hd (k p e s m args below meth c H locs ls hA hH hS hL)
theorem aw_iand {x y : Int32} (hd : decode cc pc = .ok (.iand, 1)) (k : AW l X own nm cc nL ret R QF cells slots (pc + 1) L (.int (x &&& y) :: st) h) : AW l X own nm cc nL ret R QF cells slots pc L (.int y :: .int x :: st) h := by
  intro p e s m args below meth c H locs ls hA hH hS hL
  exact lv_iand hA.1 hA.2.1 hd (k p e s m args below meth c H locs ls hA hH hS hL)
theorem aw_ior {x y : Int32} (hd : decode cc pc = .ok (.ior, 1)) (k : AW l X own nm cc nL ret R QF cells slots (pc + 1) L (.int (x ||| y) :: st) h) : AW l X own nm cc nL ret R QF cells slots pc L (.int y :: .int x :: st) h := by
  intro p e s m args below meth c H locs ls hA hH hS hL
  exact lv_ior hA.1 hA.2.1 hd (k p e s m args below meth c H locs ls hA hH hS hL)
theorem aw_ixor {x y : Int32} (hd : decode cc pc = .ok (.ixor, 1)) (k : AW l X own nm cc nL ret R QF cells slots (pc + 1) L (.int (x ^^^ y) :: st) h) : AW l X own nm cc nL ret R QF cells slots pc L (.int y :: .int x :: st) h := by
  intro p e s m args below meth c H locs ls hA hH hS hL
  exact lv_ixor hA.1 hA.2.1 hd (k p e s m args below meth c H locs ls hA hH hS hL)
theorem aw_ishl {x y : Int32} (hd : decode cc pc = .ok (.ishl, 1)) (k : AW l X own nm cc nL ret R QF cells slots (pc + 1) L (.int (x <<< (y &&& 31)) :: st) h) : AW l X own nm cc nL ret R QF cells slots pc L (.int y :: .int x :: st) h := by
  intro p e s m args below meth c H locs ls hA hH hS hL
  exact lv_ishl hA.1 hA.2.1 hd (k p e s m args below meth c H locs ls hA hH hS hL)
theorem aw_ishr {x y : Int32} (hd : decode cc pc = .ok (.ishr, 1)) (k : AW l X own nm cc nL ret R QF cells slots (pc + 1) L (.int (x >>> (y &&& 31)) :: st) h) : AW l X own nm cc nL ret R QF cells slots pc L (.int y :: .int x :: st) h := by
  intro p e s m args below meth c H locs ls hA hH hS hL
  exact lv_ishr hA.1 hA.2.1 hd (k p e s m args below meth c H locs ls hA hH hS hL)
theorem aw_idiv {x y : Int32} (hd : decode cc pc = .ok (.idiv, 1)) (hne : ¬ y = 0) (k : AW l X own nm cc nL ret R QF cells slots (pc + 1) L (.int (x / y) :: st) h) : AW l X own nm cc nL ret R QF cells slots pc L (.int y :: .int x :: st) h := by
  intro p e s m args below meth c H locs ls hA hH hS hL
  exact lv_idiv hA.1 hA.2.1 hd hne (k p e s m args below meth c H locs ls hA hH hS hL)
theorem aw_irem {x y : Int32} (hd : decode cc pc = .ok (.irem, 1)) (hne : ¬ y = 0) (k : AW l X own nm cc nL ret R QF cells slots (pc + 1) L (.int (x - x / y * y) :: st) h) : AW l X own nm cc nL ret R QF cells slots pc L (.int y :: .int x :: st) h := by
  intro p e s m args below meth c H locs ls hA hH hS hL
  exact lv_irem hA.1 hA.2.1 hd hne (k p e s m args below meth c H locs ls hA hH hS hL)
theorem aw_ladd {x y : Int64} (hd : decode cc pc = .ok (.ladd, 1)) (k : AW l X own nm cc nL ret R QF cells slots (pc + 1) L (.long (x + y) :: st) h) : AW l X own nm cc nL ret R QF cells slots pc L (.long y :: .long x :: st) h := by
  intro p e s m args below meth c H locs ls hA hH hS hL
  exact lv_ladd hA.1 hA.2.1 hd (k p e s m args below meth c H locs ls hA hH hS hL)
theorem aw_lsub {x y : Int64} (hd : decode cc pc = .ok (.lsub, 1)) (k : AW l X own nm cc nL ret R QF cells slots (pc + 1) L (.long (x - y) :: st) h) : AW l X own nm cc nL ret R QF cells slots pc L (.long y :: .long x :: st) h := by
  intro p e s m args below meth c H locs ls hA hH hS hL
  exact lv_lsub hA.1 hA.2.1 hd (k p e s m args below meth c H locs ls hA hH hS hL)
theorem aw_lmul {x y : Int64} (hd : decode cc pc = .ok (.lmul, 1)) (k : AW l X own nm cc nL ret R QF cells slots (pc + 1) L (.long (x * y) :: st) h) : AW l X own nm cc nL ret R QF cells slots pc L (.long y :: .long x :: st) h := by
  intro p e s m args below meth c H locs ls hA hH hS hL
  exact lv_lmul hA.1 hA.2.1 hd (k p e s m args below meth c H locs ls hA hH hS hL)
theorem aw_land {x y : Int64} (hd : decode cc pc = .ok (.land, 1)) (k : AW l X own nm cc nL ret R QF cells slots (pc + 1) L (.long (x &&& y) :: st) h) : AW l X own nm cc nL ret R QF cells slots pc L (.long y :: .long x :: st) h := by
  intro p e s m args below meth c H locs ls hA hH hS hL
  exact lv_land hA.1 hA.2.1 hd (k p e s m args below meth c H locs ls hA hH hS hL)
theorem aw_lor {x y : Int64} (hd : decode cc pc = .ok (.lor, 1)) (k : AW l X own nm cc nL ret R QF cells slots (pc + 1) L (.long (x ||| y) :: st) h) : AW l X own nm cc nL ret R QF cells slots pc L (.long y :: .long x :: st) h := by
  intro p e s m args below meth c H locs ls hA hH hS hL
  exact lv_lor hA.1 hA.2.1 hd (k p e s m args below meth c H locs ls hA hH hS hL)
theorem aw_ldiv {x y : Int64} (hd : decode cc pc = .ok (.ldiv, 1)) (hne : ¬ y = 0) (k : AW l X own nm cc nL ret R QF cells slots (pc + 1) L (.long (x / y) :: st) h) : AW l X own nm cc nL ret R QF cells slots pc L (.long y :: .long x :: st) h := by
  intro p e s m args below meth c H locs ls hA hH hS hL
  exact lv_ldiv hA.1 hA.2.1 hd hne (k p e s m args below meth c H locs ls hA hH hS hL)
theorem aw_lrem {x y : Int64} (hd : decode cc pc = .ok (.lrem, 1)) (hne : ¬ y = 0) (k : AW l X own nm cc nL ret R QF cells slots (pc + 1) L (.long (x - x / y * y) :: st) h) : AW l X own nm cc nL ret R QF cells slots pc L (.long y :: .long x :: st) h := by
  intro p e s m args below meth c H locs ls hA hH hS hL
  exact lv_lrem hA.1 hA.2.1 hd hne (k p e s m args below meth c H locs ls hA hH hS hL)
theorem aw_ineg {x : Int32} (hd : decode cc pc = .ok (.ineg, 1)) (k : AW l X own nm cc nL ret R QF cells slots (pc + 1) L (.int (-x) :: st) h) : AW l X own nm cc nL ret R QF cells slots pc L (.int x :: st) h := by
  intro p e s m args below meth c H locs ls hA hH hS hL
  exact lv_ineg hA.1 hA.2.1 hd (k p e s m args below meth c H locs ls hA hH hS hL)
theorem aw_lneg {x : Int64} (hd : decode cc pc = .ok (.lneg, 1)) (k : AW l X own nm cc nL ret R QF cells slots (pc + 1) L (.long (-x) :: st) h) : AW l X own nm cc nL ret R QF cells slots pc L (.long x :: st) h := by
  intro p e s m args below meth c H locs ls hA hH hS hL
  exact lv_lneg hA.1 hA.2.1 hd (k p e s m args below meth c H locs ls hA hH hS hL)
theorem aw_i2l {x : Int32} (hd : decode cc pc = .ok (.i2l, 1)) (k : AW l X own nm cc nL ret R QF cells slots (pc + 1) L (.long x.toInt64 :: st) h) : AW l X own nm cc nL ret R QF cells slots pc L (.int x :: st) h := by
  intro p e s m args below meth c H locs ls hA hH hS hL
  exact lv_i2l hA.1 hA.2.1 hd rfl (k p e s m args below meth c H locs ls hA hH hS hL)
theorem aw_l2i {x : Int64} (hd : decode cc pc = .ok (.l2i, 1)) (k : AW l X own nm cc nL ret R QF cells slots (pc + 1) L (.int x.toInt32 :: st) h) : AW l X own nm cc nL ret R QF cells slots pc L (.long x :: st) h := by
  intro p e s m args below meth c H locs ls hA hH hS hL
  exact lv_l2i hA.1 hA.2.1 hd rfl (k p e s m args below meth c H locs ls hA hH hS hL)
theorem aw_i2b {x : Int32} (hd : decode cc pc = .ok (.i2b, 1)) (k : AW l X own nm cc nL ret R QF cells slots (pc + 1) L (.int x.toInt8.toInt32 :: st) h) : AW l X own nm cc nL ret R QF cells slots pc L (.int x :: st) h := by
  intro p e s m args below meth c H locs ls hA hH hS hL
  exact lv_i2b hA.1 hA.2.1 hd rfl (k p e s m args below meth c H locs ls hA hH hS hL)
theorem aw_i2c {x : Int32} (hd : decode cc pc = .ok (.i2c, 1)) (k : AW l X own nm cc nL ret R QF cells slots (pc + 1) L (.int (x.toUInt32 % 65536).toInt32 :: st) h) : AW l X own nm cc nL ret R QF cells slots pc L (.int x :: st) h := by
  intro p e s m args below meth c H locs ls hA hH hS hL
  exact lv_i2c hA.1 hA.2.1 hd rfl (k p e s m args below meth c H locs ls hA hH hS hL)
theorem aw_iushr {x y : Int32} (hd : decode cc pc = .ok (.iushr, 1)) (k : AW l X own nm cc nL ret R QF cells slots (pc + 1) L (.int (x.toUInt32 >>> (y.toUInt32 &&& Int32.toUInt32 31)).toInt32 :: st) h) : AW l X own nm cc nL ret R QF cells slots pc L (.int y :: .int x :: st) h := by
  intro p e s m args below meth c H locs ls hA hH hS hL
  exact lv_iushr hA.1 hA.2.1 hd rfl (k p e s m args below meth c H locs ls hA hH hS hL)
theorem aw_lushr {x : Int64} {y : Int32} (hd : decode cc pc = .ok (.lushr, 1)) (k : AW l X own nm cc nL ret R QF cells slots (pc + 1) L (.long (x.toUInt64 >>> (y.toInt64.toUInt64 &&& Int64.toUInt64 63)).toInt64 :: st) h) : AW l X own nm cc nL ret R QF cells slots pc L (.int y :: .long x :: st) h := by
  intro p e s m args below meth c H locs ls hA hH hS hL
  exact lv_lushr hA.1 hA.2.1 hd rfl (k p e s m args below meth c H locs ls hA hH hS hL)
theorem aw_lshl {x : Int64} {y : Int32} (hd : decode cc pc = .ok (.lshl, 1)) (k : AW l X own nm cc nL ret R QF cells slots (pc + 1) L (.long (x <<< (y.toInt64 &&& 63)) :: st) h) : AW l X own nm cc nL ret R QF cells slots pc L (.int y :: .long x :: st) h := by
  intro p e s m args below meth c H locs ls hA hH hS hL
  exact lv_lshl hA.1 hA.2.1 hd rfl (k p e s m args below meth c H locs ls hA hH hS hL)
theorem aw_lshr {x : Int64} {y : Int32} (hd : decode cc pc = .ok (.lshr, 1)) (k : AW l X own nm cc nL ret R QF cells slots (pc + 1) L (.long (x >>> (y.toInt64 &&& 63)) :: st) h) : AW l X own nm cc nL ret R QF cells slots pc L (.int y :: .long x :: st) h := by
  intro p e s m args below meth c H locs ls hA hH hS hL
  exact lv_lshr hA.1 hA.2.1 hd rfl (k p e s m args below meth c H locs ls hA hH hS hL)
theorem aw_dup {va : Value} (hd : decode cc pc = .ok (.dup, 1)) (hva : va.category = 1) (k : AW l X own nm cc nL ret R QF cells slots (pc + 1) L (va :: va :: st) h) : AW l X own nm cc nL ret R QF cells slots pc L (va :: st) h := by
  intro p e s m args below meth c H locs ls hA hH hS hL
  exact lv_dup hA.1 hA.2.1 hd (by rw [ax_cat]; exact hva) (k p e s m args below meth c H locs ls hA hH hS hL)
theorem aw_pop {va : Value} (hd : decode cc pc = .ok (.pop, 1)) (hva : va.category = 1) (k : AW l X own nm cc nL ret R QF cells slots (pc + 1) L (st) h) : AW l X own nm cc nL ret R QF cells slots pc L (va :: st) h := by
  intro p e s m args below meth c H locs ls hA hH hS hL
  exact lv_pop hA.1 hA.2.1 hd (by rw [ax_cat]; exact hva) (k p e s m args below meth c H locs ls hA hH hS hL)
theorem aw_dup2_11 {va vb : Value} (hd : decode cc pc = .ok (.dup2, 1)) (hva : va.category = 1) (hvb : vb.category = 1) (k : AW l X own nm cc nL ret R QF cells slots (pc + 1) L (va :: vb :: va :: vb :: st) h) : AW l X own nm cc nL ret R QF cells slots pc L (va :: vb :: st) h := by
  intro p e s m args below meth c H locs ls hA hH hS hL
  exact lv_dup2_11 hA.1 hA.2.1 hd (by rw [ax_cat]; exact hva) (by rw [ax_cat]; exact hvb) (k p e s m args below meth c H locs ls hA hH hS hL)
theorem aw_dup2_2 {va : Value} (hd : decode cc pc = .ok (.dup2, 1)) (hva : va.category = 2) (k : AW l X own nm cc nL ret R QF cells slots (pc + 1) L (va :: va :: st) h) : AW l X own nm cc nL ret R QF cells slots pc L (va :: st) h := by
  intro p e s m args below meth c H locs ls hA hH hS hL
  exact lv_dup2_2 hA.1 hA.2.1 hd (by rw [ax_cat]; exact hva) (k p e s m args below meth c H locs ls hA hH hS hL)
theorem aw_ldc {index : Nat} {v : Int32} (hd : decode cc pc = .ok (.ldc index, 2)) (hw : Jvm.Cond.constant own index v ∈ ax_gw) (k : AW l X own nm cc nL ret R QF cells slots (pc + 2) L (.int v :: st) h) : AW l X own nm cc nL ret R QF cells slots pc L st h := by
  intro p e s m args below meth c H locs ls hA hH hS hL
  exact lv_ldc hA.1 hA.2.1 hA.2.2.2.2.2.1 (hA.2.2.2.2.2.2.1 _ hw) hd (k p e s m args below meth c H locs ls hA hH hS hL)
theorem aw_ldcw {index : Nat} {v : Int32} (hd : decode cc pc = .ok (.ldc_w index, 3)) (hw : Jvm.Cond.constant own index v ∈ ax_gw) (k : AW l X own nm cc nL ret R QF cells slots (pc + 3) L (.int v :: st) h) : AW l X own nm cc nL ret R QF cells slots pc L st h := by
  intro p e s m args below meth c H locs ls hA hH hS hL
  exact lv_ldcw hA.1 hA.2.1 hA.2.2.2.2.2.1 (hA.2.2.2.2.2.2.1 _ hw) hd (k p e s m args below meth c H locs ls hA hH hS hL)
theorem aw_ldc2 {index : Nat} {v : Int64} (hd : decode cc pc = .ok (.ldc2_w index, 3)) (hw : Jvm.Cond.constantLong own index v ∈ ax_gw) (k : AW l X own nm cc nL ret R QF cells slots (pc + 3) L (.long v :: st) h) : AW l X own nm cc nL ret R QF cells slots pc L st h := by
  intro p e s m args below meth c H locs ls hA hH hS hL
  exact lv_ldc2 hA.1 hA.2.1 hA.2.2.2.2.2.1 (hA.2.2.2.2.2.2.1 _ hw) hd (k p e s m args below meth c H locs ls hA hH hS hL)
theorem aw_if_eq {x : Int32} {off : Int} {tgt : Nat} (hd : decode cc pc = .ok (.ifCond .eq off, 3)) (ht : (pc : Int) + off = (tgt : Int)) (kt : x = 0 → AW l X own nm cc nL ret R QF cells slots tgt L st h) (kf : ¬ x = 0 → AW l X own nm cc nL ret R QF cells slots (pc + 3) L st h) : AW l X own nm cc nL ret R QF cells slots pc L (.int x :: st) h := by
  intro p e s m args below meth c H locs ls hA hH hS hL
  exact lv_if_eq hA.1 hA.2.1 hd ht (fun q => kt q p e s m args below meth c H locs ls hA hH hS hL) (fun q => kf q p e s m args below meth c H locs ls hA hH hS hL)
theorem aw_icmp_eq {x y : Int32} {off : Int} {tgt : Nat} (hd : decode cc pc = .ok (.if_icmp .eq off, 3)) (ht : (pc : Int) + off = (tgt : Int)) (kt : x = y → AW l X own nm cc nL ret R QF cells slots tgt L st h) (kf : ¬ x = y → AW l X own nm cc nL ret R QF cells slots (pc + 3) L st h) : AW l X own nm cc nL ret R QF cells slots pc L (.int y :: .int x :: st) h := by
  intro p e s m args below meth c H locs ls hA hH hS hL
  exact lv_icmp_eq hA.1 hA.2.1 hd ht (fun q => kt q p e s m args below meth c H locs ls hA hH hS hL) (fun q => kf q p e s m args below meth c H locs ls hA hH hS hL)
theorem aw_lcmp_eq {x y : Int64} {off : Int} {tgt : Nat} (hd0 : decode cc pc = .ok (.lcmp, 1)) (hd : decode cc (pc + 1) = .ok (.ifCond .eq off, 3)) (ht : ((pc + 1 : Nat) : Int) + off = (tgt : Int)) (kt : x = y → AW l X own nm cc nL ret R QF cells slots tgt L st h) (kf : ¬ x = y → AW l X own nm cc nL ret R QF cells slots (pc + 1 + 3) L st h) : AW l X own nm cc nL ret R QF cells slots pc L (.long y :: .long x :: st) h := by
  intro p e s m args below meth c H locs ls hA hH hS hL
  refine W.lcmp hA.1 hA.2.1 hd0 ?_
  exact lv_if_eq hA.1 hA.2.1 hd ht (fun q => kt ((lg_cmp_eq x y).mp q) p e s m args below meth c H locs ls hA hH hS hL) (fun q => kf (fun w => q ((lg_cmp_eq x y).mpr w)) p e s m args below meth c H locs ls hA hH hS hL)
theorem aw_if_ne {x : Int32} {off : Int} {tgt : Nat} (hd : decode cc pc = .ok (.ifCond .ne off, 3)) (ht : (pc : Int) + off = (tgt : Int)) (kt : ¬ x = 0 → AW l X own nm cc nL ret R QF cells slots tgt L st h) (kf : x = 0 → AW l X own nm cc nL ret R QF cells slots (pc + 3) L st h) : AW l X own nm cc nL ret R QF cells slots pc L (.int x :: st) h := by
  intro p e s m args below meth c H locs ls hA hH hS hL
  exact lv_if_ne hA.1 hA.2.1 hd ht (fun q => kt q p e s m args below meth c H locs ls hA hH hS hL) (fun q => kf q p e s m args below meth c H locs ls hA hH hS hL)
theorem aw_icmp_ne {x y : Int32} {off : Int} {tgt : Nat} (hd : decode cc pc = .ok (.if_icmp .ne off, 3)) (ht : (pc : Int) + off = (tgt : Int)) (kt : ¬ x = y → AW l X own nm cc nL ret R QF cells slots tgt L st h) (kf : x = y → AW l X own nm cc nL ret R QF cells slots (pc + 3) L st h) : AW l X own nm cc nL ret R QF cells slots pc L (.int y :: .int x :: st) h := by
  intro p e s m args below meth c H locs ls hA hH hS hL
  exact lv_icmp_ne hA.1 hA.2.1 hd ht (fun q => kt q p e s m args below meth c H locs ls hA hH hS hL) (fun q => kf q p e s m args below meth c H locs ls hA hH hS hL)
theorem aw_lcmp_ne {x y : Int64} {off : Int} {tgt : Nat} (hd0 : decode cc pc = .ok (.lcmp, 1)) (hd : decode cc (pc + 1) = .ok (.ifCond .ne off, 3)) (ht : ((pc + 1 : Nat) : Int) + off = (tgt : Int)) (kt : ¬ x = y → AW l X own nm cc nL ret R QF cells slots tgt L st h) (kf : x = y → AW l X own nm cc nL ret R QF cells slots (pc + 1 + 3) L st h) : AW l X own nm cc nL ret R QF cells slots pc L (.long y :: .long x :: st) h := by
  intro p e s m args below meth c H locs ls hA hH hS hL
  refine W.lcmp hA.1 hA.2.1 hd0 ?_
  exact lv_if_ne hA.1 hA.2.1 hd ht (fun q => kt (fun w => q ((lg_cmp_eq x y).mpr w)) p e s m args below meth c H locs ls hA hH hS hL) (fun q => kf ((lg_cmp_eq x y).mp q) p e s m args below meth c H locs ls hA hH hS hL)
theorem aw_if_lt {x : Int32} {off : Int} {tgt : Nat} (hd : decode cc pc = .ok (.ifCond .lt off, 3)) (ht : (pc : Int) + off = (tgt : Int)) (kt : x < 0 → AW l X own nm cc nL ret R QF cells slots tgt L st h) (kf : ¬ x < 0 → AW l X own nm cc nL ret R QF cells slots (pc + 3) L st h) : AW l X own nm cc nL ret R QF cells slots pc L (.int x :: st) h := by
  intro p e s m args below meth c H locs ls hA hH hS hL
  exact lv_if_lt hA.1 hA.2.1 hd ht (fun q => kt q p e s m args below meth c H locs ls hA hH hS hL) (fun q => kf q p e s m args below meth c H locs ls hA hH hS hL)
theorem aw_icmp_lt {x y : Int32} {off : Int} {tgt : Nat} (hd : decode cc pc = .ok (.if_icmp .lt off, 3)) (ht : (pc : Int) + off = (tgt : Int)) (kt : x < y → AW l X own nm cc nL ret R QF cells slots tgt L st h) (kf : ¬ x < y → AW l X own nm cc nL ret R QF cells slots (pc + 3) L st h) : AW l X own nm cc nL ret R QF cells slots pc L (.int y :: .int x :: st) h := by
  intro p e s m args below meth c H locs ls hA hH hS hL
  exact lv_icmp_lt hA.1 hA.2.1 hd ht (fun q => kt q p e s m args below meth c H locs ls hA hH hS hL) (fun q => kf q p e s m args below meth c H locs ls hA hH hS hL)
theorem aw_lcmp_lt {x y : Int64} {off : Int} {tgt : Nat} (hd0 : decode cc pc = .ok (.lcmp, 1)) (hd : decode cc (pc + 1) = .ok (.ifCond .lt off, 3)) (ht : ((pc + 1 : Nat) : Int) + off = (tgt : Int)) (kt : x < y → AW l X own nm cc nL ret R QF cells slots tgt L st h) (kf : ¬ x < y → AW l X own nm cc nL ret R QF cells slots (pc + 1 + 3) L st h) : AW l X own nm cc nL ret R QF cells slots pc L (.long y :: .long x :: st) h := by
  intro p e s m args below meth c H locs ls hA hH hS hL
  refine W.lcmp hA.1 hA.2.1 hd0 ?_
  exact lv_if_lt hA.1 hA.2.1 hd ht (fun q => kt ((lg_cmp_lt x y).mp q) p e s m args below meth c H locs ls hA hH hS hL) (fun q => kf (fun w => q ((lg_cmp_lt x y).mpr w)) p e s m args below meth c H locs ls hA hH hS hL)
theorem aw_if_ge {x : Int32} {off : Int} {tgt : Nat} (hd : decode cc pc = .ok (.ifCond .ge off, 3)) (ht : (pc : Int) + off = (tgt : Int)) (kt : 0 ≤ x → AW l X own nm cc nL ret R QF cells slots tgt L st h) (kf : ¬ 0 ≤ x → AW l X own nm cc nL ret R QF cells slots (pc + 3) L st h) : AW l X own nm cc nL ret R QF cells slots pc L (.int x :: st) h := by
  intro p e s m args below meth c H locs ls hA hH hS hL
  exact lv_if_ge hA.1 hA.2.1 hd ht (fun q => kt q p e s m args below meth c H locs ls hA hH hS hL) (fun q => kf q p e s m args below meth c H locs ls hA hH hS hL)
theorem aw_icmp_ge {x y : Int32} {off : Int} {tgt : Nat} (hd : decode cc pc = .ok (.if_icmp .ge off, 3)) (ht : (pc : Int) + off = (tgt : Int)) (kt : y ≤ x → AW l X own nm cc nL ret R QF cells slots tgt L st h) (kf : ¬ y ≤ x → AW l X own nm cc nL ret R QF cells slots (pc + 3) L st h) : AW l X own nm cc nL ret R QF cells slots pc L (.int y :: .int x :: st) h := by
  intro p e s m args below meth c H locs ls hA hH hS hL
  exact lv_icmp_ge hA.1 hA.2.1 hd ht (fun q => kt q p e s m args below meth c H locs ls hA hH hS hL) (fun q => kf q p e s m args below meth c H locs ls hA hH hS hL)
theorem aw_lcmp_ge {x y : Int64} {off : Int} {tgt : Nat} (hd0 : decode cc pc = .ok (.lcmp, 1)) (hd : decode cc (pc + 1) = .ok (.ifCond .ge off, 3)) (ht : ((pc + 1 : Nat) : Int) + off = (tgt : Int)) (kt : y ≤ x → AW l X own nm cc nL ret R QF cells slots tgt L st h) (kf : ¬ y ≤ x → AW l X own nm cc nL ret R QF cells slots (pc + 1 + 3) L st h) : AW l X own nm cc nL ret R QF cells slots pc L (.long y :: .long x :: st) h := by
  intro p e s m args below meth c H locs ls hA hH hS hL
  refine W.lcmp hA.1 hA.2.1 hd0 ?_
  exact lv_if_ge hA.1 hA.2.1 hd ht (fun q => kt ((lg_cmp_ge x y).mp q) p e s m args below meth c H locs ls hA hH hS hL) (fun q => kf (fun w => q ((lg_cmp_ge x y).mpr w)) p e s m args below meth c H locs ls hA hH hS hL)
theorem aw_if_gt {x : Int32} {off : Int} {tgt : Nat} (hd : decode cc pc = .ok (.ifCond .gt off, 3)) (ht : (pc : Int) + off = (tgt : Int)) (kt : 0 < x → AW l X own nm cc nL ret R QF cells slots tgt L st h) (kf : ¬ 0 < x → AW l X own nm cc nL ret R QF cells slots (pc + 3) L st h) : AW l X own nm cc nL ret R QF cells slots pc L (.int x :: st) h := by
  intro p e s m args below meth c H locs ls hA hH hS hL
  exact lv_if_gt hA.1 hA.2.1 hd ht (fun q => kt q p e s m args below meth c H locs ls hA hH hS hL) (fun q => kf q p e s m args below meth c H locs ls hA hH hS hL)
theorem aw_icmp_gt {x y : Int32} {off : Int} {tgt : Nat} (hd : decode cc pc = .ok (.if_icmp .gt off, 3)) (ht : (pc : Int) + off = (tgt : Int)) (kt : y < x → AW l X own nm cc nL ret R QF cells slots tgt L st h) (kf : ¬ y < x → AW l X own nm cc nL ret R QF cells slots (pc + 3) L st h) : AW l X own nm cc nL ret R QF cells slots pc L (.int y :: .int x :: st) h := by
  intro p e s m args below meth c H locs ls hA hH hS hL
  exact lv_icmp_gt hA.1 hA.2.1 hd ht (fun q => kt q p e s m args below meth c H locs ls hA hH hS hL) (fun q => kf q p e s m args below meth c H locs ls hA hH hS hL)
theorem aw_lcmp_gt {x y : Int64} {off : Int} {tgt : Nat} (hd0 : decode cc pc = .ok (.lcmp, 1)) (hd : decode cc (pc + 1) = .ok (.ifCond .gt off, 3)) (ht : ((pc + 1 : Nat) : Int) + off = (tgt : Int)) (kt : y < x → AW l X own nm cc nL ret R QF cells slots tgt L st h) (kf : ¬ y < x → AW l X own nm cc nL ret R QF cells slots (pc + 1 + 3) L st h) : AW l X own nm cc nL ret R QF cells slots pc L (.long y :: .long x :: st) h := by
  intro p e s m args below meth c H locs ls hA hH hS hL
  refine W.lcmp hA.1 hA.2.1 hd0 ?_
  exact lv_if_gt hA.1 hA.2.1 hd ht (fun q => kt ((lg_cmp_gt x y).mp q) p e s m args below meth c H locs ls hA hH hS hL) (fun q => kf (fun w => q ((lg_cmp_gt x y).mpr w)) p e s m args below meth c H locs ls hA hH hS hL)
theorem aw_if_le {x : Int32} {off : Int} {tgt : Nat} (hd : decode cc pc = .ok (.ifCond .le off, 3)) (ht : (pc : Int) + off = (tgt : Int)) (kt : x ≤ 0 → AW l X own nm cc nL ret R QF cells slots tgt L st h) (kf : ¬ x ≤ 0 → AW l X own nm cc nL ret R QF cells slots (pc + 3) L st h) : AW l X own nm cc nL ret R QF cells slots pc L (.int x :: st) h := by
  intro p e s m args below meth c H locs ls hA hH hS hL
  exact lv_if_le hA.1 hA.2.1 hd ht (fun q => kt q p e s m args below meth c H locs ls hA hH hS hL) (fun q => kf q p e s m args below meth c H locs ls hA hH hS hL)
theorem aw_icmp_le {x y : Int32} {off : Int} {tgt : Nat} (hd : decode cc pc = .ok (.if_icmp .le off, 3)) (ht : (pc : Int) + off = (tgt : Int)) (kt : x ≤ y → AW l X own nm cc nL ret R QF cells slots tgt L st h) (kf : ¬ x ≤ y → AW l X own nm cc nL ret R QF cells slots (pc + 3) L st h) : AW l X own nm cc nL ret R QF cells slots pc L (.int y :: .int x :: st) h := by
  intro p e s m args below meth c H locs ls hA hH hS hL
  exact lv_icmp_le hA.1 hA.2.1 hd ht (fun q => kt q p e s m args below meth c H locs ls hA hH hS hL) (fun q => kf q p e s m args below meth c H locs ls hA hH hS hL)
theorem aw_lcmp_le {x y : Int64} {off : Int} {tgt : Nat} (hd0 : decode cc pc = .ok (.lcmp, 1)) (hd : decode cc (pc + 1) = .ok (.ifCond .le off, 3)) (ht : ((pc + 1 : Nat) : Int) + off = (tgt : Int)) (kt : x ≤ y → AW l X own nm cc nL ret R QF cells slots tgt L st h) (kf : ¬ x ≤ y → AW l X own nm cc nL ret R QF cells slots (pc + 1 + 3) L st h) : AW l X own nm cc nL ret R QF cells slots pc L (.long y :: .long x :: st) h := by
  intro p e s m args below meth c H locs ls hA hH hS hL
  refine W.lcmp hA.1 hA.2.1 hd0 ?_
  exact lv_if_le hA.1 hA.2.1 hd ht (fun q => kt ((lg_cmp_le x y).mp q) p e s m args below meth c H locs ls hA hH hS hL) (fun q => kf (fun w => q ((lg_cmp_le x y).mpr w)) p e s m args below meth c H locs ls hA hH hS hL)
theorem aw_goto {off : Int} {tgt : Nat} (hd : decode cc pc = .ok (.goto off, 3)) (ht : (pc : Int) + off = (tgt : Int)) (k : AW l X own nm cc nL ret R QF cells slots tgt L st h) : AW l X own nm cc nL ret R QF cells slots pc L st h := by
  intro p e s m args below meth c H locs ls hA hH hS hL
  exact lv_goto hA.1 hA.2.1 hd ht (k p e s m args below meth c H locs ls hA hH hS hL)
theorem aw_tableOut {dflt lo hi : Int} {offs : Array Int} {len : Nat} {x : Int32} {tgt : Nat} (hd : decode cc pc = .ok (.tableswitch dflt lo hi offs, len)) (hx : x.toInt < lo ∨ hi < x.toInt) (ht : (pc : Int) + dflt = (tgt : Int)) (k : AW l X own nm cc nL ret R QF cells slots tgt L st h) : AW l X own nm cc nL ret R QF cells slots pc L (.int x :: st) h := by
  intro p e s m args below meth c H locs ls hA hH hS hL
  exact lv_tableOut hA.1 hA.2.1 hd hx ht (k p e s m args below meth c H locs ls hA hH hS hL)
theorem aw_tableIn {dflt lo hi : Int} {offs : Array Int} {len : Nat} {x : Int32} {off : Int} {tgt : Nat} (hd : decode cc pc = .ok (.tableswitch dflt lo hi offs, len)) (h1 : ¬ x.toInt < lo) (h2 : ¬ hi < x.toInt) (ho : offs[(x.toInt - lo).toNat]? = some off) (ht : (pc : Int) + off = (tgt : Int)) (k : AW l X own nm cc nL ret R QF cells slots tgt L st h) : AW l X own nm cc nL ret R QF cells slots pc L (.int x :: st) h := by
  intro p e s m args below meth c H locs ls hA hH hS hL
  exact lv_tableIn hA.1 hA.2.1 hd h1 h2 ho ht (k p e s m args below meth c H locs ls hA hH hS hL)
theorem aw_lookup {dflt : Int} {ps : Array (Int × Int)} {len : Nat} {x : Int32} {off : Int} {tgt : Nat} (hd : decode cc pc = .ok (.lookupswitch dflt ps, len)) (hp : (ps.toList.zip (ps.toList.drop 1)).all (fun (a, next) => a.1 < next.1) = true) (ho : Op.lookupswitch.offset ps.toList dflt x.toInt = off) (ht : (pc : Int) + off = (tgt : Int)) (k : AW l X own nm cc nL ret R QF cells slots tgt L st h) : AW l X own nm cc nL ret R QF cells slots pc L (.int x :: st) h := by
  intro p e s m args below meth c H locs ls hA hH hS hL
  exact lv_lookup hA.1 hA.2.1 hd hp ho ht (k p e s m args below meth c H locs ls hA hH hS hL)
theorem aw_less {L' : List (Option Value)} (hs : ax_sub L' L) (k : AW l X own nm cc nL ret R QF cells slots pc L' st h) : AW l X own nm cc nL ret R QF cells slots pc L st h := by
  intro p e s m args below meth c H locs ls hA hH hS hL
  exact k p e s m args below meth c H locs ls hA hH hS ⟨hL.1, hL.2.1, fun i v hi => hL.2.2 i v (ax_sub_get L' L i v hs hi)⟩
theorem aw_get {index k0 ci k : Nat} {fs : List Value} {v : Value} (hd : decode cc pc = .ok (.getfield index, 3)) (hf : ax_fl own index ci k) (hc : h[k0]? = some (.inr (ci, fs))) (hv : fs[k]? = some v) (K : AW l X own nm cc nL ret R QF cells slots (pc + 3) L (v :: st) h) : AW l X own nm cc nL ret R QF cells slots pc L (.ref k0 :: st) h := by
  intro p e s m args below meth c H locs ls hA hH hS hL
  obtain ⟨C, T, N, hcl, hk, hin, hlk | ⟨host, hlk⟩⟩ := hf
  · exact va_get (v := ax_v X v) hA.1 hA.2.1 hA.2.2.2.2.2.2.1 hin hA.2.2.2.2.2.1 hA.2.2.2.2.2.2.2.1.1 hH.1 k0 (ax_ws_at hc) hcl k hk (hA.2.2.2.2.2.2.1 _ hlk) (fun _ q => q) (by rw [List.getElem?_map, hv]; rfl) hd (K p e s m args below meth c H locs ls hA hH hS hL)
  · exact va_getN (v := ax_v X v) hA.1 hA.2.1 hA.2.2.2.2.2.2.1 hin hA.2.2.2.2.2.1 hA.2.2.2.2.2.2.2.1.1 hH.1 k0 (ax_ws_at hc) hcl k hk (va_Nw.use rfl (hA.2.2.2.2.2.2.2.1.2.2.1 _ hlk)) (fun _ q => q) (by rw [List.getElem?_map, hv]; rfl) hd (K p e s m args below meth c H locs ls hA hH hS hL)
theorem ax_hp_set {H H1 : Heap} {k0 : Nat} {c0 c1 : ax_E} (hH : ax_hp X h H) (hc : h[k0]? = some c0) (he : va_at X.2.1 vwCl (X.1 + k0, ax_ce X c1) H1) (z : H1.size = H.size) (oq : ∀ q : Nat, q ≠ X.1 + k0 → H1[q]? = H[q]?) : ax_hp X (h.set k0 c1) H1 := by
  refine ⟨?_, by rw [z, hH.2, List.length_set]⟩
  rw [← ax_ws_set]
  exact hH.1.set (ax_D X h) (ax_ws_at hc) he oq
theorem aw_put {index k0 ci k : Nat} {fs : List Value} {v : Value} {ty : FieldType} (fin : Bool) (hd : decode cc pc = .ok (.putfield index, 3)) (hf : ax_fp own index ci k ty fin) (hfn : fin = true → nm = "<init>") (hc : h[k0]? = some (.inr (ci, fs))) (hl : k < fs.length) (hn : narrow ty (ax_v X v) = ax_v X v) (hfit : fits ty (ax_v X v) = true) (K : AW l X own nm cc nL ret R QF cells slots (pc + 3) L st (h.set k0 (.inr (ci, fs.set k v)))) : AW l X own nm cc nL ret R QF cells slots pc L (v :: .ref k0 :: st) h := by
  intro p e s m args below meth c H locs ls hA hH hS hL
  obtain ⟨C, T, N, ty0, hcl, hk, hin, hty, hnm, hfin, rfl, hlk⟩ := hf
  have hts := hA.2.2.2.2.2.2.1
  have hown := hA.2.2.2.2.2.1
  have hK := hA.2.2.2.2.2.2.2.1.1
  have he := ax_ws_at (X := X) hc
  have hap := va_apart (own := own) hts hin ty0 hty hnm hK hcl
  obtain ⟨r, h1, cell, q1, q2, q3, q4⟩ := hH.1 k0 _ he
  have hr : r = (C, T, N) := Option.some.inj (h1.symm.trans hcl)
  subst hr
  obtain ⟨hSl, hfc, kC, hkC, hkind⟩ := hK.1 ci _ hcl
  obtain ⟨cf, kf, fi, f, hi, hsl⟩ := hSl k hk
  have hlay := hts _ (hin _ (u_in_lay hk))
  unfold u_lay at hlay
  have hst := (u_facts hfc hkC (u_lays hts hin hk) hi).1
  have fin_ : ∀ H' : Heap, H'[X.1 + k0]? = some (cell.setSlot f.slot (ax_v X v)) → H'.size = H.size → (∀ q : Nat, q ≠ X.1 + k0 → H'[q]? = H[q]?) → W p l e R s m args below meth c H' (locs ++ [⟨X.1 + k0, f.slot⟩]) cells slots (QF below args s) (F0 m (pc + 3) ls (st.map (ax_v X))) := by
    intro H' e1 e2 e3
    rw [hsl] at e1 ⊢
    refine K p e s m args below meth c H' _ ls hA (ax_hp_set (c1 := .inr (ci, fs.set k v)) hH hc ?_ e2 e3) (hS.put e2 e3 (Nat.le_add_right _ _)) hL
    refine ⟨_, hcl, t_OB.to (V := updV (vp_V (fs.map (ax_v X))) k (ax_v X v)) ⟨_, e1, q2, q3, t_set q4 hap hk (ax_v X v)⟩ (fun j _ => ?_)⟩
    rw [List.map_set]
    exact vp_updV_set (by rw [List.length_map]; exact hl) (ax_v X v) j
  by_cases hfb : fin = true
  · subst hfb
    rw [if_pos hfin] at hlay
    rcases hlk with ⟨hlk, hdecl⟩ | ⟨hff, -⟩
    · have hcf : m.cls = cf := by
        obtain ⟨_, _, c', _, _, _, -, -, hf', -, -, -, hown2, -⟩ := Cond.laysFinal_spec hlay
        have e1 : c' = cf := by have := hi.symm.trans hf'; simp at this; exact this.1.symm
        rw [hdecl rfl] at hown2
        rw [← e1]; exact Option.some.inj (hown.symm.trans hown2)
      have h6 := u_fits hfc hkC hkind (Or.inr hlay) hi (hty k hk) hn hfit
      exact W.putFinK hA.1 hA.2.1 hown (hts _ hlk) hi hst hcf (hA.2.2.2.2.2.2.2.2.1.trans (hfn rfl)) (by rw [q2]; exact h6) q1 q3 (by rw [hsl]; exact k2_hasslot (q4 k hk)) rfl rfl hd fin_
    · cases hff
  · have hff : fin = false := by cases fin <;> simp_all
    subst hff
    rw [if_neg (by rw [hfin]; decide)] at hlay
    have h6 := u_store hfc hkC hkind hlay hi (hty k hk) hn hfit
    rcases hlk with ⟨hlk, -⟩ | ⟨-, host, hlk⟩
    · exact W.putK hA.1 hA.2.1 (f := f) ⟨hown, hts _ hlk, ⟨_, _, _, hi⟩, hst⟩ (by rw [q2]; exact h6) q1 q3 (by rw [hsl]; exact k2_hasslot (q4 k hk)) rfl rfl hd fin_
    · exact va_WputK hA.1 hA.2.1 (f := f) hown (va_Nw.use rfl (hA.2.2.2.2.2.2.2.1.2.2.1 _ hlk)) hi hst (by rw [q2]; exact h6) q1 q3 (by rw [hsl]; exact k2_hasslot (q4 k hk)) rfl rfl hd fin_
theorem aw_iald {k0 n : Nat} {f : Nat → Int32} {i : Int32} (hd : decode cc pc = .ok (.iaload, 1)) (hc : h[k0]? = some (.inl (.int, n, .inl f))) (hi : vp_in i n) (K : AW l X own nm cc nL ret R QF cells slots (pc + 1) L (.int (f i.toNatClampNeg) :: st) h) : AW l X own nm cc nL ret R QF cells slots pc L (.int i :: .ref k0 :: st) h := by
  intro p e s m args below meth c H locs ls hA hH hS hL
  exact va_iald hA.1 hA.2.1 (hA.2.2.2.2.2.2.2.1.arr (ty := .int) (by decide)) hH.1 k0 0 (ax_ws_at hc) rfl hi hd (K p e s m args below meth c H locs ls hA hH hS hL)
theorem aw_bald {k0 n : Nat} {f : Nat → Int32} {i : Int32} (hd : decode cc pc = .ok (.baload, 1)) (hc : h[k0]? = some (.inl (.byte, n, .inl f))) (hi : vp_in i n) (K : AW l X own nm cc nL ret R QF cells slots (pc + 1) L (.int (f i.toNatClampNeg) :: st) h) : AW l X own nm cc nL ret R QF cells slots pc L (.int i :: .ref k0 :: st) h := by
  intro p e s m args below meth c H locs ls hA hH hS hL
  exact va_bald hA.1 hA.2.1 (hA.2.2.2.2.2.2.2.1.arr (ty := .byte) (by decide)) hH.1 k0 0 (ax_ws_at hc) rfl hi hd (K p e s m args below meth c H locs ls hA hH hS hL)
theorem aw_lald {k0 n : Nat} {f : Nat → Int64} {i : Int32} (hd : decode cc pc = .ok (.laload, 1)) (hc : h[k0]? = some (.inl (.long, n, .inr (.inl f)))) (hi : vp_in i n) (K : AW l X own nm cc nL ret R QF cells slots (pc + 1) L (.long (f i.toNatClampNeg) :: st) h) : AW l X own nm cc nL ret R QF cells slots pc L (.int i :: .ref k0 :: st) h := by
  intro p e s m args below meth c H locs ls hA hH hS hL
  exact va_lald hA.1 hA.2.1 (hA.2.2.2.2.2.2.2.1.arr (ty := .long) (by decide)) hH.1 k0 0 (ax_ws_at hc) rfl hi hd (K p e s m args below meth c H locs ls hA hH hS hL)
theorem aw_aald {k0 n : Nat} {f : Nat → Option Nat} {i : Int32} {r : Nat} (hd : decode cc pc = .ok (.aaload, 1)) (hc : h[k0]? = some (.inl (.object "NextBest$Grid", n, .inr (.inr (.inr (.inr f)))))) (hi : vp_in i n) (hr : f i.toNatClampNeg = some r) (K : AW l X own nm cc nL ret R QF cells slots (pc + 1) L (.ref r :: st) h) : AW l X own nm cc nL ret R QF cells slots pc L (.int i :: .ref k0 :: st) h := by
  intro p e s m args below meth c H locs ls hA hH hS hL
  refine va_aldq hA.1 hA.2.1 (hA.2.2.2.2.2.2.2.1.arr (ty := .object "NextBest$Grid") (by decide)) hH.1 k0 0 (ax_ws_at hc) rfl hi hd ?_
  have e0 : va_rf ((f i.toNatClampNeg).map (fun k => X.1 + k)) = .ref (X.1 + r) := by rw [hr]; rfl
  show W p l e R s m args below meth c H locs cells slots (QF below args s) (F0 m (pc + 1) ls (va_rf ((f i.toNatClampNeg).map (fun k => X.1 + k)) :: st.map (ax_v X)))
  rw [e0]
  exact K p e s m args below meth c H locs ls hA hH hS hL
theorem aw_alen {k0 : Nat} {ty : FieldType} {n : Nat} {pay : (Nat → Int32) ⊕ (Nat → Int64) ⊕ (Nat → UInt32) ⊕ (Nat → UInt64) ⊕ (Nat → Option Nat)} {v : Int32} (hd : decode cc pc = .ok (.arraylength, 1)) (hc : h[k0]? = some (.inl (ty, n, pay))) (hty : ty ∈ ax_tys) (hv : Int32.ofNat n = v) (K : AW l X own nm cc nL ret R QF cells slots (pc + 1) L (.int v :: st) h) : AW l X own nm cc nL ret R QF cells slots pc L (.ref k0 :: st) h := by
  intro p e s m args below meth c H locs ls hA hH hS hL
  have e0 : (ax_arr X (n, pay)).1 = n := by rcases pay with _ | _ | _ | _ | _ <;> rfl
  exact va_alen hA.1 hA.2.1 (hA.2.2.2.2.2.2.2.1.arr hty) hH.1 k0 0 (ax_ws_at hc) rfl (by rw [e0]; exact hv) hd (K p e s m args below meth c H locs ls hA hH hS hL)
theorem aw_iast {k0 n : Nat} {f : Nat → Int32} {i : Int32} {x : Int32} (hd : decode cc pc = .ok (.iastore, 1)) (hc : h[k0]? = some (.inl (.int, n, .inl f))) (hi : vp_in i n) (K : AW l X own nm cc nL ret R QF cells slots (pc + 1) L st (h.set k0 (.inl (.int, n, .inl (upd f i.toNatClampNeg x))))) : AW l X own nm cc nL ret R QF cells slots pc L (.int x :: .int i :: .ref k0 :: st) h := by
  intro p e s m args below meth c H locs ls hA hH hS hL
  have hA3 := hA.2.2.2.2.2.2.2.1.arr (ty := .int) (by decide)
  refine W.iast hA.1 hA.2.1 (hH.1 k0 _ (ax_ws_at hc)) ((hA3.2 0 _ rfl).1 n (fun j => .int (f j))) (fun q => by cases q) (by show ¬ (i < 0 ∨ (arrV _ _ _).slots.size ≤ _); rw [arrV_size]; exact hi) rfl rfl hd fun H1 e1 z oq => ?_
  refine K p e s m args below meth c H1 _ ls hA (ax_hp_set (c1 := .inl (.int, n, .inl (upd f i.toNatClampNeg x))) hH hc ?_ z oq) (hS.put z oq (Nat.le_add_right _ _)) hL
  show H1[X.1 + k0]? = some (vp_cell (X.2.2.1 .int) (n, .inl (upd f i.toNatClampNeg x)))
  rw [e1]
  show some _ = _
  rw [vp_cell_i]
  show some ((arrV (X.2.2.1 .int) n (fun j => .int (f j))).setSlot _ _) = _
  rw [arrV_store]
  congr 2
  funext q
  by_cases hq : q = i.toNatClampNeg
  · subst hq
    simp [updV, upd]
    try rfl
  · simp [updV, upd, hq]
theorem aw_last {k0 n : Nat} {f : Nat → Int64} {i : Int32} {x : Int64} (hd : decode cc pc = .ok (.lastore, 1)) (hc : h[k0]? = some (.inl (.long, n, .inr (.inl f)))) (hi : vp_in i n) (K : AW l X own nm cc nL ret R QF cells slots (pc + 1) L st (h.set k0 (.inl (.long, n, .inr (.inl (vp_updL f i.toNatClampNeg x)))))) : AW l X own nm cc nL ret R QF cells slots pc L (.long x :: .int i :: .ref k0 :: st) h := by
  intro p e s m args below meth c H locs ls hA hH hS hL
  have hA3 := hA.2.2.2.2.2.2.2.1.arr (ty := .long) (by decide)
  refine W.last hA.1 hA.2.1 (hH.1 k0 _ (ax_ws_at hc)) ((hA3.2 0 _ rfl).1 n (fun j => .long (f j))) (fun q => by cases q) (by show ¬ (i < 0 ∨ (arrV _ _ _).slots.size ≤ _); rw [arrV_size]; exact hi) rfl rfl hd fun H1 e1 z oq => ?_
  refine K p e s m args below meth c H1 _ ls hA (ax_hp_set (c1 := .inl (.long, n, .inr (.inl (vp_updL f i.toNatClampNeg x)))) hH hc ?_ z oq) (hS.put z oq (Nat.le_add_right _ _)) hL
  show H1[X.1 + k0]? = some (vp_cell (X.2.2.1 .long) (n, .inr (.inl (vp_updL f i.toNatClampNeg x))))
  rw [e1]
  show some _ = _
  rw [vp_cell_l]
  show some ((arrV (X.2.2.1 .long) n (fun j => .long (f j))).setSlot _ _) = _
  rw [arrV_store]
  congr 2
  funext q
  by_cases hq : q = i.toNatClampNeg
  · subst hq
    simp [updV, vp_updL]
    try rfl
  · simp [updV, vp_updL, hq]
theorem aw_bast {k0 n : Nat} {f : Nat → Int32} {i : Int32} {x : Int32} (hd : decode cc pc = .ok (.bastore, 1)) (hc : h[k0]? = some (.inl (.byte, n, .inl f))) (hi : vp_in i n) (K : AW l X own nm cc nL ret R QF cells slots (pc + 1) L st (h.set k0 (.inl (.byte, n, .inl (upd f i.toNatClampNeg (vp_nar .byte x)))))) : AW l X own nm cc nL ret R QF cells slots pc L (.int x :: .int i :: .ref k0 :: st) h := by
  intro p e s m args below meth c H locs ls hA hH hS hL
  have hA3 := hA.2.2.2.2.2.2.2.1.arr (ty := .byte) (by decide)
  refine W.bast hA.1 hA.2.1 (hH.1 k0 _ (ax_ws_at hc)) ((hA3.2 0 _ rfl).1 n (fun j => .int (f j))) (fun q => by cases q) (by show ¬ (i < 0 ∨ (arrV _ _ _).slots.size ≤ _); rw [arrV_size]; exact hi) rfl rfl hd fun H1 e1 z oq => ?_
  refine K p e s m args below meth c H1 _ ls hA (ax_hp_set (c1 := .inl (.byte, n, .inl (upd f i.toNatClampNeg (vp_nar .byte x)))) hH hc ?_ z oq) (hS.put z oq (Nat.le_add_right _ _)) hL
  show H1[X.1 + k0]? = some (vp_cell (X.2.2.1 .byte) (n, .inl (upd f i.toNatClampNeg (vp_nar .byte x))))
  rw [e1]
  show some _ = _
  rw [vp_cell_i]
  show some ((arrV (X.2.2.1 .byte) n (fun j => .int (f j))).setSlot _ _) = _
  rw [arrV_store]
  congr 2
  funext q
  by_cases hq : q = i.toNatClampNeg
  · subst hq
    simp [updV, upd, vp_nar]
    try rfl
  · simp [updV, upd, vp_nar, hq]
/-- the room of a method that calls go d deep in, making mc cells of ms slots -/
def ax_rm (d mc ms : Nat) : Room := { frames := d, cells := mc, slots := ms, locals := 64 * d }
/-- what a contract says of its end -/
def ax_Q (X : ax_X) (Q : Option Value → ax_H → Prop) : Array Value → State → Outcome → State → Prop := fun _ st0 oc t => (∃ (r : Option Value) (h' : ax_H), oc = .returned (r.map (ax_v X)) ∧ Q r h' ∧ ax_hp X h' t.heap) ∧ va_F (fun q => X.1 ≤ q) st0 t
def ax_MQ (X : ax_X) (Q : Option Value → ax_H → Prop) (mc ms : Nat) : List Frame → Array Value → State → State → Prop := fun below args s => MQ below (ax_Q X Q) args s mc ms (fun q => X.1 ≤ q)
/-- A CONTRACT: the method y, from these arguments and this heap, returns, with Q of its answer and the heap behind it -/
def AM (l : Launch) (X : ax_X) (y : MethodName) (cc : ByteArray) (nL : Nat) (ret : Option FieldType) (d mc ms : Nat) (args : List Value) (h : ax_H) (Q : Option Value → ax_H → Prop) : Prop :=
  Met l y (Cond.code y cc nL ret :: ax_gw) (ax_rm d mc ms) (va_Pc (args.map (ax_v X)) (fun U => ax_hp X h U.heap ∧ ax_K X U)) (ax_Q X Q) mc ms (fun q => X.1 ≤ q)
theorem ax_good : ∀ w ∈ ax_gw, goodWord w = true := fun _ hw => (List.mem_filter.mp hw).2
theorem ax_gIn {y : MethodName} {bytes : ByteArray} {maxL : Nat} {r : Option FieldType} (hc : Cond.code y bytes maxL r ∈ ax_gw) : GoodIn ax_gw (Cond.code y bytes maxL r :: ax_gw) := by
  intro w hw
  rcases List.mem_cons.mp hw with rfl | hw
  · exact ⟨hc, good_of_word (ax_good _ hc)⟩
  · exact ⟨hw, good_of_word (ax_good _ hw)⟩
theorem ax_blind {av : List Value} : FrameBlind (va_Pc av (fun U => ax_hp X h U.heap ∧ ax_K X U)) := fun a U g mk q => ⟨q.1, q.2.1, ax_K.same (s := U) (U := U.calling g mk a) rfl rfl q.2.2⟩
theorem ax_after {p : Program} {e : Env} {s : State} {m : MethodId} {args : Array Value} {below : List Frame} {meth : Method} {c : Code} {H : Heap} {locs : List Loc} {ls : Array Slot} {mc ms : Nat} {a : Array Value} {Q : Option Value → ax_H → Prop} {st0 : List Value}
    (hr : va_Run p l e R s m args below meth c H locs cells slots mc ms (F0 m pc ls st0) (st.map (ax_v X)) (ax_Q X Q a) (fun q => X.1 ≤ q)) (hS : va_S (fun q => X.1 ≤ q) s.heap H locs) (hA : ax_At X own nm cc nL ret p s m args meth c) (hL : ax_ls X nL L ls)
    (K : ∀ (r : Option Value) (h' : ax_H), Q r h' → AW l X own nm cc nL ret R QF (cells + mc) (slots + ms) (pc + 3) L (r.toList ++ st) h') : W p l e R s m args below meth c H locs cells slots (QF below args s) (F0 m pc ls st0) := by
  intro T hT Xs
  obtain ⟨v, st₀, t, T', L', h0, X', hL', e1, e2, ⟨⟨r, h', hv, hQ, hH'⟩, hF⟩, stp⟩ := hr T hT Xs
  have hv' : v = r.map (ax_v X) := by injection hv
  subst hv'
  have hS' : va_S (fun q => X.1 ≤ q) s.heap t.heap (locs ++ L') := by
    refine ⟨Nat.le_trans hS.1 (by rw [← h0]; exact hF.1), fun q hq hn => ?_, fun q hq => ?_⟩
    · rw [hF.2 q (by rw [h0]; exact Nat.lt_of_lt_of_le hq hS.1) hn, h0]
      exact hS.2.1 q hq hn
    · rcases List.mem_append.mp hq with hq | hq
      · exact hS.2.2 q hq
      · exact hL' q hq
  have k1 := K r h' hQ p e s m args below meth c t.heap (locs ++ L') ls hA hH' hS' hL
  obtain ⟨t2, a1, b1⟩ := k1 T' e1 X'
  refine ⟨t2, stp t2 ?_, b1⟩
  have e4 : (r.toList ++ st).map (ax_v X) = (r.map (ax_v X)).toList ++ st.map (ax_v X) := by cases r <;> simp
  rw [e4] at a1
  exact a1
theorem aw_callV {index n b ci : Nat} {C : String} {T : u_T} {N : Nat} {y : MethodName} {bytes : ByteArray} {maxL : Nat} {rt : Option FieldType} {d mc ms D mcR msR : Nat} {As : List Value} {fs : List Value} {Q : Option Value → ax_H → Prop} {st0 : List Value}
    (hd : decode cc pc = .ok (.invokevirtual index, 3)) (hcl : ax_cl own index y bytes maxL rt n) (hvw : Cond.instanceMethod y ∈ ax_gw ∧ Cond.selects C y y ∈ ax_gw) (hM : AM l X y bytes maxL rt d mc ms (.ref b :: As) h Q) (hci : vwCl[ci]? = some (C, T, N)) (hb : h[b]? = some (.inr (ci, fs))) (hyC : y.cls = C) (hn : As.length = n) (hst : st0 = As.reverse ++ .ref b :: st) (hw : (st.map fun v => v.category).sum ≤ 8) (hR : R = ax_rm D mcR msR) (hD : d + 1 ≤ D) (hm : maxL ≤ 45) (hmc : cells + mc ≤ mcR) (hms : slots + ms ≤ msR)
    (K : ∀ (r : Option Value) (h' : ax_H), Q r h' → AW l X own nm cc nL ret R QF (cells + mc) (slots + ms) (pc + 3) L (r.toList ++ st) h') : AW l X own nm cc nL ret R QF cells slots pc L st0 h := by
  intro p e s m args below meth c H locs ls hA hH hS hL
  subst hR
  have hts := hA.2.2.2.2.2.2.1
  have hp : PreV s H C (X.1 + b) (va_Pc ((Value.ref b :: As).map (ax_v X)) (fun U => ax_hp X h U.heap ∧ ax_K X U)) (As.map (ax_v X)) := ⟨ax_blind, va_recv hA.2.2.2.2.2.2.2.1.1 hH.1 hci (ax_ws_at hb), fun U hU hW => ⟨rfl, by rw [hU]; exact hH, hA.2.2.2.2.2.2.2.1.moved hW (fun a h1 h2 => by rw [hU]; exact hS.2.1 a h1 h2)⟩⟩
  have hR1 : (ax_rm d mc ms).frames + 1 ≤ (ax_rm D mcR msR).frames ∧ 8 + (maxL + 11) + (ax_rm d mc ms).locals ≤ (ax_rm D mcR msR).locals := ⟨hD, by show 8 + (maxL + 11) + 64 * d ≤ 64 * D; omega⟩
  have hcat : ((st.map (ax_v X)).map fun v => v.category).sum ≤ 8 := by
    rw [List.map_map]
    have e5 : (fun v => Value.category v) ∘ ax_v X = fun v => v.category := by funext v; exact ax_cat X v
    rw [e5]; exact hw
  have hst' : st0.map (ax_v X) = (As.map (ax_v X)).reverse ++ .ref (X.1 + b) :: st.map (ax_v X) := by rw [hst]; simp [ax_v]
  obtain ⟨⟨c1, c2, c3, c4, c5⟩, hlk | ⟨host, hlk⟩⟩ := hcl
  · have hrun := va_runV (g := F0 m pc ls (st0.map (ax_v X))) (rest := st.map (ax_v X)) (cells := cells) (slots := slots) (locs := locs) (e := e) (below := below) (meth := meth) (nL := nL) (Ts := ax_gw) ⟨hA.1, hA.2.1, hA.2.2.1, hA.2.2.2.2.2.1, hts⟩ hM ⟨callB_of n hts (ax_gIn c1) rfl rfl rfl (hts _ c2) (hts _ hlk) ⟨c3, c4, c5⟩ hR1, hts _ hvw.1, hts _ hvw.2⟩ hp rfl (by rw [List.length_map]; exact hn) hL.1 hst' (lv_room (m := m) (pc := pc) (ls := ls) (rest := st0.map (ax_v X)) hcat) hd ⟨hmc, hms⟩
    exact ax_after hrun hS hA hL K
  · have hrun := va_runVN (g := F0 m pc ls (st0.map (ax_v X))) (rest := st.map (ax_v X)) (cells := cells) (slots := slots) (locs := locs) (e := e) (below := below) (meth := meth) (nL := nL) (Ts := ax_gw) ⟨hA.1, hA.2.1, hA.2.2.1, hA.2.2.2.2.2.1, hts⟩ hM ⟨va_cnB n hts (ax_gIn c1) rfl rfl rfl (hA.2.2.2.2.2.2.2.1.2.2.1 _ hlk) (hts _ c2) ⟨c3, c4, c5⟩ hR1, hts _ hvw.1, hts _ hvw.2⟩ hp rfl (by rw [List.length_map]; exact hn) hL.1 hst' (lv_room (m := m) (pc := pc) (ls := ls) (rest := st0.map (ax_v X)) hcat) hd ⟨hmc, hms⟩
    exact ax_after hrun hS hA hL K
theorem aw_callS {index n : Nat} {y : MethodName} {bytes : ByteArray} {maxL : Nat} {rt : Option FieldType} {d mc ms D mcR msR : Nat} {As : List Value} {Q : Option Value → ax_H → Prop} {st0 : List Value}
    (hd : decode cc pc = .ok (.invokestatic index, 3)) (hcl : ax_cl own index y bytes maxL rt n) (hvw : Cond.static y ∈ ax_gw) (hM : AM l X y bytes maxL rt d mc ms As h Q) (hn : As.length = n) (hst : st0 = As.reverse ++ st) (hw : (st.map fun v => v.category).sum ≤ 8) (hR : R = ax_rm D mcR msR) (hD : d + 1 ≤ D) (hm : maxL ≤ 45) (hmc : cells + mc ≤ mcR) (hms : slots + ms ≤ msR)
    (K : ∀ (r : Option Value) (h' : ax_H), Q r h' → AW l X own nm cc nL ret R QF (cells + mc) (slots + ms) (pc + 3) L (r.toList ++ st) h') : AW l X own nm cc nL ret R QF cells slots pc L st0 h := by
  intro p e s m args below meth c H locs ls hA hH hS hL
  subst hR
  have hts := hA.2.2.2.2.2.2.1
  have hp : PreS s H (va_Pc (As.map (ax_v X)) (fun U => ax_hp X h U.heap ∧ ax_K X U)) (As.map (ax_v X)) := ⟨ax_blind, fun U hU hW => ⟨rfl, by rw [hU]; exact hH, hA.2.2.2.2.2.2.2.1.moved hW (fun a h1 h2 => by rw [hU]; exact hS.2.1 a h1 h2)⟩⟩
  have hR1 : (ax_rm d mc ms).frames + 1 ≤ (ax_rm D mcR msR).frames ∧ 8 + (maxL + 11) + (ax_rm d mc ms).locals ≤ (ax_rm D mcR msR).locals := ⟨hD, by show 8 + (maxL + 11) + 64 * d ≤ 64 * D; omega⟩
  have hcat : ((st.map (ax_v X)).map fun v => v.category).sum ≤ 8 := by
    rw [List.map_map]
    have e5 : (fun v => Value.category v) ∘ ax_v X = fun v => v.category := by funext v; exact ax_cat X v
    rw [e5]; exact hw
  have hst' : st0.map (ax_v X) = (As.map (ax_v X)).reverse ++ st.map (ax_v X) := by rw [hst]; simp
  obtain ⟨⟨c1, c2, c3, c4, c5⟩, hlk | ⟨host, hlk⟩⟩ := hcl
  · have hrun := va_runS (g := F0 m pc ls (st0.map (ax_v X))) (rest := st.map (ax_v X)) (cells := cells) (slots := slots) (locs := locs) (e := e) (below := below) (meth := meth) (nL := nL) (Ts := ax_gw) ⟨hA.1, hA.2.1, hA.2.2.1, hA.2.2.2.2.2.1, hts⟩ hM ⟨callB_of n hts (ax_gIn c1) rfl rfl rfl (hts _ c2) (hts _ hlk) ⟨c3, c4, c5⟩ hR1, hts _ hvw⟩ hp rfl (by rw [List.length_map]; exact hn) hL.1 hst' (lv_room (m := m) (pc := pc) (ls := ls) (rest := st0.map (ax_v X)) hcat) hd ⟨hmc, hms⟩
    exact ax_after hrun hS hA hL K
  · have hrun := va_runSN (g := F0 m pc ls (st0.map (ax_v X))) (rest := st.map (ax_v X)) (cells := cells) (slots := slots) (locs := locs) (e := e) (below := below) (meth := meth) (nL := nL) (Ts := ax_gw) ⟨hA.1, hA.2.1, hA.2.2.1, hA.2.2.2.2.2.1, hts⟩ hM ⟨va_cnB n hts (ax_gIn c1) rfl rfl rfl (hA.2.2.2.2.2.2.2.1.2.2.1 _ hlk) (hts _ c2) ⟨c3, c4, c5⟩ hR1, hts _ hvw, trivial⟩ hp rfl (by rw [List.length_map]; exact hn) hL.1 hst' (lv_room (m := m) (pc := pc) (ls := ls) (rest := st0.map (ax_v X)) hcat) hd ⟨hmc, hms⟩
    exact ax_after hrun hS hA hL K
theorem aw_callI {index n b : Nat} {y : MethodName} {bytes : ByteArray} {maxL : Nat} {d mc ms D mcR msR : Nat} {As : List Value} {Q : Option Value → ax_H → Prop} {st0 : List Value}
    (hd : decode cc pc = .ok (.invokespecial index, 3)) (hcl : ax_cl own index y bytes maxL none n) (hvw : y.name = "<init>" ∧ Cond.instanceMethod y ∈ ax_gw) (hM : AM l X y bytes maxL none d mc ms (.ref b :: As) h Q) (hn : As.length = n) (hst : st0 = As.reverse ++ .ref b :: st) (hw : (st.map fun v => v.category).sum ≤ 8) (hR : R = ax_rm D mcR msR) (hD : d + 1 ≤ D) (hm : maxL ≤ 45) (hmc : cells + mc ≤ mcR) (hms : slots + ms ≤ msR)
    (K : ∀ (r : Option Value) (h' : ax_H), Q r h' → AW l X own nm cc nL ret R QF (cells + mc) (slots + ms) (pc + 3) L (r.toList ++ st) h') : AW l X own nm cc nL ret R QF cells slots pc L st0 h := by
  intro p e s m args below meth c H locs ls hA hH hS hL
  subst hR
  have hts := hA.2.2.2.2.2.2.1
  have hp : PreS s H (va_Pc ((Value.ref b :: As).map (ax_v X)) (fun U => ax_hp X h U.heap ∧ ax_K X U)) (.ref (X.1 + b) :: As.map (ax_v X)) := ⟨ax_blind, fun U hU hW => ⟨rfl, by rw [hU]; exact hH, hA.2.2.2.2.2.2.2.1.moved hW (fun a h1 h2 => by rw [hU]; exact hS.2.1 a h1 h2)⟩⟩
  have hR1 : (ax_rm d mc ms).frames + 1 ≤ (ax_rm D mcR msR).frames ∧ 8 + (maxL + 11) + (ax_rm d mc ms).locals ≤ (ax_rm D mcR msR).locals := ⟨hD, by show 8 + (maxL + 11) + 64 * d ≤ 64 * D; omega⟩
  have hcat : ((st.map (ax_v X)).map fun v => v.category).sum ≤ 8 := by
    rw [List.map_map]
    have e5 : (fun v => Value.category v) ∘ ax_v X = fun v => v.category := by funext v; exact ax_cat X v
    rw [e5]; exact hw
  have hst' : st0.map (ax_v X) = (As.map (ax_v X)).reverse ++ .ref (X.1 + b) :: st.map (ax_v X) := by rw [hst]; simp [ax_v]
  obtain ⟨⟨c1, c2, c3, c4, c5⟩, hlk | ⟨host, hlk⟩⟩ := hcl
  · have hrun := va_runI (g := F0 m pc ls (st0.map (ax_v X))) (rest := st.map (ax_v X)) (cells := cells) (slots := slots) (locs := locs) (e := e) (below := below) (meth := meth) (nL := nL) (Ts := ax_gw) ⟨hA.1, hA.2.1, hA.2.2.1, hA.2.2.2.2.2.1, hts⟩ hM ⟨callB_of n hts (ax_gIn c1) rfl rfl rfl (hts _ c2) (hts _ hlk) ⟨c3, c4, c5⟩ hR1, hvw.1, hts _ hvw.2⟩ hp rfl (by rw [List.length_map]; exact hn) hL.1 hst' (lv_room (m := m) (pc := pc) (ls := ls) (rest := st0.map (ax_v X)) hcat) hd ⟨hmc, hms⟩
    exact ax_after hrun hS hA hL K
  · have hrun := va_runIN (g := F0 m pc ls (st0.map (ax_v X))) (rest := st.map (ax_v X)) (cells := cells) (slots := slots) (locs := locs) (e := e) (below := below) (meth := meth) (nL := nL) (Ts := ax_gw) ⟨hA.1, hA.2.1, hA.2.2.1, hA.2.2.2.2.2.1, hts⟩ hM ⟨va_cnB n hts (ax_gIn c1) rfl rfl rfl (hA.2.2.2.2.2.2.2.1.2.2.1 _ hlk) (hts _ c2) ⟨c3, c4, c5⟩ hR1, hvw.1, hts _ hvw.2⟩ hp rfl (by rw [List.length_map]; exact hn) hL.1 hst' (lv_room (m := m) (pc := pc) (ls := ls) (rest := st0.map (ax_v X)) hcat) hd ⟨hmc, hms⟩
    exact ax_after hrun hS hA hL K
end AXR
section AXE
variable {l : Launch} {X : ax_X} {own nm : String} {cc : ByteArray} {nL : Nat} {R : Room} {cells slots pc mc ms : Nat} {L : List (Option Value)} {h : ax_H} {Q : Option Value → ax_H → Prop}
theorem aw_iret {x : Int32} (hd : decode cc pc = .ok (.ireturn, 1)) (hq : Q (some (.int x)) h) (h1 : cells ≤ mc) (h2 : slots ≤ ms) : AW l X own nm cc nL (some .int) R (ax_MQ X Q mc ms) cells slots pc L [.int x] h := by
  intro p e s m args below meth c H locs ls hA hH hS hL
  refine W.widen h1 h2 ?_
  exact W.iret (v := x) hA.1 hA.2.1 hA.2.2.2.1 (fun t ht hW => ⟨⟨some (.int x), h, rfl, hq, by rw [ht]; exact hH⟩, hS.F ht⟩) hS.2.2 hd hA.2.2.2.2.1
theorem aw_zret {x : Int32} (hd : decode cc pc = .ok (.ireturn, 1)) (hz : narrow .boolean (.int x) = .int x) (hq : Q (some (.int x)) h) (h1 : cells ≤ mc) (h2 : slots ≤ ms) : AW l X own nm cc nL (some .boolean) R (ax_MQ X Q mc ms) cells slots pc L [.int x] h := by
  intro p e s m args below meth c H locs ls hA hH hS hL
  refine W.widen h1 h2 ?_
  exact W.zret (v := x) hA.1 hA.2.1 hA.2.2.2.1 hz (fun t ht hW => ⟨⟨some (.int x), h, rfl, hq, by rw [ht]; exact hH⟩, hS.F ht⟩) hS.2.2 hd hA.2.2.2.2.1
theorem aw_lret {x : Int64} (hd : decode cc pc = .ok (.lreturn, 1)) (hq : Q (some (.long x)) h) (h1 : cells ≤ mc) (h2 : slots ≤ ms) : AW l X own nm cc nL (some .long) R (ax_MQ X Q mc ms) cells slots pc L [.long x] h := by
  intro p e s m args below meth c H locs ls hA hH hS hL
  refine W.widen h1 h2 ?_
  exact W.lret (v := x) hA.1 hA.2.1 hA.2.2.2.1 (fun t ht hW => ⟨⟨some (.long x), h, rfl, hq, by rw [ht]; exact hH⟩, hS.F ht⟩) hS.2.2 hd hA.2.2.2.2.1
theorem aw_vret (hd : decode cc pc = .ok (.return_, 1)) (hq : Q none h) (h1 : cells ≤ mc) (h2 : slots ≤ ms) : AW l X own nm cc nL none R (ax_MQ X Q mc ms) cells slots pc L [] h := by
  intro p e s m args below meth c H locs ls hA hH hS hL
  refine W.widen h1 h2 ?_
  exact W.vret hA.1 hA.2.1 hA.2.2.2.1 (fun t ht hW => ⟨⟨none, h, rfl, hq, by rw [ht]; exact hH⟩, hS.F ht⟩) hS.2.2 hd hA.2.2.2.2.1
def ax_in : List Value → List (Option Value)
  | [] => []
  | .long x :: vs => some (.long x) :: none :: ax_in vs
  | .double x :: vs => some (.double x) :: none :: ax_in vs
  | v :: vs => some v :: ax_in vs
theorem ax_in_get (X : ax_X) : ∀ (vs : List Value) (i j : Nat) (w : Value), (ax_in vs)[j]? = some (some w) → (i + j, ax_v X w) ∈ lv_args i (vs.map (ax_v X))
  | [], i, j, w, hj => by simp [ax_in] at hj
  | v :: vs, i, j, w, hj => by
    have two : ∀ u : Value, v = u → u.category = 2 → (ax_in (v :: vs)) = some u :: none :: ax_in vs → (i + j, ax_v X w) ∈ lv_args i ((v :: vs).map (ax_v X)) := by
      intro u hu h2 e0
      subst hu
      rw [e0] at hj
      simp only [List.map_cons, lv_args, ax_cat, h2, if_true]
      match j, hj with
      | 0, hj => simp at hj; subst hj; exact List.mem_cons_self
      | 1, hj => simp at hj
      | j + 2, hj =>
        have := ax_in_get X vs (i + 2) j w (by simpa using hj)
        rw [show i + (j + 2) = i + 2 + j by omega]
        exact List.mem_cons_of_mem _ this
    have one : v.category = 1 → (ax_in (v :: vs)) = some v :: ax_in vs → (i + j, ax_v X w) ∈ lv_args i ((v :: vs).map (ax_v X)) := by
      intro h2 e0
      rw [e0] at hj
      have hc : ¬ v.category = 2 := by omega
      simp only [List.map_cons, lv_args, ax_cat, hc, if_false]
      match j, hj with
      | 0, hj => simp at hj; subst hj; exact List.mem_cons_self
      | j + 1, hj =>
        have := ax_in_get X vs (i + 1) j w (by simpa using hj)
        rw [show i + (j + 1) = i + 1 + j by omega]
        exact List.mem_cons_of_mem _ this
    cases v with
    | long x => exact two _ rfl rfl rfl
    | double x => exact two _ rfl rfl rfl
    | int x => exact one rfl rfl
    | float x => exact one rfl rfl
    | null => exact one rfl rfl
    | ref x => exact one rfl rfl
    | retAddr x => exact one rfl rfl
/-- a contract out of a walk from the entry -/
theorem aw_met {y : MethodName} {ret : Option FieldType} {d : Nat} {av : List Value} (hy : plainName y.cls = true) (hown : y.cls = own) (hnm : y.name = nm) (hL : ax_sub L (ax_in av)) (hlen : (lg_sl (av.map (ax_v X))).length ≤ nL)
    (K : AW l X own nm cc nL ret (ax_rm d mc ms) (ax_MQ X Q mc ms) 0 0 0 L [] h) : AM l X y cc nL ret d mc ms av h Q := by
  refine Met.ofW (cc := cc) (maxL := nL) (ret := ret) hy rfl ?_
  intro p e s m args below meth c s₁ B hml hv
  obtain ⟨rfl, hH, hK⟩ := hv
  have hts := atoms_spec (ws := Cond.code y cc nL ret :: ax_gw) B.pre
  have hfc : s.vm.findClass y.cls = some m.cls := findClass_of_methodNamed B.named
  have hin : meth.name = y.name := (name_of_methodNamed B.named B.method).1
  have hl := lv_entry (av.map (ax_v X)) (n := nL) hlen
  rw [lg_entry_eq]
  refine K p e s m _ below meth c s.heap [] _ ⟨B.exec, B.bytes, hml, B.returns, B.notSynchronized, by rw [← hown]; exact hfc, fun w hw => hts w (List.mem_cons_of_mem _ hw), hK, by rw [hin]; exact hnm, by rw [hH.2]; exact Nat.le_add_right _ _⟩ hH va_S.rf ⟨hl.1, hl.2.1, fun i v hi => ?_⟩
  have hi' := ax_sub_get L (ax_in av) i v hL hi
  have hm := ax_in_get X av 0 i v hi'
  rw [Nat.zero_add] at hm
  exact hl.2.2 (i, ax_v X v) hm
theorem AM.mono {y : MethodName} {ret : Option FieldType} {d : Nat} {av : List Value} {Q' : Option Value → ax_H → Prop} (hq : ∀ r h', Q r h' → Q' r h') (hM : AM l X y cc nL ret d mc ms av h Q) : AM l X y cc nL ret d mc ms av h Q' := by
  unfold AM Met at hM ⊢
  refine MetFree.mono hM (fun _ _ q => q) (fun _ _ _ _ _ q => q) ?_
  rintro a st o t - ⟨⟨⟨r, h', e1, e2, e3⟩, e4⟩, e5⟩
  exact ⟨⟨⟨r, h', e1, hq r h' e2, e3⟩, e4⟩, e5⟩
end AXE
