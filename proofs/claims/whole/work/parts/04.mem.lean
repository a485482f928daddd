/-! THE MEMORY: ints and longs of objects (object, field), ints and longs of arrays (array, place); references never change behind the constructors: they stand in the shape -/
abbrev sx_M : Type := (Nat → Nat → Int32) × (Nat → Nat → Int64) × (Nat → Nat → Int32) × (Nat → Nat → Int64)
abbrev sx_S : Type := (FieldType × Nat) ⊕ (Nat × List (Nat ⊕ Bool))
def rI (s : sx_M) (o k : Nat) : Int32 := s.1 o k
def rJ (s : sx_M) (o k : Nat) : Int64 := s.2.1 o k
def rA (s : sx_M) (o k : Nat) : Int32 := s.2.2.1 o k
def rB (s : sx_M) (o k : Nat) : Int64 := s.2.2.2 o k
def sx_up {α : Type} (f : Nat → Nat → α) (o k : Nat) (v : α) : Nat → Nat → α := fun a b => if a = o ∧ b = k then v else f a b
def wI (s : sx_M) (o k : Nat) (v : Int32) : sx_M := (sx_up s.1 o k v, s.2.1, s.2.2.1, s.2.2.2)
def wJ (s : sx_M) (o k : Nat) (v : Int64) : sx_M := (s.1, sx_up s.2.1 o k v, s.2.2.1, s.2.2.2)
def wA (s : sx_M) (o k : Nat) (v : Int32) : sx_M := (s.1, s.2.1, sx_up s.2.2.1 o k v, s.2.2.2)
def wB (s : sx_M) (o k : Nat) (v : Int64) : sx_M := (s.1, s.2.1, s.2.2.1, sx_up s.2.2.2 o k v)
def sx_fd (s : sx_M) (o k : Nat) : Nat ⊕ Bool → Value
  | .inl r => .ref r
  | .inr false => .int (rI s o k)
  | .inr true => .long (rJ s o k)
/-- the ten grids of the history lie from 22 on -/
def sx_gr (i : Nat) : Option Nat := some (22 + 2 * i)
def sx_ce (s : sx_M) (o : Nat) : sx_S → ax_E
  | .inl (.long, n) => .inl (.long, n, .inr (.inl (rB s o)))
  | .inl (.object C, n) => .inl (.object C, n, .inr (.inr (.inr (.inr sx_gr))))
  | .inl (ty, n) => .inl (ty, n, .inl (rA s o))
  | .inr (ci, ks) => .inr (ci, ks.mapIdx (fun k kd => sx_fd s o k kd))
def sx_sh : List sx_S := [.inr (11, [.inl 1, .inl 3, .inl 5, .inl 9, .inl 13, .inl 15, .inl 19, .inl 20, .inl 42, .inl 46, .inl 49, .inl 53, .inl 55, .inl 56, .inl 57]), .inr (9, [.inl 2, .inr false]), .inl (.byte, 600), .inr (1, [.inl 4, .inr false, .inr false]), .inl (.long, 56), .inr (5, [.inl 3, .inl 6, .inl 7, .inl 8]), .inl (.int, 256), .inl (.long, 256), .inl (.long, 256), .inr (4, [.inl 3, .inl 5, .inl 10, .inl 11, .inr false, .inr false, .inr true, .inr false, .inl 12, .inr false, .inr false, .inr false, .inr false]), .inl (.int, 200), .inl (.long, 200), .inl (.int, 64), .inr (1, [.inl 14, .inr false, .inr false]), .inl (.long, 56), .inr (5, [.inl 13, .inl 16, .inl 17, .inl 18]), .inl (.int, 256), .inl (.long, 256), .inl (.long, 256), .inr (6, [.inl 1, .inl 13, .inr false, .inr false, .inr false, .inr false, .inr false, .inr false]), .inr (2, [.inl 21, .inr false, .inr false]), .inl (.object "NextBest$Grid", 10), .inr (1, [.inl 23, .inr false, .inr false]), .inl (.long, 56), .inr (1, [.inl 25, .inr false, .inr false]), .inl (.long, 56), .inr (1, [.inl 27, .inr false, .inr false]), .inl (.long, 56), .inr (1, [.inl 29, .inr false, .inr false]), .inl (.long, 56), .inr (1, [.inl 31, .inr false, .inr false]), .inl (.long, 56), .inr (1, [.inl 33, .inr false, .inr false]), .inl (.long, 56), .inr (1, [.inl 35, .inr false, .inr false]), .inl (.long, 56), .inr (1, [.inl 37, .inr false, .inr false]), .inl (.long, 56), .inr (1, [.inl 39, .inr false, .inr false]), .inl (.long, 56), .inr (1, [.inl 41, .inr false, .inr false]), .inl (.long, 56), .inr (7, [.inl 3, .inl 13, .inl 15, .inl 43, .inl 44, .inl 45, .inr true, .inr true]), .inl (.long, 256), .inl (.int, 7), .inl (.int, 7), .inr (0, [.inl 3, .inl 47, .inl 48, .inr true, .inr false, .inr false, .inr true, .inr false, .inr false]), .inl (.int, 7), .inl (.int, 8), .inr (8, [.inl 3, .inl 50, .inl 51, .inl 52, .inr false, .inr false]), .inl (.long, 8), .inl (.int, 7), .inl (.int, 7), .inr (3, [.inl 3, .inl 54, .inr false, .inr true, .inr false]), .inl (.int, 7), .inr (10, [.inr false, .inr false, .inr false, .inr false, .inr false]), .inl (.int, 7), .inl (.int, 7), .inr (12, [.inl 59, .inl 60, .inr false, .inl 61, .inr false, .inr false, .inr false, .inl 62, .inr false, .inr false, .inr false, .inr false, .inr false, .inl 63, .inl 64, .inr false, .inl 65, .inl 66, .inr false, .inl 67, .inr false, .inr false, .inr false, .inr false, .inl 68, .inl 69, .inr false, .inr false, .inr false, .inr false, .inr false, .inr false, .inl 70]), .inl (.int, 58), .inl (.int, 580), .inl (.int, 600), .inl (.int, 58), .inl (.int, 40320), .inl (.int, 40320), .inl (.int, 7), .inl (.int, 200), .inl (.int, 7), .inl (.long, 8), .inl (.int, 600), .inl (.int, 58)]
/-- the heap: the cells by the shape, and what was made since and is not used any more -/
def hp (s : sx_M) (gb : ax_H) : ax_H := sx_sh.mapIdx (fun o c => sx_ce s o c) ++ gb
theorem sx_len : sx_sh.length = 71 := rfl
theorem hp_len (s : sx_M) (gb : ax_H) : (hp s gb).length = 71 + gb.length := by simp [hp, sx_len]
theorem hp_get {s : sx_M} {gb : ax_H} {o : Nat} {c : sx_S} (h : sx_sh[o]? = some c) : (hp s gb)[o]? = some (sx_ce s o c) := by
  have hl : o < sx_sh.length := (List.getElem?_eq_some_iff.mp h).1
  unfold hp
  rw [List.getElem?_append_left (by rw [List.length_mapIdx]; exact hl), List.getElem?_mapIdx, h]; rfl
theorem hp_set {s s' : sx_M} {gb : ax_H} {o : Nat} {c : sx_S} (h : sx_sh[o]? = some c) (hs : ∀ (j : Nat) (c : sx_S), j ≠ o → sx_ce s' j c = sx_ce s j c) : (hp s gb).set o (sx_ce s' o c) = hp s' gb := by
  have hl : o < sx_sh.length := (List.getElem?_eq_some_iff.mp h).1
  apply List.ext_getElem?
  intro j
  by_cases hj : o = j
  · subst hj
    rw [List.getElem?_set_self (by rw [hp_len, ← sx_len]; omega), hp_get h]
  · rw [List.getElem?_set_ne hj]
    unfold hp
    by_cases hj2 : j < sx_sh.length
    · rw [List.getElem?_append_left (by rw [List.length_mapIdx]; exact hj2), List.getElem?_append_left (by rw [List.length_mapIdx]; exact hj2), List.getElem?_mapIdx, List.getElem?_mapIdx]
      cases sx_sh[j]? with
      | none => rfl
      | some c0 => simp [hs j c0 (fun q => hj q.symm)]
    · rw [List.getElem?_append_right (by rw [List.length_mapIdx]; omega), List.getElem?_append_right (by rw [List.length_mapIdx]; omega)]
      simp
theorem sx_up_ne {α : Type} {f : Nat → Nat → α} {o k j : Nat} {v : α} (h : j ≠ o) : sx_up f o k v j = f j := by funext b; simp [sx_up, h]
theorem sx_wI {s : sx_M} {o k : Nat} {v : Int32} (j : Nat) (c : sx_S) (h : j ≠ o) : sx_ce (wI s o k v) j c = sx_ce s j c := by
  have e : rI (wI s o k v) j = rI s j := by funext b; simp [rI, wI, sx_up, h]
  have e2 : ∀ (k : Nat) (kd : Nat ⊕ Bool), sx_fd (wI s o k v) j k kd = sx_fd s j k kd := by
    intro k kd
    rcases kd with r | b
    · rfl
    · cases b
      · show Value.int _ = Value.int _
        simp [rI, wI, sx_up, h]
      · rfl
  rcases c with ⟨ty, n⟩ | ⟨ci, ks⟩
  · cases ty <;> rfl
  · show Sum.inr (ci, _) = Sum.inr (ci, _)
    congr 2
    congr 1
    funext k' kd
    rcases kd with r | b
    · rfl
    · cases b
      · show Value.int _ = Value.int _
        rw [e]
      · rfl
theorem sx_wJ {s : sx_M} {o k : Nat} {v : Int64} (j : Nat) (c : sx_S) (h : j ≠ o) : sx_ce (wJ s o k v) j c = sx_ce s j c := by
  have e : rJ (wJ s o k v) j = rJ s j := by funext b; simp [rJ, wJ, sx_up, h]
  rcases c with ⟨ty, n⟩ | ⟨ci, ks⟩
  · cases ty <;> rfl
  · show Sum.inr (ci, _) = Sum.inr (ci, _)
    congr 2
    congr 1
    funext k' kd
    rcases kd with r | b
    · rfl
    · cases b
      · rfl
      · show Value.long _ = Value.long _
        rw [e]
theorem sx_wA {s : sx_M} {o k : Nat} {v : Int32} (j : Nat) (c : sx_S) (h : j ≠ o) : sx_ce (wA s o k v) j c = sx_ce s j c := by
  have e : rA (wA s o k v) j = rA s j := by funext b; simp [rA, wA, sx_up, h]
  rcases c with ⟨ty, n⟩ | ⟨ci, ks⟩
  · cases ty <;> first | rfl | (simp only [sx_ce]; rw [e])
  · rfl
theorem sx_wB {s : sx_M} {o k : Nat} {v : Int64} (j : Nat) (c : sx_S) (h : j ≠ o) : sx_ce (wB s o k v) j c = sx_ce s j c := by
  have e : rB (wB s o k v) j = rB s j := by funext b; simp [rB, wB, sx_up, h]
  rcases c with ⟨ty, n⟩ | ⟨ci, ks⟩
  · cases ty <;> first | rfl | (simp only [sx_ce]; rw [e])
  · rfl
section SXR
variable {l : Launch} {X : ax_X} {own nm : String} {cc : ByteArray} {nL : Nat} {ret : Option FieldType} {R : Room} {QF : List Frame → Array Value → State → State → Prop} {cells slots pc : Nat} {L : List (Option Value)} {st : List Value} {s : sx_M} {gb : ax_H}
theorem aw_gF {index o ci k : Nat} {ks : List (Nat ⊕ Bool)} {kd : Nat ⊕ Bool} (hd : decode cc pc = .ok (.getfield index, 3)) (hf : ax_fl own index ci k) (hc : sx_sh[o]? = some (.inr (ci, ks))) (hk : ks[k]? = some kd) (K : AW l X own nm cc nL ret R QF cells slots (pc + 3) L (sx_fd s o k kd :: st) (hp s gb)) : AW l X own nm cc nL ret R QF cells slots pc L (.ref o :: st) (hp s gb) :=
  aw_get hd hf (hp_get hc) (by rw [List.getElem?_mapIdx, hk]; rfl) K
theorem aw_gI {index o ci k : Nat} {ks : List (Nat ⊕ Bool)} (hd : decode cc pc = .ok (.getfield index, 3)) (hf : ax_fl own index ci k) (hc : sx_sh[o]? = some (.inr (ci, ks))) (hk : ks[k]? = some (.inr false)) (K : AW l X own nm cc nL ret R QF cells slots (pc + 3) L (.int (rI s o k) :: st) (hp s gb)) : AW l X own nm cc nL ret R QF cells slots pc L (.ref o :: st) (hp s gb) := aw_gF hd hf hc hk K
theorem aw_gJ {index o ci k : Nat} {ks : List (Nat ⊕ Bool)} (hd : decode cc pc = .ok (.getfield index, 3)) (hf : ax_fl own index ci k) (hc : sx_sh[o]? = some (.inr (ci, ks))) (hk : ks[k]? = some (.inr true)) (K : AW l X own nm cc nL ret R QF cells slots (pc + 3) L (.long (rJ s o k) :: st) (hp s gb)) : AW l X own nm cc nL ret R QF cells slots pc L (.ref o :: st) (hp s gb) := aw_gF hd hf hc hk K
theorem aw_gR {index o ci k r : Nat} {ks : List (Nat ⊕ Bool)} (hd : decode cc pc = .ok (.getfield index, 3)) (hf : ax_fl own index ci k) (hc : sx_sh[o]? = some (.inr (ci, ks))) (hk : ks[k]? = some (.inl r)) (K : AW l X own nm cc nL ret R QF cells slots (pc + 3) L (.ref r :: st) (hp s gb)) : AW l X own nm cc nL ret R QF cells slots pc L (.ref o :: st) (hp s gb) := aw_gF hd hf hc hk K
theorem sx_putI {o ci k : Nat} {ks : List (Nat ⊕ Bool)} {v : Int32} (hk : ks[k]? = some (.inr false)) : sx_ce (wI s o k v) o (.inr (ci, ks)) = .inr (ci, (ks.mapIdx (fun k kd => sx_fd s o k kd)).set k (.int v)) := by
  show Sum.inr (ci, _) = Sum.inr (ci, _)
  congr 2
  apply List.ext_getElem?
  intro j
  have hl : k < ks.length := (List.getElem?_eq_some_iff.mp hk).1
  rw [List.getElem?_mapIdx]
  by_cases hj : k = j
  · subst hj
    rw [List.getElem?_set_self (by rw [List.length_mapIdx]; exact hl), hk]
    simp [sx_fd, rI, wI, sx_up]
  · rw [List.getElem?_set_ne hj, List.getElem?_mapIdx]
    cases ks[j]? with
    | none => rfl
    | some kd =>
      rcases kd with r | b
      · rfl
      · cases b
        · simp [sx_fd, rI, wI, sx_up, Ne.symm hj]
        · rfl
theorem sx_putJ {o ci k : Nat} {ks : List (Nat ⊕ Bool)} {v : Int64} (hk : ks[k]? = some (.inr true)) : sx_ce (wJ s o k v) o (.inr (ci, ks)) = .inr (ci, (ks.mapIdx (fun k kd => sx_fd s o k kd)).set k (.long v)) := by
  show Sum.inr (ci, _) = Sum.inr (ci, _)
  congr 2
  apply List.ext_getElem?
  intro j
  have hl : k < ks.length := (List.getElem?_eq_some_iff.mp hk).1
  rw [List.getElem?_mapIdx]
  by_cases hj : k = j
  · subst hj
    rw [List.getElem?_set_self (by rw [List.length_mapIdx]; exact hl), hk]
    simp [sx_fd, rJ, wJ, sx_up]
  · rw [List.getElem?_set_ne hj, List.getElem?_mapIdx]
    cases ks[j]? with
    | none => rfl
    | some kd =>
      rcases kd with r | b
      · rfl
      · cases b
        · rfl
        · simp [sx_fd, rJ, wJ, sx_up, Ne.symm hj]
theorem aw_pI {index o ci k : Nat} {ks : List (Nat ⊕ Bool)} {v : Int32} {ty : FieldType} (hd : decode cc pc = .ok (.putfield index, 3)) (hf : ax_fp own index ci k ty false) (hc : sx_sh[o]? = some (.inr (ci, ks))) (hk : ks[k]? = some (.inr false)) (hn : narrow ty (.int v) = .int v) (hfit : fits ty (.int v) = true) (K : AW l X own nm cc nL ret R QF cells slots (pc + 3) L st (hp (wI s o k v) gb)) : AW l X own nm cc nL ret R QF cells slots pc L (.int v :: .ref o :: st) (hp s gb) := by
  refine aw_put false hd hf (fun q => by cases q) (hp_get hc) (by rw [List.length_mapIdx]; exact (List.getElem?_eq_some_iff.mp hk).1) hn hfit ?_
  rw [← sx_putI hk, hp_set hc (fun j c h => sx_wI j c h)]
  exact K
theorem aw_pJ {index o ci k : Nat} {ks : List (Nat ⊕ Bool)} {v : Int64} (hd : decode cc pc = .ok (.putfield index, 3)) (hf : ax_fp own index ci k .long false) (hc : sx_sh[o]? = some (.inr (ci, ks))) (hk : ks[k]? = some (.inr true)) (K : AW l X own nm cc nL ret R QF cells slots (pc + 3) L st (hp (wJ s o k v) gb)) : AW l X own nm cc nL ret R QF cells slots pc L (.long v :: .ref o :: st) (hp s gb) := by
  refine aw_put false hd hf (fun q => by cases q) (hp_get hc) (by rw [List.length_mapIdx]; exact (List.getElem?_eq_some_iff.mp hk).1) rfl rfl ?_
  rw [← sx_putJ hk, hp_set hc (fun j c h => sx_wJ j c h)]
  exact K
theorem aw_lA {o n : Nat} {i : Int32} (hd : decode cc pc = .ok (.iaload, 1)) (hc : sx_sh[o]? = some (.inl (.int, n))) (hi : ¬ (i < 0 ∨ n ≤ i.toNatClampNeg)) (K : AW l X own nm cc nL ret R QF cells slots (pc + 1) L (.int (rA s o i.toNatClampNeg) :: st) (hp s gb)) : AW l X own nm cc nL ret R QF cells slots pc L (.int i :: .ref o :: st) (hp s gb) := aw_iald hd (hp_get hc) hi K
theorem aw_lAb {o n : Nat} {i : Int32} (hd : decode cc pc = .ok (.baload, 1)) (hc : sx_sh[o]? = some (.inl (.byte, n))) (hi : ¬ (i < 0 ∨ n ≤ i.toNatClampNeg)) (K : AW l X own nm cc nL ret R QF cells slots (pc + 1) L (.int (rA s o i.toNatClampNeg) :: st) (hp s gb)) : AW l X own nm cc nL ret R QF cells slots pc L (.int i :: .ref o :: st) (hp s gb) := aw_bald hd (hp_get hc) hi K
theorem aw_lB {o n : Nat} {i : Int32} (hd : decode cc pc = .ok (.laload, 1)) (hc : sx_sh[o]? = some (.inl (.long, n))) (hi : ¬ (i < 0 ∨ n ≤ i.toNatClampNeg)) (K : AW l X own nm cc nL ret R QF cells slots (pc + 1) L (.long (rB s o i.toNatClampNeg) :: st) (hp s gb)) : AW l X own nm cc nL ret R QF cells slots pc L (.int i :: .ref o :: st) (hp s gb) := aw_lald hd (hp_get hc) hi K
theorem aw_lG {o n : Nat} {i : Int32} (hd : decode cc pc = .ok (.aaload, 1)) (hc : sx_sh[o]? = some (.inl (.object "NextBest$Grid", n))) (hi : ¬ (i < 0 ∨ n ≤ i.toNatClampNeg)) (K : AW l X own nm cc nL ret R QF cells slots (pc + 1) L (.ref (22 + 2 * i.toNatClampNeg) :: st) (hp s gb)) : AW l X own nm cc nL ret R QF cells slots pc L (.int i :: .ref o :: st) (hp s gb) := aw_aald (f := sx_gr) hd (hp_get hc) hi rfl K
theorem aw_al {o n : Nat} {ty : FieldType} {v : Int32} (hd : decode cc pc = .ok (.arraylength, 1)) (hc : sx_sh[o]? = some (.inl (ty, n))) (hty : ty ∈ ax_tys) (hv : Int32.ofNat n = v) (K : AW l X own nm cc nL ret R QF cells slots (pc + 1) L (.int v :: st) (hp s gb)) : AW l X own nm cc nL ret R QF cells slots pc L (.ref o :: st) (hp s gb) := by
  have h0 := hp_get (s := s) (gb := gb) hc
  cases ty <;> exact aw_alen hd h0 hty hv K
theorem aw_sA {o n : Nat} {i v : Int32} (hd : decode cc pc = .ok (.iastore, 1)) (hc : sx_sh[o]? = some (.inl (.int, n))) (hi : ¬ (i < 0 ∨ n ≤ i.toNatClampNeg)) (K : AW l X own nm cc nL ret R QF cells slots (pc + 1) L st (hp (wA s o i.toNatClampNeg v) gb)) : AW l X own nm cc nL ret R QF cells slots pc L (.int v :: .int i :: .ref o :: st) (hp s gb) := by
  refine aw_iast hd (hp_get hc) hi ?_
  have e : (.inl (.int, n, .inl (upd (rA s o) i.toNatClampNeg v)) : ax_E) = sx_ce (wA s o i.toNatClampNeg v) o (.inl (.int, n)) := by
    show _ = (Sum.inl (FieldType.int, n, Sum.inl (rA (wA s o i.toNatClampNeg v) o)) : ax_E)
    congr 4
    funext q
    simp [upd, rA, wA, sx_up]
  rw [e, hp_set hc (fun j c h => sx_wA j c h)]
  exact K
theorem aw_sAb {o n : Nat} {i v : Int32} (hd : decode cc pc = .ok (.bastore, 1)) (hc : sx_sh[o]? = some (.inl (.byte, n))) (hi : ¬ (i < 0 ∨ n ≤ i.toNatClampNeg)) (K : AW l X own nm cc nL ret R QF cells slots (pc + 1) L st (hp (wA s o i.toNatClampNeg (vp_nar .byte v)) gb)) : AW l X own nm cc nL ret R QF cells slots pc L (.int v :: .int i :: .ref o :: st) (hp s gb) := by
  refine aw_bast hd (hp_get hc) hi ?_
  have e : (.inl (.byte, n, .inl (upd (rA s o) i.toNatClampNeg (vp_nar .byte v))) : ax_E) = sx_ce (wA s o i.toNatClampNeg (vp_nar .byte v)) o (.inl (.byte, n)) := by
    show _ = (Sum.inl (FieldType.byte, n, Sum.inl (rA (wA s o i.toNatClampNeg (vp_nar .byte v)) o)) : ax_E)
    congr 4
    funext q
    simp [upd, rA, wA, sx_up]
  rw [e, hp_set hc (fun j c h => sx_wA j c h)]
  exact K
theorem aw_sB {o n : Nat} {i : Int32} {v : Int64} (hd : decode cc pc = .ok (.lastore, 1)) (hc : sx_sh[o]? = some (.inl (.long, n))) (hi : ¬ (i < 0 ∨ n ≤ i.toNatClampNeg)) (K : AW l X own nm cc nL ret R QF cells slots (pc + 1) L st (hp (wB s o i.toNatClampNeg v) gb)) : AW l X own nm cc nL ret R QF cells slots pc L (.long v :: .int i :: .ref o :: st) (hp s gb) := by
  refine aw_last hd (hp_get hc) hi ?_
  have e : (.inl (.long, n, .inr (.inl (vp_updL (rB s o) i.toNatClampNeg v))) : ax_E) = sx_ce (wB s o i.toNatClampNeg v) o (.inl (.long, n)) := by
    show _ = (Sum.inl (FieldType.long, n, Sum.inr (Sum.inl (rB (wB s o i.toNatClampNeg v) o))) : ax_E)
    congr 5
    funext q
    simp [vp_updL, rB, wB, sx_up]
  rw [e, hp_set hc (fun j c h => sx_wB j c h)]
  exact K
end SXR
/-! loops, and how an answer is taken apart -/
def wh {α β : Type} (f : α → Option (α ⊕ β)) : Nat → α → Option β
  | 0, _ => none
  | n + 1, a => (f a).bind (fun r => Sum.elim (fun a' => wh f n a') (fun b => some b) r)
theorem wh_mono {α β : Type} {f : α → Option (α ⊕ β)} : ∀ {n m : Nat} {a : α} {b : β}, n ≤ m → wh f n a = some b → wh f m a = some b
  | 0, m, a, b, _, h => by simp [wh] at h
  | n + 1, 0, a, b, hl, _ => by omega
  | n + 1, m + 1, a, b, hl, h => by
    simp only [wh] at h ⊢
    cases hf : f a with
    | none => rw [hf] at h; simp at h
    | some r =>
      rw [hf] at h
      rcases r with a' | b'
      · exact wh_mono (by omega) h
      · exact h
/-- the loop's end, if it has one -/
noncomputable def whT {α β : Type} (f : α → Option (α ⊕ β)) (a : α) : Option β := @dite _ (∃ (n : Nat) (b : β), wh f n a = some b) (Classical.propDecidable _) (fun h => some (Classical.choose (Classical.choose_spec h))) (fun _ => none)
theorem whT_of {α β : Type} {f : α → Option (α ⊕ β)} {a : α} {b : β} {n : Nat} (h : wh f n a = some b) : whT f a = some b := by
  have hx : ∃ (n : Nat) (b : β), wh f n a = some b := ⟨n, b, h⟩
  unfold whT
  rw [dif_pos hx]
  have h2 := Classical.choose_spec (Classical.choose_spec hx)
  have h3 := wh_mono (Nat.le_max_left n (Classical.choose hx)) h
  have h4 := wh_mono (Nat.le_max_right n (Classical.choose hx)) h2
  rw [h3] at h4
  exact h4.symm
theorem whT_ex {α β : Type} {f : α → Option (α ⊕ β)} {a : α} {b : β} (h : whT f a = some b) : ∃ n, wh f n a = some b := by
  unfold whT at h
  by_cases hx : ∃ (n : Nat) (b : β), wh f n a = some b
  · rw [dif_pos hx] at h
    have h2 := Classical.choose_spec (Classical.choose_spec hx)
    cases h
    exact ⟨_, h2⟩
  · rw [dif_neg hx] at h; cases h
theorem whT_eq {α β : Type} (f : α → Option (α ⊕ β)) (a : α) : whT f a = (f a).bind (fun r => Sum.elim (fun a' => whT f a') (fun b => some b) r) := by
  cases hf : f a with
  | none =>
    cases h : whT f a with
    | none => rfl
    | some b =>
      obtain ⟨n, hn⟩ := whT_ex h
      cases n with
      | zero => simp [wh] at hn
      | succ n => simp [wh, hf] at hn
  | some r =>
    rcases r with a' | b
    · show whT f a = whT f a'
      cases h : whT f a' with
      | none =>
        cases h2 : whT f a with
        | none => rfl
        | some b =>
          obtain ⟨n, hn⟩ := whT_ex h2
          cases n with
          | zero => simp [wh] at hn
          | succ n =>
            simp only [wh, hf, Option.bind_some, Sum.elim_inl] at hn
            rw [whT_of hn] at h
            cases h
      | some b =>
        obtain ⟨n, hn⟩ := whT_ex h
        exact whT_of (n := n + 1) (by simp [wh, hf, hn])
    · exact whT_of (n := 1) (by simp [wh, hf])
/-- a walk of a loop: its body once, over any state -/
theorem wh_walk {α β : Type} {f : α → Option (α ⊕ β)} {P : α → Prop} {K : β → Prop} (H : ∀ (a : α) (r : α ⊕ β), f a = some r → Sum.elim P K r → P a) : ∀ {a : α} {b : β}, whT f a = some b → K b → P a := by
  intro a b h hb
  obtain ⟨n, hn⟩ := whT_ex h
  clear h
  induction n generalizing a with
  | zero => simp [wh] at hn
  | succ n ih =>
    cases hf : f a with
    | none => simp [wh, hf] at hn
    | some r =>
      refine H a r hf ?_
      rcases r with a' | b'
      · simp [wh, hf] at hn; exact ih hn
      · simp [wh, hf] at hn; subst hn; exact hb
/-- a loop has an end: an invariant and a measure -/
theorem wh_end {α β : Type} {f : α → Option (α ⊕ β)} (I : α → Prop) (μ : α → Nat) (Q : β → Prop) (H : ∀ a, I a → (∃ b, f a = some (.inr b) ∧ Q b) ∨ ∃ a', f a = some (.inl a') ∧ I a' ∧ μ a' < μ a) : ∀ a, I a → ∃ b, whT f a = some b ∧ Q b := by
  have key : ∀ (n : Nat) (a : α), μ a < n → I a → ∃ b, whT f a = some b ∧ Q b := by
    intro n
    induction n with
    | zero => intro a h; omega
    | succ n ih =>
      intro a hm hI
      rcases H a hI with ⟨b, hb, hQ⟩ | ⟨a', ha, hI', hlt⟩
      · exact ⟨b, by rw [whT_eq, hb]; rfl, hQ⟩
      · obtain ⟨b, hb, hQ⟩ := ih a' (by omega) hI'
        exact ⟨b, by rw [whT_eq, ha]; exact hb, hQ⟩
  intro a hI
  exact key _ a (Nat.lt_succ_self _) hI
theorem ax_ite {α : Type} {c : Prop} [Decidable c] {A : Option α} {r : α} (h : (if c then A else none) = some r) : c ∧ A = some r := by
  by_cases hc : c
  · rw [if_pos hc] at h; exact ⟨hc, h⟩
  · rw [if_neg hc] at h; cases h
theorem ax_bind {α β : Type} {x : Option α} {f : α → Option β} {b : β} (h : x.bind f = some b) : ∃ a, x = some a ∧ f a = some b := Option.bind_eq_some_iff.mp h
theorem ax_pos {α : Type} {c : Prop} [Decidable c] {A B : Option α} {r : Option α} (hc : c) (h : (if c then A else B) = r) : A = r := by rw [if_pos hc] at h; exact h
theorem ax_neg {α : Type} {c : Prop} [Decidable c] {A B : Option α} {r : Option α} (hc : ¬ c) (h : (if c then A else B) = r) : B = r := by rw [if_neg hc] at h; exact h
theorem sh_0 : sx_sh[0]? = some (.inr (11, [.inl 1, .inl 3, .inl 5, .inl 9, .inl 13, .inl 15, .inl 19, .inl 20, .inl 42, .inl 46, .inl 49, .inl 53, .inl 55, .inl 56, .inl 57])) := rfl
theorem sh_1 : sx_sh[1]? = some (.inr (9, [.inl 2, .inr false])) := rfl
theorem sh_2 : sx_sh[2]? = some (.inl (.byte, 600)) := rfl
theorem sh_3 : sx_sh[3]? = some (.inr (1, [.inl 4, .inr false, .inr false])) := rfl
theorem sh_4 : sx_sh[4]? = some (.inl (.long, 56)) := rfl
theorem sh_5 : sx_sh[5]? = some (.inr (5, [.inl 3, .inl 6, .inl 7, .inl 8])) := rfl
theorem sh_6 : sx_sh[6]? = some (.inl (.int, 256)) := rfl
theorem sh_7 : sx_sh[7]? = some (.inl (.long, 256)) := rfl
theorem sh_8 : sx_sh[8]? = some (.inl (.long, 256)) := rfl
theorem sh_9 : sx_sh[9]? = some (.inr (4, [.inl 3, .inl 5, .inl 10, .inl 11, .inr false, .inr false, .inr true, .inr false, .inl 12, .inr false, .inr false, .inr false, .inr false])) := rfl
theorem sh_10 : sx_sh[10]? = some (.inl (.int, 200)) := rfl
theorem sh_11 : sx_sh[11]? = some (.inl (.long, 200)) := rfl
theorem sh_12 : sx_sh[12]? = some (.inl (.int, 64)) := rfl
theorem sh_13 : sx_sh[13]? = some (.inr (1, [.inl 14, .inr false, .inr false])) := rfl
theorem sh_14 : sx_sh[14]? = some (.inl (.long, 56)) := rfl
theorem sh_15 : sx_sh[15]? = some (.inr (5, [.inl 13, .inl 16, .inl 17, .inl 18])) := rfl
theorem sh_16 : sx_sh[16]? = some (.inl (.int, 256)) := rfl
theorem sh_17 : sx_sh[17]? = some (.inl (.long, 256)) := rfl
theorem sh_18 : sx_sh[18]? = some (.inl (.long, 256)) := rfl
theorem sh_19 : sx_sh[19]? = some (.inr (6, [.inl 1, .inl 13, .inr false, .inr false, .inr false, .inr false, .inr false, .inr false])) := rfl
theorem sh_20 : sx_sh[20]? = some (.inr (2, [.inl 21, .inr false, .inr false])) := rfl
theorem sh_21 : sx_sh[21]? = some (.inl (.object "NextBest$Grid", 10)) := rfl
theorem sh_22 : sx_sh[22]? = some (.inr (1, [.inl 23, .inr false, .inr false])) := rfl
theorem sh_23 : sx_sh[23]? = some (.inl (.long, 56)) := rfl
theorem sh_24 : sx_sh[24]? = some (.inr (1, [.inl 25, .inr false, .inr false])) := rfl
theorem sh_25 : sx_sh[25]? = some (.inl (.long, 56)) := rfl
theorem sh_26 : sx_sh[26]? = some (.inr (1, [.inl 27, .inr false, .inr false])) := rfl
theorem sh_27 : sx_sh[27]? = some (.inl (.long, 56)) := rfl
theorem sh_28 : sx_sh[28]? = some (.inr (1, [.inl 29, .inr false, .inr false])) := rfl
theorem sh_29 : sx_sh[29]? = some (.inl (.long, 56)) := rfl
theorem sh_30 : sx_sh[30]? = some (.inr (1, [.inl 31, .inr false, .inr false])) := rfl
theorem sh_31 : sx_sh[31]? = some (.inl (.long, 56)) := rfl
theorem sh_32 : sx_sh[32]? = some (.inr (1, [.inl 33, .inr false, .inr false])) := rfl
theorem sh_33 : sx_sh[33]? = some (.inl (.long, 56)) := rfl
theorem sh_34 : sx_sh[34]? = some (.inr (1, [.inl 35, .inr false, .inr false])) := rfl
theorem sh_35 : sx_sh[35]? = some (.inl (.long, 56)) := rfl
theorem sh_36 : sx_sh[36]? = some (.inr (1, [.inl 37, .inr false, .inr false])) := rfl
theorem sh_37 : sx_sh[37]? = some (.inl (.long, 56)) := rfl
theorem sh_38 : sx_sh[38]? = some (.inr (1, [.inl 39, .inr false, .inr false])) := rfl
theorem sh_39 : sx_sh[39]? = some (.inl (.long, 56)) := rfl
theorem sh_40 : sx_sh[40]? = some (.inr (1, [.inl 41, .inr false, .inr false])) := rfl
theorem sh_41 : sx_sh[41]? = some (.inl (.long, 56)) := rfl
theorem sh_42 : sx_sh[42]? = some (.inr (7, [.inl 3, .inl 13, .inl 15, .inl 43, .inl 44, .inl 45, .inr true, .inr true])) := rfl
theorem sh_43 : sx_sh[43]? = some (.inl (.long, 256)) := rfl
theorem sh_44 : sx_sh[44]? = some (.inl (.int, 7)) := rfl
theorem sh_45 : sx_sh[45]? = some (.inl (.int, 7)) := rfl
theorem sh_46 : sx_sh[46]? = some (.inr (0, [.inl 3, .inl 47, .inl 48, .inr true, .inr false, .inr false, .inr true, .inr false, .inr false])) := rfl
theorem sh_47 : sx_sh[47]? = some (.inl (.int, 7)) := rfl
theorem sh_48 : sx_sh[48]? = some (.inl (.int, 8)) := rfl
theorem sh_49 : sx_sh[49]? = some (.inr (8, [.inl 3, .inl 50, .inl 51, .inl 52, .inr false, .inr false])) := rfl
theorem sh_50 : sx_sh[50]? = some (.inl (.long, 8)) := rfl
theorem sh_51 : sx_sh[51]? = some (.inl (.int, 7)) := rfl
theorem sh_52 : sx_sh[52]? = some (.inl (.int, 7)) := rfl
theorem sh_53 : sx_sh[53]? = some (.inr (3, [.inl 3, .inl 54, .inr false, .inr true, .inr false])) := rfl
theorem sh_54 : sx_sh[54]? = some (.inl (.int, 7)) := rfl
theorem sh_55 : sx_sh[55]? = some (.inr (10, [.inr false, .inr false, .inr false, .inr false, .inr false])) := rfl
theorem sh_56 : sx_sh[56]? = some (.inl (.int, 7)) := rfl
theorem sh_57 : sx_sh[57]? = some (.inl (.int, 7)) := rfl
theorem sh_58 : sx_sh[58]? = some (.inr (12, [.inl 59, .inl 60, .inr false, .inl 61, .inr false, .inr false, .inr false, .inl 62, .inr false, .inr false, .inr false, .inr false, .inr false, .inl 63, .inl 64, .inr false, .inl 65, .inl 66, .inr false, .inl 67, .inr false, .inr false, .inr false, .inr false, .inl 68, .inl 69, .inr false, .inr false, .inr false, .inr false, .inr false, .inr false, .inl 70])) := rfl
theorem sh_59 : sx_sh[59]? = some (.inl (.int, 58)) := rfl
theorem sh_60 : sx_sh[60]? = some (.inl (.int, 580)) := rfl
theorem sh_61 : sx_sh[61]? = some (.inl (.int, 600)) := rfl
theorem sh_62 : sx_sh[62]? = some (.inl (.int, 58)) := rfl
theorem sh_63 : sx_sh[63]? = some (.inl (.int, 40320)) := rfl
theorem sh_64 : sx_sh[64]? = some (.inl (.int, 40320)) := rfl
theorem sh_65 : sx_sh[65]? = some (.inl (.int, 7)) := rfl
theorem sh_66 : sx_sh[66]? = some (.inl (.int, 200)) := rfl
theorem sh_67 : sx_sh[67]? = some (.inl (.int, 7)) := rfl
theorem sh_68 : sx_sh[68]? = some (.inl (.long, 8)) := rfl
theorem sh_69 : sx_sh[69]? = some (.inl (.int, 600)) := rfl
theorem sh_70 : sx_sh[70]? = some (.inl (.int, 58)) := rfl
/-- g is a grid (its costs lie behind it), g + 2 its ranks -/
def ax_G (g : Nat) : Prop := sx_sh[g]? = some (.inr (1, [.inl (g + 1), .inr false, .inr false])) ∧ sx_sh[g + 1]? = some (.inl (.long, 56))
def ax_RK (g : Nat) : Prop := ax_G g ∧ sx_sh[g + 2]? = some (.inr (5, [.inl g, .inl (g + 3), .inl (g + 4), .inl (g + 5)])) ∧ sx_sh[g + 3]? = some (.inl (.int, 256)) ∧ sx_sh[g + 4]? = some (.inl (.long, 256)) ∧ sx_sh[g + 5]? = some (.inl (.long, 256))
theorem ax_G3 : ax_G 3 := ⟨rfl, rfl⟩
theorem ax_G13 : ax_G 13 := ⟨rfl, rfl⟩
theorem ax_RK3 : ax_RK 3 := ⟨⟨rfl, rfl⟩, rfl, rfl, rfl, rfl⟩
theorem ax_RK13 : ax_RK 13 := ⟨⟨rfl, rfl⟩, rfl, rfl, rfl, rfl⟩
theorem ax_Gk : ∀ i : Nat, i < 10 → ax_G (22 + 2 * i) := by
  intro i hi
  rcases (show i = 0 ∨ i = 1 ∨ i = 2 ∨ i = 3 ∨ i = 4 ∨ i = 5 ∨ i = 6 ∨ i = 7 ∨ i = 8 ∨ i = 9 by omega) with rfl | rfl | rfl | rfl | rfl | rfl | rfl | rfl | rfl | rfl <;> exact ⟨rfl, rfl⟩
