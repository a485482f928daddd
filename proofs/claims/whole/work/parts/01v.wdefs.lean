def ax_gw : List Cond := lw_tbl.filter goodWord
def ax_isN : Cond → Bool
  | .fieldLinkNest .. => true
  | .methodLinkNest .. => true
  | _ => false
def ax_nw : List Cond := tables_1.filter ax_isN
/-- entry 'index' of class own's pool is field k of class ci -/
def ax_fl (own : String) (index ci k : Nat) : Prop := ∃ (C : String) (T : u_T) (N : Nat), vwCl[ci]? = some (C, T, N) ∧ k < N ∧ (∀ w ∈ u_ws C T N, w ∈ ax_gw) ∧ (Cond.fieldLink own index (T k).1 (T k).2.1 (T k).2.2.1 ∈ ax_gw ∨ ∃ host : String, Cond.fieldLinkNest own index (T k).1 (T k).2.1 (T k).2.2.1 host ∈ ax_nw)
/-- and may be written: its type, whether it is final -/
def ax_fp (own : String) (index ci k : Nat) (ty : FieldType) (fin : Bool) : Prop := ∃ (C : String) (T : u_T) (N : Nat) (ty0 : Nat → FieldType), vwCl[ci]? = some (C, T, N) ∧ k < N ∧ (∀ w ∈ u_ws C T N, w ∈ ax_gw) ∧ (∀ k, k < N → parseFieldDescriptor (T k).2.2.1 = some (ty0 k)) ∧ (∀ a, a < N → ∀ b, b < N → a ≠ b → (T a).2.1 ≠ (T b).2.1) ∧ (T k).2.2.2 = fin ∧ ty0 k = ty ∧ ((Cond.fieldLink own index (T k).1 (T k).2.1 (T k).2.2.1 ∈ ax_gw ∧ (fin = true → (T k).1 = own)) ∨ (fin = false ∧ ∃ host : String, Cond.fieldLinkNest own index (T k).1 (T k).2.1 (T k).2.2.1 host ∈ ax_nw))
/-- entry 'index' of class own's pool is the method y with n parameters: kind 0 virtual, 1 static, 2 a constructor -/
def ax_cl (own : String) (index : Nat) (y : MethodName) (cc : ByteArray) (nL : Nat) (ret : Option FieldType) (n : Nat) : Prop :=
  (Cond.code y cc nL ret ∈ ax_gw ∧ Cond.initialized y.cls ∈ ax_gw ∧ y.cls ≠ "java/lang/invoke/MethodHandle" ∧ y.cls ≠ "java/lang/invoke/VarHandle" ∧ (parseMethodDescriptor y.desc).map (fun d => d.parameters.length) = some n) ∧ (Cond.methodLink own index y ∈ ax_gw ∨ ∃ host : String, Cond.methodLinkNest own index y host ∈ ax_nw)
/-- String constants: class, pool entry, text, number -/
def ax_strs : List (String × Nat × String × Nat) := [("NextBest$Reader", 100, "jobs", 1), ("NextBest$Reader", 105, "worker", 2), ("NextBest$Reader", 107, "x", 3), ("NextBestModel", 140, "jobs", 1), ("NextBestModel", 135, "worker", 2), ("NextBestModel", 125, "x", 3)]
theorem sr_X6_100 : (RX6, 100, "jobs", 1) ∈ ax_strs := List.mem_of_getElem? (i := 0) rfl
theorem sr_X6_105 : (RX6, 105, "worker", 2) ∈ ax_strs := List.mem_of_getElem? (i := 1) rfl
theorem sr_X6_107 : (RX6, 107, "x", 3) ∈ ax_strs := List.mem_of_getElem? (i := 2) rfl
theorem sr_X12_140 : (RX12, 140, "jobs", 1) ∈ ax_strs := List.mem_of_getElem? (i := 3) rfl
theorem sr_X12_135 : (RX12, 135, "worker", 2) ∈ ax_strs := List.mem_of_getElem? (i := 4) rfl
theorem sr_X12_125 : (RX12, 125, "x", 3) ∈ ax_strs := List.mem_of_getElem? (i := 5) rfl
