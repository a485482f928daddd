/-! THE ABSTRACT HEAP: a list of cells; a reference is a place in it. All cells that a run makes lie behind one another from the size of the heap at the law's start (X.1) on, so a cell's address is X.1 + its place. -/
theorem ax_nw_warm {w : Cond} {s U : State} (h : ax_isN w = true) (hW : s.WarmedH U.vm) (hz : va_Nw w s) : va_Nw w U := by
  cases w <;> first | exact va_Nw.warmF hW hz | exact va_Nw.warmM hW hz | (simp [ax_isN] at h; done)
/-- (the heap's size at the start, class numbers and slots, array classes, addresses of things outside: 0 the script, 1 2 3 Strings, 17 18 19 their bytes, 32 a formatter; the script's length and its ints) -/
abbrev ax_X : Type := Nat × va_G × (FieldType → ClassId) × (Nat → Nat) × Nat × (Nat → Int32)
/-- a value: a reference is a place; a float stands for a thing outside the world (the script, a String) -/
def ax_v (X : ax_X) : Value → Value
  | .int x => .int x
  | .long x => .long x
  | .float i => .ref (X.2.2.2.1 i.toNat)
  | .double x => .double x
  | .null => .null
  | .ref k => .ref (X.1 + k)
  | .retAddr k => .retAddr k
theorem ax_cat (X : ax_X) (v : Value) : (ax_v X v).category = v.category := by cases v <;> rfl
abbrev ax_E : Type := (FieldType × vp_A) ⊕ (Nat × List Value)
abbrev ax_H : Type := List ax_E
def ax_arr (X : ax_X) : vp_A → vp_A
  | (n, .inl f) => (n, .inl f)
  | (n, .inr (.inl f)) => (n, .inr (.inl f))
  | (n, .inr (.inr (.inl f))) => (n, .inr (.inr (.inl f)))
  | (n, .inr (.inr (.inr (.inl f)))) => (n, .inr (.inr (.inr (.inl f))))
  | (n, .inr (.inr (.inr (.inr f)))) => (n, .inr (.inr (.inr (.inr (fun i => (f i).map (fun k => X.1 + k))))))
def ax_ce (X : ax_X) : ax_E → va_E
  | .inl (ty, a) => .inl (X.2.2.1 ty, ax_arr X a)
  | .inr (ci, fs) => .inr (ci, fs.map (ax_v X))
def ax_ws (X : ax_X) (h : ax_H) : va_W := h.mapIdx (fun k c => (X.1 + k, ax_ce X c))
theorem ax_ws_get (X : ax_X) (h : ax_H) (k : Nat) : (ax_ws X h)[k]? = (h[k]?).map (fun c => (X.1 + k, ax_ce X c)) := by simp [ax_ws]
theorem ax_ws_at {X : ax_X} {h : ax_H} {k : Nat} {c : ax_E} (hk : h[k]? = some c) : (ax_ws X h)[k]? = some (X.1 + k, ax_ce X c) := by rw [ax_ws_get, hk]; rfl
theorem ax_ws_set (X : ax_X) (h : ax_H) (k : Nat) (c : ax_E) : (ax_ws X h).set k (X.1 + k, ax_ce X c) = ax_ws X (h.set k c) := by
  apply List.ext_getElem?
  intro j
  rw [ax_ws_get]
  have hlen : (ax_ws X h).length = h.length := by simp [ax_ws]
  by_cases hj : k = j
  · subst hj
    by_cases hk : k < h.length
    · rw [List.getElem?_set_self (by rw [hlen]; exact hk), List.getElem?_set_self hk]; rfl
    · rw [List.getElem?_eq_none (by rw [List.length_set, hlen]; omega), List.getElem?_eq_none (by rw [List.length_set]; omega)]; rfl
  · rw [List.getElem?_set_ne hj, List.getElem?_set_ne hj, ax_ws_get]
theorem ax_ws_push (X : ax_X) (h : ax_H) (c : ax_E) : ax_ws X (h ++ [c]) = ax_ws X h ++ [(X.1 + h.length, ax_ce X c)] := by
  simp [ax_ws, List.mapIdx_append]
theorem ax_D (X : ax_X) (h : ax_H) : va_D (fun q => X.1 ≤ q) (ax_ws X h) := by
  refine ⟨fun i j p q hi hj e => ?_, fun k q hk => ?_⟩
  · rw [ax_ws_get] at hi hj
    obtain ⟨c, -, rfl⟩ := Option.map_eq_some_iff.mp hi
    obtain ⟨c', -, rfl⟩ := Option.map_eq_some_iff.mp hj
    have e : X.1 + i = X.1 + j := e
    omega
  · rw [ax_ws_get] at hk
    obtain ⟨c, -, rfl⟩ := Option.map_eq_some_iff.mp hk
    exact Nat.le_add_right _ _
/-- the heap holds the cells, and nothing lies behind them -/
def ax_hp (X : ax_X) (h : ax_H) (H : Heap) : Prop := va_P X.2.1 vwCl (ax_ws X h) H ∧ H.size = X.1 + h.length
def ax_tys : List FieldType := [.int, .byte, .long, .object "NextBest$Grid"]
/-- things outside: the script, String constants, statics of the JDK's -/
def ax_Sx (X : ax_X) (U : State) : Prop := va_Z "java/lang/String" "COMPACT_STRINGS" "Z" (.int 1) (fun q => X.1 ≤ q) U U.heap ∧ (va_Z "jdk/internal/util/Preconditions" "SIOOBE_FORMATTER" "Ljava/util/function/BiFunction;" .null (fun q => X.1 ≤ q) U U.heap ∨ va_Z "jdk/internal/util/Preconditions" "SIOOBE_FORMATTER" "Ljava/util/function/BiFunction;" (.ref (X.2.2.2.1 32)) (fun q => X.1 ≤ q) U U.heap) ∧ vk_S 3 [4, 6, 1] [[106, 111, 98, 115], [119, 111, 114, 107, 101, 114], [120]] (fun i => X.2.2.2.1 (1 + i)) (fun i => X.2.2.2.1 (17 + i)) (fun q => X.1 ≤ q) U U.heap ∧ (∀ q ∈ ax_strs, vk_R q.1 q.2.1 q.2.2.1 (X.2.2.2.1 q.2.2.2) U) ∧ va_T .int (X.2.2.2.1 0) X.2.2.2.2.1 (fun j => .int (X.2.2.2.2.2 j)) (fun q => X.1 ≤ q) U U.heap ∧ va_AO "NextBest$Grid" U
theorem ax_Sx.moved {X : ax_X} {s U : State} (hW : s.WarmedH U.vm) (hq : ∀ a : Nat, a < s.heap.size → ¬ X.1 ≤ a → U.heap[a]? = s.heap[a]?) (h : ax_Sx X s) : ax_Sx X U :=
  ⟨(h.1.moved hW.alike).kept hq, h.2.1.imp (fun z => (z.moved hW.alike).kept hq) (fun z => (z.moved hW.alike).kept hq), (h.2.2.1.moved hW.alike).kept hq, fun q hm => (h.2.2.2.1 q hm).warm hW, (h.2.2.2.2.1.moved hW.alike).kept hq, h.2.2.2.2.2.moved hW.alike⟩
/-- what the tables say: classes, array classes, links between nest mates; things outside -/
def ax_K (X : ax_X) (U : State) : Prop := va_K X.2.1 vwCl [] U ∧ (∀ ty ∈ ax_tys, ArrOfT U (X.2.2.1 ty) ty ∧ va_RA U (X.2.2.1 ty) ty) ∧ (∀ w ∈ ax_nw, va_Nw w U) ∧ ax_Sx X U
theorem ax_K.moved {X : ax_X} {s U : State} (hW : s.WarmedH U.vm) (hq : ∀ a : Nat, a < s.heap.size → ¬ X.1 ≤ a → U.heap[a]? = s.heap[a]?) (h : ax_K X s) : ax_K X U :=
  ⟨va_K.moved hW.alike h.1, fun ty hty => ⟨arrOfT_moved hW.alike (h.2.1 ty hty).1, (h.2.1 ty hty).2.moved hW.alike⟩, fun w hw => ax_nw_warm (List.mem_filter.mp hw).2 hW (h.2.2.1 w hw), h.2.2.2.moved hW hq⟩
theorem ax_K.same {X : ax_X} {s U : State} (e : s.vm = U.vm) (eh : s.heap = U.heap) (h : ax_K X s) : ax_K X U := by
  have hW : s.WarmedH U.vm := by rw [← e]; exact State.WarmedH.refl s
  exact h.moved hW (fun _ _ _ => by rw [eh])
theorem ax_K.arr {X : ax_X} {s : State} (h : ax_K X s) {ty : FieldType} (hty : ty ∈ ax_tys) : va_K X.2.1 vwCl [(X.2.2.1 ty, ty)] s := by
  refine ⟨h.1.1, fun k q hk => ?_⟩
  match k, hk with
  | 0, hk => cases hk; exact h.2.1 ty hty
  | k + 1, hk => simp at hk
/-! the locals -/
def ax_ls (X : ax_X) (nL : Nat) (L : List (Option Value)) (ls : Array Slot) : Prop := ls.size = nL ∧ lv_wf ls ∧ ∀ (i : Nat) (v : Value), L[i]? = some (some v) → ls[i]? = some (.val (ax_v X v))
def ax_lvl (X : ax_X) (L : List (Option Value)) : List (Nat × Value) := (List.range L.length).filterMap (fun i => (L[i]?.join).map (fun v => (i, ax_v X v)))
theorem ax_lvl_in {X : ax_X} {L : List (Option Value)} {i : Nat} {v : Value} (h : L[i]? = some (some v)) : (i, ax_v X v) ∈ ax_lvl X L := by
  refine List.mem_filterMap.mpr ⟨i, List.mem_range.mpr (List.getElem?_eq_some_iff.mp h).1, ?_⟩
  rw [h]; rfl
theorem ax_lvl_has {X : ax_X} {nL : Nat} {L : List (Option Value)} {ls : Array Slot} (h : ax_ls X nL L ls) : lv_has ls nL (ax_lvl X L) := by
  refine ⟨h.1, h.2.1, fun q hq => ?_⟩
  obtain ⟨i, -, hi⟩ := List.mem_filterMap.mp hq
  obtain ⟨v, hv, rfl⟩ := Option.map_eq_some_iff.mp hi
  refine h.2.2 i v ?_
  cases hL : L[i]? with
  | none => rw [hL] at hv; cases hv
  | some o => rw [hL] at hv; cases o with
    | none => cases hv
    | some w => cases hv; rfl
def ax_two : Option Value → Bool
  | some (.long _) => true
  | some (.double _) => true
  | _ => false
/-- a value of one slot, of two slots, into place i -/
def ax_st1 : List (Option Value) → Nat → Value → List (Option Value)
  | [], _, _ => []
  | _ :: L, 0, v => some v :: L
  | o :: L, 1, v => (if ax_two o then none else o) :: ax_st1 L 0 v
  | o :: L, i + 2, v => o :: ax_st1 L (i + 1) v
def ax_st2 : List (Option Value) → Nat → Value → List (Option Value)
  | [], _, _ => []
  | [_], _, _ => []
  | _ :: _ :: L, 0, v => some v :: none :: L
  | o :: o' :: L, 1, v => (if ax_two o then none else o) :: ax_st2 (o' :: L) 0 v
  | o :: o' :: L, i + 2, v => o :: ax_st2 (o' :: L) (i + 1) v
theorem ax_st1_get : ∀ (L : List (Option Value)) (i : Nat) (v : Value) (j : Nat) (w : Value), (ax_st1 L i v)[j]? = some (some w) → (j = i ∧ w = v) ∨ (j ≠ i ∧ L[j]? = some (some w) ∧ ¬ (j + 1 = i ∧ w.category = 2))
  | [], i, v, j, w, h => by simp [ax_st1] at h
  | o :: L, 0, v, j, w, h => by
    cases j with
    | zero => simp [ax_st1] at h; exact Or.inl ⟨rfl, h.symm⟩
    | succ j => simp [ax_st1] at h; exact Or.inr ⟨by omega, by simpa using h, by omega⟩
  | o :: L, 1, v, j, w, h => by
    cases j with
    | zero =>
      simp only [ax_st1, List.getElem?_cons_zero, Option.some.injEq] at h
      refine Or.inr ⟨by omega, ?_, ?_⟩
      · by_cases c : ax_two o = true
        · rw [if_pos c] at h; cases h
        · rw [if_neg c] at h; rw [h]; rfl
      · rintro ⟨-, hc⟩
        by_cases c : ax_two o = true
        · rw [if_pos c] at h; cases h
        · rw [if_neg c] at h; rw [h] at c; cases w <;> simp_all [ax_two, Value.category]
    | succ j =>
      simp only [ax_st1, List.getElem?_cons_succ] at h
      rcases ax_st1_get L 0 v j w h with ⟨a, b⟩ | ⟨a, b, c⟩
      · exact Or.inl ⟨by omega, b⟩
      · exact Or.inr ⟨by omega, by simpa using b, by omega⟩
  | o :: L, i + 2, v, j, w, h => by
    cases j with
    | zero => simp [ax_st1] at h; exact Or.inr ⟨by omega, by simp [h], by omega⟩
    | succ j =>
      simp only [ax_st1, List.getElem?_cons_succ] at h
      rcases ax_st1_get L (i + 1) v j w h with ⟨a, b⟩ | ⟨a, b, c⟩
      · exact Or.inl ⟨by omega, b⟩
      · exact Or.inr ⟨by omega, by simpa using b, fun q => c ⟨by omega, q.2⟩⟩
theorem ax_st2_get : ∀ (L : List (Option Value)) (i : Nat) (v : Value) (j : Nat) (w : Value), (ax_st2 L i v)[j]? = some (some w) → (j = i ∧ w = v) ∨ (j ≠ i ∧ j ≠ i + 1 ∧ L[j]? = some (some w) ∧ ¬ (j + 1 = i ∧ w.category = 2))
  | [], i, v, j, w, h => by simp [ax_st2] at h
  | [_], i, v, j, w, h => by simp [ax_st2] at h
  | o :: o' :: L, 0, v, j, w, h => by
    match j, h with
    | 0, h => simp [ax_st2] at h; exact Or.inl ⟨rfl, h.symm⟩
    | 1, h => simp [ax_st2] at h
    | j + 2, h => simp [ax_st2] at h; exact Or.inr ⟨by omega, by omega, by simpa using h, by omega⟩
  | o :: o' :: L, 1, v, j, w, h => by
    cases j with
    | zero =>
      simp only [ax_st2, List.getElem?_cons_zero, Option.some.injEq] at h
      refine Or.inr ⟨by omega, by omega, ?_, ?_⟩
      · by_cases c : ax_two o = true
        · rw [if_pos c] at h; cases h
        · rw [if_neg c] at h; rw [h]; rfl
      · rintro ⟨-, hc⟩
        by_cases c : ax_two o = true
        · rw [if_pos c] at h; cases h
        · rw [if_neg c] at h; rw [h] at c; cases w <;> simp_all [ax_two, Value.category]
    | succ j =>
      simp only [ax_st2, List.getElem?_cons_succ] at h
      rcases ax_st2_get (o' :: L) 0 v j w h with ⟨a, b⟩ | ⟨a, b, c, d⟩
      · exact Or.inl ⟨by omega, b⟩
      · exact Or.inr ⟨by omega, by omega, by simpa using c, by omega⟩
  | o :: o' :: L, i + 2, v, j, w, h => by
    cases j with
    | zero => simp [ax_st2] at h; exact Or.inr ⟨by omega, by omega, by simp [h], by omega⟩
    | succ j =>
      simp only [ax_st2, List.getElem?_cons_succ] at h
      rcases ax_st2_get (o' :: L) (i + 1) v j w h with ⟨a, b⟩ | ⟨a, b, c, d⟩
      · exact Or.inl ⟨by omega, b⟩
      · exact Or.inr ⟨by omega, by omega, by simpa using c, fun q => d ⟨by omega, q.2⟩⟩
theorem ax_ls_st1 {X : ax_X} {nL i : Nat} {L : List (Option Value)} {v : Value} {ls' : Array Slot} (h : lv_has ls' nL ((i, ax_v X v) :: (ax_lvl X L).filter (fun q => !(q.1 == i) && !(q.1 + 1 == i && q.2.category == 2)))) : ax_ls X nL (ax_st1 L i v) ls' := by
  refine ⟨h.1, h.2.1, fun j w hj => ?_⟩
  rcases ax_st1_get L i v j w hj with ⟨rfl, rfl⟩ | ⟨a, b, c⟩
  · exact h.2.2 _ List.mem_cons_self
  · refine h.2.2 (j, ax_v X w) (List.mem_cons_of_mem _ (List.mem_filter.mpr ⟨ax_lvl_in b, ?_⟩))
    have e := ax_cat X w
    simp only [Bool.and_eq_true, Bool.not_eq_true', beq_eq_false_iff_ne, Bool.and_eq_false_iff]
    refine ⟨a, ?_⟩
    by_cases g : j + 1 = i
    · right; rw [e]; exact fun q => c ⟨g, q⟩
    · left; exact g
theorem ax_ls_st2 {X : ax_X} {nL i : Nat} {L : List (Option Value)} {v : Value} {ls' : Array Slot} (h : lv_has ls' nL ((i, ax_v X v) :: (ax_lvl X L).filter (fun q => !(q.1 == i) && (!(q.1 == i + 1) && !(q.1 + 1 == i && q.2.category == 2))))) : ax_ls X nL (ax_st2 L i v) ls' := by
  refine ⟨h.1, h.2.1, fun j w hj => ?_⟩
  rcases ax_st2_get L i v j w hj with ⟨rfl, rfl⟩ | ⟨a, a2, b, c⟩
  · exact h.2.2 _ List.mem_cons_self
  · refine h.2.2 (j, ax_v X w) (List.mem_cons_of_mem _ (List.mem_filter.mpr ⟨ax_lvl_in b, ?_⟩))
    have e := ax_cat X w
    simp only [Bool.and_eq_true, Bool.not_eq_true', beq_eq_false_iff_ne, Bool.and_eq_false_iff]
    refine ⟨a, a2, ?_⟩
    by_cases g : j + 1 = i
    · right; rw [e]; exact fun q => c ⟨g, q⟩
    · left; exact g
/-- fewer locals -/
def ax_sub : List (Option Value) → List (Option Value) → Prop
  | [], _ => True
  | none :: L, [] => ax_sub L []
  | some _ :: _, [] => False
  | none :: L, _ :: L' => ax_sub L L'
  | some v :: L, o :: L' => o = some v ∧ ax_sub L L'
theorem ax_sub_get : ∀ (L L' : List (Option Value)) (i : Nat) (v : Value), ax_sub L L' → L[i]? = some (some v) → L'[i]? = some (some v)
  | [], _, i, v, _, h => by simp at h
  | none :: L, [], i, v, s, h => by
    cases i with
    | zero => simp at h
    | succ i => have := ax_sub_get L [] i v s (by simpa using h); simp at this
  | some _ :: _, [], i, v, s, h => s.elim
  | none :: L, o :: L', i, v, s, h => by
    cases i with
    | zero => simp at h
    | succ i => simpa using ax_sub_get L L' i v s (by simpa using h)
  | some w :: L, o :: L', i, v, s, h => by
    cases i with
    | zero => simp at h; simp [s.1, h]
    | succ i => simpa using ax_sub_get L L' i v s.2 (by simpa using h)
def ax_At (X : ax_X) (own nm : String) (cc : ByteArray) (nL : Nat) (ret : Option FieldType) (p : Program) (s : State) (m : MethodId) (args : Array Value) (meth : Method) (c : Code) : Prop :=
  p.tables.exec = Jvm.exec ∧ c.code = cc ∧ c.maxLocals = nL ∧ meth.sig.returnType = ret ∧ meth.locks = false ∧ s.vm.findClass own = some m.cls ∧ (∀ w ∈ ax_gw, w.before args s = true) ∧ ax_K X s ∧ meth.name = nm ∧ X.1 ≤ s.heap.size
/-- THE JUDGEMENT: from this place of the method, with these locals, this stack and this heap, the machine comes to a state with QF -/
def AW (l : Launch) (X : ax_X) (own nm : String) (cc : ByteArray) (nL : Nat) (ret : Option FieldType) (R : Room) (QF : List Frame → Array Value → State → State → Prop) (cells slots pc : Nat) (L : List (Option Value)) (st : List Value) (h : ax_H) : Prop :=
  ∀ (p : Program) (e : Env) (s : State) (m : MethodId) (args : Array Value) (below : List Frame) (meth : Method) (c : Code) (H : Heap) (locs : List Loc) (ls : Array Slot),
    ax_At X own nm cc nL ret p s m args meth c → ax_hp X h H → va_S (fun q => X.1 ≤ q) s.heap H locs → ax_ls X nL L ls →
    W p l e R s m args below meth c H locs cells slots (QF below args s) (F0 m pc ls (st.map (ax_v X)))
