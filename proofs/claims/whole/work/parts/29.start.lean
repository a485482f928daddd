/-- what holds at the law's entry: the machine, the code, the tables' words (any of lw_tbl by 'hts w (by decide +kernel)'), the script of L ints xs at the cell b, what the Statement gives of the start (any of its parts by flat_of_before) -/
def lw_At (p : Program) (s : State) (m : MethodId) (meth : Method) (c : Code) (b L : Nat) (xs : Nat → Int32) : Prop :=
  p.tables.exec = Jvm.exec ∧ c.code = code ∧ meth.sig.returnType = ret ∧ c.maxLocals = 4 ∧ s.vm.findClass R_law = some m.cls ∧ (∀ w ∈ lw_tbl, w.before #[Value.ref b] s = true) ∧ va_X b L xs s s.heap ∧ b < s.heap.size ∧ meth.locks = false ∧ (Jvm.Cond.and given_1 narrow_1).before #[Value.ref b] s = true
def hx_M : ax_H := [.inr (11, [.ref 1, .ref 3, .ref 5, .ref 9, .ref 13, .ref 15, .ref 19, .ref 20, .ref 42, .ref 46, .ref 49, .ref 53, .ref 55, .ref 56, .ref 57]), .inr (9, [.ref 2, .int 0]), .inl (.byte, 600, .inl (fun _ => 0)), .inr (1, [.ref 4, .int 0, .int 0]), .inl (.long, 56, .inr (.inl (fun _ => 0))), .inr (5, [.ref 3, .ref 6, .ref 7, .ref 8]), .inl (.int, 256, .inl (upd (fun _ => 0) 0 1)), .inl (.long, 256, .inr (.inl (vp_updL (fun _ => 0) 0 0))), .inl (.long, 256, .inr (.inl (vp_updL (fun _ => 0) 0 0))), .inr (4, [.ref 3, .ref 5, .ref 10, .ref 11, .int 0, .int 0, .long 0, .int 0, .ref 12, .int 0, .int 0, .int 0, .int 0]), .inl (.int, 200, .inl (fun _ => 0)), .inl (.long, 200, .inr (.inl (fun _ => 0))), .inl (.int, 64, .inl (fun _ => 0)), .inr (1, [.ref 14, .int 0, .int 0]), .inl (.long, 56, .inr (.inl (fun _ => 0))), .inr (5, [.ref 13, .ref 16, .ref 17, .ref 18]), .inl (.int, 256, .inl (fun _ => 0)), .inl (.long, 256, .inr (.inl (fun _ => 0))), .inl (.long, 256, .inr (.inl (fun _ => 0))), .inr (6, [.ref 1, .ref 13, .int 0, .int 0, .int 0, .int 0, .int 0, .int (-1)]), .inr (2, [.ref 21, .int 0, .int 0]), .inl (.object "NextBest$Grid", 10, .inr (.inr (.inr (.inr (va_up (va_up (va_up (va_up (va_up (va_up (va_up (va_up (va_up (va_up (fun _ => none) 0 (some 22)) 1 (some 24)) 2 (some 26)) 3 (some 28)) 4 (some 30)) 5 (some 32)) 6 (some 34)) 7 (some 36)) 8 (some 38)) 9 (some 40)))))), .inr (1, [.ref 23, .int 0, .int 0]), .inl (.long, 56, .inr (.inl (fun _ => 0))), .inr (1, [.ref 25, .int 0, .int 0]), .inl (.long, 56, .inr (.inl (fun _ => 0))), .inr (1, [.ref 27, .int 0, .int 0]), .inl (.long, 56, .inr (.inl (fun _ => 0))), .inr (1, [.ref 29, .int 0, .int 0]), .inl (.long, 56, .inr (.inl (fun _ => 0))), .inr (1, [.ref 31, .int 0, .int 0]), .inl (.long, 56, .inr (.inl (fun _ => 0))), .inr (1, [.ref 33, .int 0, .int 0]), .inl (.long, 56, .inr (.inl (fun _ => 0))), .inr (1, [.ref 35, .int 0, .int 0]), .inl (.long, 56, .inr (.inl (fun _ => 0))), .inr (1, [.ref 37, .int 0, .int 0]), .inl (.long, 56, .inr (.inl (fun _ => 0))), .inr (1, [.ref 39, .int 0, .int 0]), .inl (.long, 56, .inr (.inl (fun _ => 0))), .inr (1, [.ref 41, .int 0, .int 0]), .inl (.long, 56, .inr (.inl (fun _ => 0))), .inr (7, [.ref 3, .ref 13, .ref 15, .ref 43, .ref 44, .ref 45, .long 0, .long 0]), .inl (.long, 256, .inr (.inl (fun _ => 0))), .inl (.int, 7, .inl (fun _ => 0)), .inl (.int, 7, .inl (fun _ => 0)), .inr (0, [.ref 3, .ref 47, .ref 48, .long 0, .int 0, .int 0, .long 0, .int 0, .int 0]), .inl (.int, 7, .inl (fun _ => 0)), .inl (.int, 8, .inl (fun _ => 0)), .inr (8, [.ref 3, .ref 50, .ref 51, .ref 52, .int 0, .int 0]), .inl (.long, 8, .inr (.inl (fun _ => 0))), .inl (.int, 7, .inl (fun _ => 0)), .inl (.int, 7, .inl (fun _ => 0)), .inr (3, [.ref 3, .ref 54, .int 0, .long 0, .int 0]), .inl (.int, 7, .inl (fun _ => 0)), .inr (10, [.int 0, .int 0, .int 0, .int 0, .int 0]), .inl (.int, 7, .inl (fun _ => 0)), .inl (.int, 7, .inl (fun _ => 0)), .inr (12, [.ref 59, .ref 60, .int 0, .ref 61, .int 0, .int 0, .int (-1), .ref 62, .int 0, .int 0, .int 0, .int 0, .int 0, .ref 63, .ref 64, .int 0, .ref 65, .ref 66, .int 0, .ref 67, .int 0, .int 0, .int 0, .int 0, .ref 68, .ref 69, .int 0, .int 0, .int 0, .int 0, .int 0, .int 0, .ref 70]), .inl (.int, 58, .inl (fun _ => 0)), .inl (.int, 580, .inl (fun _ => 0)), .inl (.int, 600, .inl (fun _ => 0)), .inl (.int, 58, .inl (fun _ => 0)), .inl (.int, 40320, .inl (fun _ => 0)), .inl (.int, 40320, .inl (fun _ => 0)), .inl (.int, 7, .inl (fun _ => 0)), .inl (.int, 200, .inl (fun _ => 0)), .inl (.int, 7, .inl (fun _ => 0)), .inl (.long, 8, .inr (.inl (fun _ => 0))), .inl (.int, 600, .inl (fun _ => 0)), .inl (.int, 58, .inl (fun _ => 0))]
def sx_0 : sx_M := (fun o k => match o with
  | 19 => (match k with
    | 7 => -1
    | _ => 0)
  | 58 => (match k with
    | 6 => -1
    | _ => 0)
  | _ => 0, fun _ _ => 0, fun o => match o with
  | 6 => upd (fun _ => 0) 0 1
  | _ => fun _ => 0, fun o => match o with
  | 7 => vp_updL (fun _ => 0) 0 0
  | 8 => vp_updL (fun _ => 0) 0 0
  | _ => fun _ => 0)
set_option maxRecDepth 100000 in
theorem hx_M0 : hx_M.set 21 (.inl (.object "NextBest$Grid", 10, .inr (.inr (.inr (.inr sx_gr))))) = hp sx_0 [] := rfl
theorem ax_arrq {cA : ClassId} {n : Nat} {f g : Nat → Value} (h : ∀ j, j < n → f j = g j) : arrV cA n f = arrV cA n g := by
  unfold arrV
  congr 1
  apply Array.ext
  · simp
  · intro i h1 h2
    simp at h1 ⊢
    exact h i h1
theorem hx_Mq {X : ax_X} : ∀ H, ax_hp X hx_M H → ax_hp X (hp sx_0 []) H := by
  intro H hH
  rw [← hx_M0]
  refine ax_hp_set hH (k0 := 21) rfl ?_ rfl (fun _ _ => rfl)
  have h1 := hH.1 21 _ (ax_ws_at (X := X) (h := hx_M) (k := 21) rfl)
  have h1 : H[X.1 + 21]? = some (vp_cell (X.2.2.1 (.object "NextBest$Grid")) (10, .inr (.inr (.inr (.inr (fun i => ((va_up (va_up (va_up (va_up (va_up (va_up (va_up (va_up (va_up (va_up (fun _ => none) 0 (some 22)) 1 (some 24)) 2 (some 26)) 3 (some 28)) 4 (some 30)) 5 (some 32)) 6 (some 34)) 7 (some 36)) 8 (some 38)) 9 (some 40)) i).map (fun k => X.1 + k))))))) := h1
  show H[X.1 + 21]? = some (vp_cell (X.2.2.1 (.object "NextBest$Grid")) (10, .inr (.inr (.inr (.inr (fun i => (sx_gr i).map (fun k => X.1 + k)))))))
  rw [h1, vp_cell_q, vp_cell_q]
  congr 1
set_option maxRecDepth 100000 in
set_option maxHeartbeats 1000000 in
theorem ax_start {p : Program} {s : State} {m : MethodId} {meth : Method} {c : Code} {b L : Nat} {xs : Nat → Int32} (C0 : lw_At p s m meth c b L xs) : ∃ X : ax_X, X.1 = s.heap.size ∧ X.2.2.2.1 0 = b ∧ X.2.2.2.2.1 = L ∧ ax_K X s := by
  obtain ⟨hx, hb, hr, hml, hown, hts, hX, hbl, hlocks, hgv⟩ := C0
  have hs := flat_of_before _ hgv
  have hg : ∀ w ∈ ax_gw, w.before #[Value.ref b] s = true := fun w hw => hts w (List.mem_filter.mp hw).1
  have hA : ∀ a : Nat, a < s.heap.size → ¬ (fun q : Nat => s.heap.size ≤ q) a := fun a h => Nat.not_le.mpr h
  have h1 : ∀ k : Nat, ∃ cd : ClassId × (Nat → Nat), ∀ q : vw_C, vwCl[k]? = some q → u_Kn s q.1 q.2.1 q.2.2 cd.1 cd.2 := by
    intro k
    match k with
    | 0 => obtain ⟨c, d, hk⟩ := u_known (C := RX0) (T := TX0) (N := 9) (n := 9) hg uw_0 (hg _ xi_X0); exact ⟨(c, d), fun q hq => by cases hq; exact hk⟩
    | 1 => obtain ⟨c, d, hk⟩ := u_known (C := RX1) (T := TX1) (N := 3) (n := 3) hg uw_1 (hg _ xi_X1); exact ⟨(c, d), fun q hq => by cases hq; exact hk⟩
    | 2 => obtain ⟨c, d, hk⟩ := u_known (C := RX2) (T := TX2) (N := 3) (n := 3) hg uw_2 (hg _ xi_X2); exact ⟨(c, d), fun q hq => by cases hq; exact hk⟩
    | 3 => obtain ⟨c, d, hk⟩ := u_known (C := RX3) (T := TX3) (N := 5) (n := 5) hg uw_3 (hg _ xi_X3); exact ⟨(c, d), fun q hq => by cases hq; exact hk⟩
    | 4 => obtain ⟨c, d, hk⟩ := u_known (C := RX4) (T := TX4) (N := 13) (n := 13) hg uw_4 (hg _ xi_X4); exact ⟨(c, d), fun q hq => by cases hq; exact hk⟩
    | 5 => obtain ⟨c, d, hk⟩ := u_known (C := RX5) (T := TX5) (N := 4) (n := 4) hg uw_5 (hg _ xi_X5); exact ⟨(c, d), fun q hq => by cases hq; exact hk⟩
    | 6 => obtain ⟨c, d, hk⟩ := u_known (C := RX6) (T := TX6) (N := 8) (n := 8) hg uw_6 (hg _ xi_X6); exact ⟨(c, d), fun q hq => by cases hq; exact hk⟩
    | 7 => obtain ⟨c, d, hk⟩ := u_known (C := RX7) (T := TX7) (N := 8) (n := 8) hg uw_7 (hg _ xi_X7); exact ⟨(c, d), fun q hq => by cases hq; exact hk⟩
    | 8 => obtain ⟨c, d, hk⟩ := u_known (C := RX8) (T := TX8) (N := 6) (n := 6) hg uw_8 (hg _ xi_X8); exact ⟨(c, d), fun q hq => by cases hq; exact hk⟩
    | 9 => obtain ⟨c, d, hk⟩ := u_known (C := RX9) (T := TX9) (N := 2) (n := 2) hg uw_9 (hg _ xi_X9); exact ⟨(c, d), fun q hq => by cases hq; exact hk⟩
    | 10 => obtain ⟨c, d, hk⟩ := u_known (C := RX10) (T := TX10) (N := 5) (n := 5) hg uw_10 (hg _ xi_X10); exact ⟨(c, d), fun q hq => by cases hq; exact hk⟩
    | 11 => obtain ⟨c, d, hk⟩ := u_known (C := RX11) (T := TX11) (N := 15) (n := 15) hg uw_11 (hg _ xi_X11); exact ⟨(c, d), fun q hq => by cases hq; exact hk⟩
    | 12 => obtain ⟨c, d, hk⟩ := u_known (C := RX12) (T := TX12) (N := 33) (n := 33) hg uw_12 (hg _ xi_X12); exact ⟨(c, d), fun q hq => by cases hq; exact hk⟩
    | k + 13 => exact ⟨(0, fun _ => 0), fun q hq => by simp [vwCl] at hq⟩
  obtain ⟨cd, hcd⟩ := Classical.axiomOfChoice h1
  have pr : ∀ ty : FieldType, (Cond.arrayClass ty).before #[Value.ref b] s = true → (∀ cA, s.vm.findClass ("[" ++ ty.toString) = some cA → va_RA s cA ty) → ∃ cA : ClassId, ArrOfT s cA ty ∧ va_RA s cA ty := by
    intro ty h hra
    obtain ⟨cA, k, comp, g1, g2, g3⟩ := Cond.arrayClass_spec h
    exact ⟨cA, fun n z => ⟨fun k h => (by cases h), k, g2, comp, g3⟩, hra cA g1⟩
  have h2 : ∀ ty : FieldType, ∃ cA : ClassId, ty ∈ ax_tys → (ArrOfT s cA ty ∧ va_RA s cA ty) := by
    intro ty
    by_cases hty : ty ∈ ax_tys
    · have : ∃ cA : ClassId, ArrOfT s cA ty ∧ va_RA s cA ty := by
        rcases List.mem_cons.mp hty with rfl | hty
        · exact pr _ (hg _ xa_int) (fun _ h => h)
        rcases List.mem_cons.mp hty with rfl | hty
        · exact pr _ (hg _ xa_byte) (fun _ h => h)
        rcases List.mem_cons.mp hty with rfl | hty
        · exact pr _ (hg _ xa_long) (fun _ h => h)
        rcases List.mem_cons.mp hty with rfl | hty
        · obtain ⟨comp, cA, k, g1, g2, g3, g4, g5⟩ := Cond.arrayOver_spec (hts (.arrayOver (.object "NextBest$Grid")) (List.mem_of_getElem? (i := 275) (by decide +kernel)))
          exact ⟨cA, fun n z => ⟨fun k h => (by cases h), k, g3, comp, g4⟩, k, comp, g3, g4, g1, g5⟩
        · cases hty
      obtain ⟨cA, h⟩ := this
      exact ⟨cA, fun _ => h⟩
    · exact ⟨0, fun h => absurd h hty⟩
  obtain ⟨cT, hcT⟩ := Classical.axiomOfChoice h2
  have hZ : va_Z "java/lang/String" "COMPACT_STRINGS" "Z" (.int 1) (fun q => s.heap.size ≤ q) s s.heap := va_Zof (hts _ (List.mem_of_getElem? (i := 584) (by decide +kernel))) (hts _ (List.mem_of_getElem? (i := 105) (by decide +kernel))) (va_eqi (hs _ (by decide +kernel))) hA
  have hZq : va_Zq "jdk/internal/util/Preconditions" "SIOOBE_FORMATTER" "Ljava/util/function/BiFunction;" (fun q => s.heap.size ≤ q) s s.heap := va_Zqof (hts _ (List.mem_of_getElem? (i := 600) (by decide +kernel))) (hts _ (List.mem_of_getElem? (i := 107) (by decide +kernel))) (hs _ (by decide +kernel)) hA
  obtain ⟨adK, adV, hS, hev⟩ := vk_Sof (args := #[Value.ref b]) (s := s) (N := 3) (tm := fun i => match i with
      | 0 => .string "NextBest$Reader" 100
      | 1 => .string "NextBest$Reader" 105
      | _ => .string "NextBest$Reader" 107) (len := [4, 6, 1]) (byt := [[106, 111, 98, 115], [119, 111, 114, 107, 101, 114], [120]]) (A := fun q => s.heap.size ≤ q) (by
      intro i hi
      match i, hi with
      | 0, _ => exact (by decide)
      | 1, _ => exact (by decide)
      | 2, _ => exact (by decide)
      | i + 3, hi => exact absurd hi (by omega)) (by
      intro i hi
      match i, hi with
      | 0, _ => exact hs _ (by decide +kernel)
      | 1, _ => exact hs _ (by decide +kernel)
      | 2, _ => exact hs _ (by decide +kernel)
      | i + 3, hi => exact absurd hi (by omega)) (by
      intro i hi
      match i, hi with
      | 0, _ => exact hs _ (by decide +kernel)
      | 1, _ => exact hs _ (by decide +kernel)
      | 2, _ => exact hs _ (by decide +kernel)
      | i + 3, hi => exact absurd hi (by omega)) (by
      intro i hi
      match i, hi with
      | 0, _ => exact hs _ (by decide +kernel)
      | 1, _ => exact hs _ (by decide +kernel)
      | 2, _ => exact hs _ (by decide +kernel)
      | i + 3, hi => exact absurd hi (by omega)) (by
      intro i hi
      match i, hi with
      | 0, _ => exact hs _ (by decide +kernel)
      | 1, _ => exact hs _ (by decide +kernel)
      | 2, _ => exact hs _ (by decide +kernel)
      | i + 3, hi => exact absurd hi (by omega)) (by
      intro i hi
      match i, hi with
      | 0, _ =>
        intro j hj
        match j, hj with
        | 0, _ => exact hs _ (by decide +kernel)
        | 1, _ => exact hs _ (by decide +kernel)
        | 2, _ => exact hs _ (by decide +kernel)
        | 3, _ => exact hs _ (by decide +kernel)
        | j + 4, hj => exact absurd hj (by show ¬ j + 4 < 4; omega)
      | 1, _ =>
        intro j hj
        match j, hj with
        | 0, _ => exact hs _ (by decide +kernel)
        | 1, _ => exact hs _ (by decide +kernel)
        | 2, _ => exact hs _ (by decide +kernel)
        | 3, _ => exact hs _ (by decide +kernel)
        | 4, _ => exact hs _ (by decide +kernel)
        | 5, _ => exact hs _ (by decide +kernel)
        | j + 6, hj => exact absurd hj (by show ¬ j + 6 < 6; omega)
      | 2, _ =>
        intro j hj
        match j, hj with
        | 0, _ => exact hs _ (by decide +kernel)
        | j + 1, hj => exact absurd hj (by show ¬ j + 1 < 1; omega)
      | i + 3, hi => exact absurd hi (by omega)) (by
      intro i j hi hj hij
      match i, j, hi, hj, hij with
      | 0, 0, _, _, h => exact absurd rfl h
      | 0, 1, _, _, _ => exact Or.inl (hs _ (by decide +kernel))
      | 0, 2, _, _, _ => exact Or.inl (hs _ (by decide +kernel))
      | 1, 0, _, _, _ => exact Or.inr (hs _ (by decide +kernel))
      | 1, 1, _, _, h => exact absurd rfl h
      | 1, 2, _, _, _ => exact Or.inl (hs _ (by decide +kernel))
      | 2, 0, _, _, _ => exact Or.inr (hs _ (by decide +kernel))
      | 2, 1, _, _, _ => exact Or.inr (hs _ (by decide +kernel))
      | 2, 2, _, _, h => exact absurd rfl h
      | i + 3, _, hi, _, _ => exact absurd hi (by omega)
      | 0, j + 3, _, hj, _ => exact absurd hj (by omega)
      | 1, j + 3, _, hj, _ => exact absurd hj (by omega)
      | 2, j + 3, _, hj, _ => exact absurd hj (by omega)) hA
  obtain ⟨tq, htq⟩ : ∃ tq : Nat, va_Z "jdk/internal/util/Preconditions" "SIOOBE_FORMATTER" "Ljava/util/function/BiFunction;" .null (fun q => s.heap.size ≤ q) s s.heap ∨ va_Z "jdk/internal/util/Preconditions" "SIOOBE_FORMATTER" "Ljava/util/function/BiFunction;" (.ref tq) (fun q => s.heap.size ≤ q) s s.heap := by
    rcases hZq with h | ⟨t, h⟩
    · exact ⟨0, Or.inl h⟩
    · exact ⟨t, Or.inr h⟩
  obtain ⟨ext, e0, e1, e2, e3⟩ : ∃ ext : Nat → Nat, ext 0 = b ∧ (∀ i, i < 3 → ext (1 + i) = adK i) ∧ (∀ i, i < 3 → ext (17 + i) = adV i) ∧ ext 32 = tq := by
    refine ⟨fun n => if n = 0 then b else if n < 17 then adK (n - 1) else if n < 32 then adV (n - 17) else tq, rfl, fun i hi => ?_, fun i hi => ?_, rfl⟩
    · show (if 1 + i = 0 then b else if 1 + i < 17 then adK (1 + i - 1) else _) = _
      rw [if_neg (by omega), if_pos (by omega), show 1 + i - 1 = i by omega]
    · show (if 17 + i = 0 then b else if 17 + i < 17 then _ else if 17 + i < 32 then adV (17 + i - 17) else _) = _
      rw [if_neg (by omega), if_neg (by omega), if_pos (by omega), show 17 + i - 17 = i by omega]
  refine ⟨(s.heap.size, (fun k => (cd k).1, fun k => (cd k).2), cT, ext, L, xs), rfl, e0, rfl, ⟨fun k q hq => hcd k q hq, fun k q hq => by simp at hq⟩, fun ty hty => hcT ty hty, fun w hw => ?_, hZ, ?_, ?_, ?_, ?_, ?_⟩
  · have hw2 := List.mem_filter.mp hw
    have h3 := hts w (List.mem_append_right _ hw2.1)
    refine va_Nw.of ?_ h3
    have h4 := hw2.2
    clear hw hw2 h3
    cases w <;> first | rfl | (simp [ax_isN] at h4; done)
  · show _ ∨ va_Z _ _ _ (.ref (ext 32)) _ _ _
    rw [e3]
    exact htq
  · refine ⟨fun i hi => ?_, fun i j hi hj e => ?_⟩
    · show va_O "java/lang/String" (ext (1 + i)) _ s s.heap ∧ va_OF "java/lang/String" "coder" "B" (.int 0) (ext (1 + i)) _ s s.heap ∧ va_OF "java/lang/String" "value" "[B" (.ref (ext (17 + i))) (ext (1 + i)) _ s s.heap ∧ va_T .byte (ext (17 + i)) _ _ _ s s.heap
      rw [e1 i hi, e2 i hi]
      exact hS.1 i hi
    · have e : ext (1 + i) = ext (1 + j) := e
      rw [e1 i hi, e1 j hj] at e
      exact hS.2 i j hi hj e
  · intro q hq
    have e10 : ext 1 = adK 0 := e1 0 (by omega)
    have e11 : ext 2 = adK 1 := e1 1 (by omega)
    have e12 : ext 3 = adK 2 := e1 2 (by omega)
    show vk_R q.1 q.2.1 q.2.2.1 (ext q.2.2.2) s
    simp only [ax_strs, List.mem_cons, List.not_mem_nil, or_false] at hq
    rcases hq with rfl | rfl | rfl | rfl | rfl | rfl
    all_goals (first | (show vk_R _ _ _ (ext 1) s; rw [e10]) | (show vk_R _ _ _ (ext 2) s; rw [e11]) | (show vk_R _ _ _ (ext 3) s; rw [e12]))
    · exact vk_R.of (hts _ (List.mem_of_getElem? (i := 570) (by decide +kernel))) (hev 0 (by omega))
    · exact vk_R.of (hts _ (List.mem_of_getElem? (i := 623) (by decide +kernel))) (hev 1 (by omega))
    · exact vk_R.of (hts _ (List.mem_of_getElem? (i := 624) (by decide +kernel))) (hev 2 (by omega))
    · exact vk_R.of (hts _ (List.mem_of_getElem? (i := 1393) (by decide +kernel))) (va_eqR (t := .string "NextBest$Reader" 100) (hs _ (by decide +kernel)) (hev 0 (by omega)))
    · exact vk_R.of (hts _ (List.mem_of_getElem? (i := 1416) (by decide +kernel))) (va_eqR (t := .string "NextBest$Reader" 105) (hs _ (by decide +kernel)) (hev 1 (by omega)))
    · exact vk_R.of (hts _ (List.mem_of_getElem? (i := 1421) (by decide +kernel))) (va_eqR (t := .string "NextBest$Reader" 107) (hs _ (by decide +kernel)) (hev 2 (by omega)))
  · obtain ⟨scr, g1, g2, g3, g4, g5⟩ := hX
    show va_T .int (ext 0) L (fun j => .int (xs j)) (fun q => s.heap.size ≤ q) s s.heap
    rw [e0]
    exact ⟨scr, g1, g2, g3, by omega, by rw [g4] <;> rfl, g5, Nat.not_le.mpr hbl⟩
  · exact va_AO.of (hts (.arrayOver (.object "NextBest$Grid")) (List.mem_of_getElem? (i := 275) (by decide +kernel)))
