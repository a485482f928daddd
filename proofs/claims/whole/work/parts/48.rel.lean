/-! THE RELATION between class and reference: what both hold -/
def ins (p : asg) : List asg → List asg
  | [] => [p]
  | q :: L => if p.2 < q.2 then p :: q :: L else q :: ins p L
def isort (L : List asg) : List asg := L.foldl (fun acc p => ins p acc) []
def f200 (T : tb) : List asg := (isort (allA T)).take 200
def listIs (T : tb) (s : sx_M) : Prop := rI s 9 5 = nI (f200 T).length ∧ ∀ i p, (f200 T)[i]? = some p → rA s 10 i = nI (cod p.1) ∧ rB s 11 i = jJ p.2
def orderIs (T : tb) (s : sx_M) : Prop := rI s 9 4 = 0 ∨ (rI s 9 4 = 1 ∧ listIs T s)
/-- table, history (the eldest first), tape (how long, its bytes), fault -/
abbrev ast : Type := tb × List tb × (Nat × (Nat → Int32)) × (Int32 × Int32)
def okA (A : ast) : Prop := tb_ok A.1 ∧ (∀ T, T ∈ A.2.1 → tb_ok T) ∧ A.2.1.length ≤ 10 ∧ A.2.2.1.1 ≤ 600
def chist (H : List tb) (s : sx_M) : Prop := ∃ o, o < 10 ∧ rI s 20 1 = nI o ∧ rI s 20 2 = nI H.length ∧ ∀ i T, i < 10 → H[i]? = some T → gridIs (22 + 2 * ((o + i) % 10)) T s
def rhist (H : List tb) (s : sx_M) : Prop := rI s 58 2 = nI H.length ∧ ∀ i T, H[i]? = some T → tabIs 60 (58 * i) T s
def clA (A : ast) (s : sx_M) : Prop := gridIs 3 A.1 s ∧ ranksIs 3 A.1 s ∧ orderIs A.1 s ∧ chist A.2.1 s ∧ (rI s 1 1 = nI A.2.2.1.1 ∧ ∀ k, k < A.2.2.1.1 → rA s 2 k &&& 255 = A.2.2.1.2 k) ∧ rI s 19 6 = A.2.2.2.1 ∧ rI s 19 7 = A.2.2.2.2
def rfA (A : ast) (s : sx_M) : Prop := tabIs 59 0 A.1 s ∧ rhist A.2.1 s ∧ (rI s 58 4 = nI A.2.2.1.1 ∧ ∀ k, k < A.2.2.1.1 → rA s 61 k = A.2.2.1.2 k) ∧ rI s 58 5 = A.2.2.2.1 ∧ rI s 58 6 = A.2.2.2.2
def Rel (s : sx_M) : Prop := ∃ A, okA A ∧ clA A s ∧ rfA A s
/-- the class writes below 58, the reference from there on -/
def loD : sx_D := (fun o _ => o < 58, fun o _ => o < 58, fun o => o < 58, fun o => o < 58)
def hiD : sx_D := (fun o _ => 58 ≤ o, fun o _ => 58 ≤ o, fun o => 58 ≤ o, fun o => 58 ≤ o)
/-- what the class may change while nothing of the relation is another one -/
def clF : sx_D := (fun o k => ¬ (o = 1 ∧ k = 1) ∧ ¬ o = 3 ∧ ¬ (o = 9 ∧ (k = 4 ∨ k = 5)) ∧ ¬ (o = 19 ∧ (k = 6 ∨ k = 7)) ∧ ¬ (20 ≤ o ∧ o ≤ 41), fun _ _ => True, fun o => ¬ o = 2 ∧ ¬ o = 6 ∧ ¬ o = 10, fun o => ¬ o = 4 ∧ ¬ o = 7 ∧ ¬ o = 8 ∧ ¬ o = 11 ∧ ¬ (20 ≤ o ∧ o ≤ 41))
/-- the same, but the list may be laid -/
def clO : sx_D := (fun o k => ¬ (o = 1 ∧ k = 1) ∧ ¬ o = 3 ∧ ¬ (o = 19 ∧ (k = 6 ∨ k = 7)) ∧ ¬ (20 ≤ o ∧ o ≤ 41), fun _ _ => True, fun o => ¬ o = 2 ∧ ¬ o = 6, fun o => ¬ o = 4 ∧ ¬ o = 7 ∧ ¬ o = 8 ∧ ¬ (20 ≤ o ∧ o ≤ 41))
def rfF : sx_D := (fun o k => ¬ (o = 58 ∧ (k = 2 ∨ k = 4 ∨ k = 5 ∨ k = 6)), fun _ _ => True, fun o => ¬ o = 59 ∧ ¬ o = 60 ∧ ¬ o = 61, fun _ => True)
theorem ranks_eq {D : sx_D} {s s' : sx_M} (h : sx_eq D s s') {g : Nat} {T : tb} (h1 : ¬ D.2.2.1 (g + 3)) (h2 : ¬ D.2.2.2 (g + 4)) (h3 : ¬ D.2.2.2 (g + 5)) (hg : ranksIs g T s) : ranksIs g T s' := by
  intro S hS hp
  have := hg S hS hp
  rw [h.2.2.1 _ _ h1, h.2.2.2 _ _ h2, h.2.2.2 _ _ h3]
  exact this
theorem chist_eq {D : sx_D} {s s' : sx_M} (h : sx_eq D s s') {H : List tb} (h1 : ∀ o k, 20 ≤ o → o ≤ 41 → ¬ D.1 o k) (h2 : ∀ o, 20 ≤ o → o ≤ 41 → ¬ D.2.2.2 o) (hh : chist H s) : chist H s' := by
  obtain ⟨o, ho, a1, a2, a3⟩ := hh
  refine ⟨o, ho, (h.1 _ _ (h1 _ _ (by omega) (by omega))).trans a1, (h.1 _ _ (h1 _ _ (by omega) (by omega))).trans a2, fun i T hi hT => ?_⟩
  have := Nat.mod_lt (o + i) (show 0 < 10 by omega)
  exact grid_eq h (h1 _ _ (by omega) (by omega)) (h1 _ _ (by omega) (by omega)) (h2 _ (by omega) (by omega)) (a3 i T hi hT)
theorem order_eq {D : sx_D} {s s' : sx_M} (h : sx_eq D s s') {T : tb} (h1 : ¬ D.1 9 4) (h2 : ¬ D.1 9 5) (h3 : ¬ D.2.2.1 10) (h4 : ¬ D.2.2.2 11) (ho : orderIs T s) : orderIs T s' := by
  rcases ho with ho | ⟨ho, a, b⟩
  · exact Or.inl ((h.1 _ _ h1).trans ho)
  · refine Or.inr ⟨(h.1 _ _ h1).trans ho, (h.1 _ _ h2).trans a, fun i p hi => ?_⟩
    have := b i p hi
    rw [h.2.2.1 _ _ h3, h.2.2.2 _ _ h4]
    exact this
/-- the parts of the class's half but the order's -/
theorem cl_O {D : sx_D} {s s' : sx_M} (h : sx_eq D s s') (hD : sx_eq D s s' → sx_eq clO s s') {A : ast} (hc : clA A s) (ho : orderIs A.1 s') : clA A s' := by
  have h := hD h
  obtain ⟨a1, a2, a3, a4, a5, a6, a7⟩ := hc
  refine ⟨grid_eq h (by simp [clO]) (by simp [clO]) (by simp [clO]) a1, ranks_eq h (by simp [clO]) (by simp [clO]) (by simp [clO]) a2, ho, chist_eq h (fun o k q1 q2 => by simp [clO]; omega) (fun o q1 q2 => by simp [clO]; omega) a4, ⟨(h.1 _ _ (by simp [clO])).trans a5.1, fun k hk => ?_⟩, (h.1 _ _ (by simp [clO])).trans a6, (h.1 _ _ (by simp [clO])).trans a7⟩
  rw [h.2.2.1 _ _ (by simp [clO])]
  exact a5.2 k hk
theorem cl_F {D : sx_D} {s s' : sx_M} (h : sx_eq D s s') (hD : sx_eq D s s' → sx_eq clF s s') {A : ast} (hc : clA A s) : clA A s' := by
  have h := hD h
  refine cl_O (D := clF) h (fun q => sx_mono q (fun o k z => ?_) (fun _ _ z => z) (fun o z => ?_) (fun o z => ?_)) hc (order_eq h (by simp [clF]) (by simp [clF]) (by simp [clF]) (by simp [clF]) hc.2.2.1)
  · simp [clF, clO] at z ⊢; omega
  · simp [clF, clO] at z ⊢; omega
  · simp [clF, clO] at z ⊢; omega
theorem cl_hi {D : sx_D} {s s' : sx_M} (h : sx_eq D s s') (hD : sx_eq D s s' → sx_eq hiD s s') {A : ast} (hc : clA A s) : clA A s' := by
  have h := hD h
  obtain ⟨a1, a2, a3, a4, a5, a6, a7⟩ := hc
  refine ⟨grid_eq h (by simp [hiD]) (by simp [hiD]) (by simp [hiD]) a1, ranks_eq h (by simp [hiD]) (by simp [hiD]) (by simp [hiD]) a2, order_eq h (by simp [hiD]) (by simp [hiD]) (by simp [hiD]) (by simp [hiD]) a3, chist_eq h (fun o k q1 q2 => by simp [hiD]; omega) (fun o q1 q2 => by simp [hiD]; omega) a4, ⟨(h.1 _ _ (by simp [hiD])).trans a5.1, fun k hk => ?_⟩, (h.1 _ _ (by simp [hiD])).trans a6, (h.1 _ _ (by simp [hiD])).trans a7⟩
  rw [h.2.2.1 _ _ (by simp [hiD])]
  exact a5.2 k hk
theorem rf_any {D : sx_D} {s s' : sx_M} (h : sx_eq D s s') (h1 : ∀ k, k = 2 ∨ k = 4 ∨ k = 5 ∨ k = 6 → ¬ D.1 58 k) (h2 : ∀ o, o = 59 ∨ o = 60 ∨ o = 61 → ¬ D.2.2.1 o) {A : ast} (hc : rfA A s) : rfA A s' := by
  obtain ⟨a1, a2, a3, a4, a5⟩ := hc
  refine ⟨tab_eq h (h2 _ (by omega)) a1, ⟨(h.1 _ _ (h1 _ (by omega))).trans a2.1, fun i T hi => tab_eq h (h2 _ (by omega)) (a2.2 i T hi)⟩, ⟨(h.1 _ _ (h1 _ (by omega))).trans a3.1, fun k hk => ?_⟩, (h.1 _ _ (h1 _ (by omega))).trans a4, (h.1 _ _ (h1 _ (by omega))).trans a5⟩
  rw [h.2.2.1 _ _ (h2 _ (by omega))]
  exact a3.2 k hk
theorem rf_lo {D : sx_D} {s s' : sx_M} (h : sx_eq D s s') (hD : sx_eq D s s' → sx_eq loD s s') {A : ast} (hc : rfA A s) : rfA A s' :=
  rf_any (hD h) (fun k _ => by simp [loD]) (fun o q => by simp [loD]; omega) hc
theorem rf_F {D : sx_D} {s s' : sx_M} (h : sx_eq D s s') (hD : sx_eq D s s' → sx_eq rfF s s') {A : ast} (hc : rfA A s) : rfA A s' :=
  rf_any (hD h) (fun k q => by simp [rfF]; omega) (fun o q => by simp [rfF]; omega) hc
/-- a step: the class goes on to another state, so does the reference -/
theorem st_a {α : Type} {s : sx_M} {f1 f2 : sx_M → Option (α × sx_M)} (v : α) {A A' : ast} (hok : okA A') (hc : clA A s) (hr : rfA A s) (h1 : clA A s → Ev (f1 s) (fun p => p.1 = v ∧ clA A' p.2)) (hl : ∀ s p, f1 s = some p → sx_eq loD s p.2) (h2 : ∀ s1, rfA A s1 → Ev (f2 s1) (fun p => p.1 = v ∧ rfA A' p.2)) (hh : ∀ s p, f2 s = some p → sx_eq hiD s p.2) : ∃ p1 p2, f1 s = some p1 ∧ f2 p1.2 = some p2 ∧ p1.1 = p2.1 ∧ Rel p2.2 := by
  obtain ⟨p1, e1, v1, c1⟩ := h1 hc
  obtain ⟨p2, e2, v2, c2⟩ := h2 p1.2 (rf_lo (hl s p1 e1) (fun q => q) hr)
  exact ⟨p1, p2, e1, e2, v1.trans v2.symm, A', hok, cl_hi (hh _ p2 e2) (fun q => q) c1, c2⟩
/-- a call that changes nothing -/
theorem st_q {α : Type} {s : sx_M} {f1 f2 : sx_M → Option (α × sx_M)} (v : α) {A : ast} (hok : okA A) (hc : clA A s) (hr : rfA A s) (h1 : clA A s → Ev (f1 s) (fun p => p.1 = v)) (hl : ∀ s p, f1 s = some p → sx_eq loD s p.2) (hl2 : ∀ s p, f1 s = some p → sx_eq clF s p.2) (h2 : ∀ s1, rfA A s1 → Ev (f2 s1) (fun p => p.1 = v)) (hh : ∀ s p, f2 s = some p → sx_eq hiD s p.2) (hh2 : ∀ s p, f2 s = some p → sx_eq rfF s p.2) : ∃ p1 p2, f1 s = some p1 ∧ f2 p1.2 = some p2 ∧ p1.1 = p2.1 ∧ Rel p2.2 :=
  st_a v hok hc hr (fun hc => ev_and (h1 hc) (fun p e => cl_F (hl2 s p e) (fun q => q) hc)) hl (fun s1 hr1 => ev_and (h2 s1 hr1) (fun p e => rf_F (hh2 s1 p e) (fun q => q) hr1)) hh
/-- a call that may lay the list -/
theorem st_o {α : Type} {s : sx_M} {f1 f2 : sx_M → Option (α × sx_M)} (v : α) {A : ast} (hok : okA A) (hc : clA A s) (hr : rfA A s) (h1 : clA A s → Ev (f1 s) (fun p => p.1 = v ∧ orderIs A.1 p.2)) (hl : ∀ s p, f1 s = some p → sx_eq loD s p.2) (hl2 : ∀ s p, f1 s = some p → sx_eq clO s p.2) (h2 : ∀ s1, rfA A s1 → Ev (f2 s1) (fun p => p.1 = v)) (hh : ∀ s p, f2 s = some p → sx_eq hiD s p.2) (hh2 : ∀ s p, f2 s = some p → sx_eq rfF s p.2) : ∃ p1 p2, f1 s = some p1 ∧ f2 p1.2 = some p2 ∧ p1.1 = p2.1 ∧ Rel p2.2 :=
  st_a v hok hc hr (fun hc => by
    obtain ⟨p, e, hv, ho⟩ := h1 hc
    exact ⟨p, e, hv, cl_O (hl2 s p e) (fun q => q) hc ho⟩) hl (fun s1 hr1 => ev_and (h2 s1 hr1) (fun p e => rf_F (hh2 s1 p e) (fun q => q) hr1)) hh
