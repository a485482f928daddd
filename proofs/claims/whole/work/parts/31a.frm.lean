/-! which places of the memory a method may change -/
abbrev sx_D : Type := (Nat → Nat → Prop) × (Nat → Nat → Prop) × (Nat → Prop) × (Nat → Prop)
/-- the memories agree outside D -/
def sx_eq (D : sx_D) (s s' : sx_M) : Prop := (∀ o k, ¬ D.1 o k → rI s' o k = rI s o k) ∧ (∀ o k, ¬ D.2.1 o k → rJ s' o k = rJ s o k) ∧ (∀ o k, ¬ D.2.2.1 o → rA s' o k = rA s o k) ∧ (∀ o k, ¬ D.2.2.2 o → rB s' o k = rB s o k)
theorem sx_rf (D : sx_D) (s : sx_M) : sx_eq D s s := ⟨fun _ _ _ => rfl, fun _ _ _ => rfl, fun _ _ _ => rfl, fun _ _ _ => rfl⟩
theorem sx_tr {D : sx_D} {s s1 s2 : sx_M} (h : sx_eq D s s1) (h2 : sx_eq D s1 s2) : sx_eq D s s2 := ⟨fun o k q => (h2.1 o k q).trans (h.1 o k q), fun o k q => (h2.2.1 o k q).trans (h.2.1 o k q), fun o k q => (h2.2.2.1 o k q).trans (h.2.2.1 o k q), fun o k q => (h2.2.2.2 o k q).trans (h.2.2.2 o k q)⟩
theorem sx_mono {D1 D : sx_D} {s s1 : sx_M} (h : sx_eq D1 s s1) (h1 : ∀ o k, D1.1 o k → D.1 o k) (h2 : ∀ o k, D1.2.1 o k → D.2.1 o k) (h3 : ∀ o, D1.2.2.1 o → D.2.2.1 o) (h4 : ∀ o, D1.2.2.2 o → D.2.2.2 o) : sx_eq D s s1 := ⟨fun o k q => h.1 o k (fun z => q (h1 o k z)), fun o k q => h.2.1 o k (fun z => q (h2 o k z)), fun o k q => h.2.2.1 o k (fun z => q (h3 o z)), fun o k q => h.2.2.2 o k (fun z => q (h4 o z))⟩
theorem sx_wI' {D : sx_D} {s s1 : sx_M} {o k : Nat} {v : Int32} (h : sx_eq D s s1) (hd : D.1 o k) : sx_eq D s (wI s1 o k v) := ⟨fun a b q => by
  rw [← h.1 a b q]
  show (if a = o ∧ b = k then v else s1.1 a b) = _
  rw [if_neg (fun z => q (by rw [z.1, z.2]; exact hd))]; rfl, h.2.1, h.2.2.1, h.2.2.2⟩
theorem sx_wJ' {D : sx_D} {s s1 : sx_M} {o k : Nat} {v : Int64} (h : sx_eq D s s1) (hd : D.2.1 o k) : sx_eq D s (wJ s1 o k v) := ⟨h.1, fun a b q => by
  rw [← h.2.1 a b q]
  show (if a = o ∧ b = k then v else s1.2.1 a b) = _
  rw [if_neg (fun z => q (by rw [z.1, z.2]; exact hd))]; rfl, h.2.2.1, h.2.2.2⟩
theorem sx_wA' {D : sx_D} {s s1 : sx_M} {o k : Nat} {v : Int32} (h : sx_eq D s s1) (hd : D.2.2.1 o) : sx_eq D s (wA s1 o k v) := ⟨h.1, h.2.1, fun a b q => by
  rw [← h.2.2.1 a b q]
  show (if a = o ∧ b = k then v else s1.2.2.1 a b) = _
  rw [if_neg (fun z => q (by rw [z.1]; exact hd))]; rfl, h.2.2.2⟩
theorem sx_wB' {D : sx_D} {s s1 : sx_M} {o k : Nat} {v : Int64} (h : sx_eq D s s1) (hd : D.2.2.2 o) : sx_eq D s (wB s1 o k v) := ⟨h.1, h.2.1, h.2.2.1, fun a b q => by
  rw [← h.2.2.2 a b q]
  show (if a = o ∧ b = k then v else s1.2.2.2 a b) = _
  rw [if_neg (fun z => q (by rw [z.1]; exact hd))]; rfl⟩
theorem wh_inv {α β : Type} {f : α → Option (α ⊕ β)} (a : α) (P : α → Prop) (K : β → Prop) {b : β} (h : whT f a = some b) (H : ∀ (a : α) (r : α ⊕ β), P a → f a = some r → Sum.elim P K r) (ha : P a) : K b := by
  obtain ⟨n, hn⟩ := whT_ex h
  clear h
  induction n generalizing a with
  | zero => simp [wh] at hn
  | succ n ih =>
    cases hf : f a with
    | none => simp [wh, hf] at hn
    | some r =>
      have h1 := H a r ha hf
      rcases r with a' | b'
      · simp [wh, hf] at hn; exact ih a' h1 hn
      · simp [wh, hf] at hn; subst hn; exact h1
theorem ax_ret {α : Type} {x p : α} {P : α → Prop} (h : some x = some p) (hx : P x) : P p := Option.some.inj h ▸ hx
theorem ax_or {α : Type} {c : Prop} [Decidable c] {A B r : Option α} (h : (if c then A else B) = r) : (c ∧ A = r) ∨ (¬ c ∧ B = r) := by
  by_cases hc : c
  · rw [if_pos hc] at h; exact Or.inl ⟨hc, h⟩
  · rw [if_neg hc] at h; exact Or.inr ⟨hc, h⟩
abbrev xI_X1_at (g : Nat) : Nat → Nat → Prop := fun o k => False
abbrev xJ_X1_at (g : Nat) : Nat → Nat → Prop := fun o k => False
abbrev xA_X1_at (g : Nat) : Nat → Prop := fun o => False
abbrev xB_X1_at (g : Nat) : Nat → Prop := fun o => False
abbrev xS_X1_at (g : Nat) : sx_D := (xI_X1_at g, xJ_X1_at g, xA_X1_at g, xB_X1_at g)
set_option maxRecDepth 100000 in
set_option maxHeartbeats 1000000 in
theorem fr_f_X1_at (g : Nat) (x1 : Int32) (x2 : Int32) (s : sx_M) (hg : ax_G g) {p : Int64 × sx_M} (hf : f_X1_at g x1 x2 s = some p) : sx_eq (xS_X1_at g) s p.2 := by
  unfold f_X1_at at hf
  have J29 : ∀ (y1_29 : Int32) (y2_29 : Int32) (t0_29 : Int32) (s_29 : sx_M), sx_eq (xS_X1_at g) s s_29 → f_X1_at_J29 g y1_29 y2_29 t0_29 s_29 = some p → sx_eq (xS_X1_at g) s p.2 := by
    intro y1_29 y2_29 t0_29 s_29 hs_29 hf
    unfold f_X1_at_J29 at hf
    rcases ax_or hf with ⟨hc2, hf⟩ | ⟨hc2, hf⟩
    · exact ax_ret (P := fun q : Int64 × sx_M => sx_eq (xS_X1_at g) s q.2) hf hs_29
    · obtain ⟨_, hf⟩ := ax_ite hf
      exact ax_ret (P := fun q : Int64 × sx_M => sx_eq (xS_X1_at g) s q.2) hf hs_29
  rcases ax_or hf with ⟨hc6, hf⟩ | ⟨hc6, hf⟩
  · exact J29 x1 x2 (0 : Int32) s (sx_rf _ s) hf
  · rcases ax_or hf with ⟨hc5, hf⟩ | ⟨hc5, hf⟩
    · exact J29 x1 x2 (0 : Int32) s (sx_rf _ s) hf
    · rcases ax_or hf with ⟨hc4, hf⟩ | ⟨hc4, hf⟩
      · exact J29 x1 x2 (0 : Int32) s (sx_rf _ s) hf
      · rcases ax_or hf with ⟨hc3, hf⟩ | ⟨hc3, hf⟩
        · exact J29 x1 x2 (0 : Int32) s (sx_rf _ s) hf
        · exact J29 x1 x2 (1 : Int32) s (sx_rf _ s) hf
abbrev xI_X1_has (g : Nat) : Nat → Nat → Prop := fun o k => False
abbrev xJ_X1_has (g : Nat) : Nat → Nat → Prop := fun o k => False
abbrev xA_X1_has (g : Nat) : Nat → Prop := fun o => False
abbrev xB_X1_has (g : Nat) : Nat → Prop := fun o => False
abbrev xS_X1_has (g : Nat) : sx_D := (xI_X1_has g, xJ_X1_has g, xA_X1_has g, xB_X1_has g)
set_option maxRecDepth 100000 in
set_option maxHeartbeats 1000000 in
theorem fr_f_X1_has (g : Nat) (x1 : Int32) (x2 : Int32) (s : sx_M) (hg : ax_G g) {p : Int32 × sx_M} (hf : f_X1_has g x1 x2 s = some p) : sx_eq (xS_X1_has g) s p.2 := by
  unfold f_X1_has at hf
  rcases ax_or hf with ⟨hc4, hf⟩ | ⟨hc4, hf⟩
  · exact ax_ret (P := fun q : Int32 × sx_M => sx_eq (xS_X1_has g) s q.2) hf (sx_rf _ s)
  · rcases ax_or hf with ⟨hc3, hf⟩ | ⟨hc3, hf⟩
    · exact ax_ret (P := fun q : Int32 × sx_M => sx_eq (xS_X1_has g) s q.2) hf (sx_rf _ s)
    · rcases ax_or hf with ⟨hc2, hf⟩ | ⟨hc2, hf⟩
      · exact ax_ret (P := fun q : Int32 × sx_M => sx_eq (xS_X1_has g) s q.2) hf (sx_rf _ s)
      · rcases ax_or hf with ⟨hc1, hf⟩ | ⟨hc1, hf⟩
        · exact ax_ret (P := fun q : Int32 × sx_M => sx_eq (xS_X1_has g) s q.2) hf (sx_rf _ s)
        · exact ax_ret (P := fun q : Int32 × sx_M => sx_eq (xS_X1_has g) s q.2) hf (sx_rf _ s)
abbrev xI_X1_clear (g : Nat) : Nat → Nat → Prop := fun o k => (o = g ∧ k = 1) ∨ (o = g ∧ k = 2)
abbrev xJ_X1_clear (g : Nat) : Nat → Nat → Prop := fun o k => False
abbrev xA_X1_clear (g : Nat) : Nat → Prop := fun o => False
abbrev xB_X1_clear (g : Nat) : Nat → Prop := fun o => False
abbrev xS_X1_clear (g : Nat) : sx_D := (xI_X1_clear g, xJ_X1_clear g, xA_X1_clear g, xB_X1_clear g)
set_option maxRecDepth 100000 in
set_option maxHeartbeats 1000000 in
theorem fr_f_X1_clear (g : Nat) (s : sx_M) (hg : ax_G g) {p : sx_M} (hf : f_X1_clear g s = some p) : sx_eq (xS_X1_clear g) s p := by
  unfold f_X1_clear at hf
  exact ax_ret (P := fun q : sx_M => sx_eq (xS_X1_clear g) s q) hf (sx_wI' (D := (xS_X1_clear g)) (sx_wI' (D := (xS_X1_clear g)) (sx_rf _ s) ((fun q => Or.inl q) ⟨rfl, rfl⟩)) ((fun q => Or.inr (q)) ⟨rfl, rfl⟩))
abbrev xI_X1_copy (g : Nat) (g2 : Nat) : Nat → Nat → Prop := fun o k => (o = g ∧ k = 1) ∨ (o = g ∧ k = 2)
abbrev xJ_X1_copy (g : Nat) (g2 : Nat) : Nat → Nat → Prop := fun o k => False
abbrev xA_X1_copy (g : Nat) (g2 : Nat) : Nat → Prop := fun o => False
abbrev xB_X1_copy (g : Nat) (g2 : Nat) : Nat → Prop := fun o => o = (g + 1)
abbrev xS_X1_copy (g : Nat) (g2 : Nat) : sx_D := (xI_X1_copy g g2, xJ_X1_copy g g2, xA_X1_copy g g2, xB_X1_copy g g2)
set_option maxRecDepth 100000 in
set_option maxHeartbeats 1000000 in
theorem fr_f_X1_copy (g : Nat) (g2 : Nat) (s : sx_M) (hg : ax_G g) (hg2 : ax_G g2) {p : sx_M} (hf : f_X1_copy g g2 s = some p) : sx_eq (xS_X1_copy g g2) s p := by
  unfold f_X1_copy at hf
  obtain ⟨b1, hb1, hf⟩ := ax_bind hf
  have hvb1 := wh_inv ((0 : Int32), (wI (wI s g 1 (rI s g2 1)) g 2 (rI (wI s g 1 (rI s g2 1)) g2 2))) (fun a18 : Int32 × sx_M => sx_eq (xS_X1_copy g g2) s a18.2) (fun e : sx_M => sx_eq (xS_X1_copy g g2) s e) hb1 ?_ (sx_wI' (D := (xS_X1_copy g g2)) (sx_wI' (D := (xS_X1_copy g g2)) (sx_rf _ s) ((fun q => Or.inl q) ⟨rfl, rfl⟩)) ((fun q => Or.inr (q)) ⟨rfl, rfl⟩))
  rotate_left
  · intro a18 r ha18 hf
    unfold f_X1_copy_L18 at hf
    rcases ax_or hf with ⟨hc3, hf⟩ | ⟨hc3, hf⟩
    · exact ax_ret (P := Sum.elim (fun a18 : Int32 × sx_M => sx_eq (xS_X1_copy g g2) s a18.2) (fun e : sx_M => sx_eq (xS_X1_copy g g2) s e)) hf ha18
    · obtain ⟨_, hf⟩ := ax_ite hf
      obtain ⟨_, hf⟩ := ax_ite hf
      exact ax_ret (P := Sum.elim (fun a18 : Int32 × sx_M => sx_eq (xS_X1_copy g g2) s a18.2) (fun e : sx_M => sx_eq (xS_X1_copy g g2) s e)) hf (sx_wB' (D := (xS_X1_copy g g2)) ha18 ((fun q => q) rfl))
  exact ax_ret (P := fun q : sx_M => sx_eq (xS_X1_copy g g2) s q) hf hvb1
abbrev xI_X1_hasWorker (g : Nat) : Nat → Nat → Prop := fun o k => False
abbrev xJ_X1_hasWorker (g : Nat) : Nat → Nat → Prop := fun o k => False
abbrev xA_X1_hasWorker (g : Nat) : Nat → Prop := fun o => False
abbrev xB_X1_hasWorker (g : Nat) : Nat → Prop := fun o => False
abbrev xS_X1_hasWorker (g : Nat) : sx_D := (xI_X1_hasWorker g, xJ_X1_hasWorker g, xA_X1_hasWorker g, xB_X1_hasWorker g)
set_option maxRecDepth 100000 in
set_option maxHeartbeats 1000000 in
theorem fr_f_X1_hasWorker (g : Nat) (x1 : Int32) (s : sx_M) (hg : ax_G g) {p : Int32 × sx_M} (hf : f_X1_hasWorker g x1 s = some p) : sx_eq (xS_X1_hasWorker g) s p.2 := by
  unfold f_X1_hasWorker at hf
  rcases ax_or hf with ⟨hc2, hf⟩ | ⟨hc2, hf⟩
  · exact ax_ret (P := fun q : Int32 × sx_M => sx_eq (xS_X1_hasWorker g) s q.2) hf (sx_rf _ s)
  · rcases ax_or hf with ⟨hc1, hf⟩ | ⟨hc1, hf⟩
    · exact ax_ret (P := fun q : Int32 × sx_M => sx_eq (xS_X1_hasWorker g) s q.2) hf (sx_rf _ s)
    · exact ax_ret (P := fun q : Int32 × sx_M => sx_eq (xS_X1_hasWorker g) s q.2) hf (sx_rf _ s)
abbrev xI_X1_hasJob (g : Nat) : Nat → Nat → Prop := fun o k => False
abbrev xJ_X1_hasJob (g : Nat) : Nat → Nat → Prop := fun o k => False
abbrev xA_X1_hasJob (g : Nat) : Nat → Prop := fun o => False
abbrev xB_X1_hasJob (g : Nat) : Nat → Prop := fun o => False
abbrev xS_X1_hasJob (g : Nat) : sx_D := (xI_X1_hasJob g, xJ_X1_hasJob g, xA_X1_hasJob g, xB_X1_hasJob g)
set_option maxRecDepth 100000 in
set_option maxHeartbeats 1000000 in
theorem fr_f_X1_hasJob (g : Nat) (x1 : Int32) (s : sx_M) (hg : ax_G g) {p : Int32 × sx_M} (hf : f_X1_hasJob g x1 s = some p) : sx_eq (xS_X1_hasJob g) s p.2 := by
  unfold f_X1_hasJob at hf
  rcases ax_or hf with ⟨hc2, hf⟩ | ⟨hc2, hf⟩
  · exact ax_ret (P := fun q : Int32 × sx_M => sx_eq (xS_X1_hasJob g) s q.2) hf (sx_rf _ s)
  · rcases ax_or hf with ⟨hc1, hf⟩ | ⟨hc1, hf⟩
    · exact ax_ret (P := fun q : Int32 × sx_M => sx_eq (xS_X1_hasJob g) s q.2) hf (sx_rf _ s)
    · exact ax_ret (P := fun q : Int32 × sx_M => sx_eq (xS_X1_hasJob g) s q.2) hf (sx_rf _ s)
abbrev xI_X1_howMany (g : Nat) : Nat → Nat → Prop := fun o k => False
abbrev xJ_X1_howMany (g : Nat) : Nat → Nat → Prop := fun o k => False
abbrev xA_X1_howMany (g : Nat) : Nat → Prop := fun o => False
abbrev xB_X1_howMany (g : Nat) : Nat → Prop := fun o => False
abbrev xS_X1_howMany (g : Nat) : sx_D := (xI_X1_howMany g, xJ_X1_howMany g, xA_X1_howMany g, xB_X1_howMany g)
set_option maxRecDepth 100000 in
set_option maxHeartbeats 1000000 in
theorem fr_f_X1_howMany (g : Nat) (x1 : Int32) (s : sx_M) (hg : ax_G g) {p : Int32 × sx_M} (hf : f_X1_howMany g x1 s = some p) : sx_eq (xS_X1_howMany g) s p.2 := by
  unfold f_X1_howMany at hf
  rcases ax_or hf with ⟨hc1, hf⟩ | ⟨hc1, hf⟩
  · exact ax_ret (P := fun q : Int32 × sx_M => sx_eq (xS_X1_howMany g) s q.2) hf (sx_rf _ s)
  · exact ax_ret (P := fun q : Int32 × sx_M => sx_eq (xS_X1_howMany g) s q.2) hf (sx_rf _ s)
abbrev xI_X11_isKind : Nat → Nat → Prop := fun o k => False
abbrev xJ_X11_isKind : Nat → Nat → Prop := fun o k => False
abbrev xA_X11_isKind : Nat → Prop := fun o => False
abbrev xB_X11_isKind : Nat → Prop := fun o => False
abbrev xS_X11_isKind : sx_D := (xI_X11_isKind, xJ_X11_isKind, xA_X11_isKind, xB_X11_isKind)
set_option maxRecDepth 100000 in
set_option maxHeartbeats 1000000 in
theorem fr_f_X11_isKind (x0 : Int32) (s : sx_M) {p : Int32 × sx_M} (hf : f_X11_isKind x0 s = some p) : sx_eq (xS_X11_isKind) s p.2 := by
  unfold f_X11_isKind at hf
  rcases ax_or hf with ⟨hc2, hf⟩ | ⟨hc2, hf⟩
  · exact ax_ret (P := fun q : Int32 × sx_M => sx_eq (xS_X11_isKind) s q.2) hf (sx_rf _ s)
  · rcases ax_or hf with ⟨hc1, hf⟩ | ⟨hc1, hf⟩
    · exact ax_ret (P := fun q : Int32 × sx_M => sx_eq (xS_X11_isKind) s q.2) hf (sx_rf _ s)
    · exact ax_ret (P := fun q : Int32 × sx_M => sx_eq (xS_X11_isKind) s q.2) hf (sx_rf _ s)
abbrev xI_X1_hasLine (g : Nat) : Nat → Nat → Prop := fun o k => False
abbrev xJ_X1_hasLine (g : Nat) : Nat → Nat → Prop := fun o k => False
abbrev xA_X1_hasLine (g : Nat) : Nat → Prop := fun o => False
abbrev xB_X1_hasLine (g : Nat) : Nat → Prop := fun o => False
abbrev xS_X1_hasLine (g : Nat) : sx_D := (xI_X1_hasLine g, xJ_X1_hasLine g, xA_X1_hasLine g, xB_X1_hasLine g)
set_option maxRecDepth 100000 in
set_option maxHeartbeats 1000000 in
theorem fr_f_X1_hasLine (g : Nat) (x1 : Int32) (x2 : Int32) (s : sx_M) (hg : ax_G g) {p : Int32 × sx_M} (hf : f_X1_hasLine g x1 x2 s = some p) : sx_eq (xS_X1_hasLine g) s p.2 := by
  unfold f_X1_hasLine at hf
  obtain ⟨p1, hp1, hf⟩ := ax_bind hf
  rcases ax_or hf with ⟨hc3, hf⟩ | ⟨hc3, hf⟩
  · exact ax_ret (P := fun q : Int32 × sx_M => sx_eq (xS_X1_hasLine g) s q.2) hf (sx_tr (sx_rf _ s) (sx_mono (D1 := xS_X11_isKind) (fr_f_X11_isKind (p := p1) x2 s hp1) (fun o k h => h.elim) (fun o k h => h.elim) (fun o h => h.elim) (fun o h => h.elim)))
  · rcases ax_or hf with ⟨hc2, hf⟩ | ⟨hc2, hf⟩
    · exact ax_ret (P := fun q : Int32 × sx_M => sx_eq (xS_X1_hasLine g) s q.2) hf (sx_tr (sx_rf _ s) (sx_mono (D1 := xS_X11_isKind) (fr_f_X11_isKind (p := p1) x2 s hp1) (fun o k h => h.elim) (fun o k h => h.elim) (fun o h => h.elim) (fun o h => h.elim)))
    · obtain ⟨p2, hp2, hf⟩ := ax_bind hf
      rcases ax_or hf with ⟨hc1, hf⟩ | ⟨hc1, hf⟩
      · exact ax_ret (P := fun q : Int32 × sx_M => sx_eq (xS_X1_hasLine g) s q.2) hf (sx_tr (sx_tr (sx_rf _ s) (sx_mono (D1 := xS_X11_isKind) (fr_f_X11_isKind (p := p1) x2 s hp1) (fun o k h => h.elim) (fun o k h => h.elim) (fun o h => h.elim) (fun o h => h.elim))) (sx_mono (D1 := xS_X1_howMany g) (fr_f_X1_howMany (p := p2) g x2 p1.2 hg hp2) (fun o k h => h.elim) (fun o k h => h.elim) (fun o h => h.elim) (fun o h => h.elim)))
      · exact ax_ret (P := fun q : Int32 × sx_M => sx_eq (xS_X1_hasLine g) s q.2) hf (sx_tr (sx_tr (sx_rf _ s) (sx_mono (D1 := xS_X11_isKind) (fr_f_X11_isKind (p := p1) x2 s hp1) (fun o k h => h.elim) (fun o k h => h.elim) (fun o h => h.elim) (fun o h => h.elim))) (sx_mono (D1 := xS_X1_howMany g) (fr_f_X1_howMany (p := p2) g x2 p1.2 hg hp2) (fun o k h => h.elim) (fun o k h => h.elim) (fun o h => h.elim) (fun o h => h.elim)))
abbrev xI_X1_put (g : Nat) : Nat → Nat → Prop := fun o k => False
abbrev xJ_X1_put (g : Nat) : Nat → Nat → Prop := fun o k => False
abbrev xA_X1_put (g : Nat) : Nat → Prop := fun o => False
abbrev xB_X1_put (g : Nat) : Nat → Prop := fun o => o = (g + 1)
abbrev xS_X1_put (g : Nat) : sx_D := (xI_X1_put g, xJ_X1_put g, xA_X1_put g, xB_X1_put g)
set_option maxRecDepth 100000 in
set_option maxHeartbeats 1000000 in
theorem fr_f_X1_put (g : Nat) (x1 : Int32) (x2 : Int32) (x3 : Int64) (s : sx_M) (hg : ax_G g) {p : sx_M} (hf : f_X1_put g x1 x2 x3 s = some p) : sx_eq (xS_X1_put g) s p := by
  unfold f_X1_put at hf
  obtain ⟨p1, hp1, hf⟩ := ax_bind hf
  rcases ax_or hf with ⟨hc2, hf⟩ | ⟨hc2, hf⟩
  · exact ax_ret (P := fun q : sx_M => sx_eq (xS_X1_put g) s q) hf (sx_tr (sx_rf _ s) (sx_mono (D1 := xS_X1_has g) (fr_f_X1_has (p := p1) g x1 x2 s hg hp1) (fun o k h => h.elim) (fun o k h => h.elim) (fun o h => h.elim) (fun o h => h.elim)))
  · obtain ⟨_, hf⟩ := ax_ite hf
    exact ax_ret (P := fun q : sx_M => sx_eq (xS_X1_put g) s q) hf (sx_wB' (D := (xS_X1_put g)) (sx_tr (sx_rf _ s) (sx_mono (D1 := xS_X1_has g) (fr_f_X1_has (p := p1) g x1 x2 s hg hp1) (fun o k h => h.elim) (fun o k h => h.elim) (fun o h => h.elim) (fun o h => h.elim))) ((fun q => q) rfl))
abbrev xI_X1_across (g : Nat) : Nat → Nat → Prop := fun o k => False
abbrev xJ_X1_across (g : Nat) : Nat → Nat → Prop := fun o k => False
abbrev xA_X1_across (g : Nat) : Nat → Prop := fun o => False
abbrev xB_X1_across (g : Nat) : Nat → Prop := fun o => False
abbrev xS_X1_across (g : Nat) : sx_D := (xI_X1_across g, xJ_X1_across g, xA_X1_across g, xB_X1_across g)
set_option maxRecDepth 100000 in
set_option maxHeartbeats 1000000 in
theorem fr_f_X1_across (g : Nat) (x1 : Int32) (s : sx_M) (hg : ax_G g) {p : Int32 × sx_M} (hf : f_X1_across g x1 s = some p) : sx_eq (xS_X1_across g) s p.2 := by
  unfold f_X1_across at hf
  rcases ax_or hf with ⟨hc1, hf⟩ | ⟨hc1, hf⟩
  · exact ax_ret (P := fun q : Int32 × sx_M => sx_eq (xS_X1_across g) s q.2) hf (sx_rf _ s)
  · exact ax_ret (P := fun q : Int32 × sx_M => sx_eq (xS_X1_across g) s q.2) hf (sx_rf _ s)
abbrev xI_X1_inLine (g : Nat) : Nat → Nat → Prop := fun o k => False
abbrev xJ_X1_inLine (g : Nat) : Nat → Nat → Prop := fun o k => False
abbrev xA_X1_inLine (g : Nat) : Nat → Prop := fun o => False
abbrev xB_X1_inLine (g : Nat) : Nat → Prop := fun o => False
abbrev xS_X1_inLine (g : Nat) : sx_D := (xI_X1_inLine g, xJ_X1_inLine g, xA_X1_inLine g, xB_X1_inLine g)
set_option maxRecDepth 100000 in
set_option maxHeartbeats 1000000 in
theorem fr_f_X1_inLine (g : Nat) (x1 : Int32) (x2 : Int32) (x3 : Int32) (s : sx_M) (hg : ax_G g) {p : Int64 × sx_M} (hf : f_X1_inLine g x1 x2 x3 s = some p) : sx_eq (xS_X1_inLine g) s p.2 := by
  unfold f_X1_inLine at hf
  rcases ax_or hf with ⟨hc1, hf⟩ | ⟨hc1, hf⟩
  · obtain ⟨p2, hp2, hf⟩ := ax_bind hf
    exact ax_ret (P := fun q : Int64 × sx_M => sx_eq (xS_X1_inLine g) s q.2) hf (sx_tr (sx_rf _ s) (sx_mono (D1 := xS_X1_at g) (fr_f_X1_at (p := p2) g x1 x3 s hg hp2) (fun o k h => h.elim) (fun o k h => h.elim) (fun o h => h.elim) (fun o h => h.elim)))
  · obtain ⟨p1, hp1, hf⟩ := ax_bind hf
    exact ax_ret (P := fun q : Int64 × sx_M => sx_eq (xS_X1_inLine g) s q.2) hf (sx_tr (sx_rf _ s) (sx_mono (D1 := xS_X1_at g) (fr_f_X1_at (p := p1) g x3 x1 s hg hp1) (fun o k h => h.elim) (fun o k h => h.elim) (fun o h => h.elim) (fun o h => h.elim)))
abbrev xI_X1_openIn (g : Nat) : Nat → Nat → Prop := fun o k => False
abbrev xJ_X1_openIn (g : Nat) : Nat → Nat → Prop := fun o k => False
abbrev xA_X1_openIn (g : Nat) : Nat → Prop := fun o => False
abbrev xB_X1_openIn (g : Nat) : Nat → Prop := fun o => False
abbrev xS_X1_openIn (g : Nat) : sx_D := (xI_X1_openIn g, xJ_X1_openIn g, xA_X1_openIn g, xB_X1_openIn g)
set_option maxRecDepth 100000 in
set_option maxHeartbeats 1000000 in
theorem fr_f_X1_openIn (g : Nat) (x1 : Int32) (x2 : Int32) (s : sx_M) (hg : ax_G g) {p : Int32 × sx_M} (hf : f_X1_openIn g x1 x2 s = some p) : sx_eq (xS_X1_openIn g) s p.2 := by
  unfold f_X1_openIn at hf
  obtain ⟨b3, hb3, hf⟩ := ax_bind hf
  have hvb3 := wh_inv ((0 : Int32), (0 : Int32), s) (fun a5 : Int32 × Int32 × sx_M => sx_eq (xS_X1_openIn g) s a5.2.2) (fun e : Int32 × sx_M => sx_eq (xS_X1_openIn g) s e.2) hb3 ?_ (sx_rf _ s)
  rotate_left
  · intro a5 r ha5 hf
    unfold f_X1_openIn_L5 at hf
    obtain ⟨p1, hp1, hf⟩ := ax_bind hf
    rcases ax_or hf with ⟨hc2, hf⟩ | ⟨hc2, hf⟩
    · exact ax_ret (P := Sum.elim (fun a5 : Int32 × Int32 × sx_M => sx_eq (xS_X1_openIn g) s a5.2.2) (fun e : Int32 × sx_M => sx_eq (xS_X1_openIn g) s e.2)) hf (sx_tr ha5 (sx_mono (D1 := xS_X1_across g) (fr_f_X1_across (p := p1) g x2 a5.2.2 hg hp1) (fun o k h => h.elim) (fun o k h => h.elim) (fun o h => h.elim) (fun o h => h.elim)))
    · obtain ⟨p2, hp2, hf⟩ := ax_bind hf
      rcases ax_or hf with ⟨hc1, hf⟩ | ⟨hc1, hf⟩
      · exact ax_ret (P := Sum.elim (fun a5 : Int32 × Int32 × sx_M => sx_eq (xS_X1_openIn g) s a5.2.2) (fun e : Int32 × sx_M => sx_eq (xS_X1_openIn g) s e.2)) hf (sx_tr (sx_tr ha5 (sx_mono (D1 := xS_X1_across g) (fr_f_X1_across (p := p1) g x2 a5.2.2 hg hp1) (fun o k h => h.elim) (fun o k h => h.elim) (fun o h => h.elim) (fun o h => h.elim))) (sx_mono (D1 := xS_X1_inLine g) (fr_f_X1_inLine (p := p2) g x1 x2 a5.2.1 p1.2 hg hp2) (fun o k h => h.elim) (fun o k h => h.elim) (fun o h => h.elim) (fun o h => h.elim)))
      · exact ax_ret (P := Sum.elim (fun a5 : Int32 × Int32 × sx_M => sx_eq (xS_X1_openIn g) s a5.2.2) (fun e : Int32 × sx_M => sx_eq (xS_X1_openIn g) s e.2)) hf (sx_tr (sx_tr ha5 (sx_mono (D1 := xS_X1_across g) (fr_f_X1_across (p := p1) g x2 a5.2.2 hg hp1) (fun o k h => h.elim) (fun o k h => h.elim) (fun o h => h.elim) (fun o h => h.elim))) (sx_mono (D1 := xS_X1_inLine g) (fr_f_X1_inLine (p := p2) g x1 x2 a5.2.1 p1.2 hg hp2) (fun o k h => h.elim) (fun o k h => h.elim) (fun o h => h.elim) (fun o h => h.elim)))
  exact ax_ret (P := fun q : Int32 × sx_M => sx_eq (xS_X1_openIn g) s q.2) hf hvb3
abbrev xI_X1_barred (g : Nat) : Nat → Nat → Prop := fun o k => False
abbrev xJ_X1_barred (g : Nat) : Nat → Nat → Prop := fun o k => False
abbrev xA_X1_barred (g : Nat) : Nat → Prop := fun o => False
abbrev xB_X1_barred (g : Nat) : Nat → Prop := fun o => False
abbrev xS_X1_barred (g : Nat) : sx_D := (xI_X1_barred g, xJ_X1_barred g, xA_X1_barred g, xB_X1_barred g)
set_option maxRecDepth 100000 in
set_option maxHeartbeats 1000000 in
theorem fr_f_X1_barred (g : Nat) (s : sx_M) (hg : ax_G g) {p : Int32 × sx_M} (hf : f_X1_barred g s = some p) : sx_eq (xS_X1_barred g) s p.2 := by
  unfold f_X1_barred at hf
  obtain ⟨b2, hb2, hf⟩ := ax_bind hf
  have hvb2 := wh_inv ((0 : Int32), (0 : Int32), s) (fun a4 : Int32 × Int32 × sx_M => sx_eq (xS_X1_barred g) s a4.2.2) (fun e : Int32 × sx_M => sx_eq (xS_X1_barred g) s e.2) hb2 ?_ (sx_rf _ s)
  rotate_left
  · intro a4 r ha4 hf
    unfold f_X1_barred_L4 at hf
    rcases ax_or hf with ⟨hc1, hf⟩ | ⟨hc1, hf⟩
    · exact ax_ret (P := Sum.elim (fun a4 : Int32 × Int32 × sx_M => sx_eq (xS_X1_barred g) s a4.2.2) (fun e : Int32 × sx_M => sx_eq (xS_X1_barred g) s e.2)) hf ha4
    · obtain ⟨p1, hp1, hf⟩ := ax_bind hf
      exact ax_ret (P := Sum.elim (fun a4 : Int32 × Int32 × sx_M => sx_eq (xS_X1_barred g) s a4.2.2) (fun e : Int32 × sx_M => sx_eq (xS_X1_barred g) s e.2)) hf (sx_tr ha4 (sx_mono (D1 := xS_X1_openIn g) (fr_f_X1_openIn (p := p1) g a4.2.1 (0 : Int32) a4.2.2 hg hp1) (fun o k h => h.elim) (fun o k h => h.elim) (fun o h => h.elim) (fun o h => h.elim)))
  exact ax_ret (P := fun q : Int32 × sx_M => sx_eq (xS_X1_barred g) s q.2) hf hvb2
abbrev xI_J9_min_f86c9 : Nat → Nat → Prop := fun o k => False
abbrev xJ_J9_min_f86c9 : Nat → Nat → Prop := fun o k => False
abbrev xA_J9_min_f86c9 : Nat → Prop := fun o => False
abbrev xB_J9_min_f86c9 : Nat → Prop := fun o => False
abbrev xS_J9_min_f86c9 : sx_D := (xI_J9_min_f86c9, xJ_J9_min_f86c9, xA_J9_min_f86c9, xB_J9_min_f86c9)
set_option maxRecDepth 100000 in
set_option maxHeartbeats 1000000 in
theorem fr_f_J9_min_f86c9 (x0 : Int64) (x2 : Int64) (s : sx_M) {p : Int64 × sx_M} (hf : f_J9_min_f86c9 x0 x2 s = some p) : sx_eq (xS_J9_min_f86c9) s p.2 := by
  unfold f_J9_min_f86c9 at hf
  rcases ax_or hf with ⟨hc1, hf⟩ | ⟨hc1, hf⟩
  · exact ax_ret (P := fun q : Int64 × sx_M => sx_eq (xS_J9_min_f86c9) s q.2) hf (sx_rf _ s)
  · exact ax_ret (P := fun q : Int64 × sx_M => sx_eq (xS_J9_min_f86c9) s q.2) hf (sx_rf _ s)
abbrev xI_X1_leastOf (g : Nat) : Nat → Nat → Prop := fun o k => False
abbrev xJ_X1_leastOf (g : Nat) : Nat → Nat → Prop := fun o k => False
abbrev xA_X1_leastOf (g : Nat) : Nat → Prop := fun o => False
abbrev xB_X1_leastOf (g : Nat) : Nat → Prop := fun o => False
abbrev xS_X1_leastOf (g : Nat) : sx_D := (xI_X1_leastOf g, xJ_X1_leastOf g, xA_X1_leastOf g, xB_X1_leastOf g)
set_option maxRecDepth 100000 in
set_option maxHeartbeats 1000000 in
theorem fr_f_X1_leastOf (g : Nat) (x1 : Int32) (x2 : Int32) (s : sx_M) (hg : ax_G g) {p : Int64 × sx_M} (hf : f_X1_leastOf g x1 x2 s = some p) : sx_eq (xS_X1_leastOf g) s p.2 := by
  unfold f_X1_leastOf at hf
  obtain ⟨b4, hb4, hf⟩ := ax_bind hf
  have hvb4 := wh_inv ((9223372036854775807 : Int64), (0 : Int32), s) (fun a7 : Int64 × Int32 × sx_M => sx_eq (xS_X1_leastOf g) s a7.2.2) (fun e : Int64 × sx_M => sx_eq (xS_X1_leastOf g) s e.2) hb4 ?_ (sx_rf _ s)
  rotate_left
  · intro a7 r ha7 hf
    unfold f_X1_leastOf_L7 at hf
    obtain ⟨p1, hp1, hf⟩ := ax_bind hf
    rcases ax_or hf with ⟨hc1, hf⟩ | ⟨hc1, hf⟩
    · exact ax_ret (P := Sum.elim (fun a7 : Int64 × Int32 × sx_M => sx_eq (xS_X1_leastOf g) s a7.2.2) (fun e : Int64 × sx_M => sx_eq (xS_X1_leastOf g) s e.2)) hf (sx_tr ha7 (sx_mono (D1 := xS_X1_across g) (fr_f_X1_across (p := p1) g x2 a7.2.2 hg hp1) (fun o k h => h.elim) (fun o k h => h.elim) (fun o h => h.elim) (fun o h => h.elim)))
    · obtain ⟨p2, hp2, hf⟩ := ax_bind hf
      obtain ⟨p3, hp3, hf⟩ := ax_bind hf
      exact ax_ret (P := Sum.elim (fun a7 : Int64 × Int32 × sx_M => sx_eq (xS_X1_leastOf g) s a7.2.2) (fun e : Int64 × sx_M => sx_eq (xS_X1_leastOf g) s e.2)) hf (sx_tr (sx_tr (sx_tr ha7 (sx_mono (D1 := xS_X1_across g) (fr_f_X1_across (p := p1) g x2 a7.2.2 hg hp1) (fun o k h => h.elim) (fun o k h => h.elim) (fun o h => h.elim) (fun o h => h.elim))) (sx_mono (D1 := xS_X1_inLine g) (fr_f_X1_inLine (p := p2) g x1 x2 a7.2.1 p1.2 hg hp2) (fun o k h => h.elim) (fun o k h => h.elim) (fun o h => h.elim) (fun o h => h.elim))) (sx_mono (D1 := xS_J9_min_f86c9) (fr_f_J9_min_f86c9 (p := p3) a7.1 p2.1 p2.2 hp3) (fun o k h => h.elim) (fun o k h => h.elim) (fun o h => h.elim) (fun o h => h.elim)))
  exact ax_ret (P := fun q : Int64 × sx_M => sx_eq (xS_X1_leastOf g) s q.2) hf hvb4
abbrev xI_X11_isCost : Nat → Nat → Prop := fun o k => False
abbrev xJ_X11_isCost : Nat → Nat → Prop := fun o k => False
abbrev xA_X11_isCost : Nat → Prop := fun o => False
abbrev xB_X11_isCost : Nat → Prop := fun o => False
abbrev xS_X11_isCost : sx_D := (xI_X11_isCost, xJ_X11_isCost, xA_X11_isCost, xB_X11_isCost)
set_option maxRecDepth 100000 in
set_option maxHeartbeats 1000000 in
theorem fr_f_X11_isCost (x0 : Int64) (s : sx_M) {p : Int32 × sx_M} (hf : f_X11_isCost x0 s = some p) : sx_eq (xS_X11_isCost) s p.2 := by
  unfold f_X11_isCost at hf
  rcases ax_or hf with ⟨hc2, hf⟩ | ⟨hc2, hf⟩
  · exact ax_ret (P := fun q : Int32 × sx_M => sx_eq (xS_X11_isCost) s q.2) hf (sx_rf _ s)
  · rcases ax_or hf with ⟨hc1, hf⟩ | ⟨hc1, hf⟩
    · exact ax_ret (P := fun q : Int32 × sx_M => sx_eq (xS_X11_isCost) s q.2) hf (sx_rf _ s)
    · exact ax_ret (P := fun q : Int32 × sx_M => sx_eq (xS_X11_isCost) s q.2) hf (sx_rf _ s)
abbrev xI_X1_bearsTilt (g : Nat) : Nat → Nat → Prop := fun o k => False
abbrev xJ_X1_bearsTilt (g : Nat) : Nat → Nat → Prop := fun o k => False
abbrev xA_X1_bearsTilt (g : Nat) : Nat → Prop := fun o => False
abbrev xB_X1_bearsTilt (g : Nat) : Nat → Prop := fun o => False
abbrev xS_X1_bearsTilt (g : Nat) : sx_D := (xI_X1_bearsTilt g, xJ_X1_bearsTilt g, xA_X1_bearsTilt g, xB_X1_bearsTilt g)
set_option maxRecDepth 100000 in
set_option maxHeartbeats 1000000 in
theorem fr_f_X1_bearsTilt (g : Nat) (x1 : Int32) (x2 : Int64) (x4 : Int32) (s : sx_M) (hg : ax_G g) {p : Int32 × sx_M} (hf : f_X1_bearsTilt g x1 x2 x4 s = some p) : sx_eq (xS_X1_bearsTilt g) s p.2 := by
  unfold f_X1_bearsTilt at hf
  obtain ⟨b4, hb4, hf⟩ := ax_bind hf
  have hvb4 := wh_inv ((0 : Int32), s) (fun a3 : Int32 × sx_M => sx_eq (xS_X1_bearsTilt g) s a3.2) (Sum.elim (fun e : sx_M => sx_eq (xS_X1_bearsTilt g) s e) (fun v : Int32 × sx_M => sx_eq (xS_X1_bearsTilt g) s v.2)) hb4 ?_ (sx_rf _ s)
  rotate_left
  · intro a3 r ha3 hf
    unfold f_X1_bearsTilt_L3 at hf
    obtain ⟨p1, hp1, hf⟩ := ax_bind hf
    rcases ax_or hf with ⟨hc3, hf⟩ | ⟨hc3, hf⟩
    · exact ax_ret (P := Sum.elim (fun a3 : Int32 × sx_M => sx_eq (xS_X1_bearsTilt g) s a3.2) (Sum.elim (fun e : sx_M => sx_eq (xS_X1_bearsTilt g) s e) (fun v : Int32 × sx_M => sx_eq (xS_X1_bearsTilt g) s v.2))) hf (sx_tr ha3 (sx_mono (D1 := xS_X1_across g) (fr_f_X1_across (p := p1) g x4 a3.2 hg hp1) (fun o k h => h.elim) (fun o k h => h.elim) (fun o h => h.elim) (fun o h => h.elim)))
    · obtain ⟨p2, hp2, hf⟩ := ax_bind hf
      rcases ax_or hf with ⟨hc2, hf⟩ | ⟨hc2, hf⟩
      · exact ax_ret (P := Sum.elim (fun a3 : Int32 × sx_M => sx_eq (xS_X1_bearsTilt g) s a3.2) (Sum.elim (fun e : sx_M => sx_eq (xS_X1_bearsTilt g) s e) (fun v : Int32 × sx_M => sx_eq (xS_X1_bearsTilt g) s v.2))) hf (sx_tr (sx_tr ha3 (sx_mono (D1 := xS_X1_across g) (fr_f_X1_across (p := p1) g x4 a3.2 hg hp1) (fun o k h => h.elim) (fun o k h => h.elim) (fun o h => h.elim) (fun o h => h.elim))) (sx_mono (D1 := xS_X1_inLine g) (fr_f_X1_inLine (p := p2) g x1 x4 a3.1 p1.2 hg hp2) (fun o k h => h.elim) (fun o k h => h.elim) (fun o h => h.elim) (fun o h => h.elim)))
      · obtain ⟨p3, hp3, hf⟩ := ax_bind hf
        rcases ax_or hf with ⟨hc1, hf⟩ | ⟨hc1, hf⟩
        · exact ax_ret (P := Sum.elim (fun a3 : Int32 × sx_M => sx_eq (xS_X1_bearsTilt g) s a3.2) (Sum.elim (fun e : sx_M => sx_eq (xS_X1_bearsTilt g) s e) (fun v : Int32 × sx_M => sx_eq (xS_X1_bearsTilt g) s v.2))) hf (sx_tr (sx_tr (sx_tr ha3 (sx_mono (D1 := xS_X1_across g) (fr_f_X1_across (p := p1) g x4 a3.2 hg hp1) (fun o k h => h.elim) (fun o k h => h.elim) (fun o h => h.elim) (fun o h => h.elim))) (sx_mono (D1 := xS_X1_inLine g) (fr_f_X1_inLine (p := p2) g x1 x4 a3.1 p1.2 hg hp2) (fun o k h => h.elim) (fun o k h => h.elim) (fun o h => h.elim) (fun o h => h.elim))) (sx_mono (D1 := xS_X11_isCost) (fr_f_X11_isCost (p := p3) (p2.1 + x2) p2.2 hp3) (fun o k h => h.elim) (fun o k h => h.elim) (fun o h => h.elim) (fun o h => h.elim)))
        · exact ax_ret (P := Sum.elim (fun a3 : Int32 × sx_M => sx_eq (xS_X1_bearsTilt g) s a3.2) (Sum.elim (fun e : sx_M => sx_eq (xS_X1_bearsTilt g) s e) (fun v : Int32 × sx_M => sx_eq (xS_X1_bearsTilt g) s v.2))) hf (sx_tr (sx_tr (sx_tr ha3 (sx_mono (D1 := xS_X1_across g) (fr_f_X1_across (p := p1) g x4 a3.2 hg hp1) (fun o k h => h.elim) (fun o k h => h.elim) (fun o h => h.elim) (fun o h => h.elim))) (sx_mono (D1 := xS_X1_inLine g) (fr_f_X1_inLine (p := p2) g x1 x4 a3.1 p1.2 hg hp2) (fun o k h => h.elim) (fun o k h => h.elim) (fun o h => h.elim) (fun o h => h.elim))) (sx_mono (D1 := xS_X11_isCost) (fr_f_X11_isCost (p := p3) (p2.1 + x2) p2.2 hp3) (fun o k h => h.elim) (fun o k h => h.elim) (fun o h => h.elim) (fun o h => h.elim)))
  rcases b4 with e5 | e6
  · exact ax_ret (P := fun q : Int32 × sx_M => sx_eq (xS_X1_bearsTilt g) s q.2) hf hvb4
  · exact ax_ret (P := fun q : Int32 × sx_M => sx_eq (xS_X1_bearsTilt g) s q.2) hf hvb4
abbrev xI_X1_tilt (g : Nat) : Nat → Nat → Prop := fun o k => False
abbrev xJ_X1_tilt (g : Nat) : Nat → Nat → Prop := fun o k => False
abbrev xA_X1_tilt (g : Nat) : Nat → Prop := fun o => False
abbrev xB_X1_tilt (g : Nat) : Nat → Prop := fun o => o = (g + 1)
abbrev xS_X1_tilt (g : Nat) : sx_D := (xI_X1_tilt g, xJ_X1_tilt g, xA_X1_tilt g, xB_X1_tilt g)
set_option maxRecDepth 100000 in
set_option maxHeartbeats 1000000 in
theorem fr_f_X1_tilt (g : Nat) (x1 : Int32) (x2 : Int64) (x4 : Int32) (s : sx_M) (hg : ax_G g) {p : sx_M} (hf : f_X1_tilt g x1 x2 x4 s = some p) : sx_eq (xS_X1_tilt g) s p := by
  unfold f_X1_tilt at hf
  obtain ⟨b4, hb4, hf⟩ := ax_bind hf
  have hvb4 := wh_inv ((0 : Int32), s) (fun a3 : Int32 × sx_M => sx_eq (xS_X1_tilt g) s a3.2) (fun e : sx_M => sx_eq (xS_X1_tilt g) s e) hb4 ?_ (sx_rf _ s)
  rotate_left
  · intro a3 r ha3 hf
    unfold f_X1_tilt_L3 at hf
    have J57 : ∀ (y5_57 : Int32) (y6_57 : Int64) (t1_57 : Int32) (t2_57 : Int32) (s_57 : sx_M), sx_eq (xS_X1_tilt g) s s_57 → f_X1_tilt_L3_J57 g x1 x2 x4 y5_57 y6_57 t1_57 t2_57 s_57 = some r → Sum.elim (fun a3 : Int32 × sx_M => sx_eq (xS_X1_tilt g) s a3.2) (fun e : sx_M => sx_eq (xS_X1_tilt g) s e) r := by
      intro y5_57 y6_57 t1_57 t2_57 s_57 hs_57 hf
      unfold f_X1_tilt_L3_J57 at hf
      obtain ⟨p1, hp1, hf⟩ := ax_bind hf
      exact ax_ret (P := Sum.elim (fun a3 : Int32 × sx_M => sx_eq (xS_X1_tilt g) s a3.2) (fun e : sx_M => sx_eq (xS_X1_tilt g) s e)) hf (sx_tr hs_57 (sx_mono (D1 := xS_X1_put g) (fr_f_X1_put (p := p1) g t1_57 t2_57 (y6_57 + x2) s_57 hg hp1) (fun o k h => h.elim) (fun o k h => h.elim) (fun o h => h.elim) (fun o h => (fun q => q) h)))
    have J46 : ∀ (y5_46 : Int32) (y6_46 : Int64) (t1_46 : Int32) (s_46 : sx_M), sx_eq (xS_X1_tilt g) s s_46 → f_X1_tilt_L3_J46 g x1 x2 x4 y5_46 y6_46 t1_46 s_46 = some r → Sum.elim (fun a3 : Int32 × sx_M => sx_eq (xS_X1_tilt g) s a3.2) (fun e : sx_M => sx_eq (xS_X1_tilt g) s e) r := by
      intro y5_46 y6_46 t1_46 s_46 hs_46 hf
      unfold f_X1_tilt_L3_J46 at hf
      rcases ax_or hf with ⟨hc1, hf⟩ | ⟨hc1, hf⟩
      · exact J57 y5_46 y6_46 t1_46 y5_46 s_46 hs_46 hf
      · exact J57 y5_46 y6_46 t1_46 x1 s_46 hs_46 hf
    obtain ⟨p2, hp2, hf⟩ := ax_bind hf
    rcases ax_or hf with ⟨hc4, hf⟩ | ⟨hc4, hf⟩
    · exact ax_ret (P := Sum.elim (fun a3 : Int32 × sx_M => sx_eq (xS_X1_tilt g) s a3.2) (fun e : sx_M => sx_eq (xS_X1_tilt g) s e)) hf (sx_tr ha3 (sx_mono (D1 := xS_X1_across g) (fr_f_X1_across (p := p2) g x4 a3.2 hg hp2) (fun o k h => h.elim) (fun o k h => h.elim) (fun o h => h.elim) (fun o h => h.elim)))
    · obtain ⟨p3, hp3, hf⟩ := ax_bind hf
      rcases ax_or hf with ⟨hc3, hf⟩ | ⟨hc3, hf⟩
      · exact ax_ret (P := Sum.elim (fun a3 : Int32 × sx_M => sx_eq (xS_X1_tilt g) s a3.2) (fun e : sx_M => sx_eq (xS_X1_tilt g) s e)) hf (sx_tr (sx_tr ha3 (sx_mono (D1 := xS_X1_across g) (fr_f_X1_across (p := p2) g x4 a3.2 hg hp2) (fun o k h => h.elim) (fun o k h => h.elim) (fun o h => h.elim) (fun o h => h.elim))) (sx_mono (D1 := xS_X1_inLine g) (fr_f_X1_inLine (p := p3) g x1 x4 a3.1 p2.2 hg hp3) (fun o k h => h.elim) (fun o k h => h.elim) (fun o h => h.elim) (fun o h => h.elim)))
      · rcases ax_or hf with ⟨hc2, hf⟩ | ⟨hc2, hf⟩
        · exact J46 a3.1 p3.1 x1 p3.2 (sx_tr (sx_tr ha3 (sx_mono (D1 := xS_X1_across g) (fr_f_X1_across (p := p2) g x4 a3.2 hg hp2) (fun o k h => h.elim) (fun o k h => h.elim) (fun o h => h.elim) (fun o h => h.elim))) (sx_mono (D1 := xS_X1_inLine g) (fr_f_X1_inLine (p := p3) g x1 x4 a3.1 p2.2 hg hp3) (fun o k h => h.elim) (fun o k h => h.elim) (fun o h => h.elim) (fun o h => h.elim))) hf
        · exact J46 a3.1 p3.1 a3.1 p3.2 (sx_tr (sx_tr ha3 (sx_mono (D1 := xS_X1_across g) (fr_f_X1_across (p := p2) g x4 a3.2 hg hp2) (fun o k h => h.elim) (fun o k h => h.elim) (fun o h => h.elim) (fun o h => h.elim))) (sx_mono (D1 := xS_X1_inLine g) (fr_f_X1_inLine (p := p3) g x1 x4 a3.1 p2.2 hg hp3) (fun o k h => h.elim) (fun o k h => h.elim) (fun o h => h.elim) (fun o h => h.elim))) hf
  exact ax_ret (P := fun q : sx_M => sx_eq (xS_X1_tilt g) s q) hf hvb4
abbrev xI_X1_addWorker (g : Nat) : Nat → Nat → Prop := fun o k => (o = g ∧ k = 1)
abbrev xJ_X1_addWorker (g : Nat) : Nat → Nat → Prop := fun o k => False
abbrev xA_X1_addWorker (g : Nat) : Nat → Prop := fun o => False
abbrev xB_X1_addWorker (g : Nat) : Nat → Prop := fun o => o = (g + 1)
abbrev xS_X1_addWorker (g : Nat) : sx_D := (xI_X1_addWorker g, xJ_X1_addWorker g, xA_X1_addWorker g, xB_X1_addWorker g)
set_option maxRecDepth 100000 in
set_option maxHeartbeats 1000000 in
theorem fr_f_X1_addWorker (g : Nat) (x1 : Int64) (s : sx_M) (hg : ax_G g) {p : sx_M} (hf : f_X1_addWorker g x1 s = some p) : sx_eq (xS_X1_addWorker g) s p := by
  unfold f_X1_addWorker at hf
  rcases ax_or hf with ⟨hc2, hf⟩ | ⟨hc2, hf⟩
  · exact ax_ret (P := fun q : sx_M => sx_eq (xS_X1_addWorker g) s q) hf (sx_rf _ s)
  · obtain ⟨b2, hb2, hf⟩ := ax_bind hf
    have hvb2 := wh_inv ((0 : Int32), (wI s g 1 ((rI s g 1) + (1 : Int32)))) (fun a21 : Int32 × sx_M => sx_eq (xS_X1_addWorker g) s a21.2) (fun e : sx_M => sx_eq (xS_X1_addWorker g) s e) hb2 ?_ (sx_wI' (D := (xS_X1_addWorker g)) (sx_rf _ s) ((fun q => q) ⟨rfl, rfl⟩))
    rotate_left
    · intro a21 r ha21 hf
      unfold f_X1_addWorker_L21 at hf
      rcases ax_or hf with ⟨hc1, hf⟩ | ⟨hc1, hf⟩
      · exact ax_ret (P := Sum.elim (fun a21 : Int32 × sx_M => sx_eq (xS_X1_addWorker g) s a21.2) (fun e : sx_M => sx_eq (xS_X1_addWorker g) s e)) hf ha21
      · obtain ⟨p1, hp1, hf⟩ := ax_bind hf
        exact ax_ret (P := Sum.elim (fun a21 : Int32 × sx_M => sx_eq (xS_X1_addWorker g) s a21.2) (fun e : sx_M => sx_eq (xS_X1_addWorker g) s e)) hf (sx_tr ha21 (sx_mono (D1 := xS_X1_put g) (fr_f_X1_put (p := p1) g ((rI a21.2 g 1) - (1 : Int32)) a21.1 x1 a21.2 hg hp1) (fun o k h => h.elim) (fun o k h => h.elim) (fun o h => h.elim) (fun o h => (fun q => q) h)))
    exact ax_ret (P := fun q : sx_M => sx_eq (xS_X1_addWorker g) s q) hf hvb2
abbrev xI_X1_addJob (g : Nat) : Nat → Nat → Prop := fun o k => (o = g ∧ k = 2)
abbrev xJ_X1_addJob (g : Nat) : Nat → Nat → Prop := fun o k => False
abbrev xA_X1_addJob (g : Nat) : Nat → Prop := fun o => False
abbrev xB_X1_addJob (g : Nat) : Nat → Prop := fun o => o = (g + 1)
abbrev xS_X1_addJob (g : Nat) : sx_D := (xI_X1_addJob g, xJ_X1_addJob g, xA_X1_addJob g, xB_X1_addJob g)
set_option maxRecDepth 100000 in
set_option maxHeartbeats 1000000 in
theorem fr_f_X1_addJob (g : Nat) (x1 : Int64) (s : sx_M) (hg : ax_G g) {p : sx_M} (hf : f_X1_addJob g x1 s = some p) : sx_eq (xS_X1_addJob g) s p := by
  unfold f_X1_addJob at hf
  rcases ax_or hf with ⟨hc2, hf⟩ | ⟨hc2, hf⟩
  · exact ax_ret (P := fun q : sx_M => sx_eq (xS_X1_addJob g) s q) hf (sx_rf _ s)
  · obtain ⟨b2, hb2, hf⟩ := ax_bind hf
    have hvb2 := wh_inv ((0 : Int32), (wI s g 2 ((rI s g 2) + (1 : Int32)))) (fun a21 : Int32 × sx_M => sx_eq (xS_X1_addJob g) s a21.2) (fun e : sx_M => sx_eq (xS_X1_addJob g) s e) hb2 ?_ (sx_wI' (D := (xS_X1_addJob g)) (sx_rf _ s) ((fun q => q) ⟨rfl, rfl⟩))
    rotate_left
    · intro a21 r ha21 hf
      unfold f_X1_addJob_L21 at hf
      rcases ax_or hf with ⟨hc1, hf⟩ | ⟨hc1, hf⟩
      · exact ax_ret (P := Sum.elim (fun a21 : Int32 × sx_M => sx_eq (xS_X1_addJob g) s a21.2) (fun e : sx_M => sx_eq (xS_X1_addJob g) s e)) hf ha21
      · obtain ⟨p1, hp1, hf⟩ := ax_bind hf
        exact ax_ret (P := Sum.elim (fun a21 : Int32 × sx_M => sx_eq (xS_X1_addJob g) s a21.2) (fun e : sx_M => sx_eq (xS_X1_addJob g) s e)) hf (sx_tr ha21 (sx_mono (D1 := xS_X1_put g) (fr_f_X1_put (p := p1) g a21.1 ((rI a21.2 g 2) - (1 : Int32)) x1 a21.2 hg hp1) (fun o k h => h.elim) (fun o k h => h.elim) (fun o h => h.elim) (fun o h => (fun q => q) h)))
    exact ax_ret (P := fun q : sx_M => sx_eq (xS_X1_addJob g) s q) hf hvb2
abbrev xI_X1_dropWorker (g : Nat) : Nat → Nat → Prop := fun o k => (o = g ∧ k = 1)
abbrev xJ_X1_dropWorker (g : Nat) : Nat → Nat → Prop := fun o k => False
abbrev xA_X1_dropWorker (g : Nat) : Nat → Prop := fun o => False
abbrev xB_X1_dropWorker (g : Nat) : Nat → Prop := fun o => o = (g + 1)
abbrev xS_X1_dropWorker (g : Nat) : sx_D := (xI_X1_dropWorker g, xJ_X1_dropWorker g, xA_X1_dropWorker g, xB_X1_dropWorker g)
set_option maxRecDepth 100000 in
set_option maxHeartbeats 1000000 in
theorem fr_f_X1_dropWorker (g : Nat) (x1 : Int32) (s : sx_M) (hg : ax_G g) {p : sx_M} (hf : f_X1_dropWorker g x1 s = some p) : sx_eq (xS_X1_dropWorker g) s p := by
  unfold f_X1_dropWorker at hf
  obtain ⟨p1, hp1, hf⟩ := ax_bind hf
  rcases ax_or hf with ⟨hc3, hf⟩ | ⟨hc3, hf⟩
  · exact ax_ret (P := fun q : sx_M => sx_eq (xS_X1_dropWorker g) s q) hf (sx_tr (sx_rf _ s) (sx_mono (D1 := xS_X1_hasWorker g) (fr_f_X1_hasWorker (p := p1) g x1 s hg hp1) (fun o k h => h.elim) (fun o k h => h.elim) (fun o h => h.elim) (fun o h => h.elim)))
  · obtain ⟨b5, hb5, hf⟩ := ax_bind hf
    have hvb5 := wh_inv (x1, p1.2) (fun a11 : Int32 × sx_M => sx_eq (xS_X1_dropWorker g) s a11.2) (fun e : sx_M => sx_eq (xS_X1_dropWorker g) s e) hb5 ?_ (sx_tr (sx_rf _ s) (sx_mono (D1 := xS_X1_hasWorker g) (fr_f_X1_hasWorker (p := p1) g x1 s hg hp1) (fun o k h => h.elim) (fun o k h => h.elim) (fun o h => h.elim) (fun o h => h.elim)))
    rotate_left
    · intro a11 r ha11 hf
      unfold f_X1_dropWorker_L11 at hf
      rcases ax_or hf with ⟨hc2, hf⟩ | ⟨hc2, hf⟩
      · exact ax_ret (P := Sum.elim (fun a11 : Int32 × sx_M => sx_eq (xS_X1_dropWorker g) s a11.2) (fun e : sx_M => sx_eq (xS_X1_dropWorker g) s e)) hf ha11
      · obtain ⟨b4, hb4, hf⟩ := ax_bind hf
        have hvb4 := wh_inv ((0 : Int32), a11.2) (fun a23 : Int32 × sx_M => sx_eq (xS_X1_dropWorker g) s a23.2) (fun e : sx_M => sx_eq (xS_X1_dropWorker g) s e) hb4 ?_ ha11
        rotate_left
        · intro a23 r ha23 hf
          unfold f_X1_dropWorker_L23 at hf
          rcases ax_or hf with ⟨hc1, hf⟩ | ⟨hc1, hf⟩
          · exact ax_ret (P := Sum.elim (fun a23 : Int32 × sx_M => sx_eq (xS_X1_dropWorker g) s a23.2) (fun e : sx_M => sx_eq (xS_X1_dropWorker g) s e)) hf ha23
          · obtain ⟨p2, hp2, hf⟩ := ax_bind hf
            obtain ⟨p3, hp3, hf⟩ := ax_bind hf
            exact ax_ret (P := Sum.elim (fun a23 : Int32 × sx_M => sx_eq (xS_X1_dropWorker g) s a23.2) (fun e : sx_M => sx_eq (xS_X1_dropWorker g) s e)) hf (sx_tr (sx_tr ha23 (sx_mono (D1 := xS_X1_at g) (fr_f_X1_at (p := p2) g (a11.1 + (1 : Int32)) a23.1 a23.2 hg hp2) (fun o k h => h.elim) (fun o k h => h.elim) (fun o h => h.elim) (fun o h => h.elim))) (sx_mono (D1 := xS_X1_put g) (fr_f_X1_put (p := p3) g a11.1 a23.1 p2.1 p2.2 hg hp3) (fun o k h => h.elim) (fun o k h => h.elim) (fun o h => h.elim) (fun o h => (fun q => q) h)))
        exact ax_ret (P := Sum.elim (fun a11 : Int32 × sx_M => sx_eq (xS_X1_dropWorker g) s a11.2) (fun e : sx_M => sx_eq (xS_X1_dropWorker g) s e)) hf hvb4
    exact ax_ret (P := fun q : sx_M => sx_eq (xS_X1_dropWorker g) s q) hf (sx_wI' (D := (xS_X1_dropWorker g)) hvb5 ((fun q => q) ⟨rfl, rfl⟩))
abbrev xI_X1_dropJob (g : Nat) : Nat → Nat → Prop := fun o k => (o = g ∧ k = 2)
abbrev xJ_X1_dropJob (g : Nat) : Nat → Nat → Prop := fun o k => False
abbrev xA_X1_dropJob (g : Nat) : Nat → Prop := fun o => False
abbrev xB_X1_dropJob (g : Nat) : Nat → Prop := fun o => o = (g + 1)
abbrev xS_X1_dropJob (g : Nat) : sx_D := (xI_X1_dropJob g, xJ_X1_dropJob g, xA_X1_dropJob g, xB_X1_dropJob g)
set_option maxRecDepth 100000 in
set_option maxHeartbeats 1000000 in
theorem fr_f_X1_dropJob (g : Nat) (x1 : Int32) (s : sx_M) (hg : ax_G g) {p : sx_M} (hf : f_X1_dropJob g x1 s = some p) : sx_eq (xS_X1_dropJob g) s p := by
  unfold f_X1_dropJob at hf
  obtain ⟨p1, hp1, hf⟩ := ax_bind hf
  rcases ax_or hf with ⟨hc3, hf⟩ | ⟨hc3, hf⟩
  · exact ax_ret (P := fun q : sx_M => sx_eq (xS_X1_dropJob g) s q) hf (sx_tr (sx_rf _ s) (sx_mono (D1 := xS_X1_hasJob g) (fr_f_X1_hasJob (p := p1) g x1 s hg hp1) (fun o k h => h.elim) (fun o k h => h.elim) (fun o h => h.elim) (fun o h => h.elim)))
  · obtain ⟨b5, hb5, hf⟩ := ax_bind hf
    have hvb5 := wh_inv ((0 : Int32), p1.2) (fun a11 : Int32 × sx_M => sx_eq (xS_X1_dropJob g) s a11.2) (fun e : sx_M => sx_eq (xS_X1_dropJob g) s e) hb5 ?_ (sx_tr (sx_rf _ s) (sx_mono (D1 := xS_X1_hasJob g) (fr_f_X1_hasJob (p := p1) g x1 s hg hp1) (fun o k h => h.elim) (fun o k h => h.elim) (fun o h => h.elim) (fun o h => h.elim)))
    rotate_left
    · intro a11 r ha11 hf
      unfold f_X1_dropJob_L11 at hf
      rcases ax_or hf with ⟨hc2, hf⟩ | ⟨hc2, hf⟩
      · exact ax_ret (P := Sum.elim (fun a11 : Int32 × sx_M => sx_eq (xS_X1_dropJob g) s a11.2) (fun e : sx_M => sx_eq (xS_X1_dropJob g) s e)) hf ha11
      · obtain ⟨b4, hb4, hf⟩ := ax_bind hf
        have hvb4 := wh_inv (x1, a11.2) (fun a21 : Int32 × sx_M => sx_eq (xS_X1_dropJob g) s a21.2) (fun e : sx_M => sx_eq (xS_X1_dropJob g) s e) hb4 ?_ ha11
        rotate_left
        · intro a21 r ha21 hf
          unfold f_X1_dropJob_L21 at hf
          rcases ax_or hf with ⟨hc1, hf⟩ | ⟨hc1, hf⟩
          · exact ax_ret (P := Sum.elim (fun a21 : Int32 × sx_M => sx_eq (xS_X1_dropJob g) s a21.2) (fun e : sx_M => sx_eq (xS_X1_dropJob g) s e)) hf ha21
          · obtain ⟨p2, hp2, hf⟩ := ax_bind hf
            obtain ⟨p3, hp3, hf⟩ := ax_bind hf
            exact ax_ret (P := Sum.elim (fun a21 : Int32 × sx_M => sx_eq (xS_X1_dropJob g) s a21.2) (fun e : sx_M => sx_eq (xS_X1_dropJob g) s e)) hf (sx_tr (sx_tr ha21 (sx_mono (D1 := xS_X1_at g) (fr_f_X1_at (p := p2) g a11.1 (a21.1 + (1 : Int32)) a21.2 hg hp2) (fun o k h => h.elim) (fun o k h => h.elim) (fun o h => h.elim) (fun o h => h.elim))) (sx_mono (D1 := xS_X1_put g) (fr_f_X1_put (p := p3) g a11.1 a21.1 p2.1 p2.2 hg hp3) (fun o k h => h.elim) (fun o k h => h.elim) (fun o h => h.elim) (fun o h => (fun q => q) h)))
        exact ax_ret (P := Sum.elim (fun a11 : Int32 × sx_M => sx_eq (xS_X1_dropJob g) s a11.2) (fun e : sx_M => sx_eq (xS_X1_dropJob g) s e)) hf hvb4
    exact ax_ret (P := fun q : sx_M => sx_eq (xS_X1_dropJob g) s q) hf (sx_wI' (D := (xS_X1_dropJob g)) hvb5 ((fun q => q) ⟨rfl, rfl⟩))
abbrev xI_X1_barJob (g : Nat) : Nat → Nat → Prop := fun o k => False
abbrev xJ_X1_barJob (g : Nat) : Nat → Nat → Prop := fun o k => False
abbrev xA_X1_barJob (g : Nat) : Nat → Prop := fun o => False
abbrev xB_X1_barJob (g : Nat) : Nat → Prop := fun o => o = (g + 1)
abbrev xS_X1_barJob (g : Nat) : sx_D := (xI_X1_barJob g, xJ_X1_barJob g, xA_X1_barJob g, xB_X1_barJob g)
set_option maxRecDepth 100000 in
set_option maxHeartbeats 1000000 in
theorem fr_f_X1_barJob (g : Nat) (x1 : Int32) (s : sx_M) (hg : ax_G g) {p : sx_M} (hf : f_X1_barJob g x1 s = some p) : sx_eq (xS_X1_barJob g) s p := by
  unfold f_X1_barJob at hf
  obtain ⟨b2, hb2, hf⟩ := ax_bind hf
  have hvb2 := wh_inv ((0 : Int32), s) (fun a2 : Int32 × sx_M => sx_eq (xS_X1_barJob g) s a2.2) (fun e : sx_M => sx_eq (xS_X1_barJob g) s e) hb2 ?_ (sx_rf _ s)
  rotate_left
  · intro a2 r ha2 hf
    unfold f_X1_barJob_L2 at hf
    rcases ax_or hf with ⟨hc1, hf⟩ | ⟨hc1, hf⟩
    · exact ax_ret (P := Sum.elim (fun a2 : Int32 × sx_M => sx_eq (xS_X1_barJob g) s a2.2) (fun e : sx_M => sx_eq (xS_X1_barJob g) s e)) hf ha2
    · obtain ⟨p1, hp1, hf⟩ := ax_bind hf
      exact ax_ret (P := Sum.elim (fun a2 : Int32 × sx_M => sx_eq (xS_X1_barJob g) s a2.2) (fun e : sx_M => sx_eq (xS_X1_barJob g) s e)) hf (sx_tr ha2 (sx_mono (D1 := xS_X1_put g) (fr_f_X1_put (p := p1) g a2.1 x1 (9223372036854775807 : Int64) a2.2 hg hp1) (fun o k h => h.elim) (fun o k h => h.elim) (fun o h => h.elim) (fun o h => (fun q => q) h)))
  exact ax_ret (P := fun q : sx_M => sx_eq (xS_X1_barJob g) s q) hf hvb2
abbrev xI_X1_sameCosts (g : Nat) : Nat → Nat → Prop := fun o k => False
abbrev xJ_X1_sameCosts (g : Nat) : Nat → Nat → Prop := fun o k => False
abbrev xA_X1_sameCosts (g : Nat) : Nat → Prop := fun o => False
abbrev xB_X1_sameCosts (g : Nat) : Nat → Prop := fun o => False
abbrev xS_X1_sameCosts (g : Nat) : sx_D := (xI_X1_sameCosts g, xJ_X1_sameCosts g, xA_X1_sameCosts g, xB_X1_sameCosts g)
set_option maxRecDepth 100000 in
set_option maxHeartbeats 1000000 in
theorem fr_f_X1_sameCosts (g : Nat) (x1 : Int32) (x2 : Int32) (s : sx_M) (hg : ax_G g) {p : Int32 × sx_M} (hf : f_X1_sameCosts g x1 x2 s = some p) : sx_eq (xS_X1_sameCosts g) s p.2 := by
  unfold f_X1_sameCosts at hf
  obtain ⟨b3, hb3, hf⟩ := ax_bind hf
  have hvb3 := wh_inv ((0 : Int32), s) (fun a2 : Int32 × sx_M => sx_eq (xS_X1_sameCosts g) s a2.2) (Sum.elim (fun e : sx_M => sx_eq (xS_X1_sameCosts g) s e) (fun v : Int32 × sx_M => sx_eq (xS_X1_sameCosts g) s v.2)) hb3 ?_ (sx_rf _ s)
  rotate_left
  · intro a2 r ha2 hf
    unfold f_X1_sameCosts_L2 at hf
    rcases ax_or hf with ⟨hc2, hf⟩ | ⟨hc2, hf⟩
    · exact ax_ret (P := Sum.elim (fun a2 : Int32 × sx_M => sx_eq (xS_X1_sameCosts g) s a2.2) (Sum.elim (fun e : sx_M => sx_eq (xS_X1_sameCosts g) s e) (fun v : Int32 × sx_M => sx_eq (xS_X1_sameCosts g) s v.2))) hf ha2
    · obtain ⟨p1, hp1, hf⟩ := ax_bind hf
      obtain ⟨p2, hp2, hf⟩ := ax_bind hf
      rcases ax_or hf with ⟨hc1, hf⟩ | ⟨hc1, hf⟩
      · exact ax_ret (P := Sum.elim (fun a2 : Int32 × sx_M => sx_eq (xS_X1_sameCosts g) s a2.2) (Sum.elim (fun e : sx_M => sx_eq (xS_X1_sameCosts g) s e) (fun v : Int32 × sx_M => sx_eq (xS_X1_sameCosts g) s v.2))) hf (sx_tr (sx_tr ha2 (sx_mono (D1 := xS_X1_at g) (fr_f_X1_at (p := p1) g x1 a2.1 a2.2 hg hp1) (fun o k h => h.elim) (fun o k h => h.elim) (fun o h => h.elim) (fun o h => h.elim))) (sx_mono (D1 := xS_X1_at g) (fr_f_X1_at (p := p2) g x2 a2.1 p1.2 hg hp2) (fun o k h => h.elim) (fun o k h => h.elim) (fun o h => h.elim) (fun o h => h.elim)))
      · exact ax_ret (P := Sum.elim (fun a2 : Int32 × sx_M => sx_eq (xS_X1_sameCosts g) s a2.2) (Sum.elim (fun e : sx_M => sx_eq (xS_X1_sameCosts g) s e) (fun v : Int32 × sx_M => sx_eq (xS_X1_sameCosts g) s v.2))) hf (sx_tr (sx_tr ha2 (sx_mono (D1 := xS_X1_at g) (fr_f_X1_at (p := p1) g x1 a2.1 a2.2 hg hp1) (fun o k h => h.elim) (fun o k h => h.elim) (fun o h => h.elim) (fun o h => h.elim))) (sx_mono (D1 := xS_X1_at g) (fr_f_X1_at (p := p2) g x2 a2.1 p1.2 hg hp2) (fun o k h => h.elim) (fun o k h => h.elim) (fun o h => h.elim) (fun o h => h.elim)))
  rcases b3 with e4 | e5
  · exact ax_ret (P := fun q : Int32 × sx_M => sx_eq (xS_X1_sameCosts g) s q.2) hf hvb3
  · exact ax_ret (P := fun q : Int32 × sx_M => sx_eq (xS_X1_sameCosts g) s q.2) hf hvb3
abbrev xI_X1_swap (g : Nat) : Nat → Nat → Prop := fun o k => False
abbrev xJ_X1_swap (g : Nat) : Nat → Nat → Prop := fun o k => False
abbrev xA_X1_swap (g : Nat) : Nat → Prop := fun o => False
abbrev xB_X1_swap (g : Nat) : Nat → Prop := fun o => o = (g + 1)
abbrev xS_X1_swap (g : Nat) : sx_D := (xI_X1_swap g, xJ_X1_swap g, xA_X1_swap g, xB_X1_swap g)
set_option maxRecDepth 100000 in
set_option maxHeartbeats 1000000 in
theorem fr_f_X1_swap (g : Nat) (x1 : Int32) (x2 : Int32) (s : sx_M) (hg : ax_G g) {p : sx_M} (hf : f_X1_swap g x1 x2 s = some p) : sx_eq (xS_X1_swap g) s p := by
  unfold f_X1_swap at hf
  obtain ⟨b5, hb5, hf⟩ := ax_bind hf
  have hvb5 := wh_inv ((0 : Int32), s) (fun a2 : Int32 × sx_M => sx_eq (xS_X1_swap g) s a2.2) (fun e : sx_M => sx_eq (xS_X1_swap g) s e) hb5 ?_ (sx_rf _ s)
  rotate_left
  · intro a2 r ha2 hf
    unfold f_X1_swap_L2 at hf
    rcases ax_or hf with ⟨hc1, hf⟩ | ⟨hc1, hf⟩
    · exact ax_ret (P := Sum.elim (fun a2 : Int32 × sx_M => sx_eq (xS_X1_swap g) s a2.2) (fun e : sx_M => sx_eq (xS_X1_swap g) s e)) hf ha2
    · obtain ⟨p1, hp1, hf⟩ := ax_bind hf
      obtain ⟨p2, hp2, hf⟩ := ax_bind hf
      obtain ⟨p3, hp3, hf⟩ := ax_bind hf
      obtain ⟨p4, hp4, hf⟩ := ax_bind hf
      exact ax_ret (P := Sum.elim (fun a2 : Int32 × sx_M => sx_eq (xS_X1_swap g) s a2.2) (fun e : sx_M => sx_eq (xS_X1_swap g) s e)) hf (sx_tr (sx_tr (sx_tr (sx_tr ha2 (sx_mono (D1 := xS_X1_at g) (fr_f_X1_at (p := p1) g x1 a2.1 a2.2 hg hp1) (fun o k h => h.elim) (fun o k h => h.elim) (fun o h => h.elim) (fun o h => h.elim))) (sx_mono (D1 := xS_X1_at g) (fr_f_X1_at (p := p2) g x2 a2.1 p1.2 hg hp2) (fun o k h => h.elim) (fun o k h => h.elim) (fun o h => h.elim) (fun o h => h.elim))) (sx_mono (D1 := xS_X1_put g) (fr_f_X1_put (p := p3) g x1 a2.1 p2.1 p2.2 hg hp3) (fun o k h => h.elim) (fun o k h => h.elim) (fun o h => h.elim) (fun o h => (fun q => q) h))) (sx_mono (D1 := xS_X1_put g) (fr_f_X1_put (p := p4) g x2 a2.1 p1.1 p3 hg hp4) (fun o k h => h.elim) (fun o k h => h.elim) (fun o h => h.elim) (fun o h => (fun q => q) h)))
  exact ax_ret (P := fun q : sx_M => sx_eq (xS_X1_swap g) s q) hf hvb5
abbrev xI_X1_jobsOpenTo (g : Nat) : Nat → Nat → Prop := fun o k => False
abbrev xJ_X1_jobsOpenTo (g : Nat) : Nat → Nat → Prop := fun o k => False
abbrev xA_X1_jobsOpenTo (g : Nat) : Nat → Prop := fun o => False
abbrev xB_X1_jobsOpenTo (g : Nat) : Nat → Prop := fun o => False
abbrev xS_X1_jobsOpenTo (g : Nat) : sx_D := (xI_X1_jobsOpenTo g, xJ_X1_jobsOpenTo g, xA_X1_jobsOpenTo g, xB_X1_jobsOpenTo g)
set_option maxRecDepth 100000 in
set_option maxHeartbeats 1000000 in
theorem fr_f_X1_jobsOpenTo (g : Nat) (x1 : Int32) (s : sx_M) (hg : ax_G g) {p : Int32 × sx_M} (hf : f_X1_jobsOpenTo g x1 s = some p) : sx_eq (xS_X1_jobsOpenTo g) s p.2 := by
  unfold f_X1_jobsOpenTo at hf
  obtain ⟨b3, hb3, hf⟩ := ax_bind hf
  have hvb3 := wh_inv ((0 : Int32), (0 : Int32), s) (fun a4 : Int32 × Int32 × sx_M => sx_eq (xS_X1_jobsOpenTo g) s a4.2.2) (fun e : Int32 × sx_M => sx_eq (xS_X1_jobsOpenTo g) s e.2) hb3 ?_ (sx_rf _ s)
  rotate_left
  · intro a4 r ha4 hf
    unfold f_X1_jobsOpenTo_L4 at hf
    rcases ax_or hf with ⟨hc4, hf⟩ | ⟨hc4, hf⟩
    · exact ax_ret (P := Sum.elim (fun a4 : Int32 × Int32 × sx_M => sx_eq (xS_X1_jobsOpenTo g) s a4.2.2) (fun e : Int32 × sx_M => sx_eq (xS_X1_jobsOpenTo g) s e.2)) hf ha4
    · obtain ⟨b2, hb2, hf⟩ := ax_bind hf
      have hvb2 := wh_inv (a4.1, (0 : Int32), a4.2.2) (fun a15 : Int32 × Int32 × sx_M => sx_eq (xS_X1_jobsOpenTo g) s a15.2.2) (fun e : Int32 × sx_M => sx_eq (xS_X1_jobsOpenTo g) s e.2) hb2 ?_ ha4
      rotate_left
      · intro a15 r ha15 hf
        unfold f_X1_jobsOpenTo_L15 at hf
        rcases ax_or hf with ⟨hc3, hf⟩ | ⟨hc3, hf⟩
        · exact ax_ret (P := Sum.elim (fun a15 : Int32 × Int32 × sx_M => sx_eq (xS_X1_jobsOpenTo g) s a15.2.2) (fun e : Int32 × sx_M => sx_eq (xS_X1_jobsOpenTo g) s e.2)) hf ha15
        · rcases ax_or hf with ⟨hc2, hf⟩ | ⟨hc2, hf⟩
          · obtain ⟨p1, hp1, hf⟩ := ax_bind hf
            rcases ax_or hf with ⟨hc1, hf⟩ | ⟨hc1, hf⟩
            · exact ax_ret (P := Sum.elim (fun a15 : Int32 × Int32 × sx_M => sx_eq (xS_X1_jobsOpenTo g) s a15.2.2) (fun e : Int32 × sx_M => sx_eq (xS_X1_jobsOpenTo g) s e.2)) hf (sx_tr ha15 (sx_mono (D1 := xS_X1_at g) (fr_f_X1_at (p := p1) g a4.2.1 a15.2.1 a15.2.2 hg hp1) (fun o k h => h.elim) (fun o k h => h.elim) (fun o h => h.elim) (fun o h => h.elim)))
            · exact ax_ret (P := Sum.elim (fun a15 : Int32 × Int32 × sx_M => sx_eq (xS_X1_jobsOpenTo g) s a15.2.2) (fun e : Int32 × sx_M => sx_eq (xS_X1_jobsOpenTo g) s e.2)) hf (sx_tr ha15 (sx_mono (D1 := xS_X1_at g) (fr_f_X1_at (p := p1) g a4.2.1 a15.2.1 a15.2.2 hg hp1) (fun o k h => h.elim) (fun o k h => h.elim) (fun o h => h.elim) (fun o h => h.elim)))
          · exact ax_ret (P := Sum.elim (fun a15 : Int32 × Int32 × sx_M => sx_eq (xS_X1_jobsOpenTo g) s a15.2.2) (fun e : Int32 × sx_M => sx_eq (xS_X1_jobsOpenTo g) s e.2)) hf ha15
      exact ax_ret (P := Sum.elim (fun a4 : Int32 × Int32 × sx_M => sx_eq (xS_X1_jobsOpenTo g) s a4.2.2) (fun e : Int32 × sx_M => sx_eq (xS_X1_jobsOpenTo g) s e.2)) hf hvb2
  exact ax_ret (P := fun q : Int32 × sx_M => sx_eq (xS_X1_jobsOpenTo g) s q.2) hf hvb3
abbrev xI_X1_lessRow (g : Nat) : Nat → Nat → Prop := fun o k => False
abbrev xJ_X1_lessRow (g : Nat) : Nat → Nat → Prop := fun o k => False
abbrev xA_X1_lessRow (g : Nat) : Nat → Prop := fun o => False
abbrev xB_X1_lessRow (g : Nat) : Nat → Prop := fun o => False
abbrev xS_X1_lessRow (g : Nat) : sx_D := (xI_X1_lessRow g, xJ_X1_lessRow g, xA_X1_lessRow g, xB_X1_lessRow g)
set_option maxRecDepth 100000 in
set_option maxHeartbeats 1000000 in
theorem fr_f_X1_lessRow (g : Nat) (x1 : Int32) (x2 : Int32) (s : sx_M) (hg : ax_G g) {p : Int64 × sx_M} (hf : f_X1_lessRow g x1 x2 s = some p) : sx_eq (xS_X1_lessRow g) s p.2 := by
  unfold f_X1_lessRow at hf
  obtain ⟨p1, hp1, hf⟩ := ax_bind hf
  rcases ax_or hf with ⟨hc1, hf⟩ | ⟨hc1, hf⟩
  · exact ax_ret (P := fun q : Int64 × sx_M => sx_eq (xS_X1_lessRow g) s q.2) hf (sx_tr (sx_rf _ s) (sx_mono (D1 := xS_X1_at g) (fr_f_X1_at (p := p1) g x1 x2 s hg hp1) (fun o k h => h.elim) (fun o k h => h.elim) (fun o h => h.elim) (fun o h => h.elim)))
  · obtain ⟨p2, hp2, hf⟩ := ax_bind hf
    exact ax_ret (P := fun q : Int64 × sx_M => sx_eq (xS_X1_lessRow g) s q.2) hf (sx_tr (sx_tr (sx_rf _ s) (sx_mono (D1 := xS_X1_at g) (fr_f_X1_at (p := p1) g x1 x2 s hg hp1) (fun o k h => h.elim) (fun o k h => h.elim) (fun o h => h.elim) (fun o h => h.elim))) (sx_mono (D1 := xS_X1_leastOf g) (fr_f_X1_leastOf (p := p2) g x1 (0 : Int32) p1.2 hg hp2) (fun o k h => h.elim) (fun o k h => h.elim) (fun o h => h.elim) (fun o h => h.elim)))
abbrev xI_X1_reducedAt (g : Nat) : Nat → Nat → Prop := fun o k => False
abbrev xJ_X1_reducedAt (g : Nat) : Nat → Nat → Prop := fun o k => False
abbrev xA_X1_reducedAt (g : Nat) : Nat → Prop := fun o => False
abbrev xB_X1_reducedAt (g : Nat) : Nat → Prop := fun o => False
abbrev xS_X1_reducedAt (g : Nat) : sx_D := (xI_X1_reducedAt g, xJ_X1_reducedAt g, xA_X1_reducedAt g, xB_X1_reducedAt g)
set_option maxRecDepth 100000 in
set_option maxHeartbeats 1000000 in
theorem fr_f_X1_reducedAt (g : Nat) (x1 : Int32) (x2 : Int32) (s : sx_M) (hg : ax_G g) {p : Int64 × sx_M} (hf : f_X1_reducedAt g x1 x2 s = some p) : sx_eq (xS_X1_reducedAt g) s p.2 := by
  unfold f_X1_reducedAt at hf
  obtain ⟨p1, hp1, hf⟩ := ax_bind hf
  rcases ax_or hf with ⟨hc2, hf⟩ | ⟨hc2, hf⟩
  · exact ax_ret (P := fun q : Int64 × sx_M => sx_eq (xS_X1_reducedAt g) s q.2) hf (sx_tr (sx_rf _ s) (sx_mono (D1 := xS_X1_lessRow g) (fr_f_X1_lessRow (p := p1) g x1 x2 s hg hp1) (fun o k h => h.elim) (fun o k h => h.elim) (fun o h => h.elim) (fun o h => h.elim)))
  · obtain ⟨b4, hb4, hf⟩ := ax_bind hf
    have hvb4 := wh_inv (p1.1, (0 : Int32), p1.2) (fun a25 : Int64 × Int32 × sx_M => sx_eq (xS_X1_reducedAt g) s a25.2.2) (fun e : Int64 × sx_M => sx_eq (xS_X1_reducedAt g) s e.2) hb4 ?_ (sx_tr (sx_rf _ s) (sx_mono (D1 := xS_X1_lessRow g) (fr_f_X1_lessRow (p := p1) g x1 x2 s hg hp1) (fun o k h => h.elim) (fun o k h => h.elim) (fun o h => h.elim) (fun o h => h.elim)))
    rotate_left
    · intro a25 r ha25 hf
      unfold f_X1_reducedAt_L25 at hf
      rcases ax_or hf with ⟨hc1, hf⟩ | ⟨hc1, hf⟩
      · exact ax_ret (P := Sum.elim (fun a25 : Int64 × Int32 × sx_M => sx_eq (xS_X1_reducedAt g) s a25.2.2) (fun e : Int64 × sx_M => sx_eq (xS_X1_reducedAt g) s e.2)) hf ha25
      · obtain ⟨p2, hp2, hf⟩ := ax_bind hf
        obtain ⟨p3, hp3, hf⟩ := ax_bind hf
        exact ax_ret (P := Sum.elim (fun a25 : Int64 × Int32 × sx_M => sx_eq (xS_X1_reducedAt g) s a25.2.2) (fun e : Int64 × sx_M => sx_eq (xS_X1_reducedAt g) s e.2)) hf (sx_tr (sx_tr ha25 (sx_mono (D1 := xS_X1_lessRow g) (fr_f_X1_lessRow (p := p2) g a25.2.1 x2 a25.2.2 hg hp2) (fun o k h => h.elim) (fun o k h => h.elim) (fun o h => h.elim) (fun o h => h.elim))) (sx_mono (D1 := xS_J9_min_f86c9) (fr_f_J9_min_f86c9 (p := p3) a25.1 p2.1 p2.2 hp3) (fun o k h => h.elim) (fun o k h => h.elim) (fun o h => h.elim) (fun o h => h.elim)))
    exact ax_ret (P := fun q : Int64 × sx_M => sx_eq (xS_X1_reducedAt g) s q.2) hf hvb4
abbrev xI_X1_sumOf (g : Nat) (ra : Nat) : Nat → Nat → Prop := fun o k => False
abbrev xJ_X1_sumOf (g : Nat) (ra : Nat) : Nat → Nat → Prop := fun o k => False
abbrev xA_X1_sumOf (g : Nat) (ra : Nat) : Nat → Prop := fun o => False
abbrev xB_X1_sumOf (g : Nat) (ra : Nat) : Nat → Prop := fun o => False
abbrev xS_X1_sumOf (g : Nat) (ra : Nat) : sx_D := (xI_X1_sumOf g ra, xJ_X1_sumOf g ra, xA_X1_sumOf g ra, xB_X1_sumOf g ra)
set_option maxRecDepth 100000 in
set_option maxHeartbeats 1000000 in
theorem fr_f_X1_sumOf (g : Nat) (ra : Nat) (s : sx_M) (hg : ax_G g) (hra : sx_sh[ra]? = some (.inl (.int, 7))) {p : Int64 × sx_M} (hf : f_X1_sumOf g ra s = some p) : sx_eq (xS_X1_sumOf g ra) s p.2 := by
  unfold f_X1_sumOf at hf
  obtain ⟨b2, hb2, hf⟩ := ax_bind hf
  have hvb2 := wh_inv ((0 : Int64), (0 : Int32), s) (fun a5 : Int64 × Int32 × sx_M => sx_eq (xS_X1_sumOf g ra) s a5.2.2) (fun e : Int64 × sx_M => sx_eq (xS_X1_sumOf g ra) s e.2) hb2 ?_ (sx_rf _ s)
  rotate_left
  · intro a5 r ha5 hf
    unfold f_X1_sumOf_L5 at hf
    rcases ax_or hf with ⟨hc3, hf⟩ | ⟨hc3, hf⟩
    · exact ax_ret (P := Sum.elim (fun a5 : Int64 × Int32 × sx_M => sx_eq (xS_X1_sumOf g ra) s a5.2.2) (fun e : Int64 × sx_M => sx_eq (xS_X1_sumOf g ra) s e.2)) hf ha5
    · rcases ax_or hf with ⟨hc2, hf⟩ | ⟨hc2, hf⟩
      · exact ax_ret (P := Sum.elim (fun a5 : Int64 × Int32 × sx_M => sx_eq (xS_X1_sumOf g ra) s a5.2.2) (fun e : Int64 × sx_M => sx_eq (xS_X1_sumOf g ra) s e.2)) hf ha5
      · obtain ⟨_, hf⟩ := ax_ite hf
        obtain ⟨p1, hp1, hf⟩ := ax_bind hf
        exact ax_ret (P := Sum.elim (fun a5 : Int64 × Int32 × sx_M => sx_eq (xS_X1_sumOf g ra) s a5.2.2) (fun e : Int64 × sx_M => sx_eq (xS_X1_sumOf g ra) s e.2)) hf (sx_tr ha5 (sx_mono (D1 := xS_X1_at g) (fr_f_X1_at (p := p1) g a5.2.1 (rA a5.2.2 ra (a5.2.1).toNatClampNeg) a5.2.2 hg hp1) (fun o k h => h.elim) (fun o k h => h.elim) (fun o h => h.elim) (fun o h => h.elim)))
  exact ax_ret (P := fun q : Int64 × sx_M => sx_eq (xS_X1_sumOf g ra) s q.2) hf hvb2
abbrev xI_J9_max_f86c9 : Nat → Nat → Prop := fun o k => False
abbrev xJ_J9_max_f86c9 : Nat → Nat → Prop := fun o k => False
abbrev xA_J9_max_f86c9 : Nat → Prop := fun o => False
abbrev xB_J9_max_f86c9 : Nat → Prop := fun o => False
abbrev xS_J9_max_f86c9 : sx_D := (xI_J9_max_f86c9, xJ_J9_max_f86c9, xA_J9_max_f86c9, xB_J9_max_f86c9)
set_option maxRecDepth 100000 in
set_option maxHeartbeats 1000000 in
theorem fr_f_J9_max_f86c9 (x0 : Int64) (x2 : Int64) (s : sx_M) {p : Int64 × sx_M} (hf : f_J9_max_f86c9 x0 x2 s = some p) : sx_eq (xS_J9_max_f86c9) s p.2 := by
  unfold f_J9_max_f86c9 at hf
  rcases ax_or hf with ⟨hc1, hf⟩ | ⟨hc1, hf⟩
  · exact ax_ret (P := fun q : Int64 × sx_M => sx_eq (xS_J9_max_f86c9) s q.2) hf (sx_rf _ s)
  · exact ax_ret (P := fun q : Int64 × sx_M => sx_eq (xS_J9_max_f86c9) s q.2) hf (sx_rf _ s)
abbrev xI_X1_greatestOf (g : Nat) (ra : Nat) : Nat → Nat → Prop := fun o k => False
abbrev xJ_X1_greatestOf (g : Nat) (ra : Nat) : Nat → Nat → Prop := fun o k => False
abbrev xA_X1_greatestOf (g : Nat) (ra : Nat) : Nat → Prop := fun o => False
abbrev xB_X1_greatestOf (g : Nat) (ra : Nat) : Nat → Prop := fun o => False
abbrev xS_X1_greatestOf (g : Nat) (ra : Nat) : sx_D := (xI_X1_greatestOf g ra, xJ_X1_greatestOf g ra, xA_X1_greatestOf g ra, xB_X1_greatestOf g ra)
set_option maxRecDepth 100000 in
set_option maxHeartbeats 1000000 in
theorem fr_f_X1_greatestOf (g : Nat) (ra : Nat) (s : sx_M) (hg : ax_G g) (hra : sx_sh[ra]? = some (.inl (.int, 7))) {p : Int64 × sx_M} (hf : f_X1_greatestOf g ra s = some p) : sx_eq (xS_X1_greatestOf g ra) s p.2 := by
  unfold f_X1_greatestOf at hf
  obtain ⟨b3, hb3, hf⟩ := ax_bind hf
  have hvb3 := wh_inv ((-9223372036854775808 : Int64), (0 : Int32), s) (fun a7 : Int64 × Int32 × sx_M => sx_eq (xS_X1_greatestOf g ra) s a7.2.2) (fun e : Int64 × sx_M => sx_eq (xS_X1_greatestOf g ra) s e.2) hb3 ?_ (sx_rf _ s)
  rotate_left
  · intro a7 r ha7 hf
    unfold f_X1_greatestOf_L7 at hf
    rcases ax_or hf with ⟨hc3, hf⟩ | ⟨hc3, hf⟩
    · exact ax_ret (P := Sum.elim (fun a7 : Int64 × Int32 × sx_M => sx_eq (xS_X1_greatestOf g ra) s a7.2.2) (fun e : Int64 × sx_M => sx_eq (xS_X1_greatestOf g ra) s e.2)) hf ha7
    · rcases ax_or hf with ⟨hc2, hf⟩ | ⟨hc2, hf⟩
      · exact ax_ret (P := Sum.elim (fun a7 : Int64 × Int32 × sx_M => sx_eq (xS_X1_greatestOf g ra) s a7.2.2) (fun e : Int64 × sx_M => sx_eq (xS_X1_greatestOf g ra) s e.2)) hf ha7
      · obtain ⟨_, hf⟩ := ax_ite hf
        obtain ⟨p1, hp1, hf⟩ := ax_bind hf
        obtain ⟨p2, hp2, hf⟩ := ax_bind hf
        exact ax_ret (P := Sum.elim (fun a7 : Int64 × Int32 × sx_M => sx_eq (xS_X1_greatestOf g ra) s a7.2.2) (fun e : Int64 × sx_M => sx_eq (xS_X1_greatestOf g ra) s e.2)) hf (sx_tr (sx_tr ha7 (sx_mono (D1 := xS_X1_at g) (fr_f_X1_at (p := p1) g a7.2.1 (rA a7.2.2 ra (a7.2.1).toNatClampNeg) a7.2.2 hg hp1) (fun o k h => h.elim) (fun o k h => h.elim) (fun o h => h.elim) (fun o h => h.elim))) (sx_mono (D1 := xS_J9_max_f86c9) (fr_f_J9_max_f86c9 (p := p2) a7.1 p1.1 p1.2 hp2) (fun o k h => h.elim) (fun o k h => h.elim) (fun o h => h.elim) (fun o h => h.elim)))
  exact ax_ret (P := fun q : Int64 × sx_M => sx_eq (xS_X1_greatestOf g ra) s q.2) hf hvb3
abbrev xI_X1_smallestOf (g : Nat) (ra : Nat) : Nat → Nat → Prop := fun o k => False
abbrev xJ_X1_smallestOf (g : Nat) (ra : Nat) : Nat → Nat → Prop := fun o k => False
abbrev xA_X1_smallestOf (g : Nat) (ra : Nat) : Nat → Prop := fun o => False
abbrev xB_X1_smallestOf (g : Nat) (ra : Nat) : Nat → Prop := fun o => False
abbrev xS_X1_smallestOf (g : Nat) (ra : Nat) : sx_D := (xI_X1_smallestOf g ra, xJ_X1_smallestOf g ra, xA_X1_smallestOf g ra, xB_X1_smallestOf g ra)
set_option maxRecDepth 100000 in
set_option maxHeartbeats 1000000 in
theorem fr_f_X1_smallestOf (g : Nat) (ra : Nat) (s : sx_M) (hg : ax_G g) (hra : sx_sh[ra]? = some (.inl (.int, 7))) {p : Int64 × sx_M} (hf : f_X1_smallestOf g ra s = some p) : sx_eq (xS_X1_smallestOf g ra) s p.2 := by
  unfold f_X1_smallestOf at hf
  obtain ⟨b3, hb3, hf⟩ := ax_bind hf
  have hvb3 := wh_inv ((9223372036854775807 : Int64), (0 : Int32), s) (fun a7 : Int64 × Int32 × sx_M => sx_eq (xS_X1_smallestOf g ra) s a7.2.2) (fun e : Int64 × sx_M => sx_eq (xS_X1_smallestOf g ra) s e.2) hb3 ?_ (sx_rf _ s)
  rotate_left
  · intro a7 r ha7 hf
    unfold f_X1_smallestOf_L7 at hf
    rcases ax_or hf with ⟨hc3, hf⟩ | ⟨hc3, hf⟩
    · exact ax_ret (P := Sum.elim (fun a7 : Int64 × Int32 × sx_M => sx_eq (xS_X1_smallestOf g ra) s a7.2.2) (fun e : Int64 × sx_M => sx_eq (xS_X1_smallestOf g ra) s e.2)) hf ha7
    · rcases ax_or hf with ⟨hc2, hf⟩ | ⟨hc2, hf⟩
      · exact ax_ret (P := Sum.elim (fun a7 : Int64 × Int32 × sx_M => sx_eq (xS_X1_smallestOf g ra) s a7.2.2) (fun e : Int64 × sx_M => sx_eq (xS_X1_smallestOf g ra) s e.2)) hf ha7
      · obtain ⟨_, hf⟩ := ax_ite hf
        obtain ⟨p1, hp1, hf⟩ := ax_bind hf
        obtain ⟨p2, hp2, hf⟩ := ax_bind hf
        exact ax_ret (P := Sum.elim (fun a7 : Int64 × Int32 × sx_M => sx_eq (xS_X1_smallestOf g ra) s a7.2.2) (fun e : Int64 × sx_M => sx_eq (xS_X1_smallestOf g ra) s e.2)) hf (sx_tr (sx_tr ha7 (sx_mono (D1 := xS_X1_at g) (fr_f_X1_at (p := p1) g a7.2.1 (rA a7.2.2 ra (a7.2.1).toNatClampNeg) a7.2.2 hg hp1) (fun o k h => h.elim) (fun o k h => h.elim) (fun o h => h.elim) (fun o h => h.elim))) (sx_mono (D1 := xS_J9_min_f86c9) (fr_f_J9_min_f86c9 (p := p2) a7.1 p1.1 p1.2 hp2) (fun o k h => h.elim) (fun o k h => h.elim) (fun o h => h.elim) (fun o h => h.elim)))
  exact ax_ret (P := fun q : Int64 × sx_M => sx_eq (xS_X1_smallestOf g ra) s q.2) hf hvb3
abbrev xI_X1_decode (g : Nat) (ra : Nat) : Nat → Nat → Prop := fun o k => False
abbrev xJ_X1_decode (g : Nat) (ra : Nat) : Nat → Nat → Prop := fun o k => False
abbrev xA_X1_decode (g : Nat) (ra : Nat) : Nat → Prop := fun o => o = ra
abbrev xB_X1_decode (g : Nat) (ra : Nat) : Nat → Prop := fun o => False
abbrev xS_X1_decode (g : Nat) (ra : Nat) : sx_D := (xI_X1_decode g ra, xJ_X1_decode g ra, xA_X1_decode g ra, xB_X1_decode g ra)
set_option maxRecDepth 100000 in
set_option maxHeartbeats 1000000 in
theorem fr_f_X1_decode (g : Nat) (ra : Nat) (x1 : Int32) (s : sx_M) (hg : ax_G g) (hra : sx_sh[ra]? = some (.inl (.int, 7))) {p : Int32 × sx_M} (hf : f_X1_decode g ra x1 s = some p) : sx_eq (xS_X1_decode g ra) s p.2 := by
  unfold f_X1_decode at hf
  rcases ax_or hf with ⟨hc7, hf⟩ | ⟨hc7, hf⟩
  · exact ax_ret (P := fun q : Int32 × sx_M => sx_eq (xS_X1_decode g ra) s q.2) hf (sx_rf _ s)
  · rcases ax_or hf with ⟨hc6, hf⟩ | ⟨hc6, hf⟩
    · obtain ⟨b2, hb2, hf⟩ := ax_bind hf
      have hvb2 := wh_inv (x1, (0 : Int32), ((rI s g 1) - (1 : Int32)), s) (fun a28 : Int32 × Int32 × Int32 × sx_M => sx_eq (xS_X1_decode g ra) s a28.2.2.2) (Sum.elim (fun e : Int32 × sx_M => sx_eq (xS_X1_decode g ra) s e.2) (fun v : Int32 × sx_M => sx_eq (xS_X1_decode g ra) s v.2)) hb2 ?_ (sx_rf _ s)
      rotate_left
      · intro a28 r ha28 hf
        unfold f_X1_decode_L28 at hf
        rcases ax_or hf with ⟨hc4, hf⟩ | ⟨hc4, hf⟩
        · exact ax_ret (P := Sum.elim (fun a28 : Int32 × Int32 × Int32 × sx_M => sx_eq (xS_X1_decode g ra) s a28.2.2.2) (Sum.elim (fun e : Int32 × sx_M => sx_eq (xS_X1_decode g ra) s e.2) (fun v : Int32 × sx_M => sx_eq (xS_X1_decode g ra) s v.2))) hf ha28
        · obtain ⟨p1, hp1, hf⟩ := ax_bind hf
          rcases ax_or hf with ⟨hc3, hf⟩ | ⟨hc3, hf⟩
          · exact ax_ret (P := Sum.elim (fun a28 : Int32 × Int32 × Int32 × sx_M => sx_eq (xS_X1_decode g ra) s a28.2.2.2) (Sum.elim (fun e : Int32 × sx_M => sx_eq (xS_X1_decode g ra) s e.2) (fun v : Int32 × sx_M => sx_eq (xS_X1_decode g ra) s v.2))) hf (sx_tr ha28 (sx_mono (D1 := xS_X1_at g) (fr_f_X1_at (p := p1) g a28.2.2.1 (a28.1 &&& (7 : Int32)) a28.2.2.2 hg hp1) (fun o k h => h.elim) (fun o k h => h.elim) (fun o h => h.elim) (fun o h => h.elim)))
          · rcases ax_or hf with ⟨hc2, hf⟩ | ⟨hc2, hf⟩
            · exact ax_ret (P := Sum.elim (fun a28 : Int32 × Int32 × Int32 × sx_M => sx_eq (xS_X1_decode g ra) s a28.2.2.2) (Sum.elim (fun e : Int32 × sx_M => sx_eq (xS_X1_decode g ra) s e.2) (fun v : Int32 × sx_M => sx_eq (xS_X1_decode g ra) s v.2))) hf (sx_tr ha28 (sx_mono (D1 := xS_X1_at g) (fr_f_X1_at (p := p1) g a28.2.2.1 (a28.1 &&& (7 : Int32)) a28.2.2.2 hg hp1) (fun o k h => h.elim) (fun o k h => h.elim) (fun o h => h.elim) (fun o h => h.elim)))
            · obtain ⟨_, hf⟩ := ax_ite hf
              exact ax_ret (P := Sum.elim (fun a28 : Int32 × Int32 × Int32 × sx_M => sx_eq (xS_X1_decode g ra) s a28.2.2.2) (Sum.elim (fun e : Int32 × sx_M => sx_eq (xS_X1_decode g ra) s e.2) (fun v : Int32 × sx_M => sx_eq (xS_X1_decode g ra) s v.2))) hf (sx_wA' (D := (xS_X1_decode g ra)) (sx_tr ha28 (sx_mono (D1 := xS_X1_at g) (fr_f_X1_at (p := p1) g a28.2.2.1 (a28.1 &&& (7 : Int32)) a28.2.2.2 hg hp1) (fun o k h => h.elim) (fun o k h => h.elim) (fun o h => h.elim) (fun o h => h.elim))) ((fun q => q) rfl))
      rcases b2 with e3 | e4
      · rcases ax_or hf with ⟨hc5, hf⟩ | ⟨hc5, hf⟩
        · exact ax_ret (P := fun q : Int32 × sx_M => sx_eq (xS_X1_decode g ra) s q.2) hf hvb2
        · exact ax_ret (P := fun q : Int32 × sx_M => sx_eq (xS_X1_decode g ra) s q.2) hf hvb2
      · exact ax_ret (P := fun q : Int32 × sx_M => sx_eq (xS_X1_decode g ra) s q.2) hf hvb2
    · exact ax_ret (P := fun q : Int32 × sx_M => sx_eq (xS_X1_decode g ra) s q.2) hf (sx_rf _ s)
abbrev xI_J6_bitCount_0f7a4 : Nat → Nat → Prop := fun o k => False
abbrev xJ_J6_bitCount_0f7a4 : Nat → Nat → Prop := fun o k => False
abbrev xA_J6_bitCount_0f7a4 : Nat → Prop := fun o => False
abbrev xB_J6_bitCount_0f7a4 : Nat → Prop := fun o => False
abbrev xS_J6_bitCount_0f7a4 : sx_D := (xI_J6_bitCount_0f7a4, xJ_J6_bitCount_0f7a4, xA_J6_bitCount_0f7a4, xB_J6_bitCount_0f7a4)
set_option maxRecDepth 100000 in
set_option maxHeartbeats 1000000 in
theorem fr_f_J6_bitCount_0f7a4 (x0 : Int32) (s : sx_M) {p : Int32 × sx_M} (hf : f_J6_bitCount_0f7a4 x0 s = some p) : sx_eq (xS_J6_bitCount_0f7a4) s p.2 := by
  unfold f_J6_bitCount_0f7a4 at hf
  exact ax_ret (P := fun q : Int32 × sx_M => sx_eq (xS_J6_bitCount_0f7a4) s q.2) hf (sx_rf _ s)
abbrev xI_J9_min_7cf53 : Nat → Nat → Prop := fun o k => False
abbrev xJ_J9_min_7cf53 : Nat → Nat → Prop := fun o k => False
abbrev xA_J9_min_7cf53 : Nat → Prop := fun o => False
abbrev xB_J9_min_7cf53 : Nat → Prop := fun o => False
abbrev xS_J9_min_7cf53 : sx_D := (xI_J9_min_7cf53, xJ_J9_min_7cf53, xA_J9_min_7cf53, xB_J9_min_7cf53)
set_option maxRecDepth 100000 in
set_option maxHeartbeats 1000000 in
theorem fr_f_J9_min_7cf53 (x0 : Int32) (x1 : Int32) (s : sx_M) {p : Int32 × sx_M} (hf : f_J9_min_7cf53 x0 x1 s = some p) : sx_eq (xS_J9_min_7cf53) s p.2 := by
  unfold f_J9_min_7cf53 at hf
  rcases ax_or hf with ⟨hc1, hf⟩ | ⟨hc1, hf⟩
  · exact ax_ret (P := fun q : Int32 × sx_M => sx_eq (xS_J9_min_7cf53) s q.2) hf (sx_rf _ s)
  · exact ax_ret (P := fun q : Int32 × sx_M => sx_eq (xS_J9_min_7cf53) s q.2) hf (sx_rf _ s)
abbrev xI_J9_max_7cf53 : Nat → Nat → Prop := fun o k => False
abbrev xJ_J9_max_7cf53 : Nat → Nat → Prop := fun o k => False
abbrev xA_J9_max_7cf53 : Nat → Prop := fun o => False
abbrev xB_J9_max_7cf53 : Nat → Prop := fun o => False
abbrev xS_J9_max_7cf53 : sx_D := (xI_J9_max_7cf53, xJ_J9_max_7cf53, xA_J9_max_7cf53, xB_J9_max_7cf53)
set_option maxRecDepth 100000 in
set_option maxHeartbeats 1000000 in
theorem fr_f_J9_max_7cf53 (x0 : Int32) (x1 : Int32) (s : sx_M) {p : Int32 × sx_M} (hf : f_J9_max_7cf53 x0 x1 s = some p) : sx_eq (xS_J9_max_7cf53) s p.2 := by
  unfold f_J9_max_7cf53 at hf
  rcases ax_or hf with ⟨hc1, hf⟩ | ⟨hc1, hf⟩
  · exact ax_ret (P := fun q : Int32 × sx_M => sx_eq (xS_J9_max_7cf53) s q.2) hf (sx_rf _ s)
  · exact ax_ret (P := fun q : Int32 × sx_M => sx_eq (xS_J9_max_7cf53) s q.2) hf (sx_rf _ s)
abbrev xI_X9_at : Nat → Nat → Prop := fun o k => False
abbrev xJ_X9_at : Nat → Nat → Prop := fun o k => False
abbrev xA_X9_at : Nat → Prop := fun o => False
abbrev xB_X9_at : Nat → Prop := fun o => False
abbrev xS_X9_at : sx_D := (xI_X9_at, xJ_X9_at, xA_X9_at, xB_X9_at)
set_option maxRecDepth 100000 in
set_option maxHeartbeats 1000000 in
theorem fr_f_X9_at (x1 : Int32) (s : sx_M) {p : Int32 × sx_M} (hf : f_X9_at x1 s = some p) : sx_eq (xS_X9_at) s p.2 := by
  unfold f_X9_at at hf
  rcases ax_or hf with ⟨hc3, hf⟩ | ⟨hc3, hf⟩
  · exact ax_ret (P := fun q : Int32 × sx_M => sx_eq (xS_X9_at) s q.2) hf (sx_rf _ s)
  · rcases ax_or hf with ⟨hc2, hf⟩ | ⟨hc2, hf⟩
    · exact ax_ret (P := fun q : Int32 × sx_M => sx_eq (xS_X9_at) s q.2) hf (sx_rf _ s)
    · obtain ⟨_, hf⟩ := ax_ite hf
      exact ax_ret (P := fun q : Int32 × sx_M => sx_eq (xS_X9_at) s q.2) hf (sx_rf _ s)
abbrev xI_X9_hasRoom : Nat → Nat → Prop := fun o k => False
abbrev xJ_X9_hasRoom : Nat → Nat → Prop := fun o k => False
abbrev xA_X9_hasRoom : Nat → Prop := fun o => False
abbrev xB_X9_hasRoom : Nat → Prop := fun o => False
abbrev xS_X9_hasRoom : sx_D := (xI_X9_hasRoom, xJ_X9_hasRoom, xA_X9_hasRoom, xB_X9_hasRoom)
set_option maxRecDepth 100000 in
set_option maxHeartbeats 1000000 in
theorem fr_f_X9_hasRoom (x1 : Int32) (s : sx_M) {p : Int32 × sx_M} (hf : f_X9_hasRoom x1 s = some p) : sx_eq (xS_X9_hasRoom) s p.2 := by
  unfold f_X9_hasRoom at hf
  rcases ax_or hf with ⟨hc1, hf⟩ | ⟨hc1, hf⟩
  · exact ax_ret (P := fun q : Int32 × sx_M => sx_eq (xS_X9_hasRoom) s q.2) hf (sx_rf _ s)
  · exact ax_ret (P := fun q : Int32 × sx_M => sx_eq (xS_X9_hasRoom) s q.2) hf (sx_rf _ s)
abbrev xI_X9_addNumber : Nat → Nat → Prop := fun o k => (o = 1 ∧ k = 1)
abbrev xJ_X9_addNumber : Nat → Nat → Prop := fun o k => False
abbrev xA_X9_addNumber : Nat → Prop := fun o => o = 2
abbrev xB_X9_addNumber : Nat → Prop := fun o => False
abbrev xS_X9_addNumber : sx_D := (xI_X9_addNumber, xJ_X9_addNumber, xA_X9_addNumber, xB_X9_addNumber)
set_option maxRecDepth 100000 in
set_option maxHeartbeats 1000000 in
theorem fr_f_X9_addNumber (x1 : Int32) (s : sx_M) {p : sx_M} (hf : f_X9_addNumber x1 s = some p) : sx_eq (xS_X9_addNumber) s p := by
  unfold f_X9_addNumber at hf
  obtain ⟨b1, hb1, hf⟩ := ax_bind hf
  have hvb1 := wh_inv ((24 : Int32), s) (fun a3 : Int32 × sx_M => sx_eq (xS_X9_addNumber) s a3.2) (fun e : sx_M => sx_eq (xS_X9_addNumber) s e) hb1 ?_ (sx_rf _ s)
  rotate_left
  · intro a3 r ha3 hf
    unfold f_X9_addNumber_L3 at hf
    rcases ax_or hf with ⟨hc3, hf⟩ | ⟨hc3, hf⟩
    · exact ax_ret (P := Sum.elim (fun a3 : Int32 × sx_M => sx_eq (xS_X9_addNumber) s a3.2) (fun e : sx_M => sx_eq (xS_X9_addNumber) s e)) hf ha3
    · rcases ax_or hf with ⟨hc2, hf⟩ | ⟨hc2, hf⟩
      · exact ax_ret (P := Sum.elim (fun a3 : Int32 × sx_M => sx_eq (xS_X9_addNumber) s a3.2) (fun e : sx_M => sx_eq (xS_X9_addNumber) s e)) hf ha3
      · obtain ⟨_, hf⟩ := ax_ite hf
        exact ax_ret (P := Sum.elim (fun a3 : Int32 × sx_M => sx_eq (xS_X9_addNumber) s a3.2) (fun e : sx_M => sx_eq (xS_X9_addNumber) s e)) hf (sx_wI' (D := (xS_X9_addNumber)) (sx_wA' (D := (xS_X9_addNumber)) ha3 ((fun q => q) rfl)) ((fun q => q) ⟨rfl, rfl⟩))
  exact ax_ret (P := fun q : sx_M => sx_eq (xS_X9_addNumber) s q) hf hvb1
abbrev xI_X9_cut : Nat → Nat → Prop := fun o k => (o = 1 ∧ k = 1)
abbrev xJ_X9_cut : Nat → Nat → Prop := fun o k => False
abbrev xA_X9_cut : Nat → Prop := fun o => False
abbrev xB_X9_cut : Nat → Prop := fun o => False
abbrev xS_X9_cut : sx_D := (xI_X9_cut, xJ_X9_cut, xA_X9_cut, xB_X9_cut)
set_option maxRecDepth 100000 in
set_option maxHeartbeats 1000000 in
theorem fr_f_X9_cut (x1 : Int32) (s : sx_M) {p : Int32 × sx_M} (hf : f_X9_cut x1 s = some p) : sx_eq (xS_X9_cut) s p.2 := by
  unfold f_X9_cut at hf
  rcases ax_or hf with ⟨hc2, hf⟩ | ⟨hc2, hf⟩
  · exact ax_ret (P := fun q : Int32 × sx_M => sx_eq (xS_X9_cut) s q.2) hf (sx_rf _ s)
  · rcases ax_or hf with ⟨hc1, hf⟩ | ⟨hc1, hf⟩
    · exact ax_ret (P := fun q : Int32 × sx_M => sx_eq (xS_X9_cut) s q.2) hf (sx_wI' (D := (xS_X9_cut)) (sx_rf _ s) ((fun q => q) ⟨rfl, rfl⟩))
    · exact ax_ret (P := fun q : Int32 × sx_M => sx_eq (xS_X9_cut) s q.2) hf (sx_rf _ s)
abbrev xI_X11_isRank : Nat → Nat → Prop := fun o k => False
abbrev xJ_X11_isRank : Nat → Nat → Prop := fun o k => False
abbrev xA_X11_isRank : Nat → Prop := fun o => False
abbrev xB_X11_isRank : Nat → Prop := fun o => False
abbrev xS_X11_isRank : sx_D := (xI_X11_isRank, xJ_X11_isRank, xA_X11_isRank, xB_X11_isRank)
set_option maxRecDepth 100000 in
set_option maxHeartbeats 1000000 in
theorem fr_f_X11_isRank (x0 : Int32) (s : sx_M) {p : Int32 × sx_M} (hf : f_X11_isRank x0 s = some p) : sx_eq (xS_X11_isRank) s p.2 := by
  unfold f_X11_isRank at hf
  rcases ax_or hf with ⟨hc2, hf⟩ | ⟨hc2, hf⟩
  · exact ax_ret (P := fun q : Int32 × sx_M => sx_eq (xS_X11_isRank) s q.2) hf (sx_rf _ s)
  · rcases ax_or hf with ⟨hc1, hf⟩ | ⟨hc1, hf⟩
    · exact ax_ret (P := fun q : Int32 × sx_M => sx_eq (xS_X11_isRank) s q.2) hf (sx_rf _ s)
    · exact ax_ret (P := fun q : Int32 × sx_M => sx_eq (xS_X11_isRank) s q.2) hf (sx_rf _ s)
abbrev xI_X11_difference : Nat → Nat → Prop := fun o k => False
abbrev xJ_X11_difference : Nat → Nat → Prop := fun o k => False
abbrev xA_X11_difference : Nat → Prop := fun o => False
abbrev xB_X11_difference : Nat → Prop := fun o => False
abbrev xS_X11_difference : sx_D := (xI_X11_difference, xJ_X11_difference, xA_X11_difference, xB_X11_difference)
set_option maxRecDepth 100000 in
set_option maxHeartbeats 1000000 in
theorem fr_f_X11_difference (x0 : Int64) (x2 : Int64) (s : sx_M) {p : Int64 × sx_M} (hf : f_X11_difference x0 x2 s = some p) : sx_eq (xS_X11_difference) s p.2 := by
  unfold f_X11_difference at hf
  rcases ax_or hf with ⟨hc2, hf⟩ | ⟨hc2, hf⟩
  · exact ax_ret (P := fun q : Int64 × sx_M => sx_eq (xS_X11_difference) s q.2) hf (sx_rf _ s)
  · rcases ax_or hf with ⟨hc1, hf⟩ | ⟨hc1, hf⟩
    · exact ax_ret (P := fun q : Int64 × sx_M => sx_eq (xS_X11_difference) s q.2) hf (sx_rf _ s)
    · exact ax_ret (P := fun q : Int64 × sx_M => sx_eq (xS_X11_difference) s q.2) hf (sx_rf _ s)
abbrev xI_X11_isRule : Nat → Nat → Prop := fun o k => False
abbrev xJ_X11_isRule : Nat → Nat → Prop := fun o k => False
abbrev xA_X11_isRule : Nat → Prop := fun o => False
abbrev xB_X11_isRule : Nat → Prop := fun o => False
abbrev xS_X11_isRule : sx_D := (xI_X11_isRule, xJ_X11_isRule, xA_X11_isRule, xB_X11_isRule)
set_option maxRecDepth 100000 in
set_option maxHeartbeats 1000000 in
theorem fr_f_X11_isRule (x0 : Int32) (s : sx_M) {p : Int32 × sx_M} (hf : f_X11_isRule x0 s = some p) : sx_eq (xS_X11_isRule) s p.2 := by
  unfold f_X11_isRule at hf
  rcases ax_or hf with ⟨hc2, hf⟩ | ⟨hc2, hf⟩
  · exact ax_ret (P := fun q : Int32 × sx_M => sx_eq (xS_X11_isRule) s q.2) hf (sx_rf _ s)
  · rcases ax_or hf with ⟨hc1, hf⟩ | ⟨hc1, hf⟩
    · exact ax_ret (P := fun q : Int32 × sx_M => sx_eq (xS_X11_isRule) s q.2) hf (sx_rf _ s)
    · exact ax_ret (P := fun q : Int32 × sx_M => sx_eq (xS_X11_isRule) s q.2) hf (sx_rf _ s)
abbrev xI_X11_isStep : Nat → Nat → Prop := fun o k => False
abbrev xJ_X11_isStep : Nat → Nat → Prop := fun o k => False
abbrev xA_X11_isStep : Nat → Prop := fun o => False
abbrev xB_X11_isStep : Nat → Prop := fun o => False
abbrev xS_X11_isStep : sx_D := (xI_X11_isStep, xJ_X11_isStep, xA_X11_isStep, xB_X11_isStep)
set_option maxRecDepth 100000 in
set_option maxHeartbeats 1000000 in
theorem fr_f_X11_isStep (x0 : Int32) (s : sx_M) {p : Int32 × sx_M} (hf : f_X11_isStep x0 s = some p) : sx_eq (xS_X11_isStep) s p.2 := by
  unfold f_X11_isStep at hf
  rcases ax_or hf with ⟨hc2, hf⟩ | ⟨hc2, hf⟩
  · exact ax_ret (P := fun q : Int32 × sx_M => sx_eq (xS_X11_isStep) s q.2) hf (sx_rf _ s)
  · rcases ax_or hf with ⟨hc1, hf⟩ | ⟨hc1, hf⟩
    · exact ax_ret (P := fun q : Int32 × sx_M => sx_eq (xS_X11_isStep) s q.2) hf (sx_rf _ s)
    · exact ax_ret (P := fun q : Int32 × sx_M => sx_eq (xS_X11_isStep) s q.2) hf (sx_rf _ s)
abbrev xI_J9_floorDiv_7cf53 : Nat → Nat → Prop := fun o k => False
abbrev xJ_J9_floorDiv_7cf53 : Nat → Nat → Prop := fun o k => False
abbrev xA_J9_floorDiv_7cf53 : Nat → Prop := fun o => False
abbrev xB_J9_floorDiv_7cf53 : Nat → Prop := fun o => False
abbrev xS_J9_floorDiv_7cf53 : sx_D := (xI_J9_floorDiv_7cf53, xJ_J9_floorDiv_7cf53, xA_J9_floorDiv_7cf53, xB_J9_floorDiv_7cf53)
set_option maxRecDepth 100000 in
set_option maxHeartbeats 1000000 in
theorem fr_f_J9_floorDiv_7cf53 (x0 : Int32) (x1 : Int32) (s : sx_M) {p : Int32 × sx_M} (hf : f_J9_floorDiv_7cf53 x0 x1 s = some p) : sx_eq (xS_J9_floorDiv_7cf53) s p.2 := by
  unfold f_J9_floorDiv_7cf53 at hf
  obtain ⟨_, hf⟩ := ax_ite hf
  rcases ax_or hf with ⟨hc3, hf⟩ | ⟨hc3, hf⟩
  · exact ax_ret (P := fun q : Int32 × sx_M => sx_eq (xS_J9_floorDiv_7cf53) s q.2) hf (sx_rf _ s)
  · rcases ax_or hf with ⟨hc2, hf⟩ | ⟨hc2, hf⟩
    · exact ax_ret (P := fun q : Int32 × sx_M => sx_eq (xS_J9_floorDiv_7cf53) s q.2) hf (sx_rf _ s)
    · exact ax_ret (P := fun q : Int32 × sx_M => sx_eq (xS_J9_floorDiv_7cf53) s q.2) hf (sx_rf _ s)
