def up (h : hs) (w j : Nat) : hs := fun v => if v = w then some j else h v
def nnN (h : hs) : Nat → Nat
  | 0 => 0
  | n + 1 => nnN h n + (if h n = none then 0 else 1)
def smN (T : tb) (h : hs) : Nat → Int
  | 0 => 0
  | n + 1 => smN T h n + ((h n).map (fun j => (T.2.2 n j).getD 0)).getD 0
theorem up_w (h : hs) (w j : Nat) : up h w j w = some j := if_pos rfl
theorem up_o {h : hs} {w j v : Nat} (hv : v ≠ w) : up h w j v = h v := if_neg hv
theorem nn_up {h : hs} {w j : Nat} (hw : h w = none) : ∀ n, nnN (up h w j) n = nnN h n + (if w < n then 1 else 0)
  | 0 => rfl
  | n + 1 => by
    unfold nnN
    rw [nn_up hw n]
    by_cases z : n = w
    · rw [z, up_w, hw, if_neg (show ¬ (some j = none) by simp), if_pos rfl, if_neg (show ¬ w < w by omega), if_pos (show w < w + 1 by omega)]
    · rw [up_o z]
      by_cases y : w < n
      · rw [if_pos y, if_pos (show w < n + 1 by omega)]; omega
      · rw [if_neg y, if_neg (show ¬ w < n + 1 by omega)]; omega
theorem sm_up {T : tb} {h : hs} {w j : Nat} {x : Int} (hw : h w = none) (hx : T.2.2 w j = some x) : ∀ n, smN T (up h w j) n = smN T h n + (if w < n then x else 0)
  | 0 => rfl
  | n + 1 => by
    unfold smN
    rw [sm_up hw hx n]
    by_cases z : n = w
    · rw [z, up_w, hw, if_neg (show ¬ w < w by omega), if_pos (show w < w + 1 by omega)]
      simp [hx]
    · rw [up_o z]
      by_cases y : w < n
      · rw [if_pos y, if_pos (show w < n + 1 by omega)]; omega
      · rw [if_neg y, if_neg (show ¬ w < n + 1 by omega)]; omega
theorem nn_le (h : hs) : ∀ n, nnN h n ≤ n
  | 0 => Nat.le_refl _
  | n + 1 => by
    have := nn_le h n
    unfold nnN
    split <;> omega
theorem nn_all {h : hs} : ∀ n, nnN h n = n → ∀ w, w < n → h w ≠ none
  | 0, _, w, hw => by omega
  | n + 1, e, w, hw => by
    have h1 := nn_le h n
    unfold nnN at e
    split at e
    · omega
    · rename_i q
      by_cases z : w = n
      · rw [z]; exact q
      · exact nn_all n (by omega) w (by omega)
theorem bs_all {T : tb} {h : hs} (ha : ∀ w, w < T.1 → h w ≠ none) : ∀ n, n ≤ T.1 → bsA T h n = none
  | 0, _ => rfl
  | n + 1, hn => by
    have ih := bs_all ha n (by omega)
    unfold bsA
    rw [ih]
    have : ∀ m, bsR T h n none m = none := by
      intro m
      induction m with
      | zero => rfl
      | succ m im =>
        unfold bsR
        rw [im, bs1_no (fun q => ha n (by omega) q.1)]
    exact this _
def gr (T : tb) : Nat → hs → hs
  | 0, h => h
  | n + 1, h =>
    match bsA T h T.1 with
    | none => h
    | some c => gr T n (up h c.1 c.2.1)
theorem gr_n {T : tb} {h : hs} (n : Nat) (e : bsA T h T.1 = none) : gr T n h = h := by
  cases n with
  | zero => rfl
  | succ n => unfold gr; rw [e]
theorem gr_s {T : tb} {h : hs} {n w j : Nat} {x : Int} (e : bsA T h T.1 = some (w, j, x)) : gr T (n + 1) h = gr T n (up h w j) := by
  conv => lhs; unfold gr
  rw [e]
theorem wo_up {h : hs} {w j k : Nat} (hw : h w = none) (hk : k ≠ j) : ∀ n i, wo (up h w j) k i n = wo h k i n
  | 0, _ => rfl
  | n + 1, i => by
    unfold wo
    rw [wo_up hw hk n (i + 1)]
    by_cases z : i = w
    · rw [z, up_w, hw, if_neg (fun q => hk (Option.some.inj q).symm), if_neg (by simp)]
    · rw [up_o z]
theorem wo_up1 {h : hs} {w j : Nat} : ∀ n i, wo h j i n = none → i ≤ w → w < i + n → wo (up h w j) j i n = some w
  | 0, _, _, h1, h2 => by omega
  | n + 1, i, e, h1, h2 => by
    unfold wo at e ⊢
    by_cases z : i = w
    · rw [z, up_w, if_pos rfl]
    · rw [up_o z]
      by_cases y : h i = some j
      · rw [if_pos y] at e; cases e
      · rw [if_neg y] at e ⊢
        exact wo_up1 n (i + 1) e (by omega) (by omega)
/-- the class's greed -/
def cG (T : tb) (h : hs) (s : sx_M) : Prop := hC T h s ∧ rJ s 46 3 = jJ (smN T h T.1) ∧ rI s 46 4 = nI (nnN h T.1)
