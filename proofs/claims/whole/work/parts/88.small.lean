/-! end, fault, cost for this relation -/
theorem stq_3 : st_ok_3 Rel := stp_3 (fun s ⟨A, _, hc, hr⟩ => ⟨hc.2.2.2.2.2.1.trans hr.2.2.2.1.symm, hc.2.2.2.2.2.2.trans hr.2.2.2.2.symm⟩)
theorem stq_5 : st_ok_5 Rel := stp_5 (fun s ⟨A, hok, hc, hr⟩ => ⟨A.1, hok.1, hc.1, hr.1⟩)
def Den : sx_D := (fun o k => (o = 1 ∧ k = 1) ∨ (o = 58 ∧ k = 4), fun _ _ => False, fun _ => False, fun _ => False)
theorem stq_1 : st_ok_1 Rel := by
  refine stp_1 (fun s ⟨A, _, hc, hr⟩ => hc.2.2.2.2.1.1.trans hr.2.2.1.1.symm) ?_
  intro s n ⟨A, hok, hc, hr⟩ h0 hle
  have hL := hok.2.2.2
  rw [hc.2.2.2.2.1.1] at hle
  obtain ⟨m, hm, rfl⟩ : ∃ m, m ≤ A.2.2.1.1 ∧ n = nI m := by
    rw [Int32.lt_iff_toInt_lt, show (0 : Int32).toInt = 0 by decide] at h0
    rw [Int32.le_iff_toInt_le, nI_toInt (by omega)] at hle
    refine ⟨n.toInt.toNat, by omega, ?_⟩
    apply Int32.toInt_inj.mp
    rw [nI_toInt (by omega)]
    omega
  have hx : sx_eq Den s (wI (wI s 1 1 (nI m)) 58 4 (nI m)) := sx_wI' (sx_wI' (sx_rf _ _) (Or.inl ⟨rfl, rfl⟩)) (Or.inr ⟨rfl, rfl⟩)
  obtain ⟨a1, a2, a3, a4, a5, a6, a7⟩ := hc
  obtain ⟨b1, b2, b3, b4, b5⟩ := hr
  refine ⟨(A.1, A.2.1, (m, A.2.2.1.2), A.2.2.2), ⟨hok.1, hok.2.1, hok.2.2.1, show m ≤ 600 by omega⟩, ⟨?_, ?_, ?_, ?_, ⟨?_, ?_⟩, ?_, ?_⟩, ⟨?_, ⟨?_, ?_⟩, ⟨?_, ?_⟩, ?_, ?_⟩⟩
  · exact grid_eq hx (by simp only [Den]; omega) (by simp only [Den]; omega) (fun z => z) a1
  · exact ranks_eq hx (fun z => z) (fun z => z) (fun z => z) a2
  · exact order_eq hx (by simp only [Den]; omega) (by simp only [Den]; omega) (fun z => z) (fun z => z) a3
  · exact chist_eq hx (fun o k q1 q2 => by simp only [Den]; omega) (fun o q1 q2 z => z) a4
  · rw [rI_F (by omega), rI_T ⟨rfl, rfl⟩]
  · intro k hk
    exact a5.2 k (Nat.lt_of_lt_of_le hk hm)
  · rw [rI_F (by omega), rI_F (by omega)]; exact a6
  · rw [rI_F (by omega), rI_F (by omega)]; exact a7
  · exact tab_eq hx (fun z => z) b1
  · rw [rI_F (by omega), rI_F (by omega)]; exact b2.1
  · exact fun i T hi => tab_eq hx (fun z => z) (b2.2 i T hi)
  · rw [rI_T ⟨rfl, rfl⟩]
  · intro k hk
    exact b3.2 k (Nat.lt_of_lt_of_le hk hm)
  · rw [rI_F (by omega), rI_F (by omega)]; exact b4
  · rw [rI_F (by omega), rI_F (by omega)]; exact b5
