def st_ok_0 (Rel : sx_M → Prop) : Prop := ∀ (v0 : Int32) (v1 : Int32) (v2 : Int32) (v3 : Int32) (v4 : Int32) (s : sx_M), Rel s → ∃ p1 p2, f_X11_feed v0 v1 v2 v3 v4 s = some p1 ∧ f_X12_feed v0 v1 v2 v3 v4 p1.2 = some p2 ∧ p1.1 = p2.1 ∧ Rel p2.2
def st_ok_1 (Rel : sx_M → Prop) : Prop := ∀ (v0 : Int32) (s : sx_M), Rel s → ∃ p1 p2, f_X11_end v0 s = some p1 ∧ f_X12_end v0 p1.2 = some p2 ∧ p1.1 = p2.1 ∧ Rel p2.2
def st_ok_2 (Rel : sx_M → Prop) : Prop := ∀ (s : sx_M), Rel s → ∃ p1 p2, f_X11_table s = some p1 ∧ f_X12_table p1.2 = some p2 ∧ p1.1 = p2.1 ∧ Rel p2.2
def st_ok_3 (Rel : sx_M → Prop) : Prop := ∀ (v0 : Int32) (s : sx_M), Rel s → ∃ p1 p2, f_X11_fault v0 s = some p1 ∧ f_X12_fault v0 p1.2 = some p2 ∧ p1.1 = p2.1 ∧ Rel p2.2
def st_ok_4 (Rel : sx_M → Prop) : Prop := ∀ (v0 : Int32) (s : sx_M), Rel s → ∃ p1 p2, f_X11_count v0 s = some p1 ∧ f_X12_count v0 p1.2 = some p2 ∧ p1.1 = p2.1 ∧ Rel p2.2
def st_ok_5 (Rel : sx_M → Prop) : Prop := ∀ (v0 : Int32) (v1 : Int32) (s : sx_M), Rel s → ∃ p1 p2, f_X11_cost v0 v1 s = some p1 ∧ f_X12_cost v0 v1 p1.2 = some p2 ∧ p1.1 = p2.1 ∧ Rel p2.2
def st_ok_6 (Rel : sx_M → Prop) : Prop := ∀ (v0 : Int32) (s : sx_M), Rel s → ∃ p1 p2, f_X11_sum v0 s = some p1 ∧ f_X12_sum v0 p1.2 = some p2 ∧ p1.1 = p2.1 ∧ Rel p2.2
def st_ok_7 (Rel : sx_M → Prop) : Prop := ∀ (v0 : Int32) (v1 : Int32) (s : sx_M), Rel s → ∃ p1 p2, f_X11_job v0 v1 s = some p1 ∧ f_X12_job v0 v1 p1.2 = some p2 ∧ p1.1 = p2.1 ∧ Rel p2.2
def st_ok_8 (Rel : sx_M → Prop) : Prop := ∀ (v0 : Int32) (s : sx_M), Rel s → ∃ p1 p2, f_X11_ties v0 s = some p1 ∧ f_X12_ties v0 p1.2 = some p2 ∧ p1.1 = p2.1 ∧ Rel p2.2
def st_ok_9 (Rel : sx_M → Prop) : Prop := ∀ (v0 : Int64) (s : sx_M), Rel s → ∃ p1 p2, f_X11_under v0 s = some p1 ∧ f_X12_under v0 p1.2 = some p2 ∧ p1.1 = p2.1 ∧ Rel p2.2
def st_ok_10 (Rel : sx_M → Prop) : Prop := ∀ (v0 : Int32) (s : sx_M), Rel s → ∃ p1 p2, f_X11_place v0 s = some p1 ∧ f_X12_place v0 p1.2 = some p2 ∧ p1.1 = p2.1 ∧ Rel p2.2
def st_ok_11 (Rel : sx_M → Prop) : Prop := ∀ (v0 : Int32) (v1 : Int32) (s : sx_M), Rel s → ∃ p1 p2, f_X11_forced v0 v1 s = some p1 ∧ f_X12_forced v0 v1 p1.2 = some p2 ∧ p1.1 = p2.1 ∧ Rel p2.2
def st_ok_12 (Rel : sx_M → Prop) : Prop := ∀ (v0 : Int32) (v1 : Int32) (s : sx_M), Rel s → ∃ p1 p2, f_X11_without v0 v1 s = some p1 ∧ f_X12_without v0 v1 p1.2 = some p2 ∧ p1.1 = p2.1 ∧ Rel p2.2
def st_ok_13 (Rel : sx_M → Prop) : Prop := ∀ (v0 : Int32) (v1 : Int32) (v2 : Int32) (s : sx_M), Rel s → ∃ p1 p2, f_X11_stays v0 v1 v2 s = some p1 ∧ f_X12_stays v0 v1 v2 p1.2 = some p2 ∧ p1.1 = p2.1 ∧ Rel p2.2
def st_ok_14 (Rel : sx_M → Prop) : Prop := ∀ (v0 : Int32) (v1 : Int32) (v2 : Int32) (s : sx_M), Rel s → ∃ p1 p2, f_X11_would v0 v1 v2 s = some p1 ∧ f_X12_would v0 v1 v2 p1.2 = some p2 ∧ p1.1 = p2.1 ∧ Rel p2.2
def st_ok_15 (Rel : sx_M → Prop) : Prop := ∀ (v0 : Int32) (s : sx_M), Rel s → ∃ p1 p2, f_X11_ever v0 s = some p1 ∧ f_X12_ever v0 p1.2 = some p2 ∧ p1.1 = p2.1 ∧ Rel p2.2
def st_ok_16 (Rel : sx_M → Prop) : Prop := ∀ (v0 : Int32) (s : sx_M), Rel s → ∃ p1 p2, f_X11_price v0 s = some p1 ∧ f_X12_price v0 p1.2 = some p2 ∧ p1.1 = p2.1 ∧ Rel p2.2
def st_ok_17 (Rel : sx_M → Prop) : Prop := ∀ (v0 : Int32) (s : sx_M), Rel s → ∃ p1 p2, f_X11_pay v0 s = some p1 ∧ f_X12_pay v0 p1.2 = some p2 ∧ p1.1 = p2.1 ∧ Rel p2.2
def st_ok_18 (Rel : sx_M → Prop) : Prop := ∀ (v0 : Int32) (v1 : Int32) (v2 : Int32) (s : sx_M), Rel s → ∃ p1 p2, f_X11_first v0 v1 v2 s = some p1 ∧ f_X12_first v0 v1 v2 p1.2 = some p2 ∧ p1.1 = p2.1 ∧ Rel p2.2
def st_ok_19 (Rel : sx_M → Prop) : Prop := ∀ (v0 : Int32) (v1 : Int32) (v2 : Int32) (s : sx_M), Rel s → ∃ p1 p2, f_X11_firstJob v0 v1 v2 s = some p1 ∧ f_X12_firstJob v0 v1 v2 p1.2 = some p2 ∧ p1.1 = p2.1 ∧ Rel p2.2
def st_ok_20 (Rel : sx_M → Prop) : Prop := ∀ (v0 : Int32) (s : sx_M), Rel s → ∃ p1 p2, f_X11_greedy v0 s = some p1 ∧ f_X12_greedy v0 p1.2 = some p2 ∧ p1.1 = p2.1 ∧ Rel p2.2
def st_ok_21 (Rel : sx_M → Prop) : Prop := ∀ (v0 : Int32) (s : sx_M), Rel s → ∃ p1 p2, f_X11_greedyJob v0 s = some p1 ∧ f_X12_greedyJob v0 p1.2 = some p2 ∧ p1.1 = p2.1 ∧ Rel p2.2
def st_ok_22 (Rel : sx_M → Prop) : Prop := ∀ (v0 : Int32) (s : sx_M), Rel s → ∃ p1 p2, f_X11_mended v0 s = some p1 ∧ f_X12_mended v0 p1.2 = some p2 ∧ p1.1 = p2.1 ∧ Rel p2.2
def st_ok_23 (Rel : sx_M → Prop) : Prop := ∀ (v0 : Int32) (v1 : Int32) (s : sx_M), Rel s → ∃ p1 p2, f_X11_auction v0 v1 s = some p1 ∧ f_X12_auction v0 v1 p1.2 = some p2 ∧ p1.1 = p2.1 ∧ Rel p2.2
def st_ok_24 (Rel : sx_M → Prop) : Prop := ∀ (v0 : Int32) (v1 : Int32) (s : sx_M), Rel s → ∃ p1 p2, f_X11_auctionPrice v0 v1 s = some p1 ∧ f_X12_auctionPrice v0 v1 p1.2 = some p2 ∧ p1.1 = p2.1 ∧ Rel p2.2
def st_ok_25 (Rel : sx_M → Prop) : Prop := ∀ (v0 : Int32) (v1 : Int32) (s : sx_M), Rel s → ∃ p1 p2, f_X11_auctionJob v0 v1 s = some p1 ∧ f_X12_auctionJob v0 v1 p1.2 = some p2 ∧ p1.1 = p2.1 ∧ Rel p2.2
def st_ok_26 (Rel : sx_M → Prop) : Prop := ∀ (v0 : Int64) (s : sx_M), Rel s → ∃ p1 p2, f_X11_drawn v0 s = some p1 ∧ f_X12_drawn v0 p1.2 = some p2 ∧ p1.1 = p2.1 ∧ Rel p2.2
def st_ok_27 (Rel : sx_M → Prop) : Prop := ∀ (v0 : Int32) (v1 : Int32) (s : sx_M), Rel s → ∃ p1 p2, f_X11_least v0 v1 s = some p1 ∧ f_X12_least_ v0 v1 p1.2 = some p2 ∧ p1.1 = p2.1 ∧ Rel p2.2
def st_ok_28 (Rel : sx_M → Prop) : Prop := ∀ (v0 : Int32) (s : sx_M), Rel s → ∃ p1 p2, f_X11_loss v0 s = some p1 ∧ f_X12_loss v0 p1.2 = some p2 ∧ p1.1 = p2.1 ∧ Rel p2.2
def st_ok_29 (Rel : sx_M → Prop) : Prop := ∀ (v0 : Int32) (s : sx_M), Rel s → ∃ p1 p2, f_X11_dearest v0 s = some p1 ∧ f_X12_dearest v0 p1.2 = some p2 ∧ p1.1 = p2.1 ∧ Rel p2.2
def st_ok_30 (Rel : sx_M → Prop) : Prop := ∀ (v0 : Int32) (v1 : Int32) (s : sx_M), Rel s → ∃ p1 p2, f_X11_apart v0 v1 s = some p1 ∧ f_X12_apart v0 v1 p1.2 = some p2 ∧ p1.1 = p2.1 ∧ Rel p2.2
def st_ok_31 (Rel : sx_M → Prop) : Prop := ∀ (v0 : Int32) (v1 : Int32) (v2 : Int32) (s : sx_M), Rel s → ∃ p1 p2, f_X11_rounds v0 v1 v2 s = some p1 ∧ f_X12_rounds v0 v1 v2 p1.2 = some p2 ∧ p1.1 = p2.1 ∧ Rel p2.2
def st_ok_32 (Rel : sx_M → Prop) : Prop := ∀ (v0 : Int32) (v1 : Int32) (v2 : Int32) (s : sx_M), Rel s → ∃ p1 p2, f_X11_often v0 v1 v2 s = some p1 ∧ f_X12_often v0 v1 v2 p1.2 = some p2 ∧ p1.1 = p2.1 ∧ Rel p2.2
def st_ok_33 (Rel : sx_M → Prop) : Prop := ∀ (v0 : Int32) (s : sx_M), Rel s → ∃ p1 p2, f_X11_only v0 s = some p1 ∧ f_X12_only v0 p1.2 = some p2 ∧ p1.1 = p2.1 ∧ Rel p2.2
def st_ok_34 (Rel : sx_M → Prop) : Prop := ∀ (s : sx_M), Rel s → ∃ p1 p2, f_X11_blocked s = some p1 ∧ f_X12_blocked p1.2 = some p2 ∧ p1.1 = p2.1 ∧ Rel p2.2
def st_ok_35 (Rel : sx_M → Prop) : Prop := ∀ (v0 : Int32) (v1 : Int32) (s : sx_M), Rel s → ∃ p1 p2, f_X11_move v0 v1 s = some p1 ∧ f_X12_move v0 v1 p1.2 = some p2 ∧ p1.1 = p2.1 ∧ Rel p2.2
def st_ok_36 (Rel : sx_M → Prop) : Prop := ∀ (s : sx_M), Rel s → ∃ p1 p2, f_X11_middle s = some p1 ∧ f_X12_middle p1.2 = some p2 ∧ p1.1 = p2.1 ∧ Rel p2.2
def st_ok_37 (Rel : sx_M → Prop) : Prop := ∀ (v0 : Int32) (v1 : Int32) (s : sx_M), Rel s → ∃ p1 p2, f_X11_reduced v0 v1 s = some p1 ∧ f_X12_reduced v0 v1 p1.2 = some p2 ∧ p1.1 = p2.1 ∧ Rel p2.2
def st_ok_38 (Rel : sx_M → Prop) : Prop := ∀ (s : sx_M), Rel s → ∃ p1 p2, f_X11_noughts s = some p1 ∧ f_X12_noughts p1.2 = some p2 ∧ p1.1 = p2.1 ∧ Rel p2.2
def st_ok_39 (Rel : sx_M → Prop) : Prop := ∀ (v0 : Int32) (v1 : Int32) (v2 : Int32) (s : sx_M), Rel s → ∃ p1 p2, f_X11_sets v0 v1 v2 s = some p1 ∧ f_X12_sets v0 v1 v2 p1.2 = some p2 ∧ p1.1 = p2.1 ∧ Rel p2.2
def st_ok_40 (Rel : sx_M → Prop) : Prop := ∀ (v0 : Int32) (v1 : Int32) (s : sx_M), Rel s → ∃ p1 p2, f_X11_bars v0 v1 s = some p1 ∧ f_X12_bars v0 v1 p1.2 = some p2 ∧ p1.1 = p2.1 ∧ Rel p2.2
def st_ok_41 (Rel : sx_M → Prop) : Prop := ∀ (v0 : Int32) (v1 : Int32) (v2 : Int32) (s : sx_M), Rel s → ∃ p1 p2, f_X11_tilts v0 v1 v2 s = some p1 ∧ f_X12_tilts v0 v1 v2 p1.2 = some p2 ∧ p1.1 = p2.1 ∧ Rel p2.2
def st_ok_42 (Rel : sx_M → Prop) : Prop := ∀ (v0 : Int32) (v1 : Int32) (s : sx_M), Rel s → ∃ p1 p2, f_X11_comes v0 v1 s = some p1 ∧ f_X12_comes v0 v1 p1.2 = some p2 ∧ p1.1 = p2.1 ∧ Rel p2.2
def st_ok_43 (Rel : sx_M → Prop) : Prop := ∀ (v0 : Int32) (v1 : Int32) (s : sx_M), Rel s → ∃ p1 p2, f_X11_goes v0 v1 s = some p1 ∧ f_X12_goes v0 v1 p1.2 = some p2 ∧ p1.1 = p2.1 ∧ Rel p2.2
def st_ok_44 (Rel : sx_M → Prop) : Prop := ∀ (v0 : Int32) (v1 : Int32) (s : sx_M), Rel s → ∃ p1 p2, f_X11_turn v0 v1 s = some p1 ∧ f_X12_turn v0 v1 p1.2 = some p2 ∧ p1.1 = p2.1 ∧ Rel p2.2
def st_ok_45 (Rel : sx_M → Prop) : Prop := ∀ (s : sx_M), Rel s → ∃ p1 p2, f_X11_undo s = some p1 ∧ f_X12_undo p1.2 = some p2 ∧ p1.1 = p2.1 ∧ Rel p2.2
set_option maxRecDepth 100000 in
set_option maxHeartbeats 200000 in
/-- feed -/
theorem lq_0 {l : Launch} {X : ax_X} {nm : String} {Rel : sx_M → Prop} (hst : st_ok_0 Rel) (hX : X.2.2.2.2.1 ≤ 3072) (t : Nat) (ht : 6 * t + 6 ≤ X.2.2.2.2.1) (s : sx_M) (gb : ax_H) (hs : Rel s) (K : ∀ (s : sx_M) (gb : ax_H), Rel s → LW l X nm (100 + t + 1) (90000 + 5 * t + 5) 1669 [some (.float 0), some (.ref 0), some (.ref 58), some (.int (nI (6 * t)))] [] (hp s gb)) : LW l X nm (100 + t) (90000 + 5 * t) 232 [some (.float 0), some (.ref 0), some (.ref 58), some (.int (nI (6 * t)))] [] (hp s gb) := by
  obtain ⟨p1, p2, hf1, hf2, he, hrel⟩ := hst (X.2.2.2.2.2 (6 * t + 1)) (X.2.2.2.2.2 (6 * t + 2)) (X.2.2.2.2.2 (6 * t + 3)) (X.2.2.2.2.2 (6 * t + 4)) (X.2.2.2.2.2 (6 * t + 5)) s hs
  refine aw_aload_n dL_law_232 rfl rfl ?_
  refine aw_aload_nX dL_law_233 rfl rfl ?_
  refine aw_iload_n dL_law_234 rfl rfl ?_
  refine aw_iconst (v := 1) dL_law_235 (by decide) ?_
  refine aw_iadd dL_law_236 ?_
  refine aw_sc (6 * t + 1) (nI_add (6 * t) 1) (by omega) (by omega) dL_law_237 ?_
  refine aw_aload_nX dL_law_238 rfl rfl ?_
  refine aw_iload_n dL_law_239 rfl rfl ?_
  refine aw_iconst (v := 2) dL_law_240 (by decide) ?_
  refine aw_iadd dL_law_241 ?_
  refine aw_sc (6 * t + 2) (nI_add (6 * t) 2) (by omega) (by omega) dL_law_242 ?_
  refine aw_aload_nX dL_law_243 rfl rfl ?_
  refine aw_iload_n dL_law_244 rfl rfl ?_
  refine aw_iconst (v := 3) dL_law_245 (by decide) ?_
  refine aw_iadd dL_law_246 ?_
  refine aw_sc (6 * t + 3) (nI_add (6 * t) 3) (by omega) (by omega) dL_law_247 ?_
  refine aw_aload_nX dL_law_248 rfl rfl ?_
  refine aw_iload_n dL_law_249 rfl rfl ?_
  refine aw_iconst (v := 4) dL_law_250 (by decide) ?_
  refine aw_iadd dL_law_251 ?_
  refine aw_sc (6 * t + 4) (nI_add (6 * t) 4) (by omega) (by omega) dL_law_252 ?_
  refine aw_aload_nX dL_law_253 rfl rfl ?_
  refine aw_iload_n dL_law_254 rfl rfl ?_
  refine aw_iconst (v := 5) dL_law_255 (by decide) ?_
  refine aw_iadd dL_law_256 ?_
  refine aw_sc (6 * t + 5) (nI_add (6 * t) 5) (by omega) (by omega) dL_law_257 ?_
  refine aw_gVi (b := 0) (As := [.int (X.2.2.2.2.2 (6 * t + 1)), .int (X.2.2.2.2.2 (6 * t + 2)), .int (X.2.2.2.2.2 (6 * t + 3)), .int (X.2.2.2.2.2 (6 * t + 4)), .int (X.2.2.2.2.2 (6 * t + 5))]) (st := []) dL_law_258 cl_L_13 iv_X11_feed (k_X11_feed (Q := (fun v h' => v = some (.int p1.1) ∧ h' = hp p1.2 gb)) (X.2.2.2.2.2 (6 * t + 1)) (X.2.2.2.2.2 (6 * t + 2)) (X.2.2.2.2.2 (6 * t + 3)) (X.2.2.2.2.2 (6 * t + 4)) (X.2.2.2.2.2 (6 * t + 5)) s gb hf1 ⟨rfl, rfl⟩) (ci := 11) rfl (hp_get sh_0) rfl rfl rfl (Nat.le_of_ble_eq_true rfl) ⟨Nat.le_of_ble_eq_true rfl, Nat.le_of_ble_eq_true rfl⟩ (show _ ≤ 600000 by omega) (show _ ≤ 7302250 by omega) ?_
  refine aw_aload_n dL_law_261 rfl rfl ?_
  refine aw_aload_nX dL_law_262 rfl rfl ?_
  refine aw_iload_n dL_law_263 rfl rfl ?_
  refine aw_iconst (v := 1) dL_law_264 (by decide) ?_
  refine aw_iadd dL_law_265 ?_
  refine aw_sc (6 * t + 1) (nI_add (6 * t) 1) (by omega) (by omega) dL_law_266 ?_
  refine aw_aload_nX dL_law_267 rfl rfl ?_
  refine aw_iload_n dL_law_268 rfl rfl ?_
  refine aw_iconst (v := 2) dL_law_269 (by decide) ?_
  refine aw_iadd dL_law_270 ?_
  refine aw_sc (6 * t + 2) (nI_add (6 * t) 2) (by omega) (by omega) dL_law_271 ?_
  refine aw_aload_nX dL_law_272 rfl rfl ?_
  refine aw_iload_n dL_law_273 rfl rfl ?_
  refine aw_iconst (v := 3) dL_law_274 (by decide) ?_
  refine aw_iadd dL_law_275 ?_
  refine aw_sc (6 * t + 3) (nI_add (6 * t) 3) (by omega) (by omega) dL_law_276 ?_
  refine aw_aload_nX dL_law_277 rfl rfl ?_
  refine aw_iload_n dL_law_278 rfl rfl ?_
  refine aw_iconst (v := 4) dL_law_279 (by decide) ?_
  refine aw_iadd dL_law_280 ?_
  refine aw_sc (6 * t + 4) (nI_add (6 * t) 4) (by omega) (by omega) dL_law_281 ?_
  refine aw_aload_nX dL_law_282 rfl rfl ?_
  refine aw_iload_n dL_law_283 rfl rfl ?_
  refine aw_iconst (v := 5) dL_law_284 (by decide) ?_
  refine aw_iadd dL_law_285 ?_
  refine aw_sc (6 * t + 5) (nI_add (6 * t) 5) (by omega) (by omega) dL_law_286 ?_
  refine aw_gVf (h1 := hp p2.2) (b := 58) (As := [.int (X.2.2.2.2.2 (6 * t + 1)), .int (X.2.2.2.2.2 (6 * t + 2)), .int (X.2.2.2.2.2 (6 * t + 3)), .int (X.2.2.2.2.2 (6 * t + 4)), .int (X.2.2.2.2.2 (6 * t + 5))]) (st := [.int p1.1]) dL_law_287 cl_L_17 iv_X12_feed (k_X12_feed (Q := (fun v h' => v = some (.int p2.1) ∧ ∃ gb', h' = hp p2.2 gb')) (X.2.2.2.2.2 (6 * t + 1)) (X.2.2.2.2.2 (6 * t + 2)) (X.2.2.2.2.2 (6 * t + 3)) (X.2.2.2.2.2 (6 * t + 4)) (X.2.2.2.2.2 (6 * t + 5)) p1.2 gb hf2 (fun gb' => ⟨rfl, gb', rfl⟩)) (ci := 12) rfl (hp_get sh_58) rfl rfl rfl (Nat.le_of_ble_eq_true rfl) ⟨Nat.le_of_ble_eq_true rfl, Nat.le_of_ble_eq_true rfl⟩ (show _ ≤ 600000 by omega) (show _ ≤ 7302250 by omega) ?_
  intro gb'
  refine aw_icmp_eq (tgt := 1669) dL_law_290 (by decide) (fun _ => ?_) (fun hc => absurd he hc)
  refine aw_widen (k := 100 + t + 1) (n := 90000 + 5 * t + 5) (by omega) (by omega) ?_
  exact K p2.2 gb' hrel
set_option maxRecDepth 100000 in
set_option maxHeartbeats 200000 in
/-- end -/
theorem lq_1 {l : Launch} {X : ax_X} {nm : String} {Rel : sx_M → Prop} (hst : st_ok_1 Rel) (hX : X.2.2.2.2.1 ≤ 3072) (t : Nat) (ht : 6 * t + 6 ≤ X.2.2.2.2.1) (s : sx_M) (gb : ax_H) (hs : Rel s) (K : ∀ (s : sx_M) (gb : ax_H), Rel s → LW l X nm (100 + t + 1) (90000 + 5 * t + 5) 1669 [some (.float 0), some (.ref 0), some (.ref 58), some (.int (nI (6 * t)))] [] (hp s gb)) : LW l X nm (100 + t) (90000 + 5 * t) 295 [some (.float 0), some (.ref 0), some (.ref 58), some (.int (nI (6 * t)))] [] (hp s gb) := by
  obtain ⟨p1, p2, hf1, hf2, he, hrel⟩ := hst (X.2.2.2.2.2 (6 * t + 1)) s hs
  refine aw_aload_n dL_law_295 rfl rfl ?_
  refine aw_aload_nX dL_law_296 rfl rfl ?_
  refine aw_iload_n dL_law_297 rfl rfl ?_
  refine aw_iconst (v := 1) dL_law_298 (by decide) ?_
  refine aw_iadd dL_law_299 ?_
  refine aw_sc (6 * t + 1) (nI_add (6 * t) 1) (by omega) (by omega) dL_law_300 ?_
  refine aw_gVi (b := 0) (As := [.int (X.2.2.2.2.2 (6 * t + 1))]) (st := []) dL_law_301 cl_L_18 iv_X11_end (k_X11_end (Q := (fun v h' => v = some (.int p1.1) ∧ h' = hp p1.2 gb)) (X.2.2.2.2.2 (6 * t + 1)) s gb hf1 ⟨rfl, rfl⟩) (ci := 11) rfl (hp_get sh_0) rfl rfl rfl (Nat.le_of_ble_eq_true rfl) ⟨Nat.le_of_ble_eq_true rfl, Nat.le_of_ble_eq_true rfl⟩ (show _ ≤ 600000 by omega) (show _ ≤ 7302250 by omega) ?_
  refine aw_aload_n dL_law_304 rfl rfl ?_
  refine aw_aload_nX dL_law_305 rfl rfl ?_
  refine aw_iload_n dL_law_306 rfl rfl ?_
  refine aw_iconst (v := 1) dL_law_307 (by decide) ?_
  refine aw_iadd dL_law_308 ?_
  refine aw_sc (6 * t + 1) (nI_add (6 * t) 1) (by omega) (by omega) dL_law_309 ?_
  refine aw_gVi (b := 58) (As := [.int (X.2.2.2.2.2 (6 * t + 1))]) (st := [.int p1.1]) dL_law_310 cl_L_22 iv_X12_end (k_X12_end (Q := (fun v h' => v = some (.int p2.1) ∧ h' = hp p2.2 gb)) (X.2.2.2.2.2 (6 * t + 1)) p1.2 gb hf2 ⟨rfl, rfl⟩) (ci := 12) rfl (hp_get sh_58) rfl rfl rfl (Nat.le_of_ble_eq_true rfl) ⟨Nat.le_of_ble_eq_true rfl, Nat.le_of_ble_eq_true rfl⟩ (show _ ≤ 600000 by omega) (show _ ≤ 7302250 by omega) ?_
  refine aw_icmp_eq (tgt := 1669) dL_law_313 (by decide) (fun _ => ?_) (fun hc => absurd he hc)
  refine aw_widen (k := 100 + t + 1) (n := 90000 + 5 * t + 5) (by omega) (by omega) ?_
  exact K p2.2 gb hrel
set_option maxRecDepth 100000 in
set_option maxHeartbeats 200000 in
/-- table -/
theorem lq_2 {l : Launch} {X : ax_X} {nm : String} {Rel : sx_M → Prop} (hst : st_ok_2 Rel) (hX : X.2.2.2.2.1 ≤ 3072) (t : Nat) (ht : 6 * t + 6 ≤ X.2.2.2.2.1) (s : sx_M) (gb : ax_H) (hs : Rel s) (K : ∀ (s : sx_M) (gb : ax_H), Rel s → LW l X nm (100 + t + 1) (90000 + 5 * t + 5) 1669 [some (.float 0), some (.ref 0), some (.ref 58), some (.int (nI (6 * t)))] [] (hp s gb)) : LW l X nm (100 + t) (90000 + 5 * t) 318 [some (.float 0), some (.ref 0), some (.ref 58), some (.int (nI (6 * t)))] [] (hp s gb) := by
  obtain ⟨p1, p2, hf1, hf2, he, hrel⟩ := hst s hs
  refine aw_aload_n dL_law_318 rfl rfl ?_
  refine aw_gVi (b := 0) (As := []) (st := []) dL_law_319 cl_L_23 iv_X11_table (k_X11_table (Q := (fun v h' => v = some (.int p1.1) ∧ h' = hp p1.2 gb)) s gb hf1 ⟨rfl, rfl⟩) (ci := 11) rfl (hp_get sh_0) rfl rfl rfl (Nat.le_of_ble_eq_true rfl) ⟨Nat.le_of_ble_eq_true rfl, Nat.le_of_ble_eq_true rfl⟩ (show _ ≤ 600000 by omega) (show _ ≤ 7302250 by omega) ?_
  refine aw_aload_n dL_law_322 rfl rfl ?_
  refine aw_gVi (b := 58) (As := []) (st := [.int p1.1]) dL_law_323 cl_L_27 iv_X12_table (k_X12_table (Q := (fun v h' => v = some (.int p2.1) ∧ h' = hp p2.2 gb)) p1.2 gb hf2 ⟨rfl, rfl⟩) (ci := 12) rfl (hp_get sh_58) rfl rfl rfl (Nat.le_of_ble_eq_true rfl) ⟨Nat.le_of_ble_eq_true rfl, Nat.le_of_ble_eq_true rfl⟩ (show _ ≤ 600000 by omega) (show _ ≤ 7302250 by omega) ?_
  refine aw_icmp_eq (tgt := 1669) dL_law_326 (by decide) (fun _ => ?_) (fun hc => absurd he hc)
  refine aw_widen (k := 100 + t + 1) (n := 90000 + 5 * t + 5) (by omega) (by omega) ?_
  exact K p2.2 gb hrel
set_option maxRecDepth 100000 in
set_option maxHeartbeats 200000 in
/-- fault -/
theorem lq_3 {l : Launch} {X : ax_X} {nm : String} {Rel : sx_M → Prop} (hst : st_ok_3 Rel) (hX : X.2.2.2.2.1 ≤ 3072) (t : Nat) (ht : 6 * t + 6 ≤ X.2.2.2.2.1) (s : sx_M) (gb : ax_H) (hs : Rel s) (K : ∀ (s : sx_M) (gb : ax_H), Rel s → LW l X nm (100 + t + 1) (90000 + 5 * t + 5) 1669 [some (.float 0), some (.ref 0), some (.ref 58), some (.int (nI (6 * t)))] [] (hp s gb)) : LW l X nm (100 + t) (90000 + 5 * t) 331 [some (.float 0), some (.ref 0), some (.ref 58), some (.int (nI (6 * t)))] [] (hp s gb) := by
  obtain ⟨p1, p2, hf1, hf2, he, hrel⟩ := hst (X.2.2.2.2.2 (6 * t + 1)) s hs
  refine aw_aload_n dL_law_331 rfl rfl ?_
  refine aw_aload_nX dL_law_332 rfl rfl ?_
  refine aw_iload_n dL_law_333 rfl rfl ?_
  refine aw_iconst (v := 1) dL_law_334 (by decide) ?_
  refine aw_iadd dL_law_335 ?_
  refine aw_sc (6 * t + 1) (nI_add (6 * t) 1) (by omega) (by omega) dL_law_336 ?_
  refine aw_gVi (b := 0) (As := [.int (X.2.2.2.2.2 (6 * t + 1))]) (st := []) dL_law_337 cl_L_28 iv_X11_fault (k_X11_fault (Q := (fun v h' => v = some (.int p1.1) ∧ h' = hp p1.2 gb)) (X.2.2.2.2.2 (6 * t + 1)) s gb hf1 ⟨rfl, rfl⟩) (ci := 11) rfl (hp_get sh_0) rfl rfl rfl (Nat.le_of_ble_eq_true rfl) ⟨Nat.le_of_ble_eq_true rfl, Nat.le_of_ble_eq_true rfl⟩ (show _ ≤ 600000 by omega) (show _ ≤ 7302250 by omega) ?_
  refine aw_aload_n dL_law_340 rfl rfl ?_
  refine aw_aload_nX dL_law_341 rfl rfl ?_
  refine aw_iload_n dL_law_342 rfl rfl ?_
  refine aw_iconst (v := 1) dL_law_343 (by decide) ?_
  refine aw_iadd dL_law_344 ?_
  refine aw_sc (6 * t + 1) (nI_add (6 * t) 1) (by omega) (by omega) dL_law_345 ?_
  refine aw_gVi (b := 58) (As := [.int (X.2.2.2.2.2 (6 * t + 1))]) (st := [.int p1.1]) dL_law_346 cl_L_31 iv_X12_fault (k_X12_fault (Q := (fun v h' => v = some (.int p2.1) ∧ h' = hp p2.2 gb)) (X.2.2.2.2.2 (6 * t + 1)) p1.2 gb hf2 ⟨rfl, rfl⟩) (ci := 12) rfl (hp_get sh_58) rfl rfl rfl (Nat.le_of_ble_eq_true rfl) ⟨Nat.le_of_ble_eq_true rfl, Nat.le_of_ble_eq_true rfl⟩ (show _ ≤ 600000 by omega) (show _ ≤ 7302250 by omega) ?_
  refine aw_icmp_eq (tgt := 1669) dL_law_349 (by decide) (fun _ => ?_) (fun hc => absurd he hc)
  refine aw_widen (k := 100 + t + 1) (n := 90000 + 5 * t + 5) (by omega) (by omega) ?_
  exact K p2.2 gb hrel
set_option maxRecDepth 100000 in
set_option maxHeartbeats 200000 in
/-- count -/
theorem lq_4 {l : Launch} {X : ax_X} {nm : String} {Rel : sx_M → Prop} (hst : st_ok_4 Rel) (hX : X.2.2.2.2.1 ≤ 3072) (t : Nat) (ht : 6 * t + 6 ≤ X.2.2.2.2.1) (s : sx_M) (gb : ax_H) (hs : Rel s) (K : ∀ (s : sx_M) (gb : ax_H), Rel s → LW l X nm (100 + t + 1) (90000 + 5 * t + 5) 1669 [some (.float 0), some (.ref 0), some (.ref 58), some (.int (nI (6 * t)))] [] (hp s gb)) : LW l X nm (100 + t) (90000 + 5 * t) 354 [some (.float 0), some (.ref 0), some (.ref 58), some (.int (nI (6 * t)))] [] (hp s gb) := by
  obtain ⟨p1, p2, hf1, hf2, he, hrel⟩ := hst (X.2.2.2.2.2 (6 * t + 1)) s hs
  refine aw_aload_n dL_law_354 rfl rfl ?_
  refine aw_aload_nX dL_law_355 rfl rfl ?_
  refine aw_iload_n dL_law_356 rfl rfl ?_
  refine aw_iconst (v := 1) dL_law_357 (by decide) ?_
  refine aw_iadd dL_law_358 ?_
  refine aw_sc (6 * t + 1) (nI_add (6 * t) 1) (by omega) (by omega) dL_law_359 ?_
  refine aw_gVi (b := 0) (As := [.int (X.2.2.2.2.2 (6 * t + 1))]) (st := []) dL_law_360 cl_L_32 iv_X11_count (k_X11_count (Q := (fun v h' => v = some (.int p1.1) ∧ h' = hp p1.2 gb)) (X.2.2.2.2.2 (6 * t + 1)) s gb hf1 ⟨rfl, rfl⟩) (ci := 11) rfl (hp_get sh_0) rfl rfl rfl (Nat.le_of_ble_eq_true rfl) ⟨Nat.le_of_ble_eq_true rfl, Nat.le_of_ble_eq_true rfl⟩ (show _ ≤ 600000 by omega) (show _ ≤ 7302250 by omega) ?_
  refine aw_aload_n dL_law_363 rfl rfl ?_
  refine aw_aload_nX dL_law_364 rfl rfl ?_
  refine aw_iload_n dL_law_365 rfl rfl ?_
  refine aw_iconst (v := 1) dL_law_366 (by decide) ?_
  refine aw_iadd dL_law_367 ?_
  refine aw_sc (6 * t + 1) (nI_add (6 * t) 1) (by omega) (by omega) dL_law_368 ?_
  refine aw_gVi (b := 58) (As := [.int (X.2.2.2.2.2 (6 * t + 1))]) (st := [.int p1.1]) dL_law_369 cl_L_35 iv_X12_count (k_X12_count (Q := (fun v h' => v = some (.int p2.1) ∧ h' = hp p2.2 gb)) (X.2.2.2.2.2 (6 * t + 1)) p1.2 gb hf2 ⟨rfl, rfl⟩) (ci := 12) rfl (hp_get sh_58) rfl rfl rfl (Nat.le_of_ble_eq_true rfl) ⟨Nat.le_of_ble_eq_true rfl, Nat.le_of_ble_eq_true rfl⟩ (show _ ≤ 600000 by omega) (show _ ≤ 7302250 by omega) ?_
  refine aw_icmp_eq (tgt := 1669) dL_law_372 (by decide) (fun _ => ?_) (fun hc => absurd he hc)
  refine aw_widen (k := 100 + t + 1) (n := 90000 + 5 * t + 5) (by omega) (by omega) ?_
  exact K p2.2 gb hrel
set_option maxRecDepth 100000 in
set_option maxHeartbeats 200000 in
/-- cost -/
theorem lq_5 {l : Launch} {X : ax_X} {nm : String} {Rel : sx_M → Prop} (hst : st_ok_5 Rel) (hX : X.2.2.2.2.1 ≤ 3072) (t : Nat) (ht : 6 * t + 6 ≤ X.2.2.2.2.1) (s : sx_M) (gb : ax_H) (hs : Rel s) (K : ∀ (s : sx_M) (gb : ax_H), Rel s → LW l X nm (100 + t + 1) (90000 + 5 * t + 5) 1669 [some (.float 0), some (.ref 0), some (.ref 58), some (.int (nI (6 * t)))] [] (hp s gb)) : LW l X nm (100 + t) (90000 + 5 * t) 377 [some (.float 0), some (.ref 0), some (.ref 58), some (.int (nI (6 * t)))] [] (hp s gb) := by
  obtain ⟨p1, p2, hf1, hf2, he, hrel⟩ := hst (X.2.2.2.2.2 (6 * t + 1)) (X.2.2.2.2.2 (6 * t + 2)) s hs
  refine aw_aload_n dL_law_377 rfl rfl ?_
  refine aw_aload_nX dL_law_378 rfl rfl ?_
  refine aw_iload_n dL_law_379 rfl rfl ?_
  refine aw_iconst (v := 1) dL_law_380 (by decide) ?_
  refine aw_iadd dL_law_381 ?_
  refine aw_sc (6 * t + 1) (nI_add (6 * t) 1) (by omega) (by omega) dL_law_382 ?_
  refine aw_aload_nX dL_law_383 rfl rfl ?_
  refine aw_iload_n dL_law_384 rfl rfl ?_
  refine aw_iconst (v := 2) dL_law_385 (by decide) ?_
  refine aw_iadd dL_law_386 ?_
  refine aw_sc (6 * t + 2) (nI_add (6 * t) 2) (by omega) (by omega) dL_law_387 ?_
  refine aw_gVl (b := 0) (As := [.int (X.2.2.2.2.2 (6 * t + 1)), .int (X.2.2.2.2.2 (6 * t + 2))]) (st := []) dL_law_388 cl_L_36 iv_X11_cost (k_X11_cost (Q := (fun v h' => v = some (.long p1.1) ∧ h' = hp p1.2 gb)) (X.2.2.2.2.2 (6 * t + 1)) (X.2.2.2.2.2 (6 * t + 2)) s gb hf1 ⟨rfl, rfl⟩) (ci := 11) rfl (hp_get sh_0) rfl rfl rfl (Nat.le_of_ble_eq_true rfl) ⟨Nat.le_of_ble_eq_true rfl, Nat.le_of_ble_eq_true rfl⟩ (show _ ≤ 600000 by omega) (show _ ≤ 7302250 by omega) ?_
  refine aw_aload_n dL_law_391 rfl rfl ?_
  refine aw_aload_nX dL_law_392 rfl rfl ?_
  refine aw_iload_n dL_law_393 rfl rfl ?_
  refine aw_iconst (v := 1) dL_law_394 (by decide) ?_
  refine aw_iadd dL_law_395 ?_
  refine aw_sc (6 * t + 1) (nI_add (6 * t) 1) (by omega) (by omega) dL_law_396 ?_
  refine aw_aload_nX dL_law_397 rfl rfl ?_
  refine aw_iload_n dL_law_398 rfl rfl ?_
  refine aw_iconst (v := 2) dL_law_399 (by decide) ?_
  refine aw_iadd dL_law_400 ?_
  refine aw_sc (6 * t + 2) (nI_add (6 * t) 2) (by omega) (by omega) dL_law_401 ?_
  refine aw_gVl (b := 58) (As := [.int (X.2.2.2.2.2 (6 * t + 1)), .int (X.2.2.2.2.2 (6 * t + 2))]) (st := [.long p1.1]) dL_law_402 cl_L_40 iv_X12_cost (k_X12_cost (Q := (fun v h' => v = some (.long p2.1) ∧ h' = hp p2.2 gb)) (X.2.2.2.2.2 (6 * t + 1)) (X.2.2.2.2.2 (6 * t + 2)) p1.2 gb hf2 ⟨rfl, rfl⟩) (ci := 12) rfl (hp_get sh_58) rfl rfl rfl (Nat.le_of_ble_eq_true rfl) ⟨Nat.le_of_ble_eq_true rfl, Nat.le_of_ble_eq_true rfl⟩ (show _ ≤ 600000 by omega) (show _ ≤ 7302250 by omega) ?_
  refine aw_lcmp_eq (tgt := 1669) dL_law_405 dL_law_406 (by decide) (fun _ => ?_) (fun hc => absurd he hc)
  refine aw_widen (k := 100 + t + 1) (n := 90000 + 5 * t + 5) (by omega) (by omega) ?_
  exact K p2.2 gb hrel
set_option maxRecDepth 100000 in
set_option maxHeartbeats 200000 in
/-- sum -/
theorem lq_6 {l : Launch} {X : ax_X} {nm : String} {Rel : sx_M → Prop} (hst : st_ok_6 Rel) (hX : X.2.2.2.2.1 ≤ 3072) (t : Nat) (ht : 6 * t + 6 ≤ X.2.2.2.2.1) (s : sx_M) (gb : ax_H) (hs : Rel s) (K : ∀ (s : sx_M) (gb : ax_H), Rel s → LW l X nm (100 + t + 1) (90000 + 5 * t + 5) 1669 [some (.float 0), some (.ref 0), some (.ref 58), some (.int (nI (6 * t)))] [] (hp s gb)) : LW l X nm (100 + t) (90000 + 5 * t) 411 [some (.float 0), some (.ref 0), some (.ref 58), some (.int (nI (6 * t)))] [] (hp s gb) := by
  obtain ⟨p1, p2, hf1, hf2, he, hrel⟩ := hst (X.2.2.2.2.2 (6 * t + 1)) s hs
  refine aw_aload_n dL_law_411 rfl rfl ?_
  refine aw_aload_nX dL_law_412 rfl rfl ?_
  refine aw_iload_n dL_law_413 rfl rfl ?_
  refine aw_iconst (v := 1) dL_law_414 (by decide) ?_
  refine aw_iadd dL_law_415 ?_
  refine aw_sc (6 * t + 1) (nI_add (6 * t) 1) (by omega) (by omega) dL_law_416 ?_
  refine aw_gVl (b := 0) (As := [.int (X.2.2.2.2.2 (6 * t + 1))]) (st := []) dL_law_417 cl_L_41 iv_X11_sum (k_X11_sum (Q := (fun v h' => v = some (.long p1.1) ∧ h' = hp p1.2 gb)) (X.2.2.2.2.2 (6 * t + 1)) s gb hf1 ⟨rfl, rfl⟩) (ci := 11) rfl (hp_get sh_0) rfl rfl rfl (Nat.le_of_ble_eq_true rfl) ⟨Nat.le_of_ble_eq_true rfl, Nat.le_of_ble_eq_true rfl⟩ (show _ ≤ 600000 by omega) (show _ ≤ 7302250 by omega) ?_
  refine aw_aload_n dL_law_420 rfl rfl ?_
  refine aw_aload_nX dL_law_421 rfl rfl ?_
  refine aw_iload_n dL_law_422 rfl rfl ?_
  refine aw_iconst (v := 1) dL_law_423 (by decide) ?_
  refine aw_iadd dL_law_424 ?_
  refine aw_sc (6 * t + 1) (nI_add (6 * t) 1) (by omega) (by omega) dL_law_425 ?_
  refine aw_gVl (b := 58) (As := [.int (X.2.2.2.2.2 (6 * t + 1))]) (st := [.long p1.1]) dL_law_426 cl_L_45 iv_X12_sum (k_X12_sum (Q := (fun v h' => v = some (.long p2.1) ∧ h' = hp p2.2 gb)) (X.2.2.2.2.2 (6 * t + 1)) p1.2 gb hf2 ⟨rfl, rfl⟩) (ci := 12) rfl (hp_get sh_58) rfl rfl rfl (Nat.le_of_ble_eq_true rfl) ⟨Nat.le_of_ble_eq_true rfl, Nat.le_of_ble_eq_true rfl⟩ (show _ ≤ 600000 by omega) (show _ ≤ 7302250 by omega) ?_
  refine aw_lcmp_eq (tgt := 1669) dL_law_429 dL_law_430 (by decide) (fun _ => ?_) (fun hc => absurd he hc)
  refine aw_widen (k := 100 + t + 1) (n := 90000 + 5 * t + 5) (by omega) (by omega) ?_
  exact K p2.2 gb hrel
set_option maxRecDepth 100000 in
set_option maxHeartbeats 200000 in
/-- job -/
theorem lq_7 {l : Launch} {X : ax_X} {nm : String} {Rel : sx_M → Prop} (hst : st_ok_7 Rel) (hX : X.2.2.2.2.1 ≤ 3072) (t : Nat) (ht : 6 * t + 6 ≤ X.2.2.2.2.1) (s : sx_M) (gb : ax_H) (hs : Rel s) (K : ∀ (s : sx_M) (gb : ax_H), Rel s → LW l X nm (100 + t + 1) (90000 + 5 * t + 5) 1669 [some (.float 0), some (.ref 0), some (.ref 58), some (.int (nI (6 * t)))] [] (hp s gb)) : LW l X nm (100 + t) (90000 + 5 * t) 435 [some (.float 0), some (.ref 0), some (.ref 58), some (.int (nI (6 * t)))] [] (hp s gb) := by
  obtain ⟨p1, p2, hf1, hf2, he, hrel⟩ := hst (X.2.2.2.2.2 (6 * t + 1)) (X.2.2.2.2.2 (6 * t + 2)) s hs
  refine aw_aload_n dL_law_435 rfl rfl ?_
  refine aw_aload_nX dL_law_436 rfl rfl ?_
  refine aw_iload_n dL_law_437 rfl rfl ?_
  refine aw_iconst (v := 1) dL_law_438 (by decide) ?_
  refine aw_iadd dL_law_439 ?_
  refine aw_sc (6 * t + 1) (nI_add (6 * t) 1) (by omega) (by omega) dL_law_440 ?_
  refine aw_aload_nX dL_law_441 rfl rfl ?_
  refine aw_iload_n dL_law_442 rfl rfl ?_
  refine aw_iconst (v := 2) dL_law_443 (by decide) ?_
  refine aw_iadd dL_law_444 ?_
  refine aw_sc (6 * t + 2) (nI_add (6 * t) 2) (by omega) (by omega) dL_law_445 ?_
  refine aw_gVi (b := 0) (As := [.int (X.2.2.2.2.2 (6 * t + 1)), .int (X.2.2.2.2.2 (6 * t + 2))]) (st := []) dL_law_446 cl_L_46 iv_X11_job (k_X11_job (Q := (fun v h' => v = some (.int p1.1) ∧ h' = hp p1.2 gb)) (X.2.2.2.2.2 (6 * t + 1)) (X.2.2.2.2.2 (6 * t + 2)) s gb hf1 ⟨rfl, rfl⟩) (ci := 11) rfl (hp_get sh_0) rfl rfl rfl (Nat.le_of_ble_eq_true rfl) ⟨Nat.le_of_ble_eq_true rfl, Nat.le_of_ble_eq_true rfl⟩ (show _ ≤ 600000 by omega) (show _ ≤ 7302250 by omega) ?_
  refine aw_aload_n dL_law_449 rfl rfl ?_
  refine aw_aload_nX dL_law_450 rfl rfl ?_
  refine aw_iload_n dL_law_451 rfl rfl ?_
  refine aw_iconst (v := 1) dL_law_452 (by decide) ?_
  refine aw_iadd dL_law_453 ?_
  refine aw_sc (6 * t + 1) (nI_add (6 * t) 1) (by omega) (by omega) dL_law_454 ?_
  refine aw_aload_nX dL_law_455 rfl rfl ?_
  refine aw_iload_n dL_law_456 rfl rfl ?_
  refine aw_iconst (v := 2) dL_law_457 (by decide) ?_
  refine aw_iadd dL_law_458 ?_
  refine aw_sc (6 * t + 2) (nI_add (6 * t) 2) (by omega) (by omega) dL_law_459 ?_
  refine aw_gVi (b := 58) (As := [.int (X.2.2.2.2.2 (6 * t + 1)), .int (X.2.2.2.2.2 (6 * t + 2))]) (st := [.int p1.1]) dL_law_460 cl_L_50 iv_X12_job (k_X12_job (Q := (fun v h' => v = some (.int p2.1) ∧ h' = hp p2.2 gb)) (X.2.2.2.2.2 (6 * t + 1)) (X.2.2.2.2.2 (6 * t + 2)) p1.2 gb hf2 ⟨rfl, rfl⟩) (ci := 12) rfl (hp_get sh_58) rfl rfl rfl (Nat.le_of_ble_eq_true rfl) ⟨Nat.le_of_ble_eq_true rfl, Nat.le_of_ble_eq_true rfl⟩ (show _ ≤ 600000 by omega) (show _ ≤ 7302250 by omega) ?_
  refine aw_icmp_eq (tgt := 1669) dL_law_463 (by decide) (fun _ => ?_) (fun hc => absurd he hc)
  refine aw_widen (k := 100 + t + 1) (n := 90000 + 5 * t + 5) (by omega) (by omega) ?_
  exact K p2.2 gb hrel
set_option maxRecDepth 100000 in
set_option maxHeartbeats 200000 in
/-- ties -/
theorem lq_8 {l : Launch} {X : ax_X} {nm : String} {Rel : sx_M → Prop} (hst : st_ok_8 Rel) (hX : X.2.2.2.2.1 ≤ 3072) (t : Nat) (ht : 6 * t + 6 ≤ X.2.2.2.2.1) (s : sx_M) (gb : ax_H) (hs : Rel s) (K : ∀ (s : sx_M) (gb : ax_H), Rel s → LW l X nm (100 + t + 1) (90000 + 5 * t + 5) 1669 [some (.float 0), some (.ref 0), some (.ref 58), some (.int (nI (6 * t)))] [] (hp s gb)) : LW l X nm (100 + t) (90000 + 5 * t) 468 [some (.float 0), some (.ref 0), some (.ref 58), some (.int (nI (6 * t)))] [] (hp s gb) := by
  obtain ⟨p1, p2, hf1, hf2, he, hrel⟩ := hst (X.2.2.2.2.2 (6 * t + 1)) s hs
  refine aw_aload_n dL_law_468 rfl rfl ?_
  refine aw_aload_nX dL_law_469 rfl rfl ?_
  refine aw_iload_n dL_law_470 rfl rfl ?_
  refine aw_iconst (v := 1) dL_law_471 (by decide) ?_
  refine aw_iadd dL_law_472 ?_
  refine aw_sc (6 * t + 1) (nI_add (6 * t) 1) (by omega) (by omega) dL_law_473 ?_
  refine aw_gVi (b := 0) (As := [.int (X.2.2.2.2.2 (6 * t + 1))]) (st := []) dL_law_474 cl_L_51 iv_X11_ties (k_X11_ties (Q := (fun v h' => v = some (.int p1.1) ∧ h' = hp p1.2 gb)) (X.2.2.2.2.2 (6 * t + 1)) s gb hf1 ⟨rfl, rfl⟩) (ci := 11) rfl (hp_get sh_0) rfl rfl rfl (Nat.le_of_ble_eq_true rfl) ⟨Nat.le_of_ble_eq_true rfl, Nat.le_of_ble_eq_true rfl⟩ (show _ ≤ 600000 by omega) (show _ ≤ 7302250 by omega) ?_
  refine aw_aload_n dL_law_477 rfl rfl ?_
  refine aw_aload_nX dL_law_478 rfl rfl ?_
  refine aw_iload_n dL_law_479 rfl rfl ?_
  refine aw_iconst (v := 1) dL_law_480 (by decide) ?_
  refine aw_iadd dL_law_481 ?_
  refine aw_sc (6 * t + 1) (nI_add (6 * t) 1) (by omega) (by omega) dL_law_482 ?_
  refine aw_gVi (b := 58) (As := [.int (X.2.2.2.2.2 (6 * t + 1))]) (st := [.int p1.1]) dL_law_483 cl_L_54 iv_X12_ties (k_X12_ties (Q := (fun v h' => v = some (.int p2.1) ∧ h' = hp p2.2 gb)) (X.2.2.2.2.2 (6 * t + 1)) p1.2 gb hf2 ⟨rfl, rfl⟩) (ci := 12) rfl (hp_get sh_58) rfl rfl rfl (Nat.le_of_ble_eq_true rfl) ⟨Nat.le_of_ble_eq_true rfl, Nat.le_of_ble_eq_true rfl⟩ (show _ ≤ 600000 by omega) (show _ ≤ 7302250 by omega) ?_
  refine aw_icmp_eq (tgt := 1669) dL_law_486 (by decide) (fun _ => ?_) (fun hc => absurd he hc)
  refine aw_widen (k := 100 + t + 1) (n := 90000 + 5 * t + 5) (by omega) (by omega) ?_
  exact K p2.2 gb hrel
set_option maxRecDepth 100000 in
set_option maxHeartbeats 200000 in
/-- under -/
theorem lq_9 {l : Launch} {X : ax_X} {nm : String} {Rel : sx_M → Prop} (hst : st_ok_9 Rel) (hX : X.2.2.2.2.1 ≤ 3072) (t : Nat) (ht : 6 * t + 6 ≤ X.2.2.2.2.1) (s : sx_M) (gb : ax_H) (hs : Rel s) (K : ∀ (s : sx_M) (gb : ax_H), Rel s → LW l X nm (100 + t + 1) (90000 + 5 * t + 5) 1669 [some (.float 0), some (.ref 0), some (.ref 58), some (.int (nI (6 * t)))] [] (hp s gb)) : LW l X nm (100 + t) (90000 + 5 * t) 491 [some (.float 0), some (.ref 0), some (.ref 58), some (.int (nI (6 * t)))] [] (hp s gb) := by
  obtain ⟨p1, p2, hf1, hf2, he, hrel⟩ := hst (((X.2.2.2.2.2 (6 * t + 1)).toInt64 <<< ((32 : Int32).toInt64 &&& 63)) ||| ((X.2.2.2.2.2 (6 * t + 2)).toInt64 &&& (4294967295 : Int64))) s hs
  refine aw_aload_n dL_law_491 rfl rfl ?_
  refine aw_aload_nX dL_law_492 rfl rfl ?_
  refine aw_iload_n dL_law_493 rfl rfl ?_
  refine aw_iconst (v := 1) dL_law_494 (by decide) ?_
  refine aw_iadd dL_law_495 ?_
  refine aw_sc (6 * t + 1) (nI_add (6 * t) 1) (by omega) (by omega) dL_law_496 ?_
  refine aw_i2l dL_law_497 ?_
  refine aw_bipush (v := 32) dL_law_498 (by decide) ?_
  refine aw_lshl dL_law_500 ?_
  refine aw_aload_nX dL_law_501 rfl rfl ?_
  refine aw_iload_n dL_law_502 rfl rfl ?_
  refine aw_iconst (v := 2) dL_law_503 (by decide) ?_
  refine aw_iadd dL_law_504 ?_
  refine aw_sc (6 * t + 2) (nI_add (6 * t) 2) (by omega) (by omega) dL_law_505 ?_
  refine aw_i2l dL_law_506 ?_
  refine aw_ldc2 dL_law_507 kc_L_55 ?_
  refine aw_land dL_law_510 ?_
  refine aw_lor dL_law_511 ?_
  refine aw_gVi (b := 0) (As := [.long (((X.2.2.2.2.2 (6 * t + 1)).toInt64 <<< ((32 : Int32).toInt64 &&& 63)) ||| ((X.2.2.2.2.2 (6 * t + 2)).toInt64 &&& (4294967295 : Int64)))]) (st := []) dL_law_512 cl_L_57 iv_X11_under (k_X11_under (Q := (fun v h' => v = some (.int p1.1) ∧ h' = hp p1.2 gb)) (((X.2.2.2.2.2 (6 * t + 1)).toInt64 <<< ((32 : Int32).toInt64 &&& 63)) ||| ((X.2.2.2.2.2 (6 * t + 2)).toInt64 &&& (4294967295 : Int64))) s gb hf1 ⟨rfl, rfl⟩) (ci := 11) rfl (hp_get sh_0) rfl rfl rfl (Nat.le_of_ble_eq_true rfl) ⟨Nat.le_of_ble_eq_true rfl, Nat.le_of_ble_eq_true rfl⟩ (show _ ≤ 600000 by omega) (show _ ≤ 7302250 by omega) ?_
  refine aw_aload_n dL_law_515 rfl rfl ?_
  refine aw_aload_nX dL_law_516 rfl rfl ?_
  refine aw_iload_n dL_law_517 rfl rfl ?_
  refine aw_iconst (v := 1) dL_law_518 (by decide) ?_
  refine aw_iadd dL_law_519 ?_
  refine aw_sc (6 * t + 1) (nI_add (6 * t) 1) (by omega) (by omega) dL_law_520 ?_
  refine aw_i2l dL_law_521 ?_
  refine aw_bipush (v := 32) dL_law_522 (by decide) ?_
  refine aw_lshl dL_law_524 ?_
  refine aw_aload_nX dL_law_525 rfl rfl ?_
  refine aw_iload_n dL_law_526 rfl rfl ?_
  refine aw_iconst (v := 2) dL_law_527 (by decide) ?_
  refine aw_iadd dL_law_528 ?_
  refine aw_sc (6 * t + 2) (nI_add (6 * t) 2) (by omega) (by omega) dL_law_529 ?_
  refine aw_i2l dL_law_530 ?_
  refine aw_ldc2 dL_law_531 kc_L_55 ?_
  refine aw_land dL_law_534 ?_
  refine aw_lor dL_law_535 ?_
  refine aw_gVi (b := 58) (As := [.long (((X.2.2.2.2.2 (6 * t + 1)).toInt64 <<< ((32 : Int32).toInt64 &&& 63)) ||| ((X.2.2.2.2.2 (6 * t + 2)).toInt64 &&& (4294967295 : Int64)))]) (st := [.int p1.1]) dL_law_536 cl_L_61 iv_X12_under (k_X12_under (Q := (fun v h' => v = some (.int p2.1) ∧ h' = hp p2.2 gb)) (((X.2.2.2.2.2 (6 * t + 1)).toInt64 <<< ((32 : Int32).toInt64 &&& 63)) ||| ((X.2.2.2.2.2 (6 * t + 2)).toInt64 &&& (4294967295 : Int64))) p1.2 gb hf2 ⟨rfl, rfl⟩) (ci := 12) rfl (hp_get sh_58) rfl rfl rfl (Nat.le_of_ble_eq_true rfl) ⟨Nat.le_of_ble_eq_true rfl, Nat.le_of_ble_eq_true rfl⟩ (show _ ≤ 600000 by omega) (show _ ≤ 7302250 by omega) ?_
  refine aw_icmp_eq (tgt := 1669) dL_law_539 (by decide) (fun _ => ?_) (fun hc => absurd he hc)
  refine aw_widen (k := 100 + t + 1) (n := 90000 + 5 * t + 5) (by omega) (by omega) ?_
  exact K p2.2 gb hrel
set_option maxRecDepth 100000 in
set_option maxHeartbeats 200000 in
/-- place -/
theorem lq_10 {l : Launch} {X : ax_X} {nm : String} {Rel : sx_M → Prop} (hst : st_ok_10 Rel) (hX : X.2.2.2.2.1 ≤ 3072) (t : Nat) (ht : 6 * t + 6 ≤ X.2.2.2.2.1) (s : sx_M) (gb : ax_H) (hs : Rel s) (K : ∀ (s : sx_M) (gb : ax_H), Rel s → LW l X nm (100 + t + 1) (90000 + 5 * t + 5) 1669 [some (.float 0), some (.ref 0), some (.ref 58), some (.int (nI (6 * t)))] [] (hp s gb)) : LW l X nm (100 + t) (90000 + 5 * t) 544 [some (.float 0), some (.ref 0), some (.ref 58), some (.int (nI (6 * t)))] [] (hp s gb) := by
  obtain ⟨p1, p2, hf1, hf2, he, hrel⟩ := hst (X.2.2.2.2.2 (6 * t + 1)) s hs
  refine aw_aload_n dL_law_544 rfl rfl ?_
  refine aw_aload_nX dL_law_545 rfl rfl ?_
  refine aw_iload_n dL_law_546 rfl rfl ?_
  refine aw_iconst (v := 1) dL_law_547 (by decide) ?_
  refine aw_iadd dL_law_548 ?_
  refine aw_sc (6 * t + 1) (nI_add (6 * t) 1) (by omega) (by omega) dL_law_549 ?_
  refine aw_gVi (b := 0) (As := [.int (X.2.2.2.2.2 (6 * t + 1))]) (st := []) dL_law_550 cl_L_62 iv_X11_place (k_X11_place (Q := (fun v h' => v = some (.int p1.1) ∧ h' = hp p1.2 gb)) (X.2.2.2.2.2 (6 * t + 1)) s gb hf1 ⟨rfl, rfl⟩) (ci := 11) rfl (hp_get sh_0) rfl rfl rfl (Nat.le_of_ble_eq_true rfl) ⟨Nat.le_of_ble_eq_true rfl, Nat.le_of_ble_eq_true rfl⟩ (show _ ≤ 600000 by omega) (show _ ≤ 7302250 by omega) ?_
  refine aw_aload_n dL_law_553 rfl rfl ?_
  refine aw_aload_nX dL_law_554 rfl rfl ?_
  refine aw_iload_n dL_law_555 rfl rfl ?_
  refine aw_iconst (v := 1) dL_law_556 (by decide) ?_
  refine aw_iadd dL_law_557 ?_
  refine aw_sc (6 * t + 1) (nI_add (6 * t) 1) (by omega) (by omega) dL_law_558 ?_
  refine aw_gVi (b := 58) (As := [.int (X.2.2.2.2.2 (6 * t + 1))]) (st := [.int p1.1]) dL_law_559 cl_L_65 iv_X12_place (k_X12_place (Q := (fun v h' => v = some (.int p2.1) ∧ h' = hp p2.2 gb)) (X.2.2.2.2.2 (6 * t + 1)) p1.2 gb hf2 ⟨rfl, rfl⟩) (ci := 12) rfl (hp_get sh_58) rfl rfl rfl (Nat.le_of_ble_eq_true rfl) ⟨Nat.le_of_ble_eq_true rfl, Nat.le_of_ble_eq_true rfl⟩ (show _ ≤ 600000 by omega) (show _ ≤ 7302250 by omega) ?_
  refine aw_icmp_eq (tgt := 1669) dL_law_562 (by decide) (fun _ => ?_) (fun hc => absurd he hc)
  refine aw_widen (k := 100 + t + 1) (n := 90000 + 5 * t + 5) (by omega) (by omega) ?_
  exact K p2.2 gb hrel
set_option maxRecDepth 100000 in
set_option maxHeartbeats 200000 in
/-- forced -/
theorem lq_11 {l : Launch} {X : ax_X} {nm : String} {Rel : sx_M → Prop} (hst : st_ok_11 Rel) (hX : X.2.2.2.2.1 ≤ 3072) (t : Nat) (ht : 6 * t + 6 ≤ X.2.2.2.2.1) (s : sx_M) (gb : ax_H) (hs : Rel s) (K : ∀ (s : sx_M) (gb : ax_H), Rel s → LW l X nm (100 + t + 1) (90000 + 5 * t + 5) 1669 [some (.float 0), some (.ref 0), some (.ref 58), some (.int (nI (6 * t)))] [] (hp s gb)) : LW l X nm (100 + t) (90000 + 5 * t) 567 [some (.float 0), some (.ref 0), some (.ref 58), some (.int (nI (6 * t)))] [] (hp s gb) := by
  obtain ⟨p1, p2, hf1, hf2, he, hrel⟩ := hst (X.2.2.2.2.2 (6 * t + 1)) (X.2.2.2.2.2 (6 * t + 2)) s hs
  refine aw_aload_n dL_law_567 rfl rfl ?_
  refine aw_aload_nX dL_law_568 rfl rfl ?_
  refine aw_iload_n dL_law_569 rfl rfl ?_
  refine aw_iconst (v := 1) dL_law_570 (by decide) ?_
  refine aw_iadd dL_law_571 ?_
  refine aw_sc (6 * t + 1) (nI_add (6 * t) 1) (by omega) (by omega) dL_law_572 ?_
  refine aw_aload_nX dL_law_573 rfl rfl ?_
  refine aw_iload_n dL_law_574 rfl rfl ?_
  refine aw_iconst (v := 2) dL_law_575 (by decide) ?_
  refine aw_iadd dL_law_576 ?_
  refine aw_sc (6 * t + 2) (nI_add (6 * t) 2) (by omega) (by omega) dL_law_577 ?_
  refine aw_gVl (b := 0) (As := [.int (X.2.2.2.2.2 (6 * t + 1)), .int (X.2.2.2.2.2 (6 * t + 2))]) (st := []) dL_law_578 cl_L_66 iv_X11_forced (k_X11_forced (Q := (fun v h' => v = some (.long p1.1) ∧ h' = hp p1.2 gb)) (X.2.2.2.2.2 (6 * t + 1)) (X.2.2.2.2.2 (6 * t + 2)) s gb hf1 ⟨rfl, rfl⟩) (ci := 11) rfl (hp_get sh_0) rfl rfl rfl (Nat.le_of_ble_eq_true rfl) ⟨Nat.le_of_ble_eq_true rfl, Nat.le_of_ble_eq_true rfl⟩ (show _ ≤ 600000 by omega) (show _ ≤ 7302250 by omega) ?_
  refine aw_aload_n dL_law_581 rfl rfl ?_
  refine aw_aload_nX dL_law_582 rfl rfl ?_
  refine aw_iload_n dL_law_583 rfl rfl ?_
  refine aw_iconst (v := 1) dL_law_584 (by decide) ?_
  refine aw_iadd dL_law_585 ?_
  refine aw_sc (6 * t + 1) (nI_add (6 * t) 1) (by omega) (by omega) dL_law_586 ?_
  refine aw_aload_nX dL_law_587 rfl rfl ?_
  refine aw_iload_n dL_law_588 rfl rfl ?_
  refine aw_iconst (v := 2) dL_law_589 (by decide) ?_
  refine aw_iadd dL_law_590 ?_
  refine aw_sc (6 * t + 2) (nI_add (6 * t) 2) (by omega) (by omega) dL_law_591 ?_
  refine aw_gVl (b := 58) (As := [.int (X.2.2.2.2.2 (6 * t + 1)), .int (X.2.2.2.2.2 (6 * t + 2))]) (st := [.long p1.1]) dL_law_592 cl_L_69 iv_X12_forced (k_X12_forced (Q := (fun v h' => v = some (.long p2.1) ∧ h' = hp p2.2 gb)) (X.2.2.2.2.2 (6 * t + 1)) (X.2.2.2.2.2 (6 * t + 2)) p1.2 gb hf2 ⟨rfl, rfl⟩) (ci := 12) rfl (hp_get sh_58) rfl rfl rfl (Nat.le_of_ble_eq_true rfl) ⟨Nat.le_of_ble_eq_true rfl, Nat.le_of_ble_eq_true rfl⟩ (show _ ≤ 600000 by omega) (show _ ≤ 7302250 by omega) ?_
  refine aw_lcmp_eq (tgt := 1669) dL_law_595 dL_law_596 (by decide) (fun _ => ?_) (fun hc => absurd he hc)
  refine aw_widen (k := 100 + t + 1) (n := 90000 + 5 * t + 5) (by omega) (by omega) ?_
  exact K p2.2 gb hrel
set_option maxRecDepth 100000 in
set_option maxHeartbeats 200000 in
/-- without -/
theorem lq_12 {l : Launch} {X : ax_X} {nm : String} {Rel : sx_M → Prop} (hst : st_ok_12 Rel) (hX : X.2.2.2.2.1 ≤ 3072) (t : Nat) (ht : 6 * t + 6 ≤ X.2.2.2.2.1) (s : sx_M) (gb : ax_H) (hs : Rel s) (K : ∀ (s : sx_M) (gb : ax_H), Rel s → LW l X nm (100 + t + 1) (90000 + 5 * t + 5) 1669 [some (.float 0), some (.ref 0), some (.ref 58), some (.int (nI (6 * t)))] [] (hp s gb)) : LW l X nm (100 + t) (90000 + 5 * t) 601 [some (.float 0), some (.ref 0), some (.ref 58), some (.int (nI (6 * t)))] [] (hp s gb) := by
  obtain ⟨p1, p2, hf1, hf2, he, hrel⟩ := hst (X.2.2.2.2.2 (6 * t + 1)) (X.2.2.2.2.2 (6 * t + 2)) s hs
  refine aw_aload_n dL_law_601 rfl rfl ?_
  refine aw_aload_nX dL_law_602 rfl rfl ?_
  refine aw_iload_n dL_law_603 rfl rfl ?_
  refine aw_iconst (v := 1) dL_law_604 (by decide) ?_
  refine aw_iadd dL_law_605 ?_
  refine aw_sc (6 * t + 1) (nI_add (6 * t) 1) (by omega) (by omega) dL_law_606 ?_
  refine aw_aload_nX dL_law_607 rfl rfl ?_
  refine aw_iload_n dL_law_608 rfl rfl ?_
  refine aw_iconst (v := 2) dL_law_609 (by decide) ?_
  refine aw_iadd dL_law_610 ?_
  refine aw_sc (6 * t + 2) (nI_add (6 * t) 2) (by omega) (by omega) dL_law_611 ?_
  refine aw_gVl (b := 0) (As := [.int (X.2.2.2.2.2 (6 * t + 1)), .int (X.2.2.2.2.2 (6 * t + 2))]) (st := []) dL_law_612 cl_L_70 iv_X11_without (k_X11_without (Q := (fun v h' => v = some (.long p1.1) ∧ h' = hp p1.2 gb)) (X.2.2.2.2.2 (6 * t + 1)) (X.2.2.2.2.2 (6 * t + 2)) s gb hf1 ⟨rfl, rfl⟩) (ci := 11) rfl (hp_get sh_0) rfl rfl rfl (Nat.le_of_ble_eq_true rfl) ⟨Nat.le_of_ble_eq_true rfl, Nat.le_of_ble_eq_true rfl⟩ (show _ ≤ 600000 by omega) (show _ ≤ 7302250 by omega) ?_
  refine aw_aload_n dL_law_615 rfl rfl ?_
  refine aw_aload_nX dL_law_616 rfl rfl ?_
  refine aw_iload_n dL_law_617 rfl rfl ?_
  refine aw_iconst (v := 1) dL_law_618 (by decide) ?_
  refine aw_iadd dL_law_619 ?_
  refine aw_sc (6 * t + 1) (nI_add (6 * t) 1) (by omega) (by omega) dL_law_620 ?_
  refine aw_aload_nX dL_law_621 rfl rfl ?_
  refine aw_iload_n dL_law_622 rfl rfl ?_
  refine aw_iconst (v := 2) dL_law_623 (by decide) ?_
  refine aw_iadd dL_law_624 ?_
  refine aw_sc (6 * t + 2) (nI_add (6 * t) 2) (by omega) (by omega) dL_law_625 ?_
  refine aw_gVl (b := 58) (As := [.int (X.2.2.2.2.2 (6 * t + 1)), .int (X.2.2.2.2.2 (6 * t + 2))]) (st := [.long p1.1]) dL_law_626 cl_L_73 iv_X12_without (k_X12_without (Q := (fun v h' => v = some (.long p2.1) ∧ h' = hp p2.2 gb)) (X.2.2.2.2.2 (6 * t + 1)) (X.2.2.2.2.2 (6 * t + 2)) p1.2 gb hf2 ⟨rfl, rfl⟩) (ci := 12) rfl (hp_get sh_58) rfl rfl rfl (Nat.le_of_ble_eq_true rfl) ⟨Nat.le_of_ble_eq_true rfl, Nat.le_of_ble_eq_true rfl⟩ (show _ ≤ 600000 by omega) (show _ ≤ 7302250 by omega) ?_
  refine aw_lcmp_eq (tgt := 1669) dL_law_629 dL_law_630 (by decide) (fun _ => ?_) (fun hc => absurd he hc)
  refine aw_widen (k := 100 + t + 1) (n := 90000 + 5 * t + 5) (by omega) (by omega) ?_
  exact K p2.2 gb hrel
set_option maxRecDepth 100000 in
set_option maxHeartbeats 200000 in
/-- stays -/
theorem lq_13 {l : Launch} {X : ax_X} {nm : String} {Rel : sx_M → Prop} (hst : st_ok_13 Rel) (hX : X.2.2.2.2.1 ≤ 3072) (t : Nat) (ht : 6 * t + 6 ≤ X.2.2.2.2.1) (s : sx_M) (gb : ax_H) (hs : Rel s) (K : ∀ (s : sx_M) (gb : ax_H), Rel s → LW l X nm (100 + t + 1) (90000 + 5 * t + 5) 1669 [some (.float 0), some (.ref 0), some (.ref 58), some (.int (nI (6 * t)))] [] (hp s gb)) : LW l X nm (100 + t) (90000 + 5 * t) 635 [some (.float 0), some (.ref 0), some (.ref 58), some (.int (nI (6 * t)))] [] (hp s gb) := by
  obtain ⟨p1, p2, hf1, hf2, he, hrel⟩ := hst (X.2.2.2.2.2 (6 * t + 1)) (X.2.2.2.2.2 (6 * t + 2)) (X.2.2.2.2.2 (6 * t + 3)) s hs
  refine aw_aload_n dL_law_635 rfl rfl ?_
  refine aw_aload_nX dL_law_636 rfl rfl ?_
  refine aw_iload_n dL_law_637 rfl rfl ?_
  refine aw_iconst (v := 1) dL_law_638 (by decide) ?_
  refine aw_iadd dL_law_639 ?_
  refine aw_sc (6 * t + 1) (nI_add (6 * t) 1) (by omega) (by omega) dL_law_640 ?_
  refine aw_aload_nX dL_law_641 rfl rfl ?_
  refine aw_iload_n dL_law_642 rfl rfl ?_
  refine aw_iconst (v := 2) dL_law_643 (by decide) ?_
  refine aw_iadd dL_law_644 ?_
  refine aw_sc (6 * t + 2) (nI_add (6 * t) 2) (by omega) (by omega) dL_law_645 ?_
  refine aw_aload_nX dL_law_646 rfl rfl ?_
  refine aw_iload_n dL_law_647 rfl rfl ?_
  refine aw_iconst (v := 3) dL_law_648 (by decide) ?_
  refine aw_iadd dL_law_649 ?_
  refine aw_sc (6 * t + 3) (nI_add (6 * t) 3) (by omega) (by omega) dL_law_650 ?_
  refine aw_gVl (b := 0) (As := [.int (X.2.2.2.2.2 (6 * t + 1)), .int (X.2.2.2.2.2 (6 * t + 2)), .int (X.2.2.2.2.2 (6 * t + 3))]) (st := []) dL_law_651 cl_L_74 iv_X11_stays (k_X11_stays (Q := (fun v h' => v = some (.long p1.1) ∧ h' = hp p1.2 gb)) (X.2.2.2.2.2 (6 * t + 1)) (X.2.2.2.2.2 (6 * t + 2)) (X.2.2.2.2.2 (6 * t + 3)) s gb hf1 ⟨rfl, rfl⟩) (ci := 11) rfl (hp_get sh_0) rfl rfl rfl (Nat.le_of_ble_eq_true rfl) ⟨Nat.le_of_ble_eq_true rfl, Nat.le_of_ble_eq_true rfl⟩ (show _ ≤ 600000 by omega) (show _ ≤ 7302250 by omega) ?_
  refine aw_aload_n dL_law_654 rfl rfl ?_
  refine aw_aload_nX dL_law_655 rfl rfl ?_
  refine aw_iload_n dL_law_656 rfl rfl ?_
  refine aw_iconst (v := 1) dL_law_657 (by decide) ?_
  refine aw_iadd dL_law_658 ?_
  refine aw_sc (6 * t + 1) (nI_add (6 * t) 1) (by omega) (by omega) dL_law_659 ?_
  refine aw_aload_nX dL_law_660 rfl rfl ?_
  refine aw_iload_n dL_law_661 rfl rfl ?_
  refine aw_iconst (v := 2) dL_law_662 (by decide) ?_
  refine aw_iadd dL_law_663 ?_
  refine aw_sc (6 * t + 2) (nI_add (6 * t) 2) (by omega) (by omega) dL_law_664 ?_
  refine aw_aload_nX dL_law_665 rfl rfl ?_
  refine aw_iload_n dL_law_666 rfl rfl ?_
  refine aw_iconst (v := 3) dL_law_667 (by decide) ?_
  refine aw_iadd dL_law_668 ?_
  refine aw_sc (6 * t + 3) (nI_add (6 * t) 3) (by omega) (by omega) dL_law_669 ?_
  refine aw_gVl (b := 58) (As := [.int (X.2.2.2.2.2 (6 * t + 1)), .int (X.2.2.2.2.2 (6 * t + 2)), .int (X.2.2.2.2.2 (6 * t + 3))]) (st := [.long p1.1]) dL_law_670 cl_L_78 iv_X12_stays (k_X12_stays (Q := (fun v h' => v = some (.long p2.1) ∧ h' = hp p2.2 gb)) (X.2.2.2.2.2 (6 * t + 1)) (X.2.2.2.2.2 (6 * t + 2)) (X.2.2.2.2.2 (6 * t + 3)) p1.2 gb hf2 ⟨rfl, rfl⟩) (ci := 12) rfl (hp_get sh_58) rfl rfl rfl (Nat.le_of_ble_eq_true rfl) ⟨Nat.le_of_ble_eq_true rfl, Nat.le_of_ble_eq_true rfl⟩ (show _ ≤ 600000 by omega) (show _ ≤ 7302250 by omega) ?_
  refine aw_lcmp_eq (tgt := 1669) dL_law_673 dL_law_674 (by decide) (fun _ => ?_) (fun hc => absurd he hc)
  refine aw_widen (k := 100 + t + 1) (n := 90000 + 5 * t + 5) (by omega) (by omega) ?_
  exact K p2.2 gb hrel
set_option maxRecDepth 100000 in
set_option maxHeartbeats 200000 in
/-- would -/
theorem lq_14 {l : Launch} {X : ax_X} {nm : String} {Rel : sx_M → Prop} (hst : st_ok_14 Rel) (hX : X.2.2.2.2.1 ≤ 3072) (t : Nat) (ht : 6 * t + 6 ≤ X.2.2.2.2.1) (s : sx_M) (gb : ax_H) (hs : Rel s) (K : ∀ (s : sx_M) (gb : ax_H), Rel s → LW l X nm (100 + t + 1) (90000 + 5 * t + 5) 1669 [some (.float 0), some (.ref 0), some (.ref 58), some (.int (nI (6 * t)))] [] (hp s gb)) : LW l X nm (100 + t) (90000 + 5 * t) 679 [some (.float 0), some (.ref 0), some (.ref 58), some (.int (nI (6 * t)))] [] (hp s gb) := by
  obtain ⟨p1, p2, hf1, hf2, he, hrel⟩ := hst (X.2.2.2.2.2 (6 * t + 1)) (X.2.2.2.2.2 (6 * t + 2)) (X.2.2.2.2.2 (6 * t + 3)) s hs
  refine aw_aload_n dL_law_679 rfl rfl ?_
  refine aw_aload_nX dL_law_680 rfl rfl ?_
  refine aw_iload_n dL_law_681 rfl rfl ?_
  refine aw_iconst (v := 1) dL_law_682 (by decide) ?_
  refine aw_iadd dL_law_683 ?_
  refine aw_sc (6 * t + 1) (nI_add (6 * t) 1) (by omega) (by omega) dL_law_684 ?_
  refine aw_aload_nX dL_law_685 rfl rfl ?_
  refine aw_iload_n dL_law_686 rfl rfl ?_
  refine aw_iconst (v := 2) dL_law_687 (by decide) ?_
  refine aw_iadd dL_law_688 ?_
  refine aw_sc (6 * t + 2) (nI_add (6 * t) 2) (by omega) (by omega) dL_law_689 ?_
  refine aw_aload_nX dL_law_690 rfl rfl ?_
  refine aw_iload_n dL_law_691 rfl rfl ?_
  refine aw_iconst (v := 3) dL_law_692 (by decide) ?_
  refine aw_iadd dL_law_693 ?_
  refine aw_sc (6 * t + 3) (nI_add (6 * t) 3) (by omega) (by omega) dL_law_694 ?_
  refine aw_gVl (b := 0) (As := [.int (X.2.2.2.2.2 (6 * t + 1)), .int (X.2.2.2.2.2 (6 * t + 2)), .int (X.2.2.2.2.2 (6 * t + 3))]) (st := []) dL_law_695 cl_L_79 iv_X11_would (k_X11_would (Q := (fun v h' => v = some (.long p1.1) ∧ h' = hp p1.2 gb)) (X.2.2.2.2.2 (6 * t + 1)) (X.2.2.2.2.2 (6 * t + 2)) (X.2.2.2.2.2 (6 * t + 3)) s gb hf1 ⟨rfl, rfl⟩) (ci := 11) rfl (hp_get sh_0) rfl rfl rfl (Nat.le_of_ble_eq_true rfl) ⟨Nat.le_of_ble_eq_true rfl, Nat.le_of_ble_eq_true rfl⟩ (show _ ≤ 600000 by omega) (show _ ≤ 7302250 by omega) ?_
  refine aw_aload_n dL_law_698 rfl rfl ?_
  refine aw_aload_nX dL_law_699 rfl rfl ?_
  refine aw_iload_n dL_law_700 rfl rfl ?_
  refine aw_iconst (v := 1) dL_law_701 (by decide) ?_
  refine aw_iadd dL_law_702 ?_
  refine aw_sc (6 * t + 1) (nI_add (6 * t) 1) (by omega) (by omega) dL_law_703 ?_
  refine aw_aload_nX dL_law_704 rfl rfl ?_
  refine aw_iload_n dL_law_705 rfl rfl ?_
  refine aw_iconst (v := 2) dL_law_706 (by decide) ?_
  refine aw_iadd dL_law_707 ?_
  refine aw_sc (6 * t + 2) (nI_add (6 * t) 2) (by omega) (by omega) dL_law_708 ?_
  refine aw_aload_nX dL_law_709 rfl rfl ?_
  refine aw_iload_n dL_law_710 rfl rfl ?_
  refine aw_iconst (v := 3) dL_law_711 (by decide) ?_
  refine aw_iadd dL_law_712 ?_
  refine aw_sc (6 * t + 3) (nI_add (6 * t) 3) (by omega) (by omega) dL_law_713 ?_
  refine aw_gVl (b := 58) (As := [.int (X.2.2.2.2.2 (6 * t + 1)), .int (X.2.2.2.2.2 (6 * t + 2)), .int (X.2.2.2.2.2 (6 * t + 3))]) (st := [.long p1.1]) dL_law_714 cl_L_82 iv_X12_would (k_X12_would (Q := (fun v h' => v = some (.long p2.1) ∧ h' = hp p2.2 gb)) (X.2.2.2.2.2 (6 * t + 1)) (X.2.2.2.2.2 (6 * t + 2)) (X.2.2.2.2.2 (6 * t + 3)) p1.2 gb hf2 ⟨rfl, rfl⟩) (ci := 12) rfl (hp_get sh_58) rfl rfl rfl (Nat.le_of_ble_eq_true rfl) ⟨Nat.le_of_ble_eq_true rfl, Nat.le_of_ble_eq_true rfl⟩ (show _ ≤ 600000 by omega) (show _ ≤ 7302250 by omega) ?_
  refine aw_lcmp_eq (tgt := 1669) dL_law_717 dL_law_718 (by decide) (fun _ => ?_) (fun hc => absurd he hc)
  refine aw_widen (k := 100 + t + 1) (n := 90000 + 5 * t + 5) (by omega) (by omega) ?_
  exact K p2.2 gb hrel
set_option maxRecDepth 100000 in
set_option maxHeartbeats 200000 in
/-- ever -/
theorem lq_15 {l : Launch} {X : ax_X} {nm : String} {Rel : sx_M → Prop} (hst : st_ok_15 Rel) (hX : X.2.2.2.2.1 ≤ 3072) (t : Nat) (ht : 6 * t + 6 ≤ X.2.2.2.2.1) (s : sx_M) (gb : ax_H) (hs : Rel s) (K : ∀ (s : sx_M) (gb : ax_H), Rel s → LW l X nm (100 + t + 1) (90000 + 5 * t + 5) 1669 [some (.float 0), some (.ref 0), some (.ref 58), some (.int (nI (6 * t)))] [] (hp s gb)) : LW l X nm (100 + t) (90000 + 5 * t) 723 [some (.float 0), some (.ref 0), some (.ref 58), some (.int (nI (6 * t)))] [] (hp s gb) := by
  obtain ⟨p1, p2, hf1, hf2, he, hrel⟩ := hst (X.2.2.2.2.2 (6 * t + 1)) s hs
  refine aw_aload_n dL_law_723 rfl rfl ?_
  refine aw_aload_nX dL_law_724 rfl rfl ?_
  refine aw_iload_n dL_law_725 rfl rfl ?_
  refine aw_iconst (v := 1) dL_law_726 (by decide) ?_
  refine aw_iadd dL_law_727 ?_
  refine aw_sc (6 * t + 1) (nI_add (6 * t) 1) (by omega) (by omega) dL_law_728 ?_
  refine aw_gVi (b := 0) (As := [.int (X.2.2.2.2.2 (6 * t + 1))]) (st := []) dL_law_729 cl_L_83 iv_X11_ever (k_X11_ever (Q := (fun v h' => v = some (.int p1.1) ∧ h' = hp p1.2 gb)) (X.2.2.2.2.2 (6 * t + 1)) s gb hf1 ⟨rfl, rfl⟩) (ci := 11) rfl (hp_get sh_0) rfl rfl rfl (Nat.le_of_ble_eq_true rfl) ⟨Nat.le_of_ble_eq_true rfl, Nat.le_of_ble_eq_true rfl⟩ (show _ ≤ 600000 by omega) (show _ ≤ 7302250 by omega) ?_
  refine aw_aload_n dL_law_732 rfl rfl ?_
  refine aw_aload_nX dL_law_733 rfl rfl ?_
  refine aw_iload_n dL_law_734 rfl rfl ?_
  refine aw_iconst (v := 1) dL_law_735 (by decide) ?_
  refine aw_iadd dL_law_736 ?_
  refine aw_sc (6 * t + 1) (nI_add (6 * t) 1) (by omega) (by omega) dL_law_737 ?_
  refine aw_gVi (b := 58) (As := [.int (X.2.2.2.2.2 (6 * t + 1))]) (st := [.int p1.1]) dL_law_738 cl_L_86 iv_X12_ever (k_X12_ever (Q := (fun v h' => v = some (.int p2.1) ∧ h' = hp p2.2 gb)) (X.2.2.2.2.2 (6 * t + 1)) p1.2 gb hf2 ⟨rfl, rfl⟩) (ci := 12) rfl (hp_get sh_58) rfl rfl rfl (Nat.le_of_ble_eq_true rfl) ⟨Nat.le_of_ble_eq_true rfl, Nat.le_of_ble_eq_true rfl⟩ (show _ ≤ 600000 by omega) (show _ ≤ 7302250 by omega) ?_
  refine aw_icmp_eq (tgt := 1669) dL_law_741 (by decide) (fun _ => ?_) (fun hc => absurd he hc)
  refine aw_widen (k := 100 + t + 1) (n := 90000 + 5 * t + 5) (by omega) (by omega) ?_
  exact K p2.2 gb hrel
set_option maxRecDepth 100000 in
set_option maxHeartbeats 200000 in
/-- price -/
theorem lq_16 {l : Launch} {X : ax_X} {nm : String} {Rel : sx_M → Prop} (hst : st_ok_16 Rel) (hX : X.2.2.2.2.1 ≤ 3072) (t : Nat) (ht : 6 * t + 6 ≤ X.2.2.2.2.1) (s : sx_M) (gb : ax_H) (hs : Rel s) (K : ∀ (s : sx_M) (gb : ax_H), Rel s → LW l X nm (100 + t + 1) (90000 + 5 * t + 5) 1669 [some (.float 0), some (.ref 0), some (.ref 58), some (.int (nI (6 * t)))] [] (hp s gb)) : LW l X nm (100 + t) (90000 + 5 * t) 746 [some (.float 0), some (.ref 0), some (.ref 58), some (.int (nI (6 * t)))] [] (hp s gb) := by
  obtain ⟨p1, p2, hf1, hf2, he, hrel⟩ := hst (X.2.2.2.2.2 (6 * t + 1)) s hs
  refine aw_aload_n dL_law_746 rfl rfl ?_
  refine aw_aload_nX dL_law_747 rfl rfl ?_
  refine aw_iload_n dL_law_748 rfl rfl ?_
  refine aw_iconst (v := 1) dL_law_749 (by decide) ?_
  refine aw_iadd dL_law_750 ?_
  refine aw_sc (6 * t + 1) (nI_add (6 * t) 1) (by omega) (by omega) dL_law_751 ?_
  refine aw_gVl (b := 0) (As := [.int (X.2.2.2.2.2 (6 * t + 1))]) (st := []) dL_law_752 cl_L_87 iv_X11_price (k_X11_price (Q := (fun v h' => v = some (.long p1.1) ∧ h' = hp p1.2 gb)) (X.2.2.2.2.2 (6 * t + 1)) s gb hf1 ⟨rfl, rfl⟩) (ci := 11) rfl (hp_get sh_0) rfl rfl rfl (Nat.le_of_ble_eq_true rfl) ⟨Nat.le_of_ble_eq_true rfl, Nat.le_of_ble_eq_true rfl⟩ (show _ ≤ 600000 by omega) (show _ ≤ 7302250 by omega) ?_
  refine aw_aload_n dL_law_755 rfl rfl ?_
  refine aw_aload_nX dL_law_756 rfl rfl ?_
  refine aw_iload_n dL_law_757 rfl rfl ?_
  refine aw_iconst (v := 1) dL_law_758 (by decide) ?_
  refine aw_iadd dL_law_759 ?_
  refine aw_sc (6 * t + 1) (nI_add (6 * t) 1) (by omega) (by omega) dL_law_760 ?_
  refine aw_gVl (b := 58) (As := [.int (X.2.2.2.2.2 (6 * t + 1))]) (st := [.long p1.1]) dL_law_761 cl_L_90 iv_X12_price (k_X12_price (Q := (fun v h' => v = some (.long p2.1) ∧ h' = hp p2.2 gb)) (X.2.2.2.2.2 (6 * t + 1)) p1.2 gb hf2 ⟨rfl, rfl⟩) (ci := 12) rfl (hp_get sh_58) rfl rfl rfl (Nat.le_of_ble_eq_true rfl) ⟨Nat.le_of_ble_eq_true rfl, Nat.le_of_ble_eq_true rfl⟩ (show _ ≤ 600000 by omega) (show _ ≤ 7302250 by omega) ?_
  refine aw_lcmp_eq (tgt := 1669) dL_law_764 dL_law_765 (by decide) (fun _ => ?_) (fun hc => absurd he hc)
  refine aw_widen (k := 100 + t + 1) (n := 90000 + 5 * t + 5) (by omega) (by omega) ?_
  exact K p2.2 gb hrel
set_option maxRecDepth 100000 in
set_option maxHeartbeats 200000 in
/-- pay -/
theorem lq_17 {l : Launch} {X : ax_X} {nm : String} {Rel : sx_M → Prop} (hst : st_ok_17 Rel) (hX : X.2.2.2.2.1 ≤ 3072) (t : Nat) (ht : 6 * t + 6 ≤ X.2.2.2.2.1) (s : sx_M) (gb : ax_H) (hs : Rel s) (K : ∀ (s : sx_M) (gb : ax_H), Rel s → LW l X nm (100 + t + 1) (90000 + 5 * t + 5) 1669 [some (.float 0), some (.ref 0), some (.ref 58), some (.int (nI (6 * t)))] [] (hp s gb)) : LW l X nm (100 + t) (90000 + 5 * t) 770 [some (.float 0), some (.ref 0), some (.ref 58), some (.int (nI (6 * t)))] [] (hp s gb) := by
  obtain ⟨p1, p2, hf1, hf2, he, hrel⟩ := hst (X.2.2.2.2.2 (6 * t + 1)) s hs
  refine aw_aload_n dL_law_770 rfl rfl ?_
  refine aw_aload_nX dL_law_771 rfl rfl ?_
  refine aw_iload_n dL_law_772 rfl rfl ?_
  refine aw_iconst (v := 1) dL_law_773 (by decide) ?_
  refine aw_iadd dL_law_774 ?_
  refine aw_sc (6 * t + 1) (nI_add (6 * t) 1) (by omega) (by omega) dL_law_775 ?_
  refine aw_gVl (b := 0) (As := [.int (X.2.2.2.2.2 (6 * t + 1))]) (st := []) dL_law_776 cl_L_91 iv_X11_pay (k_X11_pay (Q := (fun v h' => v = some (.long p1.1) ∧ h' = hp p1.2 gb)) (X.2.2.2.2.2 (6 * t + 1)) s gb hf1 ⟨rfl, rfl⟩) (ci := 11) rfl (hp_get sh_0) rfl rfl rfl (Nat.le_of_ble_eq_true rfl) ⟨Nat.le_of_ble_eq_true rfl, Nat.le_of_ble_eq_true rfl⟩ (show _ ≤ 600000 by omega) (show _ ≤ 7302250 by omega) ?_
  refine aw_aload_n dL_law_779 rfl rfl ?_
  refine aw_aload_nX dL_law_780 rfl rfl ?_
  refine aw_iload_n dL_law_781 rfl rfl ?_
  refine aw_iconst (v := 1) dL_law_782 (by decide) ?_
  refine aw_iadd dL_law_783 ?_
  refine aw_sc (6 * t + 1) (nI_add (6 * t) 1) (by omega) (by omega) dL_law_784 ?_
  refine aw_gVl (b := 58) (As := [.int (X.2.2.2.2.2 (6 * t + 1))]) (st := [.long p1.1]) dL_law_785 cl_L_94 iv_X12_pay (k_X12_pay (Q := (fun v h' => v = some (.long p2.1) ∧ h' = hp p2.2 gb)) (X.2.2.2.2.2 (6 * t + 1)) p1.2 gb hf2 ⟨rfl, rfl⟩) (ci := 12) rfl (hp_get sh_58) rfl rfl rfl (Nat.le_of_ble_eq_true rfl) ⟨Nat.le_of_ble_eq_true rfl, Nat.le_of_ble_eq_true rfl⟩ (show _ ≤ 600000 by omega) (show _ ≤ 7302250 by omega) ?_
  refine aw_lcmp_eq (tgt := 1669) dL_law_788 dL_law_789 (by decide) (fun _ => ?_) (fun hc => absurd he hc)
  refine aw_widen (k := 100 + t + 1) (n := 90000 + 5 * t + 5) (by omega) (by omega) ?_
  exact K p2.2 gb hrel
set_option maxRecDepth 100000 in
set_option maxHeartbeats 200000 in
/-- first -/
theorem lq_18 {l : Launch} {X : ax_X} {nm : String} {Rel : sx_M → Prop} (hst : st_ok_18 Rel) (hX : X.2.2.2.2.1 ≤ 3072) (t : Nat) (ht : 6 * t + 6 ≤ X.2.2.2.2.1) (s : sx_M) (gb : ax_H) (hs : Rel s) (K : ∀ (s : sx_M) (gb : ax_H), Rel s → LW l X nm (100 + t + 1) (90000 + 5 * t + 5) 1669 [some (.float 0), some (.ref 0), some (.ref 58), some (.int (nI (6 * t)))] [] (hp s gb)) : LW l X nm (100 + t) (90000 + 5 * t) 794 [some (.float 0), some (.ref 0), some (.ref 58), some (.int (nI (6 * t)))] [] (hp s gb) := by
  obtain ⟨p1, p2, hf1, hf2, he, hrel⟩ := hst (X.2.2.2.2.2 (6 * t + 1)) (X.2.2.2.2.2 (6 * t + 2)) (X.2.2.2.2.2 (6 * t + 3)) s hs
  refine aw_aload_n dL_law_794 rfl rfl ?_
  refine aw_aload_nX dL_law_795 rfl rfl ?_
  refine aw_iload_n dL_law_796 rfl rfl ?_
  refine aw_iconst (v := 1) dL_law_797 (by decide) ?_
  refine aw_iadd dL_law_798 ?_
  refine aw_sc (6 * t + 1) (nI_add (6 * t) 1) (by omega) (by omega) dL_law_799 ?_
  refine aw_aload_nX dL_law_800 rfl rfl ?_
  refine aw_iload_n dL_law_801 rfl rfl ?_
  refine aw_iconst (v := 2) dL_law_802 (by decide) ?_
  refine aw_iadd dL_law_803 ?_
  refine aw_sc (6 * t + 2) (nI_add (6 * t) 2) (by omega) (by omega) dL_law_804 ?_
  refine aw_aload_nX dL_law_805 rfl rfl ?_
  refine aw_iload_n dL_law_806 rfl rfl ?_
  refine aw_iconst (v := 3) dL_law_807 (by decide) ?_
  refine aw_iadd dL_law_808 ?_
  refine aw_sc (6 * t + 3) (nI_add (6 * t) 3) (by omega) (by omega) dL_law_809 ?_
  refine aw_gVl (b := 0) (As := [.int (X.2.2.2.2.2 (6 * t + 1)), .int (X.2.2.2.2.2 (6 * t + 2)), .int (X.2.2.2.2.2 (6 * t + 3))]) (st := []) dL_law_810 cl_L_95 iv_X11_first (k_X11_first (Q := (fun v h' => v = some (.long p1.1) ∧ h' = hp p1.2 gb)) (X.2.2.2.2.2 (6 * t + 1)) (X.2.2.2.2.2 (6 * t + 2)) (X.2.2.2.2.2 (6 * t + 3)) s gb hf1 ⟨rfl, rfl⟩) (ci := 11) rfl (hp_get sh_0) rfl rfl rfl (Nat.le_of_ble_eq_true rfl) ⟨Nat.le_of_ble_eq_true rfl, Nat.le_of_ble_eq_true rfl⟩ (show _ ≤ 600000 by omega) (show _ ≤ 7302250 by omega) ?_
  refine aw_aload_n dL_law_813 rfl rfl ?_
  refine aw_aload_nX dL_law_814 rfl rfl ?_
  refine aw_iload_n dL_law_815 rfl rfl ?_
  refine aw_iconst (v := 1) dL_law_816 (by decide) ?_
  refine aw_iadd dL_law_817 ?_
  refine aw_sc (6 * t + 1) (nI_add (6 * t) 1) (by omega) (by omega) dL_law_818 ?_
  refine aw_aload_nX dL_law_819 rfl rfl ?_
  refine aw_iload_n dL_law_820 rfl rfl ?_
  refine aw_iconst (v := 2) dL_law_821 (by decide) ?_
  refine aw_iadd dL_law_822 ?_
  refine aw_sc (6 * t + 2) (nI_add (6 * t) 2) (by omega) (by omega) dL_law_823 ?_
  refine aw_aload_nX dL_law_824 rfl rfl ?_
  refine aw_iload_n dL_law_825 rfl rfl ?_
  refine aw_iconst (v := 3) dL_law_826 (by decide) ?_
  refine aw_iadd dL_law_827 ?_
  refine aw_sc (6 * t + 3) (nI_add (6 * t) 3) (by omega) (by omega) dL_law_828 ?_
  refine aw_gVl (b := 58) (As := [.int (X.2.2.2.2.2 (6 * t + 1)), .int (X.2.2.2.2.2 (6 * t + 2)), .int (X.2.2.2.2.2 (6 * t + 3))]) (st := [.long p1.1]) dL_law_829 cl_L_98 iv_X12_first (k_X12_first (Q := (fun v h' => v = some (.long p2.1) ∧ h' = hp p2.2 gb)) (X.2.2.2.2.2 (6 * t + 1)) (X.2.2.2.2.2 (6 * t + 2)) (X.2.2.2.2.2 (6 * t + 3)) p1.2 gb hf2 ⟨rfl, rfl⟩) (ci := 12) rfl (hp_get sh_58) rfl rfl rfl (Nat.le_of_ble_eq_true rfl) ⟨Nat.le_of_ble_eq_true rfl, Nat.le_of_ble_eq_true rfl⟩ (show _ ≤ 600000 by omega) (show _ ≤ 7302250 by omega) ?_
  refine aw_lcmp_eq (tgt := 1669) dL_law_832 dL_law_833 (by decide) (fun _ => ?_) (fun hc => absurd he hc)
  refine aw_widen (k := 100 + t + 1) (n := 90000 + 5 * t + 5) (by omega) (by omega) ?_
  exact K p2.2 gb hrel
set_option maxRecDepth 100000 in
set_option maxHeartbeats 200000 in
/-- firstJob -/
theorem lq_19 {l : Launch} {X : ax_X} {nm : String} {Rel : sx_M → Prop} (hst : st_ok_19 Rel) (hX : X.2.2.2.2.1 ≤ 3072) (t : Nat) (ht : 6 * t + 6 ≤ X.2.2.2.2.1) (s : sx_M) (gb : ax_H) (hs : Rel s) (K : ∀ (s : sx_M) (gb : ax_H), Rel s → LW l X nm (100 + t + 1) (90000 + 5 * t + 5) 1669 [some (.float 0), some (.ref 0), some (.ref 58), some (.int (nI (6 * t)))] [] (hp s gb)) : LW l X nm (100 + t) (90000 + 5 * t) 838 [some (.float 0), some (.ref 0), some (.ref 58), some (.int (nI (6 * t)))] [] (hp s gb) := by
  obtain ⟨p1, p2, hf1, hf2, he, hrel⟩ := hst (X.2.2.2.2.2 (6 * t + 1)) (X.2.2.2.2.2 (6 * t + 2)) (X.2.2.2.2.2 (6 * t + 3)) s hs
  refine aw_aload_n dL_law_838 rfl rfl ?_
  refine aw_aload_nX dL_law_839 rfl rfl ?_
  refine aw_iload_n dL_law_840 rfl rfl ?_
  refine aw_iconst (v := 1) dL_law_841 (by decide) ?_
  refine aw_iadd dL_law_842 ?_
  refine aw_sc (6 * t + 1) (nI_add (6 * t) 1) (by omega) (by omega) dL_law_843 ?_
  refine aw_aload_nX dL_law_844 rfl rfl ?_
  refine aw_iload_n dL_law_845 rfl rfl ?_
  refine aw_iconst (v := 2) dL_law_846 (by decide) ?_
  refine aw_iadd dL_law_847 ?_
  refine aw_sc (6 * t + 2) (nI_add (6 * t) 2) (by omega) (by omega) dL_law_848 ?_
  refine aw_aload_nX dL_law_849 rfl rfl ?_
  refine aw_iload_n dL_law_850 rfl rfl ?_
  refine aw_iconst (v := 3) dL_law_851 (by decide) ?_
  refine aw_iadd dL_law_852 ?_
  refine aw_sc (6 * t + 3) (nI_add (6 * t) 3) (by omega) (by omega) dL_law_853 ?_
  refine aw_gVi (b := 0) (As := [.int (X.2.2.2.2.2 (6 * t + 1)), .int (X.2.2.2.2.2 (6 * t + 2)), .int (X.2.2.2.2.2 (6 * t + 3))]) (st := []) dL_law_854 cl_L_99 iv_X11_firstJob (k_X11_firstJob (Q := (fun v h' => v = some (.int p1.1) ∧ h' = hp p1.2 gb)) (X.2.2.2.2.2 (6 * t + 1)) (X.2.2.2.2.2 (6 * t + 2)) (X.2.2.2.2.2 (6 * t + 3)) s gb hf1 ⟨rfl, rfl⟩) (ci := 11) rfl (hp_get sh_0) rfl rfl rfl (Nat.le_of_ble_eq_true rfl) ⟨Nat.le_of_ble_eq_true rfl, Nat.le_of_ble_eq_true rfl⟩ (show _ ≤ 600000 by omega) (show _ ≤ 7302250 by omega) ?_
  refine aw_aload_n dL_law_857 rfl rfl ?_
  refine aw_aload_nX dL_law_858 rfl rfl ?_
  refine aw_iload_n dL_law_859 rfl rfl ?_
  refine aw_iconst (v := 1) dL_law_860 (by decide) ?_
  refine aw_iadd dL_law_861 ?_
  refine aw_sc (6 * t + 1) (nI_add (6 * t) 1) (by omega) (by omega) dL_law_862 ?_
  refine aw_aload_nX dL_law_863 rfl rfl ?_
  refine aw_iload_n dL_law_864 rfl rfl ?_
  refine aw_iconst (v := 2) dL_law_865 (by decide) ?_
  refine aw_iadd dL_law_866 ?_
  refine aw_sc (6 * t + 2) (nI_add (6 * t) 2) (by omega) (by omega) dL_law_867 ?_
  refine aw_aload_nX dL_law_868 rfl rfl ?_
  refine aw_iload_n dL_law_869 rfl rfl ?_
  refine aw_iconst (v := 3) dL_law_870 (by decide) ?_
  refine aw_iadd dL_law_871 ?_
  refine aw_sc (6 * t + 3) (nI_add (6 * t) 3) (by omega) (by omega) dL_law_872 ?_
  refine aw_gVi (b := 58) (As := [.int (X.2.2.2.2.2 (6 * t + 1)), .int (X.2.2.2.2.2 (6 * t + 2)), .int (X.2.2.2.2.2 (6 * t + 3))]) (st := [.int p1.1]) dL_law_873 cl_L_103 iv_X12_firstJob (k_X12_firstJob (Q := (fun v h' => v = some (.int p2.1) ∧ h' = hp p2.2 gb)) (X.2.2.2.2.2 (6 * t + 1)) (X.2.2.2.2.2 (6 * t + 2)) (X.2.2.2.2.2 (6 * t + 3)) p1.2 gb hf2 ⟨rfl, rfl⟩) (ci := 12) rfl (hp_get sh_58) rfl rfl rfl (Nat.le_of_ble_eq_true rfl) ⟨Nat.le_of_ble_eq_true rfl, Nat.le_of_ble_eq_true rfl⟩ (show _ ≤ 600000 by omega) (show _ ≤ 7302250 by omega) ?_
  refine aw_icmp_eq (tgt := 1669) dL_law_876 (by decide) (fun _ => ?_) (fun hc => absurd he hc)
  refine aw_widen (k := 100 + t + 1) (n := 90000 + 5 * t + 5) (by omega) (by omega) ?_
  exact K p2.2 gb hrel
set_option maxRecDepth 100000 in
set_option maxHeartbeats 200000 in
/-- greedy -/
theorem lq_20 {l : Launch} {X : ax_X} {nm : String} {Rel : sx_M → Prop} (hst : st_ok_20 Rel) (hX : X.2.2.2.2.1 ≤ 3072) (t : Nat) (ht : 6 * t + 6 ≤ X.2.2.2.2.1) (s : sx_M) (gb : ax_H) (hs : Rel s) (K : ∀ (s : sx_M) (gb : ax_H), Rel s → LW l X nm (100 + t + 1) (90000 + 5 * t + 5) 1669 [some (.float 0), some (.ref 0), some (.ref 58), some (.int (nI (6 * t)))] [] (hp s gb)) : LW l X nm (100 + t) (90000 + 5 * t) 881 [some (.float 0), some (.ref 0), some (.ref 58), some (.int (nI (6 * t)))] [] (hp s gb) := by
  obtain ⟨p1, p2, hf1, hf2, he, hrel⟩ := hst (X.2.2.2.2.2 (6 * t + 1)) s hs
  refine aw_aload_n dL_law_881 rfl rfl ?_
  refine aw_aload_nX dL_law_882 rfl rfl ?_
  refine aw_iload_n dL_law_883 rfl rfl ?_
  refine aw_iconst (v := 1) dL_law_884 (by decide) ?_
  refine aw_iadd dL_law_885 ?_
  refine aw_sc (6 * t + 1) (nI_add (6 * t) 1) (by omega) (by omega) dL_law_886 ?_
  refine aw_gVl (b := 0) (As := [.int (X.2.2.2.2.2 (6 * t + 1))]) (st := []) dL_law_887 cl_L_104 iv_X11_greedy (k_X11_greedy (Q := (fun v h' => v = some (.long p1.1) ∧ h' = hp p1.2 gb)) (X.2.2.2.2.2 (6 * t + 1)) s gb hf1 ⟨rfl, rfl⟩) (ci := 11) rfl (hp_get sh_0) rfl rfl rfl (Nat.le_of_ble_eq_true rfl) ⟨Nat.le_of_ble_eq_true rfl, Nat.le_of_ble_eq_true rfl⟩ (show _ ≤ 600000 by omega) (show _ ≤ 7302250 by omega) ?_
  refine aw_aload_n dL_law_890 rfl rfl ?_
  refine aw_aload_nX dL_law_891 rfl rfl ?_
  refine aw_iload_n dL_law_892 rfl rfl ?_
  refine aw_iconst (v := 1) dL_law_893 (by decide) ?_
  refine aw_iadd dL_law_894 ?_
  refine aw_sc (6 * t + 1) (nI_add (6 * t) 1) (by omega) (by omega) dL_law_895 ?_
  refine aw_gVl (b := 58) (As := [.int (X.2.2.2.2.2 (6 * t + 1))]) (st := [.long p1.1]) dL_law_896 cl_L_107 iv_X12_greedy (k_X12_greedy (Q := (fun v h' => v = some (.long p2.1) ∧ h' = hp p2.2 gb)) (X.2.2.2.2.2 (6 * t + 1)) p1.2 gb hf2 ⟨rfl, rfl⟩) (ci := 12) rfl (hp_get sh_58) rfl rfl rfl (Nat.le_of_ble_eq_true rfl) ⟨Nat.le_of_ble_eq_true rfl, Nat.le_of_ble_eq_true rfl⟩ (show _ ≤ 600000 by omega) (show _ ≤ 7302250 by omega) ?_
  refine aw_lcmp_eq (tgt := 1669) dL_law_899 dL_law_900 (by decide) (fun _ => ?_) (fun hc => absurd he hc)
  refine aw_widen (k := 100 + t + 1) (n := 90000 + 5 * t + 5) (by omega) (by omega) ?_
  exact K p2.2 gb hrel
set_option maxRecDepth 100000 in
set_option maxHeartbeats 200000 in
/-- greedyJob -/
theorem lq_21 {l : Launch} {X : ax_X} {nm : String} {Rel : sx_M → Prop} (hst : st_ok_21 Rel) (hX : X.2.2.2.2.1 ≤ 3072) (t : Nat) (ht : 6 * t + 6 ≤ X.2.2.2.2.1) (s : sx_M) (gb : ax_H) (hs : Rel s) (K : ∀ (s : sx_M) (gb : ax_H), Rel s → LW l X nm (100 + t + 1) (90000 + 5 * t + 5) 1669 [some (.float 0), some (.ref 0), some (.ref 58), some (.int (nI (6 * t)))] [] (hp s gb)) : LW l X nm (100 + t) (90000 + 5 * t) 905 [some (.float 0), some (.ref 0), some (.ref 58), some (.int (nI (6 * t)))] [] (hp s gb) := by
  obtain ⟨p1, p2, hf1, hf2, he, hrel⟩ := hst (X.2.2.2.2.2 (6 * t + 1)) s hs
  refine aw_aload_n dL_law_905 rfl rfl ?_
  refine aw_aload_nX dL_law_906 rfl rfl ?_
  refine aw_iload_n dL_law_907 rfl rfl ?_
  refine aw_iconst (v := 1) dL_law_908 (by decide) ?_
  refine aw_iadd dL_law_909 ?_
  refine aw_sc (6 * t + 1) (nI_add (6 * t) 1) (by omega) (by omega) dL_law_910 ?_
  refine aw_gVi (b := 0) (As := [.int (X.2.2.2.2.2 (6 * t + 1))]) (st := []) dL_law_911 cl_L_108 iv_X11_greedyJob (k_X11_greedyJob (Q := (fun v h' => v = some (.int p1.1) ∧ h' = hp p1.2 gb)) (X.2.2.2.2.2 (6 * t + 1)) s gb hf1 ⟨rfl, rfl⟩) (ci := 11) rfl (hp_get sh_0) rfl rfl rfl (Nat.le_of_ble_eq_true rfl) ⟨Nat.le_of_ble_eq_true rfl, Nat.le_of_ble_eq_true rfl⟩ (show _ ≤ 600000 by omega) (show _ ≤ 7302250 by omega) ?_
  refine aw_aload_n dL_law_914 rfl rfl ?_
  refine aw_aload_nX dL_law_915 rfl rfl ?_
  refine aw_iload_n dL_law_916 rfl rfl ?_
  refine aw_iconst (v := 1) dL_law_917 (by decide) ?_
  refine aw_iadd dL_law_918 ?_
  refine aw_sc (6 * t + 1) (nI_add (6 * t) 1) (by omega) (by omega) dL_law_919 ?_
  refine aw_gVi (b := 58) (As := [.int (X.2.2.2.2.2 (6 * t + 1))]) (st := [.int p1.1]) dL_law_920 cl_L_111 iv_X12_greedyJob (k_X12_greedyJob (Q := (fun v h' => v = some (.int p2.1) ∧ h' = hp p2.2 gb)) (X.2.2.2.2.2 (6 * t + 1)) p1.2 gb hf2 ⟨rfl, rfl⟩) (ci := 12) rfl (hp_get sh_58) rfl rfl rfl (Nat.le_of_ble_eq_true rfl) ⟨Nat.le_of_ble_eq_true rfl, Nat.le_of_ble_eq_true rfl⟩ (show _ ≤ 600000 by omega) (show _ ≤ 7302250 by omega) ?_
  refine aw_icmp_eq (tgt := 1669) dL_law_923 (by decide) (fun _ => ?_) (fun hc => absurd he hc)
  refine aw_widen (k := 100 + t + 1) (n := 90000 + 5 * t + 5) (by omega) (by omega) ?_
  exact K p2.2 gb hrel
set_option maxRecDepth 100000 in
set_option maxHeartbeats 200000 in
/-- mended -/
theorem lq_22 {l : Launch} {X : ax_X} {nm : String} {Rel : sx_M → Prop} (hst : st_ok_22 Rel) (hX : X.2.2.2.2.1 ≤ 3072) (t : Nat) (ht : 6 * t + 6 ≤ X.2.2.2.2.1) (s : sx_M) (gb : ax_H) (hs : Rel s) (K : ∀ (s : sx_M) (gb : ax_H), Rel s → LW l X nm (100 + t + 1) (90000 + 5 * t + 5) 1669 [some (.float 0), some (.ref 0), some (.ref 58), some (.int (nI (6 * t)))] [] (hp s gb)) : LW l X nm (100 + t) (90000 + 5 * t) 928 [some (.float 0), some (.ref 0), some (.ref 58), some (.int (nI (6 * t)))] [] (hp s gb) := by
  obtain ⟨p1, p2, hf1, hf2, he, hrel⟩ := hst (X.2.2.2.2.2 (6 * t + 1)) s hs
  refine aw_aload_n dL_law_928 rfl rfl ?_
  refine aw_aload_nX dL_law_929 rfl rfl ?_
  refine aw_iload_n dL_law_930 rfl rfl ?_
  refine aw_iconst (v := 1) dL_law_931 (by decide) ?_
  refine aw_iadd dL_law_932 ?_
  refine aw_sc (6 * t + 1) (nI_add (6 * t) 1) (by omega) (by omega) dL_law_933 ?_
  refine aw_gVl (b := 0) (As := [.int (X.2.2.2.2.2 (6 * t + 1))]) (st := []) dL_law_934 cl_L_112 iv_X11_mended (k_X11_mended (Q := (fun v h' => v = some (.long p1.1) ∧ h' = hp p1.2 gb)) (X.2.2.2.2.2 (6 * t + 1)) s gb hf1 ⟨rfl, rfl⟩) (ci := 11) rfl (hp_get sh_0) rfl rfl rfl (Nat.le_of_ble_eq_true rfl) ⟨Nat.le_of_ble_eq_true rfl, Nat.le_of_ble_eq_true rfl⟩ (show _ ≤ 600000 by omega) (show _ ≤ 7302250 by omega) ?_
  refine aw_aload_n dL_law_937 rfl rfl ?_
  refine aw_aload_nX dL_law_938 rfl rfl ?_
  refine aw_iload_n dL_law_939 rfl rfl ?_
  refine aw_iconst (v := 1) dL_law_940 (by decide) ?_
  refine aw_iadd dL_law_941 ?_
  refine aw_sc (6 * t + 1) (nI_add (6 * t) 1) (by omega) (by omega) dL_law_942 ?_
  refine aw_gVl (b := 58) (As := [.int (X.2.2.2.2.2 (6 * t + 1))]) (st := [.long p1.1]) dL_law_943 cl_L_115 iv_X12_mended (k_X12_mended (Q := (fun v h' => v = some (.long p2.1) ∧ h' = hp p2.2 gb)) (X.2.2.2.2.2 (6 * t + 1)) p1.2 gb hf2 ⟨rfl, rfl⟩) (ci := 12) rfl (hp_get sh_58) rfl rfl rfl (Nat.le_of_ble_eq_true rfl) ⟨Nat.le_of_ble_eq_true rfl, Nat.le_of_ble_eq_true rfl⟩ (show _ ≤ 600000 by omega) (show _ ≤ 7302250 by omega) ?_
  refine aw_lcmp_eq (tgt := 1669) dL_law_946 dL_law_947 (by decide) (fun _ => ?_) (fun hc => absurd he hc)
  refine aw_widen (k := 100 + t + 1) (n := 90000 + 5 * t + 5) (by omega) (by omega) ?_
  exact K p2.2 gb hrel
set_option maxRecDepth 100000 in
set_option maxHeartbeats 200000 in
/-- auction -/
theorem lq_23 {l : Launch} {X : ax_X} {nm : String} {Rel : sx_M → Prop} (hst : st_ok_23 Rel) (hX : X.2.2.2.2.1 ≤ 3072) (t : Nat) (ht : 6 * t + 6 ≤ X.2.2.2.2.1) (s : sx_M) (gb : ax_H) (hs : Rel s) (K : ∀ (s : sx_M) (gb : ax_H), Rel s → LW l X nm (100 + t + 1) (90000 + 5 * t + 5) 1669 [some (.float 0), some (.ref 0), some (.ref 58), some (.int (nI (6 * t)))] [] (hp s gb)) : LW l X nm (100 + t) (90000 + 5 * t) 952 [some (.float 0), some (.ref 0), some (.ref 58), some (.int (nI (6 * t)))] [] (hp s gb) := by
  obtain ⟨p1, p2, hf1, hf2, he, hrel⟩ := hst (X.2.2.2.2.2 (6 * t + 1)) (X.2.2.2.2.2 (6 * t + 2)) s hs
  refine aw_aload_n dL_law_952 rfl rfl ?_
  refine aw_aload_nX dL_law_953 rfl rfl ?_
  refine aw_iload_n dL_law_954 rfl rfl ?_
  refine aw_iconst (v := 1) dL_law_955 (by decide) ?_
  refine aw_iadd dL_law_956 ?_
  refine aw_sc (6 * t + 1) (nI_add (6 * t) 1) (by omega) (by omega) dL_law_957 ?_
  refine aw_aload_nX dL_law_958 rfl rfl ?_
  refine aw_iload_n dL_law_959 rfl rfl ?_
  refine aw_iconst (v := 2) dL_law_960 (by decide) ?_
  refine aw_iadd dL_law_961 ?_
  refine aw_sc (6 * t + 2) (nI_add (6 * t) 2) (by omega) (by omega) dL_law_962 ?_
  refine aw_gVl (b := 0) (As := [.int (X.2.2.2.2.2 (6 * t + 1)), .int (X.2.2.2.2.2 (6 * t + 2))]) (st := []) dL_law_963 cl_L_116 iv_X11_auction (k_X11_auction (Q := (fun v h' => v = some (.long p1.1) ∧ h' = hp p1.2 gb)) (X.2.2.2.2.2 (6 * t + 1)) (X.2.2.2.2.2 (6 * t + 2)) s gb hf1 ⟨rfl, rfl⟩) (ci := 11) rfl (hp_get sh_0) rfl rfl rfl (Nat.le_of_ble_eq_true rfl) ⟨Nat.le_of_ble_eq_true rfl, Nat.le_of_ble_eq_true rfl⟩ (show _ ≤ 600000 by omega) (show _ ≤ 7302250 by omega) ?_
  refine aw_aload_n dL_law_966 rfl rfl ?_
  refine aw_aload_nX dL_law_967 rfl rfl ?_
  refine aw_iload_n dL_law_968 rfl rfl ?_
  refine aw_iconst (v := 1) dL_law_969 (by decide) ?_
  refine aw_iadd dL_law_970 ?_
  refine aw_sc (6 * t + 1) (nI_add (6 * t) 1) (by omega) (by omega) dL_law_971 ?_
  refine aw_aload_nX dL_law_972 rfl rfl ?_
  refine aw_iload_n dL_law_973 rfl rfl ?_
  refine aw_iconst (v := 2) dL_law_974 (by decide) ?_
  refine aw_iadd dL_law_975 ?_
  refine aw_sc (6 * t + 2) (nI_add (6 * t) 2) (by omega) (by omega) dL_law_976 ?_
  refine aw_gVl (b := 58) (As := [.int (X.2.2.2.2.2 (6 * t + 1)), .int (X.2.2.2.2.2 (6 * t + 2))]) (st := [.long p1.1]) dL_law_977 cl_L_119 iv_X12_auction (k_X12_auction (Q := (fun v h' => v = some (.long p2.1) ∧ h' = hp p2.2 gb)) (X.2.2.2.2.2 (6 * t + 1)) (X.2.2.2.2.2 (6 * t + 2)) p1.2 gb hf2 ⟨rfl, rfl⟩) (ci := 12) rfl (hp_get sh_58) rfl rfl rfl (Nat.le_of_ble_eq_true rfl) ⟨Nat.le_of_ble_eq_true rfl, Nat.le_of_ble_eq_true rfl⟩ (show _ ≤ 600000 by omega) (show _ ≤ 7302250 by omega) ?_
  refine aw_lcmp_eq (tgt := 1669) dL_law_980 dL_law_981 (by decide) (fun _ => ?_) (fun hc => absurd he hc)
  refine aw_widen (k := 100 + t + 1) (n := 90000 + 5 * t + 5) (by omega) (by omega) ?_
  exact K p2.2 gb hrel
set_option maxRecDepth 100000 in
set_option maxHeartbeats 200000 in
/-- auctionPrice -/
theorem lq_24 {l : Launch} {X : ax_X} {nm : String} {Rel : sx_M → Prop} (hst : st_ok_24 Rel) (hX : X.2.2.2.2.1 ≤ 3072) (t : Nat) (ht : 6 * t + 6 ≤ X.2.2.2.2.1) (s : sx_M) (gb : ax_H) (hs : Rel s) (K : ∀ (s : sx_M) (gb : ax_H), Rel s → LW l X nm (100 + t + 1) (90000 + 5 * t + 5) 1669 [some (.float 0), some (.ref 0), some (.ref 58), some (.int (nI (6 * t)))] [] (hp s gb)) : LW l X nm (100 + t) (90000 + 5 * t) 986 [some (.float 0), some (.ref 0), some (.ref 58), some (.int (nI (6 * t)))] [] (hp s gb) := by
  obtain ⟨p1, p2, hf1, hf2, he, hrel⟩ := hst (X.2.2.2.2.2 (6 * t + 1)) (X.2.2.2.2.2 (6 * t + 2)) s hs
  refine aw_aload_n dL_law_986 rfl rfl ?_
  refine aw_aload_nX dL_law_987 rfl rfl ?_
  refine aw_iload_n dL_law_988 rfl rfl ?_
  refine aw_iconst (v := 1) dL_law_989 (by decide) ?_
  refine aw_iadd dL_law_990 ?_
  refine aw_sc (6 * t + 1) (nI_add (6 * t) 1) (by omega) (by omega) dL_law_991 ?_
  refine aw_aload_nX dL_law_992 rfl rfl ?_
  refine aw_iload_n dL_law_993 rfl rfl ?_
  refine aw_iconst (v := 2) dL_law_994 (by decide) ?_
  refine aw_iadd dL_law_995 ?_
  refine aw_sc (6 * t + 2) (nI_add (6 * t) 2) (by omega) (by omega) dL_law_996 ?_
  refine aw_gVi (b := 0) (As := [.int (X.2.2.2.2.2 (6 * t + 1)), .int (X.2.2.2.2.2 (6 * t + 2))]) (st := []) dL_law_997 cl_L_120 iv_X11_auctionPrice (k_X11_auctionPrice (Q := (fun v h' => v = some (.int p1.1) ∧ h' = hp p1.2 gb)) (X.2.2.2.2.2 (6 * t + 1)) (X.2.2.2.2.2 (6 * t + 2)) s gb hf1 ⟨rfl, rfl⟩) (ci := 11) rfl (hp_get sh_0) rfl rfl rfl (Nat.le_of_ble_eq_true rfl) ⟨Nat.le_of_ble_eq_true rfl, Nat.le_of_ble_eq_true rfl⟩ (show _ ≤ 600000 by omega) (show _ ≤ 7302250 by omega) ?_
  refine aw_aload_n dL_law_1000 rfl rfl ?_
  refine aw_aload_nX dL_law_1001 rfl rfl ?_
  refine aw_iload_n dL_law_1002 rfl rfl ?_
  refine aw_iconst (v := 1) dL_law_1003 (by decide) ?_
  refine aw_iadd dL_law_1004 ?_
  refine aw_sc (6 * t + 1) (nI_add (6 * t) 1) (by omega) (by omega) dL_law_1005 ?_
  refine aw_aload_nX dL_law_1006 rfl rfl ?_
  refine aw_iload_n dL_law_1007 rfl rfl ?_
  refine aw_iconst (v := 2) dL_law_1008 (by decide) ?_
  refine aw_iadd dL_law_1009 ?_
  refine aw_sc (6 * t + 2) (nI_add (6 * t) 2) (by omega) (by omega) dL_law_1010 ?_
  refine aw_gVi (b := 58) (As := [.int (X.2.2.2.2.2 (6 * t + 1)), .int (X.2.2.2.2.2 (6 * t + 2))]) (st := [.int p1.1]) dL_law_1011 cl_L_123 iv_X12_auctionPrice (k_X12_auctionPrice (Q := (fun v h' => v = some (.int p2.1) ∧ h' = hp p2.2 gb)) (X.2.2.2.2.2 (6 * t + 1)) (X.2.2.2.2.2 (6 * t + 2)) p1.2 gb hf2 ⟨rfl, rfl⟩) (ci := 12) rfl (hp_get sh_58) rfl rfl rfl (Nat.le_of_ble_eq_true rfl) ⟨Nat.le_of_ble_eq_true rfl, Nat.le_of_ble_eq_true rfl⟩ (show _ ≤ 600000 by omega) (show _ ≤ 7302250 by omega) ?_
  refine aw_icmp_eq (tgt := 1669) dL_law_1014 (by decide) (fun _ => ?_) (fun hc => absurd he hc)
  refine aw_widen (k := 100 + t + 1) (n := 90000 + 5 * t + 5) (by omega) (by omega) ?_
  exact K p2.2 gb hrel
set_option maxRecDepth 100000 in
set_option maxHeartbeats 200000 in
/-- auctionJob -/
theorem lq_25 {l : Launch} {X : ax_X} {nm : String} {Rel : sx_M → Prop} (hst : st_ok_25 Rel) (hX : X.2.2.2.2.1 ≤ 3072) (t : Nat) (ht : 6 * t + 6 ≤ X.2.2.2.2.1) (s : sx_M) (gb : ax_H) (hs : Rel s) (K : ∀ (s : sx_M) (gb : ax_H), Rel s → LW l X nm (100 + t + 1) (90000 + 5 * t + 5) 1669 [some (.float 0), some (.ref 0), some (.ref 58), some (.int (nI (6 * t)))] [] (hp s gb)) : LW l X nm (100 + t) (90000 + 5 * t) 1019 [some (.float 0), some (.ref 0), some (.ref 58), some (.int (nI (6 * t)))] [] (hp s gb) := by
  obtain ⟨p1, p2, hf1, hf2, he, hrel⟩ := hst (X.2.2.2.2.2 (6 * t + 1)) (X.2.2.2.2.2 (6 * t + 2)) s hs
  refine aw_aload_n dL_law_1019 rfl rfl ?_
  refine aw_aload_nX dL_law_1020 rfl rfl ?_
  refine aw_iload_n dL_law_1021 rfl rfl ?_
  refine aw_iconst (v := 1) dL_law_1022 (by decide) ?_
  refine aw_iadd dL_law_1023 ?_
  refine aw_sc (6 * t + 1) (nI_add (6 * t) 1) (by omega) (by omega) dL_law_1024 ?_
  refine aw_aload_nX dL_law_1025 rfl rfl ?_
  refine aw_iload_n dL_law_1026 rfl rfl ?_
  refine aw_iconst (v := 2) dL_law_1027 (by decide) ?_
  refine aw_iadd dL_law_1028 ?_
  refine aw_sc (6 * t + 2) (nI_add (6 * t) 2) (by omega) (by omega) dL_law_1029 ?_
  refine aw_gVi (b := 0) (As := [.int (X.2.2.2.2.2 (6 * t + 1)), .int (X.2.2.2.2.2 (6 * t + 2))]) (st := []) dL_law_1030 cl_L_124 iv_X11_auctionJob (k_X11_auctionJob (Q := (fun v h' => v = some (.int p1.1) ∧ h' = hp p1.2 gb)) (X.2.2.2.2.2 (6 * t + 1)) (X.2.2.2.2.2 (6 * t + 2)) s gb hf1 ⟨rfl, rfl⟩) (ci := 11) rfl (hp_get sh_0) rfl rfl rfl (Nat.le_of_ble_eq_true rfl) ⟨Nat.le_of_ble_eq_true rfl, Nat.le_of_ble_eq_true rfl⟩ (show _ ≤ 600000 by omega) (show _ ≤ 7302250 by omega) ?_
  refine aw_aload_n dL_law_1033 rfl rfl ?_
  refine aw_aload_nX dL_law_1034 rfl rfl ?_
  refine aw_iload_n dL_law_1035 rfl rfl ?_
  refine aw_iconst (v := 1) dL_law_1036 (by decide) ?_
  refine aw_iadd dL_law_1037 ?_
  refine aw_sc (6 * t + 1) (nI_add (6 * t) 1) (by omega) (by omega) dL_law_1038 ?_
  refine aw_aload_nX dL_law_1039 rfl rfl ?_
  refine aw_iload_n dL_law_1040 rfl rfl ?_
  refine aw_iconst (v := 2) dL_law_1041 (by decide) ?_
  refine aw_iadd dL_law_1042 ?_
  refine aw_sc (6 * t + 2) (nI_add (6 * t) 2) (by omega) (by omega) dL_law_1043 ?_
  refine aw_gVi (b := 58) (As := [.int (X.2.2.2.2.2 (6 * t + 1)), .int (X.2.2.2.2.2 (6 * t + 2))]) (st := [.int p1.1]) dL_law_1044 cl_L_127 iv_X12_auctionJob (k_X12_auctionJob (Q := (fun v h' => v = some (.int p2.1) ∧ h' = hp p2.2 gb)) (X.2.2.2.2.2 (6 * t + 1)) (X.2.2.2.2.2 (6 * t + 2)) p1.2 gb hf2 ⟨rfl, rfl⟩) (ci := 12) rfl (hp_get sh_58) rfl rfl rfl (Nat.le_of_ble_eq_true rfl) ⟨Nat.le_of_ble_eq_true rfl, Nat.le_of_ble_eq_true rfl⟩ (show _ ≤ 600000 by omega) (show _ ≤ 7302250 by omega) ?_
  refine aw_icmp_eq (tgt := 1669) dL_law_1047 (by decide) (fun _ => ?_) (fun hc => absurd he hc)
  refine aw_widen (k := 100 + t + 1) (n := 90000 + 5 * t + 5) (by omega) (by omega) ?_
  exact K p2.2 gb hrel
set_option maxRecDepth 100000 in
set_option maxHeartbeats 200000 in
/-- drawn -/
theorem lq_26 {l : Launch} {X : ax_X} {nm : String} {Rel : sx_M → Prop} (hst : st_ok_26 Rel) (hX : X.2.2.2.2.1 ≤ 3072) (t : Nat) (ht : 6 * t + 6 ≤ X.2.2.2.2.1) (s : sx_M) (gb : ax_H) (hs : Rel s) (K : ∀ (s : sx_M) (gb : ax_H), Rel s → LW l X nm (100 + t + 1) (90000 + 5 * t + 5) 1669 [some (.float 0), some (.ref 0), some (.ref 58), some (.int (nI (6 * t)))] [] (hp s gb)) : LW l X nm (100 + t) (90000 + 5 * t) 1052 [some (.float 0), some (.ref 0), some (.ref 58), some (.int (nI (6 * t)))] [] (hp s gb) := by
  obtain ⟨p1, p2, hf1, hf2, he, hrel⟩ := hst (((X.2.2.2.2.2 (6 * t + 1)).toInt64 <<< ((32 : Int32).toInt64 &&& 63)) ||| ((X.2.2.2.2.2 (6 * t + 2)).toInt64 &&& (4294967295 : Int64))) s hs
  refine aw_aload_n dL_law_1052 rfl rfl ?_
  refine aw_aload_nX dL_law_1053 rfl rfl ?_
  refine aw_iload_n dL_law_1054 rfl rfl ?_
  refine aw_iconst (v := 1) dL_law_1055 (by decide) ?_
  refine aw_iadd dL_law_1056 ?_
  refine aw_sc (6 * t + 1) (nI_add (6 * t) 1) (by omega) (by omega) dL_law_1057 ?_
  refine aw_i2l dL_law_1058 ?_
  refine aw_bipush (v := 32) dL_law_1059 (by decide) ?_
  refine aw_lshl dL_law_1061 ?_
  refine aw_aload_nX dL_law_1062 rfl rfl ?_
  refine aw_iload_n dL_law_1063 rfl rfl ?_
  refine aw_iconst (v := 2) dL_law_1064 (by decide) ?_
  refine aw_iadd dL_law_1065 ?_
  refine aw_sc (6 * t + 2) (nI_add (6 * t) 2) (by omega) (by omega) dL_law_1066 ?_
  refine aw_i2l dL_law_1067 ?_
  refine aw_ldc2 dL_law_1068 kc_L_55 ?_
  refine aw_land dL_law_1071 ?_
  refine aw_lor dL_law_1072 ?_
  refine aw_gVi (b := 0) (As := [.long (((X.2.2.2.2.2 (6 * t + 1)).toInt64 <<< ((32 : Int32).toInt64 &&& 63)) ||| ((X.2.2.2.2.2 (6 * t + 2)).toInt64 &&& (4294967295 : Int64)))]) (st := []) dL_law_1073 cl_L_128 iv_X11_drawn (k_X11_drawn (Q := (fun v h' => v = some (.int p1.1) ∧ h' = hp p1.2 gb)) (((X.2.2.2.2.2 (6 * t + 1)).toInt64 <<< ((32 : Int32).toInt64 &&& 63)) ||| ((X.2.2.2.2.2 (6 * t + 2)).toInt64 &&& (4294967295 : Int64))) s gb hf1 ⟨rfl, rfl⟩) (ci := 11) rfl (hp_get sh_0) rfl rfl rfl (Nat.le_of_ble_eq_true rfl) ⟨Nat.le_of_ble_eq_true rfl, Nat.le_of_ble_eq_true rfl⟩ (show _ ≤ 600000 by omega) (show _ ≤ 7302250 by omega) ?_
  refine aw_aload_n dL_law_1076 rfl rfl ?_
  refine aw_aload_nX dL_law_1077 rfl rfl ?_
  refine aw_iload_n dL_law_1078 rfl rfl ?_
  refine aw_iconst (v := 1) dL_law_1079 (by decide) ?_
  refine aw_iadd dL_law_1080 ?_
  refine aw_sc (6 * t + 1) (nI_add (6 * t) 1) (by omega) (by omega) dL_law_1081 ?_
  refine aw_i2l dL_law_1082 ?_
  refine aw_bipush (v := 32) dL_law_1083 (by decide) ?_
  refine aw_lshl dL_law_1085 ?_
  refine aw_aload_nX dL_law_1086 rfl rfl ?_
  refine aw_iload_n dL_law_1087 rfl rfl ?_
  refine aw_iconst (v := 2) dL_law_1088 (by decide) ?_
  refine aw_iadd dL_law_1089 ?_
  refine aw_sc (6 * t + 2) (nI_add (6 * t) 2) (by omega) (by omega) dL_law_1090 ?_
  refine aw_i2l dL_law_1091 ?_
  refine aw_ldc2 dL_law_1092 kc_L_55 ?_
  refine aw_land dL_law_1095 ?_
  refine aw_lor dL_law_1096 ?_
  refine aw_gVi (b := 58) (As := [.long (((X.2.2.2.2.2 (6 * t + 1)).toInt64 <<< ((32 : Int32).toInt64 &&& 63)) ||| ((X.2.2.2.2.2 (6 * t + 2)).toInt64 &&& (4294967295 : Int64)))]) (st := [.int p1.1]) dL_law_1097 cl_L_131 iv_X12_drawn (k_X12_drawn (Q := (fun v h' => v = some (.int p2.1) ∧ h' = hp p2.2 gb)) (((X.2.2.2.2.2 (6 * t + 1)).toInt64 <<< ((32 : Int32).toInt64 &&& 63)) ||| ((X.2.2.2.2.2 (6 * t + 2)).toInt64 &&& (4294967295 : Int64))) p1.2 gb hf2 ⟨rfl, rfl⟩) (ci := 12) rfl (hp_get sh_58) rfl rfl rfl (Nat.le_of_ble_eq_true rfl) ⟨Nat.le_of_ble_eq_true rfl, Nat.le_of_ble_eq_true rfl⟩ (show _ ≤ 600000 by omega) (show _ ≤ 7302250 by omega) ?_
  refine aw_icmp_eq (tgt := 1669) dL_law_1100 (by decide) (fun _ => ?_) (fun hc => absurd he hc)
  refine aw_widen (k := 100 + t + 1) (n := 90000 + 5 * t + 5) (by omega) (by omega) ?_
  exact K p2.2 gb hrel
set_option maxRecDepth 100000 in
set_option maxHeartbeats 200000 in
/-- least -/
theorem lq_27 {l : Launch} {X : ax_X} {nm : String} {Rel : sx_M → Prop} (hst : st_ok_27 Rel) (hX : X.2.2.2.2.1 ≤ 3072) (t : Nat) (ht : 6 * t + 6 ≤ X.2.2.2.2.1) (s : sx_M) (gb : ax_H) (hs : Rel s) (K : ∀ (s : sx_M) (gb : ax_H), Rel s → LW l X nm (100 + t + 1) (90000 + 5 * t + 5) 1669 [some (.float 0), some (.ref 0), some (.ref 58), some (.int (nI (6 * t)))] [] (hp s gb)) : LW l X nm (100 + t) (90000 + 5 * t) 1105 [some (.float 0), some (.ref 0), some (.ref 58), some (.int (nI (6 * t)))] [] (hp s gb) := by
  obtain ⟨p1, p2, hf1, hf2, he, hrel⟩ := hst (X.2.2.2.2.2 (6 * t + 1)) (X.2.2.2.2.2 (6 * t + 2)) s hs
  refine aw_aload_n dL_law_1105 rfl rfl ?_
  refine aw_aload_nX dL_law_1106 rfl rfl ?_
  refine aw_iload_n dL_law_1107 rfl rfl ?_
  refine aw_iconst (v := 1) dL_law_1108 (by decide) ?_
  refine aw_iadd dL_law_1109 ?_
  refine aw_sc (6 * t + 1) (nI_add (6 * t) 1) (by omega) (by omega) dL_law_1110 ?_
  refine aw_aload_nX dL_law_1111 rfl rfl ?_
  refine aw_iload_n dL_law_1112 rfl rfl ?_
  refine aw_iconst (v := 2) dL_law_1113 (by decide) ?_
  refine aw_iadd dL_law_1114 ?_
  refine aw_sc (6 * t + 2) (nI_add (6 * t) 2) (by omega) (by omega) dL_law_1115 ?_
  refine aw_gVl (b := 0) (As := [.int (X.2.2.2.2.2 (6 * t + 1)), .int (X.2.2.2.2.2 (6 * t + 2))]) (st := []) dL_law_1116 cl_L_132 iv_X11_least (k_X11_least (Q := (fun v h' => v = some (.long p1.1) ∧ h' = hp p1.2 gb)) (X.2.2.2.2.2 (6 * t + 1)) (X.2.2.2.2.2 (6 * t + 2)) s gb hf1 ⟨rfl, rfl⟩) (ci := 11) rfl (hp_get sh_0) rfl rfl rfl (Nat.le_of_ble_eq_true rfl) ⟨Nat.le_of_ble_eq_true rfl, Nat.le_of_ble_eq_true rfl⟩ (show _ ≤ 600000 by omega) (show _ ≤ 7302250 by omega) ?_
  refine aw_aload_n dL_law_1119 rfl rfl ?_
  refine aw_aload_nX dL_law_1120 rfl rfl ?_
  refine aw_iload_n dL_law_1121 rfl rfl ?_
  refine aw_iconst (v := 1) dL_law_1122 (by decide) ?_
  refine aw_iadd dL_law_1123 ?_
  refine aw_sc (6 * t + 1) (nI_add (6 * t) 1) (by omega) (by omega) dL_law_1124 ?_
  refine aw_aload_nX dL_law_1125 rfl rfl ?_
  refine aw_iload_n dL_law_1126 rfl rfl ?_
  refine aw_iconst (v := 2) dL_law_1127 (by decide) ?_
  refine aw_iadd dL_law_1128 ?_
  refine aw_sc (6 * t + 2) (nI_add (6 * t) 2) (by omega) (by omega) dL_law_1129 ?_
  refine aw_gVl (b := 58) (As := [.int (X.2.2.2.2.2 (6 * t + 1)), .int (X.2.2.2.2.2 (6 * t + 2))]) (st := [.long p1.1]) dL_law_1130 cl_L_135 iv_X12_least_ (k_X12_least_ (Q := (fun v h' => v = some (.long p2.1) ∧ h' = hp p2.2 gb)) (X.2.2.2.2.2 (6 * t + 1)) (X.2.2.2.2.2 (6 * t + 2)) p1.2 gb hf2 ⟨rfl, rfl⟩) (ci := 12) rfl (hp_get sh_58) rfl rfl rfl (Nat.le_of_ble_eq_true rfl) ⟨Nat.le_of_ble_eq_true rfl, Nat.le_of_ble_eq_true rfl⟩ (show _ ≤ 600000 by omega) (show _ ≤ 7302250 by omega) ?_
  refine aw_lcmp_eq (tgt := 1669) dL_law_1133 dL_law_1134 (by decide) (fun _ => ?_) (fun hc => absurd he hc)
  refine aw_widen (k := 100 + t + 1) (n := 90000 + 5 * t + 5) (by omega) (by omega) ?_
  exact K p2.2 gb hrel
set_option maxRecDepth 100000 in
set_option maxHeartbeats 200000 in
/-- loss -/
theorem lq_28 {l : Launch} {X : ax_X} {nm : String} {Rel : sx_M → Prop} (hst : st_ok_28 Rel) (hX : X.2.2.2.2.1 ≤ 3072) (t : Nat) (ht : 6 * t + 6 ≤ X.2.2.2.2.1) (s : sx_M) (gb : ax_H) (hs : Rel s) (K : ∀ (s : sx_M) (gb : ax_H), Rel s → LW l X nm (100 + t + 1) (90000 + 5 * t + 5) 1669 [some (.float 0), some (.ref 0), some (.ref 58), some (.int (nI (6 * t)))] [] (hp s gb)) : LW l X nm (100 + t) (90000 + 5 * t) 1139 [some (.float 0), some (.ref 0), some (.ref 58), some (.int (nI (6 * t)))] [] (hp s gb) := by
  obtain ⟨p1, p2, hf1, hf2, he, hrel⟩ := hst (X.2.2.2.2.2 (6 * t + 1)) s hs
  refine aw_aload_n dL_law_1139 rfl rfl ?_
  refine aw_aload_nX dL_law_1140 rfl rfl ?_
  refine aw_iload_n dL_law_1141 rfl rfl ?_
  refine aw_iconst (v := 1) dL_law_1142 (by decide) ?_
  refine aw_iadd dL_law_1143 ?_
  refine aw_sc (6 * t + 1) (nI_add (6 * t) 1) (by omega) (by omega) dL_law_1144 ?_
  refine aw_gVl (b := 0) (As := [.int (X.2.2.2.2.2 (6 * t + 1))]) (st := []) dL_law_1145 cl_L_136 iv_X11_loss (k_X11_loss (Q := (fun v h' => v = some (.long p1.1) ∧ h' = hp p1.2 gb)) (X.2.2.2.2.2 (6 * t + 1)) s gb hf1 ⟨rfl, rfl⟩) (ci := 11) rfl (hp_get sh_0) rfl rfl rfl (Nat.le_of_ble_eq_true rfl) ⟨Nat.le_of_ble_eq_true rfl, Nat.le_of_ble_eq_true rfl⟩ (show _ ≤ 600000 by omega) (show _ ≤ 7302250 by omega) ?_
  refine aw_aload_n dL_law_1148 rfl rfl ?_
  refine aw_aload_nX dL_law_1149 rfl rfl ?_
  refine aw_iload_n dL_law_1150 rfl rfl ?_
  refine aw_iconst (v := 1) dL_law_1151 (by decide) ?_
  refine aw_iadd dL_law_1152 ?_
  refine aw_sc (6 * t + 1) (nI_add (6 * t) 1) (by omega) (by omega) dL_law_1153 ?_
  refine aw_gVl (b := 58) (As := [.int (X.2.2.2.2.2 (6 * t + 1))]) (st := [.long p1.1]) dL_law_1154 cl_L_139 iv_X12_loss (k_X12_loss (Q := (fun v h' => v = some (.long p2.1) ∧ h' = hp p2.2 gb)) (X.2.2.2.2.2 (6 * t + 1)) p1.2 gb hf2 ⟨rfl, rfl⟩) (ci := 12) rfl (hp_get sh_58) rfl rfl rfl (Nat.le_of_ble_eq_true rfl) ⟨Nat.le_of_ble_eq_true rfl, Nat.le_of_ble_eq_true rfl⟩ (show _ ≤ 600000 by omega) (show _ ≤ 7302250 by omega) ?_
  refine aw_lcmp_eq (tgt := 1669) dL_law_1157 dL_law_1158 (by decide) (fun _ => ?_) (fun hc => absurd he hc)
  refine aw_widen (k := 100 + t + 1) (n := 90000 + 5 * t + 5) (by omega) (by omega) ?_
  exact K p2.2 gb hrel
set_option maxRecDepth 100000 in
set_option maxHeartbeats 200000 in
/-- dearest -/
theorem lq_29 {l : Launch} {X : ax_X} {nm : String} {Rel : sx_M → Prop} (hst : st_ok_29 Rel) (hX : X.2.2.2.2.1 ≤ 3072) (t : Nat) (ht : 6 * t + 6 ≤ X.2.2.2.2.1) (s : sx_M) (gb : ax_H) (hs : Rel s) (K : ∀ (s : sx_M) (gb : ax_H), Rel s → LW l X nm (100 + t + 1) (90000 + 5 * t + 5) 1669 [some (.float 0), some (.ref 0), some (.ref 58), some (.int (nI (6 * t)))] [] (hp s gb)) : LW l X nm (100 + t) (90000 + 5 * t) 1163 [some (.float 0), some (.ref 0), some (.ref 58), some (.int (nI (6 * t)))] [] (hp s gb) := by
  obtain ⟨p1, p2, hf1, hf2, he, hrel⟩ := hst (X.2.2.2.2.2 (6 * t + 1)) s hs
  refine aw_aload_n dL_law_1163 rfl rfl ?_
  refine aw_aload_nX dL_law_1164 rfl rfl ?_
  refine aw_iload_n dL_law_1165 rfl rfl ?_
  refine aw_iconst (v := 1) dL_law_1166 (by decide) ?_
  refine aw_iadd dL_law_1167 ?_
  refine aw_sc (6 * t + 1) (nI_add (6 * t) 1) (by omega) (by omega) dL_law_1168 ?_
  refine aw_gVl (b := 0) (As := [.int (X.2.2.2.2.2 (6 * t + 1))]) (st := []) dL_law_1169 cl_L_140 iv_X11_dearest (k_X11_dearest (Q := (fun v h' => v = some (.long p1.1) ∧ h' = hp p1.2 gb)) (X.2.2.2.2.2 (6 * t + 1)) s gb hf1 ⟨rfl, rfl⟩) (ci := 11) rfl (hp_get sh_0) rfl rfl rfl (Nat.le_of_ble_eq_true rfl) ⟨Nat.le_of_ble_eq_true rfl, Nat.le_of_ble_eq_true rfl⟩ (show _ ≤ 600000 by omega) (show _ ≤ 7302250 by omega) ?_
  refine aw_aload_n dL_law_1172 rfl rfl ?_
  refine aw_aload_nX dL_law_1173 rfl rfl ?_
  refine aw_iload_n dL_law_1174 rfl rfl ?_
  refine aw_iconst (v := 1) dL_law_1175 (by decide) ?_
  refine aw_iadd dL_law_1176 ?_
  refine aw_sc (6 * t + 1) (nI_add (6 * t) 1) (by omega) (by omega) dL_law_1177 ?_
  refine aw_gVl (b := 58) (As := [.int (X.2.2.2.2.2 (6 * t + 1))]) (st := [.long p1.1]) dL_law_1178 cl_L_143 iv_X12_dearest (k_X12_dearest (Q := (fun v h' => v = some (.long p2.1) ∧ h' = hp p2.2 gb)) (X.2.2.2.2.2 (6 * t + 1)) p1.2 gb hf2 ⟨rfl, rfl⟩) (ci := 12) rfl (hp_get sh_58) rfl rfl rfl (Nat.le_of_ble_eq_true rfl) ⟨Nat.le_of_ble_eq_true rfl, Nat.le_of_ble_eq_true rfl⟩ (show _ ≤ 600000 by omega) (show _ ≤ 7302250 by omega) ?_
  refine aw_lcmp_eq (tgt := 1669) dL_law_1181 dL_law_1182 (by decide) (fun _ => ?_) (fun hc => absurd he hc)
  refine aw_widen (k := 100 + t + 1) (n := 90000 + 5 * t + 5) (by omega) (by omega) ?_
  exact K p2.2 gb hrel
set_option maxRecDepth 100000 in
set_option maxHeartbeats 200000 in
/-- apart -/
theorem lq_30 {l : Launch} {X : ax_X} {nm : String} {Rel : sx_M → Prop} (hst : st_ok_30 Rel) (hX : X.2.2.2.2.1 ≤ 3072) (t : Nat) (ht : 6 * t + 6 ≤ X.2.2.2.2.1) (s : sx_M) (gb : ax_H) (hs : Rel s) (K : ∀ (s : sx_M) (gb : ax_H), Rel s → LW l X nm (100 + t + 1) (90000 + 5 * t + 5) 1669 [some (.float 0), some (.ref 0), some (.ref 58), some (.int (nI (6 * t)))] [] (hp s gb)) : LW l X nm (100 + t) (90000 + 5 * t) 1187 [some (.float 0), some (.ref 0), some (.ref 58), some (.int (nI (6 * t)))] [] (hp s gb) := by
  obtain ⟨p1, p2, hf1, hf2, he, hrel⟩ := hst (X.2.2.2.2.2 (6 * t + 1)) (X.2.2.2.2.2 (6 * t + 2)) s hs
  refine aw_aload_n dL_law_1187 rfl rfl ?_
  refine aw_aload_nX dL_law_1188 rfl rfl ?_
  refine aw_iload_n dL_law_1189 rfl rfl ?_
  refine aw_iconst (v := 1) dL_law_1190 (by decide) ?_
  refine aw_iadd dL_law_1191 ?_
  refine aw_sc (6 * t + 1) (nI_add (6 * t) 1) (by omega) (by omega) dL_law_1192 ?_
  refine aw_aload_nX dL_law_1193 rfl rfl ?_
  refine aw_iload_n dL_law_1194 rfl rfl ?_
  refine aw_iconst (v := 2) dL_law_1195 (by decide) ?_
  refine aw_iadd dL_law_1196 ?_
  refine aw_sc (6 * t + 2) (nI_add (6 * t) 2) (by omega) (by omega) dL_law_1197 ?_
  refine aw_gVi (b := 0) (As := [.int (X.2.2.2.2.2 (6 * t + 1)), .int (X.2.2.2.2.2 (6 * t + 2))]) (st := []) dL_law_1198 cl_L_144 iv_X11_apart (k_X11_apart (Q := (fun v h' => v = some (.int p1.1) ∧ h' = hp p1.2 gb)) (X.2.2.2.2.2 (6 * t + 1)) (X.2.2.2.2.2 (6 * t + 2)) s gb hf1 ⟨rfl, rfl⟩) (ci := 11) rfl (hp_get sh_0) rfl rfl rfl (Nat.le_of_ble_eq_true rfl) ⟨Nat.le_of_ble_eq_true rfl, Nat.le_of_ble_eq_true rfl⟩ (show _ ≤ 600000 by omega) (show _ ≤ 7302250 by omega) ?_
  refine aw_aload_n dL_law_1201 rfl rfl ?_
  refine aw_aload_nX dL_law_1202 rfl rfl ?_
  refine aw_iload_n dL_law_1203 rfl rfl ?_
  refine aw_iconst (v := 1) dL_law_1204 (by decide) ?_
  refine aw_iadd dL_law_1205 ?_
  refine aw_sc (6 * t + 1) (nI_add (6 * t) 1) (by omega) (by omega) dL_law_1206 ?_
  refine aw_aload_nX dL_law_1207 rfl rfl ?_
  refine aw_iload_n dL_law_1208 rfl rfl ?_
  refine aw_iconst (v := 2) dL_law_1209 (by decide) ?_
  refine aw_iadd dL_law_1210 ?_
  refine aw_sc (6 * t + 2) (nI_add (6 * t) 2) (by omega) (by omega) dL_law_1211 ?_
  refine aw_gVi (b := 58) (As := [.int (X.2.2.2.2.2 (6 * t + 1)), .int (X.2.2.2.2.2 (6 * t + 2))]) (st := [.int p1.1]) dL_law_1212 cl_L_147 iv_X12_apart (k_X12_apart (Q := (fun v h' => v = some (.int p2.1) ∧ h' = hp p2.2 gb)) (X.2.2.2.2.2 (6 * t + 1)) (X.2.2.2.2.2 (6 * t + 2)) p1.2 gb hf2 ⟨rfl, rfl⟩) (ci := 12) rfl (hp_get sh_58) rfl rfl rfl (Nat.le_of_ble_eq_true rfl) ⟨Nat.le_of_ble_eq_true rfl, Nat.le_of_ble_eq_true rfl⟩ (show _ ≤ 600000 by omega) (show _ ≤ 7302250 by omega) ?_
  refine aw_icmp_eq (tgt := 1669) dL_law_1215 (by decide) (fun _ => ?_) (fun hc => absurd he hc)
  refine aw_widen (k := 100 + t + 1) (n := 90000 + 5 * t + 5) (by omega) (by omega) ?_
  exact K p2.2 gb hrel
set_option maxRecDepth 100000 in
set_option maxHeartbeats 200000 in
/-- rounds -/
theorem lq_31 {l : Launch} {X : ax_X} {nm : String} {Rel : sx_M → Prop} (hst : st_ok_31 Rel) (hX : X.2.2.2.2.1 ≤ 3072) (t : Nat) (ht : 6 * t + 6 ≤ X.2.2.2.2.1) (s : sx_M) (gb : ax_H) (hs : Rel s) (K : ∀ (s : sx_M) (gb : ax_H), Rel s → LW l X nm (100 + t + 1) (90000 + 5 * t + 5) 1669 [some (.float 0), some (.ref 0), some (.ref 58), some (.int (nI (6 * t)))] [] (hp s gb)) : LW l X nm (100 + t) (90000 + 5 * t) 1220 [some (.float 0), some (.ref 0), some (.ref 58), some (.int (nI (6 * t)))] [] (hp s gb) := by
  obtain ⟨p1, p2, hf1, hf2, he, hrel⟩ := hst (X.2.2.2.2.2 (6 * t + 1)) (X.2.2.2.2.2 (6 * t + 2)) (X.2.2.2.2.2 (6 * t + 3)) s hs
  refine aw_aload_n dL_law_1220 rfl rfl ?_
  refine aw_aload_nX dL_law_1221 rfl rfl ?_
  refine aw_iload_n dL_law_1222 rfl rfl ?_
  refine aw_iconst (v := 1) dL_law_1223 (by decide) ?_
  refine aw_iadd dL_law_1224 ?_
  refine aw_sc (6 * t + 1) (nI_add (6 * t) 1) (by omega) (by omega) dL_law_1225 ?_
  refine aw_aload_nX dL_law_1226 rfl rfl ?_
  refine aw_iload_n dL_law_1227 rfl rfl ?_
  refine aw_iconst (v := 2) dL_law_1228 (by decide) ?_
  refine aw_iadd dL_law_1229 ?_
  refine aw_sc (6 * t + 2) (nI_add (6 * t) 2) (by omega) (by omega) dL_law_1230 ?_
  refine aw_aload_nX dL_law_1231 rfl rfl ?_
  refine aw_iload_n dL_law_1232 rfl rfl ?_
  refine aw_iconst (v := 3) dL_law_1233 (by decide) ?_
  refine aw_iadd dL_law_1234 ?_
  refine aw_sc (6 * t + 3) (nI_add (6 * t) 3) (by omega) (by omega) dL_law_1235 ?_
  refine aw_gVi (b := 0) (As := [.int (X.2.2.2.2.2 (6 * t + 1)), .int (X.2.2.2.2.2 (6 * t + 2)), .int (X.2.2.2.2.2 (6 * t + 3))]) (st := []) dL_law_1236 cl_L_148 iv_X11_rounds (k_X11_rounds (Q := (fun v h' => v = some (.int p1.1) ∧ h' = hp p1.2 gb)) (X.2.2.2.2.2 (6 * t + 1)) (X.2.2.2.2.2 (6 * t + 2)) (X.2.2.2.2.2 (6 * t + 3)) s gb hf1 ⟨rfl, rfl⟩) (ci := 11) rfl (hp_get sh_0) rfl rfl rfl (Nat.le_of_ble_eq_true rfl) ⟨Nat.le_of_ble_eq_true rfl, Nat.le_of_ble_eq_true rfl⟩ (show _ ≤ 600000 by omega) (show _ ≤ 7302250 by omega) ?_
  refine aw_aload_n dL_law_1239 rfl rfl ?_
  refine aw_aload_nX dL_law_1240 rfl rfl ?_
  refine aw_iload_n dL_law_1241 rfl rfl ?_
  refine aw_iconst (v := 1) dL_law_1242 (by decide) ?_
  refine aw_iadd dL_law_1243 ?_
  refine aw_sc (6 * t + 1) (nI_add (6 * t) 1) (by omega) (by omega) dL_law_1244 ?_
  refine aw_aload_nX dL_law_1245 rfl rfl ?_
  refine aw_iload_n dL_law_1246 rfl rfl ?_
  refine aw_iconst (v := 2) dL_law_1247 (by decide) ?_
  refine aw_iadd dL_law_1248 ?_
  refine aw_sc (6 * t + 2) (nI_add (6 * t) 2) (by omega) (by omega) dL_law_1249 ?_
  refine aw_aload_nX dL_law_1250 rfl rfl ?_
  refine aw_iload_n dL_law_1251 rfl rfl ?_
  refine aw_iconst (v := 3) dL_law_1252 (by decide) ?_
  refine aw_iadd dL_law_1253 ?_
  refine aw_sc (6 * t + 3) (nI_add (6 * t) 3) (by omega) (by omega) dL_law_1254 ?_
  refine aw_gVi (b := 58) (As := [.int (X.2.2.2.2.2 (6 * t + 1)), .int (X.2.2.2.2.2 (6 * t + 2)), .int (X.2.2.2.2.2 (6 * t + 3))]) (st := [.int p1.1]) dL_law_1255 cl_L_151 iv_X12_rounds (k_X12_rounds (Q := (fun v h' => v = some (.int p2.1) ∧ h' = hp p2.2 gb)) (X.2.2.2.2.2 (6 * t + 1)) (X.2.2.2.2.2 (6 * t + 2)) (X.2.2.2.2.2 (6 * t + 3)) p1.2 gb hf2 ⟨rfl, rfl⟩) (ci := 12) rfl (hp_get sh_58) rfl rfl rfl (Nat.le_of_ble_eq_true rfl) ⟨Nat.le_of_ble_eq_true rfl, Nat.le_of_ble_eq_true rfl⟩ (show _ ≤ 600000 by omega) (show _ ≤ 7302250 by omega) ?_
  refine aw_icmp_eq (tgt := 1669) dL_law_1258 (by decide) (fun _ => ?_) (fun hc => absurd he hc)
  refine aw_widen (k := 100 + t + 1) (n := 90000 + 5 * t + 5) (by omega) (by omega) ?_
  exact K p2.2 gb hrel
set_option maxRecDepth 100000 in
set_option maxHeartbeats 200000 in
/-- often -/
theorem lq_32 {l : Launch} {X : ax_X} {nm : String} {Rel : sx_M → Prop} (hst : st_ok_32 Rel) (hX : X.2.2.2.2.1 ≤ 3072) (t : Nat) (ht : 6 * t + 6 ≤ X.2.2.2.2.1) (s : sx_M) (gb : ax_H) (hs : Rel s) (K : ∀ (s : sx_M) (gb : ax_H), Rel s → LW l X nm (100 + t + 1) (90000 + 5 * t + 5) 1669 [some (.float 0), some (.ref 0), some (.ref 58), some (.int (nI (6 * t)))] [] (hp s gb)) : LW l X nm (100 + t) (90000 + 5 * t) 1263 [some (.float 0), some (.ref 0), some (.ref 58), some (.int (nI (6 * t)))] [] (hp s gb) := by
  obtain ⟨p1, p2, hf1, hf2, he, hrel⟩ := hst (X.2.2.2.2.2 (6 * t + 1)) (X.2.2.2.2.2 (6 * t + 2)) (X.2.2.2.2.2 (6 * t + 3)) s hs
  refine aw_aload_n dL_law_1263 rfl rfl ?_
  refine aw_aload_nX dL_law_1264 rfl rfl ?_
  refine aw_iload_n dL_law_1265 rfl rfl ?_
  refine aw_iconst (v := 1) dL_law_1266 (by decide) ?_
  refine aw_iadd dL_law_1267 ?_
  refine aw_sc (6 * t + 1) (nI_add (6 * t) 1) (by omega) (by omega) dL_law_1268 ?_
  refine aw_aload_nX dL_law_1269 rfl rfl ?_
  refine aw_iload_n dL_law_1270 rfl rfl ?_
  refine aw_iconst (v := 2) dL_law_1271 (by decide) ?_
  refine aw_iadd dL_law_1272 ?_
  refine aw_sc (6 * t + 2) (nI_add (6 * t) 2) (by omega) (by omega) dL_law_1273 ?_
  refine aw_aload_nX dL_law_1274 rfl rfl ?_
  refine aw_iload_n dL_law_1275 rfl rfl ?_
  refine aw_iconst (v := 3) dL_law_1276 (by decide) ?_
  refine aw_iadd dL_law_1277 ?_
  refine aw_sc (6 * t + 3) (nI_add (6 * t) 3) (by omega) (by omega) dL_law_1278 ?_
  refine aw_gVi (b := 0) (As := [.int (X.2.2.2.2.2 (6 * t + 1)), .int (X.2.2.2.2.2 (6 * t + 2)), .int (X.2.2.2.2.2 (6 * t + 3))]) (st := []) dL_law_1279 cl_L_152 iv_X11_often (k_X11_often (Q := (fun v h' => v = some (.int p1.1) ∧ h' = hp p1.2 gb)) (X.2.2.2.2.2 (6 * t + 1)) (X.2.2.2.2.2 (6 * t + 2)) (X.2.2.2.2.2 (6 * t + 3)) s gb hf1 ⟨rfl, rfl⟩) (ci := 11) rfl (hp_get sh_0) rfl rfl rfl (Nat.le_of_ble_eq_true rfl) ⟨Nat.le_of_ble_eq_true rfl, Nat.le_of_ble_eq_true rfl⟩ (show _ ≤ 600000 by omega) (show _ ≤ 7302250 by omega) ?_
  refine aw_aload_n dL_law_1282 rfl rfl ?_
  refine aw_aload_nX dL_law_1283 rfl rfl ?_
  refine aw_iload_n dL_law_1284 rfl rfl ?_
  refine aw_iconst (v := 1) dL_law_1285 (by decide) ?_
  refine aw_iadd dL_law_1286 ?_
  refine aw_sc (6 * t + 1) (nI_add (6 * t) 1) (by omega) (by omega) dL_law_1287 ?_
  refine aw_aload_nX dL_law_1288 rfl rfl ?_
  refine aw_iload_n dL_law_1289 rfl rfl ?_
  refine aw_iconst (v := 2) dL_law_1290 (by decide) ?_
  refine aw_iadd dL_law_1291 ?_
  refine aw_sc (6 * t + 2) (nI_add (6 * t) 2) (by omega) (by omega) dL_law_1292 ?_
  refine aw_aload_nX dL_law_1293 rfl rfl ?_
  refine aw_iload_n dL_law_1294 rfl rfl ?_
  refine aw_iconst (v := 3) dL_law_1295 (by decide) ?_
  refine aw_iadd dL_law_1296 ?_
  refine aw_sc (6 * t + 3) (nI_add (6 * t) 3) (by omega) (by omega) dL_law_1297 ?_
  refine aw_gVi (b := 58) (As := [.int (X.2.2.2.2.2 (6 * t + 1)), .int (X.2.2.2.2.2 (6 * t + 2)), .int (X.2.2.2.2.2 (6 * t + 3))]) (st := [.int p1.1]) dL_law_1298 cl_L_155 iv_X12_often (k_X12_often (Q := (fun v h' => v = some (.int p2.1) ∧ h' = hp p2.2 gb)) (X.2.2.2.2.2 (6 * t + 1)) (X.2.2.2.2.2 (6 * t + 2)) (X.2.2.2.2.2 (6 * t + 3)) p1.2 gb hf2 ⟨rfl, rfl⟩) (ci := 12) rfl (hp_get sh_58) rfl rfl rfl (Nat.le_of_ble_eq_true rfl) ⟨Nat.le_of_ble_eq_true rfl, Nat.le_of_ble_eq_true rfl⟩ (show _ ≤ 600000 by omega) (show _ ≤ 7302250 by omega) ?_
  refine aw_icmp_eq (tgt := 1669) dL_law_1301 (by decide) (fun _ => ?_) (fun hc => absurd he hc)
  refine aw_widen (k := 100 + t + 1) (n := 90000 + 5 * t + 5) (by omega) (by omega) ?_
  exact K p2.2 gb hrel
set_option maxRecDepth 100000 in
set_option maxHeartbeats 200000 in
/-- only -/
theorem lq_33 {l : Launch} {X : ax_X} {nm : String} {Rel : sx_M → Prop} (hst : st_ok_33 Rel) (hX : X.2.2.2.2.1 ≤ 3072) (t : Nat) (ht : 6 * t + 6 ≤ X.2.2.2.2.1) (s : sx_M) (gb : ax_H) (hs : Rel s) (K : ∀ (s : sx_M) (gb : ax_H), Rel s → LW l X nm (100 + t + 1) (90000 + 5 * t + 5) 1669 [some (.float 0), some (.ref 0), some (.ref 58), some (.int (nI (6 * t)))] [] (hp s gb)) : LW l X nm (100 + t) (90000 + 5 * t) 1306 [some (.float 0), some (.ref 0), some (.ref 58), some (.int (nI (6 * t)))] [] (hp s gb) := by
  obtain ⟨p1, p2, hf1, hf2, he, hrel⟩ := hst (X.2.2.2.2.2 (6 * t + 1)) s hs
  refine aw_aload_n dL_law_1306 rfl rfl ?_
  refine aw_aload_nX dL_law_1307 rfl rfl ?_
  refine aw_iload_n dL_law_1308 rfl rfl ?_
  refine aw_iconst (v := 1) dL_law_1309 (by decide) ?_
  refine aw_iadd dL_law_1310 ?_
  refine aw_sc (6 * t + 1) (nI_add (6 * t) 1) (by omega) (by omega) dL_law_1311 ?_
  refine aw_gVl (b := 0) (As := [.int (X.2.2.2.2.2 (6 * t + 1))]) (st := []) dL_law_1312 cl_L_156 iv_X11_only (k_X11_only (Q := (fun v h' => v = some (.long p1.1) ∧ h' = hp p1.2 gb)) (X.2.2.2.2.2 (6 * t + 1)) s gb hf1 ⟨rfl, rfl⟩) (ci := 11) rfl (hp_get sh_0) rfl rfl rfl (Nat.le_of_ble_eq_true rfl) ⟨Nat.le_of_ble_eq_true rfl, Nat.le_of_ble_eq_true rfl⟩ (show _ ≤ 600000 by omega) (show _ ≤ 7302250 by omega) ?_
  refine aw_aload_n dL_law_1315 rfl rfl ?_
  refine aw_aload_nX dL_law_1316 rfl rfl ?_
  refine aw_iload_n dL_law_1317 rfl rfl ?_
  refine aw_iconst (v := 1) dL_law_1318 (by decide) ?_
  refine aw_iadd dL_law_1319 ?_
  refine aw_sc (6 * t + 1) (nI_add (6 * t) 1) (by omega) (by omega) dL_law_1320 ?_
  refine aw_gVl (b := 58) (As := [.int (X.2.2.2.2.2 (6 * t + 1))]) (st := [.long p1.1]) dL_law_1321 cl_L_159 iv_X12_only (k_X12_only (Q := (fun v h' => v = some (.long p2.1) ∧ h' = hp p2.2 gb)) (X.2.2.2.2.2 (6 * t + 1)) p1.2 gb hf2 ⟨rfl, rfl⟩) (ci := 12) rfl (hp_get sh_58) rfl rfl rfl (Nat.le_of_ble_eq_true rfl) ⟨Nat.le_of_ble_eq_true rfl, Nat.le_of_ble_eq_true rfl⟩ (show _ ≤ 600000 by omega) (show _ ≤ 7302250 by omega) ?_
  refine aw_lcmp_eq (tgt := 1669) dL_law_1324 dL_law_1325 (by decide) (fun _ => ?_) (fun hc => absurd he hc)
  refine aw_widen (k := 100 + t + 1) (n := 90000 + 5 * t + 5) (by omega) (by omega) ?_
  exact K p2.2 gb hrel
set_option maxRecDepth 100000 in
set_option maxHeartbeats 200000 in
/-- blocked -/
theorem lq_34 {l : Launch} {X : ax_X} {nm : String} {Rel : sx_M → Prop} (hst : st_ok_34 Rel) (hX : X.2.2.2.2.1 ≤ 3072) (t : Nat) (ht : 6 * t + 6 ≤ X.2.2.2.2.1) (s : sx_M) (gb : ax_H) (hs : Rel s) (K : ∀ (s : sx_M) (gb : ax_H), Rel s → LW l X nm (100 + t + 1) (90000 + 5 * t + 5) 1669 [some (.float 0), some (.ref 0), some (.ref 58), some (.int (nI (6 * t)))] [] (hp s gb)) : LW l X nm (100 + t) (90000 + 5 * t) 1330 [some (.float 0), some (.ref 0), some (.ref 58), some (.int (nI (6 * t)))] [] (hp s gb) := by
  obtain ⟨p1, p2, hf1, hf2, he, hrel⟩ := hst s hs
  refine aw_aload_n dL_law_1330 rfl rfl ?_
  refine aw_gVi (b := 0) (As := []) (st := []) dL_law_1331 cl_L_160 iv_X11_blocked (k_X11_blocked (Q := (fun v h' => v = some (.int p1.1) ∧ h' = hp p1.2 gb)) s gb hf1 ⟨rfl, rfl⟩) (ci := 11) rfl (hp_get sh_0) rfl rfl rfl (Nat.le_of_ble_eq_true rfl) ⟨Nat.le_of_ble_eq_true rfl, Nat.le_of_ble_eq_true rfl⟩ (show _ ≤ 600000 by omega) (show _ ≤ 7302250 by omega) ?_
  refine aw_aload_n dL_law_1334 rfl rfl ?_
  refine aw_gVi (b := 58) (As := []) (st := [.int p1.1]) dL_law_1335 cl_L_163 iv_X12_blocked (k_X12_blocked (Q := (fun v h' => v = some (.int p2.1) ∧ h' = hp p2.2 gb)) p1.2 gb hf2 ⟨rfl, rfl⟩) (ci := 12) rfl (hp_get sh_58) rfl rfl rfl (Nat.le_of_ble_eq_true rfl) ⟨Nat.le_of_ble_eq_true rfl, Nat.le_of_ble_eq_true rfl⟩ (show _ ≤ 600000 by omega) (show _ ≤ 7302250 by omega) ?_
  refine aw_icmp_eq (tgt := 1669) dL_law_1338 (by decide) (fun _ => ?_) (fun hc => absurd he hc)
  refine aw_widen (k := 100 + t + 1) (n := 90000 + 5 * t + 5) (by omega) (by omega) ?_
  exact K p2.2 gb hrel
set_option maxRecDepth 100000 in
set_option maxHeartbeats 200000 in
/-- move -/
theorem lq_35 {l : Launch} {X : ax_X} {nm : String} {Rel : sx_M → Prop} (hst : st_ok_35 Rel) (hX : X.2.2.2.2.1 ≤ 3072) (t : Nat) (ht : 6 * t + 6 ≤ X.2.2.2.2.1) (s : sx_M) (gb : ax_H) (hs : Rel s) (K : ∀ (s : sx_M) (gb : ax_H), Rel s → LW l X nm (100 + t + 1) (90000 + 5 * t + 5) 1669 [some (.float 0), some (.ref 0), some (.ref 58), some (.int (nI (6 * t)))] [] (hp s gb)) : LW l X nm (100 + t) (90000 + 5 * t) 1343 [some (.float 0), some (.ref 0), some (.ref 58), some (.int (nI (6 * t)))] [] (hp s gb) := by
  obtain ⟨p1, p2, hf1, hf2, he, hrel⟩ := hst (X.2.2.2.2.2 (6 * t + 1)) (X.2.2.2.2.2 (6 * t + 2)) s hs
  refine aw_aload_n dL_law_1343 rfl rfl ?_
  refine aw_aload_nX dL_law_1344 rfl rfl ?_
  refine aw_iload_n dL_law_1345 rfl rfl ?_
  refine aw_iconst (v := 1) dL_law_1346 (by decide) ?_
  refine aw_iadd dL_law_1347 ?_
  refine aw_sc (6 * t + 1) (nI_add (6 * t) 1) (by omega) (by omega) dL_law_1348 ?_
  refine aw_aload_nX dL_law_1349 rfl rfl ?_
  refine aw_iload_n dL_law_1350 rfl rfl ?_
  refine aw_iconst (v := 2) dL_law_1351 (by decide) ?_
  refine aw_iadd dL_law_1352 ?_
  refine aw_sc (6 * t + 2) (nI_add (6 * t) 2) (by omega) (by omega) dL_law_1353 ?_
  refine aw_gVl (b := 0) (As := [.int (X.2.2.2.2.2 (6 * t + 1)), .int (X.2.2.2.2.2 (6 * t + 2))]) (st := []) dL_law_1354 cl_L_164 iv_X11_move (k_X11_move (Q := (fun v h' => v = some (.long p1.1) ∧ h' = hp p1.2 gb)) (X.2.2.2.2.2 (6 * t + 1)) (X.2.2.2.2.2 (6 * t + 2)) s gb hf1 ⟨rfl, rfl⟩) (ci := 11) rfl (hp_get sh_0) rfl rfl rfl (Nat.le_of_ble_eq_true rfl) ⟨Nat.le_of_ble_eq_true rfl, Nat.le_of_ble_eq_true rfl⟩ (show _ ≤ 600000 by omega) (show _ ≤ 7302250 by omega) ?_
  refine aw_aload_n dL_law_1357 rfl rfl ?_
  refine aw_aload_nX dL_law_1358 rfl rfl ?_
  refine aw_iload_n dL_law_1359 rfl rfl ?_
  refine aw_iconst (v := 1) dL_law_1360 (by decide) ?_
  refine aw_iadd dL_law_1361 ?_
  refine aw_sc (6 * t + 1) (nI_add (6 * t) 1) (by omega) (by omega) dL_law_1362 ?_
  refine aw_aload_nX dL_law_1363 rfl rfl ?_
  refine aw_iload_n dL_law_1364 rfl rfl ?_
  refine aw_iconst (v := 2) dL_law_1365 (by decide) ?_
  refine aw_iadd dL_law_1366 ?_
  refine aw_sc (6 * t + 2) (nI_add (6 * t) 2) (by omega) (by omega) dL_law_1367 ?_
  refine aw_gVl (b := 58) (As := [.int (X.2.2.2.2.2 (6 * t + 1)), .int (X.2.2.2.2.2 (6 * t + 2))]) (st := [.long p1.1]) dL_law_1368 cl_L_167 iv_X12_move (k_X12_move (Q := (fun v h' => v = some (.long p2.1) ∧ h' = hp p2.2 gb)) (X.2.2.2.2.2 (6 * t + 1)) (X.2.2.2.2.2 (6 * t + 2)) p1.2 gb hf2 ⟨rfl, rfl⟩) (ci := 12) rfl (hp_get sh_58) rfl rfl rfl (Nat.le_of_ble_eq_true rfl) ⟨Nat.le_of_ble_eq_true rfl, Nat.le_of_ble_eq_true rfl⟩ (show _ ≤ 600000 by omega) (show _ ≤ 7302250 by omega) ?_
  refine aw_lcmp_eq (tgt := 1669) dL_law_1371 dL_law_1372 (by decide) (fun _ => ?_) (fun hc => absurd he hc)
  refine aw_widen (k := 100 + t + 1) (n := 90000 + 5 * t + 5) (by omega) (by omega) ?_
  exact K p2.2 gb hrel
set_option maxRecDepth 100000 in
set_option maxHeartbeats 200000 in
/-- middle -/
theorem lq_36 {l : Launch} {X : ax_X} {nm : String} {Rel : sx_M → Prop} (hst : st_ok_36 Rel) (hX : X.2.2.2.2.1 ≤ 3072) (t : Nat) (ht : 6 * t + 6 ≤ X.2.2.2.2.1) (s : sx_M) (gb : ax_H) (hs : Rel s) (K : ∀ (s : sx_M) (gb : ax_H), Rel s → LW l X nm (100 + t + 1) (90000 + 5 * t + 5) 1669 [some (.float 0), some (.ref 0), some (.ref 58), some (.int (nI (6 * t)))] [] (hp s gb)) : LW l X nm (100 + t) (90000 + 5 * t) 1377 [some (.float 0), some (.ref 0), some (.ref 58), some (.int (nI (6 * t)))] [] (hp s gb) := by
  obtain ⟨p1, p2, hf1, hf2, he, hrel⟩ := hst s hs
  refine aw_aload_n dL_law_1377 rfl rfl ?_
  refine aw_gVl (b := 0) (As := []) (st := []) dL_law_1378 cl_L_168 iv_X11_middle (k_X11_middle (Q := (fun v h' => v = some (.long p1.1) ∧ h' = hp p1.2 gb)) s gb hf1 ⟨rfl, rfl⟩) (ci := 11) rfl (hp_get sh_0) rfl rfl rfl (Nat.le_of_ble_eq_true rfl) ⟨Nat.le_of_ble_eq_true rfl, Nat.le_of_ble_eq_true rfl⟩ (show _ ≤ 600000 by omega) (show _ ≤ 7302250 by omega) ?_
  refine aw_aload_n dL_law_1381 rfl rfl ?_
  refine aw_gVl (b := 58) (As := []) (st := [.long p1.1]) dL_law_1382 cl_L_172 iv_X12_middle (k_X12_middle (Q := (fun v h' => v = some (.long p2.1) ∧ h' = hp p2.2 gb)) p1.2 gb hf2 ⟨rfl, rfl⟩) (ci := 12) rfl (hp_get sh_58) rfl rfl rfl (Nat.le_of_ble_eq_true rfl) ⟨Nat.le_of_ble_eq_true rfl, Nat.le_of_ble_eq_true rfl⟩ (show _ ≤ 600000 by omega) (show _ ≤ 7302250 by omega) ?_
  refine aw_lcmp_eq (tgt := 1669) dL_law_1385 dL_law_1386 (by decide) (fun _ => ?_) (fun hc => absurd he hc)
  refine aw_widen (k := 100 + t + 1) (n := 90000 + 5 * t + 5) (by omega) (by omega) ?_
  exact K p2.2 gb hrel
set_option maxRecDepth 100000 in
set_option maxHeartbeats 200000 in
/-- reduced -/
theorem lq_37 {l : Launch} {X : ax_X} {nm : String} {Rel : sx_M → Prop} (hst : st_ok_37 Rel) (hX : X.2.2.2.2.1 ≤ 3072) (t : Nat) (ht : 6 * t + 6 ≤ X.2.2.2.2.1) (s : sx_M) (gb : ax_H) (hs : Rel s) (K : ∀ (s : sx_M) (gb : ax_H), Rel s → LW l X nm (100 + t + 1) (90000 + 5 * t + 5) 1669 [some (.float 0), some (.ref 0), some (.ref 58), some (.int (nI (6 * t)))] [] (hp s gb)) : LW l X nm (100 + t) (90000 + 5 * t) 1391 [some (.float 0), some (.ref 0), some (.ref 58), some (.int (nI (6 * t)))] [] (hp s gb) := by
  obtain ⟨p1, p2, hf1, hf2, he, hrel⟩ := hst (X.2.2.2.2.2 (6 * t + 1)) (X.2.2.2.2.2 (6 * t + 2)) s hs
  refine aw_aload_n dL_law_1391 rfl rfl ?_
  refine aw_aload_nX dL_law_1392 rfl rfl ?_
  refine aw_iload_n dL_law_1393 rfl rfl ?_
  refine aw_iconst (v := 1) dL_law_1394 (by decide) ?_
  refine aw_iadd dL_law_1395 ?_
  refine aw_sc (6 * t + 1) (nI_add (6 * t) 1) (by omega) (by omega) dL_law_1396 ?_
  refine aw_aload_nX dL_law_1397 rfl rfl ?_
  refine aw_iload_n dL_law_1398 rfl rfl ?_
  refine aw_iconst (v := 2) dL_law_1399 (by decide) ?_
  refine aw_iadd dL_law_1400 ?_
  refine aw_sc (6 * t + 2) (nI_add (6 * t) 2) (by omega) (by omega) dL_law_1401 ?_
  refine aw_gVl (b := 0) (As := [.int (X.2.2.2.2.2 (6 * t + 1)), .int (X.2.2.2.2.2 (6 * t + 2))]) (st := []) dL_law_1402 cl_L_173 iv_X11_reduced (k_X11_reduced (Q := (fun v h' => v = some (.long p1.1) ∧ h' = hp p1.2 gb)) (X.2.2.2.2.2 (6 * t + 1)) (X.2.2.2.2.2 (6 * t + 2)) s gb hf1 ⟨rfl, rfl⟩) (ci := 11) rfl (hp_get sh_0) rfl rfl rfl (Nat.le_of_ble_eq_true rfl) ⟨Nat.le_of_ble_eq_true rfl, Nat.le_of_ble_eq_true rfl⟩ (show _ ≤ 600000 by omega) (show _ ≤ 7302250 by omega) ?_
  refine aw_aload_n dL_law_1405 rfl rfl ?_
  refine aw_aload_nX dL_law_1406 rfl rfl ?_
  refine aw_iload_n dL_law_1407 rfl rfl ?_
  refine aw_iconst (v := 1) dL_law_1408 (by decide) ?_
  refine aw_iadd dL_law_1409 ?_
  refine aw_sc (6 * t + 1) (nI_add (6 * t) 1) (by omega) (by omega) dL_law_1410 ?_
  refine aw_aload_nX dL_law_1411 rfl rfl ?_
  refine aw_iload_n dL_law_1412 rfl rfl ?_
  refine aw_iconst (v := 2) dL_law_1413 (by decide) ?_
  refine aw_iadd dL_law_1414 ?_
  refine aw_sc (6 * t + 2) (nI_add (6 * t) 2) (by omega) (by omega) dL_law_1415 ?_
  refine aw_gVl (b := 58) (As := [.int (X.2.2.2.2.2 (6 * t + 1)), .int (X.2.2.2.2.2 (6 * t + 2))]) (st := [.long p1.1]) dL_law_1416 cl_L_176 iv_X12_reduced (k_X12_reduced (Q := (fun v h' => v = some (.long p2.1) ∧ h' = hp p2.2 gb)) (X.2.2.2.2.2 (6 * t + 1)) (X.2.2.2.2.2 (6 * t + 2)) p1.2 gb hf2 ⟨rfl, rfl⟩) (ci := 12) rfl (hp_get sh_58) rfl rfl rfl (Nat.le_of_ble_eq_true rfl) ⟨Nat.le_of_ble_eq_true rfl, Nat.le_of_ble_eq_true rfl⟩ (show _ ≤ 600000 by omega) (show _ ≤ 7302250 by omega) ?_
  refine aw_lcmp_eq (tgt := 1669) dL_law_1419 dL_law_1420 (by decide) (fun _ => ?_) (fun hc => absurd he hc)
  refine aw_widen (k := 100 + t + 1) (n := 90000 + 5 * t + 5) (by omega) (by omega) ?_
  exact K p2.2 gb hrel
set_option maxRecDepth 100000 in
set_option maxHeartbeats 200000 in
/-- noughts -/
theorem lq_38 {l : Launch} {X : ax_X} {nm : String} {Rel : sx_M → Prop} (hst : st_ok_38 Rel) (hX : X.2.2.2.2.1 ≤ 3072) (t : Nat) (ht : 6 * t + 6 ≤ X.2.2.2.2.1) (s : sx_M) (gb : ax_H) (hs : Rel s) (K : ∀ (s : sx_M) (gb : ax_H), Rel s → LW l X nm (100 + t + 1) (90000 + 5 * t + 5) 1669 [some (.float 0), some (.ref 0), some (.ref 58), some (.int (nI (6 * t)))] [] (hp s gb)) : LW l X nm (100 + t) (90000 + 5 * t) 1425 [some (.float 0), some (.ref 0), some (.ref 58), some (.int (nI (6 * t)))] [] (hp s gb) := by
  obtain ⟨p1, p2, hf1, hf2, he, hrel⟩ := hst s hs
  refine aw_aload_n dL_law_1425 rfl rfl ?_
  refine aw_gVi (b := 0) (As := []) (st := []) dL_law_1426 cl_L_177 iv_X11_noughts (k_X11_noughts (Q := (fun v h' => v = some (.int p1.1) ∧ h' = hp p1.2 gb)) s gb hf1 ⟨rfl, rfl⟩) (ci := 11) rfl (hp_get sh_0) rfl rfl rfl (Nat.le_of_ble_eq_true rfl) ⟨Nat.le_of_ble_eq_true rfl, Nat.le_of_ble_eq_true rfl⟩ (show _ ≤ 600000 by omega) (show _ ≤ 7302250 by omega) ?_
  refine aw_aload_n dL_law_1429 rfl rfl ?_
  refine aw_gVi (b := 58) (As := []) (st := [.int p1.1]) dL_law_1430 cl_L_180 iv_X12_noughts (k_X12_noughts (Q := (fun v h' => v = some (.int p2.1) ∧ h' = hp p2.2 gb)) p1.2 gb hf2 ⟨rfl, rfl⟩) (ci := 12) rfl (hp_get sh_58) rfl rfl rfl (Nat.le_of_ble_eq_true rfl) ⟨Nat.le_of_ble_eq_true rfl, Nat.le_of_ble_eq_true rfl⟩ (show _ ≤ 600000 by omega) (show _ ≤ 7302250 by omega) ?_
  refine aw_icmp_eq (tgt := 1669) dL_law_1433 (by decide) (fun _ => ?_) (fun hc => absurd he hc)
  refine aw_widen (k := 100 + t + 1) (n := 90000 + 5 * t + 5) (by omega) (by omega) ?_
  exact K p2.2 gb hrel
set_option maxRecDepth 100000 in
set_option maxHeartbeats 200000 in
/-- sets -/
theorem lq_39 {l : Launch} {X : ax_X} {nm : String} {Rel : sx_M → Prop} (hst : st_ok_39 Rel) (hX : X.2.2.2.2.1 ≤ 3072) (t : Nat) (ht : 6 * t + 6 ≤ X.2.2.2.2.1) (s : sx_M) (gb : ax_H) (hs : Rel s) (K : ∀ (s : sx_M) (gb : ax_H), Rel s → LW l X nm (100 + t + 1) (90000 + 5 * t + 5) 1669 [some (.float 0), some (.ref 0), some (.ref 58), some (.int (nI (6 * t)))] [] (hp s gb)) : LW l X nm (100 + t) (90000 + 5 * t) 1438 [some (.float 0), some (.ref 0), some (.ref 58), some (.int (nI (6 * t)))] [] (hp s gb) := by
  obtain ⟨p1, p2, hf1, hf2, he, hrel⟩ := hst (X.2.2.2.2.2 (6 * t + 1)) (X.2.2.2.2.2 (6 * t + 2)) (X.2.2.2.2.2 (6 * t + 3)) s hs
  refine aw_aload_n dL_law_1438 rfl rfl ?_
  refine aw_aload_nX dL_law_1439 rfl rfl ?_
  refine aw_iload_n dL_law_1440 rfl rfl ?_
  refine aw_iconst (v := 1) dL_law_1441 (by decide) ?_
  refine aw_iadd dL_law_1442 ?_
  refine aw_sc (6 * t + 1) (nI_add (6 * t) 1) (by omega) (by omega) dL_law_1443 ?_
  refine aw_aload_nX dL_law_1444 rfl rfl ?_
  refine aw_iload_n dL_law_1445 rfl rfl ?_
  refine aw_iconst (v := 2) dL_law_1446 (by decide) ?_
  refine aw_iadd dL_law_1447 ?_
  refine aw_sc (6 * t + 2) (nI_add (6 * t) 2) (by omega) (by omega) dL_law_1448 ?_
  refine aw_aload_nX dL_law_1449 rfl rfl ?_
  refine aw_iload_n dL_law_1450 rfl rfl ?_
  refine aw_iconst (v := 3) dL_law_1451 (by decide) ?_
  refine aw_iadd dL_law_1452 ?_
  refine aw_sc (6 * t + 3) (nI_add (6 * t) 3) (by omega) (by omega) dL_law_1453 ?_
  refine aw_gVi (b := 0) (As := [.int (X.2.2.2.2.2 (6 * t + 1)), .int (X.2.2.2.2.2 (6 * t + 2)), .int (X.2.2.2.2.2 (6 * t + 3))]) (st := []) dL_law_1454 cl_L_181 iv_X11_sets (k_X11_sets (Q := (fun v h' => v = some (.int p1.1) ∧ h' = hp p1.2 gb)) (X.2.2.2.2.2 (6 * t + 1)) (X.2.2.2.2.2 (6 * t + 2)) (X.2.2.2.2.2 (6 * t + 3)) s gb hf1 ⟨rfl, rfl⟩) (ci := 11) rfl (hp_get sh_0) rfl rfl rfl (Nat.le_of_ble_eq_true rfl) ⟨Nat.le_of_ble_eq_true rfl, Nat.le_of_ble_eq_true rfl⟩ (show _ ≤ 600000 by omega) (show _ ≤ 7302250 by omega) ?_
  refine aw_aload_n dL_law_1457 rfl rfl ?_
  refine aw_aload_nX dL_law_1458 rfl rfl ?_
  refine aw_iload_n dL_law_1459 rfl rfl ?_
  refine aw_iconst (v := 1) dL_law_1460 (by decide) ?_
  refine aw_iadd dL_law_1461 ?_
  refine aw_sc (6 * t + 1) (nI_add (6 * t) 1) (by omega) (by omega) dL_law_1462 ?_
  refine aw_aload_nX dL_law_1463 rfl rfl ?_
  refine aw_iload_n dL_law_1464 rfl rfl ?_
  refine aw_iconst (v := 2) dL_law_1465 (by decide) ?_
  refine aw_iadd dL_law_1466 ?_
  refine aw_sc (6 * t + 2) (nI_add (6 * t) 2) (by omega) (by omega) dL_law_1467 ?_
  refine aw_aload_nX dL_law_1468 rfl rfl ?_
  refine aw_iload_n dL_law_1469 rfl rfl ?_
  refine aw_iconst (v := 3) dL_law_1470 (by decide) ?_
  refine aw_iadd dL_law_1471 ?_
  refine aw_sc (6 * t + 3) (nI_add (6 * t) 3) (by omega) (by omega) dL_law_1472 ?_
  refine aw_gVi (b := 58) (As := [.int (X.2.2.2.2.2 (6 * t + 1)), .int (X.2.2.2.2.2 (6 * t + 2)), .int (X.2.2.2.2.2 (6 * t + 3))]) (st := [.int p1.1]) dL_law_1473 cl_L_184 iv_X12_sets (k_X12_sets (Q := (fun v h' => v = some (.int p2.1) ∧ h' = hp p2.2 gb)) (X.2.2.2.2.2 (6 * t + 1)) (X.2.2.2.2.2 (6 * t + 2)) (X.2.2.2.2.2 (6 * t + 3)) p1.2 gb hf2 ⟨rfl, rfl⟩) (ci := 12) rfl (hp_get sh_58) rfl rfl rfl (Nat.le_of_ble_eq_true rfl) ⟨Nat.le_of_ble_eq_true rfl, Nat.le_of_ble_eq_true rfl⟩ (show _ ≤ 600000 by omega) (show _ ≤ 7302250 by omega) ?_
  refine aw_icmp_eq (tgt := 1669) dL_law_1476 (by decide) (fun _ => ?_) (fun hc => absurd he hc)
  refine aw_widen (k := 100 + t + 1) (n := 90000 + 5 * t + 5) (by omega) (by omega) ?_
  exact K p2.2 gb hrel
set_option maxRecDepth 100000 in
set_option maxHeartbeats 200000 in
/-- bars -/
theorem lq_40 {l : Launch} {X : ax_X} {nm : String} {Rel : sx_M → Prop} (hst : st_ok_40 Rel) (hX : X.2.2.2.2.1 ≤ 3072) (t : Nat) (ht : 6 * t + 6 ≤ X.2.2.2.2.1) (s : sx_M) (gb : ax_H) (hs : Rel s) (K : ∀ (s : sx_M) (gb : ax_H), Rel s → LW l X nm (100 + t + 1) (90000 + 5 * t + 5) 1669 [some (.float 0), some (.ref 0), some (.ref 58), some (.int (nI (6 * t)))] [] (hp s gb)) : LW l X nm (100 + t) (90000 + 5 * t) 1481 [some (.float 0), some (.ref 0), some (.ref 58), some (.int (nI (6 * t)))] [] (hp s gb) := by
  obtain ⟨p1, p2, hf1, hf2, he, hrel⟩ := hst (X.2.2.2.2.2 (6 * t + 1)) (X.2.2.2.2.2 (6 * t + 2)) s hs
  refine aw_aload_n dL_law_1481 rfl rfl ?_
  refine aw_aload_nX dL_law_1482 rfl rfl ?_
  refine aw_iload_n dL_law_1483 rfl rfl ?_
  refine aw_iconst (v := 1) dL_law_1484 (by decide) ?_
  refine aw_iadd dL_law_1485 ?_
  refine aw_sc (6 * t + 1) (nI_add (6 * t) 1) (by omega) (by omega) dL_law_1486 ?_
  refine aw_aload_nX dL_law_1487 rfl rfl ?_
  refine aw_iload_n dL_law_1488 rfl rfl ?_
  refine aw_iconst (v := 2) dL_law_1489 (by decide) ?_
  refine aw_iadd dL_law_1490 ?_
  refine aw_sc (6 * t + 2) (nI_add (6 * t) 2) (by omega) (by omega) dL_law_1491 ?_
  refine aw_gVi (b := 0) (As := [.int (X.2.2.2.2.2 (6 * t + 1)), .int (X.2.2.2.2.2 (6 * t + 2))]) (st := []) dL_law_1492 cl_L_185 iv_X11_bars (k_X11_bars (Q := (fun v h' => v = some (.int p1.1) ∧ h' = hp p1.2 gb)) (X.2.2.2.2.2 (6 * t + 1)) (X.2.2.2.2.2 (6 * t + 2)) s gb hf1 ⟨rfl, rfl⟩) (ci := 11) rfl (hp_get sh_0) rfl rfl rfl (Nat.le_of_ble_eq_true rfl) ⟨Nat.le_of_ble_eq_true rfl, Nat.le_of_ble_eq_true rfl⟩ (show _ ≤ 600000 by omega) (show _ ≤ 7302250 by omega) ?_
  refine aw_aload_n dL_law_1495 rfl rfl ?_
  refine aw_aload_nX dL_law_1496 rfl rfl ?_
  refine aw_iload_n dL_law_1497 rfl rfl ?_
  refine aw_iconst (v := 1) dL_law_1498 (by decide) ?_
  refine aw_iadd dL_law_1499 ?_
  refine aw_sc (6 * t + 1) (nI_add (6 * t) 1) (by omega) (by omega) dL_law_1500 ?_
  refine aw_aload_nX dL_law_1501 rfl rfl ?_
  refine aw_iload_n dL_law_1502 rfl rfl ?_
  refine aw_iconst (v := 2) dL_law_1503 (by decide) ?_
  refine aw_iadd dL_law_1504 ?_
  refine aw_sc (6 * t + 2) (nI_add (6 * t) 2) (by omega) (by omega) dL_law_1505 ?_
  refine aw_gVi (b := 58) (As := [.int (X.2.2.2.2.2 (6 * t + 1)), .int (X.2.2.2.2.2 (6 * t + 2))]) (st := [.int p1.1]) dL_law_1506 cl_L_188 iv_X12_bars (k_X12_bars (Q := (fun v h' => v = some (.int p2.1) ∧ h' = hp p2.2 gb)) (X.2.2.2.2.2 (6 * t + 1)) (X.2.2.2.2.2 (6 * t + 2)) p1.2 gb hf2 ⟨rfl, rfl⟩) (ci := 12) rfl (hp_get sh_58) rfl rfl rfl (Nat.le_of_ble_eq_true rfl) ⟨Nat.le_of_ble_eq_true rfl, Nat.le_of_ble_eq_true rfl⟩ (show _ ≤ 600000 by omega) (show _ ≤ 7302250 by omega) ?_
  refine aw_icmp_eq (tgt := 1669) dL_law_1509 (by decide) (fun _ => ?_) (fun hc => absurd he hc)
  refine aw_widen (k := 100 + t + 1) (n := 90000 + 5 * t + 5) (by omega) (by omega) ?_
  exact K p2.2 gb hrel
set_option maxRecDepth 100000 in
set_option maxHeartbeats 200000 in
/-- tilts -/
theorem lq_41 {l : Launch} {X : ax_X} {nm : String} {Rel : sx_M → Prop} (hst : st_ok_41 Rel) (hX : X.2.2.2.2.1 ≤ 3072) (t : Nat) (ht : 6 * t + 6 ≤ X.2.2.2.2.1) (s : sx_M) (gb : ax_H) (hs : Rel s) (K : ∀ (s : sx_M) (gb : ax_H), Rel s → LW l X nm (100 + t + 1) (90000 + 5 * t + 5) 1669 [some (.float 0), some (.ref 0), some (.ref 58), some (.int (nI (6 * t)))] [] (hp s gb)) : LW l X nm (100 + t) (90000 + 5 * t) 1514 [some (.float 0), some (.ref 0), some (.ref 58), some (.int (nI (6 * t)))] [] (hp s gb) := by
  obtain ⟨p1, p2, hf1, hf2, he, hrel⟩ := hst (X.2.2.2.2.2 (6 * t + 1)) (X.2.2.2.2.2 (6 * t + 2)) (X.2.2.2.2.2 (6 * t + 3)) s hs
  refine aw_aload_n dL_law_1514 rfl rfl ?_
  refine aw_aload_nX dL_law_1515 rfl rfl ?_
  refine aw_iload_n dL_law_1516 rfl rfl ?_
  refine aw_iconst (v := 1) dL_law_1517 (by decide) ?_
  refine aw_iadd dL_law_1518 ?_
  refine aw_sc (6 * t + 1) (nI_add (6 * t) 1) (by omega) (by omega) dL_law_1519 ?_
  refine aw_aload_nX dL_law_1520 rfl rfl ?_
  refine aw_iload_n dL_law_1521 rfl rfl ?_
  refine aw_iconst (v := 2) dL_law_1522 (by decide) ?_
  refine aw_iadd dL_law_1523 ?_
  refine aw_sc (6 * t + 2) (nI_add (6 * t) 2) (by omega) (by omega) dL_law_1524 ?_
  refine aw_aload_nX dL_law_1525 rfl rfl ?_
  refine aw_iload_n dL_law_1526 rfl rfl ?_
  refine aw_iconst (v := 3) dL_law_1527 (by decide) ?_
  refine aw_iadd dL_law_1528 ?_
  refine aw_sc (6 * t + 3) (nI_add (6 * t) 3) (by omega) (by omega) dL_law_1529 ?_
  refine aw_gVi (b := 0) (As := [.int (X.2.2.2.2.2 (6 * t + 1)), .int (X.2.2.2.2.2 (6 * t + 2)), .int (X.2.2.2.2.2 (6 * t + 3))]) (st := []) dL_law_1530 cl_L_189 iv_X11_tilts (k_X11_tilts (Q := (fun v h' => v = some (.int p1.1) ∧ h' = hp p1.2 gb)) (X.2.2.2.2.2 (6 * t + 1)) (X.2.2.2.2.2 (6 * t + 2)) (X.2.2.2.2.2 (6 * t + 3)) s gb hf1 ⟨rfl, rfl⟩) (ci := 11) rfl (hp_get sh_0) rfl rfl rfl (Nat.le_of_ble_eq_true rfl) ⟨Nat.le_of_ble_eq_true rfl, Nat.le_of_ble_eq_true rfl⟩ (show _ ≤ 600000 by omega) (show _ ≤ 7302250 by omega) ?_
  refine aw_aload_n dL_law_1533 rfl rfl ?_
  refine aw_aload_nX dL_law_1534 rfl rfl ?_
  refine aw_iload_n dL_law_1535 rfl rfl ?_
  refine aw_iconst (v := 1) dL_law_1536 (by decide) ?_
  refine aw_iadd dL_law_1537 ?_
  refine aw_sc (6 * t + 1) (nI_add (6 * t) 1) (by omega) (by omega) dL_law_1538 ?_
  refine aw_aload_nX dL_law_1539 rfl rfl ?_
  refine aw_iload_n dL_law_1540 rfl rfl ?_
  refine aw_iconst (v := 2) dL_law_1541 (by decide) ?_
  refine aw_iadd dL_law_1542 ?_
  refine aw_sc (6 * t + 2) (nI_add (6 * t) 2) (by omega) (by omega) dL_law_1543 ?_
  refine aw_aload_nX dL_law_1544 rfl rfl ?_
  refine aw_iload_n dL_law_1545 rfl rfl ?_
  refine aw_iconst (v := 3) dL_law_1546 (by decide) ?_
  refine aw_iadd dL_law_1547 ?_
  refine aw_sc (6 * t + 3) (nI_add (6 * t) 3) (by omega) (by omega) dL_law_1548 ?_
  refine aw_gVi (b := 58) (As := [.int (X.2.2.2.2.2 (6 * t + 1)), .int (X.2.2.2.2.2 (6 * t + 2)), .int (X.2.2.2.2.2 (6 * t + 3))]) (st := [.int p1.1]) dL_law_1549 cl_L_192 iv_X12_tilts (k_X12_tilts (Q := (fun v h' => v = some (.int p2.1) ∧ h' = hp p2.2 gb)) (X.2.2.2.2.2 (6 * t + 1)) (X.2.2.2.2.2 (6 * t + 2)) (X.2.2.2.2.2 (6 * t + 3)) p1.2 gb hf2 ⟨rfl, rfl⟩) (ci := 12) rfl (hp_get sh_58) rfl rfl rfl (Nat.le_of_ble_eq_true rfl) ⟨Nat.le_of_ble_eq_true rfl, Nat.le_of_ble_eq_true rfl⟩ (show _ ≤ 600000 by omega) (show _ ≤ 7302250 by omega) ?_
  refine aw_icmp_eq (tgt := 1669) dL_law_1552 (by decide) (fun _ => ?_) (fun hc => absurd he hc)
  refine aw_widen (k := 100 + t + 1) (n := 90000 + 5 * t + 5) (by omega) (by omega) ?_
  exact K p2.2 gb hrel
set_option maxRecDepth 100000 in
set_option maxHeartbeats 200000 in
/-- comes -/
theorem lq_42 {l : Launch} {X : ax_X} {nm : String} {Rel : sx_M → Prop} (hst : st_ok_42 Rel) (hX : X.2.2.2.2.1 ≤ 3072) (t : Nat) (ht : 6 * t + 6 ≤ X.2.2.2.2.1) (s : sx_M) (gb : ax_H) (hs : Rel s) (K : ∀ (s : sx_M) (gb : ax_H), Rel s → LW l X nm (100 + t + 1) (90000 + 5 * t + 5) 1669 [some (.float 0), some (.ref 0), some (.ref 58), some (.int (nI (6 * t)))] [] (hp s gb)) : LW l X nm (100 + t) (90000 + 5 * t) 1557 [some (.float 0), some (.ref 0), some (.ref 58), some (.int (nI (6 * t)))] [] (hp s gb) := by
  obtain ⟨p1, p2, hf1, hf2, he, hrel⟩ := hst (X.2.2.2.2.2 (6 * t + 1)) (X.2.2.2.2.2 (6 * t + 2)) s hs
  refine aw_aload_n dL_law_1557 rfl rfl ?_
  refine aw_aload_nX dL_law_1558 rfl rfl ?_
  refine aw_iload_n dL_law_1559 rfl rfl ?_
  refine aw_iconst (v := 1) dL_law_1560 (by decide) ?_
  refine aw_iadd dL_law_1561 ?_
  refine aw_sc (6 * t + 1) (nI_add (6 * t) 1) (by omega) (by omega) dL_law_1562 ?_
  refine aw_aload_nX dL_law_1563 rfl rfl ?_
  refine aw_iload_n dL_law_1564 rfl rfl ?_
  refine aw_iconst (v := 2) dL_law_1565 (by decide) ?_
  refine aw_iadd dL_law_1566 ?_
  refine aw_sc (6 * t + 2) (nI_add (6 * t) 2) (by omega) (by omega) dL_law_1567 ?_
  refine aw_gVi (b := 0) (As := [.int (X.2.2.2.2.2 (6 * t + 1)), .int (X.2.2.2.2.2 (6 * t + 2))]) (st := []) dL_law_1568 cl_L_193 iv_X11_comes (k_X11_comes (Q := (fun v h' => v = some (.int p1.1) ∧ h' = hp p1.2 gb)) (X.2.2.2.2.2 (6 * t + 1)) (X.2.2.2.2.2 (6 * t + 2)) s gb hf1 ⟨rfl, rfl⟩) (ci := 11) rfl (hp_get sh_0) rfl rfl rfl (Nat.le_of_ble_eq_true rfl) ⟨Nat.le_of_ble_eq_true rfl, Nat.le_of_ble_eq_true rfl⟩ (show _ ≤ 600000 by omega) (show _ ≤ 7302250 by omega) ?_
  refine aw_aload_n dL_law_1571 rfl rfl ?_
  refine aw_aload_nX dL_law_1572 rfl rfl ?_
  refine aw_iload_n dL_law_1573 rfl rfl ?_
  refine aw_iconst (v := 1) dL_law_1574 (by decide) ?_
  refine aw_iadd dL_law_1575 ?_
  refine aw_sc (6 * t + 1) (nI_add (6 * t) 1) (by omega) (by omega) dL_law_1576 ?_
  refine aw_aload_nX dL_law_1577 rfl rfl ?_
  refine aw_iload_n dL_law_1578 rfl rfl ?_
  refine aw_iconst (v := 2) dL_law_1579 (by decide) ?_
  refine aw_iadd dL_law_1580 ?_
  refine aw_sc (6 * t + 2) (nI_add (6 * t) 2) (by omega) (by omega) dL_law_1581 ?_
  refine aw_gVi (b := 58) (As := [.int (X.2.2.2.2.2 (6 * t + 1)), .int (X.2.2.2.2.2 (6 * t + 2))]) (st := [.int p1.1]) dL_law_1582 cl_L_196 iv_X12_comes (k_X12_comes (Q := (fun v h' => v = some (.int p2.1) ∧ h' = hp p2.2 gb)) (X.2.2.2.2.2 (6 * t + 1)) (X.2.2.2.2.2 (6 * t + 2)) p1.2 gb hf2 ⟨rfl, rfl⟩) (ci := 12) rfl (hp_get sh_58) rfl rfl rfl (Nat.le_of_ble_eq_true rfl) ⟨Nat.le_of_ble_eq_true rfl, Nat.le_of_ble_eq_true rfl⟩ (show _ ≤ 600000 by omega) (show _ ≤ 7302250 by omega) ?_
  refine aw_icmp_eq (tgt := 1669) dL_law_1585 (by decide) (fun _ => ?_) (fun hc => absurd he hc)
  refine aw_widen (k := 100 + t + 1) (n := 90000 + 5 * t + 5) (by omega) (by omega) ?_
  exact K p2.2 gb hrel
set_option maxRecDepth 100000 in
set_option maxHeartbeats 200000 in
/-- goes -/
theorem lq_43 {l : Launch} {X : ax_X} {nm : String} {Rel : sx_M → Prop} (hst : st_ok_43 Rel) (hX : X.2.2.2.2.1 ≤ 3072) (t : Nat) (ht : 6 * t + 6 ≤ X.2.2.2.2.1) (s : sx_M) (gb : ax_H) (hs : Rel s) (K : ∀ (s : sx_M) (gb : ax_H), Rel s → LW l X nm (100 + t + 1) (90000 + 5 * t + 5) 1669 [some (.float 0), some (.ref 0), some (.ref 58), some (.int (nI (6 * t)))] [] (hp s gb)) : LW l X nm (100 + t) (90000 + 5 * t) 1590 [some (.float 0), some (.ref 0), some (.ref 58), some (.int (nI (6 * t)))] [] (hp s gb) := by
  obtain ⟨p1, p2, hf1, hf2, he, hrel⟩ := hst (X.2.2.2.2.2 (6 * t + 1)) (X.2.2.2.2.2 (6 * t + 2)) s hs
  refine aw_aload_n dL_law_1590 rfl rfl ?_
  refine aw_aload_nX dL_law_1591 rfl rfl ?_
  refine aw_iload_n dL_law_1592 rfl rfl ?_
  refine aw_iconst (v := 1) dL_law_1593 (by decide) ?_
  refine aw_iadd dL_law_1594 ?_
  refine aw_sc (6 * t + 1) (nI_add (6 * t) 1) (by omega) (by omega) dL_law_1595 ?_
  refine aw_aload_nX dL_law_1596 rfl rfl ?_
  refine aw_iload_n dL_law_1597 rfl rfl ?_
  refine aw_iconst (v := 2) dL_law_1598 (by decide) ?_
  refine aw_iadd dL_law_1599 ?_
  refine aw_sc (6 * t + 2) (nI_add (6 * t) 2) (by omega) (by omega) dL_law_1600 ?_
  refine aw_gVi (b := 0) (As := [.int (X.2.2.2.2.2 (6 * t + 1)), .int (X.2.2.2.2.2 (6 * t + 2))]) (st := []) dL_law_1601 cl_L_197 iv_X11_goes (k_X11_goes (Q := (fun v h' => v = some (.int p1.1) ∧ h' = hp p1.2 gb)) (X.2.2.2.2.2 (6 * t + 1)) (X.2.2.2.2.2 (6 * t + 2)) s gb hf1 ⟨rfl, rfl⟩) (ci := 11) rfl (hp_get sh_0) rfl rfl rfl (Nat.le_of_ble_eq_true rfl) ⟨Nat.le_of_ble_eq_true rfl, Nat.le_of_ble_eq_true rfl⟩ (show _ ≤ 600000 by omega) (show _ ≤ 7302250 by omega) ?_
  refine aw_aload_n dL_law_1604 rfl rfl ?_
  refine aw_aload_nX dL_law_1605 rfl rfl ?_
  refine aw_iload_n dL_law_1606 rfl rfl ?_
  refine aw_iconst (v := 1) dL_law_1607 (by decide) ?_
  refine aw_iadd dL_law_1608 ?_
  refine aw_sc (6 * t + 1) (nI_add (6 * t) 1) (by omega) (by omega) dL_law_1609 ?_
  refine aw_aload_nX dL_law_1610 rfl rfl ?_
  refine aw_iload_n dL_law_1611 rfl rfl ?_
  refine aw_iconst (v := 2) dL_law_1612 (by decide) ?_
  refine aw_iadd dL_law_1613 ?_
  refine aw_sc (6 * t + 2) (nI_add (6 * t) 2) (by omega) (by omega) dL_law_1614 ?_
  refine aw_gVi (b := 58) (As := [.int (X.2.2.2.2.2 (6 * t + 1)), .int (X.2.2.2.2.2 (6 * t + 2))]) (st := [.int p1.1]) dL_law_1615 cl_L_200 iv_X12_goes (k_X12_goes (Q := (fun v h' => v = some (.int p2.1) ∧ h' = hp p2.2 gb)) (X.2.2.2.2.2 (6 * t + 1)) (X.2.2.2.2.2 (6 * t + 2)) p1.2 gb hf2 ⟨rfl, rfl⟩) (ci := 12) rfl (hp_get sh_58) rfl rfl rfl (Nat.le_of_ble_eq_true rfl) ⟨Nat.le_of_ble_eq_true rfl, Nat.le_of_ble_eq_true rfl⟩ (show _ ≤ 600000 by omega) (show _ ≤ 7302250 by omega) ?_
  refine aw_icmp_eq (tgt := 1669) dL_law_1618 (by decide) (fun _ => ?_) (fun hc => absurd he hc)
  refine aw_widen (k := 100 + t + 1) (n := 90000 + 5 * t + 5) (by omega) (by omega) ?_
  exact K p2.2 gb hrel
set_option maxRecDepth 100000 in
set_option maxHeartbeats 200000 in
/-- turn -/
theorem lq_44 {l : Launch} {X : ax_X} {nm : String} {Rel : sx_M → Prop} (hst : st_ok_44 Rel) (hX : X.2.2.2.2.1 ≤ 3072) (t : Nat) (ht : 6 * t + 6 ≤ X.2.2.2.2.1) (s : sx_M) (gb : ax_H) (hs : Rel s) (K : ∀ (s : sx_M) (gb : ax_H), Rel s → LW l X nm (100 + t + 1) (90000 + 5 * t + 5) 1669 [some (.float 0), some (.ref 0), some (.ref 58), some (.int (nI (6 * t)))] [] (hp s gb)) : LW l X nm (100 + t) (90000 + 5 * t) 1623 [some (.float 0), some (.ref 0), some (.ref 58), some (.int (nI (6 * t)))] [] (hp s gb) := by
  obtain ⟨p1, p2, hf1, hf2, he, hrel⟩ := hst (X.2.2.2.2.2 (6 * t + 1)) (X.2.2.2.2.2 (6 * t + 2)) s hs
  refine aw_aload_n dL_law_1623 rfl rfl ?_
  refine aw_aload_nX dL_law_1624 rfl rfl ?_
  refine aw_iload_n dL_law_1625 rfl rfl ?_
  refine aw_iconst (v := 1) dL_law_1626 (by decide) ?_
  refine aw_iadd dL_law_1627 ?_
  refine aw_sc (6 * t + 1) (nI_add (6 * t) 1) (by omega) (by omega) dL_law_1628 ?_
  refine aw_aload_nX dL_law_1629 rfl rfl ?_
  refine aw_iload_n dL_law_1630 rfl rfl ?_
  refine aw_iconst (v := 2) dL_law_1631 (by decide) ?_
  refine aw_iadd dL_law_1632 ?_
  refine aw_sc (6 * t + 2) (nI_add (6 * t) 2) (by omega) (by omega) dL_law_1633 ?_
  refine aw_gVi (b := 0) (As := [.int (X.2.2.2.2.2 (6 * t + 1)), .int (X.2.2.2.2.2 (6 * t + 2))]) (st := []) dL_law_1634 cl_L_201 iv_X11_turn (k_X11_turn (Q := (fun v h' => v = some (.int p1.1) ∧ h' = hp p1.2 gb)) (X.2.2.2.2.2 (6 * t + 1)) (X.2.2.2.2.2 (6 * t + 2)) s gb hf1 ⟨rfl, rfl⟩) (ci := 11) rfl (hp_get sh_0) rfl rfl rfl (Nat.le_of_ble_eq_true rfl) ⟨Nat.le_of_ble_eq_true rfl, Nat.le_of_ble_eq_true rfl⟩ (show _ ≤ 600000 by omega) (show _ ≤ 7302250 by omega) ?_
  refine aw_aload_n dL_law_1637 rfl rfl ?_
  refine aw_aload_nX dL_law_1638 rfl rfl ?_
  refine aw_iload_n dL_law_1639 rfl rfl ?_
  refine aw_iconst (v := 1) dL_law_1640 (by decide) ?_
  refine aw_iadd dL_law_1641 ?_
  refine aw_sc (6 * t + 1) (nI_add (6 * t) 1) (by omega) (by omega) dL_law_1642 ?_
  refine aw_aload_nX dL_law_1643 rfl rfl ?_
  refine aw_iload_n dL_law_1644 rfl rfl ?_
  refine aw_iconst (v := 2) dL_law_1645 (by decide) ?_
  refine aw_iadd dL_law_1646 ?_
  refine aw_sc (6 * t + 2) (nI_add (6 * t) 2) (by omega) (by omega) dL_law_1647 ?_
  refine aw_gVi (b := 58) (As := [.int (X.2.2.2.2.2 (6 * t + 1)), .int (X.2.2.2.2.2 (6 * t + 2))]) (st := [.int p1.1]) dL_law_1648 cl_L_204 iv_X12_turn (k_X12_turn (Q := (fun v h' => v = some (.int p2.1) ∧ h' = hp p2.2 gb)) (X.2.2.2.2.2 (6 * t + 1)) (X.2.2.2.2.2 (6 * t + 2)) p1.2 gb hf2 ⟨rfl, rfl⟩) (ci := 12) rfl (hp_get sh_58) rfl rfl rfl (Nat.le_of_ble_eq_true rfl) ⟨Nat.le_of_ble_eq_true rfl, Nat.le_of_ble_eq_true rfl⟩ (show _ ≤ 600000 by omega) (show _ ≤ 7302250 by omega) ?_
  refine aw_icmp_eq (tgt := 1669) dL_law_1651 (by decide) (fun _ => ?_) (fun hc => absurd he hc)
  refine aw_widen (k := 100 + t + 1) (n := 90000 + 5 * t + 5) (by omega) (by omega) ?_
  exact K p2.2 gb hrel
set_option maxRecDepth 100000 in
set_option maxHeartbeats 200000 in
/-- undo -/
theorem lq_45 {l : Launch} {X : ax_X} {nm : String} {Rel : sx_M → Prop} (hst : st_ok_45 Rel) (hX : X.2.2.2.2.1 ≤ 3072) (t : Nat) (ht : 6 * t + 6 ≤ X.2.2.2.2.1) (s : sx_M) (gb : ax_H) (hs : Rel s) (K : ∀ (s : sx_M) (gb : ax_H), Rel s → LW l X nm (100 + t + 1) (90000 + 5 * t + 5) 1669 [some (.float 0), some (.ref 0), some (.ref 58), some (.int (nI (6 * t)))] [] (hp s gb)) : LW l X nm (100 + t) (90000 + 5 * t) 1656 [some (.float 0), some (.ref 0), some (.ref 58), some (.int (nI (6 * t)))] [] (hp s gb) := by
  obtain ⟨p1, p2, hf1, hf2, he, hrel⟩ := hst s hs
  refine aw_aload_n dL_law_1656 rfl rfl ?_
  refine aw_gVi (b := 0) (As := []) (st := []) dL_law_1657 cl_L_205 iv_X11_undo (k_X11_undo (Q := (fun v h' => v = some (.int p1.1) ∧ h' = hp p1.2 gb)) s gb hf1 ⟨rfl, rfl⟩) (ci := 11) rfl (hp_get sh_0) rfl rfl rfl (Nat.le_of_ble_eq_true rfl) ⟨Nat.le_of_ble_eq_true rfl, Nat.le_of_ble_eq_true rfl⟩ (show _ ≤ 600000 by omega) (show _ ≤ 7302250 by omega) ?_
  refine aw_aload_n dL_law_1660 rfl rfl ?_
  refine aw_gVi (b := 58) (As := []) (st := [.int p1.1]) dL_law_1661 cl_L_208 iv_X12_undo (k_X12_undo (Q := (fun v h' => v = some (.int p2.1) ∧ h' = hp p2.2 gb)) p1.2 gb hf2 ⟨rfl, rfl⟩) (ci := 12) rfl (hp_get sh_58) rfl rfl rfl (Nat.le_of_ble_eq_true rfl) ⟨Nat.le_of_ble_eq_true rfl, Nat.le_of_ble_eq_true rfl⟩ (show _ ≤ 600000 by omega) (show _ ≤ 7302250 by omega) ?_
  refine aw_icmp_eq (tgt := 1669) dL_law_1664 (by decide) (fun _ => ?_) (fun hc => absurd he hc)
  refine aw_widen (k := 100 + t + 1) (n := 90000 + 5 * t + 5) (by omega) (by omega) ?_
  exact K p2.2 gb hrel
