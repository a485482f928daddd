/-! all steps -/
theorem rel_all : st_all Rel := ⟨stp_0, stq_1, stp_2, stq_3, stp_4, stq_5, stp_6, stp_7, stp_8, stp_9, stp_10, stp_11, stp_12, stp_13, stp_14, stp_15, stp_16, stp_17, stp_18, stp_19, stp_20, stp_21, stp_22, stp_23, stp_24, stp_25, stp_26, stp_27, stp_28, stp_29, stp_30, stp_31, stp_32, stp_33, stp_34, stp_35, stp_36, stp_37, stp_38, stp_39, stp_40, stp_41, stp_42, stp_43, stp_44, stp_45⟩
theorem rel_ok : ∃ Rel : sx_M → Prop, Rel sx_0 ∧ st_all Rel := ⟨Rel, rel_0, rel_all⟩
