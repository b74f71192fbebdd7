/-! The statement is false: the printed witness's own start has room for both objects. (A whole round alone knows the witness's names; i_vc stands here, open, for the printed rows behind it: nothing of the refutation uses it.) -/
section FALSE
theorem wide_room : start1.about.hasRoom start1.e0.platform bigR = true := launch0.hasRoom_least _ bigR (by decide +kernel) (by decide +kernel) (by decide +kernel) (by decide +kernel) (by decide +kernel) (by decide +kernel)
theorem claim_1_false : ¬ Claimed_1_1 := refuted_1 rfl start1.atStart wide_room
theorem claim_2_false : ¬ Claimed_1_2 := refuted_2 rfl start1.atStart wide_room
theorem i_vc_false : ¬ (Claimed_1_1 ∧ Claimed_1_2) := fun h => claim_1_false h.1
end FALSE
theorem i_vc : Claimed_1_1 ∧ Claimed_1_2 := sorry
