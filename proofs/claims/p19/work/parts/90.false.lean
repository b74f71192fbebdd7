/-! The statement is false: the printed witness's own start has room for both objects. (A whole round alone knows the witness's names; i_vc stands here, open, for the printed rows behind it: nothing of the refutation uses it.) -/
section FALSE
theorem wide_room : start1.about.hasRoom start1.e0.platform bigR = true := launch0.hasRoom_least _ bigR (by decide +kernel) (by decide +kernel) (by decide +kernel) (by decide +kernel) (by decide +kernel) (by decide +kernel)
theorem claim_1_false : ¬ Claimed_1_1 := refuted_1 rfl start1.atStart wide_room
theorem claim_2_false : ¬ Claimed_1_2 := refuted_2 rfl start1.atStart wide_room
theorem i_vc_false : ¬ (Claimed_1_1 ∧ Claimed_1_2) := fun h => claim_1_false h.1
/-- the witness's start with an empty script -/
theorem start1.about5_words : ∀ c ∈ (Cond.code x code maxLocals ret :: tables_1), c.before start1.args0 (start1.aboutOf #[]) = true := by
  intro c hc
  cases hv : vmKind c with
  | true =>
    have h := vm_word (a := start1.args0) start1.about (start1.aboutOf #[]).heap (start1.aboutOf #[]).slotsUsed c hv
    exact h.trans (start1.words c hc)
  | false =>
    have h : ∀ c ∈ (Cond.code x code maxLocals ret :: tables_1).filter (fun c => !vmKind c), c.before start1.args0 (start1.aboutOf #[]) = true := by decide +kernel
    exact h c (List.mem_filter.mpr ⟨hc, by rw [hv]; rfl⟩)
theorem start1.atStart5 : AtStart classFile x code maxLocals ret World_1 tables_1 room_1 Calls_1 rest_1 Pre_1 launch0 start1.p0 start1.e0 (start1.aboutOf #[]) ⟨0, 0⟩ start1.args0 Lib.HandBits.below0 := by
  obtain ⟨hL, hW, ha, hle, hc, hk, hf, hfit, hheap, happ, hcalls, hrest, hPre⟩ := start1.atStart
  exact ⟨hL, hW, ha, hle, hc, hk, rfl, by decide +kernel, by decide +kernel,
    (Spec.applies_iff rfl).mpr ⟨rfl, rfl, rfl, by decide +kernel, by decide +kernel, by decide +kernel, launch0.hasRoom_least _ room_1 (by decide +kernel) (by decide +kernel) (by decide +kernel) (by decide +kernel) (by decide +kernel) (by decide +kernel), atoms_intro start1.about5_words⟩,
    trivial, (show rest_1_c.before start1.args0 (start1.aboutOf #[]) = true by decide +kernel), (show (Cond.and given_1 narrow_1).before start1.args0 (start1.aboutOf #[]) = true by decide +kernel)⟩
theorem wide_room5 : (start1.aboutOf #[]).hasRoom start1.e0.platform bigR = true := launch0.hasRoom_least _ bigR (by decide +kernel) (by decide +kernel) (by decide +kernel) (by decide +kernel) (by decide +kernel) (by decide +kernel)
theorem short5 : ∀ (b : Nat) (cell : Cell), start1.args0 = #[.ref b] → (start1.aboutOf #[]).heap[b]? = some cell → cell.slots.size < 5 := by
  intro b cell h1 h2
  have hb : b = 0 := by
    have h3 : some (Value.ref 0) = some (Value.ref b) := congrArg (fun a : Array Value => a[0]?) h1
    cases h3
    rfl
  subst hb
  have h4 : (start1.aboutOf #[]).heap[0]? = some { cls := 24, slots := #[], vm := .none } := rfl
  rw [h4] at h2
  cases h2
  decide
/-- the Statement's own word for a claim that is false: a start that it allows, a run that ends, a post that falls -/
theorem refuted_claimed_1 : RefutedClaimed_1_1 := (falls_1 rfl start1.atStart5 wide_room5 short5).1
theorem refuted_claimed_2 : RefutedClaimed_1_2 := (falls_1 rfl start1.atStart5 wide_room5 short5).2
end FALSE
theorem i_vc : Claimed_1_1 ∧ Claimed_1_2 := sorry
