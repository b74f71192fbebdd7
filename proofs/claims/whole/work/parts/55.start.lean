/-! The law's start: what its words give, what the constructors' models come to, and the walk up to the second object. -/
section START
/-! ### models of the constructors, run -/
def fillM (M : Mem) (k0 : Nat) (v : Int32) (j N : Nat) : Mem := (fun t k i => if t = 20 ∧ k = k0 ∧ j ≤ i ∧ i < N then v else M.1 t k i, M.2)
theorem lp_inl {S R : Type} {body : S → Option (S ⊕ R)} {n : Nat} {s s' : S} (h : body s = some (.inl s')) : lp_run body (n + 1) s = lp_run body n s' := by
  conv => lhs; unfold lp_run
  rw [h]
theorem lp_inr {S R : Type} {body : S → Option (S ⊕ R)} {n : Nat} {s : S} {r : R} (h : body s = some (.inr r)) : lp_run body (n + 1) s = some r := by
  conv => lhs; unfold lp_run
  rw [h]
theorem fill_run (f0 k0 : Nat) (v : Int32) (N : Nat) (hN : alen 20 k0 = N) (hb : N < 2 ^ 31) : ∀ (d j fu : Nat) (M : Mem), j + d = N → d < fu → lp_run (fun s => f_X8_fill_b2 f0 k0 v s.1 s.2) fu (nI j, M) = some (fillM M k0 v j N)
  | 0, j, fu + 1, M, hj, _ => by
    have hj : j = N := by omega
    subst hj
    have h1 : f_X8_fill_b2 f0 k0 v (nI j) M = some (Sum.inr M) := by
      unfold f_X8_fill_b2
      rw [hN, if_pos (nI_le (Nat.le_refl _) hb)]
    rw [lp_inr (body := fun s : Int32 × Mem => f_X8_fill_b2 f0 k0 v s.1 s.2) (s := (nI j, M)) h1]
    unfold fillM
    congr 1
    obtain ⟨m1, m2⟩ := M
    congr 1
    funext t k i
    rw [if_neg (by omega)]
  | d + 1, j, fu + 1, M, hj, hf => by
    have hlt : j < N := by omega
    have h1 : f_X8_fill_b2 f0 k0 v (nI j) M = some (Sum.inl (nI (j + 1), mI M 20 k0 j v)) := by
      unfold f_X8_fill_b2
      rw [hN, if_neg (nI_ge hlt hb), if_pos (nI_in hlt hb), nI_1, nI_clamp (by omega)]
    rw [lp_inl (body := fun s : Int32 × Mem => f_X8_fill_b2 f0 k0 v s.1 s.2) (s := (nI j, M)) h1, fill_run f0 k0 v N hN hb d (j + 1) fu (mI M 20 k0 j v) (by omega) (by omega)]
    unfold fillM mI
    congr 1
    obtain ⟨m1, m2⟩ := M
    congr 1
    funext t k i
    show (if t = 20 ∧ k = k0 ∧ j + 1 ≤ i ∧ i < N then v else if t = 20 ∧ k = k0 ∧ i = j then v else m1 t k i) = if t = 20 ∧ k = k0 ∧ j ≤ i ∧ i < N then v else m1 t k i
    by_cases h2 : t = 20 ∧ k = k0 ∧ j ≤ i ∧ i < N
    · rw [if_pos h2]
      by_cases h3 : t = 20 ∧ k = k0 ∧ j + 1 ≤ i ∧ i < N
      · rw [if_pos h3]
      · rw [if_neg h3, if_pos (by omega)]
    · rw [if_neg h2, if_neg (by omega), if_neg (by omega)]
theorem fill_all (fu k0 : Nat) (v : Int32) (M : Mem) {N : Nat} (hN : alen 20 k0 = N) (hb : N < 2 ^ 31) (hf : N < fu) : f_X8_fill fu k0 v M = some (fillM M k0 v 0 N) := by
  unfold f_X8_fill f_X8_fill_h2
  rw [← nI_0, fill_run fu k0 v N hN hb N 0 fu M (by omega) hf]
  rfl
theorem fill_MF : f_X8_fill 400 22 (-1 : Int32) MZ = some MF := by
  rw [fill_all 400 22 (-1) MZ (N := 300) rfl (by decide) (by decide)]
  unfold fillM MZ MF
  congr 2
  funext t k i
  show (if t = 20 ∧ k = 22 ∧ 0 ≤ i ∧ i < 300 then (-1 : Int32) else if t = 3 then (if i = 0 then grw k else if i = 1 then gcl k else 0) else 0) = if t = 3 then (if i = 0 then grw k else if i = 1 then gcl k else 0) else if t = 20 ∧ k = 22 then (if i < 300 then -1 else 0) else 0
  by_cases h3 : t = 3
  · rw [if_neg (by omega), if_pos h3, if_pos h3]
  · rw [if_neg h3, if_neg h3]
    by_cases h4 : t = 20 ∧ k = 22
    · rw [if_pos h4]
      by_cases h5 : i < 300
      · rw [if_pos (by omega), if_pos h5]
      · rw [if_neg (by omega), if_neg h5]
    · rw [if_neg (by omega), if_neg h4]
def Mb0 : Mem := mI (mI MF 2 0 0 2) 2 0 1 0
def Mc0 : Mem := fillM Mb0 12 2 0 8
theorem clear_Mb : f_X2_clear 400 0 (2 : Int32) MF = some Mb0 := rfl
theorem clear_Mc : f_X1_clear 400 0 Mb0 = some Mc0 := by
  unfold f_X1_clear
  rw [show (2 * 0 + 12) = 12 from rfl, fill_all 400 12 2 Mb0 (N := 8) rfl (by decide) (by decide)]
  rfl
set_option maxRecDepth 100000 in
theorem changed_some : (f_X9_graphChanged 400 Mc0).isSome = true := by decide +kernel
set_option maxRecDepth 100000 in
theorem fresh_some : (f_X10_fresh 400 (2 : Int32) MM).isSome = true := by decide +kernel
end START
