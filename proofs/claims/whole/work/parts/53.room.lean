/-! The claim's room is too small: no state that holds an ArrowDiagrams and an ArrowDiagramsModel in new cells keeps the claim's frame. -/
section ROOM
def esz (e : va_E) : Nat := match e with
  | .inl a => a.2.1
  | .inr _ => 0
theorem sum_set0 : ∀ (L : List Nat) (i v : Nat), L[i]? = some v → L.sum = v + (L.set i 0).sum
  | [], i, v, h => by simp at h
  | a :: r, 0, v, h => by
    simp at h
    subst h
    simp
  | a :: r, i + 1, v, h => by
    have h' : r[i]? = some v := by simpa using h
    have := sum_set0 r i v h'
    simp only [List.set_cons_succ, List.sum_cons]
    omega
theorem sizes_sum (base : Nat) : ∀ (ws : va_W) (L : List Nat), (∀ (j : Nat) (q : Nat × va_E), ws[j]? = some q → ∃ i v, q.1 = base + i ∧ L[i]? = some v ∧ esz q.2 ≤ v) → (∀ (i j : Nat) (p q : Nat × va_E), ws[i]? = some p → ws[j]? = some q → p.1 = q.1 → i = j) → (ws.map (fun q => esz q.2)).sum ≤ L.sum
  | [], L, _, _ => by simp
  | q :: r, L, h, hd => by
    obtain ⟨i, v, h1, h2, h3⟩ := h 0 q rfl
    have ih := sizes_sum base r (L.set i 0) (fun j x hx => by
      obtain ⟨i2, v2, g1, g2, g3⟩ := h (j + 1) x hx
      have hne : i2 ≠ i := fun e => by
        have := hd 0 (j + 1) q x rfl hx (by rw [h1, g1, e])
        omega
      exact ⟨i2, v2, g1, by rw [List.getElem?_set_ne (Ne.symm hne)]; exact g2, g3⟩) (fun a b x y hx hy hxy => by
      have := hd (a + 1) (b + 1) x y hx hy hxy
      omega)
    have := sum_set0 L i v h2
    simp only [List.map_cons, List.sum_cons]
    omega
theorem cell_esz {D : va_G} {q : Nat × va_E} {H : Heap} (h : va_at D vwCl q H) : ∃ c : Cell, H[q.1]? = some c ∧ esz q.2 ≤ c.slots.size := by
  obtain ⟨a, e⟩ := q
  cases e with
  | inl x =>
    refine ⟨_, h, ?_⟩
    show x.2.1 ≤ (vp_cell x.1 x.2).slots.size
    obtain ⟨cA, n, f | f | f | f | f⟩ := x <;> (show n ≤ (arrV _ n _).slots.size; rw [arrV_size]; exact Nat.le_refl _)
  | inr o =>
    obtain ⟨r, h1, cell, h2, -⟩ := h
    exact ⟨cell, h2, Nat.zero_le _⟩
def idsm : List (Nat × Nat) := [(10, 0), (22, 3), (22, 4), (22, 5), (22, 6), (22, 8), (22, 9), (22, 10), (22, 12), (22, 14), (22, 15), (22, 16), (22, 17), (22, 18), (22, 25), (22, 26), (22, 27), (22, 29), (22, 30)]
theorem esz_enc (G : GE) (M : Mem) (t k : Nat) : esz (enc G M t k) = if t < 20 then 0 else alen t k := by
  unfold enc
  by_cases h : t < 20
  · rw [if_pos h, if_pos h]; rfl
  · rw [if_neg h, if_neg h]
    by_cases h2 : t = 23
    · rw [if_pos h2]; rfl
    · rw [if_neg h2]; rfl
/-- the elements of the arrays alone -/
theorem made_sum : (((ids9 ++ idsm).map (fun q => if q.1 < 20 then 0 else alen q.1 q.2)).sum) = 23766 := by decide +kernel
theorem room_short {D : va_G} {G : GE} {M : Mem} {s t : State} {L : List Loc} (hf : s.sameButNew t L 1145 16941) (hids : gids G = ids9 ++ idsm) (hP : va_P D vwCl (wl G M) t.heap) (hD : va_D (fun q => s.heap.size ≤ q) (wl G M)) : False := by
  have h1 := hf.2.2.2.2.1
  have h2 : ((wl G M).map (fun q => esz q.2)).sum ≤ ((t.heap.toList.drop s.heap.size).map (·.slots.size)).sum := by
    refine sizes_sum s.heap.size _ _ (fun j q hq => ?_) hD.1
    obtain ⟨c, hc, hz⟩ := cell_esz (hP j q hq)
    have hb := hD.2 j q hq
    refine ⟨q.1 - s.heap.size, c.slots.size, by omega, ?_, hz⟩
    rw [List.getElem?_map, List.getElem?_drop, show s.heap.size + (q.1 - s.heap.size) = q.1 by omega, Array.getElem?_toList, hc]
    rfl
  have h3 : ((wl G M).map (fun q => esz q.2)) = (ids9 ++ idsm).map (fun q => if q.1 < 20 then 0 else alen q.1 q.2) := by
    unfold wl
    rw [hids, List.map_map]
    refine List.map_congr_left (fun q _ => ?_)
    exact esz_enc G M q.1 q.2
  rw [h3, made_sum] at h2
  omega
end ROOM
