/-! A tree's rows one by one. -/
theorem treeW_at {σ : jS} {nb fb base : Int} : ∀ {t : List zN} {p : Int} {st : List (Int × Int)}, treeW σ nb fb base p st t → ∀ (i : Nat) (h : i < t.length), forN σ nb fb (base + (p + (i : Nat))) (t[i]) ((stW p st (t.take i)).headD (-1, -1)) := by
  intro t
  induction t with
  | nil => intro p st _ i h; exact absurd h (Nat.not_lt_zero i)
  | cons y t ih =>
    intro p st w i h
    cases i with
    | zero =>
      rw [show p + ((0 : Nat) : Int) = p by omega]
      exact w.1
    | succ i =>
      have h2 : i < t.length := by rw [List.length_cons] at h; omega
      have := ih w.2 i h2
      rw [show p + ((i + 1 : Nat) : Int) = p + 1 + ((i : Nat) : Int) by omega]
      exact this
theorem stW_ne : ∀ {t : List zN} {p : Int} {st : List (Int × Int)}, rdA (t.map arZ) st.length = some [] → ∀ (i : Nat), i < t.length → ¬ stW p st (t.take i) = [] := by
  intro t
  induction t with
  | nil => intro p st _ i h; exact absurd h (Nat.not_lt_zero i)
  | cons y t ih =>
    intro p st w i h
    cases st with
    | nil =>
      have w2 : rdA ((y :: t).map arZ) 0 = some [] := w
      unfold rdA at w2
      have w3 : ((y :: t).map arZ) = [] := Option.some.inj w2
      rw [List.map_cons] at w3
      cases w3
    | cons u st =>
      cases i with
      | zero =>
        show ¬ (u :: st) = []
        exact fun q => by cases q
      | succ i =>
        have h2 : i < t.length := by rw [List.length_cons] at h; omega
        refine ih (p := p + 1) (st := (List.range y.2.2.2.2.2.1.toNat).map (fun k : Nat => (p, (k : Int))) ++ st) ?_ i h2
        rw [List.length_append, List.length_map, List.length_range, Nat.add_comm]
        exact w
theorem stW_lt : ∀ {t : List zN} {p : Int} {st : List (Int × Int)} {lo : Int}, lo ≤ p → (∀ u, u ∈ st → lo ≤ u.1 ∧ u.1 < p) → ∀ u, u ∈ stW p st t → lo ≤ u.1 ∧ u.1 < p + (t.length : Nat) := by
  intro t
  induction t with
  | nil =>
    intro p st lo hp h u hu
    have := h u hu
    exact ⟨this.1, by rw [List.length_nil]; omega⟩
  | cons y t ih =>
    intro p st lo hp h u hu
    have := ih (p := p + 1) (st := (List.range y.2.2.2.2.2.1.toNat).map (fun k : Nat => (p, (k : Int))) ++ st.tail) (lo := lo) (by omega) (fun v hv => by
      rcases List.mem_append.mp hv with w | w
      · obtain ⟨k, -, e⟩ := List.mem_map.mp w
        rw [← e]
        exact ⟨hp, by show p < p + 1; omega⟩
      · have := h v (List.mem_of_mem_tail w)
        exact ⟨this.1, by omega⟩) u hu
    rw [List.length_cons]
    exact ⟨this.1, by omega⟩
