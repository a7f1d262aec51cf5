/-! The places that are open behind rows of a tree. -/
theorem stW_app : ∀ {l1 l2 : List zN} {p : Int} {st : List (Int × Int)}, stW p st (l1 ++ l2) = stW (p + (l1.length : Nat)) (stW p st l1) l2 := by
  intro l1
  induction l1 with
  | nil =>
    intro l2 p st
    show stW p st l2 = stW (p + ((0 : Nat) : Int)) st l2
    rw [show p + ((0 : Nat) : Int) = p by omega]
  | cons z l1 ih =>
    intro l2 p st
    show stW (p + 1) _ (l1 ++ l2) = stW (p + (((z :: l1).length : Nat) : Int)) (stW (p + 1) _ l1) l2
    rw [ih, List.length_cons, show p + ((l1.length + 1 : Nat) : Int) = p + 1 + ((l1.length : Nat) : Int) by omega]
theorem stP_app : ∀ {l1 l2 : List zI} {p : Int} {st : List (Int × Int)}, stP p st (l1 ++ l2) = stP (p + (l1.length : Nat)) (stP p st l1) l2 := by
  intro l1
  induction l1 with
  | nil =>
    intro l2 p st
    show stP p st l2 = stP (p + ((0 : Nat) : Int)) st l2
    rw [show p + ((0 : Nat) : Int) = p by omega]
  | cons z l1 ih =>
    intro l2 p st
    show stP (p + 1) _ (l1 ++ l2) = stP (p + (((z :: l1).length : Nat) : Int)) (stP (p + 1) _ l1) l2
    rw [ih, List.length_cons, show p + ((l1.length + 1 : Nat) : Int) = p + 1 + ((l1.length : Nat) : Int) by omega]
/-- a tree that is whole takes the place that it has -/
theorem stW_full : ∀ {t : List zN} {p : Int} {us st : List (Int × Int)}, rdA (t.map arZ) us.length = some [] → stW p (us ++ st) t = st := by
  intro t
  induction t with
  | nil =>
    intro p us st h
    cases us with
    | nil => rfl
    | cons u us => exact absurd h (by unfold rdA; intro w; cases w)
  | cons z t ih =>
    intro p us st h
    cases us with
    | nil => exact absurd h (by unfold rdA; intro w; cases w)
    | cons u us =>
      show stW (p + 1) ((List.range z.2.2.2.2.2.1.toNat).map (fun k : Nat => (p, (k : Int))) ++ (us ++ st)) t = st
      rw [← List.append_assoc]
      refine ih ?_
      rw [List.length_append, List.length_map, List.length_range, Nat.add_comm]
      exact h
