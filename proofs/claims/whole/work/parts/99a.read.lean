/-! A type is read from a tape: what both do. -/
/-- the octet at a place (-1: none) -/
def tpN (D : List Int) (a : Nat) : Int := (D[a]?).getD (-1)
/-- signs ) are passed -/
def clsS (D : List Int) : Nat → List Nat → Nat × List Nat
  | a, [] => (a, [])
  | a, o :: st => if tpN D a = 41 then clsS D (a + 1) st else (a, o :: st)
/-- a type, from a place on: whether it is one; the place after it, or where it fails; its things -/
def rdS (D : List Int) : Nat → Nat → List Int → List Nat → Bool × Nat × List Int
  | 0, a, row, _ => (false, a, row)
  | k + 1, a, row, st =>
    if ¬ ((65 ≤ tpN D a ∧ tpN D a ≤ 90) ∨ (97 ≤ tpN D a ∧ tpN D a ≤ 122)) then (false, a, row)
    else if tpN D a ≤ 90 ∧ tpN D (a + 1) = 40 then rdS D k (a + 2) (row ++ [4 * (tpN D a - 65) + 1]) (row.length :: st)
    else match clsS D (a + 1) st with
      | (a', []) => (true, a', row ++ [if tpN D a ≤ 90 then 4 * (tpN D a - 65) else -1 - (tpN D a - 97)])
      | (a', o :: st') =>
        if (row ++ [if tpN D a ≤ 90 then 4 * (tpN D a - 65) else -1 - (tpN D a - 97)]).getD o 0 % 4 = 3 ∨ ¬ tpN D a' = 44 then (false, a', row ++ [if tpN D a ≤ 90 then 4 * (tpN D a - 65) else -1 - (tpN D a - 97)])
        else rdS D k (a' + 1) ((row ++ [if tpN D a ≤ 90 then 4 * (tpN D a - 65) else -1 - (tpN D a - 97)]).set o ((row ++ [if tpN D a ≤ 90 then 4 * (tpN D a - 65) else -1 - (tpN D a - 97)]).getD o 0 + 1)) (o :: st')
def rdT (D : List Int) (a : Nat) : Bool × Nat × List Int := rdS D 12 a [] []
theorem tpN_lt {D : List Int} {a : Nat} (h : ¬ tpN D a = -1) : a < D.length := Classical.byContradiction (fun w => h (by
  unfold tpN
  rw [List.getElem?_eq_none (by omega)]
  rfl))
theorem clsS_le {D : List Int} : ∀ {st : List Nat} {a : Nat}, a ≤ D.length → a ≤ (clsS D a st).1 ∧ (clsS D a st).1 ≤ D.length ∧ (clsS D a st).2.length ≤ st.length ∧ ∀ o, o ∈ (clsS D a st).2 → o ∈ st := by
  intro st
  induction st with
  | nil => intro a h; exact ⟨Nat.le_refl _, h, Nat.le_refl _, fun o ho => ho⟩
  | cons o st ih =>
    intro a h
    unfold clsS
    by_cases q : tpN D a = 41
    · rw [if_pos q]
      have := tpN_lt (D := D) (a := a) (by rw [q]; decide)
      obtain ⟨i1, i2, i3, i4⟩ := ih (a := a + 1) (by omega)
      exact ⟨by omega, i2, by rw [List.length_cons]; omega, fun o ho => List.mem_cons_of_mem _ (i4 o ho)⟩
    · rw [if_neg q]
      exact ⟨Nat.le_refl _, h, Nat.le_refl _, fun o ho => ho⟩
/-- one more part, at the end -/
theorem rdk_inc {t t' : Int} {l2 : List Int} (hp : pN t' = pN t + 1) : ∀ {l1 : List Int} {k : Nat}, rdk (l1 ++ t :: l2) k = some [] → ∀ e, rdk ((l1 ++ t' :: l2) ++ e) k = rdk e 1 := by
  intro l1
  induction l1 with
  | nil =>
    intro k h e
    cases k with
    | zero => rw [rdk_0] at h; cases h
    | succ k =>
      have h2 : rdk l2 (k + pN t) = some [] := h
      show rdk (l2 ++ e) (k + pN t') = rdk e 1
      rw [hp, show k + (pN t + 1) = (k + pN t) + 1 by omega, rdk_add, rdk_app h2 e]
      rfl
  | cons s l1 ih =>
    intro k h e
    cases k with
    | zero => rw [rdk_0] at h; cases h
    | succ k => exact ih (k := k + pN s) h e
theorem rdS_ok {D : List Int} : ∀ {k a : Nat} {row : List Int} {st : List Nat}, row.length + k = 12 → (∀ e, rdk (row ++ e) 1 = rdk e 1) → (∀ t, t ∈ row → thg t) → (∀ o, o ∈ st → o < row.length ∧ 0 ≤ row.getD o 0) → a ≤ D.length → (rdS D k a row st).2.1 ≤ D.length ∧ ((rdS D k a row st).1 = true → rwk (rdS D k a row st).2.2) := by
  intro k
  induction k with
  | zero =>
    intro a row st _ _ _ _ ha
    unfold rdS
    exact ⟨ha, fun w => (by cases w)⟩
  | succ k ih =>
    intro a row st hl hr hg hst ha
    unfold rdS
    by_cases q1 : (65 ≤ tpN D a ∧ tpN D a ≤ 90) ∨ (97 ≤ tpN D a ∧ tpN D a ≤ 122)
    · rw [if_neg (fun w => w q1)]
      have ha2 := tpN_lt (D := D) (a := a) (by omega)
      by_cases q2 : tpN D a ≤ 90 ∧ tpN D (a + 1) = 40
      · rw [if_pos q2]
        have ha3 := tpN_lt (D := D) (a := a + 1) (by rw [q2.2]; decide)
        refine ih (by rw [List.length_append]; show row.length + 1 + k = 12; omega) (fun e => ?_) (fun t ht => ?_) (fun o ho => ?_) (by omega)
        · rw [List.append_assoc, hr]
          show rdk e (0 + pN (4 * (tpN D a - 65) + 1)) = rdk e 1
          unfold pN
          rw [if_neg (by omega), show (4 * (tpN D a - 65) + 1) % 4 = 1 by omega]
          rfl
        · rcases List.mem_append.mp ht with w | w
          · exact hg t w
          · rw [List.mem_singleton] at w
            rw [w]
            unfold thg
            omega
        · rcases List.mem_cons.mp ho with w | w
          · subst w
            refine ⟨by rw [List.length_append]; show row.length < row.length + 1; omega, ?_⟩
            rw [List.getD_eq_getElem?_getD, List.getElem?_append_right (Nat.le_refl _), Nat.sub_self]
            show 0 ≤ 4 * (tpN D a - 65) + 1
            omega
          · obtain ⟨w1, w2⟩ := hst o w
            refine ⟨by rw [List.length_append]; omega, ?_⟩
            rw [List.getD_eq_getElem?_getD, List.getElem?_append_left w1, ← List.getD_eq_getElem?_getD]
            exact w2
      · rw [if_neg q2]
        generalize ht0 : (if tpN D a ≤ 90 then 4 * (tpN D a - 65) else -1 - (tpN D a - 97)) = t0
        have hp0 : pN t0 = 0 := by
          rw [← ht0]
          unfold pN
          by_cases q : tpN D a ≤ 90
          · rw [if_pos q, if_neg (by omega), show (4 * (tpN D a - 65)) % 4 = 0 by omega]; rfl
          · rw [if_neg q, if_pos (by omega)]
        have ht0g : thg t0 := by
          rw [← ht0]
          unfold thg
          split <;> omega
        have hrow : ∀ e, rdk ((row ++ [t0]) ++ e) 1 = some e := fun e => by
          rw [List.append_assoc, hr]
          show rdk e (0 + pN t0) = some e
          rw [hp0, rdk_0]
        have hcl := clsS_le (D := D) (st := st) (a := a + 1) (by omega)
        cases hc : clsS D (a + 1) st with
        | mk a' st2 =>
          rw [hc] at hcl
          obtain ⟨l1, l2, l3, l4⟩ := hcl
          dsimp only at l1 l2 l3 l4
          cases st2 with
          | nil =>
            refine ⟨l2, fun _ => ⟨?_, fun t ht => ?_, ?_⟩⟩
            · have := hrow []
              rw [List.append_nil] at this
              exact this
            · rcases List.mem_append.mp ht with w | w
              · exact hg t w
              · rw [List.mem_singleton] at w
                rw [w]; exact ht0g
            · show (row ++ [t0]).length ≤ 12
              rw [List.length_append]
              show row.length + 1 ≤ 12
              omega
          | cons o st' =>
            dsimp only
            by_cases q3 : (row ++ [t0]).getD o 0 % 4 = 3 ∨ ¬ tpN D a' = 44
            · rw [if_pos q3]
              exact ⟨l2, fun w => (by cases w)⟩
            · rw [if_neg q3]
              have hq3 : ¬ (row ++ [t0]).getD o 0 % 4 = 3 ∧ tpN D a' = 44 := ⟨fun w => q3 (Or.inl w), Classical.byContradiction (fun w => q3 (Or.inr w))⟩
              have ha4 := tpN_lt (D := D) (a := a') (by rw [hq3.2]; decide)
              obtain ⟨o1, o2⟩ := hst o (l4 o List.mem_cons_self)
              have eo : (row ++ [t0]).getD o 0 = row.getD o 0 := by
                rw [List.getD_eq_getElem?_getD, List.getElem?_append_left o1, ← List.getD_eq_getElem?_getD]
              rw [eo] at hq3 ⊢
              have ero : row[o] = row.getD o 0 := by
                rw [List.getD_eq_getElem?_getD, List.getElem?_eq_getElem o1]
                rfl
              have og : thg (row.getD o 0) := by rw [← ero]; exact hg _ (List.getElem_mem o1)
              have hset : ((row ++ [t0]).set o (row.getD o 0 + 1)).length = row.length + 1 := by
                rw [List.length_set, List.length_append]; rfl
              have hol : o < (row ++ [t0]).length := by rw [List.length_append]; omega
              refine ih (by rw [hset]; omega) (fun e => ?_) (fun t ht => ?_) (fun o' ho' => ?_) (by omega)
              · have e1 : row ++ [t0] = (row ++ [t0]).take o ++ (row.getD o 0) :: (row ++ [t0]).drop (o + 1) := by
                  have h1 := (List.take_append_drop o (row ++ [t0])).symm
                  have h2 : (row ++ [t0]).drop o = (row ++ [t0])[o] :: (row ++ [t0]).drop (o + 1) := List.drop_eq_getElem_cons hol
                  have h3 : (row ++ [t0])[o] = row.getD o 0 := by rw [List.getElem_append_left o1]; exact ero
                  rw [h3] at h2
                  rw [h2] at h1
                  exact h1
                have e2 : (row ++ [t0]).set o (row.getD o 0 + 1) = (row ++ [t0]).take o ++ (row.getD o 0 + 1) :: (row ++ [t0]).drop (o + 1) := by
                  rw [List.set_eq_take_append_cons_drop, if_pos hol]
                rw [e2]
                have hd := hrow []
                rw [List.append_nil, e1] at hd
                refine rdk_inc (t := row.getD o 0) ?_ hd e
                unfold pN
                rw [if_neg (by omega), if_neg (by omega)]
                omega
              · rcases List.mem_or_eq_of_mem_set ht with w | w
                · rcases List.mem_append.mp w with w | w
                  · exact hg t w
                  · rw [List.mem_singleton] at w
                    rw [w]; exact ht0g
                · rw [w]
                  unfold thg at og ⊢
                  omega
              · obtain ⟨w1, w2⟩ := hst o' (l4 o' ho')
                refine ⟨by rw [hset]; omega, ?_⟩
                by_cases qo : o = o'
                · subst qo
                  rw [List.getD_eq_getElem?_getD, List.getElem?_set_self hol]
                  show 0 ≤ row.getD o 0 + 1
                  omega
                · rw [List.getD_eq_getElem?_getD, List.getElem?_set_ne qo, List.getElem?_append_left w1, ← List.getD_eq_getElem?_getD]
                  exact w2
    · rw [if_pos q1]
      exact ⟨ha, fun w => (by cases w)⟩
theorem rdT_ok {D : List Int} {a : Nat} (ha : a ≤ D.length) : (rdT D a).2.1 ≤ D.length ∧ ((rdT D a).1 = true → rwk (rdT D a).2.2) := rdS_ok rfl (fun e => rfl) (fun t ht => (by cases ht)) (fun o ho => (by cases ho)) ha
