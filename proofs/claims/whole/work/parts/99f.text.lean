/-! A text is read from a tape: what both do. -/
abbrev zG : Type := Int × List (List Int)
abbrev zX : Type := List Int × List Int × List zG
/-- NEEDS, from the sign ahead of the first on -/
def rdN (D : List Int) : Nat → Nat → List (List Int) → Bool × Nat × List (List Int)
  | 0, a, rows => (true, a, rows)
  | k + 1, a, rows =>
    if (rdT D (a + 1)).1 = false then (false, (rdT D (a + 1)).2.1, rows)
    else if tpN D (rdT D (a + 1)).2.1 = 44 ∧ ¬ k = 0 then rdN D k (rdT D (a + 1)).2.1 (rows ++ [(rdT D (a + 1)).2.2])
    else (true, (rdT D (a + 1)).2.1, rows ++ [(rdT D (a + 1)).2.2])
def semi (D : List Int) (a : Nat) (rows : List (List Int)) : Bool × Nat × List (List Int) := if tpN D a = 59 then (true, a + 1, rows) else (false, a, [])
/-- a given one -/
def rdG (D : List Int) (a : Nat) : Bool × Nat × List (List Int) :=
  if (rdT D a).1 = false then (false, (rdT D a).2.1, [])
  else if tpN D (rdT D a).2.1 = 60 then
    if tpN D ((rdT D a).2.1 + 1) = 45 then
      if (rdN D 4 ((rdT D a).2.1 + 1) [(rdT D a).2.2]).1 = false then (false, (rdN D 4 ((rdT D a).2.1 + 1) [(rdT D a).2.2]).2.1, [])
      else semi D (rdN D 4 ((rdT D a).2.1 + 1) [(rdT D a).2.2]).2.1 (rdN D 4 ((rdT D a).2.1 + 1) [(rdT D a).2.2]).2.2
    else (false, (rdT D a).2.1 + 1, [])
  else semi D (rdT D a).2.1 [(rdT D a).2.2]
/-- scopes; st: those that are open -/
def rdX (D : List Int) : Nat → Nat → zX → List Int → Bool × Nat × zX
  | 0, a, X, _ => (false, a, X)
  | k + 1, a, X, st =>
    if tpN D a = 123 then
      if X.1.length = 8 ∨ 5 < st.length then (false, a, X)
      else rdX D k (a + 1) (X.1 ++ [st.headD (-1)], X.2.1 ++ [((st.length : Nat) : Int)], X.2.2) (((X.1.length : Nat) : Int) :: st)
    else match st with
      | [] => (false, a, X)
      | s :: st' =>
        if tpN D a = 125 then (match st' with
          | [] => (decide (a + 1 = D.length), a + 1, X)
          | s' :: st2 => rdX D k (a + 1) X (s' :: st2))
        else if X.2.2.length = 24 then (false, a, X)
        else if (rdG D a).1 = false then (false, (rdG D a).2.1, X)
        else rdX D k (rdG D a).2.1 (X.1, X.2.1, X.2.2 ++ [(s, (rdG D a).2.2)]) (s :: st')
def rdTx (D : List Int) : Bool × Nat × zX := rdX D 800 0 ([], [], []) []
def txG (X : zX) (g : Int) : zG := X.2.2.getD g.toNat (0, [])
def txT (X : zX) : zT := (((X.1.length : Nat) : Int), ((X.2.2.length : Nat) : Int), fun k => X.1.getD k.toNat (-1), fun k => X.2.1.getD k.toNat 0, fun g => (txG X g).1, fun g => (((txG X g).2.length : Nat) : Int) - 1, fun g i => (txG X g).2.getD i [])
/-- the open scopes, the innermost first -/
def stkI (X : zX) : List Int → Prop
  | [] => True
  | s :: st => (0 ≤ s ∧ s < ((X.1.length : Nat) : Int) ∧ X.1.getD s.toNat (-1) = st.headD (-1) ∧ X.2.1.getD s.toNat 0 = ((st.length : Nat) : Int)) ∧ stkI X st
/-- what is read so far is a text -/
def txI (X : zX) : Prop := X.2.1.length = X.1.length ∧ X.1.length ≤ 8 ∧ X.2.2.length ≤ 24 ∧ (∀ k : Nat, k < X.1.length → (X.1.getD k (-1) = -1 ∧ X.2.1.getD k 0 = 0 ∨ (0 ≤ X.1.getD k (-1) ∧ X.1.getD k (-1) < ((k : Nat) : Int) ∧ X.2.1.getD k 0 = X.2.1.getD (X.1.getD k (-1)).toNat 0 + 1)) ∧ 0 ≤ X.2.1.getD k 0 ∧ X.2.1.getD k 0 ≤ 5) ∧ ∀ G, G ∈ X.2.2 → (0 ≤ G.1 ∧ G.1 < ((X.1.length : Nat) : Int)) ∧ (1 ≤ G.2.length ∧ G.2.length ≤ 5) ∧ ∀ r, r ∈ G.2 → rwk r
theorem rdS_le {D : List Int} : ∀ {k a : Nat} {row : List Int} {st : List Nat}, a ≤ (rdS D k a row st).2.1 := by
  intro k
  induction k with
  | zero => intro a row st; exact Nat.le_refl _
  | succ k ih =>
    intro a row st
    unfold rdS
    by_cases q1 : (65 ≤ tpN D a ∧ tpN D a ≤ 90) ∨ (97 ≤ tpN D a ∧ tpN D a ≤ 122)
    · rw [if_neg (fun w => w q1)]
      have hlt := tpN_lt (D := D) (a := a) (by omega)
      by_cases q2 : tpN D a ≤ 90 ∧ tpN D (a + 1) = 40
      · rw [if_pos q2]
        exact Nat.le_trans (by omega) ih
      · rw [if_neg q2]
        have hcl := clsS_le (D := D) (st := st) (a := a + 1) (by omega)
        cases hc : clsS D (a + 1) st with
        | mk a' st2 =>
          rw [hc] at hcl
          have l1 : a + 1 ≤ a' := hcl.1
          cases st2 with
          | nil => show a ≤ a'; omega
          | cons o st' =>
            dsimp only
            by_cases q3 : (row ++ [if tpN D a ≤ 90 then 4 * (tpN D a - 65) else -1 - (tpN D a - 97)]).getD o 0 % 4 = 3 ∨ ¬ tpN D a' = 44
            · rw [if_pos q3]; show a ≤ a'; omega
            · rw [if_neg q3]
              exact Nat.le_trans (show a ≤ a' + 1 by omega) ih
    · rw [if_pos q1]
      exact Nat.le_refl _
theorem rdT_up {D : List Int} {a : Nat} (h : (rdT D a).1 = true) : a < (rdT D a).2.1 := by
  have up1 : (rdS D 12 a [] []).1 = true → a + 1 ≤ (rdS D 12 a [] []).2.1 := by
    show (rdS D (11 + 1) a [] []).1 = true → a + 1 ≤ (rdS D (11 + 1) a [] []).2.1
    unfold rdS
    by_cases q1 : (65 ≤ tpN D a ∧ tpN D a ≤ 90) ∨ (97 ≤ tpN D a ∧ tpN D a ≤ 122)
    · rw [if_neg (fun w => w q1)]
      by_cases q2 : tpN D a ≤ 90 ∧ tpN D (a + 1) = 40
      · rw [if_pos q2]
        intro _
        exact Nat.le_trans (show a + 1 ≤ a + 2 by omega) rdS_le
      · rw [if_neg q2]
        show (true, a + 1, _).1 = true → a + 1 ≤ a + 1
        intro _; omega
    · rw [if_pos q1]
      intro w; cases w
  exact up1 h
theorem rdN_ok {D : List Int} : ∀ {k a : Nat} {rows : List (List Int)}, a < D.length → (∀ r, r ∈ rows → rwk r) → (rdN D k a rows).2.1 ≤ D.length ∧ a ≤ (rdN D k a rows).2.1 ∧ ((rdN D k a rows).1 = true → (∀ r, r ∈ (rdN D k a rows).2.2 → rwk r) ∧ rows.length ≤ (rdN D k a rows).2.2.length ∧ (rdN D k a rows).2.2.length ≤ rows.length + k) := by
  intro k
  induction k with
  | zero => intro a rows ha hr; exact ⟨by show a ≤ D.length; omega, Nat.le_refl _, fun _ => ⟨hr, Nat.le_refl _, Nat.le_refl _⟩⟩
  | succ k ih =>
    intro a rows ha hr
    have h1 := rdT_ok (D := D) (a := a + 1) (by omega)
    unfold rdN
    by_cases q : (rdT D (a + 1)).1 = false
    · rw [if_pos q]
      refine ⟨h1.1, ?_, fun w => (by cases w)⟩
      have := rdS_le (D := D) (k := 12) (a := a + 1) (row := []) (st := [])
      show a ≤ (rdT D (a + 1)).2.1
      unfold rdT
      omega
    · rw [if_neg q]
      have qt : (rdT D (a + 1)).1 = true := by
        cases h : (rdT D (a + 1)).1 with
        | true => rfl
        | false => exact absurd h q
      have hup := rdT_up qt
      have hr2 : ∀ r, r ∈ rows ++ [(rdT D (a + 1)).2.2] → rwk r := fun r hh => by
        rcases List.mem_append.mp hh with w | w
        · exact hr r w
        · rw [List.mem_singleton] at w
          rw [w]; exact h1.2 qt
      have hl2 : (rows ++ [(rdT D (a + 1)).2.2]).length = rows.length + 1 := by rw [List.length_append]; rfl
      by_cases q2 : tpN D (rdT D (a + 1)).2.1 = 44 ∧ ¬ k = 0
      · rw [if_pos q2]
        have hlt := tpN_lt (D := D) (a := (rdT D (a + 1)).2.1) (by rw [q2.1]; decide)
        obtain ⟨i1, i2, i3⟩ := ih (a := (rdT D (a + 1)).2.1) (rows := rows ++ [(rdT D (a + 1)).2.2]) hlt hr2
        refine ⟨i1, by omega, fun w => ?_⟩
        obtain ⟨j1, j2, j3⟩ := i3 w
        exact ⟨j1, by omega, by omega⟩
      · rw [if_neg q2]
        exact ⟨h1.1, by show a ≤ (rdT D (a + 1)).2.1; omega, fun _ => ⟨hr2, by show rows.length ≤ (rows ++ [(rdT D (a + 1)).2.2]).length; omega, by show (rows ++ [(rdT D (a + 1)).2.2]).length ≤ rows.length + (k + 1); omega⟩⟩
theorem semi_ok {D : List Int} {a : Nat} {rows : List (List Int)} (ha : a ≤ D.length) : (semi D a rows).2.1 ≤ D.length ∧ ((semi D a rows).1 = true → (semi D a rows).2.2 = rows ∧ (semi D a rows).2.1 = a + 1) := by
  unfold semi
  by_cases q : tpN D a = 59
  · rw [if_pos q]
    have := tpN_lt (D := D) (a := a) (by rw [q]; decide)
    exact ⟨by show a + 1 ≤ D.length; omega, fun _ => ⟨rfl, rfl⟩⟩
  · rw [if_neg q]
    exact ⟨ha, fun w => (by cases w)⟩
theorem rdG_ok {D : List Int} {a : Nat} (ha : a ≤ D.length) : (rdG D a).2.1 ≤ D.length ∧ ((rdG D a).1 = true → a < (rdG D a).2.1 ∧ (1 ≤ (rdG D a).2.2.length ∧ (rdG D a).2.2.length ≤ 5) ∧ ∀ r, r ∈ (rdG D a).2.2 → rwk r) := by
  have h1 := rdT_ok (D := D) (a := a) ha
  unfold rdG
  by_cases q : (rdT D a).1 = false
  · rw [if_pos q]
    exact ⟨h1.1, fun w => (by cases w)⟩
  · rw [if_neg q]
    have qt : (rdT D a).1 = true := by
      cases h : (rdT D a).1 with
      | true => rfl
      | false => exact absurd h q
    have hup := rdT_up qt
    have hr1 : ∀ r, r ∈ [(rdT D a).2.2] → rwk r := fun r hh => by
      rw [List.mem_singleton] at hh
      rw [hh]; exact h1.2 qt
    by_cases q2 : tpN D (rdT D a).2.1 = 60
    · rw [if_pos q2]
      have hlt := tpN_lt (D := D) (a := (rdT D a).2.1) (by rw [q2]; decide)
      by_cases q3 : tpN D ((rdT D a).2.1 + 1) = 45
      · rw [if_pos q3]
        have hlt2 := tpN_lt (D := D) (a := (rdT D a).2.1 + 1) (by rw [q3]; decide)
        obtain ⟨i1, i2, i3⟩ := rdN_ok (D := D) (k := 4) (a := (rdT D a).2.1 + 1) (rows := [(rdT D a).2.2]) hlt2 hr1
        by_cases q4 : (rdN D 4 ((rdT D a).2.1 + 1) [(rdT D a).2.2]).1 = false
        · rw [if_pos q4]
          exact ⟨i1, fun w => (by cases w)⟩
        · rw [if_neg q4]
          have qt4 : (rdN D 4 ((rdT D a).2.1 + 1) [(rdT D a).2.2]).1 = true := by
            cases h : (rdN D 4 ((rdT D a).2.1 + 1) [(rdT D a).2.2]).1 with
            | true => rfl
            | false => exact absurd h q4
          obtain ⟨j1, j2, j3⟩ := i3 qt4
          obtain ⟨k1, k2⟩ := semi_ok (rows := (rdN D 4 ((rdT D a).2.1 + 1) [(rdT D a).2.2]).2.2) i1
          refine ⟨k1, fun w => ?_⟩
          obtain ⟨m1, m2⟩ := k2 w
          rw [m1, m2]
          have hl1 : ([(rdT D a).2.2] : List (List Int)).length = 1 := rfl
          exact ⟨by omega, ⟨by omega, by omega⟩, j1⟩
      · rw [if_neg q3]
        exact ⟨by show (rdT D a).2.1 + 1 ≤ D.length; omega, fun w => (by cases w)⟩
    · rw [if_neg q2]
      obtain ⟨k1, k2⟩ := semi_ok (rows := [(rdT D a).2.2]) h1.1
      refine ⟨k1, fun w => ?_⟩
      obtain ⟨m1, m2⟩ := k2 w
      rw [m1, m2]
      exact ⟨by omega, ⟨by show 1 ≤ 1; omega, by show 1 ≤ 5; omega⟩, hr1⟩
