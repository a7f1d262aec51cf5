/-! What is read is a text. -/
theorem gd_old {α : Type} {l : List α} {x d : α} {k : Nat} (h : k < l.length) : (l ++ [x]).getD k d = l.getD k d := by
  rw [List.getD_eq_getElem?_getD, List.getElem?_append_left h, ← List.getD_eq_getElem?_getD]
theorem gd_new {α : Type} {l : List α} {x d : α} : (l ++ [x]).getD l.length d = x := by
  rw [List.getD_eq_getElem?_getD, List.getElem?_append_right (Nat.le_refl _), Nat.sub_self]
  rfl
theorem gd_len {α : Type} {l : List α} {x : α} : (l ++ [x]).length = l.length + 1 := by rw [List.length_append]; rfl
theorem stkI_up {X X' : zX} (h1 : X'.1.length = X.1.length + 1 ∨ X'.1.length = X.1.length) (h2 : ∀ k : Nat, k < X.1.length → X'.1.getD k (-1) = X.1.getD k (-1) ∧ X'.2.1.getD k 0 = X.2.1.getD k 0) : ∀ {st : List Int}, stkI X st → stkI X' st := by
  intro st
  induction st with
  | nil => intro _; trivial
  | cons s st ih =>
    intro ⟨⟨a1, a2, a3, a4⟩, a5⟩
    obtain ⟨b1, b2⟩ := h2 s.toNat (by omega)
    exact ⟨⟨a1, by omega, b1.trans a3, b2.trans a4⟩, ih a5⟩
/-- a scope is opened -/
theorem txI_open {X : zX} {st : List Int} (h : txI X) (hs : stkI X st) (h8 : ¬ X.1.length = 8) (h5 : st.length ≤ 5) : txI (X.1 ++ [st.headD (-1)], X.2.1 ++ [((st.length : Nat) : Int)], X.2.2) ∧ stkI (X.1 ++ [st.headD (-1)], X.2.1 ++ [((st.length : Nat) : Int)], X.2.2) (((X.1.length : Nat) : Int) :: st) := by
  obtain ⟨t1, t2, t3, t4, t5⟩ := h
  have e2 : (X.2.1 ++ [((st.length : Nat) : Int)]).getD X.1.length 0 = ((st.length : Nat) : Int) := by rw [← t1]; exact gd_new
  have hold : ∀ k : Nat, k < X.1.length → (X.1 ++ [st.headD (-1)]).getD k (-1) = X.1.getD k (-1) ∧ (X.2.1 ++ [((st.length : Nat) : Int)]).getD k 0 = X.2.1.getD k 0 := fun k hk => ⟨gd_old hk, gd_old (by omega)⟩
  refine ⟨⟨by rw [gd_len, gd_len, t1], by rw [gd_len]; omega, t3, fun k hk => ?_, fun G hG => ?_⟩, ⟨⟨by omega, by rw [gd_len]; omega, ?_, ?_⟩, ?_⟩⟩
  · have hk' : k < X.1.length + 1 := by rw [← gd_len (x := st.headD (-1))]; exact hk
    by_cases q : k < X.1.length
    · obtain ⟨a1, a2, a3⟩ := t4 k q
      rw [(hold k q).1, (hold k q).2]
      refine ⟨?_, a2, a3⟩
      rcases a1 with w | ⟨w1, w2, w3⟩
      · exact Or.inl w
      · exact Or.inr ⟨w1, w2, by rw [(hold _ (by omega)).2]; exact w3⟩
    · have ek : k = X.1.length := by omega
      subst ek
      rw [gd_new, e2]
      cases st with
      | nil => exact ⟨Or.inl ⟨rfl, rfl⟩, by show (0 : Int) ≤ ((0 : Nat) : Int); omega, by show ((0 : Nat) : Int) ≤ 5; omega⟩
      | cons s st =>
        obtain ⟨⟨b1, b2, b3, b4⟩, b5⟩ := hs
        rw [List.length_cons] at h5 ⊢
        refine ⟨Or.inr ⟨b1, b2, ?_⟩, by omega, by omega⟩
        show ((st.length + 1 : Nat) : Int) = (X.2.1 ++ [((st.length + 1 : Nat) : Int)]).getD s.toNat 0 + 1
        rw [gd_old (by omega), b4]
        omega
  · obtain ⟨⟨c1, c2⟩, c3⟩ := t5 G hG
    exact ⟨⟨c1, by rw [gd_len]; omega⟩, c3⟩
  · show (X.1 ++ [st.headD (-1)]).getD ((X.1.length : Nat) : Int).toNat (-1) = st.headD (-1)
    rw [Int.toNat_natCast]
    exact gd_new
  · show (X.2.1 ++ [((st.length : Nat) : Int)]).getD ((X.1.length : Nat) : Int).toNat 0 = ((st.length : Nat) : Int)
    rw [Int.toNat_natCast]
    exact e2
  · exact stkI_up (Or.inl gd_len) hold hs
/-- a given one more -/
theorem txI_given {X : zX} {st : List Int} {s : Int} {rows : List (List Int)} (h : txI X) (hs : stkI X (s :: st)) (h24 : ¬ X.2.2.length = 24) (h1 : 1 ≤ rows.length ∧ rows.length ≤ 5) (h2 : ∀ r, r ∈ rows → rwk r) : txI (X.1, X.2.1, X.2.2 ++ [(s, rows)]) ∧ stkI (X.1, X.2.1, X.2.2 ++ [(s, rows)]) (s :: st) := by
  obtain ⟨t1, t2, t3, t4, t5⟩ := h
  refine ⟨⟨t1, t2, by rw [gd_len]; omega, t4, fun G hG => ?_⟩, stkI_up (X := X) (X' := (X.1, X.2.1, X.2.2 ++ [(s, rows)])) (Or.inr rfl) (fun k _ => ⟨rfl, rfl⟩) hs⟩
  rcases List.mem_append.mp hG with w | w
  · exact t5 G w
  · rw [List.mem_singleton] at w
    subst w
    exact ⟨⟨hs.1.1, hs.1.2.1⟩, h1, h2⟩
theorem rdX_ok {D : List Int} : ∀ {k a : Nat} {X : zX} {st : List Int}, txI X → stkI X st → st.length ≤ 6 → a ≤ D.length → (rdX D k a X st).2.1 ≤ D.length ∧ ((rdX D k a X st).1 = true → txI (rdX D k a X st).2.2) := by
  intro k
  induction k with
  | zero => intro a X st hX hs h6 ha; exact ⟨ha, fun w => (by cases w)⟩
  | succ k ih =>
    intro a X st hX hs h6 ha
    unfold rdX
    by_cases q1 : tpN D a = 123
    · rw [if_pos q1]
      have hlt := tpN_lt (D := D) (a := a) (by rw [q1]; decide)
      by_cases q2 : X.1.length = 8 ∨ 5 < st.length
      · rw [if_pos q2]
        exact ⟨ha, fun w => (by cases w)⟩
      · rw [if_neg q2]
        obtain ⟨o1, o2⟩ := txI_open hX hs (fun w => q2 (Or.inl w)) (by have : ¬ 5 < st.length := fun w => q2 (Or.inr w); omega)
        exact ih o1 o2 (by rw [List.length_cons]; have : ¬ 5 < st.length := fun w => q2 (Or.inr w); omega) (by omega)
    · rw [if_neg q1]
      cases st with
      | nil => exact ⟨ha, fun w => (by cases w)⟩
      | cons s st' =>
        dsimp only
        by_cases q2 : tpN D a = 125
        · rw [if_pos q2]
          have hlt := tpN_lt (D := D) (a := a) (by rw [q2]; decide)
          cases st' with
          | nil => exact ⟨by show a + 1 ≤ D.length; omega, fun _ => hX⟩
          | cons s' st2 =>
            rw [List.length_cons] at h6
            exact ih hX hs.2 (by omega) (by omega)
        · rw [if_neg q2]
          by_cases q3 : X.2.2.length = 24
          · rw [if_pos q3]
            exact ⟨ha, fun w => (by cases w)⟩
          · rw [if_neg q3]
            have hG := rdG_ok (D := D) (a := a) ha
            by_cases q4 : (rdG D a).1 = false
            · rw [if_pos q4]
              exact ⟨hG.1, fun w => (by cases w)⟩
            · rw [if_neg q4]
              have qt : (rdG D a).1 = true := by
                cases h : (rdG D a).1 with
                | true => rfl
                | false => exact absurd h q4
              obtain ⟨g1, g2, g3⟩ := hG.2 qt
              obtain ⟨o1, o2⟩ := txI_given hX hs q3 g2 g3
              exact ih o1 o2 h6 hG.1
theorem txI_nil : txI ([], [], []) := ⟨rfl, by show 0 ≤ 8; omega, by show 0 ≤ 24; omega, fun k hk => absurd hk (by simp), fun G hG => (by cases hG)⟩
theorem rdTx_ok {D : List Int} : (rdTx D).2.1 ≤ D.length ∧ ((rdTx D).1 = true → txI (rdTx D).2.2) := rdX_ok txI_nil trivial (by show 0 ≤ 6; omega) (Nat.zero_le _)
theorem txI_tok {X : zX} (h : txI X) : tok (txT X) := by
  obtain ⟨t1, t2, t3, t4, t5⟩ := h
  refine ⟨by show (0 : Int) ≤ ((X.1.length : Nat) : Int); omega, by show ((X.1.length : Nat) : Int) ≤ 8; omega, by show (0 : Int) ≤ ((X.2.2.length : Nat) : Int); omega, by show ((X.2.2.length : Nat) : Int) ≤ 24; omega, fun k k0 k1 => ?_, fun g g0 g1 => ?_⟩
  · have k1' : k < ((X.1.length : Nat) : Int) := k1
    obtain ⟨a1, a2, a3⟩ := t4 k.toNat (by omega)
    refine ⟨?_, a2, a3⟩
    rcases a1 with w | ⟨w1, w2, w3⟩
    · exact Or.inl w
    · exact Or.inr ⟨w1, by show X.1.getD k.toNat (-1) < k; omega, w3⟩
  · have g1' : g < ((X.2.2.length : Nat) : Int) := g1
    have hlt : g.toNat < X.2.2.length := by omega
    have eG : txG X g = X.2.2[g.toNat] := by
      unfold txG
      rw [List.getD_eq_getElem?_getD, List.getElem?_eq_getElem hlt]
      rfl
    obtain ⟨⟨c1, c2⟩, ⟨c3, c4⟩, c5⟩ := t5 _ (List.getElem_mem hlt)
    rw [← eG] at c1 c2 c3 c4 c5
    refine ⟨c1, c2, by show 0 ≤ (((txG X g).2.length : Nat) : Int) - 1; omega, by show (((txG X g).2.length : Nat) : Int) - 1 ≤ 4; omega, fun i hi => ?_⟩
    have hi' : ((i : Nat) : Int) ≤ (((txG X g).2.length : Nat) : Int) - 1 := hi
    show rwk ((txG X g).2.getD i [])
    rw [List.getD_eq_getElem?_getD, List.getElem?_eq_getElem (show i < (txG X g).2.length by omega)]
    exact c5 _ (List.getElem_mem _)
