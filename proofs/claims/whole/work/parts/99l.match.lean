/-! Whether one type becomes another, letter by letter. -/
/-- how long the first k types are -/
def tkL : List Int → Nat → Nat
  | _, 0 => 0
  | [], _ + 1 => 0
  | t :: l, k + 1 => 1 + tkL l (k + pN t)
theorem tkL_split : ∀ {l : List Int} {j k : Nat} {e : List Int}, rdk l (j + k) = some e → rdk (l.take (tkL l j)) j = some [] ∧ rdk (l.drop (tkL l j)) k = some e ∧ tkL l j ≤ l.length := by
  intro l
  induction l with
  | nil =>
    intro j k e h
    cases j with
    | zero =>
      rw [Nat.zero_add] at h
      exact ⟨rdk_0 _, h, Nat.le_refl _⟩
    | succ j =>
      rw [show j + 1 + k = j + k + 1 by omega] at h
      cases h
  | cons t l ih =>
    intro j k e h
    cases j with
    | zero =>
      rw [Nat.zero_add] at h
      exact ⟨rdk_0 _, h, Nat.zero_le _⟩
    | succ j =>
      rw [show j + 1 + k = j + k + 1 by omega] at h
      have h2 : rdk l ((j + pN t) + k) = some e := by
        have h3 : rdk l (j + k + pN t) = some e := h
        rw [show j + k + pN t = (j + pN t) + k by omega] at h3
        exact h3
      obtain ⟨a1, a2, a3⟩ := ih h2
      have e1 : tkL (t :: l) (j + 1) = tkL l (j + pN t) + 1 := by
        show 1 + tkL l (j + pN t) = _
        omega
      rw [e1, List.take_succ_cons, List.drop_succ_cons]
      exact ⟨a1, a2, by rw [List.length_cons]; omega⟩
/-- b's letters are put so that a comes out; m: what is put so far -/
def mtS : List Int → List Int → (Int → Option (List Int)) → Bool
  | [], _, _ => true
  | t :: b, a, m =>
    if t < 0 then (match m t with
      | none => mtS b (a.drop (tkL a 1)) (fun v => if v = t then some (a.take (tkL a 1)) else m v)
      | some r => decide (r = a.take (tkL a 1)) && mtS b (a.drop (tkL a 1)) m)
    else decide (a.head? = some t) && mtS b a.tail m
theorem mtS_iff : ∀ {b a : List Int} {k : Nat} {m : Int → Option (List Int)}, rdk b k = some [] → rdk a k = some [] → (∀ v r, m v = some r → Typ r) → (mtS b a m = true ↔ ∃ θ : Int → List Int, (∀ v, Typ (θ v)) ∧ (∀ v r, m v = some r → θ v = r) ∧ sbt θ b = a) := by
  intro b
  induction b with
  | nil =>
    intro a k m hb ha hm
    cases k with
    | succ k => cases hb
    | zero =>
      rw [rdk_0] at ha
      have ea : a = [] := Option.some.inj ha
      subst ea
      refine ⟨fun _ => ⟨fun v => (m v).getD [0], fun v => ?_, fun v r h => by show (m v).getD [0] = r; rw [h]; rfl, rfl⟩, fun _ => rfl⟩
      show Typ ((m v).getD [0])
      cases h : m v with
      | none => exact Typ_0
      | some r => exact hm v r h
  | cons t b ih =>
    intro a k m hb ha hm
    cases k with
    | zero => rw [rdk_0] at hb; cases hb
    | succ k =>
      have hb2 : rdk b (k + pN t) = some [] := hb
      unfold mtS
      by_cases q : t < 0
      · rw [if_pos q]
        have hb3 : rdk b k = some [] := by
          have e0 : pN t = 0 := by unfold pN; rw [if_pos q]
          rw [e0] at hb2
          exact hb2
        rw [Nat.add_comm] at ha
        obtain ⟨a1, a2, a3⟩ := tkL_split ha
        have ead := (List.take_append_drop (tkL a 1) a).symm
        have hty : Typ (a.take (tkL a 1)) := a1
        cases hmt : m t with
        | none =>
          dsimp only
          rw [ih hb3 a2 (fun v r h => by
            by_cases qv : v = t
            · rw [if_pos qv] at h
              rw [← Option.some.inj h]; exact hty
            · rw [if_neg qv] at h
              exact hm v r h)]
          constructor
          · rintro ⟨θ, h1, h2, h3⟩
            refine ⟨θ, h1, fun v r h => ?_, ?_⟩
            · by_cases qv : v = t
              · rw [qv, hmt] at h; cases h
              · exact h2 v r (by rw [if_neg qv]; exact h)
            · rw [sbt_cons_v q, h2 t _ (if_pos rfl), h3]
              exact ead.symm
          · rintro ⟨θ, h1, h2, h3⟩
            rw [sbt_cons_v q, ead] at h3
            obtain ⟨e1, e2⟩ := Typ_inj (h1 t) hty h3
            refine ⟨θ, h1, fun v r h => ?_, e2⟩
            by_cases qv : v = t
            · rw [if_pos qv] at h
              rw [qv, e1]; exact Option.some.inj h
            · rw [if_neg qv] at h
              exact h2 v r h
        | some r =>
          dsimp only
          rw [Bool.and_eq_true, decide_eq_true_iff, ih hb3 a2 hm]
          constructor
          · rintro ⟨e, θ, h1, h2, h3⟩
            refine ⟨θ, h1, h2, ?_⟩
            rw [sbt_cons_v q, h2 t r hmt, h3, e]
            exact ead.symm
          · rintro ⟨θ, h1, h2, h3⟩
            rw [sbt_cons_v q, ead] at h3
            obtain ⟨e1, e2⟩ := Typ_inj (h1 t) hty h3
            exact ⟨by rw [← e1]; exact (h2 t r hmt).symm, θ, h1, h2, e2⟩
      · rw [if_neg q, Bool.and_eq_true, decide_eq_true_iff]
        cases a with
        | nil => cases ha
        | cons s a =>
          have ha2 : rdk a (k + pN s) = some [] := ha
          by_cases qs : s = t
          · subst qs
            have hi := ih (m := m) hb2 ha2 hm
            constructor
            · rintro ⟨_, h⟩
              obtain ⟨θ, h1, h2, h3⟩ := hi.mp h
              exact ⟨θ, h1, h2, by rw [sbt_cons_c q, h3]⟩
            · rintro ⟨θ, h1, h2, h3⟩
              rw [sbt_cons_c q] at h3
              exact ⟨rfl, hi.mpr ⟨θ, h1, h2, (List.cons.inj h3).2⟩⟩
          · constructor
            · rintro ⟨h, _⟩
              exact absurd (Option.some.inj h) qs
            · rintro ⟨θ, h1, h2, h3⟩
              rw [sbt_cons_c q] at h3
              exact absurd (List.cons.inj h3).1.symm qs
/-- a type becomes another, if and only if that is so -/
theorem mtS_becm {r s : List Int} (hr : Typ r) (hs : Typ s) : mtS s r (fun _ => none) = true ↔ becm s r := by
  rw [mtS_iff (k := 1) hs hr (fun v r h => by cases h)]
  exact ⟨fun ⟨θ, h1, _, h3⟩ => ⟨θ, h1, h3⟩, fun ⟨θ, h1, h3⟩ => ⟨θ, h1, (by intro v r h; cases h), h3⟩⟩
