/-! Whether one type becomes another: the class, pieces. -/
theorem gd_drop {l : List Int} {p : Nat} {t : Int} {l' : List Int} (h : l.drop p = t :: l') : p < l.length ∧ l.getD p 0 = t ∧ l.drop (p + 1) = l' := by
  have hp : p < l.length := Classical.byContradiction (fun w => by
    rw [List.drop_eq_nil_of_le (by omega)] at h
    cases h)
  have h2 := List.drop_eq_getElem_cons hp
  rw [h2] at h
  obtain ⟨e1, e2⟩ := List.cons.inj h
  refine ⟨hp, ?_, e2⟩
  rw [List.getD_eq_getElem?_getD, List.getElem?_eq_getElem hp]
  exact e1
section ZMv
variable {n : Nat} {σ σ1 : jS} {o : Int} {r : List Int}
theorem c_fbehind {Q : Int → jS → Prop} (hn : 3 ≤ n) (h : fT σ o r) (hr : rwk r) : ∀ (l : List Int) (k e p : Nat), r.drop p = l → p ≤ r.length → rdk l (k + e) = some [] → Q (((p + tkL l k : Nat) : Nat) : Int) σ → J n c_Flat_behind (some .int) 4 [some (jo 0 o), none, some (ji ((k : Nat) : Int)), some (ji ((p : Nat) : Int))] [] σ (qI Q) := by
  have o0 := h.1
  have hl := h.2.2.1
  have hsz := h.2.1
  have h12 := hr.2.2
  intro l
  induction l with
  | nil =>
    intro k e p hd hp hk hq
    have := rdk_le hk
    have hk0 : k = 0 := by
      have : k + e ≤ 0 := this
      omega
    subst hk0
    have hlen : r.length ≤ p := by
      have := congrArg List.length hd
      rw [List.length_drop] at this
      have : r.length - p = 0 := this
      omega
    have e0 : (((p + tkL ([] : List Int) 0 : Nat) : Nat) : Int) = ((p : Nat) : Int) := rfl
    rw [e0] at hq
    refine wp_Flat_behind_4 ⟨o0, by omega, wp_Flat_length ⟨o0, by omega, by omega, ?_⟩⟩
    rw [hsz, if_pos (by omega)]
    exact hq
  | cons t l ih =>
    intro k e p hd hp hk hq
    obtain ⟨p1, p2, p3⟩ := gd_drop hd
    refine wp_Flat_behind_4 ⟨o0, by omega, wp_Flat_length ⟨o0, by omega, by omega, ?_⟩⟩
    rw [hsz, if_neg (by omega)]
    cases k with
    | zero =>
      have e0 : (((p + tkL (t :: l) 0 : Nat) : Nat) : Int) = ((p : Nat) : Int) := rfl
      rw [e0] at hq
      rw [if_pos (by omega)]
      exact hq
    | succ k =>
      have tg : thg t := by
        rw [← p2, List.getD_eq_getElem?_getD, List.getElem?_eq_getElem p1]
        exact hr.2.1 _ (List.getElem_mem p1)
      unfold thg at tg
      have hk2 : rdk l ((k + pN t) + e) = some [] := by
        rw [show k + 1 + e = k + e + 1 by omega] at hk
        have h' : rdk l (k + e + pN t) = some [] := hk
        rw [show k + e + pN t = (k + pN t) + e by omega] at h'
        exact h'
      have hle := rdk_le hk2
      have hll : l.length + (p + 1) = r.length := by
        have := congrArg List.length p3
        rw [List.length_drop] at this
        omega
      rw [if_neg (by omega)]
      have go : ∀ v : Int, v = ((pN t : Nat) : Int) → i32 (v - 1) ∧ i32 (((k + 1 : Nat) : Int) + (v - 1)) ∧ i32 (((p : Nat) : Int) + 1) ∧ J n c_Flat_behind (some .int) 4 [some (jo 0 o), none, some (ji (((k + 1 : Nat) : Int) + (v - 1))), some (ji (((p : Nat) : Int) + 1))] [] σ (qI Q) := fun v hv => by
        rw [hv]
        refine ⟨⟨by omega, by omega⟩, ⟨by omega, by omega⟩, ⟨by omega, by omega⟩, ?_⟩
        rw [show ((k + 1 : Nat) : Int) + (((pN t : Nat) : Int) - 1) = ((k + pN t : Nat) : Int) by omega, show ((p : Nat) : Int) + 1 = ((p + 1 : Nat) : Int) by omega]
        refine ih (k + pN t) e (p + 1) p3 (by omega) hk2 ?_
        have e1 : p + tkL (t :: l) (k + 1) = p + 1 + tkL l (k + pN t) := by
          show p + (1 + tkL l (k + pN t)) = _
          omega
        rw [e1] at hq
        exact hq
      refine wp_Flat_partsAt ⟨o0, by omega, c_at h p1 ?_⟩
      rw [p2]
      by_cases q : t < 0
      · refine wp_Flat_partsOf ?_
        have ec : cc t = 103 - t := by unfold cc; rw [if_pos q]
        rw [ec, if_neg (by omega), if_neg (by omega)]
        refine go 0 ?_
        unfold pN
        rw [if_pos q]
        rfl
      · have ec : cc t = t := by unfold cc; rw [if_neg q]
        rw [ec]
        refine c_fparts (by omega) (by omega) ?_
        have e104 : (if t = 104 then (0 : Int) else ((pN t : Nat) : Int)) = ((pN t : Nat) : Int) := if_neg (by omega)
        rw [e104]
        exact go _ rfl
end ZMv
