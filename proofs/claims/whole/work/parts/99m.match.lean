/-! Whether one type becomes another: the reference. -/
/-- a row of things from a place on -/
def rwA (σ : jS) (F : Nat) (p : Int) (l : List Int) : Prop := 0 ≤ p ∧ p + ((l.length : Nat) : Int) ≤ rl σ F 0 ∧ ∀ i : Nat, i < l.length → ra σ F 0 (p + ((i : Nat) : Int)) = l.getD i 0
theorem rdk_le : ∀ {l : List Int} {k : Nat}, rdk l k = some [] → k ≤ l.length := by
  intro l
  induction l with
  | nil =>
    intro k h
    cases k with
    | zero => exact Nat.le_refl _
    | succ k => cases h
  | cons t l ih =>
    intro k h
    cases k with
    | zero => exact Nat.zero_le _
    | succ k =>
      have := ih (k := k + pN t) h
      rw [List.length_cons]
      omega
/-- two whole types that begin alike are one -/
theorem pfx_eq {r s : List Int} (hr : Typ r) (hs : Typ s) (h : ∀ k : Nat, k < r.length → k < s.length → r.getD k 0 = s.getD k 0) : r = s := by
  have key : ∀ {r s : List Int}, Typ r → Typ s → r.length ≤ s.length → (∀ k : Nat, k < r.length → k < s.length → r.getD k 0 = s.getD k 0) → r = s := by
    intro r s hr hs hl h
    have e : r = s.take r.length := by
      refine List.ext_getElem (by rw [List.length_take]; omega) (fun k h1 h2 => ?_)
      have := h k h1 (by omega)
      rw [List.getD_eq_getElem?_getD, List.getElem?_eq_getElem h1, List.getD_eq_getElem?_getD, List.getElem?_eq_getElem (show k < s.length by omega)] at this
      rw [List.getElem_take]
      exact this
    have e2 : r ++ s.drop r.length = s ++ [] := by
      rw [List.append_nil]
      conv => lhs; lhs; rw [e]
      exact List.take_append_drop _ _
    exact (Typ_inj hr hs e2).1
  by_cases q : r.length ≤ s.length
  · exact key hr hs q h
  · exact (key hs hr (by omega) (fun k h1 h2 => (h k h2 h1).symm)).symm
section ZMt
variable {n : Nat} {σ σ1 : jS} {F G : Nat} {x y : Int} {r s : List Int}
theorem rwA.tl {p t : Int} {l : List Int} (h : rwA σ F p (t :: l)) : rwA σ F (p + 1) l := by
  obtain ⟨h1, h2, h3⟩ := h
  rw [List.length_cons] at h2
  refine ⟨by omega, by omega, fun i hi => ?_⟩
  have := h3 (i + 1) (by rw [List.length_cons]; omega)
  rw [show p + 1 + ((i : Nat) : Int) = p + ((i + 1 : Nat) : Int) by omega, this]
  rfl
theorem rwA.drop {p : Int} {l : List Int} (h : rwA σ F p l) : ∀ {k : Nat}, k ≤ l.length → rwA σ F (p + ((k : Nat) : Int)) (l.drop k) := by
  intro k hk
  obtain ⟨h1, h2, h3⟩ := h
  refine ⟨by omega, by rw [List.length_drop]; omega, fun i hi => ?_⟩
  rw [List.length_drop] at hi
  rw [show p + ((k : Nat) : Int) + ((i : Nat) : Int) = p + ((k + i : Nat) : Int) by omega, h3 (k + i) (by omega), List.getD_eq_getElem?_getD, List.getD_eq_getElem?_getD, List.getElem?_drop]
theorem rwA.take {p : Int} {l : List Int} (h : rwA σ F p l) {k : Nat} (hk : k ≤ l.length) : rwA σ F p (l.take k) := by
  obtain ⟨h1, h2, h3⟩ := h
  refine ⟨h1, by rw [List.length_take]; omega, fun i hi => ?_⟩
  rw [List.length_take] at hi
  rw [h3 i (by omega), List.getD_eq_getElem?_getD, List.getD_eq_getElem?_getD, List.getElem?_take_of_lt (by omega)]
theorem rwA.sq {l : List (Nat × Int)} {p : Int} {r : List Int} (h : rwA σ F p r) (e : sq l σ σ1) (hl : (l.contains (F, 0)) = false) : rwA σ1 F p r := by
  obtain ⟨h1, h2, h3⟩ := h
  exact ⟨h1, by rw [e.nrl]; exact h2, fun i hi => by rw [e.nra F 0 _ hl]; exact h3 i hi⟩
theorem t_behind {Q : Int → jS → Prop} (hn : 1 ≤ n) (hj : jt F = 0) (hjm : jmv F = false) (hb : rl σ F 0 ≤ 1000000) : ∀ (l : List Int) (k e : Nat) (p : Int), rdk l (k + e) = some [] → rwA σ F p l → l.length ≤ 1000 → (∀ t, t ∈ l → thg t) → Q (p + ((tkL l k : Nat) : Int)) σ → J n c_Model_behind (some .int) 4 [some (ja F 0), none, some (ji ((k : Nat) : Int)), some (ji p)] [] σ (qI Q) := by
  intro l
  induction l with
  | nil =>
    intro k e p h hr _ _ hq
    have := rdk_le h
    have hk : k = 0 := by
      have : k + e ≤ 0 := this
      omega
    subst hk
    refine wp_Model_behind_4 ?_
    rw [if_pos (by omega)]
    have e0 : p + ((tkL [] 0 : Nat) : Int) = p := by show p + ((0 : Nat) : Int) = p; omega
    rw [e0] at hq
    exact hq
  | cons t l ih =>
    intro k e p h hr hl hg hq
    cases k with
    | zero =>
      refine wp_Model_behind_4 ?_
      rw [if_pos (by omega)]
      have e0 : p + ((tkL (t :: l) 0 : Nat) : Int) = p := by show p + ((0 : Nat) : Int) = p; omega
      rw [e0] at hq
      exact hq
    | succ k =>
      have hr0 := hr
      obtain ⟨h1, h2, h3⟩ := hr
      have e3 := h3 0 (by simp)
      have e4 : ra σ F 0 p = t := by
        rw [show p + ((0 : Nat) : Int) = p by omega] at e3
        exact e3
      rw [List.length_cons] at h2 hl
      have tg := hg t List.mem_cons_self
      unfold thg at tg
      have hk2 : rdk l ((k + pN t) + e) = some [] := by
        rw [show k + 1 + e = k + e + 1 by omega] at h
        have h' : rdk l (k + e + pN t) = some [] := h
        rw [show k + e + pN t = (k + pN t) + e by omega] at h'
        exact h'
      have hle := rdk_le hk2
      refine wp_Model_behind_4 ?_
      rw [if_neg (by omega), e4]
      refine ⟨hj, h1, by omega, hn, hjm, wp_Model_partsOf ?_⟩
      have go : ∀ v : Int, v = ((pN t : Nat) : Int) → i32 (v - 1) ∧ i32 (((k + 1 : Nat) : Int) + (v - 1)) ∧ i32 (p + 1) ∧ J n c_Model_behind (some .int) 4 [some (ja F 0), none, some (ji (((k + 1 : Nat) : Int) + (v - 1))), some (ji (p + 1))] [] σ (qI Q) := fun v hv => by
        rw [hv]
        refine ⟨⟨by omega, by omega⟩, ⟨by omega, by omega⟩, ⟨by omega, by omega⟩, ?_⟩
        rw [show ((k + 1 : Nat) : Int) + (((pN t : Nat) : Int) - 1) = ((k + pN t : Nat) : Int) by omega]
        refine ih (k + pN t) e (p + 1) hk2 hr0.tl (by omega) (fun t' ht' => hg t' (List.mem_cons_of_mem _ ht')) ?_
        have e1 : p + ((tkL (t :: l) (k + 1) : Nat) : Int) = p + 1 + ((tkL l (k + pN t) : Nat) : Int) := by
          show p + ((1 + tkL l (k + pN t) : Nat) : Int) = _
          omega
        rw [e1] at hq
        exact hq
      by_cases q : 0 ≤ t
      · rw [if_pos q]
        refine ⟨q, go _ ?_⟩
        unfold pN
        rw [if_neg (by omega)]
        omega
      · rw [if_neg q]
        refine go 0 ?_
        unfold pN
        rw [if_pos (by omega)]
        rfl
end ZMt
