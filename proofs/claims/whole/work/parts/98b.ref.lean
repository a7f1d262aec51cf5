/-! The reference's trees stay; how many nodes they have. -/
section ZNb
variable {n : Nat} {σ σ1 σ2 : jS} {L L' : Int} {M : zM}
theorem nRs_stys : ∀ {t : List zI} {ns : List Int}, nRs L σ ns t → stys L σ ns := by
  intro t
  induction t with
  | nil =>
    intro ns h
    cases ns with
    | nil => exact fun n hn => by cases hn
    | cons n ns => exact False.elim h
  | cons y t ih =>
    intro ns h
    cases ns with
    | nil => exact fun n hn => by cases hn
    | cons n ns =>
      intro m hm
      cases y with
      | inl z =>
        obtain ⟨c1, c2⟩ := h
        rcases List.mem_cons.mp hm with w | w
        · rw [w]; exact c1.lt
        · exact ih c2 m (List.mem_append_right _ w)
      | inr j =>
        obtain ⟨c1, c2⟩ := h
        rcases List.mem_cons.mp hm with w | w
        · rw [w]; exact Or.inl c1.2.1
        · exact ih c2 m w
theorem nN_K (e : ndK L σ σ1) {m : Int} {z : zN} (h : nN L σ m z) (hk : stys L σ (kidL σ m z.2.2.2.2.2.1.toNat)) : nN L σ1 m z ∧ kidL σ1 m z.2.2.2.2.2.1.toNat = kidL σ m z.2.2.2.2.2.1.toNat := by
  have hlt := h.lt
  obtain ⟨h1, h2, h3, h4, h5, h6, h7, ⟨h8, h8b⟩, h9, h10⟩ := h
  have ek := kidL_K e hlt (k := z.2.2.2.2.2.1.toNat) (by omega)
  have en : ∀ F, F ∈ ndc → ra σ1 F 0 m = ra σ F 0 m := fun F hF => e.2.2.2.1 F hF m hlt
  refine ⟨⟨h1, ?_, ?_, ?_, ?_, ?_, ?_, ⟨h8, h8b⟩, ?_, ?_⟩, ek⟩
  · rw [en 1052 (by decide)]; exact h2
  · rw [en 1053 (by decide)]; exact h3
  · rw [en 1054 (by decide)]; exact h4
  · rw [en 1055 (by decide)]; exact h5
  · rw [en 1056 (by decide)]; exact h6
  · rw [en 1057 (by decide)]; exact h7
  · rw [en 1059 (by decide), ek, sumA_K e hk]; exact h9
  · cases hz : z.2.2.2.2.2.2.2 with
    | none =>
      rw [hz] at h10
      obtain ⟨a1, a2, a3⟩ := h10
      refine ⟨a1, by rw [en 1060 (by decide)]; exact a2, fun k hk => ?_⟩
      rw [ek] at hk
      exact a3 k hk
    | some r =>
      rw [hz] at h10
      obtain ⟨a1, a2, a3⟩ := h10
      have e1 := e.1
      have e2 := e.2.1
      refine ⟨by omega, by rw [en 1061 (by decide)]; exact a2, fun hr => ?_⟩
      obtain ⟨b1, b2, b3⟩ := a3 hr
      rw [en 1060 (by decide)]
      refine ⟨b1, by omega, fun j hj => ?_⟩
      rw [e.2.2.2.2.2.1 _ (by omega)]
      exact b3 j hj
theorem nRs_K (e : ndK L σ σ1) : ∀ {t : List zI} {ns : List Int}, nRs L σ ns t → nRs L σ1 ns t := by
  intro t
  induction t with
  | nil =>
    intro ns h
    cases ns with
    | nil => trivial
    | cons n ns => exact False.elim h
  | cons y t ih =>
    intro ns h
    cases ns with
    | nil => exact False.elim h
    | cons n ns =>
      cases y with
      | inl z =>
        obtain ⟨c1, c2⟩ := h
        have hs := nRs_stys c2
        obtain ⟨d1, d2⟩ := nN_K e c1 (fun m hm => hs m (List.mem_append_left _ hm))
        refine ⟨d1, ?_⟩
        rw [d2]
        exact ih c2
      | inr j =>
        obtain ⟨⟨c1, c2, c3, c4⟩, c5⟩ := h
        have e1 := e.1
        have e3 := e.2.2.1
        refine ⟨⟨c1, by omega, by omega, ?_⟩, ih c5⟩
        rw [(e.2.2.2.2.2.2 _ c3).2.2.1]
        exact c4
theorem nN.mo {m : Int} {z : zN} (h : nN L σ m z) (hL : L ≤ L') : nN L' σ m z := by
  obtain ⟨h1, h2, h3, h4, h5, h6, h7, h8, h9, h10⟩ := h
  refine ⟨h1, h2, h3, h4, h5, h6, h7, h8, h9, ?_⟩
  cases hz : z.2.2.2.2.2.2.2 with
  | none => rw [hz] at h10; exact ⟨⟨h10.1.1, by have := h10.1.2; omega⟩, h10.2⟩
  | some r => rw [hz] at h10; exact h10
theorem nRs_mo (hL : L ≤ L') : ∀ {t : List zI} {ns : List Int}, nRs L σ ns t → nRs L' σ ns t := by
  intro t
  induction t with
  | nil =>
    intro ns h
    cases ns with
    | nil => trivial
    | cons n ns => exact False.elim h
  | cons y t ih =>
    intro ns h
    cases ns with
    | nil => exact False.elim h
    | cons n ns =>
      cases y with
      | inl z => exact ⟨h.1.mo hL, ih h.2⟩
      | inr j => exact ⟨h.1, ih h.2⟩
theorem mMem.K (h : mMem σ M) (e : ndK L σ σ1) (hL : 8200 ≤ L) (h63 : rs σ1 1063 0 = rs σ 1063 0) (h65 : rs σ1 1065 0 = rs σ 1065 0) (h70 : rs σ1 1070 0 = rs σ 1070 0) : mMem σ1 M := by
  obtain ⟨h1, h2, h3, h4, h5, h6, h7⟩ := h
  unfold mMem
  rw [h63, h65, h70]
  refine ⟨h1, h2, fun j hj => ?_, h4, h5, h6, fun m m0 m1 => ?_⟩
  rotate_left
  · rw [h63] at m1 ⊢
    obtain ⟨k1, k2⟩ := h7 m m0 m1
    rw [e.2.2.2.1 1057 (by decide) m (Or.inl m1)]
    refine ⟨k1, fun j j0 j1 => ?_⟩
    rw [e.2.2.2.2.1 m j (Or.inl m1) j0 (by omega)]
    exact k2 j j0 j1
  obtain ⟨c1, c2, c3, c4, c5, c6⟩ := h3 j hj
  obtain ⟨d1, d2, d3, d4⟩ := e.2.2.2.2.2.2 ((j : Nat) : Int) (by omega)
  rw [d1, d2, d3]
  refine ⟨c1, c2, c3, fun p hp => ?_, c5, ?_⟩
  · rw [d4 _ (by omega)]
    exact c4 p hp
  · by_cases q : (M[j]).2.2 = []
    · rw [if_pos q] at c6 ⊢
      exact c6
    · rw [if_neg q] at c6 ⊢
      exact nRs_K (e.mo hL) c6
/-- the root of a remembered tree -/
theorem mMem_root (h : mMem σ M) {m : Nat} (hm : ¬ memT M m = []) : m < M.length ∧ nRs 8200 σ [ra σ 1069 0 ((m : Nat) : Int)] ((memT M m).map Sum.inl) ∧ (memT M m).length ≤ 200 := by
  have hlt := (memT_ne2 (M' := []) hm).1
  obtain ⟨h1, h2, h3, -⟩ := h
  obtain ⟨c1, c2, c3, c4, c5, c6⟩ := h3 m hlt
  rw [← memT_at hlt] at c5 c6
  rw [if_neg hm] at c6
  exact ⟨hlt, c6, c5⟩
theorem expT_inls (M : zM) : ∀ l : List zN, expT M (l.map Sum.inl) = l := by
  intro l
  induction l with
  | nil => rfl
  | cons z l ih =>
    rw [List.map_cons, expT_inl, ih]
/-- as many nodes as there are in all -/
theorem nAll (h : mMem σ M) : ∀ {t : List zI} {ns : List Int}, nRs L σ ns t → (∀ m : Nat, .inr m ∈ t → ¬ memT M m = []) → sumA σ ns = ((expT M t).length : Nat) := by
  -- first those without remembered ones
  have inls : ∀ (L : Int) {t : List zN} {ns : List Int}, nRs L σ ns (t.map Sum.inl) → sumA σ ns = (t.length : Nat) := by
    intro L t
    induction t with
    | nil =>
      intro ns h
      cases ns with
      | nil => rfl
      | cons n ns => exact False.elim h
    | cons z t ih =>
      intro ns h
      cases ns with
      | nil => exact False.elim h
      | cons n ns =>
        obtain ⟨c1, c2⟩ := h
        have := ih c2
        rw [sumA_app] at this
        rw [sumA_cons, c1.2.2.2.2.2.2.2.2.1, List.length_cons]
        omega
  intro t
  induction t with
  | nil =>
    intro ns h _
    cases ns with
    | nil => rfl
    | cons n ns => exact False.elim h
  | cons y t ih =>
    intro ns hh hi
    have hi2 : ∀ m : Nat, .inr m ∈ t → ¬ memT M m = [] := fun m hm => hi m (List.mem_cons_of_mem _ hm)
    cases ns with
    | nil => exact False.elim hh
    | cons n ns =>
      cases y with
      | inl z =>
        obtain ⟨c1, c2⟩ := hh
        have := ih c2 hi2
        rw [sumA_app] at this
        rw [sumA_cons, c1.2.2.2.2.2.2.2.2.1, expT_inl, List.length_cons]
        omega
      | inr m =>
        obtain ⟨c1, c2⟩ := hh
        have h1 := ih c2 hi2
        have h2 := inls 8200 (mMem_root h (hi m List.mem_cons_self)).2.1
        rw [sumA_cons] at h2
        have e0 : sumA σ [] = 0 := rfl
        rw [sumA_cons, expT_inr, List.length_append, c1.2.2.2]
        omega
/-- with what was remembered in its place -/
theorem nRs_exp (h : mMem σ M) (hL : 8200 ≤ L) : ∀ {t : List zI} {ns : List Int}, nRs L σ ns t → (∀ m : Nat, .inr m ∈ t → ¬ memT M m = []) → nRs L σ ns ((expT M t).map Sum.inl) := by
  intro t
  induction t with
  | nil =>
    intro ns h _
    exact h
  | cons y t ih =>
    intro ns hh hi
    have hi2 : ∀ m : Nat, .inr m ∈ t → ¬ memT M m = [] := fun m hm => hi m (List.mem_cons_of_mem _ hm)
    cases ns with
    | nil => exact False.elim hh
    | cons n ns =>
      cases y with
      | inl z =>
        obtain ⟨c1, c2⟩ := hh
        rw [expT_inl, List.map_cons]
        exact ⟨c1, ih c2 hi2⟩
      | inr m =>
        obtain ⟨c1, c2⟩ := hh
        have h2 := (mMem_root h (hi m List.mem_cons_self)).2.1
        rw [expT_inr, List.map_append, c1.2.2.2]
        exact nRs_app (n1 := [_]) (nRs_mo hL h2) (ih c2 hi2)
end ZNb
