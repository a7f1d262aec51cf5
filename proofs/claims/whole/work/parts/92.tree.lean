/-! A tree's rows: they stay where a forest grows; one more. -/
section ZTw
variable {σ σ1 : jS} {nb fb base : Int}
theorem forN_up {r : Int} {z : zN} {u : Int × Int} (h : ∀ i, r * 8 ≤ i → i < (r + 1) * 8 → ra σ1 6001 nb i = ra σ 6001 nb i) (h2 : ∀ i, 0 ≤ i → i < rs σ 3002 fb → ra σ1 3001 fb i = ra σ 3001 fb i) (h3 : rs σ 3002 fb ≤ rs σ1 3002 fb) (w : forN σ nb fb r z u) : forN σ1 nb fb r z u := by
  obtain ⟨⟨y1, y2⟩, z0, z1, z2, z3, z4, z5, z7, z6⟩ := w
  have e : ∀ c : Int, 0 ≤ c → c < 8 → ra σ1 6001 nb (r * 8 + c) = ra σ 6001 nb (r * 8 + c) := fun c c0 c1 => h _ (by omega) (by omega)
  unfold forN
  rw [e 0 (by decide) (by decide), e 1 (by decide) (by decide), e 2 (by decide) (by decide), e 3 (by decide) (by decide), e 4 (by decide) (by decide), e 5 (by decide) (by decide), e 6 (by decide) (by decide), e 7 (by decide) (by decide)]
  refine ⟨⟨y1, by omega⟩, z0, z1, z2, z3, z4, z5, z7, fun q => ?_⟩
  obtain ⟨x1, x2, x3⟩ := z6 q
  exact ⟨x1, by omega, fun j hj => by rw [h2 _ (by omega) (by omega)]; exact x3 j hj⟩
theorem treeW_up (h2 : ∀ i, 0 ≤ i → i < rs σ 3002 fb → ra σ1 3001 fb i = ra σ 3001 fb i) (h3 : rs σ 3002 fb ≤ rs σ1 3002 fb) : ∀ {t : List zN} {p : Int} {st : List (Int × Int)}, (∀ i, (base + p) * 8 ≤ i → i < (base + p + (t.length : Nat)) * 8 → ra σ1 6001 nb i = ra σ 6001 nb i) → treeW σ nb fb base p st t → treeW σ1 nb fb base p st t := by
  intro t
  induction t with
  | nil => intro _ _ _ _; trivial
  | cons z t ih =>
    intro p st h w
    obtain ⟨w1, w2⟩ := w
    rw [List.length_cons] at h
    refine ⟨forN_up (fun i i0 i1 => h i i0 (by omega)) h2 h3 w1, ih (fun i i0 i1 => h i (by omega) (by omega)) w2⟩
/-- the places that are open behind some rows -/
def stW : Int → List (Int × Int) → List zN → List (Int × Int)
  | _, st, [] => st
  | p, st, z :: t => stW (p + 1) ((List.range z.2.2.2.2.2.1.toNat).map (fun k : Nat => (p, (k : Int))) ++ st.tail) t
theorem treeW_snoc {z : zN} : ∀ {t : List zN} {p : Int} {st : List (Int × Int)}, treeW σ nb fb base p st (t ++ [z]) ↔ treeW σ nb fb base p st t ∧ forN σ nb fb (base + (p + (t.length : Nat))) z ((stW p st t).headD (-1, -1)) := by
  intro t
  induction t with
  | nil =>
    intro p st
    show (forN σ nb fb (base + p) z (st.headD (-1, -1)) ∧ True) ↔ True ∧ forN σ nb fb (base + (p + ((0 : Nat) : Int))) z (st.headD (-1, -1))
    rw [show p + ((0 : Nat) : Int) = p by omega]
    exact ⟨fun w => ⟨trivial, w.1⟩, fun w => ⟨w.2, trivial⟩⟩
  | cons y t ih =>
    intro p st
    show (forN σ nb fb (base + p) y (st.headD (-1, -1)) ∧ treeW σ nb fb base (p + 1) _ (t ++ [z])) ↔ (forN σ nb fb (base + p) y (st.headD (-1, -1)) ∧ treeW σ nb fb base (p + 1) _ t) ∧ forN σ nb fb (base + (p + (((y :: t).length : Nat) : Int))) z ((stW (p + 1) _ t).headD (-1, -1))
    rw [ih, List.length_cons, show p + ((t.length + 1 : Nat) : Int) = p + 1 + ((t.length : Nat) : Int) by omega]
    exact ⟨fun w => ⟨⟨w.1, w.2.1⟩, w.2.2⟩, fun w => ⟨w.1.1, w.1.2, w.2⟩⟩
/-- the places that are open behind some rows of the plan -/
def stP : Int → List (Int × Int) → List zI → List (Int × Int)
  | _, st, [] => st
  | p, st, i :: t => stP (p + 1) ((List.range (arI i)).map (fun k : Nat => (p, (k : Int))) ++ st.tail) t
theorem planS_snoc {y : zI} : ∀ {t : List zI} {p : Int} {st : List (Int × Int)}, planS σ p st (t ++ [y]) ↔ planS σ p st t ∧ rowI σ (p + (t.length : Nat)) y ((stP p st t).headD (-1, -1)) := by
  intro t
  induction t with
  | nil =>
    intro p st
    show (rowI σ p y (st.headD (-1, -1)) ∧ True) ↔ True ∧ rowI σ (p + ((0 : Nat) : Int)) y (st.headD (-1, -1))
    rw [show p + ((0 : Nat) : Int) = p by omega]
    exact ⟨fun w => ⟨trivial, w.1⟩, fun w => ⟨w.2, trivial⟩⟩
  | cons i t ih =>
    intro p st
    show (rowI σ p i (st.headD (-1, -1)) ∧ planS σ (p + 1) _ (t ++ [y])) ↔ (rowI σ p i (st.headD (-1, -1)) ∧ planS σ (p + 1) _ t) ∧ rowI σ (p + (((i :: t).length : Nat) : Int)) y ((stP (p + 1) _ t).headD (-1, -1))
    rw [ih, List.length_cons, show p + ((t.length + 1 : Nat) : Int) = p + 1 + ((t.length : Nat) : Int) by omega]
    exact ⟨fun w => ⟨⟨w.1, w.2.1⟩, w.2.2⟩, fun w => ⟨w.1.1, w.1.2, w.2⟩⟩
end ZTw
