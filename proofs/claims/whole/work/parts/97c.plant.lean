/-! A forest grows; what was remembered, while it grows. -/
def pgF (b : Bool) (nb fb : Int) : List (Nat × Int) := (if b = true then [(7013, 0)] else []) ++ [(6000, nb), (6001, nb), (3001, fb), (3002, fb), (0, 243), (1, 243), (9008, 0), (9011, 0), (9012, 0), (9014, 0)]
def fok (nb fb : Int) (σ : jS) : Prop := 0 ≤ rs σ 6000 nb ∧ rs σ 6000 nb * 8 ≤ rl σ 6001 nb ∧ gr3 (rl σ 6001 nb) ∧ 0 ≤ rs σ 3002 fb ∧ rs σ 3002 fb ≤ 100 * rs σ 6000 nb ∧ rs σ 3002 fb ≤ rl σ 3001 fb ∧ 1 ≤ rl σ 3001 fb
/-- a forest has k nodes more -/
def fgr (pb : Bool) (nb fb k : Int) (σ σ' : jS) : Prop := cq (pgF pb nb fb) σ σ' ∧ rs σ' 6000 nb = rs σ 6000 nb + k ∧ fok nb fb σ' ∧ (∀ i, 0 ≤ i → i < rs σ 6000 nb * 8 → ra σ' 6001 nb i = ra σ 6001 nb i) ∧ rs σ 3002 fb ≤ rs σ' 3002 fb ∧ (∀ i, 0 ≤ i → i < rs σ 3002 fb → ra σ' 3001 fb i = ra σ 3001 fb i)
/-- what is read of what was remembered while trees are planted -/
def memQ (σ : jS) (M : zM) : Prop := ((M.length : Nat) : Int) ≤ rs σ 5000 0 ∧ M.length ≤ 40 ∧ (∀ j, (h : j < M.length) → ra σ 5001 0 j = ((M[j]).2.2.length : Nat) ∧ ra σ 5002 0 j = memL M j ∧ (M[j]).2.2.length ≤ 200 ∧ treeW σ 0 0 (memL M j) 0 [(-1, -1)] (M[j]).2.2 ∧ memO (M[j]).2.2) ∧ memL M M.length ≤ rs σ 6000 0 ∧ fok 0 0 σ
section ZPr
variable {n : Nat} {σ σ1 σ2 : jS} {pb : Bool} {nb fb base : Int} {M : zM} {g : zH} {N : Int} {β : List (Int × Int)}
theorem fgr.rf (h : fok nb fb σ) : fgr pb nb fb 0 σ σ := ⟨cq.rf _ σ, by omega, h, fun _ _ _ => rfl, Int.le_refl _, fun _ _ _ => rfl⟩
theorem fgr.tr {k j : Int} (h : fgr pb nb fb k σ σ1) (h' : fgr pb nb fb j σ1 σ2) (k0 : 0 ≤ k) : fgr pb nb fb (k + j) σ σ2 := by
  obtain ⟨a1, a2, a3, a4, a5, a6⟩ := h
  obtain ⟨b1, b2, b3, b4, b5, b6⟩ := h'
  exact ⟨a1.tr b1, by omega, b3, fun i i0 i1 => (b4 i i0 (by omega)).trans (a4 i i0 i1), by omega, fun i i0 i1 => (b6 i i0 (by omega)).trans (a6 i i0 i1)⟩
theorem fgr.up {k : Int} (h : fgr false nb fb k σ σ1) : fgr pb nb fb k σ σ1 := ⟨h.1.mo (by cases pb <;> simp [pgF]), h.2⟩
theorem cT.cq {l : List (Nat × Int)} (h : cT σ g N β) (e : cq l σ σ1) (hl : (((9004, 0) :: cTf).all (fun p => !l.contains p)) = true) : cT σ1 g N β := by
  have hm : ∀ p, p ∈ ((9004, 0) :: cTf : List (Nat × Int)) → l.contains p = false := fun p hp => by
    have := List.all_eq_true.mp hl p hp
    simpa using this
  obtain ⟨⟨h1, h2, h3, h4, h5, h6, h7, h8, h9, h10, h11, h12, h13, h14⟩, h15⟩ := h
  unfold cT cT0 mk0
  rw [e.nraf 9003 0 (by decide) (hm _ (by decide)), e.nraf 9004 0 (by decide) (hm _ (by decide)), e.nraf 9005 0 (by decide) (hm _ (by decide)), e.nraf 9006 0 (by decide) (hm _ (by decide)), e.nrs 9000 0 (by decide) (hm _ (by decide)), e.nrs 9001 0 (by decide) (hm _ (by decide)), e.nrl 9003 0 (by decide) (hm _ (by decide)), e.nrl 9004 0 (by decide) (hm _ (by decide)), e.nrl 9005 0 (by decide) (hm _ (by decide)), e.nrl 9006 0 (by decide) (hm _ (by decide))]
  exact ⟨⟨h1.cq e, h2, h3, h4, h5, h6, h7, h8, h9, h10, h11, h12, h13, h14⟩, h15⟩
theorem memL_s {j : Nat} (h : j < M.length) : memL M (j + 1) = memL M j + ((M[j]).2.2.length : Nat) := by
  unfold memL
  rw [List.take_succ, List.getElem?_eq_getElem h, List.map_append, List.sum_append]
  show (((_ + ([(M[j]).2.2.length].sum) : Nat)) : Int) = _
  rw [List.sum_cons, List.sum_nil]
  omega
theorem memL_mono : ∀ (d j : Nat), j + d ≤ M.length → memL M j ≤ memL M (j + d) := by
  intro d
  induction d with
  | zero => intro j _; exact Int.le_refl _
  | succ d ih =>
    intro j h
    have h1 := ih j (by omega)
    have h2 := memL_s (M := M) (j := j + d) (by omega)
    rw [show j + (d + 1) = j + d + 1 by omega]
    omega
theorem memL_0 (j : Nat) : 0 ≤ memL M j := by unfold memL; omega
theorem memL_at {j : Nat} (h : j < M.length) : memL M j + ((M[j]).2.2.length : Nat) ≤ memL M M.length := by
  have h1 := memL_s h
  have h2 := memL_mono (M := M) (M.length - (j + 1)) (j + 1) (by omega)
  rw [show j + 1 + (M.length - (j + 1)) = M.length by omega] at h2
  omega
theorem memQ.fgr {k : Int} (h : memQ σ M) (e : fgr pb nb fb k σ σ1) (hf : (fb = 0 ∧ nb = 0) ∨ (fb = 1 ∧ nb = 2)) (k0 : 0 ≤ k) : memQ σ1 M := by
  obtain ⟨h1, h2, h3, h4, h5⟩ := h
  obtain ⟨a1, a2, a3, a4, a5, a6⟩ := e
  have e50 : rs σ1 5000 0 = rs σ 5000 0 := a1.nrs 5000 0 (by decide) (by cases pb <;> simp [pgF])
  have e51 : ra σ1 5001 0 = ra σ 5001 0 := a1.nraf 5001 0 (by decide) (by cases pb <;> simp [pgF])
  have e52 : ra σ1 5002 0 = ra σ 5002 0 := a1.nraf 5002 0 (by decide) (by cases pb <;> simp [pgF])
  unfold memQ
  rw [e50, e51, e52]
  rcases hf with ⟨w, w2⟩ | ⟨w, w2⟩
  · subst w
    subst w2
    refine ⟨h1, h2, fun j hj => ?_, by omega, a3⟩
    obtain ⟨c1, c2, c3, c4, c5⟩ := h3 j hj
    refine ⟨c1, c2, c3, treeW_up a6 a5 (fun i i0 i1 => a4 i ?_ ?_) c4, c5⟩
    · have := memL_0 (M := M) j
      omega
    · have := memL_at hj
      omega
  · subst w
    subst w2
    have e60 : rs σ1 6000 0 = rs σ 6000 0 := a1.nrs 6000 0 (by decide) (by cases pb <;> decide)
    have e61 : ra σ1 6001 0 = ra σ 6001 0 := a1.nraf 6001 0 (by decide) (by cases pb <;> decide)
    have e31 : ra σ1 3001 0 = ra σ 3001 0 := a1.nraf 3001 0 (by decide) (by cases pb <;> decide)
    have e32 : rs σ1 3002 0 = rs σ 3002 0 := a1.nrs 3002 0 (by decide) (by cases pb <;> decide)
    unfold fok at h5 ⊢
    rw [e60, e32, a1.nrl 6001 0 (by decide) (by cases pb <;> decide), a1.nrl 3001 0 (by decide) (by cases pb <;> decide)]
    refine ⟨h1, h2, fun j hj => ?_, h4, h5⟩
    obtain ⟨c1, c2, c3, c4, c5⟩ := h3 j hj
    exact ⟨c1, c2, c3, treeW_cong e61 e31 e32 c4, c5⟩
theorem treeW_app : ∀ {t1 t2 : List zN} {p : Int} {st : List (Int × Int)}, treeW σ nb fb base p st (t1 ++ t2) ↔ treeW σ nb fb base p st t1 ∧ treeW σ nb fb base (p + (t1.length : Nat)) (stW p st t1) t2 := by
  intro t1
  induction t1 with
  | nil =>
    intro t2 p st
    show treeW σ nb fb base p st t2 ↔ True ∧ treeW σ nb fb base (p + ((0 : Nat) : Int)) st t2
    rw [show p + ((0 : Nat) : Int) = p by omega]
    exact ⟨fun w => ⟨trivial, w⟩, fun w => w.2⟩
  | cons z t1 ih =>
    intro t2 p st
    show (forN σ nb fb (base + p) z (st.headD (-1, -1)) ∧ treeW σ nb fb base (p + 1) _ (t1 ++ t2)) ↔ (forN σ nb fb (base + p) z (st.headD (-1, -1)) ∧ treeW σ nb fb base (p + 1) _ t1) ∧ treeW σ nb fb base (p + (((z :: t1).length : Nat) : Int)) (stW (p + 1) _ t1) t2
    rw [ih, List.length_cons, show p + ((t1.length + 1 : Nat) : Int) = p + 1 + ((t1.length : Nat) : Int) by omega]
    exact ⟨fun w => ⟨⟨w.1, w.2.1⟩, w.2.2⟩, fun w => ⟨w.1.1, w.1.2, w.2⟩⟩
theorem treeW_full : ∀ {t : List zN} {p : Int} {us st : List (Int × Int)}, rdA (t.map arZ) us.length = some [] → treeW σ nb fb base p us t → treeW σ nb fb base p (us ++ st) t := by
  intro t
  induction t with
  | nil => intro _ _ _ _ _; trivial
  | cons z t ih =>
    intro p us st h w
    cases us with
    | nil => exact absurd h (by unfold rdA; intro w; cases w)
    | cons u us =>
      refine ⟨w.1, ?_⟩
      show treeW σ nb fb base (p + 1) ((List.range z.2.2.2.2.2.1.toNat).map (fun k : Nat => (p, (k : Int))) ++ (us ++ st)) t
      rw [← List.append_assoc]
      refine ih ?_ w.2
      rw [List.length_append, List.length_map, List.length_range, Nat.add_comm]
      exact h
theorem stW_hd {u u' : Int × Int} {p : Int} {st : List (Int × Int)} : ∀ {l : List zN}, ¬ l = [] → stW p (u :: st) l = stW p (u' :: st) l := by
  intro l h
  cases l with
  | nil => exact absurd rfl h
  | cons z l => rfl
theorem memT_at {j : Nat} (h : j < M.length) : memT M j = (M[j]).2.2 := by
  unfold memT
  rw [List.getElem?_eq_getElem h]
  rfl
end ZPr
